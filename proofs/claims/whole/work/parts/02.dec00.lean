theorem dJ6_bitCount_0f7a4_0 : decode cJ6_bitCount_0f7a4 0 = .ok (.iload_n 0, 1) := by decide +kernel
theorem dJ6_bitCount_0f7a4_1 : decode cJ6_bitCount_0f7a4 1 = .ok (.iload_n 0, 1) := by decide +kernel
theorem dJ6_bitCount_0f7a4_2 : decode cJ6_bitCount_0f7a4 2 = .ok (.iconst 1, 1) := by decide +kernel
theorem dJ6_bitCount_0f7a4_3 : decode cJ6_bitCount_0f7a4 3 = .ok (.iushr, 1) := by decide +kernel
theorem dJ6_bitCount_0f7a4_4 : decode cJ6_bitCount_0f7a4 4 = .ok (.ldc_w 265, 3) := by decide +kernel
theorem dJ6_bitCount_0f7a4_7 : decode cJ6_bitCount_0f7a4 7 = .ok (.iand, 1) := by decide +kernel
theorem dJ6_bitCount_0f7a4_8 : decode cJ6_bitCount_0f7a4 8 = .ok (.isub, 1) := by decide +kernel
theorem dJ6_bitCount_0f7a4_9 : decode cJ6_bitCount_0f7a4 9 = .ok (.istore_n 0, 1) := by decide +kernel
theorem dJ6_bitCount_0f7a4_10 : decode cJ6_bitCount_0f7a4 10 = .ok (.iload_n 0, 1) := by decide +kernel
theorem dJ6_bitCount_0f7a4_11 : decode cJ6_bitCount_0f7a4 11 = .ok (.ldc_w 266, 3) := by decide +kernel
theorem dJ6_bitCount_0f7a4_14 : decode cJ6_bitCount_0f7a4 14 = .ok (.iand, 1) := by decide +kernel
theorem dJ6_bitCount_0f7a4_15 : decode cJ6_bitCount_0f7a4 15 = .ok (.iload_n 0, 1) := by decide +kernel
theorem dJ6_bitCount_0f7a4_16 : decode cJ6_bitCount_0f7a4 16 = .ok (.iconst 2, 1) := by decide +kernel
theorem dJ6_bitCount_0f7a4_17 : decode cJ6_bitCount_0f7a4 17 = .ok (.iushr, 1) := by decide +kernel
theorem dJ6_bitCount_0f7a4_18 : decode cJ6_bitCount_0f7a4 18 = .ok (.ldc_w 266, 3) := by decide +kernel
theorem dJ6_bitCount_0f7a4_21 : decode cJ6_bitCount_0f7a4 21 = .ok (.iand, 1) := by decide +kernel
theorem dJ6_bitCount_0f7a4_22 : decode cJ6_bitCount_0f7a4 22 = .ok (.iadd, 1) := by decide +kernel
theorem dJ6_bitCount_0f7a4_23 : decode cJ6_bitCount_0f7a4 23 = .ok (.istore_n 0, 1) := by decide +kernel
theorem dJ6_bitCount_0f7a4_24 : decode cJ6_bitCount_0f7a4 24 = .ok (.iload_n 0, 1) := by decide +kernel
theorem dJ6_bitCount_0f7a4_25 : decode cJ6_bitCount_0f7a4 25 = .ok (.iload_n 0, 1) := by decide +kernel
theorem dJ6_bitCount_0f7a4_26 : decode cJ6_bitCount_0f7a4 26 = .ok (.iconst 4, 1) := by decide +kernel
theorem dJ6_bitCount_0f7a4_27 : decode cJ6_bitCount_0f7a4 27 = .ok (.iushr, 1) := by decide +kernel
theorem dJ6_bitCount_0f7a4_28 : decode cJ6_bitCount_0f7a4 28 = .ok (.iadd, 1) := by decide +kernel
theorem dJ6_bitCount_0f7a4_29 : decode cJ6_bitCount_0f7a4 29 = .ok (.ldc_w 267, 3) := by decide +kernel
theorem dJ6_bitCount_0f7a4_32 : decode cJ6_bitCount_0f7a4 32 = .ok (.iand, 1) := by decide +kernel
theorem dJ6_bitCount_0f7a4_33 : decode cJ6_bitCount_0f7a4 33 = .ok (.istore_n 0, 1) := by decide +kernel
theorem dJ6_bitCount_0f7a4_34 : decode cJ6_bitCount_0f7a4 34 = .ok (.iload_n 0, 1) := by decide +kernel
theorem dJ6_bitCount_0f7a4_35 : decode cJ6_bitCount_0f7a4 35 = .ok (.iload_n 0, 1) := by decide +kernel
theorem dJ6_bitCount_0f7a4_36 : decode cJ6_bitCount_0f7a4 36 = .ok (.bipush 8, 2) := by decide +kernel
theorem dJ6_bitCount_0f7a4_38 : decode cJ6_bitCount_0f7a4 38 = .ok (.iushr, 1) := by decide +kernel
theorem dJ6_bitCount_0f7a4_39 : decode cJ6_bitCount_0f7a4 39 = .ok (.iadd, 1) := by decide +kernel
theorem dJ6_bitCount_0f7a4_40 : decode cJ6_bitCount_0f7a4 40 = .ok (.istore_n 0, 1) := by decide +kernel
theorem dJ6_bitCount_0f7a4_41 : decode cJ6_bitCount_0f7a4 41 = .ok (.iload_n 0, 1) := by decide +kernel
theorem dJ6_bitCount_0f7a4_42 : decode cJ6_bitCount_0f7a4 42 = .ok (.iload_n 0, 1) := by decide +kernel
theorem dJ6_bitCount_0f7a4_43 : decode cJ6_bitCount_0f7a4 43 = .ok (.bipush 16, 2) := by decide +kernel
theorem dJ6_bitCount_0f7a4_45 : decode cJ6_bitCount_0f7a4 45 = .ok (.iushr, 1) := by decide +kernel
theorem dJ6_bitCount_0f7a4_46 : decode cJ6_bitCount_0f7a4 46 = .ok (.iadd, 1) := by decide +kernel
theorem dJ6_bitCount_0f7a4_47 : decode cJ6_bitCount_0f7a4 47 = .ok (.istore_n 0, 1) := by decide +kernel
theorem dJ6_bitCount_0f7a4_48 : decode cJ6_bitCount_0f7a4 48 = .ok (.iload_n 0, 1) := by decide +kernel
theorem dJ6_bitCount_0f7a4_49 : decode cJ6_bitCount_0f7a4 49 = .ok (.bipush 63, 2) := by decide +kernel
theorem dJ6_bitCount_0f7a4_51 : decode cJ6_bitCount_0f7a4 51 = .ok (.iand, 1) := by decide +kernel
theorem dJ6_bitCount_0f7a4_52 : decode cJ6_bitCount_0f7a4 52 = .ok (.ireturn, 1) := by decide +kernel
theorem dJ9_floorDiv_f86c9_0 : decode cJ9_floorDiv_f86c9 0 = .ok (.lload_n 0, 1) := by decide +kernel
theorem dJ9_floorDiv_f86c9_1 : decode cJ9_floorDiv_f86c9 1 = .ok (.lload_n 2, 1) := by decide +kernel
theorem dJ9_floorDiv_f86c9_2 : decode cJ9_floorDiv_f86c9 2 = .ok (.ldiv, 1) := by decide +kernel
theorem dJ9_floorDiv_f86c9_3 : decode cJ9_floorDiv_f86c9 3 = .ok (.lstore 4, 2) := by decide +kernel
theorem dJ9_floorDiv_f86c9_5 : decode cJ9_floorDiv_f86c9 5 = .ok (.lload_n 0, 1) := by decide +kernel
theorem dJ9_floorDiv_f86c9_6 : decode cJ9_floorDiv_f86c9 6 = .ok (.lload_n 2, 1) := by decide +kernel
theorem dJ9_floorDiv_f86c9_7 : decode cJ9_floorDiv_f86c9 7 = .ok (.lxor, 1) := by decide +kernel
theorem dJ9_floorDiv_f86c9_8 : decode cJ9_floorDiv_f86c9 8 = .ok (.lconst 0, 1) := by decide +kernel
theorem dJ9_floorDiv_f86c9_9 : decode cJ9_floorDiv_f86c9 9 = .ok (.lcmp, 1) := by decide +kernel
theorem dJ9_floorDiv_f86c9_10 : decode cJ9_floorDiv_f86c9 10 = .ok (.ifCond .ge 17, 3) := by decide +kernel
theorem dJ9_floorDiv_f86c9_13 : decode cJ9_floorDiv_f86c9 13 = .ok (.lload 4, 2) := by decide +kernel
theorem dJ9_floorDiv_f86c9_15 : decode cJ9_floorDiv_f86c9 15 = .ok (.lload_n 2, 1) := by decide +kernel
theorem dJ9_floorDiv_f86c9_16 : decode cJ9_floorDiv_f86c9 16 = .ok (.lmul, 1) := by decide +kernel
theorem dJ9_floorDiv_f86c9_17 : decode cJ9_floorDiv_f86c9 17 = .ok (.lload_n 0, 1) := by decide +kernel
theorem dJ9_floorDiv_f86c9_18 : decode cJ9_floorDiv_f86c9 18 = .ok (.lcmp, 1) := by decide +kernel
theorem dJ9_floorDiv_f86c9_19 : decode cJ9_floorDiv_f86c9 19 = .ok (.ifCond .eq 8, 3) := by decide +kernel
theorem dJ9_floorDiv_f86c9_22 : decode cJ9_floorDiv_f86c9 22 = .ok (.lload 4, 2) := by decide +kernel
theorem dJ9_floorDiv_f86c9_24 : decode cJ9_floorDiv_f86c9 24 = .ok (.lconst 1, 1) := by decide +kernel
theorem dJ9_floorDiv_f86c9_25 : decode cJ9_floorDiv_f86c9 25 = .ok (.lsub, 1) := by decide +kernel
theorem dJ9_floorDiv_f86c9_26 : decode cJ9_floorDiv_f86c9 26 = .ok (.lreturn, 1) := by decide +kernel
theorem dJ9_floorDiv_f86c9_27 : decode cJ9_floorDiv_f86c9 27 = .ok (.lload 4, 2) := by decide +kernel
theorem dJ9_floorDiv_f86c9_29 : decode cJ9_floorDiv_f86c9 29 = .ok (.lreturn, 1) := by decide +kernel
theorem dJ9_abs_0f7a4_0 : decode cJ9_abs_0f7a4 0 = .ok (.iload_n 0, 1) := by decide +kernel
theorem dJ9_abs_0f7a4_1 : decode cJ9_abs_0f7a4 1 = .ok (.ifCond .ge 8, 3) := by decide +kernel
theorem dJ9_abs_0f7a4_4 : decode cJ9_abs_0f7a4 4 = .ok (.iload_n 0, 1) := by decide +kernel
theorem dJ9_abs_0f7a4_5 : decode cJ9_abs_0f7a4 5 = .ok (.ineg, 1) := by decide +kernel
theorem dJ9_abs_0f7a4_6 : decode cJ9_abs_0f7a4 6 = .ok (.goto 4, 3) := by decide +kernel
theorem dJ9_abs_0f7a4_9 : decode cJ9_abs_0f7a4 9 = .ok (.iload_n 0, 1) := by decide +kernel
theorem dJ9_abs_0f7a4_10 : decode cJ9_abs_0f7a4 10 = .ok (.ireturn, 1) := by decide +kernel
theorem dJ9_abs_067f4_0 : decode cJ9_abs_067f4 0 = .ok (.lload_n 0, 1) := by decide +kernel
theorem dJ9_abs_067f4_1 : decode cJ9_abs_067f4 1 = .ok (.lconst 0, 1) := by decide +kernel
theorem dJ9_abs_067f4_2 : decode cJ9_abs_067f4 2 = .ok (.lcmp, 1) := by decide +kernel
theorem dJ9_abs_067f4_3 : decode cJ9_abs_067f4 3 = .ok (.ifCond .ge 8, 3) := by decide +kernel
theorem dJ9_abs_067f4_6 : decode cJ9_abs_067f4 6 = .ok (.lload_n 0, 1) := by decide +kernel
theorem dJ9_abs_067f4_7 : decode cJ9_abs_067f4 7 = .ok (.lneg, 1) := by decide +kernel
theorem dJ9_abs_067f4_8 : decode cJ9_abs_067f4 8 = .ok (.goto 4, 3) := by decide +kernel
theorem dJ9_abs_067f4_11 : decode cJ9_abs_067f4 11 = .ok (.lload_n 0, 1) := by decide +kernel
theorem dJ9_abs_067f4_12 : decode cJ9_abs_067f4 12 = .ok (.lreturn, 1) := by decide +kernel
theorem dJ9_min_7cf53_0 : decode cJ9_min_7cf53 0 = .ok (.iload_n 0, 1) := by decide +kernel
theorem dJ9_min_7cf53_1 : decode cJ9_min_7cf53 1 = .ok (.iload_n 1, 1) := by decide +kernel
theorem dJ9_min_7cf53_2 : decode cJ9_min_7cf53 2 = .ok (.if_icmp .gt 7, 3) := by decide +kernel
theorem dJ9_min_7cf53_5 : decode cJ9_min_7cf53 5 = .ok (.iload_n 0, 1) := by decide +kernel
theorem dJ9_min_7cf53_6 : decode cJ9_min_7cf53 6 = .ok (.goto 4, 3) := by decide +kernel
theorem dJ9_min_7cf53_9 : decode cJ9_min_7cf53 9 = .ok (.iload_n 1, 1) := by decide +kernel
theorem dJ9_min_7cf53_10 : decode cJ9_min_7cf53 10 = .ok (.ireturn, 1) := by decide +kernel
theorem dJ13_compare_74951_0 : decode cJ13_compare_74951 0 = .ok (.lload_n 0, 1) := by decide +kernel
theorem dJ13_compare_74951_1 : decode cJ13_compare_74951 1 = .ok (.lload_n 2, 1) := by decide +kernel
theorem dJ13_compare_74951_2 : decode cJ13_compare_74951 2 = .ok (.lcmp, 1) := by decide +kernel
theorem dJ13_compare_74951_3 : decode cJ13_compare_74951 3 = .ok (.ifCond .ge 7, 3) := by decide +kernel
theorem dJ13_compare_74951_6 : decode cJ13_compare_74951 6 = .ok (.iconst (-1), 1) := by decide +kernel
theorem dJ13_compare_74951_7 : decode cJ13_compare_74951 7 = .ok (.goto 14, 3) := by decide +kernel
theorem dJ13_compare_74951_10 : decode cJ13_compare_74951 10 = .ok (.lload_n 0, 1) := by decide +kernel
theorem dJ13_compare_74951_11 : decode cJ13_compare_74951 11 = .ok (.lload_n 2, 1) := by decide +kernel
theorem dJ13_compare_74951_12 : decode cJ13_compare_74951 12 = .ok (.lcmp, 1) := by decide +kernel
theorem dJ13_compare_74951_13 : decode cJ13_compare_74951 13 = .ok (.ifCond .ne 7, 3) := by decide +kernel
theorem dJ13_compare_74951_16 : decode cJ13_compare_74951 16 = .ok (.iconst 0, 1) := by decide +kernel
theorem dJ13_compare_74951_17 : decode cJ13_compare_74951 17 = .ok (.goto 4, 3) := by decide +kernel
theorem dJ13_compare_74951_20 : decode cJ13_compare_74951 20 = .ok (.iconst 1, 1) := by decide +kernel
theorem dJ13_compare_74951_21 : decode cJ13_compare_74951 21 = .ok (.ireturn, 1) := by decide +kernel
theorem dL_law_0 : decode cL_law 0 = .ok (.new 7, 3) := by decide +kernel
theorem dL_law_3 : decode cL_law 3 = .ok (.dup, 1) := by decide +kernel
theorem dL_law_4 : decode cL_law 4 = .ok (.invokespecial 9, 3) := by decide +kernel
theorem dL_law_7 : decode cL_law 7 = .ok (.astore_n 1, 1) := by decide +kernel
theorem dL_law_8 : decode cL_law 8 = .ok (.new 10, 3) := by decide +kernel
theorem dL_law_11 : decode cL_law 11 = .ok (.dup, 1) := by decide +kernel
theorem dL_law_12 : decode cL_law 12 = .ok (.invokespecial 12, 3) := by decide +kernel
theorem dL_law_15 : decode cL_law 15 = .ok (.astore_n 2, 1) := by decide +kernel
theorem dL_law_16 : decode cL_law 16 = .ok (.iconst 0, 1) := by decide +kernel
theorem dL_law_17 : decode cL_law 17 = .ok (.istore_n 3, 1) := by decide +kernel
theorem dL_law_18 : decode cL_law 18 = .ok (.iload_n 3, 1) := by decide +kernel
theorem dL_law_19 : decode cL_law 19 = .ok (.aload_n 0, 1) := by decide +kernel
theorem dL_law_20 : decode cL_law 20 = .ok (.arraylength, 1) := by decide +kernel
theorem dL_law_21 : decode cL_law 21 = .ok (.iconst 4, 1) := by decide +kernel
theorem dL_law_22 : decode cL_law 22 = .ok (.isub, 1) := by decide +kernel
theorem dL_law_23 : decode cL_law 23 = .ok (.if_icmp .gt 860, 3) := by decide +kernel
theorem dL_law_26 : decode cL_law 26 = .ok (.aload_n 0, 1) := by decide +kernel
theorem dL_law_27 : decode cL_law 27 = .ok (.iload_n 3, 1) := by decide +kernel
theorem dL_law_28 : decode cL_law 28 = .ok (.iaload, 1) := by decide +kernel
theorem dL_law_29 : decode cL_law 29 = .ok (.bipush 31, 2) := by decide +kernel
theorem dL_law_31 : decode cL_law 31 = .ok (.iand, 1) := by decide +kernel
theorem dL_law_32 : decode cL_law 32 = .ok (.tableswitch 845 0 27 #[128, 151, 164, 177, 220, 253, 296, 329, 342, 365, 378, 391, 414, 437, 460, 493, 536, 579, 622, 645, 668, 701, 734, 748, 762, 776, 799, 822], 128) := by decide +kernel
theorem dL_law_160 : decode cL_law 160 = .ok (.aload_n 1, 1) := by decide +kernel
theorem dL_law_161 : decode cL_law 161 = .ok (.aload_n 0, 1) := by decide +kernel
theorem dL_law_162 : decode cL_law 162 = .ok (.iload_n 3, 1) := by decide +kernel
theorem dL_law_163 : decode cL_law 163 = .ok (.iconst 1, 1) := by decide +kernel
theorem dL_law_164 : decode cL_law 164 = .ok (.iadd, 1) := by decide +kernel
theorem dL_law_165 : decode cL_law 165 = .ok (.iaload, 1) := by decide +kernel
theorem dL_law_166 : decode cL_law 166 = .ok (.invokevirtual 13, 3) := by decide +kernel
theorem dL_law_169 : decode cL_law 169 = .ok (.aload_n 2, 1) := by decide +kernel
theorem dL_law_170 : decode cL_law 170 = .ok (.aload_n 0, 1) := by decide +kernel
theorem dL_law_171 : decode cL_law 171 = .ok (.iload_n 3, 1) := by decide +kernel
theorem dL_law_172 : decode cL_law 172 = .ok (.iconst 1, 1) := by decide +kernel
theorem dL_law_173 : decode cL_law 173 = .ok (.iadd, 1) := by decide +kernel
theorem dL_law_174 : decode cL_law 174 = .ok (.iaload, 1) := by decide +kernel
theorem dL_law_175 : decode cL_law 175 = .ok (.invokevirtual 17, 3) := by decide +kernel
theorem dL_law_178 : decode cL_law 178 = .ok (.if_icmp .eq 699, 3) := by decide +kernel
theorem dL_law_181 : decode cL_law 181 = .ok (.iconst 0, 1) := by decide +kernel
theorem dL_law_182 : decode cL_law 182 = .ok (.ireturn, 1) := by decide +kernel
theorem dL_law_183 : decode cL_law 183 = .ok (.aload_n 1, 1) := by decide +kernel
theorem dL_law_184 : decode cL_law 184 = .ok (.invokevirtual 18, 3) := by decide +kernel
theorem dL_law_187 : decode cL_law 187 = .ok (.aload_n 2, 1) := by decide +kernel
theorem dL_law_188 : decode cL_law 188 = .ok (.invokevirtual 22, 3) := by decide +kernel
theorem dL_law_191 : decode cL_law 191 = .ok (.if_icmp .eq 686, 3) := by decide +kernel
theorem dL_law_194 : decode cL_law 194 = .ok (.iconst 0, 1) := by decide +kernel
theorem dL_law_195 : decode cL_law 195 = .ok (.ireturn, 1) := by decide +kernel
theorem dL_law_196 : decode cL_law 196 = .ok (.aload_n 1, 1) := by decide +kernel
theorem dL_law_197 : decode cL_law 197 = .ok (.invokevirtual 23, 3) := by decide +kernel
theorem dL_law_200 : decode cL_law 200 = .ok (.aload_n 2, 1) := by decide +kernel
theorem dL_law_201 : decode cL_law 201 = .ok (.invokevirtual 26, 3) := by decide +kernel
theorem dL_law_204 : decode cL_law 204 = .ok (.if_icmp .eq 673, 3) := by decide +kernel
theorem dL_law_207 : decode cL_law 207 = .ok (.iconst 0, 1) := by decide +kernel
theorem dL_law_208 : decode cL_law 208 = .ok (.ireturn, 1) := by decide +kernel
theorem dL_law_209 : decode cL_law 209 = .ok (.aload_n 1, 1) := by decide +kernel
theorem dL_law_210 : decode cL_law 210 = .ok (.aload_n 0, 1) := by decide +kernel
theorem dL_law_211 : decode cL_law 211 = .ok (.iload_n 3, 1) := by decide +kernel
theorem dL_law_212 : decode cL_law 212 = .ok (.iconst 1, 1) := by decide +kernel
theorem dL_law_213 : decode cL_law 213 = .ok (.iadd, 1) := by decide +kernel
theorem dL_law_214 : decode cL_law 214 = .ok (.iaload, 1) := by decide +kernel
theorem dL_law_215 : decode cL_law 215 = .ok (.aload_n 0, 1) := by decide +kernel
theorem dL_law_216 : decode cL_law 216 = .ok (.iload_n 3, 1) := by decide +kernel
theorem dL_law_217 : decode cL_law 217 = .ok (.iconst 2, 1) := by decide +kernel
theorem dL_law_218 : decode cL_law 218 = .ok (.iadd, 1) := by decide +kernel
theorem dL_law_219 : decode cL_law 219 = .ok (.iaload, 1) := by decide +kernel
theorem dL_law_220 : decode cL_law 220 = .ok (.aload_n 0, 1) := by decide +kernel
theorem dL_law_221 : decode cL_law 221 = .ok (.iload_n 3, 1) := by decide +kernel
theorem dL_law_222 : decode cL_law 222 = .ok (.iconst 3, 1) := by decide +kernel
theorem dL_law_223 : decode cL_law 223 = .ok (.iadd, 1) := by decide +kernel
theorem dL_law_224 : decode cL_law 224 = .ok (.iaload, 1) := by decide +kernel
theorem dL_law_225 : decode cL_law 225 = .ok (.invokevirtual 27, 3) := by decide +kernel
theorem dL_law_228 : decode cL_law 228 = .ok (.aload_n 2, 1) := by decide +kernel
theorem dL_law_229 : decode cL_law 229 = .ok (.aload_n 0, 1) := by decide +kernel
theorem dL_law_230 : decode cL_law 230 = .ok (.iload_n 3, 1) := by decide +kernel
theorem dL_law_231 : decode cL_law 231 = .ok (.iconst 1, 1) := by decide +kernel
theorem dL_law_232 : decode cL_law 232 = .ok (.iadd, 1) := by decide +kernel
theorem dL_law_233 : decode cL_law 233 = .ok (.iaload, 1) := by decide +kernel
theorem dL_law_234 : decode cL_law 234 = .ok (.aload_n 0, 1) := by decide +kernel
theorem dL_law_235 : decode cL_law 235 = .ok (.iload_n 3, 1) := by decide +kernel
theorem dL_law_236 : decode cL_law 236 = .ok (.iconst 2, 1) := by decide +kernel
theorem dL_law_237 : decode cL_law 237 = .ok (.iadd, 1) := by decide +kernel
theorem dL_law_238 : decode cL_law 238 = .ok (.iaload, 1) := by decide +kernel
theorem dL_law_239 : decode cL_law 239 = .ok (.aload_n 0, 1) := by decide +kernel
theorem dL_law_240 : decode cL_law 240 = .ok (.iload_n 3, 1) := by decide +kernel
theorem dL_law_241 : decode cL_law 241 = .ok (.iconst 3, 1) := by decide +kernel
theorem dL_law_242 : decode cL_law 242 = .ok (.iadd, 1) := by decide +kernel
theorem dL_law_243 : decode cL_law 243 = .ok (.iaload, 1) := by decide +kernel
theorem dL_law_244 : decode cL_law 244 = .ok (.invokevirtual 31, 3) := by decide +kernel
theorem dL_law_247 : decode cL_law 247 = .ok (.if_icmp .eq 630, 3) := by decide +kernel
theorem dL_law_250 : decode cL_law 250 = .ok (.iconst 0, 1) := by decide +kernel
theorem dL_law_251 : decode cL_law 251 = .ok (.ireturn, 1) := by decide +kernel
theorem dL_law_252 : decode cL_law 252 = .ok (.aload_n 1, 1) := by decide +kernel
theorem dL_law_253 : decode cL_law 253 = .ok (.aload_n 0, 1) := by decide +kernel
theorem dL_law_254 : decode cL_law 254 = .ok (.iload_n 3, 1) := by decide +kernel
theorem dL_law_255 : decode cL_law 255 = .ok (.iconst 1, 1) := by decide +kernel
theorem dL_law_256 : decode cL_law 256 = .ok (.iadd, 1) := by decide +kernel
theorem dL_law_257 : decode cL_law 257 = .ok (.iaload, 1) := by decide +kernel
theorem dL_law_258 : decode cL_law 258 = .ok (.aload_n 0, 1) := by decide +kernel
theorem dL_law_259 : decode cL_law 259 = .ok (.iload_n 3, 1) := by decide +kernel
theorem dL_law_260 : decode cL_law 260 = .ok (.iconst 2, 1) := by decide +kernel
theorem dL_law_261 : decode cL_law 261 = .ok (.iadd, 1) := by decide +kernel
theorem dL_law_262 : decode cL_law 262 = .ok (.iaload, 1) := by decide +kernel
theorem dL_law_263 : decode cL_law 263 = .ok (.invokevirtual 32, 3) := by decide +kernel
theorem dL_law_266 : decode cL_law 266 = .ok (.aload_n 2, 1) := by decide +kernel
theorem dL_law_267 : decode cL_law 267 = .ok (.aload_n 0, 1) := by decide +kernel
theorem dL_law_268 : decode cL_law 268 = .ok (.iload_n 3, 1) := by decide +kernel
theorem dL_law_269 : decode cL_law 269 = .ok (.iconst 1, 1) := by decide +kernel
theorem dL_law_270 : decode cL_law 270 = .ok (.iadd, 1) := by decide +kernel
theorem dL_law_271 : decode cL_law 271 = .ok (.iaload, 1) := by decide +kernel
theorem dL_law_272 : decode cL_law 272 = .ok (.aload_n 0, 1) := by decide +kernel
theorem dL_law_273 : decode cL_law 273 = .ok (.iload_n 3, 1) := by decide +kernel
theorem dL_law_274 : decode cL_law 274 = .ok (.iconst 2, 1) := by decide +kernel
theorem dL_law_275 : decode cL_law 275 = .ok (.iadd, 1) := by decide +kernel
theorem dL_law_276 : decode cL_law 276 = .ok (.iaload, 1) := by decide +kernel
theorem dL_law_277 : decode cL_law 277 = .ok (.invokevirtual 36, 3) := by decide +kernel
theorem dL_law_280 : decode cL_law 280 = .ok (.if_icmp .eq 597, 3) := by decide +kernel
theorem dL_law_283 : decode cL_law 283 = .ok (.iconst 0, 1) := by decide +kernel
theorem dL_law_284 : decode cL_law 284 = .ok (.ireturn, 1) := by decide +kernel
theorem dL_law_285 : decode cL_law 285 = .ok (.aload_n 1, 1) := by decide +kernel
theorem dL_law_286 : decode cL_law 286 = .ok (.aload_n 0, 1) := by decide +kernel
theorem dL_law_287 : decode cL_law 287 = .ok (.iload_n 3, 1) := by decide +kernel
theorem dL_law_288 : decode cL_law 288 = .ok (.iconst 1, 1) := by decide +kernel
theorem dL_law_289 : decode cL_law 289 = .ok (.iadd, 1) := by decide +kernel
theorem dL_law_290 : decode cL_law 290 = .ok (.iaload, 1) := by decide +kernel
theorem dL_law_291 : decode cL_law 291 = .ok (.aload_n 0, 1) := by decide +kernel
theorem dL_law_292 : decode cL_law 292 = .ok (.iload_n 3, 1) := by decide +kernel
theorem dL_law_293 : decode cL_law 293 = .ok (.iconst 2, 1) := by decide +kernel
theorem dL_law_294 : decode cL_law 294 = .ok (.iadd, 1) := by decide +kernel
theorem dL_law_295 : decode cL_law 295 = .ok (.iaload, 1) := by decide +kernel
theorem dL_law_296 : decode cL_law 296 = .ok (.aload_n 0, 1) := by decide +kernel
theorem dL_law_297 : decode cL_law 297 = .ok (.iload_n 3, 1) := by decide +kernel
theorem dL_law_298 : decode cL_law 298 = .ok (.iconst 3, 1) := by decide +kernel
theorem dL_law_299 : decode cL_law 299 = .ok (.iadd, 1) := by decide +kernel
theorem dL_law_300 : decode cL_law 300 = .ok (.iaload, 1) := by decide +kernel
theorem dL_law_301 : decode cL_law 301 = .ok (.invokevirtual 37, 3) := by decide +kernel
theorem dL_law_304 : decode cL_law 304 = .ok (.aload_n 2, 1) := by decide +kernel
theorem dL_law_305 : decode cL_law 305 = .ok (.aload_n 0, 1) := by decide +kernel
theorem dL_law_306 : decode cL_law 306 = .ok (.iload_n 3, 1) := by decide +kernel
theorem dL_law_307 : decode cL_law 307 = .ok (.iconst 1, 1) := by decide +kernel
theorem dL_law_308 : decode cL_law 308 = .ok (.iadd, 1) := by decide +kernel
theorem dL_law_309 : decode cL_law 309 = .ok (.iaload, 1) := by decide +kernel
theorem dL_law_310 : decode cL_law 310 = .ok (.aload_n 0, 1) := by decide +kernel
theorem dL_law_311 : decode cL_law 311 = .ok (.iload_n 3, 1) := by decide +kernel
theorem dL_law_312 : decode cL_law 312 = .ok (.iconst 2, 1) := by decide +kernel
theorem dL_law_313 : decode cL_law 313 = .ok (.iadd, 1) := by decide +kernel
theorem dL_law_314 : decode cL_law 314 = .ok (.iaload, 1) := by decide +kernel
theorem dL_law_315 : decode cL_law 315 = .ok (.aload_n 0, 1) := by decide +kernel
theorem dL_law_316 : decode cL_law 316 = .ok (.iload_n 3, 1) := by decide +kernel
theorem dL_law_317 : decode cL_law 317 = .ok (.iconst 3, 1) := by decide +kernel
theorem dL_law_318 : decode cL_law 318 = .ok (.iadd, 1) := by decide +kernel
theorem dL_law_319 : decode cL_law 319 = .ok (.iaload, 1) := by decide +kernel
theorem dL_law_320 : decode cL_law 320 = .ok (.invokevirtual 40, 3) := by decide +kernel
theorem dL_law_323 : decode cL_law 323 = .ok (.if_icmp .eq 554, 3) := by decide +kernel
theorem dL_law_326 : decode cL_law 326 = .ok (.iconst 0, 1) := by decide +kernel
theorem dL_law_327 : decode cL_law 327 = .ok (.ireturn, 1) := by decide +kernel
theorem dL_law_328 : decode cL_law 328 = .ok (.aload_n 1, 1) := by decide +kernel
theorem dL_law_329 : decode cL_law 329 = .ok (.aload_n 0, 1) := by decide +kernel
theorem dL_law_330 : decode cL_law 330 = .ok (.iload_n 3, 1) := by decide +kernel
theorem dL_law_331 : decode cL_law 331 = .ok (.iconst 1, 1) := by decide +kernel
theorem dL_law_332 : decode cL_law 332 = .ok (.iadd, 1) := by decide +kernel
theorem dL_law_333 : decode cL_law 333 = .ok (.iaload, 1) := by decide +kernel
theorem dL_law_334 : decode cL_law 334 = .ok (.aload_n 0, 1) := by decide +kernel
theorem dL_law_335 : decode cL_law 335 = .ok (.iload_n 3, 1) := by decide +kernel
theorem dL_law_336 : decode cL_law 336 = .ok (.iconst 2, 1) := by decide +kernel
theorem dL_law_337 : decode cL_law 337 = .ok (.iadd, 1) := by decide +kernel
theorem dL_law_338 : decode cL_law 338 = .ok (.iaload, 1) := by decide +kernel
theorem dL_law_339 : decode cL_law 339 = .ok (.invokevirtual 41, 3) := by decide +kernel
theorem dL_law_342 : decode cL_law 342 = .ok (.aload_n 2, 1) := by decide +kernel
theorem dL_law_343 : decode cL_law 343 = .ok (.aload_n 0, 1) := by decide +kernel
theorem dL_law_344 : decode cL_law 344 = .ok (.iload_n 3, 1) := by decide +kernel
theorem dL_law_345 : decode cL_law 345 = .ok (.iconst 1, 1) := by decide +kernel
theorem dL_law_346 : decode cL_law 346 = .ok (.iadd, 1) := by decide +kernel
theorem dL_law_347 : decode cL_law 347 = .ok (.iaload, 1) := by decide +kernel
theorem dL_law_348 : decode cL_law 348 = .ok (.aload_n 0, 1) := by decide +kernel
theorem dL_law_349 : decode cL_law 349 = .ok (.iload_n 3, 1) := by decide +kernel
theorem dL_law_350 : decode cL_law 350 = .ok (.iconst 2, 1) := by decide +kernel
theorem dL_law_351 : decode cL_law 351 = .ok (.iadd, 1) := by decide +kernel
theorem dL_law_352 : decode cL_law 352 = .ok (.iaload, 1) := by decide +kernel
theorem dL_law_353 : decode cL_law 353 = .ok (.invokevirtual 44, 3) := by decide +kernel
theorem dL_law_356 : decode cL_law 356 = .ok (.if_icmp .eq 521, 3) := by decide +kernel
theorem dL_law_359 : decode cL_law 359 = .ok (.iconst 0, 1) := by decide +kernel
theorem dL_law_360 : decode cL_law 360 = .ok (.ireturn, 1) := by decide +kernel
theorem dL_law_361 : decode cL_law 361 = .ok (.aload_n 1, 1) := by decide +kernel
theorem dL_law_362 : decode cL_law 362 = .ok (.invokevirtual 45, 3) := by decide +kernel
theorem dL_law_365 : decode cL_law 365 = .ok (.aload_n 2, 1) := by decide +kernel
theorem dL_law_366 : decode cL_law 366 = .ok (.invokevirtual 48, 3) := by decide +kernel
theorem dL_law_369 : decode cL_law 369 = .ok (.if_icmp .eq 508, 3) := by decide +kernel
theorem dL_law_372 : decode cL_law 372 = .ok (.iconst 0, 1) := by decide +kernel
theorem dL_law_373 : decode cL_law 373 = .ok (.ireturn, 1) := by decide +kernel
theorem dL_law_374 : decode cL_law 374 = .ok (.aload_n 1, 1) := by decide +kernel
theorem dL_law_375 : decode cL_law 375 = .ok (.aload_n 0, 1) := by decide +kernel
theorem dL_law_376 : decode cL_law 376 = .ok (.iload_n 3, 1) := by decide +kernel
theorem dL_law_377 : decode cL_law 377 = .ok (.iconst 1, 1) := by decide +kernel
theorem dL_law_378 : decode cL_law 378 = .ok (.iadd, 1) := by decide +kernel
theorem dL_law_379 : decode cL_law 379 = .ok (.iaload, 1) := by decide +kernel
theorem dL_law_380 : decode cL_law 380 = .ok (.invokevirtual 49, 3) := by decide +kernel
theorem dL_law_383 : decode cL_law 383 = .ok (.aload_n 2, 1) := by decide +kernel
theorem dL_law_384 : decode cL_law 384 = .ok (.aload_n 0, 1) := by decide +kernel
theorem dL_law_385 : decode cL_law 385 = .ok (.iload_n 3, 1) := by decide +kernel
theorem dL_law_386 : decode cL_law 386 = .ok (.iconst 1, 1) := by decide +kernel
theorem dL_law_387 : decode cL_law 387 = .ok (.iadd, 1) := by decide +kernel
theorem dL_law_388 : decode cL_law 388 = .ok (.iaload, 1) := by decide +kernel
theorem dL_law_389 : decode cL_law 389 = .ok (.invokevirtual 52, 3) := by decide +kernel
theorem dL_law_392 : decode cL_law 392 = .ok (.if_icmp .eq 485, 3) := by decide +kernel
theorem dL_law_395 : decode cL_law 395 = .ok (.iconst 0, 1) := by decide +kernel
theorem dL_law_396 : decode cL_law 396 = .ok (.ireturn, 1) := by decide +kernel
theorem dL_law_397 : decode cL_law 397 = .ok (.aload_n 1, 1) := by decide +kernel
theorem dL_law_398 : decode cL_law 398 = .ok (.invokevirtual 53, 3) := by decide +kernel
theorem dL_law_401 : decode cL_law 401 = .ok (.aload_n 2, 1) := by decide +kernel
theorem dL_law_402 : decode cL_law 402 = .ok (.invokevirtual 56, 3) := by decide +kernel
theorem dL_law_405 : decode cL_law 405 = .ok (.if_icmp .eq 472, 3) := by decide +kernel
theorem dL_law_408 : decode cL_law 408 = .ok (.iconst 0, 1) := by decide +kernel
theorem dL_law_409 : decode cL_law 409 = .ok (.ireturn, 1) := by decide +kernel
theorem dL_law_410 : decode cL_law 410 = .ok (.aload_n 1, 1) := by decide +kernel
theorem dL_law_411 : decode cL_law 411 = .ok (.invokevirtual 57, 3) := by decide +kernel
theorem dL_law_414 : decode cL_law 414 = .ok (.aload_n 2, 1) := by decide +kernel
theorem dL_law_415 : decode cL_law 415 = .ok (.invokevirtual 60, 3) := by decide +kernel
theorem dL_law_418 : decode cL_law 418 = .ok (.if_icmp .eq 459, 3) := by decide +kernel
theorem dL_law_421 : decode cL_law 421 = .ok (.iconst 0, 1) := by decide +kernel
theorem dL_law_422 : decode cL_law 422 = .ok (.ireturn, 1) := by decide +kernel
theorem dL_law_423 : decode cL_law 423 = .ok (.aload_n 1, 1) := by decide +kernel
theorem dL_law_424 : decode cL_law 424 = .ok (.aload_n 0, 1) := by decide +kernel
theorem dL_law_425 : decode cL_law 425 = .ok (.iload_n 3, 1) := by decide +kernel
theorem dL_law_426 : decode cL_law 426 = .ok (.iconst 1, 1) := by decide +kernel
theorem dL_law_427 : decode cL_law 427 = .ok (.iadd, 1) := by decide +kernel
theorem dL_law_428 : decode cL_law 428 = .ok (.iaload, 1) := by decide +kernel
theorem dL_law_429 : decode cL_law 429 = .ok (.invokevirtual 61, 3) := by decide +kernel
theorem dL_law_432 : decode cL_law 432 = .ok (.aload_n 2, 1) := by decide +kernel
theorem dL_law_433 : decode cL_law 433 = .ok (.aload_n 0, 1) := by decide +kernel
theorem dL_law_434 : decode cL_law 434 = .ok (.iload_n 3, 1) := by decide +kernel
theorem dL_law_435 : decode cL_law 435 = .ok (.iconst 1, 1) := by decide +kernel
theorem dL_law_436 : decode cL_law 436 = .ok (.iadd, 1) := by decide +kernel
theorem dL_law_437 : decode cL_law 437 = .ok (.iaload, 1) := by decide +kernel
theorem dL_law_438 : decode cL_law 438 = .ok (.invokevirtual 64, 3) := by decide +kernel
theorem dL_law_441 : decode cL_law 441 = .ok (.if_icmp .eq 436, 3) := by decide +kernel
theorem dL_law_444 : decode cL_law 444 = .ok (.iconst 0, 1) := by decide +kernel
theorem dL_law_445 : decode cL_law 445 = .ok (.ireturn, 1) := by decide +kernel
theorem dL_law_446 : decode cL_law 446 = .ok (.aload_n 1, 1) := by decide +kernel
theorem dL_law_447 : decode cL_law 447 = .ok (.aload_n 0, 1) := by decide +kernel
theorem dL_law_448 : decode cL_law 448 = .ok (.iload_n 3, 1) := by decide +kernel
theorem dL_law_449 : decode cL_law 449 = .ok (.iconst 1, 1) := by decide +kernel
theorem dL_law_450 : decode cL_law 450 = .ok (.iadd, 1) := by decide +kernel
theorem dL_law_451 : decode cL_law 451 = .ok (.iaload, 1) := by decide +kernel
theorem dL_law_452 : decode cL_law 452 = .ok (.invokevirtual 65, 3) := by decide +kernel
theorem dL_law_455 : decode cL_law 455 = .ok (.aload_n 2, 1) := by decide +kernel
theorem dL_law_456 : decode cL_law 456 = .ok (.aload_n 0, 1) := by decide +kernel
theorem dL_law_457 : decode cL_law 457 = .ok (.iload_n 3, 1) := by decide +kernel
theorem dL_law_458 : decode cL_law 458 = .ok (.iconst 1, 1) := by decide +kernel
theorem dL_law_459 : decode cL_law 459 = .ok (.iadd, 1) := by decide +kernel
theorem dL_law_460 : decode cL_law 460 = .ok (.iaload, 1) := by decide +kernel
theorem dL_law_461 : decode cL_law 461 = .ok (.invokevirtual 68, 3) := by decide +kernel
theorem dL_law_464 : decode cL_law 464 = .ok (.if_icmp .eq 413, 3) := by decide +kernel
theorem dL_law_467 : decode cL_law 467 = .ok (.iconst 0, 1) := by decide +kernel
theorem dL_law_468 : decode cL_law 468 = .ok (.ireturn, 1) := by decide +kernel
theorem dL_law_469 : decode cL_law 469 = .ok (.aload_n 1, 1) := by decide +kernel
theorem dL_law_470 : decode cL_law 470 = .ok (.aload_n 0, 1) := by decide +kernel
theorem dL_law_471 : decode cL_law 471 = .ok (.iload_n 3, 1) := by decide +kernel
theorem dL_law_472 : decode cL_law 472 = .ok (.iconst 1, 1) := by decide +kernel
theorem dL_law_473 : decode cL_law 473 = .ok (.iadd, 1) := by decide +kernel
theorem dL_law_474 : decode cL_law 474 = .ok (.iaload, 1) := by decide +kernel
theorem dL_law_475 : decode cL_law 475 = .ok (.invokevirtual 69, 3) := by decide +kernel
theorem dL_law_478 : decode cL_law 478 = .ok (.aload_n 2, 1) := by decide +kernel
theorem dL_law_479 : decode cL_law 479 = .ok (.aload_n 0, 1) := by decide +kernel
theorem dL_law_480 : decode cL_law 480 = .ok (.iload_n 3, 1) := by decide +kernel
theorem dL_law_481 : decode cL_law 481 = .ok (.iconst 1, 1) := by decide +kernel
theorem dL_law_482 : decode cL_law 482 = .ok (.iadd, 1) := by decide +kernel
theorem dL_law_483 : decode cL_law 483 = .ok (.iaload, 1) := by decide +kernel
theorem dL_law_484 : decode cL_law 484 = .ok (.invokevirtual 72, 3) := by decide +kernel
theorem dL_law_487 : decode cL_law 487 = .ok (.if_icmp .eq 390, 3) := by decide +kernel
theorem dL_law_490 : decode cL_law 490 = .ok (.iconst 0, 1) := by decide +kernel
theorem dL_law_491 : decode cL_law 491 = .ok (.ireturn, 1) := by decide +kernel
theorem dL_law_492 : decode cL_law 492 = .ok (.aload_n 1, 1) := by decide +kernel
theorem dL_law_493 : decode cL_law 493 = .ok (.aload_n 0, 1) := by decide +kernel
theorem dL_law_494 : decode cL_law 494 = .ok (.iload_n 3, 1) := by decide +kernel
theorem dL_law_495 : decode cL_law 495 = .ok (.iconst 1, 1) := by decide +kernel
theorem dL_law_496 : decode cL_law 496 = .ok (.iadd, 1) := by decide +kernel
theorem dL_law_497 : decode cL_law 497 = .ok (.iaload, 1) := by decide +kernel
theorem dL_law_498 : decode cL_law 498 = .ok (.aload_n 0, 1) := by decide +kernel
theorem dL_law_499 : decode cL_law 499 = .ok (.iload_n 3, 1) := by decide +kernel
theorem dL_law_500 : decode cL_law 500 = .ok (.iconst 2, 1) := by decide +kernel
theorem dL_law_501 : decode cL_law 501 = .ok (.iadd, 1) := by decide +kernel
theorem dL_law_502 : decode cL_law 502 = .ok (.iaload, 1) := by decide +kernel
theorem dL_law_503 : decode cL_law 503 = .ok (.invokevirtual 73, 3) := by decide +kernel
theorem dL_law_506 : decode cL_law 506 = .ok (.aload_n 2, 1) := by decide +kernel
theorem dL_law_507 : decode cL_law 507 = .ok (.aload_n 0, 1) := by decide +kernel
theorem dL_law_508 : decode cL_law 508 = .ok (.iload_n 3, 1) := by decide +kernel
theorem dL_law_509 : decode cL_law 509 = .ok (.iconst 1, 1) := by decide +kernel
theorem dL_law_510 : decode cL_law 510 = .ok (.iadd, 1) := by decide +kernel
theorem dL_law_511 : decode cL_law 511 = .ok (.iaload, 1) := by decide +kernel
theorem dL_law_512 : decode cL_law 512 = .ok (.aload_n 0, 1) := by decide +kernel
theorem dL_law_513 : decode cL_law 513 = .ok (.iload_n 3, 1) := by decide +kernel
theorem dL_law_514 : decode cL_law 514 = .ok (.iconst 2, 1) := by decide +kernel
theorem dL_law_515 : decode cL_law 515 = .ok (.iadd, 1) := by decide +kernel
theorem dL_law_516 : decode cL_law 516 = .ok (.iaload, 1) := by decide +kernel
theorem dL_law_517 : decode cL_law 517 = .ok (.invokevirtual 76, 3) := by decide +kernel
theorem dL_law_520 : decode cL_law 520 = .ok (.if_icmp .eq 357, 3) := by decide +kernel
theorem dL_law_523 : decode cL_law 523 = .ok (.iconst 0, 1) := by decide +kernel
theorem dL_law_524 : decode cL_law 524 = .ok (.ireturn, 1) := by decide +kernel
theorem dL_law_525 : decode cL_law 525 = .ok (.aload_n 1, 1) := by decide +kernel
theorem dL_law_526 : decode cL_law 526 = .ok (.aload_n 0, 1) := by decide +kernel
theorem dL_law_527 : decode cL_law 527 = .ok (.iload_n 3, 1) := by decide +kernel
theorem dL_law_528 : decode cL_law 528 = .ok (.iconst 1, 1) := by decide +kernel
theorem dL_law_529 : decode cL_law 529 = .ok (.iadd, 1) := by decide +kernel
theorem dL_law_530 : decode cL_law 530 = .ok (.iaload, 1) := by decide +kernel
theorem dL_law_531 : decode cL_law 531 = .ok (.aload_n 0, 1) := by decide +kernel
theorem dL_law_532 : decode cL_law 532 = .ok (.iload_n 3, 1) := by decide +kernel
theorem dL_law_533 : decode cL_law 533 = .ok (.iconst 2, 1) := by decide +kernel
theorem dL_law_534 : decode cL_law 534 = .ok (.iadd, 1) := by decide +kernel
theorem dL_law_535 : decode cL_law 535 = .ok (.iaload, 1) := by decide +kernel
theorem dL_law_536 : decode cL_law 536 = .ok (.aload_n 0, 1) := by decide +kernel
theorem dL_law_537 : decode cL_law 537 = .ok (.iload_n 3, 1) := by decide +kernel
theorem dL_law_538 : decode cL_law 538 = .ok (.iconst 3, 1) := by decide +kernel
theorem dL_law_539 : decode cL_law 539 = .ok (.iadd, 1) := by decide +kernel
theorem dL_law_540 : decode cL_law 540 = .ok (.iaload, 1) := by decide +kernel
theorem dL_law_541 : decode cL_law 541 = .ok (.invokevirtual 77, 3) := by decide +kernel
theorem dL_law_544 : decode cL_law 544 = .ok (.aload_n 2, 1) := by decide +kernel
theorem dL_law_545 : decode cL_law 545 = .ok (.aload_n 0, 1) := by decide +kernel
theorem dL_law_546 : decode cL_law 546 = .ok (.iload_n 3, 1) := by decide +kernel
theorem dL_law_547 : decode cL_law 547 = .ok (.iconst 1, 1) := by decide +kernel
theorem dL_law_548 : decode cL_law 548 = .ok (.iadd, 1) := by decide +kernel
theorem dL_law_549 : decode cL_law 549 = .ok (.iaload, 1) := by decide +kernel
theorem dL_law_550 : decode cL_law 550 = .ok (.aload_n 0, 1) := by decide +kernel
theorem dL_law_551 : decode cL_law 551 = .ok (.iload_n 3, 1) := by decide +kernel
theorem dL_law_552 : decode cL_law 552 = .ok (.iconst 2, 1) := by decide +kernel
theorem dL_law_553 : decode cL_law 553 = .ok (.iadd, 1) := by decide +kernel
theorem dL_law_554 : decode cL_law 554 = .ok (.iaload, 1) := by decide +kernel
theorem dL_law_555 : decode cL_law 555 = .ok (.aload_n 0, 1) := by decide +kernel
theorem dL_law_556 : decode cL_law 556 = .ok (.iload_n 3, 1) := by decide +kernel
theorem dL_law_557 : decode cL_law 557 = .ok (.iconst 3, 1) := by decide +kernel
theorem dL_law_558 : decode cL_law 558 = .ok (.iadd, 1) := by decide +kernel
theorem dL_law_559 : decode cL_law 559 = .ok (.iaload, 1) := by decide +kernel
theorem dL_law_560 : decode cL_law 560 = .ok (.invokevirtual 80, 3) := by decide +kernel
theorem dL_law_563 : decode cL_law 563 = .ok (.if_icmp .eq 314, 3) := by decide +kernel
theorem dL_law_566 : decode cL_law 566 = .ok (.iconst 0, 1) := by decide +kernel
theorem dL_law_567 : decode cL_law 567 = .ok (.ireturn, 1) := by decide +kernel
theorem dL_law_568 : decode cL_law 568 = .ok (.aload_n 1, 1) := by decide +kernel
theorem dL_law_569 : decode cL_law 569 = .ok (.aload_n 0, 1) := by decide +kernel
theorem dL_law_570 : decode cL_law 570 = .ok (.iload_n 3, 1) := by decide +kernel
theorem dL_law_571 : decode cL_law 571 = .ok (.iconst 1, 1) := by decide +kernel
theorem dL_law_572 : decode cL_law 572 = .ok (.iadd, 1) := by decide +kernel
theorem dL_law_573 : decode cL_law 573 = .ok (.iaload, 1) := by decide +kernel
theorem dL_law_574 : decode cL_law 574 = .ok (.aload_n 0, 1) := by decide +kernel
theorem dL_law_575 : decode cL_law 575 = .ok (.iload_n 3, 1) := by decide +kernel
theorem dL_law_576 : decode cL_law 576 = .ok (.iconst 2, 1) := by decide +kernel
theorem dL_law_577 : decode cL_law 577 = .ok (.iadd, 1) := by decide +kernel
theorem dL_law_578 : decode cL_law 578 = .ok (.iaload, 1) := by decide +kernel
theorem dL_law_579 : decode cL_law 579 = .ok (.aload_n 0, 1) := by decide +kernel
theorem dL_law_580 : decode cL_law 580 = .ok (.iload_n 3, 1) := by decide +kernel
theorem dL_law_581 : decode cL_law 581 = .ok (.iconst 3, 1) := by decide +kernel
theorem dL_law_582 : decode cL_law 582 = .ok (.iadd, 1) := by decide +kernel
theorem dL_law_583 : decode cL_law 583 = .ok (.iaload, 1) := by decide +kernel
theorem dL_law_584 : decode cL_law 584 = .ok (.invokevirtual 81, 3) := by decide +kernel
theorem dL_law_587 : decode cL_law 587 = .ok (.aload_n 2, 1) := by decide +kernel
theorem dL_law_588 : decode cL_law 588 = .ok (.aload_n 0, 1) := by decide +kernel
theorem dL_law_589 : decode cL_law 589 = .ok (.iload_n 3, 1) := by decide +kernel
theorem dL_law_590 : decode cL_law 590 = .ok (.iconst 1, 1) := by decide +kernel
theorem dL_law_591 : decode cL_law 591 = .ok (.iadd, 1) := by decide +kernel
theorem dL_law_592 : decode cL_law 592 = .ok (.iaload, 1) := by decide +kernel
theorem dL_law_593 : decode cL_law 593 = .ok (.aload_n 0, 1) := by decide +kernel
theorem dL_law_594 : decode cL_law 594 = .ok (.iload_n 3, 1) := by decide +kernel
theorem dL_law_595 : decode cL_law 595 = .ok (.iconst 2, 1) := by decide +kernel
theorem dL_law_596 : decode cL_law 596 = .ok (.iadd, 1) := by decide +kernel
theorem dL_law_597 : decode cL_law 597 = .ok (.iaload, 1) := by decide +kernel
theorem dL_law_598 : decode cL_law 598 = .ok (.aload_n 0, 1) := by decide +kernel
theorem dL_law_599 : decode cL_law 599 = .ok (.iload_n 3, 1) := by decide +kernel
theorem dL_law_600 : decode cL_law 600 = .ok (.iconst 3, 1) := by decide +kernel
theorem dL_law_601 : decode cL_law 601 = .ok (.iadd, 1) := by decide +kernel
theorem dL_law_602 : decode cL_law 602 = .ok (.iaload, 1) := by decide +kernel
theorem dL_law_603 : decode cL_law 603 = .ok (.invokevirtual 84, 3) := by decide +kernel
theorem dL_law_606 : decode cL_law 606 = .ok (.if_icmp .eq 271, 3) := by decide +kernel
theorem dL_law_609 : decode cL_law 609 = .ok (.iconst 0, 1) := by decide +kernel
theorem dL_law_610 : decode cL_law 610 = .ok (.ireturn, 1) := by decide +kernel
theorem dL_law_611 : decode cL_law 611 = .ok (.aload_n 1, 1) := by decide +kernel
theorem dL_law_612 : decode cL_law 612 = .ok (.aload_n 0, 1) := by decide +kernel
theorem dL_law_613 : decode cL_law 613 = .ok (.iload_n 3, 1) := by decide +kernel
theorem dL_law_614 : decode cL_law 614 = .ok (.iconst 1, 1) := by decide +kernel
theorem dL_law_615 : decode cL_law 615 = .ok (.iadd, 1) := by decide +kernel
theorem dL_law_616 : decode cL_law 616 = .ok (.iaload, 1) := by decide +kernel
theorem dL_law_617 : decode cL_law 617 = .ok (.aload_n 0, 1) := by decide +kernel
theorem dL_law_618 : decode cL_law 618 = .ok (.iload_n 3, 1) := by decide +kernel
theorem dL_law_619 : decode cL_law 619 = .ok (.iconst 2, 1) := by decide +kernel
theorem dL_law_620 : decode cL_law 620 = .ok (.iadd, 1) := by decide +kernel
theorem dL_law_621 : decode cL_law 621 = .ok (.iaload, 1) := by decide +kernel
theorem dL_law_622 : decode cL_law 622 = .ok (.aload_n 0, 1) := by decide +kernel
theorem dL_law_623 : decode cL_law 623 = .ok (.iload_n 3, 1) := by decide +kernel
theorem dL_law_624 : decode cL_law 624 = .ok (.iconst 3, 1) := by decide +kernel
theorem dL_law_625 : decode cL_law 625 = .ok (.iadd, 1) := by decide +kernel
theorem dL_law_626 : decode cL_law 626 = .ok (.iaload, 1) := by decide +kernel
theorem dL_law_627 : decode cL_law 627 = .ok (.invokevirtual 85, 3) := by decide +kernel
theorem dL_law_630 : decode cL_law 630 = .ok (.aload_n 2, 1) := by decide +kernel
theorem dL_law_631 : decode cL_law 631 = .ok (.aload_n 0, 1) := by decide +kernel
theorem dL_law_632 : decode cL_law 632 = .ok (.iload_n 3, 1) := by decide +kernel
theorem dL_law_633 : decode cL_law 633 = .ok (.iconst 1, 1) := by decide +kernel
theorem dL_law_634 : decode cL_law 634 = .ok (.iadd, 1) := by decide +kernel
theorem dL_law_635 : decode cL_law 635 = .ok (.iaload, 1) := by decide +kernel
theorem dL_law_636 : decode cL_law 636 = .ok (.aload_n 0, 1) := by decide +kernel
theorem dL_law_637 : decode cL_law 637 = .ok (.iload_n 3, 1) := by decide +kernel
theorem dL_law_638 : decode cL_law 638 = .ok (.iconst 2, 1) := by decide +kernel
theorem dL_law_639 : decode cL_law 639 = .ok (.iadd, 1) := by decide +kernel
theorem dL_law_640 : decode cL_law 640 = .ok (.iaload, 1) := by decide +kernel
theorem dL_law_641 : decode cL_law 641 = .ok (.aload_n 0, 1) := by decide +kernel
theorem dL_law_642 : decode cL_law 642 = .ok (.iload_n 3, 1) := by decide +kernel
theorem dL_law_643 : decode cL_law 643 = .ok (.iconst 3, 1) := by decide +kernel
theorem dL_law_644 : decode cL_law 644 = .ok (.iadd, 1) := by decide +kernel
theorem dL_law_645 : decode cL_law 645 = .ok (.iaload, 1) := by decide +kernel
theorem dL_law_646 : decode cL_law 646 = .ok (.invokevirtual 88, 3) := by decide +kernel
theorem dL_law_649 : decode cL_law 649 = .ok (.if_icmp .eq 228, 3) := by decide +kernel
theorem dL_law_652 : decode cL_law 652 = .ok (.iconst 0, 1) := by decide +kernel
theorem dL_law_653 : decode cL_law 653 = .ok (.ireturn, 1) := by decide +kernel
theorem dL_law_654 : decode cL_law 654 = .ok (.aload_n 1, 1) := by decide +kernel
theorem dL_law_655 : decode cL_law 655 = .ok (.aload_n 0, 1) := by decide +kernel
theorem dL_law_656 : decode cL_law 656 = .ok (.iload_n 3, 1) := by decide +kernel
theorem dL_law_657 : decode cL_law 657 = .ok (.iconst 1, 1) := by decide +kernel
theorem dL_law_658 : decode cL_law 658 = .ok (.iadd, 1) := by decide +kernel
theorem dL_law_659 : decode cL_law 659 = .ok (.iaload, 1) := by decide +kernel
theorem dL_law_660 : decode cL_law 660 = .ok (.invokevirtual 89, 3) := by decide +kernel
theorem dL_law_663 : decode cL_law 663 = .ok (.aload_n 2, 1) := by decide +kernel
theorem dL_law_664 : decode cL_law 664 = .ok (.aload_n 0, 1) := by decide +kernel
theorem dL_law_665 : decode cL_law 665 = .ok (.iload_n 3, 1) := by decide +kernel
theorem dL_law_666 : decode cL_law 666 = .ok (.iconst 1, 1) := by decide +kernel
theorem dL_law_667 : decode cL_law 667 = .ok (.iadd, 1) := by decide +kernel
theorem dL_law_668 : decode cL_law 668 = .ok (.iaload, 1) := by decide +kernel
theorem dL_law_669 : decode cL_law 669 = .ok (.invokevirtual 92, 3) := by decide +kernel
theorem dL_law_672 : decode cL_law 672 = .ok (.if_icmp .eq 205, 3) := by decide +kernel
theorem dL_law_675 : decode cL_law 675 = .ok (.iconst 0, 1) := by decide +kernel
theorem dL_law_676 : decode cL_law 676 = .ok (.ireturn, 1) := by decide +kernel
theorem dL_law_677 : decode cL_law 677 = .ok (.aload_n 1, 1) := by decide +kernel
theorem dL_law_678 : decode cL_law 678 = .ok (.aload_n 0, 1) := by decide +kernel
theorem dL_law_679 : decode cL_law 679 = .ok (.iload_n 3, 1) := by decide +kernel
theorem dL_law_680 : decode cL_law 680 = .ok (.iconst 1, 1) := by decide +kernel
theorem dL_law_681 : decode cL_law 681 = .ok (.iadd, 1) := by decide +kernel
theorem dL_law_682 : decode cL_law 682 = .ok (.iaload, 1) := by decide +kernel
theorem dL_law_683 : decode cL_law 683 = .ok (.invokevirtual 93, 3) := by decide +kernel
theorem dL_law_686 : decode cL_law 686 = .ok (.aload_n 2, 1) := by decide +kernel
theorem dL_law_687 : decode cL_law 687 = .ok (.aload_n 0, 1) := by decide +kernel
theorem dL_law_688 : decode cL_law 688 = .ok (.iload_n 3, 1) := by decide +kernel
theorem dL_law_689 : decode cL_law 689 = .ok (.iconst 1, 1) := by decide +kernel
theorem dL_law_690 : decode cL_law 690 = .ok (.iadd, 1) := by decide +kernel
theorem dL_law_691 : decode cL_law 691 = .ok (.iaload, 1) := by decide +kernel
theorem dL_law_692 : decode cL_law 692 = .ok (.invokevirtual 96, 3) := by decide +kernel
theorem dL_law_695 : decode cL_law 695 = .ok (.if_icmp .eq 182, 3) := by decide +kernel
theorem dL_law_698 : decode cL_law 698 = .ok (.iconst 0, 1) := by decide +kernel
theorem dL_law_699 : decode cL_law 699 = .ok (.ireturn, 1) := by decide +kernel
theorem dL_law_700 : decode cL_law 700 = .ok (.aload_n 1, 1) := by decide +kernel
theorem dL_law_701 : decode cL_law 701 = .ok (.aload_n 0, 1) := by decide +kernel
theorem dL_law_702 : decode cL_law 702 = .ok (.iload_n 3, 1) := by decide +kernel
theorem dL_law_703 : decode cL_law 703 = .ok (.iconst 1, 1) := by decide +kernel
theorem dL_law_704 : decode cL_law 704 = .ok (.iadd, 1) := by decide +kernel
theorem dL_law_705 : decode cL_law 705 = .ok (.iaload, 1) := by decide +kernel
theorem dL_law_706 : decode cL_law 706 = .ok (.aload_n 0, 1) := by decide +kernel
theorem dL_law_707 : decode cL_law 707 = .ok (.iload_n 3, 1) := by decide +kernel
theorem dL_law_708 : decode cL_law 708 = .ok (.iconst 2, 1) := by decide +kernel
theorem dL_law_709 : decode cL_law 709 = .ok (.iadd, 1) := by decide +kernel
theorem dL_law_710 : decode cL_law 710 = .ok (.iaload, 1) := by decide +kernel
theorem dL_law_711 : decode cL_law 711 = .ok (.invokevirtual 97, 3) := by decide +kernel
theorem dL_law_714 : decode cL_law 714 = .ok (.aload_n 2, 1) := by decide +kernel
theorem dL_law_715 : decode cL_law 715 = .ok (.aload_n 0, 1) := by decide +kernel
theorem dL_law_716 : decode cL_law 716 = .ok (.iload_n 3, 1) := by decide +kernel
theorem dL_law_717 : decode cL_law 717 = .ok (.iconst 1, 1) := by decide +kernel
theorem dL_law_718 : decode cL_law 718 = .ok (.iadd, 1) := by decide +kernel
theorem dL_law_719 : decode cL_law 719 = .ok (.iaload, 1) := by decide +kernel
theorem dL_law_720 : decode cL_law 720 = .ok (.aload_n 0, 1) := by decide +kernel
theorem dL_law_721 : decode cL_law 721 = .ok (.iload_n 3, 1) := by decide +kernel
theorem dL_law_722 : decode cL_law 722 = .ok (.iconst 2, 1) := by decide +kernel
theorem dL_law_723 : decode cL_law 723 = .ok (.iadd, 1) := by decide +kernel
theorem dL_law_724 : decode cL_law 724 = .ok (.iaload, 1) := by decide +kernel
theorem dL_law_725 : decode cL_law 725 = .ok (.invokevirtual 100, 3) := by decide +kernel
theorem dL_law_728 : decode cL_law 728 = .ok (.if_icmp .eq 149, 3) := by decide +kernel
theorem dL_law_731 : decode cL_law 731 = .ok (.iconst 0, 1) := by decide +kernel
theorem dL_law_732 : decode cL_law 732 = .ok (.ireturn, 1) := by decide +kernel
theorem dL_law_733 : decode cL_law 733 = .ok (.aload_n 1, 1) := by decide +kernel
theorem dL_law_734 : decode cL_law 734 = .ok (.aload_n 0, 1) := by decide +kernel
theorem dL_law_735 : decode cL_law 735 = .ok (.iload_n 3, 1) := by decide +kernel
theorem dL_law_736 : decode cL_law 736 = .ok (.iconst 1, 1) := by decide +kernel
theorem dL_law_737 : decode cL_law 737 = .ok (.iadd, 1) := by decide +kernel
theorem dL_law_738 : decode cL_law 738 = .ok (.iaload, 1) := by decide +kernel
theorem dL_law_739 : decode cL_law 739 = .ok (.aload_n 0, 1) := by decide +kernel
theorem dL_law_740 : decode cL_law 740 = .ok (.iload_n 3, 1) := by decide +kernel
theorem dL_law_741 : decode cL_law 741 = .ok (.iconst 2, 1) := by decide +kernel
theorem dL_law_742 : decode cL_law 742 = .ok (.iadd, 1) := by decide +kernel
theorem dL_law_743 : decode cL_law 743 = .ok (.iaload, 1) := by decide +kernel
theorem dL_law_744 : decode cL_law 744 = .ok (.invokevirtual 101, 3) := by decide +kernel
theorem dL_law_747 : decode cL_law 747 = .ok (.aload_n 2, 1) := by decide +kernel
theorem dL_law_748 : decode cL_law 748 = .ok (.aload_n 0, 1) := by decide +kernel
theorem dL_law_749 : decode cL_law 749 = .ok (.iload_n 3, 1) := by decide +kernel
theorem dL_law_750 : decode cL_law 750 = .ok (.iconst 1, 1) := by decide +kernel
theorem dL_law_751 : decode cL_law 751 = .ok (.iadd, 1) := by decide +kernel
theorem dL_law_752 : decode cL_law 752 = .ok (.iaload, 1) := by decide +kernel
theorem dL_law_753 : decode cL_law 753 = .ok (.aload_n 0, 1) := by decide +kernel
theorem dL_law_754 : decode cL_law 754 = .ok (.iload_n 3, 1) := by decide +kernel
theorem dL_law_755 : decode cL_law 755 = .ok (.iconst 2, 1) := by decide +kernel
theorem dL_law_756 : decode cL_law 756 = .ok (.iadd, 1) := by decide +kernel
theorem dL_law_757 : decode cL_law 757 = .ok (.iaload, 1) := by decide +kernel
theorem dL_law_758 : decode cL_law 758 = .ok (.invokevirtual 104, 3) := by decide +kernel
theorem dL_law_761 : decode cL_law 761 = .ok (.if_icmp .eq 116, 3) := by decide +kernel
theorem dL_law_764 : decode cL_law 764 = .ok (.iconst 0, 1) := by decide +kernel
theorem dL_law_765 : decode cL_law 765 = .ok (.ireturn, 1) := by decide +kernel
theorem dL_law_766 : decode cL_law 766 = .ok (.aload_n 1, 1) := by decide +kernel
theorem dL_law_767 : decode cL_law 767 = .ok (.invokevirtual 105, 3) := by decide +kernel
theorem dL_law_770 : decode cL_law 770 = .ok (.aload_n 2, 1) := by decide +kernel
theorem dL_law_771 : decode cL_law 771 = .ok (.invokevirtual 109, 3) := by decide +kernel
theorem dL_law_774 : decode cL_law 774 = .ok (.lcmp, 1) := by decide +kernel
theorem dL_law_775 : decode cL_law 775 = .ok (.ifCond .eq 102, 3) := by decide +kernel
theorem dL_law_778 : decode cL_law 778 = .ok (.iconst 0, 1) := by decide +kernel
theorem dL_law_779 : decode cL_law 779 = .ok (.ireturn, 1) := by decide +kernel
theorem dL_law_780 : decode cL_law 780 = .ok (.aload_n 1, 1) := by decide +kernel
theorem dL_law_781 : decode cL_law 781 = .ok (.invokevirtual 110, 3) := by decide +kernel
theorem dL_law_784 : decode cL_law 784 = .ok (.aload_n 2, 1) := by decide +kernel
theorem dL_law_785 : decode cL_law 785 = .ok (.invokevirtual 113, 3) := by decide +kernel
theorem dL_law_788 : decode cL_law 788 = .ok (.lcmp, 1) := by decide +kernel
theorem dL_law_789 : decode cL_law 789 = .ok (.ifCond .eq 88, 3) := by decide +kernel
theorem dL_law_792 : decode cL_law 792 = .ok (.iconst 0, 1) := by decide +kernel
theorem dL_law_793 : decode cL_law 793 = .ok (.ireturn, 1) := by decide +kernel
theorem dL_law_794 : decode cL_law 794 = .ok (.aload_n 1, 1) := by decide +kernel
theorem dL_law_795 : decode cL_law 795 = .ok (.invokevirtual 114, 3) := by decide +kernel
theorem dL_law_798 : decode cL_law 798 = .ok (.aload_n 2, 1) := by decide +kernel
theorem dL_law_799 : decode cL_law 799 = .ok (.invokevirtual 117, 3) := by decide +kernel
theorem dL_law_802 : decode cL_law 802 = .ok (.lcmp, 1) := by decide +kernel
theorem dL_law_803 : decode cL_law 803 = .ok (.ifCond .eq 74, 3) := by decide +kernel
theorem dL_law_806 : decode cL_law 806 = .ok (.iconst 0, 1) := by decide +kernel
theorem dL_law_807 : decode cL_law 807 = .ok (.ireturn, 1) := by decide +kernel
theorem dL_law_808 : decode cL_law 808 = .ok (.aload_n 1, 1) := by decide +kernel
theorem dL_law_809 : decode cL_law 809 = .ok (.aload_n 0, 1) := by decide +kernel
theorem dL_law_810 : decode cL_law 810 = .ok (.iload_n 3, 1) := by decide +kernel
theorem dL_law_811 : decode cL_law 811 = .ok (.iconst 1, 1) := by decide +kernel
theorem dL_law_812 : decode cL_law 812 = .ok (.iadd, 1) := by decide +kernel
theorem dL_law_813 : decode cL_law 813 = .ok (.iaload, 1) := by decide +kernel
theorem dL_law_814 : decode cL_law 814 = .ok (.invokevirtual 118, 3) := by decide +kernel
theorem dL_law_817 : decode cL_law 817 = .ok (.aload_n 2, 1) := by decide +kernel
theorem dL_law_818 : decode cL_law 818 = .ok (.aload_n 0, 1) := by decide +kernel
theorem dL_law_819 : decode cL_law 819 = .ok (.iload_n 3, 1) := by decide +kernel
theorem dL_law_820 : decode cL_law 820 = .ok (.iconst 1, 1) := by decide +kernel
theorem dL_law_821 : decode cL_law 821 = .ok (.iadd, 1) := by decide +kernel
theorem dL_law_822 : decode cL_law 822 = .ok (.iaload, 1) := by decide +kernel
theorem dL_law_823 : decode cL_law 823 = .ok (.invokevirtual 121, 3) := by decide +kernel
theorem dL_law_826 : decode cL_law 826 = .ok (.if_icmp .eq 51, 3) := by decide +kernel
theorem dL_law_829 : decode cL_law 829 = .ok (.iconst 0, 1) := by decide +kernel
theorem dL_law_830 : decode cL_law 830 = .ok (.ireturn, 1) := by decide +kernel
theorem dL_law_831 : decode cL_law 831 = .ok (.aload_n 1, 1) := by decide +kernel
theorem dL_law_832 : decode cL_law 832 = .ok (.aload_n 0, 1) := by decide +kernel
theorem dL_law_833 : decode cL_law 833 = .ok (.iload_n 3, 1) := by decide +kernel
theorem dL_law_834 : decode cL_law 834 = .ok (.iconst 1, 1) := by decide +kernel
theorem dL_law_835 : decode cL_law 835 = .ok (.iadd, 1) := by decide +kernel
theorem dL_law_836 : decode cL_law 836 = .ok (.iaload, 1) := by decide +kernel
theorem dL_law_837 : decode cL_law 837 = .ok (.invokevirtual 122, 3) := by decide +kernel
theorem dL_law_840 : decode cL_law 840 = .ok (.aload_n 2, 1) := by decide +kernel
theorem dL_law_841 : decode cL_law 841 = .ok (.aload_n 0, 1) := by decide +kernel
theorem dL_law_842 : decode cL_law 842 = .ok (.iload_n 3, 1) := by decide +kernel
theorem dL_law_843 : decode cL_law 843 = .ok (.iconst 1, 1) := by decide +kernel
theorem dL_law_844 : decode cL_law 844 = .ok (.iadd, 1) := by decide +kernel
theorem dL_law_845 : decode cL_law 845 = .ok (.iaload, 1) := by decide +kernel
theorem dL_law_846 : decode cL_law 846 = .ok (.invokevirtual 125, 3) := by decide +kernel
theorem dL_law_849 : decode cL_law 849 = .ok (.if_icmp .eq 28, 3) := by decide +kernel
theorem dL_law_852 : decode cL_law 852 = .ok (.iconst 0, 1) := by decide +kernel
theorem dL_law_853 : decode cL_law 853 = .ok (.ireturn, 1) := by decide +kernel
theorem dL_law_854 : decode cL_law 854 = .ok (.aload_n 1, 1) := by decide +kernel
theorem dL_law_855 : decode cL_law 855 = .ok (.aload_n 0, 1) := by decide +kernel
theorem dL_law_856 : decode cL_law 856 = .ok (.iload_n 3, 1) := by decide +kernel
theorem dL_law_857 : decode cL_law 857 = .ok (.iconst 1, 1) := by decide +kernel
theorem dL_law_858 : decode cL_law 858 = .ok (.iadd, 1) := by decide +kernel
theorem dL_law_859 : decode cL_law 859 = .ok (.iaload, 1) := by decide +kernel
theorem dL_law_860 : decode cL_law 860 = .ok (.invokevirtual 126, 3) := by decide +kernel
theorem dL_law_863 : decode cL_law 863 = .ok (.aload_n 2, 1) := by decide +kernel
theorem dL_law_864 : decode cL_law 864 = .ok (.aload_n 0, 1) := by decide +kernel
theorem dL_law_865 : decode cL_law 865 = .ok (.iload_n 3, 1) := by decide +kernel
theorem dL_law_866 : decode cL_law 866 = .ok (.iconst 1, 1) := by decide +kernel
theorem dL_law_867 : decode cL_law 867 = .ok (.iadd, 1) := by decide +kernel
theorem dL_law_868 : decode cL_law 868 = .ok (.iaload, 1) := by decide +kernel
theorem dL_law_869 : decode cL_law 869 = .ok (.invokevirtual 129, 3) := by decide +kernel
theorem dL_law_872 : decode cL_law 872 = .ok (.if_icmp .eq 5, 3) := by decide +kernel
theorem dL_law_875 : decode cL_law 875 = .ok (.iconst 0, 1) := by decide +kernel
theorem dL_law_876 : decode cL_law 876 = .ok (.ireturn, 1) := by decide +kernel
theorem dL_law_877 : decode cL_law 877 = .ok (.iinc 3 4, 3) := by decide +kernel
theorem dL_law_880 : decode cL_law 880 = .ok (.goto (-862), 3) := by decide +kernel
theorem dL_law_883 : decode cL_law 883 = .ok (.iconst 1, 1) := by decide +kernel
theorem dL_law_884 : decode cL_law 884 = .ok (.ireturn, 1) := by decide +kernel
theorem dX0_init_0 : decode cX0_init 0 = .ok (.aload_n 0, 1) := by decide +kernel
theorem dX0_init_1 : decode cX0_init 1 = .ok (.invokespecial 3, 3) := by decide +kernel
theorem dX0_init_4 : decode cX0_init 4 = .ok (.aload_n 0, 1) := by decide +kernel
theorem dX0_init_5 : decode cX0_init 5 = .ok (.new 9, 3) := by decide +kernel
theorem dX0_init_8 : decode cX0_init 8 = .ok (.dup, 1) := by decide +kernel
theorem dX0_init_9 : decode cX0_init 9 = .ok (.invokespecial 11, 3) := by decide +kernel
theorem dX0_init_12 : decode cX0_init 12 = .ok (.putfield 12, 3) := by decide +kernel
theorem dX0_init_15 : decode cX0_init 15 = .ok (.aload_n 0, 1) := by decide +kernel
theorem dX0_init_16 : decode cX0_init 16 = .ok (.iconst 4, 1) := by decide +kernel
theorem dX0_init_17 : decode cX0_init 17 = .ok (.newarray .int, 2) := by decide +kernel
theorem dX0_init_19 : decode cX0_init 19 = .ok (.putfield 18, 3) := by decide +kernel
theorem dX0_init_22 : decode cX0_init 22 = .ok (.aload_n 0, 1) := by decide +kernel
theorem dX0_init_23 : decode cX0_init 23 = .ok (.iconst 4, 1) := by decide +kernel
theorem dX0_init_24 : decode cX0_init 24 = .ok (.newarray .int, 2) := by decide +kernel
theorem dX0_init_26 : decode cX0_init 26 = .ok (.putfield 22, 3) := by decide +kernel
theorem dX0_init_29 : decode cX0_init 29 = .ok (.aload_n 0, 1) := by decide +kernel
theorem dX0_init_30 : decode cX0_init 30 = .ok (.iconst 0, 1) := by decide +kernel
theorem dX0_init_31 : decode cX0_init 31 = .ok (.putfield 25, 3) := by decide +kernel
theorem dX0_init_34 : decode cX0_init 34 = .ok (.aload_n 0, 1) := by decide +kernel
theorem dX0_init_35 : decode cX0_init 35 = .ok (.lconst 0, 1) := by decide +kernel
theorem dX0_init_36 : decode cX0_init 36 = .ok (.putfield 29, 3) := by decide +kernel
theorem dX0_init_39 : decode cX0_init 39 = .ok (.aload_n 0, 1) := by decide +kernel
theorem dX0_init_40 : decode cX0_init 40 = .ok (.iconst 0, 1) := by decide +kernel
theorem dX0_init_41 : decode cX0_init 41 = .ok (.putfield 33, 3) := by decide +kernel
theorem dX0_init_44 : decode cX0_init 44 = .ok (.return_, 1) := by decide +kernel
theorem dX0_examine_0 : decode cX0_examine 0 = .ok (.iload_n 1, 1) := by decide +kernel
theorem dX0_examine_1 : decode cX0_examine 1 = .ok (.invokestatic 37, 3) := by decide +kernel
theorem dX0_examine_4 : decode cX0_examine 4 = .ok (.iconst 4, 1) := by decide +kernel
theorem dX0_examine_5 : decode cX0_examine 5 = .ok (.if_icmp .le 5, 3) := by decide +kernel
theorem dX0_examine_8 : decode cX0_examine 8 = .ok (.iconst 0, 1) := by decide +kernel
theorem dX0_examine_9 : decode cX0_examine 9 = .ok (.ireturn, 1) := by decide +kernel
theorem dX0_examine_10 : decode cX0_examine 10 = .ok (.aload_n 0, 1) := by decide +kernel
theorem dX0_examine_11 : decode cX0_examine 11 = .ok (.iconst 0, 1) := by decide +kernel
theorem dX0_examine_12 : decode cX0_examine 12 = .ok (.putfield 25, 3) := by decide +kernel
theorem dX0_examine_15 : decode cX0_examine 15 = .ok (.iconst 0, 1) := by decide +kernel
theorem dX0_examine_16 : decode cX0_examine 16 = .ok (.istore_n 2, 1) := by decide +kernel
theorem dX0_examine_17 : decode cX0_examine 17 = .ok (.iload_n 2, 1) := by decide +kernel
theorem dX0_examine_18 : decode cX0_examine 18 = .ok (.aload_n 0, 1) := by decide +kernel
theorem dX0_examine_19 : decode cX0_examine 19 = .ok (.getfield 12, 3) := by decide +kernel
theorem dX0_examine_22 : decode cX0_examine 22 = .ok (.getfield 43, 3) := by decide +kernel
theorem dX0_examine_25 : decode cX0_examine 25 = .ok (.if_icmp .ge 45, 3) := by decide +kernel
theorem dX0_examine_28 : decode cX0_examine 28 = .ok (.aload_n 0, 1) := by decide +kernel
theorem dX0_examine_29 : decode cX0_examine 29 = .ok (.getfield 25, 3) := by decide +kernel
theorem dX0_examine_32 : decode cX0_examine 32 = .ok (.iconst 4, 1) := by decide +kernel
theorem dX0_examine_33 : decode cX0_examine 33 = .ok (.if_icmp .ge 37, 3) := by decide +kernel
theorem dX0_examine_36 : decode cX0_examine 36 = .ok (.iload_n 1, 1) := by decide +kernel
theorem dX0_examine_37 : decode cX0_examine 37 = .ok (.iload_n 2, 1) := by decide +kernel
theorem dX0_examine_38 : decode cX0_examine 38 = .ok (.ishr, 1) := by decide +kernel
theorem dX0_examine_39 : decode cX0_examine 39 = .ok (.iconst 1, 1) := by decide +kernel
theorem dX0_examine_40 : decode cX0_examine 40 = .ok (.iand, 1) := by decide +kernel
theorem dX0_examine_41 : decode cX0_examine 41 = .ok (.ifCond .eq 23, 3) := by decide +kernel
theorem dX0_examine_44 : decode cX0_examine 44 = .ok (.aload_n 0, 1) := by decide +kernel
theorem dX0_examine_45 : decode cX0_examine 45 = .ok (.getfield 18, 3) := by decide +kernel
theorem dX0_examine_48 : decode cX0_examine 48 = .ok (.aload_n 0, 1) := by decide +kernel
theorem dX0_examine_49 : decode cX0_examine 49 = .ok (.getfield 25, 3) := by decide +kernel
theorem dX0_examine_52 : decode cX0_examine 52 = .ok (.iload_n 2, 1) := by decide +kernel
theorem dX0_examine_53 : decode cX0_examine 53 = .ok (.iastore, 1) := by decide +kernel
theorem dX0_examine_54 : decode cX0_examine 54 = .ok (.aload_n 0, 1) := by decide +kernel
theorem dX0_examine_55 : decode cX0_examine 55 = .ok (.dup, 1) := by decide +kernel
theorem dX0_examine_56 : decode cX0_examine 56 = .ok (.getfield 25, 3) := by decide +kernel
theorem dX0_examine_59 : decode cX0_examine 59 = .ok (.iconst 1, 1) := by decide +kernel
theorem dX0_examine_60 : decode cX0_examine 60 = .ok (.iadd, 1) := by decide +kernel
theorem dX0_examine_61 : decode cX0_examine 61 = .ok (.putfield 25, 3) := by decide +kernel
theorem dX0_examine_64 : decode cX0_examine 64 = .ok (.iinc 2 1, 3) := by decide +kernel
theorem dX0_examine_67 : decode cX0_examine 67 = .ok (.goto (-50), 3) := by decide +kernel
theorem dX0_examine_70 : decode cX0_examine 70 = .ok (.aload_n 0, 1) := by decide +kernel
theorem dX0_examine_71 : decode cX0_examine 71 = .ok (.getfield 25, 3) := by decide +kernel
theorem dX0_examine_74 : decode cX0_examine 74 = .ok (.iconst 2, 1) := by decide +kernel
theorem dX0_examine_75 : decode cX0_examine 75 = .ok (.if_icmp .ne 35, 3) := by decide +kernel
theorem dX0_examine_78 : decode cX0_examine 78 = .ok (.aload_n 0, 1) := by decide +kernel
theorem dX0_examine_79 : decode cX0_examine 79 = .ok (.aload_n 0, 1) := by decide +kernel
theorem dX0_examine_80 : decode cX0_examine 80 = .ok (.getfield 18, 3) := by decide +kernel
theorem dX0_examine_83 : decode cX0_examine 83 = .ok (.iconst 0, 1) := by decide +kernel
theorem dX0_examine_84 : decode cX0_examine 84 = .ok (.iaload, 1) := by decide +kernel
theorem dX0_examine_85 : decode cX0_examine 85 = .ok (.aload_n 0, 1) := by decide +kernel
theorem dX0_examine_86 : decode cX0_examine 86 = .ok (.getfield 18, 3) := by decide +kernel
theorem dX0_examine_89 : decode cX0_examine 89 = .ok (.iconst 1, 1) := by decide +kernel
theorem dX0_examine_90 : decode cX0_examine 90 = .ok (.iaload, 1) := by decide +kernel
theorem dX0_examine_91 : decode cX0_examine 91 = .ok (.invokevirtual 44, 3) := by decide +kernel
theorem dX0_examine_94 : decode cX0_examine 94 = .ok (.ifCond .eq 14, 3) := by decide +kernel
theorem dX0_examine_97 : decode cX0_examine 97 = .ok (.aload_n 0, 1) := by decide +kernel
theorem dX0_examine_98 : decode cX0_examine 98 = .ok (.invokevirtual 48, 3) := by decide +kernel
theorem dX0_examine_101 : decode cX0_examine 101 = .ok (.ifCond .eq 7, 3) := by decide +kernel
theorem dX0_examine_104 : decode cX0_examine 104 = .ok (.iconst 1, 1) := by decide +kernel
theorem dX0_examine_105 : decode cX0_examine 105 = .ok (.goto 4, 3) := by decide +kernel
theorem dX0_examine_108 : decode cX0_examine 108 = .ok (.iconst 0, 1) := by decide +kernel
theorem dX0_examine_109 : decode cX0_examine 109 = .ok (.ireturn, 1) := by decide +kernel
theorem dX0_examine_110 : decode cX0_examine 110 = .ok (.aload_n 0, 1) := by decide +kernel
theorem dX0_examine_111 : decode cX0_examine 111 = .ok (.getfield 25, 3) := by decide +kernel
theorem dX0_examine_114 : decode cX0_examine 114 = .ok (.iconst 3, 1) := by decide +kernel
theorem dX0_examine_115 : decode cX0_examine 115 = .ok (.if_icmp .ne 41, 3) := by decide +kernel
theorem dX0_examine_118 : decode cX0_examine 118 = .ok (.aload_n 0, 1) := by decide +kernel
theorem dX0_examine_119 : decode cX0_examine 119 = .ok (.aload_n 0, 1) := by decide +kernel
theorem dX0_examine_120 : decode cX0_examine 120 = .ok (.getfield 18, 3) := by decide +kernel
theorem dX0_examine_123 : decode cX0_examine 123 = .ok (.iconst 0, 1) := by decide +kernel
theorem dX0_examine_124 : decode cX0_examine 124 = .ok (.iaload, 1) := by decide +kernel
theorem dX0_examine_125 : decode cX0_examine 125 = .ok (.aload_n 0, 1) := by decide +kernel
theorem dX0_examine_126 : decode cX0_examine 126 = .ok (.getfield 18, 3) := by decide +kernel
theorem dX0_examine_129 : decode cX0_examine 129 = .ok (.iconst 1, 1) := by decide +kernel
theorem dX0_examine_130 : decode cX0_examine 130 = .ok (.iaload, 1) := by decide +kernel
theorem dX0_examine_131 : decode cX0_examine 131 = .ok (.aload_n 0, 1) := by decide +kernel
theorem dX0_examine_132 : decode cX0_examine 132 = .ok (.getfield 18, 3) := by decide +kernel
theorem dX0_examine_135 : decode cX0_examine 135 = .ok (.iconst 2, 1) := by decide +kernel
theorem dX0_examine_136 : decode cX0_examine 136 = .ok (.iaload, 1) := by decide +kernel
theorem dX0_examine_137 : decode cX0_examine 137 = .ok (.invokevirtual 52, 3) := by decide +kernel
theorem dX0_examine_140 : decode cX0_examine 140 = .ok (.ifCond .eq 14, 3) := by decide +kernel
theorem dX0_examine_143 : decode cX0_examine 143 = .ok (.aload_n 0, 1) := by decide +kernel
theorem dX0_examine_144 : decode cX0_examine 144 = .ok (.invokevirtual 48, 3) := by decide +kernel
theorem dX0_examine_147 : decode cX0_examine 147 = .ok (.ifCond .eq 7, 3) := by decide +kernel
theorem dX0_examine_150 : decode cX0_examine 150 = .ok (.iconst 1, 1) := by decide +kernel
theorem dX0_examine_151 : decode cX0_examine 151 = .ok (.goto 4, 3) := by decide +kernel
theorem dX0_examine_154 : decode cX0_examine 154 = .ok (.iconst 0, 1) := by decide +kernel
theorem dX0_examine_155 : decode cX0_examine 155 = .ok (.ireturn, 1) := by decide +kernel
theorem dX0_examine_156 : decode cX0_examine 156 = .ok (.aload_n 0, 1) := by decide +kernel
theorem dX0_examine_157 : decode cX0_examine 157 = .ok (.getfield 25, 3) := by decide +kernel
theorem dX0_examine_160 : decode cX0_examine 160 = .ok (.iconst 4, 1) := by decide +kernel
theorem dX0_examine_161 : decode cX0_examine 161 = .ok (.if_icmp .ne 45, 3) := by decide +kernel
theorem dX0_examine_164 : decode cX0_examine 164 = .ok (.aload_n 0, 1) := by decide +kernel
theorem dX0_examine_165 : decode cX0_examine 165 = .ok (.aload_n 0, 1) := by decide +kernel
theorem dX0_examine_166 : decode cX0_examine 166 = .ok (.getfield 18, 3) := by decide +kernel
theorem dX0_examine_169 : decode cX0_examine 169 = .ok (.iconst 0, 1) := by decide +kernel
theorem dX0_examine_170 : decode cX0_examine 170 = .ok (.iaload, 1) := by decide +kernel
theorem dX0_examine_171 : decode cX0_examine 171 = .ok (.aload_n 0, 1) := by decide +kernel
theorem dX0_examine_172 : decode cX0_examine 172 = .ok (.getfield 18, 3) := by decide +kernel
theorem dX0_examine_175 : decode cX0_examine 175 = .ok (.iconst 1, 1) := by decide +kernel
theorem dX0_examine_176 : decode cX0_examine 176 = .ok (.iaload, 1) := by decide +kernel
theorem dX0_examine_177 : decode cX0_examine 177 = .ok (.aload_n 0, 1) := by decide +kernel
theorem dX0_examine_178 : decode cX0_examine 178 = .ok (.getfield 18, 3) := by decide +kernel
theorem dX0_examine_181 : decode cX0_examine 181 = .ok (.iconst 2, 1) := by decide +kernel
theorem dX0_examine_182 : decode cX0_examine 182 = .ok (.iaload, 1) := by decide +kernel
theorem dX0_examine_183 : decode cX0_examine 183 = .ok (.aload_n 0, 1) := by decide +kernel
theorem dX0_examine_184 : decode cX0_examine 184 = .ok (.getfield 18, 3) := by decide +kernel
theorem dX0_examine_187 : decode cX0_examine 187 = .ok (.iconst 3, 1) := by decide +kernel
theorem dX0_examine_188 : decode cX0_examine 188 = .ok (.iaload, 1) := by decide +kernel
theorem dX0_examine_189 : decode cX0_examine 189 = .ok (.invokevirtual 56, 3) := by decide +kernel
theorem dX0_examine_192 : decode cX0_examine 192 = .ok (.ifCond .eq 14, 3) := by decide +kernel
theorem dX0_examine_195 : decode cX0_examine 195 = .ok (.aload_n 0, 1) := by decide +kernel
theorem dX0_examine_196 : decode cX0_examine 196 = .ok (.invokevirtual 48, 3) := by decide +kernel
theorem dX0_examine_199 : decode cX0_examine 199 = .ok (.ifCond .eq 7, 3) := by decide +kernel
theorem dX0_examine_202 : decode cX0_examine 202 = .ok (.iconst 1, 1) := by decide +kernel
theorem dX0_examine_203 : decode cX0_examine 203 = .ok (.goto 4, 3) := by decide +kernel
theorem dX0_examine_206 : decode cX0_examine 206 = .ok (.iconst 0, 1) := by decide +kernel
theorem dX0_examine_207 : decode cX0_examine 207 = .ok (.ireturn, 1) := by decide +kernel
theorem dX0_setFactors_0 : decode cX0_setFactors 0 = .ok (.aload_n 0, 1) := by decide +kernel
theorem dX0_setFactors_1 : decode cX0_setFactors 1 = .ok (.getfield 22, 3) := by decide +kernel
theorem dX0_setFactors_4 : decode cX0_setFactors 4 = .ok (.iconst 0, 1) := by decide +kernel
theorem dX0_setFactors_5 : decode cX0_setFactors 5 = .ok (.iload_n 1, 1) := by decide +kernel
theorem dX0_setFactors_6 : decode cX0_setFactors 6 = .ok (.iastore, 1) := by decide +kernel
theorem dX0_setFactors_7 : decode cX0_setFactors 7 = .ok (.aload_n 0, 1) := by decide +kernel
theorem dX0_setFactors_8 : decode cX0_setFactors 8 = .ok (.getfield 22, 3) := by decide +kernel
theorem dX0_setFactors_11 : decode cX0_setFactors 11 = .ok (.iconst 1, 1) := by decide +kernel
theorem dX0_setFactors_12 : decode cX0_setFactors 12 = .ok (.iload_n 2, 1) := by decide +kernel
theorem dX0_setFactors_13 : decode cX0_setFactors 13 = .ok (.iastore, 1) := by decide +kernel
theorem dX0_setFactors_14 : decode cX0_setFactors 14 = .ok (.aload_n 0, 1) := by decide +kernel
theorem dX0_setFactors_15 : decode cX0_setFactors 15 = .ok (.getfield 22, 3) := by decide +kernel
theorem dX0_setFactors_18 : decode cX0_setFactors 18 = .ok (.iconst 2, 1) := by decide +kernel
theorem dX0_setFactors_19 : decode cX0_setFactors 19 = .ok (.iload_n 3, 1) := by decide +kernel
theorem dX0_setFactors_20 : decode cX0_setFactors 20 = .ok (.iastore, 1) := by decide +kernel
theorem dX0_setFactors_21 : decode cX0_setFactors 21 = .ok (.aload_n 0, 1) := by decide +kernel
theorem dX0_setFactors_22 : decode cX0_setFactors 22 = .ok (.getfield 22, 3) := by decide +kernel
theorem dX0_setFactors_25 : decode cX0_setFactors 25 = .ok (.iconst 3, 1) := by decide +kernel
theorem dX0_setFactors_26 : decode cX0_setFactors 26 = .ok (.iload 4, 2) := by decide +kernel
theorem dX0_setFactors_28 : decode cX0_setFactors 28 = .ok (.iastore, 1) := by decide +kernel
theorem dX0_setFactors_29 : decode cX0_setFactors 29 = .ok (.iconst 0, 1) := by decide +kernel
theorem dX0_setFactors_30 : decode cX0_setFactors 30 = .ok (.istore 5, 2) := by decide +kernel
theorem dX0_setFactors_32 : decode cX0_setFactors 32 = .ok (.iload 5, 2) := by decide +kernel
theorem dX0_setFactors_34 : decode cX0_setFactors 34 = .ok (.aload_n 0, 1) := by decide +kernel
theorem dX0_setFactors_35 : decode cX0_setFactors 35 = .ok (.getfield 25, 3) := by decide +kernel
theorem dX0_setFactors_38 : decode cX0_setFactors 38 = .ok (.if_icmp .ge 21, 3) := by decide +kernel
theorem dX0_setFactors_41 : decode cX0_setFactors 41 = .ok (.aload_n 0, 1) := by decide +kernel
theorem dX0_setFactors_42 : decode cX0_setFactors 42 = .ok (.getfield 22, 3) := by decide +kernel
theorem dX0_setFactors_45 : decode cX0_setFactors 45 = .ok (.iload 5, 2) := by decide +kernel
theorem dX0_setFactors_47 : decode cX0_setFactors 47 = .ok (.iaload, 1) := by decide +kernel
theorem dX0_setFactors_48 : decode cX0_setFactors 48 = .ok (.ifCond .ne 5, 3) := by decide +kernel
theorem dX0_setFactors_51 : decode cX0_setFactors 51 = .ok (.iconst 0, 1) := by decide +kernel
theorem dX0_setFactors_52 : decode cX0_setFactors 52 = .ok (.ireturn, 1) := by decide +kernel
theorem dX0_setFactors_53 : decode cX0_setFactors 53 = .ok (.iinc 5 1, 3) := by decide +kernel
theorem dX0_setFactors_56 : decode cX0_setFactors 56 = .ok (.goto (-24), 3) := by decide +kernel
theorem dX0_setFactors_59 : decode cX0_setFactors 59 = .ok (.iconst 1, 1) := by decide +kernel
theorem dX0_setFactors_60 : decode cX0_setFactors 60 = .ok (.ireturn, 1) := by decide +kernel
theorem dX0_dependTwo_0 : decode cX0_dependTwo 0 = .ok (.aload_n 0, 1) := by decide +kernel
theorem dX0_dependTwo_1 : decode cX0_dependTwo 1 = .ok (.getfield 12, 3) := by decide +kernel
theorem dX0_dependTwo_4 : decode cX0_dependTwo 4 = .ok (.iload_n 1, 1) := by decide +kernel
theorem dX0_dependTwo_5 : decode cX0_dependTwo 5 = .ok (.iload_n 2, 1) := by decide +kernel
theorem dX0_dependTwo_6 : decode cX0_dependTwo 6 = .ok (.iconst 0, 1) := by decide +kernel
theorem dX0_dependTwo_7 : decode cX0_dependTwo 7 = .ok (.invokevirtual 60, 3) := by decide +kernel
theorem dX0_dependTwo_10 : decode cX0_dependTwo 10 = .ok (.ifCond .ne 29, 3) := by decide +kernel
theorem dX0_dependTwo_13 : decode cX0_dependTwo 13 = .ok (.aload_n 0, 1) := by decide +kernel
theorem dX0_dependTwo_14 : decode cX0_dependTwo 14 = .ok (.getfield 12, 3) := by decide +kernel
theorem dX0_dependTwo_17 : decode cX0_dependTwo 17 = .ok (.iload_n 1, 1) := by decide +kernel
theorem dX0_dependTwo_18 : decode cX0_dependTwo 18 = .ok (.iload_n 2, 1) := by decide +kernel
theorem dX0_dependTwo_19 : decode cX0_dependTwo 19 = .ok (.iconst 1, 1) := by decide +kernel
theorem dX0_dependTwo_20 : decode cX0_dependTwo 20 = .ok (.invokevirtual 60, 3) := by decide +kernel
theorem dX0_dependTwo_23 : decode cX0_dependTwo 23 = .ok (.ifCond .ne 16, 3) := by decide +kernel
theorem dX0_dependTwo_26 : decode cX0_dependTwo 26 = .ok (.aload_n 0, 1) := by decide +kernel
theorem dX0_dependTwo_27 : decode cX0_dependTwo 27 = .ok (.getfield 12, 3) := by decide +kernel
theorem dX0_dependTwo_30 : decode cX0_dependTwo 30 = .ok (.iload_n 1, 1) := by decide +kernel
theorem dX0_dependTwo_31 : decode cX0_dependTwo 31 = .ok (.iload_n 2, 1) := by decide +kernel
theorem dX0_dependTwo_32 : decode cX0_dependTwo 32 = .ok (.iconst 2, 1) := by decide +kernel
theorem dX0_dependTwo_33 : decode cX0_dependTwo 33 = .ok (.invokevirtual 60, 3) := by decide +kernel
theorem dX0_dependTwo_36 : decode cX0_dependTwo 36 = .ok (.ifCond .eq 5, 3) := by decide +kernel
theorem dX0_dependTwo_39 : decode cX0_dependTwo 39 = .ok (.iconst 0, 1) := by decide +kernel
theorem dX0_dependTwo_40 : decode cX0_dependTwo 40 = .ok (.ireturn, 1) := by decide +kernel
theorem dX0_dependTwo_41 : decode cX0_dependTwo 41 = .ok (.iconst 0, 1) := by decide +kernel
theorem dX0_dependTwo_42 : decode cX0_dependTwo 42 = .ok (.istore_n 3, 1) := by decide +kernel
theorem dX0_dependTwo_43 : decode cX0_dependTwo 43 = .ok (.iload_n 3, 1) := by decide +kernel
theorem dX0_dependTwo_44 : decode cX0_dependTwo 44 = .ok (.iconst 3, 1) := by decide +kernel
theorem dX0_dependTwo_45 : decode cX0_dependTwo 45 = .ok (.if_icmp .ge 47, 3) := by decide +kernel
theorem dX0_dependTwo_48 : decode cX0_dependTwo 48 = .ok (.aload_n 0, 1) := by decide +kernel
theorem dX0_dependTwo_49 : decode cX0_dependTwo 49 = .ok (.getfield 12, 3) := by decide +kernel
theorem dX0_dependTwo_52 : decode cX0_dependTwo 52 = .ok (.iload_n 1, 1) := by decide +kernel
theorem dX0_dependTwo_53 : decode cX0_dependTwo 53 = .ok (.iload_n 3, 1) := by decide +kernel
theorem dX0_dependTwo_54 : decode cX0_dependTwo 54 = .ok (.invokevirtual 64, 3) := by decide +kernel
theorem dX0_dependTwo_57 : decode cX0_dependTwo 57 = .ok (.ifCond .eq 29, 3) := by decide +kernel
theorem dX0_dependTwo_60 : decode cX0_dependTwo 60 = .ok (.aload_n 0, 1) := by decide +kernel
theorem dX0_dependTwo_61 : decode cX0_dependTwo 61 = .ok (.aload_n 0, 1) := by decide +kernel
theorem dX0_dependTwo_62 : decode cX0_dependTwo 62 = .ok (.getfield 12, 3) := by decide +kernel
theorem dX0_dependTwo_65 : decode cX0_dependTwo 65 = .ok (.iload_n 2, 1) := by decide +kernel
theorem dX0_dependTwo_66 : decode cX0_dependTwo 66 = .ok (.iload_n 3, 1) := by decide +kernel
theorem dX0_dependTwo_67 : decode cX0_dependTwo 67 = .ok (.invokevirtual 64, 3) := by decide +kernel
theorem dX0_dependTwo_70 : decode cX0_dependTwo 70 = .ok (.aload_n 0, 1) := by decide +kernel
theorem dX0_dependTwo_71 : decode cX0_dependTwo 71 = .ok (.getfield 12, 3) := by decide +kernel
theorem dX0_dependTwo_74 : decode cX0_dependTwo 74 = .ok (.iload_n 1, 1) := by decide +kernel
theorem dX0_dependTwo_75 : decode cX0_dependTwo 75 = .ok (.iload_n 3, 1) := by decide +kernel
theorem dX0_dependTwo_76 : decode cX0_dependTwo 76 = .ok (.invokevirtual 64, 3) := by decide +kernel
theorem dX0_dependTwo_79 : decode cX0_dependTwo 79 = .ok (.ineg, 1) := by decide +kernel
theorem dX0_dependTwo_80 : decode cX0_dependTwo 80 = .ok (.iconst 0, 1) := by decide +kernel
theorem dX0_dependTwo_81 : decode cX0_dependTwo 81 = .ok (.iconst 0, 1) := by decide +kernel
theorem dX0_dependTwo_82 : decode cX0_dependTwo 82 = .ok (.invokevirtual 68, 3) := by decide +kernel
theorem dX0_dependTwo_85 : decode cX0_dependTwo 85 = .ok (.ireturn, 1) := by decide +kernel
theorem dX0_dependTwo_86 : decode cX0_dependTwo 86 = .ok (.iinc 3 1, 3) := by decide +kernel
theorem dX0_dependTwo_89 : decode cX0_dependTwo 89 = .ok (.goto (-46), 3) := by decide +kernel
theorem dX0_dependTwo_92 : decode cX0_dependTwo 92 = .ok (.iconst 0, 1) := by decide +kernel
theorem dX0_dependTwo_93 : decode cX0_dependTwo 93 = .ok (.ireturn, 1) := by decide +kernel
theorem dX0_dependThree_0 : decode cX0_dependThree 0 = .ok (.aload_n 0, 1) := by decide +kernel
theorem dX0_dependThree_1 : decode cX0_dependThree 1 = .ok (.getfield 12, 3) := by decide +kernel
theorem dX0_dependThree_4 : decode cX0_dependThree 4 = .ok (.iload_n 1, 1) := by decide +kernel
theorem dX0_dependThree_5 : decode cX0_dependThree 5 = .ok (.iload_n 2, 1) := by decide +kernel
theorem dX0_dependThree_6 : decode cX0_dependThree 6 = .ok (.iload_n 3, 1) := by decide +kernel
theorem dX0_dependThree_7 : decode cX0_dependThree 7 = .ok (.invokevirtual 71, 3) := by decide +kernel
theorem dX0_dependThree_10 : decode cX0_dependThree 10 = .ok (.ifCond .eq 5, 3) := by decide +kernel
theorem dX0_dependThree_13 : decode cX0_dependThree 13 = .ok (.iconst 0, 1) := by decide +kernel
theorem dX0_dependThree_14 : decode cX0_dependThree 14 = .ok (.ireturn, 1) := by decide +kernel
theorem dX0_dependThree_15 : decode cX0_dependThree 15 = .ok (.iconst 0, 1) := by decide +kernel
theorem dX0_dependThree_16 : decode cX0_dependThree 16 = .ok (.istore 4, 2) := by decide +kernel
theorem dX0_dependThree_18 : decode cX0_dependThree 18 = .ok (.iload 4, 2) := by decide +kernel
theorem dX0_dependThree_20 : decode cX0_dependThree 20 = .ok (.iconst 3, 1) := by decide +kernel
theorem dX0_dependThree_21 : decode cX0_dependThree 21 = .ok (.if_icmp .ge 62, 3) := by decide +kernel
theorem dX0_dependThree_24 : decode cX0_dependThree 24 = .ok (.aload_n 0, 1) := by decide +kernel
theorem dX0_dependThree_25 : decode cX0_dependThree 25 = .ok (.getfield 12, 3) := by decide +kernel
theorem dX0_dependThree_28 : decode cX0_dependThree 28 = .ok (.iload_n 1, 1) := by decide +kernel
theorem dX0_dependThree_29 : decode cX0_dependThree 29 = .ok (.iload_n 2, 1) := by decide +kernel
theorem dX0_dependThree_30 : decode cX0_dependThree 30 = .ok (.iload 4, 2) := by decide +kernel
theorem dX0_dependThree_32 : decode cX0_dependThree 32 = .ok (.invokevirtual 60, 3) := by decide +kernel
theorem dX0_dependThree_35 : decode cX0_dependThree 35 = .ok (.ifCond .eq 42, 3) := by decide +kernel
theorem dX0_dependThree_38 : decode cX0_dependThree 38 = .ok (.aload_n 0, 1) := by decide +kernel
theorem dX0_dependThree_39 : decode cX0_dependThree 39 = .ok (.aload_n 0, 1) := by decide +kernel
theorem dX0_dependThree_40 : decode cX0_dependThree 40 = .ok (.getfield 12, 3) := by decide +kernel
theorem dX0_dependThree_43 : decode cX0_dependThree 43 = .ok (.iload_n 2, 1) := by decide +kernel
theorem dX0_dependThree_44 : decode cX0_dependThree 44 = .ok (.iload_n 3, 1) := by decide +kernel
theorem dX0_dependThree_45 : decode cX0_dependThree 45 = .ok (.iload 4, 2) := by decide +kernel
theorem dX0_dependThree_47 : decode cX0_dependThree 47 = .ok (.invokevirtual 60, 3) := by decide +kernel
theorem dX0_dependThree_50 : decode cX0_dependThree 50 = .ok (.aload_n 0, 1) := by decide +kernel
theorem dX0_dependThree_51 : decode cX0_dependThree 51 = .ok (.getfield 12, 3) := by decide +kernel
theorem dX0_dependThree_54 : decode cX0_dependThree 54 = .ok (.iload_n 3, 1) := by decide +kernel
theorem dX0_dependThree_55 : decode cX0_dependThree 55 = .ok (.iload_n 1, 1) := by decide +kernel
theorem dX0_dependThree_56 : decode cX0_dependThree 56 = .ok (.iload 4, 2) := by decide +kernel
theorem dX0_dependThree_58 : decode cX0_dependThree 58 = .ok (.invokevirtual 60, 3) := by decide +kernel
theorem dX0_dependThree_61 : decode cX0_dependThree 61 = .ok (.aload_n 0, 1) := by decide +kernel
theorem dX0_dependThree_62 : decode cX0_dependThree 62 = .ok (.getfield 12, 3) := by decide +kernel
theorem dX0_dependThree_65 : decode cX0_dependThree 65 = .ok (.iload_n 1, 1) := by decide +kernel
theorem dX0_dependThree_66 : decode cX0_dependThree 66 = .ok (.iload_n 2, 1) := by decide +kernel
theorem dX0_dependThree_67 : decode cX0_dependThree 67 = .ok (.iload 4, 2) := by decide +kernel
theorem dX0_dependThree_69 : decode cX0_dependThree 69 = .ok (.invokevirtual 60, 3) := by decide +kernel
theorem dX0_dependThree_72 : decode cX0_dependThree 72 = .ok (.iconst 0, 1) := by decide +kernel
theorem dX0_dependThree_73 : decode cX0_dependThree 73 = .ok (.invokevirtual 68, 3) := by decide +kernel
theorem dX0_dependThree_76 : decode cX0_dependThree 76 = .ok (.ireturn, 1) := by decide +kernel
theorem dX0_dependThree_77 : decode cX0_dependThree 77 = .ok (.iinc 4 1, 3) := by decide +kernel
theorem dX0_dependThree_80 : decode cX0_dependThree 80 = .ok (.goto (-62), 3) := by decide +kernel
theorem dX0_dependThree_83 : decode cX0_dependThree 83 = .ok (.iconst 0, 1) := by decide +kernel
theorem dX0_dependThree_84 : decode cX0_dependThree 84 = .ok (.ireturn, 1) := by decide +kernel
theorem dX0_dependFour_0 : decode cX0_dependFour 0 = .ok (.aload_n 0, 1) := by decide +kernel
theorem dX0_dependFour_1 : decode cX0_dependFour 1 = .ok (.getfield 12, 3) := by decide +kernel
theorem dX0_dependFour_4 : decode cX0_dependFour 4 = .ok (.iload_n 1, 1) := by decide +kernel
theorem dX0_dependFour_5 : decode cX0_dependFour 5 = .ok (.iload_n 2, 1) := by decide +kernel
theorem dX0_dependFour_6 : decode cX0_dependFour 6 = .ok (.iload_n 3, 1) := by decide +kernel
theorem dX0_dependFour_7 : decode cX0_dependFour 7 = .ok (.invokevirtual 71, 3) := by decide +kernel
theorem dX0_dependFour_10 : decode cX0_dependFour 10 = .ok (.istore 5, 2) := by decide +kernel
theorem dX0_dependFour_12 : decode cX0_dependFour 12 = .ok (.iload 5, 2) := by decide +kernel
theorem dX0_dependFour_14 : decode cX0_dependFour 14 = .ok (.ifCond .ne 5, 3) := by decide +kernel
theorem dX0_dependFour_17 : decode cX0_dependFour 17 = .ok (.iconst 0, 1) := by decide +kernel
theorem dX0_dependFour_18 : decode cX0_dependFour 18 = .ok (.ireturn, 1) := by decide +kernel
theorem dX0_dependFour_19 : decode cX0_dependFour 19 = .ok (.aload_n 0, 1) := by decide +kernel
theorem dX0_dependFour_20 : decode cX0_dependFour 20 = .ok (.aload_n 0, 1) := by decide +kernel
theorem dX0_dependFour_21 : decode cX0_dependFour 21 = .ok (.getfield 12, 3) := by decide +kernel
theorem dX0_dependFour_24 : decode cX0_dependFour 24 = .ok (.iload_n 2, 1) := by decide +kernel
theorem dX0_dependFour_25 : decode cX0_dependFour 25 = .ok (.iload_n 3, 1) := by decide +kernel
theorem dX0_dependFour_26 : decode cX0_dependFour 26 = .ok (.iload 4, 2) := by decide +kernel
theorem dX0_dependFour_28 : decode cX0_dependFour 28 = .ok (.invokevirtual 71, 3) := by decide +kernel
theorem dX0_dependFour_31 : decode cX0_dependFour 31 = .ok (.aload_n 0, 1) := by decide +kernel
theorem dX0_dependFour_32 : decode cX0_dependFour 32 = .ok (.getfield 12, 3) := by decide +kernel
theorem dX0_dependFour_35 : decode cX0_dependFour 35 = .ok (.iload_n 1, 1) := by decide +kernel
theorem dX0_dependFour_36 : decode cX0_dependFour 36 = .ok (.iload_n 3, 1) := by decide +kernel
theorem dX0_dependFour_37 : decode cX0_dependFour 37 = .ok (.iload 4, 2) := by decide +kernel
theorem dX0_dependFour_39 : decode cX0_dependFour 39 = .ok (.invokevirtual 71, 3) := by decide +kernel
theorem dX0_dependFour_42 : decode cX0_dependFour 42 = .ok (.ineg, 1) := by decide +kernel
theorem dX0_dependFour_43 : decode cX0_dependFour 43 = .ok (.aload_n 0, 1) := by decide +kernel
theorem dX0_dependFour_44 : decode cX0_dependFour 44 = .ok (.getfield 12, 3) := by decide +kernel
theorem dX0_dependFour_47 : decode cX0_dependFour 47 = .ok (.iload_n 1, 1) := by decide +kernel
theorem dX0_dependFour_48 : decode cX0_dependFour 48 = .ok (.iload_n 2, 1) := by decide +kernel
theorem dX0_dependFour_49 : decode cX0_dependFour 49 = .ok (.iload 4, 2) := by decide +kernel
theorem dX0_dependFour_51 : decode cX0_dependFour 51 = .ok (.invokevirtual 71, 3) := by decide +kernel
theorem dX0_dependFour_54 : decode cX0_dependFour 54 = .ok (.iload 5, 2) := by decide +kernel
theorem dX0_dependFour_56 : decode cX0_dependFour 56 = .ok (.ineg, 1) := by decide +kernel
theorem dX0_dependFour_57 : decode cX0_dependFour 57 = .ok (.invokevirtual 68, 3) := by decide +kernel
theorem dX0_dependFour_60 : decode cX0_dependFour 60 = .ok (.ireturn, 1) := by decide +kernel
theorem dX0_turn_0 : decode cX0_turn 0 = .ok (.aload_n 0, 1) := by decide +kernel
theorem dX0_turn_1 : decode cX0_turn 1 = .ok (.lconst 0, 1) := by decide +kernel
theorem dX0_turn_2 : decode cX0_turn 2 = .ok (.putfield 29, 3) := by decide +kernel
theorem dX0_turn_5 : decode cX0_turn 5 = .ok (.aload_n 0, 1) := by decide +kernel
theorem dX0_turn_6 : decode cX0_turn 6 = .ok (.iconst 0, 1) := by decide +kernel
theorem dX0_turn_7 : decode cX0_turn 7 = .ok (.putfield 33, 3) := by decide +kernel
theorem dX0_turn_10 : decode cX0_turn 10 = .ok (.iconst 0, 1) := by decide +kernel
theorem dX0_turn_11 : decode cX0_turn 11 = .ok (.istore_n 1, 1) := by decide +kernel
theorem dX0_turn_12 : decode cX0_turn 12 = .ok (.iconst 0, 1) := by decide +kernel
theorem dX0_turn_13 : decode cX0_turn 13 = .ok (.istore_n 2, 1) := by decide +kernel
theorem dX0_turn_14 : decode cX0_turn 14 = .ok (.iconst 0, 1) := by decide +kernel
theorem dX0_turn_15 : decode cX0_turn 15 = .ok (.istore_n 3, 1) := by decide +kernel
theorem dX0_turn_16 : decode cX0_turn 16 = .ok (.iload_n 3, 1) := by decide +kernel
theorem dX0_turn_17 : decode cX0_turn 17 = .ok (.aload_n 0, 1) := by decide +kernel
theorem dX0_turn_18 : decode cX0_turn 18 = .ok (.getfield 25, 3) := by decide +kernel
theorem dX0_turn_21 : decode cX0_turn 21 = .ok (.if_icmp .ge 123, 3) := by decide +kernel
theorem dX0_turn_24 : decode cX0_turn 24 = .ok (.aload_n 0, 1) := by decide +kernel
theorem dX0_turn_25 : decode cX0_turn 25 = .ok (.getfield 18, 3) := by decide +kernel
theorem dX0_turn_28 : decode cX0_turn 28 = .ok (.iload_n 3, 1) := by decide +kernel
theorem dX0_turn_29 : decode cX0_turn 29 = .ok (.iaload, 1) := by decide +kernel
theorem dX0_turn_30 : decode cX0_turn 30 = .ok (.istore 4, 2) := by decide +kernel
theorem dX0_turn_32 : decode cX0_turn 32 = .ok (.aload_n 0, 1) := by decide +kernel
theorem dX0_turn_33 : decode cX0_turn 33 = .ok (.dup, 1) := by decide +kernel
theorem dX0_turn_34 : decode cX0_turn 34 = .ok (.getfield 29, 3) := by decide +kernel
theorem dX0_turn_37 : decode cX0_turn 37 = .ok (.aload_n 0, 1) := by decide +kernel
theorem dX0_turn_38 : decode cX0_turn 38 = .ok (.getfield 22, 3) := by decide +kernel
theorem dX0_turn_41 : decode cX0_turn 41 = .ok (.iload_n 3, 1) := by decide +kernel
theorem dX0_turn_42 : decode cX0_turn 42 = .ok (.iaload, 1) := by decide +kernel
theorem dX0_turn_43 : decode cX0_turn 43 = .ok (.i2l, 1) := by decide +kernel
theorem dX0_turn_44 : decode cX0_turn 44 = .ok (.aload_n 0, 1) := by decide +kernel
theorem dX0_turn_45 : decode cX0_turn 45 = .ok (.getfield 12, 3) := by decide +kernel
theorem dX0_turn_48 : decode cX0_turn 48 = .ok (.getfield 74, 3) := by decide +kernel
theorem dX0_turn_51 : decode cX0_turn 51 = .ok (.iload 4, 2) := by decide +kernel
theorem dX0_turn_53 : decode cX0_turn 53 = .ok (.laload, 1) := by decide +kernel
theorem dX0_turn_54 : decode cX0_turn 54 = .ok (.lmul, 1) := by decide +kernel
theorem dX0_turn_55 : decode cX0_turn 55 = .ok (.ladd, 1) := by decide +kernel
theorem dX0_turn_56 : decode cX0_turn 56 = .ok (.putfield 29, 3) := by decide +kernel
theorem dX0_turn_59 : decode cX0_turn 59 = .ok (.aload_n 0, 1) := by decide +kernel
theorem dX0_turn_60 : decode cX0_turn 60 = .ok (.dup, 1) := by decide +kernel
theorem dX0_turn_61 : decode cX0_turn 61 = .ok (.getfield 33, 3) := by decide +kernel
theorem dX0_turn_64 : decode cX0_turn 64 = .ok (.aload_n 0, 1) := by decide +kernel
theorem dX0_turn_65 : decode cX0_turn 65 = .ok (.getfield 12, 3) := by decide +kernel
theorem dX0_turn_68 : decode cX0_turn 68 = .ok (.getfield 78, 3) := by decide +kernel
theorem dX0_turn_71 : decode cX0_turn 71 = .ok (.iload 4, 2) := by decide +kernel
theorem dX0_turn_73 : decode cX0_turn 73 = .ok (.baload, 1) := by decide +kernel
theorem dX0_turn_74 : decode cX0_turn 74 = .ok (.ior, 1) := by decide +kernel
theorem dX0_turn_75 : decode cX0_turn 75 = .ok (.putfield 33, 3) := by decide +kernel
theorem dX0_turn_78 : decode cX0_turn 78 = .ok (.iload_n 1, 1) := by decide +kernel
theorem dX0_turn_79 : decode cX0_turn 79 = .ok (.aload_n 0, 1) := by decide +kernel
theorem dX0_turn_80 : decode cX0_turn 80 = .ok (.getfield 12, 3) := by decide +kernel
theorem dX0_turn_83 : decode cX0_turn 83 = .ok (.getfield 81, 3) := by decide +kernel
theorem dX0_turn_86 : decode cX0_turn 86 = .ok (.iload 4, 2) := by decide +kernel
theorem dX0_turn_88 : decode cX0_turn 88 = .ok (.baload, 1) := by decide +kernel
theorem dX0_turn_89 : decode cX0_turn 89 = .ok (.ifCond .ne 16, 3) := by decide +kernel
theorem dX0_turn_92 : decode cX0_turn 92 = .ok (.aload_n 0, 1) := by decide +kernel
theorem dX0_turn_93 : decode cX0_turn 93 = .ok (.getfield 22, 3) := by decide +kernel
theorem dX0_turn_96 : decode cX0_turn 96 = .ok (.iload_n 3, 1) := by decide +kernel
theorem dX0_turn_97 : decode cX0_turn 97 = .ok (.iaload, 1) := by decide +kernel
theorem dX0_turn_98 : decode cX0_turn 98 = .ok (.ifCond .le 7, 3) := by decide +kernel
theorem dX0_turn_101 : decode cX0_turn 101 = .ok (.iconst 1, 1) := by decide +kernel
theorem dX0_turn_102 : decode cX0_turn 102 = .ok (.goto 4, 3) := by decide +kernel
theorem dX0_turn_105 : decode cX0_turn 105 = .ok (.iconst 0, 1) := by decide +kernel
theorem dX0_turn_106 : decode cX0_turn 106 = .ok (.ior, 1) := by decide +kernel
theorem dX0_turn_107 : decode cX0_turn 107 = .ok (.istore_n 1, 1) := by decide +kernel
theorem dX0_turn_108 : decode cX0_turn 108 = .ok (.iload_n 2, 1) := by decide +kernel
theorem dX0_turn_109 : decode cX0_turn 109 = .ok (.aload_n 0, 1) := by decide +kernel
theorem dX0_turn_110 : decode cX0_turn 110 = .ok (.getfield 12, 3) := by decide +kernel
theorem dX0_turn_113 : decode cX0_turn 113 = .ok (.getfield 81, 3) := by decide +kernel
theorem dX0_turn_116 : decode cX0_turn 116 = .ok (.iload 4, 2) := by decide +kernel
theorem dX0_turn_118 : decode cX0_turn 118 = .ok (.baload, 1) := by decide +kernel
theorem dX0_turn_119 : decode cX0_turn 119 = .ok (.ifCond .ne 16, 3) := by decide +kernel
theorem dX0_turn_122 : decode cX0_turn 122 = .ok (.aload_n 0, 1) := by decide +kernel
theorem dX0_turn_123 : decode cX0_turn 123 = .ok (.getfield 22, 3) := by decide +kernel
theorem dX0_turn_126 : decode cX0_turn 126 = .ok (.iload_n 3, 1) := by decide +kernel
theorem dX0_turn_127 : decode cX0_turn 127 = .ok (.iaload, 1) := by decide +kernel
theorem dX0_turn_128 : decode cX0_turn 128 = .ok (.ifCond .ge 7, 3) := by decide +kernel
theorem dX0_turn_131 : decode cX0_turn 131 = .ok (.iconst 1, 1) := by decide +kernel
theorem dX0_turn_132 : decode cX0_turn 132 = .ok (.goto 4, 3) := by decide +kernel
theorem dX0_turn_135 : decode cX0_turn 135 = .ok (.iconst 0, 1) := by decide +kernel
theorem dX0_turn_136 : decode cX0_turn 136 = .ok (.ior, 1) := by decide +kernel
theorem dX0_turn_137 : decode cX0_turn 137 = .ok (.istore_n 2, 1) := by decide +kernel
theorem dX0_turn_138 : decode cX0_turn 138 = .ok (.iinc 3 1, 3) := by decide +kernel
theorem dX0_turn_141 : decode cX0_turn 141 = .ok (.goto (-125), 3) := by decide +kernel
theorem dX0_turn_144 : decode cX0_turn 144 = .ok (.iload_n 2, 1) := by decide +kernel
theorem dX0_turn_145 : decode cX0_turn 145 = .ok (.ifCond .ne 16, 3) := by decide +kernel
theorem dX0_turn_148 : decode cX0_turn 148 = .ok (.iload_n 1, 1) := by decide +kernel
theorem dX0_turn_149 : decode cX0_turn 149 = .ok (.ifCond .ne 50, 3) := by decide +kernel
theorem dX0_turn_152 : decode cX0_turn 152 = .ok (.aload_n 0, 1) := by decide +kernel
theorem dX0_turn_153 : decode cX0_turn 153 = .ok (.getfield 29, 3) := by decide +kernel
theorem dX0_turn_156 : decode cX0_turn 156 = .ok (.lconst 0, 1) := by decide +kernel
theorem dX0_turn_157 : decode cX0_turn 157 = .ok (.lcmp, 1) := by decide +kernel
theorem dX0_turn_158 : decode cX0_turn 158 = .ok (.ifCond .le 41, 3) := by decide +kernel
theorem dX0_turn_161 : decode cX0_turn 161 = .ok (.aload_n 0, 1) := by decide +kernel
theorem dX0_turn_162 : decode cX0_turn 162 = .ok (.aload_n 0, 1) := by decide +kernel
theorem dX0_turn_163 : decode cX0_turn 163 = .ok (.getfield 29, 3) := by decide +kernel
theorem dX0_turn_166 : decode cX0_turn 166 = .ok (.lneg, 1) := by decide +kernel
theorem dX0_turn_167 : decode cX0_turn 167 = .ok (.putfield 29, 3) := by decide +kernel
theorem dX0_turn_170 : decode cX0_turn 170 = .ok (.iconst 0, 1) := by decide +kernel
theorem dX0_turn_171 : decode cX0_turn 171 = .ok (.istore_n 3, 1) := by decide +kernel
theorem dX0_turn_172 : decode cX0_turn 172 = .ok (.iload_n 3, 1) := by decide +kernel
theorem dX0_turn_173 : decode cX0_turn 173 = .ok (.aload_n 0, 1) := by decide +kernel
theorem dX0_turn_174 : decode cX0_turn 174 = .ok (.getfield 25, 3) := by decide +kernel
theorem dX0_turn_177 : decode cX0_turn 177 = .ok (.if_icmp .ge 22, 3) := by decide +kernel
theorem dX0_turn_180 : decode cX0_turn 180 = .ok (.aload_n 0, 1) := by decide +kernel
theorem dX0_turn_181 : decode cX0_turn 181 = .ok (.getfield 22, 3) := by decide +kernel
theorem dX0_turn_184 : decode cX0_turn 184 = .ok (.iload_n 3, 1) := by decide +kernel
theorem dX0_turn_185 : decode cX0_turn 185 = .ok (.aload_n 0, 1) := by decide +kernel
theorem dX0_turn_186 : decode cX0_turn 186 = .ok (.getfield 22, 3) := by decide +kernel
theorem dX0_turn_189 : decode cX0_turn 189 = .ok (.iload_n 3, 1) := by decide +kernel
theorem dX0_turn_190 : decode cX0_turn 190 = .ok (.iaload, 1) := by decide +kernel
theorem dX0_turn_191 : decode cX0_turn 191 = .ok (.ineg, 1) := by decide +kernel
theorem dX0_turn_192 : decode cX0_turn 192 = .ok (.iastore, 1) := by decide +kernel
theorem dX0_turn_193 : decode cX0_turn 193 = .ok (.iinc 3 1, 3) := by decide +kernel
theorem dX0_turn_196 : decode cX0_turn 196 = .ok (.goto (-24), 3) := by decide +kernel
theorem dX0_turn_199 : decode cX0_turn 199 = .ok (.iload_n 1, 1) := by decide +kernel
theorem dX0_turn_200 : decode cX0_turn 200 = .ok (.ifCond .eq 7, 3) := by decide +kernel
theorem dX0_turn_203 : decode cX0_turn 203 = .ok (.iload_n 2, 1) := by decide +kernel
theorem dX0_turn_204 : decode cX0_turn 204 = .ok (.ifCond .ne 7, 3) := by decide +kernel
theorem dX0_turn_207 : decode cX0_turn 207 = .ok (.iconst 1, 1) := by decide +kernel
theorem dX0_turn_208 : decode cX0_turn 208 = .ok (.goto 4, 3) := by decide +kernel
theorem dX0_turn_211 : decode cX0_turn 211 = .ok (.iconst 0, 1) := by decide +kernel
theorem dX0_turn_212 : decode cX0_turn 212 = .ok (.ireturn, 1) := by decide +kernel
theorem dX0_contradicts_0 : decode cX0_contradicts 0 = .ok (.aload_n 0, 1) := by decide +kernel
theorem dX0_contradicts_1 : decode cX0_contradicts 1 = .ok (.getfield 29, 3) := by decide +kernel
theorem dX0_contradicts_4 : decode cX0_contradicts 4 = .ok (.lconst 0, 1) := by decide +kernel
theorem dX0_contradicts_5 : decode cX0_contradicts 5 = .ok (.lcmp, 1) := by decide +kernel
theorem dX0_contradicts_6 : decode cX0_contradicts 6 = .ok (.ifCond .lt 19, 3) := by decide +kernel
theorem dX0_contradicts_9 : decode cX0_contradicts 9 = .ok (.aload_n 0, 1) := by decide +kernel
theorem dX0_contradicts_10 : decode cX0_contradicts 10 = .ok (.getfield 29, 3) := by decide +kernel
theorem dX0_contradicts_13 : decode cX0_contradicts 13 = .ok (.lconst 0, 1) := by decide +kernel
theorem dX0_contradicts_14 : decode cX0_contradicts 14 = .ok (.lcmp, 1) := by decide +kernel
theorem dX0_contradicts_15 : decode cX0_contradicts 15 = .ok (.ifCond .ne 14, 3) := by decide +kernel
theorem dX0_contradicts_18 : decode cX0_contradicts 18 = .ok (.aload_n 0, 1) := by decide +kernel
theorem dX0_contradicts_19 : decode cX0_contradicts 19 = .ok (.getfield 33, 3) := by decide +kernel
theorem dX0_contradicts_22 : decode cX0_contradicts 22 = .ok (.ifCond .eq 7, 3) := by decide +kernel
theorem dX0_contradicts_25 : decode cX0_contradicts 25 = .ok (.iconst 1, 1) := by decide +kernel
theorem dX0_contradicts_26 : decode cX0_contradicts 26 = .ok (.goto 4, 3) := by decide +kernel
theorem dX0_contradicts_29 : decode cX0_contradicts 29 = .ok (.iconst 0, 1) := by decide +kernel
theorem dX0_contradicts_30 : decode cX0_contradicts 30 = .ok (.ireturn, 1) := by decide +kernel
theorem dX0_factorOf_0 : decode cX0_factorOf 0 = .ok (.iconst 0, 1) := by decide +kernel
theorem dX0_factorOf_1 : decode cX0_factorOf 1 = .ok (.istore_n 2, 1) := by decide +kernel
theorem dX0_factorOf_2 : decode cX0_factorOf 2 = .ok (.iload_n 2, 1) := by decide +kernel
theorem dX0_factorOf_3 : decode cX0_factorOf 3 = .ok (.aload_n 0, 1) := by decide +kernel
theorem dX0_factorOf_4 : decode cX0_factorOf 4 = .ok (.getfield 25, 3) := by decide +kernel
theorem dX0_factorOf_7 : decode cX0_factorOf 7 = .ok (.if_icmp .ge 26, 3) := by decide +kernel
theorem dX0_factorOf_10 : decode cX0_factorOf 10 = .ok (.aload_n 0, 1) := by decide +kernel
theorem dX0_factorOf_11 : decode cX0_factorOf 11 = .ok (.getfield 18, 3) := by decide +kernel
theorem dX0_factorOf_14 : decode cX0_factorOf 14 = .ok (.iload_n 2, 1) := by decide +kernel
theorem dX0_factorOf_15 : decode cX0_factorOf 15 = .ok (.iaload, 1) := by decide +kernel
theorem dX0_factorOf_16 : decode cX0_factorOf 16 = .ok (.iload_n 1, 1) := by decide +kernel
theorem dX0_factorOf_17 : decode cX0_factorOf 17 = .ok (.if_icmp .ne 10, 3) := by decide +kernel
theorem dX0_factorOf_20 : decode cX0_factorOf 20 = .ok (.aload_n 0, 1) := by decide +kernel
theorem dX0_factorOf_21 : decode cX0_factorOf 21 = .ok (.getfield 22, 3) := by decide +kernel
theorem dX0_factorOf_24 : decode cX0_factorOf 24 = .ok (.iload_n 2, 1) := by decide +kernel
theorem dX0_factorOf_25 : decode cX0_factorOf 25 = .ok (.iaload, 1) := by decide +kernel
theorem dX0_factorOf_26 : decode cX0_factorOf 26 = .ok (.ireturn, 1) := by decide +kernel
theorem dX0_factorOf_27 : decode cX0_factorOf 27 = .ok (.iinc 2 1, 3) := by decide +kernel
theorem dX0_factorOf_30 : decode cX0_factorOf 30 = .ok (.goto (-28), 3) := by decide +kernel
theorem dX0_factorOf_33 : decode cX0_factorOf 33 = .ok (.iconst 0, 1) := by decide +kernel
theorem dX0_factorOf_34 : decode cX0_factorOf 34 = .ok (.ireturn, 1) := by decide +kernel
theorem dX0_reducedFactor_0 : decode cX0_reducedFactor 0 = .ok (.lconst 0, 1) := by decide +kernel
theorem dX0_reducedFactor_1 : decode cX0_reducedFactor 1 = .ok (.lstore_n 2, 1) := by decide +kernel
theorem dX0_reducedFactor_2 : decode cX0_reducedFactor 2 = .ok (.iconst 0, 1) := by decide +kernel
theorem dX0_reducedFactor_3 : decode cX0_reducedFactor 3 = .ok (.istore 4, 2) := by decide +kernel
theorem dX0_reducedFactor_5 : decode cX0_reducedFactor 5 = .ok (.iload 4, 2) := by decide +kernel
theorem dX0_reducedFactor_7 : decode cX0_reducedFactor 7 = .ok (.aload_n 0, 1) := by decide +kernel
theorem dX0_reducedFactor_8 : decode cX0_reducedFactor 8 = .ok (.getfield 25, 3) := by decide +kernel
theorem dX0_reducedFactor_11 : decode cX0_reducedFactor 11 = .ok (.if_icmp .ge 22, 3) := by decide +kernel
theorem dX0_reducedFactor_14 : decode cX0_reducedFactor 14 = .ok (.lload_n 2, 1) := by decide +kernel
theorem dX0_reducedFactor_15 : decode cX0_reducedFactor 15 = .ok (.aload_n 0, 1) := by decide +kernel
theorem dX0_reducedFactor_16 : decode cX0_reducedFactor 16 = .ok (.getfield 22, 3) := by decide +kernel
theorem dX0_reducedFactor_19 : decode cX0_reducedFactor 19 = .ok (.iload 4, 2) := by decide +kernel
theorem dX0_reducedFactor_21 : decode cX0_reducedFactor 21 = .ok (.iaload, 1) := by decide +kernel
theorem dX0_reducedFactor_22 : decode cX0_reducedFactor 22 = .ok (.i2l, 1) := by decide +kernel
theorem dX0_reducedFactor_23 : decode cX0_reducedFactor 23 = .ok (.invokestatic 84, 3) := by decide +kernel
theorem dX0_reducedFactor_26 : decode cX0_reducedFactor 26 = .ok (.lstore_n 2, 1) := by decide +kernel
theorem dX0_reducedFactor_27 : decode cX0_reducedFactor 27 = .ok (.iinc 4 1, 3) := by decide +kernel
theorem dX0_reducedFactor_30 : decode cX0_reducedFactor 30 = .ok (.goto (-25), 3) := by decide +kernel
theorem dX0_reducedFactor_33 : decode cX0_reducedFactor 33 = .ok (.lload_n 2, 1) := by decide +kernel
theorem dX0_reducedFactor_34 : decode cX0_reducedFactor 34 = .ok (.lconst 0, 1) := by decide +kernel
theorem dX0_reducedFactor_35 : decode cX0_reducedFactor 35 = .ok (.lcmp, 1) := by decide +kernel
theorem dX0_reducedFactor_36 : decode cX0_reducedFactor 36 = .ok (.ifCond .le 14, 3) := by decide +kernel
theorem dX0_reducedFactor_39 : decode cX0_reducedFactor 39 = .ok (.aload_n 0, 1) := by decide +kernel
theorem dX0_reducedFactor_40 : decode cX0_reducedFactor 40 = .ok (.iload_n 1, 1) := by decide +kernel
theorem dX0_reducedFactor_41 : decode cX0_reducedFactor 41 = .ok (.invokevirtual 88, 3) := by decide +kernel
theorem dX0_reducedFactor_44 : decode cX0_reducedFactor 44 = .ok (.i2l, 1) := by decide +kernel
theorem dX0_reducedFactor_45 : decode cX0_reducedFactor 45 = .ok (.lload_n 2, 1) := by decide +kernel
theorem dX0_reducedFactor_46 : decode cX0_reducedFactor 46 = .ok (.ldiv, 1) := by decide +kernel
theorem dX0_reducedFactor_47 : decode cX0_reducedFactor 47 = .ok (.goto 4, 3) := by decide +kernel
theorem dX0_reducedFactor_50 : decode cX0_reducedFactor 50 = .ok (.lconst 0, 1) := by decide +kernel
theorem dX0_reducedFactor_51 : decode cX0_reducedFactor 51 = .ok (.lreturn, 1) := by decide +kernel
theorem dX1_init_0 : decode cX1_init 0 = .ok (.aload_n 0, 1) := by decide +kernel
theorem dX1_init_1 : decode cX1_init 1 = .ok (.invokespecial 3, 3) := by decide +kernel
theorem dX1_init_4 : decode cX1_init 4 = .ok (.aload_n 0, 1) := by decide +kernel
theorem dX1_init_5 : decode cX1_init 5 = .ok (.new 9, 3) := by decide +kernel
theorem dX1_init_8 : decode cX1_init 8 = .ok (.dup, 1) := by decide +kernel
theorem dX1_init_9 : decode cX1_init 9 = .ok (.invokespecial 11, 3) := by decide +kernel
theorem dX1_init_12 : decode cX1_init 12 = .ok (.putfield 12, 3) := by decide +kernel
theorem dX1_init_15 : decode cX1_init 15 = .ok (.aload_n 0, 1) := by decide +kernel
theorem dX1_init_16 : decode cX1_init 16 = .ok (.aload_n 0, 1) := by decide +kernel
theorem dX1_init_17 : decode cX1_init 17 = .ok (.getfield 12, 3) := by decide +kernel
theorem dX1_init_20 : decode cX1_init 20 = .ok (.getfield 18, 3) := by decide +kernel
theorem dX1_init_23 : decode cX1_init 23 = .ok (.putfield 22, 3) := by decide +kernel
theorem dX1_init_26 : decode cX1_init 26 = .ok (.aload_n 0, 1) := by decide +kernel
theorem dX1_init_27 : decode cX1_init 27 = .ok (.sipush 781, 3) := by decide +kernel
theorem dX1_init_30 : decode cX1_init 30 = .ok (.newarray .int, 2) := by decide +kernel
theorem dX1_init_32 : decode cX1_init 32 = .ok (.putfield 23, 3) := by decide +kernel
theorem dX1_init_35 : decode cX1_init 35 = .ok (.aload_n 0, 1) := by decide +kernel
