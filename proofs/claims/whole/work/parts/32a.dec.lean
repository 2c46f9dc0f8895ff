/-! Decode rows. -/
theorem dR_init_0 : decode b_R_init 0 = .ok (.aload_n 0, 1) := by decide +kernel
theorem dR_init_1 : decode b_R_init 1 = .ok (.invokespecial 1, 3) := by decide +kernel
theorem dR_init_4 : decode b_R_init 4 = .ok (.aload_n 0, 1) := by decide +kernel
theorem dR_init_5 : decode b_R_init 5 = .ok (.sipush 27417, 3) := by decide +kernel
theorem dR_init_8 : decode b_R_init 8 = .ok (.newarray .int, 2) := by decide +kernel
theorem dR_init_10 : decode b_R_init 10 = .ok (.putfield 7, 3) := by decide +kernel
theorem dR_init_13 : decode b_R_init 13 = .ok (.aload_n 0, 1) := by decide +kernel
theorem dR_init_14 : decode b_R_init 14 = .ok (.ldc 13, 2) := by decide +kernel
theorem dR_init_16 : decode b_R_init 16 = .ok (.newarray .int, 2) := by decide +kernel
theorem dR_init_18 : decode b_R_init 18 = .ok (.putfield 14, 3) := by decide +kernel
theorem dR_init_21 : decode b_R_init 21 = .ok (.aload_n 0, 1) := by decide +kernel
theorem dR_init_22 : decode b_R_init 22 = .ok (.ldc 17, 2) := by decide +kernel
theorem dR_init_24 : decode b_R_init 24 = .ok (.newarray .int, 2) := by decide +kernel
theorem dR_init_26 : decode b_R_init 26 = .ok (.putfield 18, 3) := by decide +kernel
theorem dR_init_29 : decode b_R_init 29 = .ok (.aload_n 0, 1) := by decide +kernel
theorem dR_init_30 : decode b_R_init 30 = .ok (.sipush 9139, 3) := by decide +kernel
theorem dR_init_33 : decode b_R_init 33 = .ok (.newarray .int, 2) := by decide +kernel
theorem dR_init_35 : decode b_R_init 35 = .ok (.putfield 21, 3) := by decide +kernel
theorem dR_init_38 : decode b_R_init 38 = .ok (.aload_n 0, 1) := by decide +kernel
theorem dR_init_39 : decode b_R_init 39 = .ok (.sipush 9139, 3) := by decide +kernel
theorem dR_init_42 : decode b_R_init 42 = .ok (.newarray .int, 2) := by decide +kernel
theorem dR_init_44 : decode b_R_init 44 = .ok (.putfield 24, 3) := by decide +kernel
theorem dR_init_47 : decode b_R_init 47 = .ok (.aload_n 0, 1) := by decide +kernel
theorem dR_init_48 : decode b_R_init 48 = .ok (.sipush 9139, 3) := by decide +kernel
theorem dR_init_51 : decode b_R_init 51 = .ok (.newarray .int, 2) := by decide +kernel
theorem dR_init_53 : decode b_R_init 53 = .ok (.putfield 27, 3) := by decide +kernel
theorem dR_init_56 : decode b_R_init 56 = .ok (.aload_n 0, 1) := by decide +kernel
theorem dR_init_57 : decode b_R_init 57 = .ok (.sipush 9139, 3) := by decide +kernel
theorem dR_init_60 : decode b_R_init 60 = .ok (.newarray .int, 2) := by decide +kernel
theorem dR_init_62 : decode b_R_init 62 = .ok (.putfield 30, 3) := by decide +kernel
theorem dR_init_65 : decode b_R_init 65 = .ok (.aload_n 0, 1) := by decide +kernel
theorem dR_init_66 : decode b_R_init 66 = .ok (.sipush 9139, 3) := by decide +kernel
theorem dR_init_69 : decode b_R_init 69 = .ok (.newarray .int, 2) := by decide +kernel
theorem dR_init_71 : decode b_R_init 71 = .ok (.putfield 33, 3) := by decide +kernel
theorem dR_init_74 : decode b_R_init 74 = .ok (.aload_n 0, 1) := by decide +kernel
theorem dR_init_75 : decode b_R_init 75 = .ok (.sipush 9139, 3) := by decide +kernel
theorem dR_init_78 : decode b_R_init 78 = .ok (.newarray .int, 2) := by decide +kernel
theorem dR_init_80 : decode b_R_init 80 = .ok (.putfield 36, 3) := by decide +kernel
theorem dR_init_83 : decode b_R_init 83 = .ok (.aload_n 0, 1) := by decide +kernel
theorem dR_init_84 : decode b_R_init 84 = .ok (.sipush 10816, 3) := by decide +kernel
theorem dR_init_87 : decode b_R_init 87 = .ok (.newarray .int, 2) := by decide +kernel
theorem dR_init_89 : decode b_R_init 89 = .ok (.putfield 39, 3) := by decide +kernel
theorem dR_init_92 : decode b_R_init 92 = .ok (.aload_n 0, 1) := by decide +kernel
theorem dR_init_93 : decode b_R_init 93 = .ok (.ldc 42, 2) := by decide +kernel
theorem dR_init_95 : decode b_R_init 95 = .ok (.newarray .int, 2) := by decide +kernel
theorem dR_init_97 : decode b_R_init 97 = .ok (.putfield 43, 3) := by decide +kernel
theorem dR_init_100 : decode b_R_init 100 = .ok (.iload_n 1, 1) := by decide +kernel
theorem dR_init_101 : decode b_R_init 101 = .ok (.iconst 2, 1) := by decide +kernel
theorem dR_init_102 : decode b_R_init 102 = .ok (.if_icmp .ge 7, 3) := by decide +kernel
theorem dR_init_105 : decode b_R_init 105 = .ok (.iconst 2, 1) := by decide +kernel
theorem dR_init_106 : decode b_R_init 106 = .ok (.goto 15, 3) := by decide +kernel
theorem dR_init_109 : decode b_R_init 109 = .ok (.iload_n 1, 1) := by decide +kernel
theorem dR_init_110 : decode b_R_init 110 = .ok (.ldc 46, 2) := by decide +kernel
theorem dR_init_112 : decode b_R_init 112 = .ok (.if_icmp .le 8, 3) := by decide +kernel
theorem dR_init_115 : decode b_R_init 115 = .ok (.ldc 46, 2) := by decide +kernel
theorem dR_init_117 : decode b_R_init 117 = .ok (.goto 4, 3) := by decide +kernel
theorem dR_init_120 : decode b_R_init 120 = .ok (.iload_n 1, 1) := by decide +kernel
theorem dR_init_121 : decode b_R_init 121 = .ok (.istore_n 2, 1) := by decide +kernel
theorem dR_init_122 : decode b_R_init 122 = .ok (.iload_n 2, 1) := by decide +kernel
theorem dR_init_123 : decode b_R_init 123 = .ok (.invokestatic 47, 3) := by decide +kernel
theorem dR_init_126 : decode b_R_init 126 = .ok (.ifCond .ne 9, 3) := by decide +kernel
theorem dR_init_129 : decode b_R_init 129 = .ok (.iinc 2 1, 3) := by decide +kernel
theorem dR_init_132 : decode b_R_init 132 = .ok (.goto (-10), 3) := by decide +kernel
theorem dR_init_135 : decode b_R_init 135 = .ok (.aload_n 0, 1) := by decide +kernel
theorem dR_init_136 : decode b_R_init 136 = .ok (.iload_n 2, 1) := by decide +kernel
theorem dR_init_137 : decode b_R_init 137 = .ok (.putfield 51, 3) := by decide +kernel
theorem dR_init_140 : decode b_R_init 140 = .ok (.iconst 0, 1) := by decide +kernel
theorem dR_init_141 : decode b_R_init 141 = .ok (.istore_n 3, 1) := by decide +kernel
theorem dR_init_142 : decode b_R_init 142 = .ok (.bipush 36, 2) := by decide +kernel
theorem dR_init_144 : decode b_R_init 144 = .ok (.istore 4, 2) := by decide +kernel
theorem dR_init_146 : decode b_R_init 146 = .ok (.iload 4, 2) := by decide +kernel
theorem dR_init_148 : decode b_R_init 148 = .ok (.ifCond .lt 111, 3) := by decide +kernel
theorem dR_init_151 : decode b_R_init 151 = .ok (.iload 4, 2) := by decide +kernel
theorem dR_init_153 : decode b_R_init 153 = .ok (.istore 5, 2) := by decide +kernel
theorem dR_init_155 : decode b_R_init 155 = .ok (.iload 5, 2) := by decide +kernel
theorem dR_init_157 : decode b_R_init 157 = .ok (.ifCond .lt 96, 3) := by decide +kernel
theorem dR_init_160 : decode b_R_init 160 = .ok (.iload 4, 2) := by decide +kernel
theorem dR_init_162 : decode b_R_init 162 = .ok (.iload 5, 2) := by decide +kernel
theorem dR_init_164 : decode b_R_init 164 = .ok (.isub, 1) := by decide +kernel
theorem dR_init_165 : decode b_R_init 165 = .ok (.istore 6, 2) := by decide +kernel
theorem dR_init_167 : decode b_R_init 167 = .ok (.iload 6, 2) := by decide +kernel
theorem dR_init_169 : decode b_R_init 169 = .ok (.ifCond .lt 78, 3) := by decide +kernel
theorem dR_init_172 : decode b_R_init 172 = .ok (.aload_n 0, 1) := by decide +kernel
theorem dR_init_173 : decode b_R_init 173 = .ok (.getfield 7, 3) := by decide +kernel
theorem dR_init_176 : decode b_R_init 176 = .ok (.iconst 3, 1) := by decide +kernel
theorem dR_init_177 : decode b_R_init 177 = .ok (.iload_n 3, 1) := by decide +kernel
theorem dR_init_178 : decode b_R_init 178 = .ok (.imul, 1) := by decide +kernel
theorem dR_init_179 : decode b_R_init 179 = .ok (.iload 5, 2) := by decide +kernel
theorem dR_init_181 : decode b_R_init 181 = .ok (.iastore, 1) := by decide +kernel
theorem dR_init_182 : decode b_R_init 182 = .ok (.aload_n 0, 1) := by decide +kernel
theorem dR_init_183 : decode b_R_init 183 = .ok (.getfield 7, 3) := by decide +kernel
theorem dR_init_186 : decode b_R_init 186 = .ok (.iconst 3, 1) := by decide +kernel
theorem dR_init_187 : decode b_R_init 187 = .ok (.iload_n 3, 1) := by decide +kernel
theorem dR_init_188 : decode b_R_init 188 = .ok (.imul, 1) := by decide +kernel
theorem dR_init_189 : decode b_R_init 189 = .ok (.iconst 1, 1) := by decide +kernel
theorem dR_init_190 : decode b_R_init 190 = .ok (.iadd, 1) := by decide +kernel
theorem dR_init_191 : decode b_R_init 191 = .ok (.iload 6, 2) := by decide +kernel
theorem dR_init_193 : decode b_R_init 193 = .ok (.iastore, 1) := by decide +kernel
theorem dR_init_194 : decode b_R_init 194 = .ok (.aload_n 0, 1) := by decide +kernel
theorem dR_init_195 : decode b_R_init 195 = .ok (.getfield 7, 3) := by decide +kernel
theorem dR_init_198 : decode b_R_init 198 = .ok (.iconst 3, 1) := by decide +kernel
theorem dR_init_199 : decode b_R_init 199 = .ok (.iload_n 3, 1) := by decide +kernel
theorem dR_init_200 : decode b_R_init 200 = .ok (.imul, 1) := by decide +kernel
theorem dR_init_201 : decode b_R_init 201 = .ok (.iconst 2, 1) := by decide +kernel
theorem dR_init_202 : decode b_R_init 202 = .ok (.iadd, 1) := by decide +kernel
theorem dR_init_203 : decode b_R_init 203 = .ok (.iload 4, 2) := by decide +kernel
theorem dR_init_205 : decode b_R_init 205 = .ok (.iload 5, 2) := by decide +kernel
theorem dR_init_207 : decode b_R_init 207 = .ok (.isub, 1) := by decide +kernel
theorem dR_init_208 : decode b_R_init 208 = .ok (.iload 6, 2) := by decide +kernel
theorem dR_init_210 : decode b_R_init 210 = .ok (.isub, 1) := by decide +kernel
theorem dR_init_211 : decode b_R_init 211 = .ok (.iastore, 1) := by decide +kernel
theorem dR_init_212 : decode b_R_init 212 = .ok (.aload_n 0, 1) := by decide +kernel
theorem dR_init_213 : decode b_R_init 213 = .ok (.getfield 14, 3) := by decide +kernel
theorem dR_init_216 : decode b_R_init 216 = .ok (.bipush 37, 2) := by decide +kernel
theorem dR_init_218 : decode b_R_init 218 = .ok (.iload 5, 2) := by decide +kernel
theorem dR_init_220 : decode b_R_init 220 = .ok (.imul, 1) := by decide +kernel
theorem dR_init_221 : decode b_R_init 221 = .ok (.iload 6, 2) := by decide +kernel
theorem dR_init_223 : decode b_R_init 223 = .ok (.iadd, 1) := by decide +kernel
theorem dR_init_224 : decode b_R_init 224 = .ok (.bipush 37, 2) := by decide +kernel
theorem dR_init_226 : decode b_R_init 226 = .ok (.imul, 1) := by decide +kernel
theorem dR_init_227 : decode b_R_init 227 = .ok (.iload 4, 2) := by decide +kernel
theorem dR_init_229 : decode b_R_init 229 = .ok (.iadd, 1) := by decide +kernel
theorem dR_init_230 : decode b_R_init 230 = .ok (.iload 5, 2) := by decide +kernel
theorem dR_init_232 : decode b_R_init 232 = .ok (.isub, 1) := by decide +kernel
theorem dR_init_233 : decode b_R_init 233 = .ok (.iload 6, 2) := by decide +kernel
theorem dR_init_235 : decode b_R_init 235 = .ok (.isub, 1) := by decide +kernel
theorem dR_init_236 : decode b_R_init 236 = .ok (.iload_n 3, 1) := by decide +kernel
theorem dR_init_237 : decode b_R_init 237 = .ok (.iastore, 1) := by decide +kernel
theorem dR_init_238 : decode b_R_init 238 = .ok (.iinc 3 1, 3) := by decide +kernel
theorem dR_init_241 : decode b_R_init 241 = .ok (.iinc 6 (-1), 3) := by decide +kernel
theorem dR_init_244 : decode b_R_init 244 = .ok (.goto (-77), 3) := by decide +kernel
theorem dR_init_247 : decode b_R_init 247 = .ok (.iinc 5 (-1), 3) := by decide +kernel
theorem dR_init_250 : decode b_R_init 250 = .ok (.goto (-95), 3) := by decide +kernel
theorem dR_init_253 : decode b_R_init 253 = .ok (.iinc 4 (-1), 3) := by decide +kernel
theorem dR_init_256 : decode b_R_init 256 = .ok (.goto (-110), 3) := by decide +kernel
theorem dR_init_259 : decode b_R_init 259 = .ok (.return_, 1) := by decide +kernel
theorem dR_isPrime_0 : decode b_R_isPrime 0 = .ok (.iconst 1, 1) := by decide +kernel
theorem dR_isPrime_1 : decode b_R_isPrime 1 = .ok (.istore_n 1, 1) := by decide +kernel
theorem dR_isPrime_2 : decode b_R_isPrime 2 = .ok (.iconst 2, 1) := by decide +kernel
theorem dR_isPrime_3 : decode b_R_isPrime 3 = .ok (.istore_n 2, 1) := by decide +kernel
theorem dR_isPrime_4 : decode b_R_isPrime 4 = .ok (.iload_n 2, 1) := by decide +kernel
theorem dR_isPrime_5 : decode b_R_isPrime 5 = .ok (.iload_n 2, 1) := by decide +kernel
theorem dR_isPrime_6 : decode b_R_isPrime 6 = .ok (.imul, 1) := by decide +kernel
theorem dR_isPrime_7 : decode b_R_isPrime 7 = .ok (.iload_n 0, 1) := by decide +kernel
theorem dR_isPrime_8 : decode b_R_isPrime 8 = .ok (.if_icmp .gt 25, 3) := by decide +kernel
theorem dR_isPrime_11 : decode b_R_isPrime 11 = .ok (.iload_n 1, 1) := by decide +kernel
theorem dR_isPrime_12 : decode b_R_isPrime 12 = .ok (.ifCond .eq 13, 3) := by decide +kernel
theorem dR_isPrime_15 : decode b_R_isPrime 15 = .ok (.iload_n 0, 1) := by decide +kernel
theorem dR_isPrime_16 : decode b_R_isPrime 16 = .ok (.iload_n 2, 1) := by decide +kernel
theorem dR_isPrime_17 : decode b_R_isPrime 17 = .ok (.irem, 1) := by decide +kernel
theorem dR_isPrime_18 : decode b_R_isPrime 18 = .ok (.ifCond .le 7, 3) := by decide +kernel
theorem dR_isPrime_21 : decode b_R_isPrime 21 = .ok (.iconst 1, 1) := by decide +kernel
theorem dR_isPrime_22 : decode b_R_isPrime 22 = .ok (.goto 4, 3) := by decide +kernel
theorem dR_isPrime_25 : decode b_R_isPrime 25 = .ok (.iconst 0, 1) := by decide +kernel
theorem dR_isPrime_26 : decode b_R_isPrime 26 = .ok (.istore_n 1, 1) := by decide +kernel
theorem dR_isPrime_27 : decode b_R_isPrime 27 = .ok (.iinc 2 1, 3) := by decide +kernel
theorem dR_isPrime_30 : decode b_R_isPrime 30 = .ok (.goto (-26), 3) := by decide +kernel
theorem dR_isPrime_33 : decode b_R_isPrime 33 = .ok (.iload_n 1, 1) := by decide +kernel
theorem dR_isPrime_34 : decode b_R_isPrime 34 = .ok (.ireturn, 1) := by decide +kernel
theorem dR_thrown_0 : decode b_R_thrown 0 = .ok (.aload_n 0, 1) := by decide +kernel
theorem dR_thrown_1 : decode b_R_thrown 1 = .ok (.getfield 55, 3) := by decide +kernel
theorem dR_thrown_4 : decode b_R_thrown 4 = .ok (.ireturn, 1) := by decide +kernel
theorem dR_constant_0 : decode b_R_constant 0 = .ok (.aload_n 0, 1) := by decide +kernel
theorem dR_constant_1 : decode b_R_constant 1 = .ok (.iload_n 1, 1) := by decide +kernel
theorem dR_constant_2 : decode b_R_constant 2 = .ok (.invokestatic 85, 3) := by decide +kernel
theorem dR_constant_5 : decode b_R_constant 5 = .ok (.ifCond .ne 7, 3) := by decide +kernel
theorem dR_constant_8 : decode b_R_constant 8 = .ok (.iconst 1, 1) := by decide +kernel
theorem dR_constant_9 : decode b_R_constant 9 = .ok (.goto 4, 3) := by decide +kernel
theorem dR_constant_12 : decode b_R_constant 12 = .ok (.iconst 0, 1) := by decide +kernel
theorem dR_constant_13 : decode b_R_constant 13 = .ok (.iconst 0, 1) := by decide +kernel
theorem dR_constant_14 : decode b_R_constant 14 = .ok (.invokevirtual 88, 3) := by decide +kernel
theorem dR_constant_17 : decode b_R_constant 17 = .ok (.ifCond .eq 4, 3) := by decide +kernel
theorem dR_constant_20 : decode b_R_constant 20 = .ok (.return_, 1) := by decide +kernel
theorem dR_constant_21 : decode b_R_constant 21 = .ok (.aload_n 0, 1) := by decide +kernel
theorem dR_constant_22 : decode b_R_constant 22 = .ok (.getfield 21, 3) := by decide +kernel
theorem dR_constant_25 : decode b_R_constant 25 = .ok (.invokestatic 70, 3) := by decide +kernel
theorem dR_constant_28 : decode b_R_constant 28 = .ok (.aload_n 0, 1) := by decide +kernel
theorem dR_constant_29 : decode b_R_constant 29 = .ok (.getfield 21, 3) := by decide +kernel
theorem dR_constant_32 : decode b_R_constant 32 = .ok (.sipush 9138, 3) := by decide +kernel
theorem dR_constant_35 : decode b_R_constant 35 = .ok (.aload_n 0, 1) := by decide +kernel
theorem dR_constant_36 : decode b_R_constant 36 = .ok (.iload_n 2, 1) := by decide +kernel
theorem dR_constant_37 : decode b_R_constant 37 = .ok (.i2l, 1) := by decide +kernel
theorem dR_constant_38 : decode b_R_constant 38 = .ok (.invokevirtual 66, 3) := by decide +kernel
theorem dR_constant_41 : decode b_R_constant 41 = .ok (.iastore, 1) := by decide +kernel
theorem dR_constant_42 : decode b_R_constant 42 = .ok (.aload_n 0, 1) := by decide +kernel
theorem dR_constant_43 : decode b_R_constant 43 = .ok (.iload_n 1, 1) := by decide +kernel
theorem dR_constant_44 : decode b_R_constant 44 = .ok (.aload_n 0, 1) := by decide +kernel
theorem dR_constant_45 : decode b_R_constant 45 = .ok (.getfield 21, 3) := by decide +kernel
theorem dR_constant_48 : decode b_R_constant 48 = .ok (.invokevirtual 92, 3) := by decide +kernel
theorem dR_constant_51 : decode b_R_constant 51 = .ok (.return_, 1) := by decide +kernel
theorem dR_isRegister_0 : decode b_R_isRegister 0 = .ok (.iload_n 0, 1) := by decide +kernel
theorem dR_isRegister_1 : decode b_R_isRegister 1 = .ok (.ifCond .lt 13, 3) := by decide +kernel
theorem dR_isRegister_4 : decode b_R_isRegister 4 = .ok (.iload_n 0, 1) := by decide +kernel
theorem dR_isRegister_5 : decode b_R_isRegister 5 = .ok (.bipush 12, 2) := by decide +kernel
theorem dR_isRegister_7 : decode b_R_isRegister 7 = .ok (.if_icmp .ge 7, 3) := by decide +kernel
theorem dR_isRegister_10 : decode b_R_isRegister 10 = .ok (.iconst 1, 1) := by decide +kernel
theorem dR_isRegister_11 : decode b_R_isRegister 11 = .ok (.goto 4, 3) := by decide +kernel
theorem dR_isRegister_14 : decode b_R_isRegister 14 = .ok (.iconst 0, 1) := by decide +kernel
theorem dR_isRegister_15 : decode b_R_isRegister 15 = .ok (.ireturn, 1) := by decide +kernel
theorem dR_fails_0 : decode b_R_fails 0 = .ok (.aload_n 0, 1) := by decide +kernel
theorem dR_fails_1 : decode b_R_fails 1 = .ok (.iload_n 1, 1) := by decide +kernel
theorem dR_fails_2 : decode b_R_fails 2 = .ok (.ifCond .eq 7, 3) := by decide +kernel
theorem dR_fails_5 : decode b_R_fails 5 = .ok (.iconst 1, 1) := by decide +kernel
theorem dR_fails_6 : decode b_R_fails 6 = .ok (.goto 12, 3) := by decide +kernel
theorem dR_fails_9 : decode b_R_fails 9 = .ok (.iload_n 2, 1) := by decide +kernel
theorem dR_fails_10 : decode b_R_fails 10 = .ok (.ifCond .eq 7, 3) := by decide +kernel
theorem dR_fails_13 : decode b_R_fails 13 = .ok (.iconst 2, 1) := by decide +kernel
theorem dR_fails_14 : decode b_R_fails 14 = .ok (.goto 4, 3) := by decide +kernel
theorem dR_fails_17 : decode b_R_fails 17 = .ok (.iconst 0, 1) := by decide +kernel
theorem dR_fails_18 : decode b_R_fails 18 = .ok (.putfield 55, 3) := by decide +kernel
theorem dR_fails_21 : decode b_R_fails 21 = .ok (.aload_n 0, 1) := by decide +kernel
theorem dR_fails_22 : decode b_R_fails 22 = .ok (.getfield 55, 3) := by decide +kernel
theorem dR_fails_25 : decode b_R_fails 25 = .ok (.ifCond .le 7, 3) := by decide +kernel
theorem dR_fails_28 : decode b_R_fails 28 = .ok (.iconst 1, 1) := by decide +kernel
theorem dR_fails_29 : decode b_R_fails 29 = .ok (.goto 4, 3) := by decide +kernel
theorem dR_fails_32 : decode b_R_fails 32 = .ok (.iconst 0, 1) := by decide +kernel
theorem dR_fails_33 : decode b_R_fails 33 = .ok (.ireturn, 1) := by decide +kernel
theorem dR_clear_0 : decode b_R_clear 0 = .ok (.iconst 0, 1) := by decide +kernel
theorem dR_clear_1 : decode b_R_clear 1 = .ok (.istore_n 1, 1) := by decide +kernel
theorem dR_clear_2 : decode b_R_clear 2 = .ok (.iload_n 1, 1) := by decide +kernel
theorem dR_clear_3 : decode b_R_clear 3 = .ok (.aload_n 0, 1) := by decide +kernel
theorem dR_clear_4 : decode b_R_clear 4 = .ok (.arraylength, 1) := by decide +kernel
theorem dR_clear_5 : decode b_R_clear 5 = .ok (.if_icmp .ge 13, 3) := by decide +kernel
theorem dR_clear_8 : decode b_R_clear 8 = .ok (.aload_n 0, 1) := by decide +kernel
theorem dR_clear_9 : decode b_R_clear 9 = .ok (.iload_n 1, 1) := by decide +kernel
theorem dR_clear_10 : decode b_R_clear 10 = .ok (.iconst 0, 1) := by decide +kernel
theorem dR_clear_11 : decode b_R_clear 11 = .ok (.iastore, 1) := by decide +kernel
theorem dR_clear_12 : decode b_R_clear 12 = .ok (.iinc 1 1, 3) := by decide +kernel
theorem dR_clear_15 : decode b_R_clear 15 = .ok (.goto (-13), 3) := by decide +kernel
theorem dR_clear_18 : decode b_R_clear 18 = .ok (.return_, 1) := by decide +kernel
theorem dR_reduced_0 : decode b_R_reduced 0 = .ok (.lload_n 1, 1) := by decide +kernel
theorem dR_reduced_1 : decode b_R_reduced 1 = .ok (.aload_n 0, 1) := by decide +kernel
theorem dR_reduced_2 : decode b_R_reduced 2 = .ok (.getfield 51, 3) := by decide +kernel
theorem dR_reduced_5 : decode b_R_reduced 5 = .ok (.i2l, 1) := by decide +kernel
theorem dR_reduced_6 : decode b_R_reduced 6 = .ok (.lrem, 1) := by decide +kernel
theorem dR_reduced_7 : decode b_R_reduced 7 = .ok (.lstore_n 3, 1) := by decide +kernel
theorem dR_reduced_8 : decode b_R_reduced 8 = .ok (.lload_n 3, 1) := by decide +kernel
theorem dR_reduced_9 : decode b_R_reduced 9 = .ok (.lconst 0, 1) := by decide +kernel
theorem dR_reduced_10 : decode b_R_reduced 10 = .ok (.lcmp, 1) := by decide +kernel
theorem dR_reduced_11 : decode b_R_reduced 11 = .ok (.ifCond .ge 13, 3) := by decide +kernel
theorem dR_reduced_14 : decode b_R_reduced 14 = .ok (.lload_n 3, 1) := by decide +kernel
theorem dR_reduced_15 : decode b_R_reduced 15 = .ok (.aload_n 0, 1) := by decide +kernel
theorem dR_reduced_16 : decode b_R_reduced 16 = .ok (.getfield 51, 3) := by decide +kernel
theorem dR_reduced_19 : decode b_R_reduced 19 = .ok (.i2l, 1) := by decide +kernel
theorem dR_reduced_20 : decode b_R_reduced 20 = .ok (.ladd, 1) := by decide +kernel
theorem dR_reduced_21 : decode b_R_reduced 21 = .ok (.goto 4, 3) := by decide +kernel
theorem dR_reduced_24 : decode b_R_reduced 24 = .ok (.lload_n 3, 1) := by decide +kernel
theorem dR_reduced_25 : decode b_R_reduced 25 = .ok (.l2i, 1) := by decide +kernel
theorem dR_reduced_26 : decode b_R_reduced 26 = .ok (.ireturn, 1) := by decide +kernel
theorem dR_keep_0 : decode b_R_keep 0 = .ok (.iconst 0, 1) := by decide +kernel
theorem dR_keep_1 : decode b_R_keep 1 = .ok (.istore_n 3, 1) := by decide +kernel
theorem dR_keep_2 : decode b_R_keep 2 = .ok (.iload_n 3, 1) := by decide +kernel
theorem dR_keep_3 : decode b_R_keep 3 = .ok (.sipush 9139, 3) := by decide +kernel
theorem dR_keep_6 : decode b_R_keep 6 = .ok (.if_icmp .ge 24, 3) := by decide +kernel
theorem dR_keep_9 : decode b_R_keep 9 = .ok (.aload_n 0, 1) := by decide +kernel
theorem dR_keep_10 : decode b_R_keep 10 = .ok (.getfield 18, 3) := by decide +kernel
theorem dR_keep_13 : decode b_R_keep 13 = .ok (.sipush 9139, 3) := by decide +kernel
theorem dR_keep_16 : decode b_R_keep 16 = .ok (.iload_n 1, 1) := by decide +kernel
theorem dR_keep_17 : decode b_R_keep 17 = .ok (.imul, 1) := by decide +kernel
theorem dR_keep_18 : decode b_R_keep 18 = .ok (.iload_n 3, 1) := by decide +kernel
theorem dR_keep_19 : decode b_R_keep 19 = .ok (.iadd, 1) := by decide +kernel
theorem dR_keep_20 : decode b_R_keep 20 = .ok (.aload_n 2, 1) := by decide +kernel
theorem dR_keep_21 : decode b_R_keep 21 = .ok (.iload_n 3, 1) := by decide +kernel
theorem dR_keep_22 : decode b_R_keep 22 = .ok (.iaload, 1) := by decide +kernel
theorem dR_keep_23 : decode b_R_keep 23 = .ok (.iastore, 1) := by decide +kernel
theorem dR_keep_24 : decode b_R_keep 24 = .ok (.iinc 3 1, 3) := by decide +kernel
theorem dR_keep_27 : decode b_R_keep 27 = .ok (.goto (-25), 3) := by decide +kernel
theorem dR_keep_30 : decode b_R_keep 30 = .ok (.return_, 1) := by decide +kernel
theorem dR_variable_0 : decode b_R_variable 0 = .ok (.aload_n 0, 1) := by decide +kernel
theorem dR_variable_1 : decode b_R_variable 1 = .ok (.iload_n 1, 1) := by decide +kernel
theorem dR_variable_2 : decode b_R_variable 2 = .ok (.invokestatic 85, 3) := by decide +kernel
theorem dR_variable_5 : decode b_R_variable 5 = .ok (.ifCond .ne 7, 3) := by decide +kernel
theorem dR_variable_8 : decode b_R_variable 8 = .ok (.iconst 1, 1) := by decide +kernel
theorem dR_variable_9 : decode b_R_variable 9 = .ok (.goto 4, 3) := by decide +kernel
theorem dR_variable_12 : decode b_R_variable 12 = .ok (.iconst 0, 1) := by decide +kernel
theorem dR_variable_13 : decode b_R_variable 13 = .ok (.iload_n 1, 1) := by decide +kernel
theorem dR_variable_14 : decode b_R_variable 14 = .ok (.invokestatic 85, 3) := by decide +kernel
theorem dR_variable_17 : decode b_R_variable 17 = .ok (.ifCond .eq 14, 3) := by decide +kernel
theorem dR_variable_20 : decode b_R_variable 20 = .ok (.iload_n 2, 1) := by decide +kernel
theorem dR_variable_21 : decode b_R_variable 21 = .ok (.invokestatic 96, 3) := by decide +kernel
theorem dR_variable_24 : decode b_R_variable 24 = .ok (.ifCond .ne 7, 3) := by decide +kernel
theorem dR_variable_27 : decode b_R_variable 27 = .ok (.iconst 1, 1) := by decide +kernel
theorem dR_variable_28 : decode b_R_variable 28 = .ok (.goto 4, 3) := by decide +kernel
theorem dR_variable_31 : decode b_R_variable 31 = .ok (.iconst 0, 1) := by decide +kernel
theorem dR_variable_32 : decode b_R_variable 32 = .ok (.invokevirtual 88, 3) := by decide +kernel
theorem dR_variable_35 : decode b_R_variable 35 = .ok (.ifCond .eq 4, 3) := by decide +kernel
theorem dR_variable_38 : decode b_R_variable 38 = .ok (.return_, 1) := by decide +kernel
theorem dR_variable_39 : decode b_R_variable 39 = .ok (.aload_n 0, 1) := by decide +kernel
theorem dR_variable_40 : decode b_R_variable 40 = .ok (.getfield 21, 3) := by decide +kernel
theorem dR_variable_43 : decode b_R_variable 43 = .ok (.invokestatic 70, 3) := by decide +kernel
theorem dR_variable_46 : decode b_R_variable 46 = .ok (.aload_n 0, 1) := by decide +kernel
theorem dR_variable_47 : decode b_R_variable 47 = .ok (.getfield 21, 3) := by decide +kernel
theorem dR_variable_50 : decode b_R_variable 50 = .ok (.aload_n 0, 1) := by decide +kernel
theorem dR_variable_51 : decode b_R_variable 51 = .ok (.iload_n 2, 1) := by decide +kernel
theorem dR_variable_52 : decode b_R_variable 52 = .ok (.ifCond .ne 7, 3) := by decide +kernel
theorem dR_variable_55 : decode b_R_variable 55 = .ok (.iconst 1, 1) := by decide +kernel
theorem dR_variable_56 : decode b_R_variable 56 = .ok (.goto 4, 3) := by decide +kernel
theorem dR_variable_59 : decode b_R_variable 59 = .ok (.iconst 0, 1) := by decide +kernel
theorem dR_variable_60 : decode b_R_variable 60 = .ok (.iload_n 2, 1) := by decide +kernel
theorem dR_variable_61 : decode b_R_variable 61 = .ok (.iconst 1, 1) := by decide +kernel
theorem dR_variable_62 : decode b_R_variable 62 = .ok (.if_icmp .ne 7, 3) := by decide +kernel
theorem dR_variable_65 : decode b_R_variable 65 = .ok (.iconst 1, 1) := by decide +kernel
theorem dR_variable_66 : decode b_R_variable 66 = .ok (.goto 4, 3) := by decide +kernel
theorem dR_variable_69 : decode b_R_variable 69 = .ok (.iconst 0, 1) := by decide +kernel
theorem dR_variable_70 : decode b_R_variable 70 = .ok (.iload_n 2, 1) := by decide +kernel
theorem dR_variable_71 : decode b_R_variable 71 = .ok (.iconst 2, 1) := by decide +kernel
theorem dR_variable_72 : decode b_R_variable 72 = .ok (.if_icmp .ne 7, 3) := by decide +kernel
theorem dR_variable_75 : decode b_R_variable 75 = .ok (.iconst 1, 1) := by decide +kernel
theorem dR_variable_76 : decode b_R_variable 76 = .ok (.goto 4, 3) := by decide +kernel
theorem dR_variable_79 : decode b_R_variable 79 = .ok (.iconst 0, 1) := by decide +kernel
theorem dR_variable_80 : decode b_R_variable 80 = .ok (.invokevirtual 62, 3) := by decide +kernel
theorem dR_variable_83 : decode b_R_variable 83 = .ok (.iconst 1, 1) := by decide +kernel
theorem dR_variable_84 : decode b_R_variable 84 = .ok (.iastore, 1) := by decide +kernel
theorem dR_variable_85 : decode b_R_variable 85 = .ok (.aload_n 0, 1) := by decide +kernel
theorem dR_variable_86 : decode b_R_variable 86 = .ok (.iload_n 1, 1) := by decide +kernel
theorem dR_variable_87 : decode b_R_variable 87 = .ok (.aload_n 0, 1) := by decide +kernel
theorem dR_variable_88 : decode b_R_variable 88 = .ok (.getfield 21, 3) := by decide +kernel
theorem dR_variable_91 : decode b_R_variable 91 = .ok (.invokevirtual 92, 3) := by decide +kernel
theorem dR_variable_94 : decode b_R_variable 94 = .ok (.return_, 1) := by decide +kernel
theorem dR_isVariable_0 : decode b_R_isVariable 0 = .ok (.iload_n 0, 1) := by decide +kernel
theorem dR_isVariable_1 : decode b_R_isVariable 1 = .ok (.ifCond .lt 12, 3) := by decide +kernel
theorem dR_isVariable_4 : decode b_R_isVariable 4 = .ok (.iload_n 0, 1) := by decide +kernel
theorem dR_isVariable_5 : decode b_R_isVariable 5 = .ok (.iconst 3, 1) := by decide +kernel
theorem dR_isVariable_6 : decode b_R_isVariable 6 = .ok (.if_icmp .ge 7, 3) := by decide +kernel
theorem dR_isVariable_9 : decode b_R_isVariable 9 = .ok (.iconst 1, 1) := by decide +kernel
theorem dR_isVariable_10 : decode b_R_isVariable 10 = .ok (.goto 4, 3) := by decide +kernel
theorem dR_isVariable_13 : decode b_R_isVariable 13 = .ok (.iconst 0, 1) := by decide +kernel
theorem dR_isVariable_14 : decode b_R_isVariable 14 = .ok (.ireturn, 1) := by decide +kernel
theorem dR_place_0 : decode b_R_place 0 = .ok (.aload_n 0, 1) := by decide +kernel
theorem dR_place_1 : decode b_R_place 1 = .ok (.getfield 14, 3) := by decide +kernel
theorem dR_place_4 : decode b_R_place 4 = .ok (.bipush 37, 2) := by decide +kernel
theorem dR_place_6 : decode b_R_place 6 = .ok (.iload_n 1, 1) := by decide +kernel
theorem dR_place_7 : decode b_R_place 7 = .ok (.imul, 1) := by decide +kernel
theorem dR_place_8 : decode b_R_place 8 = .ok (.iload_n 2, 1) := by decide +kernel
theorem dR_place_9 : decode b_R_place 9 = .ok (.iadd, 1) := by decide +kernel
theorem dR_place_10 : decode b_R_place 10 = .ok (.bipush 37, 2) := by decide +kernel
theorem dR_place_12 : decode b_R_place 12 = .ok (.imul, 1) := by decide +kernel
theorem dR_place_13 : decode b_R_place 13 = .ok (.iload_n 3, 1) := by decide +kernel
theorem dR_place_14 : decode b_R_place 14 = .ok (.iadd, 1) := by decide +kernel
theorem dR_place_15 : decode b_R_place 15 = .ok (.iaload, 1) := by decide +kernel
theorem dR_place_16 : decode b_R_place 16 = .ok (.ireturn, 1) := by decide +kernel
theorem dR_add_0 : decode b_R_add 0 = .ok (.aload_n 0, 1) := by decide +kernel
theorem dR_add_1 : decode b_R_add 1 = .ok (.iload_n 1, 1) := by decide +kernel
theorem dR_add_2 : decode b_R_add 2 = .ok (.invokestatic 85, 3) := by decide +kernel
theorem dR_add_5 : decode b_R_add 5 = .ok (.ifCond .eq 17, 3) := by decide +kernel
theorem dR_add_8 : decode b_R_add 8 = .ok (.iload_n 2, 1) := by decide +kernel
theorem dR_add_9 : decode b_R_add 9 = .ok (.invokestatic 85, 3) := by decide +kernel
theorem dR_add_12 : decode b_R_add 12 = .ok (.ifCond .eq 10, 3) := by decide +kernel
theorem dR_add_15 : decode b_R_add 15 = .ok (.iload_n 3, 1) := by decide +kernel
theorem dR_add_16 : decode b_R_add 16 = .ok (.invokestatic 85, 3) := by decide +kernel
theorem dR_add_19 : decode b_R_add 19 = .ok (.ifCond .ne 7, 3) := by decide +kernel
theorem dR_add_22 : decode b_R_add 22 = .ok (.iconst 1, 1) := by decide +kernel
theorem dR_add_23 : decode b_R_add 23 = .ok (.goto 4, 3) := by decide +kernel
theorem dR_add_26 : decode b_R_add 26 = .ok (.iconst 0, 1) := by decide +kernel
theorem dR_add_27 : decode b_R_add 27 = .ok (.iconst 0, 1) := by decide +kernel
theorem dR_add_28 : decode b_R_add 28 = .ok (.invokevirtual 88, 3) := by decide +kernel
theorem dR_add_31 : decode b_R_add 31 = .ok (.ifCond .eq 4, 3) := by decide +kernel
theorem dR_add_34 : decode b_R_add 34 = .ok (.return_, 1) := by decide +kernel
theorem dR_add_35 : decode b_R_add 35 = .ok (.aload_n 0, 1) := by decide +kernel
theorem dR_add_36 : decode b_R_add 36 = .ok (.iload_n 2, 1) := by decide +kernel
theorem dR_add_37 : decode b_R_add 37 = .ok (.aload_n 0, 1) := by decide +kernel
theorem dR_add_38 : decode b_R_add 38 = .ok (.getfield 21, 3) := by decide +kernel
theorem dR_add_41 : decode b_R_add 41 = .ok (.invokevirtual 99, 3) := by decide +kernel
theorem dR_add_44 : decode b_R_add 44 = .ok (.aload_n 0, 1) := by decide +kernel
theorem dR_add_45 : decode b_R_add 45 = .ok (.iload_n 3, 1) := by decide +kernel
theorem dR_add_46 : decode b_R_add 46 = .ok (.aload_n 0, 1) := by decide +kernel
theorem dR_add_47 : decode b_R_add 47 = .ok (.getfield 24, 3) := by decide +kernel
theorem dR_add_50 : decode b_R_add 50 = .ok (.invokevirtual 99, 3) := by decide +kernel
theorem dR_add_53 : decode b_R_add 53 = .ok (.aload_n 0, 1) := by decide +kernel
theorem dR_add_54 : decode b_R_add 54 = .ok (.iload 4, 2) := by decide +kernel
theorem dR_add_56 : decode b_R_add 56 = .ok (.i2l, 1) := by decide +kernel
theorem dR_add_57 : decode b_R_add 57 = .ok (.invokevirtual 66, 3) := by decide +kernel
theorem dR_add_60 : decode b_R_add 60 = .ok (.i2l, 1) := by decide +kernel
theorem dR_add_61 : decode b_R_add 61 = .ok (.lstore 5, 2) := by decide +kernel
theorem dR_add_63 : decode b_R_add 63 = .ok (.iconst 0, 1) := by decide +kernel
theorem dR_add_64 : decode b_R_add 64 = .ok (.istore 7, 2) := by decide +kernel
theorem dR_add_66 : decode b_R_add 66 = .ok (.iload 7, 2) := by decide +kernel
theorem dR_add_68 : decode b_R_add 68 = .ok (.sipush 9139, 3) := by decide +kernel
theorem dR_add_71 : decode b_R_add 71 = .ok (.if_icmp .ge 40, 3) := by decide +kernel
theorem dR_add_74 : decode b_R_add 74 = .ok (.aload_n 0, 1) := by decide +kernel
theorem dR_add_75 : decode b_R_add 75 = .ok (.getfield 21, 3) := by decide +kernel
theorem dR_add_78 : decode b_R_add 78 = .ok (.iload 7, 2) := by decide +kernel
theorem dR_add_80 : decode b_R_add 80 = .ok (.aload_n 0, 1) := by decide +kernel
theorem dR_add_81 : decode b_R_add 81 = .ok (.aload_n 0, 1) := by decide +kernel
theorem dR_add_82 : decode b_R_add 82 = .ok (.getfield 21, 3) := by decide +kernel
theorem dR_add_85 : decode b_R_add 85 = .ok (.iload 7, 2) := by decide +kernel
theorem dR_add_87 : decode b_R_add 87 = .ok (.iaload, 1) := by decide +kernel
theorem dR_add_88 : decode b_R_add 88 = .ok (.i2l, 1) := by decide +kernel
theorem dR_add_89 : decode b_R_add 89 = .ok (.lload 5, 2) := by decide +kernel
theorem dR_add_91 : decode b_R_add 91 = .ok (.aload_n 0, 1) := by decide +kernel
theorem dR_add_92 : decode b_R_add 92 = .ok (.getfield 24, 3) := by decide +kernel
theorem dR_add_95 : decode b_R_add 95 = .ok (.iload 7, 2) := by decide +kernel
theorem dR_add_97 : decode b_R_add 97 = .ok (.iaload, 1) := by decide +kernel
theorem dR_add_98 : decode b_R_add 98 = .ok (.i2l, 1) := by decide +kernel
theorem dR_add_99 : decode b_R_add 99 = .ok (.lmul, 1) := by decide +kernel
theorem dR_add_100 : decode b_R_add 100 = .ok (.ladd, 1) := by decide +kernel
theorem dR_add_101 : decode b_R_add 101 = .ok (.invokevirtual 66, 3) := by decide +kernel
theorem dR_add_104 : decode b_R_add 104 = .ok (.iastore, 1) := by decide +kernel
theorem dR_add_105 : decode b_R_add 105 = .ok (.iinc 7 1, 3) := by decide +kernel
theorem dR_add_108 : decode b_R_add 108 = .ok (.goto (-42), 3) := by decide +kernel
theorem dR_add_111 : decode b_R_add 111 = .ok (.aload_n 0, 1) := by decide +kernel
theorem dR_add_112 : decode b_R_add 112 = .ok (.iload_n 1, 1) := by decide +kernel
theorem dR_add_113 : decode b_R_add 113 = .ok (.aload_n 0, 1) := by decide +kernel
theorem dR_add_114 : decode b_R_add 114 = .ok (.getfield 21, 3) := by decide +kernel
theorem dR_add_117 : decode b_R_add 117 = .ok (.invokevirtual 92, 3) := by decide +kernel
theorem dR_add_120 : decode b_R_add 120 = .ok (.return_, 1) := by decide +kernel
theorem dR_load_0 : decode b_R_load 0 = .ok (.iconst 0, 1) := by decide +kernel
theorem dR_load_1 : decode b_R_load 1 = .ok (.istore_n 3, 1) := by decide +kernel
theorem dR_load_2 : decode b_R_load 2 = .ok (.iload_n 3, 1) := by decide +kernel
theorem dR_load_3 : decode b_R_load 3 = .ok (.sipush 9139, 3) := by decide +kernel
theorem dR_load_6 : decode b_R_load 6 = .ok (.if_icmp .ge 24, 3) := by decide +kernel
theorem dR_load_9 : decode b_R_load 9 = .ok (.aload_n 2, 1) := by decide +kernel
theorem dR_load_10 : decode b_R_load 10 = .ok (.iload_n 3, 1) := by decide +kernel
theorem dR_load_11 : decode b_R_load 11 = .ok (.aload_n 0, 1) := by decide +kernel
theorem dR_load_12 : decode b_R_load 12 = .ok (.getfield 18, 3) := by decide +kernel
theorem dR_load_15 : decode b_R_load 15 = .ok (.sipush 9139, 3) := by decide +kernel
theorem dR_load_18 : decode b_R_load 18 = .ok (.iload_n 1, 1) := by decide +kernel
theorem dR_load_19 : decode b_R_load 19 = .ok (.imul, 1) := by decide +kernel
theorem dR_load_20 : decode b_R_load 20 = .ok (.iload_n 3, 1) := by decide +kernel
theorem dR_load_21 : decode b_R_load 21 = .ok (.iadd, 1) := by decide +kernel
theorem dR_load_22 : decode b_R_load 22 = .ok (.iaload, 1) := by decide +kernel
theorem dR_load_23 : decode b_R_load 23 = .ok (.iastore, 1) := by decide +kernel
theorem dR_load_24 : decode b_R_load 24 = .ok (.iinc 3 1, 3) := by decide +kernel
theorem dR_load_27 : decode b_R_load 27 = .ok (.goto (-25), 3) := by decide +kernel
theorem dR_load_30 : decode b_R_load 30 = .ok (.return_, 1) := by decide +kernel
theorem dR_multiply_0 : decode b_R_multiply 0 = .ok (.aload_n 0, 1) := by decide +kernel
theorem dR_multiply_1 : decode b_R_multiply 1 = .ok (.iload_n 1, 1) := by decide +kernel
theorem dR_multiply_2 : decode b_R_multiply 2 = .ok (.invokestatic 85, 3) := by decide +kernel
theorem dR_multiply_5 : decode b_R_multiply 5 = .ok (.ifCond .eq 17, 3) := by decide +kernel
theorem dR_multiply_8 : decode b_R_multiply 8 = .ok (.iload_n 2, 1) := by decide +kernel
theorem dR_multiply_9 : decode b_R_multiply 9 = .ok (.invokestatic 85, 3) := by decide +kernel
theorem dR_multiply_12 : decode b_R_multiply 12 = .ok (.ifCond .eq 10, 3) := by decide +kernel
theorem dR_multiply_15 : decode b_R_multiply 15 = .ok (.iload_n 3, 1) := by decide +kernel
theorem dR_multiply_16 : decode b_R_multiply 16 = .ok (.invokestatic 85, 3) := by decide +kernel
theorem dR_multiply_19 : decode b_R_multiply 19 = .ok (.ifCond .ne 7, 3) := by decide +kernel
theorem dR_multiply_22 : decode b_R_multiply 22 = .ok (.iconst 1, 1) := by decide +kernel
theorem dR_multiply_23 : decode b_R_multiply 23 = .ok (.goto 4, 3) := by decide +kernel
theorem dR_multiply_26 : decode b_R_multiply 26 = .ok (.iconst 0, 1) := by decide +kernel
theorem dR_multiply_27 : decode b_R_multiply 27 = .ok (.iconst 0, 1) := by decide +kernel
theorem dR_multiply_28 : decode b_R_multiply 28 = .ok (.invokevirtual 88, 3) := by decide +kernel
theorem dR_multiply_31 : decode b_R_multiply 31 = .ok (.ifCond .eq 5, 3) := by decide +kernel
theorem dR_multiply_34 : decode b_R_multiply 34 = .ok (.iconst 0, 1) := by decide +kernel
theorem dR_multiply_35 : decode b_R_multiply 35 = .ok (.ireturn, 1) := by decide +kernel
theorem dR_multiply_36 : decode b_R_multiply 36 = .ok (.aload_n 0, 1) := by decide +kernel
theorem dR_multiply_37 : decode b_R_multiply 37 = .ok (.iload_n 2, 1) := by decide +kernel
theorem dR_multiply_38 : decode b_R_multiply 38 = .ok (.aload_n 0, 1) := by decide +kernel
theorem dR_multiply_39 : decode b_R_multiply 39 = .ok (.getfield 21, 3) := by decide +kernel
theorem dR_multiply_42 : decode b_R_multiply 42 = .ok (.invokevirtual 99, 3) := by decide +kernel
theorem dR_multiply_45 : decode b_R_multiply 45 = .ok (.aload_n 0, 1) := by decide +kernel
theorem dR_multiply_46 : decode b_R_multiply 46 = .ok (.iload_n 3, 1) := by decide +kernel
theorem dR_multiply_47 : decode b_R_multiply 47 = .ok (.aload_n 0, 1) := by decide +kernel
theorem dR_multiply_48 : decode b_R_multiply 48 = .ok (.getfield 24, 3) := by decide +kernel
theorem dR_multiply_51 : decode b_R_multiply 51 = .ok (.invokevirtual 99, 3) := by decide +kernel
theorem dR_multiply_54 : decode b_R_multiply 54 = .ok (.iconst 0, 1) := by decide +kernel
theorem dR_multiply_55 : decode b_R_multiply 55 = .ok (.istore 4, 2) := by decide +kernel
theorem dR_multiply_57 : decode b_R_multiply 57 = .ok (.iconst 0, 1) := by decide +kernel
theorem dR_multiply_58 : decode b_R_multiply 58 = .ok (.istore 5, 2) := by decide +kernel
theorem dR_multiply_60 : decode b_R_multiply 60 = .ok (.iload 5, 2) := by decide +kernel
theorem dR_multiply_62 : decode b_R_multiply 62 = .ok (.iconst 3, 1) := by decide +kernel
theorem dR_multiply_63 : decode b_R_multiply 63 = .ok (.if_icmp .ge 47, 3) := by decide +kernel
theorem dR_multiply_66 : decode b_R_multiply 66 = .ok (.iload 4, 2) := by decide +kernel
theorem dR_multiply_68 : decode b_R_multiply 68 = .ok (.ifCond .ne 29, 3) := by decide +kernel
theorem dR_multiply_71 : decode b_R_multiply 71 = .ok (.aload_n 0, 1) := by decide +kernel
theorem dR_multiply_72 : decode b_R_multiply 72 = .ok (.aload_n 0, 1) := by decide +kernel
theorem dR_multiply_73 : decode b_R_multiply 73 = .ok (.getfield 21, 3) := by decide +kernel
theorem dR_multiply_76 : decode b_R_multiply 76 = .ok (.iload 5, 2) := by decide +kernel
theorem dR_multiply_78 : decode b_R_multiply 78 = .ok (.invokevirtual 102, 3) := by decide +kernel
theorem dR_multiply_81 : decode b_R_multiply 81 = .ok (.aload_n 0, 1) := by decide +kernel
theorem dR_multiply_82 : decode b_R_multiply 82 = .ok (.aload_n 0, 1) := by decide +kernel
theorem dR_multiply_83 : decode b_R_multiply 83 = .ok (.getfield 24, 3) := by decide +kernel
theorem dR_multiply_86 : decode b_R_multiply 86 = .ok (.iload 5, 2) := by decide +kernel
theorem dR_multiply_88 : decode b_R_multiply 88 = .ok (.invokevirtual 102, 3) := by decide +kernel
theorem dR_multiply_91 : decode b_R_multiply 91 = .ok (.iadd, 1) := by decide +kernel
theorem dR_multiply_92 : decode b_R_multiply 92 = .ok (.bipush 12, 2) := by decide +kernel
theorem dR_multiply_94 : decode b_R_multiply 94 = .ok (.if_icmp .le 7, 3) := by decide +kernel
theorem dR_multiply_97 : decode b_R_multiply 97 = .ok (.iconst 1, 1) := by decide +kernel
theorem dR_multiply_98 : decode b_R_multiply 98 = .ok (.goto 4, 3) := by decide +kernel
theorem dR_multiply_101 : decode b_R_multiply 101 = .ok (.iconst 0, 1) := by decide +kernel
theorem dR_multiply_102 : decode b_R_multiply 102 = .ok (.istore 4, 2) := by decide +kernel
theorem dR_multiply_104 : decode b_R_multiply 104 = .ok (.iinc 5 1, 3) := by decide +kernel
theorem dR_multiply_107 : decode b_R_multiply 107 = .ok (.goto (-47), 3) := by decide +kernel
theorem dR_multiply_110 : decode b_R_multiply 110 = .ok (.aload_n 0, 1) := by decide +kernel
theorem dR_multiply_111 : decode b_R_multiply 111 = .ok (.iload 4, 2) := by decide +kernel
theorem dR_multiply_113 : decode b_R_multiply 113 = .ok (.invokevirtual 106, 3) := by decide +kernel
theorem dR_multiply_116 : decode b_R_multiply 116 = .ok (.ifCond .eq 5, 3) := by decide +kernel
theorem dR_multiply_119 : decode b_R_multiply 119 = .ok (.iconst 0, 1) := by decide +kernel
theorem dR_multiply_120 : decode b_R_multiply 120 = .ok (.ireturn, 1) := by decide +kernel
theorem dR_multiply_121 : decode b_R_multiply 121 = .ok (.aload_n 0, 1) := by decide +kernel
theorem dR_multiply_122 : decode b_R_multiply 122 = .ok (.aload_n 0, 1) := by decide +kernel
theorem dR_multiply_123 : decode b_R_multiply 123 = .ok (.getfield 21, 3) := by decide +kernel
theorem dR_multiply_126 : decode b_R_multiply 126 = .ok (.aload_n 0, 1) := by decide +kernel
theorem dR_multiply_127 : decode b_R_multiply 127 = .ok (.getfield 24, 3) := by decide +kernel
theorem dR_multiply_130 : decode b_R_multiply 130 = .ok (.invokevirtual 110, 3) := by decide +kernel
theorem dR_multiply_133 : decode b_R_multiply 133 = .ok (.aload_n 0, 1) := by decide +kernel
theorem dR_multiply_134 : decode b_R_multiply 134 = .ok (.iload_n 1, 1) := by decide +kernel
theorem dR_multiply_135 : decode b_R_multiply 135 = .ok (.aload_n 0, 1) := by decide +kernel
theorem dR_multiply_136 : decode b_R_multiply 136 = .ok (.getfield 21, 3) := by decide +kernel
theorem dR_multiply_139 : decode b_R_multiply 139 = .ok (.invokevirtual 92, 3) := by decide +kernel
theorem dR_multiply_142 : decode b_R_multiply 142 = .ok (.iconst 1, 1) := by decide +kernel
theorem dR_multiply_143 : decode b_R_multiply 143 = .ok (.ireturn, 1) := by decide +kernel
theorem dR_degreeOf_0 : decode b_R_degreeOf 0 = .ok (.iconst 0, 1) := by decide +kernel
theorem dR_degreeOf_1 : decode b_R_degreeOf 1 = .ok (.istore_n 3, 1) := by decide +kernel
theorem dR_degreeOf_2 : decode b_R_degreeOf 2 = .ok (.iconst 0, 1) := by decide +kernel
theorem dR_degreeOf_3 : decode b_R_degreeOf 3 = .ok (.istore 4, 2) := by decide +kernel
theorem dR_degreeOf_5 : decode b_R_degreeOf 5 = .ok (.iload 4, 2) := by decide +kernel
theorem dR_degreeOf_7 : decode b_R_degreeOf 7 = .ok (.sipush 9139, 3) := by decide +kernel
theorem dR_degreeOf_10 : decode b_R_degreeOf 10 = .ok (.if_icmp .ge 39, 3) := by decide +kernel
theorem dR_degreeOf_13 : decode b_R_degreeOf 13 = .ok (.aload_n 1, 1) := by decide +kernel
theorem dR_degreeOf_14 : decode b_R_degreeOf 14 = .ok (.iload 4, 2) := by decide +kernel
theorem dR_degreeOf_16 : decode b_R_degreeOf 16 = .ok (.iaload, 1) := by decide +kernel
theorem dR_degreeOf_17 : decode b_R_degreeOf 17 = .ok (.ifCond .eq 24, 3) := by decide +kernel
theorem dR_degreeOf_20 : decode b_R_degreeOf 20 = .ok (.aload_n 0, 1) := by decide +kernel
theorem dR_degreeOf_21 : decode b_R_degreeOf 21 = .ok (.iload 4, 2) := by decide +kernel
theorem dR_degreeOf_23 : decode b_R_degreeOf 23 = .ok (.iload_n 2, 1) := by decide +kernel
theorem dR_degreeOf_24 : decode b_R_degreeOf 24 = .ok (.invokevirtual 58, 3) := by decide +kernel
theorem dR_degreeOf_27 : decode b_R_degreeOf 27 = .ok (.iload_n 3, 1) := by decide +kernel
theorem dR_degreeOf_28 : decode b_R_degreeOf 28 = .ok (.if_icmp .le 13, 3) := by decide +kernel
theorem dR_degreeOf_31 : decode b_R_degreeOf 31 = .ok (.aload_n 0, 1) := by decide +kernel
theorem dR_degreeOf_32 : decode b_R_degreeOf 32 = .ok (.iload 4, 2) := by decide +kernel
theorem dR_degreeOf_34 : decode b_R_degreeOf 34 = .ok (.iload_n 2, 1) := by decide +kernel
theorem dR_degreeOf_35 : decode b_R_degreeOf 35 = .ok (.invokevirtual 58, 3) := by decide +kernel
theorem dR_degreeOf_38 : decode b_R_degreeOf 38 = .ok (.goto 4, 3) := by decide +kernel
theorem dR_degreeOf_41 : decode b_R_degreeOf 41 = .ok (.iload_n 3, 1) := by decide +kernel
theorem dR_degreeOf_42 : decode b_R_degreeOf 42 = .ok (.istore_n 3, 1) := by decide +kernel
theorem dR_degreeOf_43 : decode b_R_degreeOf 43 = .ok (.iinc 4 1, 3) := by decide +kernel
theorem dR_degreeOf_46 : decode b_R_degreeOf 46 = .ok (.goto (-41), 3) := by decide +kernel
theorem dR_degreeOf_49 : decode b_R_degreeOf 49 = .ok (.iload_n 3, 1) := by decide +kernel
theorem dR_degreeOf_50 : decode b_R_degreeOf 50 = .ok (.ireturn, 1) := by decide +kernel
theorem dR_exponent_0 : decode b_R_exponent 0 = .ok (.aload_n 0, 1) := by decide +kernel
theorem dR_exponent_1 : decode b_R_exponent 1 = .ok (.getfield 7, 3) := by decide +kernel
theorem dR_exponent_4 : decode b_R_exponent 4 = .ok (.iconst 3, 1) := by decide +kernel
theorem dR_exponent_5 : decode b_R_exponent 5 = .ok (.iload_n 1, 1) := by decide +kernel
theorem dR_exponent_6 : decode b_R_exponent 6 = .ok (.imul, 1) := by decide +kernel
theorem dR_exponent_7 : decode b_R_exponent 7 = .ok (.iload_n 2, 1) := by decide +kernel
theorem dR_exponent_8 : decode b_R_exponent 8 = .ok (.iadd, 1) := by decide +kernel
theorem dR_exponent_9 : decode b_R_exponent 9 = .ok (.iaload, 1) := by decide +kernel
theorem dR_exponent_10 : decode b_R_exponent 10 = .ok (.ireturn, 1) := by decide +kernel
theorem dR_refuses_0 : decode b_R_refuses 0 = .ok (.aload_n 0, 1) := by decide +kernel
theorem dR_refuses_1 : decode b_R_refuses 1 = .ok (.iload_n 1, 1) := by decide +kernel
theorem dR_refuses_2 : decode b_R_refuses 2 = .ok (.ifCond .eq 12, 3) := by decide +kernel
theorem dR_refuses_5 : decode b_R_refuses 5 = .ok (.aload_n 0, 1) := by decide +kernel
theorem dR_refuses_6 : decode b_R_refuses 6 = .ok (.getfield 82, 3) := by decide +kernel
theorem dR_refuses_9 : decode b_R_refuses 9 = .ok (.iconst 1, 1) := by decide +kernel
theorem dR_refuses_10 : decode b_R_refuses 10 = .ok (.iadd, 1) := by decide +kernel
theorem dR_refuses_11 : decode b_R_refuses 11 = .ok (.goto 7, 3) := by decide +kernel
theorem dR_refuses_14 : decode b_R_refuses 14 = .ok (.aload_n 0, 1) := by decide +kernel
theorem dR_refuses_15 : decode b_R_refuses 15 = .ok (.getfield 82, 3) := by decide +kernel
theorem dR_refuses_18 : decode b_R_refuses 18 = .ok (.putfield 82, 3) := by decide +kernel
theorem dR_refuses_21 : decode b_R_refuses 21 = .ok (.iload_n 1, 1) := by decide +kernel
theorem dR_refuses_22 : decode b_R_refuses 22 = .ok (.ireturn, 1) := by decide +kernel
theorem dR_times_0 : decode b_R_times 0 = .ok (.aload_n 0, 1) := by decide +kernel
theorem dR_times_1 : decode b_R_times 1 = .ok (.getfield 27, 3) := by decide +kernel
theorem dR_times_4 : decode b_R_times 4 = .ok (.invokestatic 70, 3) := by decide +kernel
theorem dR_times_7 : decode b_R_times 7 = .ok (.aload_n 0, 1) := by decide +kernel
theorem dR_times_8 : decode b_R_times 8 = .ok (.aload_n 1, 1) := by decide +kernel
theorem dR_times_9 : decode b_R_times 9 = .ok (.iconst 0, 1) := by decide +kernel
theorem dR_times_10 : decode b_R_times 10 = .ok (.aload_n 2, 1) := by decide +kernel
theorem dR_times_11 : decode b_R_times 11 = .ok (.iconst 0, 1) := by decide +kernel
theorem dR_times_12 : decode b_R_times 12 = .ok (.aload_n 0, 1) := by decide +kernel
theorem dR_times_13 : decode b_R_times 13 = .ok (.getfield 27, 3) := by decide +kernel
theorem dR_times_16 : decode b_R_times 16 = .ok (.iconst 0, 1) := by decide +kernel
theorem dR_times_17 : decode b_R_times 17 = .ok (.iconst 0, 1) := by decide +kernel
theorem dR_times_18 : decode b_R_times 18 = .ok (.invokevirtual 74, 3) := by decide +kernel
theorem dR_times_21 : decode b_R_times 21 = .ok (.aload_n 0, 1) := by decide +kernel
theorem dR_times_22 : decode b_R_times 22 = .ok (.getfield 27, 3) := by decide +kernel
theorem dR_times_25 : decode b_R_times 25 = .ok (.aload_n 1, 1) := by decide +kernel
theorem dR_times_26 : decode b_R_times 26 = .ok (.invokestatic 78, 3) := by decide +kernel
theorem dR_times_29 : decode b_R_times 29 = .ok (.return_, 1) := by decide +kernel
theorem dR_gather_0 : decode b_R_gather 0 = .ok (.iconst 0, 1) := by decide +kernel
theorem dR_gather_1 : decode b_R_gather 1 = .ok (.istore 8, 2) := by decide +kernel
theorem dR_gather_3 : decode b_R_gather 3 = .ok (.iconst 0, 1) := by decide +kernel
theorem dR_gather_4 : decode b_R_gather 4 = .ok (.istore 9, 2) := by decide +kernel
theorem dR_gather_6 : decode b_R_gather 6 = .ok (.iload 9, 2) := by decide +kernel
theorem dR_gather_8 : decode b_R_gather 8 = .ok (.sipush 9139, 3) := by decide +kernel
theorem dR_gather_11 : decode b_R_gather 11 = .ok (.if_icmp .ge 34, 3) := by decide +kernel
theorem dR_gather_14 : decode b_R_gather 14 = .ok (.aload_n 3, 1) := by decide +kernel
theorem dR_gather_15 : decode b_R_gather 15 = .ok (.iload 4, 2) := by decide +kernel
theorem dR_gather_17 : decode b_R_gather 17 = .ok (.iload 9, 2) := by decide +kernel
theorem dR_gather_19 : decode b_R_gather 19 = .ok (.iadd, 1) := by decide +kernel
theorem dR_gather_20 : decode b_R_gather 20 = .ok (.iaload, 1) := by decide +kernel
theorem dR_gather_21 : decode b_R_gather 21 = .ok (.ifCond .ne 6, 3) := by decide +kernel
theorem dR_gather_24 : decode b_R_gather 24 = .ok (.goto 15, 3) := by decide +kernel
theorem dR_gather_27 : decode b_R_gather 27 = .ok (.aload_n 0, 1) := by decide +kernel
theorem dR_gather_28 : decode b_R_gather 28 = .ok (.getfield 30, 3) := by decide +kernel
theorem dR_gather_31 : decode b_R_gather 31 = .ok (.iload 8, 2) := by decide +kernel
theorem dR_gather_33 : decode b_R_gather 33 = .ok (.iload 9, 2) := by decide +kernel
theorem dR_gather_35 : decode b_R_gather 35 = .ok (.iastore, 1) := by decide +kernel
theorem dR_gather_36 : decode b_R_gather 36 = .ok (.iinc 8 1, 3) := by decide +kernel
theorem dR_gather_39 : decode b_R_gather 39 = .ok (.iinc 9 1, 3) := by decide +kernel
theorem dR_gather_42 : decode b_R_gather 42 = .ok (.goto (-36), 3) := by decide +kernel
theorem dR_gather_45 : decode b_R_gather 45 = .ok (.iconst 0, 1) := by decide +kernel
theorem dR_gather_46 : decode b_R_gather 46 = .ok (.istore 9, 2) := by decide +kernel
theorem dR_gather_48 : decode b_R_gather 48 = .ok (.iload 9, 2) := by decide +kernel
theorem dR_gather_50 : decode b_R_gather 50 = .ok (.sipush 9139, 3) := by decide +kernel
theorem dR_gather_53 : decode b_R_gather 53 = .ok (.if_icmp .ge 159, 3) := by decide +kernel
theorem dR_gather_56 : decode b_R_gather 56 = .ok (.aload_n 1, 1) := by decide +kernel
theorem dR_gather_57 : decode b_R_gather 57 = .ok (.iload_n 2, 1) := by decide +kernel
theorem dR_gather_58 : decode b_R_gather 58 = .ok (.iload 9, 2) := by decide +kernel
theorem dR_gather_60 : decode b_R_gather 60 = .ok (.iadd, 1) := by decide +kernel
theorem dR_gather_61 : decode b_R_gather 61 = .ok (.iaload, 1) := by decide +kernel
theorem dR_gather_62 : decode b_R_gather 62 = .ok (.ifCond .ne 6, 3) := by decide +kernel
theorem dR_gather_65 : decode b_R_gather 65 = .ok (.goto 141, 3) := by decide +kernel
theorem dR_gather_68 : decode b_R_gather 68 = .ok (.iconst 0, 1) := by decide +kernel
theorem dR_gather_69 : decode b_R_gather 69 = .ok (.istore 10, 2) := by decide +kernel
theorem dR_gather_71 : decode b_R_gather 71 = .ok (.iload 10, 2) := by decide +kernel
theorem dR_gather_73 : decode b_R_gather 73 = .ok (.iload 8, 2) := by decide +kernel
theorem dR_gather_75 : decode b_R_gather 75 = .ok (.if_icmp .ge 131, 3) := by decide +kernel
theorem dR_gather_78 : decode b_R_gather 78 = .ok (.aload_n 0, 1) := by decide +kernel
theorem dR_gather_79 : decode b_R_gather 79 = .ok (.getfield 30, 3) := by decide +kernel
theorem dR_gather_82 : decode b_R_gather 82 = .ok (.iload 10, 2) := by decide +kernel
theorem dR_gather_84 : decode b_R_gather 84 = .ok (.iaload, 1) := by decide +kernel
theorem dR_gather_85 : decode b_R_gather 85 = .ok (.istore 11, 2) := by decide +kernel
theorem dR_gather_87 : decode b_R_gather 87 = .ok (.aload_n 0, 1) := by decide +kernel
theorem dR_gather_88 : decode b_R_gather 88 = .ok (.aload_n 0, 1) := by decide +kernel
theorem dR_gather_89 : decode b_R_gather 89 = .ok (.iload 9, 2) := by decide +kernel
theorem dR_gather_91 : decode b_R_gather 91 = .ok (.iconst 0, 1) := by decide +kernel
theorem dR_gather_92 : decode b_R_gather 92 = .ok (.invokevirtual 58, 3) := by decide +kernel
theorem dR_gather_95 : decode b_R_gather 95 = .ok (.aload_n 0, 1) := by decide +kernel
theorem dR_gather_96 : decode b_R_gather 96 = .ok (.iload 11, 2) := by decide +kernel
theorem dR_gather_98 : decode b_R_gather 98 = .ok (.iconst 0, 1) := by decide +kernel
theorem dR_gather_99 : decode b_R_gather 99 = .ok (.invokevirtual 58, 3) := by decide +kernel
theorem dR_gather_102 : decode b_R_gather 102 = .ok (.iadd, 1) := by decide +kernel
theorem dR_gather_103 : decode b_R_gather 103 = .ok (.aload_n 0, 1) := by decide +kernel
theorem dR_gather_104 : decode b_R_gather 104 = .ok (.iload 9, 2) := by decide +kernel
theorem dR_gather_106 : decode b_R_gather 106 = .ok (.iconst 1, 1) := by decide +kernel
theorem dR_gather_107 : decode b_R_gather 107 = .ok (.invokevirtual 58, 3) := by decide +kernel
theorem dR_gather_110 : decode b_R_gather 110 = .ok (.aload_n 0, 1) := by decide +kernel
theorem dR_gather_111 : decode b_R_gather 111 = .ok (.iload 11, 2) := by decide +kernel
theorem dR_gather_113 : decode b_R_gather 113 = .ok (.iconst 1, 1) := by decide +kernel
theorem dR_gather_114 : decode b_R_gather 114 = .ok (.invokevirtual 58, 3) := by decide +kernel
theorem dR_gather_117 : decode b_R_gather 117 = .ok (.iadd, 1) := by decide +kernel
theorem dR_gather_118 : decode b_R_gather 118 = .ok (.aload_n 0, 1) := by decide +kernel
theorem dR_gather_119 : decode b_R_gather 119 = .ok (.iload 9, 2) := by decide +kernel
theorem dR_gather_121 : decode b_R_gather 121 = .ok (.iconst 2, 1) := by decide +kernel
theorem dR_gather_122 : decode b_R_gather 122 = .ok (.invokevirtual 58, 3) := by decide +kernel
theorem dR_gather_125 : decode b_R_gather 125 = .ok (.aload_n 0, 1) := by decide +kernel
theorem dR_gather_126 : decode b_R_gather 126 = .ok (.iload 11, 2) := by decide +kernel
theorem dR_gather_128 : decode b_R_gather 128 = .ok (.iconst 2, 1) := by decide +kernel
theorem dR_gather_129 : decode b_R_gather 129 = .ok (.invokevirtual 58, 3) := by decide +kernel
theorem dR_gather_132 : decode b_R_gather 132 = .ok (.iadd, 1) := by decide +kernel
theorem dR_gather_133 : decode b_R_gather 133 = .ok (.invokevirtual 62, 3) := by decide +kernel
theorem dR_gather_136 : decode b_R_gather 136 = .ok (.istore 12, 2) := by decide +kernel
theorem dR_gather_138 : decode b_R_gather 138 = .ok (.aload_n 1, 1) := by decide +kernel
theorem dR_gather_139 : decode b_R_gather 139 = .ok (.iload_n 2, 1) := by decide +kernel
theorem dR_gather_140 : decode b_R_gather 140 = .ok (.iload 9, 2) := by decide +kernel
theorem dR_gather_142 : decode b_R_gather 142 = .ok (.iadd, 1) := by decide +kernel
theorem dR_gather_143 : decode b_R_gather 143 = .ok (.iaload, 1) := by decide +kernel
theorem dR_gather_144 : decode b_R_gather 144 = .ok (.i2l, 1) := by decide +kernel
theorem dR_gather_145 : decode b_R_gather 145 = .ok (.aload_n 3, 1) := by decide +kernel
theorem dR_gather_146 : decode b_R_gather 146 = .ok (.iload 4, 2) := by decide +kernel
theorem dR_gather_148 : decode b_R_gather 148 = .ok (.iload 11, 2) := by decide +kernel
theorem dR_gather_150 : decode b_R_gather 150 = .ok (.iadd, 1) := by decide +kernel
theorem dR_gather_151 : decode b_R_gather 151 = .ok (.iaload, 1) := by decide +kernel
theorem dR_gather_152 : decode b_R_gather 152 = .ok (.i2l, 1) := by decide +kernel
theorem dR_gather_153 : decode b_R_gather 153 = .ok (.lmul, 1) := by decide +kernel
theorem dR_gather_154 : decode b_R_gather 154 = .ok (.lstore 13, 2) := by decide +kernel
theorem dR_gather_156 : decode b_R_gather 156 = .ok (.aload 5, 2) := by decide +kernel
theorem dR_gather_158 : decode b_R_gather 158 = .ok (.iload 6, 2) := by decide +kernel
theorem dR_gather_160 : decode b_R_gather 160 = .ok (.iload 12, 2) := by decide +kernel
theorem dR_gather_162 : decode b_R_gather 162 = .ok (.iadd, 1) := by decide +kernel
theorem dR_gather_163 : decode b_R_gather 163 = .ok (.aload_n 0, 1) := by decide +kernel
theorem dR_gather_164 : decode b_R_gather 164 = .ok (.iload 7, 2) := by decide +kernel
theorem dR_gather_166 : decode b_R_gather 166 = .ok (.ifCond .eq 18, 3) := by decide +kernel
theorem dR_gather_169 : decode b_R_gather 169 = .ok (.aload 5, 2) := by decide +kernel
theorem dR_gather_171 : decode b_R_gather 171 = .ok (.iload 6, 2) := by decide +kernel
theorem dR_gather_173 : decode b_R_gather 173 = .ok (.iload 12, 2) := by decide +kernel
theorem dR_gather_175 : decode b_R_gather 175 = .ok (.iadd, 1) := by decide +kernel
theorem dR_gather_176 : decode b_R_gather 176 = .ok (.iaload, 1) := by decide +kernel
theorem dR_gather_177 : decode b_R_gather 177 = .ok (.i2l, 1) := by decide +kernel
theorem dR_gather_178 : decode b_R_gather 178 = .ok (.lload 13, 2) := by decide +kernel
theorem dR_gather_180 : decode b_R_gather 180 = .ok (.lsub, 1) := by decide +kernel
theorem dR_gather_181 : decode b_R_gather 181 = .ok (.goto 15, 3) := by decide +kernel
theorem dR_gather_184 : decode b_R_gather 184 = .ok (.aload 5, 2) := by decide +kernel
theorem dR_gather_186 : decode b_R_gather 186 = .ok (.iload 6, 2) := by decide +kernel
theorem dR_gather_188 : decode b_R_gather 188 = .ok (.iload 12, 2) := by decide +kernel
theorem dR_gather_190 : decode b_R_gather 190 = .ok (.iadd, 1) := by decide +kernel
theorem dR_gather_191 : decode b_R_gather 191 = .ok (.iaload, 1) := by decide +kernel
theorem dR_gather_192 : decode b_R_gather 192 = .ok (.i2l, 1) := by decide +kernel
theorem dR_gather_193 : decode b_R_gather 193 = .ok (.lload 13, 2) := by decide +kernel
theorem dR_gather_195 : decode b_R_gather 195 = .ok (.ladd, 1) := by decide +kernel
theorem dR_gather_196 : decode b_R_gather 196 = .ok (.invokevirtual 66, 3) := by decide +kernel
theorem dR_gather_199 : decode b_R_gather 199 = .ok (.iastore, 1) := by decide +kernel
theorem dR_gather_200 : decode b_R_gather 200 = .ok (.iinc 10 1, 3) := by decide +kernel
theorem dR_gather_203 : decode b_R_gather 203 = .ok (.goto (-132), 3) := by decide +kernel
theorem dR_gather_206 : decode b_R_gather 206 = .ok (.iinc 9 1, 3) := by decide +kernel
theorem dR_gather_209 : decode b_R_gather 209 = .ok (.goto (-161), 3) := by decide +kernel
theorem dR_gather_212 : decode b_R_gather 212 = .ok (.return_, 1) := by decide +kernel
theorem dR_copy_0 : decode b_R_copy 0 = .ok (.iconst 0, 1) := by decide +kernel
theorem dR_copy_1 : decode b_R_copy 1 = .ok (.istore_n 2, 1) := by decide +kernel
theorem dR_copy_2 : decode b_R_copy 2 = .ok (.iload_n 2, 1) := by decide +kernel
theorem dR_copy_3 : decode b_R_copy 3 = .ok (.aload_n 0, 1) := by decide +kernel
theorem dR_copy_4 : decode b_R_copy 4 = .ok (.arraylength, 1) := by decide +kernel
theorem dR_copy_5 : decode b_R_copy 5 = .ok (.if_icmp .ge 15, 3) := by decide +kernel
theorem dR_copy_8 : decode b_R_copy 8 = .ok (.aload_n 1, 1) := by decide +kernel
theorem dR_copy_9 : decode b_R_copy 9 = .ok (.iload_n 2, 1) := by decide +kernel
theorem dR_copy_10 : decode b_R_copy 10 = .ok (.aload_n 0, 1) := by decide +kernel
theorem dR_copy_11 : decode b_R_copy 11 = .ok (.iload_n 2, 1) := by decide +kernel
theorem dR_copy_12 : decode b_R_copy 12 = .ok (.iaload, 1) := by decide +kernel
theorem dR_copy_13 : decode b_R_copy 13 = .ok (.iastore, 1) := by decide +kernel
theorem dR_copy_14 : decode b_R_copy 14 = .ok (.iinc 2 1, 3) := by decide +kernel
theorem dR_copy_17 : decode b_R_copy 17 = .ok (.goto (-15), 3) := by decide +kernel
theorem dR_copy_20 : decode b_R_copy 20 = .ok (.return_, 1) := by decide +kernel
theorem dR_power_0 : decode b_R_power 0 = .ok (.iload_n 1, 1) := by decide +kernel
theorem dR_power_1 : decode b_R_power 1 = .ok (.invokestatic 85, 3) := by decide +kernel
theorem dR_power_4 : decode b_R_power 4 = .ok (.ifCond .eq 14, 3) := by decide +kernel
theorem dR_power_7 : decode b_R_power 7 = .ok (.iload_n 2, 1) := by decide +kernel
theorem dR_power_8 : decode b_R_power 8 = .ok (.invokestatic 85, 3) := by decide +kernel
theorem dR_power_11 : decode b_R_power 11 = .ok (.ifCond .eq 7, 3) := by decide +kernel
theorem dR_power_14 : decode b_R_power 14 = .ok (.iconst 1, 1) := by decide +kernel
theorem dR_power_15 : decode b_R_power 15 = .ok (.goto 4, 3) := by decide +kernel
theorem dR_power_18 : decode b_R_power 18 = .ok (.iconst 0, 1) := by decide +kernel
theorem dR_power_19 : decode b_R_power 19 = .ok (.istore 4, 2) := by decide +kernel
theorem dR_power_21 : decode b_R_power 21 = .ok (.aload_n 0, 1) := by decide +kernel
theorem dR_power_22 : decode b_R_power 22 = .ok (.iload 4, 2) := by decide +kernel
theorem dR_power_24 : decode b_R_power 24 = .ok (.ifCond .ne 7, 3) := by decide +kernel
theorem dR_power_27 : decode b_R_power 27 = .ok (.iconst 1, 1) := by decide +kernel
theorem dR_power_28 : decode b_R_power 28 = .ok (.goto 4, 3) := by decide +kernel
theorem dR_power_31 : decode b_R_power 31 = .ok (.iconst 0, 1) := by decide +kernel
theorem dR_power_32 : decode b_R_power 32 = .ok (.iload 4, 2) := by decide +kernel
theorem dR_power_34 : decode b_R_power 34 = .ok (.ifCond .eq 17, 3) := by decide +kernel
theorem dR_power_37 : decode b_R_power 37 = .ok (.iload_n 3, 1) := by decide +kernel
theorem dR_power_38 : decode b_R_power 38 = .ok (.ifCond .lt 9, 3) := by decide +kernel
theorem dR_power_41 : decode b_R_power 41 = .ok (.iload_n 3, 1) := by decide +kernel
theorem dR_power_42 : decode b_R_power 42 = .ok (.bipush 100, 2) := by decide +kernel
theorem dR_power_44 : decode b_R_power 44 = .ok (.if_icmp .le 7, 3) := by decide +kernel
theorem dR_power_47 : decode b_R_power 47 = .ok (.iconst 1, 1) := by decide +kernel
theorem dR_power_48 : decode b_R_power 48 = .ok (.goto 4, 3) := by decide +kernel
theorem dR_power_51 : decode b_R_power 51 = .ok (.iconst 0, 1) := by decide +kernel
theorem dR_power_52 : decode b_R_power 52 = .ok (.invokevirtual 88, 3) := by decide +kernel
theorem dR_power_55 : decode b_R_power 55 = .ok (.ifCond .eq 5, 3) := by decide +kernel
theorem dR_power_58 : decode b_R_power 58 = .ok (.iconst 0, 1) := by decide +kernel
theorem dR_power_59 : decode b_R_power 59 = .ok (.ireturn, 1) := by decide +kernel
theorem dR_power_60 : decode b_R_power 60 = .ok (.aload_n 0, 1) := by decide +kernel
theorem dR_power_61 : decode b_R_power 61 = .ok (.iload_n 2, 1) := by decide +kernel
theorem dR_power_62 : decode b_R_power 62 = .ok (.aload_n 0, 1) := by decide +kernel
theorem dR_power_63 : decode b_R_power 63 = .ok (.getfield 24, 3) := by decide +kernel
theorem dR_power_66 : decode b_R_power 66 = .ok (.invokevirtual 99, 3) := by decide +kernel
theorem dR_power_69 : decode b_R_power 69 = .ok (.iconst 0, 1) := by decide +kernel
theorem dR_power_70 : decode b_R_power 70 = .ok (.istore 5, 2) := by decide +kernel
theorem dR_power_72 : decode b_R_power 72 = .ok (.iconst 0, 1) := by decide +kernel
theorem dR_power_73 : decode b_R_power 73 = .ok (.istore 6, 2) := by decide +kernel
theorem dR_power_75 : decode b_R_power 75 = .ok (.iload 6, 2) := by decide +kernel
theorem dR_power_77 : decode b_R_power 77 = .ok (.iconst 3, 1) := by decide +kernel
theorem dR_power_78 : decode b_R_power 78 = .ok (.if_icmp .ge 38, 3) := by decide +kernel
theorem dR_power_81 : decode b_R_power 81 = .ok (.iload 5, 2) := by decide +kernel
theorem dR_power_83 : decode b_R_power 83 = .ok (.ifCond .ne 20, 3) := by decide +kernel
theorem dR_power_86 : decode b_R_power 86 = .ok (.iload_n 3, 1) := by decide +kernel
theorem dR_power_87 : decode b_R_power 87 = .ok (.aload_n 0, 1) := by decide +kernel
theorem dR_power_88 : decode b_R_power 88 = .ok (.aload_n 0, 1) := by decide +kernel
theorem dR_power_89 : decode b_R_power 89 = .ok (.getfield 24, 3) := by decide +kernel
theorem dR_power_92 : decode b_R_power 92 = .ok (.iload 6, 2) := by decide +kernel
theorem dR_power_94 : decode b_R_power 94 = .ok (.invokevirtual 102, 3) := by decide +kernel
theorem dR_power_97 : decode b_R_power 97 = .ok (.imul, 1) := by decide +kernel
theorem dR_power_98 : decode b_R_power 98 = .ok (.bipush 12, 2) := by decide +kernel
theorem dR_power_100 : decode b_R_power 100 = .ok (.if_icmp .le 7, 3) := by decide +kernel
theorem dR_power_103 : decode b_R_power 103 = .ok (.iconst 1, 1) := by decide +kernel
theorem dR_power_104 : decode b_R_power 104 = .ok (.goto 4, 3) := by decide +kernel
theorem dR_power_107 : decode b_R_power 107 = .ok (.iconst 0, 1) := by decide +kernel
theorem dR_power_108 : decode b_R_power 108 = .ok (.istore 5, 2) := by decide +kernel
theorem dR_power_110 : decode b_R_power 110 = .ok (.iinc 6 1, 3) := by decide +kernel
theorem dR_power_113 : decode b_R_power 113 = .ok (.goto (-38), 3) := by decide +kernel
theorem dR_power_116 : decode b_R_power 116 = .ok (.aload_n 0, 1) := by decide +kernel
theorem dR_power_117 : decode b_R_power 117 = .ok (.iload 5, 2) := by decide +kernel
theorem dR_power_119 : decode b_R_power 119 = .ok (.invokevirtual 106, 3) := by decide +kernel
theorem dR_power_122 : decode b_R_power 122 = .ok (.ifCond .eq 5, 3) := by decide +kernel
theorem dR_power_125 : decode b_R_power 125 = .ok (.iconst 0, 1) := by decide +kernel
theorem dR_power_126 : decode b_R_power 126 = .ok (.ireturn, 1) := by decide +kernel
theorem dR_power_127 : decode b_R_power 127 = .ok (.aload_n 0, 1) := by decide +kernel
theorem dR_power_128 : decode b_R_power 128 = .ok (.getfield 21, 3) := by decide +kernel
theorem dR_power_131 : decode b_R_power 131 = .ok (.invokestatic 70, 3) := by decide +kernel
theorem dR_power_134 : decode b_R_power 134 = .ok (.aload_n 0, 1) := by decide +kernel
theorem dR_power_135 : decode b_R_power 135 = .ok (.getfield 21, 3) := by decide +kernel
theorem dR_power_138 : decode b_R_power 138 = .ok (.sipush 9138, 3) := by decide +kernel
theorem dR_power_141 : decode b_R_power 141 = .ok (.iconst 1, 1) := by decide +kernel
theorem dR_power_142 : decode b_R_power 142 = .ok (.iastore, 1) := by decide +kernel
theorem dR_power_143 : decode b_R_power 143 = .ok (.iconst 0, 1) := by decide +kernel
theorem dR_power_144 : decode b_R_power 144 = .ok (.istore 6, 2) := by decide +kernel
theorem dR_power_146 : decode b_R_power 146 = .ok (.iload 6, 2) := by decide +kernel
theorem dR_power_148 : decode b_R_power 148 = .ok (.iload_n 3, 1) := by decide +kernel
theorem dR_power_149 : decode b_R_power 149 = .ok (.if_icmp .ge 21, 3) := by decide +kernel
theorem dR_power_152 : decode b_R_power 152 = .ok (.aload_n 0, 1) := by decide +kernel
theorem dR_power_153 : decode b_R_power 153 = .ok (.aload_n 0, 1) := by decide +kernel
theorem dR_power_154 : decode b_R_power 154 = .ok (.getfield 21, 3) := by decide +kernel
theorem dR_power_157 : decode b_R_power 157 = .ok (.aload_n 0, 1) := by decide +kernel
theorem dR_power_158 : decode b_R_power 158 = .ok (.getfield 24, 3) := by decide +kernel
theorem dR_power_161 : decode b_R_power 161 = .ok (.invokevirtual 110, 3) := by decide +kernel
theorem dR_power_164 : decode b_R_power 164 = .ok (.iinc 6 1, 3) := by decide +kernel
theorem dR_power_167 : decode b_R_power 167 = .ok (.goto (-21), 3) := by decide +kernel
theorem dR_power_170 : decode b_R_power 170 = .ok (.aload_n 0, 1) := by decide +kernel
theorem dR_power_171 : decode b_R_power 171 = .ok (.iload_n 1, 1) := by decide +kernel
theorem dR_power_172 : decode b_R_power 172 = .ok (.aload_n 0, 1) := by decide +kernel
theorem dR_power_173 : decode b_R_power 173 = .ok (.getfield 21, 3) := by decide +kernel
theorem dR_power_176 : decode b_R_power 176 = .ok (.invokevirtual 92, 3) := by decide +kernel
theorem dR_power_179 : decode b_R_power 179 = .ok (.iconst 1, 1) := by decide +kernel
theorem dR_power_180 : decode b_R_power 180 = .ok (.ireturn, 1) := by decide +kernel
theorem dR_divide_0 : decode b_R_divide 0 = .ok (.iload_n 1, 1) := by decide +kernel
theorem dR_divide_1 : decode b_R_divide 1 = .ok (.invokestatic 85, 3) := by decide +kernel
theorem dR_divide_4 : decode b_R_divide 4 = .ok (.ifCond .eq 21, 3) := by decide +kernel
theorem dR_divide_7 : decode b_R_divide 7 = .ok (.iload_n 2, 1) := by decide +kernel
theorem dR_divide_8 : decode b_R_divide 8 = .ok (.invokestatic 85, 3) := by decide +kernel
theorem dR_divide_11 : decode b_R_divide 11 = .ok (.ifCond .eq 14, 3) := by decide +kernel
theorem dR_divide_14 : decode b_R_divide 14 = .ok (.iload_n 3, 1) := by decide +kernel
theorem dR_divide_15 : decode b_R_divide 15 = .ok (.invokestatic 85, 3) := by decide +kernel
theorem dR_divide_18 : decode b_R_divide 18 = .ok (.ifCond .eq 7, 3) := by decide +kernel
theorem dR_divide_21 : decode b_R_divide 21 = .ok (.iconst 1, 1) := by decide +kernel
theorem dR_divide_22 : decode b_R_divide 22 = .ok (.goto 4, 3) := by decide +kernel
theorem dR_divide_25 : decode b_R_divide 25 = .ok (.iconst 0, 1) := by decide +kernel
theorem dR_divide_26 : decode b_R_divide 26 = .ok (.istore 5, 2) := by decide +kernel
theorem dR_divide_28 : decode b_R_divide 28 = .ok (.iload 5, 2) := by decide +kernel
theorem dR_divide_30 : decode b_R_divide 30 = .ok (.ifCond .eq 12, 3) := by decide +kernel
theorem dR_divide_33 : decode b_R_divide 33 = .ok (.aload_n 0, 1) := by decide +kernel
theorem dR_divide_34 : decode b_R_divide 34 = .ok (.iload_n 3, 1) := by decide +kernel
theorem dR_divide_35 : decode b_R_divide 35 = .ok (.aload_n 0, 1) := by decide +kernel
theorem dR_divide_36 : decode b_R_divide 36 = .ok (.getfield 24, 3) := by decide +kernel
theorem dR_divide_39 : decode b_R_divide 39 = .ok (.invokevirtual 99, 3) := by decide +kernel
theorem dR_divide_42 : decode b_R_divide 42 = .ok (.aload_n 0, 1) := by decide +kernel
theorem dR_divide_43 : decode b_R_divide 43 = .ok (.iload 5, 2) := by decide +kernel
theorem dR_divide_45 : decode b_R_divide 45 = .ok (.ifCond .ne 7, 3) := by decide +kernel
theorem dR_divide_48 : decode b_R_divide 48 = .ok (.iconst 1, 1) := by decide +kernel
theorem dR_divide_49 : decode b_R_divide 49 = .ok (.goto 4, 3) := by decide +kernel
theorem dR_divide_52 : decode b_R_divide 52 = .ok (.iconst 0, 1) := by decide +kernel
theorem dR_divide_53 : decode b_R_divide 53 = .ok (.iload 5, 2) := by decide +kernel
theorem dR_divide_55 : decode b_R_divide 55 = .ok (.ifCond .eq 17, 3) := by decide +kernel
theorem dR_divide_58 : decode b_R_divide 58 = .ok (.aload_n 0, 1) := by decide +kernel
theorem dR_divide_59 : decode b_R_divide 59 = .ok (.getfield 24, 3) := by decide +kernel
theorem dR_divide_62 : decode b_R_divide 62 = .ok (.invokestatic 113, 3) := by decide +kernel
theorem dR_divide_65 : decode b_R_divide 65 = .ok (.ifCond .eq 7, 3) := by decide +kernel
theorem dR_divide_68 : decode b_R_divide 68 = .ok (.iconst 1, 1) := by decide +kernel
theorem dR_divide_69 : decode b_R_divide 69 = .ok (.goto 4, 3) := by decide +kernel
theorem dR_divide_72 : decode b_R_divide 72 = .ok (.iconst 0, 1) := by decide +kernel
theorem dR_divide_73 : decode b_R_divide 73 = .ok (.invokevirtual 88, 3) := by decide +kernel
theorem dR_divide_76 : decode b_R_divide 76 = .ok (.ifCond .eq 4, 3) := by decide +kernel
theorem dR_divide_79 : decode b_R_divide 79 = .ok (.return_, 1) := by decide +kernel
theorem dR_divide_80 : decode b_R_divide 80 = .ok (.aload_n 0, 1) := by decide +kernel
theorem dR_divide_81 : decode b_R_divide 81 = .ok (.iload_n 2, 1) := by decide +kernel
theorem dR_divide_82 : decode b_R_divide 82 = .ok (.aload_n 0, 1) := by decide +kernel
theorem dR_divide_83 : decode b_R_divide 83 = .ok (.getfield 21, 3) := by decide +kernel
theorem dR_divide_86 : decode b_R_divide 86 = .ok (.invokevirtual 99, 3) := by decide +kernel
theorem dR_divide_89 : decode b_R_divide 89 = .ok (.iconst 0, 1) := by decide +kernel
theorem dR_divide_90 : decode b_R_divide 90 = .ok (.istore 6, 2) := by decide +kernel
theorem dR_divide_92 : decode b_R_divide 92 = .ok (.aload_n 0, 1) := by decide +kernel
theorem dR_divide_93 : decode b_R_divide 93 = .ok (.getfield 24, 3) := by decide +kernel
theorem dR_divide_96 : decode b_R_divide 96 = .ok (.iload 6, 2) := by decide +kernel
theorem dR_divide_98 : decode b_R_divide 98 = .ok (.iaload, 1) := by decide +kernel
theorem dR_divide_99 : decode b_R_divide 99 = .ok (.ifCond .ne 9, 3) := by decide +kernel
theorem dR_divide_102 : decode b_R_divide 102 = .ok (.iinc 6 1, 3) := by decide +kernel
theorem dR_divide_105 : decode b_R_divide 105 = .ok (.goto (-13), 3) := by decide +kernel
theorem dR_divide_108 : decode b_R_divide 108 = .ok (.aload_n 0, 1) := by decide +kernel
theorem dR_divide_109 : decode b_R_divide 109 = .ok (.aload_n 0, 1) := by decide +kernel
theorem dR_divide_110 : decode b_R_divide 110 = .ok (.getfield 24, 3) := by decide +kernel
theorem dR_divide_113 : decode b_R_divide 113 = .ok (.iload 6, 2) := by decide +kernel
theorem dR_divide_115 : decode b_R_divide 115 = .ok (.iaload, 1) := by decide +kernel
theorem dR_divide_116 : decode b_R_divide 116 = .ok (.invokevirtual 117, 3) := by decide +kernel
theorem dR_divide_119 : decode b_R_divide 119 = .ok (.i2l, 1) := by decide +kernel
theorem dR_divide_120 : decode b_R_divide 120 = .ok (.lstore 7, 2) := by decide +kernel
theorem dR_divide_122 : decode b_R_divide 122 = .ok (.aload_n 0, 1) := by decide +kernel
theorem dR_divide_123 : decode b_R_divide 123 = .ok (.getfield 36, 3) := by decide +kernel
theorem dR_divide_126 : decode b_R_divide 126 = .ok (.invokestatic 70, 3) := by decide +kernel
theorem dR_divide_129 : decode b_R_divide 129 = .ok (.iconst 0, 1) := by decide +kernel
theorem dR_divide_130 : decode b_R_divide 130 = .ok (.istore 9, 2) := by decide +kernel
theorem dR_divide_132 : decode b_R_divide 132 = .ok (.iload 9, 2) := by decide +kernel
theorem dR_divide_134 : decode b_R_divide 134 = .ok (.sipush 9139, 3) := by decide +kernel
theorem dR_divide_137 : decode b_R_divide 137 = .ok (.if_icmp .ge 163, 3) := by decide +kernel
theorem dR_divide_140 : decode b_R_divide 140 = .ok (.aload_n 0, 1) := by decide +kernel
theorem dR_divide_141 : decode b_R_divide 141 = .ok (.iload 9, 2) := by decide +kernel
theorem dR_divide_143 : decode b_R_divide 143 = .ok (.iconst 0, 1) := by decide +kernel
theorem dR_divide_144 : decode b_R_divide 144 = .ok (.invokevirtual 58, 3) := by decide +kernel
theorem dR_divide_147 : decode b_R_divide 147 = .ok (.aload_n 0, 1) := by decide +kernel
theorem dR_divide_148 : decode b_R_divide 148 = .ok (.iload 6, 2) := by decide +kernel
theorem dR_divide_150 : decode b_R_divide 150 = .ok (.iconst 0, 1) := by decide +kernel
theorem dR_divide_151 : decode b_R_divide 151 = .ok (.invokevirtual 58, 3) := by decide +kernel
theorem dR_divide_154 : decode b_R_divide 154 = .ok (.isub, 1) := by decide +kernel
theorem dR_divide_155 : decode b_R_divide 155 = .ok (.istore 10, 2) := by decide +kernel
theorem dR_divide_157 : decode b_R_divide 157 = .ok (.aload_n 0, 1) := by decide +kernel
theorem dR_divide_158 : decode b_R_divide 158 = .ok (.iload 9, 2) := by decide +kernel
theorem dR_divide_160 : decode b_R_divide 160 = .ok (.iconst 1, 1) := by decide +kernel
theorem dR_divide_161 : decode b_R_divide 161 = .ok (.invokevirtual 58, 3) := by decide +kernel
theorem dR_divide_164 : decode b_R_divide 164 = .ok (.aload_n 0, 1) := by decide +kernel
theorem dR_divide_165 : decode b_R_divide 165 = .ok (.iload 6, 2) := by decide +kernel
theorem dR_divide_167 : decode b_R_divide 167 = .ok (.iconst 1, 1) := by decide +kernel
theorem dR_divide_168 : decode b_R_divide 168 = .ok (.invokevirtual 58, 3) := by decide +kernel
theorem dR_divide_171 : decode b_R_divide 171 = .ok (.isub, 1) := by decide +kernel
theorem dR_divide_172 : decode b_R_divide 172 = .ok (.istore 11, 2) := by decide +kernel
theorem dR_divide_174 : decode b_R_divide 174 = .ok (.aload_n 0, 1) := by decide +kernel
theorem dR_divide_175 : decode b_R_divide 175 = .ok (.iload 9, 2) := by decide +kernel
theorem dR_divide_177 : decode b_R_divide 177 = .ok (.iconst 2, 1) := by decide +kernel
theorem dR_divide_178 : decode b_R_divide 178 = .ok (.invokevirtual 58, 3) := by decide +kernel
theorem dR_divide_181 : decode b_R_divide 181 = .ok (.aload_n 0, 1) := by decide +kernel
theorem dR_divide_182 : decode b_R_divide 182 = .ok (.iload 6, 2) := by decide +kernel
theorem dR_divide_184 : decode b_R_divide 184 = .ok (.iconst 2, 1) := by decide +kernel
theorem dR_divide_185 : decode b_R_divide 185 = .ok (.invokevirtual 58, 3) := by decide +kernel
theorem dR_divide_188 : decode b_R_divide 188 = .ok (.isub, 1) := by decide +kernel
theorem dR_divide_189 : decode b_R_divide 189 = .ok (.istore 12, 2) := by decide +kernel
theorem dR_divide_191 : decode b_R_divide 191 = .ok (.aload_n 0, 1) := by decide +kernel
theorem dR_divide_192 : decode b_R_divide 192 = .ok (.getfield 21, 3) := by decide +kernel
theorem dR_divide_195 : decode b_R_divide 195 = .ok (.iload 9, 2) := by decide +kernel
theorem dR_divide_197 : decode b_R_divide 197 = .ok (.iaload, 1) := by decide +kernel
theorem dR_divide_198 : decode b_R_divide 198 = .ok (.ifCond .eq 96, 3) := by decide +kernel
theorem dR_divide_201 : decode b_R_divide 201 = .ok (.iload 10, 2) := by decide +kernel
theorem dR_divide_203 : decode b_R_divide 203 = .ok (.ifCond .lt 91, 3) := by decide +kernel
theorem dR_divide_206 : decode b_R_divide 206 = .ok (.iload 11, 2) := by decide +kernel
theorem dR_divide_208 : decode b_R_divide 208 = .ok (.ifCond .lt 86, 3) := by decide +kernel
theorem dR_divide_211 : decode b_R_divide 211 = .ok (.iload 12, 2) := by decide +kernel
theorem dR_divide_213 : decode b_R_divide 213 = .ok (.ifCond .ge 6, 3) := by decide +kernel
theorem dR_divide_216 : decode b_R_divide 216 = .ok (.goto 78, 3) := by decide +kernel
theorem dR_divide_219 : decode b_R_divide 219 = .ok (.aload_n 0, 1) := by decide +kernel
theorem dR_divide_220 : decode b_R_divide 220 = .ok (.iload 10, 2) := by decide +kernel
theorem dR_divide_222 : decode b_R_divide 222 = .ok (.iload 11, 2) := by decide +kernel
theorem dR_divide_224 : decode b_R_divide 224 = .ok (.iload 12, 2) := by decide +kernel
theorem dR_divide_226 : decode b_R_divide 226 = .ok (.invokevirtual 62, 3) := by decide +kernel
theorem dR_divide_229 : decode b_R_divide 229 = .ok (.istore 13, 2) := by decide +kernel
theorem dR_divide_231 : decode b_R_divide 231 = .ok (.aload_n 0, 1) := by decide +kernel
theorem dR_divide_232 : decode b_R_divide 232 = .ok (.getfield 36, 3) := by decide +kernel
theorem dR_divide_235 : decode b_R_divide 235 = .ok (.iload 13, 2) := by decide +kernel
theorem dR_divide_237 : decode b_R_divide 237 = .ok (.aload_n 0, 1) := by decide +kernel
theorem dR_divide_238 : decode b_R_divide 238 = .ok (.aload_n 0, 1) := by decide +kernel
theorem dR_divide_239 : decode b_R_divide 239 = .ok (.getfield 21, 3) := by decide +kernel
theorem dR_divide_242 : decode b_R_divide 242 = .ok (.iload 9, 2) := by decide +kernel
theorem dR_divide_244 : decode b_R_divide 244 = .ok (.iaload, 1) := by decide +kernel
theorem dR_divide_245 : decode b_R_divide 245 = .ok (.i2l, 1) := by decide +kernel
theorem dR_divide_246 : decode b_R_divide 246 = .ok (.lload 7, 2) := by decide +kernel
theorem dR_divide_248 : decode b_R_divide 248 = .ok (.lmul, 1) := by decide +kernel
theorem dR_divide_249 : decode b_R_divide 249 = .ok (.invokevirtual 66, 3) := by decide +kernel
theorem dR_divide_252 : decode b_R_divide 252 = .ok (.iastore, 1) := by decide +kernel
theorem dR_divide_253 : decode b_R_divide 253 = .ok (.aload_n 0, 1) := by decide +kernel
theorem dR_divide_254 : decode b_R_divide 254 = .ok (.getfield 27, 3) := by decide +kernel
theorem dR_divide_257 : decode b_R_divide 257 = .ok (.invokestatic 70, 3) := by decide +kernel
theorem dR_divide_260 : decode b_R_divide 260 = .ok (.aload_n 0, 1) := by decide +kernel
theorem dR_divide_261 : decode b_R_divide 261 = .ok (.getfield 27, 3) := by decide +kernel
theorem dR_divide_264 : decode b_R_divide 264 = .ok (.iload 13, 2) := by decide +kernel
theorem dR_divide_266 : decode b_R_divide 266 = .ok (.aload_n 0, 1) := by decide +kernel
theorem dR_divide_267 : decode b_R_divide 267 = .ok (.getfield 36, 3) := by decide +kernel
theorem dR_divide_270 : decode b_R_divide 270 = .ok (.iload 13, 2) := by decide +kernel
theorem dR_divide_272 : decode b_R_divide 272 = .ok (.iaload, 1) := by decide +kernel
theorem dR_divide_273 : decode b_R_divide 273 = .ok (.iastore, 1) := by decide +kernel
theorem dR_divide_274 : decode b_R_divide 274 = .ok (.aload_n 0, 1) := by decide +kernel
theorem dR_divide_275 : decode b_R_divide 275 = .ok (.aload_n 0, 1) := by decide +kernel
theorem dR_divide_276 : decode b_R_divide 276 = .ok (.getfield 27, 3) := by decide +kernel
theorem dR_divide_279 : decode b_R_divide 279 = .ok (.iconst 0, 1) := by decide +kernel
theorem dR_divide_280 : decode b_R_divide 280 = .ok (.aload_n 0, 1) := by decide +kernel
theorem dR_divide_281 : decode b_R_divide 281 = .ok (.getfield 24, 3) := by decide +kernel
theorem dR_divide_284 : decode b_R_divide 284 = .ok (.iconst 0, 1) := by decide +kernel
theorem dR_divide_285 : decode b_R_divide 285 = .ok (.aload_n 0, 1) := by decide +kernel
theorem dR_divide_286 : decode b_R_divide 286 = .ok (.getfield 21, 3) := by decide +kernel
theorem dR_divide_289 : decode b_R_divide 289 = .ok (.iconst 0, 1) := by decide +kernel
theorem dR_divide_290 : decode b_R_divide 290 = .ok (.iconst 1, 1) := by decide +kernel
theorem dR_divide_291 : decode b_R_divide 291 = .ok (.invokevirtual 74, 3) := by decide +kernel
theorem dR_divide_294 : decode b_R_divide 294 = .ok (.iinc 9 1, 3) := by decide +kernel
theorem dR_divide_297 : decode b_R_divide 297 = .ok (.goto (-165), 3) := by decide +kernel
theorem dR_divide_300 : decode b_R_divide 300 = .ok (.iconst 0, 1) := by decide +kernel
theorem dR_divide_301 : decode b_R_divide 301 = .ok (.istore 9, 2) := by decide +kernel
theorem dR_divide_303 : decode b_R_divide 303 = .ok (.iload 9, 2) := by decide +kernel
theorem dR_divide_305 : decode b_R_divide 305 = .ok (.sipush 9139, 3) := by decide +kernel
theorem dR_divide_308 : decode b_R_divide 308 = .ok (.if_icmp .ge 28, 3) := by decide +kernel
theorem dR_divide_311 : decode b_R_divide 311 = .ok (.iload 4, 2) := by decide +kernel
theorem dR_divide_313 : decode b_R_divide 313 = .ok (.ifCond .eq 23, 3) := by decide +kernel
theorem dR_divide_316 : decode b_R_divide 316 = .ok (.aload_n 0, 1) := by decide +kernel
theorem dR_divide_317 : decode b_R_divide 317 = .ok (.getfield 21, 3) := by decide +kernel
theorem dR_divide_320 : decode b_R_divide 320 = .ok (.iload 9, 2) := by decide +kernel
theorem dR_divide_322 : decode b_R_divide 322 = .ok (.aload_n 0, 1) := by decide +kernel
theorem dR_divide_323 : decode b_R_divide 323 = .ok (.getfield 36, 3) := by decide +kernel
theorem dR_divide_326 : decode b_R_divide 326 = .ok (.iload 9, 2) := by decide +kernel
theorem dR_divide_328 : decode b_R_divide 328 = .ok (.iaload, 1) := by decide +kernel
theorem dR_divide_329 : decode b_R_divide 329 = .ok (.iastore, 1) := by decide +kernel
theorem dR_divide_330 : decode b_R_divide 330 = .ok (.iinc 9 1, 3) := by decide +kernel
theorem dR_divide_333 : decode b_R_divide 333 = .ok (.goto (-30), 3) := by decide +kernel
theorem dR_divide_336 : decode b_R_divide 336 = .ok (.aload_n 0, 1) := by decide +kernel
theorem dR_divide_337 : decode b_R_divide 337 = .ok (.iload_n 1, 1) := by decide +kernel
theorem dR_divide_338 : decode b_R_divide 338 = .ok (.aload_n 0, 1) := by decide +kernel
theorem dR_divide_339 : decode b_R_divide 339 = .ok (.getfield 21, 3) := by decide +kernel
theorem dR_divide_342 : decode b_R_divide 342 = .ok (.invokevirtual 92, 3) := by decide +kernel
theorem dR_divide_345 : decode b_R_divide 345 = .ok (.return_, 1) := by decide +kernel
theorem dR_isZero_0 : decode b_R_isZero 0 = .ok (.iconst 1, 1) := by decide +kernel
theorem dR_isZero_1 : decode b_R_isZero 1 = .ok (.istore_n 1, 1) := by decide +kernel
theorem dR_isZero_2 : decode b_R_isZero 2 = .ok (.iconst 0, 1) := by decide +kernel
theorem dR_isZero_3 : decode b_R_isZero 3 = .ok (.istore_n 2, 1) := by decide +kernel
theorem dR_isZero_4 : decode b_R_isZero 4 = .ok (.iload_n 2, 1) := by decide +kernel
theorem dR_isZero_5 : decode b_R_isZero 5 = .ok (.aload_n 0, 1) := by decide +kernel
theorem dR_isZero_6 : decode b_R_isZero 6 = .ok (.arraylength, 1) := by decide +kernel
theorem dR_isZero_7 : decode b_R_isZero 7 = .ok (.if_icmp .ge 25, 3) := by decide +kernel
theorem dR_isZero_10 : decode b_R_isZero 10 = .ok (.iload_n 1, 1) := by decide +kernel
theorem dR_isZero_11 : decode b_R_isZero 11 = .ok (.ifCond .eq 13, 3) := by decide +kernel
theorem dR_isZero_14 : decode b_R_isZero 14 = .ok (.aload_n 0, 1) := by decide +kernel
theorem dR_isZero_15 : decode b_R_isZero 15 = .ok (.iload_n 2, 1) := by decide +kernel
theorem dR_isZero_16 : decode b_R_isZero 16 = .ok (.iaload, 1) := by decide +kernel
theorem dR_isZero_17 : decode b_R_isZero 17 = .ok (.ifCond .ne 7, 3) := by decide +kernel
theorem dR_isZero_20 : decode b_R_isZero 20 = .ok (.iconst 1, 1) := by decide +kernel
theorem dR_isZero_21 : decode b_R_isZero 21 = .ok (.goto 4, 3) := by decide +kernel
theorem dR_isZero_24 : decode b_R_isZero 24 = .ok (.iconst 0, 1) := by decide +kernel
theorem dR_isZero_25 : decode b_R_isZero 25 = .ok (.istore_n 1, 1) := by decide +kernel
theorem dR_isZero_26 : decode b_R_isZero 26 = .ok (.iinc 2 1, 3) := by decide +kernel
theorem dR_isZero_29 : decode b_R_isZero 29 = .ok (.goto (-25), 3) := by decide +kernel
theorem dR_isZero_32 : decode b_R_isZero 32 = .ok (.iload_n 1, 1) := by decide +kernel
theorem dR_isZero_33 : decode b_R_isZero 33 = .ok (.ireturn, 1) := by decide +kernel
theorem dR_inverse_0 : decode b_R_inverse 0 = .ok (.lconst 1, 1) := by decide +kernel
theorem dR_inverse_1 : decode b_R_inverse 1 = .ok (.lstore_n 2, 1) := by decide +kernel
theorem dR_inverse_2 : decode b_R_inverse 2 = .ok (.iconst 0, 1) := by decide +kernel
theorem dR_inverse_3 : decode b_R_inverse 3 = .ok (.istore 4, 2) := by decide +kernel
theorem dR_inverse_5 : decode b_R_inverse 5 = .ok (.iload 4, 2) := by decide +kernel
theorem dR_inverse_7 : decode b_R_inverse 7 = .ok (.aload_n 0, 1) := by decide +kernel
theorem dR_inverse_8 : decode b_R_inverse 8 = .ok (.getfield 51, 3) := by decide +kernel
theorem dR_inverse_11 : decode b_R_inverse 11 = .ok (.iconst 2, 1) := by decide +kernel
theorem dR_inverse_12 : decode b_R_inverse 12 = .ok (.isub, 1) := by decide +kernel
theorem dR_inverse_13 : decode b_R_inverse 13 = .ok (.if_icmp .ge 20, 3) := by decide +kernel
theorem dR_inverse_16 : decode b_R_inverse 16 = .ok (.lload_n 2, 1) := by decide +kernel
theorem dR_inverse_17 : decode b_R_inverse 17 = .ok (.iload_n 1, 1) := by decide +kernel
theorem dR_inverse_18 : decode b_R_inverse 18 = .ok (.i2l, 1) := by decide +kernel
theorem dR_inverse_19 : decode b_R_inverse 19 = .ok (.lmul, 1) := by decide +kernel
theorem dR_inverse_20 : decode b_R_inverse 20 = .ok (.aload_n 0, 1) := by decide +kernel
theorem dR_inverse_21 : decode b_R_inverse 21 = .ok (.getfield 51, 3) := by decide +kernel
theorem dR_inverse_24 : decode b_R_inverse 24 = .ok (.i2l, 1) := by decide +kernel
theorem dR_inverse_25 : decode b_R_inverse 25 = .ok (.lrem, 1) := by decide +kernel
theorem dR_inverse_26 : decode b_R_inverse 26 = .ok (.lstore_n 2, 1) := by decide +kernel
theorem dR_inverse_27 : decode b_R_inverse 27 = .ok (.iinc 4 1, 3) := by decide +kernel
theorem dR_inverse_30 : decode b_R_inverse 30 = .ok (.goto (-25), 3) := by decide +kernel
theorem dR_inverse_33 : decode b_R_inverse 33 = .ok (.lload_n 2, 1) := by decide +kernel
theorem dR_inverse_34 : decode b_R_inverse 34 = .ok (.l2i, 1) := by decide +kernel
theorem dR_inverse_35 : decode b_R_inverse 35 = .ok (.ireturn, 1) := by decide +kernel
theorem dR_derive_0 : decode b_R_derive 0 = .ok (.iload_n 1, 1) := by decide +kernel
theorem dR_derive_1 : decode b_R_derive 1 = .ok (.invokestatic 85, 3) := by decide +kernel
theorem dR_derive_4 : decode b_R_derive 4 = .ok (.ifCond .eq 14, 3) := by decide +kernel
theorem dR_derive_7 : decode b_R_derive 7 = .ok (.iload_n 2, 1) := by decide +kernel
theorem dR_derive_8 : decode b_R_derive 8 = .ok (.invokestatic 85, 3) := by decide +kernel
theorem dR_derive_11 : decode b_R_derive 11 = .ok (.ifCond .eq 7, 3) := by decide +kernel
theorem dR_derive_14 : decode b_R_derive 14 = .ok (.iconst 1, 1) := by decide +kernel
theorem dR_derive_15 : decode b_R_derive 15 = .ok (.goto 4, 3) := by decide +kernel
theorem dR_derive_18 : decode b_R_derive 18 = .ok (.iconst 0, 1) := by decide +kernel
theorem dR_derive_19 : decode b_R_derive 19 = .ok (.istore 4, 2) := by decide +kernel
theorem dR_derive_21 : decode b_R_derive 21 = .ok (.aload_n 0, 1) := by decide +kernel
theorem dR_derive_22 : decode b_R_derive 22 = .ok (.iload 4, 2) := by decide +kernel
theorem dR_derive_24 : decode b_R_derive 24 = .ok (.ifCond .ne 7, 3) := by decide +kernel
theorem dR_derive_27 : decode b_R_derive 27 = .ok (.iconst 1, 1) := by decide +kernel
theorem dR_derive_28 : decode b_R_derive 28 = .ok (.goto 4, 3) := by decide +kernel
theorem dR_derive_31 : decode b_R_derive 31 = .ok (.iconst 0, 1) := by decide +kernel
theorem dR_derive_32 : decode b_R_derive 32 = .ok (.iload 4, 2) := by decide +kernel
theorem dR_derive_34 : decode b_R_derive 34 = .ok (.ifCond .eq 14, 3) := by decide +kernel
theorem dR_derive_37 : decode b_R_derive 37 = .ok (.iload_n 3, 1) := by decide +kernel
theorem dR_derive_38 : decode b_R_derive 38 = .ok (.invokestatic 96, 3) := by decide +kernel
theorem dR_derive_41 : decode b_R_derive 41 = .ok (.ifCond .ne 7, 3) := by decide +kernel
theorem dR_derive_44 : decode b_R_derive 44 = .ok (.iconst 1, 1) := by decide +kernel
theorem dR_derive_45 : decode b_R_derive 45 = .ok (.goto 4, 3) := by decide +kernel
theorem dR_derive_48 : decode b_R_derive 48 = .ok (.iconst 0, 1) := by decide +kernel
theorem dR_derive_49 : decode b_R_derive 49 = .ok (.invokevirtual 88, 3) := by decide +kernel
theorem dR_derive_52 : decode b_R_derive 52 = .ok (.ifCond .eq 4, 3) := by decide +kernel
theorem dR_derive_55 : decode b_R_derive 55 = .ok (.return_, 1) := by decide +kernel
theorem dR_derive_56 : decode b_R_derive 56 = .ok (.aload_n 0, 1) := by decide +kernel
theorem dR_derive_57 : decode b_R_derive 57 = .ok (.iload_n 2, 1) := by decide +kernel
theorem dR_derive_58 : decode b_R_derive 58 = .ok (.aload_n 0, 1) := by decide +kernel
theorem dR_derive_59 : decode b_R_derive 59 = .ok (.getfield 21, 3) := by decide +kernel
theorem dR_derive_62 : decode b_R_derive 62 = .ok (.invokevirtual 99, 3) := by decide +kernel
theorem dR_derive_65 : decode b_R_derive 65 = .ok (.aload_n 0, 1) := by decide +kernel
theorem dR_derive_66 : decode b_R_derive 66 = .ok (.getfield 27, 3) := by decide +kernel
theorem dR_derive_69 : decode b_R_derive 69 = .ok (.invokestatic 70, 3) := by decide +kernel
theorem dR_derive_72 : decode b_R_derive 72 = .ok (.iconst 0, 1) := by decide +kernel
theorem dR_derive_73 : decode b_R_derive 73 = .ok (.istore 5, 2) := by decide +kernel
theorem dR_derive_75 : decode b_R_derive 75 = .ok (.iload 5, 2) := by decide +kernel
theorem dR_derive_77 : decode b_R_derive 77 = .ok (.sipush 9139, 3) := by decide +kernel
theorem dR_derive_80 : decode b_R_derive 80 = .ok (.if_icmp .ge 114, 3) := by decide +kernel
theorem dR_derive_83 : decode b_R_derive 83 = .ok (.aload_n 0, 1) := by decide +kernel
theorem dR_derive_84 : decode b_R_derive 84 = .ok (.iload 5, 2) := by decide +kernel
theorem dR_derive_86 : decode b_R_derive 86 = .ok (.iload_n 3, 1) := by decide +kernel
theorem dR_derive_87 : decode b_R_derive 87 = .ok (.invokevirtual 58, 3) := by decide +kernel
theorem dR_derive_90 : decode b_R_derive 90 = .ok (.istore 6, 2) := by decide +kernel
theorem dR_derive_92 : decode b_R_derive 92 = .ok (.aload_n 0, 1) := by decide +kernel
theorem dR_derive_93 : decode b_R_derive 93 = .ok (.getfield 21, 3) := by decide +kernel
theorem dR_derive_96 : decode b_R_derive 96 = .ok (.iload 5, 2) := by decide +kernel
theorem dR_derive_98 : decode b_R_derive 98 = .ok (.iaload, 1) := by decide +kernel
theorem dR_derive_99 : decode b_R_derive 99 = .ok (.ifCond .eq 89, 3) := by decide +kernel
theorem dR_derive_102 : decode b_R_derive 102 = .ok (.iload 6, 2) := by decide +kernel
theorem dR_derive_104 : decode b_R_derive 104 = .ok (.ifCond .ne 6, 3) := by decide +kernel
theorem dR_derive_107 : decode b_R_derive 107 = .ok (.goto 81, 3) := by decide +kernel
theorem dR_derive_110 : decode b_R_derive 110 = .ok (.aload_n 0, 1) := by decide +kernel
theorem dR_derive_111 : decode b_R_derive 111 = .ok (.getfield 27, 3) := by decide +kernel
theorem dR_derive_114 : decode b_R_derive 114 = .ok (.aload_n 0, 1) := by decide +kernel
theorem dR_derive_115 : decode b_R_derive 115 = .ok (.aload_n 0, 1) := by decide +kernel
theorem dR_derive_116 : decode b_R_derive 116 = .ok (.iload 5, 2) := by decide +kernel
theorem dR_derive_118 : decode b_R_derive 118 = .ok (.iconst 0, 1) := by decide +kernel
theorem dR_derive_119 : decode b_R_derive 119 = .ok (.invokevirtual 58, 3) := by decide +kernel
theorem dR_derive_122 : decode b_R_derive 122 = .ok (.iload_n 3, 1) := by decide +kernel
theorem dR_derive_123 : decode b_R_derive 123 = .ok (.ifCond .ne 7, 3) := by decide +kernel
theorem dR_derive_126 : decode b_R_derive 126 = .ok (.iconst 1, 1) := by decide +kernel
theorem dR_derive_127 : decode b_R_derive 127 = .ok (.goto 4, 3) := by decide +kernel
theorem dR_derive_130 : decode b_R_derive 130 = .ok (.iconst 0, 1) := by decide +kernel
theorem dR_derive_131 : decode b_R_derive 131 = .ok (.isub, 1) := by decide +kernel
theorem dR_derive_132 : decode b_R_derive 132 = .ok (.aload_n 0, 1) := by decide +kernel
theorem dR_derive_133 : decode b_R_derive 133 = .ok (.iload 5, 2) := by decide +kernel
theorem dR_derive_135 : decode b_R_derive 135 = .ok (.iconst 1, 1) := by decide +kernel
theorem dR_derive_136 : decode b_R_derive 136 = .ok (.invokevirtual 58, 3) := by decide +kernel
theorem dR_derive_139 : decode b_R_derive 139 = .ok (.iload_n 3, 1) := by decide +kernel
theorem dR_derive_140 : decode b_R_derive 140 = .ok (.iconst 1, 1) := by decide +kernel
theorem dR_derive_141 : decode b_R_derive 141 = .ok (.if_icmp .ne 7, 3) := by decide +kernel
theorem dR_derive_144 : decode b_R_derive 144 = .ok (.iconst 1, 1) := by decide +kernel
theorem dR_derive_145 : decode b_R_derive 145 = .ok (.goto 4, 3) := by decide +kernel
theorem dR_derive_148 : decode b_R_derive 148 = .ok (.iconst 0, 1) := by decide +kernel
theorem dR_derive_149 : decode b_R_derive 149 = .ok (.isub, 1) := by decide +kernel
theorem dR_derive_150 : decode b_R_derive 150 = .ok (.aload_n 0, 1) := by decide +kernel
theorem dR_derive_151 : decode b_R_derive 151 = .ok (.iload 5, 2) := by decide +kernel
theorem dR_derive_153 : decode b_R_derive 153 = .ok (.iconst 2, 1) := by decide +kernel
theorem dR_derive_154 : decode b_R_derive 154 = .ok (.invokevirtual 58, 3) := by decide +kernel
theorem dR_derive_157 : decode b_R_derive 157 = .ok (.iload_n 3, 1) := by decide +kernel
theorem dR_derive_158 : decode b_R_derive 158 = .ok (.iconst 2, 1) := by decide +kernel
theorem dR_derive_159 : decode b_R_derive 159 = .ok (.if_icmp .ne 7, 3) := by decide +kernel
theorem dR_derive_162 : decode b_R_derive 162 = .ok (.iconst 1, 1) := by decide +kernel
theorem dR_derive_163 : decode b_R_derive 163 = .ok (.goto 4, 3) := by decide +kernel
theorem dR_derive_166 : decode b_R_derive 166 = .ok (.iconst 0, 1) := by decide +kernel
theorem dR_derive_167 : decode b_R_derive 167 = .ok (.isub, 1) := by decide +kernel
theorem dR_derive_168 : decode b_R_derive 168 = .ok (.invokevirtual 62, 3) := by decide +kernel
theorem dR_derive_171 : decode b_R_derive 171 = .ok (.aload_n 0, 1) := by decide +kernel
theorem dR_derive_172 : decode b_R_derive 172 = .ok (.iload 6, 2) := by decide +kernel
theorem dR_derive_174 : decode b_R_derive 174 = .ok (.i2l, 1) := by decide +kernel
theorem dR_derive_175 : decode b_R_derive 175 = .ok (.aload_n 0, 1) := by decide +kernel
theorem dR_derive_176 : decode b_R_derive 176 = .ok (.getfield 21, 3) := by decide +kernel
theorem dR_derive_179 : decode b_R_derive 179 = .ok (.iload 5, 2) := by decide +kernel
theorem dR_derive_181 : decode b_R_derive 181 = .ok (.iaload, 1) := by decide +kernel
theorem dR_derive_182 : decode b_R_derive 182 = .ok (.i2l, 1) := by decide +kernel
theorem dR_derive_183 : decode b_R_derive 183 = .ok (.lmul, 1) := by decide +kernel
theorem dR_derive_184 : decode b_R_derive 184 = .ok (.invokevirtual 66, 3) := by decide +kernel
theorem dR_derive_187 : decode b_R_derive 187 = .ok (.iastore, 1) := by decide +kernel
theorem dR_derive_188 : decode b_R_derive 188 = .ok (.iinc 5 1, 3) := by decide +kernel
theorem dR_derive_191 : decode b_R_derive 191 = .ok (.goto (-116), 3) := by decide +kernel
theorem dR_derive_194 : decode b_R_derive 194 = .ok (.aload_n 0, 1) := by decide +kernel
theorem dR_derive_195 : decode b_R_derive 195 = .ok (.iload_n 1, 1) := by decide +kernel
theorem dR_derive_196 : decode b_R_derive 196 = .ok (.aload_n 0, 1) := by decide +kernel
theorem dR_derive_197 : decode b_R_derive 197 = .ok (.getfield 27, 3) := by decide +kernel
theorem dR_derive_200 : decode b_R_derive 200 = .ok (.invokevirtual 92, 3) := by decide +kernel
theorem dR_derive_203 : decode b_R_derive 203 = .ok (.return_, 1) := by decide +kernel
