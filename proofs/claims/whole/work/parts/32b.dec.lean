/-! Decode rows. -/
theorem dR_put_0 : decode b_R_put 0 = .ok (.iload_n 1, 1) := by decide +kernel
theorem dR_put_1 : decode b_R_put 1 = .ok (.invokestatic 85, 3) := by decide +kernel
theorem dR_put_4 : decode b_R_put 4 = .ok (.ifCond .eq 22, 3) := by decide +kernel
theorem dR_put_7 : decode b_R_put 7 = .ok (.iload_n 2, 1) := by decide +kernel
theorem dR_put_8 : decode b_R_put 8 = .ok (.invokestatic 85, 3) := by decide +kernel
theorem dR_put_11 : decode b_R_put 11 = .ok (.ifCond .eq 15, 3) := by decide +kernel
theorem dR_put_14 : decode b_R_put 14 = .ok (.iload 4, 2) := by decide +kernel
theorem dR_put_16 : decode b_R_put 16 = .ok (.invokestatic 85, 3) := by decide +kernel
theorem dR_put_19 : decode b_R_put 19 = .ok (.ifCond .eq 7, 3) := by decide +kernel
theorem dR_put_22 : decode b_R_put 22 = .ok (.iconst 1, 1) := by decide +kernel
theorem dR_put_23 : decode b_R_put 23 = .ok (.goto 4, 3) := by decide +kernel
theorem dR_put_26 : decode b_R_put 26 = .ok (.iconst 0, 1) := by decide +kernel
theorem dR_put_27 : decode b_R_put 27 = .ok (.istore 5, 2) := by decide +kernel
theorem dR_put_29 : decode b_R_put 29 = .ok (.aload_n 0, 1) := by decide +kernel
theorem dR_put_30 : decode b_R_put 30 = .ok (.iload 5, 2) := by decide +kernel
theorem dR_put_32 : decode b_R_put 32 = .ok (.ifCond .ne 7, 3) := by decide +kernel
theorem dR_put_35 : decode b_R_put 35 = .ok (.iconst 1, 1) := by decide +kernel
theorem dR_put_36 : decode b_R_put 36 = .ok (.goto 4, 3) := by decide +kernel
theorem dR_put_39 : decode b_R_put 39 = .ok (.iconst 0, 1) := by decide +kernel
theorem dR_put_40 : decode b_R_put 40 = .ok (.iload 5, 2) := by decide +kernel
theorem dR_put_42 : decode b_R_put 42 = .ok (.ifCond .eq 14, 3) := by decide +kernel
theorem dR_put_45 : decode b_R_put 45 = .ok (.iload_n 3, 1) := by decide +kernel
theorem dR_put_46 : decode b_R_put 46 = .ok (.invokestatic 96, 3) := by decide +kernel
theorem dR_put_49 : decode b_R_put 49 = .ok (.ifCond .ne 7, 3) := by decide +kernel
theorem dR_put_52 : decode b_R_put 52 = .ok (.iconst 1, 1) := by decide +kernel
theorem dR_put_53 : decode b_R_put 53 = .ok (.goto 4, 3) := by decide +kernel
theorem dR_put_56 : decode b_R_put 56 = .ok (.iconst 0, 1) := by decide +kernel
theorem dR_put_57 : decode b_R_put 57 = .ok (.invokevirtual 88, 3) := by decide +kernel
theorem dR_put_60 : decode b_R_put 60 = .ok (.ifCond .eq 5, 3) := by decide +kernel
theorem dR_put_63 : decode b_R_put 63 = .ok (.iconst 0, 1) := by decide +kernel
theorem dR_put_64 : decode b_R_put 64 = .ok (.ireturn, 1) := by decide +kernel
theorem dR_put_65 : decode b_R_put 65 = .ok (.aload_n 0, 1) := by decide +kernel
theorem dR_put_66 : decode b_R_put 66 = .ok (.iload_n 2, 1) := by decide +kernel
theorem dR_put_67 : decode b_R_put 67 = .ok (.aload_n 0, 1) := by decide +kernel
theorem dR_put_68 : decode b_R_put 68 = .ok (.getfield 21, 3) := by decide +kernel
theorem dR_put_71 : decode b_R_put 71 = .ok (.invokevirtual 99, 3) := by decide +kernel
theorem dR_put_74 : decode b_R_put 74 = .ok (.aload_n 0, 1) := by decide +kernel
theorem dR_put_75 : decode b_R_put 75 = .ok (.iload 4, 2) := by decide +kernel
theorem dR_put_77 : decode b_R_put 77 = .ok (.aload_n 0, 1) := by decide +kernel
theorem dR_put_78 : decode b_R_put 78 = .ok (.getfield 24, 3) := by decide +kernel
theorem dR_put_81 : decode b_R_put 81 = .ok (.invokevirtual 99, 3) := by decide +kernel
theorem dR_put_84 : decode b_R_put 84 = .ok (.aload_n 0, 1) := by decide +kernel
theorem dR_put_85 : decode b_R_put 85 = .ok (.aload_n 0, 1) := by decide +kernel
theorem dR_put_86 : decode b_R_put 86 = .ok (.getfield 21, 3) := by decide +kernel
theorem dR_put_89 : decode b_R_put 89 = .ok (.iload_n 3, 1) := by decide +kernel
theorem dR_put_90 : decode b_R_put 90 = .ok (.invokevirtual 102, 3) := by decide +kernel
theorem dR_put_93 : decode b_R_put 93 = .ok (.istore 6, 2) := by decide +kernel
theorem dR_put_95 : decode b_R_put 95 = .ok (.iconst 0, 1) := by decide +kernel
theorem dR_put_96 : decode b_R_put 96 = .ok (.istore 7, 2) := by decide +kernel
theorem dR_put_98 : decode b_R_put 98 = .ok (.iconst 0, 1) := by decide +kernel
theorem dR_put_99 : decode b_R_put 99 = .ok (.istore 8, 2) := by decide +kernel
theorem dR_put_101 : decode b_R_put 101 = .ok (.iload 8, 2) := by decide +kernel
theorem dR_put_103 : decode b_R_put 103 = .ok (.iconst 3, 1) := by decide +kernel
theorem dR_put_104 : decode b_R_put 104 = .ok (.if_icmp .ge 60, 3) := by decide +kernel
theorem dR_put_107 : decode b_R_put 107 = .ok (.iload 7, 2) := by decide +kernel
theorem dR_put_109 : decode b_R_put 109 = .ok (.ifCond .ne 42, 3) := by decide +kernel
theorem dR_put_112 : decode b_R_put 112 = .ok (.iload 8, 2) := by decide +kernel
theorem dR_put_114 : decode b_R_put 114 = .ok (.iload_n 3, 1) := by decide +kernel
theorem dR_put_115 : decode b_R_put 115 = .ok (.if_icmp .ne 7, 3) := by decide +kernel
theorem dR_put_118 : decode b_R_put 118 = .ok (.iconst 0, 1) := by decide +kernel
theorem dR_put_119 : decode b_R_put 119 = .ok (.goto 13, 3) := by decide +kernel
theorem dR_put_122 : decode b_R_put 122 = .ok (.aload_n 0, 1) := by decide +kernel
theorem dR_put_123 : decode b_R_put 123 = .ok (.aload_n 0, 1) := by decide +kernel
theorem dR_put_124 : decode b_R_put 124 = .ok (.getfield 21, 3) := by decide +kernel
theorem dR_put_127 : decode b_R_put 127 = .ok (.iload 8, 2) := by decide +kernel
theorem dR_put_129 : decode b_R_put 129 = .ok (.invokevirtual 102, 3) := by decide +kernel
theorem dR_put_132 : decode b_R_put 132 = .ok (.iload 6, 2) := by decide +kernel
theorem dR_put_134 : decode b_R_put 134 = .ok (.aload_n 0, 1) := by decide +kernel
theorem dR_put_135 : decode b_R_put 135 = .ok (.aload_n 0, 1) := by decide +kernel
theorem dR_put_136 : decode b_R_put 136 = .ok (.getfield 24, 3) := by decide +kernel
theorem dR_put_139 : decode b_R_put 139 = .ok (.iload 8, 2) := by decide +kernel
theorem dR_put_141 : decode b_R_put 141 = .ok (.invokevirtual 102, 3) := by decide +kernel
theorem dR_put_144 : decode b_R_put 144 = .ok (.imul, 1) := by decide +kernel
theorem dR_put_145 : decode b_R_put 145 = .ok (.iadd, 1) := by decide +kernel
theorem dR_put_146 : decode b_R_put 146 = .ok (.bipush 12, 2) := by decide +kernel
theorem dR_put_148 : decode b_R_put 148 = .ok (.if_icmp .le 7, 3) := by decide +kernel
theorem dR_put_151 : decode b_R_put 151 = .ok (.iconst 1, 1) := by decide +kernel
theorem dR_put_152 : decode b_R_put 152 = .ok (.goto 4, 3) := by decide +kernel
theorem dR_put_155 : decode b_R_put 155 = .ok (.iconst 0, 1) := by decide +kernel
theorem dR_put_156 : decode b_R_put 156 = .ok (.istore 7, 2) := by decide +kernel
theorem dR_put_158 : decode b_R_put 158 = .ok (.iinc 8 1, 3) := by decide +kernel
theorem dR_put_161 : decode b_R_put 161 = .ok (.goto (-60), 3) := by decide +kernel
theorem dR_put_164 : decode b_R_put 164 = .ok (.aload_n 0, 1) := by decide +kernel
theorem dR_put_165 : decode b_R_put 165 = .ok (.iload 7, 2) := by decide +kernel
theorem dR_put_167 : decode b_R_put 167 = .ok (.invokevirtual 106, 3) := by decide +kernel
theorem dR_put_170 : decode b_R_put 170 = .ok (.ifCond .eq 5, 3) := by decide +kernel
theorem dR_put_173 : decode b_R_put 173 = .ok (.iconst 0, 1) := by decide +kernel
theorem dR_put_174 : decode b_R_put 174 = .ok (.ireturn, 1) := by decide +kernel
theorem dR_put_175 : decode b_R_put 175 = .ok (.aload_n 0, 1) := by decide +kernel
theorem dR_put_176 : decode b_R_put 176 = .ok (.getfield 33, 3) := by decide +kernel
theorem dR_put_179 : decode b_R_put 179 = .ok (.invokestatic 70, 3) := by decide +kernel
theorem dR_put_182 : decode b_R_put 182 = .ok (.iload 6, 2) := by decide +kernel
theorem dR_put_184 : decode b_R_put 184 = .ok (.istore 8, 2) := by decide +kernel
theorem dR_put_186 : decode b_R_put 186 = .ok (.iload 8, 2) := by decide +kernel
theorem dR_put_188 : decode b_R_put 188 = .ok (.ifCond .lt 77, 3) := by decide +kernel
theorem dR_put_191 : decode b_R_put 191 = .ok (.aload_n 0, 1) := by decide +kernel
theorem dR_put_192 : decode b_R_put 192 = .ok (.aload_n 0, 1) := by decide +kernel
theorem dR_put_193 : decode b_R_put 193 = .ok (.getfield 33, 3) := by decide +kernel
theorem dR_put_196 : decode b_R_put 196 = .ok (.aload_n 0, 1) := by decide +kernel
theorem dR_put_197 : decode b_R_put 197 = .ok (.getfield 24, 3) := by decide +kernel
theorem dR_put_200 : decode b_R_put 200 = .ok (.invokevirtual 110, 3) := by decide +kernel
theorem dR_put_203 : decode b_R_put 203 = .ok (.aload_n 0, 1) := by decide +kernel
theorem dR_put_204 : decode b_R_put 204 = .ok (.aload_n 0, 1) := by decide +kernel
theorem dR_put_205 : decode b_R_put 205 = .ok (.getfield 21, 3) := by decide +kernel
theorem dR_put_208 : decode b_R_put 208 = .ok (.iload_n 3, 1) := by decide +kernel
theorem dR_put_209 : decode b_R_put 209 = .ok (.iload 8, 2) := by decide +kernel
theorem dR_put_211 : decode b_R_put 211 = .ok (.invokevirtual 121, 3) := by decide +kernel
theorem dR_put_214 : decode b_R_put 214 = .ok (.iconst 0, 1) := by decide +kernel
theorem dR_put_215 : decode b_R_put 215 = .ok (.istore 9, 2) := by decide +kernel
theorem dR_put_217 : decode b_R_put 217 = .ok (.iload 9, 2) := by decide +kernel
theorem dR_put_219 : decode b_R_put 219 = .ok (.sipush 9139, 3) := by decide +kernel
theorem dR_put_222 : decode b_R_put 222 = .ok (.if_icmp .ge 37, 3) := by decide +kernel
theorem dR_put_225 : decode b_R_put 225 = .ok (.aload_n 0, 1) := by decide +kernel
theorem dR_put_226 : decode b_R_put 226 = .ok (.getfield 33, 3) := by decide +kernel
theorem dR_put_229 : decode b_R_put 229 = .ok (.iload 9, 2) := by decide +kernel
theorem dR_put_231 : decode b_R_put 231 = .ok (.aload_n 0, 1) := by decide +kernel
theorem dR_put_232 : decode b_R_put 232 = .ok (.aload_n 0, 1) := by decide +kernel
theorem dR_put_233 : decode b_R_put 233 = .ok (.getfield 33, 3) := by decide +kernel
theorem dR_put_236 : decode b_R_put 236 = .ok (.iload 9, 2) := by decide +kernel
theorem dR_put_238 : decode b_R_put 238 = .ok (.iaload, 1) := by decide +kernel
theorem dR_put_239 : decode b_R_put 239 = .ok (.i2l, 1) := by decide +kernel
theorem dR_put_240 : decode b_R_put 240 = .ok (.aload_n 0, 1) := by decide +kernel
theorem dR_put_241 : decode b_R_put 241 = .ok (.getfield 36, 3) := by decide +kernel
theorem dR_put_244 : decode b_R_put 244 = .ok (.iload 9, 2) := by decide +kernel
theorem dR_put_246 : decode b_R_put 246 = .ok (.iaload, 1) := by decide +kernel
theorem dR_put_247 : decode b_R_put 247 = .ok (.i2l, 1) := by decide +kernel
theorem dR_put_248 : decode b_R_put 248 = .ok (.ladd, 1) := by decide +kernel
theorem dR_put_249 : decode b_R_put 249 = .ok (.invokevirtual 66, 3) := by decide +kernel
theorem dR_put_252 : decode b_R_put 252 = .ok (.iastore, 1) := by decide +kernel
theorem dR_put_253 : decode b_R_put 253 = .ok (.iinc 9 1, 3) := by decide +kernel
theorem dR_put_256 : decode b_R_put 256 = .ok (.goto (-39), 3) := by decide +kernel
theorem dR_put_259 : decode b_R_put 259 = .ok (.iinc 8 (-1), 3) := by decide +kernel
theorem dR_put_262 : decode b_R_put 262 = .ok (.goto (-76), 3) := by decide +kernel
theorem dR_put_265 : decode b_R_put 265 = .ok (.aload_n 0, 1) := by decide +kernel
theorem dR_put_266 : decode b_R_put 266 = .ok (.iload_n 1, 1) := by decide +kernel
theorem dR_put_267 : decode b_R_put 267 = .ok (.aload_n 0, 1) := by decide +kernel
theorem dR_put_268 : decode b_R_put 268 = .ok (.getfield 33, 3) := by decide +kernel
theorem dR_put_271 : decode b_R_put 271 = .ok (.invokevirtual 92, 3) := by decide +kernel
theorem dR_put_274 : decode b_R_put 274 = .ok (.iconst 1, 1) := by decide +kernel
theorem dR_put_275 : decode b_R_put 275 = .ok (.ireturn, 1) := by decide +kernel
theorem dR_part_0 : decode b_R_part 0 = .ok (.aload_n 0, 1) := by decide +kernel
theorem dR_part_1 : decode b_R_part 1 = .ok (.getfield 36, 3) := by decide +kernel
theorem dR_part_4 : decode b_R_part 4 = .ok (.invokestatic 70, 3) := by decide +kernel
theorem dR_part_7 : decode b_R_part 7 = .ok (.iconst 0, 1) := by decide +kernel
theorem dR_part_8 : decode b_R_part 8 = .ok (.istore 4, 2) := by decide +kernel
theorem dR_part_10 : decode b_R_part 10 = .ok (.iload 4, 2) := by decide +kernel
theorem dR_part_12 : decode b_R_part 12 = .ok (.sipush 9139, 3) := by decide +kernel
theorem dR_part_15 : decode b_R_part 15 = .ok (.if_icmp .ge 90, 3) := by decide +kernel
theorem dR_part_18 : decode b_R_part 18 = .ok (.aload_n 1, 1) := by decide +kernel
theorem dR_part_19 : decode b_R_part 19 = .ok (.iload 4, 2) := by decide +kernel
theorem dR_part_21 : decode b_R_part 21 = .ok (.iaload, 1) := by decide +kernel
theorem dR_part_22 : decode b_R_part 22 = .ok (.ifCond .eq 77, 3) := by decide +kernel
theorem dR_part_25 : decode b_R_part 25 = .ok (.aload_n 0, 1) := by decide +kernel
theorem dR_part_26 : decode b_R_part 26 = .ok (.iload 4, 2) := by decide +kernel
theorem dR_part_28 : decode b_R_part 28 = .ok (.iload_n 2, 1) := by decide +kernel
theorem dR_part_29 : decode b_R_part 29 = .ok (.invokevirtual 58, 3) := by decide +kernel
theorem dR_part_32 : decode b_R_part 32 = .ok (.iload_n 3, 1) := by decide +kernel
theorem dR_part_33 : decode b_R_part 33 = .ok (.if_icmp .eq 6, 3) := by decide +kernel
theorem dR_part_36 : decode b_R_part 36 = .ok (.goto 63, 3) := by decide +kernel
theorem dR_part_39 : decode b_R_part 39 = .ok (.aload_n 0, 1) := by decide +kernel
theorem dR_part_40 : decode b_R_part 40 = .ok (.getfield 36, 3) := by decide +kernel
theorem dR_part_43 : decode b_R_part 43 = .ok (.aload_n 0, 1) := by decide +kernel
theorem dR_part_44 : decode b_R_part 44 = .ok (.iload_n 2, 1) := by decide +kernel
theorem dR_part_45 : decode b_R_part 45 = .ok (.ifCond .ne 7, 3) := by decide +kernel
theorem dR_part_48 : decode b_R_part 48 = .ok (.iconst 0, 1) := by decide +kernel
theorem dR_part_49 : decode b_R_part 49 = .ok (.goto 10, 3) := by decide +kernel
theorem dR_part_52 : decode b_R_part 52 = .ok (.aload_n 0, 1) := by decide +kernel
theorem dR_part_53 : decode b_R_part 53 = .ok (.iload 4, 2) := by decide +kernel
theorem dR_part_55 : decode b_R_part 55 = .ok (.iconst 0, 1) := by decide +kernel
theorem dR_part_56 : decode b_R_part 56 = .ok (.invokevirtual 58, 3) := by decide +kernel
theorem dR_part_59 : decode b_R_part 59 = .ok (.iload_n 2, 1) := by decide +kernel
theorem dR_part_60 : decode b_R_part 60 = .ok (.iconst 1, 1) := by decide +kernel
theorem dR_part_61 : decode b_R_part 61 = .ok (.if_icmp .ne 7, 3) := by decide +kernel
theorem dR_part_64 : decode b_R_part 64 = .ok (.iconst 0, 1) := by decide +kernel
theorem dR_part_65 : decode b_R_part 65 = .ok (.goto 10, 3) := by decide +kernel
theorem dR_part_68 : decode b_R_part 68 = .ok (.aload_n 0, 1) := by decide +kernel
theorem dR_part_69 : decode b_R_part 69 = .ok (.iload 4, 2) := by decide +kernel
theorem dR_part_71 : decode b_R_part 71 = .ok (.iconst 1, 1) := by decide +kernel
theorem dR_part_72 : decode b_R_part 72 = .ok (.invokevirtual 58, 3) := by decide +kernel
theorem dR_part_75 : decode b_R_part 75 = .ok (.iload_n 2, 1) := by decide +kernel
theorem dR_part_76 : decode b_R_part 76 = .ok (.iconst 2, 1) := by decide +kernel
theorem dR_part_77 : decode b_R_part 77 = .ok (.if_icmp .ne 7, 3) := by decide +kernel
theorem dR_part_80 : decode b_R_part 80 = .ok (.iconst 0, 1) := by decide +kernel
theorem dR_part_81 : decode b_R_part 81 = .ok (.goto 10, 3) := by decide +kernel
theorem dR_part_84 : decode b_R_part 84 = .ok (.aload_n 0, 1) := by decide +kernel
theorem dR_part_85 : decode b_R_part 85 = .ok (.iload 4, 2) := by decide +kernel
theorem dR_part_87 : decode b_R_part 87 = .ok (.iconst 2, 1) := by decide +kernel
theorem dR_part_88 : decode b_R_part 88 = .ok (.invokevirtual 58, 3) := by decide +kernel
theorem dR_part_91 : decode b_R_part 91 = .ok (.invokevirtual 62, 3) := by decide +kernel
theorem dR_part_94 : decode b_R_part 94 = .ok (.aload_n 1, 1) := by decide +kernel
theorem dR_part_95 : decode b_R_part 95 = .ok (.iload 4, 2) := by decide +kernel
theorem dR_part_97 : decode b_R_part 97 = .ok (.iaload, 1) := by decide +kernel
theorem dR_part_98 : decode b_R_part 98 = .ok (.iastore, 1) := by decide +kernel
theorem dR_part_99 : decode b_R_part 99 = .ok (.iinc 4 1, 3) := by decide +kernel
theorem dR_part_102 : decode b_R_part 102 = .ok (.goto (-92), 3) := by decide +kernel
theorem dR_part_105 : decode b_R_part 105 = .ok (.return_, 1) := by decide +kernel
theorem dR_resultant_0 : decode b_R_resultant 0 = .ok (.iload_n 1, 1) := by decide +kernel
theorem dR_resultant_1 : decode b_R_resultant 1 = .ok (.invokestatic 85, 3) := by decide +kernel
theorem dR_resultant_4 : decode b_R_resultant 4 = .ok (.ifCond .eq 21, 3) := by decide +kernel
theorem dR_resultant_7 : decode b_R_resultant 7 = .ok (.iload_n 2, 1) := by decide +kernel
theorem dR_resultant_8 : decode b_R_resultant 8 = .ok (.invokestatic 85, 3) := by decide +kernel
theorem dR_resultant_11 : decode b_R_resultant 11 = .ok (.ifCond .eq 14, 3) := by decide +kernel
theorem dR_resultant_14 : decode b_R_resultant 14 = .ok (.iload_n 3, 1) := by decide +kernel
theorem dR_resultant_15 : decode b_R_resultant 15 = .ok (.invokestatic 85, 3) := by decide +kernel
theorem dR_resultant_18 : decode b_R_resultant 18 = .ok (.ifCond .eq 7, 3) := by decide +kernel
theorem dR_resultant_21 : decode b_R_resultant 21 = .ok (.iconst 1, 1) := by decide +kernel
theorem dR_resultant_22 : decode b_R_resultant 22 = .ok (.goto 4, 3) := by decide +kernel
theorem dR_resultant_25 : decode b_R_resultant 25 = .ok (.iconst 0, 1) := by decide +kernel
theorem dR_resultant_26 : decode b_R_resultant 26 = .ok (.istore 5, 2) := by decide +kernel
theorem dR_resultant_28 : decode b_R_resultant 28 = .ok (.iload 5, 2) := by decide +kernel
theorem dR_resultant_30 : decode b_R_resultant 30 = .ok (.ifCond .eq 15, 3) := by decide +kernel
theorem dR_resultant_33 : decode b_R_resultant 33 = .ok (.iload 4, 2) := by decide +kernel
theorem dR_resultant_35 : decode b_R_resultant 35 = .ok (.invokestatic 96, 3) := by decide +kernel
theorem dR_resultant_38 : decode b_R_resultant 38 = .ok (.ifCond .eq 7, 3) := by decide +kernel
theorem dR_resultant_41 : decode b_R_resultant 41 = .ok (.iconst 1, 1) := by decide +kernel
theorem dR_resultant_42 : decode b_R_resultant 42 = .ok (.goto 4, 3) := by decide +kernel
theorem dR_resultant_45 : decode b_R_resultant 45 = .ok (.iconst 0, 1) := by decide +kernel
theorem dR_resultant_46 : decode b_R_resultant 46 = .ok (.istore 6, 2) := by decide +kernel
theorem dR_resultant_48 : decode b_R_resultant 48 = .ok (.iconst 0, 1) := by decide +kernel
theorem dR_resultant_49 : decode b_R_resultant 49 = .ok (.istore 7, 2) := by decide +kernel
theorem dR_resultant_51 : decode b_R_resultant 51 = .ok (.iconst 0, 1) := by decide +kernel
theorem dR_resultant_52 : decode b_R_resultant 52 = .ok (.istore 8, 2) := by decide +kernel
theorem dR_resultant_54 : decode b_R_resultant 54 = .ok (.iload 6, 2) := by decide +kernel
theorem dR_resultant_56 : decode b_R_resultant 56 = .ok (.ifCond .eq 82, 3) := by decide +kernel
theorem dR_resultant_59 : decode b_R_resultant 59 = .ok (.aload_n 0, 1) := by decide +kernel
theorem dR_resultant_60 : decode b_R_resultant 60 = .ok (.iload_n 2, 1) := by decide +kernel
theorem dR_resultant_61 : decode b_R_resultant 61 = .ok (.aload_n 0, 1) := by decide +kernel
theorem dR_resultant_62 : decode b_R_resultant 62 = .ok (.getfield 21, 3) := by decide +kernel
theorem dR_resultant_65 : decode b_R_resultant 65 = .ok (.invokevirtual 99, 3) := by decide +kernel
theorem dR_resultant_68 : decode b_R_resultant 68 = .ok (.aload_n 0, 1) := by decide +kernel
theorem dR_resultant_69 : decode b_R_resultant 69 = .ok (.iload_n 3, 1) := by decide +kernel
theorem dR_resultant_70 : decode b_R_resultant 70 = .ok (.aload_n 0, 1) := by decide +kernel
theorem dR_resultant_71 : decode b_R_resultant 71 = .ok (.getfield 24, 3) := by decide +kernel
theorem dR_resultant_74 : decode b_R_resultant 74 = .ok (.invokevirtual 99, 3) := by decide +kernel
theorem dR_resultant_77 : decode b_R_resultant 77 = .ok (.aload_n 0, 1) := by decide +kernel
theorem dR_resultant_78 : decode b_R_resultant 78 = .ok (.aload_n 0, 1) := by decide +kernel
theorem dR_resultant_79 : decode b_R_resultant 79 = .ok (.getfield 21, 3) := by decide +kernel
theorem dR_resultant_82 : decode b_R_resultant 82 = .ok (.iload 4, 2) := by decide +kernel
theorem dR_resultant_84 : decode b_R_resultant 84 = .ok (.invokevirtual 102, 3) := by decide +kernel
theorem dR_resultant_87 : decode b_R_resultant 87 = .ok (.istore 7, 2) := by decide +kernel
theorem dR_resultant_89 : decode b_R_resultant 89 = .ok (.aload_n 0, 1) := by decide +kernel
theorem dR_resultant_90 : decode b_R_resultant 90 = .ok (.aload_n 0, 1) := by decide +kernel
theorem dR_resultant_91 : decode b_R_resultant 91 = .ok (.getfield 24, 3) := by decide +kernel
theorem dR_resultant_94 : decode b_R_resultant 94 = .ok (.iload 4, 2) := by decide +kernel
theorem dR_resultant_96 : decode b_R_resultant 96 = .ok (.invokevirtual 102, 3) := by decide +kernel
theorem dR_resultant_99 : decode b_R_resultant 99 = .ok (.istore 8, 2) := by decide +kernel
theorem dR_resultant_101 : decode b_R_resultant 101 = .ok (.aload_n 0, 1) := by decide +kernel
theorem dR_resultant_102 : decode b_R_resultant 102 = .ok (.getfield 21, 3) := by decide +kernel
theorem dR_resultant_105 : decode b_R_resultant 105 = .ok (.invokestatic 113, 3) := by decide +kernel
theorem dR_resultant_108 : decode b_R_resultant 108 = .ok (.ifCond .ne 27, 3) := by decide +kernel
theorem dR_resultant_111 : decode b_R_resultant 111 = .ok (.aload_n 0, 1) := by decide +kernel
theorem dR_resultant_112 : decode b_R_resultant 112 = .ok (.getfield 24, 3) := by decide +kernel
theorem dR_resultant_115 : decode b_R_resultant 115 = .ok (.invokestatic 113, 3) := by decide +kernel
theorem dR_resultant_118 : decode b_R_resultant 118 = .ok (.ifCond .ne 17, 3) := by decide +kernel
theorem dR_resultant_121 : decode b_R_resultant 121 = .ok (.iload 7, 2) := by decide +kernel
theorem dR_resultant_123 : decode b_R_resultant 123 = .ok (.iload 8, 2) := by decide +kernel
theorem dR_resultant_125 : decode b_R_resultant 125 = .ok (.iadd, 1) := by decide +kernel
theorem dR_resultant_126 : decode b_R_resultant 126 = .ok (.bipush 8, 2) := by decide +kernel
theorem dR_resultant_128 : decode b_R_resultant 128 = .ok (.if_icmp .gt 7, 3) := by decide +kernel
theorem dR_resultant_131 : decode b_R_resultant 131 = .ok (.iconst 1, 1) := by decide +kernel
theorem dR_resultant_132 : decode b_R_resultant 132 = .ok (.goto 4, 3) := by decide +kernel
theorem dR_resultant_135 : decode b_R_resultant 135 = .ok (.iconst 0, 1) := by decide +kernel
theorem dR_resultant_136 : decode b_R_resultant 136 = .ok (.istore 6, 2) := by decide +kernel
theorem dR_resultant_138 : decode b_R_resultant 138 = .ok (.aload_n 0, 1) := by decide +kernel
theorem dR_resultant_139 : decode b_R_resultant 139 = .ok (.iload 5, 2) := by decide +kernel
theorem dR_resultant_141 : decode b_R_resultant 141 = .ok (.ifCond .ne 7, 3) := by decide +kernel
theorem dR_resultant_144 : decode b_R_resultant 144 = .ok (.iconst 1, 1) := by decide +kernel
theorem dR_resultant_145 : decode b_R_resultant 145 = .ok (.goto 4, 3) := by decide +kernel
theorem dR_resultant_148 : decode b_R_resultant 148 = .ok (.iconst 0, 1) := by decide +kernel
theorem dR_resultant_149 : decode b_R_resultant 149 = .ok (.iload 5, 2) := by decide +kernel
theorem dR_resultant_151 : decode b_R_resultant 151 = .ok (.ifCond .eq 12, 3) := by decide +kernel
theorem dR_resultant_154 : decode b_R_resultant 154 = .ok (.iload 6, 2) := by decide +kernel
theorem dR_resultant_156 : decode b_R_resultant 156 = .ok (.ifCond .ne 7, 3) := by decide +kernel
theorem dR_resultant_159 : decode b_R_resultant 159 = .ok (.iconst 1, 1) := by decide +kernel
theorem dR_resultant_160 : decode b_R_resultant 160 = .ok (.goto 4, 3) := by decide +kernel
theorem dR_resultant_163 : decode b_R_resultant 163 = .ok (.iconst 0, 1) := by decide +kernel
theorem dR_resultant_164 : decode b_R_resultant 164 = .ok (.invokevirtual 88, 3) := by decide +kernel
theorem dR_resultant_167 : decode b_R_resultant 167 = .ok (.ifCond .eq 5, 3) := by decide +kernel
theorem dR_resultant_170 : decode b_R_resultant 170 = .ok (.iconst 0, 1) := by decide +kernel
theorem dR_resultant_171 : decode b_R_resultant 171 = .ok (.ireturn, 1) := by decide +kernel
theorem dR_resultant_172 : decode b_R_resultant 172 = .ok (.iconst 0, 1) := by decide +kernel
theorem dR_resultant_173 : decode b_R_resultant 173 = .ok (.istore 9, 2) := by decide +kernel
theorem dR_resultant_175 : decode b_R_resultant 175 = .ok (.iconst 0, 1) := by decide +kernel
theorem dR_resultant_176 : decode b_R_resultant 176 = .ok (.istore 10, 2) := by decide +kernel
theorem dR_resultant_178 : decode b_R_resultant 178 = .ok (.iload 10, 2) := by decide +kernel
theorem dR_resultant_180 : decode b_R_resultant 180 = .ok (.iconst 3, 1) := by decide +kernel
theorem dR_resultant_181 : decode b_R_resultant 181 = .ok (.if_icmp .ge 60, 3) := by decide +kernel
theorem dR_resultant_184 : decode b_R_resultant 184 = .ok (.iload 9, 2) := by decide +kernel
theorem dR_resultant_186 : decode b_R_resultant 186 = .ok (.ifCond .ne 42, 3) := by decide +kernel
theorem dR_resultant_189 : decode b_R_resultant 189 = .ok (.iload 10, 2) := by decide +kernel
theorem dR_resultant_191 : decode b_R_resultant 191 = .ok (.iload 4, 2) := by decide +kernel
theorem dR_resultant_193 : decode b_R_resultant 193 = .ok (.if_icmp .eq 39, 3) := by decide +kernel
theorem dR_resultant_196 : decode b_R_resultant 196 = .ok (.iload 8, 2) := by decide +kernel
theorem dR_resultant_198 : decode b_R_resultant 198 = .ok (.aload_n 0, 1) := by decide +kernel
theorem dR_resultant_199 : decode b_R_resultant 199 = .ok (.aload_n 0, 1) := by decide +kernel
theorem dR_resultant_200 : decode b_R_resultant 200 = .ok (.getfield 21, 3) := by decide +kernel
theorem dR_resultant_203 : decode b_R_resultant 203 = .ok (.iload 10, 2) := by decide +kernel
theorem dR_resultant_205 : decode b_R_resultant 205 = .ok (.invokevirtual 102, 3) := by decide +kernel
theorem dR_resultant_208 : decode b_R_resultant 208 = .ok (.imul, 1) := by decide +kernel
theorem dR_resultant_209 : decode b_R_resultant 209 = .ok (.iload 7, 2) := by decide +kernel
theorem dR_resultant_211 : decode b_R_resultant 211 = .ok (.aload_n 0, 1) := by decide +kernel
theorem dR_resultant_212 : decode b_R_resultant 212 = .ok (.aload_n 0, 1) := by decide +kernel
theorem dR_resultant_213 : decode b_R_resultant 213 = .ok (.getfield 24, 3) := by decide +kernel
theorem dR_resultant_216 : decode b_R_resultant 216 = .ok (.iload 10, 2) := by decide +kernel
theorem dR_resultant_218 : decode b_R_resultant 218 = .ok (.invokevirtual 102, 3) := by decide +kernel
theorem dR_resultant_221 : decode b_R_resultant 221 = .ok (.imul, 1) := by decide +kernel
theorem dR_resultant_222 : decode b_R_resultant 222 = .ok (.iadd, 1) := by decide +kernel
theorem dR_resultant_223 : decode b_R_resultant 223 = .ok (.bipush 12, 2) := by decide +kernel
theorem dR_resultant_225 : decode b_R_resultant 225 = .ok (.if_icmp .le 7, 3) := by decide +kernel
theorem dR_resultant_228 : decode b_R_resultant 228 = .ok (.iconst 1, 1) := by decide +kernel
theorem dR_resultant_229 : decode b_R_resultant 229 = .ok (.goto 4, 3) := by decide +kernel
theorem dR_resultant_232 : decode b_R_resultant 232 = .ok (.iconst 0, 1) := by decide +kernel
theorem dR_resultant_233 : decode b_R_resultant 233 = .ok (.istore 9, 2) := by decide +kernel
theorem dR_resultant_235 : decode b_R_resultant 235 = .ok (.iinc 10 1, 3) := by decide +kernel
theorem dR_resultant_238 : decode b_R_resultant 238 = .ok (.goto (-60), 3) := by decide +kernel
theorem dR_resultant_241 : decode b_R_resultant 241 = .ok (.aload_n 0, 1) := by decide +kernel
theorem dR_resultant_242 : decode b_R_resultant 242 = .ok (.iload 9, 2) := by decide +kernel
theorem dR_resultant_244 : decode b_R_resultant 244 = .ok (.invokevirtual 106, 3) := by decide +kernel
theorem dR_resultant_247 : decode b_R_resultant 247 = .ok (.ifCond .eq 5, 3) := by decide +kernel
theorem dR_resultant_250 : decode b_R_resultant 250 = .ok (.iconst 0, 1) := by decide +kernel
theorem dR_resultant_251 : decode b_R_resultant 251 = .ok (.ireturn, 1) := by decide +kernel
theorem dR_resultant_252 : decode b_R_resultant 252 = .ok (.iload 7, 2) := by decide +kernel
theorem dR_resultant_254 : decode b_R_resultant 254 = .ok (.iload 8, 2) := by decide +kernel
theorem dR_resultant_256 : decode b_R_resultant 256 = .ok (.iadd, 1) := by decide +kernel
theorem dR_resultant_257 : decode b_R_resultant 257 = .ok (.istore 10, 2) := by decide +kernel
theorem dR_resultant_259 : decode b_R_resultant 259 = .ok (.iconst 0, 1) := by decide +kernel
theorem dR_resultant_260 : decode b_R_resultant 260 = .ok (.istore 11, 2) := by decide +kernel
theorem dR_resultant_262 : decode b_R_resultant 262 = .ok (.iload 11, 2) := by decide +kernel
theorem dR_resultant_264 : decode b_R_resultant 264 = .ok (.iload 10, 2) := by decide +kernel
theorem dR_resultant_266 : decode b_R_resultant 266 = .ok (.iload 10, 2) := by decide +kernel
theorem dR_resultant_268 : decode b_R_resultant 268 = .ok (.imul, 1) := by decide +kernel
theorem dR_resultant_269 : decode b_R_resultant 269 = .ok (.sipush 169, 3) := by decide +kernel
theorem dR_resultant_272 : decode b_R_resultant 272 = .ok (.imul, 1) := by decide +kernel
theorem dR_resultant_273 : decode b_R_resultant 273 = .ok (.if_icmp .ge 17, 3) := by decide +kernel
theorem dR_resultant_276 : decode b_R_resultant 276 = .ok (.aload_n 0, 1) := by decide +kernel
theorem dR_resultant_277 : decode b_R_resultant 277 = .ok (.getfield 39, 3) := by decide +kernel
theorem dR_resultant_280 : decode b_R_resultant 280 = .ok (.iload 11, 2) := by decide +kernel
theorem dR_resultant_282 : decode b_R_resultant 282 = .ok (.iconst 0, 1) := by decide +kernel
theorem dR_resultant_283 : decode b_R_resultant 283 = .ok (.iastore, 1) := by decide +kernel
theorem dR_resultant_284 : decode b_R_resultant 284 = .ok (.iinc 11 1, 3) := by decide +kernel
theorem dR_resultant_287 : decode b_R_resultant 287 = .ok (.goto (-25), 3) := by decide +kernel
theorem dR_resultant_290 : decode b_R_resultant 290 = .ok (.iconst 0, 1) := by decide +kernel
theorem dR_resultant_291 : decode b_R_resultant 291 = .ok (.istore 11, 2) := by decide +kernel
theorem dR_resultant_293 : decode b_R_resultant 293 = .ok (.iload 11, 2) := by decide +kernel
theorem dR_resultant_295 : decode b_R_resultant 295 = .ok (.iload 10, 2) := by decide +kernel
theorem dR_resultant_297 : decode b_R_resultant 297 = .ok (.if_icmp .ge 96, 3) := by decide +kernel
theorem dR_resultant_300 : decode b_R_resultant 300 = .ok (.iload 11, 2) := by decide +kernel
theorem dR_resultant_302 : decode b_R_resultant 302 = .ok (.iload 8, 2) := by decide +kernel
theorem dR_resultant_304 : decode b_R_resultant 304 = .ok (.if_icmp .ge 8, 3) := by decide +kernel
theorem dR_resultant_307 : decode b_R_resultant 307 = .ok (.iload 7, 2) := by decide +kernel
theorem dR_resultant_309 : decode b_R_resultant 309 = .ok (.goto 5, 3) := by decide +kernel
theorem dR_resultant_312 : decode b_R_resultant 312 = .ok (.iload 8, 2) := by decide +kernel
theorem dR_resultant_314 : decode b_R_resultant 314 = .ok (.istore 12, 2) := by decide +kernel
theorem dR_resultant_316 : decode b_R_resultant 316 = .ok (.iconst 0, 1) := by decide +kernel
theorem dR_resultant_317 : decode b_R_resultant 317 = .ok (.istore 13, 2) := by decide +kernel
theorem dR_resultant_319 : decode b_R_resultant 319 = .ok (.iload 13, 2) := by decide +kernel
theorem dR_resultant_321 : decode b_R_resultant 321 = .ok (.iload 12, 2) := by decide +kernel
theorem dR_resultant_323 : decode b_R_resultant 323 = .ok (.if_icmp .gt 64, 3) := by decide +kernel
theorem dR_resultant_326 : decode b_R_resultant 326 = .ok (.aload_n 0, 1) := by decide +kernel
theorem dR_resultant_327 : decode b_R_resultant 327 = .ok (.iload 11, 2) := by decide +kernel
theorem dR_resultant_329 : decode b_R_resultant 329 = .ok (.iload 8, 2) := by decide +kernel
theorem dR_resultant_331 : decode b_R_resultant 331 = .ok (.if_icmp .ge 10, 3) := by decide +kernel
theorem dR_resultant_334 : decode b_R_resultant 334 = .ok (.aload_n 0, 1) := by decide +kernel
theorem dR_resultant_335 : decode b_R_resultant 335 = .ok (.getfield 21, 3) := by decide +kernel
theorem dR_resultant_338 : decode b_R_resultant 338 = .ok (.goto 7, 3) := by decide +kernel
theorem dR_resultant_341 : decode b_R_resultant 341 = .ok (.aload_n 0, 1) := by decide +kernel
theorem dR_resultant_342 : decode b_R_resultant 342 = .ok (.getfield 24, 3) := by decide +kernel
theorem dR_resultant_345 : decode b_R_resultant 345 = .ok (.iload 4, 2) := by decide +kernel
theorem dR_resultant_347 : decode b_R_resultant 347 = .ok (.iload 12, 2) := by decide +kernel
theorem dR_resultant_349 : decode b_R_resultant 349 = .ok (.iload 13, 2) := by decide +kernel
theorem dR_resultant_351 : decode b_R_resultant 351 = .ok (.isub, 1) := by decide +kernel
theorem dR_resultant_352 : decode b_R_resultant 352 = .ok (.iload 10, 2) := by decide +kernel
theorem dR_resultant_354 : decode b_R_resultant 354 = .ok (.iload 11, 2) := by decide +kernel
theorem dR_resultant_356 : decode b_R_resultant 356 = .ok (.imul, 1) := by decide +kernel
theorem dR_resultant_357 : decode b_R_resultant 357 = .ok (.iload 11, 2) := by decide +kernel
theorem dR_resultant_359 : decode b_R_resultant 359 = .ok (.iload 8, 2) := by decide +kernel
theorem dR_resultant_361 : decode b_R_resultant 361 = .ok (.if_icmp .ge 8, 3) := by decide +kernel
theorem dR_resultant_364 : decode b_R_resultant 364 = .ok (.iload 11, 2) := by decide +kernel
theorem dR_resultant_366 : decode b_R_resultant 366 = .ok (.goto 8, 3) := by decide +kernel
theorem dR_resultant_369 : decode b_R_resultant 369 = .ok (.iload 11, 2) := by decide +kernel
theorem dR_resultant_371 : decode b_R_resultant 371 = .ok (.iload 8, 2) := by decide +kernel
theorem dR_resultant_373 : decode b_R_resultant 373 = .ok (.isub, 1) := by decide +kernel
theorem dR_resultant_374 : decode b_R_resultant 374 = .ok (.iadd, 1) := by decide +kernel
theorem dR_resultant_375 : decode b_R_resultant 375 = .ok (.iload 13, 2) := by decide +kernel
theorem dR_resultant_377 : decode b_R_resultant 377 = .ok (.iadd, 1) := by decide +kernel
theorem dR_resultant_378 : decode b_R_resultant 378 = .ok (.invokevirtual 125, 3) := by decide +kernel
theorem dR_resultant_381 : decode b_R_resultant 381 = .ok (.iinc 13 1, 3) := by decide +kernel
theorem dR_resultant_384 : decode b_R_resultant 384 = .ok (.goto (-65), 3) := by decide +kernel
theorem dR_resultant_387 : decode b_R_resultant 387 = .ok (.iinc 11 1, 3) := by decide +kernel
theorem dR_resultant_390 : decode b_R_resultant 390 = .ok (.goto (-97), 3) := by decide +kernel
theorem dR_resultant_393 : decode b_R_resultant 393 = .ok (.aload_n 0, 1) := by decide +kernel
theorem dR_resultant_394 : decode b_R_resultant 394 = .ok (.iload 10, 2) := by decide +kernel
theorem dR_resultant_396 : decode b_R_resultant 396 = .ok (.invokevirtual 129, 3) := by decide +kernel
theorem dR_resultant_399 : decode b_R_resultant 399 = .ok (.aload_n 0, 1) := by decide +kernel
theorem dR_resultant_400 : decode b_R_resultant 400 = .ok (.getfield 21, 3) := by decide +kernel
theorem dR_resultant_403 : decode b_R_resultant 403 = .ok (.invokestatic 70, 3) := by decide +kernel
theorem dR_resultant_406 : decode b_R_resultant 406 = .ok (.iconst 0, 1) := by decide +kernel
theorem dR_resultant_407 : decode b_R_resultant 407 = .ok (.istore 11, 2) := by decide +kernel
theorem dR_resultant_409 : decode b_R_resultant 409 = .ok (.iload 11, 2) := by decide +kernel
theorem dR_resultant_411 : decode b_R_resultant 411 = .ok (.sipush 169, 3) := by decide +kernel
theorem dR_resultant_414 : decode b_R_resultant 414 = .ok (.if_icmp .ge 99, 3) := by decide +kernel
theorem dR_resultant_417 : decode b_R_resultant 417 = .ok (.iload 11, 2) := by decide +kernel
theorem dR_resultant_419 : decode b_R_resultant 419 = .ok (.bipush 13, 2) := by decide +kernel
theorem dR_resultant_421 : decode b_R_resultant 421 = .ok (.idiv, 1) := by decide +kernel
theorem dR_resultant_422 : decode b_R_resultant 422 = .ok (.istore 12, 2) := by decide +kernel
theorem dR_resultant_424 : decode b_R_resultant 424 = .ok (.iload 11, 2) := by decide +kernel
theorem dR_resultant_426 : decode b_R_resultant 426 = .ok (.bipush 13, 2) := by decide +kernel
theorem dR_resultant_428 : decode b_R_resultant 428 = .ok (.irem, 1) := by decide +kernel
theorem dR_resultant_429 : decode b_R_resultant 429 = .ok (.istore 13, 2) := by decide +kernel
theorem dR_resultant_431 : decode b_R_resultant 431 = .ok (.aload_n 0, 1) := by decide +kernel
theorem dR_resultant_432 : decode b_R_resultant 432 = .ok (.getfield 43, 3) := by decide +kernel
theorem dR_resultant_435 : decode b_R_resultant 435 = .ok (.sipush 169, 3) := by decide +kernel
theorem dR_resultant_438 : decode b_R_resultant 438 = .ok (.iconst 1, 1) := by decide +kernel
theorem dR_resultant_439 : decode b_R_resultant 439 = .ok (.iload 10, 2) := by decide +kernel
theorem dR_resultant_441 : decode b_R_resultant 441 = .ok (.ishl, 1) := by decide +kernel
theorem dR_resultant_442 : decode b_R_resultant 442 = .ok (.iconst 1, 1) := by decide +kernel
theorem dR_resultant_443 : decode b_R_resultant 443 = .ok (.isub, 1) := by decide +kernel
theorem dR_resultant_444 : decode b_R_resultant 444 = .ok (.imul, 1) := by decide +kernel
theorem dR_resultant_445 : decode b_R_resultant 445 = .ok (.iload 11, 2) := by decide +kernel
theorem dR_resultant_447 : decode b_R_resultant 447 = .ok (.iadd, 1) := by decide +kernel
theorem dR_resultant_448 : decode b_R_resultant 448 = .ok (.iaload, 1) := by decide +kernel
theorem dR_resultant_449 : decode b_R_resultant 449 = .ok (.istore 14, 2) := by decide +kernel
theorem dR_resultant_451 : decode b_R_resultant 451 = .ok (.iload 14, 2) := by decide +kernel
theorem dR_resultant_453 : decode b_R_resultant 453 = .ok (.ifCond .eq 54, 3) := by decide +kernel
theorem dR_resultant_456 : decode b_R_resultant 456 = .ok (.aload_n 0, 1) := by decide +kernel
theorem dR_resultant_457 : decode b_R_resultant 457 = .ok (.getfield 21, 3) := by decide +kernel
theorem dR_resultant_460 : decode b_R_resultant 460 = .ok (.iload 4, 2) := by decide +kernel
theorem dR_resultant_462 : decode b_R_resultant 462 = .ok (.ifCond .ne 15, 3) := by decide +kernel
theorem dR_resultant_465 : decode b_R_resultant 465 = .ok (.aload_n 0, 1) := by decide +kernel
theorem dR_resultant_466 : decode b_R_resultant 466 = .ok (.iconst 0, 1) := by decide +kernel
theorem dR_resultant_467 : decode b_R_resultant 467 = .ok (.iload 12, 2) := by decide +kernel
theorem dR_resultant_469 : decode b_R_resultant 469 = .ok (.iload 13, 2) := by decide +kernel
theorem dR_resultant_471 : decode b_R_resultant 471 = .ok (.invokevirtual 62, 3) := by decide +kernel
theorem dR_resultant_474 : decode b_R_resultant 474 = .ok (.goto 30, 3) := by decide +kernel
theorem dR_resultant_477 : decode b_R_resultant 477 = .ok (.iload 4, 2) := by decide +kernel
theorem dR_resultant_479 : decode b_R_resultant 479 = .ok (.iconst 1, 1) := by decide +kernel
theorem dR_resultant_480 : decode b_R_resultant 480 = .ok (.if_icmp .ne 15, 3) := by decide +kernel
theorem dR_resultant_483 : decode b_R_resultant 483 = .ok (.aload_n 0, 1) := by decide +kernel
theorem dR_resultant_484 : decode b_R_resultant 484 = .ok (.iload 12, 2) := by decide +kernel
theorem dR_resultant_486 : decode b_R_resultant 486 = .ok (.iconst 0, 1) := by decide +kernel
theorem dR_resultant_487 : decode b_R_resultant 487 = .ok (.iload 13, 2) := by decide +kernel
theorem dR_resultant_489 : decode b_R_resultant 489 = .ok (.invokevirtual 62, 3) := by decide +kernel
theorem dR_resultant_492 : decode b_R_resultant 492 = .ok (.goto 12, 3) := by decide +kernel
theorem dR_resultant_495 : decode b_R_resultant 495 = .ok (.aload_n 0, 1) := by decide +kernel
theorem dR_resultant_496 : decode b_R_resultant 496 = .ok (.iload 12, 2) := by decide +kernel
theorem dR_resultant_498 : decode b_R_resultant 498 = .ok (.iload 13, 2) := by decide +kernel
theorem dR_resultant_500 : decode b_R_resultant 500 = .ok (.iconst 0, 1) := by decide +kernel
theorem dR_resultant_501 : decode b_R_resultant 501 = .ok (.invokevirtual 62, 3) := by decide +kernel
theorem dR_resultant_504 : decode b_R_resultant 504 = .ok (.iload 14, 2) := by decide +kernel
theorem dR_resultant_506 : decode b_R_resultant 506 = .ok (.iastore, 1) := by decide +kernel
theorem dR_resultant_507 : decode b_R_resultant 507 = .ok (.iinc 11 1, 3) := by decide +kernel
theorem dR_resultant_510 : decode b_R_resultant 510 = .ok (.goto (-101), 3) := by decide +kernel
theorem dR_resultant_513 : decode b_R_resultant 513 = .ok (.aload_n 0, 1) := by decide +kernel
theorem dR_resultant_514 : decode b_R_resultant 514 = .ok (.iload_n 1, 1) := by decide +kernel
theorem dR_resultant_515 : decode b_R_resultant 515 = .ok (.aload_n 0, 1) := by decide +kernel
theorem dR_resultant_516 : decode b_R_resultant 516 = .ok (.getfield 21, 3) := by decide +kernel
theorem dR_resultant_519 : decode b_R_resultant 519 = .ok (.invokevirtual 92, 3) := by decide +kernel
theorem dR_resultant_522 : decode b_R_resultant 522 = .ok (.iconst 1, 1) := by decide +kernel
theorem dR_resultant_523 : decode b_R_resultant 523 = .ok (.ireturn, 1) := by decide +kernel
theorem dR_entry_0 : decode b_R_entry 0 = .ok (.iconst 0, 1) := by decide +kernel
theorem dR_entry_1 : decode b_R_entry 1 = .ok (.istore 5, 2) := by decide +kernel
theorem dR_entry_3 : decode b_R_entry 3 = .ok (.iload 5, 2) := by decide +kernel
theorem dR_entry_5 : decode b_R_entry 5 = .ok (.sipush 9139, 3) := by decide +kernel
theorem dR_entry_8 : decode b_R_entry 8 = .ok (.if_icmp .ge 81, 3) := by decide +kernel
theorem dR_entry_11 : decode b_R_entry 11 = .ok (.aload_n 1, 1) := by decide +kernel
theorem dR_entry_12 : decode b_R_entry 12 = .ok (.iload 5, 2) := by decide +kernel
theorem dR_entry_14 : decode b_R_entry 14 = .ok (.iaload, 1) := by decide +kernel
theorem dR_entry_15 : decode b_R_entry 15 = .ok (.ifCond .eq 68, 3) := by decide +kernel
theorem dR_entry_18 : decode b_R_entry 18 = .ok (.aload_n 0, 1) := by decide +kernel
theorem dR_entry_19 : decode b_R_entry 19 = .ok (.iload 5, 2) := by decide +kernel
theorem dR_entry_21 : decode b_R_entry 21 = .ok (.iload_n 2, 1) := by decide +kernel
theorem dR_entry_22 : decode b_R_entry 22 = .ok (.invokevirtual 58, 3) := by decide +kernel
theorem dR_entry_25 : decode b_R_entry 25 = .ok (.iload_n 3, 1) := by decide +kernel
theorem dR_entry_26 : decode b_R_entry 26 = .ok (.if_icmp .eq 6, 3) := by decide +kernel
theorem dR_entry_29 : decode b_R_entry 29 = .ok (.goto 54, 3) := by decide +kernel
theorem dR_entry_32 : decode b_R_entry 32 = .ok (.aload_n 0, 1) := by decide +kernel
theorem dR_entry_33 : decode b_R_entry 33 = .ok (.getfield 39, 3) := by decide +kernel
theorem dR_entry_36 : decode b_R_entry 36 = .ok (.sipush 169, 3) := by decide +kernel
theorem dR_entry_39 : decode b_R_entry 39 = .ok (.iload 4, 2) := by decide +kernel
theorem dR_entry_41 : decode b_R_entry 41 = .ok (.imul, 1) := by decide +kernel
theorem dR_entry_42 : decode b_R_entry 42 = .ok (.bipush 13, 2) := by decide +kernel
theorem dR_entry_44 : decode b_R_entry 44 = .ok (.aload_n 0, 1) := by decide +kernel
theorem dR_entry_45 : decode b_R_entry 45 = .ok (.iload 5, 2) := by decide +kernel
theorem dR_entry_47 : decode b_R_entry 47 = .ok (.iload_n 2, 1) := by decide +kernel
theorem dR_entry_48 : decode b_R_entry 48 = .ok (.ifCond .ne 7, 3) := by decide +kernel
theorem dR_entry_51 : decode b_R_entry 51 = .ok (.iconst 1, 1) := by decide +kernel
theorem dR_entry_52 : decode b_R_entry 52 = .ok (.goto 4, 3) := by decide +kernel
theorem dR_entry_55 : decode b_R_entry 55 = .ok (.iconst 0, 1) := by decide +kernel
theorem dR_entry_56 : decode b_R_entry 56 = .ok (.invokevirtual 58, 3) := by decide +kernel
theorem dR_entry_59 : decode b_R_entry 59 = .ok (.imul, 1) := by decide +kernel
theorem dR_entry_60 : decode b_R_entry 60 = .ok (.iadd, 1) := by decide +kernel
theorem dR_entry_61 : decode b_R_entry 61 = .ok (.aload_n 0, 1) := by decide +kernel
theorem dR_entry_62 : decode b_R_entry 62 = .ok (.iload 5, 2) := by decide +kernel
theorem dR_entry_64 : decode b_R_entry 64 = .ok (.iload_n 2, 1) := by decide +kernel
theorem dR_entry_65 : decode b_R_entry 65 = .ok (.iconst 2, 1) := by decide +kernel
theorem dR_entry_66 : decode b_R_entry 66 = .ok (.if_icmp .ne 7, 3) := by decide +kernel
theorem dR_entry_69 : decode b_R_entry 69 = .ok (.iconst 1, 1) := by decide +kernel
theorem dR_entry_70 : decode b_R_entry 70 = .ok (.goto 4, 3) := by decide +kernel
theorem dR_entry_73 : decode b_R_entry 73 = .ok (.iconst 2, 1) := by decide +kernel
theorem dR_entry_74 : decode b_R_entry 74 = .ok (.invokevirtual 58, 3) := by decide +kernel
theorem dR_entry_77 : decode b_R_entry 77 = .ok (.iadd, 1) := by decide +kernel
theorem dR_entry_78 : decode b_R_entry 78 = .ok (.aload_n 1, 1) := by decide +kernel
theorem dR_entry_79 : decode b_R_entry 79 = .ok (.iload 5, 2) := by decide +kernel
theorem dR_entry_81 : decode b_R_entry 81 = .ok (.iaload, 1) := by decide +kernel
theorem dR_entry_82 : decode b_R_entry 82 = .ok (.iastore, 1) := by decide +kernel
theorem dR_entry_83 : decode b_R_entry 83 = .ok (.iinc 5 1, 3) := by decide +kernel
theorem dR_entry_86 : decode b_R_entry 86 = .ok (.goto (-83), 3) := by decide +kernel
theorem dR_entry_89 : decode b_R_entry 89 = .ok (.return_, 1) := by decide +kernel
theorem dR_determinant_0 : decode b_R_determinant 0 = .ok (.iconst 0, 1) := by decide +kernel
theorem dR_determinant_1 : decode b_R_determinant 1 = .ok (.istore_n 2, 1) := by decide +kernel
theorem dR_determinant_2 : decode b_R_determinant 2 = .ok (.iload_n 2, 1) := by decide +kernel
theorem dR_determinant_3 : decode b_R_determinant 3 = .ok (.iconst 1, 1) := by decide +kernel
theorem dR_determinant_4 : decode b_R_determinant 4 = .ok (.iload_n 1, 1) := by decide +kernel
theorem dR_determinant_5 : decode b_R_determinant 5 = .ok (.ishl, 1) := by decide +kernel
theorem dR_determinant_6 : decode b_R_determinant 6 = .ok (.if_icmp .ge 135, 3) := by decide +kernel
theorem dR_determinant_9 : decode b_R_determinant 9 = .ok (.iconst 0, 1) := by decide +kernel
theorem dR_determinant_10 : decode b_R_determinant 10 = .ok (.istore_n 3, 1) := by decide +kernel
theorem dR_determinant_11 : decode b_R_determinant 11 = .ok (.iload_n 3, 1) := by decide +kernel
theorem dR_determinant_12 : decode b_R_determinant 12 = .ok (.sipush 169, 3) := by decide +kernel
theorem dR_determinant_15 : decode b_R_determinant 15 = .ok (.if_icmp .ge 22, 3) := by decide +kernel
theorem dR_determinant_18 : decode b_R_determinant 18 = .ok (.aload_n 0, 1) := by decide +kernel
theorem dR_determinant_19 : decode b_R_determinant 19 = .ok (.getfield 43, 3) := by decide +kernel
theorem dR_determinant_22 : decode b_R_determinant 22 = .ok (.sipush 169, 3) := by decide +kernel
theorem dR_determinant_25 : decode b_R_determinant 25 = .ok (.iload_n 2, 1) := by decide +kernel
theorem dR_determinant_26 : decode b_R_determinant 26 = .ok (.imul, 1) := by decide +kernel
theorem dR_determinant_27 : decode b_R_determinant 27 = .ok (.iload_n 3, 1) := by decide +kernel
theorem dR_determinant_28 : decode b_R_determinant 28 = .ok (.iadd, 1) := by decide +kernel
theorem dR_determinant_29 : decode b_R_determinant 29 = .ok (.iconst 0, 1) := by decide +kernel
theorem dR_determinant_30 : decode b_R_determinant 30 = .ok (.iastore, 1) := by decide +kernel
theorem dR_determinant_31 : decode b_R_determinant 31 = .ok (.iinc 3 1, 3) := by decide +kernel
theorem dR_determinant_34 : decode b_R_determinant 34 = .ok (.goto (-23), 3) := by decide +kernel
theorem dR_determinant_37 : decode b_R_determinant 37 = .ok (.iload_n 2, 1) := by decide +kernel
theorem dR_determinant_38 : decode b_R_determinant 38 = .ok (.invokestatic 133, 3) := by decide +kernel
theorem dR_determinant_41 : decode b_R_determinant 41 = .ok (.iconst 1, 1) := by decide +kernel
theorem dR_determinant_42 : decode b_R_determinant 42 = .ok (.isub, 1) := by decide +kernel
theorem dR_determinant_43 : decode b_R_determinant 43 = .ok (.istore_n 3, 1) := by decide +kernel
theorem dR_determinant_44 : decode b_R_determinant 44 = .ok (.iload_n 3, 1) := by decide +kernel
theorem dR_determinant_45 : decode b_R_determinant 45 = .ok (.ifCond .ge 10, 3) := by decide +kernel
theorem dR_determinant_48 : decode b_R_determinant 48 = .ok (.aload_n 0, 1) := by decide +kernel
theorem dR_determinant_49 : decode b_R_determinant 49 = .ok (.getfield 43, 3) := by decide +kernel
theorem dR_determinant_52 : decode b_R_determinant 52 = .ok (.iconst 0, 1) := by decide +kernel
theorem dR_determinant_53 : decode b_R_determinant 53 = .ok (.iconst 1, 1) := by decide +kernel
theorem dR_determinant_54 : decode b_R_determinant 54 = .ok (.iastore, 1) := by decide +kernel
theorem dR_determinant_55 : decode b_R_determinant 55 = .ok (.iconst 0, 1) := by decide +kernel
theorem dR_determinant_56 : decode b_R_determinant 56 = .ok (.istore 4, 2) := by decide +kernel
theorem dR_determinant_58 : decode b_R_determinant 58 = .ok (.iload 4, 2) := by decide +kernel
theorem dR_determinant_60 : decode b_R_determinant 60 = .ok (.iload_n 1, 1) := by decide +kernel
theorem dR_determinant_61 : decode b_R_determinant 61 = .ok (.if_icmp .ge 74, 3) := by decide +kernel
theorem dR_determinant_64 : decode b_R_determinant 64 = .ok (.iload_n 2, 1) := by decide +kernel
theorem dR_determinant_65 : decode b_R_determinant 65 = .ok (.iload 4, 2) := by decide +kernel
theorem dR_determinant_67 : decode b_R_determinant 67 = .ok (.ishr, 1) := by decide +kernel
theorem dR_determinant_68 : decode b_R_determinant 68 = .ok (.iconst 1, 1) := by decide +kernel
theorem dR_determinant_69 : decode b_R_determinant 69 = .ok (.iand, 1) := by decide +kernel
theorem dR_determinant_70 : decode b_R_determinant 70 = .ok (.ifCond .ne 6, 3) := by decide +kernel
theorem dR_determinant_73 : decode b_R_determinant 73 = .ok (.goto 56, 3) := by decide +kernel
theorem dR_determinant_76 : decode b_R_determinant 76 = .ok (.iload_n 2, 1) := by decide +kernel
theorem dR_determinant_77 : decode b_R_determinant 77 = .ok (.iload 4, 2) := by decide +kernel
theorem dR_determinant_79 : decode b_R_determinant 79 = .ok (.iconst 1, 1) := by decide +kernel
theorem dR_determinant_80 : decode b_R_determinant 80 = .ok (.iadd, 1) := by decide +kernel
theorem dR_determinant_81 : decode b_R_determinant 81 = .ok (.ishr, 1) := by decide +kernel
theorem dR_determinant_82 : decode b_R_determinant 82 = .ok (.invokestatic 133, 3) := by decide +kernel
theorem dR_determinant_85 : decode b_R_determinant 85 = .ok (.iconst 2, 1) := by decide +kernel
theorem dR_determinant_86 : decode b_R_determinant 86 = .ok (.irem, 1) := by decide +kernel
theorem dR_determinant_87 : decode b_R_determinant 87 = .ok (.iconst 1, 1) := by decide +kernel
theorem dR_determinant_88 : decode b_R_determinant 88 = .ok (.if_icmp .ne 7, 3) := by decide +kernel
theorem dR_determinant_91 : decode b_R_determinant 91 = .ok (.iconst 1, 1) := by decide +kernel
theorem dR_determinant_92 : decode b_R_determinant 92 = .ok (.goto 4, 3) := by decide +kernel
theorem dR_determinant_95 : decode b_R_determinant 95 = .ok (.iconst 0, 1) := by decide +kernel
theorem dR_determinant_96 : decode b_R_determinant 96 = .ok (.istore 5, 2) := by decide +kernel
theorem dR_determinant_98 : decode b_R_determinant 98 = .ok (.aload_n 0, 1) := by decide +kernel
theorem dR_determinant_99 : decode b_R_determinant 99 = .ok (.sipush 169, 3) := by decide +kernel
theorem dR_determinant_102 : decode b_R_determinant 102 = .ok (.iload_n 1, 1) := by decide +kernel
theorem dR_determinant_103 : decode b_R_determinant 103 = .ok (.iload_n 3, 1) := by decide +kernel
theorem dR_determinant_104 : decode b_R_determinant 104 = .ok (.imul, 1) := by decide +kernel
theorem dR_determinant_105 : decode b_R_determinant 105 = .ok (.iload 4, 2) := by decide +kernel
theorem dR_determinant_107 : decode b_R_determinant 107 = .ok (.iadd, 1) := by decide +kernel
theorem dR_determinant_108 : decode b_R_determinant 108 = .ok (.imul, 1) := by decide +kernel
theorem dR_determinant_109 : decode b_R_determinant 109 = .ok (.sipush 169, 3) := by decide +kernel
theorem dR_determinant_112 : decode b_R_determinant 112 = .ok (.iload_n 2, 1) := by decide +kernel
theorem dR_determinant_113 : decode b_R_determinant 113 = .ok (.iconst 1, 1) := by decide +kernel
theorem dR_determinant_114 : decode b_R_determinant 114 = .ok (.iload 4, 2) := by decide +kernel
theorem dR_determinant_116 : decode b_R_determinant 116 = .ok (.ishl, 1) := by decide +kernel
theorem dR_determinant_117 : decode b_R_determinant 117 = .ok (.isub, 1) := by decide +kernel
theorem dR_determinant_118 : decode b_R_determinant 118 = .ok (.imul, 1) := by decide +kernel
theorem dR_determinant_119 : decode b_R_determinant 119 = .ok (.sipush 169, 3) := by decide +kernel
theorem dR_determinant_122 : decode b_R_determinant 122 = .ok (.iload_n 2, 1) := by decide +kernel
theorem dR_determinant_123 : decode b_R_determinant 123 = .ok (.imul, 1) := by decide +kernel
theorem dR_determinant_124 : decode b_R_determinant 124 = .ok (.iload 5, 2) := by decide +kernel
theorem dR_determinant_126 : decode b_R_determinant 126 = .ok (.invokevirtual 136, 3) := by decide +kernel
theorem dR_determinant_129 : decode b_R_determinant 129 = .ok (.iinc 4 1, 3) := by decide +kernel
theorem dR_determinant_132 : decode b_R_determinant 132 = .ok (.goto (-74), 3) := by decide +kernel
theorem dR_determinant_135 : decode b_R_determinant 135 = .ok (.iinc 2 1, 3) := by decide +kernel
theorem dR_determinant_138 : decode b_R_determinant 138 = .ok (.goto (-136), 3) := by decide +kernel
theorem dR_determinant_141 : decode b_R_determinant 141 = .ok (.return_, 1) := by decide +kernel
theorem dR_bits_0 : decode b_R_bits 0 = .ok (.iconst 0, 1) := by decide +kernel
theorem dR_bits_1 : decode b_R_bits 1 = .ok (.istore_n 1, 1) := by decide +kernel
theorem dR_bits_2 : decode b_R_bits 2 = .ok (.iconst 0, 1) := by decide +kernel
theorem dR_bits_3 : decode b_R_bits 3 = .ok (.istore_n 2, 1) := by decide +kernel
theorem dR_bits_4 : decode b_R_bits 4 = .ok (.iload_n 2, 1) := by decide +kernel
theorem dR_bits_5 : decode b_R_bits 5 = .ok (.bipush 9, 2) := by decide +kernel
theorem dR_bits_7 : decode b_R_bits 7 = .ok (.if_icmp .ge 17, 3) := by decide +kernel
theorem dR_bits_10 : decode b_R_bits 10 = .ok (.iload_n 1, 1) := by decide +kernel
theorem dR_bits_11 : decode b_R_bits 11 = .ok (.iload_n 0, 1) := by decide +kernel
theorem dR_bits_12 : decode b_R_bits 12 = .ok (.iload_n 2, 1) := by decide +kernel
theorem dR_bits_13 : decode b_R_bits 13 = .ok (.ishr, 1) := by decide +kernel
theorem dR_bits_14 : decode b_R_bits 14 = .ok (.iconst 1, 1) := by decide +kernel
theorem dR_bits_15 : decode b_R_bits 15 = .ok (.iand, 1) := by decide +kernel
theorem dR_bits_16 : decode b_R_bits 16 = .ok (.iadd, 1) := by decide +kernel
theorem dR_bits_17 : decode b_R_bits 17 = .ok (.istore_n 1, 1) := by decide +kernel
theorem dR_bits_18 : decode b_R_bits 18 = .ok (.iinc 2 1, 3) := by decide +kernel
theorem dR_bits_21 : decode b_R_bits 21 = .ok (.goto (-17), 3) := by decide +kernel
theorem dR_bits_24 : decode b_R_bits 24 = .ok (.iload_n 1, 1) := by decide +kernel
theorem dR_bits_25 : decode b_R_bits 25 = .ok (.ireturn, 1) := by decide +kernel
theorem dR_cross_0 : decode b_R_cross 0 = .ok (.iconst 0, 1) := by decide +kernel
theorem dR_cross_1 : decode b_R_cross 1 = .ok (.istore 5, 2) := by decide +kernel
theorem dR_cross_3 : decode b_R_cross 3 = .ok (.iload 5, 2) := by decide +kernel
theorem dR_cross_5 : decode b_R_cross 5 = .ok (.sipush 169, 3) := by decide +kernel
theorem dR_cross_8 : decode b_R_cross 8 = .ok (.if_icmp .ge 132, 3) := by decide +kernel
theorem dR_cross_11 : decode b_R_cross 11 = .ok (.aload_n 0, 1) := by decide +kernel
theorem dR_cross_12 : decode b_R_cross 12 = .ok (.getfield 39, 3) := by decide +kernel
theorem dR_cross_15 : decode b_R_cross 15 = .ok (.iload_n 1, 1) := by decide +kernel
theorem dR_cross_16 : decode b_R_cross 16 = .ok (.iload 5, 2) := by decide +kernel
theorem dR_cross_18 : decode b_R_cross 18 = .ok (.iadd, 1) := by decide +kernel
theorem dR_cross_19 : decode b_R_cross 19 = .ok (.iaload, 1) := by decide +kernel
theorem dR_cross_20 : decode b_R_cross 20 = .ok (.i2l, 1) := by decide +kernel
theorem dR_cross_21 : decode b_R_cross 21 = .ok (.lstore 6, 2) := by decide +kernel
theorem dR_cross_23 : decode b_R_cross 23 = .ok (.iconst 0, 1) := by decide +kernel
theorem dR_cross_24 : decode b_R_cross 24 = .ok (.istore 8, 2) := by decide +kernel
theorem dR_cross_26 : decode b_R_cross 26 = .ok (.iload 8, 2) := by decide +kernel
theorem dR_cross_28 : decode b_R_cross 28 = .ok (.sipush 169, 3) := by decide +kernel
theorem dR_cross_31 : decode b_R_cross 31 = .ok (.if_icmp .ge 103, 3) := by decide +kernel
theorem dR_cross_34 : decode b_R_cross 34 = .ok (.lload 6, 2) := by decide +kernel
theorem dR_cross_36 : decode b_R_cross 36 = .ok (.lconst 0, 1) := by decide +kernel
theorem dR_cross_37 : decode b_R_cross 37 = .ok (.lcmp, 1) := by decide +kernel
theorem dR_cross_38 : decode b_R_cross 38 = .ok (.ifCond .le 96, 3) := by decide +kernel
theorem dR_cross_41 : decode b_R_cross 41 = .ok (.aload_n 0, 1) := by decide +kernel
theorem dR_cross_42 : decode b_R_cross 42 = .ok (.getfield 43, 3) := by decide +kernel
theorem dR_cross_45 : decode b_R_cross 45 = .ok (.iload_n 2, 1) := by decide +kernel
theorem dR_cross_46 : decode b_R_cross 46 = .ok (.iload 8, 2) := by decide +kernel
theorem dR_cross_48 : decode b_R_cross 48 = .ok (.iadd, 1) := by decide +kernel
theorem dR_cross_49 : decode b_R_cross 49 = .ok (.iaload, 1) := by decide +kernel
theorem dR_cross_50 : decode b_R_cross 50 = .ok (.ifCond .ne 6, 3) := by decide +kernel
theorem dR_cross_53 : decode b_R_cross 53 = .ok (.goto 75, 3) := by decide +kernel
theorem dR_cross_56 : decode b_R_cross 56 = .ok (.iload_n 3, 1) := by decide +kernel
theorem dR_cross_57 : decode b_R_cross 57 = .ok (.iload 5, 2) := by decide +kernel
theorem dR_cross_59 : decode b_R_cross 59 = .ok (.iadd, 1) := by decide +kernel
theorem dR_cross_60 : decode b_R_cross 60 = .ok (.iload 8, 2) := by decide +kernel
theorem dR_cross_62 : decode b_R_cross 62 = .ok (.iadd, 1) := by decide +kernel
theorem dR_cross_63 : decode b_R_cross 63 = .ok (.istore 9, 2) := by decide +kernel
theorem dR_cross_65 : decode b_R_cross 65 = .ok (.aload_n 0, 1) := by decide +kernel
theorem dR_cross_66 : decode b_R_cross 66 = .ok (.getfield 43, 3) := by decide +kernel
theorem dR_cross_69 : decode b_R_cross 69 = .ok (.iload 9, 2) := by decide +kernel
theorem dR_cross_71 : decode b_R_cross 71 = .ok (.aload_n 0, 1) := by decide +kernel
theorem dR_cross_72 : decode b_R_cross 72 = .ok (.iload 4, 2) := by decide +kernel
theorem dR_cross_74 : decode b_R_cross 74 = .ok (.ifCond .eq 28, 3) := by decide +kernel
theorem dR_cross_77 : decode b_R_cross 77 = .ok (.aload_n 0, 1) := by decide +kernel
theorem dR_cross_78 : decode b_R_cross 78 = .ok (.getfield 43, 3) := by decide +kernel
theorem dR_cross_81 : decode b_R_cross 81 = .ok (.iload 9, 2) := by decide +kernel
theorem dR_cross_83 : decode b_R_cross 83 = .ok (.iaload, 1) := by decide +kernel
theorem dR_cross_84 : decode b_R_cross 84 = .ok (.i2l, 1) := by decide +kernel
theorem dR_cross_85 : decode b_R_cross 85 = .ok (.lload 6, 2) := by decide +kernel
theorem dR_cross_87 : decode b_R_cross 87 = .ok (.aload_n 0, 1) := by decide +kernel
theorem dR_cross_88 : decode b_R_cross 88 = .ok (.getfield 43, 3) := by decide +kernel
theorem dR_cross_91 : decode b_R_cross 91 = .ok (.iload_n 2, 1) := by decide +kernel
theorem dR_cross_92 : decode b_R_cross 92 = .ok (.iload 8, 2) := by decide +kernel
theorem dR_cross_94 : decode b_R_cross 94 = .ok (.iadd, 1) := by decide +kernel
theorem dR_cross_95 : decode b_R_cross 95 = .ok (.iaload, 1) := by decide +kernel
theorem dR_cross_96 : decode b_R_cross 96 = .ok (.i2l, 1) := by decide +kernel
theorem dR_cross_97 : decode b_R_cross 97 = .ok (.lmul, 1) := by decide +kernel
theorem dR_cross_98 : decode b_R_cross 98 = .ok (.lsub, 1) := by decide +kernel
theorem dR_cross_99 : decode b_R_cross 99 = .ok (.goto 25, 3) := by decide +kernel
theorem dR_cross_102 : decode b_R_cross 102 = .ok (.aload_n 0, 1) := by decide +kernel
theorem dR_cross_103 : decode b_R_cross 103 = .ok (.getfield 43, 3) := by decide +kernel
theorem dR_cross_106 : decode b_R_cross 106 = .ok (.iload 9, 2) := by decide +kernel
theorem dR_cross_108 : decode b_R_cross 108 = .ok (.iaload, 1) := by decide +kernel
theorem dR_cross_109 : decode b_R_cross 109 = .ok (.i2l, 1) := by decide +kernel
theorem dR_cross_110 : decode b_R_cross 110 = .ok (.lload 6, 2) := by decide +kernel
theorem dR_cross_112 : decode b_R_cross 112 = .ok (.aload_n 0, 1) := by decide +kernel
theorem dR_cross_113 : decode b_R_cross 113 = .ok (.getfield 43, 3) := by decide +kernel
theorem dR_cross_116 : decode b_R_cross 116 = .ok (.iload_n 2, 1) := by decide +kernel
theorem dR_cross_117 : decode b_R_cross 117 = .ok (.iload 8, 2) := by decide +kernel
theorem dR_cross_119 : decode b_R_cross 119 = .ok (.iadd, 1) := by decide +kernel
theorem dR_cross_120 : decode b_R_cross 120 = .ok (.iaload, 1) := by decide +kernel
theorem dR_cross_121 : decode b_R_cross 121 = .ok (.i2l, 1) := by decide +kernel
theorem dR_cross_122 : decode b_R_cross 122 = .ok (.lmul, 1) := by decide +kernel
theorem dR_cross_123 : decode b_R_cross 123 = .ok (.ladd, 1) := by decide +kernel
theorem dR_cross_124 : decode b_R_cross 124 = .ok (.invokevirtual 66, 3) := by decide +kernel
theorem dR_cross_127 : decode b_R_cross 127 = .ok (.iastore, 1) := by decide +kernel
theorem dR_cross_128 : decode b_R_cross 128 = .ok (.iinc 8 1, 3) := by decide +kernel
theorem dR_cross_131 : decode b_R_cross 131 = .ok (.goto (-105), 3) := by decide +kernel
theorem dR_cross_134 : decode b_R_cross 134 = .ok (.iinc 5 1, 3) := by decide +kernel
theorem dR_cross_137 : decode b_R_cross 137 = .ok (.goto (-134), 3) := by decide +kernel
theorem dR_cross_140 : decode b_R_cross 140 = .ok (.return_, 1) := by decide +kernel
theorem dR_value_0 : decode b_R_value 0 = .ok (.aload_n 0, 1) := by decide +kernel
theorem dR_value_1 : decode b_R_value 1 = .ok (.iload_n 1, 1) := by decide +kernel
theorem dR_value_2 : decode b_R_value 2 = .ok (.invokestatic 85, 3) := by decide +kernel
theorem dR_value_5 : decode b_R_value 5 = .ok (.ifCond .ne 7, 3) := by decide +kernel
theorem dR_value_8 : decode b_R_value 8 = .ok (.iconst 1, 1) := by decide +kernel
theorem dR_value_9 : decode b_R_value 9 = .ok (.goto 4, 3) := by decide +kernel
theorem dR_value_12 : decode b_R_value 12 = .ok (.iconst 0, 1) := by decide +kernel
theorem dR_value_13 : decode b_R_value 13 = .ok (.iconst 0, 1) := by decide +kernel
theorem dR_value_14 : decode b_R_value 14 = .ok (.invokevirtual 88, 3) := by decide +kernel
theorem dR_value_17 : decode b_R_value 17 = .ok (.ifCond .eq 5, 3) := by decide +kernel
theorem dR_value_20 : decode b_R_value 20 = .ok (.iconst 0, 1) := by decide +kernel
theorem dR_value_21 : decode b_R_value 21 = .ok (.ireturn, 1) := by decide +kernel
theorem dR_value_22 : decode b_R_value 22 = .ok (.lconst 0, 1) := by decide +kernel
theorem dR_value_23 : decode b_R_value 23 = .ok (.lstore 5, 2) := by decide +kernel
theorem dR_value_25 : decode b_R_value 25 = .ok (.iconst 0, 1) := by decide +kernel
theorem dR_value_26 : decode b_R_value 26 = .ok (.istore 7, 2) := by decide +kernel
theorem dR_value_28 : decode b_R_value 28 = .ok (.iload 7, 2) := by decide +kernel
theorem dR_value_30 : decode b_R_value 30 = .ok (.sipush 9139, 3) := by decide +kernel
theorem dR_value_33 : decode b_R_value 33 = .ok (.if_icmp .ge 177, 3) := by decide +kernel
theorem dR_value_36 : decode b_R_value 36 = .ok (.aload_n 0, 1) := by decide +kernel
theorem dR_value_37 : decode b_R_value 37 = .ok (.getfield 18, 3) := by decide +kernel
theorem dR_value_40 : decode b_R_value 40 = .ok (.sipush 9139, 3) := by decide +kernel
theorem dR_value_43 : decode b_R_value 43 = .ok (.iload_n 1, 1) := by decide +kernel
theorem dR_value_44 : decode b_R_value 44 = .ok (.imul, 1) := by decide +kernel
theorem dR_value_45 : decode b_R_value 45 = .ok (.iload 7, 2) := by decide +kernel
theorem dR_value_47 : decode b_R_value 47 = .ok (.iadd, 1) := by decide +kernel
theorem dR_value_48 : decode b_R_value 48 = .ok (.iaload, 1) := by decide +kernel
theorem dR_value_49 : decode b_R_value 49 = .ok (.i2l, 1) := by decide +kernel
theorem dR_value_50 : decode b_R_value 50 = .ok (.lstore 8, 2) := by decide +kernel
theorem dR_value_52 : decode b_R_value 52 = .ok (.iconst 0, 1) := by decide +kernel
theorem dR_value_53 : decode b_R_value 53 = .ok (.istore 10, 2) := by decide +kernel
theorem dR_value_55 : decode b_R_value 55 = .ok (.iload 10, 2) := by decide +kernel
theorem dR_value_57 : decode b_R_value 57 = .ok (.aload_n 0, 1) := by decide +kernel
theorem dR_value_58 : decode b_R_value 58 = .ok (.iload 7, 2) := by decide +kernel
theorem dR_value_60 : decode b_R_value 60 = .ok (.iconst 0, 1) := by decide +kernel
theorem dR_value_61 : decode b_R_value 61 = .ok (.invokevirtual 58, 3) := by decide +kernel
theorem dR_value_64 : decode b_R_value 64 = .ok (.if_icmp .ge 34, 3) := by decide +kernel
theorem dR_value_67 : decode b_R_value 67 = .ok (.lload 8, 2) := by decide +kernel
theorem dR_value_69 : decode b_R_value 69 = .ok (.lconst 0, 1) := by decide +kernel
theorem dR_value_70 : decode b_R_value 70 = .ok (.lcmp, 1) := by decide +kernel
theorem dR_value_71 : decode b_R_value 71 = .ok (.ifCond .le 27, 3) := by decide +kernel
theorem dR_value_74 : decode b_R_value 74 = .ok (.lload 8, 2) := by decide +kernel
theorem dR_value_76 : decode b_R_value 76 = .ok (.aload_n 0, 1) := by decide +kernel
theorem dR_value_77 : decode b_R_value 77 = .ok (.iload_n 2, 1) := by decide +kernel
theorem dR_value_78 : decode b_R_value 78 = .ok (.i2l, 1) := by decide +kernel
theorem dR_value_79 : decode b_R_value 79 = .ok (.invokevirtual 66, 3) := by decide +kernel
theorem dR_value_82 : decode b_R_value 82 = .ok (.i2l, 1) := by decide +kernel
theorem dR_value_83 : decode b_R_value 83 = .ok (.lmul, 1) := by decide +kernel
theorem dR_value_84 : decode b_R_value 84 = .ok (.aload_n 0, 1) := by decide +kernel
theorem dR_value_85 : decode b_R_value 85 = .ok (.getfield 51, 3) := by decide +kernel
theorem dR_value_88 : decode b_R_value 88 = .ok (.i2l, 1) := by decide +kernel
theorem dR_value_89 : decode b_R_value 89 = .ok (.lrem, 1) := by decide +kernel
theorem dR_value_90 : decode b_R_value 90 = .ok (.lstore 8, 2) := by decide +kernel
theorem dR_value_92 : decode b_R_value 92 = .ok (.iinc 10 1, 3) := by decide +kernel
theorem dR_value_95 : decode b_R_value 95 = .ok (.goto (-40), 3) := by decide +kernel
theorem dR_value_98 : decode b_R_value 98 = .ok (.iconst 0, 1) := by decide +kernel
theorem dR_value_99 : decode b_R_value 99 = .ok (.istore 10, 2) := by decide +kernel
theorem dR_value_101 : decode b_R_value 101 = .ok (.iload 10, 2) := by decide +kernel
theorem dR_value_103 : decode b_R_value 103 = .ok (.aload_n 0, 1) := by decide +kernel
theorem dR_value_104 : decode b_R_value 104 = .ok (.iload 7, 2) := by decide +kernel
theorem dR_value_106 : decode b_R_value 106 = .ok (.iconst 1, 1) := by decide +kernel
theorem dR_value_107 : decode b_R_value 107 = .ok (.invokevirtual 58, 3) := by decide +kernel
theorem dR_value_110 : decode b_R_value 110 = .ok (.if_icmp .ge 34, 3) := by decide +kernel
theorem dR_value_113 : decode b_R_value 113 = .ok (.lload 8, 2) := by decide +kernel
theorem dR_value_115 : decode b_R_value 115 = .ok (.lconst 0, 1) := by decide +kernel
theorem dR_value_116 : decode b_R_value 116 = .ok (.lcmp, 1) := by decide +kernel
theorem dR_value_117 : decode b_R_value 117 = .ok (.ifCond .le 27, 3) := by decide +kernel
theorem dR_value_120 : decode b_R_value 120 = .ok (.lload 8, 2) := by decide +kernel
theorem dR_value_122 : decode b_R_value 122 = .ok (.aload_n 0, 1) := by decide +kernel
theorem dR_value_123 : decode b_R_value 123 = .ok (.iload_n 3, 1) := by decide +kernel
theorem dR_value_124 : decode b_R_value 124 = .ok (.i2l, 1) := by decide +kernel
theorem dR_value_125 : decode b_R_value 125 = .ok (.invokevirtual 66, 3) := by decide +kernel
theorem dR_value_128 : decode b_R_value 128 = .ok (.i2l, 1) := by decide +kernel
theorem dR_value_129 : decode b_R_value 129 = .ok (.lmul, 1) := by decide +kernel
theorem dR_value_130 : decode b_R_value 130 = .ok (.aload_n 0, 1) := by decide +kernel
theorem dR_value_131 : decode b_R_value 131 = .ok (.getfield 51, 3) := by decide +kernel
theorem dR_value_134 : decode b_R_value 134 = .ok (.i2l, 1) := by decide +kernel
theorem dR_value_135 : decode b_R_value 135 = .ok (.lrem, 1) := by decide +kernel
theorem dR_value_136 : decode b_R_value 136 = .ok (.lstore 8, 2) := by decide +kernel
theorem dR_value_138 : decode b_R_value 138 = .ok (.iinc 10 1, 3) := by decide +kernel
theorem dR_value_141 : decode b_R_value 141 = .ok (.goto (-40), 3) := by decide +kernel
theorem dR_value_144 : decode b_R_value 144 = .ok (.iconst 0, 1) := by decide +kernel
theorem dR_value_145 : decode b_R_value 145 = .ok (.istore 10, 2) := by decide +kernel
theorem dR_value_147 : decode b_R_value 147 = .ok (.iload 10, 2) := by decide +kernel
theorem dR_value_149 : decode b_R_value 149 = .ok (.aload_n 0, 1) := by decide +kernel
theorem dR_value_150 : decode b_R_value 150 = .ok (.iload 7, 2) := by decide +kernel
theorem dR_value_152 : decode b_R_value 152 = .ok (.iconst 2, 1) := by decide +kernel
theorem dR_value_153 : decode b_R_value 153 = .ok (.invokevirtual 58, 3) := by decide +kernel
theorem dR_value_156 : decode b_R_value 156 = .ok (.if_icmp .ge 35, 3) := by decide +kernel
theorem dR_value_159 : decode b_R_value 159 = .ok (.lload 8, 2) := by decide +kernel
theorem dR_value_161 : decode b_R_value 161 = .ok (.lconst 0, 1) := by decide +kernel
theorem dR_value_162 : decode b_R_value 162 = .ok (.lcmp, 1) := by decide +kernel
theorem dR_value_163 : decode b_R_value 163 = .ok (.ifCond .le 28, 3) := by decide +kernel
theorem dR_value_166 : decode b_R_value 166 = .ok (.lload 8, 2) := by decide +kernel
theorem dR_value_168 : decode b_R_value 168 = .ok (.aload_n 0, 1) := by decide +kernel
theorem dR_value_169 : decode b_R_value 169 = .ok (.iload 4, 2) := by decide +kernel
theorem dR_value_171 : decode b_R_value 171 = .ok (.i2l, 1) := by decide +kernel
theorem dR_value_172 : decode b_R_value 172 = .ok (.invokevirtual 66, 3) := by decide +kernel
theorem dR_value_175 : decode b_R_value 175 = .ok (.i2l, 1) := by decide +kernel
theorem dR_value_176 : decode b_R_value 176 = .ok (.lmul, 1) := by decide +kernel
theorem dR_value_177 : decode b_R_value 177 = .ok (.aload_n 0, 1) := by decide +kernel
theorem dR_value_178 : decode b_R_value 178 = .ok (.getfield 51, 3) := by decide +kernel
theorem dR_value_181 : decode b_R_value 181 = .ok (.i2l, 1) := by decide +kernel
theorem dR_value_182 : decode b_R_value 182 = .ok (.lrem, 1) := by decide +kernel
theorem dR_value_183 : decode b_R_value 183 = .ok (.lstore 8, 2) := by decide +kernel
theorem dR_value_185 : decode b_R_value 185 = .ok (.iinc 10 1, 3) := by decide +kernel
theorem dR_value_188 : decode b_R_value 188 = .ok (.goto (-41), 3) := by decide +kernel
theorem dR_value_191 : decode b_R_value 191 = .ok (.lload 5, 2) := by decide +kernel
theorem dR_value_193 : decode b_R_value 193 = .ok (.lload 8, 2) := by decide +kernel
theorem dR_value_195 : decode b_R_value 195 = .ok (.ladd, 1) := by decide +kernel
theorem dR_value_196 : decode b_R_value 196 = .ok (.aload_n 0, 1) := by decide +kernel
theorem dR_value_197 : decode b_R_value 197 = .ok (.getfield 51, 3) := by decide +kernel
theorem dR_value_200 : decode b_R_value 200 = .ok (.i2l, 1) := by decide +kernel
theorem dR_value_201 : decode b_R_value 201 = .ok (.lrem, 1) := by decide +kernel
theorem dR_value_202 : decode b_R_value 202 = .ok (.lstore 5, 2) := by decide +kernel
theorem dR_value_204 : decode b_R_value 204 = .ok (.iinc 7 1, 3) := by decide +kernel
theorem dR_value_207 : decode b_R_value 207 = .ok (.goto (-179), 3) := by decide +kernel
theorem dR_value_210 : decode b_R_value 210 = .ok (.lload 5, 2) := by decide +kernel
theorem dR_value_212 : decode b_R_value 212 = .ok (.l2i, 1) := by decide +kernel
theorem dR_value_213 : decode b_R_value 213 = .ok (.ireturn, 1) := by decide +kernel
theorem dR_terms_0 : decode b_R_terms 0 = .ok (.aload_n 0, 1) := by decide +kernel
theorem dR_terms_1 : decode b_R_terms 1 = .ok (.iload_n 1, 1) := by decide +kernel
theorem dR_terms_2 : decode b_R_terms 2 = .ok (.invokestatic 85, 3) := by decide +kernel
theorem dR_terms_5 : decode b_R_terms 5 = .ok (.ifCond .ne 7, 3) := by decide +kernel
theorem dR_terms_8 : decode b_R_terms 8 = .ok (.iconst 1, 1) := by decide +kernel
theorem dR_terms_9 : decode b_R_terms 9 = .ok (.goto 4, 3) := by decide +kernel
theorem dR_terms_12 : decode b_R_terms 12 = .ok (.iconst 0, 1) := by decide +kernel
theorem dR_terms_13 : decode b_R_terms 13 = .ok (.iconst 0, 1) := by decide +kernel
theorem dR_terms_14 : decode b_R_terms 14 = .ok (.invokevirtual 88, 3) := by decide +kernel
theorem dR_terms_17 : decode b_R_terms 17 = .ok (.ifCond .eq 5, 3) := by decide +kernel
theorem dR_terms_20 : decode b_R_terms 20 = .ok (.iconst 0, 1) := by decide +kernel
theorem dR_terms_21 : decode b_R_terms 21 = .ok (.ireturn, 1) := by decide +kernel
theorem dR_terms_22 : decode b_R_terms 22 = .ok (.aload_n 0, 1) := by decide +kernel
theorem dR_terms_23 : decode b_R_terms 23 = .ok (.iload_n 1, 1) := by decide +kernel
theorem dR_terms_24 : decode b_R_terms 24 = .ok (.invokevirtual 140, 3) := by decide +kernel
theorem dR_terms_27 : decode b_R_terms 27 = .ok (.ireturn, 1) := by decide +kernel
theorem dR_counted_0 : decode b_R_counted 0 = .ok (.iconst 0, 1) := by decide +kernel
theorem dR_counted_1 : decode b_R_counted 1 = .ok (.istore_n 2, 1) := by decide +kernel
theorem dR_counted_2 : decode b_R_counted 2 = .ok (.iconst 0, 1) := by decide +kernel
theorem dR_counted_3 : decode b_R_counted 3 = .ok (.istore_n 3, 1) := by decide +kernel
theorem dR_counted_4 : decode b_R_counted 4 = .ok (.iload_n 3, 1) := by decide +kernel
theorem dR_counted_5 : decode b_R_counted 5 = .ok (.sipush 9139, 3) := by decide +kernel
theorem dR_counted_8 : decode b_R_counted 8 = .ok (.if_icmp .ge 32, 3) := by decide +kernel
theorem dR_counted_11 : decode b_R_counted 11 = .ok (.iload_n 2, 1) := by decide +kernel
theorem dR_counted_12 : decode b_R_counted 12 = .ok (.aload_n 0, 1) := by decide +kernel
theorem dR_counted_13 : decode b_R_counted 13 = .ok (.getfield 18, 3) := by decide +kernel
theorem dR_counted_16 : decode b_R_counted 16 = .ok (.sipush 9139, 3) := by decide +kernel
theorem dR_counted_19 : decode b_R_counted 19 = .ok (.iload_n 1, 1) := by decide +kernel
theorem dR_counted_20 : decode b_R_counted 20 = .ok (.imul, 1) := by decide +kernel
theorem dR_counted_21 : decode b_R_counted 21 = .ok (.iload_n 3, 1) := by decide +kernel
theorem dR_counted_22 : decode b_R_counted 22 = .ok (.iadd, 1) := by decide +kernel
theorem dR_counted_23 : decode b_R_counted 23 = .ok (.iaload, 1) := by decide +kernel
theorem dR_counted_24 : decode b_R_counted 24 = .ok (.ifCond .eq 7, 3) := by decide +kernel
theorem dR_counted_27 : decode b_R_counted 27 = .ok (.iconst 1, 1) := by decide +kernel
theorem dR_counted_28 : decode b_R_counted 28 = .ok (.goto 4, 3) := by decide +kernel
theorem dR_counted_31 : decode b_R_counted 31 = .ok (.iconst 0, 1) := by decide +kernel
theorem dR_counted_32 : decode b_R_counted 32 = .ok (.iadd, 1) := by decide +kernel
theorem dR_counted_33 : decode b_R_counted 33 = .ok (.istore_n 2, 1) := by decide +kernel
theorem dR_counted_34 : decode b_R_counted 34 = .ok (.iinc 3 1, 3) := by decide +kernel
theorem dR_counted_37 : decode b_R_counted 37 = .ok (.goto (-33), 3) := by decide +kernel
theorem dR_counted_40 : decode b_R_counted 40 = .ok (.iload_n 2, 1) := by decide +kernel
theorem dR_counted_41 : decode b_R_counted 41 = .ok (.ireturn, 1) := by decide +kernel
theorem dR_term_0 : decode b_R_term 0 = .ok (.iload_n 1, 1) := by decide +kernel
theorem dR_term_1 : decode b_R_term 1 = .ok (.invokestatic 85, 3) := by decide +kernel
theorem dR_term_4 : decode b_R_term 4 = .ok (.ifCond .eq 31, 3) := by decide +kernel
theorem dR_term_7 : decode b_R_term 7 = .ok (.iload_n 2, 1) := by decide +kernel
theorem dR_term_8 : decode b_R_term 8 = .ok (.ifCond .lt 27, 3) := by decide +kernel
theorem dR_term_11 : decode b_R_term 11 = .ok (.iload_n 2, 1) := by decide +kernel
theorem dR_term_12 : decode b_R_term 12 = .ok (.aload_n 0, 1) := by decide +kernel
theorem dR_term_13 : decode b_R_term 13 = .ok (.iload_n 1, 1) := by decide +kernel
theorem dR_term_14 : decode b_R_term 14 = .ok (.invokestatic 85, 3) := by decide +kernel
theorem dR_term_17 : decode b_R_term 17 = .ok (.ifCond .eq 7, 3) := by decide +kernel
theorem dR_term_20 : decode b_R_term 20 = .ok (.iload_n 1, 1) := by decide +kernel
theorem dR_term_21 : decode b_R_term 21 = .ok (.goto 4, 3) := by decide +kernel
theorem dR_term_24 : decode b_R_term 24 = .ok (.iconst 0, 1) := by decide +kernel
theorem dR_term_25 : decode b_R_term 25 = .ok (.invokevirtual 140, 3) := by decide +kernel
theorem dR_term_28 : decode b_R_term 28 = .ok (.if_icmp .ge 7, 3) := by decide +kernel
theorem dR_term_31 : decode b_R_term 31 = .ok (.iconst 1, 1) := by decide +kernel
theorem dR_term_32 : decode b_R_term 32 = .ok (.goto 4, 3) := by decide +kernel
theorem dR_term_35 : decode b_R_term 35 = .ok (.iconst 0, 1) := by decide +kernel
theorem dR_term_36 : decode b_R_term 36 = .ok (.istore 4, 2) := by decide +kernel
theorem dR_term_38 : decode b_R_term 38 = .ok (.aload_n 0, 1) := by decide +kernel
theorem dR_term_39 : decode b_R_term 39 = .ok (.iload 4, 2) := by decide +kernel
theorem dR_term_41 : decode b_R_term 41 = .ok (.ifCond .ne 7, 3) := by decide +kernel
theorem dR_term_44 : decode b_R_term 44 = .ok (.iconst 1, 1) := by decide +kernel
theorem dR_term_45 : decode b_R_term 45 = .ok (.goto 4, 3) := by decide +kernel
theorem dR_term_48 : decode b_R_term 48 = .ok (.iconst 0, 1) := by decide +kernel
theorem dR_term_49 : decode b_R_term 49 = .ok (.iload 4, 2) := by decide +kernel
theorem dR_term_51 : decode b_R_term 51 = .ok (.ifCond .eq 16, 3) := by decide +kernel
theorem dR_term_54 : decode b_R_term 54 = .ok (.iload_n 3, 1) := by decide +kernel
theorem dR_term_55 : decode b_R_term 55 = .ok (.ifCond .lt 8, 3) := by decide +kernel
theorem dR_term_58 : decode b_R_term 58 = .ok (.iload_n 3, 1) := by decide +kernel
theorem dR_term_59 : decode b_R_term 59 = .ok (.iconst 3, 1) := by decide +kernel
theorem dR_term_60 : decode b_R_term 60 = .ok (.if_icmp .le 7, 3) := by decide +kernel
theorem dR_term_63 : decode b_R_term 63 = .ok (.iconst 1, 1) := by decide +kernel
theorem dR_term_64 : decode b_R_term 64 = .ok (.goto 4, 3) := by decide +kernel
theorem dR_term_67 : decode b_R_term 67 = .ok (.iconst 0, 1) := by decide +kernel
theorem dR_term_68 : decode b_R_term 68 = .ok (.invokevirtual 88, 3) := by decide +kernel
theorem dR_term_71 : decode b_R_term 71 = .ok (.ifCond .eq 5, 3) := by decide +kernel
theorem dR_term_74 : decode b_R_term 74 = .ok (.iconst 0, 1) := by decide +kernel
theorem dR_term_75 : decode b_R_term 75 = .ok (.ireturn, 1) := by decide +kernel
theorem dR_term_76 : decode b_R_term 76 = .ok (.iconst 0, 1) := by decide +kernel
theorem dR_term_77 : decode b_R_term 77 = .ok (.istore 5, 2) := by decide +kernel
theorem dR_term_79 : decode b_R_term 79 = .ok (.iload_n 2, 1) := by decide +kernel
theorem dR_term_80 : decode b_R_term 80 = .ok (.istore 6, 2) := by decide +kernel
theorem dR_term_82 : decode b_R_term 82 = .ok (.iload 6, 2) := by decide +kernel
theorem dR_term_84 : decode b_R_term 84 = .ok (.ifCond .gt 19, 3) := by decide +kernel
theorem dR_term_87 : decode b_R_term 87 = .ok (.aload_n 0, 1) := by decide +kernel
theorem dR_term_88 : decode b_R_term 88 = .ok (.getfield 18, 3) := by decide +kernel
theorem dR_term_91 : decode b_R_term 91 = .ok (.sipush 9139, 3) := by decide +kernel
theorem dR_term_94 : decode b_R_term 94 = .ok (.iload_n 1, 1) := by decide +kernel
theorem dR_term_95 : decode b_R_term 95 = .ok (.imul, 1) := by decide +kernel
theorem dR_term_96 : decode b_R_term 96 = .ok (.iload 5, 2) := by decide +kernel
theorem dR_term_98 : decode b_R_term 98 = .ok (.iadd, 1) := by decide +kernel
theorem dR_term_99 : decode b_R_term 99 = .ok (.iaload, 1) := by decide +kernel
theorem dR_term_100 : decode b_R_term 100 = .ok (.ifCond .ne 36, 3) := by decide +kernel
theorem dR_term_103 : decode b_R_term 103 = .ok (.aload_n 0, 1) := by decide +kernel
theorem dR_term_104 : decode b_R_term 104 = .ok (.getfield 18, 3) := by decide +kernel
theorem dR_term_107 : decode b_R_term 107 = .ok (.sipush 9139, 3) := by decide +kernel
theorem dR_term_110 : decode b_R_term 110 = .ok (.iload_n 1, 1) := by decide +kernel
theorem dR_term_111 : decode b_R_term 111 = .ok (.imul, 1) := by decide +kernel
theorem dR_term_112 : decode b_R_term 112 = .ok (.iload 5, 2) := by decide +kernel
theorem dR_term_114 : decode b_R_term 114 = .ok (.iadd, 1) := by decide +kernel
theorem dR_term_115 : decode b_R_term 115 = .ok (.iaload, 1) := by decide +kernel
theorem dR_term_116 : decode b_R_term 116 = .ok (.ifCond .eq 10, 3) := by decide +kernel
theorem dR_term_119 : decode b_R_term 119 = .ok (.iload 6, 2) := by decide +kernel
theorem dR_term_121 : decode b_R_term 121 = .ok (.iconst 1, 1) := by decide +kernel
theorem dR_term_122 : decode b_R_term 122 = .ok (.isub, 1) := by decide +kernel
theorem dR_term_123 : decode b_R_term 123 = .ok (.goto 5, 3) := by decide +kernel
theorem dR_term_126 : decode b_R_term 126 = .ok (.iload 6, 2) := by decide +kernel
theorem dR_term_128 : decode b_R_term 128 = .ok (.istore 6, 2) := by decide +kernel
theorem dR_term_130 : decode b_R_term 130 = .ok (.iinc 5 1, 3) := by decide +kernel
theorem dR_term_133 : decode b_R_term 133 = .ok (.goto (-51), 3) := by decide +kernel
theorem dR_term_136 : decode b_R_term 136 = .ok (.iload_n 3, 1) := by decide +kernel
theorem dR_term_137 : decode b_R_term 137 = .ok (.ifCond .ne 19, 3) := by decide +kernel
theorem dR_term_140 : decode b_R_term 140 = .ok (.aload_n 0, 1) := by decide +kernel
theorem dR_term_141 : decode b_R_term 141 = .ok (.getfield 18, 3) := by decide +kernel
theorem dR_term_144 : decode b_R_term 144 = .ok (.sipush 9139, 3) := by decide +kernel
theorem dR_term_147 : decode b_R_term 147 = .ok (.iload_n 1, 1) := by decide +kernel
theorem dR_term_148 : decode b_R_term 148 = .ok (.imul, 1) := by decide +kernel
theorem dR_term_149 : decode b_R_term 149 = .ok (.iload 5, 2) := by decide +kernel
theorem dR_term_151 : decode b_R_term 151 = .ok (.iadd, 1) := by decide +kernel
theorem dR_term_152 : decode b_R_term 152 = .ok (.iaload, 1) := by decide +kernel
theorem dR_term_153 : decode b_R_term 153 = .ok (.goto 12, 3) := by decide +kernel
theorem dR_term_156 : decode b_R_term 156 = .ok (.aload_n 0, 1) := by decide +kernel
theorem dR_term_157 : decode b_R_term 157 = .ok (.iload 5, 2) := by decide +kernel
theorem dR_term_159 : decode b_R_term 159 = .ok (.iload_n 3, 1) := by decide +kernel
theorem dR_term_160 : decode b_R_term 160 = .ok (.iconst 1, 1) := by decide +kernel
theorem dR_term_161 : decode b_R_term 161 = .ok (.isub, 1) := by decide +kernel
theorem dR_term_162 : decode b_R_term 162 = .ok (.invokevirtual 58, 3) := by decide +kernel
theorem dR_term_165 : decode b_R_term 165 = .ok (.ireturn, 1) := by decide +kernel
theorem dR_coefficient_0 : decode b_R_coefficient 0 = .ok (.iload_n 1, 1) := by decide +kernel
theorem dR_coefficient_1 : decode b_R_coefficient 1 = .ok (.invokestatic 85, 3) := by decide +kernel
theorem dR_coefficient_4 : decode b_R_coefficient 4 = .ok (.istore 5, 2) := by decide +kernel
theorem dR_coefficient_6 : decode b_R_coefficient 6 = .ok (.aload_n 0, 1) := by decide +kernel
theorem dR_coefficient_7 : decode b_R_coefficient 7 = .ok (.iload 5, 2) := by decide +kernel
theorem dR_coefficient_9 : decode b_R_coefficient 9 = .ok (.ifCond .ne 7, 3) := by decide +kernel
theorem dR_coefficient_12 : decode b_R_coefficient 12 = .ok (.iconst 1, 1) := by decide +kernel
theorem dR_coefficient_13 : decode b_R_coefficient 13 = .ok (.goto 4, 3) := by decide +kernel
theorem dR_coefficient_16 : decode b_R_coefficient 16 = .ok (.iconst 0, 1) := by decide +kernel
theorem dR_coefficient_17 : decode b_R_coefficient 17 = .ok (.iload 5, 2) := by decide +kernel
theorem dR_coefficient_19 : decode b_R_coefficient 19 = .ok (.ifCond .eq 20, 3) := by decide +kernel
theorem dR_coefficient_22 : decode b_R_coefficient 22 = .ok (.iload_n 2, 1) := by decide +kernel
theorem dR_coefficient_23 : decode b_R_coefficient 23 = .ok (.ifCond .lt 12, 3) := by decide +kernel
theorem dR_coefficient_26 : decode b_R_coefficient 26 = .ok (.iload_n 3, 1) := by decide +kernel
theorem dR_coefficient_27 : decode b_R_coefficient 27 = .ok (.ifCond .lt 8, 3) := by decide +kernel
theorem dR_coefficient_30 : decode b_R_coefficient 30 = .ok (.iload 4, 2) := by decide +kernel
theorem dR_coefficient_32 : decode b_R_coefficient 32 = .ok (.ifCond .ge 7, 3) := by decide +kernel
theorem dR_coefficient_35 : decode b_R_coefficient 35 = .ok (.iconst 1, 1) := by decide +kernel
theorem dR_coefficient_36 : decode b_R_coefficient 36 = .ok (.goto 4, 3) := by decide +kernel
theorem dR_coefficient_39 : decode b_R_coefficient 39 = .ok (.iconst 0, 1) := by decide +kernel
theorem dR_coefficient_40 : decode b_R_coefficient 40 = .ok (.invokevirtual 88, 3) := by decide +kernel
theorem dR_coefficient_43 : decode b_R_coefficient 43 = .ok (.ifCond .eq 5, 3) := by decide +kernel
theorem dR_coefficient_46 : decode b_R_coefficient 46 = .ok (.iconst 0, 1) := by decide +kernel
theorem dR_coefficient_47 : decode b_R_coefficient 47 = .ok (.ireturn, 1) := by decide +kernel
theorem dR_coefficient_48 : decode b_R_coefficient 48 = .ok (.iload_n 2, 1) := by decide +kernel
theorem dR_coefficient_49 : decode b_R_coefficient 49 = .ok (.i2l, 1) := by decide +kernel
theorem dR_coefficient_50 : decode b_R_coefficient 50 = .ok (.iload_n 3, 1) := by decide +kernel
theorem dR_coefficient_51 : decode b_R_coefficient 51 = .ok (.i2l, 1) := by decide +kernel
theorem dR_coefficient_52 : decode b_R_coefficient 52 = .ok (.ladd, 1) := by decide +kernel
theorem dR_coefficient_53 : decode b_R_coefficient 53 = .ok (.iload 4, 2) := by decide +kernel
theorem dR_coefficient_55 : decode b_R_coefficient 55 = .ok (.i2l, 1) := by decide +kernel
theorem dR_coefficient_56 : decode b_R_coefficient 56 = .ok (.ladd, 1) := by decide +kernel
theorem dR_coefficient_57 : decode b_R_coefficient 57 = .ok (.ldc2_w 143, 3) := by decide +kernel
theorem dR_coefficient_60 : decode b_R_coefficient 60 = .ok (.lcmp, 1) := by decide +kernel
theorem dR_coefficient_61 : decode b_R_coefficient 61 = .ok (.ifCond .le 7, 3) := by decide +kernel
theorem dR_coefficient_64 : decode b_R_coefficient 64 = .ok (.iconst 0, 1) := by decide +kernel
theorem dR_coefficient_65 : decode b_R_coefficient 65 = .ok (.goto 22, 3) := by decide +kernel
theorem dR_coefficient_68 : decode b_R_coefficient 68 = .ok (.aload_n 0, 1) := by decide +kernel
theorem dR_coefficient_69 : decode b_R_coefficient 69 = .ok (.getfield 18, 3) := by decide +kernel
theorem dR_coefficient_72 : decode b_R_coefficient 72 = .ok (.sipush 9139, 3) := by decide +kernel
theorem dR_coefficient_75 : decode b_R_coefficient 75 = .ok (.iload_n 1, 1) := by decide +kernel
theorem dR_coefficient_76 : decode b_R_coefficient 76 = .ok (.imul, 1) := by decide +kernel
theorem dR_coefficient_77 : decode b_R_coefficient 77 = .ok (.aload_n 0, 1) := by decide +kernel
theorem dR_coefficient_78 : decode b_R_coefficient 78 = .ok (.iload_n 2, 1) := by decide +kernel
theorem dR_coefficient_79 : decode b_R_coefficient 79 = .ok (.iload_n 3, 1) := by decide +kernel
theorem dR_coefficient_80 : decode b_R_coefficient 80 = .ok (.iload 4, 2) := by decide +kernel
theorem dR_coefficient_82 : decode b_R_coefficient 82 = .ok (.invokevirtual 62, 3) := by decide +kernel
theorem dR_coefficient_85 : decode b_R_coefficient 85 = .ok (.iadd, 1) := by decide +kernel
theorem dR_coefficient_86 : decode b_R_coefficient 86 = .ok (.iaload, 1) := by decide +kernel
theorem dR_coefficient_87 : decode b_R_coefficient 87 = .ok (.ireturn, 1) := by decide +kernel
theorem dR_degree_0 : decode b_R_degree 0 = .ok (.iload_n 1, 1) := by decide +kernel
theorem dR_degree_1 : decode b_R_degree 1 = .ok (.invokestatic 85, 3) := by decide +kernel
theorem dR_degree_4 : decode b_R_degree 4 = .ok (.istore_n 3, 1) := by decide +kernel
theorem dR_degree_5 : decode b_R_degree 5 = .ok (.aload_n 0, 1) := by decide +kernel
theorem dR_degree_6 : decode b_R_degree 6 = .ok (.iload_n 3, 1) := by decide +kernel
theorem dR_degree_7 : decode b_R_degree 7 = .ok (.ifCond .ne 7, 3) := by decide +kernel
theorem dR_degree_10 : decode b_R_degree 10 = .ok (.iconst 1, 1) := by decide +kernel
theorem dR_degree_11 : decode b_R_degree 11 = .ok (.goto 4, 3) := by decide +kernel
theorem dR_degree_14 : decode b_R_degree 14 = .ok (.iconst 0, 1) := by decide +kernel
theorem dR_degree_15 : decode b_R_degree 15 = .ok (.iload_n 3, 1) := by decide +kernel
theorem dR_degree_16 : decode b_R_degree 16 = .ok (.ifCond .eq 14, 3) := by decide +kernel
theorem dR_degree_19 : decode b_R_degree 19 = .ok (.iload_n 2, 1) := by decide +kernel
theorem dR_degree_20 : decode b_R_degree 20 = .ok (.invokestatic 96, 3) := by decide +kernel
theorem dR_degree_23 : decode b_R_degree 23 = .ok (.ifCond .ne 7, 3) := by decide +kernel
theorem dR_degree_26 : decode b_R_degree 26 = .ok (.iconst 1, 1) := by decide +kernel
theorem dR_degree_27 : decode b_R_degree 27 = .ok (.goto 4, 3) := by decide +kernel
theorem dR_degree_30 : decode b_R_degree 30 = .ok (.iconst 0, 1) := by decide +kernel
theorem dR_degree_31 : decode b_R_degree 31 = .ok (.invokevirtual 88, 3) := by decide +kernel
theorem dR_degree_34 : decode b_R_degree 34 = .ok (.ifCond .eq 5, 3) := by decide +kernel
theorem dR_degree_37 : decode b_R_degree 37 = .ok (.iconst 0, 1) := by decide +kernel
theorem dR_degree_38 : decode b_R_degree 38 = .ok (.ireturn, 1) := by decide +kernel
theorem dR_degree_39 : decode b_R_degree 39 = .ok (.aload_n 0, 1) := by decide +kernel
theorem dR_degree_40 : decode b_R_degree 40 = .ok (.iload_n 1, 1) := by decide +kernel
theorem dR_degree_41 : decode b_R_degree 41 = .ok (.aload_n 0, 1) := by decide +kernel
theorem dR_degree_42 : decode b_R_degree 42 = .ok (.getfield 21, 3) := by decide +kernel
theorem dR_degree_45 : decode b_R_degree 45 = .ok (.invokevirtual 99, 3) := by decide +kernel
theorem dR_degree_48 : decode b_R_degree 48 = .ok (.aload_n 0, 1) := by decide +kernel
theorem dR_degree_49 : decode b_R_degree 49 = .ok (.aload_n 0, 1) := by decide +kernel
theorem dR_degree_50 : decode b_R_degree 50 = .ok (.getfield 21, 3) := by decide +kernel
theorem dR_degree_53 : decode b_R_degree 53 = .ok (.iload_n 2, 1) := by decide +kernel
theorem dR_degree_54 : decode b_R_degree 54 = .ok (.invokevirtual 102, 3) := by decide +kernel
theorem dR_degree_57 : decode b_R_degree 57 = .ok (.ireturn, 1) := by decide +kernel
theorem dR_isSame_0 : decode b_R_isSame 0 = .ok (.aload_n 0, 1) := by decide +kernel
theorem dR_isSame_1 : decode b_R_isSame 1 = .ok (.iload_n 1, 1) := by decide +kernel
theorem dR_isSame_2 : decode b_R_isSame 2 = .ok (.invokestatic 85, 3) := by decide +kernel
theorem dR_isSame_5 : decode b_R_isSame 5 = .ok (.ifCond .eq 10, 3) := by decide +kernel
theorem dR_isSame_8 : decode b_R_isSame 8 = .ok (.iload_n 2, 1) := by decide +kernel
theorem dR_isSame_9 : decode b_R_isSame 9 = .ok (.invokestatic 85, 3) := by decide +kernel
theorem dR_isSame_12 : decode b_R_isSame 12 = .ok (.ifCond .ne 7, 3) := by decide +kernel
theorem dR_isSame_15 : decode b_R_isSame 15 = .ok (.iconst 1, 1) := by decide +kernel
theorem dR_isSame_16 : decode b_R_isSame 16 = .ok (.goto 4, 3) := by decide +kernel
theorem dR_isSame_19 : decode b_R_isSame 19 = .ok (.iconst 0, 1) := by decide +kernel
theorem dR_isSame_20 : decode b_R_isSame 20 = .ok (.iconst 0, 1) := by decide +kernel
theorem dR_isSame_21 : decode b_R_isSame 21 = .ok (.invokevirtual 88, 3) := by decide +kernel
theorem dR_isSame_24 : decode b_R_isSame 24 = .ok (.ifCond .eq 5, 3) := by decide +kernel
theorem dR_isSame_27 : decode b_R_isSame 27 = .ok (.iconst 0, 1) := by decide +kernel
theorem dR_isSame_28 : decode b_R_isSame 28 = .ok (.ireturn, 1) := by decide +kernel
theorem dR_isSame_29 : decode b_R_isSame 29 = .ok (.iconst 1, 1) := by decide +kernel
theorem dR_isSame_30 : decode b_R_isSame 30 = .ok (.istore_n 3, 1) := by decide +kernel
theorem dR_isSame_31 : decode b_R_isSame 31 = .ok (.iconst 0, 1) := by decide +kernel
theorem dR_isSame_32 : decode b_R_isSame 32 = .ok (.istore 4, 2) := by decide +kernel
theorem dR_isSame_34 : decode b_R_isSame 34 = .ok (.iload 4, 2) := by decide +kernel
theorem dR_isSame_36 : decode b_R_isSame 36 = .ok (.sipush 9139, 3) := by decide +kernel
theorem dR_isSame_39 : decode b_R_isSame 39 = .ok (.if_icmp .ge 48, 3) := by decide +kernel
theorem dR_isSame_42 : decode b_R_isSame 42 = .ok (.iload_n 3, 1) := by decide +kernel
theorem dR_isSame_43 : decode b_R_isSame 43 = .ok (.ifCond .eq 36, 3) := by decide +kernel
theorem dR_isSame_46 : decode b_R_isSame 46 = .ok (.aload_n 0, 1) := by decide +kernel
theorem dR_isSame_47 : decode b_R_isSame 47 = .ok (.getfield 18, 3) := by decide +kernel
theorem dR_isSame_50 : decode b_R_isSame 50 = .ok (.sipush 9139, 3) := by decide +kernel
theorem dR_isSame_53 : decode b_R_isSame 53 = .ok (.iload_n 1, 1) := by decide +kernel
theorem dR_isSame_54 : decode b_R_isSame 54 = .ok (.imul, 1) := by decide +kernel
theorem dR_isSame_55 : decode b_R_isSame 55 = .ok (.iload 4, 2) := by decide +kernel
theorem dR_isSame_57 : decode b_R_isSame 57 = .ok (.iadd, 1) := by decide +kernel
theorem dR_isSame_58 : decode b_R_isSame 58 = .ok (.iaload, 1) := by decide +kernel
theorem dR_isSame_59 : decode b_R_isSame 59 = .ok (.aload_n 0, 1) := by decide +kernel
theorem dR_isSame_60 : decode b_R_isSame 60 = .ok (.getfield 18, 3) := by decide +kernel
theorem dR_isSame_63 : decode b_R_isSame 63 = .ok (.sipush 9139, 3) := by decide +kernel
theorem dR_isSame_66 : decode b_R_isSame 66 = .ok (.iload_n 2, 1) := by decide +kernel
theorem dR_isSame_67 : decode b_R_isSame 67 = .ok (.imul, 1) := by decide +kernel
theorem dR_isSame_68 : decode b_R_isSame 68 = .ok (.iload 4, 2) := by decide +kernel
theorem dR_isSame_70 : decode b_R_isSame 70 = .ok (.iadd, 1) := by decide +kernel
theorem dR_isSame_71 : decode b_R_isSame 71 = .ok (.iaload, 1) := by decide +kernel
theorem dR_isSame_72 : decode b_R_isSame 72 = .ok (.if_icmp .ne 7, 3) := by decide +kernel
theorem dR_isSame_75 : decode b_R_isSame 75 = .ok (.iconst 1, 1) := by decide +kernel
theorem dR_isSame_76 : decode b_R_isSame 76 = .ok (.goto 4, 3) := by decide +kernel
theorem dR_isSame_79 : decode b_R_isSame 79 = .ok (.iconst 0, 1) := by decide +kernel
theorem dR_isSame_80 : decode b_R_isSame 80 = .ok (.istore_n 3, 1) := by decide +kernel
theorem dR_isSame_81 : decode b_R_isSame 81 = .ok (.iinc 4 1, 3) := by decide +kernel
theorem dR_isSame_84 : decode b_R_isSame 84 = .ok (.goto (-50), 3) := by decide +kernel
theorem dR_isSame_87 : decode b_R_isSame 87 = .ok (.iload_n 3, 1) := by decide +kernel
theorem dR_isSame_88 : decode b_R_isSame 88 = .ok (.ireturn, 1) := by decide +kernel
theorem dR_count_0 : decode b_R_count 0 = .ok (.aload_n 0, 1) := by decide +kernel
theorem dR_count_1 : decode b_R_count 1 = .ok (.iconst 0, 1) := by decide +kernel
theorem dR_count_2 : decode b_R_count 2 = .ok (.putfield 55, 3) := by decide +kernel
theorem dR_count_5 : decode b_R_count 5 = .ok (.iconst 0, 1) := by decide +kernel
theorem dR_count_6 : decode b_R_count 6 = .ok (.istore_n 2, 1) := by decide +kernel
theorem dR_count_7 : decode b_R_count 7 = .ok (.iload_n 1, 1) := by decide +kernel
theorem dR_count_8 : decode b_R_count 8 = .ok (.tableswitch 171 0 4 #[36, 41, 65, 97, 166], 36) := by decide +kernel
theorem dR_count_44 : decode b_R_count 44 = .ok (.aload_n 0, 1) := by decide +kernel
theorem dR_count_45 : decode b_R_count 45 = .ok (.getfield 51, 3) := by decide +kernel
theorem dR_count_48 : decode b_R_count 48 = .ok (.ireturn, 1) := by decide +kernel
theorem dR_count_49 : decode b_R_count 49 = .ok (.iconst 0, 1) := by decide +kernel
theorem dR_count_50 : decode b_R_count 50 = .ok (.istore_n 3, 1) := by decide +kernel
theorem dR_count_51 : decode b_R_count 51 = .ok (.iload_n 3, 1) := by decide +kernel
theorem dR_count_52 : decode b_R_count 52 = .ok (.bipush 12, 2) := by decide +kernel
theorem dR_count_54 : decode b_R_count 54 = .ok (.if_icmp .ge 17, 3) := by decide +kernel
theorem dR_count_57 : decode b_R_count 57 = .ok (.iload_n 2, 1) := by decide +kernel
theorem dR_count_58 : decode b_R_count 58 = .ok (.aload_n 0, 1) := by decide +kernel
theorem dR_count_59 : decode b_R_count 59 = .ok (.iload_n 3, 1) := by decide +kernel
theorem dR_count_60 : decode b_R_count 60 = .ok (.invokevirtual 140, 3) := by decide +kernel
theorem dR_count_63 : decode b_R_count 63 = .ok (.iadd, 1) := by decide +kernel
theorem dR_count_64 : decode b_R_count 64 = .ok (.istore_n 2, 1) := by decide +kernel
theorem dR_count_65 : decode b_R_count 65 = .ok (.iinc 3 1, 3) := by decide +kernel
theorem dR_count_68 : decode b_R_count 68 = .ok (.goto (-17), 3) := by decide +kernel
theorem dR_count_71 : decode b_R_count 71 = .ok (.iload_n 2, 1) := by decide +kernel
theorem dR_count_72 : decode b_R_count 72 = .ok (.ireturn, 1) := by decide +kernel
theorem dR_count_73 : decode b_R_count 73 = .ok (.iconst 0, 1) := by decide +kernel
theorem dR_count_74 : decode b_R_count 74 = .ok (.istore_n 3, 1) := by decide +kernel
theorem dR_count_75 : decode b_R_count 75 = .ok (.iload_n 3, 1) := by decide +kernel
theorem dR_count_76 : decode b_R_count 76 = .ok (.bipush 12, 2) := by decide +kernel
theorem dR_count_78 : decode b_R_count 78 = .ok (.if_icmp .ge 25, 3) := by decide +kernel
theorem dR_count_81 : decode b_R_count 81 = .ok (.iload_n 2, 1) := by decide +kernel
theorem dR_count_82 : decode b_R_count 82 = .ok (.aload_n 0, 1) := by decide +kernel
theorem dR_count_83 : decode b_R_count 83 = .ok (.iload_n 3, 1) := by decide +kernel
theorem dR_count_84 : decode b_R_count 84 = .ok (.invokevirtual 140, 3) := by decide +kernel
theorem dR_count_87 : decode b_R_count 87 = .ok (.ifCond .ne 7, 3) := by decide +kernel
theorem dR_count_90 : decode b_R_count 90 = .ok (.iconst 1, 1) := by decide +kernel
theorem dR_count_91 : decode b_R_count 91 = .ok (.goto 4, 3) := by decide +kernel
theorem dR_count_94 : decode b_R_count 94 = .ok (.iconst 0, 1) := by decide +kernel
theorem dR_count_95 : decode b_R_count 95 = .ok (.iadd, 1) := by decide +kernel
theorem dR_count_96 : decode b_R_count 96 = .ok (.istore_n 2, 1) := by decide +kernel
theorem dR_count_97 : decode b_R_count 97 = .ok (.iinc 3 1, 3) := by decide +kernel
theorem dR_count_100 : decode b_R_count 100 = .ok (.goto (-25), 3) := by decide +kernel
theorem dR_count_103 : decode b_R_count 103 = .ok (.iload_n 2, 1) := by decide +kernel
theorem dR_count_104 : decode b_R_count 104 = .ok (.ireturn, 1) := by decide +kernel
theorem dR_count_105 : decode b_R_count 105 = .ok (.iconst 0, 1) := by decide +kernel
theorem dR_count_106 : decode b_R_count 106 = .ok (.istore_n 3, 1) := by decide +kernel
theorem dR_count_107 : decode b_R_count 107 = .ok (.iload_n 3, 1) := by decide +kernel
theorem dR_count_108 : decode b_R_count 108 = .ok (.bipush 12, 2) := by decide +kernel
theorem dR_count_110 : decode b_R_count 110 = .ok (.if_icmp .ge 62, 3) := by decide +kernel
theorem dR_count_113 : decode b_R_count 113 = .ok (.aload_n 0, 1) := by decide +kernel
theorem dR_count_114 : decode b_R_count 114 = .ok (.iload_n 3, 1) := by decide +kernel
theorem dR_count_115 : decode b_R_count 115 = .ok (.aload_n 0, 1) := by decide +kernel
theorem dR_count_116 : decode b_R_count 116 = .ok (.getfield 21, 3) := by decide +kernel
theorem dR_count_119 : decode b_R_count 119 = .ok (.invokevirtual 99, 3) := by decide +kernel
theorem dR_count_122 : decode b_R_count 122 = .ok (.iconst 0, 1) := by decide +kernel
theorem dR_count_123 : decode b_R_count 123 = .ok (.istore 4, 2) := by decide +kernel
theorem dR_count_125 : decode b_R_count 125 = .ok (.iload 4, 2) := by decide +kernel
theorem dR_count_127 : decode b_R_count 127 = .ok (.iconst 3, 1) := by decide +kernel
theorem dR_count_128 : decode b_R_count 128 = .ok (.if_icmp .ge 38, 3) := by decide +kernel
theorem dR_count_131 : decode b_R_count 131 = .ok (.aload_n 0, 1) := by decide +kernel
theorem dR_count_132 : decode b_R_count 132 = .ok (.aload_n 0, 1) := by decide +kernel
theorem dR_count_133 : decode b_R_count 133 = .ok (.getfield 21, 3) := by decide +kernel
theorem dR_count_136 : decode b_R_count 136 = .ok (.iload 4, 2) := by decide +kernel
theorem dR_count_138 : decode b_R_count 138 = .ok (.invokevirtual 102, 3) := by decide +kernel
theorem dR_count_141 : decode b_R_count 141 = .ok (.iload_n 2, 1) := by decide +kernel
theorem dR_count_142 : decode b_R_count 142 = .ok (.if_icmp .le 16, 3) := by decide +kernel
theorem dR_count_145 : decode b_R_count 145 = .ok (.aload_n 0, 1) := by decide +kernel
theorem dR_count_146 : decode b_R_count 146 = .ok (.aload_n 0, 1) := by decide +kernel
theorem dR_count_147 : decode b_R_count 147 = .ok (.getfield 21, 3) := by decide +kernel
theorem dR_count_150 : decode b_R_count 150 = .ok (.iload 4, 2) := by decide +kernel
theorem dR_count_152 : decode b_R_count 152 = .ok (.invokevirtual 102, 3) := by decide +kernel
theorem dR_count_155 : decode b_R_count 155 = .ok (.goto 4, 3) := by decide +kernel
theorem dR_count_158 : decode b_R_count 158 = .ok (.iload_n 2, 1) := by decide +kernel
theorem dR_count_159 : decode b_R_count 159 = .ok (.istore_n 2, 1) := by decide +kernel
theorem dR_count_160 : decode b_R_count 160 = .ok (.iinc 4 1, 3) := by decide +kernel
theorem dR_count_163 : decode b_R_count 163 = .ok (.goto (-38), 3) := by decide +kernel
theorem dR_count_166 : decode b_R_count 166 = .ok (.iinc 3 1, 3) := by decide +kernel
theorem dR_count_169 : decode b_R_count 169 = .ok (.goto (-62), 3) := by decide +kernel
theorem dR_count_172 : decode b_R_count 172 = .ok (.iload_n 2, 1) := by decide +kernel
theorem dR_count_173 : decode b_R_count 173 = .ok (.ireturn, 1) := by decide +kernel
theorem dR_count_174 : decode b_R_count 174 = .ok (.aload_n 0, 1) := by decide +kernel
theorem dR_count_175 : decode b_R_count 175 = .ok (.getfield 82, 3) := by decide +kernel
theorem dR_count_178 : decode b_R_count 178 = .ok (.ireturn, 1) := by decide +kernel
theorem dR_count_179 : decode b_R_count 179 = .ok (.iconst (-1), 1) := by decide +kernel
theorem dR_count_180 : decode b_R_count 180 = .ok (.ireturn, 1) := by decide +kernel
