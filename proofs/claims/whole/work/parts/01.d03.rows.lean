theorem dX10_jump_9 : decode cX10_jump 9 = .ok (.ishl, 1) := by decide +kernel
theorem dX10_jump_10 : decode cX10_jump 10 = .ok (.aload_n 0, 1) := by decide +kernel
theorem dX10_jump_11 : decode cX10_jump 11 = .ok (.getfield 204, 3) := by decide +kernel
theorem dX10_jump_14 : decode cX10_jump 14 = .ok (.ldc_w 289, 3) := by decide +kernel
theorem dX10_jump_17 : decode cX10_jump 17 = .ok (.iand, 1) := by decide +kernel
theorem dX10_jump_18 : decode cX10_jump 18 = .ok (.ior, 1) := by decide +kernel
theorem dX10_jump_19 : decode cX10_jump 19 = .ok (.aload_n 0, 1) := by decide +kernel
theorem dX10_jump_20 : decode cX10_jump 20 = .ok (.getfield 204, 3) := by decide +kernel
theorem dX10_jump_23 : decode cX10_jump 23 = .ok (.bipush 9, 2) := by decide +kernel
theorem dX10_jump_25 : decode cX10_jump 25 = .ok (.ishr, 1) := by decide +kernel
theorem dX10_jump_26 : decode cX10_jump 26 = .ok (.sipush 2048, 3) := by decide +kernel
theorem dX10_jump_29 : decode cX10_jump 29 = .ok (.iand, 1) := by decide +kernel
theorem dX10_jump_30 : decode cX10_jump 30 = .ok (.ior, 1) := by decide +kernel
theorem dX10_jump_31 : decode cX10_jump 31 = .ok (.aload_n 0, 1) := by decide +kernel
theorem dX10_jump_32 : decode cX10_jump 32 = .ok (.getfield 204, 3) := by decide +kernel
theorem dX10_jump_35 : decode cX10_jump 35 = .ok (.bipush 20, 2) := by decide +kernel
theorem dX10_jump_37 : decode cX10_jump 37 = .ok (.ishr, 1) := by decide +kernel
theorem dX10_jump_38 : decode cX10_jump 38 = .ok (.sipush 2046, 3) := by decide +kernel
theorem dX10_jump_41 : decode cX10_jump 41 = .ok (.iand, 1) := by decide +kernel
theorem dX10_jump_42 : decode cX10_jump 42 = .ok (.ior, 1) := by decide +kernel
theorem dX10_jump_43 : decode cX10_jump 43 = .ok (.i2l, 1) := by decide +kernel
theorem dX10_jump_44 : decode cX10_jump 44 = .ok (.lreturn, 1) := by decide +kernel
theorem dX10_jumps_0 : decode cX10_jumps 0 = .ok (.lload_n 1, 1) := by decide +kernel
theorem dX10_jumps_1 : decode cX10_jumps 1 = .ok (.ldc2_w 213, 3) := by decide +kernel
theorem dX10_jumps_4 : decode cX10_jumps 4 = .ok (.land, 1) := by decide +kernel
theorem dX10_jumps_5 : decode cX10_jumps 5 = .ok (.lconst 0, 1) := by decide +kernel
theorem dX10_jumps_6 : decode cX10_jumps 6 = .ok (.lcmp, 1) := by decide +kernel
theorem dX10_jumps_7 : decode cX10_jumps 7 = .ok (.ifCond .eq 10, 3) := by decide +kernel
theorem dX10_jumps_10 : decode cX10_jumps 10 = .ok (.aload_n 0, 1) := by decide +kernel
theorem dX10_jumps_11 : decode cX10_jumps 11 = .ok (.iconst 0, 1) := by decide +kernel
theorem dX10_jumps_12 : decode cX10_jumps 12 = .ok (.lload_n 1, 1) := by decide +kernel
theorem dX10_jumps_13 : decode cX10_jumps 13 = .ok (.invokevirtual 209, 3) := by decide +kernel
theorem dX10_jumps_16 : decode cX10_jumps 16 = .ok (.ireturn, 1) := by decide +kernel
theorem dX10_jumps_17 : decode cX10_jumps 17 = .ok (.aload_n 0, 1) := by decide +kernel
theorem dX10_jumps_18 : decode cX10_jumps 18 = .ok (.aload_n 0, 1) := by decide +kernel
theorem dX10_jumps_19 : decode cX10_jumps 19 = .ok (.getfield 223, 3) := by decide +kernel
theorem dX10_jumps_22 : decode cX10_jumps 22 = .ok (.lload_n 3, 1) := by decide +kernel
theorem dX10_jumps_23 : decode cX10_jumps 23 = .ok (.invokevirtual 285, 3) := by decide +kernel
theorem dX10_jumps_26 : decode cX10_jumps 26 = .ok (.aload_n 0, 1) := by decide +kernel
theorem dX10_jumps_27 : decode cX10_jumps 27 = .ok (.getfield 18, 3) := by decide +kernel
theorem dX10_jumps_30 : decode cX10_jumps 30 = .ok (.aload_n 0, 1) := by decide +kernel
theorem dX10_jumps_31 : decode cX10_jumps 31 = .ok (.invokevirtual 166, 3) := by decide +kernel
theorem dX10_jumps_34 : decode cX10_jumps 34 = .ok (.lload_n 1, 1) := by decide +kernel
theorem dX10_jumps_35 : decode cX10_jumps 35 = .ok (.lastore, 1) := by decide +kernel
theorem dX10_jumps_36 : decode cX10_jumps 36 = .ok (.iconst (-1), 1) := by decide +kernel
theorem dX10_jumps_37 : decode cX10_jumps 37 = .ok (.ireturn, 1) := by decide +kernel
theorem dX10_isBelow_0 : decode cX10_isBelow 0 = .ok (.lload_n 0, 1) := by decide +kernel
theorem dX10_isBelow_1 : decode cX10_isBelow 1 = .ok (.ldc2_w 290, 3) := by decide +kernel
theorem dX10_isBelow_4 : decode cX10_isBelow 4 = .ok (.ladd, 1) := by decide +kernel
theorem dX10_isBelow_5 : decode cX10_isBelow 5 = .ok (.lload_n 2, 1) := by decide +kernel
theorem dX10_isBelow_6 : decode cX10_isBelow 6 = .ok (.ldc2_w 290, 3) := by decide +kernel
theorem dX10_isBelow_9 : decode cX10_isBelow 9 = .ok (.ladd, 1) := by decide +kernel
theorem dX10_isBelow_10 : decode cX10_isBelow 10 = .ok (.lcmp, 1) := by decide +kernel
theorem dX10_isBelow_11 : decode cX10_isBelow 11 = .ok (.ifCond .ge 7, 3) := by decide +kernel
theorem dX10_isBelow_14 : decode cX10_isBelow 14 = .ok (.iconst 1, 1) := by decide +kernel
theorem dX10_isBelow_15 : decode cX10_isBelow 15 = .ok (.goto 4, 3) := by decide +kernel
theorem dX10_isBelow_18 : decode cX10_isBelow 18 = .ok (.iconst 0, 1) := by decide +kernel
theorem dX10_isBelow_19 : decode cX10_isBelow 19 = .ok (.ireturn, 1) := by decide +kernel
theorem dX10_branches_0 : decode cX10_branches 0 = .ok (.aload_n 0, 1) := by decide +kernel
theorem dX10_branches_1 : decode cX10_branches 1 = .ok (.aload_n 0, 1) := by decide +kernel
theorem dX10_branches_2 : decode cX10_branches 2 = .ok (.getfield 229, 3) := by decide +kernel
theorem dX10_branches_5 : decode cX10_branches 5 = .ok (.invokevirtual 253, 3) := by decide +kernel
theorem dX10_branches_8 : decode cX10_branches 8 = .ok (.lstore_n 3, 1) := by decide +kernel
theorem dX10_branches_9 : decode cX10_branches 9 = .ok (.aload_n 0, 1) := by decide +kernel
theorem dX10_branches_10 : decode cX10_branches 10 = .ok (.aload_n 0, 1) := by decide +kernel
theorem dX10_branches_11 : decode cX10_branches 11 = .ok (.getfield 232, 3) := by decide +kernel
theorem dX10_branches_14 : decode cX10_branches 14 = .ok (.invokevirtual 253, 3) := by decide +kernel
theorem dX10_branches_17 : decode cX10_branches 17 = .ok (.lstore 5, 2) := by decide +kernel
theorem dX10_branches_19 : decode cX10_branches 19 = .ok (.aload_n 0, 1) := by decide +kernel
theorem dX10_branches_20 : decode cX10_branches 20 = .ok (.getfield 226, 3) := by decide +kernel
theorem dX10_branches_23 : decode cX10_branches 23 = .ok (.tableswitch 143 0 7 #[45, 62, 143, 143, 79, 96, 113, 124], 45) := by decide +kernel
theorem dX10_branches_68 : decode cX10_branches 68 = .ok (.lload_n 3, 1) := by decide +kernel
theorem dX10_branches_69 : decode cX10_branches 69 = .ok (.lload 5, 2) := by decide +kernel
theorem dX10_branches_71 : decode cX10_branches 71 = .ok (.lcmp, 1) := by decide +kernel
theorem dX10_branches_72 : decode cX10_branches 72 = .ok (.ifCond .ne 7, 3) := by decide +kernel
theorem dX10_branches_75 : decode cX10_branches 75 = .ok (.iconst 1, 1) := by decide +kernel
theorem dX10_branches_76 : decode cX10_branches 76 = .ok (.goto 4, 3) := by decide +kernel
theorem dX10_branches_79 : decode cX10_branches 79 = .ok (.iconst 0, 1) := by decide +kernel
theorem dX10_branches_80 : decode cX10_branches 80 = .ok (.istore 7, 2) := by decide +kernel
theorem dX10_branches_82 : decode cX10_branches 82 = .ok (.goto 89, 3) := by decide +kernel
theorem dX10_branches_85 : decode cX10_branches 85 = .ok (.lload_n 3, 1) := by decide +kernel
theorem dX10_branches_86 : decode cX10_branches 86 = .ok (.lload 5, 2) := by decide +kernel
theorem dX10_branches_88 : decode cX10_branches 88 = .ok (.lcmp, 1) := by decide +kernel
theorem dX10_branches_89 : decode cX10_branches 89 = .ok (.ifCond .eq 7, 3) := by decide +kernel
theorem dX10_branches_92 : decode cX10_branches 92 = .ok (.iconst 1, 1) := by decide +kernel
theorem dX10_branches_93 : decode cX10_branches 93 = .ok (.goto 4, 3) := by decide +kernel
theorem dX10_branches_96 : decode cX10_branches 96 = .ok (.iconst 0, 1) := by decide +kernel
theorem dX10_branches_97 : decode cX10_branches 97 = .ok (.istore 7, 2) := by decide +kernel
theorem dX10_branches_99 : decode cX10_branches 99 = .ok (.goto 72, 3) := by decide +kernel
theorem dX10_branches_102 : decode cX10_branches 102 = .ok (.lload_n 3, 1) := by decide +kernel
theorem dX10_branches_103 : decode cX10_branches 103 = .ok (.lload 5, 2) := by decide +kernel
theorem dX10_branches_105 : decode cX10_branches 105 = .ok (.lcmp, 1) := by decide +kernel
theorem dX10_branches_106 : decode cX10_branches 106 = .ok (.ifCond .ge 7, 3) := by decide +kernel
theorem dX10_branches_109 : decode cX10_branches 109 = .ok (.iconst 1, 1) := by decide +kernel
theorem dX10_branches_110 : decode cX10_branches 110 = .ok (.goto 4, 3) := by decide +kernel
theorem dX10_branches_113 : decode cX10_branches 113 = .ok (.iconst 0, 1) := by decide +kernel
theorem dX10_branches_114 : decode cX10_branches 114 = .ok (.istore 7, 2) := by decide +kernel
theorem dX10_branches_116 : decode cX10_branches 116 = .ok (.goto 55, 3) := by decide +kernel
theorem dX10_branches_119 : decode cX10_branches 119 = .ok (.lload_n 3, 1) := by decide +kernel
theorem dX10_branches_120 : decode cX10_branches 120 = .ok (.lload 5, 2) := by decide +kernel
theorem dX10_branches_122 : decode cX10_branches 122 = .ok (.lcmp, 1) := by decide +kernel
theorem dX10_branches_123 : decode cX10_branches 123 = .ok (.ifCond .lt 7, 3) := by decide +kernel
theorem dX10_branches_126 : decode cX10_branches 126 = .ok (.iconst 1, 1) := by decide +kernel
theorem dX10_branches_127 : decode cX10_branches 127 = .ok (.goto 4, 3) := by decide +kernel
theorem dX10_branches_130 : decode cX10_branches 130 = .ok (.iconst 0, 1) := by decide +kernel
theorem dX10_branches_131 : decode cX10_branches 131 = .ok (.istore 7, 2) := by decide +kernel
theorem dX10_branches_133 : decode cX10_branches 133 = .ok (.goto 38, 3) := by decide +kernel
theorem dX10_branches_136 : decode cX10_branches 136 = .ok (.lload_n 3, 1) := by decide +kernel
theorem dX10_branches_137 : decode cX10_branches 137 = .ok (.lload 5, 2) := by decide +kernel
theorem dX10_branches_139 : decode cX10_branches 139 = .ok (.invokestatic 292, 3) := by decide +kernel
theorem dX10_branches_142 : decode cX10_branches 142 = .ok (.istore 7, 2) := by decide +kernel
theorem dX10_branches_144 : decode cX10_branches 144 = .ok (.goto 27, 3) := by decide +kernel
theorem dX10_branches_147 : decode cX10_branches 147 = .ok (.lload_n 3, 1) := by decide +kernel
theorem dX10_branches_148 : decode cX10_branches 148 = .ok (.lload 5, 2) := by decide +kernel
theorem dX10_branches_150 : decode cX10_branches 150 = .ok (.invokestatic 292, 3) := by decide +kernel
theorem dX10_branches_153 : decode cX10_branches 153 = .ok (.ifCond .ne 7, 3) := by decide +kernel
theorem dX10_branches_156 : decode cX10_branches 156 = .ok (.iconst 1, 1) := by decide +kernel
theorem dX10_branches_157 : decode cX10_branches 157 = .ok (.goto 4, 3) := by decide +kernel
theorem dX10_branches_160 : decode cX10_branches 160 = .ok (.iconst 0, 1) := by decide +kernel
theorem dX10_branches_161 : decode cX10_branches 161 = .ok (.istore 7, 2) := by decide +kernel
theorem dX10_branches_163 : decode cX10_branches 163 = .ok (.goto 8, 3) := by decide +kernel
theorem dX10_branches_166 : decode cX10_branches 166 = .ok (.aload_n 0, 1) := by decide +kernel
theorem dX10_branches_167 : decode cX10_branches 167 = .ok (.invokevirtual 250, 3) := by decide +kernel
theorem dX10_branches_170 : decode cX10_branches 170 = .ok (.ireturn, 1) := by decide +kernel
theorem dX10_branches_171 : decode cX10_branches 171 = .ok (.iload 7, 2) := by decide +kernel
theorem dX10_branches_173 : decode cX10_branches 173 = .ok (.ifCond .ne 8, 3) := by decide +kernel
theorem dX10_branches_176 : decode cX10_branches 176 = .ok (.aload_n 0, 1) := by decide +kernel
theorem dX10_branches_177 : decode cX10_branches 177 = .ok (.invokevirtual 279, 3) := by decide +kernel
theorem dX10_branches_180 : decode cX10_branches 180 = .ok (.ireturn, 1) := by decide +kernel
theorem dX10_branches_181 : decode cX10_branches 181 = .ok (.lload_n 1, 1) := by decide +kernel
theorem dX10_branches_182 : decode cX10_branches 182 = .ok (.aload_n 0, 1) := by decide +kernel
theorem dX10_branches_183 : decode cX10_branches 183 = .ok (.getfield 204, 3) := by decide +kernel
theorem dX10_branches_186 : decode cX10_branches 186 = .ok (.bipush 31, 2) := by decide +kernel
theorem dX10_branches_188 : decode cX10_branches 188 = .ok (.ishr, 1) := by decide +kernel
theorem dX10_branches_189 : decode cX10_branches 189 = .ok (.bipush 12, 2) := by decide +kernel
theorem dX10_branches_191 : decode cX10_branches 191 = .ok (.ishl, 1) := by decide +kernel
theorem dX10_branches_192 : decode cX10_branches 192 = .ok (.aload_n 0, 1) := by decide +kernel
theorem dX10_branches_193 : decode cX10_branches 193 = .ok (.getfield 204, 3) := by decide +kernel
theorem dX10_branches_196 : decode cX10_branches 196 = .ok (.iconst 4, 1) := by decide +kernel
theorem dX10_branches_197 : decode cX10_branches 197 = .ok (.ishl, 1) := by decide +kernel
theorem dX10_branches_198 : decode cX10_branches 198 = .ok (.sipush 2048, 3) := by decide +kernel
theorem dX10_branches_201 : decode cX10_branches 201 = .ok (.iand, 1) := by decide +kernel
theorem dX10_branches_202 : decode cX10_branches 202 = .ok (.ior, 1) := by decide +kernel
theorem dX10_branches_203 : decode cX10_branches 203 = .ok (.aload_n 0, 1) := by decide +kernel
theorem dX10_branches_204 : decode cX10_branches 204 = .ok (.getfield 204, 3) := by decide +kernel
theorem dX10_branches_207 : decode cX10_branches 207 = .ok (.bipush 20, 2) := by decide +kernel
theorem dX10_branches_209 : decode cX10_branches 209 = .ok (.ishr, 1) := by decide +kernel
theorem dX10_branches_210 : decode cX10_branches 210 = .ok (.sipush 2016, 3) := by decide +kernel
theorem dX10_branches_213 : decode cX10_branches 213 = .ok (.iand, 1) := by decide +kernel
theorem dX10_branches_214 : decode cX10_branches 214 = .ok (.ior, 1) := by decide +kernel
theorem dX10_branches_215 : decode cX10_branches 215 = .ok (.aload_n 0, 1) := by decide +kernel
theorem dX10_branches_216 : decode cX10_branches 216 = .ok (.getfield 204, 3) := by decide +kernel
theorem dX10_branches_219 : decode cX10_branches 219 = .ok (.bipush 7, 2) := by decide +kernel
theorem dX10_branches_221 : decode cX10_branches 221 = .ok (.ishr, 1) := by decide +kernel
theorem dX10_branches_222 : decode cX10_branches 222 = .ok (.bipush 30, 2) := by decide +kernel
theorem dX10_branches_224 : decode cX10_branches 224 = .ok (.iand, 1) := by decide +kernel
theorem dX10_branches_225 : decode cX10_branches 225 = .ok (.ior, 1) := by decide +kernel
theorem dX10_branches_226 : decode cX10_branches 226 = .ok (.i2l, 1) := by decide +kernel
theorem dX10_branches_227 : decode cX10_branches 227 = .ok (.ladd, 1) := by decide +kernel
theorem dX10_branches_228 : decode cX10_branches 228 = .ok (.lstore 8, 2) := by decide +kernel
theorem dX10_branches_230 : decode cX10_branches 230 = .ok (.lload 8, 2) := by decide +kernel
theorem dX10_branches_232 : decode cX10_branches 232 = .ok (.ldc2_w 213, 3) := by decide +kernel
theorem dX10_branches_235 : decode cX10_branches 235 = .ok (.land, 1) := by decide +kernel
theorem dX10_branches_236 : decode cX10_branches 236 = .ok (.lconst 0, 1) := by decide +kernel
theorem dX10_branches_237 : decode cX10_branches 237 = .ok (.lcmp, 1) := by decide +kernel
theorem dX10_branches_238 : decode cX10_branches 238 = .ok (.ifCond .eq 11, 3) := by decide +kernel
theorem dX10_branches_241 : decode cX10_branches 241 = .ok (.aload_n 0, 1) := by decide +kernel
theorem dX10_branches_242 : decode cX10_branches 242 = .ok (.iconst 0, 1) := by decide +kernel
theorem dX10_branches_243 : decode cX10_branches 243 = .ok (.lload 8, 2) := by decide +kernel
theorem dX10_branches_245 : decode cX10_branches 245 = .ok (.invokevirtual 209, 3) := by decide +kernel
theorem dX10_branches_248 : decode cX10_branches 248 = .ok (.ireturn, 1) := by decide +kernel
theorem dX10_branches_249 : decode cX10_branches 249 = .ok (.aload_n 0, 1) := by decide +kernel
theorem dX10_branches_250 : decode cX10_branches 250 = .ok (.getfield 18, 3) := by decide +kernel
theorem dX10_branches_253 : decode cX10_branches 253 = .ok (.aload_n 0, 1) := by decide +kernel
theorem dX10_branches_254 : decode cX10_branches 254 = .ok (.invokevirtual 166, 3) := by decide +kernel
theorem dX10_branches_257 : decode cX10_branches 257 = .ok (.lload 8, 2) := by decide +kernel
theorem dX10_branches_259 : decode cX10_branches 259 = .ok (.lastore, 1) := by decide +kernel
theorem dX10_branches_260 : decode cX10_branches 260 = .ok (.iconst (-1), 1) := by decide +kernel
theorem dX10_branches_261 : decode cX10_branches 261 = .ok (.ireturn, 1) := by decide +kernel
theorem dX10_loads_0 : decode cX10_loads 0 = .ok (.aload_n 0, 1) := by decide +kernel
theorem dX10_loads_1 : decode cX10_loads 1 = .ok (.getfield 226, 3) := by decide +kernel
theorem dX10_loads_4 : decode cX10_loads 4 = .ok (.bipush 7, 2) := by decide +kernel
theorem dX10_loads_6 : decode cX10_loads 6 = .ok (.if_icmp .ne 8, 3) := by decide +kernel
theorem dX10_loads_9 : decode cX10_loads 9 = .ok (.aload_n 0, 1) := by decide +kernel
theorem dX10_loads_10 : decode cX10_loads 10 = .ok (.invokevirtual 250, 3) := by decide +kernel
theorem dX10_loads_13 : decode cX10_loads 13 = .ok (.ireturn, 1) := by decide +kernel
theorem dX10_loads_14 : decode cX10_loads 14 = .ok (.aload_n 0, 1) := by decide +kernel
theorem dX10_loads_15 : decode cX10_loads 15 = .ok (.aload_n 0, 1) := by decide +kernel
theorem dX10_loads_16 : decode cX10_loads 16 = .ok (.getfield 229, 3) := by decide +kernel
theorem dX10_loads_19 : decode cX10_loads 19 = .ok (.invokevirtual 253, 3) := by decide +kernel
theorem dX10_loads_22 : decode cX10_loads 22 = .ok (.aload_n 0, 1) := by decide +kernel
theorem dX10_loads_23 : decode cX10_loads 23 = .ok (.getfield 204, 3) := by decide +kernel
theorem dX10_loads_26 : decode cX10_loads 26 = .ok (.bipush 20, 2) := by decide +kernel
theorem dX10_loads_28 : decode cX10_loads 28 = .ok (.ishr, 1) := by decide +kernel
theorem dX10_loads_29 : decode cX10_loads 29 = .ok (.i2l, 1) := by decide +kernel
theorem dX10_loads_30 : decode cX10_loads 30 = .ok (.ladd, 1) := by decide +kernel
theorem dX10_loads_31 : decode cX10_loads 31 = .ok (.lstore_n 1, 1) := by decide +kernel
theorem dX10_loads_32 : decode cX10_loads 32 = .ok (.iconst 1, 1) := by decide +kernel
theorem dX10_loads_33 : decode cX10_loads 33 = .ok (.aload_n 0, 1) := by decide +kernel
theorem dX10_loads_34 : decode cX10_loads 34 = .ok (.getfield 226, 3) := by decide +kernel
theorem dX10_loads_37 : decode cX10_loads 37 = .ok (.iconst 3, 1) := by decide +kernel
theorem dX10_loads_38 : decode cX10_loads 38 = .ok (.iand, 1) := by decide +kernel
theorem dX10_loads_39 : decode cX10_loads 39 = .ok (.ishl, 1) := by decide +kernel
theorem dX10_loads_40 : decode cX10_loads 40 = .ok (.istore_n 3, 1) := by decide +kernel
theorem dX10_loads_41 : decode cX10_loads 41 = .ok (.lload_n 1, 1) := by decide +kernel
theorem dX10_loads_42 : decode cX10_loads 42 = .ok (.iload_n 3, 1) := by decide +kernel
theorem dX10_loads_43 : decode cX10_loads 43 = .ok (.iconst 1, 1) := by decide +kernel
theorem dX10_loads_44 : decode cX10_loads 44 = .ok (.isub, 1) := by decide +kernel
theorem dX10_loads_45 : decode cX10_loads 45 = .ok (.i2l, 1) := by decide +kernel
theorem dX10_loads_46 : decode cX10_loads 46 = .ok (.land, 1) := by decide +kernel
theorem dX10_loads_47 : decode cX10_loads 47 = .ok (.lconst 0, 1) := by decide +kernel
theorem dX10_loads_48 : decode cX10_loads 48 = .ok (.lcmp, 1) := by decide +kernel
theorem dX10_loads_49 : decode cX10_loads 49 = .ok (.ifCond .eq 10, 3) := by decide +kernel
theorem dX10_loads_52 : decode cX10_loads 52 = .ok (.aload_n 0, 1) := by decide +kernel
theorem dX10_loads_53 : decode cX10_loads 53 = .ok (.iconst 4, 1) := by decide +kernel
theorem dX10_loads_54 : decode cX10_loads 54 = .ok (.lload_n 1, 1) := by decide +kernel
theorem dX10_loads_55 : decode cX10_loads 55 = .ok (.invokevirtual 209, 3) := by decide +kernel
theorem dX10_loads_58 : decode cX10_loads 58 = .ok (.ireturn, 1) := by decide +kernel
theorem dX10_loads_59 : decode cX10_loads 59 = .ok (.lload_n 1, 1) := by decide +kernel
theorem dX10_loads_60 : decode cX10_loads 60 = .ok (.iload_n 3, 1) := by decide +kernel
theorem dX10_loads_61 : decode cX10_loads 61 = .ok (.invokestatic 215, 3) := by decide +kernel
theorem dX10_loads_64 : decode cX10_loads 64 = .ok (.ifCond .eq 18, 3) := by decide +kernel
theorem dX10_loads_67 : decode cX10_loads 67 = .ok (.aload_n 0, 1) := by decide +kernel
theorem dX10_loads_68 : decode cX10_loads 68 = .ok (.lload_n 1, 1) := by decide +kernel
theorem dX10_loads_69 : decode cX10_loads 69 = .ok (.l2i, 1) := by decide +kernel
theorem dX10_loads_70 : decode cX10_loads 70 = .ok (.iload_n 3, 1) := by decide +kernel
theorem dX10_loads_71 : decode cX10_loads 71 = .ok (.iconst 1, 1) := by decide +kernel
theorem dX10_loads_72 : decode cX10_loads 72 = .ok (.aload_n 0, 1) := by decide +kernel
theorem dX10_loads_73 : decode cX10_loads 73 = .ok (.getfield 21, 3) := by decide +kernel
theorem dX10_loads_76 : decode cX10_loads 76 = .ok (.invokevirtual 219, 3) := by decide +kernel
theorem dX10_loads_79 : decode cX10_loads 79 = .ok (.ifCond .ne 10, 3) := by decide +kernel
theorem dX10_loads_82 : decode cX10_loads 82 = .ok (.aload_n 0, 1) := by decide +kernel
theorem dX10_loads_83 : decode cX10_loads 83 = .ok (.iconst 5, 1) := by decide +kernel
theorem dX10_loads_84 : decode cX10_loads 84 = .ok (.lload_n 1, 1) := by decide +kernel
theorem dX10_loads_85 : decode cX10_loads 85 = .ok (.invokevirtual 209, 3) := by decide +kernel
theorem dX10_loads_88 : decode cX10_loads 88 = .ok (.ireturn, 1) := by decide +kernel
theorem dX10_loads_89 : decode cX10_loads 89 = .ok (.aload_n 0, 1) := by decide +kernel
theorem dX10_loads_90 : decode cX10_loads 90 = .ok (.lload_n 1, 1) := by decide +kernel
theorem dX10_loads_91 : decode cX10_loads 91 = .ok (.l2i, 1) := by decide +kernel
theorem dX10_loads_92 : decode cX10_loads 92 = .ok (.iload_n 3, 1) := by decide +kernel
theorem dX10_loads_93 : decode cX10_loads 93 = .ok (.invokevirtual 136, 3) := by decide +kernel
theorem dX10_loads_96 : decode cX10_loads 96 = .ok (.lstore 4, 2) := by decide +kernel
theorem dX10_loads_98 : decode cX10_loads 98 = .ok (.bipush 64, 2) := by decide +kernel
theorem dX10_loads_100 : decode cX10_loads 100 = .ok (.bipush 8, 2) := by decide +kernel
theorem dX10_loads_102 : decode cX10_loads 102 = .ok (.iload_n 3, 1) := by decide +kernel
theorem dX10_loads_103 : decode cX10_loads 103 = .ok (.imul, 1) := by decide +kernel
theorem dX10_loads_104 : decode cX10_loads 104 = .ok (.isub, 1) := by decide +kernel
theorem dX10_loads_105 : decode cX10_loads 105 = .ok (.istore 6, 2) := by decide +kernel
theorem dX10_loads_107 : decode cX10_loads 107 = .ok (.aload_n 0, 1) := by decide +kernel
theorem dX10_loads_108 : decode cX10_loads 108 = .ok (.aload_n 0, 1) := by decide +kernel
theorem dX10_loads_109 : decode cX10_loads 109 = .ok (.getfield 226, 3) := by decide +kernel
theorem dX10_loads_112 : decode cX10_loads 112 = .ok (.iconst 3, 1) := by decide +kernel
theorem dX10_loads_113 : decode cX10_loads 113 = .ok (.if_icmp .le 8, 3) := by decide +kernel
theorem dX10_loads_116 : decode cX10_loads 116 = .ok (.lload 4, 2) := by decide +kernel
theorem dX10_loads_118 : decode cX10_loads 118 = .ok (.goto 11, 3) := by decide +kernel
theorem dX10_loads_121 : decode cX10_loads 121 = .ok (.lload 4, 2) := by decide +kernel
theorem dX10_loads_123 : decode cX10_loads 123 = .ok (.iload 6, 2) := by decide +kernel
theorem dX10_loads_125 : decode cX10_loads 125 = .ok (.lshl, 1) := by decide +kernel
theorem dX10_loads_126 : decode cX10_loads 126 = .ok (.iload 6, 2) := by decide +kernel
theorem dX10_loads_128 : decode cX10_loads 128 = .ok (.lshr, 1) := by decide +kernel
theorem dX10_loads_129 : decode cX10_loads 129 = .ok (.invokevirtual 238, 3) := by decide +kernel
theorem dX10_loads_132 : decode cX10_loads 132 = .ok (.ireturn, 1) := by decide +kernel
theorem dX10_stores_0 : decode cX10_stores 0 = .ok (.aload_n 0, 1) := by decide +kernel
theorem dX10_stores_1 : decode cX10_stores 1 = .ok (.getfield 226, 3) := by decide +kernel
theorem dX10_stores_4 : decode cX10_stores 4 = .ok (.iconst 3, 1) := by decide +kernel
theorem dX10_stores_5 : decode cX10_stores 5 = .ok (.if_icmp .le 8, 3) := by decide +kernel
theorem dX10_stores_8 : decode cX10_stores 8 = .ok (.aload_n 0, 1) := by decide +kernel
theorem dX10_stores_9 : decode cX10_stores 9 = .ok (.invokevirtual 250, 3) := by decide +kernel
theorem dX10_stores_12 : decode cX10_stores 12 = .ok (.ireturn, 1) := by decide +kernel
theorem dX10_stores_13 : decode cX10_stores 13 = .ok (.aload_n 0, 1) := by decide +kernel
theorem dX10_stores_14 : decode cX10_stores 14 = .ok (.aload_n 0, 1) := by decide +kernel
theorem dX10_stores_15 : decode cX10_stores 15 = .ok (.getfield 229, 3) := by decide +kernel
theorem dX10_stores_18 : decode cX10_stores 18 = .ok (.invokevirtual 253, 3) := by decide +kernel
theorem dX10_stores_21 : decode cX10_stores 21 = .ok (.aload_n 0, 1) := by decide +kernel
theorem dX10_stores_22 : decode cX10_stores 22 = .ok (.getfield 204, 3) := by decide +kernel
theorem dX10_stores_25 : decode cX10_stores 25 = .ok (.bipush 25, 2) := by decide +kernel
theorem dX10_stores_27 : decode cX10_stores 27 = .ok (.ishr, 1) := by decide +kernel
theorem dX10_stores_28 : decode cX10_stores 28 = .ok (.iconst 5, 1) := by decide +kernel
theorem dX10_stores_29 : decode cX10_stores 29 = .ok (.ishl, 1) := by decide +kernel
theorem dX10_stores_30 : decode cX10_stores 30 = .ok (.aload_n 0, 1) := by decide +kernel
theorem dX10_stores_31 : decode cX10_stores 31 = .ok (.getfield 223, 3) := by decide +kernel
theorem dX10_stores_34 : decode cX10_stores 34 = .ok (.ior, 1) := by decide +kernel
theorem dX10_stores_35 : decode cX10_stores 35 = .ok (.i2l, 1) := by decide +kernel
theorem dX10_stores_36 : decode cX10_stores 36 = .ok (.ladd, 1) := by decide +kernel
theorem dX10_stores_37 : decode cX10_stores 37 = .ok (.lstore_n 1, 1) := by decide +kernel
theorem dX10_stores_38 : decode cX10_stores 38 = .ok (.iconst 1, 1) := by decide +kernel
theorem dX10_stores_39 : decode cX10_stores 39 = .ok (.aload_n 0, 1) := by decide +kernel
theorem dX10_stores_40 : decode cX10_stores 40 = .ok (.getfield 226, 3) := by decide +kernel
theorem dX10_stores_43 : decode cX10_stores 43 = .ok (.ishl, 1) := by decide +kernel
theorem dX10_stores_44 : decode cX10_stores 44 = .ok (.istore_n 3, 1) := by decide +kernel
theorem dX10_stores_45 : decode cX10_stores 45 = .ok (.lload_n 1, 1) := by decide +kernel
theorem dX10_stores_46 : decode cX10_stores 46 = .ok (.iload_n 3, 1) := by decide +kernel
theorem dX10_stores_47 : decode cX10_stores 47 = .ok (.iconst 1, 1) := by decide +kernel
theorem dX10_stores_48 : decode cX10_stores 48 = .ok (.isub, 1) := by decide +kernel
theorem dX10_stores_49 : decode cX10_stores 49 = .ok (.i2l, 1) := by decide +kernel
theorem dX10_stores_50 : decode cX10_stores 50 = .ok (.land, 1) := by decide +kernel
theorem dX10_stores_51 : decode cX10_stores 51 = .ok (.lconst 0, 1) := by decide +kernel
theorem dX10_stores_52 : decode cX10_stores 52 = .ok (.lcmp, 1) := by decide +kernel
theorem dX10_stores_53 : decode cX10_stores 53 = .ok (.ifCond .eq 11, 3) := by decide +kernel
theorem dX10_stores_56 : decode cX10_stores 56 = .ok (.aload_n 0, 1) := by decide +kernel
theorem dX10_stores_57 : decode cX10_stores 57 = .ok (.bipush 6, 2) := by decide +kernel
theorem dX10_stores_59 : decode cX10_stores 59 = .ok (.lload_n 1, 1) := by decide +kernel
theorem dX10_stores_60 : decode cX10_stores 60 = .ok (.invokevirtual 209, 3) := by decide +kernel
theorem dX10_stores_63 : decode cX10_stores 63 = .ok (.ireturn, 1) := by decide +kernel
theorem dX10_stores_64 : decode cX10_stores 64 = .ok (.lload_n 1, 1) := by decide +kernel
theorem dX10_stores_65 : decode cX10_stores 65 = .ok (.iload_n 3, 1) := by decide +kernel
theorem dX10_stores_66 : decode cX10_stores 66 = .ok (.invokestatic 215, 3) := by decide +kernel
theorem dX10_stores_69 : decode cX10_stores 69 = .ok (.ifCond .eq 18, 3) := by decide +kernel
theorem dX10_stores_72 : decode cX10_stores 72 = .ok (.aload_n 0, 1) := by decide +kernel
theorem dX10_stores_73 : decode cX10_stores 73 = .ok (.lload_n 1, 1) := by decide +kernel
theorem dX10_stores_74 : decode cX10_stores 74 = .ok (.l2i, 1) := by decide +kernel
theorem dX10_stores_75 : decode cX10_stores 75 = .ok (.iload_n 3, 1) := by decide +kernel
theorem dX10_stores_76 : decode cX10_stores 76 = .ok (.iconst 2, 1) := by decide +kernel
theorem dX10_stores_77 : decode cX10_stores 77 = .ok (.aload_n 0, 1) := by decide +kernel
theorem dX10_stores_78 : decode cX10_stores 78 = .ok (.getfield 21, 3) := by decide +kernel
theorem dX10_stores_81 : decode cX10_stores 81 = .ok (.invokevirtual 219, 3) := by decide +kernel
theorem dX10_stores_84 : decode cX10_stores 84 = .ok (.ifCond .ne 11, 3) := by decide +kernel
theorem dX10_stores_87 : decode cX10_stores 87 = .ok (.aload_n 0, 1) := by decide +kernel
theorem dX10_stores_88 : decode cX10_stores 88 = .ok (.bipush 7, 2) := by decide +kernel
theorem dX10_stores_90 : decode cX10_stores 90 = .ok (.lload_n 1, 1) := by decide +kernel
theorem dX10_stores_91 : decode cX10_stores 91 = .ok (.invokevirtual 209, 3) := by decide +kernel
theorem dX10_stores_94 : decode cX10_stores 94 = .ok (.ireturn, 1) := by decide +kernel
theorem dX10_stores_95 : decode cX10_stores 95 = .ok (.aload_n 0, 1) := by decide +kernel
theorem dX10_stores_96 : decode cX10_stores 96 = .ok (.lload_n 1, 1) := by decide +kernel
theorem dX10_stores_97 : decode cX10_stores 97 = .ok (.l2i, 1) := by decide +kernel
theorem dX10_stores_98 : decode cX10_stores 98 = .ok (.iload_n 3, 1) := by decide +kernel
theorem dX10_stores_99 : decode cX10_stores 99 = .ok (.aload_n 0, 1) := by decide +kernel
theorem dX10_stores_100 : decode cX10_stores 100 = .ok (.aload_n 0, 1) := by decide +kernel
theorem dX10_stores_101 : decode cX10_stores 101 = .ok (.getfield 232, 3) := by decide +kernel
theorem dX10_stores_104 : decode cX10_stores 104 = .ok (.invokevirtual 253, 3) := by decide +kernel
theorem dX10_stores_107 : decode cX10_stores 107 = .ok (.invokevirtual 132, 3) := by decide +kernel
theorem dX10_stores_110 : decode cX10_stores 110 = .ok (.aload_n 0, 1) := by decide +kernel
theorem dX10_stores_111 : decode cX10_stores 111 = .ok (.invokevirtual 279, 3) := by decide +kernel
theorem dX10_stores_114 : decode cX10_stores 114 = .ok (.ireturn, 1) := by decide +kernel
theorem dX10_immediate_0 : decode cX10_immediate 0 = .ok (.aload_n 0, 1) := by decide +kernel
theorem dX10_immediate_1 : decode cX10_immediate 1 = .ok (.aload_n 0, 1) := by decide +kernel
theorem dX10_immediate_2 : decode cX10_immediate 2 = .ok (.getfield 229, 3) := by decide +kernel
theorem dX10_immediate_5 : decode cX10_immediate 5 = .ok (.invokevirtual 253, 3) := by decide +kernel
theorem dX10_immediate_8 : decode cX10_immediate 8 = .ok (.lstore_n 1, 1) := by decide +kernel
theorem dX10_immediate_9 : decode cX10_immediate 9 = .ok (.aload_n 0, 1) := by decide +kernel
theorem dX10_immediate_10 : decode cX10_immediate 10 = .ok (.getfield 204, 3) := by decide +kernel
theorem dX10_immediate_13 : decode cX10_immediate 13 = .ok (.bipush 20, 2) := by decide +kernel
theorem dX10_immediate_15 : decode cX10_immediate 15 = .ok (.ishr, 1) := by decide +kernel
theorem dX10_immediate_16 : decode cX10_immediate 16 = .ok (.i2l, 1) := by decide +kernel
theorem dX10_immediate_17 : decode cX10_immediate 17 = .ok (.lstore_n 3, 1) := by decide +kernel
theorem dX10_immediate_18 : decode cX10_immediate 18 = .ok (.aload_n 0, 1) := by decide +kernel
theorem dX10_immediate_19 : decode cX10_immediate 19 = .ok (.getfield 204, 3) := by decide +kernel
theorem dX10_immediate_22 : decode cX10_immediate 22 = .ok (.bipush 20, 2) := by decide +kernel
theorem dX10_immediate_24 : decode cX10_immediate 24 = .ok (.ishr, 1) := by decide +kernel
theorem dX10_immediate_25 : decode cX10_immediate 25 = .ok (.bipush 63, 2) := by decide +kernel
theorem dX10_immediate_27 : decode cX10_immediate 27 = .ok (.iand, 1) := by decide +kernel
theorem dX10_immediate_28 : decode cX10_immediate 28 = .ok (.istore 5, 2) := by decide +kernel
theorem dX10_immediate_30 : decode cX10_immediate 30 = .ok (.aload_n 0, 1) := by decide +kernel
theorem dX10_immediate_31 : decode cX10_immediate 31 = .ok (.getfield 204, 3) := by decide +kernel
theorem dX10_immediate_34 : decode cX10_immediate 34 = .ok (.bipush 26, 2) := by decide +kernel
theorem dX10_immediate_36 : decode cX10_immediate 36 = .ok (.iushr, 1) := by decide +kernel
theorem dX10_immediate_37 : decode cX10_immediate 37 = .ok (.istore 6, 2) := by decide +kernel
theorem dX10_immediate_39 : decode cX10_immediate 39 = .ok (.aload_n 0, 1) := by decide +kernel
theorem dX10_immediate_40 : decode cX10_immediate 40 = .ok (.getfield 226, 3) := by decide +kernel
theorem dX10_immediate_43 : decode cX10_immediate 43 = .ok (.tableswitch 159 0 6 #[41, 49, 70, 86, 104, 112, 151], 41) := by decide +kernel
theorem dX10_immediate_84 : decode cX10_immediate 84 = .ok (.aload_n 0, 1) := by decide +kernel
theorem dX10_immediate_85 : decode cX10_immediate 85 = .ok (.lload_n 1, 1) := by decide +kernel
theorem dX10_immediate_86 : decode cX10_immediate 86 = .ok (.lload_n 3, 1) := by decide +kernel
theorem dX10_immediate_87 : decode cX10_immediate 87 = .ok (.ladd, 1) := by decide +kernel
theorem dX10_immediate_88 : decode cX10_immediate 88 = .ok (.invokevirtual 238, 3) := by decide +kernel
theorem dX10_immediate_91 : decode cX10_immediate 91 = .ok (.ireturn, 1) := by decide +kernel
theorem dX10_immediate_92 : decode cX10_immediate 92 = .ok (.iload 6, 2) := by decide +kernel
theorem dX10_immediate_94 : decode cX10_immediate 94 = .ok (.ifCond .eq 10, 3) := by decide +kernel
theorem dX10_immediate_97 : decode cX10_immediate 97 = .ok (.aload_n 0, 1) := by decide +kernel
theorem dX10_immediate_98 : decode cX10_immediate 98 = .ok (.invokevirtual 250, 3) := by decide +kernel
theorem dX10_immediate_101 : decode cX10_immediate 101 = .ok (.goto 11, 3) := by decide +kernel
theorem dX10_immediate_104 : decode cX10_immediate 104 = .ok (.aload_n 0, 1) := by decide +kernel
theorem dX10_immediate_105 : decode cX10_immediate 105 = .ok (.lload_n 1, 1) := by decide +kernel
theorem dX10_immediate_106 : decode cX10_immediate 106 = .ok (.iload 5, 2) := by decide +kernel
theorem dX10_immediate_108 : decode cX10_immediate 108 = .ok (.lshl, 1) := by decide +kernel
theorem dX10_immediate_109 : decode cX10_immediate 109 = .ok (.invokevirtual 238, 3) := by decide +kernel
theorem dX10_immediate_112 : decode cX10_immediate 112 = .ok (.ireturn, 1) := by decide +kernel
theorem dX10_immediate_113 : decode cX10_immediate 113 = .ok (.aload_n 0, 1) := by decide +kernel
theorem dX10_immediate_114 : decode cX10_immediate 114 = .ok (.lload_n 1, 1) := by decide +kernel
theorem dX10_immediate_115 : decode cX10_immediate 115 = .ok (.lload_n 3, 1) := by decide +kernel
theorem dX10_immediate_116 : decode cX10_immediate 116 = .ok (.lcmp, 1) := by decide +kernel
theorem dX10_immediate_117 : decode cX10_immediate 117 = .ok (.ifCond .ge 7, 3) := by decide +kernel
theorem dX10_immediate_120 : decode cX10_immediate 120 = .ok (.lconst 1, 1) := by decide +kernel
theorem dX10_immediate_121 : decode cX10_immediate 121 = .ok (.goto 4, 3) := by decide +kernel
theorem dX10_immediate_124 : decode cX10_immediate 124 = .ok (.lconst 0, 1) := by decide +kernel
theorem dX10_immediate_125 : decode cX10_immediate 125 = .ok (.invokevirtual 238, 3) := by decide +kernel
theorem dX10_immediate_128 : decode cX10_immediate 128 = .ok (.ireturn, 1) := by decide +kernel
theorem dX10_immediate_129 : decode cX10_immediate 129 = .ok (.aload_n 0, 1) := by decide +kernel
theorem dX10_immediate_130 : decode cX10_immediate 130 = .ok (.lload_n 1, 1) := by decide +kernel
theorem dX10_immediate_131 : decode cX10_immediate 131 = .ok (.lload_n 3, 1) := by decide +kernel
theorem dX10_immediate_132 : decode cX10_immediate 132 = .ok (.invokestatic 292, 3) := by decide +kernel
theorem dX10_immediate_135 : decode cX10_immediate 135 = .ok (.ifCond .eq 7, 3) := by decide +kernel
theorem dX10_immediate_138 : decode cX10_immediate 138 = .ok (.lconst 1, 1) := by decide +kernel
theorem dX10_immediate_139 : decode cX10_immediate 139 = .ok (.goto 4, 3) := by decide +kernel
theorem dX10_immediate_142 : decode cX10_immediate 142 = .ok (.lconst 0, 1) := by decide +kernel
theorem dX10_immediate_143 : decode cX10_immediate 143 = .ok (.invokevirtual 238, 3) := by decide +kernel
theorem dX10_immediate_146 : decode cX10_immediate 146 = .ok (.ireturn, 1) := by decide +kernel
theorem dX10_immediate_147 : decode cX10_immediate 147 = .ok (.aload_n 0, 1) := by decide +kernel
theorem dX10_immediate_148 : decode cX10_immediate 148 = .ok (.lload_n 1, 1) := by decide +kernel
theorem dX10_immediate_149 : decode cX10_immediate 149 = .ok (.lload_n 3, 1) := by decide +kernel
theorem dX10_immediate_150 : decode cX10_immediate 150 = .ok (.lxor, 1) := by decide +kernel
theorem dX10_immediate_151 : decode cX10_immediate 151 = .ok (.invokevirtual 238, 3) := by decide +kernel
theorem dX10_immediate_154 : decode cX10_immediate 154 = .ok (.ireturn, 1) := by decide +kernel
theorem dX10_immediate_155 : decode cX10_immediate 155 = .ok (.iload 6, 2) := by decide +kernel
theorem dX10_immediate_157 : decode cX10_immediate 157 = .ok (.ifCond .ne 14, 3) := by decide +kernel
theorem dX10_immediate_160 : decode cX10_immediate 160 = .ok (.aload_n 0, 1) := by decide +kernel
theorem dX10_immediate_161 : decode cX10_immediate 161 = .ok (.lload_n 1, 1) := by decide +kernel
theorem dX10_immediate_162 : decode cX10_immediate 162 = .ok (.iload 5, 2) := by decide +kernel
theorem dX10_immediate_164 : decode cX10_immediate 164 = .ok (.lushr, 1) := by decide +kernel
theorem dX10_immediate_165 : decode cX10_immediate 165 = .ok (.invokevirtual 238, 3) := by decide +kernel
theorem dX10_immediate_168 : decode cX10_immediate 168 = .ok (.goto 25, 3) := by decide +kernel
theorem dX10_immediate_171 : decode cX10_immediate 171 = .ok (.iload 6, 2) := by decide +kernel
theorem dX10_immediate_173 : decode cX10_immediate 173 = .ok (.bipush 16, 2) := by decide +kernel
theorem dX10_immediate_175 : decode cX10_immediate 175 = .ok (.if_icmp .ne 14, 3) := by decide +kernel
theorem dX10_immediate_178 : decode cX10_immediate 178 = .ok (.aload_n 0, 1) := by decide +kernel
theorem dX10_immediate_179 : decode cX10_immediate 179 = .ok (.lload_n 1, 1) := by decide +kernel
theorem dX10_immediate_180 : decode cX10_immediate 180 = .ok (.iload 5, 2) := by decide +kernel
theorem dX10_immediate_182 : decode cX10_immediate 182 = .ok (.lshr, 1) := by decide +kernel
theorem dX10_immediate_183 : decode cX10_immediate 183 = .ok (.invokevirtual 238, 3) := by decide +kernel
theorem dX10_immediate_186 : decode cX10_immediate 186 = .ok (.goto 7, 3) := by decide +kernel
theorem dX10_immediate_189 : decode cX10_immediate 189 = .ok (.aload_n 0, 1) := by decide +kernel
theorem dX10_immediate_190 : decode cX10_immediate 190 = .ok (.invokevirtual 250, 3) := by decide +kernel
theorem dX10_immediate_193 : decode cX10_immediate 193 = .ok (.ireturn, 1) := by decide +kernel
theorem dX10_immediate_194 : decode cX10_immediate 194 = .ok (.aload_n 0, 1) := by decide +kernel
theorem dX10_immediate_195 : decode cX10_immediate 195 = .ok (.lload_n 1, 1) := by decide +kernel
theorem dX10_immediate_196 : decode cX10_immediate 196 = .ok (.lload_n 3, 1) := by decide +kernel
theorem dX10_immediate_197 : decode cX10_immediate 197 = .ok (.lor, 1) := by decide +kernel
theorem dX10_immediate_198 : decode cX10_immediate 198 = .ok (.invokevirtual 238, 3) := by decide +kernel
theorem dX10_immediate_201 : decode cX10_immediate 201 = .ok (.ireturn, 1) := by decide +kernel
theorem dX10_immediate_202 : decode cX10_immediate 202 = .ok (.aload_n 0, 1) := by decide +kernel
theorem dX10_immediate_203 : decode cX10_immediate 203 = .ok (.lload_n 1, 1) := by decide +kernel
theorem dX10_immediate_204 : decode cX10_immediate 204 = .ok (.lload_n 3, 1) := by decide +kernel
theorem dX10_immediate_205 : decode cX10_immediate 205 = .ok (.land, 1) := by decide +kernel
theorem dX10_immediate_206 : decode cX10_immediate 206 = .ok (.invokevirtual 238, 3) := by decide +kernel
theorem dX10_immediate_209 : decode cX10_immediate 209 = .ok (.ireturn, 1) := by decide +kernel
theorem dX10_immediateW_0 : decode cX10_immediateW 0 = .ok (.aload_n 0, 1) := by decide +kernel
theorem dX10_immediateW_1 : decode cX10_immediateW 1 = .ok (.aload_n 0, 1) := by decide +kernel
theorem dX10_immediateW_2 : decode cX10_immediateW 2 = .ok (.getfield 229, 3) := by decide +kernel
theorem dX10_immediateW_5 : decode cX10_immediateW 5 = .ok (.invokevirtual 253, 3) := by decide +kernel
theorem dX10_immediateW_8 : decode cX10_immediateW 8 = .ok (.l2i, 1) := by decide +kernel
theorem dX10_immediateW_9 : decode cX10_immediateW 9 = .ok (.istore_n 1, 1) := by decide +kernel
theorem dX10_immediateW_10 : decode cX10_immediateW 10 = .ok (.aload_n 0, 1) := by decide +kernel
theorem dX10_immediateW_11 : decode cX10_immediateW 11 = .ok (.getfield 226, 3) := by decide +kernel
theorem dX10_immediateW_14 : decode cX10_immediateW 14 = .ok (.ifCond .ne 18, 3) := by decide +kernel
theorem dX10_immediateW_17 : decode cX10_immediateW 17 = .ok (.aload_n 0, 1) := by decide +kernel
theorem dX10_immediateW_18 : decode cX10_immediateW 18 = .ok (.iload_n 1, 1) := by decide +kernel
theorem dX10_immediateW_19 : decode cX10_immediateW 19 = .ok (.aload_n 0, 1) := by decide +kernel
theorem dX10_immediateW_20 : decode cX10_immediateW 20 = .ok (.getfield 204, 3) := by decide +kernel
theorem dX10_immediateW_23 : decode cX10_immediateW 23 = .ok (.bipush 20, 2) := by decide +kernel
theorem dX10_immediateW_25 : decode cX10_immediateW 25 = .ok (.ishr, 1) := by decide +kernel
theorem dX10_immediateW_26 : decode cX10_immediateW 26 = .ok (.iadd, 1) := by decide +kernel
theorem dX10_immediateW_27 : decode cX10_immediateW 27 = .ok (.i2l, 1) := by decide +kernel
theorem dX10_immediateW_28 : decode cX10_immediateW 28 = .ok (.invokevirtual 238, 3) := by decide +kernel
theorem dX10_immediateW_31 : decode cX10_immediateW 31 = .ok (.ireturn, 1) := by decide +kernel
theorem dX10_immediateW_32 : decode cX10_immediateW 32 = .ok (.aload_n 0, 1) := by decide +kernel
theorem dX10_immediateW_33 : decode cX10_immediateW 33 = .ok (.getfield 226, 3) := by decide +kernel
theorem dX10_immediateW_36 : decode cX10_immediateW 36 = .ok (.iconst 1, 1) := by decide +kernel
theorem dX10_immediateW_37 : decode cX10_immediateW 37 = .ok (.if_icmp .ne 22, 3) := by decide +kernel
theorem dX10_immediateW_40 : decode cX10_immediateW 40 = .ok (.aload_n 0, 1) := by decide +kernel
theorem dX10_immediateW_41 : decode cX10_immediateW 41 = .ok (.getfield 235, 3) := by decide +kernel
theorem dX10_immediateW_44 : decode cX10_immediateW 44 = .ok (.ifCond .ne 15, 3) := by decide +kernel
theorem dX10_immediateW_47 : decode cX10_immediateW 47 = .ok (.aload_n 0, 1) := by decide +kernel
theorem dX10_immediateW_48 : decode cX10_immediateW 48 = .ok (.iload_n 1, 1) := by decide +kernel
theorem dX10_immediateW_49 : decode cX10_immediateW 49 = .ok (.aload_n 0, 1) := by decide +kernel
theorem dX10_immediateW_50 : decode cX10_immediateW 50 = .ok (.getfield 232, 3) := by decide +kernel
theorem dX10_immediateW_53 : decode cX10_immediateW 53 = .ok (.ishl, 1) := by decide +kernel
theorem dX10_immediateW_54 : decode cX10_immediateW 54 = .ok (.i2l, 1) := by decide +kernel
theorem dX10_immediateW_55 : decode cX10_immediateW 55 = .ok (.invokevirtual 238, 3) := by decide +kernel
theorem dX10_immediateW_58 : decode cX10_immediateW 58 = .ok (.ireturn, 1) := by decide +kernel
theorem dX10_immediateW_59 : decode cX10_immediateW 59 = .ok (.aload_n 0, 1) := by decide +kernel
theorem dX10_immediateW_60 : decode cX10_immediateW 60 = .ok (.getfield 226, 3) := by decide +kernel
theorem dX10_immediateW_63 : decode cX10_immediateW 63 = .ok (.iconst 5, 1) := by decide +kernel
theorem dX10_immediateW_64 : decode cX10_immediateW 64 = .ok (.if_icmp .ne 22, 3) := by decide +kernel
theorem dX10_immediateW_67 : decode cX10_immediateW 67 = .ok (.aload_n 0, 1) := by decide +kernel
theorem dX10_immediateW_68 : decode cX10_immediateW 68 = .ok (.getfield 235, 3) := by decide +kernel
theorem dX10_immediateW_71 : decode cX10_immediateW 71 = .ok (.ifCond .ne 15, 3) := by decide +kernel
theorem dX10_immediateW_74 : decode cX10_immediateW 74 = .ok (.aload_n 0, 1) := by decide +kernel
theorem dX10_immediateW_75 : decode cX10_immediateW 75 = .ok (.iload_n 1, 1) := by decide +kernel
theorem dX10_immediateW_76 : decode cX10_immediateW 76 = .ok (.aload_n 0, 1) := by decide +kernel
theorem dX10_immediateW_77 : decode cX10_immediateW 77 = .ok (.getfield 232, 3) := by decide +kernel
theorem dX10_immediateW_80 : decode cX10_immediateW 80 = .ok (.iushr, 1) := by decide +kernel
theorem dX10_immediateW_81 : decode cX10_immediateW 81 = .ok (.i2l, 1) := by decide +kernel
theorem dX10_immediateW_82 : decode cX10_immediateW 82 = .ok (.invokevirtual 238, 3) := by decide +kernel
theorem dX10_immediateW_85 : decode cX10_immediateW 85 = .ok (.ireturn, 1) := by decide +kernel
theorem dX10_immediateW_86 : decode cX10_immediateW 86 = .ok (.aload_n 0, 1) := by decide +kernel
theorem dX10_immediateW_87 : decode cX10_immediateW 87 = .ok (.getfield 226, 3) := by decide +kernel
theorem dX10_immediateW_90 : decode cX10_immediateW 90 = .ok (.iconst 5, 1) := by decide +kernel
theorem dX10_immediateW_91 : decode cX10_immediateW 91 = .ok (.if_icmp .ne 26, 3) := by decide +kernel
theorem dX10_immediateW_94 : decode cX10_immediateW 94 = .ok (.aload_n 0, 1) := by decide +kernel
theorem dX10_immediateW_95 : decode cX10_immediateW 95 = .ok (.getfield 235, 3) := by decide +kernel
theorem dX10_immediateW_98 : decode cX10_immediateW 98 = .ok (.bipush 32, 2) := by decide +kernel
theorem dX10_immediateW_100 : decode cX10_immediateW 100 = .ok (.if_icmp .ne 17, 3) := by decide +kernel
theorem dX10_immediateW_103 : decode cX10_immediateW 103 = .ok (.aload_n 0, 1) := by decide +kernel
theorem dX10_immediateW_104 : decode cX10_immediateW 104 = .ok (.iload_n 1, 1) := by decide +kernel
theorem dX10_immediateW_105 : decode cX10_immediateW 105 = .ok (.aload_n 0, 1) := by decide +kernel
theorem dX10_immediateW_106 : decode cX10_immediateW 106 = .ok (.getfield 232, 3) := by decide +kernel
theorem dX10_immediateW_109 : decode cX10_immediateW 109 = .ok (.ishr, 1) := by decide +kernel
theorem dX10_immediateW_110 : decode cX10_immediateW 110 = .ok (.i2l, 1) := by decide +kernel
theorem dX10_immediateW_111 : decode cX10_immediateW 111 = .ok (.invokevirtual 238, 3) := by decide +kernel
theorem dX10_immediateW_114 : decode cX10_immediateW 114 = .ok (.goto 7, 3) := by decide +kernel
theorem dX10_immediateW_117 : decode cX10_immediateW 117 = .ok (.aload_n 0, 1) := by decide +kernel
theorem dX10_immediateW_118 : decode cX10_immediateW 118 = .ok (.invokevirtual 250, 3) := by decide +kernel
theorem dX10_immediateW_121 : decode cX10_immediateW 121 = .ok (.ireturn, 1) := by decide +kernel
theorem dX10_registers_0 : decode cX10_registers 0 = .ok (.aload_n 0, 1) := by decide +kernel
theorem dX10_registers_1 : decode cX10_registers 1 = .ok (.aload_n 0, 1) := by decide +kernel
theorem dX10_registers_2 : decode cX10_registers 2 = .ok (.getfield 229, 3) := by decide +kernel
theorem dX10_registers_5 : decode cX10_registers 5 = .ok (.invokevirtual 253, 3) := by decide +kernel
theorem dX10_registers_8 : decode cX10_registers 8 = .ok (.lstore_n 1, 1) := by decide +kernel
theorem dX10_registers_9 : decode cX10_registers 9 = .ok (.aload_n 0, 1) := by decide +kernel
theorem dX10_registers_10 : decode cX10_registers 10 = .ok (.aload_n 0, 1) := by decide +kernel
theorem dX10_registers_11 : decode cX10_registers 11 = .ok (.getfield 232, 3) := by decide +kernel
theorem dX10_registers_14 : decode cX10_registers 14 = .ok (.invokevirtual 253, 3) := by decide +kernel
theorem dX10_registers_17 : decode cX10_registers 17 = .ok (.lstore_n 3, 1) := by decide +kernel
theorem dX10_registers_18 : decode cX10_registers 18 = .ok (.aload_n 0, 1) := by decide +kernel
theorem dX10_registers_19 : decode cX10_registers 19 = .ok (.getfield 235, 3) := by decide +kernel
theorem dX10_registers_22 : decode cX10_registers 22 = .ok (.iconst 1, 1) := by decide +kernel
theorem dX10_registers_23 : decode cX10_registers 23 = .ok (.if_icmp .ne 14, 3) := by decide +kernel
theorem dX10_registers_26 : decode cX10_registers 26 = .ok (.aload_n 0, 1) := by decide +kernel
theorem dX10_registers_27 : decode cX10_registers 27 = .ok (.aload_n 0, 1) := by decide +kernel
theorem dX10_registers_28 : decode cX10_registers 28 = .ok (.lload_n 1, 1) := by decide +kernel
theorem dX10_registers_29 : decode cX10_registers 29 = .ok (.lload_n 3, 1) := by decide +kernel
theorem dX10_registers_30 : decode cX10_registers 30 = .ok (.invokevirtual 296, 3) := by decide +kernel
theorem dX10_registers_33 : decode cX10_registers 33 = .ok (.invokevirtual 238, 3) := by decide +kernel
theorem dX10_registers_36 : decode cX10_registers 36 = .ok (.ireturn, 1) := by decide +kernel
theorem dX10_registers_37 : decode cX10_registers 37 = .ok (.aload_n 0, 1) := by decide +kernel
theorem dX10_registers_38 : decode cX10_registers 38 = .ok (.getfield 235, 3) := by decide +kernel
theorem dX10_registers_41 : decode cX10_registers 41 = .ok (.bipush 32, 2) := by decide +kernel
theorem dX10_registers_43 : decode cX10_registers 43 = .ok (.if_icmp .ne 48, 3) := by decide +kernel
theorem dX10_registers_46 : decode cX10_registers 46 = .ok (.aload_n 0, 1) := by decide +kernel
theorem dX10_registers_47 : decode cX10_registers 47 = .ok (.getfield 226, 3) := by decide +kernel
theorem dX10_registers_50 : decode cX10_registers 50 = .ok (.ifCond .ne 13, 3) := by decide +kernel
theorem dX10_registers_53 : decode cX10_registers 53 = .ok (.aload_n 0, 1) := by decide +kernel
theorem dX10_registers_54 : decode cX10_registers 54 = .ok (.lload_n 1, 1) := by decide +kernel
theorem dX10_registers_55 : decode cX10_registers 55 = .ok (.lload_n 3, 1) := by decide +kernel
theorem dX10_registers_56 : decode cX10_registers 56 = .ok (.lsub, 1) := by decide +kernel
theorem dX10_registers_57 : decode cX10_registers 57 = .ok (.invokevirtual 238, 3) := by decide +kernel
theorem dX10_registers_60 : decode cX10_registers 60 = .ok (.goto 30, 3) := by decide +kernel
theorem dX10_registers_63 : decode cX10_registers 63 = .ok (.aload_n 0, 1) := by decide +kernel
theorem dX10_registers_64 : decode cX10_registers 64 = .ok (.getfield 226, 3) := by decide +kernel
theorem dX10_registers_67 : decode cX10_registers 67 = .ok (.iconst 5, 1) := by decide +kernel
theorem dX10_registers_68 : decode cX10_registers 68 = .ok (.if_icmp .ne 18, 3) := by decide +kernel
theorem dX10_registers_71 : decode cX10_registers 71 = .ok (.aload_n 0, 1) := by decide +kernel
theorem dX10_registers_72 : decode cX10_registers 72 = .ok (.lload_n 1, 1) := by decide +kernel
theorem dX10_registers_73 : decode cX10_registers 73 = .ok (.lload_n 3, 1) := by decide +kernel
theorem dX10_registers_74 : decode cX10_registers 74 = .ok (.ldc2_w 300, 3) := by decide +kernel
theorem dX10_registers_77 : decode cX10_registers 77 = .ok (.land, 1) := by decide +kernel
theorem dX10_registers_78 : decode cX10_registers 78 = .ok (.l2i, 1) := by decide +kernel
theorem dX10_registers_79 : decode cX10_registers 79 = .ok (.lshr, 1) := by decide +kernel
theorem dX10_registers_80 : decode cX10_registers 80 = .ok (.invokevirtual 238, 3) := by decide +kernel
theorem dX10_registers_83 : decode cX10_registers 83 = .ok (.goto 7, 3) := by decide +kernel
theorem dX10_registers_86 : decode cX10_registers 86 = .ok (.aload_n 0, 1) := by decide +kernel
theorem dX10_registers_87 : decode cX10_registers 87 = .ok (.invokevirtual 250, 3) := by decide +kernel
theorem dX10_registers_90 : decode cX10_registers 90 = .ok (.ireturn, 1) := by decide +kernel
theorem dX10_registers_91 : decode cX10_registers 91 = .ok (.aload_n 0, 1) := by decide +kernel
theorem dX10_registers_92 : decode cX10_registers 92 = .ok (.getfield 235, 3) := by decide +kernel
theorem dX10_registers_95 : decode cX10_registers 95 = .ok (.ifCond .eq 8, 3) := by decide +kernel
theorem dX10_registers_98 : decode cX10_registers 98 = .ok (.aload_n 0, 1) := by decide +kernel
theorem dX10_registers_99 : decode cX10_registers 99 = .ok (.invokevirtual 250, 3) := by decide +kernel
theorem dX10_registers_102 : decode cX10_registers 102 = .ok (.ireturn, 1) := by decide +kernel
theorem dX10_registers_103 : decode cX10_registers 103 = .ok (.aload_n 0, 1) := by decide +kernel
theorem dX10_registers_104 : decode cX10_registers 104 = .ok (.getfield 226, 3) := by decide +kernel
theorem dX10_registers_107 : decode cX10_registers 107 = .ok (.tableswitch 125 0 6 #[41, 49, 62, 78, 96, 104, 117], 41) := by decide +kernel
theorem dX10_registers_148 : decode cX10_registers 148 = .ok (.aload_n 0, 1) := by decide +kernel
theorem dX10_registers_149 : decode cX10_registers 149 = .ok (.lload_n 1, 1) := by decide +kernel
theorem dX10_registers_150 : decode cX10_registers 150 = .ok (.lload_n 3, 1) := by decide +kernel
theorem dX10_registers_151 : decode cX10_registers 151 = .ok (.ladd, 1) := by decide +kernel
theorem dX10_registers_152 : decode cX10_registers 152 = .ok (.invokevirtual 238, 3) := by decide +kernel
theorem dX10_registers_155 : decode cX10_registers 155 = .ok (.ireturn, 1) := by decide +kernel
theorem dX10_registers_156 : decode cX10_registers 156 = .ok (.aload_n 0, 1) := by decide +kernel
theorem dX10_registers_157 : decode cX10_registers 157 = .ok (.lload_n 1, 1) := by decide +kernel
theorem dX10_registers_158 : decode cX10_registers 158 = .ok (.lload_n 3, 1) := by decide +kernel
theorem dX10_registers_159 : decode cX10_registers 159 = .ok (.ldc2_w 300, 3) := by decide +kernel
theorem dX10_registers_162 : decode cX10_registers 162 = .ok (.land, 1) := by decide +kernel
theorem dX10_registers_163 : decode cX10_registers 163 = .ok (.l2i, 1) := by decide +kernel
theorem dX10_registers_164 : decode cX10_registers 164 = .ok (.lshl, 1) := by decide +kernel
theorem dX10_registers_165 : decode cX10_registers 165 = .ok (.invokevirtual 238, 3) := by decide +kernel
theorem dX10_registers_168 : decode cX10_registers 168 = .ok (.ireturn, 1) := by decide +kernel
theorem dX10_registers_169 : decode cX10_registers 169 = .ok (.aload_n 0, 1) := by decide +kernel
theorem dX10_registers_170 : decode cX10_registers 170 = .ok (.lload_n 1, 1) := by decide +kernel
theorem dX10_registers_171 : decode cX10_registers 171 = .ok (.lload_n 3, 1) := by decide +kernel
theorem dX10_registers_172 : decode cX10_registers 172 = .ok (.lcmp, 1) := by decide +kernel
theorem dX10_registers_173 : decode cX10_registers 173 = .ok (.ifCond .ge 7, 3) := by decide +kernel
theorem dX10_registers_176 : decode cX10_registers 176 = .ok (.lconst 1, 1) := by decide +kernel
theorem dX10_registers_177 : decode cX10_registers 177 = .ok (.goto 4, 3) := by decide +kernel
theorem dX10_registers_180 : decode cX10_registers 180 = .ok (.lconst 0, 1) := by decide +kernel
theorem dX10_registers_181 : decode cX10_registers 181 = .ok (.invokevirtual 238, 3) := by decide +kernel
theorem dX10_registers_184 : decode cX10_registers 184 = .ok (.ireturn, 1) := by decide +kernel
theorem dX10_registers_185 : decode cX10_registers 185 = .ok (.aload_n 0, 1) := by decide +kernel
theorem dX10_registers_186 : decode cX10_registers 186 = .ok (.lload_n 1, 1) := by decide +kernel
theorem dX10_registers_187 : decode cX10_registers 187 = .ok (.lload_n 3, 1) := by decide +kernel
theorem dX10_registers_188 : decode cX10_registers 188 = .ok (.invokestatic 292, 3) := by decide +kernel
theorem dX10_registers_191 : decode cX10_registers 191 = .ok (.ifCond .eq 7, 3) := by decide +kernel
theorem dX10_registers_194 : decode cX10_registers 194 = .ok (.lconst 1, 1) := by decide +kernel
theorem dX10_registers_195 : decode cX10_registers 195 = .ok (.goto 4, 3) := by decide +kernel
theorem dX10_registers_198 : decode cX10_registers 198 = .ok (.lconst 0, 1) := by decide +kernel
theorem dX10_registers_199 : decode cX10_registers 199 = .ok (.invokevirtual 238, 3) := by decide +kernel
theorem dX10_registers_202 : decode cX10_registers 202 = .ok (.ireturn, 1) := by decide +kernel
theorem dX10_registers_203 : decode cX10_registers 203 = .ok (.aload_n 0, 1) := by decide +kernel
theorem dX10_registers_204 : decode cX10_registers 204 = .ok (.lload_n 1, 1) := by decide +kernel
theorem dX10_registers_205 : decode cX10_registers 205 = .ok (.lload_n 3, 1) := by decide +kernel
theorem dX10_registers_206 : decode cX10_registers 206 = .ok (.lxor, 1) := by decide +kernel
theorem dX10_registers_207 : decode cX10_registers 207 = .ok (.invokevirtual 238, 3) := by decide +kernel
theorem dX10_registers_210 : decode cX10_registers 210 = .ok (.ireturn, 1) := by decide +kernel
theorem dX10_registers_211 : decode cX10_registers 211 = .ok (.aload_n 0, 1) := by decide +kernel
theorem dX10_registers_212 : decode cX10_registers 212 = .ok (.lload_n 1, 1) := by decide +kernel
theorem dX10_registers_213 : decode cX10_registers 213 = .ok (.lload_n 3, 1) := by decide +kernel
theorem dX10_registers_214 : decode cX10_registers 214 = .ok (.ldc2_w 300, 3) := by decide +kernel
theorem dX10_registers_217 : decode cX10_registers 217 = .ok (.land, 1) := by decide +kernel
theorem dX10_registers_218 : decode cX10_registers 218 = .ok (.l2i, 1) := by decide +kernel
theorem dX10_registers_219 : decode cX10_registers 219 = .ok (.lushr, 1) := by decide +kernel
theorem dX10_registers_220 : decode cX10_registers 220 = .ok (.invokevirtual 238, 3) := by decide +kernel
theorem dX10_registers_223 : decode cX10_registers 223 = .ok (.ireturn, 1) := by decide +kernel
theorem dX10_registers_224 : decode cX10_registers 224 = .ok (.aload_n 0, 1) := by decide +kernel
theorem dX10_registers_225 : decode cX10_registers 225 = .ok (.lload_n 1, 1) := by decide +kernel
theorem dX10_registers_226 : decode cX10_registers 226 = .ok (.lload_n 3, 1) := by decide +kernel
theorem dX10_registers_227 : decode cX10_registers 227 = .ok (.lor, 1) := by decide +kernel
theorem dX10_registers_228 : decode cX10_registers 228 = .ok (.invokevirtual 238, 3) := by decide +kernel
theorem dX10_registers_231 : decode cX10_registers 231 = .ok (.ireturn, 1) := by decide +kernel
theorem dX10_registers_232 : decode cX10_registers 232 = .ok (.aload_n 0, 1) := by decide +kernel
theorem dX10_registers_233 : decode cX10_registers 233 = .ok (.lload_n 1, 1) := by decide +kernel
theorem dX10_registers_234 : decode cX10_registers 234 = .ok (.lload_n 3, 1) := by decide +kernel
theorem dX10_registers_235 : decode cX10_registers 235 = .ok (.land, 1) := by decide +kernel
theorem dX10_registers_236 : decode cX10_registers 236 = .ok (.invokevirtual 238, 3) := by decide +kernel
theorem dX10_registers_239 : decode cX10_registers 239 = .ok (.ireturn, 1) := by decide +kernel
theorem dX10_upper_0 : decode cX10_upper 0 = .ok (.lload_n 0, 1) := by decide +kernel
theorem dX10_upper_1 : decode cX10_upper 1 = .ok (.ldc2_w 207, 3) := by decide +kernel
theorem dX10_upper_4 : decode cX10_upper 4 = .ok (.land, 1) := by decide +kernel
theorem dX10_upper_5 : decode cX10_upper 5 = .ok (.lstore 4, 2) := by decide +kernel
theorem dX10_upper_7 : decode cX10_upper 7 = .ok (.lload_n 0, 1) := by decide +kernel
theorem dX10_upper_8 : decode cX10_upper 8 = .ok (.bipush 32, 2) := by decide +kernel
theorem dX10_upper_10 : decode cX10_upper 10 = .ok (.lushr, 1) := by decide +kernel
theorem dX10_upper_11 : decode cX10_upper 11 = .ok (.lstore 6, 2) := by decide +kernel
theorem dX10_upper_13 : decode cX10_upper 13 = .ok (.lload_n 2, 1) := by decide +kernel
theorem dX10_upper_14 : decode cX10_upper 14 = .ok (.ldc2_w 207, 3) := by decide +kernel
theorem dX10_upper_17 : decode cX10_upper 17 = .ok (.land, 1) := by decide +kernel
theorem dX10_upper_18 : decode cX10_upper 18 = .ok (.lstore 8, 2) := by decide +kernel
theorem dX10_upper_20 : decode cX10_upper 20 = .ok (.lload_n 2, 1) := by decide +kernel
theorem dX10_upper_21 : decode cX10_upper 21 = .ok (.bipush 32, 2) := by decide +kernel
theorem dX10_upper_23 : decode cX10_upper 23 = .ok (.lushr, 1) := by decide +kernel
theorem dX10_upper_24 : decode cX10_upper 24 = .ok (.lstore 10, 2) := by decide +kernel
theorem dX10_upper_26 : decode cX10_upper 26 = .ok (.lload 6, 2) := by decide +kernel
theorem dX10_upper_28 : decode cX10_upper 28 = .ok (.lload 8, 2) := by decide +kernel
theorem dX10_upper_30 : decode cX10_upper 30 = .ok (.lmul, 1) := by decide +kernel
theorem dX10_upper_31 : decode cX10_upper 31 = .ok (.lload 4, 2) := by decide +kernel
theorem dX10_upper_33 : decode cX10_upper 33 = .ok (.lload 8, 2) := by decide +kernel
theorem dX10_upper_35 : decode cX10_upper 35 = .ok (.lmul, 1) := by decide +kernel
theorem dX10_upper_36 : decode cX10_upper 36 = .ok (.bipush 32, 2) := by decide +kernel
theorem dX10_upper_38 : decode cX10_upper 38 = .ok (.lushr, 1) := by decide +kernel
theorem dX10_upper_39 : decode cX10_upper 39 = .ok (.ladd, 1) := by decide +kernel
theorem dX10_upper_40 : decode cX10_upper 40 = .ok (.lstore 12, 2) := by decide +kernel
theorem dX10_upper_42 : decode cX10_upper 42 = .ok (.lload 4, 2) := by decide +kernel
theorem dX10_upper_44 : decode cX10_upper 44 = .ok (.lload 10, 2) := by decide +kernel
theorem dX10_upper_46 : decode cX10_upper 46 = .ok (.lmul, 1) := by decide +kernel
theorem dX10_upper_47 : decode cX10_upper 47 = .ok (.lload 12, 2) := by decide +kernel
theorem dX10_upper_49 : decode cX10_upper 49 = .ok (.ldc2_w 207, 3) := by decide +kernel
theorem dX10_upper_52 : decode cX10_upper 52 = .ok (.land, 1) := by decide +kernel
theorem dX10_upper_53 : decode cX10_upper 53 = .ok (.ladd, 1) := by decide +kernel
theorem dX10_upper_54 : decode cX10_upper 54 = .ok (.lstore 14, 2) := by decide +kernel
theorem dX10_upper_56 : decode cX10_upper 56 = .ok (.lload 6, 2) := by decide +kernel
theorem dX10_upper_58 : decode cX10_upper 58 = .ok (.lload 10, 2) := by decide +kernel
theorem dX10_upper_60 : decode cX10_upper 60 = .ok (.lmul, 1) := by decide +kernel
theorem dX10_upper_61 : decode cX10_upper 61 = .ok (.lload 12, 2) := by decide +kernel
theorem dX10_upper_63 : decode cX10_upper 63 = .ok (.bipush 32, 2) := by decide +kernel
theorem dX10_upper_65 : decode cX10_upper 65 = .ok (.lushr, 1) := by decide +kernel
theorem dX10_upper_66 : decode cX10_upper 66 = .ok (.ladd, 1) := by decide +kernel
theorem dX10_upper_67 : decode cX10_upper 67 = .ok (.lload 14, 2) := by decide +kernel
theorem dX10_upper_69 : decode cX10_upper 69 = .ok (.bipush 32, 2) := by decide +kernel
theorem dX10_upper_71 : decode cX10_upper 71 = .ok (.lushr, 1) := by decide +kernel
theorem dX10_upper_72 : decode cX10_upper 72 = .ok (.ladd, 1) := by decide +kernel
theorem dX10_upper_73 : decode cX10_upper 73 = .ok (.lreturn, 1) := by decide +kernel
theorem dX10_divided_0 : decode cX10_divided 0 = .ok (.lload_n 2, 1) := by decide +kernel
theorem dX10_divided_1 : decode cX10_divided 1 = .ok (.lconst 0, 1) := by decide +kernel
theorem dX10_divided_2 : decode cX10_divided 2 = .ok (.lcmp, 1) := by decide +kernel
theorem dX10_divided_3 : decode cX10_divided 3 = .ok (.ifCond .ge 17, 3) := by decide +kernel
theorem dX10_divided_6 : decode cX10_divided 6 = .ok (.lload_n 0, 1) := by decide +kernel
theorem dX10_divided_7 : decode cX10_divided 7 = .ok (.lload_n 2, 1) := by decide +kernel
theorem dX10_divided_8 : decode cX10_divided 8 = .ok (.invokestatic 292, 3) := by decide +kernel
theorem dX10_divided_11 : decode cX10_divided 11 = .ok (.ifCond .eq 7, 3) := by decide +kernel
theorem dX10_divided_14 : decode cX10_divided 14 = .ok (.lconst 0, 1) := by decide +kernel
theorem dX10_divided_15 : decode cX10_divided 15 = .ok (.goto 4, 3) := by decide +kernel
theorem dX10_divided_18 : decode cX10_divided 18 = .ok (.lconst 1, 1) := by decide +kernel
theorem dX10_divided_19 : decode cX10_divided 19 = .ok (.lreturn, 1) := by decide +kernel
theorem dX10_divided_20 : decode cX10_divided 20 = .ok (.lload_n 0, 1) := by decide +kernel
theorem dX10_divided_21 : decode cX10_divided 21 = .ok (.lconst 0, 1) := by decide +kernel
theorem dX10_divided_22 : decode cX10_divided 22 = .ok (.lcmp, 1) := by decide +kernel
theorem dX10_divided_23 : decode cX10_divided 23 = .ok (.ifCond .lt 7, 3) := by decide +kernel
theorem dX10_divided_26 : decode cX10_divided 26 = .ok (.lload_n 0, 1) := by decide +kernel
theorem dX10_divided_27 : decode cX10_divided 27 = .ok (.lload_n 2, 1) := by decide +kernel
theorem dX10_divided_28 : decode cX10_divided 28 = .ok (.ldiv, 1) := by decide +kernel
theorem dX10_divided_29 : decode cX10_divided 29 = .ok (.lreturn, 1) := by decide +kernel
theorem dX10_divided_30 : decode cX10_divided 30 = .ok (.lload_n 0, 1) := by decide +kernel
theorem dX10_divided_31 : decode cX10_divided 31 = .ok (.iconst 1, 1) := by decide +kernel
theorem dX10_divided_32 : decode cX10_divided 32 = .ok (.lushr, 1) := by decide +kernel
theorem dX10_divided_33 : decode cX10_divided 33 = .ok (.lload_n 2, 1) := by decide +kernel
theorem dX10_divided_34 : decode cX10_divided 34 = .ok (.ldiv, 1) := by decide +kernel
theorem dX10_divided_35 : decode cX10_divided 35 = .ok (.iconst 1, 1) := by decide +kernel
theorem dX10_divided_36 : decode cX10_divided 36 = .ok (.lshl, 1) := by decide +kernel
theorem dX10_divided_37 : decode cX10_divided 37 = .ok (.lstore 4, 2) := by decide +kernel
theorem dX10_divided_39 : decode cX10_divided 39 = .ok (.lload_n 0, 1) := by decide +kernel
theorem dX10_divided_40 : decode cX10_divided 40 = .ok (.lload 4, 2) := by decide +kernel
theorem dX10_divided_42 : decode cX10_divided 42 = .ok (.lload_n 2, 1) := by decide +kernel
theorem dX10_divided_43 : decode cX10_divided 43 = .ok (.lmul, 1) := by decide +kernel
theorem dX10_divided_44 : decode cX10_divided 44 = .ok (.lsub, 1) := by decide +kernel
theorem dX10_divided_45 : decode cX10_divided 45 = .ok (.lload_n 2, 1) := by decide +kernel
theorem dX10_divided_46 : decode cX10_divided 46 = .ok (.invokestatic 292, 3) := by decide +kernel
theorem dX10_divided_49 : decode cX10_divided 49 = .ok (.ifCond .eq 8, 3) := by decide +kernel
theorem dX10_divided_52 : decode cX10_divided 52 = .ok (.lload 4, 2) := by decide +kernel
theorem dX10_divided_54 : decode cX10_divided 54 = .ok (.goto 7, 3) := by decide +kernel
theorem dX10_divided_57 : decode cX10_divided 57 = .ok (.lload 4, 2) := by decide +kernel
theorem dX10_divided_59 : decode cX10_divided 59 = .ok (.lconst 1, 1) := by decide +kernel
theorem dX10_divided_60 : decode cX10_divided 60 = .ok (.ladd, 1) := by decide +kernel
theorem dX10_divided_61 : decode cX10_divided 61 = .ok (.lreturn, 1) := by decide +kernel
theorem dX10_product_0 : decode cX10_product 0 = .ok (.aload_n 0, 1) := by decide +kernel
theorem dX10_product_1 : decode cX10_product 1 = .ok (.getfield 226, 3) := by decide +kernel
theorem dX10_product_4 : decode cX10_product 4 = .ok (.tableswitch 175 0 6 #[44, 48, 78, 96, 102, 131, 149], 44) := by decide +kernel
theorem dX10_product_48 : decode cX10_product 48 = .ok (.lload_n 1, 1) := by decide +kernel
theorem dX10_product_49 : decode cX10_product 49 = .ok (.lload_n 3, 1) := by decide +kernel
theorem dX10_product_50 : decode cX10_product 50 = .ok (.lmul, 1) := by decide +kernel
theorem dX10_product_51 : decode cX10_product 51 = .ok (.lreturn, 1) := by decide +kernel
theorem dX10_product_52 : decode cX10_product 52 = .ok (.lload_n 1, 1) := by decide +kernel
theorem dX10_product_53 : decode cX10_product 53 = .ok (.lload_n 3, 1) := by decide +kernel
theorem dX10_product_54 : decode cX10_product 54 = .ok (.invokestatic 302, 3) := by decide +kernel
theorem dX10_product_57 : decode cX10_product 57 = .ok (.lload_n 1, 1) := by decide +kernel
theorem dX10_product_58 : decode cX10_product 58 = .ok (.lconst 0, 1) := by decide +kernel
theorem dX10_product_59 : decode cX10_product 59 = .ok (.lcmp, 1) := by decide +kernel
theorem dX10_product_60 : decode cX10_product 60 = .ok (.ifCond .ge 7, 3) := by decide +kernel
theorem dX10_product_63 : decode cX10_product 63 = .ok (.lload_n 3, 1) := by decide +kernel
theorem dX10_product_64 : decode cX10_product 64 = .ok (.goto 4, 3) := by decide +kernel
theorem dX10_product_67 : decode cX10_product 67 = .ok (.lconst 0, 1) := by decide +kernel
theorem dX10_product_68 : decode cX10_product 68 = .ok (.lsub, 1) := by decide +kernel
theorem dX10_product_69 : decode cX10_product 69 = .ok (.lload_n 3, 1) := by decide +kernel
theorem dX10_product_70 : decode cX10_product 70 = .ok (.lconst 0, 1) := by decide +kernel
theorem dX10_product_71 : decode cX10_product 71 = .ok (.lcmp, 1) := by decide +kernel
theorem dX10_product_72 : decode cX10_product 72 = .ok (.ifCond .ge 7, 3) := by decide +kernel
theorem dX10_product_75 : decode cX10_product 75 = .ok (.lload_n 1, 1) := by decide +kernel
theorem dX10_product_76 : decode cX10_product 76 = .ok (.goto 4, 3) := by decide +kernel
theorem dX10_product_79 : decode cX10_product 79 = .ok (.lconst 0, 1) := by decide +kernel
theorem dX10_product_80 : decode cX10_product 80 = .ok (.lsub, 1) := by decide +kernel
theorem dX10_product_81 : decode cX10_product 81 = .ok (.lreturn, 1) := by decide +kernel
theorem dX10_product_82 : decode cX10_product 82 = .ok (.lload_n 1, 1) := by decide +kernel
theorem dX10_product_83 : decode cX10_product 83 = .ok (.lload_n 3, 1) := by decide +kernel
theorem dX10_product_84 : decode cX10_product 84 = .ok (.invokestatic 302, 3) := by decide +kernel
theorem dX10_product_87 : decode cX10_product 87 = .ok (.lload_n 1, 1) := by decide +kernel
theorem dX10_product_88 : decode cX10_product 88 = .ok (.lconst 0, 1) := by decide +kernel
theorem dX10_product_89 : decode cX10_product 89 = .ok (.lcmp, 1) := by decide +kernel
theorem dX10_product_90 : decode cX10_product 90 = .ok (.ifCond .ge 7, 3) := by decide +kernel
theorem dX10_product_93 : decode cX10_product 93 = .ok (.lload_n 3, 1) := by decide +kernel
theorem dX10_product_94 : decode cX10_product 94 = .ok (.goto 4, 3) := by decide +kernel
theorem dX10_product_97 : decode cX10_product 97 = .ok (.lconst 0, 1) := by decide +kernel
theorem dX10_product_98 : decode cX10_product 98 = .ok (.lsub, 1) := by decide +kernel
theorem dX10_product_99 : decode cX10_product 99 = .ok (.lreturn, 1) := by decide +kernel
theorem dX10_product_100 : decode cX10_product 100 = .ok (.lload_n 1, 1) := by decide +kernel
theorem dX10_product_101 : decode cX10_product 101 = .ok (.lload_n 3, 1) := by decide +kernel
theorem dX10_product_102 : decode cX10_product 102 = .ok (.invokestatic 302, 3) := by decide +kernel
theorem dX10_product_105 : decode cX10_product 105 = .ok (.lreturn, 1) := by decide +kernel
theorem dX10_product_106 : decode cX10_product 106 = .ok (.lload_n 3, 1) := by decide +kernel
theorem dX10_product_107 : decode cX10_product 107 = .ok (.lconst 0, 1) := by decide +kernel
theorem dX10_product_108 : decode cX10_product 108 = .ok (.lcmp, 1) := by decide +kernel
theorem dX10_product_109 : decode cX10_product 109 = .ok (.ifCond .ne 9, 3) := by decide +kernel
theorem dX10_product_112 : decode cX10_product 112 = .ok (.ldc2_w 305, 3) := by decide +kernel
theorem dX10_product_115 : decode cX10_product 115 = .ok (.goto 19, 3) := by decide +kernel
theorem dX10_product_118 : decode cX10_product 118 = .ok (.lload_n 3, 1) := by decide +kernel
theorem dX10_product_119 : decode cX10_product 119 = .ok (.ldc2_w 305, 3) := by decide +kernel
theorem dX10_product_122 : decode cX10_product 122 = .ok (.lcmp, 1) := by decide +kernel
theorem dX10_product_123 : decode cX10_product 123 = .ok (.ifCond .ne 8, 3) := by decide +kernel
theorem dX10_product_126 : decode cX10_product 126 = .ok (.lload_n 1, 1) := by decide +kernel
theorem dX10_product_127 : decode cX10_product 127 = .ok (.lneg, 1) := by decide +kernel
theorem dX10_product_128 : decode cX10_product 128 = .ok (.goto 6, 3) := by decide +kernel
theorem dX10_product_131 : decode cX10_product 131 = .ok (.lload_n 1, 1) := by decide +kernel
theorem dX10_product_132 : decode cX10_product 132 = .ok (.lload_n 3, 1) := by decide +kernel
theorem dX10_product_133 : decode cX10_product 133 = .ok (.ldiv, 1) := by decide +kernel
theorem dX10_product_134 : decode cX10_product 134 = .ok (.lreturn, 1) := by decide +kernel
theorem dX10_product_135 : decode cX10_product 135 = .ok (.lload_n 3, 1) := by decide +kernel
theorem dX10_product_136 : decode cX10_product 136 = .ok (.lconst 0, 1) := by decide +kernel
theorem dX10_product_137 : decode cX10_product 137 = .ok (.lcmp, 1) := by decide +kernel
theorem dX10_product_138 : decode cX10_product 138 = .ok (.ifCond .ne 9, 3) := by decide +kernel
theorem dX10_product_141 : decode cX10_product 141 = .ok (.ldc2_w 305, 3) := by decide +kernel
theorem dX10_product_144 : decode cX10_product 144 = .ok (.goto 8, 3) := by decide +kernel
theorem dX10_product_147 : decode cX10_product 147 = .ok (.lload_n 1, 1) := by decide +kernel
theorem dX10_product_148 : decode cX10_product 148 = .ok (.lload_n 3, 1) := by decide +kernel
theorem dX10_product_149 : decode cX10_product 149 = .ok (.invokestatic 307, 3) := by decide +kernel
theorem dX10_product_152 : decode cX10_product 152 = .ok (.lreturn, 1) := by decide +kernel
theorem dX10_product_153 : decode cX10_product 153 = .ok (.lload_n 3, 1) := by decide +kernel
theorem dX10_product_154 : decode cX10_product 154 = .ok (.lconst 0, 1) := by decide +kernel
theorem dX10_product_155 : decode cX10_product 155 = .ok (.lcmp, 1) := by decide +kernel
theorem dX10_product_156 : decode cX10_product 156 = .ok (.ifCond .ne 7, 3) := by decide +kernel
theorem dX10_product_159 : decode cX10_product 159 = .ok (.lload_n 1, 1) := by decide +kernel
theorem dX10_product_160 : decode cX10_product 160 = .ok (.goto 18, 3) := by decide +kernel
theorem dX10_product_163 : decode cX10_product 163 = .ok (.lload_n 3, 1) := by decide +kernel
theorem dX10_product_164 : decode cX10_product 164 = .ok (.ldc2_w 305, 3) := by decide +kernel
theorem dX10_product_167 : decode cX10_product 167 = .ok (.lcmp, 1) := by decide +kernel
theorem dX10_product_168 : decode cX10_product 168 = .ok (.ifCond .ne 7, 3) := by decide +kernel
theorem dX10_product_171 : decode cX10_product 171 = .ok (.lconst 0, 1) := by decide +kernel
theorem dX10_product_172 : decode cX10_product 172 = .ok (.goto 6, 3) := by decide +kernel
theorem dX10_product_175 : decode cX10_product 175 = .ok (.lload_n 1, 1) := by decide +kernel
theorem dX10_product_176 : decode cX10_product 176 = .ok (.lload_n 3, 1) := by decide +kernel
theorem dX10_product_177 : decode cX10_product 177 = .ok (.lrem, 1) := by decide +kernel
theorem dX10_product_178 : decode cX10_product 178 = .ok (.lreturn, 1) := by decide +kernel
theorem dX10_product_179 : decode cX10_product 179 = .ok (.lload_n 3, 1) := by decide +kernel
theorem dX10_product_180 : decode cX10_product 180 = .ok (.lconst 0, 1) := by decide +kernel
theorem dX10_product_181 : decode cX10_product 181 = .ok (.lcmp, 1) := by decide +kernel
theorem dX10_product_182 : decode cX10_product 182 = .ok (.ifCond .ne 7, 3) := by decide +kernel
theorem dX10_product_185 : decode cX10_product 185 = .ok (.lload_n 1, 1) := by decide +kernel
theorem dX10_product_186 : decode cX10_product 186 = .ok (.goto 12, 3) := by decide +kernel
theorem dX10_product_189 : decode cX10_product 189 = .ok (.lload_n 1, 1) := by decide +kernel
theorem dX10_product_190 : decode cX10_product 190 = .ok (.lload_n 1, 1) := by decide +kernel
theorem dX10_product_191 : decode cX10_product 191 = .ok (.lload_n 3, 1) := by decide +kernel
theorem dX10_product_192 : decode cX10_product 192 = .ok (.invokestatic 307, 3) := by decide +kernel
theorem dX10_product_195 : decode cX10_product 195 = .ok (.lload_n 3, 1) := by decide +kernel
theorem dX10_product_196 : decode cX10_product 196 = .ok (.lmul, 1) := by decide +kernel
theorem dX10_product_197 : decode cX10_product 197 = .ok (.lsub, 1) := by decide +kernel
theorem dX10_product_198 : decode cX10_product 198 = .ok (.lreturn, 1) := by decide +kernel
theorem dX10_registersW_0 : decode cX10_registersW 0 = .ok (.aload_n 0, 1) := by decide +kernel
theorem dX10_registersW_1 : decode cX10_registersW 1 = .ok (.aload_n 0, 1) := by decide +kernel
theorem dX10_registersW_2 : decode cX10_registersW 2 = .ok (.getfield 229, 3) := by decide +kernel
theorem dX10_registersW_5 : decode cX10_registersW 5 = .ok (.invokevirtual 253, 3) := by decide +kernel
theorem dX10_registersW_8 : decode cX10_registersW 8 = .ok (.l2i, 1) := by decide +kernel
theorem dX10_registersW_9 : decode cX10_registersW 9 = .ok (.istore_n 1, 1) := by decide +kernel
theorem dX10_registersW_10 : decode cX10_registersW 10 = .ok (.aload_n 0, 1) := by decide +kernel
theorem dX10_registersW_11 : decode cX10_registersW 11 = .ok (.aload_n 0, 1) := by decide +kernel
theorem dX10_registersW_12 : decode cX10_registersW 12 = .ok (.getfield 232, 3) := by decide +kernel
theorem dX10_registersW_15 : decode cX10_registersW 15 = .ok (.invokevirtual 253, 3) := by decide +kernel
theorem dX10_registersW_18 : decode cX10_registersW 18 = .ok (.l2i, 1) := by decide +kernel
theorem dX10_registersW_19 : decode cX10_registersW 19 = .ok (.istore_n 2, 1) := by decide +kernel
theorem dX10_registersW_20 : decode cX10_registersW 20 = .ok (.iload_n 1, 1) := by decide +kernel
theorem dX10_registersW_21 : decode cX10_registersW 21 = .ok (.i2l, 1) := by decide +kernel
theorem dX10_registersW_22 : decode cX10_registersW 22 = .ok (.ldc2_w 207, 3) := by decide +kernel
theorem dX10_registersW_25 : decode cX10_registersW 25 = .ok (.land, 1) := by decide +kernel
theorem dX10_registersW_26 : decode cX10_registersW 26 = .ok (.lstore_n 3, 1) := by decide +kernel
theorem dX10_registersW_27 : decode cX10_registersW 27 = .ok (.iload_n 2, 1) := by decide +kernel
theorem dX10_registersW_28 : decode cX10_registersW 28 = .ok (.i2l, 1) := by decide +kernel
theorem dX10_registersW_29 : decode cX10_registersW 29 = .ok (.ldc2_w 207, 3) := by decide +kernel
theorem dX10_registersW_32 : decode cX10_registersW 32 = .ok (.land, 1) := by decide +kernel
theorem dX10_registersW_33 : decode cX10_registersW 33 = .ok (.lstore 5, 2) := by decide +kernel
theorem dX10_registersW_35 : decode cX10_registersW 35 = .ok (.aload_n 0, 1) := by decide +kernel
theorem dX10_registersW_36 : decode cX10_registersW 36 = .ok (.getfield 235, 3) := by decide +kernel
theorem dX10_registersW_39 : decode cX10_registersW 39 = .ok (.iconst 1, 1) := by decide +kernel
theorem dX10_registersW_40 : decode cX10_registersW 40 = .ok (.if_icmp .ne 164, 3) := by decide +kernel
theorem dX10_registersW_43 : decode cX10_registersW 43 = .ok (.aload_n 0, 1) := by decide +kernel
theorem dX10_registersW_44 : decode cX10_registersW 44 = .ok (.getfield 226, 3) := by decide +kernel
theorem dX10_registersW_47 : decode cX10_registersW 47 = .ok (.tableswitch 152 0 7 #[45, 152, 152, 152, 54, 84, 105, 132], 45) := by decide +kernel
theorem dX10_registersW_92 : decode cX10_registersW 92 = .ok (.aload_n 0, 1) := by decide +kernel
theorem dX10_registersW_93 : decode cX10_registersW 93 = .ok (.iload_n 1, 1) := by decide +kernel
theorem dX10_registersW_94 : decode cX10_registersW 94 = .ok (.iload_n 2, 1) := by decide +kernel
theorem dX10_registersW_95 : decode cX10_registersW 95 = .ok (.imul, 1) := by decide +kernel
theorem dX10_registersW_96 : decode cX10_registersW 96 = .ok (.i2l, 1) := by decide +kernel
theorem dX10_registersW_97 : decode cX10_registersW 97 = .ok (.invokevirtual 238, 3) := by decide +kernel
theorem dX10_registersW_100 : decode cX10_registersW 100 = .ok (.ireturn, 1) := by decide +kernel
theorem dX10_registersW_101 : decode cX10_registersW 101 = .ok (.aload_n 0, 1) := by decide +kernel
theorem dX10_registersW_102 : decode cX10_registersW 102 = .ok (.iload_n 2, 1) := by decide +kernel
theorem dX10_registersW_103 : decode cX10_registersW 103 = .ok (.ifCond .ne 9, 3) := by decide +kernel
theorem dX10_registersW_106 : decode cX10_registersW 106 = .ok (.ldc2_w 305, 3) := by decide +kernel
theorem dX10_registersW_109 : decode cX10_registersW 109 = .ok (.goto 18, 3) := by decide +kernel
theorem dX10_registersW_112 : decode cX10_registersW 112 = .ok (.iload_n 2, 1) := by decide +kernel
theorem dX10_registersW_113 : decode cX10_registersW 113 = .ok (.iconst (-1), 1) := by decide +kernel
theorem dX10_registersW_114 : decode cX10_registersW 114 = .ok (.if_icmp .ne 9, 3) := by decide +kernel
theorem dX10_registersW_117 : decode cX10_registersW 117 = .ok (.iload_n 1, 1) := by decide +kernel
theorem dX10_registersW_118 : decode cX10_registersW 118 = .ok (.ineg, 1) := by decide +kernel
theorem dX10_registersW_119 : decode cX10_registersW 119 = .ok (.i2l, 1) := by decide +kernel
theorem dX10_registersW_120 : decode cX10_registersW 120 = .ok (.goto 7, 3) := by decide +kernel
theorem dX10_registersW_123 : decode cX10_registersW 123 = .ok (.iload_n 1, 1) := by decide +kernel
theorem dX10_registersW_124 : decode cX10_registersW 124 = .ok (.iload_n 2, 1) := by decide +kernel
theorem dX10_registersW_125 : decode cX10_registersW 125 = .ok (.idiv, 1) := by decide +kernel
theorem dX10_registersW_126 : decode cX10_registersW 126 = .ok (.i2l, 1) := by decide +kernel
theorem dX10_registersW_127 : decode cX10_registersW 127 = .ok (.invokevirtual 238, 3) := by decide +kernel
theorem dX10_registersW_130 : decode cX10_registersW 130 = .ok (.ireturn, 1) := by decide +kernel
theorem dX10_registersW_131 : decode cX10_registersW 131 = .ok (.aload_n 0, 1) := by decide +kernel
theorem dX10_registersW_132 : decode cX10_registersW 132 = .ok (.iload_n 2, 1) := by decide +kernel
theorem dX10_registersW_133 : decode cX10_registersW 133 = .ok (.ifCond .ne 9, 3) := by decide +kernel
theorem dX10_registersW_136 : decode cX10_registersW 136 = .ok (.ldc2_w 305, 3) := by decide +kernel
theorem dX10_registersW_139 : decode cX10_registersW 139 = .ok (.goto 9, 3) := by decide +kernel
theorem dX10_registersW_142 : decode cX10_registersW 142 = .ok (.lload_n 3, 1) := by decide +kernel
theorem dX10_registersW_143 : decode cX10_registersW 143 = .ok (.lload 5, 2) := by decide +kernel
theorem dX10_registersW_145 : decode cX10_registersW 145 = .ok (.ldiv, 1) := by decide +kernel
theorem dX10_registersW_146 : decode cX10_registersW 146 = .ok (.l2i, 1) := by decide +kernel
theorem dX10_registersW_147 : decode cX10_registersW 147 = .ok (.i2l, 1) := by decide +kernel
theorem dX10_registersW_148 : decode cX10_registersW 148 = .ok (.invokevirtual 238, 3) := by decide +kernel
theorem dX10_registersW_151 : decode cX10_registersW 151 = .ok (.ireturn, 1) := by decide +kernel
theorem dX10_registersW_152 : decode cX10_registersW 152 = .ok (.aload_n 0, 1) := by decide +kernel
theorem dX10_registersW_153 : decode cX10_registersW 153 = .ok (.iload_n 2, 1) := by decide +kernel
theorem dX10_registersW_154 : decode cX10_registersW 154 = .ok (.ifCond .ne 8, 3) := by decide +kernel
theorem dX10_registersW_157 : decode cX10_registersW 157 = .ok (.iload_n 1, 1) := by decide +kernel
theorem dX10_registersW_158 : decode cX10_registersW 158 = .ok (.i2l, 1) := by decide +kernel
theorem dX10_registersW_159 : decode cX10_registersW 159 = .ok (.goto 16, 3) := by decide +kernel
theorem dX10_registersW_162 : decode cX10_registersW 162 = .ok (.iload_n 2, 1) := by decide +kernel
theorem dX10_registersW_163 : decode cX10_registersW 163 = .ok (.iconst (-1), 1) := by decide +kernel
theorem dX10_registersW_164 : decode cX10_registersW 164 = .ok (.if_icmp .ne 7, 3) := by decide +kernel
theorem dX10_registersW_167 : decode cX10_registersW 167 = .ok (.lconst 0, 1) := by decide +kernel
theorem dX10_registersW_168 : decode cX10_registersW 168 = .ok (.goto 7, 3) := by decide +kernel
theorem dX10_registersW_171 : decode cX10_registersW 171 = .ok (.iload_n 1, 1) := by decide +kernel
theorem dX10_registersW_172 : decode cX10_registersW 172 = .ok (.iload_n 2, 1) := by decide +kernel
theorem dX10_registersW_173 : decode cX10_registersW 173 = .ok (.irem, 1) := by decide +kernel
theorem dX10_registersW_174 : decode cX10_registersW 174 = .ok (.i2l, 1) := by decide +kernel
theorem dX10_registersW_175 : decode cX10_registersW 175 = .ok (.invokevirtual 238, 3) := by decide +kernel
theorem dX10_registersW_178 : decode cX10_registersW 178 = .ok (.ireturn, 1) := by decide +kernel
theorem dX10_registersW_179 : decode cX10_registersW 179 = .ok (.aload_n 0, 1) := by decide +kernel
theorem dX10_registersW_180 : decode cX10_registersW 180 = .ok (.iload_n 2, 1) := by decide +kernel
theorem dX10_registersW_181 : decode cX10_registersW 181 = .ok (.ifCond .ne 8, 3) := by decide +kernel
theorem dX10_registersW_184 : decode cX10_registersW 184 = .ok (.iload_n 1, 1) := by decide +kernel
theorem dX10_registersW_185 : decode cX10_registersW 185 = .ok (.i2l, 1) := by decide +kernel
theorem dX10_registersW_186 : decode cX10_registersW 186 = .ok (.goto 9, 3) := by decide +kernel
theorem dX10_registersW_189 : decode cX10_registersW 189 = .ok (.lload_n 3, 1) := by decide +kernel
theorem dX10_registersW_190 : decode cX10_registersW 190 = .ok (.lload 5, 2) := by decide +kernel
theorem dX10_registersW_192 : decode cX10_registersW 192 = .ok (.lrem, 1) := by decide +kernel
theorem dX10_registersW_193 : decode cX10_registersW 193 = .ok (.l2i, 1) := by decide +kernel
theorem dX10_registersW_194 : decode cX10_registersW 194 = .ok (.i2l, 1) := by decide +kernel
theorem dX10_registersW_195 : decode cX10_registersW 195 = .ok (.invokevirtual 238, 3) := by decide +kernel
theorem dX10_registersW_198 : decode cX10_registersW 198 = .ok (.ireturn, 1) := by decide +kernel
theorem dX10_registersW_199 : decode cX10_registersW 199 = .ok (.aload_n 0, 1) := by decide +kernel
theorem dX10_registersW_200 : decode cX10_registersW 200 = .ok (.invokevirtual 250, 3) := by decide +kernel
theorem dX10_registersW_203 : decode cX10_registersW 203 = .ok (.ireturn, 1) := by decide +kernel
theorem dX10_registersW_204 : decode cX10_registersW 204 = .ok (.aload_n 0, 1) := by decide +kernel
theorem dX10_registersW_205 : decode cX10_registersW 205 = .ok (.getfield 235, 3) := by decide +kernel
theorem dX10_registersW_208 : decode cX10_registersW 208 = .ok (.bipush 32, 2) := by decide +kernel
theorem dX10_registersW_210 : decode cX10_registersW 210 = .ok (.if_icmp .ne 48, 3) := by decide +kernel
theorem dX10_registersW_213 : decode cX10_registersW 213 = .ok (.aload_n 0, 1) := by decide +kernel
theorem dX10_registersW_214 : decode cX10_registersW 214 = .ok (.getfield 226, 3) := by decide +kernel
theorem dX10_registersW_217 : decode cX10_registersW 217 = .ok (.ifCond .ne 14, 3) := by decide +kernel
theorem dX10_registersW_220 : decode cX10_registersW 220 = .ok (.aload_n 0, 1) := by decide +kernel
theorem dX10_registersW_221 : decode cX10_registersW 221 = .ok (.iload_n 1, 1) := by decide +kernel
theorem dX10_registersW_222 : decode cX10_registersW 222 = .ok (.iload_n 2, 1) := by decide +kernel
theorem dX10_registersW_223 : decode cX10_registersW 223 = .ok (.isub, 1) := by decide +kernel
theorem dX10_registersW_224 : decode cX10_registersW 224 = .ok (.i2l, 1) := by decide +kernel
theorem dX10_registersW_225 : decode cX10_registersW 225 = .ok (.invokevirtual 238, 3) := by decide +kernel
theorem dX10_registersW_228 : decode cX10_registersW 228 = .ok (.goto 29, 3) := by decide +kernel
theorem dX10_registersW_231 : decode cX10_registersW 231 = .ok (.aload_n 0, 1) := by decide +kernel
theorem dX10_registersW_232 : decode cX10_registersW 232 = .ok (.getfield 226, 3) := by decide +kernel
theorem dX10_registersW_235 : decode cX10_registersW 235 = .ok (.iconst 5, 1) := by decide +kernel
theorem dX10_registersW_236 : decode cX10_registersW 236 = .ok (.if_icmp .ne 17, 3) := by decide +kernel
theorem dX10_registersW_239 : decode cX10_registersW 239 = .ok (.aload_n 0, 1) := by decide +kernel
theorem dX10_registersW_240 : decode cX10_registersW 240 = .ok (.iload_n 1, 1) := by decide +kernel
theorem dX10_registersW_241 : decode cX10_registersW 241 = .ok (.iload_n 2, 1) := by decide +kernel
theorem dX10_registersW_242 : decode cX10_registersW 242 = .ok (.bipush 31, 2) := by decide +kernel
theorem dX10_registersW_244 : decode cX10_registersW 244 = .ok (.iand, 1) := by decide +kernel
theorem dX10_registersW_245 : decode cX10_registersW 245 = .ok (.ishr, 1) := by decide +kernel
theorem dX10_registersW_246 : decode cX10_registersW 246 = .ok (.i2l, 1) := by decide +kernel
theorem dX10_registersW_247 : decode cX10_registersW 247 = .ok (.invokevirtual 238, 3) := by decide +kernel
theorem dX10_registersW_250 : decode cX10_registersW 250 = .ok (.goto 7, 3) := by decide +kernel
theorem dX10_registersW_253 : decode cX10_registersW 253 = .ok (.aload_n 0, 1) := by decide +kernel
theorem dX10_registersW_254 : decode cX10_registersW 254 = .ok (.invokevirtual 250, 3) := by decide +kernel
theorem dX10_registersW_257 : decode cX10_registersW 257 = .ok (.ireturn, 1) := by decide +kernel
theorem dX10_registersW_258 : decode cX10_registersW 258 = .ok (.aload_n 0, 1) := by decide +kernel
theorem dX10_registersW_259 : decode cX10_registersW 259 = .ok (.getfield 235, 3) := by decide +kernel
theorem dX10_registersW_262 : decode cX10_registersW 262 = .ok (.ifCond .eq 8, 3) := by decide +kernel
theorem dX10_registersW_265 : decode cX10_registersW 265 = .ok (.aload_n 0, 1) := by decide +kernel
theorem dX10_registersW_266 : decode cX10_registersW 266 = .ok (.invokevirtual 250, 3) := by decide +kernel
theorem dX10_registersW_269 : decode cX10_registersW 269 = .ok (.ireturn, 1) := by decide +kernel
theorem dX10_registersW_270 : decode cX10_registersW 270 = .ok (.aload_n 0, 1) := by decide +kernel
theorem dX10_registersW_271 : decode cX10_registersW 271 = .ok (.getfield 226, 3) := by decide +kernel
theorem dX10_registersW_274 : decode cX10_registersW 274 = .ok (.ifCond .ne 14, 3) := by decide +kernel
theorem dX10_registersW_277 : decode cX10_registersW 277 = .ok (.aload_n 0, 1) := by decide +kernel
theorem dX10_registersW_278 : decode cX10_registersW 278 = .ok (.iload_n 1, 1) := by decide +kernel
theorem dX10_registersW_279 : decode cX10_registersW 279 = .ok (.iload_n 2, 1) := by decide +kernel
theorem dX10_registersW_280 : decode cX10_registersW 280 = .ok (.iadd, 1) := by decide +kernel
theorem dX10_registersW_281 : decode cX10_registersW 281 = .ok (.i2l, 1) := by decide +kernel
theorem dX10_registersW_282 : decode cX10_registersW 282 = .ok (.invokevirtual 238, 3) := by decide +kernel
theorem dX10_registersW_285 : decode cX10_registersW 285 = .ok (.goto 51, 3) := by decide +kernel
theorem dX10_registersW_288 : decode cX10_registersW 288 = .ok (.aload_n 0, 1) := by decide +kernel
theorem dX10_registersW_289 : decode cX10_registersW 289 = .ok (.getfield 226, 3) := by decide +kernel
theorem dX10_registersW_292 : decode cX10_registersW 292 = .ok (.iconst 1, 1) := by decide +kernel
theorem dX10_registersW_293 : decode cX10_registersW 293 = .ok (.if_icmp .ne 17, 3) := by decide +kernel
theorem dX10_registersW_296 : decode cX10_registersW 296 = .ok (.aload_n 0, 1) := by decide +kernel
theorem dX10_registersW_297 : decode cX10_registersW 297 = .ok (.iload_n 1, 1) := by decide +kernel
theorem dX10_registersW_298 : decode cX10_registersW 298 = .ok (.iload_n 2, 1) := by decide +kernel
theorem dX10_registersW_299 : decode cX10_registersW 299 = .ok (.bipush 31, 2) := by decide +kernel
theorem dX10_registersW_301 : decode cX10_registersW 301 = .ok (.iand, 1) := by decide +kernel
theorem dX10_registersW_302 : decode cX10_registersW 302 = .ok (.ishl, 1) := by decide +kernel
theorem dX10_registersW_303 : decode cX10_registersW 303 = .ok (.i2l, 1) := by decide +kernel
theorem dX10_registersW_304 : decode cX10_registersW 304 = .ok (.invokevirtual 238, 3) := by decide +kernel
theorem dX10_registersW_307 : decode cX10_registersW 307 = .ok (.goto 29, 3) := by decide +kernel
theorem dX10_registersW_310 : decode cX10_registersW 310 = .ok (.aload_n 0, 1) := by decide +kernel
theorem dX10_registersW_311 : decode cX10_registersW 311 = .ok (.getfield 226, 3) := by decide +kernel
theorem dX10_registersW_314 : decode cX10_registersW 314 = .ok (.iconst 5, 1) := by decide +kernel
theorem dX10_registersW_315 : decode cX10_registersW 315 = .ok (.if_icmp .ne 17, 3) := by decide +kernel
theorem dX10_registersW_318 : decode cX10_registersW 318 = .ok (.aload_n 0, 1) := by decide +kernel
theorem dX10_registersW_319 : decode cX10_registersW 319 = .ok (.iload_n 1, 1) := by decide +kernel
theorem dX10_registersW_320 : decode cX10_registersW 320 = .ok (.iload_n 2, 1) := by decide +kernel
theorem dX10_registersW_321 : decode cX10_registersW 321 = .ok (.bipush 31, 2) := by decide +kernel
theorem dX10_registersW_323 : decode cX10_registersW 323 = .ok (.iand, 1) := by decide +kernel
theorem dX10_registersW_324 : decode cX10_registersW 324 = .ok (.iushr, 1) := by decide +kernel
theorem dX10_registersW_325 : decode cX10_registersW 325 = .ok (.i2l, 1) := by decide +kernel
theorem dX10_registersW_326 : decode cX10_registersW 326 = .ok (.invokevirtual 238, 3) := by decide +kernel
theorem dX10_registersW_329 : decode cX10_registersW 329 = .ok (.goto 7, 3) := by decide +kernel
theorem dX10_registersW_332 : decode cX10_registersW 332 = .ok (.aload_n 0, 1) := by decide +kernel
theorem dX10_registersW_333 : decode cX10_registersW 333 = .ok (.invokevirtual 250, 3) := by decide +kernel
theorem dX10_registersW_336 : decode cX10_registersW 336 = .ok (.ireturn, 1) := by decide +kernel
theorem dX10_system_0 : decode cX10_system 0 = .ok (.aload_n 0, 1) := by decide +kernel
theorem dX10_system_1 : decode cX10_system 1 = .ok (.getfield 226, 3) := by decide +kernel
theorem dX10_system_4 : decode cX10_system 4 = .ok (.iconst 4, 1) := by decide +kernel
theorem dX10_system_5 : decode cX10_system 5 = .ok (.if_icmp .ne 8, 3) := by decide +kernel
theorem dX10_system_8 : decode cX10_system 8 = .ok (.aload_n 0, 1) := by decide +kernel
theorem dX10_system_9 : decode cX10_system 9 = .ok (.invokevirtual 250, 3) := by decide +kernel
theorem dX10_system_12 : decode cX10_system 12 = .ok (.ireturn, 1) := by decide +kernel
theorem dX10_system_13 : decode cX10_system 13 = .ok (.aload_n 0, 1) := by decide +kernel
theorem dX10_system_14 : decode cX10_system 14 = .ok (.getfield 226, 3) := by decide +kernel
theorem dX10_system_17 : decode cX10_system 17 = .ok (.ifCond .eq 22, 3) := by decide +kernel
theorem dX10_system_20 : decode cX10_system 20 = .ok (.aload_n 0, 1) := by decide +kernel
theorem dX10_system_21 : decode cX10_system 21 = .ok (.getfield 21, 3) := by decide +kernel
theorem dX10_system_24 : decode cX10_system 24 = .ok (.ifCond .eq 10, 3) := by decide +kernel
theorem dX10_system_27 : decode cX10_system 27 = .ok (.aload_n 0, 1) := by decide +kernel
theorem dX10_system_28 : decode cX10_system 28 = .ok (.invokevirtual 310, 3) := by decide +kernel
theorem dX10_system_31 : decode cX10_system 31 = .ok (.goto 7, 3) := by decide +kernel
theorem dX10_system_34 : decode cX10_system 34 = .ok (.aload_n 0, 1) := by decide +kernel
theorem dX10_system_35 : decode cX10_system 35 = .ok (.invokevirtual 250, 3) := by decide +kernel
theorem dX10_system_38 : decode cX10_system 38 = .ok (.ireturn, 1) := by decide +kernel
theorem dX10_system_39 : decode cX10_system 39 = .ok (.aload_n 0, 1) := by decide +kernel
theorem dX10_system_40 : decode cX10_system 40 = .ok (.getfield 204, 3) := by decide +kernel
theorem dX10_system_43 : decode cX10_system 43 = .ok (.lookupswitch 152 #[(115, 41), (1048691, 90), (273678451, 97), (807403635, 102)], 41) := by decide +kernel
theorem dX10_system_84 : decode cX10_system 84 = .ok (.aload_n 0, 1) := by decide +kernel
theorem dX10_system_85 : decode cX10_system 85 = .ok (.getfield 21, 3) := by decide +kernel
theorem dX10_system_88 : decode cX10_system 88 = .ok (.ifCond .eq 11, 3) := by decide +kernel
theorem dX10_system_91 : decode cX10_system 91 = .ok (.aload_n 0, 1) := by decide +kernel
theorem dX10_system_92 : decode cX10_system 92 = .ok (.bipush 11, 2) := by decide +kernel
theorem dX10_system_94 : decode cX10_system 94 = .ok (.lconst 0, 1) := by decide +kernel
theorem dX10_system_95 : decode cX10_system 95 = .ok (.invokevirtual 209, 3) := by decide +kernel
theorem dX10_system_98 : decode cX10_system 98 = .ok (.ireturn, 1) := by decide +kernel
theorem dX10_system_99 : decode cX10_system 99 = .ok (.aload_n 0, 1) := by decide +kernel
theorem dX10_system_100 : decode cX10_system 100 = .ok (.getfield 18, 3) := by decide +kernel
theorem dX10_system_103 : decode cX10_system 103 = .ok (.aload_n 0, 1) := by decide +kernel
theorem dX10_system_104 : decode cX10_system 104 = .ok (.invokevirtual 166, 3) := by decide +kernel
theorem dX10_system_107 : decode cX10_system 107 = .ok (.lload_n 1, 1) := by decide +kernel
theorem dX10_system_108 : decode cX10_system 108 = .ok (.ldc2_w 140, 3) := by decide +kernel
theorem dX10_system_111 : decode cX10_system 111 = .ok (.ladd, 1) := by decide +kernel
theorem dX10_system_112 : decode cX10_system 112 = .ok (.lastore, 1) := by decide +kernel
theorem dX10_system_113 : decode cX10_system 113 = .ok (.aload_n 0, 1) := by decide +kernel
theorem dX10_system_114 : decode cX10_system 114 = .ok (.getfield 29, 3) := by decide +kernel
theorem dX10_system_117 : decode cX10_system 117 = .ok (.ifCond .lt 10, 3) := by decide +kernel
theorem dX10_system_120 : decode cX10_system 120 = .ok (.aload_n 0, 1) := by decide +kernel
theorem dX10_system_121 : decode cX10_system 121 = .ok (.invokevirtual 313, 3) := by decide +kernel
theorem dX10_system_124 : decode cX10_system 124 = .ok (.goto 7, 3) := by decide +kernel
theorem dX10_system_127 : decode cX10_system 127 = .ok (.aload_n 0, 1) := by decide +kernel
theorem dX10_system_128 : decode cX10_system 128 = .ok (.invokevirtual 316, 3) := by decide +kernel
theorem dX10_system_131 : decode cX10_system 131 = .ok (.iconst (-1), 1) := by decide +kernel
theorem dX10_system_132 : decode cX10_system 132 = .ok (.ireturn, 1) := by decide +kernel
theorem dX10_system_133 : decode cX10_system 133 = .ok (.aload_n 0, 1) := by decide +kernel
theorem dX10_system_134 : decode cX10_system 134 = .ok (.iconst 3, 1) := by decide +kernel
theorem dX10_system_135 : decode cX10_system 135 = .ok (.lload_n 1, 1) := by decide +kernel
theorem dX10_system_136 : decode cX10_system 136 = .ok (.invokevirtual 209, 3) := by decide +kernel
theorem dX10_system_139 : decode cX10_system 139 = .ok (.ireturn, 1) := by decide +kernel
theorem dX10_system_140 : decode cX10_system 140 = .ok (.aload_n 0, 1) := by decide +kernel
theorem dX10_system_141 : decode cX10_system 141 = .ok (.invokevirtual 279, 3) := by decide +kernel
theorem dX10_system_144 : decode cX10_system 144 = .ok (.ireturn, 1) := by decide +kernel
theorem dX10_system_145 : decode cX10_system 145 = .ok (.aload_n 0, 1) := by decide +kernel
theorem dX10_system_146 : decode cX10_system 146 = .ok (.getfield 21, 3) := by decide +kernel
theorem dX10_system_149 : decode cX10_system 149 = .ok (.ifCond .ne 8, 3) := by decide +kernel
theorem dX10_system_152 : decode cX10_system 152 = .ok (.aload_n 0, 1) := by decide +kernel
theorem dX10_system_153 : decode cX10_system 153 = .ok (.invokevirtual 250, 3) := by decide +kernel
theorem dX10_system_156 : decode cX10_system 156 = .ok (.ireturn, 1) := by decide +kernel
theorem dX10_system_157 : decode cX10_system 157 = .ok (.aload_n 0, 1) := by decide +kernel
theorem dX10_system_158 : decode cX10_system 158 = .ok (.getfield 18, 3) := by decide +kernel
theorem dX10_system_161 : decode cX10_system 161 = .ok (.bipush 6, 2) := by decide +kernel
theorem dX10_system_163 : decode cX10_system 163 = .ok (.aload_n 0, 1) := by decide +kernel
theorem dX10_system_164 : decode cX10_system 164 = .ok (.getfield 117, 3) := by decide +kernel
theorem dX10_system_167 : decode cX10_system 167 = .ok (.lastore, 1) := by decide +kernel
theorem dX10_system_168 : decode cX10_system 168 = .ok (.aload_n 0, 1) := by decide +kernel
theorem dX10_system_169 : decode cX10_system 169 = .ok (.aload_n 0, 1) := by decide +kernel
theorem dX10_system_170 : decode cX10_system 170 = .ok (.getfield 111, 3) := by decide +kernel
theorem dX10_system_173 : decode cX10_system 173 = .ok (.ldc2_w 213, 3) := by decide +kernel
theorem dX10_system_176 : decode cX10_system 176 = .ok (.lcmp, 1) := by decide +kernel
theorem dX10_system_177 : decode cX10_system 177 = .ok (.ifCond .ne 7, 3) := by decide +kernel
theorem dX10_system_180 : decode cX10_system 180 = .ok (.iconst 1, 1) := by decide +kernel
theorem dX10_system_181 : decode cX10_system 181 = .ok (.goto 4, 3) := by decide +kernel
theorem dX10_system_184 : decode cX10_system 184 = .ok (.iconst 0, 1) := by decide +kernel
theorem dX10_system_185 : decode cX10_system 185 = .ok (.putfield 21, 3) := by decide +kernel
theorem dX10_system_188 : decode cX10_system 188 = .ok (.aload_n 0, 1) := by decide +kernel
theorem dX10_system_189 : decode cX10_system 189 = .ok (.lconst 0, 1) := by decide +kernel
theorem dX10_system_190 : decode cX10_system 190 = .ok (.putfield 111, 3) := by decide +kernel
theorem dX10_system_193 : decode cX10_system 193 = .ok (.iconst (-1), 1) := by decide +kernel
theorem dX10_system_194 : decode cX10_system 194 = .ok (.ireturn, 1) := by decide +kernel
theorem dX10_system_195 : decode cX10_system 195 = .ok (.aload_n 0, 1) := by decide +kernel
theorem dX10_system_196 : decode cX10_system 196 = .ok (.invokevirtual 250, 3) := by decide +kernel
theorem dX10_system_199 : decode cX10_system 199 = .ok (.ireturn, 1) := by decide +kernel
theorem dX10_isCsr_0 : decode cX10_isCsr 0 = .ok (.iload_n 0, 1) := by decide +kernel
theorem dX10_isCsr_1 : decode cX10_isCsr 1 = .ok (.sipush 768, 3) := by decide +kernel
theorem dX10_isCsr_4 : decode cX10_isCsr 4 = .ok (.if_icmp .eq 59, 3) := by decide +kernel
theorem dX10_isCsr_7 : decode cX10_isCsr 7 = .ok (.iload_n 0, 1) := by decide +kernel
theorem dX10_isCsr_8 : decode cX10_isCsr 8 = .ok (.i2l, 1) := by decide +kernel
theorem dX10_isCsr_9 : decode cX10_isCsr 9 = .ok (.ldc2_w 319, 3) := by decide +kernel
theorem dX10_isCsr_12 : decode cX10_isCsr 12 = .ok (.ldc2_w 321, 3) := by decide +kernel
theorem dX10_isCsr_15 : decode cX10_isCsr 15 = .ok (.invokestatic 176, 3) := by decide +kernel
theorem dX10_isCsr_18 : decode cX10_isCsr 18 = .ok (.ifCond .ne 45, 3) := by decide +kernel
theorem dX10_isCsr_21 : decode cX10_isCsr 21 = .ok (.iload_n 0, 1) := by decide +kernel
theorem dX10_isCsr_22 : decode cX10_isCsr 22 = .ok (.sipush 928, 3) := by decide +kernel
theorem dX10_isCsr_25 : decode cX10_isCsr 25 = .ok (.if_icmp .eq 38, 3) := by decide +kernel
theorem dX10_isCsr_28 : decode cX10_isCsr 28 = .ok (.iload_n 0, 1) := by decide +kernel
theorem dX10_isCsr_29 : decode cX10_isCsr 29 = .ok (.sipush 930, 3) := by decide +kernel
theorem dX10_isCsr_32 : decode cX10_isCsr 32 = .ok (.if_icmp .eq 31, 3) := by decide +kernel
theorem dX10_isCsr_35 : decode cX10_isCsr 35 = .ok (.iload_n 0, 1) := by decide +kernel
theorem dX10_isCsr_36 : decode cX10_isCsr 36 = .ok (.i2l, 1) := by decide +kernel
theorem dX10_isCsr_37 : decode cX10_isCsr 37 = .ok (.ldc2_w 323, 3) := by decide +kernel
theorem dX10_isCsr_40 : decode cX10_isCsr 40 = .ok (.ldc2_w 325, 3) := by decide +kernel
theorem dX10_isCsr_43 : decode cX10_isCsr 43 = .ok (.invokestatic 176, 3) := by decide +kernel
theorem dX10_isCsr_46 : decode cX10_isCsr 46 = .ok (.ifCond .ne 17, 3) := by decide +kernel
theorem dX10_isCsr_49 : decode cX10_isCsr 49 = .ok (.iload_n 0, 1) := by decide +kernel
theorem dX10_isCsr_50 : decode cX10_isCsr 50 = .ok (.sipush 2818, 3) := by decide +kernel
theorem dX10_isCsr_53 : decode cX10_isCsr 53 = .ok (.if_icmp .eq 10, 3) := by decide +kernel
theorem dX10_isCsr_56 : decode cX10_isCsr 56 = .ok (.iload_n 0, 1) := by decide +kernel
theorem dX10_isCsr_57 : decode cX10_isCsr 57 = .ok (.sipush 3860, 3) := by decide +kernel
theorem dX10_isCsr_60 : decode cX10_isCsr 60 = .ok (.if_icmp .ne 7, 3) := by decide +kernel
theorem dX10_isCsr_63 : decode cX10_isCsr 63 = .ok (.iconst 1, 1) := by decide +kernel
theorem dX10_isCsr_64 : decode cX10_isCsr 64 = .ok (.goto 4, 3) := by decide +kernel
theorem dX10_isCsr_67 : decode cX10_isCsr 67 = .ok (.iconst 0, 1) := by decide +kernel
theorem dX10_isCsr_68 : decode cX10_isCsr 68 = .ok (.ireturn, 1) := by decide +kernel
theorem dX10_has_0 : decode cX10_has 0 = .ok (.iload_n 1, 1) := by decide +kernel
theorem dX10_has_1 : decode cX10_has 1 = .ok (.lookupswitch 132 #[(768, 83), (832, 91), (833, 96), (834, 101), (835, 106), (928, 111), (930, 117), (2818, 124), (3860, 130)], 83) := by decide +kernel
theorem dX10_has_84 : decode cX10_has 84 = .ok (.aload_n 0, 1) := by decide +kernel
theorem dX10_has_85 : decode cX10_has 85 = .ok (.getfield 111, 3) := by decide +kernel
theorem dX10_has_88 : decode cX10_has 88 = .ok (.bipush 11, 2) := by decide +kernel
theorem dX10_has_90 : decode cX10_has 90 = .ok (.lshl, 1) := by decide +kernel
theorem dX10_has_91 : decode cX10_has 91 = .ok (.lreturn, 1) := by decide +kernel
theorem dX10_has_92 : decode cX10_has 92 = .ok (.aload_n 0, 1) := by decide +kernel
theorem dX10_has_93 : decode cX10_has 93 = .ok (.getfield 114, 3) := by decide +kernel
theorem dX10_has_96 : decode cX10_has 96 = .ok (.lreturn, 1) := by decide +kernel
theorem dX10_has_97 : decode cX10_has 97 = .ok (.aload_n 0, 1) := by decide +kernel
theorem dX10_has_98 : decode cX10_has 98 = .ok (.getfield 117, 3) := by decide +kernel
theorem dX10_has_101 : decode cX10_has 101 = .ok (.lreturn, 1) := by decide +kernel
theorem dX10_has_102 : decode cX10_has 102 = .ok (.aload_n 0, 1) := by decide +kernel
theorem dX10_has_103 : decode cX10_has 103 = .ok (.getfield 120, 3) := by decide +kernel
theorem dX10_has_106 : decode cX10_has 106 = .ok (.lreturn, 1) := by decide +kernel
theorem dX10_has_107 : decode cX10_has 107 = .ok (.aload_n 0, 1) := by decide +kernel
theorem dX10_has_108 : decode cX10_has 108 = .ok (.getfield 123, 3) := by decide +kernel
theorem dX10_has_111 : decode cX10_has 111 = .ok (.lreturn, 1) := by decide +kernel
theorem dX10_has_112 : decode cX10_has 112 = .ok (.aload_n 0, 1) := by decide +kernel
theorem dX10_has_113 : decode cX10_has 113 = .ok (.iconst 0, 1) := by decide +kernel
theorem dX10_has_114 : decode cX10_has 114 = .ok (.invokevirtual 327, 3) := by decide +kernel
theorem dX10_has_117 : decode cX10_has 117 = .ok (.lreturn, 1) := by decide +kernel
theorem dX10_has_118 : decode cX10_has 118 = .ok (.aload_n 0, 1) := by decide +kernel
theorem dX10_has_119 : decode cX10_has 119 = .ok (.bipush 8, 2) := by decide +kernel
theorem dX10_has_121 : decode cX10_has 121 = .ok (.invokevirtual 327, 3) := by decide +kernel
theorem dX10_has_124 : decode cX10_has 124 = .ok (.lreturn, 1) := by decide +kernel
theorem dX10_has_125 : decode cX10_has 125 = .ok (.aload_n 0, 1) := by decide +kernel
theorem dX10_has_126 : decode cX10_has 126 = .ok (.getfield 93, 3) := by decide +kernel
theorem dX10_has_129 : decode cX10_has 129 = .ok (.i2l, 1) := by decide +kernel
theorem dX10_has_130 : decode cX10_has 130 = .ok (.lreturn, 1) := by decide +kernel
theorem dX10_has_131 : decode cX10_has 131 = .ok (.lconst 0, 1) := by decide +kernel
theorem dX10_has_132 : decode cX10_has 132 = .ok (.lreturn, 1) := by decide +kernel
theorem dX10_has_133 : decode cX10_has 133 = .ok (.aload_n 0, 1) := by decide +kernel
theorem dX10_has_134 : decode cX10_has 134 = .ok (.iload_n 1, 1) := by decide +kernel
theorem dX10_has_135 : decode cX10_has 135 = .ok (.sipush 944, 3) := by decide +kernel
theorem dX10_has_138 : decode cX10_has 138 = .ok (.isub, 1) := by decide +kernel
theorem dX10_has_139 : decode cX10_has 139 = .ok (.invokevirtual 151, 3) := by decide +kernel
theorem dX10_has_142 : decode cX10_has 142 = .ok (.lreturn, 1) := by decide +kernel
theorem dX10_bytes_0 : decode cX10_bytes 0 = .ok (.lconst 0, 1) := by decide +kernel
theorem dX10_bytes_1 : decode cX10_bytes 1 = .ok (.lstore_n 2, 1) := by decide +kernel
theorem dX10_bytes_2 : decode cX10_bytes 2 = .ok (.bipush 7, 2) := by decide +kernel
theorem dX10_bytes_4 : decode cX10_bytes 4 = .ok (.istore 4, 2) := by decide +kernel
theorem dX10_bytes_6 : decode cX10_bytes 6 = .ok (.iload 4, 2) := by decide +kernel
theorem dX10_bytes_8 : decode cX10_bytes 8 = .ok (.ifCond .lt 24, 3) := by decide +kernel
theorem dX10_bytes_11 : decode cX10_bytes 11 = .ok (.lload_n 2, 1) := by decide +kernel
theorem dX10_bytes_12 : decode cX10_bytes 12 = .ok (.bipush 8, 2) := by decide +kernel
theorem dX10_bytes_14 : decode cX10_bytes 14 = .ok (.lshl, 1) := by decide +kernel
theorem dX10_bytes_15 : decode cX10_bytes 15 = .ok (.aload_n 0, 1) := by decide +kernel
theorem dX10_bytes_16 : decode cX10_bytes 16 = .ok (.iload_n 1, 1) := by decide +kernel
theorem dX10_bytes_17 : decode cX10_bytes 17 = .ok (.iload 4, 2) := by decide +kernel
theorem dX10_bytes_19 : decode cX10_bytes 19 = .ok (.iadd, 1) := by decide +kernel
theorem dX10_bytes_20 : decode cX10_bytes 20 = .ok (.invokevirtual 145, 3) := by decide +kernel
theorem dX10_bytes_23 : decode cX10_bytes 23 = .ok (.i2l, 1) := by decide +kernel
theorem dX10_bytes_24 : decode cX10_bytes 24 = .ok (.lor, 1) := by decide +kernel
theorem dX10_bytes_25 : decode cX10_bytes 25 = .ok (.lstore_n 2, 1) := by decide +kernel
theorem dX10_bytes_26 : decode cX10_bytes 26 = .ok (.iinc 4 (-1), 3) := by decide +kernel
theorem dX10_bytes_29 : decode cX10_bytes 29 = .ok (.goto (-23), 3) := by decide +kernel
theorem dX10_bytes_32 : decode cX10_bytes 32 = .ok (.lload_n 2, 1) := by decide +kernel
theorem dX10_bytes_33 : decode cX10_bytes 33 = .ok (.lreturn, 1) := by decide +kernel
theorem dX10_csr_0 : decode cX10_csr 0 = .ok (.aload_n 0, 1) := by decide +kernel
theorem dX10_csr_1 : decode cX10_csr 1 = .ok (.getfield 204, 3) := by decide +kernel
theorem dX10_csr_4 : decode cX10_csr 4 = .ok (.bipush 20, 2) := by decide +kernel
theorem dX10_csr_6 : decode cX10_csr 6 = .ok (.iushr, 1) := by decide +kernel
theorem dX10_csr_7 : decode cX10_csr 7 = .ok (.istore_n 1, 1) := by decide +kernel
theorem dX10_csr_8 : decode cX10_csr 8 = .ok (.aload_n 0, 1) := by decide +kernel
theorem dX10_csr_9 : decode cX10_csr 9 = .ok (.getfield 226, 3) := by decide +kernel
theorem dX10_csr_12 : decode cX10_csr 12 = .ok (.iconst 4, 1) := by decide +kernel
theorem dX10_csr_13 : decode cX10_csr 13 = .ok (.if_icmp .le 11, 3) := by decide +kernel
theorem dX10_csr_16 : decode cX10_csr 16 = .ok (.aload_n 0, 1) := by decide +kernel
theorem dX10_csr_17 : decode cX10_csr 17 = .ok (.getfield 229, 3) := by decide +kernel
theorem dX10_csr_20 : decode cX10_csr 20 = .ok (.i2l, 1) := by decide +kernel
theorem dX10_csr_21 : decode cX10_csr 21 = .ok (.goto 11, 3) := by decide +kernel
theorem dX10_csr_24 : decode cX10_csr 24 = .ok (.aload_n 0, 1) := by decide +kernel
theorem dX10_csr_25 : decode cX10_csr 25 = .ok (.aload_n 0, 1) := by decide +kernel
theorem dX10_csr_26 : decode cX10_csr 26 = .ok (.getfield 229, 3) := by decide +kernel
theorem dX10_csr_29 : decode cX10_csr 29 = .ok (.invokevirtual 253, 3) := by decide +kernel
theorem dX10_csr_32 : decode cX10_csr 32 = .ok (.lstore_n 2, 1) := by decide +kernel
theorem dX10_csr_33 : decode cX10_csr 33 = .ok (.aload_n 0, 1) := by decide +kernel
theorem dX10_csr_34 : decode cX10_csr 34 = .ok (.getfield 226, 3) := by decide +kernel
theorem dX10_csr_37 : decode cX10_csr 37 = .ok (.iconst 3, 1) := by decide +kernel
theorem dX10_csr_38 : decode cX10_csr 38 = .ok (.iand, 1) := by decide +kernel
theorem dX10_csr_39 : decode cX10_csr 39 = .ok (.iconst 1, 1) := by decide +kernel
theorem dX10_csr_40 : decode cX10_csr 40 = .ok (.if_icmp .eq 10, 3) := by decide +kernel
theorem dX10_csr_43 : decode cX10_csr 43 = .ok (.aload_n 0, 1) := by decide +kernel
theorem dX10_csr_44 : decode cX10_csr 44 = .ok (.getfield 229, 3) := by decide +kernel
theorem dX10_csr_47 : decode cX10_csr 47 = .ok (.ifCond .eq 7, 3) := by decide +kernel
theorem dX10_csr_50 : decode cX10_csr 50 = .ok (.iconst 1, 1) := by decide +kernel
theorem dX10_csr_51 : decode cX10_csr 51 = .ok (.goto 4, 3) := by decide +kernel
theorem dX10_csr_54 : decode cX10_csr 54 = .ok (.iconst 0, 1) := by decide +kernel
theorem dX10_csr_55 : decode cX10_csr 55 = .ok (.istore 4, 2) := by decide +kernel
theorem dX10_csr_57 : decode cX10_csr 57 = .ok (.iload_n 1, 1) := by decide +kernel
theorem dX10_csr_58 : decode cX10_csr 58 = .ok (.invokestatic 330, 3) := by decide +kernel
theorem dX10_csr_61 : decode cX10_csr 61 = .ok (.ifCond .eq 22, 3) := by decide +kernel
theorem dX10_csr_64 : decode cX10_csr 64 = .ok (.iload 4, 2) := by decide +kernel
theorem dX10_csr_66 : decode cX10_csr 66 = .ok (.ifCond .eq 22, 3) := by decide +kernel
theorem dX10_csr_69 : decode cX10_csr 69 = .ok (.iload_n 1, 1) := by decide +kernel
theorem dX10_csr_70 : decode cX10_csr 70 = .ok (.sipush 2818, 3) := by decide +kernel
theorem dX10_csr_73 : decode cX10_csr 73 = .ok (.if_icmp .eq 10, 3) := by decide +kernel
theorem dX10_csr_76 : decode cX10_csr 76 = .ok (.iload_n 1, 1) := by decide +kernel
theorem dX10_csr_77 : decode cX10_csr 77 = .ok (.sipush 3860, 3) := by decide +kernel
theorem dX10_csr_80 : decode cX10_csr 80 = .ok (.if_icmp .ne 8, 3) := by decide +kernel
theorem dX10_csr_83 : decode cX10_csr 83 = .ok (.aload_n 0, 1) := by decide +kernel
theorem dX10_csr_84 : decode cX10_csr 84 = .ok (.invokevirtual 250, 3) := by decide +kernel
theorem dX10_csr_87 : decode cX10_csr 87 = .ok (.ireturn, 1) := by decide +kernel
theorem dX10_csr_88 : decode cX10_csr 88 = .ok (.aload_n 0, 1) := by decide +kernel
theorem dX10_csr_89 : decode cX10_csr 89 = .ok (.iload_n 1, 1) := by decide +kernel
theorem dX10_csr_90 : decode cX10_csr 90 = .ok (.invokevirtual 333, 3) := by decide +kernel
theorem dX10_csr_93 : decode cX10_csr 93 = .ok (.lstore 5, 2) := by decide +kernel
theorem dX10_csr_95 : decode cX10_csr 95 = .ok (.iload 4, 2) := by decide +kernel
theorem dX10_csr_97 : decode cX10_csr 97 = .ok (.ifCond .eq 47, 3) := by decide +kernel
theorem dX10_csr_100 : decode cX10_csr 100 = .ok (.aload_n 0, 1) := by decide +kernel
theorem dX10_csr_101 : decode cX10_csr 101 = .ok (.iload_n 1, 1) := by decide +kernel
theorem dX10_csr_102 : decode cX10_csr 102 = .ok (.aload_n 0, 1) := by decide +kernel
theorem dX10_csr_103 : decode cX10_csr 103 = .ok (.getfield 226, 3) := by decide +kernel
theorem dX10_csr_106 : decode cX10_csr 106 = .ok (.iconst 3, 1) := by decide +kernel
theorem dX10_csr_107 : decode cX10_csr 107 = .ok (.iand, 1) := by decide +kernel
theorem dX10_csr_108 : decode cX10_csr 108 = .ok (.iconst 1, 1) := by decide +kernel
theorem dX10_csr_109 : decode cX10_csr 109 = .ok (.if_icmp .ne 7, 3) := by decide +kernel
theorem dX10_csr_112 : decode cX10_csr 112 = .ok (.lload_n 2, 1) := by decide +kernel
theorem dX10_csr_113 : decode cX10_csr 113 = .ok (.goto 28, 3) := by decide +kernel
theorem dX10_csr_116 : decode cX10_csr 116 = .ok (.aload_n 0, 1) := by decide +kernel
theorem dX10_csr_117 : decode cX10_csr 117 = .ok (.getfield 226, 3) := by decide +kernel
theorem dX10_csr_120 : decode cX10_csr 120 = .ok (.iconst 3, 1) := by decide +kernel
theorem dX10_csr_121 : decode cX10_csr 121 = .ok (.iand, 1) := by decide +kernel
theorem dX10_csr_122 : decode cX10_csr 122 = .ok (.iconst 2, 1) := by decide +kernel
theorem dX10_csr_123 : decode cX10_csr 123 = .ok (.if_icmp .ne 10, 3) := by decide +kernel
theorem dX10_csr_126 : decode cX10_csr 126 = .ok (.lload 5, 2) := by decide +kernel
theorem dX10_csr_128 : decode cX10_csr 128 = .ok (.lload_n 2, 1) := by decide +kernel
theorem dX10_csr_129 : decode cX10_csr 129 = .ok (.lor, 1) := by decide +kernel
theorem dX10_csr_130 : decode cX10_csr 130 = .ok (.goto 11, 3) := by decide +kernel
theorem dX10_csr_133 : decode cX10_csr 133 = .ok (.lload 5, 2) := by decide +kernel
theorem dX10_csr_135 : decode cX10_csr 135 = .ok (.lload_n 2, 1) := by decide +kernel
theorem dX10_csr_136 : decode cX10_csr 136 = .ok (.ldc2_w 305, 3) := by decide +kernel
theorem dX10_csr_139 : decode cX10_csr 139 = .ok (.lxor, 1) := by decide +kernel
theorem dX10_csr_140 : decode cX10_csr 140 = .ok (.land, 1) := by decide +kernel
theorem dX10_csr_141 : decode cX10_csr 141 = .ok (.invokevirtual 336, 3) := by decide +kernel
theorem dX10_csr_144 : decode cX10_csr 144 = .ok (.aload_n 0, 1) := by decide +kernel
theorem dX10_csr_145 : decode cX10_csr 145 = .ok (.lload 5, 2) := by decide +kernel
theorem dX10_csr_147 : decode cX10_csr 147 = .ok (.invokevirtual 238, 3) := by decide +kernel
theorem dX10_csr_150 : decode cX10_csr 150 = .ok (.ireturn, 1) := by decide +kernel
theorem dX10_isLocked_0 : decode cX10_isLocked 0 = .ok (.aload_n 0, 1) := by decide +kernel
theorem dX10_isLocked_1 : decode cX10_isLocked 1 = .ok (.getfield 32, 3) := by decide +kernel
theorem dX10_isLocked_4 : decode cX10_isLocked 4 = .ok (.iload_n 1, 1) := by decide +kernel
theorem dX10_isLocked_5 : decode cX10_isLocked 5 = .ok (.iaload, 1) := by decide +kernel
theorem dX10_isLocked_6 : decode cX10_isLocked 6 = .ok (.sipush 128, 3) := by decide +kernel
theorem dX10_isLocked_9 : decode cX10_isLocked 9 = .ok (.iand, 1) := by decide +kernel
theorem dX10_isLocked_10 : decode cX10_isLocked 10 = .ok (.ifCond .eq 7, 3) := by decide +kernel
theorem dX10_isLocked_13 : decode cX10_isLocked 13 = .ok (.iconst 1, 1) := by decide +kernel
theorem dX10_isLocked_14 : decode cX10_isLocked 14 = .ok (.goto 4, 3) := by decide +kernel
theorem dX10_isLocked_17 : decode cX10_isLocked 17 = .ok (.iconst 0, 1) := by decide +kernel
theorem dX10_isLocked_18 : decode cX10_isLocked 18 = .ok (.ireturn, 1) := by decide +kernel
theorem dX10_write_0 : decode cX10_write 0 = .ok (.aload_n 0, 1) := by decide +kernel
theorem dX10_write_1 : decode cX10_write 1 = .ok (.iconst 0, 1) := by decide +kernel
theorem dX10_write_2 : decode cX10_write 2 = .ok (.putfield 126, 3) := by decide +kernel
theorem dX10_write_5 : decode cX10_write 5 = .ok (.iload_n 1, 1) := by decide +kernel
theorem dX10_write_6 : decode cX10_write 6 = .ok (.lookupswitch 206 #[(768, 66), (832, 95), (833, 103), (834, 115), (835, 123), (928, 131), (930, 134)], 66) := by decide +kernel
theorem dX10_write_72 : decode cX10_write 72 = .ok (.aload_n 0, 1) := by decide +kernel
theorem dX10_write_73 : decode cX10_write 73 = .ok (.lload_n 2, 1) := by decide +kernel
theorem dX10_write_74 : decode cX10_write 74 = .ok (.bipush 11, 2) := by decide +kernel
theorem dX10_write_76 : decode cX10_write 76 = .ok (.lshr, 1) := by decide +kernel
theorem dX10_write_77 : decode cX10_write 77 = .ok (.ldc2_w 213, 3) := by decide +kernel
theorem dX10_write_80 : decode cX10_write 80 = .ok (.land, 1) := by decide +kernel
theorem dX10_write_81 : decode cX10_write 81 = .ok (.ldc2_w 213, 3) := by decide +kernel
theorem dX10_write_84 : decode cX10_write 84 = .ok (.lcmp, 1) := by decide +kernel
theorem dX10_write_85 : decode cX10_write 85 = .ok (.ifCond .ne 9, 3) := by decide +kernel
theorem dX10_write_88 : decode cX10_write 88 = .ok (.ldc2_w 213, 3) := by decide +kernel
theorem dX10_write_91 : decode cX10_write 91 = .ok (.goto 4, 3) := by decide +kernel
theorem dX10_write_94 : decode cX10_write 94 = .ok (.lconst 0, 1) := by decide +kernel
theorem dX10_write_95 : decode cX10_write 95 = .ok (.putfield 111, 3) := by decide +kernel
theorem dX10_write_98 : decode cX10_write 98 = .ok (.goto 196, 3) := by decide +kernel
theorem dX10_write_101 : decode cX10_write 101 = .ok (.aload_n 0, 1) := by decide +kernel
theorem dX10_write_102 : decode cX10_write 102 = .ok (.lload_n 2, 1) := by decide +kernel
theorem dX10_write_103 : decode cX10_write 103 = .ok (.putfield 114, 3) := by decide +kernel
theorem dX10_write_106 : decode cX10_write 106 = .ok (.goto 188, 3) := by decide +kernel
theorem dX10_write_109 : decode cX10_write 109 = .ok (.aload_n 0, 1) := by decide +kernel
theorem dX10_write_110 : decode cX10_write 110 = .ok (.lload_n 2, 1) := by decide +kernel
theorem dX10_write_111 : decode cX10_write 111 = .ok (.ldc2_w 202, 3) := by decide +kernel
theorem dX10_write_114 : decode cX10_write 114 = .ok (.land, 1) := by decide +kernel
theorem dX10_write_115 : decode cX10_write 115 = .ok (.putfield 117, 3) := by decide +kernel
theorem dX10_write_118 : decode cX10_write 118 = .ok (.goto 176, 3) := by decide +kernel
theorem dX10_write_121 : decode cX10_write 121 = .ok (.aload_n 0, 1) := by decide +kernel
theorem dX10_write_122 : decode cX10_write 122 = .ok (.lload_n 2, 1) := by decide +kernel
theorem dX10_write_123 : decode cX10_write 123 = .ok (.putfield 120, 3) := by decide +kernel
theorem dX10_write_126 : decode cX10_write 126 = .ok (.goto 168, 3) := by decide +kernel
theorem dX10_write_129 : decode cX10_write 129 = .ok (.aload_n 0, 1) := by decide +kernel
theorem dX10_write_130 : decode cX10_write 130 = .ok (.lload_n 2, 1) := by decide +kernel
theorem dX10_write_131 : decode cX10_write 131 = .ok (.putfield 123, 3) := by decide +kernel
theorem dX10_write_134 : decode cX10_write 134 = .ok (.goto 160, 3) := by decide +kernel
theorem dX10_write_137 : decode cX10_write 137 = .ok (.goto 157, 3) := by decide +kernel
theorem dX10_write_140 : decode cX10_write 140 = .ok (.iconst 0, 1) := by decide +kernel
theorem dX10_write_141 : decode cX10_write 141 = .ok (.istore 4, 2) := by decide +kernel
theorem dX10_write_143 : decode cX10_write 143 = .ok (.iload 4, 2) := by decide +kernel
theorem dX10_write_145 : decode cX10_write 145 = .ok (.bipush 8, 2) := by decide +kernel
theorem dX10_write_147 : decode cX10_write 147 = .ok (.if_icmp .ge 62, 3) := by decide +kernel
theorem dX10_write_150 : decode cX10_write 150 = .ok (.lload_n 2, 1) := by decide +kernel
theorem dX10_write_151 : decode cX10_write 151 = .ok (.bipush 8, 2) := by decide +kernel
theorem dX10_write_153 : decode cX10_write 153 = .ok (.iload 4, 2) := by decide +kernel
theorem dX10_write_155 : decode cX10_write 155 = .ok (.imul, 1) := by decide +kernel
theorem dX10_write_156 : decode cX10_write 156 = .ok (.lshr, 1) := by decide +kernel
theorem dX10_write_157 : decode cX10_write 157 = .ok (.l2i, 1) := by decide +kernel
theorem dX10_write_158 : decode cX10_write 158 = .ok (.sipush 159, 3) := by decide +kernel
theorem dX10_write_161 : decode cX10_write 161 = .ok (.iand, 1) := by decide +kernel
theorem dX10_write_162 : decode cX10_write 162 = .ok (.istore 5, 2) := by decide +kernel
theorem dX10_write_164 : decode cX10_write 164 = .ok (.aload_n 0, 1) := by decide +kernel
theorem dX10_write_165 : decode cX10_write 165 = .ok (.bipush 8, 2) := by decide +kernel
theorem dX10_write_167 : decode cX10_write 167 = .ok (.iload 4, 2) := by decide +kernel
theorem dX10_write_169 : decode cX10_write 169 = .ok (.iadd, 1) := by decide +kernel
theorem dX10_write_170 : decode cX10_write 170 = .ok (.invokevirtual 339, 3) := by decide +kernel
theorem dX10_write_173 : decode cX10_write 173 = .ok (.ifCond .ne 30, 3) := by decide +kernel
theorem dX10_write_176 : decode cX10_write 176 = .ok (.aload_n 0, 1) := by decide +kernel
theorem dX10_write_177 : decode cX10_write 177 = .ok (.getfield 32, 3) := by decide +kernel
theorem dX10_write_180 : decode cX10_write 180 = .ok (.bipush 8, 2) := by decide +kernel
theorem dX10_write_182 : decode cX10_write 182 = .ok (.iload 4, 2) := by decide +kernel
theorem dX10_write_184 : decode cX10_write 184 = .ok (.iadd, 1) := by decide +kernel
theorem dX10_write_185 : decode cX10_write 185 = .ok (.iload 5, 2) := by decide +kernel
theorem dX10_write_187 : decode cX10_write 187 = .ok (.iconst 1, 1) := by decide +kernel
theorem dX10_write_188 : decode cX10_write 188 = .ok (.iand, 1) := by decide +kernel
theorem dX10_write_189 : decode cX10_write 189 = .ok (.ifCond .ne 11, 3) := by decide +kernel
theorem dX10_write_192 : decode cX10_write 192 = .ok (.iload 5, 2) := by decide +kernel
theorem dX10_write_194 : decode cX10_write 194 = .ok (.bipush (-3), 2) := by decide +kernel
theorem dX10_write_196 : decode cX10_write 196 = .ok (.iand, 1) := by decide +kernel
theorem dX10_write_197 : decode cX10_write 197 = .ok (.goto 5, 3) := by decide +kernel
theorem dX10_write_200 : decode cX10_write 200 = .ok (.iload 5, 2) := by decide +kernel
theorem dX10_write_202 : decode cX10_write 202 = .ok (.iastore, 1) := by decide +kernel
theorem dX10_write_203 : decode cX10_write 203 = .ok (.iinc 4 1, 3) := by decide +kernel
theorem dX10_write_206 : decode cX10_write 206 = .ok (.goto (-63), 3) := by decide +kernel
theorem dX10_write_209 : decode cX10_write 209 = .ok (.goto 85, 3) := by decide +kernel
theorem dX10_write_212 : decode cX10_write 212 = .ok (.iload_n 1, 1) := by decide +kernel
theorem dX10_write_213 : decode cX10_write 213 = .ok (.sipush 944, 3) := by decide +kernel
theorem dX10_write_216 : decode cX10_write 216 = .ok (.isub, 1) := by decide +kernel
theorem dX10_write_217 : decode cX10_write 217 = .ok (.istore 4, 2) := by decide +kernel
theorem dX10_write_219 : decode cX10_write 219 = .ok (.iload 4, 2) := by decide +kernel
theorem dX10_write_221 : decode cX10_write 221 = .ok (.bipush 8, 2) := by decide +kernel
theorem dX10_write_223 : decode cX10_write 223 = .ok (.if_icmp .lt 47, 3) := by decide +kernel
theorem dX10_write_226 : decode cX10_write 226 = .ok (.aload_n 0, 1) := by decide +kernel
theorem dX10_write_227 : decode cX10_write 227 = .ok (.iload 4, 2) := by decide +kernel
theorem dX10_write_229 : decode cX10_write 229 = .ok (.invokevirtual 339, 3) := by decide +kernel
theorem dX10_write_232 : decode cX10_write 232 = .ok (.ifCond .ne 38, 3) := by decide +kernel
theorem dX10_write_235 : decode cX10_write 235 = .ok (.iload 4, 2) := by decide +kernel
theorem dX10_write_237 : decode cX10_write 237 = .ok (.bipush 15, 2) := by decide +kernel
theorem dX10_write_239 : decode cX10_write 239 = .ok (.if_icmp .ge 35, 3) := by decide +kernel
theorem dX10_write_242 : decode cX10_write 242 = .ok (.aload_n 0, 1) := by decide +kernel
theorem dX10_write_243 : decode cX10_write 243 = .ok (.iload 4, 2) := by decide +kernel
theorem dX10_write_245 : decode cX10_write 245 = .ok (.iconst 1, 1) := by decide +kernel
theorem dX10_write_246 : decode cX10_write 246 = .ok (.iadd, 1) := by decide +kernel
theorem dX10_write_247 : decode cX10_write 247 = .ok (.invokevirtual 339, 3) := by decide +kernel
theorem dX10_write_250 : decode cX10_write 250 = .ok (.ifCond .eq 24, 3) := by decide +kernel
theorem dX10_write_253 : decode cX10_write 253 = .ok (.aload_n 0, 1) := by decide +kernel
theorem dX10_write_254 : decode cX10_write 254 = .ok (.getfield 32, 3) := by decide +kernel
theorem dX10_write_257 : decode cX10_write 257 = .ok (.iload 4, 2) := by decide +kernel
theorem dX10_write_259 : decode cX10_write 259 = .ok (.iconst 1, 1) := by decide +kernel
theorem dX10_write_260 : decode cX10_write 260 = .ok (.iadd, 1) := by decide +kernel
theorem dX10_write_261 : decode cX10_write 261 = .ok (.iaload, 1) := by decide +kernel
theorem dX10_write_262 : decode cX10_write 262 = .ok (.iconst 3, 1) := by decide +kernel
theorem dX10_write_263 : decode cX10_write 263 = .ok (.ishr, 1) := by decide +kernel
theorem dX10_write_264 : decode cX10_write 264 = .ok (.iconst 3, 1) := by decide +kernel
theorem dX10_write_265 : decode cX10_write 265 = .ok (.iand, 1) := by decide +kernel
theorem dX10_write_266 : decode cX10_write 266 = .ok (.iconst 1, 1) := by decide +kernel
theorem dX10_write_267 : decode cX10_write 267 = .ok (.if_icmp .ne 7, 3) := by decide +kernel
theorem dX10_write_270 : decode cX10_write 270 = .ok (.iconst 1, 1) := by decide +kernel
theorem dX10_write_271 : decode cX10_write 271 = .ok (.goto 4, 3) := by decide +kernel
theorem dX10_write_274 : decode cX10_write 274 = .ok (.iconst 0, 1) := by decide +kernel
theorem dX10_write_275 : decode cX10_write 275 = .ok (.istore 5, 2) := by decide +kernel
theorem dX10_write_277 : decode cX10_write 277 = .ok (.iload 5, 2) := by decide +kernel
theorem dX10_write_279 : decode cX10_write 279 = .ok (.ifCond .ne 15, 3) := by decide +kernel
theorem dX10_write_282 : decode cX10_write 282 = .ok (.aload_n 0, 1) := by decide +kernel
theorem dX10_write_283 : decode cX10_write 283 = .ok (.getfield 36, 3) := by decide +kernel
theorem dX10_write_286 : decode cX10_write 286 = .ok (.iload 4, 2) := by decide +kernel
theorem dX10_write_288 : decode cX10_write 288 = .ok (.lload_n 2, 1) := by decide +kernel
theorem dX10_write_289 : decode cX10_write 289 = .ok (.ldc2_w 149, 3) := by decide +kernel
theorem dX10_write_292 : decode cX10_write 292 = .ok (.land, 1) := by decide +kernel
theorem dX10_write_293 : decode cX10_write 293 = .ok (.lastore, 1) := by decide +kernel
theorem dX10_write_294 : decode cX10_write 294 = .ok (.return_, 1) := by decide +kernel
theorem dX10_enclaveCalls_0 : decode cX10_enclaveCalls 0 = .ok (.aload_n 0, 1) := by decide +kernel
theorem dX10_enclaveCalls_1 : decode cX10_enclaveCalls 1 = .ok (.getfield 29, 3) := by decide +kernel
theorem dX10_enclaveCalls_4 : decode cX10_enclaveCalls 4 = .ok (.istore_n 1, 1) := by decide +kernel
theorem dX10_enclaveCalls_5 : decode cX10_enclaveCalls 5 = .ok (.aload_n 0, 1) := by decide +kernel
theorem dX10_enclaveCalls_6 : decode cX10_enclaveCalls 6 = .ok (.bipush 17, 2) := by decide +kernel
theorem dX10_enclaveCalls_8 : decode cX10_enclaveCalls 8 = .ok (.invokevirtual 253, 3) := by decide +kernel
theorem dX10_enclaveCalls_11 : decode cX10_enclaveCalls 11 = .ok (.lstore_n 2, 1) := by decide +kernel
theorem dX10_enclaveCalls_12 : decode cX10_enclaveCalls 12 = .ok (.lload_n 2, 1) := by decide +kernel
theorem dX10_enclaveCalls_13 : decode cX10_enclaveCalls 13 = .ok (.lconst 1, 1) := by decide +kernel
theorem dX10_enclaveCalls_14 : decode cX10_enclaveCalls 14 = .ok (.lcmp, 1) := by decide +kernel
theorem dX10_enclaveCalls_15 : decode cX10_enclaveCalls 15 = .ok (.ifCond .ne 18, 3) := by decide +kernel
theorem dX10_enclaveCalls_18 : decode cX10_enclaveCalls 18 = .ok (.aload_n 0, 1) := by decide +kernel
theorem dX10_enclaveCalls_19 : decode cX10_enclaveCalls 19 = .ok (.iconst 2, 1) := by decide +kernel
theorem dX10_enclaveCalls_20 : decode cX10_enclaveCalls 20 = .ok (.lconst 0, 1) := by decide +kernel
theorem dX10_enclaveCalls_21 : decode cX10_enclaveCalls 21 = .ok (.aload_n 0, 1) := by decide +kernel
theorem dX10_enclaveCalls_22 : decode cX10_enclaveCalls 22 = .ok (.bipush 10, 2) := by decide +kernel
theorem dX10_enclaveCalls_24 : decode cX10_enclaveCalls 24 = .ok (.invokevirtual 253, 3) := by decide +kernel
theorem dX10_enclaveCalls_27 : decode cX10_enclaveCalls 27 = .ok (.invokevirtual 183, 3) := by decide +kernel
theorem dX10_enclaveCalls_30 : decode cX10_enclaveCalls 30 = .ok (.goto 110, 3) := by decide +kernel
theorem dX10_enclaveCalls_33 : decode cX10_enclaveCalls 33 = .ok (.lload_n 2, 1) := by decide +kernel
theorem dX10_enclaveCalls_34 : decode cX10_enclaveCalls 34 = .ok (.ldc2_w 157, 3) := by decide +kernel
theorem dX10_enclaveCalls_37 : decode cX10_enclaveCalls 37 = .ok (.lcmp, 1) := by decide +kernel
theorem dX10_enclaveCalls_38 : decode cX10_enclaveCalls 38 = .ok (.ifCond .ne 17, 3) := by decide +kernel
theorem dX10_enclaveCalls_41 : decode cX10_enclaveCalls 41 = .ok (.aload_n 0, 1) := by decide +kernel
theorem dX10_enclaveCalls_42 : decode cX10_enclaveCalls 42 = .ok (.bipush 10, 2) := by decide +kernel
theorem dX10_enclaveCalls_44 : decode cX10_enclaveCalls 44 = .ok (.aload_n 0, 1) := by decide +kernel
theorem dX10_enclaveCalls_45 : decode cX10_enclaveCalls 45 = .ok (.iload_n 1, 1) := by decide +kernel
theorem dX10_enclaveCalls_46 : decode cX10_enclaveCalls 46 = .ok (.invokevirtual 342, 3) := by decide +kernel
theorem dX10_enclaveCalls_49 : decode cX10_enclaveCalls 49 = .ok (.invokevirtual 285, 3) := by decide +kernel
theorem dX10_enclaveCalls_52 : decode cX10_enclaveCalls 52 = .ok (.goto 88, 3) := by decide +kernel
theorem dX10_enclaveCalls_55 : decode cX10_enclaveCalls 55 = .ok (.lload_n 2, 1) := by decide +kernel
theorem dX10_enclaveCalls_56 : decode cX10_enclaveCalls 56 = .ok (.ldc2_w 213, 3) := by decide +kernel
theorem dX10_enclaveCalls_59 : decode cX10_enclaveCalls 59 = .ok (.lcmp, 1) := by decide +kernel
theorem dX10_enclaveCalls_60 : decode cX10_enclaveCalls 60 = .ok (.ifCond .ne 71, 3) := by decide +kernel
theorem dX10_enclaveCalls_63 : decode cX10_enclaveCalls 63 = .ok (.aload_n 0, 1) := by decide +kernel
theorem dX10_enclaveCalls_64 : decode cX10_enclaveCalls 64 = .ok (.bipush 10, 2) := by decide +kernel
theorem dX10_enclaveCalls_66 : decode cX10_enclaveCalls 66 = .ok (.aload_n 0, 1) := by decide +kernel
theorem dX10_enclaveCalls_67 : decode cX10_enclaveCalls 67 = .ok (.getfield 42, 3) := by decide +kernel
theorem dX10_enclaveCalls_70 : decode cX10_enclaveCalls 70 = .ok (.iload_n 1, 1) := by decide +kernel
theorem dX10_enclaveCalls_71 : decode cX10_enclaveCalls 71 = .ok (.iaload, 1) := by decide +kernel
theorem dX10_enclaveCalls_72 : decode cX10_enclaveCalls 72 = .ok (.i2l, 1) := by decide +kernel
theorem dX10_enclaveCalls_73 : decode cX10_enclaveCalls 73 = .ok (.invokevirtual 285, 3) := by decide +kernel
theorem dX10_enclaveCalls_76 : decode cX10_enclaveCalls 76 = .ok (.aload_n 0, 1) := by decide +kernel
theorem dX10_enclaveCalls_77 : decode cX10_enclaveCalls 77 = .ok (.bipush 11, 2) := by decide +kernel
theorem dX10_enclaveCalls_79 : decode cX10_enclaveCalls 79 = .ok (.aload_n 0, 1) := by decide +kernel
theorem dX10_enclaveCalls_80 : decode cX10_enclaveCalls 80 = .ok (.getfield 45, 3) := by decide +kernel
theorem dX10_enclaveCalls_83 : decode cX10_enclaveCalls 83 = .ok (.iload_n 1, 1) := by decide +kernel
theorem dX10_enclaveCalls_84 : decode cX10_enclaveCalls 84 = .ok (.iaload, 1) := by decide +kernel
theorem dX10_enclaveCalls_85 : decode cX10_enclaveCalls 85 = .ok (.i2l, 1) := by decide +kernel
theorem dX10_enclaveCalls_86 : decode cX10_enclaveCalls 86 = .ok (.invokevirtual 285, 3) := by decide +kernel
theorem dX10_enclaveCalls_89 : decode cX10_enclaveCalls 89 = .ok (.aload_n 0, 1) := by decide +kernel
theorem dX10_enclaveCalls_90 : decode cX10_enclaveCalls 90 = .ok (.bipush 12, 2) := by decide +kernel
theorem dX10_enclaveCalls_92 : decode cX10_enclaveCalls 92 = .ok (.aload_n 0, 1) := by decide +kernel
theorem dX10_enclaveCalls_93 : decode cX10_enclaveCalls 93 = .ok (.getfield 54, 3) := by decide +kernel
theorem dX10_enclaveCalls_96 : decode cX10_enclaveCalls 96 = .ok (.iload_n 1, 1) := by decide +kernel
theorem dX10_enclaveCalls_97 : decode cX10_enclaveCalls 97 = .ok (.iaload, 1) := by decide +kernel
theorem dX10_enclaveCalls_98 : decode cX10_enclaveCalls 98 = .ok (.ifCond .ne 7, 3) := by decide +kernel
theorem dX10_enclaveCalls_101 : decode cX10_enclaveCalls 101 = .ok (.lconst 0, 1) := by decide +kernel
theorem dX10_enclaveCalls_102 : decode cX10_enclaveCalls 102 = .ok (.goto 10, 3) := by decide +kernel
theorem dX10_enclaveCalls_105 : decode cX10_enclaveCalls 105 = .ok (.aload_n 0, 1) := by decide +kernel
theorem dX10_enclaveCalls_106 : decode cX10_enclaveCalls 106 = .ok (.getfield 51, 3) := by decide +kernel
theorem dX10_enclaveCalls_109 : decode cX10_enclaveCalls 109 = .ok (.iload_n 1, 1) := by decide +kernel
theorem dX10_enclaveCalls_110 : decode cX10_enclaveCalls 110 = .ok (.iaload, 1) := by decide +kernel
theorem dX10_enclaveCalls_111 : decode cX10_enclaveCalls 111 = .ok (.i2l, 1) := by decide +kernel
theorem dX10_enclaveCalls_112 : decode cX10_enclaveCalls 112 = .ok (.invokevirtual 285, 3) := by decide +kernel
theorem dX10_enclaveCalls_115 : decode cX10_enclaveCalls 115 = .ok (.aload_n 0, 1) := by decide +kernel
theorem dX10_enclaveCalls_116 : decode cX10_enclaveCalls 116 = .ok (.bipush 13, 2) := by decide +kernel
theorem dX10_enclaveCalls_118 : decode cX10_enclaveCalls 118 = .ok (.aload_n 0, 1) := by decide +kernel
theorem dX10_enclaveCalls_119 : decode cX10_enclaveCalls 119 = .ok (.getfield 54, 3) := by decide +kernel
theorem dX10_enclaveCalls_122 : decode cX10_enclaveCalls 122 = .ok (.iload_n 1, 1) := by decide +kernel
theorem dX10_enclaveCalls_123 : decode cX10_enclaveCalls 123 = .ok (.iaload, 1) := by decide +kernel
theorem dX10_enclaveCalls_124 : decode cX10_enclaveCalls 124 = .ok (.i2l, 1) := by decide +kernel
theorem dX10_enclaveCalls_125 : decode cX10_enclaveCalls 125 = .ok (.invokevirtual 285, 3) := by decide +kernel
theorem dX10_enclaveCalls_128 : decode cX10_enclaveCalls 128 = .ok (.goto 12, 3) := by decide +kernel
theorem dX10_enclaveCalls_131 : decode cX10_enclaveCalls 131 = .ok (.aload_n 0, 1) := by decide +kernel
theorem dX10_enclaveCalls_132 : decode cX10_enclaveCalls 132 = .ok (.bipush 10, 2) := by decide +kernel
theorem dX10_enclaveCalls_134 : decode cX10_enclaveCalls 134 = .ok (.ldc2_w 305, 3) := by decide +kernel
theorem dX10_enclaveCalls_137 : decode cX10_enclaveCalls 137 = .ok (.invokevirtual 285, 3) := by decide +kernel
theorem dX10_enclaveCalls_140 : decode cX10_enclaveCalls 140 = .ok (.return_, 1) := by decide +kernel
theorem dX10_key_0 : decode cX10_key 0 = .ok (.aload_n 0, 1) := by decide +kernel
theorem dX10_key_1 : decode cX10_key 1 = .ok (.getfield 75, 3) := by decide +kernel
theorem dX10_key_4 : decode cX10_key 4 = .ok (.aload_n 0, 1) := by decide +kernel
theorem dX10_key_5 : decode cX10_key 5 = .ok (.getfield 63, 3) := by decide +kernel
theorem dX10_key_8 : decode cX10_key 8 = .ok (.iload_n 1, 1) := by decide +kernel
theorem dX10_key_9 : decode cX10_key 9 = .ok (.laload, 1) := by decide +kernel
theorem dX10_key_10 : decode cX10_key 10 = .ok (.lxor, 1) := by decide +kernel
theorem dX10_key_11 : decode cX10_key 11 = .ok (.lstore_n 2, 1) := by decide +kernel
theorem dX10_key_12 : decode cX10_key 12 = .ok (.lload_n 2, 1) := by decide +kernel
theorem dX10_key_13 : decode cX10_key 13 = .ok (.lload_n 2, 1) := by decide +kernel
theorem dX10_key_14 : decode cX10_key 14 = .ok (.bipush 33, 2) := by decide +kernel
theorem dX10_key_16 : decode cX10_key 16 = .ok (.lushr, 1) := by decide +kernel
theorem dX10_key_17 : decode cX10_key 17 = .ok (.lxor, 1) := by decide +kernel
theorem dX10_key_18 : decode cX10_key 18 = .ok (.ldc2_w 345, 3) := by decide +kernel
theorem dX10_key_21 : decode cX10_key 21 = .ok (.lmul, 1) := by decide +kernel
theorem dX10_key_22 : decode cX10_key 22 = .ok (.lstore_n 2, 1) := by decide +kernel
theorem dX10_key_23 : decode cX10_key 23 = .ok (.lload_n 2, 1) := by decide +kernel
theorem dX10_key_24 : decode cX10_key 24 = .ok (.lload_n 2, 1) := by decide +kernel
theorem dX10_key_25 : decode cX10_key 25 = .ok (.bipush 33, 2) := by decide +kernel
theorem dX10_key_27 : decode cX10_key 27 = .ok (.lushr, 1) := by decide +kernel
theorem dX10_key_28 : decode cX10_key 28 = .ok (.lxor, 1) := by decide +kernel
theorem dX10_key_29 : decode cX10_key 29 = .ok (.ldc2_w 347, 3) := by decide +kernel
theorem dX10_key_32 : decode cX10_key 32 = .ok (.lmul, 1) := by decide +kernel
theorem dX10_key_33 : decode cX10_key 33 = .ok (.lstore_n 2, 1) := by decide +kernel
theorem dX10_key_34 : decode cX10_key 34 = .ok (.lload_n 2, 1) := by decide +kernel
theorem dX10_key_35 : decode cX10_key 35 = .ok (.lload_n 2, 1) := by decide +kernel
theorem dX10_key_36 : decode cX10_key 36 = .ok (.bipush 33, 2) := by decide +kernel
theorem dX10_key_38 : decode cX10_key 38 = .ok (.lushr, 1) := by decide +kernel
theorem dX10_key_39 : decode cX10_key 39 = .ok (.lxor, 1) := by decide +kernel
theorem dX10_key_40 : decode cX10_key 40 = .ok (.lreturn, 1) := by decide +kernel
theorem dX10_hostCalls_0 : decode cX10_hostCalls 0 = .ok (.aload_n 0, 1) := by decide +kernel
theorem dX10_hostCalls_1 : decode cX10_hostCalls 1 = .ok (.bipush 17, 2) := by decide +kernel
theorem dX10_hostCalls_3 : decode cX10_hostCalls 3 = .ok (.invokevirtual 253, 3) := by decide +kernel
theorem dX10_hostCalls_6 : decode cX10_hostCalls 6 = .ok (.lstore_n 1, 1) := by decide +kernel
theorem dX10_hostCalls_7 : decode cX10_hostCalls 7 = .ok (.lload_n 1, 1) := by decide +kernel
theorem dX10_hostCalls_8 : decode cX10_hostCalls 8 = .ok (.lconst 1, 1) := by decide +kernel
theorem dX10_hostCalls_9 : decode cX10_hostCalls 9 = .ok (.lcmp, 1) := by decide +kernel
theorem dX10_hostCalls_10 : decode cX10_hostCalls 10 = .ok (.ifCond .ne 14, 3) := by decide +kernel
theorem dX10_hostCalls_13 : decode cX10_hostCalls 13 = .ok (.aload_n 0, 1) := by decide +kernel
theorem dX10_hostCalls_14 : decode cX10_hostCalls 14 = .ok (.bipush 10, 2) := by decide +kernel
theorem dX10_hostCalls_16 : decode cX10_hostCalls 16 = .ok (.aload_n 0, 1) := by decide +kernel
theorem dX10_hostCalls_17 : decode cX10_hostCalls 17 = .ok (.invokevirtual 349, 3) := by decide +kernel
theorem dX10_hostCalls_20 : decode cX10_hostCalls 20 = .ok (.invokevirtual 285, 3) := by decide +kernel
theorem dX10_hostCalls_23 : decode cX10_hostCalls 23 = .ok (.return_, 1) := by decide +kernel
theorem dX10_hostCalls_24 : decode cX10_hostCalls 24 = .ok (.lload_n 1, 1) := by decide +kernel
theorem dX10_hostCalls_25 : decode cX10_hostCalls 25 = .ok (.ldc2_w 157, 3) := by decide +kernel
theorem dX10_hostCalls_28 : decode cX10_hostCalls 28 = .ok (.lcmp, 1) := by decide +kernel
theorem dX10_hostCalls_29 : decode cX10_hostCalls 29 = .ok (.ifCond .lt 45, 3) := by decide +kernel
theorem dX10_hostCalls_32 : decode cX10_hostCalls 32 = .ok (.lload_n 1, 1) := by decide +kernel
theorem dX10_hostCalls_33 : decode cX10_hostCalls 33 = .ok (.ldc2_w 140, 3) := by decide +kernel
theorem dX10_hostCalls_36 : decode cX10_hostCalls 36 = .ok (.lcmp, 1) := by decide +kernel
theorem dX10_hostCalls_37 : decode cX10_hostCalls 37 = .ok (.ifCond .gt 37, 3) := by decide +kernel
theorem dX10_hostCalls_40 : decode cX10_hostCalls 40 = .ok (.aload_n 0, 1) := by decide +kernel
theorem dX10_hostCalls_41 : decode cX10_hostCalls 41 = .ok (.bipush 10, 2) := by decide +kernel
theorem dX10_hostCalls_43 : decode cX10_hostCalls 43 = .ok (.invokevirtual 253, 3) := by decide +kernel
theorem dX10_hostCalls_46 : decode cX10_hostCalls 46 = .ok (.lconst 0, 1) := by decide +kernel
theorem dX10_hostCalls_47 : decode cX10_hostCalls 47 = .ok (.ldc2_w 352, 3) := by decide +kernel
theorem dX10_hostCalls_50 : decode cX10_hostCalls 50 = .ok (.invokestatic 176, 3) := by decide +kernel
theorem dX10_hostCalls_53 : decode cX10_hostCalls 53 = .ok (.ifCond .eq 21, 3) := by decide +kernel
theorem dX10_hostCalls_56 : decode cX10_hostCalls 56 = .ok (.aload_n 0, 1) := by decide +kernel
theorem dX10_hostCalls_57 : decode cX10_hostCalls 57 = .ok (.aload_n 0, 1) := by decide +kernel
theorem dX10_hostCalls_58 : decode cX10_hostCalls 58 = .ok (.bipush 10, 2) := by decide +kernel
theorem dX10_hostCalls_60 : decode cX10_hostCalls 60 = .ok (.invokevirtual 253, 3) := by decide +kernel
theorem dX10_hostCalls_63 : decode cX10_hostCalls 63 = .ok (.l2i, 1) := by decide +kernel
theorem dX10_hostCalls_64 : decode cX10_hostCalls 64 = .ok (.invokevirtual 79, 3) := by decide +kernel
theorem dX10_hostCalls_67 : decode cX10_hostCalls 67 = .ok (.ifCond .eq 7, 3) := by decide +kernel
theorem dX10_hostCalls_70 : decode cX10_hostCalls 70 = .ok (.iconst 1, 1) := by decide +kernel
theorem dX10_hostCalls_71 : decode cX10_hostCalls 71 = .ok (.goto 4, 3) := by decide +kernel
theorem dX10_hostCalls_74 : decode cX10_hostCalls 74 = .ok (.iconst 0, 1) := by decide +kernel
theorem dX10_hostCalls_75 : decode cX10_hostCalls 75 = .ok (.istore_n 3, 1) := by decide +kernel
theorem dX10_hostCalls_76 : decode cX10_hostCalls 76 = .ok (.iload_n 3, 1) := by decide +kernel
theorem dX10_hostCalls_77 : decode cX10_hostCalls 77 = .ok (.ifCond .ne 13, 3) := by decide +kernel
theorem dX10_hostCalls_80 : decode cX10_hostCalls 80 = .ok (.aload_n 0, 1) := by decide +kernel
theorem dX10_hostCalls_81 : decode cX10_hostCalls 81 = .ok (.bipush 10, 2) := by decide +kernel
theorem dX10_hostCalls_83 : decode cX10_hostCalls 83 = .ok (.ldc2_w 305, 3) := by decide +kernel
theorem dX10_hostCalls_86 : decode cX10_hostCalls 86 = .ok (.invokevirtual 285, 3) := by decide +kernel
theorem dX10_hostCalls_89 : decode cX10_hostCalls 89 = .ok (.return_, 1) := by decide +kernel
theorem dX10_hostCalls_90 : decode cX10_hostCalls 90 = .ok (.aload_n 0, 1) := by decide +kernel
theorem dX10_hostCalls_91 : decode cX10_hostCalls 91 = .ok (.bipush 10, 2) := by decide +kernel
theorem dX10_hostCalls_93 : decode cX10_hostCalls 93 = .ok (.invokevirtual 253, 3) := by decide +kernel
theorem dX10_hostCalls_96 : decode cX10_hostCalls 96 = .ok (.l2i, 1) := by decide +kernel
theorem dX10_hostCalls_97 : decode cX10_hostCalls 97 = .ok (.istore 4, 2) := by decide +kernel
theorem dX10_hostCalls_99 : decode cX10_hostCalls 99 = .ok (.lload_n 1, 1) := by decide +kernel
theorem dX10_hostCalls_100 : decode cX10_hostCalls 100 = .ok (.ldc2_w 157, 3) := by decide +kernel
theorem dX10_hostCalls_103 : decode cX10_hostCalls 103 = .ok (.lcmp, 1) := by decide +kernel
theorem dX10_hostCalls_104 : decode cX10_hostCalls 104 = .ok (.ifCond .ne 12, 3) := by decide +kernel
theorem dX10_hostCalls_107 : decode cX10_hostCalls 107 = .ok (.aload_n 0, 1) := by decide +kernel
theorem dX10_hostCalls_108 : decode cX10_hostCalls 108 = .ok (.iload 4, 2) := by decide +kernel
theorem dX10_hostCalls_110 : decode cX10_hostCalls 110 = .ok (.invokevirtual 354, 3) := by decide +kernel
theorem dX10_hostCalls_113 : decode cX10_hostCalls 113 = .ok (.goto 67, 3) := by decide +kernel
theorem dX10_hostCalls_116 : decode cX10_hostCalls 116 = .ok (.lload_n 1, 1) := by decide +kernel
theorem dX10_hostCalls_117 : decode cX10_hostCalls 117 = .ok (.ldc2_w 213, 3) := by decide +kernel
theorem dX10_hostCalls_120 : decode cX10_hostCalls 120 = .ok (.lcmp, 1) := by decide +kernel
theorem dX10_hostCalls_121 : decode cX10_hostCalls 121 = .ok (.ifCond .ne 32, 3) := by decide +kernel
theorem dX10_hostCalls_124 : decode cX10_hostCalls 124 = .ok (.aload_n 0, 1) := by decide +kernel
theorem dX10_hostCalls_125 : decode cX10_hostCalls 125 = .ok (.iload 4, 2) := by decide +kernel
theorem dX10_hostCalls_127 : decode cX10_hostCalls 127 = .ok (.invokevirtual 83, 3) := by decide +kernel
theorem dX10_hostCalls_130 : decode cX10_hostCalls 130 = .ok (.aload_n 0, 1) := by decide +kernel
theorem dX10_hostCalls_131 : decode cX10_hostCalls 131 = .ok (.getfield 39, 3) := by decide +kernel
theorem dX10_hostCalls_134 : decode cX10_hostCalls 134 = .ok (.iload 4, 2) := by decide +kernel
theorem dX10_hostCalls_136 : decode cX10_hostCalls 136 = .ok (.iconst 0, 1) := by decide +kernel
theorem dX10_hostCalls_137 : decode cX10_hostCalls 137 = .ok (.iastore, 1) := by decide +kernel
theorem dX10_hostCalls_138 : decode cX10_hostCalls 138 = .ok (.aload_n 0, 1) := by decide +kernel
theorem dX10_hostCalls_139 : decode cX10_hostCalls 139 = .ok (.iconst 0, 1) := by decide +kernel
theorem dX10_hostCalls_140 : decode cX10_hostCalls 140 = .ok (.putfield 126, 3) := by decide +kernel
theorem dX10_hostCalls_143 : decode cX10_hostCalls 143 = .ok (.aload_n 0, 1) := by decide +kernel
theorem dX10_hostCalls_144 : decode cX10_hostCalls 144 = .ok (.bipush 10, 2) := by decide +kernel
theorem dX10_hostCalls_146 : decode cX10_hostCalls 146 = .ok (.lconst 0, 1) := by decide +kernel
theorem dX10_hostCalls_147 : decode cX10_hostCalls 147 = .ok (.invokevirtual 285, 3) := by decide +kernel
theorem dX10_hostCalls_150 : decode cX10_hostCalls 150 = .ok (.goto 30, 3) := by decide +kernel
theorem dX10_hostCalls_153 : decode cX10_hostCalls 153 = .ok (.aload_n 0, 1) := by decide +kernel
theorem dX10_hostCalls_154 : decode cX10_hostCalls 154 = .ok (.bipush 10, 2) := by decide +kernel
theorem dX10_hostCalls_156 : decode cX10_hostCalls 156 = .ok (.aload_n 0, 1) := by decide +kernel
theorem dX10_hostCalls_157 : decode cX10_hostCalls 157 = .ok (.getfield 39, 3) := by decide +kernel
theorem dX10_hostCalls_160 : decode cX10_hostCalls 160 = .ok (.iload 4, 2) := by decide +kernel
theorem dX10_hostCalls_162 : decode cX10_hostCalls 162 = .ok (.iaload, 1) := by decide +kernel
theorem dX10_hostCalls_163 : decode cX10_hostCalls 163 = .ok (.i2l, 1) := by decide +kernel
theorem dX10_hostCalls_164 : decode cX10_hostCalls 164 = .ok (.invokevirtual 285, 3) := by decide +kernel
theorem dX10_hostCalls_167 : decode cX10_hostCalls 167 = .ok (.aload_n 0, 1) := by decide +kernel
theorem dX10_hostCalls_168 : decode cX10_hostCalls 168 = .ok (.bipush 11, 2) := by decide +kernel
theorem dX10_hostCalls_170 : decode cX10_hostCalls 170 = .ok (.aload_n 0, 1) := by decide +kernel
theorem dX10_hostCalls_171 : decode cX10_hostCalls 171 = .ok (.getfield 63, 3) := by decide +kernel
theorem dX10_hostCalls_174 : decode cX10_hostCalls 174 = .ok (.iload 4, 2) := by decide +kernel
theorem dX10_hostCalls_176 : decode cX10_hostCalls 176 = .ok (.laload, 1) := by decide +kernel
theorem dX10_hostCalls_177 : decode cX10_hostCalls 177 = .ok (.invokevirtual 285, 3) := by decide +kernel
theorem dX10_hostCalls_180 : decode cX10_hostCalls 180 = .ok (.return_, 1) := by decide +kernel
theorem dX10_enter_0 : decode cX10_enter 0 = .ok (.aload_n 0, 1) := by decide +kernel
theorem dX10_enter_1 : decode cX10_enter 1 = .ok (.getfield 39, 3) := by decide +kernel
theorem dX10_enter_4 : decode cX10_enter 4 = .ok (.iload_n 1, 1) := by decide +kernel
theorem dX10_enter_5 : decode cX10_enter 5 = .ok (.iaload, 1) := by decide +kernel
theorem dX10_enter_6 : decode cX10_enter 6 = .ok (.iconst 3, 1) := by decide +kernel
theorem dX10_enter_7 : decode cX10_enter 7 = .ok (.if_icmp .ne 13, 3) := by decide +kernel
theorem dX10_enter_10 : decode cX10_enter 10 = .ok (.aload_n 0, 1) := by decide +kernel
theorem dX10_enter_11 : decode cX10_enter 11 = .ok (.bipush 10, 2) := by decide +kernel
theorem dX10_enter_13 : decode cX10_enter 13 = .ok (.ldc2_w 357, 3) := by decide +kernel
theorem dX10_enter_16 : decode cX10_enter 16 = .ok (.invokevirtual 285, 3) := by decide +kernel
theorem dX10_enter_19 : decode cX10_enter 19 = .ok (.return_, 1) := by decide +kernel
theorem dX10_enter_20 : decode cX10_enter 20 = .ok (.aload_n 0, 1) := by decide +kernel
theorem dX10_enter_21 : decode cX10_enter 21 = .ok (.aload_n 0, 1) := by decide +kernel
theorem dX10_enter_22 : decode cX10_enter 22 = .ok (.bipush 11, 2) := by decide +kernel
theorem dX10_enter_24 : decode cX10_enter 24 = .ok (.invokevirtual 253, 3) := by decide +kernel
theorem dX10_enter_27 : decode cX10_enter 27 = .ok (.putfield 199, 3) := by decide +kernel
theorem dX10_enter_30 : decode cX10_enter 30 = .ok (.aload_n 0, 1) := by decide +kernel
theorem dX10_enter_31 : decode cX10_enter 31 = .ok (.iconst 0, 1) := by decide +kernel
