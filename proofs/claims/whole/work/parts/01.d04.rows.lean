theorem dX10_enter_32 : decode cX10_enter 32 = .ok (.putfield 187, 3) := by decide +kernel
theorem dX10_enter_35 : decode cX10_enter 35 = .ok (.aload_n 0, 1) := by decide +kernel
theorem dX10_enter_36 : decode cX10_enter 36 = .ok (.getfield 39, 3) := by decide +kernel
theorem dX10_enter_39 : decode cX10_enter 39 = .ok (.iload_n 1, 1) := by decide +kernel
theorem dX10_enter_40 : decode cX10_enter 40 = .ok (.iconst 4, 1) := by decide +kernel
theorem dX10_enter_41 : decode cX10_enter 41 = .ok (.iastore, 1) := by decide +kernel
theorem dX10_enter_42 : decode cX10_enter 42 = .ok (.aload_n 0, 1) := by decide +kernel
theorem dX10_enter_43 : decode cX10_enter 43 = .ok (.iload_n 1, 1) := by decide +kernel
theorem dX10_enter_44 : decode cX10_enter 44 = .ok (.putfield 29, 3) := by decide +kernel
theorem dX10_enter_47 : decode cX10_enter 47 = .ok (.aload_n 0, 1) := by decide +kernel
theorem dX10_enter_48 : decode cX10_enter 48 = .ok (.iconst 0, 1) := by decide +kernel
theorem dX10_enter_49 : decode cX10_enter 49 = .ok (.putfield 126, 3) := by decide +kernel
theorem dX10_enter_52 : decode cX10_enter 52 = .ok (.aload_n 0, 1) := by decide +kernel
theorem dX10_enter_53 : decode cX10_enter 53 = .ok (.dup, 1) := by decide +kernel
theorem dX10_enter_54 : decode cX10_enter 54 = .ok (.getfield 99, 3) := by decide +kernel
theorem dX10_enter_57 : decode cX10_enter 57 = .ok (.iconst 1, 1) := by decide +kernel
theorem dX10_enter_58 : decode cX10_enter 58 = .ok (.iadd, 1) := by decide +kernel
theorem dX10_enter_59 : decode cX10_enter 59 = .ok (.putfield 99, 3) := by decide +kernel
theorem dX10_enter_62 : decode cX10_enter 62 = .ok (.aload_n 0, 1) := by decide +kernel
theorem dX10_enter_63 : decode cX10_enter 63 = .ok (.getfield 57, 3) := by decide +kernel
theorem dX10_enter_66 : decode cX10_enter 66 = .ok (.iload_n 1, 1) := by decide +kernel
theorem dX10_enter_67 : decode cX10_enter 67 = .ok (.dup2, 1) := by decide +kernel
theorem dX10_enter_68 : decode cX10_enter 68 = .ok (.iaload, 1) := by decide +kernel
theorem dX10_enter_69 : decode cX10_enter 69 = .ok (.iconst 1, 1) := by decide +kernel
theorem dX10_enter_70 : decode cX10_enter 70 = .ok (.iadd, 1) := by decide +kernel
theorem dX10_enter_71 : decode cX10_enter 71 = .ok (.iastore, 1) := by decide +kernel
theorem dX10_enter_72 : decode cX10_enter 72 = .ok (.return_, 1) := by decide +kernel
theorem dX10_isPower_0 : decode cX10_isPower 0 = .ok (.lload_n 0, 1) := by decide +kernel
theorem dX10_isPower_1 : decode cX10_isPower 1 = .ok (.lload_n 2, 1) := by decide +kernel
theorem dX10_isPower_2 : decode cX10_isPower 2 = .ok (.lcmp, 1) := by decide +kernel
theorem dX10_isPower_3 : decode cX10_isPower 3 = .ok (.ifCond .lt 24, 3) := by decide +kernel
theorem dX10_isPower_6 : decode cX10_isPower 6 = .ok (.lload_n 0, 1) := by decide +kernel
theorem dX10_isPower_7 : decode cX10_isPower 7 = .ok (.lload 4, 2) := by decide +kernel
theorem dX10_isPower_9 : decode cX10_isPower 9 = .ok (.lcmp, 1) := by decide +kernel
theorem dX10_isPower_10 : decode cX10_isPower 10 = .ok (.ifCond .gt 17, 3) := by decide +kernel
theorem dX10_isPower_13 : decode cX10_isPower 13 = .ok (.lload_n 0, 1) := by decide +kernel
theorem dX10_isPower_14 : decode cX10_isPower 14 = .ok (.lload_n 0, 1) := by decide +kernel
theorem dX10_isPower_15 : decode cX10_isPower 15 = .ok (.lconst 1, 1) := by decide +kernel
theorem dX10_isPower_16 : decode cX10_isPower 16 = .ok (.lsub, 1) := by decide +kernel
theorem dX10_isPower_17 : decode cX10_isPower 17 = .ok (.land, 1) := by decide +kernel
theorem dX10_isPower_18 : decode cX10_isPower 18 = .ok (.lconst 0, 1) := by decide +kernel
theorem dX10_isPower_19 : decode cX10_isPower 19 = .ok (.lcmp, 1) := by decide +kernel
theorem dX10_isPower_20 : decode cX10_isPower 20 = .ok (.ifCond .ne 7, 3) := by decide +kernel
theorem dX10_isPower_23 : decode cX10_isPower 23 = .ok (.iconst 1, 1) := by decide +kernel
theorem dX10_isPower_24 : decode cX10_isPower 24 = .ok (.goto 4, 3) := by decide +kernel
theorem dX10_isPower_27 : decode cX10_isPower 27 = .ok (.iconst 0, 1) := by decide +kernel
theorem dX10_isPower_28 : decode cX10_isPower 28 = .ok (.ireturn, 1) := by decide +kernel
theorem dX10_isTold_0 : decode cX10_isTold 0 = .ok (.lload_n 0, 1) := by decide +kernel
theorem dX10_isTold_1 : decode cX10_isTold 1 = .ok (.lconst 0, 1) := by decide +kernel
theorem dX10_isTold_2 : decode cX10_isTold 2 = .ok (.lcmp, 1) := by decide +kernel
theorem dX10_isTold_3 : decode cX10_isTold 3 = .ok (.ifCond .lt 25, 3) := by decide +kernel
theorem dX10_isTold_6 : decode cX10_isTold 6 = .ok (.lload_n 0, 1) := by decide +kernel
theorem dX10_isTold_7 : decode cX10_isTold 7 = .ok (.lload_n 2, 1) := by decide +kernel
theorem dX10_isTold_8 : decode cX10_isTold 8 = .ok (.lrem, 1) := by decide +kernel
theorem dX10_isTold_9 : decode cX10_isTold 9 = .ok (.lconst 0, 1) := by decide +kernel
theorem dX10_isTold_10 : decode cX10_isTold 10 = .ok (.lcmp, 1) := by decide +kernel
theorem dX10_isTold_11 : decode cX10_isTold 11 = .ok (.ifCond .ne 17, 3) := by decide +kernel
theorem dX10_isTold_14 : decode cX10_isTold 14 = .ok (.lload_n 0, 1) := by decide +kernel
theorem dX10_isTold_15 : decode cX10_isTold 15 = .ok (.ldc2_w 359, 3) := by decide +kernel
theorem dX10_isTold_18 : decode cX10_isTold 18 = .ok (.lload_n 2, 1) := by decide +kernel
theorem dX10_isTold_19 : decode cX10_isTold 19 = .ok (.lsub, 1) := by decide +kernel
theorem dX10_isTold_20 : decode cX10_isTold 20 = .ok (.lcmp, 1) := by decide +kernel
theorem dX10_isTold_21 : decode cX10_isTold 21 = .ok (.ifCond .gt 7, 3) := by decide +kernel
theorem dX10_isTold_24 : decode cX10_isTold 24 = .ok (.iconst 1, 1) := by decide +kernel
theorem dX10_isTold_25 : decode cX10_isTold 25 = .ok (.goto 4, 3) := by decide +kernel
theorem dX10_isTold_28 : decode cX10_isTold 28 = .ok (.iconst 0, 1) := by decide +kernel
theorem dX10_isTold_29 : decode cX10_isTold 29 = .ok (.ireturn, 1) := by decide +kernel
theorem dX10_meet_0 : decode cX10_meet 0 = .ok (.lload_n 2, 1) := by decide +kernel
theorem dX10_meet_1 : decode cX10_meet 1 = .ok (.lconst 0, 1) := by decide +kernel
theorem dX10_meet_2 : decode cX10_meet 2 = .ok (.lcmp, 1) := by decide +kernel
theorem dX10_meet_3 : decode cX10_meet 3 = .ok (.ifCond .le 33, 3) := by decide +kernel
theorem dX10_meet_6 : decode cX10_meet 6 = .ok (.lload 6, 2) := by decide +kernel
theorem dX10_meet_8 : decode cX10_meet 8 = .ok (.lconst 0, 1) := by decide +kernel
theorem dX10_meet_9 : decode cX10_meet 9 = .ok (.lcmp, 1) := by decide +kernel
theorem dX10_meet_10 : decode cX10_meet 10 = .ok (.ifCond .le 26, 3) := by decide +kernel
theorem dX10_meet_13 : decode cX10_meet 13 = .ok (.lload_n 0, 1) := by decide +kernel
theorem dX10_meet_14 : decode cX10_meet 14 = .ok (.lload 4, 2) := by decide +kernel
theorem dX10_meet_16 : decode cX10_meet 16 = .ok (.lload 6, 2) := by decide +kernel
theorem dX10_meet_18 : decode cX10_meet 18 = .ok (.ladd, 1) := by decide +kernel
theorem dX10_meet_19 : decode cX10_meet 19 = .ok (.lcmp, 1) := by decide +kernel
theorem dX10_meet_20 : decode cX10_meet 20 = .ok (.ifCond .ge 16, 3) := by decide +kernel
theorem dX10_meet_23 : decode cX10_meet 23 = .ok (.lload 4, 2) := by decide +kernel
theorem dX10_meet_25 : decode cX10_meet 25 = .ok (.lload_n 0, 1) := by decide +kernel
theorem dX10_meet_26 : decode cX10_meet 26 = .ok (.lload_n 2, 1) := by decide +kernel
theorem dX10_meet_27 : decode cX10_meet 27 = .ok (.ladd, 1) := by decide +kernel
theorem dX10_meet_28 : decode cX10_meet 28 = .ok (.lcmp, 1) := by decide +kernel
theorem dX10_meet_29 : decode cX10_meet 29 = .ok (.ifCond .ge 7, 3) := by decide +kernel
theorem dX10_meet_32 : decode cX10_meet 32 = .ok (.iconst 1, 1) := by decide +kernel
theorem dX10_meet_33 : decode cX10_meet 33 = .ok (.goto 4, 3) := by decide +kernel
theorem dX10_meet_36 : decode cX10_meet 36 = .ok (.iconst 0, 1) := by decide +kernel
theorem dX10_meet_37 : decode cX10_meet 37 = .ok (.ireturn, 1) := by decide +kernel
theorem dX10_mayAll_0 : decode cX10_mayAll 0 = .ok (.iconst 1, 1) := by decide +kernel
theorem dX10_mayAll_1 : decode cX10_mayAll 1 = .ok (.istore 6, 2) := by decide +kernel
theorem dX10_mayAll_3 : decode cX10_mayAll 3 = .ok (.lconst 0, 1) := by decide +kernel
theorem dX10_mayAll_4 : decode cX10_mayAll 4 = .ok (.lstore 7, 2) := by decide +kernel
theorem dX10_mayAll_6 : decode cX10_mayAll 6 = .ok (.lload 7, 2) := by decide +kernel
theorem dX10_mayAll_8 : decode cX10_mayAll 8 = .ok (.lload_n 3, 1) := by decide +kernel
theorem dX10_mayAll_9 : decode cX10_mayAll 9 = .ok (.lcmp, 1) := by decide +kernel
theorem dX10_mayAll_10 : decode cX10_mayAll 10 = .ok (.ifCond .ge 32, 3) := by decide +kernel
theorem dX10_mayAll_13 : decode cX10_mayAll 13 = .ok (.iload 6, 2) := by decide +kernel
theorem dX10_mayAll_15 : decode cX10_mayAll 15 = .ok (.ifCond .eq 27, 3) := by decide +kernel
theorem dX10_mayAll_18 : decode cX10_mayAll 18 = .ok (.aload_n 0, 1) := by decide +kernel
theorem dX10_mayAll_19 : decode cX10_mayAll 19 = .ok (.lload_n 1, 1) := by decide +kernel
theorem dX10_mayAll_20 : decode cX10_mayAll 20 = .ok (.lload 7, 2) := by decide +kernel
theorem dX10_mayAll_22 : decode cX10_mayAll 22 = .ok (.ladd, 1) := by decide +kernel
theorem dX10_mayAll_23 : decode cX10_mayAll 23 = .ok (.l2i, 1) := by decide +kernel
theorem dX10_mayAll_24 : decode cX10_mayAll 24 = .ok (.iconst 1, 1) := by decide +kernel
theorem dX10_mayAll_25 : decode cX10_mayAll 25 = .ok (.iload 5, 2) := by decide +kernel
theorem dX10_mayAll_27 : decode cX10_mayAll 27 = .ok (.iconst 0, 1) := by decide +kernel
theorem dX10_mayAll_28 : decode cX10_mayAll 28 = .ok (.invokevirtual 219, 3) := by decide +kernel
theorem dX10_mayAll_31 : decode cX10_mayAll 31 = .ok (.istore 6, 2) := by decide +kernel
theorem dX10_mayAll_33 : decode cX10_mayAll 33 = .ok (.lload 7, 2) := by decide +kernel
theorem dX10_mayAll_35 : decode cX10_mayAll 35 = .ok (.lconst 1, 1) := by decide +kernel
theorem dX10_mayAll_36 : decode cX10_mayAll 36 = .ok (.ladd, 1) := by decide +kernel
theorem dX10_mayAll_37 : decode cX10_mayAll 37 = .ok (.lstore 7, 2) := by decide +kernel
theorem dX10_mayAll_39 : decode cX10_mayAll 39 = .ok (.goto (-33), 3) := by decide +kernel
theorem dX10_mayAll_42 : decode cX10_mayAll 42 = .ok (.iload 6, 2) := by decide +kernel
theorem dX10_mayAll_44 : decode cX10_mayAll 44 = .ok (.ireturn, 1) := by decide +kernel
theorem dX10_create_0 : decode cX10_create 0 = .ok (.aload_n 0, 1) := by decide +kernel
theorem dX10_create_1 : decode cX10_create 1 = .ok (.bipush 10, 2) := by decide +kernel
theorem dX10_create_3 : decode cX10_create 3 = .ok (.invokevirtual 253, 3) := by decide +kernel
theorem dX10_create_6 : decode cX10_create 6 = .ok (.lstore_n 1, 1) := by decide +kernel
theorem dX10_create_7 : decode cX10_create 7 = .ok (.aload_n 0, 1) := by decide +kernel
theorem dX10_create_8 : decode cX10_create 8 = .ok (.bipush 11, 2) := by decide +kernel
theorem dX10_create_10 : decode cX10_create 10 = .ok (.invokevirtual 253, 3) := by decide +kernel
theorem dX10_create_13 : decode cX10_create 13 = .ok (.lstore_n 3, 1) := by decide +kernel
theorem dX10_create_14 : decode cX10_create 14 = .ok (.aload_n 0, 1) := by decide +kernel
theorem dX10_create_15 : decode cX10_create 15 = .ok (.bipush 12, 2) := by decide +kernel
theorem dX10_create_17 : decode cX10_create 17 = .ok (.invokevirtual 253, 3) := by decide +kernel
theorem dX10_create_20 : decode cX10_create 20 = .ok (.lstore 5, 2) := by decide +kernel
theorem dX10_create_22 : decode cX10_create 22 = .ok (.aload_n 0, 1) := by decide +kernel
theorem dX10_create_23 : decode cX10_create 23 = .ok (.bipush 13, 2) := by decide +kernel
theorem dX10_create_25 : decode cX10_create 25 = .ok (.invokevirtual 253, 3) := by decide +kernel
theorem dX10_create_28 : decode cX10_create 28 = .ok (.lstore 7, 2) := by decide +kernel
theorem dX10_create_30 : decode cX10_create 30 = .ok (.aload_n 0, 1) := by decide +kernel
theorem dX10_create_31 : decode cX10_create 31 = .ok (.bipush 14, 2) := by decide +kernel
theorem dX10_create_33 : decode cX10_create 33 = .ok (.invokevirtual 253, 3) := by decide +kernel
theorem dX10_create_36 : decode cX10_create 36 = .ok (.lstore 9, 2) := by decide +kernel
theorem dX10_create_38 : decode cX10_create 38 = .ok (.aload_n 0, 1) := by decide +kernel
theorem dX10_create_39 : decode cX10_create 39 = .ok (.bipush 15, 2) := by decide +kernel
theorem dX10_create_41 : decode cX10_create 41 = .ok (.invokevirtual 253, 3) := by decide +kernel
theorem dX10_create_44 : decode cX10_create 44 = .ok (.lstore 11, 2) := by decide +kernel
theorem dX10_create_46 : decode cX10_create 46 = .ok (.aload_n 0, 1) := by decide +kernel
theorem dX10_create_47 : decode cX10_create 47 = .ok (.bipush 16, 2) := by decide +kernel
theorem dX10_create_49 : decode cX10_create 49 = .ok (.invokevirtual 253, 3) := by decide +kernel
theorem dX10_create_52 : decode cX10_create 52 = .ok (.lstore 13, 2) := by decide +kernel
theorem dX10_create_54 : decode cX10_create 54 = .ok (.lload_n 3, 1) := by decide +kernel
theorem dX10_create_55 : decode cX10_create 55 = .ok (.ldc2_w 361, 3) := by decide +kernel
theorem dX10_create_58 : decode cX10_create 58 = .ok (.ldc2_w 363, 3) := by decide +kernel
theorem dX10_create_61 : decode cX10_create 61 = .ok (.invokestatic 365, 3) := by decide +kernel
theorem dX10_create_64 : decode cX10_create 64 = .ok (.ifCond .eq 21, 3) := by decide +kernel
theorem dX10_create_67 : decode cX10_create 67 = .ok (.lload_n 1, 1) := by decide +kernel
theorem dX10_create_68 : decode cX10_create 68 = .ok (.lload_n 3, 1) := by decide +kernel
theorem dX10_create_69 : decode cX10_create 69 = .ok (.invokestatic 368, 3) := by decide +kernel
theorem dX10_create_72 : decode cX10_create 72 = .ok (.ifCond .eq 13, 3) := by decide +kernel
theorem dX10_create_75 : decode cX10_create 75 = .ok (.lload 7, 2) := by decide +kernel
theorem dX10_create_77 : decode cX10_create 77 = .ok (.lconst 0, 1) := by decide +kernel
theorem dX10_create_78 : decode cX10_create 78 = .ok (.lload_n 3, 1) := by decide +kernel
theorem dX10_create_79 : decode cX10_create 79 = .ok (.invokestatic 176, 3) := by decide +kernel
theorem dX10_create_82 : decode cX10_create 82 = .ok (.ifCond .ne 7, 3) := by decide +kernel
theorem dX10_create_85 : decode cX10_create 85 = .ok (.ldc2_w 305, 3) := by decide +kernel
theorem dX10_create_88 : decode cX10_create 88 = .ok (.lreturn, 1) := by decide +kernel
theorem dX10_create_89 : decode cX10_create 89 = .ok (.lload 7, 2) := by decide +kernel
theorem dX10_create_91 : decode cX10_create 91 = .ok (.lconst 0, 1) := by decide +kernel
theorem dX10_create_92 : decode cX10_create 92 = .ok (.lcmp, 1) := by decide +kernel
theorem dX10_create_93 : decode cX10_create 93 = .ok (.ifCond .le 26, 3) := by decide +kernel
theorem dX10_create_96 : decode cX10_create 96 = .ok (.lload 5, 2) := by decide +kernel
theorem dX10_create_98 : decode cX10_create 98 = .ok (.lconst 0, 1) := by decide +kernel
theorem dX10_create_99 : decode cX10_create 99 = .ok (.lcmp, 1) := by decide +kernel
theorem dX10_create_100 : decode cX10_create 100 = .ok (.ifCond .lt 15, 3) := by decide +kernel
theorem dX10_create_103 : decode cX10_create 103 = .ok (.lload 5, 2) := by decide +kernel
theorem dX10_create_105 : decode cX10_create 105 = .ok (.ldc2_w 359, 3) := by decide +kernel
theorem dX10_create_108 : decode cX10_create 108 = .ok (.lload 7, 2) := by decide +kernel
theorem dX10_create_110 : decode cX10_create 110 = .ok (.lsub, 1) := by decide +kernel
theorem dX10_create_111 : decode cX10_create 111 = .ok (.lcmp, 1) := by decide +kernel
theorem dX10_create_112 : decode cX10_create 112 = .ok (.ifCond .le 7, 3) := by decide +kernel
theorem dX10_create_115 : decode cX10_create 115 = .ok (.ldc2_w 305, 3) := by decide +kernel
theorem dX10_create_118 : decode cX10_create 118 = .ok (.lreturn, 1) := by decide +kernel
theorem dX10_create_119 : decode cX10_create 119 = .ok (.lload 9, 2) := by decide +kernel
theorem dX10_create_121 : decode cX10_create 121 = .ok (.lconst 0, 1) := by decide +kernel
theorem dX10_create_122 : decode cX10_create 122 = .ok (.lload_n 3, 1) := by decide +kernel
theorem dX10_create_123 : decode cX10_create 123 = .ok (.lconst 1, 1) := by decide +kernel
theorem dX10_create_124 : decode cX10_create 124 = .ok (.lsub, 1) := by decide +kernel
theorem dX10_create_125 : decode cX10_create 125 = .ok (.invokestatic 176, 3) := by decide +kernel
theorem dX10_create_128 : decode cX10_create 128 = .ok (.ifCond .eq 35, 3) := by decide +kernel
theorem dX10_create_131 : decode cX10_create 131 = .ok (.lload 9, 2) := by decide +kernel
theorem dX10_create_133 : decode cX10_create 133 = .ok (.ldc2_w 140, 3) := by decide +kernel
theorem dX10_create_136 : decode cX10_create 136 = .ok (.lrem, 1) := by decide +kernel
theorem dX10_create_137 : decode cX10_create 137 = .ok (.lconst 0, 1) := by decide +kernel
theorem dX10_create_138 : decode cX10_create 138 = .ok (.lcmp, 1) := by decide +kernel
theorem dX10_create_139 : decode cX10_create 139 = .ok (.ifCond .ne 24, 3) := by decide +kernel
theorem dX10_create_142 : decode cX10_create 142 = .ok (.lload 13, 2) := by decide +kernel
theorem dX10_create_144 : decode cX10_create 144 = .ok (.lconst 0, 1) := by decide +kernel
theorem dX10_create_145 : decode cX10_create 145 = .ok (.lcmp, 1) := by decide +kernel
theorem dX10_create_146 : decode cX10_create 146 = .ok (.ifCond .eq 21, 3) := by decide +kernel
theorem dX10_create_149 : decode cX10_create 149 = .ok (.lload 13, 2) := by decide +kernel
theorem dX10_create_151 : decode cX10_create 151 = .ok (.ldc2_w 155, 3) := by decide +kernel
theorem dX10_create_154 : decode cX10_create 154 = .ok (.ldc2_w 371, 3) := by decide +kernel
theorem dX10_create_157 : decode cX10_create 157 = .ok (.invokestatic 365, 3) := by decide +kernel
theorem dX10_create_160 : decode cX10_create 160 = .ok (.ifCond .ne 7, 3) := by decide +kernel
theorem dX10_create_163 : decode cX10_create 163 = .ok (.ldc2_w 305, 3) := by decide +kernel
theorem dX10_create_166 : decode cX10_create 166 = .ok (.lreturn, 1) := by decide +kernel
theorem dX10_create_167 : decode cX10_create 167 = .ok (.lload 13, 2) := by decide +kernel
theorem dX10_create_169 : decode cX10_create 169 = .ok (.lconst 0, 1) := by decide +kernel
theorem dX10_create_170 : decode cX10_create 170 = .ok (.lcmp, 1) := by decide +kernel
theorem dX10_create_171 : decode cX10_create 171 = .ok (.ifCond .eq 29, 3) := by decide +kernel
theorem dX10_create_174 : decode cX10_create 174 = .ok (.lload 11, 2) := by decide +kernel
theorem dX10_create_176 : decode cX10_create 176 = .ok (.lload 13, 2) := by decide +kernel
theorem dX10_create_178 : decode cX10_create 178 = .ok (.invokestatic 368, 3) := by decide +kernel
theorem dX10_create_181 : decode cX10_create 181 = .ok (.ifCond .eq 15, 3) := by decide +kernel
theorem dX10_create_184 : decode cX10_create 184 = .ok (.lload_n 1, 1) := by decide +kernel
theorem dX10_create_185 : decode cX10_create 185 = .ok (.lload_n 3, 1) := by decide +kernel
theorem dX10_create_186 : decode cX10_create 186 = .ok (.lload 11, 2) := by decide +kernel
theorem dX10_create_188 : decode cX10_create 188 = .ok (.lload 13, 2) := by decide +kernel
theorem dX10_create_190 : decode cX10_create 190 = .ok (.invokestatic 373, 3) := by decide +kernel
theorem dX10_create_193 : decode cX10_create 193 = .ok (.ifCond .eq 7, 3) := by decide +kernel
theorem dX10_create_196 : decode cX10_create 196 = .ok (.ldc2_w 305, 3) := by decide +kernel
theorem dX10_create_199 : decode cX10_create 199 = .ok (.lreturn, 1) := by decide +kernel
theorem dX10_create_200 : decode cX10_create 200 = .ok (.iconst (-1), 1) := by decide +kernel
theorem dX10_create_201 : decode cX10_create 201 = .ok (.istore 15, 2) := by decide +kernel
theorem dX10_create_203 : decode cX10_create 203 = .ok (.iconst 5, 1) := by decide +kernel
theorem dX10_create_204 : decode cX10_create 204 = .ok (.istore 16, 2) := by decide +kernel
theorem dX10_create_206 : decode cX10_create 206 = .ok (.iload 16, 2) := by decide +kernel
theorem dX10_create_208 : decode cX10_create 208 = .ok (.ifCond .lt 103, 3) := by decide +kernel
theorem dX10_create_211 : decode cX10_create 211 = .ok (.aload_n 0, 1) := by decide +kernel
theorem dX10_create_212 : decode cX10_create 212 = .ok (.iload 16, 2) := by decide +kernel
theorem dX10_create_214 : decode cX10_create 214 = .ok (.invokevirtual 79, 3) := by decide +kernel
theorem dX10_create_217 : decode cX10_create 217 = .ok (.ifCond .ne 10, 3) := by decide +kernel
theorem dX10_create_220 : decode cX10_create 220 = .ok (.iload 16, 2) := by decide +kernel
theorem dX10_create_222 : decode cX10_create 222 = .ok (.istore 15, 2) := by decide +kernel
theorem dX10_create_224 : decode cX10_create 224 = .ok (.goto 81, 3) := by decide +kernel
theorem dX10_create_227 : decode cX10_create 227 = .ok (.lload_n 1, 1) := by decide +kernel
theorem dX10_create_228 : decode cX10_create 228 = .ok (.lload_n 3, 1) := by decide +kernel
theorem dX10_create_229 : decode cX10_create 229 = .ok (.aload_n 0, 1) := by decide +kernel
theorem dX10_create_230 : decode cX10_create 230 = .ok (.getfield 42, 3) := by decide +kernel
theorem dX10_create_233 : decode cX10_create 233 = .ok (.iload 16, 2) := by decide +kernel
theorem dX10_create_235 : decode cX10_create 235 = .ok (.iaload, 1) := by decide +kernel
theorem dX10_create_236 : decode cX10_create 236 = .ok (.i2l, 1) := by decide +kernel
theorem dX10_create_237 : decode cX10_create 237 = .ok (.aload_n 0, 1) := by decide +kernel
theorem dX10_create_238 : decode cX10_create 238 = .ok (.getfield 45, 3) := by decide +kernel
theorem dX10_create_241 : decode cX10_create 241 = .ok (.iload 16, 2) := by decide +kernel
theorem dX10_create_243 : decode cX10_create 243 = .ok (.iaload, 1) := by decide +kernel
theorem dX10_create_244 : decode cX10_create 244 = .ok (.i2l, 1) := by decide +kernel
theorem dX10_create_245 : decode cX10_create 245 = .ok (.invokestatic 373, 3) := by decide +kernel
theorem dX10_create_248 : decode cX10_create 248 = .ok (.ifCond .ne 53, 3) := by decide +kernel
theorem dX10_create_251 : decode cX10_create 251 = .ok (.lload_n 1, 1) := by decide +kernel
theorem dX10_create_252 : decode cX10_create 252 = .ok (.lload_n 3, 1) := by decide +kernel
theorem dX10_create_253 : decode cX10_create 253 = .ok (.aload_n 0, 1) := by decide +kernel
theorem dX10_create_254 : decode cX10_create 254 = .ok (.getfield 51, 3) := by decide +kernel
theorem dX10_create_257 : decode cX10_create 257 = .ok (.iload 16, 2) := by decide +kernel
theorem dX10_create_259 : decode cX10_create 259 = .ok (.iaload, 1) := by decide +kernel
theorem dX10_create_260 : decode cX10_create 260 = .ok (.i2l, 1) := by decide +kernel
theorem dX10_create_261 : decode cX10_create 261 = .ok (.aload_n 0, 1) := by decide +kernel
theorem dX10_create_262 : decode cX10_create 262 = .ok (.getfield 54, 3) := by decide +kernel
theorem dX10_create_265 : decode cX10_create 265 = .ok (.iload 16, 2) := by decide +kernel
theorem dX10_create_267 : decode cX10_create 267 = .ok (.iaload, 1) := by decide +kernel
theorem dX10_create_268 : decode cX10_create 268 = .ok (.i2l, 1) := by decide +kernel
theorem dX10_create_269 : decode cX10_create 269 = .ok (.invokestatic 373, 3) := by decide +kernel
theorem dX10_create_272 : decode cX10_create 272 = .ok (.ifCond .ne 29, 3) := by decide +kernel
theorem dX10_create_275 : decode cX10_create 275 = .ok (.lload 11, 2) := by decide +kernel
theorem dX10_create_277 : decode cX10_create 277 = .ok (.lload 13, 2) := by decide +kernel
theorem dX10_create_279 : decode cX10_create 279 = .ok (.aload_n 0, 1) := by decide +kernel
theorem dX10_create_280 : decode cX10_create 280 = .ok (.getfield 42, 3) := by decide +kernel
theorem dX10_create_283 : decode cX10_create 283 = .ok (.iload 16, 2) := by decide +kernel
theorem dX10_create_285 : decode cX10_create 285 = .ok (.iaload, 1) := by decide +kernel
theorem dX10_create_286 : decode cX10_create 286 = .ok (.i2l, 1) := by decide +kernel
theorem dX10_create_287 : decode cX10_create 287 = .ok (.aload_n 0, 1) := by decide +kernel
theorem dX10_create_288 : decode cX10_create 288 = .ok (.getfield 45, 3) := by decide +kernel
theorem dX10_create_291 : decode cX10_create 291 = .ok (.iload 16, 2) := by decide +kernel
theorem dX10_create_293 : decode cX10_create 293 = .ok (.iaload, 1) := by decide +kernel
theorem dX10_create_294 : decode cX10_create 294 = .ok (.i2l, 1) := by decide +kernel
theorem dX10_create_295 : decode cX10_create 295 = .ok (.invokestatic 373, 3) := by decide +kernel
theorem dX10_create_298 : decode cX10_create 298 = .ok (.ifCond .eq 7, 3) := by decide +kernel
theorem dX10_create_301 : decode cX10_create 301 = .ok (.ldc2_w 256, 3) := by decide +kernel
theorem dX10_create_304 : decode cX10_create 304 = .ok (.lreturn, 1) := by decide +kernel
theorem dX10_create_305 : decode cX10_create 305 = .ok (.iinc 16 (-1), 3) := by decide +kernel
theorem dX10_create_308 : decode cX10_create 308 = .ok (.goto (-102), 3) := by decide +kernel
theorem dX10_create_311 : decode cX10_create 311 = .ok (.aload_n 0, 1) := by decide +kernel
theorem dX10_create_312 : decode cX10_create 312 = .ok (.lload_n 1, 1) := by decide +kernel
theorem dX10_create_313 : decode cX10_create 313 = .ok (.lload_n 3, 1) := by decide +kernel
theorem dX10_create_314 : decode cX10_create 314 = .ok (.iconst 3, 1) := by decide +kernel
theorem dX10_create_315 : decode cX10_create 315 = .ok (.invokevirtual 377, 3) := by decide +kernel
theorem dX10_create_318 : decode cX10_create 318 = .ok (.ifCond .eq 27, 3) := by decide +kernel
theorem dX10_create_321 : decode cX10_create 321 = .ok (.aload_n 0, 1) := by decide +kernel
theorem dX10_create_322 : decode cX10_create 322 = .ok (.lload 11, 2) := by decide +kernel
theorem dX10_create_324 : decode cX10_create 324 = .ok (.lload 13, 2) := by decide +kernel
theorem dX10_create_326 : decode cX10_create 326 = .ok (.iconst 3, 1) := by decide +kernel
theorem dX10_create_327 : decode cX10_create 327 = .ok (.invokevirtual 377, 3) := by decide +kernel
theorem dX10_create_330 : decode cX10_create 330 = .ok (.ifCond .eq 15, 3) := by decide +kernel
theorem dX10_create_333 : decode cX10_create 333 = .ok (.aload_n 0, 1) := by decide +kernel
theorem dX10_create_334 : decode cX10_create 334 = .ok (.lload 5, 2) := by decide +kernel
theorem dX10_create_336 : decode cX10_create 336 = .ok (.lload 7, 2) := by decide +kernel
theorem dX10_create_338 : decode cX10_create 338 = .ok (.iconst 1, 1) := by decide +kernel
theorem dX10_create_339 : decode cX10_create 339 = .ok (.invokevirtual 377, 3) := by decide +kernel
theorem dX10_create_342 : decode cX10_create 342 = .ok (.ifCond .ne 7, 3) := by decide +kernel
theorem dX10_create_345 : decode cX10_create 345 = .ok (.ldc2_w 202, 3) := by decide +kernel
theorem dX10_create_348 : decode cX10_create 348 = .ok (.lreturn, 1) := by decide +kernel
theorem dX10_create_349 : decode cX10_create 349 = .ok (.iload 15, 2) := by decide +kernel
theorem dX10_create_351 : decode cX10_create 351 = .ok (.iconst (-1), 1) := by decide +kernel
theorem dX10_create_352 : decode cX10_create 352 = .ok (.if_icmp .ne 7, 3) := by decide +kernel
theorem dX10_create_355 : decode cX10_create 355 = .ok (.ldc2_w 381, 3) := by decide +kernel
theorem dX10_create_358 : decode cX10_create 358 = .ok (.lreturn, 1) := by decide +kernel
theorem dX10_create_359 : decode cX10_create 359 = .ok (.aload_n 0, 1) := by decide +kernel
theorem dX10_create_360 : decode cX10_create 360 = .ok (.iload 15, 2) := by decide +kernel
theorem dX10_create_362 : decode cX10_create 362 = .ok (.lload_n 1, 1) := by decide +kernel
theorem dX10_create_363 : decode cX10_create 363 = .ok (.l2i, 1) := by decide +kernel
theorem dX10_create_364 : decode cX10_create 364 = .ok (.lload_n 3, 1) := by decide +kernel
theorem dX10_create_365 : decode cX10_create 365 = .ok (.l2i, 1) := by decide +kernel
theorem dX10_create_366 : decode cX10_create 366 = .ok (.lload 5, 2) := by decide +kernel
theorem dX10_create_368 : decode cX10_create 368 = .ok (.l2i, 1) := by decide +kernel
theorem dX10_create_369 : decode cX10_create 369 = .ok (.lload 7, 2) := by decide +kernel
theorem dX10_create_371 : decode cX10_create 371 = .ok (.l2i, 1) := by decide +kernel
theorem dX10_create_372 : decode cX10_create 372 = .ok (.invokevirtual 383, 3) := by decide +kernel
theorem dX10_create_375 : decode cX10_create 375 = .ok (.aload_n 0, 1) := by decide +kernel
theorem dX10_create_376 : decode cX10_create 376 = .ok (.getfield 48, 3) := by decide +kernel
theorem dX10_create_379 : decode cX10_create 379 = .ok (.iload 15, 2) := by decide +kernel
theorem dX10_create_381 : decode cX10_create 381 = .ok (.lload 9, 2) := by decide +kernel
theorem dX10_create_383 : decode cX10_create 383 = .ok (.l2i, 1) := by decide +kernel
theorem dX10_create_384 : decode cX10_create 384 = .ok (.iastore, 1) := by decide +kernel
theorem dX10_create_385 : decode cX10_create 385 = .ok (.aload_n 0, 1) := by decide +kernel
theorem dX10_create_386 : decode cX10_create 386 = .ok (.getfield 51, 3) := by decide +kernel
theorem dX10_create_389 : decode cX10_create 389 = .ok (.iload 15, 2) := by decide +kernel
theorem dX10_create_391 : decode cX10_create 391 = .ok (.lload 13, 2) := by decide +kernel
theorem dX10_create_393 : decode cX10_create 393 = .ok (.lconst 0, 1) := by decide +kernel
theorem dX10_create_394 : decode cX10_create 394 = .ok (.lcmp, 1) := by decide +kernel
theorem dX10_create_395 : decode cX10_create 395 = .ok (.ifCond .ne 7, 3) := by decide +kernel
theorem dX10_create_398 : decode cX10_create 398 = .ok (.iconst 0, 1) := by decide +kernel
theorem dX10_create_399 : decode cX10_create 399 = .ok (.goto 6, 3) := by decide +kernel
theorem dX10_create_402 : decode cX10_create 402 = .ok (.lload 11, 2) := by decide +kernel
theorem dX10_create_404 : decode cX10_create 404 = .ok (.l2i, 1) := by decide +kernel
theorem dX10_create_405 : decode cX10_create 405 = .ok (.iastore, 1) := by decide +kernel
theorem dX10_create_406 : decode cX10_create 406 = .ok (.aload_n 0, 1) := by decide +kernel
theorem dX10_create_407 : decode cX10_create 407 = .ok (.getfield 54, 3) := by decide +kernel
theorem dX10_create_410 : decode cX10_create 410 = .ok (.iload 15, 2) := by decide +kernel
theorem dX10_create_412 : decode cX10_create 412 = .ok (.lload 13, 2) := by decide +kernel
theorem dX10_create_414 : decode cX10_create 414 = .ok (.l2i, 1) := by decide +kernel
theorem dX10_create_415 : decode cX10_create 415 = .ok (.iastore, 1) := by decide +kernel
theorem dX10_create_416 : decode cX10_create 416 = .ok (.aload_n 0, 1) := by decide +kernel
theorem dX10_create_417 : decode cX10_create 417 = .ok (.iload 15, 2) := by decide +kernel
theorem dX10_create_419 : decode cX10_create 419 = .ok (.lload 7, 2) := by decide +kernel
theorem dX10_create_421 : decode cX10_create 421 = .ok (.l2i, 1) := by decide +kernel
theorem dX10_create_422 : decode cX10_create 422 = .ok (.invokevirtual 387, 3) := by decide +kernel
theorem dX10_create_425 : decode cX10_create 425 = .ok (.iload 15, 2) := by decide +kernel
theorem dX10_create_427 : decode cX10_create 427 = .ok (.i2l, 1) := by decide +kernel
theorem dX10_create_428 : decode cX10_create 428 = .ok (.lreturn, 1) := by decide +kernel
theorem dX10_makes_0 : decode cX10_makes 0 = .ok (.iconst 0, 1) := by decide +kernel
theorem dX10_makes_1 : decode cX10_makes 1 = .ok (.istore 6, 2) := by decide +kernel
theorem dX10_makes_3 : decode cX10_makes 3 = .ok (.iload 6, 2) := by decide +kernel
theorem dX10_makes_5 : decode cX10_makes 5 = .ok (.iload 5, 2) := by decide +kernel
theorem dX10_makes_7 : decode cX10_makes 7 = .ok (.if_icmp .ge 26, 3) := by decide +kernel
theorem dX10_makes_10 : decode cX10_makes 10 = .ok (.aload_n 0, 1) := by decide +kernel
theorem dX10_makes_11 : decode cX10_makes 11 = .ok (.getfield 72, 3) := by decide +kernel
theorem dX10_makes_14 : decode cX10_makes 14 = .ok (.iload 6, 2) := by decide +kernel
theorem dX10_makes_16 : decode cX10_makes 16 = .ok (.aload_n 0, 1) := by decide +kernel
theorem dX10_makes_17 : decode cX10_makes 17 = .ok (.getfield 8, 3) := by decide +kernel
theorem dX10_makes_20 : decode cX10_makes 20 = .ok (.iload 4, 2) := by decide +kernel
theorem dX10_makes_22 : decode cX10_makes 22 = .ok (.iload 6, 2) := by decide +kernel
theorem dX10_makes_24 : decode cX10_makes 24 = .ok (.iadd, 1) := by decide +kernel
theorem dX10_makes_25 : decode cX10_makes 25 = .ok (.baload, 1) := by decide +kernel
theorem dX10_makes_26 : decode cX10_makes 26 = .ok (.bastore, 1) := by decide +kernel
theorem dX10_makes_27 : decode cX10_makes 27 = .ok (.iinc 6 1, 3) := by decide +kernel
theorem dX10_makes_30 : decode cX10_makes 30 = .ok (.goto (-27), 3) := by decide +kernel
theorem dX10_makes_33 : decode cX10_makes 33 = .ok (.iconst 0, 1) := by decide +kernel
theorem dX10_makes_34 : decode cX10_makes 34 = .ok (.istore 6, 2) := by decide +kernel
theorem dX10_makes_36 : decode cX10_makes 36 = .ok (.iload 6, 2) := by decide +kernel
theorem dX10_makes_38 : decode cX10_makes 38 = .ok (.iload_n 3, 1) := by decide +kernel
theorem dX10_makes_39 : decode cX10_makes 39 = .ok (.if_icmp .ge 36, 3) := by decide +kernel
theorem dX10_makes_42 : decode cX10_makes 42 = .ok (.aload_n 0, 1) := by decide +kernel
theorem dX10_makes_43 : decode cX10_makes 43 = .ok (.getfield 8, 3) := by decide +kernel
theorem dX10_makes_46 : decode cX10_makes 46 = .ok (.iload_n 2, 1) := by decide +kernel
theorem dX10_makes_47 : decode cX10_makes 47 = .ok (.iload 6, 2) := by decide +kernel
theorem dX10_makes_49 : decode cX10_makes 49 = .ok (.iadd, 1) := by decide +kernel
theorem dX10_makes_50 : decode cX10_makes 50 = .ok (.iload 6, 2) := by decide +kernel
theorem dX10_makes_52 : decode cX10_makes 52 = .ok (.iload 5, 2) := by decide +kernel
theorem dX10_makes_54 : decode cX10_makes 54 = .ok (.if_icmp .ge 13, 3) := by decide +kernel
theorem dX10_makes_57 : decode cX10_makes 57 = .ok (.aload_n 0, 1) := by decide +kernel
theorem dX10_makes_58 : decode cX10_makes 58 = .ok (.getfield 72, 3) := by decide +kernel
theorem dX10_makes_61 : decode cX10_makes 61 = .ok (.iload 6, 2) := by decide +kernel
theorem dX10_makes_63 : decode cX10_makes 63 = .ok (.baload, 1) := by decide +kernel
theorem dX10_makes_64 : decode cX10_makes 64 = .ok (.goto 4, 3) := by decide +kernel
theorem dX10_makes_67 : decode cX10_makes 67 = .ok (.iconst 0, 1) := by decide +kernel
theorem dX10_makes_68 : decode cX10_makes 68 = .ok (.bastore, 1) := by decide +kernel
theorem dX10_makes_69 : decode cX10_makes 69 = .ok (.iinc 6 1, 3) := by decide +kernel
theorem dX10_makes_72 : decode cX10_makes 72 = .ok (.goto (-36), 3) := by decide +kernel
theorem dX10_makes_75 : decode cX10_makes 75 = .ok (.aload_n 0, 1) := by decide +kernel
theorem dX10_makes_76 : decode cX10_makes 76 = .ok (.getfield 42, 3) := by decide +kernel
theorem dX10_makes_79 : decode cX10_makes 79 = .ok (.iload_n 1, 1) := by decide +kernel
theorem dX10_makes_80 : decode cX10_makes 80 = .ok (.iload_n 2, 1) := by decide +kernel
theorem dX10_makes_81 : decode cX10_makes 81 = .ok (.iastore, 1) := by decide +kernel
theorem dX10_makes_82 : decode cX10_makes 82 = .ok (.aload_n 0, 1) := by decide +kernel
theorem dX10_makes_83 : decode cX10_makes 83 = .ok (.getfield 45, 3) := by decide +kernel
theorem dX10_makes_86 : decode cX10_makes 86 = .ok (.iload_n 1, 1) := by decide +kernel
theorem dX10_makes_87 : decode cX10_makes 87 = .ok (.iload_n 3, 1) := by decide +kernel
theorem dX10_makes_88 : decode cX10_makes 88 = .ok (.iastore, 1) := by decide +kernel
theorem dX10_makes_89 : decode cX10_makes 89 = .ok (.aload_n 0, 1) := by decide +kernel
theorem dX10_makes_90 : decode cX10_makes 90 = .ok (.getfield 39, 3) := by decide +kernel
theorem dX10_makes_93 : decode cX10_makes 93 = .ok (.iload_n 1, 1) := by decide +kernel
theorem dX10_makes_94 : decode cX10_makes 94 = .ok (.iconst 1, 1) := by decide +kernel
theorem dX10_makes_95 : decode cX10_makes 95 = .ok (.iastore, 1) := by decide +kernel
theorem dX10_makes_96 : decode cX10_makes 96 = .ok (.aload_n 0, 1) := by decide +kernel
theorem dX10_makes_97 : decode cX10_makes 97 = .ok (.getfield 57, 3) := by decide +kernel
theorem dX10_makes_100 : decode cX10_makes 100 = .ok (.iload_n 1, 1) := by decide +kernel
theorem dX10_makes_101 : decode cX10_makes 101 = .ok (.iconst 0, 1) := by decide +kernel
theorem dX10_makes_102 : decode cX10_makes 102 = .ok (.iastore, 1) := by decide +kernel
theorem dX10_makes_103 : decode cX10_makes 103 = .ok (.aload_n 0, 1) := by decide +kernel
theorem dX10_makes_104 : decode cX10_makes 104 = .ok (.getfield 60, 3) := by decide +kernel
theorem dX10_makes_107 : decode cX10_makes 107 = .ok (.iload_n 1, 1) := by decide +kernel
theorem dX10_makes_108 : decode cX10_makes 108 = .ok (.iconst 0, 1) := by decide +kernel
theorem dX10_makes_109 : decode cX10_makes 109 = .ok (.iastore, 1) := by decide +kernel
theorem dX10_makes_110 : decode cX10_makes 110 = .ok (.iconst 0, 1) := by decide +kernel
theorem dX10_makes_111 : decode cX10_makes 111 = .ok (.istore 6, 2) := by decide +kernel
theorem dX10_makes_113 : decode cX10_makes 113 = .ok (.iload 6, 2) := by decide +kernel
theorem dX10_makes_115 : decode cX10_makes 115 = .ok (.bipush 32, 2) := by decide +kernel
theorem dX10_makes_117 : decode cX10_makes 117 = .ok (.if_icmp .ge 22, 3) := by decide +kernel
theorem dX10_makes_120 : decode cX10_makes 120 = .ok (.aload_n 0, 1) := by decide +kernel
theorem dX10_makes_121 : decode cX10_makes 121 = .ok (.getfield 14, 3) := by decide +kernel
theorem dX10_makes_124 : decode cX10_makes 124 = .ok (.bipush 32, 2) := by decide +kernel
theorem dX10_makes_126 : decode cX10_makes 126 = .ok (.iload_n 1, 1) := by decide +kernel
theorem dX10_makes_127 : decode cX10_makes 127 = .ok (.imul, 1) := by decide +kernel
theorem dX10_makes_128 : decode cX10_makes 128 = .ok (.iload 6, 2) := by decide +kernel
theorem dX10_makes_130 : decode cX10_makes 130 = .ok (.iadd, 1) := by decide +kernel
theorem dX10_makes_131 : decode cX10_makes 131 = .ok (.lconst 0, 1) := by decide +kernel
theorem dX10_makes_132 : decode cX10_makes 132 = .ok (.lastore, 1) := by decide +kernel
theorem dX10_makes_133 : decode cX10_makes 133 = .ok (.iinc 6 1, 3) := by decide +kernel
theorem dX10_makes_136 : decode cX10_makes 136 = .ok (.goto (-23), 3) := by decide +kernel
theorem dX10_makes_139 : decode cX10_makes 139 = .ok (.aload_n 0, 1) := by decide +kernel
theorem dX10_makes_140 : decode cX10_makes 140 = .ok (.dup, 1) := by decide +kernel
theorem dX10_makes_141 : decode cX10_makes 141 = .ok (.getfield 96, 3) := by decide +kernel
theorem dX10_makes_144 : decode cX10_makes 144 = .ok (.iconst 1, 1) := by decide +kernel
theorem dX10_makes_145 : decode cX10_makes 145 = .ok (.iadd, 1) := by decide +kernel
theorem dX10_makes_146 : decode cX10_makes 146 = .ok (.putfield 96, 3) := by decide +kernel
theorem dX10_makes_149 : decode cX10_makes 149 = .ok (.aload_n 0, 1) := by decide +kernel
theorem dX10_makes_150 : decode cX10_makes 150 = .ok (.iconst 0, 1) := by decide +kernel
theorem dX10_makes_151 : decode cX10_makes 151 = .ok (.putfield 126, 3) := by decide +kernel
theorem dX10_makes_154 : decode cX10_makes 154 = .ok (.return_, 1) := by decide +kernel
theorem dX10_measured_0 : decode cX10_measured 0 = .ok (.ldc2_w 391, 3) := by decide +kernel
theorem dX10_measured_3 : decode cX10_measured 3 = .ok (.lstore_n 3, 1) := by decide +kernel
theorem dX10_measured_4 : decode cX10_measured 4 = .ok (.iconst 0, 1) := by decide +kernel
theorem dX10_measured_5 : decode cX10_measured 5 = .ok (.istore 5, 2) := by decide +kernel
theorem dX10_measured_7 : decode cX10_measured 7 = .ok (.iload 5, 2) := by decide +kernel
theorem dX10_measured_9 : decode cX10_measured 9 = .ok (.iload_n 2, 1) := by decide +kernel
theorem dX10_measured_10 : decode cX10_measured 10 = .ok (.if_icmp .ge 28, 3) := by decide +kernel
theorem dX10_measured_13 : decode cX10_measured 13 = .ok (.lload_n 3, 1) := by decide +kernel
theorem dX10_measured_14 : decode cX10_measured 14 = .ok (.aload_n 0, 1) := by decide +kernel
theorem dX10_measured_15 : decode cX10_measured 15 = .ok (.getfield 72, 3) := by decide +kernel
theorem dX10_measured_18 : decode cX10_measured 18 = .ok (.iload 5, 2) := by decide +kernel
theorem dX10_measured_20 : decode cX10_measured 20 = .ok (.baload, 1) := by decide +kernel
theorem dX10_measured_21 : decode cX10_measured 21 = .ok (.sipush 255, 3) := by decide +kernel
theorem dX10_measured_24 : decode cX10_measured 24 = .ok (.iand, 1) := by decide +kernel
theorem dX10_measured_25 : decode cX10_measured 25 = .ok (.i2l, 1) := by decide +kernel
theorem dX10_measured_26 : decode cX10_measured 26 = .ok (.lxor, 1) := by decide +kernel
theorem dX10_measured_27 : decode cX10_measured 27 = .ok (.ldc2_w 393, 3) := by decide +kernel
theorem dX10_measured_30 : decode cX10_measured 30 = .ok (.lmul, 1) := by decide +kernel
theorem dX10_measured_31 : decode cX10_measured 31 = .ok (.lstore_n 3, 1) := by decide +kernel
theorem dX10_measured_32 : decode cX10_measured 32 = .ok (.iinc 5 1, 3) := by decide +kernel
theorem dX10_measured_35 : decode cX10_measured 35 = .ok (.goto (-28), 3) := by decide +kernel
theorem dX10_measured_38 : decode cX10_measured 38 = .ok (.iconst 0, 1) := by decide +kernel
theorem dX10_measured_39 : decode cX10_measured 39 = .ok (.istore 5, 2) := by decide +kernel
theorem dX10_measured_41 : decode cX10_measured 41 = .ok (.iload 5, 2) := by decide +kernel
theorem dX10_measured_43 : decode cX10_measured 43 = .ok (.bipush 24, 2) := by decide +kernel
theorem dX10_measured_45 : decode cX10_measured 45 = .ok (.if_icmp .ge 89, 3) := by decide +kernel
theorem dX10_measured_48 : decode cX10_measured 48 = .ok (.iload 5, 2) := by decide +kernel
theorem dX10_measured_50 : decode cX10_measured 50 = .ok (.bipush 8, 2) := by decide +kernel
theorem dX10_measured_52 : decode cX10_measured 52 = .ok (.if_icmp .ge 12, 3) := by decide +kernel
theorem dX10_measured_55 : decode cX10_measured 55 = .ok (.aload_n 0, 1) := by decide +kernel
theorem dX10_measured_56 : decode cX10_measured 56 = .ok (.getfield 45, 3) := by decide +kernel
theorem dX10_measured_59 : decode cX10_measured 59 = .ok (.iload_n 1, 1) := by decide +kernel
theorem dX10_measured_60 : decode cX10_measured 60 = .ok (.iaload, 1) := by decide +kernel
theorem dX10_measured_61 : decode cX10_measured 61 = .ok (.goto 25, 3) := by decide +kernel
theorem dX10_measured_64 : decode cX10_measured 64 = .ok (.iload 5, 2) := by decide +kernel
theorem dX10_measured_66 : decode cX10_measured 66 = .ok (.bipush 16, 2) := by decide +kernel
theorem dX10_measured_68 : decode cX10_measured 68 = .ok (.if_icmp .ge 12, 3) := by decide +kernel
theorem dX10_measured_71 : decode cX10_measured 71 = .ok (.aload_n 0, 1) := by decide +kernel
theorem dX10_measured_72 : decode cX10_measured 72 = .ok (.getfield 48, 3) := by decide +kernel
theorem dX10_measured_75 : decode cX10_measured 75 = .ok (.iload_n 1, 1) := by decide +kernel
theorem dX10_measured_76 : decode cX10_measured 76 = .ok (.iaload, 1) := by decide +kernel
theorem dX10_measured_77 : decode cX10_measured 77 = .ok (.goto 9, 3) := by decide +kernel
theorem dX10_measured_80 : decode cX10_measured 80 = .ok (.aload_n 0, 1) := by decide +kernel
theorem dX10_measured_81 : decode cX10_measured 81 = .ok (.getfield 54, 3) := by decide +kernel
theorem dX10_measured_84 : decode cX10_measured 84 = .ok (.iload_n 1, 1) := by decide +kernel
theorem dX10_measured_85 : decode cX10_measured 85 = .ok (.iaload, 1) := by decide +kernel
theorem dX10_measured_86 : decode cX10_measured 86 = .ok (.istore 6, 2) := by decide +kernel
theorem dX10_measured_88 : decode cX10_measured 88 = .ok (.iload 5, 2) := by decide +kernel
theorem dX10_measured_90 : decode cX10_measured 90 = .ok (.bipush 8, 2) := by decide +kernel
theorem dX10_measured_92 : decode cX10_measured 92 = .ok (.irem, 1) := by decide +kernel
theorem dX10_measured_93 : decode cX10_measured 93 = .ok (.iconst 4, 1) := by decide +kernel
theorem dX10_measured_94 : decode cX10_measured 94 = .ok (.if_icmp .ge 21, 3) := by decide +kernel
theorem dX10_measured_97 : decode cX10_measured 97 = .ok (.iload 6, 2) := by decide +kernel
theorem dX10_measured_99 : decode cX10_measured 99 = .ok (.bipush 8, 2) := by decide +kernel
theorem dX10_measured_101 : decode cX10_measured 101 = .ok (.iload 5, 2) := by decide +kernel
theorem dX10_measured_103 : decode cX10_measured 103 = .ok (.bipush 8, 2) := by decide +kernel
theorem dX10_measured_105 : decode cX10_measured 105 = .ok (.irem, 1) := by decide +kernel
theorem dX10_measured_106 : decode cX10_measured 106 = .ok (.imul, 1) := by decide +kernel
theorem dX10_measured_107 : decode cX10_measured 107 = .ok (.ishr, 1) := by decide +kernel
theorem dX10_measured_108 : decode cX10_measured 108 = .ok (.sipush 255, 3) := by decide +kernel
theorem dX10_measured_111 : decode cX10_measured 111 = .ok (.iand, 1) := by decide +kernel
theorem dX10_measured_112 : decode cX10_measured 112 = .ok (.goto 4, 3) := by decide +kernel
theorem dX10_measured_115 : decode cX10_measured 115 = .ok (.iconst 0, 1) := by decide +kernel
theorem dX10_measured_116 : decode cX10_measured 116 = .ok (.istore 7, 2) := by decide +kernel
theorem dX10_measured_118 : decode cX10_measured 118 = .ok (.lload_n 3, 1) := by decide +kernel
theorem dX10_measured_119 : decode cX10_measured 119 = .ok (.iload 7, 2) := by decide +kernel
theorem dX10_measured_121 : decode cX10_measured 121 = .ok (.i2l, 1) := by decide +kernel
theorem dX10_measured_122 : decode cX10_measured 122 = .ok (.lxor, 1) := by decide +kernel
theorem dX10_measured_123 : decode cX10_measured 123 = .ok (.ldc2_w 393, 3) := by decide +kernel
theorem dX10_measured_126 : decode cX10_measured 126 = .ok (.lmul, 1) := by decide +kernel
theorem dX10_measured_127 : decode cX10_measured 127 = .ok (.lstore_n 3, 1) := by decide +kernel
theorem dX10_measured_128 : decode cX10_measured 128 = .ok (.iinc 5 1, 3) := by decide +kernel
theorem dX10_measured_131 : decode cX10_measured 131 = .ok (.goto (-90), 3) := by decide +kernel
theorem dX10_measured_134 : decode cX10_measured 134 = .ok (.aload_n 0, 1) := by decide +kernel
theorem dX10_measured_135 : decode cX10_measured 135 = .ok (.getfield 63, 3) := by decide +kernel
theorem dX10_measured_138 : decode cX10_measured 138 = .ok (.iload_n 1, 1) := by decide +kernel
theorem dX10_measured_139 : decode cX10_measured 139 = .ok (.lload_n 3, 1) := by decide +kernel
theorem dX10_measured_140 : decode cX10_measured 140 = .ok (.lastore, 1) := by decide +kernel
theorem dX10_measured_141 : decode cX10_measured 141 = .ok (.aload_n 0, 1) := by decide +kernel
theorem dX10_measured_142 : decode cX10_measured 142 = .ok (.getfield 18, 3) := by decide +kernel
theorem dX10_measured_145 : decode cX10_measured 145 = .ok (.iload_n 1, 1) := by decide +kernel
theorem dX10_measured_146 : decode cX10_measured 146 = .ok (.aload_n 0, 1) := by decide +kernel
theorem dX10_measured_147 : decode cX10_measured 147 = .ok (.getfield 42, 3) := by decide +kernel
theorem dX10_measured_150 : decode cX10_measured 150 = .ok (.iload_n 1, 1) := by decide +kernel
theorem dX10_measured_151 : decode cX10_measured 151 = .ok (.iaload, 1) := by decide +kernel
theorem dX10_measured_152 : decode cX10_measured 152 = .ok (.i2l, 1) := by decide +kernel
theorem dX10_measured_153 : decode cX10_measured 153 = .ok (.aload_n 0, 1) := by decide +kernel
theorem dX10_measured_154 : decode cX10_measured 154 = .ok (.getfield 48, 3) := by decide +kernel
theorem dX10_measured_157 : decode cX10_measured 157 = .ok (.iload_n 1, 1) := by decide +kernel
theorem dX10_measured_158 : decode cX10_measured 158 = .ok (.iaload, 1) := by decide +kernel
theorem dX10_measured_159 : decode cX10_measured 159 = .ok (.i2l, 1) := by decide +kernel
theorem dX10_measured_160 : decode cX10_measured 160 = .ok (.ladd, 1) := by decide +kernel
theorem dX10_measured_161 : decode cX10_measured 161 = .ok (.lastore, 1) := by decide +kernel
theorem dX10_measured_162 : decode cX10_measured 162 = .ok (.return_, 1) := by decide +kernel
theorem dX10_register_0 : decode cX10_register 0 = .ok (.iload_n 1, 1) := by decide +kernel
theorem dX10_register_1 : decode cX10_register 1 = .ok (.ifCond .lt 9, 3) := by decide +kernel
theorem dX10_register_4 : decode cX10_register 4 = .ok (.iload_n 1, 1) := by decide +kernel
theorem dX10_register_5 : decode cX10_register 5 = .ok (.bipush 31, 2) := by decide +kernel
theorem dX10_register_7 : decode cX10_register 7 = .ok (.if_icmp .le 7, 3) := by decide +kernel
theorem dX10_register_10 : decode cX10_register 10 = .ok (.lconst 0, 1) := by decide +kernel
theorem dX10_register_11 : decode cX10_register 11 = .ok (.goto 13, 3) := by decide +kernel
theorem dX10_register_14 : decode cX10_register 14 = .ok (.aload_n 0, 1) := by decide +kernel
theorem dX10_register_15 : decode cX10_register 15 = .ok (.getfield 14, 3) := by decide +kernel
theorem dX10_register_18 : decode cX10_register 18 = .ok (.sipush 192, 3) := by decide +kernel
theorem dX10_register_21 : decode cX10_register 21 = .ok (.iload_n 1, 1) := by decide +kernel
theorem dX10_register_22 : decode cX10_register 22 = .ok (.iadd, 1) := by decide +kernel
theorem dX10_register_23 : decode cX10_register 23 = .ok (.laload, 1) := by decide +kernel
theorem dX10_register_24 : decode cX10_register 24 = .ok (.lreturn, 1) := by decide +kernel
theorem dX10_state_0 : decode cX10_state 0 = .ok (.iload_n 1, 1) := by decide +kernel
theorem dX10_state_1 : decode cX10_state 1 = .ok (.tableswitch 104 0 8 #[51, 64, 69, 74, 79, 84, 89, 94, 99], 51) := by decide +kernel
theorem dX10_state_52 : decode cX10_state 52 = .ok (.aload_n 0, 1) := by decide +kernel
theorem dX10_state_53 : decode cX10_state 53 = .ok (.getfield 21, 3) := by decide +kernel
theorem dX10_state_56 : decode cX10_state 56 = .ok (.ifCond .eq 7, 3) := by decide +kernel
theorem dX10_state_59 : decode cX10_state 59 = .ok (.iconst 3, 1) := by decide +kernel
theorem dX10_state_60 : decode cX10_state 60 = .ok (.goto 4, 3) := by decide +kernel
theorem dX10_state_63 : decode cX10_state 63 = .ok (.iconst 0, 1) := by decide +kernel
theorem dX10_state_64 : decode cX10_state 64 = .ok (.ireturn, 1) := by decide +kernel
theorem dX10_state_65 : decode cX10_state 65 = .ok (.aload_n 0, 1) := by decide +kernel
theorem dX10_state_66 : decode cX10_state 66 = .ok (.getfield 87, 3) := by decide +kernel
theorem dX10_state_69 : decode cX10_state 69 = .ok (.ireturn, 1) := by decide +kernel
theorem dX10_state_70 : decode cX10_state 70 = .ok (.aload_n 0, 1) := by decide +kernel
theorem dX10_state_71 : decode cX10_state 71 = .ok (.getfield 29, 3) := by decide +kernel
theorem dX10_state_74 : decode cX10_state 74 = .ok (.ireturn, 1) := by decide +kernel
theorem dX10_state_75 : decode cX10_state 75 = .ok (.aload_n 0, 1) := by decide +kernel
theorem dX10_state_76 : decode cX10_state 76 = .ok (.getfield 25, 3) := by decide +kernel
theorem dX10_state_79 : decode cX10_state 79 = .ok (.ireturn, 1) := by decide +kernel
theorem dX10_state_80 : decode cX10_state 80 = .ok (.aload_n 0, 1) := by decide +kernel
theorem dX10_state_81 : decode cX10_state 81 = .ok (.getfield 93, 3) := by decide +kernel
theorem dX10_state_84 : decode cX10_state 84 = .ok (.ireturn, 1) := by decide +kernel
theorem dX10_state_85 : decode cX10_state 85 = .ok (.aload_n 0, 1) := by decide +kernel
theorem dX10_state_86 : decode cX10_state 86 = .ok (.getfield 96, 3) := by decide +kernel
theorem dX10_state_89 : decode cX10_state 89 = .ok (.ireturn, 1) := by decide +kernel
theorem dX10_state_90 : decode cX10_state 90 = .ok (.aload_n 0, 1) := by decide +kernel
theorem dX10_state_91 : decode cX10_state 91 = .ok (.getfield 99, 3) := by decide +kernel
theorem dX10_state_94 : decode cX10_state 94 = .ok (.ireturn, 1) := by decide +kernel
theorem dX10_state_95 : decode cX10_state 95 = .ok (.aload_n 0, 1) := by decide +kernel
theorem dX10_state_96 : decode cX10_state 96 = .ok (.getfield 102, 3) := by decide +kernel
theorem dX10_state_99 : decode cX10_state 99 = .ok (.ireturn, 1) := by decide +kernel
theorem dX10_state_100 : decode cX10_state 100 = .ok (.aload_n 0, 1) := by decide +kernel
theorem dX10_state_101 : decode cX10_state 101 = .ok (.getfield 105, 3) := by decide +kernel
theorem dX10_state_104 : decode cX10_state 104 = .ok (.ireturn, 1) := by decide +kernel
theorem dX10_state_105 : decode cX10_state 105 = .ok (.iconst (-1), 1) := by decide +kernel
theorem dX10_state_106 : decode cX10_state 106 = .ok (.ireturn, 1) := by decide +kernel
theorem dX10_held_0 : decode cX10_held 0 = .ok (.iload_n 1, 1) := by decide +kernel
theorem dX10_held_1 : decode cX10_held 1 = .ok (.tableswitch 84 0 6 #[43, 51, 56, 64, 69, 74, 79], 43) := by decide +kernel
theorem dX10_held_44 : decode cX10_held 44 = .ok (.aload_n 0, 1) := by decide +kernel
theorem dX10_held_45 : decode cX10_held 45 = .ok (.getfield 18, 3) := by decide +kernel
theorem dX10_held_48 : decode cX10_held 48 = .ok (.bipush 6, 2) := by decide +kernel
theorem dX10_held_50 : decode cX10_held 50 = .ok (.laload, 1) := by decide +kernel
theorem dX10_held_51 : decode cX10_held 51 = .ok (.lreturn, 1) := by decide +kernel
theorem dX10_held_52 : decode cX10_held 52 = .ok (.aload_n 0, 1) := by decide +kernel
theorem dX10_held_53 : decode cX10_held 53 = .ok (.getfield 90, 3) := by decide +kernel
theorem dX10_held_56 : decode cX10_held 56 = .ok (.lreturn, 1) := by decide +kernel
theorem dX10_held_57 : decode cX10_held 57 = .ok (.aload_n 0, 1) := by decide +kernel
theorem dX10_held_58 : decode cX10_held 58 = .ok (.getfield 111, 3) := by decide +kernel
theorem dX10_held_61 : decode cX10_held 61 = .ok (.bipush 11, 2) := by decide +kernel
theorem dX10_held_63 : decode cX10_held 63 = .ok (.lshl, 1) := by decide +kernel
theorem dX10_held_64 : decode cX10_held 64 = .ok (.lreturn, 1) := by decide +kernel
theorem dX10_held_65 : decode cX10_held 65 = .ok (.aload_n 0, 1) := by decide +kernel
theorem dX10_held_66 : decode cX10_held 66 = .ok (.getfield 114, 3) := by decide +kernel
theorem dX10_held_69 : decode cX10_held 69 = .ok (.lreturn, 1) := by decide +kernel
theorem dX10_held_70 : decode cX10_held 70 = .ok (.aload_n 0, 1) := by decide +kernel
theorem dX10_held_71 : decode cX10_held 71 = .ok (.getfield 117, 3) := by decide +kernel
theorem dX10_held_74 : decode cX10_held 74 = .ok (.lreturn, 1) := by decide +kernel
theorem dX10_held_75 : decode cX10_held 75 = .ok (.aload_n 0, 1) := by decide +kernel
theorem dX10_held_76 : decode cX10_held 76 = .ok (.getfield 120, 3) := by decide +kernel
theorem dX10_held_79 : decode cX10_held 79 = .ok (.lreturn, 1) := by decide +kernel
theorem dX10_held_80 : decode cX10_held 80 = .ok (.aload_n 0, 1) := by decide +kernel
theorem dX10_held_81 : decode cX10_held 81 = .ok (.getfield 123, 3) := by decide +kernel
theorem dX10_held_84 : decode cX10_held 84 = .ok (.lreturn, 1) := by decide +kernel
theorem dX10_held_85 : decode cX10_held 85 = .ok (.lconst 0, 1) := by decide +kernel
theorem dX10_held_86 : decode cX10_held 86 = .ok (.lreturn, 1) := by decide +kernel
theorem dX10_pmp_0 : decode cX10_pmp 0 = .ok (.iload_n 1, 1) := by decide +kernel
theorem dX10_pmp_1 : decode cX10_pmp 1 = .ok (.ifCond .lt 9, 3) := by decide +kernel
theorem dX10_pmp_4 : decode cX10_pmp 4 = .ok (.iload_n 1, 1) := by decide +kernel
theorem dX10_pmp_5 : decode cX10_pmp 5 = .ok (.bipush 15, 2) := by decide +kernel
theorem dX10_pmp_7 : decode cX10_pmp 7 = .ok (.if_icmp .le 5, 3) := by decide +kernel
theorem dX10_pmp_10 : decode cX10_pmp 10 = .ok (.lconst 0, 1) := by decide +kernel
theorem dX10_pmp_11 : decode cX10_pmp 11 = .ok (.lreturn, 1) := by decide +kernel
theorem dX10_pmp_12 : decode cX10_pmp 12 = .ok (.iload_n 2, 1) := by decide +kernel
theorem dX10_pmp_13 : decode cX10_pmp 13 = .ok (.ifCond .ne 12, 3) := by decide +kernel
theorem dX10_pmp_16 : decode cX10_pmp 16 = .ok (.aload_n 0, 1) := by decide +kernel
theorem dX10_pmp_17 : decode cX10_pmp 17 = .ok (.iload_n 1, 1) := by decide +kernel
theorem dX10_pmp_18 : decode cX10_pmp 18 = .ok (.invokevirtual 145, 3) := by decide +kernel
theorem dX10_pmp_21 : decode cX10_pmp 21 = .ok (.i2l, 1) := by decide +kernel
theorem dX10_pmp_22 : decode cX10_pmp 22 = .ok (.goto 17, 3) := by decide +kernel
theorem dX10_pmp_25 : decode cX10_pmp 25 = .ok (.iload_n 2, 1) := by decide +kernel
theorem dX10_pmp_26 : decode cX10_pmp 26 = .ok (.iconst 1, 1) := by decide +kernel
theorem dX10_pmp_27 : decode cX10_pmp 27 = .ok (.if_icmp .ne 11, 3) := by decide +kernel
theorem dX10_pmp_30 : decode cX10_pmp 30 = .ok (.aload_n 0, 1) := by decide +kernel
theorem dX10_pmp_31 : decode cX10_pmp 31 = .ok (.iload_n 1, 1) := by decide +kernel
theorem dX10_pmp_32 : decode cX10_pmp 32 = .ok (.invokevirtual 151, 3) := by decide +kernel
theorem dX10_pmp_35 : decode cX10_pmp 35 = .ok (.goto 4, 3) := by decide +kernel
theorem dX10_pmp_38 : decode cX10_pmp 38 = .ok (.lconst 0, 1) := by decide +kernel
theorem dX10_pmp_39 : decode cX10_pmp 39 = .ok (.lreturn, 1) := by decide +kernel
theorem dX10_enclave_0 : decode cX10_enclave 0 = .ok (.iload_n 1, 1) := by decide +kernel
theorem dX10_enclave_1 : decode cX10_enclave 1 = .ok (.ifCond .lt 16, 3) := by decide +kernel
theorem dX10_enclave_4 : decode cX10_enclave 4 = .ok (.iload_n 1, 1) := by decide +kernel
theorem dX10_enclave_5 : decode cX10_enclave 5 = .ok (.iconst 5, 1) := by decide +kernel
theorem dX10_enclave_6 : decode cX10_enclave 6 = .ok (.if_icmp .gt 11, 3) := by decide +kernel
theorem dX10_enclave_9 : decode cX10_enclave 9 = .ok (.aload_n 0, 1) := by decide +kernel
theorem dX10_enclave_10 : decode cX10_enclave 10 = .ok (.iload_n 1, 1) := by decide +kernel
theorem dX10_enclave_11 : decode cX10_enclave 11 = .ok (.invokevirtual 79, 3) := by decide +kernel
theorem dX10_enclave_14 : decode cX10_enclave 14 = .ok (.ifCond .ne 5, 3) := by decide +kernel
theorem dX10_enclave_17 : decode cX10_enclave 17 = .ok (.iconst 0, 1) := by decide +kernel
theorem dX10_enclave_18 : decode cX10_enclave 18 = .ok (.ireturn, 1) := by decide +kernel
theorem dX10_enclave_19 : decode cX10_enclave 19 = .ok (.iload_n 2, 1) := by decide +kernel
theorem dX10_enclave_20 : decode cX10_enclave 20 = .ok (.tableswitch 104 0 7 #[48, 55, 62, 69, 76, 83, 90, 97], 48) := by decide +kernel
theorem dX10_enclave_68 : decode cX10_enclave 68 = .ok (.aload_n 0, 1) := by decide +kernel
theorem dX10_enclave_69 : decode cX10_enclave 69 = .ok (.getfield 39, 3) := by decide +kernel
theorem dX10_enclave_72 : decode cX10_enclave 72 = .ok (.iload_n 1, 1) := by decide +kernel
theorem dX10_enclave_73 : decode cX10_enclave 73 = .ok (.iaload, 1) := by decide +kernel
theorem dX10_enclave_74 : decode cX10_enclave 74 = .ok (.ireturn, 1) := by decide +kernel
theorem dX10_enclave_75 : decode cX10_enclave 75 = .ok (.aload_n 0, 1) := by decide +kernel
theorem dX10_enclave_76 : decode cX10_enclave 76 = .ok (.getfield 42, 3) := by decide +kernel
theorem dX10_enclave_79 : decode cX10_enclave 79 = .ok (.iload_n 1, 1) := by decide +kernel
theorem dX10_enclave_80 : decode cX10_enclave 80 = .ok (.iaload, 1) := by decide +kernel
theorem dX10_enclave_81 : decode cX10_enclave 81 = .ok (.ireturn, 1) := by decide +kernel
theorem dX10_enclave_82 : decode cX10_enclave 82 = .ok (.aload_n 0, 1) := by decide +kernel
theorem dX10_enclave_83 : decode cX10_enclave 83 = .ok (.getfield 45, 3) := by decide +kernel
theorem dX10_enclave_86 : decode cX10_enclave 86 = .ok (.iload_n 1, 1) := by decide +kernel
theorem dX10_enclave_87 : decode cX10_enclave 87 = .ok (.iaload, 1) := by decide +kernel
theorem dX10_enclave_88 : decode cX10_enclave 88 = .ok (.ireturn, 1) := by decide +kernel
theorem dX10_enclave_89 : decode cX10_enclave 89 = .ok (.aload_n 0, 1) := by decide +kernel
theorem dX10_enclave_90 : decode cX10_enclave 90 = .ok (.getfield 48, 3) := by decide +kernel
theorem dX10_enclave_93 : decode cX10_enclave 93 = .ok (.iload_n 1, 1) := by decide +kernel
theorem dX10_enclave_94 : decode cX10_enclave 94 = .ok (.iaload, 1) := by decide +kernel
theorem dX10_enclave_95 : decode cX10_enclave 95 = .ok (.ireturn, 1) := by decide +kernel
theorem dX10_enclave_96 : decode cX10_enclave 96 = .ok (.aload_n 0, 1) := by decide +kernel
theorem dX10_enclave_97 : decode cX10_enclave 97 = .ok (.getfield 51, 3) := by decide +kernel
theorem dX10_enclave_100 : decode cX10_enclave 100 = .ok (.iload_n 1, 1) := by decide +kernel
theorem dX10_enclave_101 : decode cX10_enclave 101 = .ok (.iaload, 1) := by decide +kernel
theorem dX10_enclave_102 : decode cX10_enclave 102 = .ok (.ireturn, 1) := by decide +kernel
theorem dX10_enclave_103 : decode cX10_enclave 103 = .ok (.aload_n 0, 1) := by decide +kernel
theorem dX10_enclave_104 : decode cX10_enclave 104 = .ok (.getfield 54, 3) := by decide +kernel
theorem dX10_enclave_107 : decode cX10_enclave 107 = .ok (.iload_n 1, 1) := by decide +kernel
theorem dX10_enclave_108 : decode cX10_enclave 108 = .ok (.iaload, 1) := by decide +kernel
theorem dX10_enclave_109 : decode cX10_enclave 109 = .ok (.ireturn, 1) := by decide +kernel
theorem dX10_enclave_110 : decode cX10_enclave 110 = .ok (.aload_n 0, 1) := by decide +kernel
theorem dX10_enclave_111 : decode cX10_enclave 111 = .ok (.getfield 57, 3) := by decide +kernel
theorem dX10_enclave_114 : decode cX10_enclave 114 = .ok (.iload_n 1, 1) := by decide +kernel
theorem dX10_enclave_115 : decode cX10_enclave 115 = .ok (.iaload, 1) := by decide +kernel
theorem dX10_enclave_116 : decode cX10_enclave 116 = .ok (.ireturn, 1) := by decide +kernel
theorem dX10_enclave_117 : decode cX10_enclave 117 = .ok (.aload_n 0, 1) := by decide +kernel
theorem dX10_enclave_118 : decode cX10_enclave 118 = .ok (.getfield 60, 3) := by decide +kernel
theorem dX10_enclave_121 : decode cX10_enclave 121 = .ok (.iload_n 1, 1) := by decide +kernel
theorem dX10_enclave_122 : decode cX10_enclave 122 = .ok (.iaload, 1) := by decide +kernel
theorem dX10_enclave_123 : decode cX10_enclave 123 = .ok (.ireturn, 1) := by decide +kernel
theorem dX10_enclave_124 : decode cX10_enclave 124 = .ok (.iconst 0, 1) := by decide +kernel
theorem dX10_enclave_125 : decode cX10_enclave 125 = .ok (.ireturn, 1) := by decide +kernel
theorem dX10_eye_0 : decode cX10_eye 0 = .ok (.iload_n 1, 1) := by decide +kernel
theorem dX10_eye_1 : decode cX10_eye 1 = .ok (.ifCond .lt 20, 3) := by decide +kernel
theorem dX10_eye_4 : decode cX10_eye 4 = .ok (.iload_n 1, 1) := by decide +kernel
theorem dX10_eye_5 : decode cX10_eye 5 = .ok (.iconst 5, 1) := by decide +kernel
theorem dX10_eye_6 : decode cX10_eye 6 = .ok (.if_icmp .gt 15, 3) := by decide +kernel
theorem dX10_eye_9 : decode cX10_eye 9 = .ok (.aload_n 0, 1) := by decide +kernel
theorem dX10_eye_10 : decode cX10_eye 10 = .ok (.iload_n 1, 1) := by decide +kernel
theorem dX10_eye_11 : decode cX10_eye 11 = .ok (.invokevirtual 79, 3) := by decide +kernel
theorem dX10_eye_14 : decode cX10_eye 14 = .ok (.ifCond .eq 7, 3) := by decide +kernel
theorem dX10_eye_17 : decode cX10_eye 17 = .ok (.iload_n 2, 1) := by decide +kernel
theorem dX10_eye_18 : decode cX10_eye 18 = .ok (.ifCond .ge 5, 3) := by decide +kernel
theorem dX10_eye_21 : decode cX10_eye 21 = .ok (.lconst 0, 1) := by decide +kernel
theorem dX10_eye_22 : decode cX10_eye 22 = .ok (.lreturn, 1) := by decide +kernel
theorem dX10_eye_23 : decode cX10_eye 23 = .ok (.iload_n 2, 1) := by decide +kernel
theorem dX10_eye_24 : decode cX10_eye 24 = .ok (.bipush 32, 2) := by decide +kernel
theorem dX10_eye_26 : decode cX10_eye 26 = .ok (.if_icmp .ge 15, 3) := by decide +kernel
theorem dX10_eye_29 : decode cX10_eye 29 = .ok (.aload_n 0, 1) := by decide +kernel
theorem dX10_eye_30 : decode cX10_eye 30 = .ok (.getfield 14, 3) := by decide +kernel
theorem dX10_eye_33 : decode cX10_eye 33 = .ok (.bipush 32, 2) := by decide +kernel
theorem dX10_eye_35 : decode cX10_eye 35 = .ok (.iload_n 1, 1) := by decide +kernel
theorem dX10_eye_36 : decode cX10_eye 36 = .ok (.imul, 1) := by decide +kernel
theorem dX10_eye_37 : decode cX10_eye 37 = .ok (.iload_n 2, 1) := by decide +kernel
theorem dX10_eye_38 : decode cX10_eye 38 = .ok (.iadd, 1) := by decide +kernel
theorem dX10_eye_39 : decode cX10_eye 39 = .ok (.laload, 1) := by decide +kernel
theorem dX10_eye_40 : decode cX10_eye 40 = .ok (.lreturn, 1) := by decide +kernel
theorem dX10_eye_41 : decode cX10_eye 41 = .ok (.iload_n 2, 1) := by decide +kernel
theorem dX10_eye_42 : decode cX10_eye 42 = .ok (.bipush 35, 2) := by decide +kernel
theorem dX10_eye_44 : decode cX10_eye 44 = .ok (.if_icmp .ge 39, 3) := by decide +kernel
theorem dX10_eye_47 : decode cX10_eye 47 = .ok (.iload_n 2, 1) := by decide +kernel
theorem dX10_eye_48 : decode cX10_eye 48 = .ok (.bipush 32, 2) := by decide +kernel
theorem dX10_eye_50 : decode cX10_eye 50 = .ok (.if_icmp .ne 12, 3) := by decide +kernel
theorem dX10_eye_53 : decode cX10_eye 53 = .ok (.aload_n 0, 1) := by decide +kernel
theorem dX10_eye_54 : decode cX10_eye 54 = .ok (.getfield 18, 3) := by decide +kernel
theorem dX10_eye_57 : decode cX10_eye 57 = .ok (.iload_n 1, 1) := by decide +kernel
theorem dX10_eye_58 : decode cX10_eye 58 = .ok (.laload, 1) := by decide +kernel
theorem dX10_eye_59 : decode cX10_eye 59 = .ok (.goto 23, 3) := by decide +kernel
theorem dX10_eye_62 : decode cX10_eye 62 = .ok (.iload_n 2, 1) := by decide +kernel
theorem dX10_eye_63 : decode cX10_eye 63 = .ok (.bipush 33, 2) := by decide +kernel
theorem dX10_eye_65 : decode cX10_eye 65 = .ok (.if_icmp .ne 12, 3) := by decide +kernel
theorem dX10_eye_68 : decode cX10_eye 68 = .ok (.aload_n 0, 1) := by decide +kernel
theorem dX10_eye_69 : decode cX10_eye 69 = .ok (.getfield 63, 3) := by decide +kernel
theorem dX10_eye_72 : decode cX10_eye 72 = .ok (.iload_n 1, 1) := by decide +kernel
theorem dX10_eye_73 : decode cX10_eye 73 = .ok (.laload, 1) := by decide +kernel
theorem dX10_eye_74 : decode cX10_eye 74 = .ok (.goto 8, 3) := by decide +kernel
theorem dX10_eye_77 : decode cX10_eye 77 = .ok (.aload_n 0, 1) := by decide +kernel
theorem dX10_eye_78 : decode cX10_eye 78 = .ok (.iload_n 1, 1) := by decide +kernel
theorem dX10_eye_79 : decode cX10_eye 79 = .ok (.invokevirtual 342, 3) := by decide +kernel
theorem dX10_eye_82 : decode cX10_eye 82 = .ok (.lreturn, 1) := by decide +kernel
theorem dX10_eye_83 : decode cX10_eye 83 = .ok (.iload_n 2, 1) := by decide +kernel
theorem dX10_eye_84 : decode cX10_eye 84 = .ok (.bipush 35, 2) := by decide +kernel
theorem dX10_eye_86 : decode cX10_eye 86 = .ok (.isub, 1) := by decide +kernel
theorem dX10_eye_87 : decode cX10_eye 87 = .ok (.istore_n 3, 1) := by decide +kernel
theorem dX10_eye_88 : decode cX10_eye 88 = .ok (.iload_n 3, 1) := by decide +kernel
theorem dX10_eye_89 : decode cX10_eye 89 = .ok (.aload_n 0, 1) := by decide +kernel
theorem dX10_eye_90 : decode cX10_eye 90 = .ok (.getfield 45, 3) := by decide +kernel
theorem dX10_eye_93 : decode cX10_eye 93 = .ok (.iload_n 1, 1) := by decide +kernel
theorem dX10_eye_94 : decode cX10_eye 94 = .ok (.iaload, 1) := by decide +kernel
theorem dX10_eye_95 : decode cX10_eye 95 = .ok (.bipush 8, 2) := by decide +kernel
theorem dX10_eye_97 : decode cX10_eye 97 = .ok (.idiv, 1) := by decide +kernel
theorem dX10_eye_98 : decode cX10_eye 98 = .ok (.if_icmp .ge 23, 3) := by decide +kernel
theorem dX10_eye_101 : decode cX10_eye 101 = .ok (.aload_n 0, 1) := by decide +kernel
theorem dX10_eye_102 : decode cX10_eye 102 = .ok (.aload_n 0, 1) := by decide +kernel
theorem dX10_eye_103 : decode cX10_eye 103 = .ok (.getfield 42, 3) := by decide +kernel
theorem dX10_eye_106 : decode cX10_eye 106 = .ok (.iload_n 1, 1) := by decide +kernel
theorem dX10_eye_107 : decode cX10_eye 107 = .ok (.iaload, 1) := by decide +kernel
theorem dX10_eye_108 : decode cX10_eye 108 = .ok (.bipush 8, 2) := by decide +kernel
theorem dX10_eye_110 : decode cX10_eye 110 = .ok (.iload_n 3, 1) := by decide +kernel
theorem dX10_eye_111 : decode cX10_eye 111 = .ok (.imul, 1) := by decide +kernel
theorem dX10_eye_112 : decode cX10_eye 112 = .ok (.iadd, 1) := by decide +kernel
theorem dX10_eye_113 : decode cX10_eye 113 = .ok (.bipush 8, 2) := by decide +kernel
theorem dX10_eye_115 : decode cX10_eye 115 = .ok (.invokevirtual 136, 3) := by decide +kernel
theorem dX10_eye_118 : decode cX10_eye 118 = .ok (.goto 4, 3) := by decide +kernel
theorem dX10_eye_121 : decode cX10_eye 121 = .ok (.lconst 0, 1) := by decide +kernel
theorem dX10_eye_122 : decode cX10_eye 122 = .ok (.lreturn, 1) := by decide +kernel
theorem dJ13_compare_74951_0 : decode cJ13_compare_74951 0 = .ok (.lload_n 0, 1) := by decide +kernel
theorem dJ13_compare_74951_1 : decode cJ13_compare_74951 1 = .ok (.lload_n 2, 1) := by decide +kernel
theorem dJ13_compare_74951_2 : decode cJ13_compare_74951 2 = .ok (.lcmp, 1) := by decide +kernel
theorem dJ13_compare_74951_3 : decode cJ13_compare_74951 3 = .ok (.ifCond .ge 7, 3) := by decide +kernel
theorem dJ13_compare_74951_6 : decode cJ13_compare_74951 6 = .ok (.iconst (-1), 1) := by decide +kernel
theorem dJ13_compare_74951_7 : decode cJ13_compare_74951 7 = .ok (.goto 14, 3) := by decide +kernel
theorem dJ13_compare_74951_10 : decode cJ13_compare_74951 10 = .ok (.lload_n 0, 1) := by decide +kernel
theorem dJ13_compare_74951_11 : decode cJ13_compare_74951 11 = .ok (.lload_n 2, 1) := by decide +kernel
theorem dJ13_compare_74951_12 : decode cJ13_compare_74951 12 = .ok (.lcmp, 1) := by decide +kernel
theorem dJ13_compare_74951_13 : decode cJ13_compare_74951 13 = .ok (.ifCond .ne 7, 3) := by decide +kernel
theorem dJ13_compare_74951_16 : decode cJ13_compare_74951 16 = .ok (.iconst 0, 1) := by decide +kernel
theorem dJ13_compare_74951_17 : decode cJ13_compare_74951 17 = .ok (.goto 4, 3) := by decide +kernel
theorem dJ13_compare_74951_20 : decode cJ13_compare_74951 20 = .ok (.iconst 1, 1) := by decide +kernel
theorem dJ13_compare_74951_21 : decode cJ13_compare_74951 21 = .ok (.ireturn, 1) := by decide +kernel
theorem dJ13_compareUnsigned_74951_0 : decode cJ13_compareUnsigned_74951 0 = .ok (.lload_n 0, 1) := by decide +kernel
theorem dJ13_compareUnsigned_74951_1 : decode cJ13_compareUnsigned_74951 1 = .ok (.ldc2_w 168, 3) := by decide +kernel
theorem dJ13_compareUnsigned_74951_4 : decode cJ13_compareUnsigned_74951 4 = .ok (.ladd, 1) := by decide +kernel
theorem dJ13_compareUnsigned_74951_5 : decode cJ13_compareUnsigned_74951 5 = .ok (.lload_n 2, 1) := by decide +kernel
theorem dJ13_compareUnsigned_74951_6 : decode cJ13_compareUnsigned_74951 6 = .ok (.ldc2_w 168, 3) := by decide +kernel
theorem dJ13_compareUnsigned_74951_9 : decode cJ13_compareUnsigned_74951 9 = .ok (.ladd, 1) := by decide +kernel
theorem dJ13_compareUnsigned_74951_10 : decode cJ13_compareUnsigned_74951 10 = .ok (.invokestatic 302, 3) := by decide +kernel
theorem dJ13_compareUnsigned_74951_13 : decode cJ13_compareUnsigned_74951 13 = .ok (.ireturn, 1) := by decide +kernel
theorem dJ9_multiplyHigh_f86c9_0 : decode cJ9_multiplyHigh_f86c9 0 = .ok (.lload_n 0, 1) := by decide +kernel
theorem dJ9_multiplyHigh_f86c9_1 : decode cJ9_multiplyHigh_f86c9 1 = .ok (.bipush 32, 2) := by decide +kernel
theorem dJ9_multiplyHigh_f86c9_3 : decode cJ9_multiplyHigh_f86c9 3 = .ok (.lshr, 1) := by decide +kernel
theorem dJ9_multiplyHigh_f86c9_4 : decode cJ9_multiplyHigh_f86c9 4 = .ok (.lstore 4, 2) := by decide +kernel
theorem dJ9_multiplyHigh_f86c9_6 : decode cJ9_multiplyHigh_f86c9 6 = .ok (.lload_n 0, 1) := by decide +kernel
theorem dJ9_multiplyHigh_f86c9_7 : decode cJ9_multiplyHigh_f86c9 7 = .ok (.ldc2_w 138, 3) := by decide +kernel
theorem dJ9_multiplyHigh_f86c9_10 : decode cJ9_multiplyHigh_f86c9 10 = .ok (.land, 1) := by decide +kernel
theorem dJ9_multiplyHigh_f86c9_11 : decode cJ9_multiplyHigh_f86c9 11 = .ok (.lstore 6, 2) := by decide +kernel
theorem dJ9_multiplyHigh_f86c9_13 : decode cJ9_multiplyHigh_f86c9 13 = .ok (.lload_n 2, 1) := by decide +kernel
theorem dJ9_multiplyHigh_f86c9_14 : decode cJ9_multiplyHigh_f86c9 14 = .ok (.bipush 32, 2) := by decide +kernel
theorem dJ9_multiplyHigh_f86c9_16 : decode cJ9_multiplyHigh_f86c9 16 = .ok (.lshr, 1) := by decide +kernel
theorem dJ9_multiplyHigh_f86c9_17 : decode cJ9_multiplyHigh_f86c9 17 = .ok (.lstore 8, 2) := by decide +kernel
theorem dJ9_multiplyHigh_f86c9_19 : decode cJ9_multiplyHigh_f86c9 19 = .ok (.lload_n 2, 1) := by decide +kernel
theorem dJ9_multiplyHigh_f86c9_20 : decode cJ9_multiplyHigh_f86c9 20 = .ok (.ldc2_w 138, 3) := by decide +kernel
theorem dJ9_multiplyHigh_f86c9_23 : decode cJ9_multiplyHigh_f86c9 23 = .ok (.land, 1) := by decide +kernel
theorem dJ9_multiplyHigh_f86c9_24 : decode cJ9_multiplyHigh_f86c9 24 = .ok (.lstore 10, 2) := by decide +kernel
theorem dJ9_multiplyHigh_f86c9_26 : decode cJ9_multiplyHigh_f86c9 26 = .ok (.lload 6, 2) := by decide +kernel
theorem dJ9_multiplyHigh_f86c9_28 : decode cJ9_multiplyHigh_f86c9 28 = .ok (.lload 10, 2) := by decide +kernel
theorem dJ9_multiplyHigh_f86c9_30 : decode cJ9_multiplyHigh_f86c9 30 = .ok (.lmul, 1) := by decide +kernel
theorem dJ9_multiplyHigh_f86c9_31 : decode cJ9_multiplyHigh_f86c9 31 = .ok (.lstore 12, 2) := by decide +kernel
theorem dJ9_multiplyHigh_f86c9_33 : decode cJ9_multiplyHigh_f86c9 33 = .ok (.lload 4, 2) := by decide +kernel
theorem dJ9_multiplyHigh_f86c9_35 : decode cJ9_multiplyHigh_f86c9 35 = .ok (.lload 10, 2) := by decide +kernel
theorem dJ9_multiplyHigh_f86c9_37 : decode cJ9_multiplyHigh_f86c9 37 = .ok (.lmul, 1) := by decide +kernel
theorem dJ9_multiplyHigh_f86c9_38 : decode cJ9_multiplyHigh_f86c9 38 = .ok (.lload 12, 2) := by decide +kernel
theorem dJ9_multiplyHigh_f86c9_40 : decode cJ9_multiplyHigh_f86c9 40 = .ok (.bipush 32, 2) := by decide +kernel
theorem dJ9_multiplyHigh_f86c9_42 : decode cJ9_multiplyHigh_f86c9 42 = .ok (.lushr, 1) := by decide +kernel
theorem dJ9_multiplyHigh_f86c9_43 : decode cJ9_multiplyHigh_f86c9 43 = .ok (.ladd, 1) := by decide +kernel
theorem dJ9_multiplyHigh_f86c9_44 : decode cJ9_multiplyHigh_f86c9 44 = .ok (.lstore 14, 2) := by decide +kernel
theorem dJ9_multiplyHigh_f86c9_46 : decode cJ9_multiplyHigh_f86c9 46 = .ok (.lload 14, 2) := by decide +kernel
theorem dJ9_multiplyHigh_f86c9_48 : decode cJ9_multiplyHigh_f86c9 48 = .ok (.ldc2_w 138, 3) := by decide +kernel
theorem dJ9_multiplyHigh_f86c9_51 : decode cJ9_multiplyHigh_f86c9 51 = .ok (.land, 1) := by decide +kernel
theorem dJ9_multiplyHigh_f86c9_52 : decode cJ9_multiplyHigh_f86c9 52 = .ok (.lstore 16, 2) := by decide +kernel
theorem dJ9_multiplyHigh_f86c9_54 : decode cJ9_multiplyHigh_f86c9 54 = .ok (.lload 14, 2) := by decide +kernel
theorem dJ9_multiplyHigh_f86c9_56 : decode cJ9_multiplyHigh_f86c9 56 = .ok (.bipush 32, 2) := by decide +kernel
theorem dJ9_multiplyHigh_f86c9_58 : decode cJ9_multiplyHigh_f86c9 58 = .ok (.lshr, 1) := by decide +kernel
theorem dJ9_multiplyHigh_f86c9_59 : decode cJ9_multiplyHigh_f86c9 59 = .ok (.lstore 18, 2) := by decide +kernel
theorem dJ9_multiplyHigh_f86c9_61 : decode cJ9_multiplyHigh_f86c9 61 = .ok (.lload 16, 2) := by decide +kernel
theorem dJ9_multiplyHigh_f86c9_63 : decode cJ9_multiplyHigh_f86c9 63 = .ok (.lload 6, 2) := by decide +kernel
theorem dJ9_multiplyHigh_f86c9_65 : decode cJ9_multiplyHigh_f86c9 65 = .ok (.lload 8, 2) := by decide +kernel
theorem dJ9_multiplyHigh_f86c9_67 : decode cJ9_multiplyHigh_f86c9 67 = .ok (.lmul, 1) := by decide +kernel
theorem dJ9_multiplyHigh_f86c9_68 : decode cJ9_multiplyHigh_f86c9 68 = .ok (.ladd, 1) := by decide +kernel
theorem dJ9_multiplyHigh_f86c9_69 : decode cJ9_multiplyHigh_f86c9 69 = .ok (.lstore 16, 2) := by decide +kernel
theorem dJ9_multiplyHigh_f86c9_71 : decode cJ9_multiplyHigh_f86c9 71 = .ok (.lload 4, 2) := by decide +kernel
theorem dJ9_multiplyHigh_f86c9_73 : decode cJ9_multiplyHigh_f86c9 73 = .ok (.lload 8, 2) := by decide +kernel
theorem dJ9_multiplyHigh_f86c9_75 : decode cJ9_multiplyHigh_f86c9 75 = .ok (.lmul, 1) := by decide +kernel
theorem dJ9_multiplyHigh_f86c9_76 : decode cJ9_multiplyHigh_f86c9 76 = .ok (.lload 18, 2) := by decide +kernel
theorem dJ9_multiplyHigh_f86c9_78 : decode cJ9_multiplyHigh_f86c9 78 = .ok (.ladd, 1) := by decide +kernel
theorem dJ9_multiplyHigh_f86c9_79 : decode cJ9_multiplyHigh_f86c9 79 = .ok (.lload 16, 2) := by decide +kernel
theorem dJ9_multiplyHigh_f86c9_81 : decode cJ9_multiplyHigh_f86c9 81 = .ok (.bipush 32, 2) := by decide +kernel
theorem dJ9_multiplyHigh_f86c9_83 : decode cJ9_multiplyHigh_f86c9 83 = .ok (.lshr, 1) := by decide +kernel
theorem dJ9_multiplyHigh_f86c9_84 : decode cJ9_multiplyHigh_f86c9 84 = .ok (.ladd, 1) := by decide +kernel
theorem dJ9_multiplyHigh_f86c9_85 : decode cJ9_multiplyHigh_f86c9 85 = .ok (.lreturn, 1) := by decide +kernel
theorem dJ9_min_7cf53_0 : decode cJ9_min_7cf53 0 = .ok (.iload_n 0, 1) := by decide +kernel
theorem dJ9_min_7cf53_1 : decode cJ9_min_7cf53 1 = .ok (.iload_n 1, 1) := by decide +kernel
theorem dJ9_min_7cf53_2 : decode cJ9_min_7cf53 2 = .ok (.if_icmp .gt 7, 3) := by decide +kernel
theorem dJ9_min_7cf53_5 : decode cJ9_min_7cf53 5 = .ok (.iload_n 0, 1) := by decide +kernel
theorem dJ9_min_7cf53_6 : decode cJ9_min_7cf53 6 = .ok (.goto 4, 3) := by decide +kernel
theorem dJ9_min_7cf53_9 : decode cJ9_min_7cf53 9 = .ok (.iload_n 1, 1) := by decide +kernel
theorem dJ9_min_7cf53_10 : decode cJ9_min_7cf53 10 = .ok (.ireturn, 1) := by decide +kernel
theorem dJ7_rangeCheck_23922_0 : decode cJ7_rangeCheck_23922 0 = .ok (.iload_n 1, 1) := by decide +kernel
theorem dJ7_rangeCheck_23922_1 : decode cJ7_rangeCheck_23922 1 = .ok (.iload_n 2, 1) := by decide +kernel
theorem dJ7_rangeCheck_23922_2 : decode cJ7_rangeCheck_23922 2 = .ok (.if_icmp .le 44, 3) := by decide +kernel
theorem dJ7_rangeCheck_23922_5 : decode cJ7_rangeCheck_23922 5 = .ok (.new 43, 3) := by decide +kernel
theorem dJ7_rangeCheck_23922_8 : decode cJ7_rangeCheck_23922 8 = .ok (.dup, 1) := by decide +kernel
theorem dJ7_rangeCheck_23922_9 : decode cJ7_rangeCheck_23922 9 = .ok (.new 45, 3) := by decide +kernel
theorem dJ7_rangeCheck_23922_12 : decode cJ7_rangeCheck_23922 12 = .ok (.dup, 1) := by decide +kernel
theorem dJ7_rangeCheck_23922_13 : decode cJ7_rangeCheck_23922 13 = .ok (.invokespecial 47, 3) := by decide +kernel
theorem dJ7_rangeCheck_23922_16 : decode cJ7_rangeCheck_23922 16 = .ok (.ldc 48, 2) := by decide +kernel
theorem dJ7_rangeCheck_23922_18 : decode cJ7_rangeCheck_23922 18 = .ok (.invokevirtual 50, 3) := by decide +kernel
theorem dJ7_rangeCheck_23922_21 : decode cJ7_rangeCheck_23922 21 = .ok (.iload_n 1, 1) := by decide +kernel
theorem dJ7_rangeCheck_23922_22 : decode cJ7_rangeCheck_23922 22 = .ok (.invokevirtual 54, 3) := by decide +kernel
theorem dJ7_rangeCheck_23922_25 : decode cJ7_rangeCheck_23922 25 = .ok (.ldc 57, 2) := by decide +kernel
theorem dJ7_rangeCheck_23922_27 : decode cJ7_rangeCheck_23922 27 = .ok (.invokevirtual 50, 3) := by decide +kernel
theorem dJ7_rangeCheck_23922_30 : decode cJ7_rangeCheck_23922 30 = .ok (.iload_n 2, 1) := by decide +kernel
theorem dJ7_rangeCheck_23922_31 : decode cJ7_rangeCheck_23922 31 = .ok (.invokevirtual 54, 3) := by decide +kernel
theorem dJ7_rangeCheck_23922_34 : decode cJ7_rangeCheck_23922 34 = .ok (.ldc 59, 2) := by decide +kernel
theorem dJ7_rangeCheck_23922_36 : decode cJ7_rangeCheck_23922 36 = .ok (.invokevirtual 50, 3) := by decide +kernel
theorem dJ7_rangeCheck_23922_39 : decode cJ7_rangeCheck_23922 39 = .ok (.invokevirtual 61, 3) := by decide +kernel
theorem dJ7_rangeCheck_23922_42 : decode cJ7_rangeCheck_23922 42 = .ok (.invokespecial 65, 3) := by decide +kernel
theorem dJ7_rangeCheck_23922_45 : decode cJ7_rangeCheck_23922 45 = .ok (.athrow, 1) := by decide +kernel
theorem dJ7_rangeCheck_23922_46 : decode cJ7_rangeCheck_23922 46 = .ok (.iload_n 1, 1) := by decide +kernel
theorem dJ7_rangeCheck_23922_47 : decode cJ7_rangeCheck_23922 47 = .ok (.ifCond .ge 12, 3) := by decide +kernel
theorem dJ7_rangeCheck_23922_50 : decode cJ7_rangeCheck_23922 50 = .ok (.new 68, 3) := by decide +kernel
theorem dJ7_rangeCheck_23922_53 : decode cJ7_rangeCheck_23922 53 = .ok (.dup, 1) := by decide +kernel
theorem dJ7_rangeCheck_23922_54 : decode cJ7_rangeCheck_23922 54 = .ok (.iload_n 1, 1) := by decide +kernel
theorem dJ7_rangeCheck_23922_55 : decode cJ7_rangeCheck_23922 55 = .ok (.invokespecial 70, 3) := by decide +kernel
theorem dJ7_rangeCheck_23922_58 : decode cJ7_rangeCheck_23922 58 = .ok (.athrow, 1) := by decide +kernel
theorem dJ7_rangeCheck_23922_59 : decode cJ7_rangeCheck_23922 59 = .ok (.iload_n 2, 1) := by decide +kernel
theorem dJ7_rangeCheck_23922_60 : decode cJ7_rangeCheck_23922 60 = .ok (.iload_n 0, 1) := by decide +kernel
theorem dJ7_rangeCheck_23922_61 : decode cJ7_rangeCheck_23922 61 = .ok (.if_icmp .le 12, 3) := by decide +kernel
theorem dJ7_rangeCheck_23922_64 : decode cJ7_rangeCheck_23922 64 = .ok (.new 68, 3) := by decide +kernel
theorem dJ7_rangeCheck_23922_67 : decode cJ7_rangeCheck_23922 67 = .ok (.dup, 1) := by decide +kernel
theorem dJ7_rangeCheck_23922_68 : decode cJ7_rangeCheck_23922 68 = .ok (.iload_n 2, 1) := by decide +kernel
theorem dJ7_rangeCheck_23922_69 : decode cJ7_rangeCheck_23922 69 = .ok (.invokespecial 70, 3) := by decide +kernel
theorem dJ7_rangeCheck_23922_72 : decode cJ7_rangeCheck_23922 72 = .ok (.athrow, 1) := by decide +kernel
theorem dJ7_rangeCheck_23922_73 : decode cJ7_rangeCheck_23922 73 = .ok (.return_, 1) := by decide +kernel
theorem dJ7_fill_d0a16_0 : decode cJ7_fill_d0a16 0 = .ok (.iconst 0, 1) := by decide +kernel
theorem dJ7_fill_d0a16_1 : decode cJ7_fill_d0a16 1 = .ok (.istore_n 3, 1) := by decide +kernel
theorem dJ7_fill_d0a16_2 : decode cJ7_fill_d0a16 2 = .ok (.aload_n 0, 1) := by decide +kernel
theorem dJ7_fill_d0a16_3 : decode cJ7_fill_d0a16 3 = .ok (.arraylength, 1) := by decide +kernel
theorem dJ7_fill_d0a16_4 : decode cJ7_fill_d0a16 4 = .ok (.istore 4, 2) := by decide +kernel
theorem dJ7_fill_d0a16_6 : decode cJ7_fill_d0a16 6 = .ok (.iload_n 3, 1) := by decide +kernel
theorem dJ7_fill_d0a16_7 : decode cJ7_fill_d0a16 7 = .ok (.iload 4, 2) := by decide +kernel
theorem dJ7_fill_d0a16_9 : decode cJ7_fill_d0a16 9 = .ok (.if_icmp .ge 13, 3) := by decide +kernel
theorem dJ7_fill_d0a16_12 : decode cJ7_fill_d0a16 12 = .ok (.aload_n 0, 1) := by decide +kernel
theorem dJ7_fill_d0a16_13 : decode cJ7_fill_d0a16 13 = .ok (.iload_n 3, 1) := by decide +kernel
theorem dJ7_fill_d0a16_14 : decode cJ7_fill_d0a16 14 = .ok (.lload_n 1, 1) := by decide +kernel
theorem dJ7_fill_d0a16_15 : decode cJ7_fill_d0a16 15 = .ok (.lastore, 1) := by decide +kernel
theorem dJ7_fill_d0a16_16 : decode cJ7_fill_d0a16 16 = .ok (.iinc 3 1, 3) := by decide +kernel
theorem dJ7_fill_d0a16_19 : decode cJ7_fill_d0a16 19 = .ok (.goto (-13), 3) := by decide +kernel
theorem dJ7_fill_d0a16_22 : decode cJ7_fill_d0a16 22 = .ok (.return_, 1) := by decide +kernel
theorem dJ7_fill_bad5a_0 : decode cJ7_fill_bad5a 0 = .ok (.aload_n 0, 1) := by decide +kernel
theorem dJ7_fill_bad5a_1 : decode cJ7_fill_bad5a 1 = .ok (.arraylength, 1) := by decide +kernel
theorem dJ7_fill_bad5a_2 : decode cJ7_fill_bad5a 2 = .ok (.iload_n 1, 1) := by decide +kernel
theorem dJ7_fill_bad5a_3 : decode cJ7_fill_bad5a 3 = .ok (.iload_n 2, 1) := by decide +kernel
theorem dJ7_fill_bad5a_4 : decode cJ7_fill_bad5a 4 = .ok (.invokestatic 13, 3) := by decide +kernel
theorem dJ7_fill_bad5a_7 : decode cJ7_fill_bad5a 7 = .ok (.iload_n 1, 1) := by decide +kernel
theorem dJ7_fill_bad5a_8 : decode cJ7_fill_bad5a 8 = .ok (.istore 5, 2) := by decide +kernel
theorem dJ7_fill_bad5a_10 : decode cJ7_fill_bad5a 10 = .ok (.iload 5, 2) := by decide +kernel
theorem dJ7_fill_bad5a_12 : decode cJ7_fill_bad5a 12 = .ok (.iload_n 2, 1) := by decide +kernel
theorem dJ7_fill_bad5a_13 : decode cJ7_fill_bad5a 13 = .ok (.if_icmp .ge 14, 3) := by decide +kernel
theorem dJ7_fill_bad5a_16 : decode cJ7_fill_bad5a 16 = .ok (.aload_n 0, 1) := by decide +kernel
theorem dJ7_fill_bad5a_17 : decode cJ7_fill_bad5a 17 = .ok (.iload 5, 2) := by decide +kernel
theorem dJ7_fill_bad5a_19 : decode cJ7_fill_bad5a 19 = .ok (.lload_n 3, 1) := by decide +kernel
theorem dJ7_fill_bad5a_20 : decode cJ7_fill_bad5a 20 = .ok (.lastore, 1) := by decide +kernel
theorem dJ7_fill_bad5a_21 : decode cJ7_fill_bad5a 21 = .ok (.iinc 5 1, 3) := by decide +kernel
theorem dJ7_fill_bad5a_24 : decode cJ7_fill_bad5a 24 = .ok (.goto (-14), 3) := by decide +kernel
theorem dJ7_fill_bad5a_27 : decode cJ7_fill_bad5a 27 = .ok (.return_, 1) := by decide +kernel
theorem dJ7_fill_53178_0 : decode cJ7_fill_53178 0 = .ok (.iconst 0, 1) := by decide +kernel
theorem dJ7_fill_53178_1 : decode cJ7_fill_53178 1 = .ok (.istore_n 2, 1) := by decide +kernel
theorem dJ7_fill_53178_2 : decode cJ7_fill_53178 2 = .ok (.aload_n 0, 1) := by decide +kernel
theorem dJ7_fill_53178_3 : decode cJ7_fill_53178 3 = .ok (.arraylength, 1) := by decide +kernel
theorem dJ7_fill_53178_4 : decode cJ7_fill_53178 4 = .ok (.istore_n 3, 1) := by decide +kernel
theorem dJ7_fill_53178_5 : decode cJ7_fill_53178 5 = .ok (.iload_n 2, 1) := by decide +kernel
theorem dJ7_fill_53178_6 : decode cJ7_fill_53178 6 = .ok (.iload_n 3, 1) := by decide +kernel
theorem dJ7_fill_53178_7 : decode cJ7_fill_53178 7 = .ok (.if_icmp .ge 13, 3) := by decide +kernel
theorem dJ7_fill_53178_10 : decode cJ7_fill_53178 10 = .ok (.aload_n 0, 1) := by decide +kernel
theorem dJ7_fill_53178_11 : decode cJ7_fill_53178 11 = .ok (.iload_n 2, 1) := by decide +kernel
theorem dJ7_fill_53178_12 : decode cJ7_fill_53178 12 = .ok (.iload_n 1, 1) := by decide +kernel
theorem dJ7_fill_53178_13 : decode cJ7_fill_53178 13 = .ok (.iastore, 1) := by decide +kernel
theorem dJ7_fill_53178_14 : decode cJ7_fill_53178 14 = .ok (.iinc 2 1, 3) := by decide +kernel
theorem dJ7_fill_53178_17 : decode cJ7_fill_53178 17 = .ok (.goto (-12), 3) := by decide +kernel
theorem dJ7_fill_53178_20 : decode cJ7_fill_53178 20 = .ok (.return_, 1) := by decide +kernel
theorem dL_cell_0 : decode cL_cell 0 = .ok (.iload_n 1, 1) := by decide +kernel
theorem dL_cell_1 : decode cL_cell 1 = .ok (.aload_n 0, 1) := by decide +kernel
theorem dL_cell_2 : decode cL_cell 2 = .ok (.arraylength, 1) := by decide +kernel
theorem dL_cell_3 : decode cL_cell 3 = .ok (.if_icmp .ge 9, 3) := by decide +kernel
theorem dL_cell_6 : decode cL_cell 6 = .ok (.aload_n 0, 1) := by decide +kernel
theorem dL_cell_7 : decode cL_cell 7 = .ok (.iload_n 1, 1) := by decide +kernel
theorem dL_cell_8 : decode cL_cell 8 = .ok (.iaload, 1) := by decide +kernel
theorem dL_cell_9 : decode cL_cell 9 = .ok (.goto 4, 3) := by decide +kernel
theorem dL_cell_12 : decode cL_cell 12 = .ok (.iconst 0, 1) := by decide +kernel
theorem dL_cell_13 : decode cL_cell 13 = .ok (.ireturn, 1) := by decide +kernel
theorem dL_law_0 : decode cL_law 0 = .ok (.new 7, 3) := by decide +kernel
theorem dL_law_3 : decode cL_law 3 = .ok (.dup, 1) := by decide +kernel
theorem dL_law_4 : decode cL_law 4 = .ok (.aload_n 0, 1) := by decide +kernel
theorem dL_law_5 : decode cL_law 5 = .ok (.iconst 0, 1) := by decide +kernel
theorem dL_law_6 : decode cL_law 6 = .ok (.invokestatic 9, 3) := by decide +kernel
theorem dL_law_9 : decode cL_law 9 = .ok (.i2l, 1) := by decide +kernel
theorem dL_law_10 : decode cL_law 10 = .ok (.invokespecial 15, 3) := by decide +kernel
theorem dL_law_13 : decode cL_law 13 = .ok (.astore_n 1, 1) := by decide +kernel
theorem dL_law_14 : decode cL_law 14 = .ok (.new 18, 3) := by decide +kernel
theorem dL_law_17 : decode cL_law 17 = .ok (.dup, 1) := by decide +kernel
theorem dL_law_18 : decode cL_law 18 = .ok (.aload_n 0, 1) := by decide +kernel
theorem dL_law_19 : decode cL_law 19 = .ok (.iconst 0, 1) := by decide +kernel
theorem dL_law_20 : decode cL_law 20 = .ok (.invokestatic 9, 3) := by decide +kernel
theorem dL_law_23 : decode cL_law 23 = .ok (.i2l, 1) := by decide +kernel
theorem dL_law_24 : decode cL_law 24 = .ok (.invokespecial 20, 3) := by decide +kernel
theorem dL_law_27 : decode cL_law 27 = .ok (.astore_n 2, 1) := by decide +kernel
theorem dL_law_28 : decode cL_law 28 = .ok (.iconst 1, 1) := by decide +kernel
theorem dL_law_29 : decode cL_law 29 = .ok (.istore_n 3, 1) := by decide +kernel
theorem dL_law_30 : decode cL_law 30 = .ok (.iload_n 3, 1) := by decide +kernel
theorem dL_law_31 : decode cL_law 31 = .ok (.aload_n 0, 1) := by decide +kernel
theorem dL_law_32 : decode cL_law 32 = .ok (.arraylength, 1) := by decide +kernel
theorem dL_law_33 : decode cL_law 33 = .ok (.iconst 4, 1) := by decide +kernel
theorem dL_law_34 : decode cL_law 34 = .ok (.isub, 1) := by decide +kernel
theorem dL_law_35 : decode cL_law 35 = .ok (.if_icmp .gt 419, 3) := by decide +kernel
theorem dL_law_38 : decode cL_law 38 = .ok (.aload_n 0, 1) := by decide +kernel
theorem dL_law_39 : decode cL_law 39 = .ok (.iload_n 3, 1) := by decide +kernel
theorem dL_law_40 : decode cL_law 40 = .ok (.iaload, 1) := by decide +kernel
theorem dL_law_41 : decode cL_law 41 = .ok (.bipush 15, 2) := by decide +kernel
theorem dL_law_43 : decode cL_law 43 = .ok (.iand, 1) := by decide +kernel
theorem dL_law_44 : decode cL_law 44 = .ok (.tableswitch 404 0 10 #[60, 111, 174, 198, 209, 232, 256, 279, 303, 337, 370], 60) := by decide +kernel
theorem dL_law_104 : decode cL_law 104 = .ok (.aload_n 1, 1) := by decide +kernel
theorem dL_law_105 : decode cL_law 105 = .ok (.aload_n 0, 1) := by decide +kernel
theorem dL_law_106 : decode cL_law 106 = .ok (.iload_n 3, 1) := by decide +kernel
theorem dL_law_107 : decode cL_law 107 = .ok (.iconst 1, 1) := by decide +kernel
theorem dL_law_108 : decode cL_law 108 = .ok (.iadd, 1) := by decide +kernel
theorem dL_law_109 : decode cL_law 109 = .ok (.iaload, 1) := by decide +kernel
theorem dL_law_110 : decode cL_law 110 = .ok (.i2l, 1) := by decide +kernel
theorem dL_law_111 : decode cL_law 111 = .ok (.bipush 32, 2) := by decide +kernel
theorem dL_law_113 : decode cL_law 113 = .ok (.lshl, 1) := by decide +kernel
theorem dL_law_114 : decode cL_law 114 = .ok (.aload_n 0, 1) := by decide +kernel
theorem dL_law_115 : decode cL_law 115 = .ok (.iload_n 3, 1) := by decide +kernel
theorem dL_law_116 : decode cL_law 116 = .ok (.iconst 2, 1) := by decide +kernel
theorem dL_law_117 : decode cL_law 117 = .ok (.iadd, 1) := by decide +kernel
theorem dL_law_118 : decode cL_law 118 = .ok (.iaload, 1) := by decide +kernel
theorem dL_law_119 : decode cL_law 119 = .ok (.i2l, 1) := by decide +kernel
theorem dL_law_120 : decode cL_law 120 = .ok (.ldc2_w 21, 3) := by decide +kernel
theorem dL_law_123 : decode cL_law 123 = .ok (.land, 1) := by decide +kernel
theorem dL_law_124 : decode cL_law 124 = .ok (.lor, 1) := by decide +kernel
theorem dL_law_125 : decode cL_law 125 = .ok (.invokevirtual 23, 3) := by decide +kernel
theorem dL_law_128 : decode cL_law 128 = .ok (.aload_n 2, 1) := by decide +kernel
theorem dL_law_129 : decode cL_law 129 = .ok (.aload_n 0, 1) := by decide +kernel
theorem dL_law_130 : decode cL_law 130 = .ok (.iload_n 3, 1) := by decide +kernel
theorem dL_law_131 : decode cL_law 131 = .ok (.iconst 1, 1) := by decide +kernel
theorem dL_law_132 : decode cL_law 132 = .ok (.iadd, 1) := by decide +kernel
theorem dL_law_133 : decode cL_law 133 = .ok (.iaload, 1) := by decide +kernel
theorem dL_law_134 : decode cL_law 134 = .ok (.i2l, 1) := by decide +kernel
theorem dL_law_135 : decode cL_law 135 = .ok (.bipush 32, 2) := by decide +kernel
theorem dL_law_137 : decode cL_law 137 = .ok (.lshl, 1) := by decide +kernel
theorem dL_law_138 : decode cL_law 138 = .ok (.aload_n 0, 1) := by decide +kernel
theorem dL_law_139 : decode cL_law 139 = .ok (.iload_n 3, 1) := by decide +kernel
theorem dL_law_140 : decode cL_law 140 = .ok (.iconst 2, 1) := by decide +kernel
theorem dL_law_141 : decode cL_law 141 = .ok (.iadd, 1) := by decide +kernel
theorem dL_law_142 : decode cL_law 142 = .ok (.iaload, 1) := by decide +kernel
theorem dL_law_143 : decode cL_law 143 = .ok (.i2l, 1) := by decide +kernel
theorem dL_law_144 : decode cL_law 144 = .ok (.ldc2_w 21, 3) := by decide +kernel
theorem dL_law_147 : decode cL_law 147 = .ok (.land, 1) := by decide +kernel
theorem dL_law_148 : decode cL_law 148 = .ok (.lor, 1) := by decide +kernel
theorem dL_law_149 : decode cL_law 149 = .ok (.invokevirtual 26, 3) := by decide +kernel
theorem dL_law_152 : decode cL_law 152 = .ok (.goto 296, 3) := by decide +kernel
theorem dL_law_155 : decode cL_law 155 = .ok (.aload_n 1, 1) := by decide +kernel
theorem dL_law_156 : decode cL_law 156 = .ok (.aload_n 0, 1) := by decide +kernel
theorem dL_law_157 : decode cL_law 157 = .ok (.iload_n 3, 1) := by decide +kernel
theorem dL_law_158 : decode cL_law 158 = .ok (.iconst 1, 1) := by decide +kernel
theorem dL_law_159 : decode cL_law 159 = .ok (.iadd, 1) := by decide +kernel
theorem dL_law_160 : decode cL_law 160 = .ok (.iaload, 1) := by decide +kernel
theorem dL_law_161 : decode cL_law 161 = .ok (.aload_n 0, 1) := by decide +kernel
theorem dL_law_162 : decode cL_law 162 = .ok (.iload_n 3, 1) := by decide +kernel
theorem dL_law_163 : decode cL_law 163 = .ok (.iconst 2, 1) := by decide +kernel
theorem dL_law_164 : decode cL_law 164 = .ok (.iadd, 1) := by decide +kernel
theorem dL_law_165 : decode cL_law 165 = .ok (.iaload, 1) := by decide +kernel
theorem dL_law_166 : decode cL_law 166 = .ok (.i2l, 1) := by decide +kernel
theorem dL_law_167 : decode cL_law 167 = .ok (.bipush 32, 2) := by decide +kernel
theorem dL_law_169 : decode cL_law 169 = .ok (.lshl, 1) := by decide +kernel
theorem dL_law_170 : decode cL_law 170 = .ok (.aload_n 0, 1) := by decide +kernel
theorem dL_law_171 : decode cL_law 171 = .ok (.iload_n 3, 1) := by decide +kernel
theorem dL_law_172 : decode cL_law 172 = .ok (.iconst 3, 1) := by decide +kernel
theorem dL_law_173 : decode cL_law 173 = .ok (.iadd, 1) := by decide +kernel
theorem dL_law_174 : decode cL_law 174 = .ok (.iaload, 1) := by decide +kernel
theorem dL_law_175 : decode cL_law 175 = .ok (.i2l, 1) := by decide +kernel
theorem dL_law_176 : decode cL_law 176 = .ok (.ldc2_w 21, 3) := by decide +kernel
theorem dL_law_179 : decode cL_law 179 = .ok (.land, 1) := by decide +kernel
theorem dL_law_180 : decode cL_law 180 = .ok (.lor, 1) := by decide +kernel
theorem dL_law_181 : decode cL_law 181 = .ok (.invokevirtual 27, 3) := by decide +kernel
theorem dL_law_184 : decode cL_law 184 = .ok (.aload_n 2, 1) := by decide +kernel
theorem dL_law_185 : decode cL_law 185 = .ok (.aload_n 0, 1) := by decide +kernel
theorem dL_law_186 : decode cL_law 186 = .ok (.iload_n 3, 1) := by decide +kernel
theorem dL_law_187 : decode cL_law 187 = .ok (.iconst 1, 1) := by decide +kernel
theorem dL_law_188 : decode cL_law 188 = .ok (.iadd, 1) := by decide +kernel
theorem dL_law_189 : decode cL_law 189 = .ok (.iaload, 1) := by decide +kernel
theorem dL_law_190 : decode cL_law 190 = .ok (.aload_n 0, 1) := by decide +kernel
theorem dL_law_191 : decode cL_law 191 = .ok (.iload_n 3, 1) := by decide +kernel
theorem dL_law_192 : decode cL_law 192 = .ok (.iconst 2, 1) := by decide +kernel
theorem dL_law_193 : decode cL_law 193 = .ok (.iadd, 1) := by decide +kernel
theorem dL_law_194 : decode cL_law 194 = .ok (.iaload, 1) := by decide +kernel
theorem dL_law_195 : decode cL_law 195 = .ok (.i2l, 1) := by decide +kernel
theorem dL_law_196 : decode cL_law 196 = .ok (.bipush 32, 2) := by decide +kernel
theorem dL_law_198 : decode cL_law 198 = .ok (.lshl, 1) := by decide +kernel
theorem dL_law_199 : decode cL_law 199 = .ok (.aload_n 0, 1) := by decide +kernel
theorem dL_law_200 : decode cL_law 200 = .ok (.iload_n 3, 1) := by decide +kernel
theorem dL_law_201 : decode cL_law 201 = .ok (.iconst 3, 1) := by decide +kernel
theorem dL_law_202 : decode cL_law 202 = .ok (.iadd, 1) := by decide +kernel
theorem dL_law_203 : decode cL_law 203 = .ok (.iaload, 1) := by decide +kernel
theorem dL_law_204 : decode cL_law 204 = .ok (.i2l, 1) := by decide +kernel
theorem dL_law_205 : decode cL_law 205 = .ok (.ldc2_w 21, 3) := by decide +kernel
theorem dL_law_208 : decode cL_law 208 = .ok (.land, 1) := by decide +kernel
theorem dL_law_209 : decode cL_law 209 = .ok (.lor, 1) := by decide +kernel
theorem dL_law_210 : decode cL_law 210 = .ok (.invokevirtual 31, 3) := by decide +kernel
theorem dL_law_213 : decode cL_law 213 = .ok (.if_icmp .eq 235, 3) := by decide +kernel
theorem dL_law_216 : decode cL_law 216 = .ok (.iconst 0, 1) := by decide +kernel
theorem dL_law_217 : decode cL_law 217 = .ok (.ireturn, 1) := by decide +kernel
theorem dL_law_218 : decode cL_law 218 = .ok (.aload_n 1, 1) := by decide +kernel
theorem dL_law_219 : decode cL_law 219 = .ok (.aload_n 0, 1) := by decide +kernel
theorem dL_law_220 : decode cL_law 220 = .ok (.iload_n 3, 1) := by decide +kernel
theorem dL_law_221 : decode cL_law 221 = .ok (.iconst 1, 1) := by decide +kernel
theorem dL_law_222 : decode cL_law 222 = .ok (.iadd, 1) := by decide +kernel
theorem dL_law_223 : decode cL_law 223 = .ok (.iaload, 1) := by decide +kernel
theorem dL_law_224 : decode cL_law 224 = .ok (.invokevirtual 32, 3) := by decide +kernel
theorem dL_law_227 : decode cL_law 227 = .ok (.aload_n 2, 1) := by decide +kernel
theorem dL_law_228 : decode cL_law 228 = .ok (.aload_n 0, 1) := by decide +kernel
theorem dL_law_229 : decode cL_law 229 = .ok (.iload_n 3, 1) := by decide +kernel
theorem dL_law_230 : decode cL_law 230 = .ok (.iconst 1, 1) := by decide +kernel
theorem dL_law_231 : decode cL_law 231 = .ok (.iadd, 1) := by decide +kernel
theorem dL_law_232 : decode cL_law 232 = .ok (.iaload, 1) := by decide +kernel
theorem dL_law_233 : decode cL_law 233 = .ok (.invokevirtual 36, 3) := by decide +kernel
theorem dL_law_236 : decode cL_law 236 = .ok (.lcmp, 1) := by decide +kernel
theorem dL_law_237 : decode cL_law 237 = .ok (.ifCond .eq 211, 3) := by decide +kernel
theorem dL_law_240 : decode cL_law 240 = .ok (.iconst 0, 1) := by decide +kernel
theorem dL_law_241 : decode cL_law 241 = .ok (.ireturn, 1) := by decide +kernel
theorem dL_law_242 : decode cL_law 242 = .ok (.aload_n 1, 1) := by decide +kernel
theorem dL_law_243 : decode cL_law 243 = .ok (.invokevirtual 37, 3) := by decide +kernel
theorem dL_law_246 : decode cL_law 246 = .ok (.aload_n 2, 1) := by decide +kernel
theorem dL_law_247 : decode cL_law 247 = .ok (.invokevirtual 40, 3) := by decide +kernel
theorem dL_law_250 : decode cL_law 250 = .ok (.goto 198, 3) := by decide +kernel
theorem dL_law_253 : decode cL_law 253 = .ok (.aload_n 1, 1) := by decide +kernel
theorem dL_law_254 : decode cL_law 254 = .ok (.aload_n 0, 1) := by decide +kernel
theorem dL_law_255 : decode cL_law 255 = .ok (.iload_n 3, 1) := by decide +kernel
theorem dL_law_256 : decode cL_law 256 = .ok (.iconst 1, 1) := by decide +kernel
theorem dL_law_257 : decode cL_law 257 = .ok (.iadd, 1) := by decide +kernel
theorem dL_law_258 : decode cL_law 258 = .ok (.iaload, 1) := by decide +kernel
theorem dL_law_259 : decode cL_law 259 = .ok (.invokevirtual 41, 3) := by decide +kernel
theorem dL_law_262 : decode cL_law 262 = .ok (.aload_n 2, 1) := by decide +kernel
theorem dL_law_263 : decode cL_law 263 = .ok (.aload_n 0, 1) := by decide +kernel
theorem dL_law_264 : decode cL_law 264 = .ok (.iload_n 3, 1) := by decide +kernel
theorem dL_law_265 : decode cL_law 265 = .ok (.iconst 1, 1) := by decide +kernel
theorem dL_law_266 : decode cL_law 266 = .ok (.iadd, 1) := by decide +kernel
theorem dL_law_267 : decode cL_law 267 = .ok (.iaload, 1) := by decide +kernel
theorem dL_law_268 : decode cL_law 268 = .ok (.invokevirtual 45, 3) := by decide +kernel
theorem dL_law_271 : decode cL_law 271 = .ok (.if_icmp .eq 177, 3) := by decide +kernel
theorem dL_law_274 : decode cL_law 274 = .ok (.iconst 0, 1) := by decide +kernel
theorem dL_law_275 : decode cL_law 275 = .ok (.ireturn, 1) := by decide +kernel
theorem dL_law_276 : decode cL_law 276 = .ok (.aload_n 1, 1) := by decide +kernel
theorem dL_law_277 : decode cL_law 277 = .ok (.aload_n 0, 1) := by decide +kernel
theorem dL_law_278 : decode cL_law 278 = .ok (.iload_n 3, 1) := by decide +kernel
theorem dL_law_279 : decode cL_law 279 = .ok (.iconst 1, 1) := by decide +kernel
theorem dL_law_280 : decode cL_law 280 = .ok (.iadd, 1) := by decide +kernel
theorem dL_law_281 : decode cL_law 281 = .ok (.iaload, 1) := by decide +kernel
theorem dL_law_282 : decode cL_law 282 = .ok (.invokevirtual 46, 3) := by decide +kernel
theorem dL_law_285 : decode cL_law 285 = .ok (.aload_n 2, 1) := by decide +kernel
theorem dL_law_286 : decode cL_law 286 = .ok (.aload_n 0, 1) := by decide +kernel
theorem dL_law_287 : decode cL_law 287 = .ok (.iload_n 3, 1) := by decide +kernel
theorem dL_law_288 : decode cL_law 288 = .ok (.iconst 1, 1) := by decide +kernel
theorem dL_law_289 : decode cL_law 289 = .ok (.iadd, 1) := by decide +kernel
theorem dL_law_290 : decode cL_law 290 = .ok (.iaload, 1) := by decide +kernel
theorem dL_law_291 : decode cL_law 291 = .ok (.invokevirtual 49, 3) := by decide +kernel
theorem dL_law_294 : decode cL_law 294 = .ok (.lcmp, 1) := by decide +kernel
theorem dL_law_295 : decode cL_law 295 = .ok (.ifCond .eq 153, 3) := by decide +kernel
theorem dL_law_298 : decode cL_law 298 = .ok (.iconst 0, 1) := by decide +kernel
theorem dL_law_299 : decode cL_law 299 = .ok (.ireturn, 1) := by decide +kernel
theorem dL_law_300 : decode cL_law 300 = .ok (.aload_n 1, 1) := by decide +kernel
theorem dL_law_301 : decode cL_law 301 = .ok (.aload_n 0, 1) := by decide +kernel
theorem dL_law_302 : decode cL_law 302 = .ok (.iload_n 3, 1) := by decide +kernel
theorem dL_law_303 : decode cL_law 303 = .ok (.iconst 1, 1) := by decide +kernel
theorem dL_law_304 : decode cL_law 304 = .ok (.iadd, 1) := by decide +kernel
theorem dL_law_305 : decode cL_law 305 = .ok (.iaload, 1) := by decide +kernel
theorem dL_law_306 : decode cL_law 306 = .ok (.invokevirtual 50, 3) := by decide +kernel
theorem dL_law_309 : decode cL_law 309 = .ok (.aload_n 2, 1) := by decide +kernel
theorem dL_law_310 : decode cL_law 310 = .ok (.aload_n 0, 1) := by decide +kernel
theorem dL_law_311 : decode cL_law 311 = .ok (.iload_n 3, 1) := by decide +kernel
theorem dL_law_312 : decode cL_law 312 = .ok (.iconst 1, 1) := by decide +kernel
theorem dL_law_313 : decode cL_law 313 = .ok (.iadd, 1) := by decide +kernel
theorem dL_law_314 : decode cL_law 314 = .ok (.iaload, 1) := by decide +kernel
theorem dL_law_315 : decode cL_law 315 = .ok (.invokevirtual 53, 3) := by decide +kernel
theorem dL_law_318 : decode cL_law 318 = .ok (.if_icmp .eq 130, 3) := by decide +kernel
theorem dL_law_321 : decode cL_law 321 = .ok (.iconst 0, 1) := by decide +kernel
theorem dL_law_322 : decode cL_law 322 = .ok (.ireturn, 1) := by decide +kernel
theorem dL_law_323 : decode cL_law 323 = .ok (.aload_n 1, 1) := by decide +kernel
theorem dL_law_324 : decode cL_law 324 = .ok (.aload_n 0, 1) := by decide +kernel
theorem dL_law_325 : decode cL_law 325 = .ok (.iload_n 3, 1) := by decide +kernel
theorem dL_law_326 : decode cL_law 326 = .ok (.iconst 1, 1) := by decide +kernel
theorem dL_law_327 : decode cL_law 327 = .ok (.iadd, 1) := by decide +kernel
theorem dL_law_328 : decode cL_law 328 = .ok (.iaload, 1) := by decide +kernel
theorem dL_law_329 : decode cL_law 329 = .ok (.invokevirtual 54, 3) := by decide +kernel
theorem dL_law_332 : decode cL_law 332 = .ok (.aload_n 2, 1) := by decide +kernel
theorem dL_law_333 : decode cL_law 333 = .ok (.aload_n 0, 1) := by decide +kernel
theorem dL_law_334 : decode cL_law 334 = .ok (.iload_n 3, 1) := by decide +kernel
theorem dL_law_335 : decode cL_law 335 = .ok (.iconst 1, 1) := by decide +kernel
theorem dL_law_336 : decode cL_law 336 = .ok (.iadd, 1) := by decide +kernel
theorem dL_law_337 : decode cL_law 337 = .ok (.iaload, 1) := by decide +kernel
theorem dL_law_338 : decode cL_law 338 = .ok (.invokevirtual 57, 3) := by decide +kernel
theorem dL_law_341 : decode cL_law 341 = .ok (.lcmp, 1) := by decide +kernel
theorem dL_law_342 : decode cL_law 342 = .ok (.ifCond .eq 106, 3) := by decide +kernel
theorem dL_law_345 : decode cL_law 345 = .ok (.iconst 0, 1) := by decide +kernel
theorem dL_law_346 : decode cL_law 346 = .ok (.ireturn, 1) := by decide +kernel
theorem dL_law_347 : decode cL_law 347 = .ok (.aload_n 1, 1) := by decide +kernel
theorem dL_law_348 : decode cL_law 348 = .ok (.aload_n 0, 1) := by decide +kernel
theorem dL_law_349 : decode cL_law 349 = .ok (.iload_n 3, 1) := by decide +kernel
theorem dL_law_350 : decode cL_law 350 = .ok (.iconst 1, 1) := by decide +kernel
theorem dL_law_351 : decode cL_law 351 = .ok (.iadd, 1) := by decide +kernel
theorem dL_law_352 : decode cL_law 352 = .ok (.iaload, 1) := by decide +kernel
theorem dL_law_353 : decode cL_law 353 = .ok (.aload_n 0, 1) := by decide +kernel
theorem dL_law_354 : decode cL_law 354 = .ok (.iload_n 3, 1) := by decide +kernel
theorem dL_law_355 : decode cL_law 355 = .ok (.iconst 2, 1) := by decide +kernel
theorem dL_law_356 : decode cL_law 356 = .ok (.iadd, 1) := by decide +kernel
theorem dL_law_357 : decode cL_law 357 = .ok (.iaload, 1) := by decide +kernel
theorem dL_law_358 : decode cL_law 358 = .ok (.invokevirtual 58, 3) := by decide +kernel
theorem dL_law_361 : decode cL_law 361 = .ok (.aload_n 2, 1) := by decide +kernel
theorem dL_law_362 : decode cL_law 362 = .ok (.aload_n 0, 1) := by decide +kernel
theorem dL_law_363 : decode cL_law 363 = .ok (.iload_n 3, 1) := by decide +kernel
theorem dL_law_364 : decode cL_law 364 = .ok (.iconst 1, 1) := by decide +kernel
theorem dL_law_365 : decode cL_law 365 = .ok (.iadd, 1) := by decide +kernel
theorem dL_law_366 : decode cL_law 366 = .ok (.iaload, 1) := by decide +kernel
theorem dL_law_367 : decode cL_law 367 = .ok (.aload_n 0, 1) := by decide +kernel
theorem dL_law_368 : decode cL_law 368 = .ok (.iload_n 3, 1) := by decide +kernel
theorem dL_law_369 : decode cL_law 369 = .ok (.iconst 2, 1) := by decide +kernel
theorem dL_law_370 : decode cL_law 370 = .ok (.iadd, 1) := by decide +kernel
theorem dL_law_371 : decode cL_law 371 = .ok (.iaload, 1) := by decide +kernel
theorem dL_law_372 : decode cL_law 372 = .ok (.invokevirtual 62, 3) := by decide +kernel
theorem dL_law_375 : decode cL_law 375 = .ok (.lcmp, 1) := by decide +kernel
theorem dL_law_376 : decode cL_law 376 = .ok (.ifCond .eq 72, 3) := by decide +kernel
theorem dL_law_379 : decode cL_law 379 = .ok (.iconst 0, 1) := by decide +kernel
theorem dL_law_380 : decode cL_law 380 = .ok (.ireturn, 1) := by decide +kernel
theorem dL_law_381 : decode cL_law 381 = .ok (.aload_n 1, 1) := by decide +kernel
theorem dL_law_382 : decode cL_law 382 = .ok (.aload_n 0, 1) := by decide +kernel
theorem dL_law_383 : decode cL_law 383 = .ok (.iload_n 3, 1) := by decide +kernel
theorem dL_law_384 : decode cL_law 384 = .ok (.iconst 1, 1) := by decide +kernel
theorem dL_law_385 : decode cL_law 385 = .ok (.iadd, 1) := by decide +kernel
theorem dL_law_386 : decode cL_law 386 = .ok (.iaload, 1) := by decide +kernel
theorem dL_law_387 : decode cL_law 387 = .ok (.aload_n 0, 1) := by decide +kernel
theorem dL_law_388 : decode cL_law 388 = .ok (.iload_n 3, 1) := by decide +kernel
theorem dL_law_389 : decode cL_law 389 = .ok (.iconst 2, 1) := by decide +kernel
theorem dL_law_390 : decode cL_law 390 = .ok (.iadd, 1) := by decide +kernel
theorem dL_law_391 : decode cL_law 391 = .ok (.iaload, 1) := by decide +kernel
theorem dL_law_392 : decode cL_law 392 = .ok (.invokevirtual 63, 3) := by decide +kernel
theorem dL_law_395 : decode cL_law 395 = .ok (.aload_n 2, 1) := by decide +kernel
theorem dL_law_396 : decode cL_law 396 = .ok (.aload_n 0, 1) := by decide +kernel
theorem dL_law_397 : decode cL_law 397 = .ok (.iload_n 3, 1) := by decide +kernel
theorem dL_law_398 : decode cL_law 398 = .ok (.iconst 1, 1) := by decide +kernel
theorem dL_law_399 : decode cL_law 399 = .ok (.iadd, 1) := by decide +kernel
theorem dL_law_400 : decode cL_law 400 = .ok (.iaload, 1) := by decide +kernel
theorem dL_law_401 : decode cL_law 401 = .ok (.aload_n 0, 1) := by decide +kernel
theorem dL_law_402 : decode cL_law 402 = .ok (.iload_n 3, 1) := by decide +kernel
theorem dL_law_403 : decode cL_law 403 = .ok (.iconst 2, 1) := by decide +kernel
theorem dL_law_404 : decode cL_law 404 = .ok (.iadd, 1) := by decide +kernel
theorem dL_law_405 : decode cL_law 405 = .ok (.iaload, 1) := by decide +kernel
theorem dL_law_406 : decode cL_law 406 = .ok (.invokevirtual 67, 3) := by decide +kernel
theorem dL_law_409 : decode cL_law 409 = .ok (.if_icmp .eq 39, 3) := by decide +kernel
theorem dL_law_412 : decode cL_law 412 = .ok (.iconst 0, 1) := by decide +kernel
theorem dL_law_413 : decode cL_law 413 = .ok (.ireturn, 1) := by decide +kernel
theorem dL_law_414 : decode cL_law 414 = .ok (.aload_n 1, 1) := by decide +kernel
theorem dL_law_415 : decode cL_law 415 = .ok (.aload_n 0, 1) := by decide +kernel
theorem dL_law_416 : decode cL_law 416 = .ok (.iload_n 3, 1) := by decide +kernel
theorem dL_law_417 : decode cL_law 417 = .ok (.iconst 1, 1) := by decide +kernel
theorem dL_law_418 : decode cL_law 418 = .ok (.iadd, 1) := by decide +kernel
theorem dL_law_419 : decode cL_law 419 = .ok (.iaload, 1) := by decide +kernel
theorem dL_law_420 : decode cL_law 420 = .ok (.aload_n 0, 1) := by decide +kernel
theorem dL_law_421 : decode cL_law 421 = .ok (.iload_n 3, 1) := by decide +kernel
theorem dL_law_422 : decode cL_law 422 = .ok (.iconst 2, 1) := by decide +kernel
theorem dL_law_423 : decode cL_law 423 = .ok (.iadd, 1) := by decide +kernel
theorem dL_law_424 : decode cL_law 424 = .ok (.iaload, 1) := by decide +kernel
theorem dL_law_425 : decode cL_law 425 = .ok (.invokevirtual 68, 3) := by decide +kernel
theorem dL_law_428 : decode cL_law 428 = .ok (.aload_n 2, 1) := by decide +kernel
theorem dL_law_429 : decode cL_law 429 = .ok (.aload_n 0, 1) := by decide +kernel
theorem dL_law_430 : decode cL_law 430 = .ok (.iload_n 3, 1) := by decide +kernel
theorem dL_law_431 : decode cL_law 431 = .ok (.iconst 1, 1) := by decide +kernel
theorem dL_law_432 : decode cL_law 432 = .ok (.iadd, 1) := by decide +kernel
theorem dL_law_433 : decode cL_law 433 = .ok (.iaload, 1) := by decide +kernel
theorem dL_law_434 : decode cL_law 434 = .ok (.aload_n 0, 1) := by decide +kernel
theorem dL_law_435 : decode cL_law 435 = .ok (.iload_n 3, 1) := by decide +kernel
theorem dL_law_436 : decode cL_law 436 = .ok (.iconst 2, 1) := by decide +kernel
theorem dL_law_437 : decode cL_law 437 = .ok (.iadd, 1) := by decide +kernel
theorem dL_law_438 : decode cL_law 438 = .ok (.iaload, 1) := by decide +kernel
theorem dL_law_439 : decode cL_law 439 = .ok (.invokevirtual 71, 3) := by decide +kernel
theorem dL_law_442 : decode cL_law 442 = .ok (.lcmp, 1) := by decide +kernel
theorem dL_law_443 : decode cL_law 443 = .ok (.ifCond .eq 5, 3) := by decide +kernel
theorem dL_law_446 : decode cL_law 446 = .ok (.iconst 0, 1) := by decide +kernel
theorem dL_law_447 : decode cL_law 447 = .ok (.ireturn, 1) := by decide +kernel
theorem dL_law_448 : decode cL_law 448 = .ok (.iinc 3 4, 3) := by decide +kernel
theorem dL_law_451 : decode cL_law 451 = .ok (.goto (-421), 3) := by decide +kernel
theorem dL_law_454 : decode cL_law 454 = .ok (.iconst 1, 1) := by decide +kernel
theorem dL_law_455 : decode cL_law 455 = .ok (.ireturn, 1) := by decide +kernel
