theorem dX4_copy_58 : decode cX4_copy 58 = .ok (.iload_n 1, 1) := by decide +kernel
theorem dX4_copy_59 : decode cX4_copy 59 = .ok (.iload 4, 2) := by decide +kernel
theorem dX4_copy_61 : decode cX4_copy 61 = .ok (.iadd, 1) := by decide +kernel
theorem dX4_copy_62 : decode cX4_copy 62 = .ok (.iconst 1, 1) := by decide +kernel
theorem dX4_copy_63 : decode cX4_copy 63 = .ok (.invokevirtual 36, 3) := by decide +kernel
theorem dX4_copy_66 : decode cX4_copy 66 = .ok (.invokevirtual 25, 3) := by decide +kernel
theorem dX4_copy_69 : decode cX4_copy 69 = .ok (.iinc 4 (-1), 3) := by decide +kernel
theorem dX4_copy_72 : decode cX4_copy 72 = .ok (.goto (-26), 3) := by decide +kernel
theorem dX4_copy_75 : decode cX4_copy 75 = .ok (.return_, 1) := by decide +kernel
theorem dX4_shift_0 : decode cX4_shift 0 = .ok (.iload_n 0, 1) := by decide +kernel
theorem dX4_shift_1 : decode cX4_shift 1 = .ok (.bipush 7, 2) := by decide +kernel
theorem dX4_shift_3 : decode cX4_shift 3 = .ok (.iand, 1) := by decide +kernel
theorem dX4_shift_4 : decode cX4_shift 4 = .ok (.iconst 3, 1) := by decide +kernel
theorem dX4_shift_5 : decode cX4_shift 5 = .ok (.ishl, 1) := by decide +kernel
theorem dX4_shift_6 : decode cX4_shift 6 = .ok (.ireturn, 1) := by decide +kernel
theorem dX4_mask_0 : decode cX4_mask 0 = .ok (.iload_n 0, 1) := by decide +kernel
theorem dX4_mask_1 : decode cX4_mask 1 = .ok (.bipush 8, 2) := by decide +kernel
theorem dX4_mask_3 : decode cX4_mask 3 = .ok (.if_icmp .lt 9, 3) := by decide +kernel
theorem dX4_mask_6 : decode cX4_mask 6 = .ok (.ldc2_w 23, 3) := by decide +kernel
theorem dX4_mask_9 : decode cX4_mask 9 = .ok (.goto 10, 3) := by decide +kernel
theorem dX4_mask_12 : decode cX4_mask 12 = .ok (.lconst 1, 1) := by decide +kernel
theorem dX4_mask_13 : decode cX4_mask 13 = .ok (.iload_n 0, 1) := by decide +kernel
theorem dX4_mask_14 : decode cX4_mask 14 = .ok (.iconst 3, 1) := by decide +kernel
theorem dX4_mask_15 : decode cX4_mask 15 = .ok (.ishl, 1) := by decide +kernel
theorem dX4_mask_16 : decode cX4_mask 16 = .ok (.lshl, 1) := by decide +kernel
theorem dX4_mask_17 : decode cX4_mask 17 = .ok (.lconst 1, 1) := by decide +kernel
theorem dX4_mask_18 : decode cX4_mask 18 = .ok (.lsub, 1) := by decide +kernel
theorem dX4_mask_19 : decode cX4_mask 19 = .ok (.lreturn, 1) := by decide +kernel
theorem dX5_init_0 : decode cX5_init 0 = .ok (.aload_n 0, 1) := by decide +kernel
theorem dX5_init_1 : decode cX5_init 1 = .ok (.invokespecial 3, 3) := by decide +kernel
theorem dX5_init_4 : decode cX5_init 4 = .ok (.aload_n 0, 1) := by decide +kernel
theorem dX5_init_5 : decode cX5_init 5 = .ok (.new 9, 3) := by decide +kernel
theorem dX5_init_8 : decode cX5_init 8 = .ok (.dup, 1) := by decide +kernel
theorem dX5_init_9 : decode cX5_init 9 = .ok (.invokespecial 11, 3) := by decide +kernel
theorem dX5_init_12 : decode cX5_init 12 = .ok (.putfield 12, 3) := by decide +kernel
theorem dX5_init_15 : decode cX5_init 15 = .ok (.aload_n 0, 1) := by decide +kernel
theorem dX5_init_16 : decode cX5_init 16 = .ok (.bipush 6, 2) := by decide +kernel
theorem dX5_init_18 : decode cX5_init 18 = .ok (.anewarray 18, 3) := by decide +kernel
theorem dX5_init_21 : decode cX5_init 21 = .ok (.putfield 20, 3) := by decide +kernel
theorem dX5_init_24 : decode cX5_init 24 = .ok (.aload_n 0, 1) := by decide +kernel
theorem dX5_init_25 : decode cX5_init 25 = .ok (.iconst (-1), 1) := by decide +kernel
theorem dX5_init_26 : decode cX5_init 26 = .ok (.putfield 24, 3) := by decide +kernel
theorem dX5_init_29 : decode cX5_init 29 = .ok (.aload_n 0, 1) := by decide +kernel
theorem dX5_init_30 : decode cX5_init 30 = .ok (.lload_n 1, 1) := by decide +kernel
theorem dX5_init_31 : decode cX5_init 31 = .ok (.putfield 28, 3) := by decide +kernel
theorem dX5_init_34 : decode cX5_init 34 = .ok (.aload_n 0, 1) := by decide +kernel
theorem dX5_init_35 : decode cX5_init 35 = .ok (.aload_n 3, 1) := by decide +kernel
theorem dX5_init_36 : decode cX5_init 36 = .ok (.putfield 32, 3) := by decide +kernel
theorem dX5_init_39 : decode cX5_init 39 = .ok (.aload_n 0, 1) := by decide +kernel
theorem dX5_init_40 : decode cX5_init 40 = .ok (.aload 4, 2) := by decide +kernel
theorem dX5_init_42 : decode cX5_init 42 = .ok (.putfield 36, 3) := by decide +kernel
theorem dX5_init_45 : decode cX5_init 45 = .ok (.aload_n 0, 1) := by decide +kernel
theorem dX5_init_46 : decode cX5_init 46 = .ok (.aload 5, 2) := by decide +kernel
theorem dX5_init_48 : decode cX5_init 48 = .ok (.putfield 40, 3) := by decide +kernel
theorem dX5_init_51 : decode cX5_init 51 = .ok (.iconst 0, 1) := by decide +kernel
theorem dX5_init_52 : decode cX5_init 52 = .ok (.istore 6, 2) := by decide +kernel
theorem dX5_init_54 : decode cX5_init 54 = .ok (.iload 6, 2) := by decide +kernel
theorem dX5_init_56 : decode cX5_init 56 = .ok (.bipush 6, 2) := by decide +kernel
theorem dX5_init_58 : decode cX5_init 58 = .ok (.if_icmp .ge 23, 3) := by decide +kernel
theorem dX5_init_61 : decode cX5_init 61 = .ok (.aload_n 0, 1) := by decide +kernel
theorem dX5_init_62 : decode cX5_init 62 = .ok (.getfield 20, 3) := by decide +kernel
theorem dX5_init_65 : decode cX5_init 65 = .ok (.iload 6, 2) := by decide +kernel
theorem dX5_init_67 : decode cX5_init 67 = .ok (.new 18, 3) := by decide +kernel
theorem dX5_init_70 : decode cX5_init 70 = .ok (.dup, 1) := by decide +kernel
theorem dX5_init_71 : decode cX5_init 71 = .ok (.invokespecial 44, 3) := by decide +kernel
theorem dX5_init_74 : decode cX5_init 74 = .ok (.aastore, 1) := by decide +kernel
theorem dX5_init_75 : decode cX5_init 75 = .ok (.iinc 6 1, 3) := by decide +kernel
theorem dX5_init_78 : decode cX5_init 78 = .ok (.goto (-24), 3) := by decide +kernel
theorem dX5_init_81 : decode cX5_init 81 = .ok (.return_, 1) := by decide +kernel
theorem dX5_forgetAll_0 : decode cX5_forgetAll 0 = .ok (.iconst 0, 1) := by decide +kernel
theorem dX5_forgetAll_1 : decode cX5_forgetAll 1 = .ok (.istore_n 1, 1) := by decide +kernel
theorem dX5_forgetAll_2 : decode cX5_forgetAll 2 = .ok (.iload_n 1, 1) := by decide +kernel
theorem dX5_forgetAll_3 : decode cX5_forgetAll 3 = .ok (.bipush 6, 2) := by decide +kernel
theorem dX5_forgetAll_5 : decode cX5_forgetAll 5 = .ok (.if_icmp .ge 19, 3) := by decide +kernel
theorem dX5_forgetAll_8 : decode cX5_forgetAll 8 = .ok (.aload_n 0, 1) := by decide +kernel
theorem dX5_forgetAll_9 : decode cX5_forgetAll 9 = .ok (.aload_n 0, 1) := by decide +kernel
theorem dX5_forgetAll_10 : decode cX5_forgetAll 10 = .ok (.getfield 20, 3) := by decide +kernel
theorem dX5_forgetAll_13 : decode cX5_forgetAll 13 = .ok (.iload_n 1, 1) := by decide +kernel
theorem dX5_forgetAll_14 : decode cX5_forgetAll 14 = .ok (.aaload, 1) := by decide +kernel
theorem dX5_forgetAll_15 : decode cX5_forgetAll 15 = .ok (.invokevirtual 45, 3) := by decide +kernel
theorem dX5_forgetAll_18 : decode cX5_forgetAll 18 = .ok (.iinc 1 1, 3) := by decide +kernel
theorem dX5_forgetAll_21 : decode cX5_forgetAll 21 = .ok (.goto (-19), 3) := by decide +kernel
theorem dX5_forgetAll_24 : decode cX5_forgetAll 24 = .ok (.aload_n 0, 1) := by decide +kernel
theorem dX5_forgetAll_25 : decode cX5_forgetAll 25 = .ok (.iconst (-1), 1) := by decide +kernel
theorem dX5_forgetAll_26 : decode cX5_forgetAll 26 = .ok (.putfield 24, 3) := by decide +kernel
theorem dX5_forgetAll_29 : decode cX5_forgetAll 29 = .ok (.aload_n 0, 1) := by decide +kernel
theorem dX5_forgetAll_30 : decode cX5_forgetAll 30 = .ok (.iconst 0, 1) := by decide +kernel
theorem dX5_forgetAll_31 : decode cX5_forgetAll 31 = .ok (.putfield 49, 3) := by decide +kernel
theorem dX5_forgetAll_34 : decode cX5_forgetAll 34 = .ok (.aload_n 0, 1) := by decide +kernel
theorem dX5_forgetAll_35 : decode cX5_forgetAll 35 = .ok (.iconst 0, 1) := by decide +kernel
theorem dX5_forgetAll_36 : decode cX5_forgetAll 36 = .ok (.putfield 53, 3) := by decide +kernel
theorem dX5_forgetAll_39 : decode cX5_forgetAll 39 = .ok (.aload_n 0, 1) := by decide +kernel
theorem dX5_forgetAll_40 : decode cX5_forgetAll 40 = .ok (.iconst 0, 1) := by decide +kernel
theorem dX5_forgetAll_41 : decode cX5_forgetAll 41 = .ok (.putfield 56, 3) := by decide +kernel
theorem dX5_forgetAll_44 : decode cX5_forgetAll 44 = .ok (.aload_n 0, 1) := by decide +kernel
theorem dX5_forgetAll_45 : decode cX5_forgetAll 45 = .ok (.iconst 0, 1) := by decide +kernel
theorem dX5_forgetAll_46 : decode cX5_forgetAll 46 = .ok (.putfield 59, 3) := by decide +kernel
theorem dX5_forgetAll_49 : decode cX5_forgetAll 49 = .ok (.aload_n 0, 1) := by decide +kernel
theorem dX5_forgetAll_50 : decode cX5_forgetAll 50 = .ok (.iconst 0, 1) := by decide +kernel
theorem dX5_forgetAll_51 : decode cX5_forgetAll 51 = .ok (.putfield 62, 3) := by decide +kernel
theorem dX5_forgetAll_54 : decode cX5_forgetAll 54 = .ok (.return_, 1) := by decide +kernel
theorem dX5_whoRuns_0 : decode cX5_whoRuns 0 = .ok (.aload_n 0, 1) := by decide +kernel
theorem dX5_whoRuns_1 : decode cX5_whoRuns 1 = .ok (.getfield 24, 3) := by decide +kernel
theorem dX5_whoRuns_4 : decode cX5_whoRuns 4 = .ok (.i2l, 1) := by decide +kernel
theorem dX5_whoRuns_5 : decode cX5_whoRuns 5 = .ok (.invokestatic 65, 3) := by decide +kernel
theorem dX5_whoRuns_8 : decode cX5_whoRuns 8 = .ok (.ifCond .eq 18, 3) := by decide +kernel
theorem dX5_whoRuns_11 : decode cX5_whoRuns 11 = .ok (.aload_n 0, 1) := by decide +kernel
theorem dX5_whoRuns_12 : decode cX5_whoRuns 12 = .ok (.getfield 20, 3) := by decide +kernel
theorem dX5_whoRuns_15 : decode cX5_whoRuns 15 = .ok (.aload_n 0, 1) := by decide +kernel
theorem dX5_whoRuns_16 : decode cX5_whoRuns 16 = .ok (.getfield 24, 3) := by decide +kernel
theorem dX5_whoRuns_19 : decode cX5_whoRuns 19 = .ok (.aaload, 1) := by decide +kernel
theorem dX5_whoRuns_20 : decode cX5_whoRuns 20 = .ok (.getfield 69, 3) := by decide +kernel
theorem dX5_whoRuns_23 : decode cX5_whoRuns 23 = .ok (.goto 7, 3) := by decide +kernel
theorem dX5_whoRuns_26 : decode cX5_whoRuns 26 = .ok (.aload_n 0, 1) := by decide +kernel
theorem dX5_whoRuns_27 : decode cX5_whoRuns 27 = .ok (.getfield 40, 3) := by decide +kernel
theorem dX5_whoRuns_30 : decode cX5_whoRuns 30 = .ok (.areturn, 1) := by decide +kernel
theorem dX5_takeInterrupt_0 : decode cX5_takeInterrupt 0 = .ok (.aload_n 0, 1) := by decide +kernel
theorem dX5_takeInterrupt_1 : decode cX5_takeInterrupt 1 = .ok (.getfield 49, 3) := by decide +kernel
theorem dX5_takeInterrupt_4 : decode cX5_takeInterrupt 4 = .ok (.ifCond .ne 4, 3) := by decide +kernel
theorem dX5_takeInterrupt_7 : decode cX5_takeInterrupt 7 = .ok (.return_, 1) := by decide +kernel
theorem dX5_takeInterrupt_8 : decode cX5_takeInterrupt 8 = .ok (.aload_n 0, 1) := by decide +kernel
theorem dX5_takeInterrupt_9 : decode cX5_takeInterrupt 9 = .ok (.iconst 0, 1) := by decide +kernel
theorem dX5_takeInterrupt_10 : decode cX5_takeInterrupt 10 = .ok (.putfield 49, 3) := by decide +kernel
theorem dX5_takeInterrupt_13 : decode cX5_takeInterrupt 13 = .ok (.aload_n 0, 1) := by decide +kernel
theorem dX5_takeInterrupt_14 : decode cX5_takeInterrupt 14 = .ok (.getfield 24, 3) := by decide +kernel
theorem dX5_takeInterrupt_17 : decode cX5_takeInterrupt 17 = .ok (.iconst (-1), 1) := by decide +kernel
theorem dX5_takeInterrupt_18 : decode cX5_takeInterrupt 18 = .ok (.if_icmp .ne 16, 3) := by decide +kernel
theorem dX5_takeInterrupt_21 : decode cX5_takeInterrupt 21 = .ok (.aload_n 0, 1) := by decide +kernel
theorem dX5_takeInterrupt_22 : decode cX5_takeInterrupt 22 = .ok (.dup, 1) := by decide +kernel
theorem dX5_takeInterrupt_23 : decode cX5_takeInterrupt 23 = .ok (.getfield 62, 3) := by decide +kernel
theorem dX5_takeInterrupt_26 : decode cX5_takeInterrupt 26 = .ok (.iconst 1, 1) := by decide +kernel
theorem dX5_takeInterrupt_27 : decode cX5_takeInterrupt 27 = .ok (.iadd, 1) := by decide +kernel
theorem dX5_takeInterrupt_28 : decode cX5_takeInterrupt 28 = .ok (.putfield 62, 3) := by decide +kernel
theorem dX5_takeInterrupt_31 : decode cX5_takeInterrupt 31 = .ok (.goto 9, 3) := by decide +kernel
theorem dX5_takeInterrupt_34 : decode cX5_takeInterrupt 34 = .ok (.aload_n 0, 1) := by decide +kernel
theorem dX5_takeInterrupt_35 : decode cX5_takeInterrupt 35 = .ok (.iconst 1, 1) := by decide +kernel
theorem dX5_takeInterrupt_36 : decode cX5_takeInterrupt 36 = .ok (.lconst 0, 1) := by decide +kernel
theorem dX5_takeInterrupt_37 : decode cX5_takeInterrupt 37 = .ok (.invokevirtual 72, 3) := by decide +kernel
theorem dX5_takeInterrupt_40 : decode cX5_takeInterrupt 40 = .ok (.return_, 1) := by decide +kernel
theorem dX5_answerHost_0 : decode cX5_answerHost 0 = .ok (.aload_n 0, 1) := by decide +kernel
theorem dX5_answerHost_1 : decode cX5_answerHost 1 = .ok (.getfield 40, 3) := by decide +kernel
theorem dX5_answerHost_4 : decode cX5_answerHost 4 = .ok (.bipush 17, 2) := by decide +kernel
theorem dX5_answerHost_6 : decode cX5_answerHost 6 = .ok (.invokevirtual 76, 3) := by decide +kernel
theorem dX5_answerHost_9 : decode cX5_answerHost 9 = .ok (.lstore_n 1, 1) := by decide +kernel
theorem dX5_answerHost_10 : decode cX5_answerHost 10 = .ok (.aload_n 0, 1) := by decide +kernel
theorem dX5_answerHost_11 : decode cX5_answerHost 11 = .ok (.getfield 40, 3) := by decide +kernel
theorem dX5_answerHost_14 : decode cX5_answerHost 14 = .ok (.bipush 10, 2) := by decide +kernel
theorem dX5_answerHost_16 : decode cX5_answerHost 16 = .ok (.invokevirtual 76, 3) := by decide +kernel
theorem dX5_answerHost_19 : decode cX5_answerHost 19 = .ok (.lstore_n 3, 1) := by decide +kernel
theorem dX5_answerHost_20 : decode cX5_answerHost 20 = .ok (.lload_n 1, 1) := by decide +kernel
theorem dX5_answerHost_21 : decode cX5_answerHost 21 = .ok (.lconst 1, 1) := by decide +kernel
theorem dX5_answerHost_22 : decode cX5_answerHost 22 = .ok (.lcmp, 1) := by decide +kernel
theorem dX5_answerHost_23 : decode cX5_answerHost 23 = .ok (.ifCond .ne 19, 3) := by decide +kernel
theorem dX5_answerHost_26 : decode cX5_answerHost 26 = .ok (.aload_n 0, 1) := by decide +kernel
theorem dX5_answerHost_27 : decode cX5_answerHost 27 = .ok (.getfield 40, 3) := by decide +kernel
theorem dX5_answerHost_30 : decode cX5_answerHost 30 = .ok (.bipush 10, 2) := by decide +kernel
theorem dX5_answerHost_32 : decode cX5_answerHost 32 = .ok (.aload_n 0, 1) := by decide +kernel
theorem dX5_answerHost_33 : decode cX5_answerHost 33 = .ok (.invokevirtual 82, 3) := by decide +kernel
theorem dX5_answerHost_36 : decode cX5_answerHost 36 = .ok (.invokevirtual 86, 3) := by decide +kernel
theorem dX5_answerHost_39 : decode cX5_answerHost 39 = .ok (.goto 153, 3) := by decide +kernel
theorem dX5_answerHost_42 : decode cX5_answerHost 42 = .ok (.lload_n 3, 1) := by decide +kernel
theorem dX5_answerHost_43 : decode cX5_answerHost 43 = .ok (.invokestatic 65, 3) := by decide +kernel
theorem dX5_answerHost_46 : decode cX5_answerHost 46 = .ok (.ifCond .eq 16, 3) := by decide +kernel
theorem dX5_answerHost_49 : decode cX5_answerHost 49 = .ok (.aload_n 0, 1) := by decide +kernel
theorem dX5_answerHost_50 : decode cX5_answerHost 50 = .ok (.getfield 20, 3) := by decide +kernel
theorem dX5_answerHost_53 : decode cX5_answerHost 53 = .ok (.lload_n 3, 1) := by decide +kernel
theorem dX5_answerHost_54 : decode cX5_answerHost 54 = .ok (.l2i, 1) := by decide +kernel
theorem dX5_answerHost_55 : decode cX5_answerHost 55 = .ok (.aaload, 1) := by decide +kernel
theorem dX5_answerHost_56 : decode cX5_answerHost 56 = .ok (.getfield 89, 3) := by decide +kernel
theorem dX5_answerHost_59 : decode cX5_answerHost 59 = .ok (.ifCond .ne 18, 3) := by decide +kernel
theorem dX5_answerHost_62 : decode cX5_answerHost 62 = .ok (.aload_n 0, 1) := by decide +kernel
theorem dX5_answerHost_63 : decode cX5_answerHost 63 = .ok (.getfield 40, 3) := by decide +kernel
theorem dX5_answerHost_66 : decode cX5_answerHost 66 = .ok (.bipush 10, 2) := by decide +kernel
theorem dX5_answerHost_68 : decode cX5_answerHost 68 = .ok (.ldc2_w 92, 3) := by decide +kernel
theorem dX5_answerHost_71 : decode cX5_answerHost 71 = .ok (.invokevirtual 86, 3) := by decide +kernel
theorem dX5_answerHost_74 : decode cX5_answerHost 74 = .ok (.goto 118, 3) := by decide +kernel
theorem dX5_answerHost_77 : decode cX5_answerHost 77 = .ok (.lload_n 1, 1) := by decide +kernel
theorem dX5_answerHost_78 : decode cX5_answerHost 78 = .ok (.ldc2_w 94, 3) := by decide +kernel
theorem dX5_answerHost_81 : decode cX5_answerHost 81 = .ok (.lcmp, 1) := by decide +kernel
theorem dX5_answerHost_82 : decode cX5_answerHost 82 = .ok (.ifCond .ne 12, 3) := by decide +kernel
theorem dX5_answerHost_85 : decode cX5_answerHost 85 = .ok (.aload_n 0, 1) := by decide +kernel
theorem dX5_answerHost_86 : decode cX5_answerHost 86 = .ok (.lload_n 3, 1) := by decide +kernel
theorem dX5_answerHost_87 : decode cX5_answerHost 87 = .ok (.l2i, 1) := by decide +kernel
theorem dX5_answerHost_88 : decode cX5_answerHost 88 = .ok (.invokevirtual 96, 3) := by decide +kernel
theorem dX5_answerHost_91 : decode cX5_answerHost 91 = .ok (.goto 101, 3) := by decide +kernel
theorem dX5_answerHost_94 : decode cX5_answerHost 94 = .ok (.lload_n 1, 1) := by decide +kernel
theorem dX5_answerHost_95 : decode cX5_answerHost 95 = .ok (.ldc2_w 100, 3) := by decide +kernel
theorem dX5_answerHost_98 : decode cX5_answerHost 98 = .ok (.lcmp, 1) := by decide +kernel
theorem dX5_answerHost_99 : decode cX5_answerHost 99 = .ok (.ifCond .ne 31, 3) := by decide +kernel
theorem dX5_answerHost_102 : decode cX5_answerHost 102 = .ok (.aload_n 0, 1) := by decide +kernel
theorem dX5_answerHost_103 : decode cX5_answerHost 103 = .ok (.aload_n 0, 1) := by decide +kernel
theorem dX5_answerHost_104 : decode cX5_answerHost 104 = .ok (.getfield 20, 3) := by decide +kernel
theorem dX5_answerHost_107 : decode cX5_answerHost 107 = .ok (.lload_n 3, 1) := by decide +kernel
theorem dX5_answerHost_108 : decode cX5_answerHost 108 = .ok (.l2i, 1) := by decide +kernel
theorem dX5_answerHost_109 : decode cX5_answerHost 109 = .ok (.aaload, 1) := by decide +kernel
theorem dX5_answerHost_110 : decode cX5_answerHost 110 = .ok (.invokevirtual 45, 3) := by decide +kernel
theorem dX5_answerHost_113 : decode cX5_answerHost 113 = .ok (.aload_n 0, 1) := by decide +kernel
theorem dX5_answerHost_114 : decode cX5_answerHost 114 = .ok (.invokevirtual 102, 3) := by decide +kernel
theorem dX5_answerHost_117 : decode cX5_answerHost 117 = .ok (.aload_n 0, 1) := by decide +kernel
theorem dX5_answerHost_118 : decode cX5_answerHost 118 = .ok (.getfield 40, 3) := by decide +kernel
theorem dX5_answerHost_121 : decode cX5_answerHost 121 = .ok (.bipush 10, 2) := by decide +kernel
theorem dX5_answerHost_123 : decode cX5_answerHost 123 = .ok (.lconst 0, 1) := by decide +kernel
theorem dX5_answerHost_124 : decode cX5_answerHost 124 = .ok (.invokevirtual 86, 3) := by decide +kernel
theorem dX5_answerHost_127 : decode cX5_answerHost 127 = .ok (.goto 65, 3) := by decide +kernel
theorem dX5_answerHost_130 : decode cX5_answerHost 130 = .ok (.lload_n 1, 1) := by decide +kernel
theorem dX5_answerHost_131 : decode cX5_answerHost 131 = .ok (.ldc2_w 105, 3) := by decide +kernel
theorem dX5_answerHost_134 : decode cX5_answerHost 134 = .ok (.lcmp, 1) := by decide +kernel
theorem dX5_answerHost_135 : decode cX5_answerHost 135 = .ok (.ifCond .ne 45, 3) := by decide +kernel
theorem dX5_answerHost_138 : decode cX5_answerHost 138 = .ok (.aload_n 0, 1) := by decide +kernel
theorem dX5_answerHost_139 : decode cX5_answerHost 139 = .ok (.getfield 40, 3) := by decide +kernel
theorem dX5_answerHost_142 : decode cX5_answerHost 142 = .ok (.bipush 10, 2) := by decide +kernel
theorem dX5_answerHost_144 : decode cX5_answerHost 144 = .ok (.aload_n 0, 1) := by decide +kernel
theorem dX5_answerHost_145 : decode cX5_answerHost 145 = .ok (.getfield 20, 3) := by decide +kernel
theorem dX5_answerHost_148 : decode cX5_answerHost 148 = .ok (.lload_n 3, 1) := by decide +kernel
theorem dX5_answerHost_149 : decode cX5_answerHost 149 = .ok (.l2i, 1) := by decide +kernel
theorem dX5_answerHost_150 : decode cX5_answerHost 150 = .ok (.aaload, 1) := by decide +kernel
theorem dX5_answerHost_151 : decode cX5_answerHost 151 = .ok (.getfield 89, 3) := by decide +kernel
theorem dX5_answerHost_154 : decode cX5_answerHost 154 = .ok (.i2l, 1) := by decide +kernel
theorem dX5_answerHost_155 : decode cX5_answerHost 155 = .ok (.invokevirtual 86, 3) := by decide +kernel
theorem dX5_answerHost_158 : decode cX5_answerHost 158 = .ok (.aload_n 0, 1) := by decide +kernel
theorem dX5_answerHost_159 : decode cX5_answerHost 159 = .ok (.getfield 40, 3) := by decide +kernel
theorem dX5_answerHost_162 : decode cX5_answerHost 162 = .ok (.bipush 11, 2) := by decide +kernel
theorem dX5_answerHost_164 : decode cX5_answerHost 164 = .ok (.aload_n 0, 1) := by decide +kernel
theorem dX5_answerHost_165 : decode cX5_answerHost 165 = .ok (.getfield 20, 3) := by decide +kernel
theorem dX5_answerHost_168 : decode cX5_answerHost 168 = .ok (.lload_n 3, 1) := by decide +kernel
theorem dX5_answerHost_169 : decode cX5_answerHost 169 = .ok (.l2i, 1) := by decide +kernel
theorem dX5_answerHost_170 : decode cX5_answerHost 170 = .ok (.aaload, 1) := by decide +kernel
theorem dX5_answerHost_171 : decode cX5_answerHost 171 = .ok (.getfield 107, 3) := by decide +kernel
theorem dX5_answerHost_174 : decode cX5_answerHost 174 = .ok (.invokevirtual 86, 3) := by decide +kernel
theorem dX5_answerHost_177 : decode cX5_answerHost 177 = .ok (.goto 15, 3) := by decide +kernel
theorem dX5_answerHost_180 : decode cX5_answerHost 180 = .ok (.aload_n 0, 1) := by decide +kernel
theorem dX5_answerHost_181 : decode cX5_answerHost 181 = .ok (.getfield 40, 3) := by decide +kernel
theorem dX5_answerHost_184 : decode cX5_answerHost 184 = .ok (.bipush 10, 2) := by decide +kernel
theorem dX5_answerHost_186 : decode cX5_answerHost 186 = .ok (.ldc2_w 92, 3) := by decide +kernel
theorem dX5_answerHost_189 : decode cX5_answerHost 189 = .ok (.invokevirtual 86, 3) := by decide +kernel
theorem dX5_answerHost_192 : decode cX5_answerHost 192 = .ok (.return_, 1) := by decide +kernel
theorem dX5_settleStay_0 : decode cX5_settleStay 0 = .ok (.aload_n 0, 1) := by decide +kernel
theorem dX5_settleStay_1 : decode cX5_settleStay 1 = .ok (.getfield 24, 3) := by decide +kernel
theorem dX5_settleStay_4 : decode cX5_settleStay 4 = .ok (.i2l, 1) := by decide +kernel
theorem dX5_settleStay_5 : decode cX5_settleStay 5 = .ok (.invokestatic 65, 3) := by decide +kernel
theorem dX5_settleStay_8 : decode cX5_settleStay 8 = .ok (.ifCond .ne 4, 3) := by decide +kernel
theorem dX5_settleStay_11 : decode cX5_settleStay 11 = .ok (.return_, 1) := by decide +kernel
theorem dX5_settleStay_12 : decode cX5_settleStay 12 = .ok (.aload_n 0, 1) := by decide +kernel
theorem dX5_settleStay_13 : decode cX5_settleStay 13 = .ok (.getfield 20, 3) := by decide +kernel
theorem dX5_settleStay_16 : decode cX5_settleStay 16 = .ok (.aload_n 0, 1) := by decide +kernel
theorem dX5_settleStay_17 : decode cX5_settleStay 17 = .ok (.getfield 24, 3) := by decide +kernel
theorem dX5_settleStay_20 : decode cX5_settleStay 20 = .ok (.aaload, 1) := by decide +kernel
theorem dX5_settleStay_21 : decode cX5_settleStay 21 = .ok (.astore_n 2, 1) := by decide +kernel
theorem dX5_settleStay_22 : decode cX5_settleStay 22 = .ok (.aload_n 2, 1) := by decide +kernel
theorem dX5_settleStay_23 : decode cX5_settleStay 23 = .ok (.dup, 1) := by decide +kernel
theorem dX5_settleStay_24 : decode cX5_settleStay 24 = .ok (.getfield 110, 3) := by decide +kernel
theorem dX5_settleStay_27 : decode cX5_settleStay 27 = .ok (.iconst 1, 1) := by decide +kernel
theorem dX5_settleStay_28 : decode cX5_settleStay 28 = .ok (.iadd, 1) := by decide +kernel
theorem dX5_settleStay_29 : decode cX5_settleStay 29 = .ok (.putfield 110, 3) := by decide +kernel
theorem dX5_settleStay_32 : decode cX5_settleStay 32 = .ok (.aload_n 0, 1) := by decide +kernel
theorem dX5_settleStay_33 : decode cX5_settleStay 33 = .ok (.dup, 1) := by decide +kernel
theorem dX5_settleStay_34 : decode cX5_settleStay 34 = .ok (.getfield 113, 3) := by decide +kernel
theorem dX5_settleStay_37 : decode cX5_settleStay 37 = .ok (.lconst 1, 1) := by decide +kernel
theorem dX5_settleStay_38 : decode cX5_settleStay 38 = .ok (.ladd, 1) := by decide +kernel
theorem dX5_settleStay_39 : decode cX5_settleStay 39 = .ok (.putfield 113, 3) := by decide +kernel
theorem dX5_settleStay_42 : decode cX5_settleStay 42 = .ok (.iload_n 1, 1) := by decide +kernel
theorem dX5_settleStay_43 : decode cX5_settleStay 43 = .ok (.bipush 11, 2) := by decide +kernel
theorem dX5_settleStay_45 : decode cX5_settleStay 45 = .ok (.if_icmp .ne 56, 3) := by decide +kernel
theorem dX5_settleStay_48 : decode cX5_settleStay 48 = .ok (.aload_n 2, 1) := by decide +kernel
theorem dX5_settleStay_49 : decode cX5_settleStay 49 = .ok (.getfield 69, 3) := by decide +kernel
theorem dX5_settleStay_52 : decode cX5_settleStay 52 = .ok (.dup, 1) := by decide +kernel
theorem dX5_settleStay_53 : decode cX5_settleStay 53 = .ok (.getfield 116, 3) := by decide +kernel
theorem dX5_settleStay_56 : decode cX5_settleStay 56 = .ok (.ldc2_w 105, 3) := by decide +kernel
theorem dX5_settleStay_59 : decode cX5_settleStay 59 = .ok (.ladd, 1) := by decide +kernel
theorem dX5_settleStay_60 : decode cX5_settleStay 60 = .ok (.putfield 116, 3) := by decide +kernel
theorem dX5_settleStay_63 : decode cX5_settleStay 63 = .ok (.aload_n 2, 1) := by decide +kernel
theorem dX5_settleStay_64 : decode cX5_settleStay 64 = .ok (.getfield 69, 3) := by decide +kernel
theorem dX5_settleStay_67 : decode cX5_settleStay 67 = .ok (.bipush 17, 2) := by decide +kernel
theorem dX5_settleStay_69 : decode cX5_settleStay 69 = .ok (.invokevirtual 76, 3) := by decide +kernel
theorem dX5_settleStay_72 : decode cX5_settleStay 72 = .ok (.lconst 1, 1) := by decide +kernel
theorem dX5_settleStay_73 : decode cX5_settleStay 73 = .ok (.lcmp, 1) := by decide +kernel
theorem dX5_settleStay_74 : decode cX5_settleStay 74 = .ok (.ifCond .ne 20, 3) := by decide +kernel
theorem dX5_settleStay_77 : decode cX5_settleStay 77 = .ok (.aload_n 0, 1) := by decide +kernel
theorem dX5_settleStay_78 : decode cX5_settleStay 78 = .ok (.iconst 0, 1) := by decide +kernel
theorem dX5_settleStay_79 : decode cX5_settleStay 79 = .ok (.aload_n 2, 1) := by decide +kernel
theorem dX5_settleStay_80 : decode cX5_settleStay 80 = .ok (.getfield 69, 3) := by decide +kernel
theorem dX5_settleStay_83 : decode cX5_settleStay 83 = .ok (.bipush 10, 2) := by decide +kernel
theorem dX5_settleStay_85 : decode cX5_settleStay 85 = .ok (.invokevirtual 76, 3) := by decide +kernel
theorem dX5_settleStay_88 : decode cX5_settleStay 88 = .ok (.invokevirtual 72, 3) := by decide +kernel
theorem dX5_settleStay_91 : decode cX5_settleStay 91 = .ok (.goto 22, 3) := by decide +kernel
theorem dX5_settleStay_94 : decode cX5_settleStay 94 = .ok (.aload_n 2, 1) := by decide +kernel
theorem dX5_settleStay_95 : decode cX5_settleStay 95 = .ok (.invokestatic 119, 3) := by decide +kernel
theorem dX5_settleStay_98 : decode cX5_settleStay 98 = .ok (.goto 15, 3) := by decide +kernel
theorem dX5_settleStay_101 : decode cX5_settleStay 101 = .ok (.iload_n 1, 1) := by decide +kernel
theorem dX5_settleStay_102 : decode cX5_settleStay 102 = .ok (.iconst (-1), 1) := by decide +kernel
theorem dX5_settleStay_103 : decode cX5_settleStay 103 = .ok (.if_icmp .eq 10, 3) := by decide +kernel
theorem dX5_settleStay_106 : decode cX5_settleStay 106 = .ok (.aload_n 0, 1) := by decide +kernel
theorem dX5_settleStay_107 : decode cX5_settleStay 107 = .ok (.iconst 2, 1) := by decide +kernel
theorem dX5_settleStay_108 : decode cX5_settleStay 108 = .ok (.iload_n 1, 1) := by decide +kernel
theorem dX5_settleStay_109 : decode cX5_settleStay 109 = .ok (.i2l, 1) := by decide +kernel
theorem dX5_settleStay_110 : decode cX5_settleStay 110 = .ok (.invokevirtual 72, 3) := by decide +kernel
theorem dX5_settleStay_113 : decode cX5_settleStay 113 = .ok (.aload_n 0, 1) := by decide +kernel
theorem dX5_settleStay_114 : decode cX5_settleStay 114 = .ok (.getfield 24, 3) := by decide +kernel
theorem dX5_settleStay_117 : decode cX5_settleStay 117 = .ok (.iconst (-1), 1) := by decide +kernel
theorem dX5_settleStay_118 : decode cX5_settleStay 118 = .ok (.if_icmp .eq 21, 3) := by decide +kernel
theorem dX5_settleStay_121 : decode cX5_settleStay 121 = .ok (.aload_n 0, 1) := by decide +kernel
theorem dX5_settleStay_122 : decode cX5_settleStay 122 = .ok (.getfield 113, 3) := by decide +kernel
theorem dX5_settleStay_125 : decode cX5_settleStay 125 = .ok (.aload_n 0, 1) := by decide +kernel
theorem dX5_settleStay_126 : decode cX5_settleStay 126 = .ok (.getfield 122, 3) := by decide +kernel
theorem dX5_settleStay_129 : decode cX5_settleStay 129 = .ok (.lcmp, 1) := by decide +kernel
theorem dX5_settleStay_130 : decode cX5_settleStay 130 = .ok (.ifCond .ne 9, 3) := by decide +kernel
theorem dX5_settleStay_133 : decode cX5_settleStay 133 = .ok (.aload_n 0, 1) := by decide +kernel
theorem dX5_settleStay_134 : decode cX5_settleStay 134 = .ok (.iconst 1, 1) := by decide +kernel
theorem dX5_settleStay_135 : decode cX5_settleStay 135 = .ok (.lconst 0, 1) := by decide +kernel
theorem dX5_settleStay_136 : decode cX5_settleStay 136 = .ok (.invokevirtual 72, 3) := by decide +kernel
theorem dX5_settleStay_139 : decode cX5_settleStay 139 = .ok (.return_, 1) := by decide +kernel
theorem dX5_meetsLiveMemory_0 : decode cX5_meetsLiveMemory 0 = .ok (.iconst 0, 1) := by decide +kernel
theorem dX5_meetsLiveMemory_1 : decode cX5_meetsLiveMemory 1 = .ok (.istore 5, 2) := by decide +kernel
theorem dX5_meetsLiveMemory_3 : decode cX5_meetsLiveMemory 3 = .ok (.iload 5, 2) := by decide +kernel
theorem dX5_meetsLiveMemory_5 : decode cX5_meetsLiveMemory 5 = .ok (.bipush 6, 2) := by decide +kernel
theorem dX5_meetsLiveMemory_7 : decode cX5_meetsLiveMemory 7 = .ok (.if_icmp .ge 48, 3) := by decide +kernel
theorem dX5_meetsLiveMemory_10 : decode cX5_meetsLiveMemory 10 = .ok (.aload_n 0, 1) := by decide +kernel
theorem dX5_meetsLiveMemory_11 : decode cX5_meetsLiveMemory 11 = .ok (.getfield 20, 3) := by decide +kernel
theorem dX5_meetsLiveMemory_14 : decode cX5_meetsLiveMemory 14 = .ok (.iload 5, 2) := by decide +kernel
theorem dX5_meetsLiveMemory_16 : decode cX5_meetsLiveMemory 16 = .ok (.aaload, 1) := by decide +kernel
theorem dX5_meetsLiveMemory_17 : decode cX5_meetsLiveMemory 17 = .ok (.astore 6, 2) := by decide +kernel
theorem dX5_meetsLiveMemory_19 : decode cX5_meetsLiveMemory 19 = .ok (.aload 6, 2) := by decide +kernel
theorem dX5_meetsLiveMemory_21 : decode cX5_meetsLiveMemory 21 = .ok (.getfield 89, 3) := by decide +kernel
theorem dX5_meetsLiveMemory_24 : decode cX5_meetsLiveMemory 24 = .ok (.ifCond .eq 25, 3) := by decide +kernel
theorem dX5_meetsLiveMemory_27 : decode cX5_meetsLiveMemory 27 = .ok (.lload_n 1, 1) := by decide +kernel
theorem dX5_meetsLiveMemory_28 : decode cX5_meetsLiveMemory 28 = .ok (.lload_n 3, 1) := by decide +kernel
theorem dX5_meetsLiveMemory_29 : decode cX5_meetsLiveMemory 29 = .ok (.aload 6, 2) := by decide +kernel
theorem dX5_meetsLiveMemory_31 : decode cX5_meetsLiveMemory 31 = .ok (.getfield 125, 3) := by decide +kernel
theorem dX5_meetsLiveMemory_34 : decode cX5_meetsLiveMemory 34 = .ok (.i2l, 1) := by decide +kernel
theorem dX5_meetsLiveMemory_35 : decode cX5_meetsLiveMemory 35 = .ok (.aload 6, 2) := by decide +kernel
theorem dX5_meetsLiveMemory_37 : decode cX5_meetsLiveMemory 37 = .ok (.getfield 128, 3) := by decide +kernel
theorem dX5_meetsLiveMemory_40 : decode cX5_meetsLiveMemory 40 = .ok (.i2l, 1) := by decide +kernel
theorem dX5_meetsLiveMemory_41 : decode cX5_meetsLiveMemory 41 = .ok (.invokestatic 131, 3) := by decide +kernel
theorem dX5_meetsLiveMemory_44 : decode cX5_meetsLiveMemory 44 = .ok (.ifCond .eq 5, 3) := by decide +kernel
theorem dX5_meetsLiveMemory_47 : decode cX5_meetsLiveMemory 47 = .ok (.iconst 1, 1) := by decide +kernel
theorem dX5_meetsLiveMemory_48 : decode cX5_meetsLiveMemory 48 = .ok (.ireturn, 1) := by decide +kernel
theorem dX5_meetsLiveMemory_49 : decode cX5_meetsLiveMemory 49 = .ok (.iinc 5 1, 3) := by decide +kernel
theorem dX5_meetsLiveMemory_52 : decode cX5_meetsLiveMemory 52 = .ok (.goto (-49), 3) := by decide +kernel
theorem dX5_meetsLiveMemory_55 : decode cX5_meetsLiveMemory 55 = .ok (.iconst 0, 1) := by decide +kernel
theorem dX5_meetsLiveMemory_56 : decode cX5_meetsLiveMemory 56 = .ok (.ireturn, 1) := by decide +kernel
theorem dX5_meetsLiveShare_0 : decode cX5_meetsLiveShare 0 = .ok (.iconst 0, 1) := by decide +kernel
theorem dX5_meetsLiveShare_1 : decode cX5_meetsLiveShare 1 = .ok (.istore 5, 2) := by decide +kernel
theorem dX5_meetsLiveShare_3 : decode cX5_meetsLiveShare 3 = .ok (.iload 5, 2) := by decide +kernel
theorem dX5_meetsLiveShare_5 : decode cX5_meetsLiveShare 5 = .ok (.bipush 6, 2) := by decide +kernel
theorem dX5_meetsLiveShare_7 : decode cX5_meetsLiveShare 7 = .ok (.if_icmp .ge 56, 3) := by decide +kernel
theorem dX5_meetsLiveShare_10 : decode cX5_meetsLiveShare 10 = .ok (.aload_n 0, 1) := by decide +kernel
theorem dX5_meetsLiveShare_11 : decode cX5_meetsLiveShare 11 = .ok (.getfield 20, 3) := by decide +kernel
theorem dX5_meetsLiveShare_14 : decode cX5_meetsLiveShare 14 = .ok (.iload 5, 2) := by decide +kernel
theorem dX5_meetsLiveShare_16 : decode cX5_meetsLiveShare 16 = .ok (.aaload, 1) := by decide +kernel
theorem dX5_meetsLiveShare_17 : decode cX5_meetsLiveShare 17 = .ok (.astore 6, 2) := by decide +kernel
theorem dX5_meetsLiveShare_19 : decode cX5_meetsLiveShare 19 = .ok (.aload 6, 2) := by decide +kernel
theorem dX5_meetsLiveShare_21 : decode cX5_meetsLiveShare 21 = .ok (.getfield 89, 3) := by decide +kernel
theorem dX5_meetsLiveShare_24 : decode cX5_meetsLiveShare 24 = .ok (.ifCond .eq 33, 3) := by decide +kernel
theorem dX5_meetsLiveShare_27 : decode cX5_meetsLiveShare 27 = .ok (.aload 6, 2) := by decide +kernel
theorem dX5_meetsLiveShare_29 : decode cX5_meetsLiveShare 29 = .ok (.getfield 135, 3) := by decide +kernel
theorem dX5_meetsLiveShare_32 : decode cX5_meetsLiveShare 32 = .ok (.ifCond .eq 25, 3) := by decide +kernel
theorem dX5_meetsLiveShare_35 : decode cX5_meetsLiveShare 35 = .ok (.lload_n 1, 1) := by decide +kernel
theorem dX5_meetsLiveShare_36 : decode cX5_meetsLiveShare 36 = .ok (.lload_n 3, 1) := by decide +kernel
theorem dX5_meetsLiveShare_37 : decode cX5_meetsLiveShare 37 = .ok (.aload 6, 2) := by decide +kernel
theorem dX5_meetsLiveShare_39 : decode cX5_meetsLiveShare 39 = .ok (.getfield 138, 3) := by decide +kernel
theorem dX5_meetsLiveShare_42 : decode cX5_meetsLiveShare 42 = .ok (.i2l, 1) := by decide +kernel
theorem dX5_meetsLiveShare_43 : decode cX5_meetsLiveShare 43 = .ok (.aload 6, 2) := by decide +kernel
theorem dX5_meetsLiveShare_45 : decode cX5_meetsLiveShare 45 = .ok (.getfield 135, 3) := by decide +kernel
theorem dX5_meetsLiveShare_48 : decode cX5_meetsLiveShare 48 = .ok (.i2l, 1) := by decide +kernel
theorem dX5_meetsLiveShare_49 : decode cX5_meetsLiveShare 49 = .ok (.invokestatic 131, 3) := by decide +kernel
theorem dX5_meetsLiveShare_52 : decode cX5_meetsLiveShare 52 = .ok (.ifCond .eq 5, 3) := by decide +kernel
theorem dX5_meetsLiveShare_55 : decode cX5_meetsLiveShare 55 = .ok (.iconst 1, 1) := by decide +kernel
theorem dX5_meetsLiveShare_56 : decode cX5_meetsLiveShare 56 = .ok (.ireturn, 1) := by decide +kernel
theorem dX5_meetsLiveShare_57 : decode cX5_meetsLiveShare 57 = .ok (.iinc 5 1, 3) := by decide +kernel
theorem dX5_meetsLiveShare_60 : decode cX5_meetsLiveShare 60 = .ok (.goto (-57), 3) := by decide +kernel
theorem dX5_meetsLiveShare_63 : decode cX5_meetsLiveShare 63 = .ok (.iconst 0, 1) := by decide +kernel
theorem dX5_meetsLiveShare_64 : decode cX5_meetsLiveShare 64 = .ok (.ireturn, 1) := by decide +kernel
theorem dX5_isPlace_0 : decode cX5_isPlace 0 = .ok (.lload_n 0, 1) := by decide +kernel
theorem dX5_isPlace_1 : decode cX5_isPlace 1 = .ok (.lconst 0, 1) := by decide +kernel
theorem dX5_isPlace_2 : decode cX5_isPlace 2 = .ok (.lcmp, 1) := by decide +kernel
theorem dX5_isPlace_3 : decode cX5_isPlace 3 = .ok (.ifCond .lt 15, 3) := by decide +kernel
theorem dX5_isPlace_6 : decode cX5_isPlace 6 = .ok (.lload_n 0, 1) := by decide +kernel
theorem dX5_isPlace_7 : decode cX5_isPlace 7 = .ok (.ldc2_w 141, 3) := by decide +kernel
theorem dX5_isPlace_10 : decode cX5_isPlace 10 = .ok (.lcmp, 1) := by decide +kernel
theorem dX5_isPlace_11 : decode cX5_isPlace 11 = .ok (.ifCond .ge 7, 3) := by decide +kernel
theorem dX5_isPlace_14 : decode cX5_isPlace 14 = .ok (.iconst 1, 1) := by decide +kernel
theorem dX5_isPlace_15 : decode cX5_isPlace 15 = .ok (.goto 4, 3) := by decide +kernel
theorem dX5_isPlace_18 : decode cX5_isPlace 18 = .ok (.iconst 0, 1) := by decide +kernel
theorem dX5_isPlace_19 : decode cX5_isPlace 19 = .ok (.ireturn, 1) := by decide +kernel
theorem dX5_freePlace_0 : decode cX5_freePlace 0 = .ok (.iconst 0, 1) := by decide +kernel
theorem dX5_freePlace_1 : decode cX5_freePlace 1 = .ok (.istore_n 1, 1) := by decide +kernel
theorem dX5_freePlace_2 : decode cX5_freePlace 2 = .ok (.iload_n 1, 1) := by decide +kernel
theorem dX5_freePlace_3 : decode cX5_freePlace 3 = .ok (.bipush 6, 2) := by decide +kernel
theorem dX5_freePlace_5 : decode cX5_freePlace 5 = .ok (.if_icmp .ge 23, 3) := by decide +kernel
theorem dX5_freePlace_8 : decode cX5_freePlace 8 = .ok (.aload_n 0, 1) := by decide +kernel
theorem dX5_freePlace_9 : decode cX5_freePlace 9 = .ok (.getfield 20, 3) := by decide +kernel
theorem dX5_freePlace_12 : decode cX5_freePlace 12 = .ok (.iload_n 1, 1) := by decide +kernel
theorem dX5_freePlace_13 : decode cX5_freePlace 13 = .ok (.aaload, 1) := by decide +kernel
theorem dX5_freePlace_14 : decode cX5_freePlace 14 = .ok (.getfield 89, 3) := by decide +kernel
theorem dX5_freePlace_17 : decode cX5_freePlace 17 = .ok (.ifCond .ne 5, 3) := by decide +kernel
theorem dX5_freePlace_20 : decode cX5_freePlace 20 = .ok (.iload_n 1, 1) := by decide +kernel
theorem dX5_freePlace_21 : decode cX5_freePlace 21 = .ok (.ireturn, 1) := by decide +kernel
theorem dX5_freePlace_22 : decode cX5_freePlace 22 = .ok (.iinc 1 1, 3) := by decide +kernel
theorem dX5_freePlace_25 : decode cX5_freePlace 25 = .ok (.goto (-23), 3) := by decide +kernel
theorem dX5_freePlace_28 : decode cX5_freePlace 28 = .ok (.iconst (-1), 1) := by decide +kernel
theorem dX5_freePlace_29 : decode cX5_freePlace 29 = .ok (.ireturn, 1) := by decide +kernel
theorem dX5_create_0 : decode cX5_create 0 = .ok (.aload_n 0, 1) := by decide +kernel
theorem dX5_create_1 : decode cX5_create 1 = .ok (.getfield 12, 3) := by decide +kernel
theorem dX5_create_4 : decode cX5_create 4 = .ok (.aload_n 0, 1) := by decide +kernel
theorem dX5_create_5 : decode cX5_create 5 = .ok (.getfield 40, 3) := by decide +kernel
theorem dX5_create_8 : decode cX5_create 8 = .ok (.invokevirtual 143, 3) := by decide +kernel
theorem dX5_create_11 : decode cX5_create 11 = .ok (.aload_n 0, 1) := by decide +kernel
theorem dX5_create_12 : decode cX5_create 12 = .ok (.getfield 12, 3) := by decide +kernel
theorem dX5_create_15 : decode cX5_create 15 = .ok (.invokevirtual 147, 3) := by decide +kernel
theorem dX5_create_18 : decode cX5_create 18 = .ok (.ifCond .ne 7, 3) := by decide +kernel
theorem dX5_create_21 : decode cX5_create 21 = .ok (.ldc2_w 92, 3) := by decide +kernel
theorem dX5_create_24 : decode cX5_create 24 = .ok (.lreturn, 1) := by decide +kernel
theorem dX5_create_25 : decode cX5_create 25 = .ok (.aload_n 0, 1) := by decide +kernel
theorem dX5_create_26 : decode cX5_create 26 = .ok (.invokevirtual 151, 3) := by decide +kernel
theorem dX5_create_29 : decode cX5_create 29 = .ok (.ifCond .eq 7, 3) := by decide +kernel
theorem dX5_create_32 : decode cX5_create 32 = .ok (.ldc2_w 154, 3) := by decide +kernel
theorem dX5_create_35 : decode cX5_create 35 = .ok (.lreturn, 1) := by decide +kernel
theorem dX5_create_36 : decode cX5_create 36 = .ok (.aload_n 0, 1) := by decide +kernel
theorem dX5_create_37 : decode cX5_create 37 = .ok (.invokevirtual 156, 3) := by decide +kernel
theorem dX5_create_40 : decode cX5_create 40 = .ok (.ifCond .ne 7, 3) := by decide +kernel
theorem dX5_create_43 : decode cX5_create 43 = .ok (.ldc2_w 159, 3) := by decide +kernel
theorem dX5_create_46 : decode cX5_create 46 = .ok (.lreturn, 1) := by decide +kernel
theorem dX5_create_47 : decode cX5_create 47 = .ok (.aload_n 0, 1) := by decide +kernel
theorem dX5_create_48 : decode cX5_create 48 = .ok (.invokevirtual 161, 3) := by decide +kernel
theorem dX5_create_51 : decode cX5_create 51 = .ok (.istore_n 1, 1) := by decide +kernel
theorem dX5_create_52 : decode cX5_create 52 = .ok (.iload_n 1, 1) := by decide +kernel
theorem dX5_create_53 : decode cX5_create 53 = .ok (.iconst (-1), 1) := by decide +kernel
theorem dX5_create_54 : decode cX5_create 54 = .ok (.if_icmp .ne 7, 3) := by decide +kernel
theorem dX5_create_57 : decode cX5_create 57 = .ok (.ldc2_w 165, 3) := by decide +kernel
theorem dX5_create_60 : decode cX5_create 60 = .ok (.lreturn, 1) := by decide +kernel
theorem dX5_create_61 : decode cX5_create 61 = .ok (.aload_n 0, 1) := by decide +kernel
theorem dX5_create_62 : decode cX5_create 62 = .ok (.getfield 20, 3) := by decide +kernel
theorem dX5_create_65 : decode cX5_create 65 = .ok (.iload_n 1, 1) := by decide +kernel
theorem dX5_create_66 : decode cX5_create 66 = .ok (.aaload, 1) := by decide +kernel
theorem dX5_create_67 : decode cX5_create 67 = .ok (.astore_n 2, 1) := by decide +kernel
theorem dX5_create_68 : decode cX5_create 68 = .ok (.aload_n 0, 1) := by decide +kernel
theorem dX5_create_69 : decode cX5_create 69 = .ok (.invokevirtual 167, 3) := by decide +kernel
theorem dX5_create_72 : decode cX5_create 72 = .ok (.lstore_n 3, 1) := by decide +kernel
theorem dX5_create_73 : decode cX5_create 73 = .ok (.aload_n 2, 1) := by decide +kernel
theorem dX5_create_74 : decode cX5_create 74 = .ok (.aload_n 0, 1) := by decide +kernel
theorem dX5_create_75 : decode cX5_create 75 = .ok (.getfield 12, 3) := by decide +kernel
theorem dX5_create_78 : decode cX5_create 78 = .ok (.lload_n 3, 1) := by decide +kernel
theorem dX5_create_79 : decode cX5_create 79 = .ok (.aload_n 0, 1) := by decide +kernel
theorem dX5_create_80 : decode cX5_create 80 = .ok (.lload_n 3, 1) := by decide +kernel
theorem dX5_create_81 : decode cX5_create 81 = .ok (.invokevirtual 170, 3) := by decide +kernel
theorem dX5_create_84 : decode cX5_create 84 = .ok (.invokevirtual 174, 3) := by decide +kernel
theorem dX5_create_87 : decode cX5_create 87 = .ok (.aload_n 0, 1) := by decide +kernel
theorem dX5_create_88 : decode cX5_create 88 = .ok (.getfield 12, 3) := by decide +kernel
theorem dX5_create_91 : decode cX5_create 91 = .ok (.getfield 178, 3) := by decide +kernel
theorem dX5_create_94 : decode cX5_create 94 = .ok (.l2i, 1) := by decide +kernel
theorem dX5_create_95 : decode cX5_create 95 = .ok (.istore 5, 2) := by decide +kernel
theorem dX5_create_97 : decode cX5_create 97 = .ok (.aload_n 0, 1) := by decide +kernel
theorem dX5_create_98 : decode cX5_create 98 = .ok (.getfield 32, 3) := by decide +kernel
theorem dX5_create_101 : decode cX5_create 101 = .ok (.aload_n 0, 1) := by decide +kernel
theorem dX5_create_102 : decode cX5_create 102 = .ok (.getfield 12, 3) := by decide +kernel
theorem dX5_create_105 : decode cX5_create 105 = .ok (.getfield 181, 3) := by decide +kernel
theorem dX5_create_108 : decode cX5_create 108 = .ok (.l2i, 1) := by decide +kernel
theorem dX5_create_109 : decode cX5_create 109 = .ok (.aload_n 2, 1) := by decide +kernel
theorem dX5_create_110 : decode cX5_create 110 = .ok (.getfield 125, 3) := by decide +kernel
theorem dX5_create_113 : decode cX5_create 113 = .ok (.iload 5, 2) := by decide +kernel
theorem dX5_create_115 : decode cX5_create 115 = .ok (.invokevirtual 184, 3) := by decide +kernel
theorem dX5_create_118 : decode cX5_create 118 = .ok (.aload_n 0, 1) := by decide +kernel
theorem dX5_create_119 : decode cX5_create 119 = .ok (.getfield 32, 3) := by decide +kernel
theorem dX5_create_122 : decode cX5_create 122 = .ok (.aload_n 2, 1) := by decide +kernel
theorem dX5_create_123 : decode cX5_create 123 = .ok (.getfield 125, 3) := by decide +kernel
theorem dX5_create_126 : decode cX5_create 126 = .ok (.iload 5, 2) := by decide +kernel
theorem dX5_create_128 : decode cX5_create 128 = .ok (.iadd, 1) := by decide +kernel
theorem dX5_create_129 : decode cX5_create 129 = .ok (.aload_n 2, 1) := by decide +kernel
theorem dX5_create_130 : decode cX5_create 130 = .ok (.getfield 125, 3) := by decide +kernel
theorem dX5_create_133 : decode cX5_create 133 = .ok (.aload_n 2, 1) := by decide +kernel
theorem dX5_create_134 : decode cX5_create 134 = .ok (.getfield 128, 3) := by decide +kernel
theorem dX5_create_137 : decode cX5_create 137 = .ok (.iadd, 1) := by decide +kernel
theorem dX5_create_138 : decode cX5_create 138 = .ok (.invokevirtual 190, 3) := by decide +kernel
theorem dX5_create_141 : decode cX5_create 141 = .ok (.aload_n 0, 1) := by decide +kernel
theorem dX5_create_142 : decode cX5_create 142 = .ok (.dup, 1) := by decide +kernel
theorem dX5_create_143 : decode cX5_create 143 = .ok (.getfield 53, 3) := by decide +kernel
theorem dX5_create_146 : decode cX5_create 146 = .ok (.iconst 1, 1) := by decide +kernel
theorem dX5_create_147 : decode cX5_create 147 = .ok (.iadd, 1) := by decide +kernel
theorem dX5_create_148 : decode cX5_create 148 = .ok (.putfield 53, 3) := by decide +kernel
theorem dX5_create_151 : decode cX5_create 151 = .ok (.aload_n 0, 1) := by decide +kernel
theorem dX5_create_152 : decode cX5_create 152 = .ok (.invokevirtual 102, 3) := by decide +kernel
theorem dX5_create_155 : decode cX5_create 155 = .ok (.iload_n 1, 1) := by decide +kernel
theorem dX5_create_156 : decode cX5_create 156 = .ok (.i2l, 1) := by decide +kernel
theorem dX5_create_157 : decode cX5_create 157 = .ok (.lreturn, 1) := by decide +kernel
theorem dX5_requestMeetsAnother_0 : decode cX5_requestMeetsAnother 0 = .ok (.aload_n 0, 1) := by decide +kernel
theorem dX5_requestMeetsAnother_1 : decode cX5_requestMeetsAnother 1 = .ok (.aload_n 0, 1) := by decide +kernel
theorem dX5_requestMeetsAnother_2 : decode cX5_requestMeetsAnother 2 = .ok (.getfield 12, 3) := by decide +kernel
theorem dX5_requestMeetsAnother_5 : decode cX5_requestMeetsAnother 5 = .ok (.getfield 194, 3) := by decide +kernel
theorem dX5_requestMeetsAnother_8 : decode cX5_requestMeetsAnother 8 = .ok (.aload_n 0, 1) := by decide +kernel
theorem dX5_requestMeetsAnother_9 : decode cX5_requestMeetsAnother 9 = .ok (.getfield 12, 3) := by decide +kernel
theorem dX5_requestMeetsAnother_12 : decode cX5_requestMeetsAnother 12 = .ok (.getfield 196, 3) := by decide +kernel
theorem dX5_requestMeetsAnother_15 : decode cX5_requestMeetsAnother 15 = .ok (.invokevirtual 198, 3) := by decide +kernel
theorem dX5_requestMeetsAnother_18 : decode cX5_requestMeetsAnother 18 = .ok (.ifCond .ne 57, 3) := by decide +kernel
theorem dX5_requestMeetsAnother_21 : decode cX5_requestMeetsAnother 21 = .ok (.aload_n 0, 1) := by decide +kernel
theorem dX5_requestMeetsAnother_22 : decode cX5_requestMeetsAnother 22 = .ok (.aload_n 0, 1) := by decide +kernel
theorem dX5_requestMeetsAnother_23 : decode cX5_requestMeetsAnother 23 = .ok (.getfield 12, 3) := by decide +kernel
theorem dX5_requestMeetsAnother_26 : decode cX5_requestMeetsAnother 26 = .ok (.getfield 194, 3) := by decide +kernel
theorem dX5_requestMeetsAnother_29 : decode cX5_requestMeetsAnother 29 = .ok (.aload_n 0, 1) := by decide +kernel
theorem dX5_requestMeetsAnother_30 : decode cX5_requestMeetsAnother 30 = .ok (.getfield 12, 3) := by decide +kernel
theorem dX5_requestMeetsAnother_33 : decode cX5_requestMeetsAnother 33 = .ok (.getfield 196, 3) := by decide +kernel
theorem dX5_requestMeetsAnother_36 : decode cX5_requestMeetsAnother 36 = .ok (.invokevirtual 202, 3) := by decide +kernel
theorem dX5_requestMeetsAnother_39 : decode cX5_requestMeetsAnother 39 = .ok (.ifCond .ne 36, 3) := by decide +kernel
theorem dX5_requestMeetsAnother_42 : decode cX5_requestMeetsAnother 42 = .ok (.aload_n 0, 1) := by decide +kernel
theorem dX5_requestMeetsAnother_43 : decode cX5_requestMeetsAnother 43 = .ok (.getfield 12, 3) := by decide +kernel
theorem dX5_requestMeetsAnother_46 : decode cX5_requestMeetsAnother 46 = .ok (.getfield 205, 3) := by decide +kernel
theorem dX5_requestMeetsAnother_49 : decode cX5_requestMeetsAnother 49 = .ok (.lconst 0, 1) := by decide +kernel
theorem dX5_requestMeetsAnother_50 : decode cX5_requestMeetsAnother 50 = .ok (.lcmp, 1) := by decide +kernel
theorem dX5_requestMeetsAnother_51 : decode cX5_requestMeetsAnother 51 = .ok (.ifCond .eq 28, 3) := by decide +kernel
theorem dX5_requestMeetsAnother_54 : decode cX5_requestMeetsAnother 54 = .ok (.aload_n 0, 1) := by decide +kernel
theorem dX5_requestMeetsAnother_55 : decode cX5_requestMeetsAnother 55 = .ok (.aload_n 0, 1) := by decide +kernel
theorem dX5_requestMeetsAnother_56 : decode cX5_requestMeetsAnother 56 = .ok (.getfield 12, 3) := by decide +kernel
theorem dX5_requestMeetsAnother_59 : decode cX5_requestMeetsAnother 59 = .ok (.getfield 207, 3) := by decide +kernel
theorem dX5_requestMeetsAnother_62 : decode cX5_requestMeetsAnother 62 = .ok (.aload_n 0, 1) := by decide +kernel
theorem dX5_requestMeetsAnother_63 : decode cX5_requestMeetsAnother 63 = .ok (.getfield 12, 3) := by decide +kernel
theorem dX5_requestMeetsAnother_66 : decode cX5_requestMeetsAnother 66 = .ok (.getfield 205, 3) := by decide +kernel
theorem dX5_requestMeetsAnother_69 : decode cX5_requestMeetsAnother 69 = .ok (.invokevirtual 198, 3) := by decide +kernel
theorem dX5_requestMeetsAnother_72 : decode cX5_requestMeetsAnother 72 = .ok (.ifCond .eq 7, 3) := by decide +kernel
theorem dX5_requestMeetsAnother_75 : decode cX5_requestMeetsAnother 75 = .ok (.iconst 1, 1) := by decide +kernel
theorem dX5_requestMeetsAnother_76 : decode cX5_requestMeetsAnother 76 = .ok (.goto 4, 3) := by decide +kernel
theorem dX5_requestMeetsAnother_79 : decode cX5_requestMeetsAnother 79 = .ok (.iconst 0, 1) := by decide +kernel
theorem dX5_requestMeetsAnother_80 : decode cX5_requestMeetsAnother 80 = .ok (.ireturn, 1) := by decide +kernel
theorem dX5_hostMayGiveWhatIsRequested_0 : decode cX5_hostMayGiveWhatIsRequested 0 = .ok (.iconst 3, 1) := by decide +kernel
theorem dX5_hostMayGiveWhatIsRequested_1 : decode cX5_hostMayGiveWhatIsRequested 1 = .ok (.istore_n 1, 1) := by decide +kernel
theorem dX5_hostMayGiveWhatIsRequested_2 : decode cX5_hostMayGiveWhatIsRequested 2 = .ok (.aload_n 0, 1) := by decide +kernel
theorem dX5_hostMayGiveWhatIsRequested_3 : decode cX5_hostMayGiveWhatIsRequested 3 = .ok (.getfield 36, 3) := by decide +kernel
theorem dX5_hostMayGiveWhatIsRequested_6 : decode cX5_hostMayGiveWhatIsRequested 6 = .ok (.aload_n 0, 1) := by decide +kernel
theorem dX5_hostMayGiveWhatIsRequested_7 : decode cX5_hostMayGiveWhatIsRequested 7 = .ok (.getfield 12, 3) := by decide +kernel
theorem dX5_hostMayGiveWhatIsRequested_10 : decode cX5_hostMayGiveWhatIsRequested 10 = .ok (.getfield 194, 3) := by decide +kernel
theorem dX5_hostMayGiveWhatIsRequested_13 : decode cX5_hostMayGiveWhatIsRequested 13 = .ok (.l2i, 1) := by decide +kernel
theorem dX5_hostMayGiveWhatIsRequested_14 : decode cX5_hostMayGiveWhatIsRequested 14 = .ok (.aload_n 0, 1) := by decide +kernel
theorem dX5_hostMayGiveWhatIsRequested_15 : decode cX5_hostMayGiveWhatIsRequested 15 = .ok (.getfield 12, 3) := by decide +kernel
theorem dX5_hostMayGiveWhatIsRequested_18 : decode cX5_hostMayGiveWhatIsRequested 18 = .ok (.getfield 196, 3) := by decide +kernel
theorem dX5_hostMayGiveWhatIsRequested_21 : decode cX5_hostMayGiveWhatIsRequested 21 = .ok (.l2i, 1) := by decide +kernel
theorem dX5_hostMayGiveWhatIsRequested_22 : decode cX5_hostMayGiveWhatIsRequested 22 = .ok (.iload_n 1, 1) := by decide +kernel
theorem dX5_hostMayGiveWhatIsRequested_23 : decode cX5_hostMayGiveWhatIsRequested 23 = .ok (.invokevirtual 211, 3) := by decide +kernel
theorem dX5_hostMayGiveWhatIsRequested_26 : decode cX5_hostMayGiveWhatIsRequested 26 = .ok (.ifCond .eq 85, 3) := by decide +kernel
theorem dX5_hostMayGiveWhatIsRequested_29 : decode cX5_hostMayGiveWhatIsRequested 29 = .ok (.aload_n 0, 1) := by decide +kernel
theorem dX5_hostMayGiveWhatIsRequested_30 : decode cX5_hostMayGiveWhatIsRequested 30 = .ok (.getfield 12, 3) := by decide +kernel
theorem dX5_hostMayGiveWhatIsRequested_33 : decode cX5_hostMayGiveWhatIsRequested 33 = .ok (.getfield 205, 3) := by decide +kernel
theorem dX5_hostMayGiveWhatIsRequested_36 : decode cX5_hostMayGiveWhatIsRequested 36 = .ok (.lconst 0, 1) := by decide +kernel
theorem dX5_hostMayGiveWhatIsRequested_37 : decode cX5_hostMayGiveWhatIsRequested 37 = .ok (.lcmp, 1) := by decide +kernel
theorem dX5_hostMayGiveWhatIsRequested_38 : decode cX5_hostMayGiveWhatIsRequested 38 = .ok (.ifCond .eq 30, 3) := by decide +kernel
theorem dX5_hostMayGiveWhatIsRequested_41 : decode cX5_hostMayGiveWhatIsRequested 41 = .ok (.aload_n 0, 1) := by decide +kernel
theorem dX5_hostMayGiveWhatIsRequested_42 : decode cX5_hostMayGiveWhatIsRequested 42 = .ok (.getfield 36, 3) := by decide +kernel
theorem dX5_hostMayGiveWhatIsRequested_45 : decode cX5_hostMayGiveWhatIsRequested 45 = .ok (.aload_n 0, 1) := by decide +kernel
theorem dX5_hostMayGiveWhatIsRequested_46 : decode cX5_hostMayGiveWhatIsRequested 46 = .ok (.getfield 12, 3) := by decide +kernel
theorem dX5_hostMayGiveWhatIsRequested_49 : decode cX5_hostMayGiveWhatIsRequested 49 = .ok (.getfield 207, 3) := by decide +kernel
theorem dX5_hostMayGiveWhatIsRequested_52 : decode cX5_hostMayGiveWhatIsRequested 52 = .ok (.l2i, 1) := by decide +kernel
theorem dX5_hostMayGiveWhatIsRequested_53 : decode cX5_hostMayGiveWhatIsRequested 53 = .ok (.aload_n 0, 1) := by decide +kernel
theorem dX5_hostMayGiveWhatIsRequested_54 : decode cX5_hostMayGiveWhatIsRequested 54 = .ok (.getfield 12, 3) := by decide +kernel
theorem dX5_hostMayGiveWhatIsRequested_57 : decode cX5_hostMayGiveWhatIsRequested 57 = .ok (.getfield 205, 3) := by decide +kernel
theorem dX5_hostMayGiveWhatIsRequested_60 : decode cX5_hostMayGiveWhatIsRequested 60 = .ok (.l2i, 1) := by decide +kernel
theorem dX5_hostMayGiveWhatIsRequested_61 : decode cX5_hostMayGiveWhatIsRequested 61 = .ok (.iload_n 1, 1) := by decide +kernel
theorem dX5_hostMayGiveWhatIsRequested_62 : decode cX5_hostMayGiveWhatIsRequested 62 = .ok (.invokevirtual 211, 3) := by decide +kernel
theorem dX5_hostMayGiveWhatIsRequested_65 : decode cX5_hostMayGiveWhatIsRequested 65 = .ok (.ifCond .eq 46, 3) := by decide +kernel
theorem dX5_hostMayGiveWhatIsRequested_68 : decode cX5_hostMayGiveWhatIsRequested 68 = .ok (.aload_n 0, 1) := by decide +kernel
theorem dX5_hostMayGiveWhatIsRequested_69 : decode cX5_hostMayGiveWhatIsRequested 69 = .ok (.getfield 12, 3) := by decide +kernel
theorem dX5_hostMayGiveWhatIsRequested_72 : decode cX5_hostMayGiveWhatIsRequested 72 = .ok (.getfield 178, 3) := by decide +kernel
theorem dX5_hostMayGiveWhatIsRequested_75 : decode cX5_hostMayGiveWhatIsRequested 75 = .ok (.lconst 0, 1) := by decide +kernel
theorem dX5_hostMayGiveWhatIsRequested_76 : decode cX5_hostMayGiveWhatIsRequested 76 = .ok (.lcmp, 1) := by decide +kernel
theorem dX5_hostMayGiveWhatIsRequested_77 : decode cX5_hostMayGiveWhatIsRequested 77 = .ok (.ifCond .eq 30, 3) := by decide +kernel
theorem dX5_hostMayGiveWhatIsRequested_80 : decode cX5_hostMayGiveWhatIsRequested 80 = .ok (.aload_n 0, 1) := by decide +kernel
theorem dX5_hostMayGiveWhatIsRequested_81 : decode cX5_hostMayGiveWhatIsRequested 81 = .ok (.getfield 36, 3) := by decide +kernel
theorem dX5_hostMayGiveWhatIsRequested_84 : decode cX5_hostMayGiveWhatIsRequested 84 = .ok (.aload_n 0, 1) := by decide +kernel
theorem dX5_hostMayGiveWhatIsRequested_85 : decode cX5_hostMayGiveWhatIsRequested 85 = .ok (.getfield 12, 3) := by decide +kernel
theorem dX5_hostMayGiveWhatIsRequested_88 : decode cX5_hostMayGiveWhatIsRequested 88 = .ok (.getfield 181, 3) := by decide +kernel
theorem dX5_hostMayGiveWhatIsRequested_91 : decode cX5_hostMayGiveWhatIsRequested 91 = .ok (.l2i, 1) := by decide +kernel
theorem dX5_hostMayGiveWhatIsRequested_92 : decode cX5_hostMayGiveWhatIsRequested 92 = .ok (.aload_n 0, 1) := by decide +kernel
theorem dX5_hostMayGiveWhatIsRequested_93 : decode cX5_hostMayGiveWhatIsRequested 93 = .ok (.getfield 12, 3) := by decide +kernel
theorem dX5_hostMayGiveWhatIsRequested_96 : decode cX5_hostMayGiveWhatIsRequested 96 = .ok (.getfield 178, 3) := by decide +kernel
theorem dX5_hostMayGiveWhatIsRequested_99 : decode cX5_hostMayGiveWhatIsRequested 99 = .ok (.l2i, 1) := by decide +kernel
theorem dX5_hostMayGiveWhatIsRequested_100 : decode cX5_hostMayGiveWhatIsRequested 100 = .ok (.iconst 1, 1) := by decide +kernel
theorem dX5_hostMayGiveWhatIsRequested_101 : decode cX5_hostMayGiveWhatIsRequested 101 = .ok (.invokevirtual 211, 3) := by decide +kernel
theorem dX5_hostMayGiveWhatIsRequested_104 : decode cX5_hostMayGiveWhatIsRequested 104 = .ok (.ifCond .eq 7, 3) := by decide +kernel
theorem dX5_hostMayGiveWhatIsRequested_107 : decode cX5_hostMayGiveWhatIsRequested 107 = .ok (.iconst 1, 1) := by decide +kernel
theorem dX5_hostMayGiveWhatIsRequested_108 : decode cX5_hostMayGiveWhatIsRequested 108 = .ok (.goto 4, 3) := by decide +kernel
theorem dX5_hostMayGiveWhatIsRequested_111 : decode cX5_hostMayGiveWhatIsRequested 111 = .ok (.iconst 0, 1) := by decide +kernel
theorem dX5_hostMayGiveWhatIsRequested_112 : decode cX5_hostMayGiveWhatIsRequested 112 = .ok (.ireturn, 1) := by decide +kernel
theorem dX5_measureOfRequest_0 : decode cX5_measureOfRequest 0 = .ok (.ldc2_w 215, 3) := by decide +kernel
theorem dX5_measureOfRequest_3 : decode cX5_measureOfRequest 3 = .ok (.lstore_n 1, 1) := by decide +kernel
theorem dX5_measureOfRequest_4 : decode cX5_measureOfRequest 4 = .ok (.aload_n 0, 1) := by decide +kernel
theorem dX5_measureOfRequest_5 : decode cX5_measureOfRequest 5 = .ok (.getfield 12, 3) := by decide +kernel
theorem dX5_measureOfRequest_8 : decode cX5_measureOfRequest 8 = .ok (.getfield 181, 3) := by decide +kernel
theorem dX5_measureOfRequest_11 : decode cX5_measureOfRequest 11 = .ok (.l2i, 1) := by decide +kernel
theorem dX5_measureOfRequest_12 : decode cX5_measureOfRequest 12 = .ok (.istore_n 3, 1) := by decide +kernel
theorem dX5_measureOfRequest_13 : decode cX5_measureOfRequest 13 = .ok (.aload_n 0, 1) := by decide +kernel
theorem dX5_measureOfRequest_14 : decode cX5_measureOfRequest 14 = .ok (.getfield 12, 3) := by decide +kernel
theorem dX5_measureOfRequest_17 : decode cX5_measureOfRequest 17 = .ok (.getfield 178, 3) := by decide +kernel
theorem dX5_measureOfRequest_20 : decode cX5_measureOfRequest 20 = .ok (.l2i, 1) := by decide +kernel
theorem dX5_measureOfRequest_21 : decode cX5_measureOfRequest 21 = .ok (.istore 4, 2) := by decide +kernel
theorem dX5_measureOfRequest_23 : decode cX5_measureOfRequest 23 = .ok (.iconst 0, 1) := by decide +kernel
theorem dX5_measureOfRequest_24 : decode cX5_measureOfRequest 24 = .ok (.istore 5, 2) := by decide +kernel
theorem dX5_measureOfRequest_26 : decode cX5_measureOfRequest 26 = .ok (.iload 5, 2) := by decide +kernel
theorem dX5_measureOfRequest_28 : decode cX5_measureOfRequest 28 = .ok (.iload 4, 2) := by decide +kernel
theorem dX5_measureOfRequest_30 : decode cX5_measureOfRequest 30 = .ok (.if_icmp .ge 26, 3) := by decide +kernel
theorem dX5_measureOfRequest_33 : decode cX5_measureOfRequest 33 = .ok (.lload_n 1, 1) := by decide +kernel
theorem dX5_measureOfRequest_34 : decode cX5_measureOfRequest 34 = .ok (.aload_n 0, 1) := by decide +kernel
theorem dX5_measureOfRequest_35 : decode cX5_measureOfRequest 35 = .ok (.getfield 32, 3) := by decide +kernel
theorem dX5_measureOfRequest_38 : decode cX5_measureOfRequest 38 = .ok (.iload_n 3, 1) := by decide +kernel
theorem dX5_measureOfRequest_39 : decode cX5_measureOfRequest 39 = .ok (.iload 5, 2) := by decide +kernel
theorem dX5_measureOfRequest_41 : decode cX5_measureOfRequest 41 = .ok (.iadd, 1) := by decide +kernel
theorem dX5_measureOfRequest_42 : decode cX5_measureOfRequest 42 = .ok (.iconst 1, 1) := by decide +kernel
theorem dX5_measureOfRequest_43 : decode cX5_measureOfRequest 43 = .ok (.invokevirtual 217, 3) := by decide +kernel
theorem dX5_measureOfRequest_46 : decode cX5_measureOfRequest 46 = .ok (.invokestatic 221, 3) := by decide +kernel
theorem dX5_measureOfRequest_49 : decode cX5_measureOfRequest 49 = .ok (.lstore_n 1, 1) := by decide +kernel
theorem dX5_measureOfRequest_50 : decode cX5_measureOfRequest 50 = .ok (.iinc 5 1, 3) := by decide +kernel
theorem dX5_measureOfRequest_53 : decode cX5_measureOfRequest 53 = .ok (.goto (-27), 3) := by decide +kernel
theorem dX5_measureOfRequest_56 : decode cX5_measureOfRequest 56 = .ok (.lload_n 1, 1) := by decide +kernel
theorem dX5_measureOfRequest_57 : decode cX5_measureOfRequest 57 = .ok (.aload_n 0, 1) := by decide +kernel
theorem dX5_measureOfRequest_58 : decode cX5_measureOfRequest 58 = .ok (.getfield 12, 3) := by decide +kernel
theorem dX5_measureOfRequest_61 : decode cX5_measureOfRequest 61 = .ok (.getfield 196, 3) := by decide +kernel
theorem dX5_measureOfRequest_64 : decode cX5_measureOfRequest 64 = .ok (.invokestatic 225, 3) := by decide +kernel
theorem dX5_measureOfRequest_67 : decode cX5_measureOfRequest 67 = .ok (.lstore_n 1, 1) := by decide +kernel
theorem dX5_measureOfRequest_68 : decode cX5_measureOfRequest 68 = .ok (.lload_n 1, 1) := by decide +kernel
theorem dX5_measureOfRequest_69 : decode cX5_measureOfRequest 69 = .ok (.aload_n 0, 1) := by decide +kernel
theorem dX5_measureOfRequest_70 : decode cX5_measureOfRequest 70 = .ok (.getfield 12, 3) := by decide +kernel
theorem dX5_measureOfRequest_73 : decode cX5_measureOfRequest 73 = .ok (.getfield 228, 3) := by decide +kernel
theorem dX5_measureOfRequest_76 : decode cX5_measureOfRequest 76 = .ok (.invokestatic 225, 3) := by decide +kernel
theorem dX5_measureOfRequest_79 : decode cX5_measureOfRequest 79 = .ok (.lstore_n 1, 1) := by decide +kernel
theorem dX5_measureOfRequest_80 : decode cX5_measureOfRequest 80 = .ok (.lload_n 1, 1) := by decide +kernel
theorem dX5_measureOfRequest_81 : decode cX5_measureOfRequest 81 = .ok (.aload_n 0, 1) := by decide +kernel
theorem dX5_measureOfRequest_82 : decode cX5_measureOfRequest 82 = .ok (.getfield 12, 3) := by decide +kernel
theorem dX5_measureOfRequest_85 : decode cX5_measureOfRequest 85 = .ok (.getfield 205, 3) := by decide +kernel
theorem dX5_measureOfRequest_88 : decode cX5_measureOfRequest 88 = .ok (.invokestatic 225, 3) := by decide +kernel
theorem dX5_measureOfRequest_91 : decode cX5_measureOfRequest 91 = .ok (.lreturn, 1) := by decide +kernel
theorem dX5_mixedNumber_0 : decode cX5_mixedNumber 0 = .ok (.lload_n 0, 1) := by decide +kernel
theorem dX5_mixedNumber_1 : decode cX5_mixedNumber 1 = .ok (.lstore 4, 2) := by decide +kernel
theorem dX5_mixedNumber_3 : decode cX5_mixedNumber 3 = .ok (.iconst 0, 1) := by decide +kernel
theorem dX5_mixedNumber_4 : decode cX5_mixedNumber 4 = .ok (.istore 6, 2) := by decide +kernel
theorem dX5_mixedNumber_6 : decode cX5_mixedNumber 6 = .ok (.iload 6, 2) := by decide +kernel
theorem dX5_mixedNumber_8 : decode cX5_mixedNumber 8 = .ok (.bipush 8, 2) := by decide +kernel
theorem dX5_mixedNumber_10 : decode cX5_mixedNumber 10 = .ok (.if_icmp .ge 27, 3) := by decide +kernel
theorem dX5_mixedNumber_13 : decode cX5_mixedNumber 13 = .ok (.lload 4, 2) := by decide +kernel
theorem dX5_mixedNumber_15 : decode cX5_mixedNumber 15 = .ok (.lload_n 2, 1) := by decide +kernel
theorem dX5_mixedNumber_16 : decode cX5_mixedNumber 16 = .ok (.bipush 8, 2) := by decide +kernel
theorem dX5_mixedNumber_18 : decode cX5_mixedNumber 18 = .ok (.iload 6, 2) := by decide +kernel
theorem dX5_mixedNumber_20 : decode cX5_mixedNumber 20 = .ok (.imul, 1) := by decide +kernel
theorem dX5_mixedNumber_21 : decode cX5_mixedNumber 21 = .ok (.lushr, 1) := by decide +kernel
theorem dX5_mixedNumber_22 : decode cX5_mixedNumber 22 = .ok (.ldc2_w 231, 3) := by decide +kernel
theorem dX5_mixedNumber_25 : decode cX5_mixedNumber 25 = .ok (.land, 1) := by decide +kernel
theorem dX5_mixedNumber_26 : decode cX5_mixedNumber 26 = .ok (.invokestatic 221, 3) := by decide +kernel
theorem dX5_mixedNumber_29 : decode cX5_mixedNumber 29 = .ok (.lstore 4, 2) := by decide +kernel
theorem dX5_mixedNumber_31 : decode cX5_mixedNumber 31 = .ok (.iinc 6 1, 3) := by decide +kernel
theorem dX5_mixedNumber_34 : decode cX5_mixedNumber 34 = .ok (.goto (-28), 3) := by decide +kernel
theorem dX5_mixedNumber_37 : decode cX5_mixedNumber 37 = .ok (.lload 4, 2) := by decide +kernel
theorem dX5_mixedNumber_39 : decode cX5_mixedNumber 39 = .ok (.lreturn, 1) := by decide +kernel
theorem dX5_mixed_0 : decode cX5_mixed 0 = .ok (.lload_n 0, 1) := by decide +kernel
theorem dX5_mixed_1 : decode cX5_mixed 1 = .ok (.lload_n 2, 1) := by decide +kernel
theorem dX5_mixed_2 : decode cX5_mixed 2 = .ok (.lxor, 1) := by decide +kernel
theorem dX5_mixed_3 : decode cX5_mixed 3 = .ok (.ldc2_w 233, 3) := by decide +kernel
theorem dX5_mixed_6 : decode cX5_mixed 6 = .ok (.lmul, 1) := by decide +kernel
theorem dX5_mixed_7 : decode cX5_mixed 7 = .ok (.lreturn, 1) := by decide +kernel
theorem dX5_keyOf_0 : decode cX5_keyOf 0 = .ok (.aload_n 0, 1) := by decide +kernel
theorem dX5_keyOf_1 : decode cX5_keyOf 1 = .ok (.getfield 28, 3) := by decide +kernel
theorem dX5_keyOf_4 : decode cX5_keyOf 4 = .ok (.lload_n 1, 1) := by decide +kernel
theorem dX5_keyOf_5 : decode cX5_keyOf 5 = .ok (.lxor, 1) := by decide +kernel
theorem dX5_keyOf_6 : decode cX5_keyOf 6 = .ok (.lstore_n 3, 1) := by decide +kernel
theorem dX5_keyOf_7 : decode cX5_keyOf 7 = .ok (.lload_n 3, 1) := by decide +kernel
theorem dX5_keyOf_8 : decode cX5_keyOf 8 = .ok (.lload_n 3, 1) := by decide +kernel
theorem dX5_keyOf_9 : decode cX5_keyOf 9 = .ok (.bipush 33, 2) := by decide +kernel
theorem dX5_keyOf_11 : decode cX5_keyOf 11 = .ok (.lushr, 1) := by decide +kernel
theorem dX5_keyOf_12 : decode cX5_keyOf 12 = .ok (.lxor, 1) := by decide +kernel
theorem dX5_keyOf_13 : decode cX5_keyOf 13 = .ok (.ldc2_w 235, 3) := by decide +kernel
theorem dX5_keyOf_16 : decode cX5_keyOf 16 = .ok (.lmul, 1) := by decide +kernel
theorem dX5_keyOf_17 : decode cX5_keyOf 17 = .ok (.lstore_n 3, 1) := by decide +kernel
theorem dX5_keyOf_18 : decode cX5_keyOf 18 = .ok (.lload_n 3, 1) := by decide +kernel
theorem dX5_keyOf_19 : decode cX5_keyOf 19 = .ok (.lload_n 3, 1) := by decide +kernel
theorem dX5_keyOf_20 : decode cX5_keyOf 20 = .ok (.bipush 33, 2) := by decide +kernel
theorem dX5_keyOf_22 : decode cX5_keyOf 22 = .ok (.lushr, 1) := by decide +kernel
theorem dX5_keyOf_23 : decode cX5_keyOf 23 = .ok (.lxor, 1) := by decide +kernel
theorem dX5_keyOf_24 : decode cX5_keyOf 24 = .ok (.ldc2_w 237, 3) := by decide +kernel
theorem dX5_keyOf_27 : decode cX5_keyOf 27 = .ok (.lmul, 1) := by decide +kernel
theorem dX5_keyOf_28 : decode cX5_keyOf 28 = .ok (.lstore_n 3, 1) := by decide +kernel
theorem dX5_keyOf_29 : decode cX5_keyOf 29 = .ok (.lload_n 3, 1) := by decide +kernel
theorem dX5_keyOf_30 : decode cX5_keyOf 30 = .ok (.lload_n 3, 1) := by decide +kernel
theorem dX5_keyOf_31 : decode cX5_keyOf 31 = .ok (.bipush 33, 2) := by decide +kernel
theorem dX5_keyOf_33 : decode cX5_keyOf 33 = .ok (.lushr, 1) := by decide +kernel
theorem dX5_keyOf_34 : decode cX5_keyOf 34 = .ok (.lxor, 1) := by decide +kernel
theorem dX5_keyOf_35 : decode cX5_keyOf 35 = .ok (.lreturn, 1) := by decide +kernel
theorem dX5_remove_0 : decode cX5_remove 0 = .ok (.aload_n 1, 1) := by decide +kernel
theorem dX5_remove_1 : decode cX5_remove 1 = .ok (.getfield 89, 3) := by decide +kernel
theorem dX5_remove_4 : decode cX5_remove 4 = .ok (.ifCond .eq 28, 3) := by decide +kernel
theorem dX5_remove_7 : decode cX5_remove 7 = .ok (.aload_n 0, 1) := by decide +kernel
theorem dX5_remove_8 : decode cX5_remove 8 = .ok (.getfield 32, 3) := by decide +kernel
theorem dX5_remove_11 : decode cX5_remove 11 = .ok (.aload_n 1, 1) := by decide +kernel
theorem dX5_remove_12 : decode cX5_remove 12 = .ok (.getfield 125, 3) := by decide +kernel
theorem dX5_remove_15 : decode cX5_remove 15 = .ok (.aload_n 1, 1) := by decide +kernel
theorem dX5_remove_16 : decode cX5_remove 16 = .ok (.getfield 125, 3) := by decide +kernel
theorem dX5_remove_19 : decode cX5_remove 19 = .ok (.aload_n 1, 1) := by decide +kernel
theorem dX5_remove_20 : decode cX5_remove 20 = .ok (.getfield 128, 3) := by decide +kernel
theorem dX5_remove_23 : decode cX5_remove 23 = .ok (.iadd, 1) := by decide +kernel
theorem dX5_remove_24 : decode cX5_remove 24 = .ok (.invokevirtual 190, 3) := by decide +kernel
theorem dX5_remove_27 : decode cX5_remove 27 = .ok (.aload_n 1, 1) := by decide +kernel
theorem dX5_remove_28 : decode cX5_remove 28 = .ok (.iconst 0, 1) := by decide +kernel
theorem dX5_remove_29 : decode cX5_remove 29 = .ok (.putfield 89, 3) := by decide +kernel
theorem dX5_remove_32 : decode cX5_remove 32 = .ok (.return_, 1) := by decide +kernel
theorem dX5_enter_0 : decode cX5_enter 0 = .ok (.aload_n 0, 1) := by decide +kernel
theorem dX5_enter_1 : decode cX5_enter 1 = .ok (.getfield 20, 3) := by decide +kernel
theorem dX5_enter_4 : decode cX5_enter 4 = .ok (.iload_n 1, 1) := by decide +kernel
theorem dX5_enter_5 : decode cX5_enter 5 = .ok (.aaload, 1) := by decide +kernel
theorem dX5_enter_6 : decode cX5_enter 6 = .ok (.astore_n 2, 1) := by decide +kernel
theorem dX5_enter_7 : decode cX5_enter 7 = .ok (.aload_n 2, 1) := by decide +kernel
theorem dX5_enter_8 : decode cX5_enter 8 = .ok (.getfield 89, 3) := by decide +kernel
theorem dX5_enter_11 : decode cX5_enter 11 = .ok (.iconst 3, 1) := by decide +kernel
theorem dX5_enter_12 : decode cX5_enter 12 = .ok (.if_icmp .ne 16, 3) := by decide +kernel
theorem dX5_enter_15 : decode cX5_enter 15 = .ok (.aload_n 0, 1) := by decide +kernel
theorem dX5_enter_16 : decode cX5_enter 16 = .ok (.getfield 40, 3) := by decide +kernel
theorem dX5_enter_19 : decode cX5_enter 19 = .ok (.bipush 10, 2) := by decide +kernel
theorem dX5_enter_21 : decode cX5_enter 21 = .ok (.ldc2_w 239, 3) := by decide +kernel
theorem dX5_enter_24 : decode cX5_enter 24 = .ok (.invokevirtual 86, 3) := by decide +kernel
theorem dX5_enter_27 : decode cX5_enter 27 = .ok (.return_, 1) := by decide +kernel
theorem dX5_enter_28 : decode cX5_enter 28 = .ok (.aload_n 2, 1) := by decide +kernel
theorem dX5_enter_29 : decode cX5_enter 29 = .ok (.iconst 4, 1) := by decide +kernel
theorem dX5_enter_30 : decode cX5_enter 30 = .ok (.putfield 89, 3) := by decide +kernel
theorem dX5_enter_33 : decode cX5_enter 33 = .ok (.aload_n 2, 1) := by decide +kernel
theorem dX5_enter_34 : decode cX5_enter 34 = .ok (.dup, 1) := by decide +kernel
theorem dX5_enter_35 : decode cX5_enter 35 = .ok (.getfield 241, 3) := by decide +kernel
theorem dX5_enter_38 : decode cX5_enter 38 = .ok (.iconst 1, 1) := by decide +kernel
theorem dX5_enter_39 : decode cX5_enter 39 = .ok (.iadd, 1) := by decide +kernel
theorem dX5_enter_40 : decode cX5_enter 40 = .ok (.putfield 241, 3) := by decide +kernel
theorem dX5_enter_43 : decode cX5_enter 43 = .ok (.aload_n 0, 1) := by decide +kernel
theorem dX5_enter_44 : decode cX5_enter 44 = .ok (.dup, 1) := by decide +kernel
theorem dX5_enter_45 : decode cX5_enter 45 = .ok (.getfield 56, 3) := by decide +kernel
theorem dX5_enter_48 : decode cX5_enter 48 = .ok (.iconst 1, 1) := by decide +kernel
theorem dX5_enter_49 : decode cX5_enter 49 = .ok (.iadd, 1) := by decide +kernel
theorem dX5_enter_50 : decode cX5_enter 50 = .ok (.putfield 56, 3) := by decide +kernel
theorem dX5_enter_53 : decode cX5_enter 53 = .ok (.aload_n 0, 1) := by decide +kernel
theorem dX5_enter_54 : decode cX5_enter 54 = .ok (.iload_n 1, 1) := by decide +kernel
theorem dX5_enter_55 : decode cX5_enter 55 = .ok (.putfield 24, 3) := by decide +kernel
theorem dX5_enter_58 : decode cX5_enter 58 = .ok (.aload_n 0, 1) := by decide +kernel
theorem dX5_enter_59 : decode cX5_enter 59 = .ok (.aload_n 0, 1) := by decide +kernel
theorem dX5_enter_60 : decode cX5_enter 60 = .ok (.getfield 40, 3) := by decide +kernel
theorem dX5_enter_63 : decode cX5_enter 63 = .ok (.bipush 11, 2) := by decide +kernel
theorem dX5_enter_65 : decode cX5_enter 65 = .ok (.invokevirtual 76, 3) := by decide +kernel
theorem dX5_enter_68 : decode cX5_enter 68 = .ok (.putfield 122, 3) := by decide +kernel
theorem dX5_enter_71 : decode cX5_enter 71 = .ok (.aload_n 0, 1) := by decide +kernel
theorem dX5_enter_72 : decode cX5_enter 72 = .ok (.lconst 0, 1) := by decide +kernel
theorem dX5_enter_73 : decode cX5_enter 73 = .ok (.putfield 113, 3) := by decide +kernel
theorem dX5_enter_76 : decode cX5_enter 76 = .ok (.aload_n 0, 1) := by decide +kernel
theorem dX5_enter_77 : decode cX5_enter 77 = .ok (.invokevirtual 102, 3) := by decide +kernel
theorem dX5_enter_80 : decode cX5_enter 80 = .ok (.return_, 1) := by decide +kernel
theorem dX5_leave_0 : decode cX5_leave 0 = .ok (.aload_n 0, 1) := by decide +kernel
theorem dX5_leave_1 : decode cX5_leave 1 = .ok (.getfield 24, 3) := by decide +kernel
theorem dX5_leave_4 : decode cX5_leave 4 = .ok (.i2l, 1) := by decide +kernel
theorem dX5_leave_5 : decode cX5_leave 5 = .ok (.invokestatic 65, 3) := by decide +kernel
theorem dX5_leave_8 : decode cX5_leave 8 = .ok (.ifCond .ne 4, 3) := by decide +kernel
theorem dX5_leave_11 : decode cX5_leave 11 = .ok (.return_, 1) := by decide +kernel
theorem dX5_leave_12 : decode cX5_leave 12 = .ok (.aload_n 0, 1) := by decide +kernel
theorem dX5_leave_13 : decode cX5_leave 13 = .ok (.getfield 20, 3) := by decide +kernel
theorem dX5_leave_16 : decode cX5_leave 16 = .ok (.aload_n 0, 1) := by decide +kernel
theorem dX5_leave_17 : decode cX5_leave 17 = .ok (.getfield 24, 3) := by decide +kernel
theorem dX5_leave_20 : decode cX5_leave 20 = .ok (.aaload, 1) := by decide +kernel
theorem dX5_leave_21 : decode cX5_leave 21 = .ok (.iload_n 1, 1) := by decide +kernel
theorem dX5_leave_22 : decode cX5_leave 22 = .ok (.iconst 2, 1) := by decide +kernel
theorem dX5_leave_23 : decode cX5_leave 23 = .ok (.if_icmp .ne 7, 3) := by decide +kernel
theorem dX5_leave_26 : decode cX5_leave 26 = .ok (.iconst 3, 1) := by decide +kernel
theorem dX5_leave_27 : decode cX5_leave 27 = .ok (.goto 4, 3) := by decide +kernel
theorem dX5_leave_30 : decode cX5_leave 30 = .ok (.iconst 2, 1) := by decide +kernel
theorem dX5_leave_31 : decode cX5_leave 31 = .ok (.putfield 89, 3) := by decide +kernel
theorem dX5_leave_34 : decode cX5_leave 34 = .ok (.aload_n 0, 1) := by decide +kernel
theorem dX5_leave_35 : decode cX5_leave 35 = .ok (.iconst (-1), 1) := by decide +kernel
theorem dX5_leave_36 : decode cX5_leave 36 = .ok (.putfield 24, 3) := by decide +kernel
theorem dX5_leave_39 : decode cX5_leave 39 = .ok (.iload_n 1, 1) := by decide +kernel
theorem dX5_leave_40 : decode cX5_leave 40 = .ok (.iconst 1, 1) := by decide +kernel
theorem dX5_leave_41 : decode cX5_leave 41 = .ok (.if_icmp .ne 13, 3) := by decide +kernel
theorem dX5_leave_44 : decode cX5_leave 44 = .ok (.aload_n 0, 1) := by decide +kernel
theorem dX5_leave_45 : decode cX5_leave 45 = .ok (.dup, 1) := by decide +kernel
theorem dX5_leave_46 : decode cX5_leave 46 = .ok (.getfield 59, 3) := by decide +kernel
theorem dX5_leave_49 : decode cX5_leave 49 = .ok (.iconst 1, 1) := by decide +kernel
theorem dX5_leave_50 : decode cX5_leave 50 = .ok (.iadd, 1) := by decide +kernel
theorem dX5_leave_51 : decode cX5_leave 51 = .ok (.putfield 59, 3) := by decide +kernel
theorem dX5_leave_54 : decode cX5_leave 54 = .ok (.aload_n 0, 1) := by decide +kernel
theorem dX5_leave_55 : decode cX5_leave 55 = .ok (.getfield 40, 3) := by decide +kernel
theorem dX5_leave_58 : decode cX5_leave 58 = .ok (.bipush 10, 2) := by decide +kernel
theorem dX5_leave_60 : decode cX5_leave 60 = .ok (.iload_n 1, 1) := by decide +kernel
theorem dX5_leave_61 : decode cX5_leave 61 = .ok (.i2l, 1) := by decide +kernel
theorem dX5_leave_62 : decode cX5_leave 62 = .ok (.invokevirtual 86, 3) := by decide +kernel
theorem dX5_leave_65 : decode cX5_leave 65 = .ok (.aload_n 0, 1) := by decide +kernel
theorem dX5_leave_66 : decode cX5_leave 66 = .ok (.getfield 40, 3) := by decide +kernel
theorem dX5_leave_69 : decode cX5_leave 69 = .ok (.bipush 11, 2) := by decide +kernel
theorem dX5_leave_71 : decode cX5_leave 71 = .ok (.lload_n 2, 1) := by decide +kernel
theorem dX5_leave_72 : decode cX5_leave 72 = .ok (.invokevirtual 86, 3) := by decide +kernel
theorem dX5_leave_75 : decode cX5_leave 75 = .ok (.aload_n 0, 1) := by decide +kernel
theorem dX5_leave_76 : decode cX5_leave 76 = .ok (.invokevirtual 102, 3) := by decide +kernel
theorem dX5_leave_79 : decode cX5_leave 79 = .ok (.return_, 1) := by decide +kernel
theorem dX5_answerEnclave_0 : decode cX5_answerEnclave 0 = .ok (.aload_n 0, 1) := by decide +kernel
theorem dX5_answerEnclave_1 : decode cX5_answerEnclave 1 = .ok (.getfield 69, 3) := by decide +kernel
theorem dX5_answerEnclave_4 : decode cX5_answerEnclave 4 = .ok (.astore_n 1, 1) := by decide +kernel
theorem dX5_answerEnclave_5 : decode cX5_answerEnclave 5 = .ok (.aload_n 1, 1) := by decide +kernel
theorem dX5_answerEnclave_6 : decode cX5_answerEnclave 6 = .ok (.bipush 17, 2) := by decide +kernel
theorem dX5_answerEnclave_8 : decode cX5_answerEnclave 8 = .ok (.invokevirtual 76, 3) := by decide +kernel
theorem dX5_answerEnclave_11 : decode cX5_answerEnclave 11 = .ok (.lstore_n 2, 1) := by decide +kernel
theorem dX5_answerEnclave_12 : decode cX5_answerEnclave 12 = .ok (.lload_n 2, 1) := by decide +kernel
theorem dX5_answerEnclave_13 : decode cX5_answerEnclave 13 = .ok (.ldc2_w 94, 3) := by decide +kernel
theorem dX5_answerEnclave_16 : decode cX5_answerEnclave 16 = .ok (.lcmp, 1) := by decide +kernel
theorem dX5_answerEnclave_17 : decode cX5_answerEnclave 17 = .ok (.ifCond .ne 16, 3) := by decide +kernel
theorem dX5_answerEnclave_20 : decode cX5_answerEnclave 20 = .ok (.aload_n 1, 1) := by decide +kernel
theorem dX5_answerEnclave_21 : decode cX5_answerEnclave 21 = .ok (.bipush 10, 2) := by decide +kernel
theorem dX5_answerEnclave_23 : decode cX5_answerEnclave 23 = .ok (.aload_n 0, 1) := by decide +kernel
theorem dX5_answerEnclave_24 : decode cX5_answerEnclave 24 = .ok (.getfield 244, 3) := by decide +kernel
theorem dX5_answerEnclave_27 : decode cX5_answerEnclave 27 = .ok (.invokevirtual 86, 3) := by decide +kernel
theorem dX5_answerEnclave_30 : decode cX5_answerEnclave 30 = .ok (.goto 67, 3) := by decide +kernel
theorem dX5_answerEnclave_33 : decode cX5_answerEnclave 33 = .ok (.lload_n 2, 1) := by decide +kernel
theorem dX5_answerEnclave_34 : decode cX5_answerEnclave 34 = .ok (.ldc2_w 100, 3) := by decide +kernel
theorem dX5_answerEnclave_37 : decode cX5_answerEnclave 37 = .ok (.lcmp, 1) := by decide +kernel
theorem dX5_answerEnclave_38 : decode cX5_answerEnclave 38 = .ok (.ifCond .ne 50, 3) := by decide +kernel
theorem dX5_answerEnclave_41 : decode cX5_answerEnclave 41 = .ok (.aload_n 1, 1) := by decide +kernel
theorem dX5_answerEnclave_42 : decode cX5_answerEnclave 42 = .ok (.bipush 10, 2) := by decide +kernel
theorem dX5_answerEnclave_44 : decode cX5_answerEnclave 44 = .ok (.aload_n 0, 1) := by decide +kernel
theorem dX5_answerEnclave_45 : decode cX5_answerEnclave 45 = .ok (.getfield 125, 3) := by decide +kernel
theorem dX5_answerEnclave_48 : decode cX5_answerEnclave 48 = .ok (.i2l, 1) := by decide +kernel
theorem dX5_answerEnclave_49 : decode cX5_answerEnclave 49 = .ok (.invokevirtual 86, 3) := by decide +kernel
theorem dX5_answerEnclave_52 : decode cX5_answerEnclave 52 = .ok (.aload_n 1, 1) := by decide +kernel
theorem dX5_answerEnclave_53 : decode cX5_answerEnclave 53 = .ok (.bipush 11, 2) := by decide +kernel
theorem dX5_answerEnclave_55 : decode cX5_answerEnclave 55 = .ok (.aload_n 0, 1) := by decide +kernel
theorem dX5_answerEnclave_56 : decode cX5_answerEnclave 56 = .ok (.getfield 128, 3) := by decide +kernel
theorem dX5_answerEnclave_59 : decode cX5_answerEnclave 59 = .ok (.i2l, 1) := by decide +kernel
theorem dX5_answerEnclave_60 : decode cX5_answerEnclave 60 = .ok (.invokevirtual 86, 3) := by decide +kernel
theorem dX5_answerEnclave_63 : decode cX5_answerEnclave 63 = .ok (.aload_n 1, 1) := by decide +kernel
theorem dX5_answerEnclave_64 : decode cX5_answerEnclave 64 = .ok (.bipush 12, 2) := by decide +kernel
theorem dX5_answerEnclave_66 : decode cX5_answerEnclave 66 = .ok (.aload_n 0, 1) := by decide +kernel
theorem dX5_answerEnclave_67 : decode cX5_answerEnclave 67 = .ok (.getfield 138, 3) := by decide +kernel
theorem dX5_answerEnclave_70 : decode cX5_answerEnclave 70 = .ok (.i2l, 1) := by decide +kernel
theorem dX5_answerEnclave_71 : decode cX5_answerEnclave 71 = .ok (.invokevirtual 86, 3) := by decide +kernel
theorem dX5_answerEnclave_74 : decode cX5_answerEnclave 74 = .ok (.aload_n 1, 1) := by decide +kernel
theorem dX5_answerEnclave_75 : decode cX5_answerEnclave 75 = .ok (.bipush 13, 2) := by decide +kernel
theorem dX5_answerEnclave_77 : decode cX5_answerEnclave 77 = .ok (.aload_n 0, 1) := by decide +kernel
theorem dX5_answerEnclave_78 : decode cX5_answerEnclave 78 = .ok (.getfield 135, 3) := by decide +kernel
theorem dX5_answerEnclave_81 : decode cX5_answerEnclave 81 = .ok (.i2l, 1) := by decide +kernel
theorem dX5_answerEnclave_82 : decode cX5_answerEnclave 82 = .ok (.invokevirtual 86, 3) := by decide +kernel
theorem dX5_answerEnclave_85 : decode cX5_answerEnclave 85 = .ok (.goto 12, 3) := by decide +kernel
theorem dX5_answerEnclave_88 : decode cX5_answerEnclave 88 = .ok (.aload_n 1, 1) := by decide +kernel
theorem dX5_answerEnclave_89 : decode cX5_answerEnclave 89 = .ok (.bipush 10, 2) := by decide +kernel
theorem dX5_answerEnclave_91 : decode cX5_answerEnclave 91 = .ok (.ldc2_w 92, 3) := by decide +kernel
theorem dX5_answerEnclave_94 : decode cX5_answerEnclave 94 = .ok (.invokevirtual 86, 3) := by decide +kernel
theorem dX5_answerEnclave_97 : decode cX5_answerEnclave 97 = .ok (.return_, 1) := by decide +kernel
theorem dX5_arrange_0 : decode cX5_arrange 0 = .ok (.iconst 0, 1) := by decide +kernel
theorem dX5_arrange_1 : decode cX5_arrange 1 = .ok (.istore_n 1, 1) := by decide +kernel
theorem dX5_arrange_2 : decode cX5_arrange 2 = .ok (.iload_n 1, 1) := by decide +kernel
theorem dX5_arrange_3 : decode cX5_arrange 3 = .ok (.bipush 6, 2) := by decide +kernel
theorem dX5_arrange_5 : decode cX5_arrange 5 = .ok (.if_icmp .ge 74, 3) := by decide +kernel
theorem dX5_arrange_8 : decode cX5_arrange 8 = .ok (.aload_n 0, 1) := by decide +kernel
theorem dX5_arrange_9 : decode cX5_arrange 9 = .ok (.getfield 20, 3) := by decide +kernel
theorem dX5_arrange_12 : decode cX5_arrange 12 = .ok (.iload_n 1, 1) := by decide +kernel
theorem dX5_arrange_13 : decode cX5_arrange 13 = .ok (.aaload, 1) := by decide +kernel
theorem dX5_arrange_14 : decode cX5_arrange 14 = .ok (.astore_n 2, 1) := by decide +kernel
theorem dX5_arrange_15 : decode cX5_arrange 15 = .ok (.iload_n 1, 1) := by decide +kernel
theorem dX5_arrange_16 : decode cX5_arrange 16 = .ok (.aload_n 0, 1) := by decide +kernel
theorem dX5_arrange_17 : decode cX5_arrange 17 = .ok (.getfield 24, 3) := by decide +kernel
theorem dX5_arrange_20 : decode cX5_arrange 20 = .ok (.if_icmp .ne 8, 3) := by decide +kernel
theorem dX5_arrange_23 : decode cX5_arrange 23 = .ok (.bipush 7, 2) := by decide +kernel
theorem dX5_arrange_25 : decode cX5_arrange 25 = .ok (.goto 4, 3) := by decide +kernel
theorem dX5_arrange_28 : decode cX5_arrange 28 = .ok (.iconst 0, 1) := by decide +kernel
theorem dX5_arrange_29 : decode cX5_arrange 29 = .ok (.istore_n 3, 1) := by decide +kernel
theorem dX5_arrange_30 : decode cX5_arrange 30 = .ok (.aload_n 2, 1) := by decide +kernel
theorem dX5_arrange_31 : decode cX5_arrange 31 = .ok (.getfield 89, 3) := by decide +kernel
theorem dX5_arrange_34 : decode cX5_arrange 34 = .ok (.ifCond .ne 16, 3) := by decide +kernel
theorem dX5_arrange_37 : decode cX5_arrange 37 = .ok (.aload_n 0, 1) := by decide +kernel
theorem dX5_arrange_38 : decode cX5_arrange 38 = .ok (.getfield 36, 3) := by decide +kernel
theorem dX5_arrange_41 : decode cX5_arrange 41 = .ok (.iload_n 1, 1) := by decide +kernel
theorem dX5_arrange_42 : decode cX5_arrange 42 = .ok (.iconst 0, 1) := by decide +kernel
theorem dX5_arrange_43 : decode cX5_arrange 43 = .ok (.lconst 0, 1) := by decide +kernel
theorem dX5_arrange_44 : decode cX5_arrange 44 = .ok (.invokevirtual 247, 3) := by decide +kernel
theorem dX5_arrange_47 : decode cX5_arrange 47 = .ok (.goto 26, 3) := by decide +kernel
theorem dX5_arrange_50 : decode cX5_arrange 50 = .ok (.aload_n 0, 1) := by decide +kernel
theorem dX5_arrange_51 : decode cX5_arrange 51 = .ok (.getfield 36, 3) := by decide +kernel
theorem dX5_arrange_54 : decode cX5_arrange 54 = .ok (.iload_n 1, 1) := by decide +kernel
theorem dX5_arrange_55 : decode cX5_arrange 55 = .ok (.bipush 24, 2) := by decide +kernel
theorem dX5_arrange_57 : decode cX5_arrange 57 = .ok (.iload_n 3, 1) := by decide +kernel
theorem dX5_arrange_58 : decode cX5_arrange 58 = .ok (.ior, 1) := by decide +kernel
theorem dX5_arrange_59 : decode cX5_arrange 59 = .ok (.aload_n 2, 1) := by decide +kernel
theorem dX5_arrange_60 : decode cX5_arrange 60 = .ok (.getfield 125, 3) := by decide +kernel
theorem dX5_arrange_63 : decode cX5_arrange 63 = .ok (.aload_n 2, 1) := by decide +kernel
theorem dX5_arrange_64 : decode cX5_arrange 64 = .ok (.getfield 128, 3) := by decide +kernel
theorem dX5_arrange_67 : decode cX5_arrange 67 = .ok (.invokestatic 251, 3) := by decide +kernel
theorem dX5_arrange_70 : decode cX5_arrange 70 = .ok (.invokevirtual 247, 3) := by decide +kernel
theorem dX5_arrange_73 : decode cX5_arrange 73 = .ok (.iinc 1 1, 3) := by decide +kernel
theorem dX5_arrange_76 : decode cX5_arrange 76 = .ok (.goto (-74), 3) := by decide +kernel
theorem dX5_arrange_79 : decode cX5_arrange 79 = .ok (.aload_n 0, 1) := by decide +kernel
theorem dX5_arrange_80 : decode cX5_arrange 80 = .ok (.getfield 24, 3) := by decide +kernel
theorem dX5_arrange_83 : decode cX5_arrange 83 = .ok (.i2l, 1) := by decide +kernel
theorem dX5_arrange_84 : decode cX5_arrange 84 = .ok (.invokestatic 65, 3) := by decide +kernel
theorem dX5_arrange_87 : decode cX5_arrange 87 = .ok (.ifCond .eq 15, 3) := by decide +kernel
theorem dX5_arrange_90 : decode cX5_arrange 90 = .ok (.aload_n 0, 1) := by decide +kernel
theorem dX5_arrange_91 : decode cX5_arrange 91 = .ok (.getfield 20, 3) := by decide +kernel
theorem dX5_arrange_94 : decode cX5_arrange 94 = .ok (.aload_n 0, 1) := by decide +kernel
theorem dX5_arrange_95 : decode cX5_arrange 95 = .ok (.getfield 24, 3) := by decide +kernel
theorem dX5_arrange_98 : decode cX5_arrange 98 = .ok (.aaload, 1) := by decide +kernel
theorem dX5_arrange_99 : decode cX5_arrange 99 = .ok (.goto 4, 3) := by decide +kernel
theorem dX5_arrange_102 : decode cX5_arrange 102 = .ok (.aconst_null, 1) := by decide +kernel
theorem dX5_arrange_103 : decode cX5_arrange 103 = .ok (.astore_n 1, 1) := by decide +kernel
theorem dX5_arrange_104 : decode cX5_arrange 104 = .ok (.aload_n 1, 1) := by decide +kernel
theorem dX5_arrange_105 : decode cX5_arrange 105 = .ok (.ifnull 10, 3) := by decide +kernel
theorem dX5_arrange_108 : decode cX5_arrange 108 = .ok (.aload_n 1, 1) := by decide +kernel
theorem dX5_arrange_109 : decode cX5_arrange 109 = .ok (.getfield 135, 3) := by decide +kernel
theorem dX5_arrange_112 : decode cX5_arrange 112 = .ok (.ifCond .ne 17, 3) := by decide +kernel
theorem dX5_arrange_115 : decode cX5_arrange 115 = .ok (.aload_n 0, 1) := by decide +kernel
theorem dX5_arrange_116 : decode cX5_arrange 116 = .ok (.getfield 36, 3) := by decide +kernel
theorem dX5_arrange_119 : decode cX5_arrange 119 = .ok (.bipush 6, 2) := by decide +kernel
theorem dX5_arrange_121 : decode cX5_arrange 121 = .ok (.iconst 0, 1) := by decide +kernel
theorem dX5_arrange_122 : decode cX5_arrange 122 = .ok (.lconst 0, 1) := by decide +kernel
theorem dX5_arrange_123 : decode cX5_arrange 123 = .ok (.invokevirtual 247, 3) := by decide +kernel
theorem dX5_arrange_126 : decode cX5_arrange 126 = .ok (.goto 25, 3) := by decide +kernel
theorem dX5_arrange_129 : decode cX5_arrange 129 = .ok (.aload_n 0, 1) := by decide +kernel
theorem dX5_arrange_130 : decode cX5_arrange 130 = .ok (.getfield 36, 3) := by decide +kernel
theorem dX5_arrange_133 : decode cX5_arrange 133 = .ok (.bipush 6, 2) := by decide +kernel
theorem dX5_arrange_135 : decode cX5_arrange 135 = .ok (.bipush 27, 2) := by decide +kernel
theorem dX5_arrange_137 : decode cX5_arrange 137 = .ok (.aload_n 1, 1) := by decide +kernel
theorem dX5_arrange_138 : decode cX5_arrange 138 = .ok (.getfield 138, 3) := by decide +kernel
theorem dX5_arrange_141 : decode cX5_arrange 141 = .ok (.aload_n 1, 1) := by decide +kernel
theorem dX5_arrange_142 : decode cX5_arrange 142 = .ok (.getfield 135, 3) := by decide +kernel
theorem dX5_arrange_145 : decode cX5_arrange 145 = .ok (.invokestatic 251, 3) := by decide +kernel
theorem dX5_arrange_148 : decode cX5_arrange 148 = .ok (.invokevirtual 247, 3) := by decide +kernel
theorem dX5_arrange_151 : decode cX5_arrange 151 = .ok (.aload_n 0, 1) := by decide +kernel
theorem dX5_arrange_152 : decode cX5_arrange 152 = .ok (.getfield 36, 3) := by decide +kernel
theorem dX5_arrange_155 : decode cX5_arrange 155 = .ok (.bipush 7, 2) := by decide +kernel
theorem dX5_arrange_157 : decode cX5_arrange 157 = .ok (.aload_n 1, 1) := by decide +kernel
theorem dX5_arrange_158 : decode cX5_arrange 158 = .ok (.ifnonnull 7, 3) := by decide +kernel
theorem dX5_arrange_161 : decode cX5_arrange 161 = .ok (.iconst 0, 1) := by decide +kernel
theorem dX5_arrange_162 : decode cX5_arrange 162 = .ok (.goto 5, 3) := by decide +kernel
theorem dX5_arrange_165 : decode cX5_arrange 165 = .ok (.bipush 24, 2) := by decide +kernel
theorem dX5_arrange_167 : decode cX5_arrange 167 = .ok (.aload_n 1, 1) := by decide +kernel
theorem dX5_arrange_168 : decode cX5_arrange 168 = .ok (.ifnonnull 7, 3) := by decide +kernel
theorem dX5_arrange_171 : decode cX5_arrange 171 = .ok (.lconst 0, 1) := by decide +kernel
theorem dX5_arrange_172 : decode cX5_arrange 172 = .ok (.goto 6, 3) := by decide +kernel
theorem dX5_arrange_175 : decode cX5_arrange 175 = .ok (.ldc2_w 254, 3) := by decide +kernel
theorem dX5_arrange_178 : decode cX5_arrange 178 = .ok (.invokevirtual 247, 3) := by decide +kernel
theorem dX5_arrange_181 : decode cX5_arrange 181 = .ok (.return_, 1) := by decide +kernel
theorem dX6_init_0 : decode cX6_init 0 = .ok (.aload_n 0, 1) := by decide +kernel
theorem dX6_init_1 : decode cX6_init 1 = .ok (.invokespecial 3, 3) := by decide +kernel
theorem dX6_init_4 : decode cX6_init 4 = .ok (.aload_n 0, 1) := by decide +kernel
theorem dX6_init_5 : decode cX6_init 5 = .ok (.bipush 16, 2) := by decide +kernel
theorem dX6_init_7 : decode cX6_init 7 = .ok (.newarray .int, 2) := by decide +kernel
theorem dX6_init_9 : decode cX6_init 9 = .ok (.putfield 11, 3) := by decide +kernel
theorem dX6_init_12 : decode cX6_init 12 = .ok (.aload_n 0, 1) := by decide +kernel
theorem dX6_init_13 : decode cX6_init 13 = .ok (.bipush 16, 2) := by decide +kernel
theorem dX6_init_15 : decode cX6_init 15 = .ok (.newarray .long, 2) := by decide +kernel
theorem dX6_init_17 : decode cX6_init 17 = .ok (.putfield 15, 3) := by decide +kernel
theorem dX6_init_20 : decode cX6_init 20 = .ok (.aload_n 0, 1) := by decide +kernel
theorem dX6_init_21 : decode cX6_init 21 = .ok (.bipush 16, 2) := by decide +kernel
theorem dX6_init_23 : decode cX6_init 23 = .ok (.newarray .int, 2) := by decide +kernel
theorem dX6_init_25 : decode cX6_init 25 = .ok (.putfield 19, 3) := by decide +kernel
theorem dX6_init_28 : decode cX6_init 28 = .ok (.aload_n 0, 1) := by decide +kernel
theorem dX6_init_29 : decode cX6_init 29 = .ok (.bipush 16, 2) := by decide +kernel
theorem dX6_init_31 : decode cX6_init 31 = .ok (.newarray .int, 2) := by decide +kernel
theorem dX6_init_33 : decode cX6_init 33 = .ok (.putfield 22, 3) := by decide +kernel
theorem dX6_init_36 : decode cX6_init 36 = .ok (.return_, 1) := by decide +kernel
theorem dX6_clear_0 : decode cX6_clear 0 = .ok (.aload_n 0, 1) := by decide +kernel
theorem dX6_clear_1 : decode cX6_clear 1 = .ok (.getfield 11, 3) := by decide +kernel
theorem dX6_clear_4 : decode cX6_clear 4 = .ok (.iconst 0, 1) := by decide +kernel
theorem dX6_clear_5 : decode cX6_clear 5 = .ok (.invokestatic 25, 3) := by decide +kernel
theorem dX6_clear_8 : decode cX6_clear 8 = .ok (.aload_n 0, 1) := by decide +kernel
theorem dX6_clear_9 : decode cX6_clear 9 = .ok (.getfield 15, 3) := by decide +kernel
theorem dX6_clear_12 : decode cX6_clear 12 = .ok (.lconst 0, 1) := by decide +kernel
theorem dX6_clear_13 : decode cX6_clear 13 = .ok (.invokestatic 31, 3) := by decide +kernel
theorem dX6_clear_16 : decode cX6_clear 16 = .ok (.aload_n 0, 1) := by decide +kernel
theorem dX6_clear_17 : decode cX6_clear 17 = .ok (.getfield 19, 3) := by decide +kernel
theorem dX6_clear_20 : decode cX6_clear 20 = .ok (.iconst 0, 1) := by decide +kernel
theorem dX6_clear_21 : decode cX6_clear 21 = .ok (.invokestatic 25, 3) := by decide +kernel
theorem dX6_clear_24 : decode cX6_clear 24 = .ok (.aload_n 0, 1) := by decide +kernel
theorem dX6_clear_25 : decode cX6_clear 25 = .ok (.getfield 22, 3) := by decide +kernel
theorem dX6_clear_28 : decode cX6_clear 28 = .ok (.iconst 0, 1) := by decide +kernel
theorem dX6_clear_29 : decode cX6_clear 29 = .ok (.invokestatic 25, 3) := by decide +kernel
theorem dX6_clear_32 : decode cX6_clear 32 = .ok (.return_, 1) := by decide +kernel
theorem dX6_napot_0 : decode cX6_napot 0 = .ok (.iload_n 0, 1) := by decide +kernel
theorem dX6_napot_1 : decode cX6_napot 1 = .ok (.iconst 4, 1) := by decide +kernel
theorem dX6_napot_2 : decode cX6_napot 2 = .ok (.idiv, 1) := by decide +kernel
theorem dX6_napot_3 : decode cX6_napot 3 = .ok (.iload_n 1, 1) := by decide +kernel
theorem dX6_napot_4 : decode cX6_napot 4 = .ok (.bipush 8, 2) := by decide +kernel
theorem dX6_napot_6 : decode cX6_napot 6 = .ok (.idiv, 1) := by decide +kernel
theorem dX6_napot_7 : decode cX6_napot 7 = .ok (.iconst 1, 1) := by decide +kernel
theorem dX6_napot_8 : decode cX6_napot 8 = .ok (.isub, 1) := by decide +kernel
theorem dX6_napot_9 : decode cX6_napot 9 = .ok (.ior, 1) := by decide +kernel
theorem dX6_napot_10 : decode cX6_napot 10 = .ok (.i2l, 1) := by decide +kernel
theorem dX6_napot_11 : decode cX6_napot 11 = .ok (.lreturn, 1) := by decide +kernel
theorem dX6_put_0 : decode cX6_put 0 = .ok (.iload_n 1, 1) := by decide +kernel
theorem dX6_put_1 : decode cX6_put 1 = .ok (.ifCond .lt 35, 3) := by decide +kernel
theorem dX6_put_4 : decode cX6_put 4 = .ok (.iload_n 1, 1) := by decide +kernel
theorem dX6_put_5 : decode cX6_put 5 = .ok (.bipush 16, 2) := by decide +kernel
theorem dX6_put_7 : decode cX6_put 7 = .ok (.if_icmp .ge 29, 3) := by decide +kernel
theorem dX6_put_10 : decode cX6_put 10 = .ok (.aload_n 0, 1) := by decide +kernel
theorem dX6_put_11 : decode cX6_put 11 = .ok (.getfield 11, 3) := by decide +kernel
theorem dX6_put_14 : decode cX6_put 14 = .ok (.iload_n 1, 1) := by decide +kernel
theorem dX6_put_15 : decode cX6_put 15 = .ok (.iload_n 2, 1) := by decide +kernel
theorem dX6_put_16 : decode cX6_put 16 = .ok (.iastore, 1) := by decide +kernel
theorem dX6_put_17 : decode cX6_put 17 = .ok (.aload_n 0, 1) := by decide +kernel
theorem dX6_put_18 : decode cX6_put 18 = .ok (.getfield 15, 3) := by decide +kernel
theorem dX6_put_21 : decode cX6_put 21 = .ok (.iload_n 1, 1) := by decide +kernel
theorem dX6_put_22 : decode cX6_put 22 = .ok (.lload_n 3, 1) := by decide +kernel
theorem dX6_put_23 : decode cX6_put 23 = .ok (.lastore, 1) := by decide +kernel
theorem dX6_put_24 : decode cX6_put 24 = .ok (.aload_n 0, 1) := by decide +kernel
theorem dX6_put_25 : decode cX6_put 25 = .ok (.iload_n 1, 1) := by decide +kernel
theorem dX6_put_26 : decode cX6_put 26 = .ok (.invokevirtual 34, 3) := by decide +kernel
theorem dX6_put_29 : decode cX6_put 29 = .ok (.aload_n 0, 1) := by decide +kernel
theorem dX6_put_30 : decode cX6_put 30 = .ok (.iload_n 1, 1) := by decide +kernel
theorem dX6_put_31 : decode cX6_put 31 = .ok (.iconst 1, 1) := by decide +kernel
theorem dX6_put_32 : decode cX6_put 32 = .ok (.iadd, 1) := by decide +kernel
theorem dX6_put_33 : decode cX6_put 33 = .ok (.invokevirtual 34, 3) := by decide +kernel
theorem dX6_put_36 : decode cX6_put 36 = .ok (.return_, 1) := by decide +kernel
theorem dX6_readConfigs_0 : decode cX6_readConfigs 0 = .ok (.lconst 0, 1) := by decide +kernel
theorem dX6_readConfigs_1 : decode cX6_readConfigs 1 = .ok (.lstore_n 2, 1) := by decide +kernel
theorem dX6_readConfigs_2 : decode cX6_readConfigs 2 = .ok (.iload_n 1, 1) := by decide +kernel
theorem dX6_readConfigs_3 : decode cX6_readConfigs 3 = .ok (.bipush 7, 2) := by decide +kernel
theorem dX6_readConfigs_5 : decode cX6_readConfigs 5 = .ok (.iadd, 1) := by decide +kernel
theorem dX6_readConfigs_6 : decode cX6_readConfigs 6 = .ok (.bipush 15, 2) := by decide +kernel
theorem dX6_readConfigs_8 : decode cX6_readConfigs 8 = .ok (.invokestatic 38, 3) := by decide +kernel
theorem dX6_readConfigs_11 : decode cX6_readConfigs 11 = .ok (.istore 4, 2) := by decide +kernel
theorem dX6_readConfigs_13 : decode cX6_readConfigs 13 = .ok (.iload 4, 2) := by decide +kernel
theorem dX6_readConfigs_15 : decode cX6_readConfigs 15 = .ok (.iload_n 1, 1) := by decide +kernel
theorem dX6_readConfigs_16 : decode cX6_readConfigs 16 = .ok (.if_icmp .lt 28, 3) := by decide +kernel
theorem dX6_readConfigs_19 : decode cX6_readConfigs 19 = .ok (.iload 4, 2) := by decide +kernel
theorem dX6_readConfigs_21 : decode cX6_readConfigs 21 = .ok (.ifCond .lt 23, 3) := by decide +kernel
theorem dX6_readConfigs_24 : decode cX6_readConfigs 24 = .ok (.lload_n 2, 1) := by decide +kernel
theorem dX6_readConfigs_25 : decode cX6_readConfigs 25 = .ok (.bipush 8, 2) := by decide +kernel
theorem dX6_readConfigs_27 : decode cX6_readConfigs 27 = .ok (.lshl, 1) := by decide +kernel
theorem dX6_readConfigs_28 : decode cX6_readConfigs 28 = .ok (.aload_n 0, 1) := by decide +kernel
theorem dX6_readConfigs_29 : decode cX6_readConfigs 29 = .ok (.getfield 11, 3) := by decide +kernel
theorem dX6_readConfigs_32 : decode cX6_readConfigs 32 = .ok (.iload 4, 2) := by decide +kernel
theorem dX6_readConfigs_34 : decode cX6_readConfigs 34 = .ok (.iaload, 1) := by decide +kernel
theorem dX6_readConfigs_35 : decode cX6_readConfigs 35 = .ok (.i2l, 1) := by decide +kernel
theorem dX6_readConfigs_36 : decode cX6_readConfigs 36 = .ok (.lor, 1) := by decide +kernel
theorem dX6_readConfigs_37 : decode cX6_readConfigs 37 = .ok (.lstore_n 2, 1) := by decide +kernel
theorem dX6_readConfigs_38 : decode cX6_readConfigs 38 = .ok (.iinc 4 (-1), 3) := by decide +kernel
theorem dX6_readConfigs_41 : decode cX6_readConfigs 41 = .ok (.goto (-28), 3) := by decide +kernel
theorem dX6_readConfigs_44 : decode cX6_readConfigs 44 = .ok (.lload_n 2, 1) := by decide +kernel
theorem dX6_readConfigs_45 : decode cX6_readConfigs 45 = .ok (.lreturn, 1) := by decide +kernel
theorem dX6_writeConfigs_0 : decode cX6_writeConfigs 0 = .ok (.bipush 8, 2) := by decide +kernel
theorem dX6_writeConfigs_2 : decode cX6_writeConfigs 2 = .ok (.istore_n 3, 1) := by decide +kernel
theorem dX6_writeConfigs_3 : decode cX6_writeConfigs 3 = .ok (.iload_n 3, 1) := by decide +kernel
theorem dX6_writeConfigs_4 : decode cX6_writeConfigs 4 = .ok (.bipush 16, 2) := by decide +kernel
theorem dX6_writeConfigs_6 : decode cX6_writeConfigs 6 = .ok (.if_icmp .ge 46, 3) := by decide +kernel
theorem dX6_writeConfigs_9 : decode cX6_writeConfigs 9 = .ok (.aload_n 0, 1) := by decide +kernel
theorem dX6_writeConfigs_10 : decode cX6_writeConfigs 10 = .ok (.getfield 11, 3) := by decide +kernel
theorem dX6_writeConfigs_13 : decode cX6_writeConfigs 13 = .ok (.iload_n 3, 1) := by decide +kernel
theorem dX6_writeConfigs_14 : decode cX6_writeConfigs 14 = .ok (.iaload, 1) := by decide +kernel
theorem dX6_writeConfigs_15 : decode cX6_writeConfigs 15 = .ok (.sipush 128, 3) := by decide +kernel
theorem dX6_writeConfigs_18 : decode cX6_writeConfigs 18 = .ok (.iand, 1) := by decide +kernel
theorem dX6_writeConfigs_19 : decode cX6_writeConfigs 19 = .ok (.ifCond .ne 27, 3) := by decide +kernel
theorem dX6_writeConfigs_22 : decode cX6_writeConfigs 22 = .ok (.aload_n 0, 1) := by decide +kernel
theorem dX6_writeConfigs_23 : decode cX6_writeConfigs 23 = .ok (.getfield 11, 3) := by decide +kernel
theorem dX6_writeConfigs_26 : decode cX6_writeConfigs 26 = .ok (.iload_n 3, 1) := by decide +kernel
theorem dX6_writeConfigs_27 : decode cX6_writeConfigs 27 = .ok (.lload_n 1, 1) := by decide +kernel
theorem dX6_writeConfigs_28 : decode cX6_writeConfigs 28 = .ok (.iload_n 3, 1) := by decide +kernel
theorem dX6_writeConfigs_29 : decode cX6_writeConfigs 29 = .ok (.bipush 8, 2) := by decide +kernel
theorem dX6_writeConfigs_31 : decode cX6_writeConfigs 31 = .ok (.isub, 1) := by decide +kernel
theorem dX6_writeConfigs_32 : decode cX6_writeConfigs 32 = .ok (.bipush 8, 2) := by decide +kernel
theorem dX6_writeConfigs_34 : decode cX6_writeConfigs 34 = .ok (.imul, 1) := by decide +kernel
theorem dX6_writeConfigs_35 : decode cX6_writeConfigs 35 = .ok (.lushr, 1) := by decide +kernel
theorem dX6_writeConfigs_36 : decode cX6_writeConfigs 36 = .ok (.l2i, 1) := by decide +kernel
theorem dX6_writeConfigs_37 : decode cX6_writeConfigs 37 = .ok (.invokestatic 44, 3) := by decide +kernel
theorem dX6_writeConfigs_40 : decode cX6_writeConfigs 40 = .ok (.iastore, 1) := by decide +kernel
theorem dX6_writeConfigs_41 : decode cX6_writeConfigs 41 = .ok (.aload_n 0, 1) := by decide +kernel
theorem dX6_writeConfigs_42 : decode cX6_writeConfigs 42 = .ok (.iload_n 3, 1) := by decide +kernel
theorem dX6_writeConfigs_43 : decode cX6_writeConfigs 43 = .ok (.invokevirtual 34, 3) := by decide +kernel
theorem dX6_writeConfigs_46 : decode cX6_writeConfigs 46 = .ok (.iinc 3 1, 3) := by decide +kernel
theorem dX6_writeConfigs_49 : decode cX6_writeConfigs 49 = .ok (.goto (-46), 3) := by decide +kernel
theorem dX6_writeConfigs_52 : decode cX6_writeConfigs 52 = .ok (.return_, 1) := by decide +kernel
theorem dX6_writeAddress_0 : decode cX6_writeAddress 0 = .ok (.iload_n 1, 1) := by decide +kernel
theorem dX6_writeAddress_1 : decode cX6_writeAddress 1 = .ok (.bipush 8, 2) := by decide +kernel
theorem dX6_writeAddress_3 : decode cX6_writeAddress 3 = .ok (.if_icmp .lt 40, 3) := by decide +kernel
theorem dX6_writeAddress_6 : decode cX6_writeAddress 6 = .ok (.iload_n 1, 1) := by decide +kernel
theorem dX6_writeAddress_7 : decode cX6_writeAddress 7 = .ok (.bipush 16, 2) := by decide +kernel
theorem dX6_writeAddress_9 : decode cX6_writeAddress 9 = .ok (.if_icmp .ge 34, 3) := by decide +kernel
theorem dX6_writeAddress_12 : decode cX6_writeAddress 12 = .ok (.aload_n 0, 1) := by decide +kernel
theorem dX6_writeAddress_13 : decode cX6_writeAddress 13 = .ok (.iload_n 1, 1) := by decide +kernel
theorem dX6_writeAddress_14 : decode cX6_writeAddress 14 = .ok (.invokevirtual 48, 3) := by decide +kernel
theorem dX6_writeAddress_17 : decode cX6_writeAddress 17 = .ok (.ifCond .ne 26, 3) := by decide +kernel
theorem dX6_writeAddress_20 : decode cX6_writeAddress 20 = .ok (.aload_n 0, 1) := by decide +kernel
theorem dX6_writeAddress_21 : decode cX6_writeAddress 21 = .ok (.getfield 15, 3) := by decide +kernel
theorem dX6_writeAddress_24 : decode cX6_writeAddress 24 = .ok (.iload_n 1, 1) := by decide +kernel
theorem dX6_writeAddress_25 : decode cX6_writeAddress 25 = .ok (.lload_n 2, 1) := by decide +kernel
theorem dX6_writeAddress_26 : decode cX6_writeAddress 26 = .ok (.ldc2_w 52, 3) := by decide +kernel
theorem dX6_writeAddress_29 : decode cX6_writeAddress 29 = .ok (.land, 1) := by decide +kernel
theorem dX6_writeAddress_30 : decode cX6_writeAddress 30 = .ok (.lastore, 1) := by decide +kernel
theorem dX6_writeAddress_31 : decode cX6_writeAddress 31 = .ok (.aload_n 0, 1) := by decide +kernel
theorem dX6_writeAddress_32 : decode cX6_writeAddress 32 = .ok (.iload_n 1, 1) := by decide +kernel
theorem dX6_writeAddress_33 : decode cX6_writeAddress 33 = .ok (.invokevirtual 34, 3) := by decide +kernel
theorem dX6_writeAddress_36 : decode cX6_writeAddress 36 = .ok (.aload_n 0, 1) := by decide +kernel
theorem dX6_writeAddress_37 : decode cX6_writeAddress 37 = .ok (.iload_n 1, 1) := by decide +kernel
theorem dX6_writeAddress_38 : decode cX6_writeAddress 38 = .ok (.iconst 1, 1) := by decide +kernel
theorem dX6_writeAddress_39 : decode cX6_writeAddress 39 = .ok (.iadd, 1) := by decide +kernel
theorem dX6_writeAddress_40 : decode cX6_writeAddress 40 = .ok (.invokevirtual 34, 3) := by decide +kernel
theorem dX6_writeAddress_43 : decode cX6_writeAddress 43 = .ok (.return_, 1) := by decide +kernel
theorem dX6_lets_0 : decode cX6_lets 0 = .ok (.lload_n 2, 1) := by decide +kernel
theorem dX6_lets_1 : decode cX6_lets 1 = .ok (.lconst 0, 1) := by decide +kernel
theorem dX6_lets_2 : decode cX6_lets 2 = .ok (.lcmp, 1) := by decide +kernel
theorem dX6_lets_3 : decode cX6_lets 3 = .ok (.ifCond .lt 14, 3) := by decide +kernel
theorem dX6_lets_6 : decode cX6_lets 6 = .ok (.lload_n 2, 1) := by decide +kernel
theorem dX6_lets_7 : decode cX6_lets 7 = .ok (.ldc 54, 2) := by decide +kernel
theorem dX6_lets_9 : decode cX6_lets 9 = .ok (.iload 4, 2) := by decide +kernel
theorem dX6_lets_11 : decode cX6_lets 11 = .ok (.isub, 1) := by decide +kernel
theorem dX6_lets_12 : decode cX6_lets 12 = .ok (.i2l, 1) := by decide +kernel
theorem dX6_lets_13 : decode cX6_lets 13 = .ok (.lcmp, 1) := by decide +kernel
theorem dX6_lets_14 : decode cX6_lets 14 = .ok (.ifCond .le 5, 3) := by decide +kernel
theorem dX6_lets_17 : decode cX6_lets 17 = .ok (.iconst 0, 1) := by decide +kernel
theorem dX6_lets_18 : decode cX6_lets 18 = .ok (.ireturn, 1) := by decide +kernel
theorem dX6_lets_19 : decode cX6_lets 19 = .ok (.lload_n 2, 1) := by decide +kernel
theorem dX6_lets_20 : decode cX6_lets 20 = .ok (.l2i, 1) := by decide +kernel
theorem dX6_lets_21 : decode cX6_lets 21 = .ok (.istore 6, 2) := by decide +kernel
theorem dX6_lets_23 : decode cX6_lets 23 = .ok (.aload_n 0, 1) := by decide +kernel
theorem dX6_lets_24 : decode cX6_lets 24 = .ok (.iload 6, 2) := by decide +kernel
theorem dX6_lets_26 : decode cX6_lets 26 = .ok (.iload 6, 2) := by decide +kernel
theorem dX6_lets_28 : decode cX6_lets 28 = .ok (.iload 4, 2) := by decide +kernel
theorem dX6_lets_30 : decode cX6_lets 30 = .ok (.iadd, 1) := by decide +kernel
theorem dX6_lets_31 : decode cX6_lets 31 = .ok (.invokevirtual 55, 3) := by decide +kernel
theorem dX6_lets_34 : decode cX6_lets 34 = .ok (.istore 7, 2) := by decide +kernel
theorem dX6_lets_36 : decode cX6_lets 36 = .ok (.iload 7, 2) := by decide +kernel
theorem dX6_lets_38 : decode cX6_lets 38 = .ok (.iconst (-1), 1) := by decide +kernel
theorem dX6_lets_39 : decode cX6_lets 39 = .ok (.if_icmp .ne 14, 3) := by decide +kernel
theorem dX6_lets_42 : decode cX6_lets 42 = .ok (.iload_n 1, 1) := by decide +kernel
theorem dX6_lets_43 : decode cX6_lets 43 = .ok (.iconst 3, 1) := by decide +kernel
theorem dX6_lets_44 : decode cX6_lets 44 = .ok (.if_icmp .ne 7, 3) := by decide +kernel
theorem dX6_lets_47 : decode cX6_lets 47 = .ok (.iconst 1, 1) := by decide +kernel
theorem dX6_lets_48 : decode cX6_lets 48 = .ok (.goto 4, 3) := by decide +kernel
theorem dX6_lets_51 : decode cX6_lets 51 = .ok (.iconst 0, 1) := by decide +kernel
theorem dX6_lets_52 : decode cX6_lets 52 = .ok (.ireturn, 1) := by decide +kernel
theorem dX6_lets_53 : decode cX6_lets 53 = .ok (.iload 6, 2) := by decide +kernel
theorem dX6_lets_55 : decode cX6_lets 55 = .ok (.aload_n 0, 1) := by decide +kernel
theorem dX6_lets_56 : decode cX6_lets 56 = .ok (.getfield 19, 3) := by decide +kernel
theorem dX6_lets_59 : decode cX6_lets 59 = .ok (.iload 7, 2) := by decide +kernel
theorem dX6_lets_61 : decode cX6_lets 61 = .ok (.iaload, 1) := by decide +kernel
theorem dX6_lets_62 : decode cX6_lets 62 = .ok (.if_icmp .lt 18, 3) := by decide +kernel
theorem dX6_lets_65 : decode cX6_lets 65 = .ok (.iload 6, 2) := by decide +kernel
theorem dX6_lets_67 : decode cX6_lets 67 = .ok (.iload 4, 2) := by decide +kernel
theorem dX6_lets_69 : decode cX6_lets 69 = .ok (.iadd, 1) := by decide +kernel
theorem dX6_lets_70 : decode cX6_lets 70 = .ok (.aload_n 0, 1) := by decide +kernel
theorem dX6_lets_71 : decode cX6_lets 71 = .ok (.getfield 22, 3) := by decide +kernel
theorem dX6_lets_74 : decode cX6_lets 74 = .ok (.iload 7, 2) := by decide +kernel
theorem dX6_lets_76 : decode cX6_lets 76 = .ok (.iaload, 1) := by decide +kernel
theorem dX6_lets_77 : decode cX6_lets 77 = .ok (.if_icmp .le 5, 3) := by decide +kernel
theorem dX6_lets_80 : decode cX6_lets 80 = .ok (.iconst 0, 1) := by decide +kernel
theorem dX6_lets_81 : decode cX6_lets 81 = .ok (.ireturn, 1) := by decide +kernel
theorem dX6_lets_82 : decode cX6_lets 82 = .ok (.iload_n 1, 1) := by decide +kernel
theorem dX6_lets_83 : decode cX6_lets 83 = .ok (.iconst 3, 1) := by decide +kernel
theorem dX6_lets_84 : decode cX6_lets 84 = .ok (.if_icmp .ne 17, 3) := by decide +kernel
theorem dX6_lets_87 : decode cX6_lets 87 = .ok (.aload_n 0, 1) := by decide +kernel
theorem dX6_lets_88 : decode cX6_lets 88 = .ok (.getfield 11, 3) := by decide +kernel
theorem dX6_lets_91 : decode cX6_lets 91 = .ok (.iload 7, 2) := by decide +kernel
theorem dX6_lets_93 : decode cX6_lets 93 = .ok (.iaload, 1) := by decide +kernel
theorem dX6_lets_94 : decode cX6_lets 94 = .ok (.sipush 128, 3) := by decide +kernel
theorem dX6_lets_97 : decode cX6_lets 97 = .ok (.iand, 1) := by decide +kernel
theorem dX6_lets_98 : decode cX6_lets 98 = .ok (.ifCond .eq 16, 3) := by decide +kernel
theorem dX6_lets_101 : decode cX6_lets 101 = .ok (.aload_n 0, 1) := by decide +kernel
theorem dX6_lets_102 : decode cX6_lets 102 = .ok (.getfield 11, 3) := by decide +kernel
theorem dX6_lets_105 : decode cX6_lets 105 = .ok (.iload 7, 2) := by decide +kernel
theorem dX6_lets_107 : decode cX6_lets 107 = .ok (.iaload, 1) := by decide +kernel
theorem dX6_lets_108 : decode cX6_lets 108 = .ok (.iload 5, 2) := by decide +kernel
theorem dX6_lets_110 : decode cX6_lets 110 = .ok (.iand, 1) := by decide +kernel
theorem dX6_lets_111 : decode cX6_lets 111 = .ok (.ifCond .eq 7, 3) := by decide +kernel
theorem dX6_lets_114 : decode cX6_lets 114 = .ok (.iconst 1, 1) := by decide +kernel
theorem dX6_lets_115 : decode cX6_lets 115 = .ok (.goto 4, 3) := by decide +kernel
theorem dX6_lets_118 : decode cX6_lets 118 = .ok (.iconst 0, 1) := by decide +kernel
theorem dX6_lets_119 : decode cX6_lets 119 = .ok (.ireturn, 1) := by decide +kernel
theorem dX6_letsEach_0 : decode cX6_letsEach 0 = .ok (.iload_n 1, 1) := by decide +kernel
theorem dX6_letsEach_1 : decode cX6_letsEach 1 = .ok (.iload_n 2, 1) := by decide +kernel
theorem dX6_letsEach_2 : decode cX6_letsEach 2 = .ok (.iadd, 1) := by decide +kernel
theorem dX6_letsEach_3 : decode cX6_letsEach 3 = .ok (.istore 4, 2) := by decide +kernel
theorem dX6_letsEach_5 : decode cX6_letsEach 5 = .ok (.iload_n 1, 1) := by decide +kernel
theorem dX6_letsEach_6 : decode cX6_letsEach 6 = .ok (.istore 5, 2) := by decide +kernel
theorem dX6_letsEach_8 : decode cX6_letsEach 8 = .ok (.iconst 0, 1) := by decide +kernel
theorem dX6_letsEach_9 : decode cX6_letsEach 9 = .ok (.istore 6, 2) := by decide +kernel
theorem dX6_letsEach_11 : decode cX6_letsEach 11 = .ok (.iload 6, 2) := by decide +kernel
theorem dX6_letsEach_13 : decode cX6_letsEach 13 = .ok (.bipush 32, 2) := by decide +kernel
theorem dX6_letsEach_15 : decode cX6_letsEach 15 = .ok (.if_icmp .gt 59, 3) := by decide +kernel
theorem dX6_letsEach_18 : decode cX6_letsEach 18 = .ok (.iload 5, 2) := by decide +kernel
theorem dX6_letsEach_20 : decode cX6_letsEach 20 = .ok (.iload 4, 2) := by decide +kernel
theorem dX6_letsEach_22 : decode cX6_letsEach 22 = .ok (.if_icmp .ge 52, 3) := by decide +kernel
theorem dX6_letsEach_25 : decode cX6_letsEach 25 = .ok (.aload_n 0, 1) := by decide +kernel
theorem dX6_letsEach_26 : decode cX6_letsEach 26 = .ok (.iload 5, 2) := by decide +kernel
theorem dX6_letsEach_28 : decode cX6_letsEach 28 = .ok (.iload 5, 2) := by decide +kernel
theorem dX6_letsEach_30 : decode cX6_letsEach 30 = .ok (.iconst 1, 1) := by decide +kernel
theorem dX6_letsEach_31 : decode cX6_letsEach 31 = .ok (.iadd, 1) := by decide +kernel
theorem dX6_letsEach_32 : decode cX6_letsEach 32 = .ok (.invokevirtual 55, 3) := by decide +kernel
theorem dX6_letsEach_35 : decode cX6_letsEach 35 = .ok (.istore 7, 2) := by decide +kernel
theorem dX6_letsEach_37 : decode cX6_letsEach 37 = .ok (.iload 7, 2) := by decide +kernel
theorem dX6_letsEach_39 : decode cX6_letsEach 39 = .ok (.iconst (-1), 1) := by decide +kernel
theorem dX6_letsEach_40 : decode cX6_letsEach 40 = .ok (.if_icmp .eq 16, 3) := by decide +kernel
theorem dX6_letsEach_43 : decode cX6_letsEach 43 = .ok (.aload_n 0, 1) := by decide +kernel
theorem dX6_letsEach_44 : decode cX6_letsEach 44 = .ok (.getfield 11, 3) := by decide +kernel
theorem dX6_letsEach_47 : decode cX6_letsEach 47 = .ok (.iload 7, 2) := by decide +kernel
theorem dX6_letsEach_49 : decode cX6_letsEach 49 = .ok (.iaload, 1) := by decide +kernel
theorem dX6_letsEach_50 : decode cX6_letsEach 50 = .ok (.iload_n 3, 1) := by decide +kernel
theorem dX6_letsEach_51 : decode cX6_letsEach 51 = .ok (.iand, 1) := by decide +kernel
theorem dX6_letsEach_52 : decode cX6_letsEach 52 = .ok (.iload_n 3, 1) := by decide +kernel
theorem dX6_letsEach_53 : decode cX6_letsEach 53 = .ok (.if_icmp .eq 5, 3) := by decide +kernel
theorem dX6_letsEach_56 : decode cX6_letsEach 56 = .ok (.iconst 0, 1) := by decide +kernel
theorem dX6_letsEach_57 : decode cX6_letsEach 57 = .ok (.ireturn, 1) := by decide +kernel
theorem dX6_letsEach_58 : decode cX6_letsEach 58 = .ok (.aload_n 0, 1) := by decide +kernel
theorem dX6_letsEach_59 : decode cX6_letsEach 59 = .ok (.iload 5, 2) := by decide +kernel
theorem dX6_letsEach_61 : decode cX6_letsEach 61 = .ok (.iload 4, 2) := by decide +kernel
theorem dX6_letsEach_63 : decode cX6_letsEach 63 = .ok (.invokevirtual 58, 3) := by decide +kernel
theorem dX6_letsEach_66 : decode cX6_letsEach 66 = .ok (.istore 5, 2) := by decide +kernel
theorem dX6_letsEach_68 : decode cX6_letsEach 68 = .ok (.iinc 6 1, 3) := by decide +kernel
theorem dX6_letsEach_71 : decode cX6_letsEach 71 = .ok (.goto (-60), 3) := by decide +kernel
theorem dX6_letsEach_74 : decode cX6_letsEach 74 = .ok (.iload 5, 2) := by decide +kernel
theorem dX6_letsEach_76 : decode cX6_letsEach 76 = .ok (.iload 4, 2) := by decide +kernel
theorem dX6_letsEach_78 : decode cX6_letsEach 78 = .ok (.if_icmp .lt 7, 3) := by decide +kernel
theorem dX6_letsEach_81 : decode cX6_letsEach 81 = .ok (.iconst 1, 1) := by decide +kernel
theorem dX6_letsEach_82 : decode cX6_letsEach 82 = .ok (.goto 4, 3) := by decide +kernel
theorem dX6_letsEach_85 : decode cX6_letsEach 85 = .ok (.iconst 0, 1) := by decide +kernel
theorem dX6_letsEach_86 : decode cX6_letsEach 86 = .ok (.ireturn, 1) := by decide +kernel
theorem dX6_decider_0 : decode cX6_decider 0 = .ok (.iconst 0, 1) := by decide +kernel
theorem dX6_decider_1 : decode cX6_decider 1 = .ok (.istore_n 3, 1) := by decide +kernel
theorem dX6_decider_2 : decode cX6_decider 2 = .ok (.iload_n 3, 1) := by decide +kernel
theorem dX6_decider_3 : decode cX6_decider 3 = .ok (.bipush 16, 2) := by decide +kernel
theorem dX6_decider_5 : decode cX6_decider 5 = .ok (.if_icmp .ge 31, 3) := by decide +kernel
theorem dX6_decider_8 : decode cX6_decider 8 = .ok (.iload_n 1, 1) := by decide +kernel
theorem dX6_decider_9 : decode cX6_decider 9 = .ok (.aload_n 0, 1) := by decide +kernel
theorem dX6_decider_10 : decode cX6_decider 10 = .ok (.getfield 22, 3) := by decide +kernel
theorem dX6_decider_13 : decode cX6_decider 13 = .ok (.iload_n 3, 1) := by decide +kernel
theorem dX6_decider_14 : decode cX6_decider 14 = .ok (.iaload, 1) := by decide +kernel
theorem dX6_decider_15 : decode cX6_decider 15 = .ok (.if_icmp .ge 15, 3) := by decide +kernel
theorem dX6_decider_18 : decode cX6_decider 18 = .ok (.aload_n 0, 1) := by decide +kernel
theorem dX6_decider_19 : decode cX6_decider 19 = .ok (.getfield 19, 3) := by decide +kernel
theorem dX6_decider_22 : decode cX6_decider 22 = .ok (.iload_n 3, 1) := by decide +kernel
theorem dX6_decider_23 : decode cX6_decider 23 = .ok (.iaload, 1) := by decide +kernel
theorem dX6_decider_24 : decode cX6_decider 24 = .ok (.iload_n 2, 1) := by decide +kernel
theorem dX6_decider_25 : decode cX6_decider 25 = .ok (.if_icmp .ge 5, 3) := by decide +kernel
theorem dX6_decider_28 : decode cX6_decider 28 = .ok (.iload_n 3, 1) := by decide +kernel
theorem dX6_decider_29 : decode cX6_decider 29 = .ok (.ireturn, 1) := by decide +kernel
theorem dX6_decider_30 : decode cX6_decider 30 = .ok (.iinc 3 1, 3) := by decide +kernel
theorem dX6_decider_33 : decode cX6_decider 33 = .ok (.goto (-31), 3) := by decide +kernel
theorem dX6_decider_36 : decode cX6_decider 36 = .ok (.iconst (-1), 1) := by decide +kernel
theorem dX6_decider_37 : decode cX6_decider 37 = .ok (.ireturn, 1) := by decide +kernel
theorem dX6_nextBorder_0 : decode cX6_nextBorder 0 = .ok (.iload_n 2, 1) := by decide +kernel
theorem dX6_nextBorder_1 : decode cX6_nextBorder 1 = .ok (.istore_n 3, 1) := by decide +kernel
theorem dX6_nextBorder_2 : decode cX6_nextBorder 2 = .ok (.iconst 0, 1) := by decide +kernel
theorem dX6_nextBorder_3 : decode cX6_nextBorder 3 = .ok (.istore 4, 2) := by decide +kernel
theorem dX6_nextBorder_5 : decode cX6_nextBorder 5 = .ok (.iload 4, 2) := by decide +kernel
theorem dX6_nextBorder_7 : decode cX6_nextBorder 7 = .ok (.bipush 16, 2) := by decide +kernel
theorem dX6_nextBorder_9 : decode cX6_nextBorder 9 = .ok (.if_icmp .ge 69, 3) := by decide +kernel
theorem dX6_nextBorder_12 : decode cX6_nextBorder 12 = .ok (.aload_n 0, 1) := by decide +kernel
theorem dX6_nextBorder_13 : decode cX6_nextBorder 13 = .ok (.getfield 19, 3) := by decide +kernel
theorem dX6_nextBorder_16 : decode cX6_nextBorder 16 = .ok (.iload 4, 2) := by decide +kernel
theorem dX6_nextBorder_18 : decode cX6_nextBorder 18 = .ok (.iaload, 1) := by decide +kernel
theorem dX6_nextBorder_19 : decode cX6_nextBorder 19 = .ok (.iload_n 1, 1) := by decide +kernel
theorem dX6_nextBorder_20 : decode cX6_nextBorder 20 = .ok (.if_icmp .le 22, 3) := by decide +kernel
theorem dX6_nextBorder_23 : decode cX6_nextBorder 23 = .ok (.aload_n 0, 1) := by decide +kernel
theorem dX6_nextBorder_24 : decode cX6_nextBorder 24 = .ok (.getfield 19, 3) := by decide +kernel
theorem dX6_nextBorder_27 : decode cX6_nextBorder 27 = .ok (.iload 4, 2) := by decide +kernel
theorem dX6_nextBorder_29 : decode cX6_nextBorder 29 = .ok (.iaload, 1) := by decide +kernel
theorem dX6_nextBorder_30 : decode cX6_nextBorder 30 = .ok (.iload_n 3, 1) := by decide +kernel
theorem dX6_nextBorder_31 : decode cX6_nextBorder 31 = .ok (.if_icmp .ge 11, 3) := by decide +kernel
theorem dX6_nextBorder_34 : decode cX6_nextBorder 34 = .ok (.aload_n 0, 1) := by decide +kernel
theorem dX6_nextBorder_35 : decode cX6_nextBorder 35 = .ok (.getfield 19, 3) := by decide +kernel
theorem dX6_nextBorder_38 : decode cX6_nextBorder 38 = .ok (.iload 4, 2) := by decide +kernel
theorem dX6_nextBorder_40 : decode cX6_nextBorder 40 = .ok (.iaload, 1) := by decide +kernel
theorem dX6_nextBorder_41 : decode cX6_nextBorder 41 = .ok (.istore_n 3, 1) := by decide +kernel
theorem dX6_nextBorder_42 : decode cX6_nextBorder 42 = .ok (.aload_n 0, 1) := by decide +kernel
theorem dX6_nextBorder_43 : decode cX6_nextBorder 43 = .ok (.getfield 22, 3) := by decide +kernel
theorem dX6_nextBorder_46 : decode cX6_nextBorder 46 = .ok (.iload 4, 2) := by decide +kernel
theorem dX6_nextBorder_48 : decode cX6_nextBorder 48 = .ok (.iaload, 1) := by decide +kernel
theorem dX6_nextBorder_49 : decode cX6_nextBorder 49 = .ok (.iload_n 1, 1) := by decide +kernel
theorem dX6_nextBorder_50 : decode cX6_nextBorder 50 = .ok (.if_icmp .le 22, 3) := by decide +kernel
theorem dX6_nextBorder_53 : decode cX6_nextBorder 53 = .ok (.aload_n 0, 1) := by decide +kernel
theorem dX6_nextBorder_54 : decode cX6_nextBorder 54 = .ok (.getfield 22, 3) := by decide +kernel
theorem dX6_nextBorder_57 : decode cX6_nextBorder 57 = .ok (.iload 4, 2) := by decide +kernel
theorem dX6_nextBorder_59 : decode cX6_nextBorder 59 = .ok (.iaload, 1) := by decide +kernel
theorem dX6_nextBorder_60 : decode cX6_nextBorder 60 = .ok (.iload_n 3, 1) := by decide +kernel
theorem dX6_nextBorder_61 : decode cX6_nextBorder 61 = .ok (.if_icmp .ge 11, 3) := by decide +kernel
theorem dX6_nextBorder_64 : decode cX6_nextBorder 64 = .ok (.aload_n 0, 1) := by decide +kernel
theorem dX6_nextBorder_65 : decode cX6_nextBorder 65 = .ok (.getfield 22, 3) := by decide +kernel
theorem dX6_nextBorder_68 : decode cX6_nextBorder 68 = .ok (.iload 4, 2) := by decide +kernel
theorem dX6_nextBorder_70 : decode cX6_nextBorder 70 = .ok (.iaload, 1) := by decide +kernel
theorem dX6_nextBorder_71 : decode cX6_nextBorder 71 = .ok (.istore_n 3, 1) := by decide +kernel
theorem dX6_nextBorder_72 : decode cX6_nextBorder 72 = .ok (.iinc 4 1, 3) := by decide +kernel
theorem dX6_nextBorder_75 : decode cX6_nextBorder 75 = .ok (.goto (-70), 3) := by decide +kernel
theorem dX6_nextBorder_78 : decode cX6_nextBorder 78 = .ok (.iload_n 3, 1) := by decide +kernel
theorem dX6_nextBorder_79 : decode cX6_nextBorder 79 = .ok (.ireturn, 1) := by decide +kernel
theorem dX6_isAddressLocked_0 : decode cX6_isAddressLocked 0 = .ok (.aload_n 0, 1) := by decide +kernel
theorem dX6_isAddressLocked_1 : decode cX6_isAddressLocked 1 = .ok (.getfield 11, 3) := by decide +kernel
theorem dX6_isAddressLocked_4 : decode cX6_isAddressLocked 4 = .ok (.iload_n 1, 1) := by decide +kernel
theorem dX6_isAddressLocked_5 : decode cX6_isAddressLocked 5 = .ok (.iaload, 1) := by decide +kernel
theorem dX6_isAddressLocked_6 : decode cX6_isAddressLocked 6 = .ok (.sipush 128, 3) := by decide +kernel
theorem dX6_isAddressLocked_9 : decode cX6_isAddressLocked 9 = .ok (.iand, 1) := by decide +kernel
theorem dX6_isAddressLocked_10 : decode cX6_isAddressLocked 10 = .ok (.ifCond .eq 5, 3) := by decide +kernel
theorem dX6_isAddressLocked_13 : decode cX6_isAddressLocked 13 = .ok (.iconst 1, 1) := by decide +kernel
theorem dX6_isAddressLocked_14 : decode cX6_isAddressLocked 14 = .ok (.ireturn, 1) := by decide +kernel
theorem dX6_isAddressLocked_15 : decode cX6_isAddressLocked 15 = .ok (.iload_n 1, 1) := by decide +kernel
theorem dX6_isAddressLocked_16 : decode cX6_isAddressLocked 16 = .ok (.iconst 1, 1) := by decide +kernel
theorem dX6_isAddressLocked_17 : decode cX6_isAddressLocked 17 = .ok (.iadd, 1) := by decide +kernel
theorem dX6_isAddressLocked_18 : decode cX6_isAddressLocked 18 = .ok (.bipush 16, 2) := by decide +kernel
theorem dX6_isAddressLocked_20 : decode cX6_isAddressLocked 20 = .ok (.if_icmp .ge 25, 3) := by decide +kernel
theorem dX6_isAddressLocked_23 : decode cX6_isAddressLocked 23 = .ok (.aload_n 0, 1) := by decide +kernel
theorem dX6_isAddressLocked_24 : decode cX6_isAddressLocked 24 = .ok (.getfield 11, 3) := by decide +kernel
theorem dX6_isAddressLocked_27 : decode cX6_isAddressLocked 27 = .ok (.iload_n 1, 1) := by decide +kernel
theorem dX6_isAddressLocked_28 : decode cX6_isAddressLocked 28 = .ok (.iconst 1, 1) := by decide +kernel
theorem dX6_isAddressLocked_29 : decode cX6_isAddressLocked 29 = .ok (.iadd, 1) := by decide +kernel
theorem dX6_isAddressLocked_30 : decode cX6_isAddressLocked 30 = .ok (.iaload, 1) := by decide +kernel
theorem dX6_isAddressLocked_31 : decode cX6_isAddressLocked 31 = .ok (.sipush 152, 3) := by decide +kernel
theorem dX6_isAddressLocked_34 : decode cX6_isAddressLocked 34 = .ok (.iand, 1) := by decide +kernel
theorem dX6_isAddressLocked_35 : decode cX6_isAddressLocked 35 = .ok (.sipush 136, 3) := by decide +kernel
theorem dX6_isAddressLocked_38 : decode cX6_isAddressLocked 38 = .ok (.if_icmp .ne 7, 3) := by decide +kernel
theorem dX6_isAddressLocked_41 : decode cX6_isAddressLocked 41 = .ok (.iconst 1, 1) := by decide +kernel
theorem dX6_isAddressLocked_42 : decode cX6_isAddressLocked 42 = .ok (.goto 4, 3) := by decide +kernel
theorem dX6_isAddressLocked_45 : decode cX6_isAddressLocked 45 = .ok (.iconst 0, 1) := by decide +kernel
theorem dX6_isAddressLocked_46 : decode cX6_isAddressLocked 46 = .ok (.ireturn, 1) := by decide +kernel
theorem dX6_legal_0 : decode cX6_legal 0 = .ok (.iload_n 0, 1) := by decide +kernel
theorem dX6_legal_1 : decode cX6_legal 1 = .ok (.sipush 159, 3) := by decide +kernel
theorem dX6_legal_4 : decode cX6_legal 4 = .ok (.iand, 1) := by decide +kernel
theorem dX6_legal_5 : decode cX6_legal 5 = .ok (.istore_n 1, 1) := by decide +kernel
theorem dX6_legal_6 : decode cX6_legal 6 = .ok (.iload_n 1, 1) := by decide +kernel
theorem dX6_legal_7 : decode cX6_legal 7 = .ok (.iconst 1, 1) := by decide +kernel
theorem dX6_legal_8 : decode cX6_legal 8 = .ok (.iand, 1) := by decide +kernel
theorem dX6_legal_9 : decode cX6_legal 9 = .ok (.ifCond .ne 10, 3) := by decide +kernel
theorem dX6_legal_12 : decode cX6_legal 12 = .ok (.iload_n 1, 1) := by decide +kernel
theorem dX6_legal_13 : decode cX6_legal 13 = .ok (.bipush (-3), 2) := by decide +kernel
theorem dX6_legal_15 : decode cX6_legal 15 = .ok (.iand, 1) := by decide +kernel
theorem dX6_legal_16 : decode cX6_legal 16 = .ok (.goto 4, 3) := by decide +kernel
theorem dX6_legal_19 : decode cX6_legal 19 = .ok (.iload_n 1, 1) := by decide +kernel
theorem dX6_legal_20 : decode cX6_legal 20 = .ok (.ireturn, 1) := by decide +kernel
theorem dX6_measureOut_0 : decode cX6_measureOut 0 = .ok (.iload_n 1, 1) := by decide +kernel
theorem dX6_measureOut_1 : decode cX6_measureOut 1 = .ok (.ifCond .lt 9, 3) := by decide +kernel
theorem dX6_measureOut_4 : decode cX6_measureOut 4 = .ok (.iload_n 1, 1) := by decide +kernel
theorem dX6_measureOut_5 : decode cX6_measureOut 5 = .ok (.bipush 16, 2) := by decide +kernel
theorem dX6_measureOut_7 : decode cX6_measureOut 7 = .ok (.if_icmp .lt 4, 3) := by decide +kernel
theorem dX6_measureOut_10 : decode cX6_measureOut 10 = .ok (.return_, 1) := by decide +kernel
theorem dX6_measureOut_11 : decode cX6_measureOut 11 = .ok (.aload_n 0, 1) := by decide +kernel
theorem dX6_measureOut_12 : decode cX6_measureOut 12 = .ok (.getfield 15, 3) := by decide +kernel
theorem dX6_measureOut_15 : decode cX6_measureOut 15 = .ok (.iload_n 1, 1) := by decide +kernel
theorem dX6_measureOut_16 : decode cX6_measureOut 16 = .ok (.laload, 1) := by decide +kernel
theorem dX6_measureOut_17 : decode cX6_measureOut 17 = .ok (.lstore_n 2, 1) := by decide +kernel
theorem dX6_measureOut_18 : decode cX6_measureOut 18 = .ok (.lconst 0, 1) := by decide +kernel
theorem dX6_measureOut_19 : decode cX6_measureOut 19 = .ok (.lstore 4, 2) := by decide +kernel
theorem dX6_measureOut_21 : decode cX6_measureOut 21 = .ok (.lconst 0, 1) := by decide +kernel
theorem dX6_measureOut_22 : decode cX6_measureOut 22 = .ok (.lstore 6, 2) := by decide +kernel
theorem dX6_measureOut_24 : decode cX6_measureOut 24 = .ok (.aload_n 0, 1) := by decide +kernel
theorem dX6_measureOut_25 : decode cX6_measureOut 25 = .ok (.getfield 11, 3) := by decide +kernel
theorem dX6_measureOut_28 : decode cX6_measureOut 28 = .ok (.iload_n 1, 1) := by decide +kernel
theorem dX6_measureOut_29 : decode cX6_measureOut 29 = .ok (.iaload, 1) := by decide +kernel
theorem dX6_measureOut_30 : decode cX6_measureOut 30 = .ok (.bipush 24, 2) := by decide +kernel
theorem dX6_measureOut_32 : decode cX6_measureOut 32 = .ok (.iand, 1) := by decide +kernel
theorem dX6_measureOut_33 : decode cX6_measureOut 33 = .ok (.lookupswitch 99 #[(8, 35), (16, 59), (24, 70)], 35) := by decide +kernel
theorem dX6_measureOut_68 : decode cX6_measureOut 68 = .ok (.iload_n 1, 1) := by decide +kernel
theorem dX6_measureOut_69 : decode cX6_measureOut 69 = .ok (.ifCond .ne 7, 3) := by decide +kernel
theorem dX6_measureOut_72 : decode cX6_measureOut 72 = .ok (.lconst 0, 1) := by decide +kernel
theorem dX6_measureOut_73 : decode cX6_measureOut 73 = .ok (.goto 11, 3) := by decide +kernel
theorem dX6_measureOut_76 : decode cX6_measureOut 76 = .ok (.aload_n 0, 1) := by decide +kernel
theorem dX6_measureOut_77 : decode cX6_measureOut 77 = .ok (.getfield 15, 3) := by decide +kernel
theorem dX6_measureOut_80 : decode cX6_measureOut 80 = .ok (.iload_n 1, 1) := by decide +kernel
theorem dX6_measureOut_81 : decode cX6_measureOut 81 = .ok (.iconst 1, 1) := by decide +kernel
theorem dX6_measureOut_82 : decode cX6_measureOut 82 = .ok (.isub, 1) := by decide +kernel
theorem dX6_measureOut_83 : decode cX6_measureOut 83 = .ok (.laload, 1) := by decide +kernel
theorem dX6_measureOut_84 : decode cX6_measureOut 84 = .ok (.lstore 4, 2) := by decide +kernel
theorem dX6_measureOut_86 : decode cX6_measureOut 86 = .ok (.lload_n 2, 1) := by decide +kernel
theorem dX6_measureOut_87 : decode cX6_measureOut 87 = .ok (.lstore 6, 2) := by decide +kernel
theorem dX6_measureOut_89 : decode cX6_measureOut 89 = .ok (.goto 43, 3) := by decide +kernel
theorem dX6_measureOut_92 : decode cX6_measureOut 92 = .ok (.lload_n 2, 1) := by decide +kernel
theorem dX6_measureOut_93 : decode cX6_measureOut 93 = .ok (.lstore 4, 2) := by decide +kernel
theorem dX6_measureOut_95 : decode cX6_measureOut 95 = .ok (.lload_n 2, 1) := by decide +kernel
theorem dX6_measureOut_96 : decode cX6_measureOut 96 = .ok (.lconst 1, 1) := by decide +kernel
theorem dX6_measureOut_97 : decode cX6_measureOut 97 = .ok (.ladd, 1) := by decide +kernel
theorem dX6_measureOut_98 : decode cX6_measureOut 98 = .ok (.lstore 6, 2) := by decide +kernel
theorem dX6_measureOut_100 : decode cX6_measureOut 100 = .ok (.goto 32, 3) := by decide +kernel
theorem dX6_measureOut_103 : decode cX6_measureOut 103 = .ok (.lload_n 2, 1) := by decide +kernel
theorem dX6_measureOut_104 : decode cX6_measureOut 104 = .ok (.lload_n 2, 1) := by decide +kernel
theorem dX6_measureOut_105 : decode cX6_measureOut 105 = .ok (.lconst 1, 1) := by decide +kernel
theorem dX6_measureOut_106 : decode cX6_measureOut 106 = .ok (.ladd, 1) := by decide +kernel
theorem dX6_measureOut_107 : decode cX6_measureOut 107 = .ok (.lxor, 1) := by decide +kernel
theorem dX6_measureOut_108 : decode cX6_measureOut 108 = .ok (.lstore 8, 2) := by decide +kernel
theorem dX6_measureOut_110 : decode cX6_measureOut 110 = .ok (.lload_n 2, 1) := by decide +kernel
theorem dX6_measureOut_111 : decode cX6_measureOut 111 = .ok (.lload 8, 2) := by decide +kernel
theorem dX6_measureOut_113 : decode cX6_measureOut 113 = .ok (.ldc2_w 61, 3) := by decide +kernel
theorem dX6_measureOut_116 : decode cX6_measureOut 116 = .ok (.lxor, 1) := by decide +kernel
theorem dX6_measureOut_117 : decode cX6_measureOut 117 = .ok (.land, 1) := by decide +kernel
theorem dX6_measureOut_118 : decode cX6_measureOut 118 = .ok (.lstore 4, 2) := by decide +kernel
theorem dX6_measureOut_120 : decode cX6_measureOut 120 = .ok (.lload 4, 2) := by decide +kernel
theorem dX6_measureOut_122 : decode cX6_measureOut 122 = .ok (.lload 8, 2) := by decide +kernel
theorem dX6_measureOut_124 : decode cX6_measureOut 124 = .ok (.ladd, 1) := by decide +kernel
theorem dX6_measureOut_125 : decode cX6_measureOut 125 = .ok (.lconst 1, 1) := by decide +kernel
theorem dX6_measureOut_126 : decode cX6_measureOut 126 = .ok (.ladd, 1) := by decide +kernel
theorem dX6_measureOut_127 : decode cX6_measureOut 127 = .ok (.lstore 6, 2) := by decide +kernel
theorem dX6_measureOut_129 : decode cX6_measureOut 129 = .ok (.goto 3, 3) := by decide +kernel
theorem dX6_measureOut_132 : decode cX6_measureOut 132 = .ok (.lload 4, 2) := by decide +kernel
theorem dX6_measureOut_134 : decode cX6_measureOut 134 = .ok (.lload 6, 2) := by decide +kernel
theorem dX6_measureOut_136 : decode cX6_measureOut 136 = .ok (.lcmp, 1) := by decide +kernel
theorem dX6_measureOut_137 : decode cX6_measureOut 137 = .ok (.ifCond .ge 16, 3) := by decide +kernel
theorem dX6_measureOut_140 : decode cX6_measureOut 140 = .ok (.lload 4, 2) := by decide +kernel
theorem dX6_measureOut_142 : decode cX6_measureOut 142 = .ok (.ldc2_w 63, 3) := by decide +kernel
theorem dX6_measureOut_145 : decode cX6_measureOut 145 = .ok (.lcmp, 1) := by decide +kernel
theorem dX6_measureOut_146 : decode cX6_measureOut 146 = .ok (.ifCond .ge 7, 3) := by decide +kernel
theorem dX6_measureOut_149 : decode cX6_measureOut 149 = .ok (.iconst 1, 1) := by decide +kernel
theorem dX6_measureOut_150 : decode cX6_measureOut 150 = .ok (.goto 4, 3) := by decide +kernel
theorem dX6_measureOut_153 : decode cX6_measureOut 153 = .ok (.iconst 0, 1) := by decide +kernel
theorem dX6_measureOut_154 : decode cX6_measureOut 154 = .ok (.istore 8, 2) := by decide +kernel
theorem dX6_measureOut_156 : decode cX6_measureOut 156 = .ok (.aload_n 0, 1) := by decide +kernel
theorem dX6_measureOut_157 : decode cX6_measureOut 157 = .ok (.getfield 19, 3) := by decide +kernel
theorem dX6_measureOut_160 : decode cX6_measureOut 160 = .ok (.iload_n 1, 1) := by decide +kernel
theorem dX6_measureOut_161 : decode cX6_measureOut 161 = .ok (.iload 8, 2) := by decide +kernel
theorem dX6_measureOut_163 : decode cX6_measureOut 163 = .ok (.ifCond .eq 11, 3) := by decide +kernel
theorem dX6_measureOut_166 : decode cX6_measureOut 166 = .ok (.lload 4, 2) := by decide +kernel
theorem dX6_measureOut_168 : decode cX6_measureOut 168 = .ok (.l2i, 1) := by decide +kernel
theorem dX6_measureOut_169 : decode cX6_measureOut 169 = .ok (.iconst 4, 1) := by decide +kernel
theorem dX6_measureOut_170 : decode cX6_measureOut 170 = .ok (.imul, 1) := by decide +kernel
theorem dX6_measureOut_171 : decode cX6_measureOut 171 = .ok (.goto 4, 3) := by decide +kernel
theorem dX6_measureOut_174 : decode cX6_measureOut 174 = .ok (.iconst 0, 1) := by decide +kernel
theorem dX6_measureOut_175 : decode cX6_measureOut 175 = .ok (.iastore, 1) := by decide +kernel
theorem dX6_measureOut_176 : decode cX6_measureOut 176 = .ok (.aload_n 0, 1) := by decide +kernel
theorem dX6_measureOut_177 : decode cX6_measureOut 177 = .ok (.getfield 22, 3) := by decide +kernel
theorem dX6_measureOut_180 : decode cX6_measureOut 180 = .ok (.iload_n 1, 1) := by decide +kernel
theorem dX6_measureOut_181 : decode cX6_measureOut 181 = .ok (.iload 8, 2) := by decide +kernel
theorem dX6_measureOut_183 : decode cX6_measureOut 183 = .ok (.ifCond .ne 7, 3) := by decide +kernel
theorem dX6_measureOut_186 : decode cX6_measureOut 186 = .ok (.iconst 0, 1) := by decide +kernel
theorem dX6_measureOut_187 : decode cX6_measureOut 187 = .ok (.goto 22, 3) := by decide +kernel
theorem dX6_measureOut_190 : decode cX6_measureOut 190 = .ok (.lload 6, 2) := by decide +kernel
theorem dX6_measureOut_192 : decode cX6_measureOut 192 = .ok (.ldc2_w 63, 3) := by decide +kernel
theorem dX6_measureOut_195 : decode cX6_measureOut 195 = .ok (.lcmp, 1) := by decide +kernel
theorem dX6_measureOut_196 : decode cX6_measureOut 196 = .ok (.ifCond .ge 11, 3) := by decide +kernel
theorem dX6_measureOut_199 : decode cX6_measureOut 199 = .ok (.lload 6, 2) := by decide +kernel
theorem dX6_measureOut_201 : decode cX6_measureOut 201 = .ok (.l2i, 1) := by decide +kernel
theorem dX6_measureOut_202 : decode cX6_measureOut 202 = .ok (.iconst 4, 1) := by decide +kernel
theorem dX6_measureOut_203 : decode cX6_measureOut 203 = .ok (.imul, 1) := by decide +kernel
theorem dX6_measureOut_204 : decode cX6_measureOut 204 = .ok (.goto 5, 3) := by decide +kernel
theorem dX6_measureOut_207 : decode cX6_measureOut 207 = .ok (.ldc 54, 2) := by decide +kernel
theorem dX6_measureOut_209 : decode cX6_measureOut 209 = .ok (.iastore, 1) := by decide +kernel
theorem dX6_measureOut_210 : decode cX6_measureOut 210 = .ok (.return_, 1) := by decide +kernel
theorem dX7_init_0 : decode cX7_init 0 = .ok (.aload_n 0, 1) := by decide +kernel
theorem dX7_init_1 : decode cX7_init 1 = .ok (.invokespecial 1, 3) := by decide +kernel
theorem dX7_init_4 : decode cX7_init 4 = .ok (.aload_n 0, 1) := by decide +kernel
theorem dX7_init_5 : decode cX7_init 5 = .ok (.bipush 32, 2) := by decide +kernel
theorem dX7_init_7 : decode cX7_init 7 = .ok (.newarray .long, 2) := by decide +kernel
theorem dX7_init_9 : decode cX7_init 9 = .ok (.putfield 7, 3) := by decide +kernel
theorem dX7_init_12 : decode cX7_init 12 = .ok (.return_, 1) := by decide +kernel
theorem dX7_get_0 : decode cX7_get 0 = .ok (.aload_n 0, 1) := by decide +kernel
theorem dX7_get_1 : decode cX7_get 1 = .ok (.getfield 7, 3) := by decide +kernel
theorem dX7_get_4 : decode cX7_get 4 = .ok (.iload_n 1, 1) := by decide +kernel
theorem dX7_get_5 : decode cX7_get 5 = .ok (.bipush 31, 2) := by decide +kernel
theorem dX7_get_7 : decode cX7_get 7 = .ok (.iand, 1) := by decide +kernel
theorem dX7_get_8 : decode cX7_get 8 = .ok (.laload, 1) := by decide +kernel
theorem dX7_get_9 : decode cX7_get 9 = .ok (.lreturn, 1) := by decide +kernel
theorem dX7_set_0 : decode cX7_set 0 = .ok (.iload_n 1, 1) := by decide +kernel
theorem dX7_set_1 : decode cX7_set 1 = .ok (.bipush 31, 2) := by decide +kernel
theorem dX7_set_3 : decode cX7_set 3 = .ok (.iand, 1) := by decide +kernel
theorem dX7_set_4 : decode cX7_set 4 = .ok (.ifCond .eq 13, 3) := by decide +kernel
theorem dX7_set_7 : decode cX7_set 7 = .ok (.aload_n 0, 1) := by decide +kernel
theorem dX7_set_8 : decode cX7_set 8 = .ok (.getfield 7, 3) := by decide +kernel
theorem dX7_set_11 : decode cX7_set 11 = .ok (.iload_n 1, 1) := by decide +kernel
theorem dX7_set_12 : decode cX7_set 12 = .ok (.bipush 31, 2) := by decide +kernel
theorem dX7_set_14 : decode cX7_set 14 = .ok (.iand, 1) := by decide +kernel
theorem dX7_set_15 : decode cX7_set 15 = .ok (.lload_n 2, 1) := by decide +kernel
theorem dX7_set_16 : decode cX7_set 16 = .ok (.lastore, 1) := by decide +kernel
theorem dX7_set_17 : decode cX7_set 17 = .ok (.return_, 1) := by decide +kernel
theorem dX7_clear_0 : decode cX7_clear 0 = .ok (.aload_n 0, 1) := by decide +kernel
theorem dX7_clear_1 : decode cX7_clear 1 = .ok (.getfield 7, 3) := by decide +kernel
theorem dX7_clear_4 : decode cX7_clear 4 = .ok (.lconst 0, 1) := by decide +kernel
theorem dX7_clear_5 : decode cX7_clear 5 = .ok (.invokestatic 13, 3) := by decide +kernel
theorem dX7_clear_8 : decode cX7_clear 8 = .ok (.aload_n 0, 1) := by decide +kernel
theorem dX7_clear_9 : decode cX7_clear 9 = .ok (.lload_n 1, 1) := by decide +kernel
theorem dX7_clear_10 : decode cX7_clear 10 = .ok (.putfield 19, 3) := by decide +kernel
theorem dX7_clear_13 : decode cX7_clear 13 = .ok (.return_, 1) := by decide +kernel
theorem dX8_init_0 : decode cX8_init 0 = .ok (.aload_n 0, 1) := by decide +kernel
theorem dX8_init_1 : decode cX8_init 1 = .ok (.invokespecial 3, 3) := by decide +kernel
theorem dX8_init_4 : decode cX8_init 4 = .ok (.return_, 1) := by decide +kernel
theorem dX8_take_0 : decode cX8_take 0 = .ok (.aload_n 0, 1) := by decide +kernel
theorem dX8_take_1 : decode cX8_take 1 = .ok (.aload_n 1, 1) := by decide +kernel
theorem dX8_take_2 : decode cX8_take 2 = .ok (.bipush 10, 2) := by decide +kernel
theorem dX8_take_4 : decode cX8_take 4 = .ok (.invokevirtual 9, 3) := by decide +kernel
theorem dX8_take_7 : decode cX8_take 7 = .ok (.putfield 15, 3) := by decide +kernel
theorem dX8_take_10 : decode cX8_take 10 = .ok (.aload_n 0, 1) := by decide +kernel
theorem dX8_take_11 : decode cX8_take 11 = .ok (.aload_n 1, 1) := by decide +kernel
theorem dX8_take_12 : decode cX8_take 12 = .ok (.bipush 11, 2) := by decide +kernel
theorem dX8_take_14 : decode cX8_take 14 = .ok (.invokevirtual 9, 3) := by decide +kernel
theorem dX8_take_17 : decode cX8_take 17 = .ok (.putfield 21, 3) := by decide +kernel
theorem dX8_take_20 : decode cX8_take 20 = .ok (.aload_n 0, 1) := by decide +kernel
theorem dX8_take_21 : decode cX8_take 21 = .ok (.aload_n 1, 1) := by decide +kernel
theorem dX8_take_22 : decode cX8_take 22 = .ok (.bipush 12, 2) := by decide +kernel
theorem dX8_take_24 : decode cX8_take 24 = .ok (.invokevirtual 9, 3) := by decide +kernel
theorem dX8_take_27 : decode cX8_take 27 = .ok (.putfield 24, 3) := by decide +kernel
theorem dX8_take_30 : decode cX8_take 30 = .ok (.aload_n 0, 1) := by decide +kernel
theorem dX8_take_31 : decode cX8_take 31 = .ok (.aload_n 1, 1) := by decide +kernel
theorem dX8_take_32 : decode cX8_take 32 = .ok (.bipush 13, 2) := by decide +kernel
theorem dX8_take_34 : decode cX8_take 34 = .ok (.invokevirtual 9, 3) := by decide +kernel
theorem dX8_take_37 : decode cX8_take 37 = .ok (.putfield 27, 3) := by decide +kernel
theorem dX8_take_40 : decode cX8_take 40 = .ok (.aload_n 0, 1) := by decide +kernel
theorem dX8_take_41 : decode cX8_take 41 = .ok (.aload_n 1, 1) := by decide +kernel
theorem dX8_take_42 : decode cX8_take 42 = .ok (.bipush 14, 2) := by decide +kernel
theorem dX8_take_44 : decode cX8_take 44 = .ok (.invokevirtual 9, 3) := by decide +kernel
theorem dX8_take_47 : decode cX8_take 47 = .ok (.putfield 30, 3) := by decide +kernel
theorem dX8_take_50 : decode cX8_take 50 = .ok (.aload_n 0, 1) := by decide +kernel
theorem dX8_take_51 : decode cX8_take 51 = .ok (.aload_n 1, 1) := by decide +kernel
theorem dX8_take_52 : decode cX8_take 52 = .ok (.bipush 15, 2) := by decide +kernel
theorem dX8_take_54 : decode cX8_take 54 = .ok (.invokevirtual 9, 3) := by decide +kernel
theorem dX8_take_57 : decode cX8_take 57 = .ok (.putfield 33, 3) := by decide +kernel
theorem dX8_take_60 : decode cX8_take 60 = .ok (.aload_n 0, 1) := by decide +kernel
theorem dX8_take_61 : decode cX8_take 61 = .ok (.aload_n 1, 1) := by decide +kernel
theorem dX8_take_62 : decode cX8_take 62 = .ok (.bipush 16, 2) := by decide +kernel
theorem dX8_take_64 : decode cX8_take 64 = .ok (.invokevirtual 9, 3) := by decide +kernel
theorem dX8_take_67 : decode cX8_take 67 = .ok (.putfield 36, 3) := by decide +kernel
theorem dX8_take_70 : decode cX8_take 70 = .ok (.return_, 1) := by decide +kernel
theorem dX8_isToldRightly_0 : decode cX8_isToldRightly 0 = .ok (.aload_n 0, 1) := by decide +kernel
theorem dX8_isToldRightly_1 : decode cX8_isToldRightly 1 = .ok (.getfield 21, 3) := by decide +kernel
theorem dX8_isToldRightly_4 : decode cX8_isToldRightly 4 = .ok (.bipush 32, 2) := by decide +kernel
theorem dX8_isToldRightly_6 : decode cX8_isToldRightly 6 = .ok (.sipush 16384, 3) := by decide +kernel
theorem dX8_isToldRightly_9 : decode cX8_isToldRightly 9 = .ok (.invokestatic 39, 3) := by decide +kernel
theorem dX8_isToldRightly_12 : decode cX8_isToldRightly 12 = .ok (.ifCond .eq 126, 3) := by decide +kernel
theorem dX8_isToldRightly_15 : decode cX8_isToldRightly 15 = .ok (.aload_n 0, 1) := by decide +kernel
theorem dX8_isToldRightly_16 : decode cX8_isToldRightly 16 = .ok (.getfield 15, 3) := by decide +kernel
theorem dX8_isToldRightly_19 : decode cX8_isToldRightly 19 = .ok (.aload_n 0, 1) := by decide +kernel
theorem dX8_isToldRightly_20 : decode cX8_isToldRightly 20 = .ok (.getfield 21, 3) := by decide +kernel
theorem dX8_isToldRightly_23 : decode cX8_isToldRightly 23 = .ok (.invokestatic 43, 3) := by decide +kernel
theorem dX8_isToldRightly_26 : decode cX8_isToldRightly 26 = .ok (.ifCond .eq 112, 3) := by decide +kernel
theorem dX8_isToldRightly_29 : decode cX8_isToldRightly 29 = .ok (.aload_n 0, 1) := by decide +kernel
theorem dX8_isToldRightly_30 : decode cX8_isToldRightly 30 = .ok (.getfield 27, 3) := by decide +kernel
theorem dX8_isToldRightly_33 : decode cX8_isToldRightly 33 = .ok (.lconst 0, 1) := by decide +kernel
theorem dX8_isToldRightly_34 : decode cX8_isToldRightly 34 = .ok (.lcmp, 1) := by decide +kernel
theorem dX8_isToldRightly_35 : decode cX8_isToldRightly 35 = .ok (.ifCond .lt 103, 3) := by decide +kernel
theorem dX8_isToldRightly_38 : decode cX8_isToldRightly 38 = .ok (.aload_n 0, 1) := by decide +kernel
theorem dX8_isToldRightly_39 : decode cX8_isToldRightly 39 = .ok (.getfield 27, 3) := by decide +kernel
theorem dX8_isToldRightly_42 : decode cX8_isToldRightly 42 = .ok (.aload_n 0, 1) := by decide +kernel
theorem dX8_isToldRightly_43 : decode cX8_isToldRightly 43 = .ok (.getfield 21, 3) := by decide +kernel
theorem dX8_isToldRightly_46 : decode cX8_isToldRightly 46 = .ok (.lcmp, 1) := by decide +kernel
theorem dX8_isToldRightly_47 : decode cX8_isToldRightly 47 = .ok (.ifCond .gt 91, 3) := by decide +kernel
theorem dX8_isToldRightly_50 : decode cX8_isToldRightly 50 = .ok (.aload_n 0, 1) := by decide +kernel
theorem dX8_isToldRightly_51 : decode cX8_isToldRightly 51 = .ok (.getfield 27, 3) := by decide +kernel
theorem dX8_isToldRightly_54 : decode cX8_isToldRightly 54 = .ok (.lconst 0, 1) := by decide +kernel
theorem dX8_isToldRightly_55 : decode cX8_isToldRightly 55 = .ok (.lcmp, 1) := by decide +kernel
theorem dX8_isToldRightly_56 : decode cX8_isToldRightly 56 = .ok (.ifCond .eq 28, 3) := by decide +kernel
theorem dX8_isToldRightly_59 : decode cX8_isToldRightly 59 = .ok (.aload_n 0, 1) := by decide +kernel
theorem dX8_isToldRightly_60 : decode cX8_isToldRightly 60 = .ok (.getfield 24, 3) := by decide +kernel
theorem dX8_isToldRightly_63 : decode cX8_isToldRightly 63 = .ok (.lconst 0, 1) := by decide +kernel
theorem dX8_isToldRightly_64 : decode cX8_isToldRightly 64 = .ok (.lcmp, 1) := by decide +kernel
theorem dX8_isToldRightly_65 : decode cX8_isToldRightly 65 = .ok (.ifCond .lt 73, 3) := by decide +kernel
theorem dX8_isToldRightly_68 : decode cX8_isToldRightly 68 = .ok (.aload_n 0, 1) := by decide +kernel
theorem dX8_isToldRightly_69 : decode cX8_isToldRightly 69 = .ok (.getfield 24, 3) := by decide +kernel
theorem dX8_isToldRightly_72 : decode cX8_isToldRightly 72 = .ok (.ldc2_w 47, 3) := by decide +kernel
theorem dX8_isToldRightly_75 : decode cX8_isToldRightly 75 = .ok (.aload_n 0, 1) := by decide +kernel
theorem dX8_isToldRightly_76 : decode cX8_isToldRightly 76 = .ok (.getfield 27, 3) := by decide +kernel
theorem dX8_isToldRightly_79 : decode cX8_isToldRightly 79 = .ok (.lsub, 1) := by decide +kernel
theorem dX8_isToldRightly_80 : decode cX8_isToldRightly 80 = .ok (.lcmp, 1) := by decide +kernel
theorem dX8_isToldRightly_81 : decode cX8_isToldRightly 81 = .ok (.ifCond .gt 57, 3) := by decide +kernel
theorem dX8_isToldRightly_84 : decode cX8_isToldRightly 84 = .ok (.aload_n 0, 1) := by decide +kernel
theorem dX8_isToldRightly_85 : decode cX8_isToldRightly 85 = .ok (.getfield 30, 3) := by decide +kernel
theorem dX8_isToldRightly_88 : decode cX8_isToldRightly 88 = .ok (.ldc2_w 49, 3) := by decide +kernel
theorem dX8_isToldRightly_91 : decode cX8_isToldRightly 91 = .ok (.land, 1) := by decide +kernel
theorem dX8_isToldRightly_92 : decode cX8_isToldRightly 92 = .ok (.lconst 0, 1) := by decide +kernel
theorem dX8_isToldRightly_93 : decode cX8_isToldRightly 93 = .ok (.lcmp, 1) := by decide +kernel
theorem dX8_isToldRightly_94 : decode cX8_isToldRightly 94 = .ok (.ifCond .ne 44, 3) := by decide +kernel
theorem dX8_isToldRightly_97 : decode cX8_isToldRightly 97 = .ok (.aload_n 0, 1) := by decide +kernel
theorem dX8_isToldRightly_98 : decode cX8_isToldRightly 98 = .ok (.getfield 30, 3) := by decide +kernel
theorem dX8_isToldRightly_101 : decode cX8_isToldRightly 101 = .ok (.lconst 0, 1) := by decide +kernel
theorem dX8_isToldRightly_102 : decode cX8_isToldRightly 102 = .ok (.lcmp, 1) := by decide +kernel
theorem dX8_isToldRightly_103 : decode cX8_isToldRightly 103 = .ok (.ifCond .lt 35, 3) := by decide +kernel
theorem dX8_isToldRightly_106 : decode cX8_isToldRightly 106 = .ok (.aload_n 0, 1) := by decide +kernel
theorem dX8_isToldRightly_107 : decode cX8_isToldRightly 107 = .ok (.getfield 30, 3) := by decide +kernel
theorem dX8_isToldRightly_110 : decode cX8_isToldRightly 110 = .ok (.aload_n 0, 1) := by decide +kernel
theorem dX8_isToldRightly_111 : decode cX8_isToldRightly 111 = .ok (.getfield 21, 3) := by decide +kernel
theorem dX8_isToldRightly_114 : decode cX8_isToldRightly 114 = .ok (.lcmp, 1) := by decide +kernel
theorem dX8_isToldRightly_115 : decode cX8_isToldRightly 115 = .ok (.ifCond .ge 23, 3) := by decide +kernel
theorem dX8_isToldRightly_118 : decode cX8_isToldRightly 118 = .ok (.aload_n 0, 1) := by decide +kernel
theorem dX8_isToldRightly_119 : decode cX8_isToldRightly 119 = .ok (.getfield 36, 3) := by decide +kernel
theorem dX8_isToldRightly_122 : decode cX8_isToldRightly 122 = .ok (.lconst 0, 1) := by decide +kernel
theorem dX8_isToldRightly_123 : decode cX8_isToldRightly 123 = .ok (.lcmp, 1) := by decide +kernel
theorem dX8_isToldRightly_124 : decode cX8_isToldRightly 124 = .ok (.ifCond .eq 10, 3) := by decide +kernel
theorem dX8_isToldRightly_127 : decode cX8_isToldRightly 127 = .ok (.aload_n 0, 1) := by decide +kernel
theorem dX8_isToldRightly_128 : decode cX8_isToldRightly 128 = .ok (.invokevirtual 51, 3) := by decide +kernel
theorem dX8_isToldRightly_131 : decode cX8_isToldRightly 131 = .ok (.ifCond .eq 7, 3) := by decide +kernel
theorem dX8_isToldRightly_134 : decode cX8_isToldRightly 134 = .ok (.iconst 1, 1) := by decide +kernel
theorem dX8_isToldRightly_135 : decode cX8_isToldRightly 135 = .ok (.goto 4, 3) := by decide +kernel
theorem dX8_isToldRightly_138 : decode cX8_isToldRightly 138 = .ok (.iconst 0, 1) := by decide +kernel
theorem dX8_isToldRightly_139 : decode cX8_isToldRightly 139 = .ok (.ireturn, 1) := by decide +kernel
theorem dX8_isShareToldRightly_0 : decode cX8_isShareToldRightly 0 = .ok (.aload_n 0, 1) := by decide +kernel
theorem dX8_isShareToldRightly_1 : decode cX8_isShareToldRightly 1 = .ok (.getfield 36, 3) := by decide +kernel
theorem dX8_isShareToldRightly_4 : decode cX8_isShareToldRightly 4 = .ok (.bipush 8, 2) := by decide +kernel
theorem dX8_isShareToldRightly_6 : decode cX8_isShareToldRightly 6 = .ok (.sipush 4096, 3) := by decide +kernel
theorem dX8_isShareToldRightly_9 : decode cX8_isShareToldRightly 9 = .ok (.invokestatic 39, 3) := by decide +kernel
theorem dX8_isShareToldRightly_12 : decode cX8_isShareToldRightly 12 = .ok (.ifCond .eq 43, 3) := by decide +kernel
theorem dX8_isShareToldRightly_15 : decode cX8_isShareToldRightly 15 = .ok (.aload_n 0, 1) := by decide +kernel
theorem dX8_isShareToldRightly_16 : decode cX8_isShareToldRightly 16 = .ok (.getfield 33, 3) := by decide +kernel
theorem dX8_isShareToldRightly_19 : decode cX8_isShareToldRightly 19 = .ok (.aload_n 0, 1) := by decide +kernel
theorem dX8_isShareToldRightly_20 : decode cX8_isShareToldRightly 20 = .ok (.getfield 36, 3) := by decide +kernel
theorem dX8_isShareToldRightly_23 : decode cX8_isShareToldRightly 23 = .ok (.invokestatic 43, 3) := by decide +kernel
theorem dX8_isShareToldRightly_26 : decode cX8_isShareToldRightly 26 = .ok (.ifCond .eq 29, 3) := by decide +kernel
theorem dX8_isShareToldRightly_29 : decode cX8_isShareToldRightly 29 = .ok (.aload_n 0, 1) := by decide +kernel
theorem dX8_isShareToldRightly_30 : decode cX8_isShareToldRightly 30 = .ok (.getfield 15, 3) := by decide +kernel
theorem dX8_isShareToldRightly_33 : decode cX8_isShareToldRightly 33 = .ok (.aload_n 0, 1) := by decide +kernel
theorem dX8_isShareToldRightly_34 : decode cX8_isShareToldRightly 34 = .ok (.getfield 21, 3) := by decide +kernel
theorem dX8_isShareToldRightly_37 : decode cX8_isShareToldRightly 37 = .ok (.aload_n 0, 1) := by decide +kernel
theorem dX8_isShareToldRightly_38 : decode cX8_isShareToldRightly 38 = .ok (.getfield 33, 3) := by decide +kernel
theorem dX8_isShareToldRightly_41 : decode cX8_isShareToldRightly 41 = .ok (.aload_n 0, 1) := by decide +kernel
theorem dX8_isShareToldRightly_42 : decode cX8_isShareToldRightly 42 = .ok (.getfield 36, 3) := by decide +kernel
theorem dX8_isShareToldRightly_45 : decode cX8_isShareToldRightly 45 = .ok (.invokestatic 55, 3) := by decide +kernel
theorem dX8_isShareToldRightly_48 : decode cX8_isShareToldRightly 48 = .ok (.ifCond .ne 7, 3) := by decide +kernel
theorem dX8_isShareToldRightly_51 : decode cX8_isShareToldRightly 51 = .ok (.iconst 1, 1) := by decide +kernel
theorem dX8_isShareToldRightly_52 : decode cX8_isShareToldRightly 52 = .ok (.goto 4, 3) := by decide +kernel
theorem dX8_isShareToldRightly_55 : decode cX8_isShareToldRightly 55 = .ok (.iconst 0, 1) := by decide +kernel
theorem dX8_isShareToldRightly_56 : decode cX8_isShareToldRightly 56 = .ok (.ireturn, 1) := by decide +kernel
theorem dX8_isPowerOfTwo_0 : decode cX8_isPowerOfTwo 0 = .ok (.lload_n 0, 1) := by decide +kernel
theorem dX8_isPowerOfTwo_1 : decode cX8_isPowerOfTwo 1 = .ok (.iload_n 2, 1) := by decide +kernel
theorem dX8_isPowerOfTwo_2 : decode cX8_isPowerOfTwo 2 = .ok (.i2l, 1) := by decide +kernel
theorem dX8_isPowerOfTwo_3 : decode cX8_isPowerOfTwo 3 = .ok (.lcmp, 1) := by decide +kernel
theorem dX8_isPowerOfTwo_4 : decode cX8_isPowerOfTwo 4 = .ok (.ifCond .lt 24, 3) := by decide +kernel
theorem dX8_isPowerOfTwo_7 : decode cX8_isPowerOfTwo 7 = .ok (.lload_n 0, 1) := by decide +kernel
theorem dX8_isPowerOfTwo_8 : decode cX8_isPowerOfTwo 8 = .ok (.iload_n 3, 1) := by decide +kernel
theorem dX8_isPowerOfTwo_9 : decode cX8_isPowerOfTwo 9 = .ok (.i2l, 1) := by decide +kernel
theorem dX8_isPowerOfTwo_10 : decode cX8_isPowerOfTwo 10 = .ok (.lcmp, 1) := by decide +kernel
theorem dX8_isPowerOfTwo_11 : decode cX8_isPowerOfTwo 11 = .ok (.ifCond .gt 17, 3) := by decide +kernel
theorem dX8_isPowerOfTwo_14 : decode cX8_isPowerOfTwo 14 = .ok (.lload_n 0, 1) := by decide +kernel
theorem dX8_isPowerOfTwo_15 : decode cX8_isPowerOfTwo 15 = .ok (.lload_n 0, 1) := by decide +kernel
theorem dX8_isPowerOfTwo_16 : decode cX8_isPowerOfTwo 16 = .ok (.lconst 1, 1) := by decide +kernel
theorem dX8_isPowerOfTwo_17 : decode cX8_isPowerOfTwo 17 = .ok (.lsub, 1) := by decide +kernel
