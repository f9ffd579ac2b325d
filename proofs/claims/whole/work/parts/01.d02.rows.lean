theorem dX8_isPowerOfTwo_18 : decode cX8_isPowerOfTwo 18 = .ok (.land, 1) := by decide +kernel
theorem dX8_isPowerOfTwo_19 : decode cX8_isPowerOfTwo 19 = .ok (.lconst 0, 1) := by decide +kernel
theorem dX8_isPowerOfTwo_20 : decode cX8_isPowerOfTwo 20 = .ok (.lcmp, 1) := by decide +kernel
theorem dX8_isPowerOfTwo_21 : decode cX8_isPowerOfTwo 21 = .ok (.ifCond .ne 7, 3) := by decide +kernel
theorem dX8_isPowerOfTwo_24 : decode cX8_isPowerOfTwo 24 = .ok (.iconst 1, 1) := by decide +kernel
theorem dX8_isPowerOfTwo_25 : decode cX8_isPowerOfTwo 25 = .ok (.goto 4, 3) := by decide +kernel
theorem dX8_isPowerOfTwo_28 : decode cX8_isPowerOfTwo 28 = .ok (.iconst 0, 1) := by decide +kernel
theorem dX8_isPowerOfTwo_29 : decode cX8_isPowerOfTwo 29 = .ok (.ireturn, 1) := by decide +kernel
theorem dX8_liesAligned_0 : decode cX8_liesAligned 0 = .ok (.lload_n 0, 1) := by decide +kernel
theorem dX8_liesAligned_1 : decode cX8_liesAligned 1 = .ok (.lconst 0, 1) := by decide +kernel
theorem dX8_liesAligned_2 : decode cX8_liesAligned 2 = .ok (.lcmp, 1) := by decide +kernel
theorem dX8_liesAligned_3 : decode cX8_liesAligned 3 = .ok (.ifCond .lt 27, 3) := by decide +kernel
theorem dX8_liesAligned_6 : decode cX8_liesAligned 6 = .ok (.lload_n 0, 1) := by decide +kernel
theorem dX8_liesAligned_7 : decode cX8_liesAligned 7 = .ok (.ldc2_w 47, 3) := by decide +kernel
theorem dX8_liesAligned_10 : decode cX8_liesAligned 10 = .ok (.lload_n 2, 1) := by decide +kernel
theorem dX8_liesAligned_11 : decode cX8_liesAligned 11 = .ok (.lsub, 1) := by decide +kernel
theorem dX8_liesAligned_12 : decode cX8_liesAligned 12 = .ok (.lcmp, 1) := by decide +kernel
theorem dX8_liesAligned_13 : decode cX8_liesAligned 13 = .ok (.ifCond .gt 17, 3) := by decide +kernel
theorem dX8_liesAligned_16 : decode cX8_liesAligned 16 = .ok (.lload_n 0, 1) := by decide +kernel
theorem dX8_liesAligned_17 : decode cX8_liesAligned 17 = .ok (.lload_n 2, 1) := by decide +kernel
theorem dX8_liesAligned_18 : decode cX8_liesAligned 18 = .ok (.lconst 1, 1) := by decide +kernel
theorem dX8_liesAligned_19 : decode cX8_liesAligned 19 = .ok (.lsub, 1) := by decide +kernel
theorem dX8_liesAligned_20 : decode cX8_liesAligned 20 = .ok (.land, 1) := by decide +kernel
theorem dX8_liesAligned_21 : decode cX8_liesAligned 21 = .ok (.lconst 0, 1) := by decide +kernel
theorem dX8_liesAligned_22 : decode cX8_liesAligned 22 = .ok (.lcmp, 1) := by decide +kernel
theorem dX8_liesAligned_23 : decode cX8_liesAligned 23 = .ok (.ifCond .ne 7, 3) := by decide +kernel
theorem dX8_liesAligned_26 : decode cX8_liesAligned 26 = .ok (.iconst 1, 1) := by decide +kernel
theorem dX8_liesAligned_27 : decode cX8_liesAligned 27 = .ok (.goto 4, 3) := by decide +kernel
theorem dX8_liesAligned_30 : decode cX8_liesAligned 30 = .ok (.iconst 0, 1) := by decide +kernel
theorem dX8_liesAligned_31 : decode cX8_liesAligned 31 = .ok (.ireturn, 1) := by decide +kernel
theorem dX8_meet_0 : decode cX8_meet 0 = .ok (.lload_n 0, 1) := by decide +kernel
theorem dX8_meet_1 : decode cX8_meet 1 = .ok (.lload 4, 2) := by decide +kernel
theorem dX8_meet_3 : decode cX8_meet 3 = .ok (.lload 6, 2) := by decide +kernel
theorem dX8_meet_5 : decode cX8_meet 5 = .ok (.ladd, 1) := by decide +kernel
theorem dX8_meet_6 : decode cX8_meet 6 = .ok (.lcmp, 1) := by decide +kernel
theorem dX8_meet_7 : decode cX8_meet 7 = .ok (.ifCond .ge 16, 3) := by decide +kernel
theorem dX8_meet_10 : decode cX8_meet 10 = .ok (.lload 4, 2) := by decide +kernel
theorem dX8_meet_12 : decode cX8_meet 12 = .ok (.lload_n 0, 1) := by decide +kernel
theorem dX8_meet_13 : decode cX8_meet 13 = .ok (.lload_n 2, 1) := by decide +kernel
theorem dX8_meet_14 : decode cX8_meet 14 = .ok (.ladd, 1) := by decide +kernel
theorem dX8_meet_15 : decode cX8_meet 15 = .ok (.lcmp, 1) := by decide +kernel
theorem dX8_meet_16 : decode cX8_meet 16 = .ok (.ifCond .ge 7, 3) := by decide +kernel
theorem dX8_meet_19 : decode cX8_meet 19 = .ok (.iconst 1, 1) := by decide +kernel
theorem dX8_meet_20 : decode cX8_meet 20 = .ok (.goto 4, 3) := by decide +kernel
theorem dX8_meet_23 : decode cX8_meet 23 = .ok (.iconst 0, 1) := by decide +kernel
theorem dX8_meet_24 : decode cX8_meet 24 = .ok (.ireturn, 1) := by decide +kernel
theorem dX9_init_0 : decode cX9_init 0 = .ok (.aload_n 0, 1) := by decide +kernel
theorem dX9_init_1 : decode cX9_init 1 = .ok (.invokespecial 1, 3) := by decide +kernel
theorem dX9_init_4 : decode cX9_init 4 = .ok (.aload_n 0, 1) := by decide +kernel
theorem dX9_init_5 : decode cX9_init 5 = .ok (.new 7, 3) := by decide +kernel
theorem dX9_init_8 : decode cX9_init 8 = .ok (.dup, 1) := by decide +kernel
theorem dX9_init_9 : decode cX9_init 9 = .ok (.invokespecial 9, 3) := by decide +kernel
theorem dX9_init_12 : decode cX9_init 12 = .ok (.putfield 10, 3) := by decide +kernel
theorem dX9_init_15 : decode cX9_init 15 = .ok (.aload_n 0, 1) := by decide +kernel
theorem dX9_init_16 : decode cX9_init 16 = .ok (.new 16, 3) := by decide +kernel
theorem dX9_init_19 : decode cX9_init 19 = .ok (.dup, 1) := by decide +kernel
theorem dX9_init_20 : decode cX9_init 20 = .ok (.invokespecial 18, 3) := by decide +kernel
theorem dX9_init_23 : decode cX9_init 23 = .ok (.putfield 19, 3) := by decide +kernel
theorem dX9_init_26 : decode cX9_init 26 = .ok (.aload_n 0, 1) := by decide +kernel
theorem dX9_init_27 : decode cX9_init 27 = .ok (.new 23, 3) := by decide +kernel
theorem dX9_init_30 : decode cX9_init 30 = .ok (.dup, 1) := by decide +kernel
theorem dX9_init_31 : decode cX9_init 31 = .ok (.aload_n 0, 1) := by decide +kernel
theorem dX9_init_32 : decode cX9_init 32 = .ok (.getfield 19, 3) := by decide +kernel
theorem dX9_init_35 : decode cX9_init 35 = .ok (.invokespecial 25, 3) := by decide +kernel
theorem dX9_init_38 : decode cX9_init 38 = .ok (.putfield 28, 3) := by decide +kernel
theorem dX9_init_41 : decode cX9_init 41 = .ok (.aload_n 0, 1) := by decide +kernel
theorem dX9_init_42 : decode cX9_init 42 = .ok (.new 32, 3) := by decide +kernel
theorem dX9_init_45 : decode cX9_init 45 = .ok (.dup, 1) := by decide +kernel
theorem dX9_init_46 : decode cX9_init 46 = .ok (.invokespecial 34, 3) := by decide +kernel
theorem dX9_init_49 : decode cX9_init 49 = .ok (.putfield 35, 3) := by decide +kernel
theorem dX9_init_52 : decode cX9_init 52 = .ok (.aload_n 0, 1) := by decide +kernel
theorem dX9_init_53 : decode cX9_init 53 = .ok (.new 39, 3) := by decide +kernel
theorem dX9_init_56 : decode cX9_init 56 = .ok (.dup, 1) := by decide +kernel
theorem dX9_init_57 : decode cX9_init 57 = .ok (.aload_n 0, 1) := by decide +kernel
theorem dX9_init_58 : decode cX9_init 58 = .ok (.getfield 10, 3) := by decide +kernel
theorem dX9_init_61 : decode cX9_init 61 = .ok (.aload_n 0, 1) := by decide +kernel
theorem dX9_init_62 : decode cX9_init 62 = .ok (.getfield 19, 3) := by decide +kernel
theorem dX9_init_65 : decode cX9_init 65 = .ok (.aload_n 0, 1) := by decide +kernel
theorem dX9_init_66 : decode cX9_init 66 = .ok (.getfield 28, 3) := by decide +kernel
theorem dX9_init_69 : decode cX9_init 69 = .ok (.invokespecial 41, 3) := by decide +kernel
theorem dX9_init_72 : decode cX9_init 72 = .ok (.putfield 44, 3) := by decide +kernel
theorem dX9_init_75 : decode cX9_init 75 = .ok (.aload_n 0, 1) := by decide +kernel
theorem dX9_init_76 : decode cX9_init 76 = .ok (.new 48, 3) := by decide +kernel
theorem dX9_init_79 : decode cX9_init 79 = .ok (.dup, 1) := by decide +kernel
theorem dX9_init_80 : decode cX9_init 80 = .ok (.lload_n 1, 1) := by decide +kernel
theorem dX9_init_81 : decode cX9_init 81 = .ok (.aload_n 0, 1) := by decide +kernel
theorem dX9_init_82 : decode cX9_init 82 = .ok (.getfield 10, 3) := by decide +kernel
theorem dX9_init_85 : decode cX9_init 85 = .ok (.aload_n 0, 1) := by decide +kernel
theorem dX9_init_86 : decode cX9_init 86 = .ok (.getfield 19, 3) := by decide +kernel
theorem dX9_init_89 : decode cX9_init 89 = .ok (.aload_n 0, 1) := by decide +kernel
theorem dX9_init_90 : decode cX9_init 90 = .ok (.getfield 35, 3) := by decide +kernel
theorem dX9_init_93 : decode cX9_init 93 = .ok (.invokespecial 50, 3) := by decide +kernel
theorem dX9_init_96 : decode cX9_init 96 = .ok (.putfield 53, 3) := by decide +kernel
theorem dX9_init_99 : decode cX9_init 99 = .ok (.aload_n 0, 1) := by decide +kernel
theorem dX9_init_100 : decode cX9_init 100 = .ok (.iconst 0, 1) := by decide +kernel
theorem dX9_init_101 : decode cX9_init 101 = .ok (.putfield 57, 3) := by decide +kernel
theorem dX9_init_104 : decode cX9_init 104 = .ok (.aload_n 0, 1) := by decide +kernel
theorem dX9_init_105 : decode cX9_init 105 = .ok (.iconst (-1), 1) := by decide +kernel
theorem dX9_init_106 : decode cX9_init 106 = .ok (.putfield 61, 3) := by decide +kernel
theorem dX9_init_109 : decode cX9_init 109 = .ok (.return_, 1) := by decide +kernel
theorem dX9_reset_0 : decode cX9_reset 0 = .ok (.aload_n 0, 1) := by decide +kernel
theorem dX9_reset_1 : decode cX9_reset 1 = .ok (.getfield 53, 3) := by decide +kernel
theorem dX9_reset_4 : decode cX9_reset 4 = .ok (.invokevirtual 64, 3) := by decide +kernel
theorem dX9_reset_7 : decode cX9_reset 7 = .ok (.aload_n 0, 1) := by decide +kernel
theorem dX9_reset_8 : decode cX9_reset 8 = .ok (.getfield 19, 3) := by decide +kernel
theorem dX9_reset_11 : decode cX9_reset 11 = .ok (.invokevirtual 67, 3) := by decide +kernel
theorem dX9_reset_14 : decode cX9_reset 14 = .ok (.aload_n 0, 1) := by decide +kernel
theorem dX9_reset_15 : decode cX9_reset 15 = .ok (.getfield 28, 3) := by decide +kernel
theorem dX9_reset_18 : decode cX9_reset 18 = .ok (.invokevirtual 70, 3) := by decide +kernel
theorem dX9_reset_21 : decode cX9_reset 21 = .ok (.aload_n 0, 1) := by decide +kernel
theorem dX9_reset_22 : decode cX9_reset 22 = .ok (.getfield 35, 3) := by decide +kernel
theorem dX9_reset_25 : decode cX9_reset 25 = .ok (.lload_n 1, 1) := by decide +kernel
theorem dX9_reset_26 : decode cX9_reset 26 = .ok (.invokevirtual 71, 3) := by decide +kernel
theorem dX9_reset_29 : decode cX9_reset 29 = .ok (.aload_n 0, 1) := by decide +kernel
theorem dX9_reset_30 : decode cX9_reset 30 = .ok (.getfield 44, 3) := by decide +kernel
theorem dX9_reset_33 : decode cX9_reset 33 = .ok (.iconst 3, 1) := by decide +kernel
theorem dX9_reset_34 : decode cX9_reset 34 = .ok (.putfield 74, 3) := by decide +kernel
theorem dX9_reset_37 : decode cX9_reset 37 = .ok (.aload_n 0, 1) := by decide +kernel
theorem dX9_reset_38 : decode cX9_reset 38 = .ok (.iconst 0, 1) := by decide +kernel
theorem dX9_reset_39 : decode cX9_reset 39 = .ok (.putfield 57, 3) := by decide +kernel
theorem dX9_reset_42 : decode cX9_reset 42 = .ok (.aload_n 0, 1) := by decide +kernel
theorem dX9_reset_43 : decode cX9_reset 43 = .ok (.iconst (-1), 1) := by decide +kernel
theorem dX9_reset_44 : decode cX9_reset 44 = .ok (.putfield 61, 3) := by decide +kernel
theorem dX9_reset_47 : decode cX9_reset 47 = .ok (.aload_n 0, 1) := by decide +kernel
theorem dX9_reset_48 : decode cX9_reset 48 = .ok (.lconst 0, 1) := by decide +kernel
theorem dX9_reset_49 : decode cX9_reset 49 = .ok (.putfield 77, 3) := by decide +kernel
theorem dX9_reset_52 : decode cX9_reset 52 = .ok (.return_, 1) := by decide +kernel
theorem dX9_poke_0 : decode cX9_poke 0 = .ok (.aload_n 0, 1) := by decide +kernel
theorem dX9_poke_1 : decode cX9_poke 1 = .ok (.iload_n 1, 1) := by decide +kernel
theorem dX9_poke_2 : decode cX9_poke 2 = .ok (.invokevirtual 81, 3) := by decide +kernel
theorem dX9_poke_5 : decode cX9_poke 5 = .ok (.ifCond .ne 5, 3) := by decide +kernel
theorem dX9_poke_8 : decode cX9_poke 8 = .ok (.iconst 0, 1) := by decide +kernel
theorem dX9_poke_9 : decode cX9_poke 9 = .ok (.ireturn, 1) := by decide +kernel
theorem dX9_poke_10 : decode cX9_poke 10 = .ok (.aload_n 0, 1) := by decide +kernel
theorem dX9_poke_11 : decode cX9_poke 11 = .ok (.getfield 10, 3) := by decide +kernel
theorem dX9_poke_14 : decode cX9_poke 14 = .ok (.iload_n 1, 1) := by decide +kernel
theorem dX9_poke_15 : decode cX9_poke 15 = .ok (.bipush 8, 2) := by decide +kernel
theorem dX9_poke_17 : decode cX9_poke 17 = .ok (.lload_n 2, 1) := by decide +kernel
theorem dX9_poke_18 : decode cX9_poke 18 = .ok (.invokevirtual 85, 3) := by decide +kernel
theorem dX9_poke_21 : decode cX9_poke 21 = .ok (.iconst 1, 1) := by decide +kernel
theorem dX9_poke_22 : decode cX9_poke 22 = .ok (.ireturn, 1) := by decide +kernel
theorem dX9_peek_0 : decode cX9_peek 0 = .ok (.aload_n 0, 1) := by decide +kernel
theorem dX9_peek_1 : decode cX9_peek 1 = .ok (.iload_n 1, 1) := by decide +kernel
theorem dX9_peek_2 : decode cX9_peek 2 = .ok (.invokevirtual 81, 3) := by decide +kernel
theorem dX9_peek_5 : decode cX9_peek 5 = .ok (.ifCond .eq 16, 3) := by decide +kernel
theorem dX9_peek_8 : decode cX9_peek 8 = .ok (.aload_n 0, 1) := by decide +kernel
theorem dX9_peek_9 : decode cX9_peek 9 = .ok (.getfield 10, 3) := by decide +kernel
theorem dX9_peek_12 : decode cX9_peek 12 = .ok (.iload_n 1, 1) := by decide +kernel
theorem dX9_peek_13 : decode cX9_peek 13 = .ok (.bipush 8, 2) := by decide +kernel
theorem dX9_peek_15 : decode cX9_peek 15 = .ok (.invokevirtual 89, 3) := by decide +kernel
theorem dX9_peek_18 : decode cX9_peek 18 = .ok (.goto 4, 3) := by decide +kernel
theorem dX9_peek_21 : decode cX9_peek 21 = .ok (.lconst 0, 1) := by decide +kernel
theorem dX9_peek_22 : decode cX9_peek 22 = .ok (.lreturn, 1) := by decide +kernel
theorem dX9_interrupt_0 : decode cX9_interrupt 0 = .ok (.aload_n 0, 1) := by decide +kernel
theorem dX9_interrupt_1 : decode cX9_interrupt 1 = .ok (.getfield 53, 3) := by decide +kernel
theorem dX9_interrupt_4 : decode cX9_interrupt 4 = .ok (.iconst 1, 1) := by decide +kernel
theorem dX9_interrupt_5 : decode cX9_interrupt 5 = .ok (.putfield 93, 3) := by decide +kernel
theorem dX9_interrupt_8 : decode cX9_interrupt 8 = .ok (.return_, 1) := by decide +kernel
theorem dX9_run_0 : decode cX9_run 0 = .ok (.iload_n 1, 1) := by decide +kernel
theorem dX9_run_1 : decode cX9_run 1 = .ok (.iconst 1, 1) := by decide +kernel
theorem dX9_run_2 : decode cX9_run 2 = .ok (.if_icmp .lt 10, 3) := by decide +kernel
theorem dX9_run_5 : decode cX9_run 5 = .ok (.iload_n 1, 1) := by decide +kernel
theorem dX9_run_6 : decode cX9_run 6 = .ok (.sipush 5000, 3) := by decide +kernel
theorem dX9_run_9 : decode cX9_run 9 = .ok (.if_icmp .le 5, 3) := by decide +kernel
theorem dX9_run_12 : decode cX9_run 12 = .ok (.iconst (-1), 1) := by decide +kernel
theorem dX9_run_13 : decode cX9_run 13 = .ok (.ireturn, 1) := by decide +kernel
theorem dX9_run_14 : decode cX9_run 14 = .ok (.iconst 0, 1) := by decide +kernel
theorem dX9_run_15 : decode cX9_run 15 = .ok (.istore_n 2, 1) := by decide +kernel
theorem dX9_run_16 : decode cX9_run 16 = .ok (.iload_n 2, 1) := by decide +kernel
theorem dX9_run_17 : decode cX9_run 17 = .ok (.iload_n 1, 1) := by decide +kernel
theorem dX9_run_18 : decode cX9_run 18 = .ok (.if_icmp .ge 41, 3) := by decide +kernel
theorem dX9_run_21 : decode cX9_run 21 = .ok (.aload_n 0, 1) := by decide +kernel
theorem dX9_run_22 : decode cX9_run 22 = .ok (.getfield 57, 3) := by decide +kernel
theorem dX9_run_25 : decode cX9_run 25 = .ok (.ifCond .ne 34, 3) := by decide +kernel
theorem dX9_run_28 : decode cX9_run 28 = .ok (.aload_n 0, 1) := by decide +kernel
theorem dX9_run_29 : decode cX9_run 29 = .ok (.getfield 53, 3) := by decide +kernel
theorem dX9_run_32 : decode cX9_run 32 = .ok (.invokevirtual 97, 3) := by decide +kernel
theorem dX9_run_35 : decode cX9_run 35 = .ok (.aload_n 0, 1) := by decide +kernel
theorem dX9_run_36 : decode cX9_run 36 = .ok (.aload_n 0, 1) := by decide +kernel
theorem dX9_run_37 : decode cX9_run 37 = .ok (.getfield 44, 3) := by decide +kernel
theorem dX9_run_40 : decode cX9_run 40 = .ok (.aload_n 0, 1) := by decide +kernel
theorem dX9_run_41 : decode cX9_run 41 = .ok (.getfield 53, 3) := by decide +kernel
theorem dX9_run_44 : decode cX9_run 44 = .ok (.invokevirtual 100, 3) := by decide +kernel
theorem dX9_run_47 : decode cX9_run 47 = .ok (.invokevirtual 104, 3) := by decide +kernel
theorem dX9_run_50 : decode cX9_run 50 = .ok (.invokevirtual 108, 3) := by decide +kernel
theorem dX9_run_53 : decode cX9_run 53 = .ok (.iinc 2 1, 3) := by decide +kernel
theorem dX9_run_56 : decode cX9_run 56 = .ok (.goto (-40), 3) := by decide +kernel
theorem dX9_run_59 : decode cX9_run 59 = .ok (.iload_n 2, 1) := by decide +kernel
theorem dX9_run_60 : decode cX9_run 60 = .ok (.ireturn, 1) := by decide +kernel
theorem dX9_register_0 : decode cX9_register 0 = .ok (.iload_n 1, 1) := by decide +kernel
theorem dX9_register_1 : decode cX9_register 1 = .ok (.ifCond .lt 9, 3) := by decide +kernel
theorem dX9_register_4 : decode cX9_register 4 = .ok (.iload_n 1, 1) := by decide +kernel
theorem dX9_register_5 : decode cX9_register 5 = .ok (.bipush 31, 2) := by decide +kernel
theorem dX9_register_7 : decode cX9_register 7 = .ok (.if_icmp .le 7, 3) := by decide +kernel
theorem dX9_register_10 : decode cX9_register 10 = .ok (.lconst 0, 1) := by decide +kernel
theorem dX9_register_11 : decode cX9_register 11 = .ok (.goto 11, 3) := by decide +kernel
theorem dX9_register_14 : decode cX9_register 14 = .ok (.aload_n 0, 1) := by decide +kernel
theorem dX9_register_15 : decode cX9_register 15 = .ok (.getfield 35, 3) := by decide +kernel
theorem dX9_register_18 : decode cX9_register 18 = .ok (.iload_n 1, 1) := by decide +kernel
theorem dX9_register_19 : decode cX9_register 19 = .ok (.invokevirtual 112, 3) := by decide +kernel
theorem dX9_register_22 : decode cX9_register 22 = .ok (.lreturn, 1) := by decide +kernel
theorem dX9_state_0 : decode cX9_state 0 = .ok (.iload_n 1, 1) := by decide +kernel
theorem dX9_state_1 : decode cX9_state 1 = .ok (.tableswitch 117 0 8 #[51, 59, 64, 72, 77, 85, 93, 101, 109], 51) := by decide +kernel
theorem dX9_state_52 : decode cX9_state 52 = .ok (.aload_n 0, 1) := by decide +kernel
theorem dX9_state_53 : decode cX9_state 53 = .ok (.getfield 44, 3) := by decide +kernel
theorem dX9_state_56 : decode cX9_state 56 = .ok (.getfield 74, 3) := by decide +kernel
theorem dX9_state_59 : decode cX9_state 59 = .ok (.ireturn, 1) := by decide +kernel
theorem dX9_state_60 : decode cX9_state 60 = .ok (.aload_n 0, 1) := by decide +kernel
theorem dX9_state_61 : decode cX9_state 61 = .ok (.getfield 57, 3) := by decide +kernel
theorem dX9_state_64 : decode cX9_state 64 = .ok (.ireturn, 1) := by decide +kernel
theorem dX9_state_65 : decode cX9_state 65 = .ok (.aload_n 0, 1) := by decide +kernel
theorem dX9_state_66 : decode cX9_state 66 = .ok (.getfield 53, 3) := by decide +kernel
theorem dX9_state_69 : decode cX9_state 69 = .ok (.getfield 116, 3) := by decide +kernel
theorem dX9_state_72 : decode cX9_state 72 = .ok (.ireturn, 1) := by decide +kernel
theorem dX9_state_73 : decode cX9_state 73 = .ok (.aload_n 0, 1) := by decide +kernel
theorem dX9_state_74 : decode cX9_state 74 = .ok (.getfield 61, 3) := by decide +kernel
theorem dX9_state_77 : decode cX9_state 77 = .ok (.ireturn, 1) := by decide +kernel
theorem dX9_state_78 : decode cX9_state 78 = .ok (.aload_n 0, 1) := by decide +kernel
theorem dX9_state_79 : decode cX9_state 79 = .ok (.getfield 28, 3) := by decide +kernel
theorem dX9_state_82 : decode cX9_state 82 = .ok (.getfield 119, 3) := by decide +kernel
theorem dX9_state_85 : decode cX9_state 85 = .ok (.ireturn, 1) := by decide +kernel
theorem dX9_state_86 : decode cX9_state 86 = .ok (.aload_n 0, 1) := by decide +kernel
theorem dX9_state_87 : decode cX9_state 87 = .ok (.getfield 53, 3) := by decide +kernel
theorem dX9_state_90 : decode cX9_state 90 = .ok (.getfield 122, 3) := by decide +kernel
theorem dX9_state_93 : decode cX9_state 93 = .ok (.ireturn, 1) := by decide +kernel
theorem dX9_state_94 : decode cX9_state 94 = .ok (.aload_n 0, 1) := by decide +kernel
theorem dX9_state_95 : decode cX9_state 95 = .ok (.getfield 53, 3) := by decide +kernel
theorem dX9_state_98 : decode cX9_state 98 = .ok (.getfield 125, 3) := by decide +kernel
theorem dX9_state_101 : decode cX9_state 101 = .ok (.ireturn, 1) := by decide +kernel
theorem dX9_state_102 : decode cX9_state 102 = .ok (.aload_n 0, 1) := by decide +kernel
theorem dX9_state_103 : decode cX9_state 103 = .ok (.getfield 53, 3) := by decide +kernel
theorem dX9_state_106 : decode cX9_state 106 = .ok (.getfield 128, 3) := by decide +kernel
theorem dX9_state_109 : decode cX9_state 109 = .ok (.ireturn, 1) := by decide +kernel
theorem dX9_state_110 : decode cX9_state 110 = .ok (.aload_n 0, 1) := by decide +kernel
theorem dX9_state_111 : decode cX9_state 111 = .ok (.getfield 53, 3) := by decide +kernel
theorem dX9_state_114 : decode cX9_state 114 = .ok (.getfield 131, 3) := by decide +kernel
theorem dX9_state_117 : decode cX9_state 117 = .ok (.ireturn, 1) := by decide +kernel
theorem dX9_state_118 : decode cX9_state 118 = .ok (.iconst (-1), 1) := by decide +kernel
theorem dX9_state_119 : decode cX9_state 119 = .ok (.ireturn, 1) := by decide +kernel
theorem dX9_held_0 : decode cX9_held 0 = .ok (.iload_n 1, 1) := by decide +kernel
theorem dX9_held_1 : decode cX9_held 1 = .ok (.tableswitch 96 0 6 #[43, 51, 56, 64, 72, 80, 88], 43) := by decide +kernel
theorem dX9_held_44 : decode cX9_held 44 = .ok (.aload_n 0, 1) := by decide +kernel
theorem dX9_held_45 : decode cX9_held 45 = .ok (.getfield 35, 3) := by decide +kernel
theorem dX9_held_48 : decode cX9_held 48 = .ok (.getfield 134, 3) := by decide +kernel
theorem dX9_held_51 : decode cX9_held 51 = .ok (.lreturn, 1) := by decide +kernel
theorem dX9_held_52 : decode cX9_held 52 = .ok (.aload_n 0, 1) := by decide +kernel
theorem dX9_held_53 : decode cX9_held 53 = .ok (.getfield 77, 3) := by decide +kernel
theorem dX9_held_56 : decode cX9_held 56 = .ok (.lreturn, 1) := by decide +kernel
theorem dX9_held_57 : decode cX9_held 57 = .ok (.aload_n 0, 1) := by decide +kernel
theorem dX9_held_58 : decode cX9_held 58 = .ok (.getfield 28, 3) := by decide +kernel
theorem dX9_held_61 : decode cX9_held 61 = .ok (.invokevirtual 137, 3) := by decide +kernel
theorem dX9_held_64 : decode cX9_held 64 = .ok (.lreturn, 1) := by decide +kernel
theorem dX9_held_65 : decode cX9_held 65 = .ok (.aload_n 0, 1) := by decide +kernel
theorem dX9_held_66 : decode cX9_held 66 = .ok (.getfield 28, 3) := by decide +kernel
theorem dX9_held_69 : decode cX9_held 69 = .ok (.getfield 141, 3) := by decide +kernel
theorem dX9_held_72 : decode cX9_held 72 = .ok (.lreturn, 1) := by decide +kernel
theorem dX9_held_73 : decode cX9_held 73 = .ok (.aload_n 0, 1) := by decide +kernel
theorem dX9_held_74 : decode cX9_held 74 = .ok (.getfield 28, 3) := by decide +kernel
theorem dX9_held_77 : decode cX9_held 77 = .ok (.getfield 144, 3) := by decide +kernel
theorem dX9_held_80 : decode cX9_held 80 = .ok (.lreturn, 1) := by decide +kernel
theorem dX9_held_81 : decode cX9_held 81 = .ok (.aload_n 0, 1) := by decide +kernel
theorem dX9_held_82 : decode cX9_held 82 = .ok (.getfield 28, 3) := by decide +kernel
theorem dX9_held_85 : decode cX9_held 85 = .ok (.getfield 147, 3) := by decide +kernel
theorem dX9_held_88 : decode cX9_held 88 = .ok (.lreturn, 1) := by decide +kernel
theorem dX9_held_89 : decode cX9_held 89 = .ok (.aload_n 0, 1) := by decide +kernel
theorem dX9_held_90 : decode cX9_held 90 = .ok (.getfield 28, 3) := by decide +kernel
theorem dX9_held_93 : decode cX9_held 93 = .ok (.getfield 150, 3) := by decide +kernel
theorem dX9_held_96 : decode cX9_held 96 = .ok (.lreturn, 1) := by decide +kernel
theorem dX9_held_97 : decode cX9_held 97 = .ok (.lconst 0, 1) := by decide +kernel
theorem dX9_held_98 : decode cX9_held 98 = .ok (.lreturn, 1) := by decide +kernel
theorem dX9_pmp_0 : decode cX9_pmp 0 = .ok (.iload_n 1, 1) := by decide +kernel
theorem dX9_pmp_1 : decode cX9_pmp 1 = .ok (.ifCond .lt 9, 3) := by decide +kernel
theorem dX9_pmp_4 : decode cX9_pmp 4 = .ok (.iload_n 1, 1) := by decide +kernel
theorem dX9_pmp_5 : decode cX9_pmp 5 = .ok (.bipush 16, 2) := by decide +kernel
theorem dX9_pmp_7 : decode cX9_pmp 7 = .ok (.if_icmp .lt 5, 3) := by decide +kernel
theorem dX9_pmp_10 : decode cX9_pmp 10 = .ok (.lconst 0, 1) := by decide +kernel
theorem dX9_pmp_11 : decode cX9_pmp 11 = .ok (.lreturn, 1) := by decide +kernel
theorem dX9_pmp_12 : decode cX9_pmp 12 = .ok (.iload_n 2, 1) := by decide +kernel
theorem dX9_pmp_13 : decode cX9_pmp 13 = .ok (.lookupswitch 48 #[(0, 27), (1, 38)], 27) := by decide +kernel
theorem dX9_pmp_40 : decode cX9_pmp 40 = .ok (.aload_n 0, 1) := by decide +kernel
theorem dX9_pmp_41 : decode cX9_pmp 41 = .ok (.getfield 19, 3) := by decide +kernel
theorem dX9_pmp_44 : decode cX9_pmp 44 = .ok (.getfield 153, 3) := by decide +kernel
theorem dX9_pmp_47 : decode cX9_pmp 47 = .ok (.iload_n 1, 1) := by decide +kernel
theorem dX9_pmp_48 : decode cX9_pmp 48 = .ok (.iaload, 1) := by decide +kernel
theorem dX9_pmp_49 : decode cX9_pmp 49 = .ok (.i2l, 1) := by decide +kernel
theorem dX9_pmp_50 : decode cX9_pmp 50 = .ok (.lreturn, 1) := by decide +kernel
theorem dX9_pmp_51 : decode cX9_pmp 51 = .ok (.aload_n 0, 1) := by decide +kernel
theorem dX9_pmp_52 : decode cX9_pmp 52 = .ok (.getfield 19, 3) := by decide +kernel
theorem dX9_pmp_55 : decode cX9_pmp 55 = .ok (.getfield 157, 3) := by decide +kernel
theorem dX9_pmp_58 : decode cX9_pmp 58 = .ok (.iload_n 1, 1) := by decide +kernel
theorem dX9_pmp_59 : decode cX9_pmp 59 = .ok (.laload, 1) := by decide +kernel
theorem dX9_pmp_60 : decode cX9_pmp 60 = .ok (.lreturn, 1) := by decide +kernel
theorem dX9_pmp_61 : decode cX9_pmp 61 = .ok (.lconst 0, 1) := by decide +kernel
theorem dX9_pmp_62 : decode cX9_pmp 62 = .ok (.lreturn, 1) := by decide +kernel
theorem dX9_enclave_0 : decode cX9_enclave 0 = .ok (.iload_n 1, 1) := by decide +kernel
theorem dX9_enclave_1 : decode cX9_enclave 1 = .ok (.ifCond .lt 9, 3) := by decide +kernel
theorem dX9_enclave_4 : decode cX9_enclave 4 = .ok (.iload_n 1, 1) := by decide +kernel
theorem dX9_enclave_5 : decode cX9_enclave 5 = .ok (.bipush 6, 2) := by decide +kernel
theorem dX9_enclave_7 : decode cX9_enclave 7 = .ok (.if_icmp .lt 7, 3) := by decide +kernel
theorem dX9_enclave_10 : decode cX9_enclave 10 = .ok (.iconst 0, 1) := by decide +kernel
theorem dX9_enclave_11 : decode cX9_enclave 11 = .ok (.goto 16, 3) := by decide +kernel
theorem dX9_enclave_14 : decode cX9_enclave 14 = .ok (.aload_n 0, 1) := by decide +kernel
theorem dX9_enclave_15 : decode cX9_enclave 15 = .ok (.getfield 53, 3) := by decide +kernel
theorem dX9_enclave_18 : decode cX9_enclave 18 = .ok (.getfield 161, 3) := by decide +kernel
theorem dX9_enclave_21 : decode cX9_enclave 21 = .ok (.iload_n 1, 1) := by decide +kernel
theorem dX9_enclave_22 : decode cX9_enclave 22 = .ok (.aaload, 1) := by decide +kernel
theorem dX9_enclave_23 : decode cX9_enclave 23 = .ok (.iload_n 2, 1) := by decide +kernel
theorem dX9_enclave_24 : decode cX9_enclave 24 = .ok (.invokevirtual 165, 3) := by decide +kernel
theorem dX9_enclave_27 : decode cX9_enclave 27 = .ok (.ireturn, 1) := by decide +kernel
theorem dX9_eye_0 : decode cX9_eye 0 = .ok (.iload_n 1, 1) := by decide +kernel
theorem dX9_eye_1 : decode cX9_eye 1 = .ok (.ifCond .lt 13, 3) := by decide +kernel
theorem dX9_eye_4 : decode cX9_eye 4 = .ok (.iload_n 1, 1) := by decide +kernel
theorem dX9_eye_5 : decode cX9_eye 5 = .ok (.bipush 6, 2) := by decide +kernel
theorem dX9_eye_7 : decode cX9_eye 7 = .ok (.if_icmp .ge 7, 3) := by decide +kernel
theorem dX9_eye_10 : decode cX9_eye 10 = .ok (.iload_n 2, 1) := by decide +kernel
theorem dX9_eye_11 : decode cX9_eye 11 = .ok (.ifCond .ge 5, 3) := by decide +kernel
theorem dX9_eye_14 : decode cX9_eye 14 = .ok (.lconst 0, 1) := by decide +kernel
theorem dX9_eye_15 : decode cX9_eye 15 = .ok (.lreturn, 1) := by decide +kernel
theorem dX9_eye_16 : decode cX9_eye 16 = .ok (.aload_n 0, 1) := by decide +kernel
theorem dX9_eye_17 : decode cX9_eye 17 = .ok (.getfield 53, 3) := by decide +kernel
theorem dX9_eye_20 : decode cX9_eye 20 = .ok (.getfield 161, 3) := by decide +kernel
theorem dX9_eye_23 : decode cX9_eye 23 = .ok (.iload_n 1, 1) := by decide +kernel
theorem dX9_eye_24 : decode cX9_eye 24 = .ok (.aaload, 1) := by decide +kernel
theorem dX9_eye_25 : decode cX9_eye 25 = .ok (.astore_n 3, 1) := by decide +kernel
theorem dX9_eye_26 : decode cX9_eye 26 = .ok (.aload_n 3, 1) := by decide +kernel
theorem dX9_eye_27 : decode cX9_eye 27 = .ok (.getfield 171, 3) := by decide +kernel
theorem dX9_eye_30 : decode cX9_eye 30 = .ok (.ifCond .ne 5, 3) := by decide +kernel
theorem dX9_eye_33 : decode cX9_eye 33 = .ok (.lconst 0, 1) := by decide +kernel
theorem dX9_eye_34 : decode cX9_eye 34 = .ok (.lreturn, 1) := by decide +kernel
theorem dX9_eye_35 : decode cX9_eye 35 = .ok (.iload_n 2, 1) := by decide +kernel
theorem dX9_eye_36 : decode cX9_eye 36 = .ok (.bipush 32, 2) := by decide +kernel
theorem dX9_eye_38 : decode cX9_eye 38 = .ok (.if_icmp .ge 12, 3) := by decide +kernel
theorem dX9_eye_41 : decode cX9_eye 41 = .ok (.aload_n 3, 1) := by decide +kernel
theorem dX9_eye_42 : decode cX9_eye 42 = .ok (.getfield 174, 3) := by decide +kernel
theorem dX9_eye_45 : decode cX9_eye 45 = .ok (.iload_n 2, 1) := by decide +kernel
theorem dX9_eye_46 : decode cX9_eye 46 = .ok (.invokevirtual 112, 3) := by decide +kernel
theorem dX9_eye_49 : decode cX9_eye 49 = .ok (.lreturn, 1) := by decide +kernel
theorem dX9_eye_50 : decode cX9_eye 50 = .ok (.iload_n 2, 1) := by decide +kernel
theorem dX9_eye_51 : decode cX9_eye 51 = .ok (.tableswitch 43 32 34 #[25, 33, 38], 25) := by decide +kernel
theorem dX9_eye_76 : decode cX9_eye 76 = .ok (.aload_n 3, 1) := by decide +kernel
theorem dX9_eye_77 : decode cX9_eye 77 = .ok (.getfield 174, 3) := by decide +kernel
theorem dX9_eye_80 : decode cX9_eye 80 = .ok (.getfield 134, 3) := by decide +kernel
theorem dX9_eye_83 : decode cX9_eye 83 = .ok (.lreturn, 1) := by decide +kernel
theorem dX9_eye_84 : decode cX9_eye 84 = .ok (.aload_n 3, 1) := by decide +kernel
theorem dX9_eye_85 : decode cX9_eye 85 = .ok (.getfield 177, 3) := by decide +kernel
theorem dX9_eye_88 : decode cX9_eye 88 = .ok (.lreturn, 1) := by decide +kernel
theorem dX9_eye_89 : decode cX9_eye 89 = .ok (.aload_n 3, 1) := by decide +kernel
theorem dX9_eye_90 : decode cX9_eye 90 = .ok (.getfield 180, 3) := by decide +kernel
theorem dX9_eye_93 : decode cX9_eye 93 = .ok (.lreturn, 1) := by decide +kernel
theorem dX9_eye_94 : decode cX9_eye 94 = .ok (.iload_n 2, 1) := by decide +kernel
theorem dX9_eye_95 : decode cX9_eye 95 = .ok (.bipush 35, 2) := by decide +kernel
theorem dX9_eye_97 : decode cX9_eye 97 = .ok (.isub, 1) := by decide +kernel
theorem dX9_eye_98 : decode cX9_eye 98 = .ok (.istore 4, 2) := by decide +kernel
theorem dX9_eye_100 : decode cX9_eye 100 = .ok (.iload 4, 2) := by decide +kernel
theorem dX9_eye_102 : decode cX9_eye 102 = .ok (.aload_n 3, 1) := by decide +kernel
theorem dX9_eye_103 : decode cX9_eye 103 = .ok (.getfield 183, 3) := by decide +kernel
theorem dX9_eye_106 : decode cX9_eye 106 = .ok (.bipush 8, 2) := by decide +kernel
theorem dX9_eye_108 : decode cX9_eye 108 = .ok (.idiv, 1) := by decide +kernel
theorem dX9_eye_109 : decode cX9_eye 109 = .ok (.if_icmp .ge 25, 3) := by decide +kernel
theorem dX9_eye_112 : decode cX9_eye 112 = .ok (.aload_n 0, 1) := by decide +kernel
theorem dX9_eye_113 : decode cX9_eye 113 = .ok (.getfield 10, 3) := by decide +kernel
theorem dX9_eye_116 : decode cX9_eye 116 = .ok (.aload_n 3, 1) := by decide +kernel
theorem dX9_eye_117 : decode cX9_eye 117 = .ok (.getfield 186, 3) := by decide +kernel
theorem dX9_eye_120 : decode cX9_eye 120 = .ok (.bipush 8, 2) := by decide +kernel
theorem dX9_eye_122 : decode cX9_eye 122 = .ok (.iload 4, 2) := by decide +kernel
theorem dX9_eye_124 : decode cX9_eye 124 = .ok (.imul, 1) := by decide +kernel
theorem dX9_eye_125 : decode cX9_eye 125 = .ok (.iadd, 1) := by decide +kernel
theorem dX9_eye_126 : decode cX9_eye 126 = .ok (.bipush 8, 2) := by decide +kernel
theorem dX9_eye_128 : decode cX9_eye 128 = .ok (.invokevirtual 89, 3) := by decide +kernel
theorem dX9_eye_131 : decode cX9_eye 131 = .ok (.goto 4, 3) := by decide +kernel
theorem dX9_eye_134 : decode cX9_eye 134 = .ok (.lconst 0, 1) := by decide +kernel
theorem dX9_eye_135 : decode cX9_eye 135 = .ok (.lreturn, 1) := by decide +kernel
theorem dX9_isOpenWord_0 : decode cX9_isOpenWord 0 = .ok (.iload_n 1, 1) := by decide +kernel
theorem dX9_isOpenWord_1 : decode cX9_isOpenWord 1 = .ok (.ifCond .lt 35, 3) := by decide +kernel
theorem dX9_isOpenWord_4 : decode cX9_isOpenWord 4 = .ok (.iload_n 1, 1) := by decide +kernel
theorem dX9_isOpenWord_5 : decode cX9_isOpenWord 5 = .ok (.ldc 189, 2) := by decide +kernel
theorem dX9_isOpenWord_7 : decode cX9_isOpenWord 7 = .ok (.if_icmp .ge 29, 3) := by decide +kernel
theorem dX9_isOpenWord_10 : decode cX9_isOpenWord 10 = .ok (.iload_n 1, 1) := by decide +kernel
theorem dX9_isOpenWord_11 : decode cX9_isOpenWord 11 = .ok (.bipush 7, 2) := by decide +kernel
theorem dX9_isOpenWord_13 : decode cX9_isOpenWord 13 = .ok (.iand, 1) := by decide +kernel
theorem dX9_isOpenWord_14 : decode cX9_isOpenWord 14 = .ok (.ifCond .ne 22, 3) := by decide +kernel
theorem dX9_isOpenWord_17 : decode cX9_isOpenWord 17 = .ok (.aload_n 0, 1) := by decide +kernel
theorem dX9_isOpenWord_18 : decode cX9_isOpenWord 18 = .ok (.getfield 53, 3) := by decide +kernel
theorem dX9_isOpenWord_21 : decode cX9_isOpenWord 21 = .ok (.iload_n 1, 1) := by decide +kernel
theorem dX9_isOpenWord_22 : decode cX9_isOpenWord 22 = .ok (.i2l, 1) := by decide +kernel
theorem dX9_isOpenWord_23 : decode cX9_isOpenWord 23 = .ok (.ldc2_w 190, 3) := by decide +kernel
theorem dX9_isOpenWord_26 : decode cX9_isOpenWord 26 = .ok (.invokevirtual 192, 3) := by decide +kernel
theorem dX9_isOpenWord_29 : decode cX9_isOpenWord 29 = .ok (.ifCond .ne 7, 3) := by decide +kernel
theorem dX9_isOpenWord_32 : decode cX9_isOpenWord 32 = .ok (.iconst 1, 1) := by decide +kernel
theorem dX9_isOpenWord_33 : decode cX9_isOpenWord 33 = .ok (.goto 4, 3) := by decide +kernel
theorem dX9_isOpenWord_36 : decode cX9_isOpenWord 36 = .ok (.iconst 0, 1) := by decide +kernel
theorem dX9_isOpenWord_37 : decode cX9_isOpenWord 37 = .ok (.ireturn, 1) := by decide +kernel
theorem dX9_settle_0 : decode cX9_settle 0 = .ok (.aload_n 0, 1) := by decide +kernel
theorem dX9_settle_1 : decode cX9_settle 1 = .ok (.getfield 28, 3) := by decide +kernel
theorem dX9_settle_4 : decode cX9_settle 4 = .ok (.dup, 1) := by decide +kernel
theorem dX9_settle_5 : decode cX9_settle 5 = .ok (.getfield 119, 3) := by decide +kernel
theorem dX9_settle_8 : decode cX9_settle 8 = .ok (.iconst 1, 1) := by decide +kernel
theorem dX9_settle_9 : decode cX9_settle 9 = .ok (.iadd, 1) := by decide +kernel
theorem dX9_settle_10 : decode cX9_settle 10 = .ok (.putfield 119, 3) := by decide +kernel
theorem dX9_settle_13 : decode cX9_settle 13 = .ok (.aload_n 0, 1) := by decide +kernel
theorem dX9_settle_14 : decode cX9_settle 14 = .ok (.getfield 53, 3) := by decide +kernel
theorem dX9_settle_17 : decode cX9_settle 17 = .ok (.getfield 116, 3) := by decide +kernel
theorem dX9_settle_20 : decode cX9_settle 20 = .ok (.iconst (-1), 1) := by decide +kernel
theorem dX9_settle_21 : decode cX9_settle 21 = .ok (.if_icmp .eq 14, 3) := by decide +kernel
theorem dX9_settle_24 : decode cX9_settle 24 = .ok (.aload_n 0, 1) := by decide +kernel
theorem dX9_settle_25 : decode cX9_settle 25 = .ok (.getfield 53, 3) := by decide +kernel
theorem dX9_settle_28 : decode cX9_settle 28 = .ok (.iload_n 1, 1) := by decide +kernel
theorem dX9_settle_29 : decode cX9_settle 29 = .ok (.invokevirtual 196, 3) := by decide +kernel
theorem dX9_settle_32 : decode cX9_settle 32 = .ok (.goto 54, 3) := by decide +kernel
theorem dX9_settle_35 : decode cX9_settle 35 = .ok (.iload_n 1, 1) := by decide +kernel
theorem dX9_settle_36 : decode cX9_settle 36 = .ok (.bipush 11, 2) := by decide +kernel
theorem dX9_settle_38 : decode cX9_settle 38 = .ok (.if_icmp .ne 38, 3) := by decide +kernel
theorem dX9_settle_41 : decode cX9_settle 41 = .ok (.aload_n 0, 1) := by decide +kernel
theorem dX9_settle_42 : decode cX9_settle 42 = .ok (.getfield 44, 3) := by decide +kernel
theorem dX9_settle_45 : decode cX9_settle 45 = .ok (.getfield 74, 3) := by decide +kernel
theorem dX9_settle_48 : decode cX9_settle 48 = .ok (.ifCond .ne 28, 3) := by decide +kernel
theorem dX9_settle_51 : decode cX9_settle 51 = .ok (.aload_n 0, 1) := by decide +kernel
theorem dX9_settle_52 : decode cX9_settle 52 = .ok (.getfield 53, 3) := by decide +kernel
theorem dX9_settle_55 : decode cX9_settle 55 = .ok (.invokevirtual 199, 3) := by decide +kernel
theorem dX9_settle_58 : decode cX9_settle 58 = .ok (.aload_n 0, 1) := by decide +kernel
theorem dX9_settle_59 : decode cX9_settle 59 = .ok (.getfield 35, 3) := by decide +kernel
theorem dX9_settle_62 : decode cX9_settle 62 = .ok (.dup, 1) := by decide +kernel
theorem dX9_settle_63 : decode cX9_settle 63 = .ok (.getfield 134, 3) := by decide +kernel
theorem dX9_settle_66 : decode cX9_settle 66 = .ok (.ldc2_w 202, 3) := by decide +kernel
theorem dX9_settle_69 : decode cX9_settle 69 = .ok (.ladd, 1) := by decide +kernel
theorem dX9_settle_70 : decode cX9_settle 70 = .ok (.putfield 134, 3) := by decide +kernel
theorem dX9_settle_73 : decode cX9_settle 73 = .ok (.goto 13, 3) := by decide +kernel
theorem dX9_settle_76 : decode cX9_settle 76 = .ok (.iload_n 1, 1) := by decide +kernel
theorem dX9_settle_77 : decode cX9_settle 77 = .ok (.iconst (-1), 1) := by decide +kernel
theorem dX9_settle_78 : decode cX9_settle 78 = .ok (.if_icmp .eq 8, 3) := by decide +kernel
theorem dX9_settle_81 : decode cX9_settle 81 = .ok (.aload_n 0, 1) := by decide +kernel
theorem dX9_settle_82 : decode cX9_settle 82 = .ok (.iload_n 1, 1) := by decide +kernel
theorem dX9_settle_83 : decode cX9_settle 83 = .ok (.invokevirtual 204, 3) := by decide +kernel
theorem dX9_settle_86 : decode cX9_settle 86 = .ok (.return_, 1) := by decide +kernel
theorem dX9_halt_0 : decode cX9_halt 0 = .ok (.aload_n 0, 1) := by decide +kernel
theorem dX9_halt_1 : decode cX9_halt 1 = .ok (.iload_n 1, 1) := by decide +kernel
theorem dX9_halt_2 : decode cX9_halt 2 = .ok (.putfield 61, 3) := by decide +kernel
theorem dX9_halt_5 : decode cX9_halt 5 = .ok (.aload_n 0, 1) := by decide +kernel
theorem dX9_halt_6 : decode cX9_halt 6 = .ok (.aload_n 0, 1) := by decide +kernel
theorem dX9_halt_7 : decode cX9_halt 7 = .ok (.getfield 44, 3) := by decide +kernel
theorem dX9_halt_10 : decode cX9_halt 10 = .ok (.getfield 207, 3) := by decide +kernel
theorem dX9_halt_13 : decode cX9_halt 13 = .ok (.putfield 77, 3) := by decide +kernel
theorem dX9_halt_16 : decode cX9_halt 16 = .ok (.aload_n 0, 1) := by decide +kernel
theorem dX9_halt_17 : decode cX9_halt 17 = .ok (.iconst 1, 1) := by decide +kernel
theorem dX9_halt_18 : decode cX9_halt 18 = .ok (.putfield 57, 3) := by decide +kernel
theorem dX9_halt_21 : decode cX9_halt 21 = .ok (.aload_n 0, 1) := by decide +kernel
theorem dX9_halt_22 : decode cX9_halt 22 = .ok (.getfield 44, 3) := by decide +kernel
theorem dX9_halt_25 : decode cX9_halt 25 = .ok (.getfield 74, 3) := by decide +kernel
theorem dX9_halt_28 : decode cX9_halt 28 = .ok (.iconst 3, 1) := by decide +kernel
theorem dX9_halt_29 : decode cX9_halt 29 = .ok (.if_icmp .ne 30, 3) := by decide +kernel
theorem dX9_halt_32 : decode cX9_halt 32 = .ok (.aload_n 0, 1) := by decide +kernel
theorem dX9_halt_33 : decode cX9_halt 33 = .ok (.iconst 2, 1) := by decide +kernel
theorem dX9_halt_34 : decode cX9_halt 34 = .ok (.putfield 57, 3) := by decide +kernel
theorem dX9_halt_37 : decode cX9_halt 37 = .ok (.aload_n 0, 1) := by decide +kernel
theorem dX9_halt_38 : decode cX9_halt 38 = .ok (.getfield 28, 3) := by decide +kernel
theorem dX9_halt_41 : decode cX9_halt 41 = .ok (.aload_n 0, 1) := by decide +kernel
theorem dX9_halt_42 : decode cX9_halt 42 = .ok (.getfield 35, 3) := by decide +kernel
theorem dX9_halt_45 : decode cX9_halt 45 = .ok (.getfield 134, 3) := by decide +kernel
theorem dX9_halt_48 : decode cX9_halt 48 = .ok (.iload_n 1, 1) := by decide +kernel
theorem dX9_halt_49 : decode cX9_halt 49 = .ok (.aload_n 0, 1) := by decide +kernel
theorem dX9_halt_50 : decode cX9_halt 50 = .ok (.getfield 44, 3) := by decide +kernel
theorem dX9_halt_53 : decode cX9_halt 53 = .ok (.getfield 207, 3) := by decide +kernel
theorem dX9_halt_56 : decode cX9_halt 56 = .ok (.invokevirtual 210, 3) := by decide +kernel
theorem dX9_halt_59 : decode cX9_halt 59 = .ok (.return_, 1) := by decide +kernel
theorem dX10_init_0 : decode cX10_init 0 = .ok (.aload_n 0, 1) := by decide +kernel
theorem dX10_init_1 : decode cX10_init 1 = .ok (.invokespecial 1, 3) := by decide +kernel
theorem dX10_init_4 : decode cX10_init 4 = .ok (.aload_n 0, 1) := by decide +kernel
theorem dX10_init_5 : decode cX10_init 5 = .ok (.ldc 7, 2) := by decide +kernel
theorem dX10_init_7 : decode cX10_init 7 = .ok (.newarray .byte, 2) := by decide +kernel
theorem dX10_init_9 : decode cX10_init 9 = .ok (.putfield 8, 3) := by decide +kernel
theorem dX10_init_12 : decode cX10_init 12 = .ok (.aload_n 0, 1) := by decide +kernel
theorem dX10_init_13 : decode cX10_init 13 = .ok (.sipush 224, 3) := by decide +kernel
theorem dX10_init_16 : decode cX10_init 16 = .ok (.newarray .long, 2) := by decide +kernel
theorem dX10_init_18 : decode cX10_init 18 = .ok (.putfield 14, 3) := by decide +kernel
theorem dX10_init_21 : decode cX10_init 21 = .ok (.aload_n 0, 1) := by decide +kernel
theorem dX10_init_22 : decode cX10_init 22 = .ok (.bipush 7, 2) := by decide +kernel
theorem dX10_init_24 : decode cX10_init 24 = .ok (.newarray .long, 2) := by decide +kernel
theorem dX10_init_26 : decode cX10_init 26 = .ok (.putfield 18, 3) := by decide +kernel
theorem dX10_init_29 : decode cX10_init 29 = .ok (.aload_n 0, 1) := by decide +kernel
theorem dX10_init_30 : decode cX10_init 30 = .ok (.iconst 1, 1) := by decide +kernel
theorem dX10_init_31 : decode cX10_init 31 = .ok (.putfield 21, 3) := by decide +kernel
theorem dX10_init_34 : decode cX10_init 34 = .ok (.aload_n 0, 1) := by decide +kernel
theorem dX10_init_35 : decode cX10_init 35 = .ok (.iconst (-1), 1) := by decide +kernel
theorem dX10_init_36 : decode cX10_init 36 = .ok (.putfield 25, 3) := by decide +kernel
theorem dX10_init_39 : decode cX10_init 39 = .ok (.aload_n 0, 1) := by decide +kernel
theorem dX10_init_40 : decode cX10_init 40 = .ok (.iconst (-1), 1) := by decide +kernel
theorem dX10_init_41 : decode cX10_init 41 = .ok (.putfield 29, 3) := by decide +kernel
theorem dX10_init_44 : decode cX10_init 44 = .ok (.aload_n 0, 1) := by decide +kernel
theorem dX10_init_45 : decode cX10_init 45 = .ok (.bipush 16, 2) := by decide +kernel
theorem dX10_init_47 : decode cX10_init 47 = .ok (.newarray .int, 2) := by decide +kernel
theorem dX10_init_49 : decode cX10_init 49 = .ok (.putfield 32, 3) := by decide +kernel
theorem dX10_init_52 : decode cX10_init 52 = .ok (.aload_n 0, 1) := by decide +kernel
theorem dX10_init_53 : decode cX10_init 53 = .ok (.bipush 16, 2) := by decide +kernel
theorem dX10_init_55 : decode cX10_init 55 = .ok (.newarray .long, 2) := by decide +kernel
theorem dX10_init_57 : decode cX10_init 57 = .ok (.putfield 36, 3) := by decide +kernel
theorem dX10_init_60 : decode cX10_init 60 = .ok (.aload_n 0, 1) := by decide +kernel
theorem dX10_init_61 : decode cX10_init 61 = .ok (.bipush 6, 2) := by decide +kernel
theorem dX10_init_63 : decode cX10_init 63 = .ok (.newarray .int, 2) := by decide +kernel
theorem dX10_init_65 : decode cX10_init 65 = .ok (.putfield 39, 3) := by decide +kernel
theorem dX10_init_68 : decode cX10_init 68 = .ok (.aload_n 0, 1) := by decide +kernel
theorem dX10_init_69 : decode cX10_init 69 = .ok (.bipush 6, 2) := by decide +kernel
theorem dX10_init_71 : decode cX10_init 71 = .ok (.newarray .int, 2) := by decide +kernel
theorem dX10_init_73 : decode cX10_init 73 = .ok (.putfield 42, 3) := by decide +kernel
theorem dX10_init_76 : decode cX10_init 76 = .ok (.aload_n 0, 1) := by decide +kernel
theorem dX10_init_77 : decode cX10_init 77 = .ok (.bipush 6, 2) := by decide +kernel
theorem dX10_init_79 : decode cX10_init 79 = .ok (.newarray .int, 2) := by decide +kernel
theorem dX10_init_81 : decode cX10_init 81 = .ok (.putfield 45, 3) := by decide +kernel
theorem dX10_init_84 : decode cX10_init 84 = .ok (.aload_n 0, 1) := by decide +kernel
theorem dX10_init_85 : decode cX10_init 85 = .ok (.bipush 6, 2) := by decide +kernel
theorem dX10_init_87 : decode cX10_init 87 = .ok (.newarray .int, 2) := by decide +kernel
theorem dX10_init_89 : decode cX10_init 89 = .ok (.putfield 48, 3) := by decide +kernel
theorem dX10_init_92 : decode cX10_init 92 = .ok (.aload_n 0, 1) := by decide +kernel
theorem dX10_init_93 : decode cX10_init 93 = .ok (.bipush 6, 2) := by decide +kernel
theorem dX10_init_95 : decode cX10_init 95 = .ok (.newarray .int, 2) := by decide +kernel
theorem dX10_init_97 : decode cX10_init 97 = .ok (.putfield 51, 3) := by decide +kernel
theorem dX10_init_100 : decode cX10_init 100 = .ok (.aload_n 0, 1) := by decide +kernel
theorem dX10_init_101 : decode cX10_init 101 = .ok (.bipush 6, 2) := by decide +kernel
theorem dX10_init_103 : decode cX10_init 103 = .ok (.newarray .int, 2) := by decide +kernel
theorem dX10_init_105 : decode cX10_init 105 = .ok (.putfield 54, 3) := by decide +kernel
theorem dX10_init_108 : decode cX10_init 108 = .ok (.aload_n 0, 1) := by decide +kernel
theorem dX10_init_109 : decode cX10_init 109 = .ok (.bipush 6, 2) := by decide +kernel
theorem dX10_init_111 : decode cX10_init 111 = .ok (.newarray .int, 2) := by decide +kernel
theorem dX10_init_113 : decode cX10_init 113 = .ok (.putfield 57, 3) := by decide +kernel
theorem dX10_init_116 : decode cX10_init 116 = .ok (.aload_n 0, 1) := by decide +kernel
theorem dX10_init_117 : decode cX10_init 117 = .ok (.bipush 6, 2) := by decide +kernel
theorem dX10_init_119 : decode cX10_init 119 = .ok (.newarray .int, 2) := by decide +kernel
theorem dX10_init_121 : decode cX10_init 121 = .ok (.putfield 60, 3) := by decide +kernel
theorem dX10_init_124 : decode cX10_init 124 = .ok (.aload_n 0, 1) := by decide +kernel
theorem dX10_init_125 : decode cX10_init 125 = .ok (.bipush 6, 2) := by decide +kernel
theorem dX10_init_127 : decode cX10_init 127 = .ok (.newarray .long, 2) := by decide +kernel
theorem dX10_init_129 : decode cX10_init 129 = .ok (.putfield 63, 3) := by decide +kernel
theorem dX10_init_132 : decode cX10_init 132 = .ok (.aload_n 0, 1) := by decide +kernel
theorem dX10_init_133 : decode cX10_init 133 = .ok (.bipush 16, 2) := by decide +kernel
theorem dX10_init_135 : decode cX10_init 135 = .ok (.newarray .long, 2) := by decide +kernel
theorem dX10_init_137 : decode cX10_init 137 = .ok (.putfield 66, 3) := by decide +kernel
theorem dX10_init_140 : decode cX10_init 140 = .ok (.aload_n 0, 1) := by decide +kernel
theorem dX10_init_141 : decode cX10_init 141 = .ok (.bipush 16, 2) := by decide +kernel
theorem dX10_init_143 : decode cX10_init 143 = .ok (.newarray .long, 2) := by decide +kernel
theorem dX10_init_145 : decode cX10_init 145 = .ok (.putfield 69, 3) := by decide +kernel
theorem dX10_init_148 : decode cX10_init 148 = .ok (.aload_n 0, 1) := by decide +kernel
theorem dX10_init_149 : decode cX10_init 149 = .ok (.sipush 16384, 3) := by decide +kernel
theorem dX10_init_152 : decode cX10_init 152 = .ok (.newarray .byte, 2) := by decide +kernel
theorem dX10_init_154 : decode cX10_init 154 = .ok (.putfield 72, 3) := by decide +kernel
theorem dX10_init_157 : decode cX10_init 157 = .ok (.aload_n 0, 1) := by decide +kernel
theorem dX10_init_158 : decode cX10_init 158 = .ok (.lload_n 1, 1) := by decide +kernel
theorem dX10_init_159 : decode cX10_init 159 = .ok (.putfield 75, 3) := by decide +kernel
theorem dX10_init_162 : decode cX10_init 162 = .ok (.return_, 1) := by decide +kernel
theorem dX10_in_0 : decode cX10_in 0 = .ok (.lload_n 0, 1) := by decide +kernel
theorem dX10_in_1 : decode cX10_in 1 = .ok (.lload_n 2, 1) := by decide +kernel
theorem dX10_in_2 : decode cX10_in 2 = .ok (.lcmp, 1) := by decide +kernel
theorem dX10_in_3 : decode cX10_in 3 = .ok (.ifCond .lt 14, 3) := by decide +kernel
theorem dX10_in_6 : decode cX10_in 6 = .ok (.lload_n 0, 1) := by decide +kernel
theorem dX10_in_7 : decode cX10_in 7 = .ok (.lload 4, 2) := by decide +kernel
theorem dX10_in_9 : decode cX10_in 9 = .ok (.lcmp, 1) := by decide +kernel
theorem dX10_in_10 : decode cX10_in 10 = .ok (.ifCond .gt 7, 3) := by decide +kernel
theorem dX10_in_13 : decode cX10_in 13 = .ok (.iconst 1, 1) := by decide +kernel
theorem dX10_in_14 : decode cX10_in 14 = .ok (.goto 4, 3) := by decide +kernel
theorem dX10_in_17 : decode cX10_in 17 = .ok (.iconst 0, 1) := by decide +kernel
theorem dX10_in_18 : decode cX10_in 18 = .ok (.ireturn, 1) := by decide +kernel
theorem dX10_isLive_0 : decode cX10_isLive 0 = .ok (.aload_n 0, 1) := by decide +kernel
theorem dX10_isLive_1 : decode cX10_isLive 1 = .ok (.getfield 39, 3) := by decide +kernel
theorem dX10_isLive_4 : decode cX10_isLive 4 = .ok (.iload_n 1, 1) := by decide +kernel
theorem dX10_isLive_5 : decode cX10_isLive 5 = .ok (.iaload, 1) := by decide +kernel
theorem dX10_isLive_6 : decode cX10_isLive 6 = .ok (.ifCond .eq 7, 3) := by decide +kernel
theorem dX10_isLive_9 : decode cX10_isLive 9 = .ok (.iconst 1, 1) := by decide +kernel
theorem dX10_isLive_10 : decode cX10_isLive 10 = .ok (.goto 4, 3) := by decide +kernel
theorem dX10_isLive_13 : decode cX10_isLive 13 = .ok (.iconst 0, 1) := by decide +kernel
theorem dX10_isLive_14 : decode cX10_isLive 14 = .ok (.ireturn, 1) := by decide +kernel
theorem dX10_reset_0 : decode cX10_reset 0 = .ok (.iconst 0, 1) := by decide +kernel
theorem dX10_reset_1 : decode cX10_reset 1 = .ok (.istore_n 3, 1) := by decide +kernel
theorem dX10_reset_2 : decode cX10_reset 2 = .ok (.iload_n 3, 1) := by decide +kernel
theorem dX10_reset_3 : decode cX10_reset 3 = .ok (.bipush 6, 2) := by decide +kernel
theorem dX10_reset_5 : decode cX10_reset 5 = .ok (.if_icmp .ge 29, 3) := by decide +kernel
theorem dX10_reset_8 : decode cX10_reset 8 = .ok (.aload_n 0, 1) := by decide +kernel
theorem dX10_reset_9 : decode cX10_reset 9 = .ok (.iload_n 3, 1) := by decide +kernel
theorem dX10_reset_10 : decode cX10_reset 10 = .ok (.invokevirtual 79, 3) := by decide +kernel
theorem dX10_reset_13 : decode cX10_reset 13 = .ok (.ifCond .eq 8, 3) := by decide +kernel
theorem dX10_reset_16 : decode cX10_reset 16 = .ok (.aload_n 0, 1) := by decide +kernel
theorem dX10_reset_17 : decode cX10_reset 17 = .ok (.iload_n 3, 1) := by decide +kernel
theorem dX10_reset_18 : decode cX10_reset 18 = .ok (.invokevirtual 83, 3) := by decide +kernel
theorem dX10_reset_21 : decode cX10_reset 21 = .ok (.aload_n 0, 1) := by decide +kernel
theorem dX10_reset_22 : decode cX10_reset 22 = .ok (.getfield 39, 3) := by decide +kernel
theorem dX10_reset_25 : decode cX10_reset 25 = .ok (.iload_n 3, 1) := by decide +kernel
theorem dX10_reset_26 : decode cX10_reset 26 = .ok (.iconst 0, 1) := by decide +kernel
theorem dX10_reset_27 : decode cX10_reset 27 = .ok (.iastore, 1) := by decide +kernel
theorem dX10_reset_28 : decode cX10_reset 28 = .ok (.iinc 3 1, 3) := by decide +kernel
theorem dX10_reset_31 : decode cX10_reset 31 = .ok (.goto (-29), 3) := by decide +kernel
theorem dX10_reset_34 : decode cX10_reset 34 = .ok (.iconst 0, 1) := by decide +kernel
theorem dX10_reset_35 : decode cX10_reset 35 = .ok (.istore_n 3, 1) := by decide +kernel
theorem dX10_reset_36 : decode cX10_reset 36 = .ok (.iload_n 3, 1) := by decide +kernel
theorem dX10_reset_37 : decode cX10_reset 37 = .ok (.sipush 224, 3) := by decide +kernel
theorem dX10_reset_40 : decode cX10_reset 40 = .ok (.if_icmp .ge 16, 3) := by decide +kernel
theorem dX10_reset_43 : decode cX10_reset 43 = .ok (.aload_n 0, 1) := by decide +kernel
theorem dX10_reset_44 : decode cX10_reset 44 = .ok (.getfield 14, 3) := by decide +kernel
theorem dX10_reset_47 : decode cX10_reset 47 = .ok (.iload_n 3, 1) := by decide +kernel
theorem dX10_reset_48 : decode cX10_reset 48 = .ok (.lconst 0, 1) := by decide +kernel
theorem dX10_reset_49 : decode cX10_reset 49 = .ok (.lastore, 1) := by decide +kernel
theorem dX10_reset_50 : decode cX10_reset 50 = .ok (.iinc 3 1, 3) := by decide +kernel
theorem dX10_reset_53 : decode cX10_reset 53 = .ok (.goto (-17), 3) := by decide +kernel
theorem dX10_reset_56 : decode cX10_reset 56 = .ok (.aload_n 0, 1) := by decide +kernel
theorem dX10_reset_57 : decode cX10_reset 57 = .ok (.getfield 18, 3) := by decide +kernel
theorem dX10_reset_60 : decode cX10_reset 60 = .ok (.bipush 6, 2) := by decide +kernel
theorem dX10_reset_62 : decode cX10_reset 62 = .ok (.lload_n 1, 1) := by decide +kernel
theorem dX10_reset_63 : decode cX10_reset 63 = .ok (.lastore, 1) := by decide +kernel
theorem dX10_reset_64 : decode cX10_reset 64 = .ok (.aload_n 0, 1) := by decide +kernel
theorem dX10_reset_65 : decode cX10_reset 65 = .ok (.iconst 1, 1) := by decide +kernel
theorem dX10_reset_66 : decode cX10_reset 66 = .ok (.putfield 21, 3) := by decide +kernel
theorem dX10_reset_69 : decode cX10_reset 69 = .ok (.aload_n 0, 1) := by decide +kernel
theorem dX10_reset_70 : decode cX10_reset 70 = .ok (.iconst 0, 1) := by decide +kernel
theorem dX10_reset_71 : decode cX10_reset 71 = .ok (.putfield 87, 3) := by decide +kernel
theorem dX10_reset_74 : decode cX10_reset 74 = .ok (.aload_n 0, 1) := by decide +kernel
theorem dX10_reset_75 : decode cX10_reset 75 = .ok (.iconst (-1), 1) := by decide +kernel
theorem dX10_reset_76 : decode cX10_reset 76 = .ok (.putfield 25, 3) := by decide +kernel
theorem dX10_reset_79 : decode cX10_reset 79 = .ok (.aload_n 0, 1) := by decide +kernel
theorem dX10_reset_80 : decode cX10_reset 80 = .ok (.lconst 0, 1) := by decide +kernel
theorem dX10_reset_81 : decode cX10_reset 81 = .ok (.putfield 90, 3) := by decide +kernel
theorem dX10_reset_84 : decode cX10_reset 84 = .ok (.aload_n 0, 1) := by decide +kernel
theorem dX10_reset_85 : decode cX10_reset 85 = .ok (.iconst (-1), 1) := by decide +kernel
theorem dX10_reset_86 : decode cX10_reset 86 = .ok (.putfield 29, 3) := by decide +kernel
theorem dX10_reset_89 : decode cX10_reset 89 = .ok (.aload_n 0, 1) := by decide +kernel
theorem dX10_reset_90 : decode cX10_reset 90 = .ok (.iconst 0, 1) := by decide +kernel
theorem dX10_reset_91 : decode cX10_reset 91 = .ok (.putfield 93, 3) := by decide +kernel
theorem dX10_reset_94 : decode cX10_reset 94 = .ok (.aload_n 0, 1) := by decide +kernel
theorem dX10_reset_95 : decode cX10_reset 95 = .ok (.iconst 0, 1) := by decide +kernel
theorem dX10_reset_96 : decode cX10_reset 96 = .ok (.putfield 96, 3) := by decide +kernel
theorem dX10_reset_99 : decode cX10_reset 99 = .ok (.aload_n 0, 1) := by decide +kernel
theorem dX10_reset_100 : decode cX10_reset 100 = .ok (.iconst 0, 1) := by decide +kernel
theorem dX10_reset_101 : decode cX10_reset 101 = .ok (.putfield 99, 3) := by decide +kernel
theorem dX10_reset_104 : decode cX10_reset 104 = .ok (.aload_n 0, 1) := by decide +kernel
theorem dX10_reset_105 : decode cX10_reset 105 = .ok (.iconst 0, 1) := by decide +kernel
theorem dX10_reset_106 : decode cX10_reset 106 = .ok (.putfield 102, 3) := by decide +kernel
theorem dX10_reset_109 : decode cX10_reset 109 = .ok (.aload_n 0, 1) := by decide +kernel
theorem dX10_reset_110 : decode cX10_reset 110 = .ok (.iconst 0, 1) := by decide +kernel
theorem dX10_reset_111 : decode cX10_reset 111 = .ok (.putfield 105, 3) := by decide +kernel
theorem dX10_reset_114 : decode cX10_reset 114 = .ok (.aload_n 0, 1) := by decide +kernel
theorem dX10_reset_115 : decode cX10_reset 115 = .ok (.iconst 0, 1) := by decide +kernel
theorem dX10_reset_116 : decode cX10_reset 116 = .ok (.putfield 108, 3) := by decide +kernel
theorem dX10_reset_119 : decode cX10_reset 119 = .ok (.aload_n 0, 1) := by decide +kernel
theorem dX10_reset_120 : decode cX10_reset 120 = .ok (.lconst 0, 1) := by decide +kernel
theorem dX10_reset_121 : decode cX10_reset 121 = .ok (.putfield 111, 3) := by decide +kernel
theorem dX10_reset_124 : decode cX10_reset 124 = .ok (.aload_n 0, 1) := by decide +kernel
theorem dX10_reset_125 : decode cX10_reset 125 = .ok (.lconst 0, 1) := by decide +kernel
theorem dX10_reset_126 : decode cX10_reset 126 = .ok (.putfield 114, 3) := by decide +kernel
theorem dX10_reset_129 : decode cX10_reset 129 = .ok (.aload_n 0, 1) := by decide +kernel
theorem dX10_reset_130 : decode cX10_reset 130 = .ok (.lconst 0, 1) := by decide +kernel
theorem dX10_reset_131 : decode cX10_reset 131 = .ok (.putfield 117, 3) := by decide +kernel
theorem dX10_reset_134 : decode cX10_reset 134 = .ok (.aload_n 0, 1) := by decide +kernel
theorem dX10_reset_135 : decode cX10_reset 135 = .ok (.lconst 0, 1) := by decide +kernel
theorem dX10_reset_136 : decode cX10_reset 136 = .ok (.putfield 120, 3) := by decide +kernel
theorem dX10_reset_139 : decode cX10_reset 139 = .ok (.aload_n 0, 1) := by decide +kernel
theorem dX10_reset_140 : decode cX10_reset 140 = .ok (.lconst 0, 1) := by decide +kernel
theorem dX10_reset_141 : decode cX10_reset 141 = .ok (.putfield 123, 3) := by decide +kernel
theorem dX10_reset_144 : decode cX10_reset 144 = .ok (.iconst 0, 1) := by decide +kernel
theorem dX10_reset_145 : decode cX10_reset 145 = .ok (.istore_n 3, 1) := by decide +kernel
theorem dX10_reset_146 : decode cX10_reset 146 = .ok (.iload_n 3, 1) := by decide +kernel
theorem dX10_reset_147 : decode cX10_reset 147 = .ok (.bipush 16, 2) := by decide +kernel
theorem dX10_reset_149 : decode cX10_reset 149 = .ok (.if_icmp .ge 23, 3) := by decide +kernel
theorem dX10_reset_152 : decode cX10_reset 152 = .ok (.aload_n 0, 1) := by decide +kernel
theorem dX10_reset_153 : decode cX10_reset 153 = .ok (.getfield 32, 3) := by decide +kernel
theorem dX10_reset_156 : decode cX10_reset 156 = .ok (.iload_n 3, 1) := by decide +kernel
theorem dX10_reset_157 : decode cX10_reset 157 = .ok (.iconst 0, 1) := by decide +kernel
theorem dX10_reset_158 : decode cX10_reset 158 = .ok (.iastore, 1) := by decide +kernel
theorem dX10_reset_159 : decode cX10_reset 159 = .ok (.aload_n 0, 1) := by decide +kernel
theorem dX10_reset_160 : decode cX10_reset 160 = .ok (.getfield 36, 3) := by decide +kernel
theorem dX10_reset_163 : decode cX10_reset 163 = .ok (.iload_n 3, 1) := by decide +kernel
theorem dX10_reset_164 : decode cX10_reset 164 = .ok (.lconst 0, 1) := by decide +kernel
theorem dX10_reset_165 : decode cX10_reset 165 = .ok (.lastore, 1) := by decide +kernel
theorem dX10_reset_166 : decode cX10_reset 166 = .ok (.iinc 3 1, 3) := by decide +kernel
theorem dX10_reset_169 : decode cX10_reset 169 = .ok (.goto (-23), 3) := by decide +kernel
theorem dX10_reset_172 : decode cX10_reset 172 = .ok (.aload_n 0, 1) := by decide +kernel
theorem dX10_reset_173 : decode cX10_reset 173 = .ok (.iconst 0, 1) := by decide +kernel
theorem dX10_reset_174 : decode cX10_reset 174 = .ok (.putfield 126, 3) := by decide +kernel
theorem dX10_reset_177 : decode cX10_reset 177 = .ok (.return_, 1) := by decide +kernel
theorem dX10_clearMemory_0 : decode cX10_clearMemory 0 = .ok (.iconst 0, 1) := by decide +kernel
theorem dX10_clearMemory_1 : decode cX10_clearMemory 1 = .ok (.istore_n 2, 1) := by decide +kernel
theorem dX10_clearMemory_2 : decode cX10_clearMemory 2 = .ok (.iload_n 2, 1) := by decide +kernel
theorem dX10_clearMemory_3 : decode cX10_clearMemory 3 = .ok (.aload_n 0, 1) := by decide +kernel
theorem dX10_clearMemory_4 : decode cX10_clearMemory 4 = .ok (.getfield 45, 3) := by decide +kernel
theorem dX10_clearMemory_7 : decode cX10_clearMemory 7 = .ok (.iload_n 1, 1) := by decide +kernel
theorem dX10_clearMemory_8 : decode cX10_clearMemory 8 = .ok (.iaload, 1) := by decide +kernel
theorem dX10_clearMemory_9 : decode cX10_clearMemory 9 = .ok (.if_icmp .ge 23, 3) := by decide +kernel
theorem dX10_clearMemory_12 : decode cX10_clearMemory 12 = .ok (.aload_n 0, 1) := by decide +kernel
theorem dX10_clearMemory_13 : decode cX10_clearMemory 13 = .ok (.getfield 8, 3) := by decide +kernel
theorem dX10_clearMemory_16 : decode cX10_clearMemory 16 = .ok (.aload_n 0, 1) := by decide +kernel
theorem dX10_clearMemory_17 : decode cX10_clearMemory 17 = .ok (.getfield 42, 3) := by decide +kernel
theorem dX10_clearMemory_20 : decode cX10_clearMemory 20 = .ok (.iload_n 1, 1) := by decide +kernel
theorem dX10_clearMemory_21 : decode cX10_clearMemory 21 = .ok (.iaload, 1) := by decide +kernel
theorem dX10_clearMemory_22 : decode cX10_clearMemory 22 = .ok (.iload_n 2, 1) := by decide +kernel
theorem dX10_clearMemory_23 : decode cX10_clearMemory 23 = .ok (.iadd, 1) := by decide +kernel
theorem dX10_clearMemory_24 : decode cX10_clearMemory 24 = .ok (.iconst 0, 1) := by decide +kernel
theorem dX10_clearMemory_25 : decode cX10_clearMemory 25 = .ok (.bastore, 1) := by decide +kernel
theorem dX10_clearMemory_26 : decode cX10_clearMemory 26 = .ok (.iinc 2 1, 3) := by decide +kernel
theorem dX10_clearMemory_29 : decode cX10_clearMemory 29 = .ok (.goto (-27), 3) := by decide +kernel
theorem dX10_clearMemory_32 : decode cX10_clearMemory 32 = .ok (.return_, 1) := by decide +kernel
theorem dX10_isOpen_0 : decode cX10_isOpen 0 = .ok (.iload_n 1, 1) := by decide +kernel
theorem dX10_isOpen_1 : decode cX10_isOpen 1 = .ok (.ifCond .lt 20, 3) := by decide +kernel
theorem dX10_isOpen_4 : decode cX10_isOpen 4 = .ok (.iload_n 1, 1) := by decide +kernel
theorem dX10_isOpen_5 : decode cX10_isOpen 5 = .ok (.ldc 7, 2) := by decide +kernel
theorem dX10_isOpen_7 : decode cX10_isOpen 7 = .ok (.if_icmp .ge 14, 3) := by decide +kernel
theorem dX10_isOpen_10 : decode cX10_isOpen 10 = .ok (.iload_n 1, 1) := by decide +kernel
theorem dX10_isOpen_11 : decode cX10_isOpen 11 = .ok (.bipush 8, 2) := by decide +kernel
theorem dX10_isOpen_13 : decode cX10_isOpen 13 = .ok (.irem, 1) := by decide +kernel
theorem dX10_isOpen_14 : decode cX10_isOpen 14 = .ok (.ifCond .ne 7, 3) := by decide +kernel
theorem dX10_isOpen_17 : decode cX10_isOpen 17 = .ok (.iconst 1, 1) := by decide +kernel
theorem dX10_isOpen_18 : decode cX10_isOpen 18 = .ok (.goto 4, 3) := by decide +kernel
theorem dX10_isOpen_21 : decode cX10_isOpen 21 = .ok (.iconst 0, 1) := by decide +kernel
theorem dX10_isOpen_22 : decode cX10_isOpen 22 = .ok (.istore_n 2, 1) := by decide +kernel
theorem dX10_isOpen_23 : decode cX10_isOpen 23 = .ok (.iconst 0, 1) := by decide +kernel
theorem dX10_isOpen_24 : decode cX10_isOpen 24 = .ok (.istore_n 3, 1) := by decide +kernel
theorem dX10_isOpen_25 : decode cX10_isOpen 25 = .ok (.iload_n 3, 1) := by decide +kernel
theorem dX10_isOpen_26 : decode cX10_isOpen 26 = .ok (.bipush 6, 2) := by decide +kernel
theorem dX10_isOpen_28 : decode cX10_isOpen 28 = .ok (.if_icmp .ge 54, 3) := by decide +kernel
theorem dX10_isOpen_31 : decode cX10_isOpen 31 = .ok (.iload_n 2, 1) := by decide +kernel
theorem dX10_isOpen_32 : decode cX10_isOpen 32 = .ok (.ifCond .eq 50, 3) := by decide +kernel
theorem dX10_isOpen_35 : decode cX10_isOpen 35 = .ok (.aload_n 0, 1) := by decide +kernel
theorem dX10_isOpen_36 : decode cX10_isOpen 36 = .ok (.iload_n 3, 1) := by decide +kernel
theorem dX10_isOpen_37 : decode cX10_isOpen 37 = .ok (.invokevirtual 79, 3) := by decide +kernel
theorem dX10_isOpen_40 : decode cX10_isOpen 40 = .ok (.ifCond .eq 30, 3) := by decide +kernel
theorem dX10_isOpen_43 : decode cX10_isOpen 43 = .ok (.iload_n 1, 1) := by decide +kernel
theorem dX10_isOpen_44 : decode cX10_isOpen 44 = .ok (.aload_n 0, 1) := by decide +kernel
theorem dX10_isOpen_45 : decode cX10_isOpen 45 = .ok (.getfield 42, 3) := by decide +kernel
theorem dX10_isOpen_48 : decode cX10_isOpen 48 = .ok (.iload_n 3, 1) := by decide +kernel
theorem dX10_isOpen_49 : decode cX10_isOpen 49 = .ok (.iaload, 1) := by decide +kernel
theorem dX10_isOpen_50 : decode cX10_isOpen 50 = .ok (.if_icmp .lt 20, 3) := by decide +kernel
theorem dX10_isOpen_53 : decode cX10_isOpen 53 = .ok (.iload_n 1, 1) := by decide +kernel
theorem dX10_isOpen_54 : decode cX10_isOpen 54 = .ok (.aload_n 0, 1) := by decide +kernel
theorem dX10_isOpen_55 : decode cX10_isOpen 55 = .ok (.getfield 42, 3) := by decide +kernel
theorem dX10_isOpen_58 : decode cX10_isOpen 58 = .ok (.iload_n 3, 1) := by decide +kernel
theorem dX10_isOpen_59 : decode cX10_isOpen 59 = .ok (.iaload, 1) := by decide +kernel
theorem dX10_isOpen_60 : decode cX10_isOpen 60 = .ok (.aload_n 0, 1) := by decide +kernel
theorem dX10_isOpen_61 : decode cX10_isOpen 61 = .ok (.getfield 45, 3) := by decide +kernel
theorem dX10_isOpen_64 : decode cX10_isOpen 64 = .ok (.iload_n 3, 1) := by decide +kernel
theorem dX10_isOpen_65 : decode cX10_isOpen 65 = .ok (.iaload, 1) := by decide +kernel
theorem dX10_isOpen_66 : decode cX10_isOpen 66 = .ok (.iadd, 1) := by decide +kernel
theorem dX10_isOpen_67 : decode cX10_isOpen 67 = .ok (.if_icmp .lt 7, 3) := by decide +kernel
theorem dX10_isOpen_70 : decode cX10_isOpen 70 = .ok (.iconst 1, 1) := by decide +kernel
theorem dX10_isOpen_71 : decode cX10_isOpen 71 = .ok (.goto 4, 3) := by decide +kernel
theorem dX10_isOpen_74 : decode cX10_isOpen 74 = .ok (.iconst 0, 1) := by decide +kernel
theorem dX10_isOpen_75 : decode cX10_isOpen 75 = .ok (.istore_n 2, 1) := by decide +kernel
theorem dX10_isOpen_76 : decode cX10_isOpen 76 = .ok (.iinc 3 1, 3) := by decide +kernel
theorem dX10_isOpen_79 : decode cX10_isOpen 79 = .ok (.goto (-54), 3) := by decide +kernel
theorem dX10_isOpen_82 : decode cX10_isOpen 82 = .ok (.iload_n 2, 1) := by decide +kernel
theorem dX10_isOpen_83 : decode cX10_isOpen 83 = .ok (.ireturn, 1) := by decide +kernel
theorem dX10_poke_0 : decode cX10_poke 0 = .ok (.aload_n 0, 1) := by decide +kernel
theorem dX10_poke_1 : decode cX10_poke 1 = .ok (.iload_n 1, 1) := by decide +kernel
theorem dX10_poke_2 : decode cX10_poke 2 = .ok (.invokevirtual 129, 3) := by decide +kernel
theorem dX10_poke_5 : decode cX10_poke 5 = .ok (.ifCond .ne 5, 3) := by decide +kernel
theorem dX10_poke_8 : decode cX10_poke 8 = .ok (.iconst 0, 1) := by decide +kernel
theorem dX10_poke_9 : decode cX10_poke 9 = .ok (.ireturn, 1) := by decide +kernel
theorem dX10_poke_10 : decode cX10_poke 10 = .ok (.aload_n 0, 1) := by decide +kernel
theorem dX10_poke_11 : decode cX10_poke 11 = .ok (.iload_n 1, 1) := by decide +kernel
theorem dX10_poke_12 : decode cX10_poke 12 = .ok (.bipush 8, 2) := by decide +kernel
theorem dX10_poke_14 : decode cX10_poke 14 = .ok (.lload_n 2, 1) := by decide +kernel
theorem dX10_poke_15 : decode cX10_poke 15 = .ok (.invokevirtual 132, 3) := by decide +kernel
theorem dX10_poke_18 : decode cX10_poke 18 = .ok (.iconst 1, 1) := by decide +kernel
theorem dX10_poke_19 : decode cX10_poke 19 = .ok (.ireturn, 1) := by decide +kernel
theorem dX10_peek_0 : decode cX10_peek 0 = .ok (.aload_n 0, 1) := by decide +kernel
theorem dX10_peek_1 : decode cX10_peek 1 = .ok (.iload_n 1, 1) := by decide +kernel
theorem dX10_peek_2 : decode cX10_peek 2 = .ok (.invokevirtual 129, 3) := by decide +kernel
theorem dX10_peek_5 : decode cX10_peek 5 = .ok (.ifCond .eq 13, 3) := by decide +kernel
theorem dX10_peek_8 : decode cX10_peek 8 = .ok (.aload_n 0, 1) := by decide +kernel
theorem dX10_peek_9 : decode cX10_peek 9 = .ok (.iload_n 1, 1) := by decide +kernel
theorem dX10_peek_10 : decode cX10_peek 10 = .ok (.bipush 8, 2) := by decide +kernel
theorem dX10_peek_12 : decode cX10_peek 12 = .ok (.invokevirtual 136, 3) := by decide +kernel
theorem dX10_peek_15 : decode cX10_peek 15 = .ok (.goto 4, 3) := by decide +kernel
theorem dX10_peek_18 : decode cX10_peek 18 = .ok (.lconst 0, 1) := by decide +kernel
theorem dX10_peek_19 : decode cX10_peek 19 = .ok (.lreturn, 1) := by decide +kernel
theorem dX10_take_0 : decode cX10_take 0 = .ok (.lconst 0, 1) := by decide +kernel
theorem dX10_take_1 : decode cX10_take 1 = .ok (.lstore_n 3, 1) := by decide +kernel
theorem dX10_take_2 : decode cX10_take 2 = .ok (.iload_n 2, 1) := by decide +kernel
theorem dX10_take_3 : decode cX10_take 3 = .ok (.iconst 1, 1) := by decide +kernel
theorem dX10_take_4 : decode cX10_take 4 = .ok (.isub, 1) := by decide +kernel
theorem dX10_take_5 : decode cX10_take 5 = .ok (.istore 5, 2) := by decide +kernel
theorem dX10_take_7 : decode cX10_take 7 = .ok (.iload 5, 2) := by decide +kernel
theorem dX10_take_9 : decode cX10_take 9 = .ok (.ifCond .lt 29, 3) := by decide +kernel
theorem dX10_take_12 : decode cX10_take 12 = .ok (.lload_n 3, 1) := by decide +kernel
theorem dX10_take_13 : decode cX10_take 13 = .ok (.bipush 8, 2) := by decide +kernel
theorem dX10_take_15 : decode cX10_take 15 = .ok (.lshl, 1) := by decide +kernel
theorem dX10_take_16 : decode cX10_take 16 = .ok (.aload_n 0, 1) := by decide +kernel
theorem dX10_take_17 : decode cX10_take 17 = .ok (.getfield 8, 3) := by decide +kernel
theorem dX10_take_20 : decode cX10_take 20 = .ok (.iload_n 1, 1) := by decide +kernel
theorem dX10_take_21 : decode cX10_take 21 = .ok (.iload 5, 2) := by decide +kernel
theorem dX10_take_23 : decode cX10_take 23 = .ok (.iadd, 1) := by decide +kernel
theorem dX10_take_24 : decode cX10_take 24 = .ok (.baload, 1) := by decide +kernel
theorem dX10_take_25 : decode cX10_take 25 = .ok (.sipush 255, 3) := by decide +kernel
theorem dX10_take_28 : decode cX10_take 28 = .ok (.iand, 1) := by decide +kernel
theorem dX10_take_29 : decode cX10_take 29 = .ok (.i2l, 1) := by decide +kernel
theorem dX10_take_30 : decode cX10_take 30 = .ok (.lor, 1) := by decide +kernel
theorem dX10_take_31 : decode cX10_take 31 = .ok (.lstore_n 3, 1) := by decide +kernel
theorem dX10_take_32 : decode cX10_take 32 = .ok (.iinc 5 (-1), 3) := by decide +kernel
theorem dX10_take_35 : decode cX10_take 35 = .ok (.goto (-28), 3) := by decide +kernel
theorem dX10_take_38 : decode cX10_take 38 = .ok (.lload_n 3, 1) := by decide +kernel
theorem dX10_take_39 : decode cX10_take 39 = .ok (.lreturn, 1) := by decide +kernel
theorem dX10_put_0 : decode cX10_put 0 = .ok (.iconst 0, 1) := by decide +kernel
theorem dX10_put_1 : decode cX10_put 1 = .ok (.istore 5, 2) := by decide +kernel
theorem dX10_put_3 : decode cX10_put 3 = .ok (.iload 5, 2) := by decide +kernel
theorem dX10_put_5 : decode cX10_put 5 = .ok (.iload_n 2, 1) := by decide +kernel
theorem dX10_put_6 : decode cX10_put 6 = .ok (.if_icmp .ge 27, 3) := by decide +kernel
theorem dX10_put_9 : decode cX10_put 9 = .ok (.aload_n 0, 1) := by decide +kernel
theorem dX10_put_10 : decode cX10_put 10 = .ok (.getfield 8, 3) := by decide +kernel
theorem dX10_put_13 : decode cX10_put 13 = .ok (.iload_n 1, 1) := by decide +kernel
theorem dX10_put_14 : decode cX10_put 14 = .ok (.iload 5, 2) := by decide +kernel
theorem dX10_put_16 : decode cX10_put 16 = .ok (.iadd, 1) := by decide +kernel
theorem dX10_put_17 : decode cX10_put 17 = .ok (.lload_n 3, 1) := by decide +kernel
theorem dX10_put_18 : decode cX10_put 18 = .ok (.bipush 8, 2) := by decide +kernel
theorem dX10_put_20 : decode cX10_put 20 = .ok (.iload 5, 2) := by decide +kernel
theorem dX10_put_22 : decode cX10_put 22 = .ok (.imul, 1) := by decide +kernel
theorem dX10_put_23 : decode cX10_put 23 = .ok (.lshr, 1) := by decide +kernel
theorem dX10_put_24 : decode cX10_put 24 = .ok (.l2i, 1) := by decide +kernel
theorem dX10_put_25 : decode cX10_put 25 = .ok (.i2b, 1) := by decide +kernel
theorem dX10_put_26 : decode cX10_put 26 = .ok (.bastore, 1) := by decide +kernel
theorem dX10_put_27 : decode cX10_put 27 = .ok (.iinc 5 1, 3) := by decide +kernel
theorem dX10_put_30 : decode cX10_put 30 = .ok (.goto (-27), 3) := by decide +kernel
theorem dX10_put_33 : decode cX10_put 33 = .ok (.return_, 1) := by decide +kernel
theorem dX10_interrupt_0 : decode cX10_interrupt 0 = .ok (.aload_n 0, 1) := by decide +kernel
theorem dX10_interrupt_1 : decode cX10_interrupt 1 = .ok (.iconst 1, 1) := by decide +kernel
theorem dX10_interrupt_2 : decode cX10_interrupt 2 = .ok (.putfield 108, 3) := by decide +kernel
theorem dX10_interrupt_5 : decode cX10_interrupt 5 = .ok (.return_, 1) := by decide +kernel
theorem dX10_napot_0 : decode cX10_napot 0 = .ok (.iload_n 0, 1) := by decide +kernel
theorem dX10_napot_1 : decode cX10_napot 1 = .ok (.i2l, 1) := by decide +kernel
theorem dX10_napot_2 : decode cX10_napot 2 = .ok (.ldc2_w 140, 3) := by decide +kernel
theorem dX10_napot_5 : decode cX10_napot 5 = .ok (.ldiv, 1) := by decide +kernel
theorem dX10_napot_6 : decode cX10_napot 6 = .ok (.iload_n 1, 1) := by decide +kernel
theorem dX10_napot_7 : decode cX10_napot 7 = .ok (.bipush 8, 2) := by decide +kernel
theorem dX10_napot_9 : decode cX10_napot 9 = .ok (.idiv, 1) := by decide +kernel
theorem dX10_napot_10 : decode cX10_napot 10 = .ok (.i2l, 1) := by decide +kernel
theorem dX10_napot_11 : decode cX10_napot 11 = .ok (.ladd, 1) := by decide +kernel
theorem dX10_napot_12 : decode cX10_napot 12 = .ok (.lconst 1, 1) := by decide +kernel
theorem dX10_napot_13 : decode cX10_napot 13 = .ok (.lsub, 1) := by decide +kernel
theorem dX10_napot_14 : decode cX10_napot 14 = .ok (.lreturn, 1) := by decide +kernel
theorem dX10_byteOf_0 : decode cX10_byteOf 0 = .ok (.iload_n 1, 1) := by decide +kernel
theorem dX10_byteOf_1 : decode cX10_byteOf 1 = .ok (.bipush 6, 2) := by decide +kernel
theorem dX10_byteOf_3 : decode cX10_byteOf 3 = .ok (.if_icmp .ge 31, 3) := by decide +kernel
theorem dX10_byteOf_6 : decode cX10_byteOf 6 = .ok (.aload_n 0, 1) := by decide +kernel
theorem dX10_byteOf_7 : decode cX10_byteOf 7 = .ok (.iload_n 1, 1) := by decide +kernel
theorem dX10_byteOf_8 : decode cX10_byteOf 8 = .ok (.invokevirtual 79, 3) := by decide +kernel
theorem dX10_byteOf_11 : decode cX10_byteOf 11 = .ok (.ifCond .ne 7, 3) := by decide +kernel
theorem dX10_byteOf_14 : decode cX10_byteOf 14 = .ok (.iconst 0, 1) := by decide +kernel
theorem dX10_byteOf_15 : decode cX10_byteOf 15 = .ok (.goto 18, 3) := by decide +kernel
theorem dX10_byteOf_18 : decode cX10_byteOf 18 = .ok (.iload_n 1, 1) := by decide +kernel
theorem dX10_byteOf_19 : decode cX10_byteOf 19 = .ok (.aload_n 0, 1) := by decide +kernel
theorem dX10_byteOf_20 : decode cX10_byteOf 20 = .ok (.getfield 29, 3) := by decide +kernel
theorem dX10_byteOf_23 : decode cX10_byteOf 23 = .ok (.if_icmp .ne 8, 3) := by decide +kernel
theorem dX10_byteOf_26 : decode cX10_byteOf 26 = .ok (.bipush 31, 2) := by decide +kernel
theorem dX10_byteOf_28 : decode cX10_byteOf 28 = .ok (.goto 5, 3) := by decide +kernel
theorem dX10_byteOf_31 : decode cX10_byteOf 31 = .ok (.bipush 24, 2) := by decide +kernel
theorem dX10_byteOf_33 : decode cX10_byteOf 33 = .ok (.ireturn, 1) := by decide +kernel
theorem dX10_byteOf_34 : decode cX10_byteOf 34 = .ok (.iload_n 1, 1) := by decide +kernel
theorem dX10_byteOf_35 : decode cX10_byteOf 35 = .ok (.bipush 6, 2) := by decide +kernel
theorem dX10_byteOf_37 : decode cX10_byteOf 37 = .ok (.if_icmp .ne 29, 3) := by decide +kernel
theorem dX10_byteOf_40 : decode cX10_byteOf 40 = .ok (.aload_n 0, 1) := by decide +kernel
theorem dX10_byteOf_41 : decode cX10_byteOf 41 = .ok (.getfield 29, 3) := by decide +kernel
theorem dX10_byteOf_44 : decode cX10_byteOf 44 = .ok (.ifCond .lt 20, 3) := by decide +kernel
theorem dX10_byteOf_47 : decode cX10_byteOf 47 = .ok (.aload_n 0, 1) := by decide +kernel
theorem dX10_byteOf_48 : decode cX10_byteOf 48 = .ok (.getfield 54, 3) := by decide +kernel
theorem dX10_byteOf_51 : decode cX10_byteOf 51 = .ok (.aload_n 0, 1) := by decide +kernel
theorem dX10_byteOf_52 : decode cX10_byteOf 52 = .ok (.getfield 29, 3) := by decide +kernel
theorem dX10_byteOf_55 : decode cX10_byteOf 55 = .ok (.iaload, 1) := by decide +kernel
theorem dX10_byteOf_56 : decode cX10_byteOf 56 = .ok (.ifCond .le 8, 3) := by decide +kernel
theorem dX10_byteOf_59 : decode cX10_byteOf 59 = .ok (.bipush 27, 2) := by decide +kernel
theorem dX10_byteOf_61 : decode cX10_byteOf 61 = .ok (.goto 4, 3) := by decide +kernel
theorem dX10_byteOf_64 : decode cX10_byteOf 64 = .ok (.iconst 0, 1) := by decide +kernel
theorem dX10_byteOf_65 : decode cX10_byteOf 65 = .ok (.ireturn, 1) := by decide +kernel
theorem dX10_byteOf_66 : decode cX10_byteOf 66 = .ok (.iload_n 1, 1) := by decide +kernel
theorem dX10_byteOf_67 : decode cX10_byteOf 67 = .ok (.bipush 7, 2) := by decide +kernel
theorem dX10_byteOf_69 : decode cX10_byteOf 69 = .ok (.if_icmp .ne 19, 3) := by decide +kernel
theorem dX10_byteOf_72 : decode cX10_byteOf 72 = .ok (.aload_n 0, 1) := by decide +kernel
theorem dX10_byteOf_73 : decode cX10_byteOf 73 = .ok (.getfield 29, 3) := by decide +kernel
theorem dX10_byteOf_76 : decode cX10_byteOf 76 = .ok (.ifCond .lt 8, 3) := by decide +kernel
theorem dX10_byteOf_79 : decode cX10_byteOf 79 = .ok (.bipush 24, 2) := by decide +kernel
theorem dX10_byteOf_81 : decode cX10_byteOf 81 = .ok (.goto 13, 3) := by decide +kernel
theorem dX10_byteOf_84 : decode cX10_byteOf 84 = .ok (.iconst 0, 1) := by decide +kernel
theorem dX10_byteOf_85 : decode cX10_byteOf 85 = .ok (.goto 9, 3) := by decide +kernel
theorem dX10_byteOf_88 : decode cX10_byteOf 88 = .ok (.aload_n 0, 1) := by decide +kernel
theorem dX10_byteOf_89 : decode cX10_byteOf 89 = .ok (.getfield 32, 3) := by decide +kernel
theorem dX10_byteOf_92 : decode cX10_byteOf 92 = .ok (.iload_n 1, 1) := by decide +kernel
theorem dX10_byteOf_93 : decode cX10_byteOf 93 = .ok (.iaload, 1) := by decide +kernel
theorem dX10_byteOf_94 : decode cX10_byteOf 94 = .ok (.ireturn, 1) := by decide +kernel
theorem dX10_addressOf_0 : decode cX10_addressOf 0 = .ok (.iload_n 1, 1) := by decide +kernel
theorem dX10_addressOf_1 : decode cX10_addressOf 1 = .ok (.bipush 6, 2) := by decide +kernel
theorem dX10_addressOf_3 : decode cX10_addressOf 3 = .ok (.if_icmp .ge 31, 3) := by decide +kernel
theorem dX10_addressOf_6 : decode cX10_addressOf 6 = .ok (.aload_n 0, 1) := by decide +kernel
theorem dX10_addressOf_7 : decode cX10_addressOf 7 = .ok (.iload_n 1, 1) := by decide +kernel
theorem dX10_addressOf_8 : decode cX10_addressOf 8 = .ok (.invokevirtual 79, 3) := by decide +kernel
theorem dX10_addressOf_11 : decode cX10_addressOf 11 = .ok (.ifCond .eq 21, 3) := by decide +kernel
theorem dX10_addressOf_14 : decode cX10_addressOf 14 = .ok (.aload_n 0, 1) := by decide +kernel
theorem dX10_addressOf_15 : decode cX10_addressOf 15 = .ok (.getfield 42, 3) := by decide +kernel
theorem dX10_addressOf_18 : decode cX10_addressOf 18 = .ok (.iload_n 1, 1) := by decide +kernel
theorem dX10_addressOf_19 : decode cX10_addressOf 19 = .ok (.iaload, 1) := by decide +kernel
theorem dX10_addressOf_20 : decode cX10_addressOf 20 = .ok (.aload_n 0, 1) := by decide +kernel
theorem dX10_addressOf_21 : decode cX10_addressOf 21 = .ok (.getfield 45, 3) := by decide +kernel
theorem dX10_addressOf_24 : decode cX10_addressOf 24 = .ok (.iload_n 1, 1) := by decide +kernel
theorem dX10_addressOf_25 : decode cX10_addressOf 25 = .ok (.iaload, 1) := by decide +kernel
theorem dX10_addressOf_26 : decode cX10_addressOf 26 = .ok (.invokestatic 142, 3) := by decide +kernel
theorem dX10_addressOf_29 : decode cX10_addressOf 29 = .ok (.goto 4, 3) := by decide +kernel
theorem dX10_addressOf_32 : decode cX10_addressOf 32 = .ok (.lconst 0, 1) := by decide +kernel
theorem dX10_addressOf_33 : decode cX10_addressOf 33 = .ok (.lreturn, 1) := by decide +kernel
theorem dX10_addressOf_34 : decode cX10_addressOf 34 = .ok (.iload_n 1, 1) := by decide +kernel
theorem dX10_addressOf_35 : decode cX10_addressOf 35 = .ok (.bipush 6, 2) := by decide +kernel
theorem dX10_addressOf_37 : decode cX10_addressOf 37 = .ok (.if_icmp .ne 38, 3) := by decide +kernel
theorem dX10_addressOf_40 : decode cX10_addressOf 40 = .ok (.aload_n 0, 1) := by decide +kernel
theorem dX10_addressOf_41 : decode cX10_addressOf 41 = .ok (.bipush 6, 2) := by decide +kernel
theorem dX10_addressOf_43 : decode cX10_addressOf 43 = .ok (.invokevirtual 145, 3) := by decide +kernel
theorem dX10_addressOf_46 : decode cX10_addressOf 46 = .ok (.ifCond .ne 7, 3) := by decide +kernel
theorem dX10_addressOf_49 : decode cX10_addressOf 49 = .ok (.lconst 0, 1) := by decide +kernel
theorem dX10_addressOf_50 : decode cX10_addressOf 50 = .ok (.goto 24, 3) := by decide +kernel
theorem dX10_addressOf_53 : decode cX10_addressOf 53 = .ok (.aload_n 0, 1) := by decide +kernel
theorem dX10_addressOf_54 : decode cX10_addressOf 54 = .ok (.getfield 51, 3) := by decide +kernel
theorem dX10_addressOf_57 : decode cX10_addressOf 57 = .ok (.aload_n 0, 1) := by decide +kernel
theorem dX10_addressOf_58 : decode cX10_addressOf 58 = .ok (.getfield 29, 3) := by decide +kernel
theorem dX10_addressOf_61 : decode cX10_addressOf 61 = .ok (.iaload, 1) := by decide +kernel
theorem dX10_addressOf_62 : decode cX10_addressOf 62 = .ok (.aload_n 0, 1) := by decide +kernel
theorem dX10_addressOf_63 : decode cX10_addressOf 63 = .ok (.getfield 54, 3) := by decide +kernel
theorem dX10_addressOf_66 : decode cX10_addressOf 66 = .ok (.aload_n 0, 1) := by decide +kernel
theorem dX10_addressOf_67 : decode cX10_addressOf 67 = .ok (.getfield 29, 3) := by decide +kernel
theorem dX10_addressOf_70 : decode cX10_addressOf 70 = .ok (.iaload, 1) := by decide +kernel
theorem dX10_addressOf_71 : decode cX10_addressOf 71 = .ok (.invokestatic 142, 3) := by decide +kernel
theorem dX10_addressOf_74 : decode cX10_addressOf 74 = .ok (.lreturn, 1) := by decide +kernel
theorem dX10_addressOf_75 : decode cX10_addressOf 75 = .ok (.iload_n 1, 1) := by decide +kernel
theorem dX10_addressOf_76 : decode cX10_addressOf 76 = .ok (.bipush 7, 2) := by decide +kernel
theorem dX10_addressOf_78 : decode cX10_addressOf 78 = .ok (.if_icmp .ne 20, 3) := by decide +kernel
theorem dX10_addressOf_81 : decode cX10_addressOf 81 = .ok (.aload_n 0, 1) := by decide +kernel
theorem dX10_addressOf_82 : decode cX10_addressOf 82 = .ok (.getfield 29, 3) := by decide +kernel
theorem dX10_addressOf_85 : decode cX10_addressOf 85 = .ok (.ifCond .lt 9, 3) := by decide +kernel
theorem dX10_addressOf_88 : decode cX10_addressOf 88 = .ok (.ldc2_w 149, 3) := by decide +kernel
theorem dX10_addressOf_91 : decode cX10_addressOf 91 = .ok (.goto 13, 3) := by decide +kernel
theorem dX10_addressOf_94 : decode cX10_addressOf 94 = .ok (.lconst 0, 1) := by decide +kernel
theorem dX10_addressOf_95 : decode cX10_addressOf 95 = .ok (.goto 9, 3) := by decide +kernel
theorem dX10_addressOf_98 : decode cX10_addressOf 98 = .ok (.aload_n 0, 1) := by decide +kernel
theorem dX10_addressOf_99 : decode cX10_addressOf 99 = .ok (.getfield 36, 3) := by decide +kernel
theorem dX10_addressOf_102 : decode cX10_addressOf 102 = .ok (.iload_n 1, 1) := by decide +kernel
theorem dX10_addressOf_103 : decode cX10_addressOf 103 = .ok (.laload, 1) := by decide +kernel
theorem dX10_addressOf_104 : decode cX10_addressOf 104 = .ok (.lreturn, 1) := by decide +kernel
theorem dX10_spans_0 : decode cX10_spans 0 = .ok (.iconst 0, 1) := by decide +kernel
theorem dX10_spans_1 : decode cX10_spans 1 = .ok (.istore_n 1, 1) := by decide +kernel
theorem dX10_spans_2 : decode cX10_spans 2 = .ok (.iload_n 1, 1) := by decide +kernel
theorem dX10_spans_3 : decode cX10_spans 3 = .ok (.bipush 16, 2) := by decide +kernel
theorem dX10_spans_5 : decode cX10_spans 5 = .ok (.if_icmp .ge 223, 3) := by decide +kernel
theorem dX10_spans_8 : decode cX10_spans 8 = .ok (.aload_n 0, 1) := by decide +kernel
theorem dX10_spans_9 : decode cX10_spans 9 = .ok (.iload_n 1, 1) := by decide +kernel
theorem dX10_spans_10 : decode cX10_spans 10 = .ok (.invokevirtual 145, 3) := by decide +kernel
theorem dX10_spans_13 : decode cX10_spans 13 = .ok (.iconst 3, 1) := by decide +kernel
theorem dX10_spans_14 : decode cX10_spans 14 = .ok (.ishr, 1) := by decide +kernel
theorem dX10_spans_15 : decode cX10_spans 15 = .ok (.iconst 3, 1) := by decide +kernel
theorem dX10_spans_16 : decode cX10_spans 16 = .ok (.iand, 1) := by decide +kernel
theorem dX10_spans_17 : decode cX10_spans 17 = .ok (.istore_n 2, 1) := by decide +kernel
theorem dX10_spans_18 : decode cX10_spans 18 = .ok (.aload_n 0, 1) := by decide +kernel
theorem dX10_spans_19 : decode cX10_spans 19 = .ok (.iload_n 1, 1) := by decide +kernel
theorem dX10_spans_20 : decode cX10_spans 20 = .ok (.invokevirtual 151, 3) := by decide +kernel
theorem dX10_spans_23 : decode cX10_spans 23 = .ok (.lstore_n 3, 1) := by decide +kernel
theorem dX10_spans_24 : decode cX10_spans 24 = .ok (.aload_n 0, 1) := by decide +kernel
theorem dX10_spans_25 : decode cX10_spans 25 = .ok (.getfield 66, 3) := by decide +kernel
theorem dX10_spans_28 : decode cX10_spans 28 = .ok (.iload_n 1, 1) := by decide +kernel
theorem dX10_spans_29 : decode cX10_spans 29 = .ok (.lconst 0, 1) := by decide +kernel
theorem dX10_spans_30 : decode cX10_spans 30 = .ok (.lastore, 1) := by decide +kernel
theorem dX10_spans_31 : decode cX10_spans 31 = .ok (.aload_n 0, 1) := by decide +kernel
theorem dX10_spans_32 : decode cX10_spans 32 = .ok (.getfield 69, 3) := by decide +kernel
theorem dX10_spans_35 : decode cX10_spans 35 = .ok (.iload_n 1, 1) := by decide +kernel
theorem dX10_spans_36 : decode cX10_spans 36 = .ok (.lconst 0, 1) := by decide +kernel
theorem dX10_spans_37 : decode cX10_spans 37 = .ok (.lastore, 1) := by decide +kernel
theorem dX10_spans_38 : decode cX10_spans 38 = .ok (.iload_n 2, 1) := by decide +kernel
theorem dX10_spans_39 : decode cX10_spans 39 = .ok (.iconst 1, 1) := by decide +kernel
theorem dX10_spans_40 : decode cX10_spans 40 = .ok (.if_icmp .ne 42, 3) := by decide +kernel
theorem dX10_spans_43 : decode cX10_spans 43 = .ok (.aload_n 0, 1) := by decide +kernel
theorem dX10_spans_44 : decode cX10_spans 44 = .ok (.getfield 66, 3) := by decide +kernel
theorem dX10_spans_47 : decode cX10_spans 47 = .ok (.iload_n 1, 1) := by decide +kernel
theorem dX10_spans_48 : decode cX10_spans 48 = .ok (.iload_n 1, 1) := by decide +kernel
theorem dX10_spans_49 : decode cX10_spans 49 = .ok (.ifCond .ne 7, 3) := by decide +kernel
theorem dX10_spans_52 : decode cX10_spans 52 = .ok (.lconst 0, 1) := by decide +kernel
theorem dX10_spans_53 : decode cX10_spans 53 = .ok (.goto 14, 3) := by decide +kernel
theorem dX10_spans_56 : decode cX10_spans 56 = .ok (.aload_n 0, 1) := by decide +kernel
theorem dX10_spans_57 : decode cX10_spans 57 = .ok (.iload_n 1, 1) := by decide +kernel
theorem dX10_spans_58 : decode cX10_spans 58 = .ok (.iconst 1, 1) := by decide +kernel
theorem dX10_spans_59 : decode cX10_spans 59 = .ok (.isub, 1) := by decide +kernel
theorem dX10_spans_60 : decode cX10_spans 60 = .ok (.invokevirtual 151, 3) := by decide +kernel
theorem dX10_spans_63 : decode cX10_spans 63 = .ok (.ldc2_w 140, 3) := by decide +kernel
theorem dX10_spans_66 : decode cX10_spans 66 = .ok (.lmul, 1) := by decide +kernel
theorem dX10_spans_67 : decode cX10_spans 67 = .ok (.lastore, 1) := by decide +kernel
theorem dX10_spans_68 : decode cX10_spans 68 = .ok (.aload_n 0, 1) := by decide +kernel
theorem dX10_spans_69 : decode cX10_spans 69 = .ok (.getfield 69, 3) := by decide +kernel
theorem dX10_spans_72 : decode cX10_spans 72 = .ok (.iload_n 1, 1) := by decide +kernel
theorem dX10_spans_73 : decode cX10_spans 73 = .ok (.lload_n 3, 1) := by decide +kernel
theorem dX10_spans_74 : decode cX10_spans 74 = .ok (.ldc2_w 140, 3) := by decide +kernel
theorem dX10_spans_77 : decode cX10_spans 77 = .ok (.lmul, 1) := by decide +kernel
theorem dX10_spans_78 : decode cX10_spans 78 = .ok (.lastore, 1) := by decide +kernel
theorem dX10_spans_79 : decode cX10_spans 79 = .ok (.goto 143, 3) := by decide +kernel
theorem dX10_spans_82 : decode cX10_spans 82 = .ok (.iload_n 2, 1) := by decide +kernel
theorem dX10_spans_83 : decode cX10_spans 83 = .ok (.iconst 2, 1) := by decide +kernel
theorem dX10_spans_84 : decode cX10_spans 84 = .ok (.if_icmp .ne 32, 3) := by decide +kernel
theorem dX10_spans_87 : decode cX10_spans 87 = .ok (.aload_n 0, 1) := by decide +kernel
theorem dX10_spans_88 : decode cX10_spans 88 = .ok (.getfield 66, 3) := by decide +kernel
theorem dX10_spans_91 : decode cX10_spans 91 = .ok (.iload_n 1, 1) := by decide +kernel
theorem dX10_spans_92 : decode cX10_spans 92 = .ok (.lload_n 3, 1) := by decide +kernel
theorem dX10_spans_93 : decode cX10_spans 93 = .ok (.ldc2_w 140, 3) := by decide +kernel
theorem dX10_spans_96 : decode cX10_spans 96 = .ok (.lmul, 1) := by decide +kernel
theorem dX10_spans_97 : decode cX10_spans 97 = .ok (.lastore, 1) := by decide +kernel
theorem dX10_spans_98 : decode cX10_spans 98 = .ok (.aload_n 0, 1) := by decide +kernel
theorem dX10_spans_99 : decode cX10_spans 99 = .ok (.getfield 69, 3) := by decide +kernel
theorem dX10_spans_102 : decode cX10_spans 102 = .ok (.iload_n 1, 1) := by decide +kernel
theorem dX10_spans_103 : decode cX10_spans 103 = .ok (.lload_n 3, 1) := by decide +kernel
theorem dX10_spans_104 : decode cX10_spans 104 = .ok (.ldc2_w 140, 3) := by decide +kernel
theorem dX10_spans_107 : decode cX10_spans 107 = .ok (.lmul, 1) := by decide +kernel
theorem dX10_spans_108 : decode cX10_spans 108 = .ok (.ldc2_w 140, 3) := by decide +kernel
theorem dX10_spans_111 : decode cX10_spans 111 = .ok (.ladd, 1) := by decide +kernel
theorem dX10_spans_112 : decode cX10_spans 112 = .ok (.lastore, 1) := by decide +kernel
theorem dX10_spans_113 : decode cX10_spans 113 = .ok (.goto 109, 3) := by decide +kernel
theorem dX10_spans_116 : decode cX10_spans 116 = .ok (.iload_n 2, 1) := by decide +kernel
theorem dX10_spans_117 : decode cX10_spans 117 = .ok (.iconst 3, 1) := by decide +kernel
theorem dX10_spans_118 : decode cX10_spans 118 = .ok (.if_icmp .ne 104, 3) := by decide +kernel
theorem dX10_spans_121 : decode cX10_spans 121 = .ok (.ldc2_w 155, 3) := by decide +kernel
theorem dX10_spans_124 : decode cX10_spans 124 = .ok (.lstore 5, 2) := by decide +kernel
theorem dX10_spans_126 : decode cX10_spans 126 = .ok (.lload_n 3, 1) := by decide +kernel
theorem dX10_spans_127 : decode cX10_spans 127 = .ok (.lstore 7, 2) := by decide +kernel
theorem dX10_spans_129 : decode cX10_spans 129 = .ok (.lload 7, 2) := by decide +kernel
theorem dX10_spans_131 : decode cX10_spans 131 = .ok (.lconst 1, 1) := by decide +kernel
theorem dX10_spans_132 : decode cX10_spans 132 = .ok (.land, 1) := by decide +kernel
theorem dX10_spans_133 : decode cX10_spans 133 = .ok (.lconst 1, 1) := by decide +kernel
theorem dX10_spans_134 : decode cX10_spans 134 = .ok (.lcmp, 1) := by decide +kernel
theorem dX10_spans_135 : decode cX10_spans 135 = .ok (.ifCond .ne 20, 3) := by decide +kernel
theorem dX10_spans_138 : decode cX10_spans 138 = .ok (.lload 5, 2) := by decide +kernel
theorem dX10_spans_140 : decode cX10_spans 140 = .ok (.ldc2_w 157, 3) := by decide +kernel
theorem dX10_spans_143 : decode cX10_spans 143 = .ok (.lmul, 1) := by decide +kernel
theorem dX10_spans_144 : decode cX10_spans 144 = .ok (.lstore 5, 2) := by decide +kernel
theorem dX10_spans_146 : decode cX10_spans 146 = .ok (.lload 7, 2) := by decide +kernel
theorem dX10_spans_148 : decode cX10_spans 148 = .ok (.iconst 1, 1) := by decide +kernel
theorem dX10_spans_149 : decode cX10_spans 149 = .ok (.lshr, 1) := by decide +kernel
theorem dX10_spans_150 : decode cX10_spans 150 = .ok (.lstore 7, 2) := by decide +kernel
theorem dX10_spans_152 : decode cX10_spans 152 = .ok (.goto (-23), 3) := by decide +kernel
theorem dX10_spans_155 : decode cX10_spans 155 = .ok (.lload_n 3, 1) := by decide +kernel
theorem dX10_spans_156 : decode cX10_spans 156 = .ok (.ldc2_w 149, 3) := by decide +kernel
theorem dX10_spans_159 : decode cX10_spans 159 = .ok (.lcmp, 1) := by decide +kernel
theorem dX10_spans_160 : decode cX10_spans 160 = .ok (.ifCond .ne 7, 3) := by decide +kernel
theorem dX10_spans_163 : decode cX10_spans 163 = .ok (.iconst 1, 1) := by decide +kernel
theorem dX10_spans_164 : decode cX10_spans 164 = .ok (.goto 4, 3) := by decide +kernel
theorem dX10_spans_167 : decode cX10_spans 167 = .ok (.iconst 0, 1) := by decide +kernel
theorem dX10_spans_168 : decode cX10_spans 168 = .ok (.istore 9, 2) := by decide +kernel
theorem dX10_spans_170 : decode cX10_spans 170 = .ok (.aload_n 0, 1) := by decide +kernel
theorem dX10_spans_171 : decode cX10_spans 171 = .ok (.getfield 66, 3) := by decide +kernel
theorem dX10_spans_174 : decode cX10_spans 174 = .ok (.iload_n 1, 1) := by decide +kernel
theorem dX10_spans_175 : decode cX10_spans 175 = .ok (.iload 9, 2) := by decide +kernel
theorem dX10_spans_177 : decode cX10_spans 177 = .ok (.ifCond .eq 7, 3) := by decide +kernel
theorem dX10_spans_180 : decode cX10_spans 180 = .ok (.lconst 0, 1) := by decide +kernel
theorem dX10_spans_181 : decode cX10_spans 181 = .ok (.goto 14, 3) := by decide +kernel
theorem dX10_spans_184 : decode cX10_spans 184 = .ok (.lload_n 3, 1) := by decide +kernel
theorem dX10_spans_185 : decode cX10_spans 185 = .ok (.ldc2_w 140, 3) := by decide +kernel
theorem dX10_spans_188 : decode cX10_spans 188 = .ok (.lmul, 1) := by decide +kernel
theorem dX10_spans_189 : decode cX10_spans 189 = .ok (.lload 5, 2) := by decide +kernel
theorem dX10_spans_191 : decode cX10_spans 191 = .ok (.ldiv, 1) := by decide +kernel
theorem dX10_spans_192 : decode cX10_spans 192 = .ok (.lload 5, 2) := by decide +kernel
theorem dX10_spans_194 : decode cX10_spans 194 = .ok (.lmul, 1) := by decide +kernel
theorem dX10_spans_195 : decode cX10_spans 195 = .ok (.lastore, 1) := by decide +kernel
theorem dX10_spans_196 : decode cX10_spans 196 = .ok (.aload_n 0, 1) := by decide +kernel
theorem dX10_spans_197 : decode cX10_spans 197 = .ok (.getfield 69, 3) := by decide +kernel
theorem dX10_spans_200 : decode cX10_spans 200 = .ok (.iload_n 1, 1) := by decide +kernel
theorem dX10_spans_201 : decode cX10_spans 201 = .ok (.iload 9, 2) := by decide +kernel
theorem dX10_spans_203 : decode cX10_spans 203 = .ok (.ifCond .eq 9, 3) := by decide +kernel
theorem dX10_spans_206 : decode cX10_spans 206 = .ok (.ldc2_w 161, 3) := by decide +kernel
theorem dX10_spans_209 : decode cX10_spans 209 = .ok (.goto 12, 3) := by decide +kernel
theorem dX10_spans_212 : decode cX10_spans 212 = .ok (.aload_n 0, 1) := by decide +kernel
theorem dX10_spans_213 : decode cX10_spans 213 = .ok (.getfield 66, 3) := by decide +kernel
theorem dX10_spans_216 : decode cX10_spans 216 = .ok (.iload_n 1, 1) := by decide +kernel
theorem dX10_spans_217 : decode cX10_spans 217 = .ok (.laload, 1) := by decide +kernel
theorem dX10_spans_218 : decode cX10_spans 218 = .ok (.lload 5, 2) := by decide +kernel
theorem dX10_spans_220 : decode cX10_spans 220 = .ok (.ladd, 1) := by decide +kernel
theorem dX10_spans_221 : decode cX10_spans 221 = .ok (.lastore, 1) := by decide +kernel
theorem dX10_spans_222 : decode cX10_spans 222 = .ok (.iinc 1 1, 3) := by decide +kernel
theorem dX10_spans_225 : decode cX10_spans 225 = .ok (.goto (-223), 3) := by decide +kernel
theorem dX10_spans_228 : decode cX10_spans 228 = .ok (.aload_n 0, 1) := by decide +kernel
theorem dX10_spans_229 : decode cX10_spans 229 = .ok (.iconst 1, 1) := by decide +kernel
theorem dX10_spans_230 : decode cX10_spans 230 = .ok (.putfield 126, 3) := by decide +kernel
theorem dX10_spans_233 : decode cX10_spans 233 = .ok (.return_, 1) := by decide +kernel
theorem dX10_lets_0 : decode cX10_lets 0 = .ok (.aload_n 0, 1) := by decide +kernel
theorem dX10_lets_1 : decode cX10_lets 1 = .ok (.getfield 126, 3) := by decide +kernel
theorem dX10_lets_4 : decode cX10_lets 4 = .ok (.ifCond .ne 7, 3) := by decide +kernel
theorem dX10_lets_7 : decode cX10_lets 7 = .ok (.aload_n 0, 1) := by decide +kernel
theorem dX10_lets_8 : decode cX10_lets 8 = .ok (.invokevirtual 163, 3) := by decide +kernel
theorem dX10_lets_11 : decode cX10_lets 11 = .ok (.iconst 0, 1) := by decide +kernel
theorem dX10_lets_12 : decode cX10_lets 12 = .ok (.istore 5, 2) := by decide +kernel
theorem dX10_lets_14 : decode cX10_lets 14 = .ok (.iload 5, 2) := by decide +kernel
theorem dX10_lets_16 : decode cX10_lets 16 = .ok (.bipush 16, 2) := by decide +kernel
theorem dX10_lets_18 : decode cX10_lets 18 = .ok (.if_icmp .ge 124, 3) := by decide +kernel
theorem dX10_lets_21 : decode cX10_lets 21 = .ok (.aload_n 0, 1) := by decide +kernel
theorem dX10_lets_22 : decode cX10_lets 22 = .ok (.getfield 66, 3) := by decide +kernel
theorem dX10_lets_25 : decode cX10_lets 25 = .ok (.iload 5, 2) := by decide +kernel
theorem dX10_lets_27 : decode cX10_lets 27 = .ok (.laload, 1) := by decide +kernel
theorem dX10_lets_28 : decode cX10_lets 28 = .ok (.aload_n 0, 1) := by decide +kernel
theorem dX10_lets_29 : decode cX10_lets 29 = .ok (.getfield 69, 3) := by decide +kernel
theorem dX10_lets_32 : decode cX10_lets 32 = .ok (.iload 5, 2) := by decide +kernel
theorem dX10_lets_34 : decode cX10_lets 34 = .ok (.laload, 1) := by decide +kernel
theorem dX10_lets_35 : decode cX10_lets 35 = .ok (.lcmp, 1) := by decide +kernel
theorem dX10_lets_36 : decode cX10_lets 36 = .ok (.ifCond .ge 100, 3) := by decide +kernel
theorem dX10_lets_39 : decode cX10_lets 39 = .ok (.iload_n 1, 1) := by decide +kernel
theorem dX10_lets_40 : decode cX10_lets 40 = .ok (.iload_n 2, 1) := by decide +kernel
theorem dX10_lets_41 : decode cX10_lets 41 = .ok (.iadd, 1) := by decide +kernel
theorem dX10_lets_42 : decode cX10_lets 42 = .ok (.i2l, 1) := by decide +kernel
theorem dX10_lets_43 : decode cX10_lets 43 = .ok (.aload_n 0, 1) := by decide +kernel
theorem dX10_lets_44 : decode cX10_lets 44 = .ok (.getfield 66, 3) := by decide +kernel
theorem dX10_lets_47 : decode cX10_lets 47 = .ok (.iload 5, 2) := by decide +kernel
theorem dX10_lets_49 : decode cX10_lets 49 = .ok (.laload, 1) := by decide +kernel
theorem dX10_lets_50 : decode cX10_lets 50 = .ok (.lcmp, 1) := by decide +kernel
theorem dX10_lets_51 : decode cX10_lets 51 = .ok (.ifCond .le 85, 3) := by decide +kernel
theorem dX10_lets_54 : decode cX10_lets 54 = .ok (.iload_n 1, 1) := by decide +kernel
theorem dX10_lets_55 : decode cX10_lets 55 = .ok (.i2l, 1) := by decide +kernel
theorem dX10_lets_56 : decode cX10_lets 56 = .ok (.aload_n 0, 1) := by decide +kernel
theorem dX10_lets_57 : decode cX10_lets 57 = .ok (.getfield 69, 3) := by decide +kernel
theorem dX10_lets_60 : decode cX10_lets 60 = .ok (.iload 5, 2) := by decide +kernel
theorem dX10_lets_62 : decode cX10_lets 62 = .ok (.laload, 1) := by decide +kernel
theorem dX10_lets_63 : decode cX10_lets 63 = .ok (.lcmp, 1) := by decide +kernel
theorem dX10_lets_64 : decode cX10_lets 64 = .ok (.ifCond .lt 6, 3) := by decide +kernel
theorem dX10_lets_67 : decode cX10_lets 67 = .ok (.goto 69, 3) := by decide +kernel
theorem dX10_lets_70 : decode cX10_lets 70 = .ok (.iload_n 1, 1) := by decide +kernel
theorem dX10_lets_71 : decode cX10_lets 71 = .ok (.i2l, 1) := by decide +kernel
theorem dX10_lets_72 : decode cX10_lets 72 = .ok (.aload_n 0, 1) := by decide +kernel
theorem dX10_lets_73 : decode cX10_lets 73 = .ok (.getfield 66, 3) := by decide +kernel
theorem dX10_lets_76 : decode cX10_lets 76 = .ok (.iload 5, 2) := by decide +kernel
theorem dX10_lets_78 : decode cX10_lets 78 = .ok (.laload, 1) := by decide +kernel
theorem dX10_lets_79 : decode cX10_lets 79 = .ok (.lcmp, 1) := by decide +kernel
theorem dX10_lets_80 : decode cX10_lets 80 = .ok (.ifCond .lt 18, 3) := by decide +kernel
theorem dX10_lets_83 : decode cX10_lets 83 = .ok (.iload_n 1, 1) := by decide +kernel
theorem dX10_lets_84 : decode cX10_lets 84 = .ok (.iload_n 2, 1) := by decide +kernel
theorem dX10_lets_85 : decode cX10_lets 85 = .ok (.iadd, 1) := by decide +kernel
theorem dX10_lets_86 : decode cX10_lets 86 = .ok (.i2l, 1) := by decide +kernel
theorem dX10_lets_87 : decode cX10_lets 87 = .ok (.aload_n 0, 1) := by decide +kernel
theorem dX10_lets_88 : decode cX10_lets 88 = .ok (.getfield 69, 3) := by decide +kernel
theorem dX10_lets_91 : decode cX10_lets 91 = .ok (.iload 5, 2) := by decide +kernel
theorem dX10_lets_93 : decode cX10_lets 93 = .ok (.laload, 1) := by decide +kernel
theorem dX10_lets_94 : decode cX10_lets 94 = .ok (.lcmp, 1) := by decide +kernel
theorem dX10_lets_95 : decode cX10_lets 95 = .ok (.ifCond .le 5, 3) := by decide +kernel
theorem dX10_lets_98 : decode cX10_lets 98 = .ok (.iconst 0, 1) := by decide +kernel
theorem dX10_lets_99 : decode cX10_lets 99 = .ok (.ireturn, 1) := by decide +kernel
theorem dX10_lets_100 : decode cX10_lets 100 = .ok (.aload_n 0, 1) := by decide +kernel
theorem dX10_lets_101 : decode cX10_lets 101 = .ok (.iload 5, 2) := by decide +kernel
theorem dX10_lets_103 : decode cX10_lets 103 = .ok (.invokevirtual 145, 3) := by decide +kernel
theorem dX10_lets_106 : decode cX10_lets 106 = .ok (.istore 6, 2) := by decide +kernel
theorem dX10_lets_108 : decode cX10_lets 108 = .ok (.iload 4, 2) := by decide +kernel
theorem dX10_lets_110 : decode cX10_lets 110 = .ok (.ifCond .eq 12, 3) := by decide +kernel
theorem dX10_lets_113 : decode cX10_lets 113 = .ok (.iload 6, 2) := by decide +kernel
theorem dX10_lets_115 : decode cX10_lets 115 = .ok (.sipush 128, 3) := by decide +kernel
theorem dX10_lets_118 : decode cX10_lets 118 = .ok (.iand, 1) := by decide +kernel
theorem dX10_lets_119 : decode cX10_lets 119 = .ok (.ifCond .eq 11, 3) := by decide +kernel
theorem dX10_lets_122 : decode cX10_lets 122 = .ok (.iload 6, 2) := by decide +kernel
theorem dX10_lets_124 : decode cX10_lets 124 = .ok (.iload_n 3, 1) := by decide +kernel
theorem dX10_lets_125 : decode cX10_lets 125 = .ok (.iand, 1) := by decide +kernel
theorem dX10_lets_126 : decode cX10_lets 126 = .ok (.iload_n 3, 1) := by decide +kernel
theorem dX10_lets_127 : decode cX10_lets 127 = .ok (.if_icmp .ne 7, 3) := by decide +kernel
theorem dX10_lets_130 : decode cX10_lets 130 = .ok (.iconst 1, 1) := by decide +kernel
theorem dX10_lets_131 : decode cX10_lets 131 = .ok (.goto 4, 3) := by decide +kernel
theorem dX10_lets_134 : decode cX10_lets 134 = .ok (.iconst 0, 1) := by decide +kernel
theorem dX10_lets_135 : decode cX10_lets 135 = .ok (.ireturn, 1) := by decide +kernel
theorem dX10_lets_136 : decode cX10_lets 136 = .ok (.iinc 5 1, 3) := by decide +kernel
theorem dX10_lets_139 : decode cX10_lets 139 = .ok (.goto (-125), 3) := by decide +kernel
theorem dX10_lets_142 : decode cX10_lets 142 = .ok (.iload 4, 2) := by decide +kernel
theorem dX10_lets_144 : decode cX10_lets 144 = .ok (.ireturn, 1) := by decide +kernel
theorem dX10_isMemory_0 : decode cX10_isMemory 0 = .ok (.lload_n 0, 1) := by decide +kernel
theorem dX10_isMemory_1 : decode cX10_isMemory 1 = .ok (.lconst 0, 1) := by decide +kernel
theorem dX10_isMemory_2 : decode cX10_isMemory 2 = .ok (.lcmp, 1) := by decide +kernel
theorem dX10_isMemory_3 : decode cX10_isMemory 3 = .ok (.ifCond .lt 17, 3) := by decide +kernel
theorem dX10_isMemory_6 : decode cX10_isMemory 6 = .ok (.lload_n 0, 1) := by decide +kernel
theorem dX10_isMemory_7 : decode cX10_isMemory 7 = .ok (.ldc 7, 2) := by decide +kernel
theorem dX10_isMemory_9 : decode cX10_isMemory 9 = .ok (.iload_n 2, 1) := by decide +kernel
theorem dX10_isMemory_10 : decode cX10_isMemory 10 = .ok (.isub, 1) := by decide +kernel
theorem dX10_isMemory_11 : decode cX10_isMemory 11 = .ok (.i2l, 1) := by decide +kernel
theorem dX10_isMemory_12 : decode cX10_isMemory 12 = .ok (.lcmp, 1) := by decide +kernel
theorem dX10_isMemory_13 : decode cX10_isMemory 13 = .ok (.ifCond .gt 7, 3) := by decide +kernel
theorem dX10_isMemory_16 : decode cX10_isMemory 16 = .ok (.iconst 1, 1) := by decide +kernel
theorem dX10_isMemory_17 : decode cX10_isMemory 17 = .ok (.goto 4, 3) := by decide +kernel
theorem dX10_isMemory_20 : decode cX10_isMemory 20 = .ok (.iconst 0, 1) := by decide +kernel
theorem dX10_isMemory_21 : decode cX10_isMemory 21 = .ok (.ireturn, 1) := by decide +kernel
theorem dX10_set_0 : decode cX10_set 0 = .ok (.aload_n 0, 1) := by decide +kernel
theorem dX10_set_1 : decode cX10_set 1 = .ok (.getfield 29, 3) := by decide +kernel
theorem dX10_set_4 : decode cX10_set 4 = .ok (.ifCond .lt 10, 3) := by decide +kernel
theorem dX10_set_7 : decode cX10_set 7 = .ok (.aload_n 0, 1) := by decide +kernel
theorem dX10_set_8 : decode cX10_set 8 = .ok (.getfield 29, 3) := by decide +kernel
theorem dX10_set_11 : decode cX10_set 11 = .ok (.goto 5, 3) := by decide +kernel
theorem dX10_set_14 : decode cX10_set 14 = .ok (.bipush 6, 2) := by decide +kernel
theorem dX10_set_16 : decode cX10_set 16 = .ok (.ireturn, 1) := by decide +kernel
theorem dX10_x_0 : decode cX10_x 0 = .ok (.aload_n 0, 1) := by decide +kernel
theorem dX10_x_1 : decode cX10_x 1 = .ok (.getfield 14, 3) := by decide +kernel
theorem dX10_x_4 : decode cX10_x 4 = .ok (.bipush 32, 2) := by decide +kernel
theorem dX10_x_6 : decode cX10_x 6 = .ok (.aload_n 0, 1) := by decide +kernel
theorem dX10_x_7 : decode cX10_x 7 = .ok (.invokevirtual 166, 3) := by decide +kernel
theorem dX10_x_10 : decode cX10_x 10 = .ok (.imul, 1) := by decide +kernel
theorem dX10_x_11 : decode cX10_x 11 = .ok (.iload_n 1, 1) := by decide +kernel
theorem dX10_x_12 : decode cX10_x 12 = .ok (.iadd, 1) := by decide +kernel
theorem dX10_x_13 : decode cX10_x 13 = .ok (.laload, 1) := by decide +kernel
theorem dX10_x_14 : decode cX10_x 14 = .ok (.lreturn, 1) := by decide +kernel
theorem dX10_give_0 : decode cX10_give 0 = .ok (.iload_n 1, 1) := by decide +kernel
theorem dX10_give_1 : decode cX10_give 1 = .ok (.ifCond .eq 18, 3) := by decide +kernel
theorem dX10_give_4 : decode cX10_give 4 = .ok (.aload_n 0, 1) := by decide +kernel
theorem dX10_give_5 : decode cX10_give 5 = .ok (.getfield 14, 3) := by decide +kernel
theorem dX10_give_8 : decode cX10_give 8 = .ok (.bipush 32, 2) := by decide +kernel
theorem dX10_give_10 : decode cX10_give 10 = .ok (.aload_n 0, 1) := by decide +kernel
theorem dX10_give_11 : decode cX10_give 11 = .ok (.invokevirtual 166, 3) := by decide +kernel
theorem dX10_give_14 : decode cX10_give 14 = .ok (.imul, 1) := by decide +kernel
theorem dX10_give_15 : decode cX10_give 15 = .ok (.iload_n 1, 1) := by decide +kernel
theorem dX10_give_16 : decode cX10_give 16 = .ok (.iadd, 1) := by decide +kernel
theorem dX10_give_17 : decode cX10_give 17 = .ok (.lload_n 2, 1) := by decide +kernel
theorem dX10_give_18 : decode cX10_give 18 = .ok (.lastore, 1) := by decide +kernel
theorem dX10_give_19 : decode cX10_give 19 = .ok (.return_, 1) := by decide +kernel
theorem dX10_hostGets_0 : decode cX10_hostGets 0 = .ok (.aload_n 0, 1) := by decide +kernel
theorem dX10_hostGets_1 : decode cX10_hostGets 1 = .ok (.getfield 14, 3) := by decide +kernel
theorem dX10_hostGets_4 : decode cX10_hostGets 4 = .ok (.sipush 202, 3) := by decide +kernel
theorem dX10_hostGets_7 : decode cX10_hostGets 7 = .ok (.lload_n 1, 1) := by decide +kernel
theorem dX10_hostGets_8 : decode cX10_hostGets 8 = .ok (.lastore, 1) := by decide +kernel
theorem dX10_hostGets_9 : decode cX10_hostGets 9 = .ok (.aload_n 0, 1) := by decide +kernel
theorem dX10_hostGets_10 : decode cX10_hostGets 10 = .ok (.getfield 14, 3) := by decide +kernel
theorem dX10_hostGets_13 : decode cX10_hostGets 13 = .ok (.sipush 203, 3) := by decide +kernel
theorem dX10_hostGets_16 : decode cX10_hostGets 16 = .ok (.lload_n 3, 1) := by decide +kernel
theorem dX10_hostGets_17 : decode cX10_hostGets 17 = .ok (.lastore, 1) := by decide +kernel
theorem dX10_hostGets_18 : decode cX10_hostGets 18 = .ok (.return_, 1) := by decide +kernel
theorem dX10_ends_0 : decode cX10_ends 0 = .ok (.aload_n 0, 1) := by decide +kernel
theorem dX10_ends_1 : decode cX10_ends 1 = .ok (.getfield 39, 3) := by decide +kernel
theorem dX10_ends_4 : decode cX10_ends 4 = .ok (.aload_n 0, 1) := by decide +kernel
theorem dX10_ends_5 : decode cX10_ends 5 = .ok (.getfield 29, 3) := by decide +kernel
theorem dX10_ends_8 : decode cX10_ends 8 = .ok (.iload_n 1, 1) := by decide +kernel
theorem dX10_ends_9 : decode cX10_ends 9 = .ok (.iastore, 1) := by decide +kernel
theorem dX10_ends_10 : decode cX10_ends 10 = .ok (.aload_n 0, 1) := by decide +kernel
theorem dX10_ends_11 : decode cX10_ends 11 = .ok (.iconst (-1), 1) := by decide +kernel
theorem dX10_ends_12 : decode cX10_ends 12 = .ok (.putfield 29, 3) := by decide +kernel
theorem dX10_ends_15 : decode cX10_ends 15 = .ok (.aload_n 0, 1) := by decide +kernel
theorem dX10_ends_16 : decode cX10_ends 16 = .ok (.iconst 0, 1) := by decide +kernel
theorem dX10_ends_17 : decode cX10_ends 17 = .ok (.putfield 126, 3) := by decide +kernel
theorem dX10_ends_20 : decode cX10_ends 20 = .ok (.aload_n 0, 1) := by decide +kernel
theorem dX10_ends_21 : decode cX10_ends 21 = .ok (.lload_n 2, 1) := by decide +kernel
theorem dX10_ends_22 : decode cX10_ends 22 = .ok (.lload 4, 2) := by decide +kernel
theorem dX10_ends_24 : decode cX10_ends 24 = .ok (.invokevirtual 170, 3) := by decide +kernel
theorem dX10_ends_27 : decode cX10_ends 27 = .ok (.lload_n 2, 1) := by decide +kernel
theorem dX10_ends_28 : decode cX10_ends 28 = .ok (.lconst 1, 1) := by decide +kernel
theorem dX10_ends_29 : decode cX10_ends 29 = .ok (.lcmp, 1) := by decide +kernel
theorem dX10_ends_30 : decode cX10_ends 30 = .ok (.ifCond .ne 13, 3) := by decide +kernel
theorem dX10_ends_33 : decode cX10_ends 33 = .ok (.aload_n 0, 1) := by decide +kernel
theorem dX10_ends_34 : decode cX10_ends 34 = .ok (.dup, 1) := by decide +kernel
theorem dX10_ends_35 : decode cX10_ends 35 = .ok (.getfield 102, 3) := by decide +kernel
theorem dX10_ends_38 : decode cX10_ends 38 = .ok (.iconst 1, 1) := by decide +kernel
theorem dX10_ends_39 : decode cX10_ends 39 = .ok (.iadd, 1) := by decide +kernel
theorem dX10_ends_40 : decode cX10_ends 40 = .ok (.putfield 102, 3) := by decide +kernel
theorem dX10_ends_43 : decode cX10_ends 43 = .ok (.return_, 1) := by decide +kernel
theorem dX10_run_0 : decode cX10_run 0 = .ok (.iload_n 1, 1) := by decide +kernel
theorem dX10_run_1 : decode cX10_run 1 = .ok (.i2l, 1) := by decide +kernel
theorem dX10_run_2 : decode cX10_run 2 = .ok (.lconst 1, 1) := by decide +kernel
theorem dX10_run_3 : decode cX10_run 3 = .ok (.ldc2_w 174, 3) := by decide +kernel
theorem dX10_run_6 : decode cX10_run 6 = .ok (.invokestatic 176, 3) := by decide +kernel
theorem dX10_run_9 : decode cX10_run 9 = .ok (.ifCond .ne 5, 3) := by decide +kernel
theorem dX10_run_12 : decode cX10_run 12 = .ok (.iconst (-1), 1) := by decide +kernel
theorem dX10_run_13 : decode cX10_run 13 = .ok (.ireturn, 1) := by decide +kernel
theorem dX10_run_14 : decode cX10_run 14 = .ok (.iconst 0, 1) := by decide +kernel
theorem dX10_run_15 : decode cX10_run 15 = .ok (.istore_n 2, 1) := by decide +kernel
theorem dX10_run_16 : decode cX10_run 16 = .ok (.iload_n 2, 1) := by decide +kernel
theorem dX10_run_17 : decode cX10_run 17 = .ok (.iload_n 1, 1) := by decide +kernel
theorem dX10_run_18 : decode cX10_run 18 = .ok (.if_icmp .ge 20, 3) := by decide +kernel
theorem dX10_run_21 : decode cX10_run 21 = .ok (.aload_n 0, 1) := by decide +kernel
theorem dX10_run_22 : decode cX10_run 22 = .ok (.getfield 87, 3) := by decide +kernel
theorem dX10_run_25 : decode cX10_run 25 = .ok (.ifCond .ne 13, 3) := by decide +kernel
theorem dX10_run_28 : decode cX10_run 28 = .ok (.aload_n 0, 1) := by decide +kernel
theorem dX10_run_29 : decode cX10_run 29 = .ok (.invokevirtual 180, 3) := by decide +kernel
theorem dX10_run_32 : decode cX10_run 32 = .ok (.iinc 2 1, 3) := by decide +kernel
theorem dX10_run_35 : decode cX10_run 35 = .ok (.goto (-19), 3) := by decide +kernel
theorem dX10_run_38 : decode cX10_run 38 = .ok (.iload_n 2, 1) := by decide +kernel
theorem dX10_run_39 : decode cX10_run 39 = .ok (.ireturn, 1) := by decide +kernel
theorem dX10_step_0 : decode cX10_step 0 = .ok (.aload_n 0, 1) := by decide +kernel
theorem dX10_step_1 : decode cX10_step 1 = .ok (.getfield 108, 3) := by decide +kernel
theorem dX10_step_4 : decode cX10_step 4 = .ok (.ifCond .eq 35, 3) := by decide +kernel
theorem dX10_step_7 : decode cX10_step 7 = .ok (.aload_n 0, 1) := by decide +kernel
theorem dX10_step_8 : decode cX10_step 8 = .ok (.iconst 0, 1) := by decide +kernel
theorem dX10_step_9 : decode cX10_step 9 = .ok (.putfield 108, 3) := by decide +kernel
theorem dX10_step_12 : decode cX10_step 12 = .ok (.aload_n 0, 1) := by decide +kernel
theorem dX10_step_13 : decode cX10_step 13 = .ok (.getfield 29, 3) := by decide +kernel
theorem dX10_step_16 : decode cX10_step 16 = .ok (.ifCond .lt 13, 3) := by decide +kernel
theorem dX10_step_19 : decode cX10_step 19 = .ok (.aload_n 0, 1) := by decide +kernel
theorem dX10_step_20 : decode cX10_step 20 = .ok (.iconst 2, 1) := by decide +kernel
theorem dX10_step_21 : decode cX10_step 21 = .ok (.lconst 1, 1) := by decide +kernel
theorem dX10_step_22 : decode cX10_step 22 = .ok (.lconst 0, 1) := by decide +kernel
theorem dX10_step_23 : decode cX10_step 23 = .ok (.invokevirtual 183, 3) := by decide +kernel
theorem dX10_step_26 : decode cX10_step 26 = .ok (.goto 13, 3) := by decide +kernel
theorem dX10_step_29 : decode cX10_step 29 = .ok (.aload_n 0, 1) := by decide +kernel
theorem dX10_step_30 : decode cX10_step 30 = .ok (.dup, 1) := by decide +kernel
theorem dX10_step_31 : decode cX10_step 31 = .ok (.getfield 105, 3) := by decide +kernel
theorem dX10_step_34 : decode cX10_step 34 = .ok (.iconst 1, 1) := by decide +kernel
theorem dX10_step_35 : decode cX10_step 35 = .ok (.iadd, 1) := by decide +kernel
theorem dX10_step_36 : decode cX10_step 36 = .ok (.putfield 105, 3) := by decide +kernel
theorem dX10_step_39 : decode cX10_step 39 = .ok (.aload_n 0, 1) := by decide +kernel
theorem dX10_step_40 : decode cX10_step 40 = .ok (.getfield 29, 3) := by decide +kernel
theorem dX10_step_43 : decode cX10_step 43 = .ok (.istore_n 1, 1) := by decide +kernel
theorem dX10_step_44 : decode cX10_step 44 = .ok (.iload_n 1, 1) := by decide +kernel
theorem dX10_step_45 : decode cX10_step 45 = .ok (.ifCond .lt 23, 3) := by decide +kernel
theorem dX10_step_48 : decode cX10_step 48 = .ok (.aload_n 0, 1) := by decide +kernel
theorem dX10_step_49 : decode cX10_step 49 = .ok (.getfield 60, 3) := by decide +kernel
theorem dX10_step_52 : decode cX10_step 52 = .ok (.iload_n 1, 1) := by decide +kernel
theorem dX10_step_53 : decode cX10_step 53 = .ok (.dup2, 1) := by decide +kernel
theorem dX10_step_54 : decode cX10_step 54 = .ok (.iaload, 1) := by decide +kernel
theorem dX10_step_55 : decode cX10_step 55 = .ok (.iconst 1, 1) := by decide +kernel
theorem dX10_step_56 : decode cX10_step 56 = .ok (.iadd, 1) := by decide +kernel
theorem dX10_step_57 : decode cX10_step 57 = .ok (.iastore, 1) := by decide +kernel
theorem dX10_step_58 : decode cX10_step 58 = .ok (.aload_n 0, 1) := by decide +kernel
theorem dX10_step_59 : decode cX10_step 59 = .ok (.dup, 1) := by decide +kernel
theorem dX10_step_60 : decode cX10_step 60 = .ok (.getfield 187, 3) := by decide +kernel
theorem dX10_step_63 : decode cX10_step 63 = .ok (.iconst 1, 1) := by decide +kernel
theorem dX10_step_64 : decode cX10_step 64 = .ok (.iadd, 1) := by decide +kernel
theorem dX10_step_65 : decode cX10_step 65 = .ok (.putfield 187, 3) := by decide +kernel
theorem dX10_step_68 : decode cX10_step 68 = .ok (.aload_n 0, 1) := by decide +kernel
theorem dX10_step_69 : decode cX10_step 69 = .ok (.lconst 0, 1) := by decide +kernel
theorem dX10_step_70 : decode cX10_step 70 = .ok (.putfield 190, 3) := by decide +kernel
theorem dX10_step_73 : decode cX10_step 73 = .ok (.aload_n 0, 1) := by decide +kernel
theorem dX10_step_74 : decode cX10_step 74 = .ok (.invokevirtual 193, 3) := by decide +kernel
theorem dX10_step_77 : decode cX10_step 77 = .ok (.istore_n 2, 1) := by decide +kernel
theorem dX10_step_78 : decode cX10_step 78 = .ok (.aload_n 0, 1) := by decide +kernel
theorem dX10_step_79 : decode cX10_step 79 = .ok (.dup, 1) := by decide +kernel
theorem dX10_step_80 : decode cX10_step 80 = .ok (.getfield 93, 3) := by decide +kernel
theorem dX10_step_83 : decode cX10_step 83 = .ok (.iconst 1, 1) := by decide +kernel
theorem dX10_step_84 : decode cX10_step 84 = .ok (.iadd, 1) := by decide +kernel
theorem dX10_step_85 : decode cX10_step 85 = .ok (.putfield 93, 3) := by decide +kernel
theorem dX10_step_88 : decode cX10_step 88 = .ok (.iload_n 2, 1) := by decide +kernel
theorem dX10_step_89 : decode cX10_step 89 = .ok (.iconst (-1), 1) := by decide +kernel
theorem dX10_step_90 : decode cX10_step 90 = .ok (.if_icmp .eq 8, 3) := by decide +kernel
theorem dX10_step_93 : decode cX10_step 93 = .ok (.aload_n 0, 1) := by decide +kernel
theorem dX10_step_94 : decode cX10_step 94 = .ok (.iload_n 2, 1) := by decide +kernel
theorem dX10_step_95 : decode cX10_step 95 = .ok (.invokevirtual 196, 3) := by decide +kernel
theorem dX10_step_98 : decode cX10_step 98 = .ok (.iload_n 1, 1) := by decide +kernel
theorem dX10_step_99 : decode cX10_step 99 = .ok (.ifCond .lt 40, 3) := by decide +kernel
theorem dX10_step_102 : decode cX10_step 102 = .ok (.aload_n 0, 1) := by decide +kernel
theorem dX10_step_103 : decode cX10_step 103 = .ok (.getfield 29, 3) := by decide +kernel
theorem dX10_step_106 : decode cX10_step 106 = .ok (.iload_n 1, 1) := by decide +kernel
theorem dX10_step_107 : decode cX10_step 107 = .ok (.if_icmp .ne 32, 3) := by decide +kernel
theorem dX10_step_110 : decode cX10_step 110 = .ok (.aload_n 0, 1) := by decide +kernel
theorem dX10_step_111 : decode cX10_step 111 = .ok (.getfield 199, 3) := by decide +kernel
theorem dX10_step_114 : decode cX10_step 114 = .ok (.lconst 0, 1) := by decide +kernel
theorem dX10_step_115 : decode cX10_step 115 = .ok (.lcmp, 1) := by decide +kernel
theorem dX10_step_116 : decode cX10_step 116 = .ok (.ifCond .eq 23, 3) := by decide +kernel
theorem dX10_step_119 : decode cX10_step 119 = .ok (.aload_n 0, 1) := by decide +kernel
theorem dX10_step_120 : decode cX10_step 120 = .ok (.getfield 187, 3) := by decide +kernel
theorem dX10_step_123 : decode cX10_step 123 = .ok (.i2l, 1) := by decide +kernel
theorem dX10_step_124 : decode cX10_step 124 = .ok (.aload_n 0, 1) := by decide +kernel
theorem dX10_step_125 : decode cX10_step 125 = .ok (.getfield 199, 3) := by decide +kernel
theorem dX10_step_128 : decode cX10_step 128 = .ok (.lcmp, 1) := by decide +kernel
theorem dX10_step_129 : decode cX10_step 129 = .ok (.ifCond .ne 10, 3) := by decide +kernel
theorem dX10_step_132 : decode cX10_step 132 = .ok (.aload_n 0, 1) := by decide +kernel
theorem dX10_step_133 : decode cX10_step 133 = .ok (.iconst 2, 1) := by decide +kernel
theorem dX10_step_134 : decode cX10_step 134 = .ok (.lconst 1, 1) := by decide +kernel
theorem dX10_step_135 : decode cX10_step 135 = .ok (.lconst 0, 1) := by decide +kernel
theorem dX10_step_136 : decode cX10_step 136 = .ok (.invokevirtual 183, 3) := by decide +kernel
theorem dX10_step_139 : decode cX10_step 139 = .ok (.return_, 1) := by decide +kernel
theorem dX10_fails_0 : decode cX10_fails 0 = .ok (.aload_n 0, 1) := by decide +kernel
theorem dX10_fails_1 : decode cX10_fails 1 = .ok (.getfield 29, 3) := by decide +kernel
theorem dX10_fails_4 : decode cX10_fails 4 = .ok (.ifCond .lt 14, 3) := by decide +kernel
theorem dX10_fails_7 : decode cX10_fails 7 = .ok (.aload_n 0, 1) := by decide +kernel
theorem dX10_fails_8 : decode cX10_fails 8 = .ok (.iconst 3, 1) := by decide +kernel
theorem dX10_fails_9 : decode cX10_fails 9 = .ok (.ldc2_w 157, 3) := by decide +kernel
theorem dX10_fails_12 : decode cX10_fails 12 = .ok (.iload_n 1, 1) := by decide +kernel
theorem dX10_fails_13 : decode cX10_fails 13 = .ok (.i2l, 1) := by decide +kernel
theorem dX10_fails_14 : decode cX10_fails 14 = .ok (.invokevirtual 183, 3) := by decide +kernel
theorem dX10_fails_17 : decode cX10_fails 17 = .ok (.return_, 1) := by decide +kernel
theorem dX10_fails_18 : decode cX10_fails 18 = .ok (.aload_n 0, 1) := by decide +kernel
theorem dX10_fails_19 : decode cX10_fails 19 = .ok (.iload_n 1, 1) := by decide +kernel
theorem dX10_fails_20 : decode cX10_fails 20 = .ok (.putfield 25, 3) := by decide +kernel
theorem dX10_fails_23 : decode cX10_fails 23 = .ok (.aload_n 0, 1) := by decide +kernel
theorem dX10_fails_24 : decode cX10_fails 24 = .ok (.aload_n 0, 1) := by decide +kernel
theorem dX10_fails_25 : decode cX10_fails 25 = .ok (.getfield 190, 3) := by decide +kernel
theorem dX10_fails_28 : decode cX10_fails 28 = .ok (.putfield 90, 3) := by decide +kernel
theorem dX10_fails_31 : decode cX10_fails 31 = .ok (.aload_n 0, 1) := by decide +kernel
theorem dX10_fails_32 : decode cX10_fails 32 = .ok (.getfield 21, 3) := by decide +kernel
theorem dX10_fails_35 : decode cX10_fails 35 = .ok (.ifCond .eq 40, 3) := by decide +kernel
theorem dX10_fails_38 : decode cX10_fails 38 = .ok (.aload_n 0, 1) := by decide +kernel
theorem dX10_fails_39 : decode cX10_fails 39 = .ok (.aload_n 0, 1) := by decide +kernel
theorem dX10_fails_40 : decode cX10_fails 40 = .ok (.getfield 18, 3) := by decide +kernel
theorem dX10_fails_43 : decode cX10_fails 43 = .ok (.bipush 6, 2) := by decide +kernel
theorem dX10_fails_45 : decode cX10_fails 45 = .ok (.laload, 1) := by decide +kernel
theorem dX10_fails_46 : decode cX10_fails 46 = .ok (.ldc2_w 202, 3) := by decide +kernel
theorem dX10_fails_49 : decode cX10_fails 49 = .ok (.land, 1) := by decide +kernel
theorem dX10_fails_50 : decode cX10_fails 50 = .ok (.putfield 117, 3) := by decide +kernel
theorem dX10_fails_53 : decode cX10_fails 53 = .ok (.aload_n 0, 1) := by decide +kernel
theorem dX10_fails_54 : decode cX10_fails 54 = .ok (.iload_n 1, 1) := by decide +kernel
theorem dX10_fails_55 : decode cX10_fails 55 = .ok (.i2l, 1) := by decide +kernel
theorem dX10_fails_56 : decode cX10_fails 56 = .ok (.putfield 120, 3) := by decide +kernel
theorem dX10_fails_59 : decode cX10_fails 59 = .ok (.aload_n 0, 1) := by decide +kernel
theorem dX10_fails_60 : decode cX10_fails 60 = .ok (.aload_n 0, 1) := by decide +kernel
theorem dX10_fails_61 : decode cX10_fails 61 = .ok (.getfield 190, 3) := by decide +kernel
theorem dX10_fails_64 : decode cX10_fails 64 = .ok (.putfield 123, 3) := by decide +kernel
theorem dX10_fails_67 : decode cX10_fails 67 = .ok (.aload_n 0, 1) := by decide +kernel
theorem dX10_fails_68 : decode cX10_fails 68 = .ok (.iconst 2, 1) := by decide +kernel
theorem dX10_fails_69 : decode cX10_fails 69 = .ok (.putfield 87, 3) := by decide +kernel
theorem dX10_fails_72 : decode cX10_fails 72 = .ok (.goto 8, 3) := by decide +kernel
theorem dX10_fails_75 : decode cX10_fails 75 = .ok (.aload_n 0, 1) := by decide +kernel
theorem dX10_fails_76 : decode cX10_fails 76 = .ok (.iconst 1, 1) := by decide +kernel
theorem dX10_fails_77 : decode cX10_fails 77 = .ok (.putfield 87, 3) := by decide +kernel
theorem dX10_fails_80 : decode cX10_fails 80 = .ok (.return_, 1) := by decide +kernel
theorem dX10_fault_0 : decode cX10_fault 0 = .ok (.aload_n 0, 1) := by decide +kernel
theorem dX10_fault_1 : decode cX10_fault 1 = .ok (.lload_n 2, 1) := by decide +kernel
theorem dX10_fault_2 : decode cX10_fault 2 = .ok (.putfield 190, 3) := by decide +kernel
theorem dX10_fault_5 : decode cX10_fault 5 = .ok (.iload_n 1, 1) := by decide +kernel
theorem dX10_fault_6 : decode cX10_fault 6 = .ok (.ireturn, 1) := by decide +kernel
theorem dX10_illegal_0 : decode cX10_illegal 0 = .ok (.aload_n 0, 1) := by decide +kernel
theorem dX10_illegal_1 : decode cX10_illegal 1 = .ok (.iconst 2, 1) := by decide +kernel
theorem dX10_illegal_2 : decode cX10_illegal 2 = .ok (.aload_n 0, 1) := by decide +kernel
theorem dX10_illegal_3 : decode cX10_illegal 3 = .ok (.getfield 204, 3) := by decide +kernel
theorem dX10_illegal_6 : decode cX10_illegal 6 = .ok (.i2l, 1) := by decide +kernel
theorem dX10_illegal_7 : decode cX10_illegal 7 = .ok (.ldc2_w 207, 3) := by decide +kernel
theorem dX10_illegal_10 : decode cX10_illegal 10 = .ok (.land, 1) := by decide +kernel
theorem dX10_illegal_11 : decode cX10_illegal 11 = .ok (.invokevirtual 209, 3) := by decide +kernel
theorem dX10_illegal_14 : decode cX10_illegal 14 = .ok (.ireturn, 1) := by decide +kernel
theorem dX10_instruction_0 : decode cX10_instruction 0 = .ok (.aload_n 0, 1) := by decide +kernel
theorem dX10_instruction_1 : decode cX10_instruction 1 = .ok (.getfield 18, 3) := by decide +kernel
theorem dX10_instruction_4 : decode cX10_instruction 4 = .ok (.aload_n 0, 1) := by decide +kernel
theorem dX10_instruction_5 : decode cX10_instruction 5 = .ok (.invokevirtual 166, 3) := by decide +kernel
theorem dX10_instruction_8 : decode cX10_instruction 8 = .ok (.laload, 1) := by decide +kernel
theorem dX10_instruction_9 : decode cX10_instruction 9 = .ok (.lstore_n 1, 1) := by decide +kernel
theorem dX10_instruction_10 : decode cX10_instruction 10 = .ok (.lload_n 1, 1) := by decide +kernel
theorem dX10_instruction_11 : decode cX10_instruction 11 = .ok (.ldc2_w 213, 3) := by decide +kernel
theorem dX10_instruction_14 : decode cX10_instruction 14 = .ok (.land, 1) := by decide +kernel
theorem dX10_instruction_15 : decode cX10_instruction 15 = .ok (.lconst 0, 1) := by decide +kernel
theorem dX10_instruction_16 : decode cX10_instruction 16 = .ok (.lcmp, 1) := by decide +kernel
theorem dX10_instruction_17 : decode cX10_instruction 17 = .ok (.ifCond .eq 10, 3) := by decide +kernel
theorem dX10_instruction_20 : decode cX10_instruction 20 = .ok (.aload_n 0, 1) := by decide +kernel
theorem dX10_instruction_21 : decode cX10_instruction 21 = .ok (.iconst 0, 1) := by decide +kernel
theorem dX10_instruction_22 : decode cX10_instruction 22 = .ok (.lload_n 1, 1) := by decide +kernel
theorem dX10_instruction_23 : decode cX10_instruction 23 = .ok (.invokevirtual 209, 3) := by decide +kernel
theorem dX10_instruction_26 : decode cX10_instruction 26 = .ok (.ireturn, 1) := by decide +kernel
theorem dX10_instruction_27 : decode cX10_instruction 27 = .ok (.lload_n 1, 1) := by decide +kernel
theorem dX10_instruction_28 : decode cX10_instruction 28 = .ok (.iconst 4, 1) := by decide +kernel
theorem dX10_instruction_29 : decode cX10_instruction 29 = .ok (.invokestatic 215, 3) := by decide +kernel
theorem dX10_instruction_32 : decode cX10_instruction 32 = .ok (.ifCond .eq 18, 3) := by decide +kernel
theorem dX10_instruction_35 : decode cX10_instruction 35 = .ok (.aload_n 0, 1) := by decide +kernel
theorem dX10_instruction_36 : decode cX10_instruction 36 = .ok (.lload_n 1, 1) := by decide +kernel
theorem dX10_instruction_37 : decode cX10_instruction 37 = .ok (.l2i, 1) := by decide +kernel
theorem dX10_instruction_38 : decode cX10_instruction 38 = .ok (.iconst 4, 1) := by decide +kernel
theorem dX10_instruction_39 : decode cX10_instruction 39 = .ok (.iconst 4, 1) := by decide +kernel
theorem dX10_instruction_40 : decode cX10_instruction 40 = .ok (.aload_n 0, 1) := by decide +kernel
theorem dX10_instruction_41 : decode cX10_instruction 41 = .ok (.getfield 21, 3) := by decide +kernel
theorem dX10_instruction_44 : decode cX10_instruction 44 = .ok (.invokevirtual 219, 3) := by decide +kernel
theorem dX10_instruction_47 : decode cX10_instruction 47 = .ok (.ifCond .ne 10, 3) := by decide +kernel
theorem dX10_instruction_50 : decode cX10_instruction 50 = .ok (.aload_n 0, 1) := by decide +kernel
theorem dX10_instruction_51 : decode cX10_instruction 51 = .ok (.iconst 1, 1) := by decide +kernel
theorem dX10_instruction_52 : decode cX10_instruction 52 = .ok (.lload_n 1, 1) := by decide +kernel
theorem dX10_instruction_53 : decode cX10_instruction 53 = .ok (.invokevirtual 209, 3) := by decide +kernel
theorem dX10_instruction_56 : decode cX10_instruction 56 = .ok (.ireturn, 1) := by decide +kernel
theorem dX10_instruction_57 : decode cX10_instruction 57 = .ok (.aload_n 0, 1) := by decide +kernel
theorem dX10_instruction_58 : decode cX10_instruction 58 = .ok (.aload_n 0, 1) := by decide +kernel
theorem dX10_instruction_59 : decode cX10_instruction 59 = .ok (.lload_n 1, 1) := by decide +kernel
theorem dX10_instruction_60 : decode cX10_instruction 60 = .ok (.l2i, 1) := by decide +kernel
theorem dX10_instruction_61 : decode cX10_instruction 61 = .ok (.iconst 4, 1) := by decide +kernel
theorem dX10_instruction_62 : decode cX10_instruction 62 = .ok (.invokevirtual 136, 3) := by decide +kernel
theorem dX10_instruction_65 : decode cX10_instruction 65 = .ok (.l2i, 1) := by decide +kernel
theorem dX10_instruction_66 : decode cX10_instruction 66 = .ok (.putfield 204, 3) := by decide +kernel
theorem dX10_instruction_69 : decode cX10_instruction 69 = .ok (.aload_n 0, 1) := by decide +kernel
theorem dX10_instruction_70 : decode cX10_instruction 70 = .ok (.aload_n 0, 1) := by decide +kernel
theorem dX10_instruction_71 : decode cX10_instruction 71 = .ok (.getfield 204, 3) := by decide +kernel
theorem dX10_instruction_74 : decode cX10_instruction 74 = .ok (.bipush 7, 2) := by decide +kernel
theorem dX10_instruction_76 : decode cX10_instruction 76 = .ok (.ishr, 1) := by decide +kernel
theorem dX10_instruction_77 : decode cX10_instruction 77 = .ok (.bipush 31, 2) := by decide +kernel
theorem dX10_instruction_79 : decode cX10_instruction 79 = .ok (.iand, 1) := by decide +kernel
theorem dX10_instruction_80 : decode cX10_instruction 80 = .ok (.putfield 223, 3) := by decide +kernel
theorem dX10_instruction_83 : decode cX10_instruction 83 = .ok (.aload_n 0, 1) := by decide +kernel
theorem dX10_instruction_84 : decode cX10_instruction 84 = .ok (.aload_n 0, 1) := by decide +kernel
theorem dX10_instruction_85 : decode cX10_instruction 85 = .ok (.getfield 204, 3) := by decide +kernel
theorem dX10_instruction_88 : decode cX10_instruction 88 = .ok (.bipush 12, 2) := by decide +kernel
theorem dX10_instruction_90 : decode cX10_instruction 90 = .ok (.ishr, 1) := by decide +kernel
theorem dX10_instruction_91 : decode cX10_instruction 91 = .ok (.bipush 7, 2) := by decide +kernel
theorem dX10_instruction_93 : decode cX10_instruction 93 = .ok (.iand, 1) := by decide +kernel
theorem dX10_instruction_94 : decode cX10_instruction 94 = .ok (.putfield 226, 3) := by decide +kernel
theorem dX10_instruction_97 : decode cX10_instruction 97 = .ok (.aload_n 0, 1) := by decide +kernel
theorem dX10_instruction_98 : decode cX10_instruction 98 = .ok (.aload_n 0, 1) := by decide +kernel
theorem dX10_instruction_99 : decode cX10_instruction 99 = .ok (.getfield 204, 3) := by decide +kernel
theorem dX10_instruction_102 : decode cX10_instruction 102 = .ok (.bipush 15, 2) := by decide +kernel
theorem dX10_instruction_104 : decode cX10_instruction 104 = .ok (.ishr, 1) := by decide +kernel
theorem dX10_instruction_105 : decode cX10_instruction 105 = .ok (.bipush 31, 2) := by decide +kernel
theorem dX10_instruction_107 : decode cX10_instruction 107 = .ok (.iand, 1) := by decide +kernel
theorem dX10_instruction_108 : decode cX10_instruction 108 = .ok (.putfield 229, 3) := by decide +kernel
theorem dX10_instruction_111 : decode cX10_instruction 111 = .ok (.aload_n 0, 1) := by decide +kernel
theorem dX10_instruction_112 : decode cX10_instruction 112 = .ok (.aload_n 0, 1) := by decide +kernel
theorem dX10_instruction_113 : decode cX10_instruction 113 = .ok (.getfield 204, 3) := by decide +kernel
theorem dX10_instruction_116 : decode cX10_instruction 116 = .ok (.bipush 20, 2) := by decide +kernel
theorem dX10_instruction_118 : decode cX10_instruction 118 = .ok (.ishr, 1) := by decide +kernel
theorem dX10_instruction_119 : decode cX10_instruction 119 = .ok (.bipush 31, 2) := by decide +kernel
theorem dX10_instruction_121 : decode cX10_instruction 121 = .ok (.iand, 1) := by decide +kernel
theorem dX10_instruction_122 : decode cX10_instruction 122 = .ok (.putfield 232, 3) := by decide +kernel
theorem dX10_instruction_125 : decode cX10_instruction 125 = .ok (.aload_n 0, 1) := by decide +kernel
theorem dX10_instruction_126 : decode cX10_instruction 126 = .ok (.aload_n 0, 1) := by decide +kernel
theorem dX10_instruction_127 : decode cX10_instruction 127 = .ok (.getfield 204, 3) := by decide +kernel
theorem dX10_instruction_130 : decode cX10_instruction 130 = .ok (.bipush 25, 2) := by decide +kernel
theorem dX10_instruction_132 : decode cX10_instruction 132 = .ok (.iushr, 1) := by decide +kernel
theorem dX10_instruction_133 : decode cX10_instruction 133 = .ok (.putfield 235, 3) := by decide +kernel
theorem dX10_instruction_136 : decode cX10_instruction 136 = .ok (.aload_n 0, 1) := by decide +kernel
theorem dX10_instruction_137 : decode cX10_instruction 137 = .ok (.getfield 204, 3) := by decide +kernel
theorem dX10_instruction_140 : decode cX10_instruction 140 = .ok (.bipush 127, 2) := by decide +kernel
theorem dX10_instruction_142 : decode cX10_instruction 142 = .ok (.iand, 1) := by decide +kernel
theorem dX10_instruction_143 : decode cX10_instruction 143 = .ok (.lookupswitch 266 #[(3, 210), (15, 240), (19, 220), (23, 127), (27, 225), (35, 215), (51, 230), (55, 113), (59, 235), (99, 204), (103, 159), (111, 143), (115, 260)], 113) := by decide +kernel
theorem dX10_instruction_256 : decode cX10_instruction 256 = .ok (.aload_n 0, 1) := by decide +kernel
theorem dX10_instruction_257 : decode cX10_instruction 257 = .ok (.aload_n 0, 1) := by decide +kernel
theorem dX10_instruction_258 : decode cX10_instruction 258 = .ok (.getfield 204, 3) := by decide +kernel
theorem dX10_instruction_261 : decode cX10_instruction 261 = .ok (.sipush (-4096), 3) := by decide +kernel
theorem dX10_instruction_264 : decode cX10_instruction 264 = .ok (.iand, 1) := by decide +kernel
theorem dX10_instruction_265 : decode cX10_instruction 265 = .ok (.i2l, 1) := by decide +kernel
theorem dX10_instruction_266 : decode cX10_instruction 266 = .ok (.invokevirtual 238, 3) := by decide +kernel
theorem dX10_instruction_269 : decode cX10_instruction 269 = .ok (.ireturn, 1) := by decide +kernel
theorem dX10_instruction_270 : decode cX10_instruction 270 = .ok (.aload_n 0, 1) := by decide +kernel
theorem dX10_instruction_271 : decode cX10_instruction 271 = .ok (.lload_n 1, 1) := by decide +kernel
theorem dX10_instruction_272 : decode cX10_instruction 272 = .ok (.aload_n 0, 1) := by decide +kernel
theorem dX10_instruction_273 : decode cX10_instruction 273 = .ok (.getfield 204, 3) := by decide +kernel
theorem dX10_instruction_276 : decode cX10_instruction 276 = .ok (.sipush (-4096), 3) := by decide +kernel
theorem dX10_instruction_279 : decode cX10_instruction 279 = .ok (.iand, 1) := by decide +kernel
theorem dX10_instruction_280 : decode cX10_instruction 280 = .ok (.i2l, 1) := by decide +kernel
theorem dX10_instruction_281 : decode cX10_instruction 281 = .ok (.ladd, 1) := by decide +kernel
theorem dX10_instruction_282 : decode cX10_instruction 282 = .ok (.invokevirtual 238, 3) := by decide +kernel
theorem dX10_instruction_285 : decode cX10_instruction 285 = .ok (.ireturn, 1) := by decide +kernel
theorem dX10_instruction_286 : decode cX10_instruction 286 = .ok (.aload_n 0, 1) := by decide +kernel
theorem dX10_instruction_287 : decode cX10_instruction 287 = .ok (.lload_n 1, 1) := by decide +kernel
theorem dX10_instruction_288 : decode cX10_instruction 288 = .ok (.aload_n 0, 1) := by decide +kernel
theorem dX10_instruction_289 : decode cX10_instruction 289 = .ok (.invokevirtual 242, 3) := by decide +kernel
theorem dX10_instruction_292 : decode cX10_instruction 292 = .ok (.ladd, 1) := by decide +kernel
theorem dX10_instruction_293 : decode cX10_instruction 293 = .ok (.lload_n 1, 1) := by decide +kernel
theorem dX10_instruction_294 : decode cX10_instruction 294 = .ok (.ldc2_w 140, 3) := by decide +kernel
theorem dX10_instruction_297 : decode cX10_instruction 297 = .ok (.ladd, 1) := by decide +kernel
theorem dX10_instruction_298 : decode cX10_instruction 298 = .ok (.invokevirtual 246, 3) := by decide +kernel
theorem dX10_instruction_301 : decode cX10_instruction 301 = .ok (.ireturn, 1) := by decide +kernel
theorem dX10_instruction_302 : decode cX10_instruction 302 = .ok (.aload_n 0, 1) := by decide +kernel
theorem dX10_instruction_303 : decode cX10_instruction 303 = .ok (.getfield 226, 3) := by decide +kernel
theorem dX10_instruction_306 : decode cX10_instruction 306 = .ok (.ifCond .eq 10, 3) := by decide +kernel
theorem dX10_instruction_309 : decode cX10_instruction 309 = .ok (.aload_n 0, 1) := by decide +kernel
theorem dX10_instruction_310 : decode cX10_instruction 310 = .ok (.invokevirtual 250, 3) := by decide +kernel
theorem dX10_instruction_313 : decode cX10_instruction 313 = .ok (.goto 33, 3) := by decide +kernel
theorem dX10_instruction_316 : decode cX10_instruction 316 = .ok (.aload_n 0, 1) := by decide +kernel
theorem dX10_instruction_317 : decode cX10_instruction 317 = .ok (.aload_n 0, 1) := by decide +kernel
theorem dX10_instruction_318 : decode cX10_instruction 318 = .ok (.aload_n 0, 1) := by decide +kernel
theorem dX10_instruction_319 : decode cX10_instruction 319 = .ok (.getfield 229, 3) := by decide +kernel
theorem dX10_instruction_322 : decode cX10_instruction 322 = .ok (.invokevirtual 253, 3) := by decide +kernel
theorem dX10_instruction_325 : decode cX10_instruction 325 = .ok (.aload_n 0, 1) := by decide +kernel
theorem dX10_instruction_326 : decode cX10_instruction 326 = .ok (.getfield 204, 3) := by decide +kernel
theorem dX10_instruction_329 : decode cX10_instruction 329 = .ok (.bipush 20, 2) := by decide +kernel
theorem dX10_instruction_331 : decode cX10_instruction 331 = .ok (.ishr, 1) := by decide +kernel
theorem dX10_instruction_332 : decode cX10_instruction 332 = .ok (.i2l, 1) := by decide +kernel
theorem dX10_instruction_333 : decode cX10_instruction 333 = .ok (.ladd, 1) := by decide +kernel
theorem dX10_instruction_334 : decode cX10_instruction 334 = .ok (.ldc2_w 256, 3) := by decide +kernel
theorem dX10_instruction_337 : decode cX10_instruction 337 = .ok (.land, 1) := by decide +kernel
theorem dX10_instruction_338 : decode cX10_instruction 338 = .ok (.lload_n 1, 1) := by decide +kernel
theorem dX10_instruction_339 : decode cX10_instruction 339 = .ok (.ldc2_w 140, 3) := by decide +kernel
theorem dX10_instruction_342 : decode cX10_instruction 342 = .ok (.ladd, 1) := by decide +kernel
theorem dX10_instruction_343 : decode cX10_instruction 343 = .ok (.invokevirtual 246, 3) := by decide +kernel
theorem dX10_instruction_346 : decode cX10_instruction 346 = .ok (.ireturn, 1) := by decide +kernel
theorem dX10_instruction_347 : decode cX10_instruction 347 = .ok (.aload_n 0, 1) := by decide +kernel
theorem dX10_instruction_348 : decode cX10_instruction 348 = .ok (.lload_n 1, 1) := by decide +kernel
theorem dX10_instruction_349 : decode cX10_instruction 349 = .ok (.invokevirtual 258, 3) := by decide +kernel
theorem dX10_instruction_352 : decode cX10_instruction 352 = .ok (.ireturn, 1) := by decide +kernel
theorem dX10_instruction_353 : decode cX10_instruction 353 = .ok (.aload_n 0, 1) := by decide +kernel
theorem dX10_instruction_354 : decode cX10_instruction 354 = .ok (.invokevirtual 261, 3) := by decide +kernel
theorem dX10_instruction_357 : decode cX10_instruction 357 = .ok (.ireturn, 1) := by decide +kernel
theorem dX10_instruction_358 : decode cX10_instruction 358 = .ok (.aload_n 0, 1) := by decide +kernel
theorem dX10_instruction_359 : decode cX10_instruction 359 = .ok (.invokevirtual 264, 3) := by decide +kernel
theorem dX10_instruction_362 : decode cX10_instruction 362 = .ok (.ireturn, 1) := by decide +kernel
theorem dX10_instruction_363 : decode cX10_instruction 363 = .ok (.aload_n 0, 1) := by decide +kernel
theorem dX10_instruction_364 : decode cX10_instruction 364 = .ok (.invokevirtual 267, 3) := by decide +kernel
theorem dX10_instruction_367 : decode cX10_instruction 367 = .ok (.ireturn, 1) := by decide +kernel
theorem dX10_instruction_368 : decode cX10_instruction 368 = .ok (.aload_n 0, 1) := by decide +kernel
theorem dX10_instruction_369 : decode cX10_instruction 369 = .ok (.invokevirtual 270, 3) := by decide +kernel
theorem dX10_instruction_372 : decode cX10_instruction 372 = .ok (.ireturn, 1) := by decide +kernel
theorem dX10_instruction_373 : decode cX10_instruction 373 = .ok (.aload_n 0, 1) := by decide +kernel
theorem dX10_instruction_374 : decode cX10_instruction 374 = .ok (.invokevirtual 273, 3) := by decide +kernel
theorem dX10_instruction_377 : decode cX10_instruction 377 = .ok (.ireturn, 1) := by decide +kernel
theorem dX10_instruction_378 : decode cX10_instruction 378 = .ok (.aload_n 0, 1) := by decide +kernel
theorem dX10_instruction_379 : decode cX10_instruction 379 = .ok (.invokevirtual 276, 3) := by decide +kernel
theorem dX10_instruction_382 : decode cX10_instruction 382 = .ok (.ireturn, 1) := by decide +kernel
theorem dX10_instruction_383 : decode cX10_instruction 383 = .ok (.aload_n 0, 1) := by decide +kernel
theorem dX10_instruction_384 : decode cX10_instruction 384 = .ok (.getfield 226, 3) := by decide +kernel
theorem dX10_instruction_387 : decode cX10_instruction 387 = .ok (.iconst 1, 1) := by decide +kernel
theorem dX10_instruction_388 : decode cX10_instruction 388 = .ok (.if_icmp .le 10, 3) := by decide +kernel
theorem dX10_instruction_391 : decode cX10_instruction 391 = .ok (.aload_n 0, 1) := by decide +kernel
theorem dX10_instruction_392 : decode cX10_instruction 392 = .ok (.invokevirtual 250, 3) := by decide +kernel
theorem dX10_instruction_395 : decode cX10_instruction 395 = .ok (.goto 7, 3) := by decide +kernel
theorem dX10_instruction_398 : decode cX10_instruction 398 = .ok (.aload_n 0, 1) := by decide +kernel
theorem dX10_instruction_399 : decode cX10_instruction 399 = .ok (.invokevirtual 279, 3) := by decide +kernel
theorem dX10_instruction_402 : decode cX10_instruction 402 = .ok (.ireturn, 1) := by decide +kernel
theorem dX10_instruction_403 : decode cX10_instruction 403 = .ok (.aload_n 0, 1) := by decide +kernel
theorem dX10_instruction_404 : decode cX10_instruction 404 = .ok (.lload_n 1, 1) := by decide +kernel
theorem dX10_instruction_405 : decode cX10_instruction 405 = .ok (.invokevirtual 282, 3) := by decide +kernel
theorem dX10_instruction_408 : decode cX10_instruction 408 = .ok (.ireturn, 1) := by decide +kernel
theorem dX10_instruction_409 : decode cX10_instruction 409 = .ok (.aload_n 0, 1) := by decide +kernel
theorem dX10_instruction_410 : decode cX10_instruction 410 = .ok (.invokevirtual 250, 3) := by decide +kernel
theorem dX10_instruction_413 : decode cX10_instruction 413 = .ok (.ireturn, 1) := by decide +kernel
theorem dX10_goesOn_0 : decode cX10_goesOn 0 = .ok (.aload_n 0, 1) := by decide +kernel
theorem dX10_goesOn_1 : decode cX10_goesOn 1 = .ok (.getfield 18, 3) := by decide +kernel
theorem dX10_goesOn_4 : decode cX10_goesOn 4 = .ok (.aload_n 0, 1) := by decide +kernel
theorem dX10_goesOn_5 : decode cX10_goesOn 5 = .ok (.invokevirtual 166, 3) := by decide +kernel
theorem dX10_goesOn_8 : decode cX10_goesOn 8 = .ok (.dup2, 1) := by decide +kernel
theorem dX10_goesOn_9 : decode cX10_goesOn 9 = .ok (.laload, 1) := by decide +kernel
theorem dX10_goesOn_10 : decode cX10_goesOn 10 = .ok (.ldc2_w 140, 3) := by decide +kernel
theorem dX10_goesOn_13 : decode cX10_goesOn 13 = .ok (.ladd, 1) := by decide +kernel
theorem dX10_goesOn_14 : decode cX10_goesOn 14 = .ok (.lastore, 1) := by decide +kernel
theorem dX10_goesOn_15 : decode cX10_goesOn 15 = .ok (.iconst (-1), 1) := by decide +kernel
theorem dX10_goesOn_16 : decode cX10_goesOn 16 = .ok (.ireturn, 1) := by decide +kernel
theorem dX10_sets_0 : decode cX10_sets 0 = .ok (.aload_n 0, 1) := by decide +kernel
theorem dX10_sets_1 : decode cX10_sets 1 = .ok (.aload_n 0, 1) := by decide +kernel
theorem dX10_sets_2 : decode cX10_sets 2 = .ok (.getfield 223, 3) := by decide +kernel
theorem dX10_sets_5 : decode cX10_sets 5 = .ok (.lload_n 1, 1) := by decide +kernel
theorem dX10_sets_6 : decode cX10_sets 6 = .ok (.invokevirtual 285, 3) := by decide +kernel
theorem dX10_sets_9 : decode cX10_sets 9 = .ok (.aload_n 0, 1) := by decide +kernel
theorem dX10_sets_10 : decode cX10_sets 10 = .ok (.invokevirtual 279, 3) := by decide +kernel
theorem dX10_sets_13 : decode cX10_sets 13 = .ok (.ireturn, 1) := by decide +kernel
theorem dX10_jump_0 : decode cX10_jump 0 = .ok (.aload_n 0, 1) := by decide +kernel
theorem dX10_jump_1 : decode cX10_jump 1 = .ok (.getfield 204, 3) := by decide +kernel
theorem dX10_jump_4 : decode cX10_jump 4 = .ok (.bipush 31, 2) := by decide +kernel
theorem dX10_jump_6 : decode cX10_jump 6 = .ok (.ishr, 1) := by decide +kernel
theorem dX10_jump_7 : decode cX10_jump 7 = .ok (.bipush 20, 2) := by decide +kernel
