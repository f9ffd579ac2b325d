theorem dX0_basic_0 : decode cX0_basic 0 = .ok (.lload 4, 2) := by decide +kernel
theorem dX0_basic_2 : decode cX0_basic 2 = .ok (.l2i, 1) := by decide +kernel
theorem dX0_basic_3 : decode cX0_basic 3 = .ok (.bipush 63, 2) := by decide +kernel
theorem dX0_basic_5 : decode cX0_basic 5 = .ok (.iand, 1) := by decide +kernel
theorem dX0_basic_6 : decode cX0_basic 6 = .ok (.istore 6, 2) := by decide +kernel
theorem dX0_basic_8 : decode cX0_basic 8 = .ok (.iload_n 0, 1) := by decide +kernel
theorem dX0_basic_9 : decode cX0_basic 9 = .ok (.tableswitch 118 0 6 #[43, 59, 64, 77, 92, 97, 113], 43) := by decide +kernel
theorem dX0_basic_52 : decode cX0_basic 52 = .ok (.iload_n 1, 1) := by decide +kernel
theorem dX0_basic_53 : decode cX0_basic 53 = .ok (.ifCond .eq 10, 3) := by decide +kernel
theorem dX0_basic_56 : decode cX0_basic 56 = .ok (.lload_n 2, 1) := by decide +kernel
theorem dX0_basic_57 : decode cX0_basic 57 = .ok (.lload 4, 2) := by decide +kernel
theorem dX0_basic_59 : decode cX0_basic 59 = .ok (.lsub, 1) := by decide +kernel
theorem dX0_basic_60 : decode cX0_basic 60 = .ok (.goto 7, 3) := by decide +kernel
theorem dX0_basic_63 : decode cX0_basic 63 = .ok (.lload_n 2, 1) := by decide +kernel
theorem dX0_basic_64 : decode cX0_basic 64 = .ok (.lload 4, 2) := by decide +kernel
theorem dX0_basic_66 : decode cX0_basic 66 = .ok (.ladd, 1) := by decide +kernel
theorem dX0_basic_67 : decode cX0_basic 67 = .ok (.lreturn, 1) := by decide +kernel
theorem dX0_basic_68 : decode cX0_basic 68 = .ok (.lload_n 2, 1) := by decide +kernel
theorem dX0_basic_69 : decode cX0_basic 69 = .ok (.iload 6, 2) := by decide +kernel
theorem dX0_basic_71 : decode cX0_basic 71 = .ok (.lshl, 1) := by decide +kernel
theorem dX0_basic_72 : decode cX0_basic 72 = .ok (.lreturn, 1) := by decide +kernel
theorem dX0_basic_73 : decode cX0_basic 73 = .ok (.lload_n 2, 1) := by decide +kernel
theorem dX0_basic_74 : decode cX0_basic 74 = .ok (.lload 4, 2) := by decide +kernel
theorem dX0_basic_76 : decode cX0_basic 76 = .ok (.lcmp, 1) := by decide +kernel
theorem dX0_basic_77 : decode cX0_basic 77 = .ok (.ifCond .ge 7, 3) := by decide +kernel
theorem dX0_basic_80 : decode cX0_basic 80 = .ok (.lconst 1, 1) := by decide +kernel
theorem dX0_basic_81 : decode cX0_basic 81 = .ok (.goto 4, 3) := by decide +kernel
theorem dX0_basic_84 : decode cX0_basic 84 = .ok (.lconst 0, 1) := by decide +kernel
theorem dX0_basic_85 : decode cX0_basic 85 = .ok (.lreturn, 1) := by decide +kernel
theorem dX0_basic_86 : decode cX0_basic 86 = .ok (.lload_n 2, 1) := by decide +kernel
theorem dX0_basic_87 : decode cX0_basic 87 = .ok (.lload 4, 2) := by decide +kernel
theorem dX0_basic_89 : decode cX0_basic 89 = .ok (.invokestatic 7, 3) := by decide +kernel
theorem dX0_basic_92 : decode cX0_basic 92 = .ok (.ifCond .ge 7, 3) := by decide +kernel
theorem dX0_basic_95 : decode cX0_basic 95 = .ok (.lconst 1, 1) := by decide +kernel
theorem dX0_basic_96 : decode cX0_basic 96 = .ok (.goto 4, 3) := by decide +kernel
theorem dX0_basic_99 : decode cX0_basic 99 = .ok (.lconst 0, 1) := by decide +kernel
theorem dX0_basic_100 : decode cX0_basic 100 = .ok (.lreturn, 1) := by decide +kernel
theorem dX0_basic_101 : decode cX0_basic 101 = .ok (.lload_n 2, 1) := by decide +kernel
theorem dX0_basic_102 : decode cX0_basic 102 = .ok (.lload 4, 2) := by decide +kernel
theorem dX0_basic_104 : decode cX0_basic 104 = .ok (.lxor, 1) := by decide +kernel
theorem dX0_basic_105 : decode cX0_basic 105 = .ok (.lreturn, 1) := by decide +kernel
theorem dX0_basic_106 : decode cX0_basic 106 = .ok (.iload_n 1, 1) := by decide +kernel
theorem dX0_basic_107 : decode cX0_basic 107 = .ok (.ifCond .eq 10, 3) := by decide +kernel
theorem dX0_basic_110 : decode cX0_basic 110 = .ok (.lload_n 2, 1) := by decide +kernel
theorem dX0_basic_111 : decode cX0_basic 111 = .ok (.iload 6, 2) := by decide +kernel
theorem dX0_basic_113 : decode cX0_basic 113 = .ok (.lshr, 1) := by decide +kernel
theorem dX0_basic_114 : decode cX0_basic 114 = .ok (.goto 7, 3) := by decide +kernel
theorem dX0_basic_117 : decode cX0_basic 117 = .ok (.lload_n 2, 1) := by decide +kernel
theorem dX0_basic_118 : decode cX0_basic 118 = .ok (.iload 6, 2) := by decide +kernel
theorem dX0_basic_120 : decode cX0_basic 120 = .ok (.lushr, 1) := by decide +kernel
theorem dX0_basic_121 : decode cX0_basic 121 = .ok (.lreturn, 1) := by decide +kernel
theorem dX0_basic_122 : decode cX0_basic 122 = .ok (.lload_n 2, 1) := by decide +kernel
theorem dX0_basic_123 : decode cX0_basic 123 = .ok (.lload 4, 2) := by decide +kernel
theorem dX0_basic_125 : decode cX0_basic 125 = .ok (.lor, 1) := by decide +kernel
theorem dX0_basic_126 : decode cX0_basic 126 = .ok (.lreturn, 1) := by decide +kernel
theorem dX0_basic_127 : decode cX0_basic 127 = .ok (.lload_n 2, 1) := by decide +kernel
theorem dX0_basic_128 : decode cX0_basic 128 = .ok (.lload 4, 2) := by decide +kernel
theorem dX0_basic_130 : decode cX0_basic 130 = .ok (.land, 1) := by decide +kernel
theorem dX0_basic_131 : decode cX0_basic 131 = .ok (.lreturn, 1) := by decide +kernel
theorem dX0_basicWord_0 : decode cX0_basicWord 0 = .ok (.iload_n 3, 1) := by decide +kernel
theorem dX0_basicWord_1 : decode cX0_basicWord 1 = .ok (.bipush 31, 2) := by decide +kernel
theorem dX0_basicWord_3 : decode cX0_basicWord 3 = .ok (.iand, 1) := by decide +kernel
theorem dX0_basicWord_4 : decode cX0_basicWord 4 = .ok (.istore 4, 2) := by decide +kernel
theorem dX0_basicWord_6 : decode cX0_basicWord 6 = .ok (.iload_n 0, 1) := by decide +kernel
theorem dX0_basicWord_7 : decode cX0_basicWord 7 = .ok (.lookupswitch 47 #[(0, 25), (1, 41)], 25) := by decide +kernel
theorem dX0_basicWord_32 : decode cX0_basicWord 32 = .ok (.iload_n 1, 1) := by decide +kernel
theorem dX0_basicWord_33 : decode cX0_basicWord 33 = .ok (.ifCond .eq 10, 3) := by decide +kernel
theorem dX0_basicWord_36 : decode cX0_basicWord 36 = .ok (.iload_n 2, 1) := by decide +kernel
theorem dX0_basicWord_37 : decode cX0_basicWord 37 = .ok (.iload_n 3, 1) := by decide +kernel
theorem dX0_basicWord_38 : decode cX0_basicWord 38 = .ok (.isub, 1) := by decide +kernel
theorem dX0_basicWord_39 : decode cX0_basicWord 39 = .ok (.i2l, 1) := by decide +kernel
theorem dX0_basicWord_40 : decode cX0_basicWord 40 = .ok (.goto 7, 3) := by decide +kernel
theorem dX0_basicWord_43 : decode cX0_basicWord 43 = .ok (.iload_n 2, 1) := by decide +kernel
theorem dX0_basicWord_44 : decode cX0_basicWord 44 = .ok (.iload_n 3, 1) := by decide +kernel
theorem dX0_basicWord_45 : decode cX0_basicWord 45 = .ok (.iadd, 1) := by decide +kernel
theorem dX0_basicWord_46 : decode cX0_basicWord 46 = .ok (.i2l, 1) := by decide +kernel
theorem dX0_basicWord_47 : decode cX0_basicWord 47 = .ok (.lreturn, 1) := by decide +kernel
theorem dX0_basicWord_48 : decode cX0_basicWord 48 = .ok (.iload_n 2, 1) := by decide +kernel
theorem dX0_basicWord_49 : decode cX0_basicWord 49 = .ok (.iload 4, 2) := by decide +kernel
theorem dX0_basicWord_51 : decode cX0_basicWord 51 = .ok (.ishl, 1) := by decide +kernel
theorem dX0_basicWord_52 : decode cX0_basicWord 52 = .ok (.i2l, 1) := by decide +kernel
theorem dX0_basicWord_53 : decode cX0_basicWord 53 = .ok (.lreturn, 1) := by decide +kernel
theorem dX0_basicWord_54 : decode cX0_basicWord 54 = .ok (.iload_n 1, 1) := by decide +kernel
theorem dX0_basicWord_55 : decode cX0_basicWord 55 = .ok (.ifCond .eq 11, 3) := by decide +kernel
theorem dX0_basicWord_58 : decode cX0_basicWord 58 = .ok (.iload_n 2, 1) := by decide +kernel
theorem dX0_basicWord_59 : decode cX0_basicWord 59 = .ok (.iload 4, 2) := by decide +kernel
theorem dX0_basicWord_61 : decode cX0_basicWord 61 = .ok (.ishr, 1) := by decide +kernel
theorem dX0_basicWord_62 : decode cX0_basicWord 62 = .ok (.i2l, 1) := by decide +kernel
theorem dX0_basicWord_63 : decode cX0_basicWord 63 = .ok (.goto 8, 3) := by decide +kernel
theorem dX0_basicWord_66 : decode cX0_basicWord 66 = .ok (.iload_n 2, 1) := by decide +kernel
theorem dX0_basicWord_67 : decode cX0_basicWord 67 = .ok (.iload 4, 2) := by decide +kernel
theorem dX0_basicWord_69 : decode cX0_basicWord 69 = .ok (.iushr, 1) := by decide +kernel
theorem dX0_basicWord_70 : decode cX0_basicWord 70 = .ok (.i2l, 1) := by decide +kernel
theorem dX0_basicWord_71 : decode cX0_basicWord 71 = .ok (.lreturn, 1) := by decide +kernel
theorem dX0_multiplied_0 : decode cX0_multiplied 0 = .ok (.iload_n 0, 1) := by decide +kernel
theorem dX0_multiplied_1 : decode cX0_multiplied 1 = .ok (.tableswitch 50 0 2 #[27, 31, 37], 27) := by decide +kernel
theorem dX0_multiplied_28 : decode cX0_multiplied 28 = .ok (.lload_n 1, 1) := by decide +kernel
theorem dX0_multiplied_29 : decode cX0_multiplied 29 = .ok (.lload_n 3, 1) := by decide +kernel
theorem dX0_multiplied_30 : decode cX0_multiplied 30 = .ok (.lmul, 1) := by decide +kernel
theorem dX0_multiplied_31 : decode cX0_multiplied 31 = .ok (.lreturn, 1) := by decide +kernel
theorem dX0_multiplied_32 : decode cX0_multiplied 32 = .ok (.lload_n 1, 1) := by decide +kernel
theorem dX0_multiplied_33 : decode cX0_multiplied 33 = .ok (.lload_n 3, 1) := by decide +kernel
theorem dX0_multiplied_34 : decode cX0_multiplied 34 = .ok (.invokestatic 13, 3) := by decide +kernel
theorem dX0_multiplied_37 : decode cX0_multiplied 37 = .ok (.lreturn, 1) := by decide +kernel
theorem dX0_multiplied_38 : decode cX0_multiplied 38 = .ok (.lload_n 1, 1) := by decide +kernel
theorem dX0_multiplied_39 : decode cX0_multiplied 39 = .ok (.lload_n 3, 1) := by decide +kernel
theorem dX0_multiplied_40 : decode cX0_multiplied 40 = .ok (.invokestatic 13, 3) := by decide +kernel
theorem dX0_multiplied_43 : decode cX0_multiplied 43 = .ok (.lload_n 1, 1) := by decide +kernel
theorem dX0_multiplied_44 : decode cX0_multiplied 44 = .ok (.lload_n 3, 1) := by decide +kernel
theorem dX0_multiplied_45 : decode cX0_multiplied 45 = .ok (.bipush 63, 2) := by decide +kernel
theorem dX0_multiplied_47 : decode cX0_multiplied 47 = .ok (.lshr, 1) := by decide +kernel
theorem dX0_multiplied_48 : decode cX0_multiplied 48 = .ok (.land, 1) := by decide +kernel
theorem dX0_multiplied_49 : decode cX0_multiplied 49 = .ok (.ladd, 1) := by decide +kernel
theorem dX0_multiplied_50 : decode cX0_multiplied 50 = .ok (.lreturn, 1) := by decide +kernel
theorem dX0_multiplied_51 : decode cX0_multiplied 51 = .ok (.lload_n 1, 1) := by decide +kernel
theorem dX0_multiplied_52 : decode cX0_multiplied 52 = .ok (.lload_n 3, 1) := by decide +kernel
theorem dX0_multiplied_53 : decode cX0_multiplied 53 = .ok (.invokestatic 13, 3) := by decide +kernel
theorem dX0_multiplied_56 : decode cX0_multiplied 56 = .ok (.lload_n 1, 1) := by decide +kernel
theorem dX0_multiplied_57 : decode cX0_multiplied 57 = .ok (.lload_n 3, 1) := by decide +kernel
theorem dX0_multiplied_58 : decode cX0_multiplied 58 = .ok (.bipush 63, 2) := by decide +kernel
theorem dX0_multiplied_60 : decode cX0_multiplied 60 = .ok (.lshr, 1) := by decide +kernel
theorem dX0_multiplied_61 : decode cX0_multiplied 61 = .ok (.land, 1) := by decide +kernel
theorem dX0_multiplied_62 : decode cX0_multiplied 62 = .ok (.ladd, 1) := by decide +kernel
theorem dX0_multiplied_63 : decode cX0_multiplied 63 = .ok (.lload_n 3, 1) := by decide +kernel
theorem dX0_multiplied_64 : decode cX0_multiplied 64 = .ok (.lload_n 1, 1) := by decide +kernel
theorem dX0_multiplied_65 : decode cX0_multiplied 65 = .ok (.bipush 63, 2) := by decide +kernel
theorem dX0_multiplied_67 : decode cX0_multiplied 67 = .ok (.lshr, 1) := by decide +kernel
theorem dX0_multiplied_68 : decode cX0_multiplied 68 = .ok (.land, 1) := by decide +kernel
theorem dX0_multiplied_69 : decode cX0_multiplied 69 = .ok (.ladd, 1) := by decide +kernel
theorem dX0_multiplied_70 : decode cX0_multiplied 70 = .ok (.lreturn, 1) := by decide +kernel
theorem dX0_multipliedWord_0 : decode cX0_multipliedWord 0 = .ok (.iload_n 0, 1) := by decide +kernel
theorem dX0_multipliedWord_1 : decode cX0_multipliedWord 1 = .ok (.tableswitch 103 0 6 #[43, 103, 103, 103, 48, 63, 89], 43) := by decide +kernel
theorem dX0_multipliedWord_44 : decode cX0_multipliedWord 44 = .ok (.iload_n 1, 1) := by decide +kernel
theorem dX0_multipliedWord_45 : decode cX0_multipliedWord 45 = .ok (.iload_n 2, 1) := by decide +kernel
theorem dX0_multipliedWord_46 : decode cX0_multipliedWord 46 = .ok (.imul, 1) := by decide +kernel
theorem dX0_multipliedWord_47 : decode cX0_multipliedWord 47 = .ok (.i2l, 1) := by decide +kernel
theorem dX0_multipliedWord_48 : decode cX0_multipliedWord 48 = .ok (.lreturn, 1) := by decide +kernel
theorem dX0_multipliedWord_49 : decode cX0_multipliedWord 49 = .ok (.iload_n 2, 1) := by decide +kernel
theorem dX0_multipliedWord_50 : decode cX0_multipliedWord 50 = .ok (.ifCond .ne 9, 3) := by decide +kernel
theorem dX0_multipliedWord_53 : decode cX0_multipliedWord 53 = .ok (.ldc2_w 19, 3) := by decide +kernel
theorem dX0_multipliedWord_56 : decode cX0_multipliedWord 56 = .ok (.goto 7, 3) := by decide +kernel
theorem dX0_multipliedWord_59 : decode cX0_multipliedWord 59 = .ok (.iload_n 1, 1) := by decide +kernel
theorem dX0_multipliedWord_60 : decode cX0_multipliedWord 60 = .ok (.iload_n 2, 1) := by decide +kernel
theorem dX0_multipliedWord_61 : decode cX0_multipliedWord 61 = .ok (.idiv, 1) := by decide +kernel
theorem dX0_multipliedWord_62 : decode cX0_multipliedWord 62 = .ok (.i2l, 1) := by decide +kernel
theorem dX0_multipliedWord_63 : decode cX0_multipliedWord 63 = .ok (.lreturn, 1) := by decide +kernel
theorem dX0_multipliedWord_64 : decode cX0_multipliedWord 64 = .ok (.iload_n 2, 1) := by decide +kernel
theorem dX0_multipliedWord_65 : decode cX0_multipliedWord 65 = .ok (.ifCond .ne 9, 3) := by decide +kernel
theorem dX0_multipliedWord_68 : decode cX0_multipliedWord 68 = .ok (.ldc2_w 19, 3) := by decide +kernel
theorem dX0_multipliedWord_71 : decode cX0_multipliedWord 71 = .ok (.goto 18, 3) := by decide +kernel
theorem dX0_multipliedWord_74 : decode cX0_multipliedWord 74 = .ok (.iload_n 1, 1) := by decide +kernel
theorem dX0_multipliedWord_75 : decode cX0_multipliedWord 75 = .ok (.i2l, 1) := by decide +kernel
theorem dX0_multipliedWord_76 : decode cX0_multipliedWord 76 = .ok (.ldc2_w 23, 3) := by decide +kernel
theorem dX0_multipliedWord_79 : decode cX0_multipliedWord 79 = .ok (.land, 1) := by decide +kernel
theorem dX0_multipliedWord_80 : decode cX0_multipliedWord 80 = .ok (.iload_n 2, 1) := by decide +kernel
theorem dX0_multipliedWord_81 : decode cX0_multipliedWord 81 = .ok (.i2l, 1) := by decide +kernel
theorem dX0_multipliedWord_82 : decode cX0_multipliedWord 82 = .ok (.ldc2_w 23, 3) := by decide +kernel
theorem dX0_multipliedWord_85 : decode cX0_multipliedWord 85 = .ok (.land, 1) := by decide +kernel
theorem dX0_multipliedWord_86 : decode cX0_multipliedWord 86 = .ok (.ldiv, 1) := by decide +kernel
theorem dX0_multipliedWord_87 : decode cX0_multipliedWord 87 = .ok (.l2i, 1) := by decide +kernel
theorem dX0_multipliedWord_88 : decode cX0_multipliedWord 88 = .ok (.i2l, 1) := by decide +kernel
theorem dX0_multipliedWord_89 : decode cX0_multipliedWord 89 = .ok (.lreturn, 1) := by decide +kernel
theorem dX0_multipliedWord_90 : decode cX0_multipliedWord 90 = .ok (.iload_n 2, 1) := by decide +kernel
theorem dX0_multipliedWord_91 : decode cX0_multipliedWord 91 = .ok (.ifCond .ne 8, 3) := by decide +kernel
theorem dX0_multipliedWord_94 : decode cX0_multipliedWord 94 = .ok (.iload_n 1, 1) := by decide +kernel
theorem dX0_multipliedWord_95 : decode cX0_multipliedWord 95 = .ok (.i2l, 1) := by decide +kernel
theorem dX0_multipliedWord_96 : decode cX0_multipliedWord 96 = .ok (.goto 7, 3) := by decide +kernel
theorem dX0_multipliedWord_99 : decode cX0_multipliedWord 99 = .ok (.iload_n 1, 1) := by decide +kernel
theorem dX0_multipliedWord_100 : decode cX0_multipliedWord 100 = .ok (.iload_n 2, 1) := by decide +kernel
theorem dX0_multipliedWord_101 : decode cX0_multipliedWord 101 = .ok (.irem, 1) := by decide +kernel
theorem dX0_multipliedWord_102 : decode cX0_multipliedWord 102 = .ok (.i2l, 1) := by decide +kernel
theorem dX0_multipliedWord_103 : decode cX0_multipliedWord 103 = .ok (.lreturn, 1) := by decide +kernel
theorem dX0_multipliedWord_104 : decode cX0_multipliedWord 104 = .ok (.iload_n 2, 1) := by decide +kernel
theorem dX0_multipliedWord_105 : decode cX0_multipliedWord 105 = .ok (.ifCond .ne 8, 3) := by decide +kernel
theorem dX0_multipliedWord_108 : decode cX0_multipliedWord 108 = .ok (.iload_n 1, 1) := by decide +kernel
theorem dX0_multipliedWord_109 : decode cX0_multipliedWord 109 = .ok (.i2l, 1) := by decide +kernel
theorem dX0_multipliedWord_110 : decode cX0_multipliedWord 110 = .ok (.goto 18, 3) := by decide +kernel
theorem dX0_multipliedWord_113 : decode cX0_multipliedWord 113 = .ok (.iload_n 1, 1) := by decide +kernel
theorem dX0_multipliedWord_114 : decode cX0_multipliedWord 114 = .ok (.i2l, 1) := by decide +kernel
theorem dX0_multipliedWord_115 : decode cX0_multipliedWord 115 = .ok (.ldc2_w 23, 3) := by decide +kernel
theorem dX0_multipliedWord_118 : decode cX0_multipliedWord 118 = .ok (.land, 1) := by decide +kernel
theorem dX0_multipliedWord_119 : decode cX0_multipliedWord 119 = .ok (.iload_n 2, 1) := by decide +kernel
theorem dX0_multipliedWord_120 : decode cX0_multipliedWord 120 = .ok (.i2l, 1) := by decide +kernel
theorem dX0_multipliedWord_121 : decode cX0_multipliedWord 121 = .ok (.ldc2_w 23, 3) := by decide +kernel
theorem dX0_multipliedWord_124 : decode cX0_multipliedWord 124 = .ok (.land, 1) := by decide +kernel
theorem dX0_multipliedWord_125 : decode cX0_multipliedWord 125 = .ok (.lrem, 1) := by decide +kernel
theorem dX0_multipliedWord_126 : decode cX0_multipliedWord 126 = .ok (.l2i, 1) := by decide +kernel
theorem dX0_multipliedWord_127 : decode cX0_multipliedWord 127 = .ok (.i2l, 1) := by decide +kernel
theorem dX0_multipliedWord_128 : decode cX0_multipliedWord 128 = .ok (.lreturn, 1) := by decide +kernel
theorem dX0_divided_0 : decode cX0_divided 0 = .ok (.iload_n 0, 1) := by decide +kernel
theorem dX0_divided_1 : decode cX0_divided 1 = .ok (.tableswitch 63 4 6 #[27, 43, 49], 27) := by decide +kernel
theorem dX0_divided_28 : decode cX0_divided 28 = .ok (.lload_n 3, 1) := by decide +kernel
theorem dX0_divided_29 : decode cX0_divided 29 = .ok (.lconst 0, 1) := by decide +kernel
theorem dX0_divided_30 : decode cX0_divided 30 = .ok (.lcmp, 1) := by decide +kernel
theorem dX0_divided_31 : decode cX0_divided 31 = .ok (.ifCond .ne 9, 3) := by decide +kernel
theorem dX0_divided_34 : decode cX0_divided 34 = .ok (.ldc2_w 19, 3) := by decide +kernel
theorem dX0_divided_37 : decode cX0_divided 37 = .ok (.goto 6, 3) := by decide +kernel
theorem dX0_divided_40 : decode cX0_divided 40 = .ok (.lload_n 1, 1) := by decide +kernel
theorem dX0_divided_41 : decode cX0_divided 41 = .ok (.lload_n 3, 1) := by decide +kernel
theorem dX0_divided_42 : decode cX0_divided 42 = .ok (.ldiv, 1) := by decide +kernel
theorem dX0_divided_43 : decode cX0_divided 43 = .ok (.lreturn, 1) := by decide +kernel
theorem dX0_divided_44 : decode cX0_divided 44 = .ok (.lload_n 1, 1) := by decide +kernel
theorem dX0_divided_45 : decode cX0_divided 45 = .ok (.lload_n 3, 1) := by decide +kernel
theorem dX0_divided_46 : decode cX0_divided 46 = .ok (.invokestatic 25, 3) := by decide +kernel
theorem dX0_divided_49 : decode cX0_divided 49 = .ok (.lreturn, 1) := by decide +kernel
theorem dX0_divided_50 : decode cX0_divided 50 = .ok (.lload_n 3, 1) := by decide +kernel
theorem dX0_divided_51 : decode cX0_divided 51 = .ok (.lconst 0, 1) := by decide +kernel
theorem dX0_divided_52 : decode cX0_divided 52 = .ok (.lcmp, 1) := by decide +kernel
theorem dX0_divided_53 : decode cX0_divided 53 = .ok (.ifCond .ne 7, 3) := by decide +kernel
theorem dX0_divided_56 : decode cX0_divided 56 = .ok (.lload_n 1, 1) := by decide +kernel
theorem dX0_divided_57 : decode cX0_divided 57 = .ok (.goto 6, 3) := by decide +kernel
theorem dX0_divided_60 : decode cX0_divided 60 = .ok (.lload_n 1, 1) := by decide +kernel
theorem dX0_divided_61 : decode cX0_divided 61 = .ok (.lload_n 3, 1) := by decide +kernel
theorem dX0_divided_62 : decode cX0_divided 62 = .ok (.lrem, 1) := by decide +kernel
theorem dX0_divided_63 : decode cX0_divided 63 = .ok (.lreturn, 1) := by decide +kernel
theorem dX0_divided_64 : decode cX0_divided 64 = .ok (.lload_n 3, 1) := by decide +kernel
theorem dX0_divided_65 : decode cX0_divided 65 = .ok (.lconst 0, 1) := by decide +kernel
theorem dX0_divided_66 : decode cX0_divided 66 = .ok (.lcmp, 1) := by decide +kernel
theorem dX0_divided_67 : decode cX0_divided 67 = .ok (.ifCond .ne 7, 3) := by decide +kernel
theorem dX0_divided_70 : decode cX0_divided 70 = .ok (.lload_n 1, 1) := by decide +kernel
theorem dX0_divided_71 : decode cX0_divided 71 = .ok (.goto 12, 3) := by decide +kernel
theorem dX0_divided_74 : decode cX0_divided 74 = .ok (.lload_n 1, 1) := by decide +kernel
theorem dX0_divided_75 : decode cX0_divided 75 = .ok (.lload_n 1, 1) := by decide +kernel
theorem dX0_divided_76 : decode cX0_divided 76 = .ok (.lload_n 3, 1) := by decide +kernel
theorem dX0_divided_77 : decode cX0_divided 77 = .ok (.invokestatic 25, 3) := by decide +kernel
theorem dX0_divided_80 : decode cX0_divided 80 = .ok (.lload_n 3, 1) := by decide +kernel
theorem dX0_divided_81 : decode cX0_divided 81 = .ok (.lmul, 1) := by decide +kernel
theorem dX0_divided_82 : decode cX0_divided 82 = .ok (.lsub, 1) := by decide +kernel
theorem dX0_divided_83 : decode cX0_divided 83 = .ok (.lreturn, 1) := by decide +kernel
theorem dX0_quotientWithoutSign_0 : decode cX0_quotientWithoutSign 0 = .ok (.lload_n 2, 1) := by decide +kernel
theorem dX0_quotientWithoutSign_1 : decode cX0_quotientWithoutSign 1 = .ok (.lconst 0, 1) := by decide +kernel
theorem dX0_quotientWithoutSign_2 : decode cX0_quotientWithoutSign 2 = .ok (.lcmp, 1) := by decide +kernel
theorem dX0_quotientWithoutSign_3 : decode cX0_quotientWithoutSign 3 = .ok (.ifCond .ne 7, 3) := by decide +kernel
theorem dX0_quotientWithoutSign_6 : decode cX0_quotientWithoutSign 6 = .ok (.ldc2_w 19, 3) := by decide +kernel
theorem dX0_quotientWithoutSign_9 : decode cX0_quotientWithoutSign 9 = .ok (.lreturn, 1) := by decide +kernel
theorem dX0_quotientWithoutSign_10 : decode cX0_quotientWithoutSign 10 = .ok (.lload_n 2, 1) := by decide +kernel
theorem dX0_quotientWithoutSign_11 : decode cX0_quotientWithoutSign 11 = .ok (.lconst 0, 1) := by decide +kernel
theorem dX0_quotientWithoutSign_12 : decode cX0_quotientWithoutSign 12 = .ok (.lcmp, 1) := by decide +kernel
theorem dX0_quotientWithoutSign_13 : decode cX0_quotientWithoutSign 13 = .ok (.ifCond .ge 17, 3) := by decide +kernel
theorem dX0_quotientWithoutSign_16 : decode cX0_quotientWithoutSign 16 = .ok (.lload_n 0, 1) := by decide +kernel
theorem dX0_quotientWithoutSign_17 : decode cX0_quotientWithoutSign 17 = .ok (.lload_n 2, 1) := by decide +kernel
theorem dX0_quotientWithoutSign_18 : decode cX0_quotientWithoutSign 18 = .ok (.invokestatic 7, 3) := by decide +kernel
theorem dX0_quotientWithoutSign_21 : decode cX0_quotientWithoutSign 21 = .ok (.ifCond .ge 7, 3) := by decide +kernel
theorem dX0_quotientWithoutSign_24 : decode cX0_quotientWithoutSign 24 = .ok (.lconst 0, 1) := by decide +kernel
theorem dX0_quotientWithoutSign_25 : decode cX0_quotientWithoutSign 25 = .ok (.goto 4, 3) := by decide +kernel
theorem dX0_quotientWithoutSign_28 : decode cX0_quotientWithoutSign 28 = .ok (.lconst 1, 1) := by decide +kernel
theorem dX0_quotientWithoutSign_29 : decode cX0_quotientWithoutSign 29 = .ok (.lreturn, 1) := by decide +kernel
theorem dX0_quotientWithoutSign_30 : decode cX0_quotientWithoutSign 30 = .ok (.lload_n 0, 1) := by decide +kernel
theorem dX0_quotientWithoutSign_31 : decode cX0_quotientWithoutSign 31 = .ok (.iconst 1, 1) := by decide +kernel
theorem dX0_quotientWithoutSign_32 : decode cX0_quotientWithoutSign 32 = .ok (.lushr, 1) := by decide +kernel
theorem dX0_quotientWithoutSign_33 : decode cX0_quotientWithoutSign 33 = .ok (.lload_n 2, 1) := by decide +kernel
theorem dX0_quotientWithoutSign_34 : decode cX0_quotientWithoutSign 34 = .ok (.ldiv, 1) := by decide +kernel
theorem dX0_quotientWithoutSign_35 : decode cX0_quotientWithoutSign 35 = .ok (.iconst 1, 1) := by decide +kernel
theorem dX0_quotientWithoutSign_36 : decode cX0_quotientWithoutSign 36 = .ok (.lshl, 1) := by decide +kernel
theorem dX0_quotientWithoutSign_37 : decode cX0_quotientWithoutSign 37 = .ok (.lstore 4, 2) := by decide +kernel
theorem dX0_quotientWithoutSign_39 : decode cX0_quotientWithoutSign 39 = .ok (.lload_n 0, 1) := by decide +kernel
theorem dX0_quotientWithoutSign_40 : decode cX0_quotientWithoutSign 40 = .ok (.lload 4, 2) := by decide +kernel
theorem dX0_quotientWithoutSign_42 : decode cX0_quotientWithoutSign 42 = .ok (.lload_n 2, 1) := by decide +kernel
theorem dX0_quotientWithoutSign_43 : decode cX0_quotientWithoutSign 43 = .ok (.lmul, 1) := by decide +kernel
theorem dX0_quotientWithoutSign_44 : decode cX0_quotientWithoutSign 44 = .ok (.lsub, 1) := by decide +kernel
theorem dX0_quotientWithoutSign_45 : decode cX0_quotientWithoutSign 45 = .ok (.lstore 6, 2) := by decide +kernel
theorem dX0_quotientWithoutSign_47 : decode cX0_quotientWithoutSign 47 = .ok (.lload 6, 2) := by decide +kernel
theorem dX0_quotientWithoutSign_49 : decode cX0_quotientWithoutSign 49 = .ok (.lload_n 2, 1) := by decide +kernel
theorem dX0_quotientWithoutSign_50 : decode cX0_quotientWithoutSign 50 = .ok (.invokestatic 7, 3) := by decide +kernel
theorem dX0_quotientWithoutSign_53 : decode cX0_quotientWithoutSign 53 = .ok (.ifCond .ge 8, 3) := by decide +kernel
theorem dX0_quotientWithoutSign_56 : decode cX0_quotientWithoutSign 56 = .ok (.lload 4, 2) := by decide +kernel
theorem dX0_quotientWithoutSign_58 : decode cX0_quotientWithoutSign 58 = .ok (.goto 7, 3) := by decide +kernel
theorem dX0_quotientWithoutSign_61 : decode cX0_quotientWithoutSign 61 = .ok (.lload 4, 2) := by decide +kernel
theorem dX0_quotientWithoutSign_63 : decode cX0_quotientWithoutSign 63 = .ok (.lconst 1, 1) := by decide +kernel
theorem dX0_quotientWithoutSign_64 : decode cX0_quotientWithoutSign 64 = .ok (.ladd, 1) := by decide +kernel
theorem dX0_quotientWithoutSign_65 : decode cX0_quotientWithoutSign 65 = .ok (.lreturn, 1) := by decide +kernel
theorem dX0_holds_0 : decode cX0_holds 0 = .ok (.iload_n 0, 1) := by decide +kernel
theorem dX0_holds_1 : decode cX0_holds 1 = .ok (.tableswitch 105 0 6 #[43, 55, 105, 105, 67, 79, 91], 43) := by decide +kernel
theorem dX0_holds_44 : decode cX0_holds 44 = .ok (.lload_n 1, 1) := by decide +kernel
theorem dX0_holds_45 : decode cX0_holds 45 = .ok (.lload_n 3, 1) := by decide +kernel
theorem dX0_holds_46 : decode cX0_holds 46 = .ok (.lcmp, 1) := by decide +kernel
theorem dX0_holds_47 : decode cX0_holds 47 = .ok (.ifCond .ne 7, 3) := by decide +kernel
theorem dX0_holds_50 : decode cX0_holds 50 = .ok (.iconst 1, 1) := by decide +kernel
theorem dX0_holds_51 : decode cX0_holds 51 = .ok (.goto 4, 3) := by decide +kernel
theorem dX0_holds_54 : decode cX0_holds 54 = .ok (.iconst 0, 1) := by decide +kernel
theorem dX0_holds_55 : decode cX0_holds 55 = .ok (.ireturn, 1) := by decide +kernel
theorem dX0_holds_56 : decode cX0_holds 56 = .ok (.lload_n 1, 1) := by decide +kernel
theorem dX0_holds_57 : decode cX0_holds 57 = .ok (.lload_n 3, 1) := by decide +kernel
theorem dX0_holds_58 : decode cX0_holds 58 = .ok (.lcmp, 1) := by decide +kernel
theorem dX0_holds_59 : decode cX0_holds 59 = .ok (.ifCond .eq 7, 3) := by decide +kernel
theorem dX0_holds_62 : decode cX0_holds 62 = .ok (.iconst 1, 1) := by decide +kernel
theorem dX0_holds_63 : decode cX0_holds 63 = .ok (.goto 4, 3) := by decide +kernel
theorem dX0_holds_66 : decode cX0_holds 66 = .ok (.iconst 0, 1) := by decide +kernel
theorem dX0_holds_67 : decode cX0_holds 67 = .ok (.ireturn, 1) := by decide +kernel
theorem dX0_holds_68 : decode cX0_holds 68 = .ok (.lload_n 1, 1) := by decide +kernel
theorem dX0_holds_69 : decode cX0_holds 69 = .ok (.lload_n 3, 1) := by decide +kernel
theorem dX0_holds_70 : decode cX0_holds 70 = .ok (.lcmp, 1) := by decide +kernel
theorem dX0_holds_71 : decode cX0_holds 71 = .ok (.ifCond .ge 7, 3) := by decide +kernel
theorem dX0_holds_74 : decode cX0_holds 74 = .ok (.iconst 1, 1) := by decide +kernel
theorem dX0_holds_75 : decode cX0_holds 75 = .ok (.goto 4, 3) := by decide +kernel
theorem dX0_holds_78 : decode cX0_holds 78 = .ok (.iconst 0, 1) := by decide +kernel
theorem dX0_holds_79 : decode cX0_holds 79 = .ok (.ireturn, 1) := by decide +kernel
theorem dX0_holds_80 : decode cX0_holds 80 = .ok (.lload_n 1, 1) := by decide +kernel
theorem dX0_holds_81 : decode cX0_holds 81 = .ok (.lload_n 3, 1) := by decide +kernel
theorem dX0_holds_82 : decode cX0_holds 82 = .ok (.lcmp, 1) := by decide +kernel
theorem dX0_holds_83 : decode cX0_holds 83 = .ok (.ifCond .lt 7, 3) := by decide +kernel
theorem dX0_holds_86 : decode cX0_holds 86 = .ok (.iconst 1, 1) := by decide +kernel
theorem dX0_holds_87 : decode cX0_holds 87 = .ok (.goto 4, 3) := by decide +kernel
theorem dX0_holds_90 : decode cX0_holds 90 = .ok (.iconst 0, 1) := by decide +kernel
theorem dX0_holds_91 : decode cX0_holds 91 = .ok (.ireturn, 1) := by decide +kernel
theorem dX0_holds_92 : decode cX0_holds 92 = .ok (.lload_n 1, 1) := by decide +kernel
theorem dX0_holds_93 : decode cX0_holds 93 = .ok (.lload_n 3, 1) := by decide +kernel
theorem dX0_holds_94 : decode cX0_holds 94 = .ok (.invokestatic 7, 3) := by decide +kernel
theorem dX0_holds_97 : decode cX0_holds 97 = .ok (.ifCond .ge 7, 3) := by decide +kernel
theorem dX0_holds_100 : decode cX0_holds 100 = .ok (.iconst 1, 1) := by decide +kernel
theorem dX0_holds_101 : decode cX0_holds 101 = .ok (.goto 4, 3) := by decide +kernel
theorem dX0_holds_104 : decode cX0_holds 104 = .ok (.iconst 0, 1) := by decide +kernel
theorem dX0_holds_105 : decode cX0_holds 105 = .ok (.ireturn, 1) := by decide +kernel
theorem dX0_holds_106 : decode cX0_holds 106 = .ok (.lload_n 1, 1) := by decide +kernel
theorem dX0_holds_107 : decode cX0_holds 107 = .ok (.lload_n 3, 1) := by decide +kernel
theorem dX0_holds_108 : decode cX0_holds 108 = .ok (.invokestatic 7, 3) := by decide +kernel
theorem dX0_holds_111 : decode cX0_holds 111 = .ok (.ifCond .lt 7, 3) := by decide +kernel
theorem dX0_holds_114 : decode cX0_holds 114 = .ok (.iconst 1, 1) := by decide +kernel
theorem dX0_holds_115 : decode cX0_holds 115 = .ok (.goto 4, 3) := by decide +kernel
theorem dX0_holds_118 : decode cX0_holds 118 = .ok (.iconst 0, 1) := by decide +kernel
theorem dX0_holds_119 : decode cX0_holds 119 = .ok (.ireturn, 1) := by decide +kernel
theorem dX1_init_0 : decode cX1_init 0 = .ok (.aload_n 0, 1) := by decide +kernel
theorem dX1_init_1 : decode cX1_init 1 = .ok (.invokespecial 3, 3) := by decide +kernel
theorem dX1_init_4 : decode cX1_init 4 = .ok (.aload_n 0, 1) := by decide +kernel
theorem dX1_init_5 : decode cX1_init 5 = .ok (.aload_n 1, 1) := by decide +kernel
theorem dX1_init_6 : decode cX1_init 6 = .ok (.putfield 9, 3) := by decide +kernel
theorem dX1_init_9 : decode cX1_init 9 = .ok (.return_, 1) := by decide +kernel
theorem dX1_clear_0 : decode cX1_clear 0 = .ok (.aload_n 0, 1) := by decide +kernel
theorem dX1_clear_1 : decode cX1_clear 1 = .ok (.iconst 0, 1) := by decide +kernel
theorem dX1_clear_2 : decode cX1_clear 2 = .ok (.putfield 15, 3) := by decide +kernel
theorem dX1_clear_5 : decode cX1_clear 5 = .ok (.aload_n 0, 1) := by decide +kernel
theorem dX1_clear_6 : decode cX1_clear 6 = .ok (.lconst 0, 1) := by decide +kernel
theorem dX1_clear_7 : decode cX1_clear 7 = .ok (.putfield 19, 3) := by decide +kernel
theorem dX1_clear_10 : decode cX1_clear 10 = .ok (.aload_n 0, 1) := by decide +kernel
theorem dX1_clear_11 : decode cX1_clear 11 = .ok (.lconst 0, 1) := by decide +kernel
theorem dX1_clear_12 : decode cX1_clear 12 = .ok (.putfield 23, 3) := by decide +kernel
theorem dX1_clear_15 : decode cX1_clear 15 = .ok (.aload_n 0, 1) := by decide +kernel
theorem dX1_clear_16 : decode cX1_clear 16 = .ok (.lconst 0, 1) := by decide +kernel
theorem dX1_clear_17 : decode cX1_clear 17 = .ok (.putfield 26, 3) := by decide +kernel
theorem dX1_clear_20 : decode cX1_clear 20 = .ok (.aload_n 0, 1) := by decide +kernel
theorem dX1_clear_21 : decode cX1_clear 21 = .ok (.lconst 0, 1) := by decide +kernel
theorem dX1_clear_22 : decode cX1_clear 22 = .ok (.putfield 29, 3) := by decide +kernel
theorem dX1_clear_25 : decode cX1_clear 25 = .ok (.aload_n 0, 1) := by decide +kernel
theorem dX1_clear_26 : decode cX1_clear 26 = .ok (.iconst 0, 1) := by decide +kernel
theorem dX1_clear_27 : decode cX1_clear 27 = .ok (.putfield 32, 3) := by decide +kernel
theorem dX1_clear_30 : decode cX1_clear 30 = .ok (.return_, 1) := by decide +kernel
theorem dX1_mstatus_0 : decode cX1_mstatus 0 = .ok (.aload_n 0, 1) := by decide +kernel
theorem dX1_mstatus_1 : decode cX1_mstatus 1 = .ok (.getfield 15, 3) := by decide +kernel
theorem dX1_mstatus_4 : decode cX1_mstatus 4 = .ok (.i2l, 1) := by decide +kernel
theorem dX1_mstatus_5 : decode cX1_mstatus 5 = .ok (.bipush 11, 2) := by decide +kernel
theorem dX1_mstatus_7 : decode cX1_mstatus 7 = .ok (.lshl, 1) := by decide +kernel
theorem dX1_mstatus_8 : decode cX1_mstatus 8 = .ok (.lreturn, 1) := by decide +kernel
theorem dX1_trap_0 : decode cX1_trap 0 = .ok (.aload_n 0, 1) := by decide +kernel
theorem dX1_trap_1 : decode cX1_trap 1 = .ok (.lload_n 1, 1) := by decide +kernel
theorem dX1_trap_2 : decode cX1_trap 2 = .ok (.ldc2_w 35, 3) := by decide +kernel
theorem dX1_trap_5 : decode cX1_trap 5 = .ok (.land, 1) := by decide +kernel
theorem dX1_trap_6 : decode cX1_trap 6 = .ok (.putfield 23, 3) := by decide +kernel
theorem dX1_trap_9 : decode cX1_trap 9 = .ok (.aload_n 0, 1) := by decide +kernel
theorem dX1_trap_10 : decode cX1_trap 10 = .ok (.iload_n 3, 1) := by decide +kernel
theorem dX1_trap_11 : decode cX1_trap 11 = .ok (.i2l, 1) := by decide +kernel
theorem dX1_trap_12 : decode cX1_trap 12 = .ok (.putfield 26, 3) := by decide +kernel
theorem dX1_trap_15 : decode cX1_trap 15 = .ok (.aload_n 0, 1) := by decide +kernel
theorem dX1_trap_16 : decode cX1_trap 16 = .ok (.lload 4, 2) := by decide +kernel
theorem dX1_trap_18 : decode cX1_trap 18 = .ok (.putfield 29, 3) := by decide +kernel
theorem dX1_trap_21 : decode cX1_trap 21 = .ok (.return_, 1) := by decide +kernel
theorem dX1_isThere_0 : decode cX1_isThere 0 = .ok (.aload_n 0, 1) := by decide +kernel
theorem dX1_isThere_1 : decode cX1_isThere 1 = .ok (.iload_n 1, 1) := by decide +kernel
theorem dX1_isThere_2 : decode cX1_isThere 2 = .ok (.invokevirtual 37, 3) := by decide +kernel
theorem dX1_isThere_5 : decode cX1_isThere 5 = .ok (.ifCond .ne 17, 3) := by decide +kernel
theorem dX1_isThere_8 : decode cX1_isThere 8 = .ok (.iload_n 1, 1) := by decide +kernel
theorem dX1_isThere_9 : decode cX1_isThere 9 = .ok (.sipush 2818, 3) := by decide +kernel
theorem dX1_isThere_12 : decode cX1_isThere 12 = .ok (.if_icmp .eq 10, 3) := by decide +kernel
theorem dX1_isThere_15 : decode cX1_isThere 15 = .ok (.iload_n 1, 1) := by decide +kernel
theorem dX1_isThere_16 : decode cX1_isThere 16 = .ok (.sipush 3860, 3) := by decide +kernel
theorem dX1_isThere_19 : decode cX1_isThere 19 = .ok (.if_icmp .ne 7, 3) := by decide +kernel
theorem dX1_isThere_22 : decode cX1_isThere 22 = .ok (.iconst 1, 1) := by decide +kernel
theorem dX1_isThere_23 : decode cX1_isThere 23 = .ok (.goto 4, 3) := by decide +kernel
theorem dX1_isThere_26 : decode cX1_isThere 26 = .ok (.iconst 0, 1) := by decide +kernel
theorem dX1_isThere_27 : decode cX1_isThere 27 = .ok (.ireturn, 1) := by decide +kernel
theorem dX1_isWritable_0 : decode cX1_isWritable 0 = .ok (.iload_n 1, 1) := by decide +kernel
theorem dX1_isWritable_1 : decode cX1_isWritable 1 = .ok (.lookupswitch 69 #[(768, 67), (832, 67), (833, 67), (834, 67), (835, 67), (928, 67), (930, 67)], 67) := by decide +kernel
theorem dX1_isWritable_68 : decode cX1_isWritable 68 = .ok (.iconst 1, 1) := by decide +kernel
theorem dX1_isWritable_69 : decode cX1_isWritable 69 = .ok (.ireturn, 1) := by decide +kernel
theorem dX1_isWritable_70 : decode cX1_isWritable 70 = .ok (.iload_n 1, 1) := by decide +kernel
theorem dX1_isWritable_71 : decode cX1_isWritable 71 = .ok (.sipush 944, 3) := by decide +kernel
theorem dX1_isWritable_74 : decode cX1_isWritable 74 = .ok (.if_icmp .lt 14, 3) := by decide +kernel
theorem dX1_isWritable_77 : decode cX1_isWritable 77 = .ok (.iload_n 1, 1) := by decide +kernel
theorem dX1_isWritable_78 : decode cX1_isWritable 78 = .ok (.sipush 959, 3) := by decide +kernel
theorem dX1_isWritable_81 : decode cX1_isWritable 81 = .ok (.if_icmp .gt 7, 3) := by decide +kernel
theorem dX1_isWritable_84 : decode cX1_isWritable 84 = .ok (.iconst 1, 1) := by decide +kernel
theorem dX1_isWritable_85 : decode cX1_isWritable 85 = .ok (.goto 4, 3) := by decide +kernel
theorem dX1_isWritable_88 : decode cX1_isWritable 88 = .ok (.iconst 0, 1) := by decide +kernel
theorem dX1_isWritable_89 : decode cX1_isWritable 89 = .ok (.ireturn, 1) := by decide +kernel
theorem dX1_read_0 : decode cX1_read 0 = .ok (.iload_n 1, 1) := by decide +kernel
theorem dX1_read_1 : decode cX1_read 1 = .ok (.lookupswitch 125 #[(768, 75), (832, 80), (833, 85), (834, 90), (835, 95), (928, 100), (930, 109), (2818, 119)], 75) := by decide +kernel
theorem dX1_read_76 : decode cX1_read 76 = .ok (.aload_n 0, 1) := by decide +kernel
theorem dX1_read_77 : decode cX1_read 77 = .ok (.invokevirtual 41, 3) := by decide +kernel
theorem dX1_read_80 : decode cX1_read 80 = .ok (.lreturn, 1) := by decide +kernel
theorem dX1_read_81 : decode cX1_read 81 = .ok (.aload_n 0, 1) := by decide +kernel
theorem dX1_read_82 : decode cX1_read 82 = .ok (.getfield 19, 3) := by decide +kernel
theorem dX1_read_85 : decode cX1_read 85 = .ok (.lreturn, 1) := by decide +kernel
theorem dX1_read_86 : decode cX1_read 86 = .ok (.aload_n 0, 1) := by decide +kernel
theorem dX1_read_87 : decode cX1_read 87 = .ok (.getfield 23, 3) := by decide +kernel
theorem dX1_read_90 : decode cX1_read 90 = .ok (.lreturn, 1) := by decide +kernel
theorem dX1_read_91 : decode cX1_read 91 = .ok (.aload_n 0, 1) := by decide +kernel
theorem dX1_read_92 : decode cX1_read 92 = .ok (.getfield 26, 3) := by decide +kernel
theorem dX1_read_95 : decode cX1_read 95 = .ok (.lreturn, 1) := by decide +kernel
theorem dX1_read_96 : decode cX1_read 96 = .ok (.aload_n 0, 1) := by decide +kernel
theorem dX1_read_97 : decode cX1_read 97 = .ok (.getfield 29, 3) := by decide +kernel
theorem dX1_read_100 : decode cX1_read 100 = .ok (.lreturn, 1) := by decide +kernel
theorem dX1_read_101 : decode cX1_read 101 = .ok (.aload_n 0, 1) := by decide +kernel
theorem dX1_read_102 : decode cX1_read 102 = .ok (.getfield 9, 3) := by decide +kernel
theorem dX1_read_105 : decode cX1_read 105 = .ok (.iconst 0, 1) := by decide +kernel
theorem dX1_read_106 : decode cX1_read 106 = .ok (.invokevirtual 45, 3) := by decide +kernel
theorem dX1_read_109 : decode cX1_read 109 = .ok (.lreturn, 1) := by decide +kernel
theorem dX1_read_110 : decode cX1_read 110 = .ok (.aload_n 0, 1) := by decide +kernel
theorem dX1_read_111 : decode cX1_read 111 = .ok (.getfield 9, 3) := by decide +kernel
theorem dX1_read_114 : decode cX1_read 114 = .ok (.bipush 8, 2) := by decide +kernel
theorem dX1_read_116 : decode cX1_read 116 = .ok (.invokevirtual 45, 3) := by decide +kernel
theorem dX1_read_119 : decode cX1_read 119 = .ok (.lreturn, 1) := by decide +kernel
theorem dX1_read_120 : decode cX1_read 120 = .ok (.aload_n 0, 1) := by decide +kernel
theorem dX1_read_121 : decode cX1_read 121 = .ok (.getfield 32, 3) := by decide +kernel
theorem dX1_read_124 : decode cX1_read 124 = .ok (.i2l, 1) := by decide +kernel
theorem dX1_read_125 : decode cX1_read 125 = .ok (.lreturn, 1) := by decide +kernel
theorem dX1_read_126 : decode cX1_read 126 = .ok (.iload_n 1, 1) := by decide +kernel
theorem dX1_read_127 : decode cX1_read 127 = .ok (.sipush 944, 3) := by decide +kernel
theorem dX1_read_130 : decode cX1_read 130 = .ok (.if_icmp .lt 14, 3) := by decide +kernel
theorem dX1_read_133 : decode cX1_read 133 = .ok (.iload_n 1, 1) := by decide +kernel
theorem dX1_read_134 : decode cX1_read 134 = .ok (.sipush 959, 3) := by decide +kernel
theorem dX1_read_137 : decode cX1_read 137 = .ok (.if_icmp .gt 7, 3) := by decide +kernel
theorem dX1_read_140 : decode cX1_read 140 = .ok (.iconst 1, 1) := by decide +kernel
theorem dX1_read_141 : decode cX1_read 141 = .ok (.goto 4, 3) := by decide +kernel
theorem dX1_read_144 : decode cX1_read 144 = .ok (.iconst 0, 1) := by decide +kernel
theorem dX1_read_145 : decode cX1_read 145 = .ok (.istore_n 2, 1) := by decide +kernel
theorem dX1_read_146 : decode cX1_read 146 = .ok (.iload_n 2, 1) := by decide +kernel
theorem dX1_read_147 : decode cX1_read 147 = .ok (.ifCond .eq 19, 3) := by decide +kernel
theorem dX1_read_150 : decode cX1_read 150 = .ok (.aload_n 0, 1) := by decide +kernel
theorem dX1_read_151 : decode cX1_read 151 = .ok (.getfield 9, 3) := by decide +kernel
theorem dX1_read_154 : decode cX1_read 154 = .ok (.getfield 51, 3) := by decide +kernel
theorem dX1_read_157 : decode cX1_read 157 = .ok (.iload_n 1, 1) := by decide +kernel
theorem dX1_read_158 : decode cX1_read 158 = .ok (.sipush 944, 3) := by decide +kernel
theorem dX1_read_161 : decode cX1_read 161 = .ok (.isub, 1) := by decide +kernel
theorem dX1_read_162 : decode cX1_read 162 = .ok (.laload, 1) := by decide +kernel
theorem dX1_read_163 : decode cX1_read 163 = .ok (.goto 4, 3) := by decide +kernel
theorem dX1_read_166 : decode cX1_read 166 = .ok (.lconst 0, 1) := by decide +kernel
theorem dX1_read_167 : decode cX1_read 167 = .ok (.lreturn, 1) := by decide +kernel
theorem dX1_write_0 : decode cX1_write 0 = .ok (.iload_n 1, 1) := by decide +kernel
theorem dX1_write_1 : decode cX1_write 1 = .ok (.lookupswitch 144 #[(768, 67), (832, 94), (833, 102), (834, 114), (835, 122), (928, 130), (930, 133)], 67) := by decide +kernel
theorem dX1_write_68 : decode cX1_write 68 = .ok (.aload_n 0, 1) := by decide +kernel
theorem dX1_write_69 : decode cX1_write 69 = .ok (.lload_n 2, 1) := by decide +kernel
theorem dX1_write_70 : decode cX1_write 70 = .ok (.bipush 11, 2) := by decide +kernel
theorem dX1_write_72 : decode cX1_write 72 = .ok (.lushr, 1) := by decide +kernel
theorem dX1_write_73 : decode cX1_write 73 = .ok (.ldc2_w 55, 3) := by decide +kernel
theorem dX1_write_76 : decode cX1_write 76 = .ok (.land, 1) := by decide +kernel
theorem dX1_write_77 : decode cX1_write 77 = .ok (.ldc2_w 55, 3) := by decide +kernel
theorem dX1_write_80 : decode cX1_write 80 = .ok (.lcmp, 1) := by decide +kernel
theorem dX1_write_81 : decode cX1_write 81 = .ok (.ifCond .ne 7, 3) := by decide +kernel
theorem dX1_write_84 : decode cX1_write 84 = .ok (.iconst 3, 1) := by decide +kernel
theorem dX1_write_85 : decode cX1_write 85 = .ok (.goto 4, 3) := by decide +kernel
theorem dX1_write_88 : decode cX1_write 88 = .ok (.iconst 0, 1) := by decide +kernel
theorem dX1_write_89 : decode cX1_write 89 = .ok (.putfield 15, 3) := by decide +kernel
theorem dX1_write_92 : decode cX1_write 92 = .ok (.goto 66, 3) := by decide +kernel
theorem dX1_write_95 : decode cX1_write 95 = .ok (.aload_n 0, 1) := by decide +kernel
theorem dX1_write_96 : decode cX1_write 96 = .ok (.lload_n 2, 1) := by decide +kernel
theorem dX1_write_97 : decode cX1_write 97 = .ok (.putfield 19, 3) := by decide +kernel
theorem dX1_write_100 : decode cX1_write 100 = .ok (.goto 58, 3) := by decide +kernel
theorem dX1_write_103 : decode cX1_write 103 = .ok (.aload_n 0, 1) := by decide +kernel
theorem dX1_write_104 : decode cX1_write 104 = .ok (.lload_n 2, 1) := by decide +kernel
theorem dX1_write_105 : decode cX1_write 105 = .ok (.ldc2_w 35, 3) := by decide +kernel
theorem dX1_write_108 : decode cX1_write 108 = .ok (.land, 1) := by decide +kernel
theorem dX1_write_109 : decode cX1_write 109 = .ok (.putfield 23, 3) := by decide +kernel
theorem dX1_write_112 : decode cX1_write 112 = .ok (.goto 46, 3) := by decide +kernel
theorem dX1_write_115 : decode cX1_write 115 = .ok (.aload_n 0, 1) := by decide +kernel
theorem dX1_write_116 : decode cX1_write 116 = .ok (.lload_n 2, 1) := by decide +kernel
theorem dX1_write_117 : decode cX1_write 117 = .ok (.putfield 26, 3) := by decide +kernel
theorem dX1_write_120 : decode cX1_write 120 = .ok (.goto 38, 3) := by decide +kernel
theorem dX1_write_123 : decode cX1_write 123 = .ok (.aload_n 0, 1) := by decide +kernel
theorem dX1_write_124 : decode cX1_write 124 = .ok (.lload_n 2, 1) := by decide +kernel
theorem dX1_write_125 : decode cX1_write 125 = .ok (.putfield 29, 3) := by decide +kernel
theorem dX1_write_128 : decode cX1_write 128 = .ok (.goto 30, 3) := by decide +kernel
theorem dX1_write_131 : decode cX1_write 131 = .ok (.goto 27, 3) := by decide +kernel
theorem dX1_write_134 : decode cX1_write 134 = .ok (.aload_n 0, 1) := by decide +kernel
theorem dX1_write_135 : decode cX1_write 135 = .ok (.getfield 9, 3) := by decide +kernel
theorem dX1_write_138 : decode cX1_write 138 = .ok (.lload_n 2, 1) := by decide +kernel
theorem dX1_write_139 : decode cX1_write 139 = .ok (.invokevirtual 57, 3) := by decide +kernel
theorem dX1_write_142 : decode cX1_write 142 = .ok (.goto 16, 3) := by decide +kernel
theorem dX1_write_145 : decode cX1_write 145 = .ok (.aload_n 0, 1) := by decide +kernel
theorem dX1_write_146 : decode cX1_write 146 = .ok (.getfield 9, 3) := by decide +kernel
theorem dX1_write_149 : decode cX1_write 149 = .ok (.iload_n 1, 1) := by decide +kernel
theorem dX1_write_150 : decode cX1_write 150 = .ok (.sipush 944, 3) := by decide +kernel
theorem dX1_write_153 : decode cX1_write 153 = .ok (.isub, 1) := by decide +kernel
theorem dX1_write_154 : decode cX1_write 154 = .ok (.lload_n 2, 1) := by decide +kernel
theorem dX1_write_155 : decode cX1_write 155 = .ok (.invokevirtual 61, 3) := by decide +kernel
theorem dX1_write_158 : decode cX1_write 158 = .ok (.return_, 1) := by decide +kernel
theorem dX2_init_0 : decode cX2_init 0 = .ok (.aload_n 0, 1) := by decide +kernel
theorem dX2_init_1 : decode cX2_init 1 = .ok (.invokespecial 1, 3) := by decide +kernel
theorem dX2_init_4 : decode cX2_init 4 = .ok (.aload_n 0, 1) := by decide +kernel
theorem dX2_init_5 : decode cX2_init 5 = .ok (.new 7, 3) := by decide +kernel
theorem dX2_init_8 : decode cX2_init 8 = .ok (.dup, 1) := by decide +kernel
theorem dX2_init_9 : decode cX2_init 9 = .ok (.invokespecial 9, 3) := by decide +kernel
theorem dX2_init_12 : decode cX2_init 12 = .ok (.putfield 10, 3) := by decide +kernel
theorem dX2_init_15 : decode cX2_init 15 = .ok (.return_, 1) := by decide +kernel
theorem dX2_begin_0 : decode cX2_begin 0 = .ok (.aload_n 0, 1) := by decide +kernel
theorem dX2_begin_1 : decode cX2_begin 1 = .ok (.iconst 1, 1) := by decide +kernel
theorem dX2_begin_2 : decode cX2_begin 2 = .ok (.putfield 16, 3) := by decide +kernel
theorem dX2_begin_5 : decode cX2_begin 5 = .ok (.aload_n 0, 1) := by decide +kernel
theorem dX2_begin_6 : decode cX2_begin 6 = .ok (.aload_n 1, 1) := by decide +kernel
theorem dX2_begin_7 : decode cX2_begin 7 = .ok (.getfield 20, 3) := by decide +kernel
theorem dX2_begin_10 : decode cX2_begin 10 = .ok (.l2i, 1) := by decide +kernel
theorem dX2_begin_11 : decode cX2_begin 11 = .ok (.putfield 26, 3) := by decide +kernel
theorem dX2_begin_14 : decode cX2_begin 14 = .ok (.aload_n 0, 1) := by decide +kernel
theorem dX2_begin_15 : decode cX2_begin 15 = .ok (.aload_n 1, 1) := by decide +kernel
theorem dX2_begin_16 : decode cX2_begin 16 = .ok (.getfield 28, 3) := by decide +kernel
theorem dX2_begin_19 : decode cX2_begin 19 = .ok (.l2i, 1) := by decide +kernel
theorem dX2_begin_20 : decode cX2_begin 20 = .ok (.putfield 31, 3) := by decide +kernel
theorem dX2_begin_23 : decode cX2_begin 23 = .ok (.aload_n 0, 1) := by decide +kernel
theorem dX2_begin_24 : decode cX2_begin 24 = .ok (.aload_n 1, 1) := by decide +kernel
theorem dX2_begin_25 : decode cX2_begin 25 = .ok (.getfield 33, 3) := by decide +kernel
theorem dX2_begin_28 : decode cX2_begin 28 = .ok (.l2i, 1) := by decide +kernel
theorem dX2_begin_29 : decode cX2_begin 29 = .ok (.putfield 36, 3) := by decide +kernel
theorem dX2_begin_32 : decode cX2_begin 32 = .ok (.aload_n 0, 1) := by decide +kernel
theorem dX2_begin_33 : decode cX2_begin 33 = .ok (.aload_n 1, 1) := by decide +kernel
theorem dX2_begin_34 : decode cX2_begin 34 = .ok (.getfield 38, 3) := by decide +kernel
theorem dX2_begin_37 : decode cX2_begin 37 = .ok (.l2i, 1) := by decide +kernel
theorem dX2_begin_38 : decode cX2_begin 38 = .ok (.putfield 41, 3) := by decide +kernel
theorem dX2_begin_41 : decode cX2_begin 41 = .ok (.aload_n 0, 1) := by decide +kernel
theorem dX2_begin_42 : decode cX2_begin 42 = .ok (.aload_n 0, 1) := by decide +kernel
theorem dX2_begin_43 : decode cX2_begin 43 = .ok (.getfield 41, 3) := by decide +kernel
theorem dX2_begin_46 : decode cX2_begin 46 = .ok (.ifCond .ne 7, 3) := by decide +kernel
theorem dX2_begin_49 : decode cX2_begin 49 = .ok (.iconst 0, 1) := by decide +kernel
theorem dX2_begin_50 : decode cX2_begin 50 = .ok (.goto 8, 3) := by decide +kernel
theorem dX2_begin_53 : decode cX2_begin 53 = .ok (.aload_n 1, 1) := by decide +kernel
theorem dX2_begin_54 : decode cX2_begin 54 = .ok (.getfield 43, 3) := by decide +kernel
theorem dX2_begin_57 : decode cX2_begin 57 = .ok (.l2i, 1) := by decide +kernel
theorem dX2_begin_58 : decode cX2_begin 58 = .ok (.putfield 46, 3) := by decide +kernel
theorem dX2_begin_61 : decode cX2_begin 61 = .ok (.aload_n 0, 1) := by decide +kernel
theorem dX2_begin_62 : decode cX2_begin 62 = .ok (.iconst 0, 1) := by decide +kernel
theorem dX2_begin_63 : decode cX2_begin 63 = .ok (.putfield 48, 3) := by decide +kernel
theorem dX2_begin_66 : decode cX2_begin 66 = .ok (.aload_n 0, 1) := by decide +kernel
theorem dX2_begin_67 : decode cX2_begin 67 = .ok (.iconst 0, 1) := by decide +kernel
theorem dX2_begin_68 : decode cX2_begin 68 = .ok (.putfield 51, 3) := by decide +kernel
theorem dX2_begin_71 : decode cX2_begin 71 = .ok (.aload_n 0, 1) := by decide +kernel
theorem dX2_begin_72 : decode cX2_begin 72 = .ok (.lload_n 2, 1) := by decide +kernel
theorem dX2_begin_73 : decode cX2_begin 73 = .ok (.putfield 54, 3) := by decide +kernel
theorem dX2_begin_76 : decode cX2_begin 76 = .ok (.aload_n 0, 1) := by decide +kernel
theorem dX2_begin_77 : decode cX2_begin 77 = .ok (.lload 4, 2) := by decide +kernel
theorem dX2_begin_79 : decode cX2_begin 79 = .ok (.putfield 57, 3) := by decide +kernel
theorem dX2_begin_82 : decode cX2_begin 82 = .ok (.aload_n 0, 1) := by decide +kernel
theorem dX2_begin_83 : decode cX2_begin 83 = .ok (.getfield 10, 3) := by decide +kernel
theorem dX2_begin_86 : decode cX2_begin 86 = .ok (.aload_n 0, 1) := by decide +kernel
theorem dX2_begin_87 : decode cX2_begin 87 = .ok (.getfield 26, 3) := by decide +kernel
theorem dX2_begin_90 : decode cX2_begin 90 = .ok (.aload_n 0, 1) := by decide +kernel
theorem dX2_begin_91 : decode cX2_begin 91 = .ok (.getfield 36, 3) := by decide +kernel
theorem dX2_begin_94 : decode cX2_begin 94 = .ok (.iadd, 1) := by decide +kernel
theorem dX2_begin_95 : decode cX2_begin 95 = .ok (.i2l, 1) := by decide +kernel
theorem dX2_begin_96 : decode cX2_begin 96 = .ok (.invokevirtual 60, 3) := by decide +kernel
theorem dX2_begin_99 : decode cX2_begin 99 = .ok (.return_, 1) := by decide +kernel
theorem dX2_fact_0 : decode cX2_fact 0 = .ok (.aload_n 0, 1) := by decide +kernel
theorem dX2_fact_1 : decode cX2_fact 1 = .ok (.getfield 16, 3) := by decide +kernel
theorem dX2_fact_4 : decode cX2_fact 4 = .ok (.ifCond .ne 5, 3) := by decide +kernel
theorem dX2_fact_7 : decode cX2_fact 7 = .ok (.iconst 0, 1) := by decide +kernel
theorem dX2_fact_8 : decode cX2_fact 8 = .ok (.ireturn, 1) := by decide +kernel
theorem dX2_fact_9 : decode cX2_fact 9 = .ok (.iload_n 1, 1) := by decide +kernel
theorem dX2_fact_10 : decode cX2_fact 10 = .ok (.tableswitch 86 0 7 #[46, 51, 56, 61, 66, 71, 76, 81], 46) := by decide +kernel
theorem dX2_fact_56 : decode cX2_fact 56 = .ok (.aload_n 0, 1) := by decide +kernel
theorem dX2_fact_57 : decode cX2_fact 57 = .ok (.getfield 16, 3) := by decide +kernel
theorem dX2_fact_60 : decode cX2_fact 60 = .ok (.ireturn, 1) := by decide +kernel
theorem dX2_fact_61 : decode cX2_fact 61 = .ok (.aload_n 0, 1) := by decide +kernel
theorem dX2_fact_62 : decode cX2_fact 62 = .ok (.getfield 26, 3) := by decide +kernel
theorem dX2_fact_65 : decode cX2_fact 65 = .ok (.ireturn, 1) := by decide +kernel
theorem dX2_fact_66 : decode cX2_fact 66 = .ok (.aload_n 0, 1) := by decide +kernel
theorem dX2_fact_67 : decode cX2_fact 67 = .ok (.getfield 31, 3) := by decide +kernel
theorem dX2_fact_70 : decode cX2_fact 70 = .ok (.ireturn, 1) := by decide +kernel
theorem dX2_fact_71 : decode cX2_fact 71 = .ok (.aload_n 0, 1) := by decide +kernel
theorem dX2_fact_72 : decode cX2_fact 72 = .ok (.getfield 36, 3) := by decide +kernel
theorem dX2_fact_75 : decode cX2_fact 75 = .ok (.ireturn, 1) := by decide +kernel
theorem dX2_fact_76 : decode cX2_fact 76 = .ok (.aload_n 0, 1) := by decide +kernel
theorem dX2_fact_77 : decode cX2_fact 77 = .ok (.getfield 46, 3) := by decide +kernel
theorem dX2_fact_80 : decode cX2_fact 80 = .ok (.ireturn, 1) := by decide +kernel
theorem dX2_fact_81 : decode cX2_fact 81 = .ok (.aload_n 0, 1) := by decide +kernel
theorem dX2_fact_82 : decode cX2_fact 82 = .ok (.getfield 41, 3) := by decide +kernel
theorem dX2_fact_85 : decode cX2_fact 85 = .ok (.ireturn, 1) := by decide +kernel
theorem dX2_fact_86 : decode cX2_fact 86 = .ok (.aload_n 0, 1) := by decide +kernel
theorem dX2_fact_87 : decode cX2_fact 87 = .ok (.getfield 48, 3) := by decide +kernel
theorem dX2_fact_90 : decode cX2_fact 90 = .ok (.ireturn, 1) := by decide +kernel
theorem dX2_fact_91 : decode cX2_fact 91 = .ok (.aload_n 0, 1) := by decide +kernel
theorem dX2_fact_92 : decode cX2_fact 92 = .ok (.getfield 51, 3) := by decide +kernel
theorem dX2_fact_95 : decode cX2_fact 95 = .ok (.ireturn, 1) := by decide +kernel
theorem dX2_fact_96 : decode cX2_fact 96 = .ok (.iconst 0, 1) := by decide +kernel
theorem dX2_fact_97 : decode cX2_fact 97 = .ok (.ireturn, 1) := by decide +kernel
theorem dX3_init_0 : decode cX3_init 0 = .ok (.aload_n 0, 1) := by decide +kernel
theorem dX3_init_1 : decode cX3_init 1 = .ok (.invokespecial 3, 3) := by decide +kernel
theorem dX3_init_4 : decode cX3_init 4 = .ok (.aload_n 0, 1) := by decide +kernel
theorem dX3_init_5 : decode cX3_init 5 = .ok (.iconst 3, 1) := by decide +kernel
theorem dX3_init_6 : decode cX3_init 6 = .ok (.putfield 9, 3) := by decide +kernel
theorem dX3_init_9 : decode cX3_init 9 = .ok (.aload_n 0, 1) := by decide +kernel
theorem dX3_init_10 : decode cX3_init 10 = .ok (.aload_n 1, 1) := by decide +kernel
theorem dX3_init_11 : decode cX3_init 11 = .ok (.putfield 15, 3) := by decide +kernel
theorem dX3_init_14 : decode cX3_init 14 = .ok (.aload_n 0, 1) := by decide +kernel
theorem dX3_init_15 : decode cX3_init 15 = .ok (.aload_n 2, 1) := by decide +kernel
theorem dX3_init_16 : decode cX3_init 16 = .ok (.putfield 19, 3) := by decide +kernel
theorem dX3_init_19 : decode cX3_init 19 = .ok (.aload_n 0, 1) := by decide +kernel
theorem dX3_init_20 : decode cX3_init 20 = .ok (.aload_n 3, 1) := by decide +kernel
theorem dX3_init_21 : decode cX3_init 21 = .ok (.putfield 23, 3) := by decide +kernel
theorem dX3_init_24 : decode cX3_init 24 = .ok (.return_, 1) := by decide +kernel
theorem dX3_execute_0 : decode cX3_execute 0 = .ok (.aload_n 1, 1) := by decide +kernel
theorem dX3_execute_1 : decode cX3_execute 1 = .ok (.getfield 27, 3) := by decide +kernel
theorem dX3_execute_4 : decode cX3_execute 4 = .ok (.ldc2_w 33, 3) := by decide +kernel
theorem dX3_execute_7 : decode cX3_execute 7 = .ok (.land, 1) := by decide +kernel
theorem dX3_execute_8 : decode cX3_execute 8 = .ok (.lconst 0, 1) := by decide +kernel
theorem dX3_execute_9 : decode cX3_execute 9 = .ok (.lcmp, 1) := by decide +kernel
theorem dX3_execute_10 : decode cX3_execute 10 = .ok (.ifCond .eq 13, 3) := by decide +kernel
theorem dX3_execute_13 : decode cX3_execute 13 = .ok (.aload_n 0, 1) := by decide +kernel
theorem dX3_execute_14 : decode cX3_execute 14 = .ok (.iconst 0, 1) := by decide +kernel
theorem dX3_execute_15 : decode cX3_execute 15 = .ok (.aload_n 1, 1) := by decide +kernel
theorem dX3_execute_16 : decode cX3_execute 16 = .ok (.getfield 27, 3) := by decide +kernel
theorem dX3_execute_19 : decode cX3_execute 19 = .ok (.invokevirtual 35, 3) := by decide +kernel
theorem dX3_execute_22 : decode cX3_execute 22 = .ok (.ireturn, 1) := by decide +kernel
theorem dX3_execute_23 : decode cX3_execute 23 = .ok (.aload_n 0, 1) := by decide +kernel
theorem dX3_execute_24 : decode cX3_execute 24 = .ok (.getfield 19, 3) := by decide +kernel
theorem dX3_execute_27 : decode cX3_execute 27 = .ok (.aload_n 0, 1) := by decide +kernel
theorem dX3_execute_28 : decode cX3_execute 28 = .ok (.getfield 9, 3) := by decide +kernel
theorem dX3_execute_31 : decode cX3_execute 31 = .ok (.aload_n 1, 1) := by decide +kernel
theorem dX3_execute_32 : decode cX3_execute 32 = .ok (.getfield 27, 3) := by decide +kernel
theorem dX3_execute_35 : decode cX3_execute 35 = .ok (.iconst 4, 1) := by decide +kernel
theorem dX3_execute_36 : decode cX3_execute 36 = .ok (.iconst 4, 1) := by decide +kernel
theorem dX3_execute_37 : decode cX3_execute 37 = .ok (.invokevirtual 41, 3) := by decide +kernel
theorem dX3_execute_40 : decode cX3_execute 40 = .ok (.ifCond .ne 13, 3) := by decide +kernel
theorem dX3_execute_43 : decode cX3_execute 43 = .ok (.aload_n 0, 1) := by decide +kernel
theorem dX3_execute_44 : decode cX3_execute 44 = .ok (.iconst 1, 1) := by decide +kernel
theorem dX3_execute_45 : decode cX3_execute 45 = .ok (.aload_n 1, 1) := by decide +kernel
theorem dX3_execute_46 : decode cX3_execute 46 = .ok (.getfield 27, 3) := by decide +kernel
theorem dX3_execute_49 : decode cX3_execute 49 = .ok (.invokevirtual 35, 3) := by decide +kernel
theorem dX3_execute_52 : decode cX3_execute 52 = .ok (.ireturn, 1) := by decide +kernel
theorem dX3_execute_53 : decode cX3_execute 53 = .ok (.aload_n 0, 1) := by decide +kernel
theorem dX3_execute_54 : decode cX3_execute 54 = .ok (.aload_n 1, 1) := by decide +kernel
theorem dX3_execute_55 : decode cX3_execute 55 = .ok (.getfield 27, 3) := by decide +kernel
theorem dX3_execute_58 : decode cX3_execute 58 = .ok (.ldc2_w 45, 3) := by decide +kernel
theorem dX3_execute_61 : decode cX3_execute 61 = .ok (.ladd, 1) := by decide +kernel
theorem dX3_execute_62 : decode cX3_execute 62 = .ok (.putfield 47, 3) := by decide +kernel
theorem dX3_execute_65 : decode cX3_execute 65 = .ok (.aload_n 0, 1) := by decide +kernel
theorem dX3_execute_66 : decode cX3_execute 66 = .ok (.aload_n 1, 1) := by decide +kernel
theorem dX3_execute_67 : decode cX3_execute 67 = .ok (.aload_n 0, 1) := by decide +kernel
theorem dX3_execute_68 : decode cX3_execute 68 = .ok (.getfield 15, 3) := by decide +kernel
theorem dX3_execute_71 : decode cX3_execute 71 = .ok (.aload_n 1, 1) := by decide +kernel
theorem dX3_execute_72 : decode cX3_execute 72 = .ok (.getfield 27, 3) := by decide +kernel
theorem dX3_execute_75 : decode cX3_execute 75 = .ok (.l2i, 1) := by decide +kernel
theorem dX3_execute_76 : decode cX3_execute 76 = .ok (.iconst 4, 1) := by decide +kernel
theorem dX3_execute_77 : decode cX3_execute 77 = .ok (.invokevirtual 50, 3) := by decide +kernel
theorem dX3_execute_80 : decode cX3_execute 80 = .ok (.l2i, 1) := by decide +kernel
theorem dX3_execute_81 : decode cX3_execute 81 = .ok (.invokevirtual 56, 3) := by decide +kernel
theorem dX3_execute_84 : decode cX3_execute 84 = .ok (.istore_n 2, 1) := by decide +kernel
theorem dX3_execute_85 : decode cX3_execute 85 = .ok (.iload_n 2, 1) := by decide +kernel
theorem dX3_execute_86 : decode cX3_execute 86 = .ok (.iconst (-1), 1) := by decide +kernel
theorem dX3_execute_87 : decode cX3_execute 87 = .ok (.if_icmp .ne 11, 3) := by decide +kernel
theorem dX3_execute_90 : decode cX3_execute 90 = .ok (.aload_n 1, 1) := by decide +kernel
theorem dX3_execute_91 : decode cX3_execute 91 = .ok (.aload_n 0, 1) := by decide +kernel
theorem dX3_execute_92 : decode cX3_execute 92 = .ok (.getfield 47, 3) := by decide +kernel
theorem dX3_execute_95 : decode cX3_execute 95 = .ok (.putfield 27, 3) := by decide +kernel
theorem dX3_execute_98 : decode cX3_execute 98 = .ok (.iload_n 2, 1) := by decide +kernel
theorem dX3_execute_99 : decode cX3_execute 99 = .ok (.ireturn, 1) := by decide +kernel
theorem dX3_perform_0 : decode cX3_perform 0 = .ok (.iload_n 2, 1) := by decide +kernel
theorem dX3_perform_1 : decode cX3_perform 1 = .ok (.bipush 127, 2) := by decide +kernel
theorem dX3_perform_3 : decode cX3_perform 3 = .ok (.iand, 1) := by decide +kernel
theorem dX3_perform_4 : decode cX3_perform 4 = .ok (.lookupswitch 259 #[(3, 116), (15, 123), (19, 141), (23, 148), (27, 165), (35, 172), (51, 179), (55, 186), (59, 198), (99, 205), (103, 212), (111, 219), (115, 236)], 116) := by decide +kernel
theorem dX3_perform_120 : decode cX3_perform 120 = .ok (.aload_n 0, 1) := by decide +kernel
theorem dX3_perform_121 : decode cX3_perform 121 = .ok (.aload_n 1, 1) := by decide +kernel
theorem dX3_perform_122 : decode cX3_perform 122 = .ok (.iload_n 2, 1) := by decide +kernel
theorem dX3_perform_123 : decode cX3_perform 123 = .ok (.invokevirtual 60, 3) := by decide +kernel
theorem dX3_perform_126 : decode cX3_perform 126 = .ok (.ireturn, 1) := by decide +kernel
theorem dX3_perform_127 : decode cX3_perform 127 = .ok (.iload_n 2, 1) := by decide +kernel
theorem dX3_perform_128 : decode cX3_perform 128 = .ok (.invokestatic 62, 3) := by decide +kernel
theorem dX3_perform_131 : decode cX3_perform 131 = .ok (.iconst 1, 1) := by decide +kernel
theorem dX3_perform_132 : decode cX3_perform 132 = .ok (.if_icmp .gt 7, 3) := by decide +kernel
theorem dX3_perform_135 : decode cX3_perform 135 = .ok (.iconst (-1), 1) := by decide +kernel
theorem dX3_perform_136 : decode cX3_perform 136 = .ok (.goto 8, 3) := by decide +kernel
theorem dX3_perform_139 : decode cX3_perform 139 = .ok (.aload_n 0, 1) := by decide +kernel
theorem dX3_perform_140 : decode cX3_perform 140 = .ok (.iload_n 2, 1) := by decide +kernel
theorem dX3_perform_141 : decode cX3_perform 141 = .ok (.invokevirtual 66, 3) := by decide +kernel
theorem dX3_perform_144 : decode cX3_perform 144 = .ok (.ireturn, 1) := by decide +kernel
theorem dX3_perform_145 : decode cX3_perform 145 = .ok (.aload_n 0, 1) := by decide +kernel
theorem dX3_perform_146 : decode cX3_perform 146 = .ok (.aload_n 1, 1) := by decide +kernel
theorem dX3_perform_147 : decode cX3_perform 147 = .ok (.iload_n 2, 1) := by decide +kernel
theorem dX3_perform_148 : decode cX3_perform 148 = .ok (.invokevirtual 69, 3) := by decide +kernel
theorem dX3_perform_151 : decode cX3_perform 151 = .ok (.ireturn, 1) := by decide +kernel
theorem dX3_perform_152 : decode cX3_perform 152 = .ok (.aload_n 1, 1) := by decide +kernel
theorem dX3_perform_153 : decode cX3_perform 153 = .ok (.iload_n 2, 1) := by decide +kernel
theorem dX3_perform_154 : decode cX3_perform 154 = .ok (.aload_n 1, 1) := by decide +kernel
theorem dX3_perform_155 : decode cX3_perform 155 = .ok (.getfield 27, 3) := by decide +kernel
theorem dX3_perform_158 : decode cX3_perform 158 = .ok (.iload_n 2, 1) := by decide +kernel
theorem dX3_perform_159 : decode cX3_perform 159 = .ok (.sipush (-4096), 3) := by decide +kernel
theorem dX3_perform_162 : decode cX3_perform 162 = .ok (.iand, 1) := by decide +kernel
theorem dX3_perform_163 : decode cX3_perform 163 = .ok (.i2l, 1) := by decide +kernel
theorem dX3_perform_164 : decode cX3_perform 164 = .ok (.ladd, 1) := by decide +kernel
theorem dX3_perform_165 : decode cX3_perform 165 = .ok (.invokestatic 72, 3) := by decide +kernel
theorem dX3_perform_168 : decode cX3_perform 168 = .ok (.ireturn, 1) := by decide +kernel
theorem dX3_perform_169 : decode cX3_perform 169 = .ok (.aload_n 0, 1) := by decide +kernel
theorem dX3_perform_170 : decode cX3_perform 170 = .ok (.aload_n 1, 1) := by decide +kernel
theorem dX3_perform_171 : decode cX3_perform 171 = .ok (.iload_n 2, 1) := by decide +kernel
theorem dX3_perform_172 : decode cX3_perform 172 = .ok (.invokevirtual 76, 3) := by decide +kernel
theorem dX3_perform_175 : decode cX3_perform 175 = .ok (.ireturn, 1) := by decide +kernel
theorem dX3_perform_176 : decode cX3_perform 176 = .ok (.aload_n 0, 1) := by decide +kernel
theorem dX3_perform_177 : decode cX3_perform 177 = .ok (.aload_n 1, 1) := by decide +kernel
theorem dX3_perform_178 : decode cX3_perform 178 = .ok (.iload_n 2, 1) := by decide +kernel
theorem dX3_perform_179 : decode cX3_perform 179 = .ok (.invokevirtual 79, 3) := by decide +kernel
theorem dX3_perform_182 : decode cX3_perform 182 = .ok (.ireturn, 1) := by decide +kernel
theorem dX3_perform_183 : decode cX3_perform 183 = .ok (.aload_n 0, 1) := by decide +kernel
theorem dX3_perform_184 : decode cX3_perform 184 = .ok (.aload_n 1, 1) := by decide +kernel
theorem dX3_perform_185 : decode cX3_perform 185 = .ok (.iload_n 2, 1) := by decide +kernel
theorem dX3_perform_186 : decode cX3_perform 186 = .ok (.invokevirtual 82, 3) := by decide +kernel
theorem dX3_perform_189 : decode cX3_perform 189 = .ok (.ireturn, 1) := by decide +kernel
theorem dX3_perform_190 : decode cX3_perform 190 = .ok (.aload_n 1, 1) := by decide +kernel
theorem dX3_perform_191 : decode cX3_perform 191 = .ok (.iload_n 2, 1) := by decide +kernel
theorem dX3_perform_192 : decode cX3_perform 192 = .ok (.iload_n 2, 1) := by decide +kernel
theorem dX3_perform_193 : decode cX3_perform 193 = .ok (.sipush (-4096), 3) := by decide +kernel
theorem dX3_perform_196 : decode cX3_perform 196 = .ok (.iand, 1) := by decide +kernel
theorem dX3_perform_197 : decode cX3_perform 197 = .ok (.i2l, 1) := by decide +kernel
theorem dX3_perform_198 : decode cX3_perform 198 = .ok (.invokestatic 72, 3) := by decide +kernel
theorem dX3_perform_201 : decode cX3_perform 201 = .ok (.ireturn, 1) := by decide +kernel
theorem dX3_perform_202 : decode cX3_perform 202 = .ok (.aload_n 0, 1) := by decide +kernel
theorem dX3_perform_203 : decode cX3_perform 203 = .ok (.aload_n 1, 1) := by decide +kernel
theorem dX3_perform_204 : decode cX3_perform 204 = .ok (.iload_n 2, 1) := by decide +kernel
theorem dX3_perform_205 : decode cX3_perform 205 = .ok (.invokevirtual 85, 3) := by decide +kernel
theorem dX3_perform_208 : decode cX3_perform 208 = .ok (.ireturn, 1) := by decide +kernel
theorem dX3_perform_209 : decode cX3_perform 209 = .ok (.aload_n 0, 1) := by decide +kernel
theorem dX3_perform_210 : decode cX3_perform 210 = .ok (.aload_n 1, 1) := by decide +kernel
theorem dX3_perform_211 : decode cX3_perform 211 = .ok (.iload_n 2, 1) := by decide +kernel
theorem dX3_perform_212 : decode cX3_perform 212 = .ok (.invokevirtual 88, 3) := by decide +kernel
theorem dX3_perform_215 : decode cX3_perform 215 = .ok (.ireturn, 1) := by decide +kernel
theorem dX3_perform_216 : decode cX3_perform 216 = .ok (.aload_n 0, 1) := by decide +kernel
theorem dX3_perform_217 : decode cX3_perform 217 = .ok (.aload_n 1, 1) := by decide +kernel
theorem dX3_perform_218 : decode cX3_perform 218 = .ok (.iload_n 2, 1) := by decide +kernel
theorem dX3_perform_219 : decode cX3_perform 219 = .ok (.invokevirtual 91, 3) := by decide +kernel
theorem dX3_perform_222 : decode cX3_perform 222 = .ok (.ireturn, 1) := by decide +kernel
theorem dX3_perform_223 : decode cX3_perform 223 = .ok (.aload_n 0, 1) := by decide +kernel
theorem dX3_perform_224 : decode cX3_perform 224 = .ok (.aload_n 1, 1) := by decide +kernel
theorem dX3_perform_225 : decode cX3_perform 225 = .ok (.iload_n 2, 1) := by decide +kernel
theorem dX3_perform_226 : decode cX3_perform 226 = .ok (.aload_n 1, 1) := by decide +kernel
theorem dX3_perform_227 : decode cX3_perform 227 = .ok (.getfield 27, 3) := by decide +kernel
theorem dX3_perform_230 : decode cX3_perform 230 = .ok (.iload_n 2, 1) := by decide +kernel
theorem dX3_perform_231 : decode cX3_perform 231 = .ok (.invokestatic 94, 3) := by decide +kernel
theorem dX3_perform_234 : decode cX3_perform 234 = .ok (.i2l, 1) := by decide +kernel
theorem dX3_perform_235 : decode cX3_perform 235 = .ok (.ladd, 1) := by decide +kernel
theorem dX3_perform_236 : decode cX3_perform 236 = .ok (.invokevirtual 97, 3) := by decide +kernel
theorem dX3_perform_239 : decode cX3_perform 239 = .ok (.ireturn, 1) := by decide +kernel
theorem dX3_perform_240 : decode cX3_perform 240 = .ok (.iload_n 2, 1) := by decide +kernel
theorem dX3_perform_241 : decode cX3_perform 241 = .ok (.invokestatic 62, 3) := by decide +kernel
theorem dX3_perform_244 : decode cX3_perform 244 = .ok (.ifCond .ne 12, 3) := by decide +kernel
theorem dX3_perform_247 : decode cX3_perform 247 = .ok (.aload_n 0, 1) := by decide +kernel
theorem dX3_perform_248 : decode cX3_perform 248 = .ok (.aload_n 1, 1) := by decide +kernel
theorem dX3_perform_249 : decode cX3_perform 249 = .ok (.iload_n 2, 1) := by decide +kernel
theorem dX3_perform_250 : decode cX3_perform 250 = .ok (.invokevirtual 100, 3) := by decide +kernel
theorem dX3_perform_253 : decode cX3_perform 253 = .ok (.goto 9, 3) := by decide +kernel
theorem dX3_perform_256 : decode cX3_perform 256 = .ok (.aload_n 0, 1) := by decide +kernel
theorem dX3_perform_257 : decode cX3_perform 257 = .ok (.aload_n 1, 1) := by decide +kernel
theorem dX3_perform_258 : decode cX3_perform 258 = .ok (.iload_n 2, 1) := by decide +kernel
theorem dX3_perform_259 : decode cX3_perform 259 = .ok (.invokevirtual 103, 3) := by decide +kernel
theorem dX3_perform_262 : decode cX3_perform 262 = .ok (.ireturn, 1) := by decide +kernel
theorem dX3_perform_263 : decode cX3_perform 263 = .ok (.aload_n 0, 1) := by decide +kernel
theorem dX3_perform_264 : decode cX3_perform 264 = .ok (.iload_n 2, 1) := by decide +kernel
theorem dX3_perform_265 : decode cX3_perform 265 = .ok (.invokevirtual 66, 3) := by decide +kernel
theorem dX3_perform_268 : decode cX3_perform 268 = .ok (.ireturn, 1) := by decide +kernel
theorem dX3_load_0 : decode cX3_load 0 = .ok (.iload_n 2, 1) := by decide +kernel
theorem dX3_load_1 : decode cX3_load 1 = .ok (.invokestatic 62, 3) := by decide +kernel
theorem dX3_load_4 : decode cX3_load 4 = .ok (.istore_n 3, 1) := by decide +kernel
theorem dX3_load_5 : decode cX3_load 5 = .ok (.iload_n 3, 1) := by decide +kernel
theorem dX3_load_6 : decode cX3_load 6 = .ok (.bipush 7, 2) := by decide +kernel
theorem dX3_load_8 : decode cX3_load 8 = .ok (.if_icmp .ne 9, 3) := by decide +kernel
theorem dX3_load_11 : decode cX3_load 11 = .ok (.aload_n 0, 1) := by decide +kernel
theorem dX3_load_12 : decode cX3_load 12 = .ok (.iload_n 2, 1) := by decide +kernel
theorem dX3_load_13 : decode cX3_load 13 = .ok (.invokevirtual 66, 3) := by decide +kernel
theorem dX3_load_16 : decode cX3_load 16 = .ok (.ireturn, 1) := by decide +kernel
theorem dX3_load_17 : decode cX3_load 17 = .ok (.aload_n 1, 1) := by decide +kernel
theorem dX3_load_18 : decode cX3_load 18 = .ok (.iload_n 2, 1) := by decide +kernel
theorem dX3_load_19 : decode cX3_load 19 = .ok (.invokestatic 106, 3) := by decide +kernel
theorem dX3_load_22 : decode cX3_load 22 = .ok (.iload_n 2, 1) := by decide +kernel
theorem dX3_load_23 : decode cX3_load 23 = .ok (.bipush 20, 2) := by decide +kernel
theorem dX3_load_25 : decode cX3_load 25 = .ok (.ishr, 1) := by decide +kernel
theorem dX3_load_26 : decode cX3_load 26 = .ok (.i2l, 1) := by decide +kernel
theorem dX3_load_27 : decode cX3_load 27 = .ok (.ladd, 1) := by decide +kernel
theorem dX3_load_28 : decode cX3_load 28 = .ok (.lstore 4, 2) := by decide +kernel
theorem dX3_load_30 : decode cX3_load 30 = .ok (.iconst 1, 1) := by decide +kernel
theorem dX3_load_31 : decode cX3_load 31 = .ok (.iload_n 3, 1) := by decide +kernel
theorem dX3_load_32 : decode cX3_load 32 = .ok (.iconst 3, 1) := by decide +kernel
theorem dX3_load_33 : decode cX3_load 33 = .ok (.iand, 1) := by decide +kernel
theorem dX3_load_34 : decode cX3_load 34 = .ok (.ishl, 1) := by decide +kernel
theorem dX3_load_35 : decode cX3_load 35 = .ok (.istore 6, 2) := by decide +kernel
theorem dX3_load_37 : decode cX3_load 37 = .ok (.lload 4, 2) := by decide +kernel
theorem dX3_load_39 : decode cX3_load 39 = .ok (.iload 6, 2) := by decide +kernel
theorem dX3_load_41 : decode cX3_load 41 = .ok (.iconst 1, 1) := by decide +kernel
theorem dX3_load_42 : decode cX3_load 42 = .ok (.isub, 1) := by decide +kernel
theorem dX3_load_43 : decode cX3_load 43 = .ok (.i2l, 1) := by decide +kernel
theorem dX3_load_44 : decode cX3_load 44 = .ok (.land, 1) := by decide +kernel
theorem dX3_load_45 : decode cX3_load 45 = .ok (.lconst 0, 1) := by decide +kernel
theorem dX3_load_46 : decode cX3_load 46 = .ok (.lcmp, 1) := by decide +kernel
theorem dX3_load_47 : decode cX3_load 47 = .ok (.ifCond .eq 11, 3) := by decide +kernel
theorem dX3_load_50 : decode cX3_load 50 = .ok (.aload_n 0, 1) := by decide +kernel
theorem dX3_load_51 : decode cX3_load 51 = .ok (.iconst 4, 1) := by decide +kernel
theorem dX3_load_52 : decode cX3_load 52 = .ok (.lload 4, 2) := by decide +kernel
theorem dX3_load_54 : decode cX3_load 54 = .ok (.invokevirtual 35, 3) := by decide +kernel
theorem dX3_load_57 : decode cX3_load 57 = .ok (.ireturn, 1) := by decide +kernel
theorem dX3_load_58 : decode cX3_load 58 = .ok (.aload_n 0, 1) := by decide +kernel
theorem dX3_load_59 : decode cX3_load 59 = .ok (.getfield 19, 3) := by decide +kernel
theorem dX3_load_62 : decode cX3_load 62 = .ok (.aload_n 0, 1) := by decide +kernel
theorem dX3_load_63 : decode cX3_load 63 = .ok (.getfield 9, 3) := by decide +kernel
theorem dX3_load_66 : decode cX3_load 66 = .ok (.lload 4, 2) := by decide +kernel
theorem dX3_load_68 : decode cX3_load 68 = .ok (.iload 6, 2) := by decide +kernel
theorem dX3_load_70 : decode cX3_load 70 = .ok (.iconst 1, 1) := by decide +kernel
theorem dX3_load_71 : decode cX3_load 71 = .ok (.invokevirtual 41, 3) := by decide +kernel
theorem dX3_load_74 : decode cX3_load 74 = .ok (.ifCond .ne 11, 3) := by decide +kernel
theorem dX3_load_77 : decode cX3_load 77 = .ok (.aload_n 0, 1) := by decide +kernel
theorem dX3_load_78 : decode cX3_load 78 = .ok (.iconst 5, 1) := by decide +kernel
theorem dX3_load_79 : decode cX3_load 79 = .ok (.lload 4, 2) := by decide +kernel
theorem dX3_load_81 : decode cX3_load 81 = .ok (.invokevirtual 35, 3) := by decide +kernel
theorem dX3_load_84 : decode cX3_load 84 = .ok (.ireturn, 1) := by decide +kernel
theorem dX3_load_85 : decode cX3_load 85 = .ok (.aload_n 0, 1) := by decide +kernel
theorem dX3_load_86 : decode cX3_load 86 = .ok (.getfield 15, 3) := by decide +kernel
theorem dX3_load_89 : decode cX3_load 89 = .ok (.lload 4, 2) := by decide +kernel
theorem dX3_load_91 : decode cX3_load 91 = .ok (.l2i, 1) := by decide +kernel
theorem dX3_load_92 : decode cX3_load 92 = .ok (.iload 6, 2) := by decide +kernel
theorem dX3_load_94 : decode cX3_load 94 = .ok (.invokevirtual 50, 3) := by decide +kernel
theorem dX3_load_97 : decode cX3_load 97 = .ok (.lstore 7, 2) := by decide +kernel
theorem dX3_load_99 : decode cX3_load 99 = .ok (.bipush 64, 2) := by decide +kernel
theorem dX3_load_101 : decode cX3_load 101 = .ok (.bipush 8, 2) := by decide +kernel
theorem dX3_load_103 : decode cX3_load 103 = .ok (.iload 6, 2) := by decide +kernel
theorem dX3_load_105 : decode cX3_load 105 = .ok (.imul, 1) := by decide +kernel
theorem dX3_load_106 : decode cX3_load 106 = .ok (.isub, 1) := by decide +kernel
theorem dX3_load_107 : decode cX3_load 107 = .ok (.istore 9, 2) := by decide +kernel
theorem dX3_load_109 : decode cX3_load 109 = .ok (.aload_n 1, 1) := by decide +kernel
theorem dX3_load_110 : decode cX3_load 110 = .ok (.iload_n 2, 1) := by decide +kernel
theorem dX3_load_111 : decode cX3_load 111 = .ok (.iload_n 3, 1) := by decide +kernel
theorem dX3_load_112 : decode cX3_load 112 = .ok (.iconst 4, 1) := by decide +kernel
theorem dX3_load_113 : decode cX3_load 113 = .ok (.if_icmp .ge 14, 3) := by decide +kernel
theorem dX3_load_116 : decode cX3_load 116 = .ok (.lload 7, 2) := by decide +kernel
theorem dX3_load_118 : decode cX3_load 118 = .ok (.iload 9, 2) := by decide +kernel
theorem dX3_load_120 : decode cX3_load 120 = .ok (.lshl, 1) := by decide +kernel
theorem dX3_load_121 : decode cX3_load 121 = .ok (.iload 9, 2) := by decide +kernel
theorem dX3_load_123 : decode cX3_load 123 = .ok (.lshr, 1) := by decide +kernel
theorem dX3_load_124 : decode cX3_load 124 = .ok (.goto 5, 3) := by decide +kernel
theorem dX3_load_127 : decode cX3_load 127 = .ok (.lload 7, 2) := by decide +kernel
theorem dX3_load_129 : decode cX3_load 129 = .ok (.invokestatic 72, 3) := by decide +kernel
theorem dX3_load_132 : decode cX3_load 132 = .ok (.ireturn, 1) := by decide +kernel
theorem dX3_store_0 : decode cX3_store 0 = .ok (.iload_n 2, 1) := by decide +kernel
theorem dX3_store_1 : decode cX3_store 1 = .ok (.invokestatic 62, 3) := by decide +kernel
theorem dX3_store_4 : decode cX3_store 4 = .ok (.istore_n 3, 1) := by decide +kernel
theorem dX3_store_5 : decode cX3_store 5 = .ok (.iload_n 3, 1) := by decide +kernel
theorem dX3_store_6 : decode cX3_store 6 = .ok (.iconst 3, 1) := by decide +kernel
theorem dX3_store_7 : decode cX3_store 7 = .ok (.if_icmp .le 9, 3) := by decide +kernel
theorem dX3_store_10 : decode cX3_store 10 = .ok (.aload_n 0, 1) := by decide +kernel
theorem dX3_store_11 : decode cX3_store 11 = .ok (.iload_n 2, 1) := by decide +kernel
theorem dX3_store_12 : decode cX3_store 12 = .ok (.invokevirtual 66, 3) := by decide +kernel
theorem dX3_store_15 : decode cX3_store 15 = .ok (.ireturn, 1) := by decide +kernel
theorem dX3_store_16 : decode cX3_store 16 = .ok (.aload_n 1, 1) := by decide +kernel
theorem dX3_store_17 : decode cX3_store 17 = .ok (.iload_n 2, 1) := by decide +kernel
theorem dX3_store_18 : decode cX3_store 18 = .ok (.invokestatic 106, 3) := by decide +kernel
theorem dX3_store_21 : decode cX3_store 21 = .ok (.iload_n 2, 1) := by decide +kernel
theorem dX3_store_22 : decode cX3_store 22 = .ok (.bipush 25, 2) := by decide +kernel
theorem dX3_store_24 : decode cX3_store 24 = .ok (.ishr, 1) := by decide +kernel
theorem dX3_store_25 : decode cX3_store 25 = .ok (.iconst 5, 1) := by decide +kernel
theorem dX3_store_26 : decode cX3_store 26 = .ok (.ishl, 1) := by decide +kernel
theorem dX3_store_27 : decode cX3_store 27 = .ok (.iload_n 2, 1) := by decide +kernel
theorem dX3_store_28 : decode cX3_store 28 = .ok (.bipush 7, 2) := by decide +kernel
theorem dX3_store_30 : decode cX3_store 30 = .ok (.iushr, 1) := by decide +kernel
theorem dX3_store_31 : decode cX3_store 31 = .ok (.bipush 31, 2) := by decide +kernel
theorem dX3_store_33 : decode cX3_store 33 = .ok (.iand, 1) := by decide +kernel
theorem dX3_store_34 : decode cX3_store 34 = .ok (.ior, 1) := by decide +kernel
theorem dX3_store_35 : decode cX3_store 35 = .ok (.i2l, 1) := by decide +kernel
theorem dX3_store_36 : decode cX3_store 36 = .ok (.ladd, 1) := by decide +kernel
theorem dX3_store_37 : decode cX3_store 37 = .ok (.lstore 4, 2) := by decide +kernel
theorem dX3_store_39 : decode cX3_store 39 = .ok (.iconst 1, 1) := by decide +kernel
theorem dX3_store_40 : decode cX3_store 40 = .ok (.iload_n 3, 1) := by decide +kernel
theorem dX3_store_41 : decode cX3_store 41 = .ok (.ishl, 1) := by decide +kernel
theorem dX3_store_42 : decode cX3_store 42 = .ok (.istore 6, 2) := by decide +kernel
theorem dX3_store_44 : decode cX3_store 44 = .ok (.lload 4, 2) := by decide +kernel
theorem dX3_store_46 : decode cX3_store 46 = .ok (.iload 6, 2) := by decide +kernel
theorem dX3_store_48 : decode cX3_store 48 = .ok (.iconst 1, 1) := by decide +kernel
theorem dX3_store_49 : decode cX3_store 49 = .ok (.isub, 1) := by decide +kernel
theorem dX3_store_50 : decode cX3_store 50 = .ok (.i2l, 1) := by decide +kernel
theorem dX3_store_51 : decode cX3_store 51 = .ok (.land, 1) := by decide +kernel
theorem dX3_store_52 : decode cX3_store 52 = .ok (.lconst 0, 1) := by decide +kernel
theorem dX3_store_53 : decode cX3_store 53 = .ok (.lcmp, 1) := by decide +kernel
theorem dX3_store_54 : decode cX3_store 54 = .ok (.ifCond .eq 12, 3) := by decide +kernel
theorem dX3_store_57 : decode cX3_store 57 = .ok (.aload_n 0, 1) := by decide +kernel
theorem dX3_store_58 : decode cX3_store 58 = .ok (.bipush 6, 2) := by decide +kernel
theorem dX3_store_60 : decode cX3_store 60 = .ok (.lload 4, 2) := by decide +kernel
theorem dX3_store_62 : decode cX3_store 62 = .ok (.invokevirtual 35, 3) := by decide +kernel
theorem dX3_store_65 : decode cX3_store 65 = .ok (.ireturn, 1) := by decide +kernel
theorem dX3_store_66 : decode cX3_store 66 = .ok (.aload_n 0, 1) := by decide +kernel
theorem dX3_store_67 : decode cX3_store 67 = .ok (.getfield 19, 3) := by decide +kernel
theorem dX3_store_70 : decode cX3_store 70 = .ok (.aload_n 0, 1) := by decide +kernel
theorem dX3_store_71 : decode cX3_store 71 = .ok (.getfield 9, 3) := by decide +kernel
theorem dX3_store_74 : decode cX3_store 74 = .ok (.lload 4, 2) := by decide +kernel
theorem dX3_store_76 : decode cX3_store 76 = .ok (.iload 6, 2) := by decide +kernel
theorem dX3_store_78 : decode cX3_store 78 = .ok (.iconst 2, 1) := by decide +kernel
theorem dX3_store_79 : decode cX3_store 79 = .ok (.invokevirtual 41, 3) := by decide +kernel
theorem dX3_store_82 : decode cX3_store 82 = .ok (.ifCond .ne 12, 3) := by decide +kernel
theorem dX3_store_85 : decode cX3_store 85 = .ok (.aload_n 0, 1) := by decide +kernel
theorem dX3_store_86 : decode cX3_store 86 = .ok (.bipush 7, 2) := by decide +kernel
theorem dX3_store_88 : decode cX3_store 88 = .ok (.lload 4, 2) := by decide +kernel
theorem dX3_store_90 : decode cX3_store 90 = .ok (.invokevirtual 35, 3) := by decide +kernel
theorem dX3_store_93 : decode cX3_store 93 = .ok (.ireturn, 1) := by decide +kernel
theorem dX3_store_94 : decode cX3_store 94 = .ok (.aload_n 0, 1) := by decide +kernel
theorem dX3_store_95 : decode cX3_store 95 = .ok (.getfield 15, 3) := by decide +kernel
theorem dX3_store_98 : decode cX3_store 98 = .ok (.lload 4, 2) := by decide +kernel
theorem dX3_store_100 : decode cX3_store 100 = .ok (.l2i, 1) := by decide +kernel
theorem dX3_store_101 : decode cX3_store 101 = .ok (.iload 6, 2) := by decide +kernel
theorem dX3_store_103 : decode cX3_store 103 = .ok (.aload_n 1, 1) := by decide +kernel
theorem dX3_store_104 : decode cX3_store 104 = .ok (.iload_n 2, 1) := by decide +kernel
theorem dX3_store_105 : decode cX3_store 105 = .ok (.invokestatic 110, 3) := by decide +kernel
theorem dX3_store_108 : decode cX3_store 108 = .ok (.invokevirtual 113, 3) := by decide +kernel
theorem dX3_store_111 : decode cX3_store 111 = .ok (.iconst (-1), 1) := by decide +kernel
theorem dX3_store_112 : decode cX3_store 112 = .ok (.ireturn, 1) := by decide +kernel
theorem dX3_withImmediate_0 : decode cX3_withImmediate 0 = .ok (.iload_n 2, 1) := by decide +kernel
theorem dX3_withImmediate_1 : decode cX3_withImmediate 1 = .ok (.invokestatic 62, 3) := by decide +kernel
theorem dX3_withImmediate_4 : decode cX3_withImmediate 4 = .ok (.istore_n 3, 1) := by decide +kernel
theorem dX3_withImmediate_5 : decode cX3_withImmediate 5 = .ok (.iload_n 2, 1) := by decide +kernel
theorem dX3_withImmediate_6 : decode cX3_withImmediate 6 = .ok (.bipush 26, 2) := by decide +kernel
theorem dX3_withImmediate_8 : decode cX3_withImmediate 8 = .ok (.iushr, 1) := by decide +kernel
theorem dX3_withImmediate_9 : decode cX3_withImmediate 9 = .ok (.istore 4, 2) := by decide +kernel
theorem dX3_withImmediate_11 : decode cX3_withImmediate 11 = .ok (.iload_n 3, 1) := by decide +kernel
theorem dX3_withImmediate_12 : decode cX3_withImmediate 12 = .ok (.iconst 5, 1) := by decide +kernel
theorem dX3_withImmediate_13 : decode cX3_withImmediate 13 = .ok (.if_icmp .ne 14, 3) := by decide +kernel
theorem dX3_withImmediate_16 : decode cX3_withImmediate 16 = .ok (.iload 4, 2) := by decide +kernel
theorem dX3_withImmediate_18 : decode cX3_withImmediate 18 = .ok (.bipush 16, 2) := by decide +kernel
theorem dX3_withImmediate_20 : decode cX3_withImmediate 20 = .ok (.if_icmp .ne 7, 3) := by decide +kernel
theorem dX3_withImmediate_23 : decode cX3_withImmediate 23 = .ok (.iconst 1, 1) := by decide +kernel
theorem dX3_withImmediate_24 : decode cX3_withImmediate 24 = .ok (.goto 4, 3) := by decide +kernel
theorem dX3_withImmediate_27 : decode cX3_withImmediate 27 = .ok (.iconst 0, 1) := by decide +kernel
theorem dX3_withImmediate_28 : decode cX3_withImmediate 28 = .ok (.istore 5, 2) := by decide +kernel
theorem dX3_withImmediate_30 : decode cX3_withImmediate 30 = .ok (.iload_n 3, 1) := by decide +kernel
theorem dX3_withImmediate_31 : decode cX3_withImmediate 31 = .ok (.iconst 1, 1) := by decide +kernel
theorem dX3_withImmediate_32 : decode cX3_withImmediate 32 = .ok (.if_icmp .eq 8, 3) := by decide +kernel
theorem dX3_withImmediate_35 : decode cX3_withImmediate 35 = .ok (.iload_n 3, 1) := by decide +kernel
theorem dX3_withImmediate_36 : decode cX3_withImmediate 36 = .ok (.iconst 5, 1) := by decide +kernel
theorem dX3_withImmediate_37 : decode cX3_withImmediate 37 = .ok (.if_icmp .ne 19, 3) := by decide +kernel
theorem dX3_withImmediate_40 : decode cX3_withImmediate 40 = .ok (.iload 4, 2) := by decide +kernel
theorem dX3_withImmediate_42 : decode cX3_withImmediate 42 = .ok (.ifCond .eq 14, 3) := by decide +kernel
theorem dX3_withImmediate_45 : decode cX3_withImmediate 45 = .ok (.iload 5, 2) := by decide +kernel
theorem dX3_withImmediate_47 : decode cX3_withImmediate 47 = .ok (.ifCond .ne 9, 3) := by decide +kernel
theorem dX3_withImmediate_50 : decode cX3_withImmediate 50 = .ok (.aload_n 0, 1) := by decide +kernel
theorem dX3_withImmediate_51 : decode cX3_withImmediate 51 = .ok (.iload_n 2, 1) := by decide +kernel
theorem dX3_withImmediate_52 : decode cX3_withImmediate 52 = .ok (.invokevirtual 66, 3) := by decide +kernel
theorem dX3_withImmediate_55 : decode cX3_withImmediate 55 = .ok (.ireturn, 1) := by decide +kernel
theorem dX3_withImmediate_56 : decode cX3_withImmediate 56 = .ok (.aload_n 1, 1) := by decide +kernel
theorem dX3_withImmediate_57 : decode cX3_withImmediate 57 = .ok (.iload_n 2, 1) := by decide +kernel
theorem dX3_withImmediate_58 : decode cX3_withImmediate 58 = .ok (.iload_n 3, 1) := by decide +kernel
theorem dX3_withImmediate_59 : decode cX3_withImmediate 59 = .ok (.iload 5, 2) := by decide +kernel
theorem dX3_withImmediate_61 : decode cX3_withImmediate 61 = .ok (.aload_n 1, 1) := by decide +kernel
theorem dX3_withImmediate_62 : decode cX3_withImmediate 62 = .ok (.iload_n 2, 1) := by decide +kernel
theorem dX3_withImmediate_63 : decode cX3_withImmediate 63 = .ok (.invokestatic 106, 3) := by decide +kernel
theorem dX3_withImmediate_66 : decode cX3_withImmediate 66 = .ok (.iload_n 2, 1) := by decide +kernel
theorem dX3_withImmediate_67 : decode cX3_withImmediate 67 = .ok (.bipush 20, 2) := by decide +kernel
theorem dX3_withImmediate_69 : decode cX3_withImmediate 69 = .ok (.ishr, 1) := by decide +kernel
theorem dX3_withImmediate_70 : decode cX3_withImmediate 70 = .ok (.i2l, 1) := by decide +kernel
theorem dX3_withImmediate_71 : decode cX3_withImmediate 71 = .ok (.invokestatic 116, 3) := by decide +kernel
theorem dX3_withImmediate_74 : decode cX3_withImmediate 74 = .ok (.invokestatic 72, 3) := by decide +kernel
theorem dX3_withImmediate_77 : decode cX3_withImmediate 77 = .ok (.ireturn, 1) := by decide +kernel
theorem dX3_withImmediateWord_0 : decode cX3_withImmediateWord 0 = .ok (.iload_n 2, 1) := by decide +kernel
theorem dX3_withImmediateWord_1 : decode cX3_withImmediateWord 1 = .ok (.invokestatic 62, 3) := by decide +kernel
theorem dX3_withImmediateWord_4 : decode cX3_withImmediateWord 4 = .ok (.istore_n 3, 1) := by decide +kernel
theorem dX3_withImmediateWord_5 : decode cX3_withImmediateWord 5 = .ok (.iload_n 2, 1) := by decide +kernel
theorem dX3_withImmediateWord_6 : decode cX3_withImmediateWord 6 = .ok (.bipush 25, 2) := by decide +kernel
theorem dX3_withImmediateWord_8 : decode cX3_withImmediateWord 8 = .ok (.iushr, 1) := by decide +kernel
theorem dX3_withImmediateWord_9 : decode cX3_withImmediateWord 9 = .ok (.istore 4, 2) := by decide +kernel
theorem dX3_withImmediateWord_11 : decode cX3_withImmediateWord 11 = .ok (.iload_n 3, 1) := by decide +kernel
theorem dX3_withImmediateWord_12 : decode cX3_withImmediateWord 12 = .ok (.iconst 5, 1) := by decide +kernel
theorem dX3_withImmediateWord_13 : decode cX3_withImmediateWord 13 = .ok (.if_icmp .ne 14, 3) := by decide +kernel
theorem dX3_withImmediateWord_16 : decode cX3_withImmediateWord 16 = .ok (.iload 4, 2) := by decide +kernel
theorem dX3_withImmediateWord_18 : decode cX3_withImmediateWord 18 = .ok (.bipush 32, 2) := by decide +kernel
theorem dX3_withImmediateWord_20 : decode cX3_withImmediateWord 20 = .ok (.if_icmp .ne 7, 3) := by decide +kernel
theorem dX3_withImmediateWord_23 : decode cX3_withImmediateWord 23 = .ok (.iconst 1, 1) := by decide +kernel
theorem dX3_withImmediateWord_24 : decode cX3_withImmediateWord 24 = .ok (.goto 4, 3) := by decide +kernel
theorem dX3_withImmediateWord_27 : decode cX3_withImmediateWord 27 = .ok (.iconst 0, 1) := by decide +kernel
theorem dX3_withImmediateWord_28 : decode cX3_withImmediateWord 28 = .ok (.istore 5, 2) := by decide +kernel
theorem dX3_withImmediateWord_30 : decode cX3_withImmediateWord 30 = .ok (.iload_n 3, 1) := by decide +kernel
theorem dX3_withImmediateWord_31 : decode cX3_withImmediateWord 31 = .ok (.iconst 1, 1) := by decide +kernel
theorem dX3_withImmediateWord_32 : decode cX3_withImmediateWord 32 = .ok (.if_icmp .eq 8, 3) := by decide +kernel
theorem dX3_withImmediateWord_35 : decode cX3_withImmediateWord 35 = .ok (.iload_n 3, 1) := by decide +kernel
theorem dX3_withImmediateWord_36 : decode cX3_withImmediateWord 36 = .ok (.iconst 5, 1) := by decide +kernel
theorem dX3_withImmediateWord_37 : decode cX3_withImmediateWord 37 = .ok (.if_icmp .ne 17, 3) := by decide +kernel
theorem dX3_withImmediateWord_40 : decode cX3_withImmediateWord 40 = .ok (.iload 4, 2) := by decide +kernel
theorem dX3_withImmediateWord_42 : decode cX3_withImmediateWord 42 = .ok (.ifCond .eq 8, 3) := by decide +kernel
theorem dX3_withImmediateWord_45 : decode cX3_withImmediateWord 45 = .ok (.iload 5, 2) := by decide +kernel
theorem dX3_withImmediateWord_47 : decode cX3_withImmediateWord 47 = .ok (.ifCond .eq 7, 3) := by decide +kernel
theorem dX3_withImmediateWord_50 : decode cX3_withImmediateWord 50 = .ok (.iconst 1, 1) := by decide +kernel
theorem dX3_withImmediateWord_51 : decode cX3_withImmediateWord 51 = .ok (.goto 4, 3) := by decide +kernel
theorem dX3_withImmediateWord_54 : decode cX3_withImmediateWord 54 = .ok (.iconst 0, 1) := by decide +kernel
theorem dX3_withImmediateWord_55 : decode cX3_withImmediateWord 55 = .ok (.istore 6, 2) := by decide +kernel
theorem dX3_withImmediateWord_57 : decode cX3_withImmediateWord 57 = .ok (.iload_n 3, 1) := by decide +kernel
theorem dX3_withImmediateWord_58 : decode cX3_withImmediateWord 58 = .ok (.ifCond .eq 14, 3) := by decide +kernel
theorem dX3_withImmediateWord_61 : decode cX3_withImmediateWord 61 = .ok (.iload 6, 2) := by decide +kernel
theorem dX3_withImmediateWord_63 : decode cX3_withImmediateWord 63 = .ok (.ifCond .ne 9, 3) := by decide +kernel
theorem dX3_withImmediateWord_66 : decode cX3_withImmediateWord 66 = .ok (.aload_n 0, 1) := by decide +kernel
theorem dX3_withImmediateWord_67 : decode cX3_withImmediateWord 67 = .ok (.iload_n 2, 1) := by decide +kernel
theorem dX3_withImmediateWord_68 : decode cX3_withImmediateWord 68 = .ok (.invokevirtual 66, 3) := by decide +kernel
theorem dX3_withImmediateWord_71 : decode cX3_withImmediateWord 71 = .ok (.ireturn, 1) := by decide +kernel
theorem dX3_withImmediateWord_72 : decode cX3_withImmediateWord 72 = .ok (.aload_n 1, 1) := by decide +kernel
theorem dX3_withImmediateWord_73 : decode cX3_withImmediateWord 73 = .ok (.iload_n 2, 1) := by decide +kernel
theorem dX3_withImmediateWord_74 : decode cX3_withImmediateWord 74 = .ok (.iload_n 3, 1) := by decide +kernel
theorem dX3_withImmediateWord_75 : decode cX3_withImmediateWord 75 = .ok (.iload 5, 2) := by decide +kernel
theorem dX3_withImmediateWord_77 : decode cX3_withImmediateWord 77 = .ok (.aload_n 1, 1) := by decide +kernel
theorem dX3_withImmediateWord_78 : decode cX3_withImmediateWord 78 = .ok (.iload_n 2, 1) := by decide +kernel
theorem dX3_withImmediateWord_79 : decode cX3_withImmediateWord 79 = .ok (.invokestatic 106, 3) := by decide +kernel
theorem dX3_withImmediateWord_82 : decode cX3_withImmediateWord 82 = .ok (.l2i, 1) := by decide +kernel
theorem dX3_withImmediateWord_83 : decode cX3_withImmediateWord 83 = .ok (.iload_n 2, 1) := by decide +kernel
theorem dX3_withImmediateWord_84 : decode cX3_withImmediateWord 84 = .ok (.bipush 20, 2) := by decide +kernel
theorem dX3_withImmediateWord_86 : decode cX3_withImmediateWord 86 = .ok (.ishr, 1) := by decide +kernel
theorem dX3_withImmediateWord_87 : decode cX3_withImmediateWord 87 = .ok (.invokestatic 122, 3) := by decide +kernel
theorem dX3_withImmediateWord_90 : decode cX3_withImmediateWord 90 = .ok (.invokestatic 72, 3) := by decide +kernel
theorem dX3_withImmediateWord_93 : decode cX3_withImmediateWord 93 = .ok (.ireturn, 1) := by decide +kernel
theorem dX3_withRegister_0 : decode cX3_withRegister 0 = .ok (.iload_n 2, 1) := by decide +kernel
theorem dX3_withRegister_1 : decode cX3_withRegister 1 = .ok (.invokestatic 62, 3) := by decide +kernel
theorem dX3_withRegister_4 : decode cX3_withRegister 4 = .ok (.istore_n 3, 1) := by decide +kernel
theorem dX3_withRegister_5 : decode cX3_withRegister 5 = .ok (.iload_n 2, 1) := by decide +kernel
theorem dX3_withRegister_6 : decode cX3_withRegister 6 = .ok (.bipush 25, 2) := by decide +kernel
theorem dX3_withRegister_8 : decode cX3_withRegister 8 = .ok (.iushr, 1) := by decide +kernel
theorem dX3_withRegister_9 : decode cX3_withRegister 9 = .ok (.istore 4, 2) := by decide +kernel
theorem dX3_withRegister_11 : decode cX3_withRegister 11 = .ok (.aload_n 1, 1) := by decide +kernel
theorem dX3_withRegister_12 : decode cX3_withRegister 12 = .ok (.iload_n 2, 1) := by decide +kernel
theorem dX3_withRegister_13 : decode cX3_withRegister 13 = .ok (.invokestatic 106, 3) := by decide +kernel
theorem dX3_withRegister_16 : decode cX3_withRegister 16 = .ok (.lstore 5, 2) := by decide +kernel
theorem dX3_withRegister_18 : decode cX3_withRegister 18 = .ok (.aload_n 1, 1) := by decide +kernel
theorem dX3_withRegister_19 : decode cX3_withRegister 19 = .ok (.iload_n 2, 1) := by decide +kernel
theorem dX3_withRegister_20 : decode cX3_withRegister 20 = .ok (.invokestatic 110, 3) := by decide +kernel
theorem dX3_withRegister_23 : decode cX3_withRegister 23 = .ok (.lstore 7, 2) := by decide +kernel
theorem dX3_withRegister_25 : decode cX3_withRegister 25 = .ok (.iload 4, 2) := by decide +kernel
theorem dX3_withRegister_27 : decode cX3_withRegister 27 = .ok (.iconst 1, 1) := by decide +kernel
theorem dX3_withRegister_28 : decode cX3_withRegister 28 = .ok (.if_icmp .ne 33, 3) := by decide +kernel
theorem dX3_withRegister_31 : decode cX3_withRegister 31 = .ok (.aload_n 1, 1) := by decide +kernel
theorem dX3_withRegister_32 : decode cX3_withRegister 32 = .ok (.iload_n 2, 1) := by decide +kernel
theorem dX3_withRegister_33 : decode cX3_withRegister 33 = .ok (.iload_n 3, 1) := by decide +kernel
theorem dX3_withRegister_34 : decode cX3_withRegister 34 = .ok (.iconst 4, 1) := by decide +kernel
theorem dX3_withRegister_35 : decode cX3_withRegister 35 = .ok (.if_icmp .ge 14, 3) := by decide +kernel
theorem dX3_withRegister_38 : decode cX3_withRegister 38 = .ok (.iload_n 3, 1) := by decide +kernel
theorem dX3_withRegister_39 : decode cX3_withRegister 39 = .ok (.lload 5, 2) := by decide +kernel
theorem dX3_withRegister_41 : decode cX3_withRegister 41 = .ok (.lload 7, 2) := by decide +kernel
theorem dX3_withRegister_43 : decode cX3_withRegister 43 = .ok (.invokestatic 126, 3) := by decide +kernel
theorem dX3_withRegister_46 : decode cX3_withRegister 46 = .ok (.goto 11, 3) := by decide +kernel
theorem dX3_withRegister_49 : decode cX3_withRegister 49 = .ok (.iload_n 3, 1) := by decide +kernel
theorem dX3_withRegister_50 : decode cX3_withRegister 50 = .ok (.lload 5, 2) := by decide +kernel
theorem dX3_withRegister_52 : decode cX3_withRegister 52 = .ok (.lload 7, 2) := by decide +kernel
theorem dX3_withRegister_54 : decode cX3_withRegister 54 = .ok (.invokestatic 130, 3) := by decide +kernel
theorem dX3_withRegister_57 : decode cX3_withRegister 57 = .ok (.invokestatic 72, 3) := by decide +kernel
theorem dX3_withRegister_60 : decode cX3_withRegister 60 = .ok (.ireturn, 1) := by decide +kernel
theorem dX3_withRegister_61 : decode cX3_withRegister 61 = .ok (.iload 4, 2) := by decide +kernel
theorem dX3_withRegister_63 : decode cX3_withRegister 63 = .ok (.bipush 32, 2) := by decide +kernel
theorem dX3_withRegister_65 : decode cX3_withRegister 65 = .ok (.if_icmp .ne 16, 3) := by decide +kernel
theorem dX3_withRegister_68 : decode cX3_withRegister 68 = .ok (.iload_n 3, 1) := by decide +kernel
theorem dX3_withRegister_69 : decode cX3_withRegister 69 = .ok (.ifCond .eq 8, 3) := by decide +kernel
theorem dX3_withRegister_72 : decode cX3_withRegister 72 = .ok (.iload_n 3, 1) := by decide +kernel
theorem dX3_withRegister_73 : decode cX3_withRegister 73 = .ok (.iconst 5, 1) := by decide +kernel
theorem dX3_withRegister_74 : decode cX3_withRegister 74 = .ok (.if_icmp .ne 7, 3) := by decide +kernel
theorem dX3_withRegister_77 : decode cX3_withRegister 77 = .ok (.iconst 1, 1) := by decide +kernel
theorem dX3_withRegister_78 : decode cX3_withRegister 78 = .ok (.goto 4, 3) := by decide +kernel
theorem dX3_withRegister_81 : decode cX3_withRegister 81 = .ok (.iconst 0, 1) := by decide +kernel
theorem dX3_withRegister_82 : decode cX3_withRegister 82 = .ok (.istore 9, 2) := by decide +kernel
theorem dX3_withRegister_84 : decode cX3_withRegister 84 = .ok (.iload 4, 2) := by decide +kernel
theorem dX3_withRegister_86 : decode cX3_withRegister 86 = .ok (.ifCond .eq 14, 3) := by decide +kernel
theorem dX3_withRegister_89 : decode cX3_withRegister 89 = .ok (.iload 9, 2) := by decide +kernel
theorem dX3_withRegister_91 : decode cX3_withRegister 91 = .ok (.ifCond .ne 9, 3) := by decide +kernel
theorem dX3_withRegister_94 : decode cX3_withRegister 94 = .ok (.aload_n 0, 1) := by decide +kernel
theorem dX3_withRegister_95 : decode cX3_withRegister 95 = .ok (.iload_n 2, 1) := by decide +kernel
theorem dX3_withRegister_96 : decode cX3_withRegister 96 = .ok (.invokevirtual 66, 3) := by decide +kernel
theorem dX3_withRegister_99 : decode cX3_withRegister 99 = .ok (.ireturn, 1) := by decide +kernel
theorem dX3_withRegister_100 : decode cX3_withRegister 100 = .ok (.aload_n 1, 1) := by decide +kernel
theorem dX3_withRegister_101 : decode cX3_withRegister 101 = .ok (.iload_n 2, 1) := by decide +kernel
theorem dX3_withRegister_102 : decode cX3_withRegister 102 = .ok (.iload_n 3, 1) := by decide +kernel
theorem dX3_withRegister_103 : decode cX3_withRegister 103 = .ok (.iload 9, 2) := by decide +kernel
theorem dX3_withRegister_105 : decode cX3_withRegister 105 = .ok (.lload 5, 2) := by decide +kernel
theorem dX3_withRegister_107 : decode cX3_withRegister 107 = .ok (.lload 7, 2) := by decide +kernel
theorem dX3_withRegister_109 : decode cX3_withRegister 109 = .ok (.invokestatic 116, 3) := by decide +kernel
theorem dX3_withRegister_112 : decode cX3_withRegister 112 = .ok (.invokestatic 72, 3) := by decide +kernel
theorem dX3_withRegister_115 : decode cX3_withRegister 115 = .ok (.ireturn, 1) := by decide +kernel
theorem dX3_withRegisterWord_0 : decode cX3_withRegisterWord 0 = .ok (.iload_n 2, 1) := by decide +kernel
theorem dX3_withRegisterWord_1 : decode cX3_withRegisterWord 1 = .ok (.invokestatic 62, 3) := by decide +kernel
theorem dX3_withRegisterWord_4 : decode cX3_withRegisterWord 4 = .ok (.istore_n 3, 1) := by decide +kernel
theorem dX3_withRegisterWord_5 : decode cX3_withRegisterWord 5 = .ok (.iload_n 2, 1) := by decide +kernel
theorem dX3_withRegisterWord_6 : decode cX3_withRegisterWord 6 = .ok (.bipush 25, 2) := by decide +kernel
theorem dX3_withRegisterWord_8 : decode cX3_withRegisterWord 8 = .ok (.iushr, 1) := by decide +kernel
theorem dX3_withRegisterWord_9 : decode cX3_withRegisterWord 9 = .ok (.istore 4, 2) := by decide +kernel
theorem dX3_withRegisterWord_11 : decode cX3_withRegisterWord 11 = .ok (.aload_n 1, 1) := by decide +kernel
theorem dX3_withRegisterWord_12 : decode cX3_withRegisterWord 12 = .ok (.iload_n 2, 1) := by decide +kernel
theorem dX3_withRegisterWord_13 : decode cX3_withRegisterWord 13 = .ok (.invokestatic 106, 3) := by decide +kernel
theorem dX3_withRegisterWord_16 : decode cX3_withRegisterWord 16 = .ok (.l2i, 1) := by decide +kernel
theorem dX3_withRegisterWord_17 : decode cX3_withRegisterWord 17 = .ok (.istore 5, 2) := by decide +kernel
theorem dX3_withRegisterWord_19 : decode cX3_withRegisterWord 19 = .ok (.aload_n 1, 1) := by decide +kernel
theorem dX3_withRegisterWord_20 : decode cX3_withRegisterWord 20 = .ok (.iload_n 2, 1) := by decide +kernel
theorem dX3_withRegisterWord_21 : decode cX3_withRegisterWord 21 = .ok (.invokestatic 110, 3) := by decide +kernel
theorem dX3_withRegisterWord_24 : decode cX3_withRegisterWord 24 = .ok (.l2i, 1) := by decide +kernel
theorem dX3_withRegisterWord_25 : decode cX3_withRegisterWord 25 = .ok (.istore 6, 2) := by decide +kernel
theorem dX3_withRegisterWord_27 : decode cX3_withRegisterWord 27 = .ok (.iload 4, 2) := by decide +kernel
theorem dX3_withRegisterWord_29 : decode cX3_withRegisterWord 29 = .ok (.iconst 1, 1) := by decide +kernel
theorem dX3_withRegisterWord_30 : decode cX3_withRegisterWord 30 = .ok (.if_icmp .ne 26, 3) := by decide +kernel
theorem dX3_withRegisterWord_33 : decode cX3_withRegisterWord 33 = .ok (.iload_n 3, 1) := by decide +kernel
theorem dX3_withRegisterWord_34 : decode cX3_withRegisterWord 34 = .ok (.ifCond .eq 8, 3) := by decide +kernel
theorem dX3_withRegisterWord_37 : decode cX3_withRegisterWord 37 = .ok (.iload_n 3, 1) := by decide +kernel
theorem dX3_withRegisterWord_38 : decode cX3_withRegisterWord 38 = .ok (.iconst 4, 1) := by decide +kernel
theorem dX3_withRegisterWord_39 : decode cX3_withRegisterWord 39 = .ok (.if_icmp .lt 17, 3) := by decide +kernel
theorem dX3_withRegisterWord_42 : decode cX3_withRegisterWord 42 = .ok (.aload_n 1, 1) := by decide +kernel
theorem dX3_withRegisterWord_43 : decode cX3_withRegisterWord 43 = .ok (.iload_n 2, 1) := by decide +kernel
theorem dX3_withRegisterWord_44 : decode cX3_withRegisterWord 44 = .ok (.iload_n 3, 1) := by decide +kernel
theorem dX3_withRegisterWord_45 : decode cX3_withRegisterWord 45 = .ok (.iload 5, 2) := by decide +kernel
theorem dX3_withRegisterWord_47 : decode cX3_withRegisterWord 47 = .ok (.iload 6, 2) := by decide +kernel
theorem dX3_withRegisterWord_49 : decode cX3_withRegisterWord 49 = .ok (.invokestatic 133, 3) := by decide +kernel
theorem dX3_withRegisterWord_52 : decode cX3_withRegisterWord 52 = .ok (.invokestatic 72, 3) := by decide +kernel
theorem dX3_withRegisterWord_55 : decode cX3_withRegisterWord 55 = .ok (.ireturn, 1) := by decide +kernel
theorem dX3_withRegisterWord_56 : decode cX3_withRegisterWord 56 = .ok (.iload 4, 2) := by decide +kernel
theorem dX3_withRegisterWord_58 : decode cX3_withRegisterWord 58 = .ok (.bipush 32, 2) := by decide +kernel
theorem dX3_withRegisterWord_60 : decode cX3_withRegisterWord 60 = .ok (.if_icmp .ne 16, 3) := by decide +kernel
theorem dX3_withRegisterWord_63 : decode cX3_withRegisterWord 63 = .ok (.iload_n 3, 1) := by decide +kernel
theorem dX3_withRegisterWord_64 : decode cX3_withRegisterWord 64 = .ok (.ifCond .eq 8, 3) := by decide +kernel
theorem dX3_withRegisterWord_67 : decode cX3_withRegisterWord 67 = .ok (.iload_n 3, 1) := by decide +kernel
theorem dX3_withRegisterWord_68 : decode cX3_withRegisterWord 68 = .ok (.iconst 5, 1) := by decide +kernel
theorem dX3_withRegisterWord_69 : decode cX3_withRegisterWord 69 = .ok (.if_icmp .ne 7, 3) := by decide +kernel
theorem dX3_withRegisterWord_72 : decode cX3_withRegisterWord 72 = .ok (.iconst 1, 1) := by decide +kernel
theorem dX3_withRegisterWord_73 : decode cX3_withRegisterWord 73 = .ok (.goto 4, 3) := by decide +kernel
theorem dX3_withRegisterWord_76 : decode cX3_withRegisterWord 76 = .ok (.iconst 0, 1) := by decide +kernel
theorem dX3_withRegisterWord_77 : decode cX3_withRegisterWord 77 = .ok (.istore 7, 2) := by decide +kernel
theorem dX3_withRegisterWord_79 : decode cX3_withRegisterWord 79 = .ok (.iload 4, 2) := by decide +kernel
theorem dX3_withRegisterWord_81 : decode cX3_withRegisterWord 81 = .ok (.ifCond .ne 21, 3) := by decide +kernel
theorem dX3_withRegisterWord_84 : decode cX3_withRegisterWord 84 = .ok (.iload_n 3, 1) := by decide +kernel
theorem dX3_withRegisterWord_85 : decode cX3_withRegisterWord 85 = .ok (.ifCond .eq 13, 3) := by decide +kernel
theorem dX3_withRegisterWord_88 : decode cX3_withRegisterWord 88 = .ok (.iload_n 3, 1) := by decide +kernel
theorem dX3_withRegisterWord_89 : decode cX3_withRegisterWord 89 = .ok (.iconst 1, 1) := by decide +kernel
theorem dX3_withRegisterWord_90 : decode cX3_withRegisterWord 90 = .ok (.if_icmp .eq 8, 3) := by decide +kernel
theorem dX3_withRegisterWord_93 : decode cX3_withRegisterWord 93 = .ok (.iload_n 3, 1) := by decide +kernel
theorem dX3_withRegisterWord_94 : decode cX3_withRegisterWord 94 = .ok (.iconst 5, 1) := by decide +kernel
theorem dX3_withRegisterWord_95 : decode cX3_withRegisterWord 95 = .ok (.if_icmp .ne 7, 3) := by decide +kernel
theorem dX3_withRegisterWord_98 : decode cX3_withRegisterWord 98 = .ok (.iconst 1, 1) := by decide +kernel
theorem dX3_withRegisterWord_99 : decode cX3_withRegisterWord 99 = .ok (.goto 4, 3) := by decide +kernel
theorem dX3_withRegisterWord_102 : decode cX3_withRegisterWord 102 = .ok (.iconst 0, 1) := by decide +kernel
theorem dX3_withRegisterWord_103 : decode cX3_withRegisterWord 103 = .ok (.istore 8, 2) := by decide +kernel
theorem dX3_withRegisterWord_105 : decode cX3_withRegisterWord 105 = .ok (.iload 8, 2) := by decide +kernel
theorem dX3_withRegisterWord_107 : decode cX3_withRegisterWord 107 = .ok (.ifCond .ne 14, 3) := by decide +kernel
theorem dX3_withRegisterWord_110 : decode cX3_withRegisterWord 110 = .ok (.iload 7, 2) := by decide +kernel
theorem dX3_withRegisterWord_112 : decode cX3_withRegisterWord 112 = .ok (.ifCond .ne 9, 3) := by decide +kernel
theorem dX3_withRegisterWord_115 : decode cX3_withRegisterWord 115 = .ok (.aload_n 0, 1) := by decide +kernel
theorem dX3_withRegisterWord_116 : decode cX3_withRegisterWord 116 = .ok (.iload_n 2, 1) := by decide +kernel
theorem dX3_withRegisterWord_117 : decode cX3_withRegisterWord 117 = .ok (.invokevirtual 66, 3) := by decide +kernel
theorem dX3_withRegisterWord_120 : decode cX3_withRegisterWord 120 = .ok (.ireturn, 1) := by decide +kernel
theorem dX3_withRegisterWord_121 : decode cX3_withRegisterWord 121 = .ok (.aload_n 1, 1) := by decide +kernel
theorem dX3_withRegisterWord_122 : decode cX3_withRegisterWord 122 = .ok (.iload_n 2, 1) := by decide +kernel
theorem dX3_withRegisterWord_123 : decode cX3_withRegisterWord 123 = .ok (.iload_n 3, 1) := by decide +kernel
theorem dX3_withRegisterWord_124 : decode cX3_withRegisterWord 124 = .ok (.iload 7, 2) := by decide +kernel
theorem dX3_withRegisterWord_126 : decode cX3_withRegisterWord 126 = .ok (.iload 5, 2) := by decide +kernel
theorem dX3_withRegisterWord_128 : decode cX3_withRegisterWord 128 = .ok (.iload 6, 2) := by decide +kernel
theorem dX3_withRegisterWord_130 : decode cX3_withRegisterWord 130 = .ok (.invokestatic 122, 3) := by decide +kernel
theorem dX3_withRegisterWord_133 : decode cX3_withRegisterWord 133 = .ok (.invokestatic 72, 3) := by decide +kernel
theorem dX3_withRegisterWord_136 : decode cX3_withRegisterWord 136 = .ok (.ireturn, 1) := by decide +kernel
theorem dX3_branch_0 : decode cX3_branch 0 = .ok (.iload_n 2, 1) := by decide +kernel
theorem dX3_branch_1 : decode cX3_branch 1 = .ok (.invokestatic 62, 3) := by decide +kernel
theorem dX3_branch_4 : decode cX3_branch 4 = .ok (.istore_n 3, 1) := by decide +kernel
theorem dX3_branch_5 : decode cX3_branch 5 = .ok (.iload_n 3, 1) := by decide +kernel
theorem dX3_branch_6 : decode cX3_branch 6 = .ok (.iconst 2, 1) := by decide +kernel
theorem dX3_branch_7 : decode cX3_branch 7 = .ok (.if_icmp .eq 8, 3) := by decide +kernel
theorem dX3_branch_10 : decode cX3_branch 10 = .ok (.iload_n 3, 1) := by decide +kernel
theorem dX3_branch_11 : decode cX3_branch 11 = .ok (.iconst 3, 1) := by decide +kernel
theorem dX3_branch_12 : decode cX3_branch 12 = .ok (.if_icmp .ne 9, 3) := by decide +kernel
theorem dX3_branch_15 : decode cX3_branch 15 = .ok (.aload_n 0, 1) := by decide +kernel
theorem dX3_branch_16 : decode cX3_branch 16 = .ok (.iload_n 2, 1) := by decide +kernel
theorem dX3_branch_17 : decode cX3_branch 17 = .ok (.invokevirtual 66, 3) := by decide +kernel
theorem dX3_branch_20 : decode cX3_branch 20 = .ok (.ireturn, 1) := by decide +kernel
theorem dX3_branch_21 : decode cX3_branch 21 = .ok (.iload_n 3, 1) := by decide +kernel
theorem dX3_branch_22 : decode cX3_branch 22 = .ok (.aload_n 1, 1) := by decide +kernel
theorem dX3_branch_23 : decode cX3_branch 23 = .ok (.iload_n 2, 1) := by decide +kernel
theorem dX3_branch_24 : decode cX3_branch 24 = .ok (.invokestatic 106, 3) := by decide +kernel
theorem dX3_branch_27 : decode cX3_branch 27 = .ok (.aload_n 1, 1) := by decide +kernel
theorem dX3_branch_28 : decode cX3_branch 28 = .ok (.iload_n 2, 1) := by decide +kernel
theorem dX3_branch_29 : decode cX3_branch 29 = .ok (.invokestatic 110, 3) := by decide +kernel
theorem dX3_branch_32 : decode cX3_branch 32 = .ok (.invokestatic 137, 3) := by decide +kernel
theorem dX3_branch_35 : decode cX3_branch 35 = .ok (.ifCond .ne 5, 3) := by decide +kernel
theorem dX3_branch_38 : decode cX3_branch 38 = .ok (.iconst (-1), 1) := by decide +kernel
theorem dX3_branch_39 : decode cX3_branch 39 = .ok (.ireturn, 1) := by decide +kernel
theorem dX3_branch_40 : decode cX3_branch 40 = .ok (.aload_n 1, 1) := by decide +kernel
theorem dX3_branch_41 : decode cX3_branch 41 = .ok (.getfield 27, 3) := by decide +kernel
theorem dX3_branch_44 : decode cX3_branch 44 = .ok (.iload_n 2, 1) := by decide +kernel
theorem dX3_branch_45 : decode cX3_branch 45 = .ok (.invokestatic 141, 3) := by decide +kernel
theorem dX3_branch_48 : decode cX3_branch 48 = .ok (.i2l, 1) := by decide +kernel
theorem dX3_branch_49 : decode cX3_branch 49 = .ok (.ladd, 1) := by decide +kernel
theorem dX3_branch_50 : decode cX3_branch 50 = .ok (.lstore 4, 2) := by decide +kernel
theorem dX3_branch_52 : decode cX3_branch 52 = .ok (.lload 4, 2) := by decide +kernel
theorem dX3_branch_54 : decode cX3_branch 54 = .ok (.ldc2_w 33, 3) := by decide +kernel
theorem dX3_branch_57 : decode cX3_branch 57 = .ok (.land, 1) := by decide +kernel
theorem dX3_branch_58 : decode cX3_branch 58 = .ok (.lconst 0, 1) := by decide +kernel
theorem dX3_branch_59 : decode cX3_branch 59 = .ok (.lcmp, 1) := by decide +kernel
theorem dX3_branch_60 : decode cX3_branch 60 = .ok (.ifCond .eq 11, 3) := by decide +kernel
theorem dX3_branch_63 : decode cX3_branch 63 = .ok (.aload_n 0, 1) := by decide +kernel
theorem dX3_branch_64 : decode cX3_branch 64 = .ok (.iconst 0, 1) := by decide +kernel
theorem dX3_branch_65 : decode cX3_branch 65 = .ok (.lload 4, 2) := by decide +kernel
theorem dX3_branch_67 : decode cX3_branch 67 = .ok (.invokevirtual 35, 3) := by decide +kernel
theorem dX3_branch_70 : decode cX3_branch 70 = .ok (.ireturn, 1) := by decide +kernel
theorem dX3_branch_71 : decode cX3_branch 71 = .ok (.aload_n 0, 1) := by decide +kernel
theorem dX3_branch_72 : decode cX3_branch 72 = .ok (.lload 4, 2) := by decide +kernel
theorem dX3_branch_74 : decode cX3_branch 74 = .ok (.putfield 47, 3) := by decide +kernel
theorem dX3_branch_77 : decode cX3_branch 77 = .ok (.iconst (-1), 1) := by decide +kernel
theorem dX3_branch_78 : decode cX3_branch 78 = .ok (.ireturn, 1) := by decide +kernel
theorem dX3_jumpByRegister_0 : decode cX3_jumpByRegister 0 = .ok (.iload_n 2, 1) := by decide +kernel
theorem dX3_jumpByRegister_1 : decode cX3_jumpByRegister 1 = .ok (.invokestatic 62, 3) := by decide +kernel
theorem dX3_jumpByRegister_4 : decode cX3_jumpByRegister 4 = .ok (.ifCond .eq 9, 3) := by decide +kernel
theorem dX3_jumpByRegister_7 : decode cX3_jumpByRegister 7 = .ok (.aload_n 0, 1) := by decide +kernel
theorem dX3_jumpByRegister_8 : decode cX3_jumpByRegister 8 = .ok (.iload_n 2, 1) := by decide +kernel
theorem dX3_jumpByRegister_9 : decode cX3_jumpByRegister 9 = .ok (.invokevirtual 66, 3) := by decide +kernel
theorem dX3_jumpByRegister_12 : decode cX3_jumpByRegister 12 = .ok (.ireturn, 1) := by decide +kernel
theorem dX3_jumpByRegister_13 : decode cX3_jumpByRegister 13 = .ok (.aload_n 0, 1) := by decide +kernel
theorem dX3_jumpByRegister_14 : decode cX3_jumpByRegister 14 = .ok (.aload_n 1, 1) := by decide +kernel
theorem dX3_jumpByRegister_15 : decode cX3_jumpByRegister 15 = .ok (.iload_n 2, 1) := by decide +kernel
theorem dX3_jumpByRegister_16 : decode cX3_jumpByRegister 16 = .ok (.aload_n 1, 1) := by decide +kernel
theorem dX3_jumpByRegister_17 : decode cX3_jumpByRegister 17 = .ok (.iload_n 2, 1) := by decide +kernel
theorem dX3_jumpByRegister_18 : decode cX3_jumpByRegister 18 = .ok (.invokestatic 106, 3) := by decide +kernel
theorem dX3_jumpByRegister_21 : decode cX3_jumpByRegister 21 = .ok (.iload_n 2, 1) := by decide +kernel
theorem dX3_jumpByRegister_22 : decode cX3_jumpByRegister 22 = .ok (.bipush 20, 2) := by decide +kernel
theorem dX3_jumpByRegister_24 : decode cX3_jumpByRegister 24 = .ok (.ishr, 1) := by decide +kernel
theorem dX3_jumpByRegister_25 : decode cX3_jumpByRegister 25 = .ok (.i2l, 1) := by decide +kernel
theorem dX3_jumpByRegister_26 : decode cX3_jumpByRegister 26 = .ok (.ladd, 1) := by decide +kernel
theorem dX3_jumpByRegister_27 : decode cX3_jumpByRegister 27 = .ok (.ldc2_w 144, 3) := by decide +kernel
theorem dX3_jumpByRegister_30 : decode cX3_jumpByRegister 30 = .ok (.land, 1) := by decide +kernel
theorem dX3_jumpByRegister_31 : decode cX3_jumpByRegister 31 = .ok (.invokevirtual 97, 3) := by decide +kernel
theorem dX3_jumpByRegister_34 : decode cX3_jumpByRegister 34 = .ok (.ireturn, 1) := by decide +kernel
theorem dX3_jump_0 : decode cX3_jump 0 = .ok (.lload_n 3, 1) := by decide +kernel
theorem dX3_jump_1 : decode cX3_jump 1 = .ok (.ldc2_w 33, 3) := by decide +kernel
theorem dX3_jump_4 : decode cX3_jump 4 = .ok (.land, 1) := by decide +kernel
theorem dX3_jump_5 : decode cX3_jump 5 = .ok (.lconst 0, 1) := by decide +kernel
theorem dX3_jump_6 : decode cX3_jump 6 = .ok (.lcmp, 1) := by decide +kernel
theorem dX3_jump_7 : decode cX3_jump 7 = .ok (.ifCond .eq 10, 3) := by decide +kernel
theorem dX3_jump_10 : decode cX3_jump 10 = .ok (.aload_n 0, 1) := by decide +kernel
theorem dX3_jump_11 : decode cX3_jump 11 = .ok (.iconst 0, 1) := by decide +kernel
theorem dX3_jump_12 : decode cX3_jump 12 = .ok (.lload_n 3, 1) := by decide +kernel
theorem dX3_jump_13 : decode cX3_jump 13 = .ok (.invokevirtual 35, 3) := by decide +kernel
theorem dX3_jump_16 : decode cX3_jump 16 = .ok (.ireturn, 1) := by decide +kernel
theorem dX3_jump_17 : decode cX3_jump 17 = .ok (.aload_n 0, 1) := by decide +kernel
theorem dX3_jump_18 : decode cX3_jump 18 = .ok (.lload_n 3, 1) := by decide +kernel
theorem dX3_jump_19 : decode cX3_jump 19 = .ok (.putfield 47, 3) := by decide +kernel
theorem dX3_jump_22 : decode cX3_jump 22 = .ok (.aload_n 1, 1) := by decide +kernel
theorem dX3_jump_23 : decode cX3_jump 23 = .ok (.iload_n 2, 1) := by decide +kernel
theorem dX3_jump_24 : decode cX3_jump 24 = .ok (.aload_n 1, 1) := by decide +kernel
theorem dX3_jump_25 : decode cX3_jump 25 = .ok (.getfield 27, 3) := by decide +kernel
theorem dX3_jump_28 : decode cX3_jump 28 = .ok (.ldc2_w 45, 3) := by decide +kernel
theorem dX3_jump_31 : decode cX3_jump 31 = .ok (.ladd, 1) := by decide +kernel
theorem dX3_jump_32 : decode cX3_jump 32 = .ok (.invokestatic 72, 3) := by decide +kernel
theorem dX3_jump_35 : decode cX3_jump 35 = .ok (.ireturn, 1) := by decide +kernel
theorem dX3_environment_0 : decode cX3_environment 0 = .ok (.iload_n 2, 1) := by decide +kernel
theorem dX3_environment_1 : decode cX3_environment 1 = .ok (.lookupswitch 84 #[(115, 43), (1048691, 51), (273678451, 61), (807403635, 63)], 43) := by decide +kernel
theorem dX3_environment_44 : decode cX3_environment 44 = .ok (.aload_n 0, 1) := by decide +kernel
theorem dX3_environment_45 : decode cX3_environment 45 = .ok (.bipush 11, 2) := by decide +kernel
theorem dX3_environment_47 : decode cX3_environment 47 = .ok (.lconst 0, 1) := by decide +kernel
theorem dX3_environment_48 : decode cX3_environment 48 = .ok (.invokevirtual 35, 3) := by decide +kernel
theorem dX3_environment_51 : decode cX3_environment 51 = .ok (.ireturn, 1) := by decide +kernel
theorem dX3_environment_52 : decode cX3_environment 52 = .ok (.aload_n 0, 1) := by decide +kernel
theorem dX3_environment_53 : decode cX3_environment 53 = .ok (.iconst 3, 1) := by decide +kernel
theorem dX3_environment_54 : decode cX3_environment 54 = .ok (.aload_n 1, 1) := by decide +kernel
theorem dX3_environment_55 : decode cX3_environment 55 = .ok (.getfield 27, 3) := by decide +kernel
theorem dX3_environment_58 : decode cX3_environment 58 = .ok (.invokevirtual 35, 3) := by decide +kernel
theorem dX3_environment_61 : decode cX3_environment 61 = .ok (.ireturn, 1) := by decide +kernel
theorem dX3_environment_62 : decode cX3_environment 62 = .ok (.iconst (-1), 1) := by decide +kernel
theorem dX3_environment_63 : decode cX3_environment 63 = .ok (.ireturn, 1) := by decide +kernel
theorem dX3_environment_64 : decode cX3_environment 64 = .ok (.aload_n 0, 1) := by decide +kernel
theorem dX3_environment_65 : decode cX3_environment 65 = .ok (.getfield 9, 3) := by decide +kernel
theorem dX3_environment_68 : decode cX3_environment 68 = .ok (.iconst 3, 1) := by decide +kernel
theorem dX3_environment_69 : decode cX3_environment 69 = .ok (.if_icmp .ne 10, 3) := by decide +kernel
theorem dX3_environment_72 : decode cX3_environment 72 = .ok (.aload_n 0, 1) := by decide +kernel
theorem dX3_environment_73 : decode cX3_environment 73 = .ok (.invokevirtual 146, 3) := by decide +kernel
theorem dX3_environment_76 : decode cX3_environment 76 = .ok (.goto 8, 3) := by decide +kernel
theorem dX3_environment_79 : decode cX3_environment 79 = .ok (.aload_n 0, 1) := by decide +kernel
theorem dX3_environment_80 : decode cX3_environment 80 = .ok (.iload_n 2, 1) := by decide +kernel
theorem dX3_environment_81 : decode cX3_environment 81 = .ok (.invokevirtual 66, 3) := by decide +kernel
theorem dX3_environment_84 : decode cX3_environment 84 = .ok (.ireturn, 1) := by decide +kernel
theorem dX3_environment_85 : decode cX3_environment 85 = .ok (.aload_n 0, 1) := by decide +kernel
theorem dX3_environment_86 : decode cX3_environment 86 = .ok (.iload_n 2, 1) := by decide +kernel
theorem dX3_environment_87 : decode cX3_environment 87 = .ok (.invokevirtual 66, 3) := by decide +kernel
theorem dX3_environment_90 : decode cX3_environment 90 = .ok (.ireturn, 1) := by decide +kernel
theorem dX3_returnFromM_0 : decode cX3_returnFromM 0 = .ok (.aload_n 0, 1) := by decide +kernel
theorem dX3_returnFromM_1 : decode cX3_returnFromM 1 = .ok (.aload_n 0, 1) := by decide +kernel
theorem dX3_returnFromM_2 : decode cX3_returnFromM 2 = .ok (.getfield 23, 3) := by decide +kernel
theorem dX3_returnFromM_5 : decode cX3_returnFromM 5 = .ok (.getfield 150, 3) := by decide +kernel
theorem dX3_returnFromM_8 : decode cX3_returnFromM 8 = .ok (.putfield 47, 3) := by decide +kernel
theorem dX3_returnFromM_11 : decode cX3_returnFromM 11 = .ok (.aload_n 0, 1) := by decide +kernel
theorem dX3_returnFromM_12 : decode cX3_returnFromM 12 = .ok (.aload_n 0, 1) := by decide +kernel
theorem dX3_returnFromM_13 : decode cX3_returnFromM 13 = .ok (.getfield 23, 3) := by decide +kernel
theorem dX3_returnFromM_16 : decode cX3_returnFromM 16 = .ok (.getfield 155, 3) := by decide +kernel
theorem dX3_returnFromM_19 : decode cX3_returnFromM 19 = .ok (.putfield 9, 3) := by decide +kernel
theorem dX3_returnFromM_22 : decode cX3_returnFromM 22 = .ok (.aload_n 0, 1) := by decide +kernel
theorem dX3_returnFromM_23 : decode cX3_returnFromM 23 = .ok (.getfield 23, 3) := by decide +kernel
theorem dX3_returnFromM_26 : decode cX3_returnFromM 26 = .ok (.iconst 0, 1) := by decide +kernel
theorem dX3_returnFromM_27 : decode cX3_returnFromM 27 = .ok (.putfield 155, 3) := by decide +kernel
theorem dX3_returnFromM_30 : decode cX3_returnFromM 30 = .ok (.iconst (-1), 1) := by decide +kernel
theorem dX3_returnFromM_31 : decode cX3_returnFromM 31 = .ok (.ireturn, 1) := by decide +kernel
theorem dX3_access_0 : decode cX3_access 0 = .ok (.iload_n 2, 1) := by decide +kernel
theorem dX3_access_1 : decode cX3_access 1 = .ok (.invokestatic 62, 3) := by decide +kernel
theorem dX3_access_4 : decode cX3_access 4 = .ok (.istore_n 3, 1) := by decide +kernel
theorem dX3_access_5 : decode cX3_access 5 = .ok (.iload_n 2, 1) := by decide +kernel
theorem dX3_access_6 : decode cX3_access 6 = .ok (.bipush 20, 2) := by decide +kernel
theorem dX3_access_8 : decode cX3_access 8 = .ok (.iushr, 1) := by decide +kernel
theorem dX3_access_9 : decode cX3_access 9 = .ok (.istore 4, 2) := by decide +kernel
theorem dX3_access_11 : decode cX3_access 11 = .ok (.iload_n 2, 1) := by decide +kernel
theorem dX3_access_12 : decode cX3_access 12 = .ok (.bipush 15, 2) := by decide +kernel
theorem dX3_access_14 : decode cX3_access 14 = .ok (.iushr, 1) := by decide +kernel
theorem dX3_access_15 : decode cX3_access 15 = .ok (.bipush 31, 2) := by decide +kernel
theorem dX3_access_17 : decode cX3_access 17 = .ok (.iand, 1) := by decide +kernel
theorem dX3_access_18 : decode cX3_access 18 = .ok (.istore 5, 2) := by decide +kernel
theorem dX3_access_20 : decode cX3_access 20 = .ok (.iload_n 3, 1) := by decide +kernel
theorem dX3_access_21 : decode cX3_access 21 = .ok (.iconst 3, 1) := by decide +kernel
theorem dX3_access_22 : decode cX3_access 22 = .ok (.iand, 1) := by decide +kernel
theorem dX3_access_23 : decode cX3_access 23 = .ok (.iconst 1, 1) := by decide +kernel
theorem dX3_access_24 : decode cX3_access 24 = .ok (.if_icmp .eq 8, 3) := by decide +kernel
theorem dX3_access_27 : decode cX3_access 27 = .ok (.iload 5, 2) := by decide +kernel
theorem dX3_access_29 : decode cX3_access 29 = .ok (.ifCond .eq 7, 3) := by decide +kernel
theorem dX3_access_32 : decode cX3_access 32 = .ok (.iconst 1, 1) := by decide +kernel
theorem dX3_access_33 : decode cX3_access 33 = .ok (.goto 4, 3) := by decide +kernel
theorem dX3_access_36 : decode cX3_access 36 = .ok (.iconst 0, 1) := by decide +kernel
theorem dX3_access_37 : decode cX3_access 37 = .ok (.istore 6, 2) := by decide +kernel
theorem dX3_access_39 : decode cX3_access 39 = .ok (.iload 6, 2) := by decide +kernel
theorem dX3_access_41 : decode cX3_access 41 = .ok (.ifCond .eq 15, 3) := by decide +kernel
theorem dX3_access_44 : decode cX3_access 44 = .ok (.aload_n 0, 1) := by decide +kernel
theorem dX3_access_45 : decode cX3_access 45 = .ok (.getfield 23, 3) := by decide +kernel
theorem dX3_access_48 : decode cX3_access 48 = .ok (.iload 4, 2) := by decide +kernel
theorem dX3_access_50 : decode cX3_access 50 = .ok (.invokevirtual 158, 3) := by decide +kernel
theorem dX3_access_53 : decode cX3_access 53 = .ok (.goto 12, 3) := by decide +kernel
theorem dX3_access_56 : decode cX3_access 56 = .ok (.aload_n 0, 1) := by decide +kernel
theorem dX3_access_57 : decode cX3_access 57 = .ok (.getfield 23, 3) := by decide +kernel
theorem dX3_access_60 : decode cX3_access 60 = .ok (.iload 4, 2) := by decide +kernel
theorem dX3_access_62 : decode cX3_access 62 = .ok (.invokevirtual 162, 3) := by decide +kernel
theorem dX3_access_65 : decode cX3_access 65 = .ok (.istore 7, 2) := by decide +kernel
theorem dX3_access_67 : decode cX3_access 67 = .ok (.aload_n 0, 1) := by decide +kernel
theorem dX3_access_68 : decode cX3_access 68 = .ok (.getfield 9, 3) := by decide +kernel
theorem dX3_access_71 : decode cX3_access 71 = .ok (.iconst 3, 1) := by decide +kernel
theorem dX3_access_72 : decode cX3_access 72 = .ok (.if_icmp .ne 13, 3) := by decide +kernel
theorem dX3_access_75 : decode cX3_access 75 = .ok (.iload_n 3, 1) := by decide +kernel
theorem dX3_access_76 : decode cX3_access 76 = .ok (.iconst 4, 1) := by decide +kernel
theorem dX3_access_77 : decode cX3_access 77 = .ok (.if_icmp .eq 8, 3) := by decide +kernel
theorem dX3_access_80 : decode cX3_access 80 = .ok (.iload 7, 2) := by decide +kernel
theorem dX3_access_82 : decode cX3_access 82 = .ok (.ifCond .ne 9, 3) := by decide +kernel
theorem dX3_access_85 : decode cX3_access 85 = .ok (.aload_n 0, 1) := by decide +kernel
theorem dX3_access_86 : decode cX3_access 86 = .ok (.iload_n 2, 1) := by decide +kernel
theorem dX3_access_87 : decode cX3_access 87 = .ok (.invokevirtual 66, 3) := by decide +kernel
theorem dX3_access_90 : decode cX3_access 90 = .ok (.ireturn, 1) := by decide +kernel
theorem dX3_access_91 : decode cX3_access 91 = .ok (.aload_n 0, 1) := by decide +kernel
theorem dX3_access_92 : decode cX3_access 92 = .ok (.getfield 23, 3) := by decide +kernel
theorem dX3_access_95 : decode cX3_access 95 = .ok (.iload 4, 2) := by decide +kernel
theorem dX3_access_97 : decode cX3_access 97 = .ok (.invokevirtual 165, 3) := by decide +kernel
theorem dX3_access_100 : decode cX3_access 100 = .ok (.lstore 8, 2) := by decide +kernel
theorem dX3_access_102 : decode cX3_access 102 = .ok (.iload 6, 2) := by decide +kernel
theorem dX3_access_104 : decode cX3_access 104 = .ok (.ifCond .eq 41, 3) := by decide +kernel
theorem dX3_access_107 : decode cX3_access 107 = .ok (.iload_n 3, 1) := by decide +kernel
theorem dX3_access_108 : decode cX3_access 108 = .ok (.iconst 4, 1) := by decide +kernel
theorem dX3_access_109 : decode cX3_access 109 = .ok (.if_icmp .le 9, 3) := by decide +kernel
theorem dX3_access_112 : decode cX3_access 112 = .ok (.iload 5, 2) := by decide +kernel
theorem dX3_access_114 : decode cX3_access 114 = .ok (.i2l, 1) := by decide +kernel
theorem dX3_access_115 : decode cX3_access 115 = .ok (.goto 9, 3) := by decide +kernel
theorem dX3_access_118 : decode cX3_access 118 = .ok (.aload_n 1, 1) := by decide +kernel
theorem dX3_access_119 : decode cX3_access 119 = .ok (.iload 5, 2) := by decide +kernel
theorem dX3_access_121 : decode cX3_access 121 = .ok (.invokevirtual 169, 3) := by decide +kernel
theorem dX3_access_124 : decode cX3_access 124 = .ok (.lstore 10, 2) := by decide +kernel
theorem dX3_access_126 : decode cX3_access 126 = .ok (.aload_n 0, 1) := by decide +kernel
theorem dX3_access_127 : decode cX3_access 127 = .ok (.getfield 23, 3) := by decide +kernel
theorem dX3_access_130 : decode cX3_access 130 = .ok (.iload 4, 2) := by decide +kernel
theorem dX3_access_132 : decode cX3_access 132 = .ok (.iload_n 3, 1) := by decide +kernel
theorem dX3_access_133 : decode cX3_access 133 = .ok (.iconst 3, 1) := by decide +kernel
theorem dX3_access_134 : decode cX3_access 134 = .ok (.iand, 1) := by decide +kernel
theorem dX3_access_135 : decode cX3_access 135 = .ok (.lload 8, 2) := by decide +kernel
theorem dX3_access_137 : decode cX3_access 137 = .ok (.lload 10, 2) := by decide +kernel
theorem dX3_access_139 : decode cX3_access 139 = .ok (.invokestatic 172, 3) := by decide +kernel
theorem dX3_access_142 : decode cX3_access 142 = .ok (.invokevirtual 175, 3) := by decide +kernel
theorem dX3_access_145 : decode cX3_access 145 = .ok (.aload_n 1, 1) := by decide +kernel
theorem dX3_access_146 : decode cX3_access 146 = .ok (.iload_n 2, 1) := by decide +kernel
theorem dX3_access_147 : decode cX3_access 147 = .ok (.lload 8, 2) := by decide +kernel
theorem dX3_access_149 : decode cX3_access 149 = .ok (.invokestatic 72, 3) := by decide +kernel
theorem dX3_access_152 : decode cX3_access 152 = .ok (.ireturn, 1) := by decide +kernel
theorem dX3_changed_0 : decode cX3_changed 0 = .ok (.iload_n 0, 1) := by decide +kernel
theorem dX3_changed_1 : decode cX3_changed 1 = .ok (.lookupswitch 33 #[(1, 27), (2, 29)], 27) := by decide +kernel
theorem dX3_changed_28 : decode cX3_changed 28 = .ok (.lload_n 3, 1) := by decide +kernel
theorem dX3_changed_29 : decode cX3_changed 29 = .ok (.lreturn, 1) := by decide +kernel
theorem dX3_changed_30 : decode cX3_changed 30 = .ok (.lload_n 1, 1) := by decide +kernel
theorem dX3_changed_31 : decode cX3_changed 31 = .ok (.lload_n 3, 1) := by decide +kernel
theorem dX3_changed_32 : decode cX3_changed 32 = .ok (.lor, 1) := by decide +kernel
theorem dX3_changed_33 : decode cX3_changed 33 = .ok (.lreturn, 1) := by decide +kernel
theorem dX3_changed_34 : decode cX3_changed 34 = .ok (.lload_n 1, 1) := by decide +kernel
theorem dX3_changed_35 : decode cX3_changed 35 = .ok (.lload_n 3, 1) := by decide +kernel
theorem dX3_changed_36 : decode cX3_changed 36 = .ok (.ldc2_w 179, 3) := by decide +kernel
theorem dX3_changed_39 : decode cX3_changed 39 = .ok (.lxor, 1) := by decide +kernel
theorem dX3_changed_40 : decode cX3_changed 40 = .ok (.land, 1) := by decide +kernel
theorem dX3_changed_41 : decode cX3_changed 41 = .ok (.lreturn, 1) := by decide +kernel
theorem dX3_fault_0 : decode cX3_fault 0 = .ok (.aload_n 0, 1) := by decide +kernel
theorem dX3_fault_1 : decode cX3_fault 1 = .ok (.lload_n 2, 1) := by decide +kernel
theorem dX3_fault_2 : decode cX3_fault 2 = .ok (.putfield 181, 3) := by decide +kernel
theorem dX3_fault_5 : decode cX3_fault 5 = .ok (.iload_n 1, 1) := by decide +kernel
theorem dX3_fault_6 : decode cX3_fault 6 = .ok (.ireturn, 1) := by decide +kernel
theorem dX3_illegal_0 : decode cX3_illegal 0 = .ok (.aload_n 0, 1) := by decide +kernel
theorem dX3_illegal_1 : decode cX3_illegal 1 = .ok (.iconst 2, 1) := by decide +kernel
theorem dX3_illegal_2 : decode cX3_illegal 2 = .ok (.iload_n 1, 1) := by decide +kernel
theorem dX3_illegal_3 : decode cX3_illegal 3 = .ok (.i2l, 1) := by decide +kernel
theorem dX3_illegal_4 : decode cX3_illegal 4 = .ok (.ldc2_w 184, 3) := by decide +kernel
theorem dX3_illegal_7 : decode cX3_illegal 7 = .ok (.land, 1) := by decide +kernel
theorem dX3_illegal_8 : decode cX3_illegal 8 = .ok (.invokevirtual 35, 3) := by decide +kernel
theorem dX3_illegal_11 : decode cX3_illegal 11 = .ok (.ireturn, 1) := by decide +kernel
theorem dX3_finish_0 : decode cX3_finish 0 = .ok (.aload_n 0, 1) := by decide +kernel
theorem dX3_finish_1 : decode cX3_finish 1 = .ok (.iload_n 1, 1) := by decide +kernel
theorem dX3_finish_2 : decode cX3_finish 2 = .ok (.bipush 7, 2) := by decide +kernel
theorem dX3_finish_4 : decode cX3_finish 4 = .ok (.iushr, 1) := by decide +kernel
theorem dX3_finish_5 : decode cX3_finish 5 = .ok (.lload_n 2, 1) := by decide +kernel
theorem dX3_finish_6 : decode cX3_finish 6 = .ok (.invokevirtual 186, 3) := by decide +kernel
theorem dX3_finish_9 : decode cX3_finish 9 = .ok (.iconst (-1), 1) := by decide +kernel
theorem dX3_finish_10 : decode cX3_finish 10 = .ok (.ireturn, 1) := by decide +kernel
theorem dX3_kind_0 : decode cX3_kind 0 = .ok (.iload_n 0, 1) := by decide +kernel
theorem dX3_kind_1 : decode cX3_kind 1 = .ok (.bipush 12, 2) := by decide +kernel
theorem dX3_kind_3 : decode cX3_kind 3 = .ok (.iushr, 1) := by decide +kernel
theorem dX3_kind_4 : decode cX3_kind 4 = .ok (.bipush 7, 2) := by decide +kernel
theorem dX3_kind_6 : decode cX3_kind 6 = .ok (.iand, 1) := by decide +kernel
theorem dX3_kind_7 : decode cX3_kind 7 = .ok (.ireturn, 1) := by decide +kernel
theorem dX3_first_0 : decode cX3_first 0 = .ok (.aload_n 0, 1) := by decide +kernel
theorem dX3_first_1 : decode cX3_first 1 = .ok (.iload_n 1, 1) := by decide +kernel
theorem dX3_first_2 : decode cX3_first 2 = .ok (.bipush 15, 2) := by decide +kernel
theorem dX3_first_4 : decode cX3_first 4 = .ok (.iushr, 1) := by decide +kernel
theorem dX3_first_5 : decode cX3_first 5 = .ok (.invokevirtual 169, 3) := by decide +kernel
theorem dX3_first_8 : decode cX3_first 8 = .ok (.lreturn, 1) := by decide +kernel
theorem dX3_second_0 : decode cX3_second 0 = .ok (.aload_n 0, 1) := by decide +kernel
theorem dX3_second_1 : decode cX3_second 1 = .ok (.iload_n 1, 1) := by decide +kernel
theorem dX3_second_2 : decode cX3_second 2 = .ok (.bipush 20, 2) := by decide +kernel
theorem dX3_second_4 : decode cX3_second 4 = .ok (.iushr, 1) := by decide +kernel
theorem dX3_second_5 : decode cX3_second 5 = .ok (.invokevirtual 169, 3) := by decide +kernel
theorem dX3_second_8 : decode cX3_second 8 = .ok (.lreturn, 1) := by decide +kernel
theorem dX3_branchOffset_0 : decode cX3_branchOffset 0 = .ok (.iload_n 0, 1) := by decide +kernel
theorem dX3_branchOffset_1 : decode cX3_branchOffset 1 = .ok (.bipush 31, 2) := by decide +kernel
theorem dX3_branchOffset_3 : decode cX3_branchOffset 3 = .ok (.ishr, 1) := by decide +kernel
theorem dX3_branchOffset_4 : decode cX3_branchOffset 4 = .ok (.bipush 12, 2) := by decide +kernel
theorem dX3_branchOffset_6 : decode cX3_branchOffset 6 = .ok (.ishl, 1) := by decide +kernel
theorem dX3_branchOffset_7 : decode cX3_branchOffset 7 = .ok (.iload_n 0, 1) := by decide +kernel
theorem dX3_branchOffset_8 : decode cX3_branchOffset 8 = .ok (.bipush 7, 2) := by decide +kernel
theorem dX3_branchOffset_10 : decode cX3_branchOffset 10 = .ok (.iushr, 1) := by decide +kernel
theorem dX3_branchOffset_11 : decode cX3_branchOffset 11 = .ok (.iconst 1, 1) := by decide +kernel
theorem dX3_branchOffset_12 : decode cX3_branchOffset 12 = .ok (.iand, 1) := by decide +kernel
theorem dX3_branchOffset_13 : decode cX3_branchOffset 13 = .ok (.bipush 11, 2) := by decide +kernel
theorem dX3_branchOffset_15 : decode cX3_branchOffset 15 = .ok (.ishl, 1) := by decide +kernel
theorem dX3_branchOffset_16 : decode cX3_branchOffset 16 = .ok (.ior, 1) := by decide +kernel
theorem dX3_branchOffset_17 : decode cX3_branchOffset 17 = .ok (.iload_n 0, 1) := by decide +kernel
theorem dX3_branchOffset_18 : decode cX3_branchOffset 18 = .ok (.bipush 25, 2) := by decide +kernel
theorem dX3_branchOffset_20 : decode cX3_branchOffset 20 = .ok (.iushr, 1) := by decide +kernel
theorem dX3_branchOffset_21 : decode cX3_branchOffset 21 = .ok (.bipush 63, 2) := by decide +kernel
theorem dX3_branchOffset_23 : decode cX3_branchOffset 23 = .ok (.iand, 1) := by decide +kernel
theorem dX3_branchOffset_24 : decode cX3_branchOffset 24 = .ok (.iconst 5, 1) := by decide +kernel
theorem dX3_branchOffset_25 : decode cX3_branchOffset 25 = .ok (.ishl, 1) := by decide +kernel
theorem dX3_branchOffset_26 : decode cX3_branchOffset 26 = .ok (.ior, 1) := by decide +kernel
theorem dX3_branchOffset_27 : decode cX3_branchOffset 27 = .ok (.iload_n 0, 1) := by decide +kernel
theorem dX3_branchOffset_28 : decode cX3_branchOffset 28 = .ok (.bipush 8, 2) := by decide +kernel
theorem dX3_branchOffset_30 : decode cX3_branchOffset 30 = .ok (.iushr, 1) := by decide +kernel
theorem dX3_branchOffset_31 : decode cX3_branchOffset 31 = .ok (.bipush 15, 2) := by decide +kernel
theorem dX3_branchOffset_33 : decode cX3_branchOffset 33 = .ok (.iand, 1) := by decide +kernel
theorem dX3_branchOffset_34 : decode cX3_branchOffset 34 = .ok (.iconst 1, 1) := by decide +kernel
theorem dX3_branchOffset_35 : decode cX3_branchOffset 35 = .ok (.ishl, 1) := by decide +kernel
theorem dX3_branchOffset_36 : decode cX3_branchOffset 36 = .ok (.ior, 1) := by decide +kernel
theorem dX3_branchOffset_37 : decode cX3_branchOffset 37 = .ok (.ireturn, 1) := by decide +kernel
theorem dX3_jumpOffset_0 : decode cX3_jumpOffset 0 = .ok (.iload_n 0, 1) := by decide +kernel
theorem dX3_jumpOffset_1 : decode cX3_jumpOffset 1 = .ok (.bipush 31, 2) := by decide +kernel
theorem dX3_jumpOffset_3 : decode cX3_jumpOffset 3 = .ok (.ishr, 1) := by decide +kernel
theorem dX3_jumpOffset_4 : decode cX3_jumpOffset 4 = .ok (.bipush 20, 2) := by decide +kernel
theorem dX3_jumpOffset_6 : decode cX3_jumpOffset 6 = .ok (.ishl, 1) := by decide +kernel
theorem dX3_jumpOffset_7 : decode cX3_jumpOffset 7 = .ok (.iload_n 0, 1) := by decide +kernel
theorem dX3_jumpOffset_8 : decode cX3_jumpOffset 8 = .ok (.ldc 189, 2) := by decide +kernel
theorem dX3_jumpOffset_10 : decode cX3_jumpOffset 10 = .ok (.iand, 1) := by decide +kernel
theorem dX3_jumpOffset_11 : decode cX3_jumpOffset 11 = .ok (.ior, 1) := by decide +kernel
theorem dX3_jumpOffset_12 : decode cX3_jumpOffset 12 = .ok (.iload_n 0, 1) := by decide +kernel
theorem dX3_jumpOffset_13 : decode cX3_jumpOffset 13 = .ok (.bipush 20, 2) := by decide +kernel
theorem dX3_jumpOffset_15 : decode cX3_jumpOffset 15 = .ok (.iushr, 1) := by decide +kernel
theorem dX3_jumpOffset_16 : decode cX3_jumpOffset 16 = .ok (.iconst 1, 1) := by decide +kernel
theorem dX3_jumpOffset_17 : decode cX3_jumpOffset 17 = .ok (.iand, 1) := by decide +kernel
theorem dX3_jumpOffset_18 : decode cX3_jumpOffset 18 = .ok (.bipush 11, 2) := by decide +kernel
theorem dX3_jumpOffset_20 : decode cX3_jumpOffset 20 = .ok (.ishl, 1) := by decide +kernel
theorem dX3_jumpOffset_21 : decode cX3_jumpOffset 21 = .ok (.ior, 1) := by decide +kernel
theorem dX3_jumpOffset_22 : decode cX3_jumpOffset 22 = .ok (.iload_n 0, 1) := by decide +kernel
theorem dX3_jumpOffset_23 : decode cX3_jumpOffset 23 = .ok (.bipush 21, 2) := by decide +kernel
theorem dX3_jumpOffset_25 : decode cX3_jumpOffset 25 = .ok (.iushr, 1) := by decide +kernel
theorem dX3_jumpOffset_26 : decode cX3_jumpOffset 26 = .ok (.sipush 1023, 3) := by decide +kernel
theorem dX3_jumpOffset_29 : decode cX3_jumpOffset 29 = .ok (.iand, 1) := by decide +kernel
theorem dX3_jumpOffset_30 : decode cX3_jumpOffset 30 = .ok (.iconst 1, 1) := by decide +kernel
theorem dX3_jumpOffset_31 : decode cX3_jumpOffset 31 = .ok (.ishl, 1) := by decide +kernel
theorem dX3_jumpOffset_32 : decode cX3_jumpOffset 32 = .ok (.ior, 1) := by decide +kernel
theorem dX3_jumpOffset_33 : decode cX3_jumpOffset 33 = .ok (.ireturn, 1) := by decide +kernel
theorem dX4_init_0 : decode cX4_init 0 = .ok (.aload_n 0, 1) := by decide +kernel
theorem dX4_init_1 : decode cX4_init 1 = .ok (.invokespecial 3, 3) := by decide +kernel
theorem dX4_init_4 : decode cX4_init 4 = .ok (.aload_n 0, 1) := by decide +kernel
theorem dX4_init_5 : decode cX4_init 5 = .ok (.sipush 8192, 3) := by decide +kernel
theorem dX4_init_8 : decode cX4_init 8 = .ok (.newarray .long, 2) := by decide +kernel
theorem dX4_init_10 : decode cX4_init 10 = .ok (.putfield 11, 3) := by decide +kernel
theorem dX4_init_13 : decode cX4_init 13 = .ok (.return_, 1) := by decide +kernel
theorem dX4_load_0 : decode cX4_load 0 = .ok (.aload_n 0, 1) := by decide +kernel
theorem dX4_load_1 : decode cX4_load 1 = .ok (.getfield 11, 3) := by decide +kernel
theorem dX4_load_4 : decode cX4_load 4 = .ok (.iload_n 1, 1) := by decide +kernel
theorem dX4_load_5 : decode cX4_load 5 = .ok (.iconst 3, 1) := by decide +kernel
theorem dX4_load_6 : decode cX4_load 6 = .ok (.iushr, 1) := by decide +kernel
theorem dX4_load_7 : decode cX4_load 7 = .ok (.sipush 8191, 3) := by decide +kernel
theorem dX4_load_10 : decode cX4_load 10 = .ok (.iand, 1) := by decide +kernel
theorem dX4_load_11 : decode cX4_load 11 = .ok (.laload, 1) := by decide +kernel
theorem dX4_load_12 : decode cX4_load 12 = .ok (.iload_n 1, 1) := by decide +kernel
theorem dX4_load_13 : decode cX4_load 13 = .ok (.invokestatic 15, 3) := by decide +kernel
theorem dX4_load_16 : decode cX4_load 16 = .ok (.lushr, 1) := by decide +kernel
theorem dX4_load_17 : decode cX4_load 17 = .ok (.iload_n 2, 1) := by decide +kernel
theorem dX4_load_18 : decode cX4_load 18 = .ok (.invokestatic 19, 3) := by decide +kernel
theorem dX4_load_21 : decode cX4_load 21 = .ok (.land, 1) := by decide +kernel
theorem dX4_load_22 : decode cX4_load 22 = .ok (.lreturn, 1) := by decide +kernel
theorem dX4_store_0 : decode cX4_store 0 = .ok (.iload_n 1, 1) := by decide +kernel
theorem dX4_store_1 : decode cX4_store 1 = .ok (.iconst 3, 1) := by decide +kernel
theorem dX4_store_2 : decode cX4_store 2 = .ok (.iushr, 1) := by decide +kernel
theorem dX4_store_3 : decode cX4_store 3 = .ok (.sipush 8191, 3) := by decide +kernel
theorem dX4_store_6 : decode cX4_store 6 = .ok (.iand, 1) := by decide +kernel
theorem dX4_store_7 : decode cX4_store 7 = .ok (.istore 5, 2) := by decide +kernel
theorem dX4_store_9 : decode cX4_store 9 = .ok (.iload_n 2, 1) := by decide +kernel
theorem dX4_store_10 : decode cX4_store 10 = .ok (.invokestatic 19, 3) := by decide +kernel
theorem dX4_store_13 : decode cX4_store 13 = .ok (.iload_n 1, 1) := by decide +kernel
theorem dX4_store_14 : decode cX4_store 14 = .ok (.invokestatic 15, 3) := by decide +kernel
theorem dX4_store_17 : decode cX4_store 17 = .ok (.lshl, 1) := by decide +kernel
theorem dX4_store_18 : decode cX4_store 18 = .ok (.lstore 6, 2) := by decide +kernel
theorem dX4_store_20 : decode cX4_store 20 = .ok (.aload_n 0, 1) := by decide +kernel
theorem dX4_store_21 : decode cX4_store 21 = .ok (.getfield 11, 3) := by decide +kernel
theorem dX4_store_24 : decode cX4_store 24 = .ok (.iload 5, 2) := by decide +kernel
theorem dX4_store_26 : decode cX4_store 26 = .ok (.aload_n 0, 1) := by decide +kernel
theorem dX4_store_27 : decode cX4_store 27 = .ok (.getfield 11, 3) := by decide +kernel
theorem dX4_store_30 : decode cX4_store 30 = .ok (.iload 5, 2) := by decide +kernel
theorem dX4_store_32 : decode cX4_store 32 = .ok (.laload, 1) := by decide +kernel
theorem dX4_store_33 : decode cX4_store 33 = .ok (.lload 6, 2) := by decide +kernel
theorem dX4_store_35 : decode cX4_store 35 = .ok (.ldc2_w 23, 3) := by decide +kernel
theorem dX4_store_38 : decode cX4_store 38 = .ok (.lxor, 1) := by decide +kernel
theorem dX4_store_39 : decode cX4_store 39 = .ok (.land, 1) := by decide +kernel
theorem dX4_store_40 : decode cX4_store 40 = .ok (.lload_n 3, 1) := by decide +kernel
theorem dX4_store_41 : decode cX4_store 41 = .ok (.iload_n 1, 1) := by decide +kernel
theorem dX4_store_42 : decode cX4_store 42 = .ok (.invokestatic 15, 3) := by decide +kernel
theorem dX4_store_45 : decode cX4_store 45 = .ok (.lshl, 1) := by decide +kernel
theorem dX4_store_46 : decode cX4_store 46 = .ok (.lload 6, 2) := by decide +kernel
theorem dX4_store_48 : decode cX4_store 48 = .ok (.land, 1) := by decide +kernel
theorem dX4_store_49 : decode cX4_store 49 = .ok (.lor, 1) := by decide +kernel
theorem dX4_store_50 : decode cX4_store 50 = .ok (.lastore, 1) := by decide +kernel
theorem dX4_store_51 : decode cX4_store 51 = .ok (.return_, 1) := by decide +kernel
theorem dX4_zero_0 : decode cX4_zero 0 = .ok (.iload_n 1, 1) := by decide +kernel
theorem dX4_zero_1 : decode cX4_zero 1 = .ok (.istore_n 3, 1) := by decide +kernel
theorem dX4_zero_2 : decode cX4_zero 2 = .ok (.iload_n 3, 1) := by decide +kernel
theorem dX4_zero_3 : decode cX4_zero 3 = .ok (.iload_n 2, 1) := by decide +kernel
theorem dX4_zero_4 : decode cX4_zero 4 = .ok (.if_icmp .ge 23, 3) := by decide +kernel
theorem dX4_zero_7 : decode cX4_zero 7 = .ok (.iload_n 3, 1) := by decide +kernel
theorem dX4_zero_8 : decode cX4_zero 8 = .ok (.bipush 7, 2) := by decide +kernel
theorem dX4_zero_10 : decode cX4_zero 10 = .ok (.iand, 1) := by decide +kernel
theorem dX4_zero_11 : decode cX4_zero 11 = .ok (.ifCond .eq 16, 3) := by decide +kernel
theorem dX4_zero_14 : decode cX4_zero 14 = .ok (.aload_n 0, 1) := by decide +kernel
theorem dX4_zero_15 : decode cX4_zero 15 = .ok (.iload_n 3, 1) := by decide +kernel
theorem dX4_zero_16 : decode cX4_zero 16 = .ok (.iconst 1, 1) := by decide +kernel
theorem dX4_zero_17 : decode cX4_zero 17 = .ok (.lconst 0, 1) := by decide +kernel
theorem dX4_zero_18 : decode cX4_zero 18 = .ok (.invokevirtual 25, 3) := by decide +kernel
theorem dX4_zero_21 : decode cX4_zero 21 = .ok (.iinc 3 1, 3) := by decide +kernel
theorem dX4_zero_24 : decode cX4_zero 24 = .ok (.goto (-22), 3) := by decide +kernel
theorem dX4_zero_27 : decode cX4_zero 27 = .ok (.iload_n 3, 1) := by decide +kernel
theorem dX4_zero_28 : decode cX4_zero 28 = .ok (.ifCond .lt 30, 3) := by decide +kernel
theorem dX4_zero_31 : decode cX4_zero 31 = .ok (.iload_n 3, 1) := by decide +kernel
theorem dX4_zero_32 : decode cX4_zero 32 = .ok (.iload_n 2, 1) := by decide +kernel
theorem dX4_zero_33 : decode cX4_zero 33 = .ok (.if_icmp .ge 25, 3) := by decide +kernel
theorem dX4_zero_36 : decode cX4_zero 36 = .ok (.iload_n 2, 1) := by decide +kernel
theorem dX4_zero_37 : decode cX4_zero 37 = .ok (.ldc 29, 2) := by decide +kernel
theorem dX4_zero_39 : decode cX4_zero 39 = .ok (.if_icmp .gt 19, 3) := by decide +kernel
theorem dX4_zero_42 : decode cX4_zero 42 = .ok (.aload_n 0, 1) := by decide +kernel
theorem dX4_zero_43 : decode cX4_zero 43 = .ok (.getfield 11, 3) := by decide +kernel
theorem dX4_zero_46 : decode cX4_zero 46 = .ok (.iload_n 3, 1) := by decide +kernel
theorem dX4_zero_47 : decode cX4_zero 47 = .ok (.bipush 8, 2) := by decide +kernel
theorem dX4_zero_49 : decode cX4_zero 49 = .ok (.idiv, 1) := by decide +kernel
theorem dX4_zero_50 : decode cX4_zero 50 = .ok (.iload_n 2, 1) := by decide +kernel
theorem dX4_zero_51 : decode cX4_zero 51 = .ok (.bipush 8, 2) := by decide +kernel
theorem dX4_zero_53 : decode cX4_zero 53 = .ok (.idiv, 1) := by decide +kernel
theorem dX4_zero_54 : decode cX4_zero 54 = .ok (.lconst 0, 1) := by decide +kernel
theorem dX4_zero_55 : decode cX4_zero 55 = .ok (.invokestatic 30, 3) := by decide +kernel
theorem dX4_zero_58 : decode cX4_zero 58 = .ok (.return_, 1) := by decide +kernel
theorem dX4_copy_0 : decode cX4_copy 0 = .ok (.iload_n 1, 1) := by decide +kernel
theorem dX4_copy_1 : decode cX4_copy 1 = .ok (.iload_n 2, 1) := by decide +kernel
theorem dX4_copy_2 : decode cX4_copy 2 = .ok (.if_icmp .le 39, 3) := by decide +kernel
theorem dX4_copy_5 : decode cX4_copy 5 = .ok (.iconst 0, 1) := by decide +kernel
theorem dX4_copy_6 : decode cX4_copy 6 = .ok (.istore 4, 2) := by decide +kernel
theorem dX4_copy_8 : decode cX4_copy 8 = .ok (.iload 4, 2) := by decide +kernel
theorem dX4_copy_10 : decode cX4_copy 10 = .ok (.iload_n 3, 1) := by decide +kernel
theorem dX4_copy_11 : decode cX4_copy 11 = .ok (.if_icmp .ge 27, 3) := by decide +kernel
theorem dX4_copy_14 : decode cX4_copy 14 = .ok (.aload_n 0, 1) := by decide +kernel
theorem dX4_copy_15 : decode cX4_copy 15 = .ok (.iload_n 2, 1) := by decide +kernel
theorem dX4_copy_16 : decode cX4_copy 16 = .ok (.iload 4, 2) := by decide +kernel
theorem dX4_copy_18 : decode cX4_copy 18 = .ok (.iadd, 1) := by decide +kernel
theorem dX4_copy_19 : decode cX4_copy 19 = .ok (.iconst 1, 1) := by decide +kernel
theorem dX4_copy_20 : decode cX4_copy 20 = .ok (.aload_n 0, 1) := by decide +kernel
theorem dX4_copy_21 : decode cX4_copy 21 = .ok (.iload_n 1, 1) := by decide +kernel
theorem dX4_copy_22 : decode cX4_copy 22 = .ok (.iload 4, 2) := by decide +kernel
theorem dX4_copy_24 : decode cX4_copy 24 = .ok (.iadd, 1) := by decide +kernel
theorem dX4_copy_25 : decode cX4_copy 25 = .ok (.iconst 1, 1) := by decide +kernel
theorem dX4_copy_26 : decode cX4_copy 26 = .ok (.invokevirtual 36, 3) := by decide +kernel
theorem dX4_copy_29 : decode cX4_copy 29 = .ok (.invokevirtual 25, 3) := by decide +kernel
theorem dX4_copy_32 : decode cX4_copy 32 = .ok (.iinc 4 1, 3) := by decide +kernel
theorem dX4_copy_35 : decode cX4_copy 35 = .ok (.goto (-27), 3) := by decide +kernel
theorem dX4_copy_38 : decode cX4_copy 38 = .ok (.goto 37, 3) := by decide +kernel
theorem dX4_copy_41 : decode cX4_copy 41 = .ok (.iload_n 3, 1) := by decide +kernel
theorem dX4_copy_42 : decode cX4_copy 42 = .ok (.iconst 1, 1) := by decide +kernel
theorem dX4_copy_43 : decode cX4_copy 43 = .ok (.isub, 1) := by decide +kernel
theorem dX4_copy_44 : decode cX4_copy 44 = .ok (.istore 4, 2) := by decide +kernel
theorem dX4_copy_46 : decode cX4_copy 46 = .ok (.iload 4, 2) := by decide +kernel
theorem dX4_copy_48 : decode cX4_copy 48 = .ok (.ifCond .lt 27, 3) := by decide +kernel
theorem dX4_copy_51 : decode cX4_copy 51 = .ok (.aload_n 0, 1) := by decide +kernel
theorem dX4_copy_52 : decode cX4_copy 52 = .ok (.iload_n 2, 1) := by decide +kernel
theorem dX4_copy_53 : decode cX4_copy 53 = .ok (.iload 4, 2) := by decide +kernel
theorem dX4_copy_55 : decode cX4_copy 55 = .ok (.iadd, 1) := by decide +kernel
theorem dX4_copy_56 : decode cX4_copy 56 = .ok (.iconst 1, 1) := by decide +kernel
theorem dX4_copy_57 : decode cX4_copy 57 = .ok (.aload_n 0, 1) := by decide +kernel
