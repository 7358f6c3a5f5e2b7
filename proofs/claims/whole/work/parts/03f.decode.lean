theorem dX10_readersBehind_32 : decode cX10_readersBehind 32 = .ok (.lmul, 1) := by decide +kernel
theorem dX10_readersBehind_33 : decode cX10_readersBehind 33 = .ok (.ldc2_w 261, 3) := by decide +kernel
theorem dX10_readersBehind_36 : decode cX10_readersBehind 36 = .ok (.ldiv, 1) := by decide +kernel
theorem dX10_readersBehind_37 : decode cX10_readersBehind 37 = .ok (.lstore_n 2, 1) := by decide +kernel
theorem dX10_readersBehind_38 : decode cX10_readersBehind 38 = .ok (.lload_n 2, 1) := by decide +kernel
theorem dX10_readersBehind_39 : decode cX10_readersBehind 39 = .ok (.lconst 0, 1) := by decide +kernel
theorem dX10_readersBehind_40 : decode cX10_readersBehind 40 = .ok (.lcmp, 1) := by decide +kernel
theorem dX10_readersBehind_41 : decode cX10_readersBehind 41 = .ok (.ifCond .ge 7, 3) := by decide +kernel
theorem dX10_readersBehind_44 : decode cX10_readersBehind 44 = .ok (.lconst 0, 1) := by decide +kernel
theorem dX10_readersBehind_45 : decode cX10_readersBehind 45 = .ok (.goto 18, 3) := by decide +kernel
theorem dX10_readersBehind_48 : decode cX10_readersBehind 48 = .ok (.lload_n 2, 1) := by decide +kernel
theorem dX10_readersBehind_49 : decode cX10_readersBehind 49 = .ok (.ldc2_w 263, 3) := by decide +kernel
theorem dX10_readersBehind_52 : decode cX10_readersBehind 52 = .ok (.lcmp, 1) := by decide +kernel
theorem dX10_readersBehind_53 : decode cX10_readersBehind 53 = .ok (.ifCond .le 9, 3) := by decide +kernel
theorem dX10_readersBehind_56 : decode cX10_readersBehind 56 = .ok (.ldc2_w 263, 3) := by decide +kernel
theorem dX10_readersBehind_59 : decode cX10_readersBehind 59 = .ok (.goto 4, 3) := by decide +kernel
theorem dX10_readersBehind_62 : decode cX10_readersBehind 62 = .ok (.lload_n 2, 1) := by decide +kernel
theorem dX10_readersBehind_63 : decode cX10_readersBehind 63 = .ok (.lstore_n 2, 1) := by decide +kernel
theorem dX10_readersBehind_64 : decode cX10_readersBehind 64 = .ok (.iinc 4 1, 3) := by decide +kernel
theorem dX10_readersBehind_67 : decode cX10_readersBehind 67 = .ok (.goto (-60), 3) := by decide +kernel
theorem dX10_readersBehind_70 : decode cX10_readersBehind 70 = .ok (.lload_n 2, 1) := by decide +kernel
theorem dX10_readersBehind_71 : decode cX10_readersBehind 71 = .ok (.l2i, 1) := by decide +kernel
theorem dX10_readersBehind_72 : decode cX10_readersBehind 72 = .ok (.ireturn, 1) := by decide +kernel
theorem dX10_number_0 : decode cX10_number 0 = .ok (.iload_n 1, 1) := by decide +kernel
theorem dX10_number_1 : decode cX10_number 1 = .ok (.i2l, 1) := by decide +kernel
theorem dX10_number_2 : decode cX10_number 2 = .ok (.lconst 0, 1) := by decide +kernel
theorem dX10_number_3 : decode cX10_number 3 = .ok (.aload_n 0, 1) := by decide +kernel
theorem dX10_number_4 : decode cX10_number 4 = .ok (.getfield 177, 3) := by decide +kernel
theorem dX10_number_7 : decode cX10_number 7 = .ok (.iconst 1, 1) := by decide +kernel
theorem dX10_number_8 : decode cX10_number 8 = .ok (.isub, 1) := by decide +kernel
theorem dX10_number_9 : decode cX10_number 9 = .ok (.i2l, 1) := by decide +kernel
theorem dX10_number_10 : decode cX10_number 10 = .ok (.invokestatic 99, 3) := by decide +kernel
theorem dX10_number_13 : decode cX10_number 13 = .ok (.ifCond .ne 7, 3) := by decide +kernel
theorem dX10_number_16 : decode cX10_number 16 = .ok (.sipush (-1001), 3) := by decide +kernel
theorem dX10_number_19 : decode cX10_number 19 = .ok (.ireturn, 1) := by decide +kernel
theorem dX10_number_20 : decode cX10_number 20 = .ok (.iload_n 2, 1) := by decide +kernel
theorem dX10_number_21 : decode cX10_number 21 = .ok (.tableswitch 90 0 5 #[39, 46, 57, 63, 69, 79], 39) := by decide +kernel
theorem dX10_number_60 : decode cX10_number 60 = .ok (.aload_n 0, 1) := by decide +kernel
theorem dX10_number_61 : decode cX10_number 61 = .ok (.getfield 55, 3) := by decide +kernel
theorem dX10_number_64 : decode cX10_number 64 = .ok (.iload_n 1, 1) := by decide +kernel
theorem dX10_number_65 : decode cX10_number 65 = .ok (.iaload, 1) := by decide +kernel
theorem dX10_number_66 : decode cX10_number 66 = .ok (.ireturn, 1) := by decide +kernel
theorem dX10_number_67 : decode cX10_number 67 = .ok (.aload_n 0, 1) := by decide +kernel
theorem dX10_number_68 : decode cX10_number 68 = .ok (.aload_n 0, 1) := by decide +kernel
theorem dX10_number_69 : decode cX10_number 69 = .ok (.iload_n 1, 1) := by decide +kernel
theorem dX10_number_70 : decode cX10_number 70 = .ok (.invokevirtual 241, 3) := by decide +kernel
theorem dX10_number_73 : decode cX10_number 73 = .ok (.iload_n 1, 1) := by decide +kernel
theorem dX10_number_74 : decode cX10_number 74 = .ok (.invokevirtual 247, 3) := by decide +kernel
theorem dX10_number_77 : decode cX10_number 77 = .ok (.ireturn, 1) := by decide +kernel
theorem dX10_number_78 : decode cX10_number 78 = .ok (.aload_n 0, 1) := by decide +kernel
theorem dX10_number_79 : decode cX10_number 79 = .ok (.iload_n 1, 1) := by decide +kernel
theorem dX10_number_80 : decode cX10_number 80 = .ok (.invokevirtual 258, 3) := by decide +kernel
theorem dX10_number_83 : decode cX10_number 83 = .ok (.ireturn, 1) := by decide +kernel
theorem dX10_number_84 : decode cX10_number 84 = .ok (.aload_n 0, 1) := by decide +kernel
theorem dX10_number_85 : decode cX10_number 85 = .ok (.iload_n 1, 1) := by decide +kernel
theorem dX10_number_86 : decode cX10_number 86 = .ok (.invokevirtual 265, 3) := by decide +kernel
theorem dX10_number_89 : decode cX10_number 89 = .ok (.ireturn, 1) := by decide +kernel
theorem dX10_number_90 : decode cX10_number 90 = .ok (.aload_n 0, 1) := by decide +kernel
theorem dX10_number_91 : decode cX10_number 91 = .ok (.aload_n 0, 1) := by decide +kernel
theorem dX10_number_92 : decode cX10_number 92 = .ok (.iload_n 1, 1) := by decide +kernel
theorem dX10_number_93 : decode cX10_number 93 = .ok (.invokevirtual 250, 3) := by decide +kernel
theorem dX10_number_96 : decode cX10_number 96 = .ok (.invokevirtual 237, 3) := by decide +kernel
theorem dX10_number_99 : decode cX10_number 99 = .ok (.ireturn, 1) := by decide +kernel
theorem dX10_number_100 : decode cX10_number 100 = .ok (.aload_n 0, 1) := by decide +kernel
theorem dX10_number_101 : decode cX10_number 101 = .ok (.aload_n 0, 1) := by decide +kernel
theorem dX10_number_102 : decode cX10_number 102 = .ok (.iload_n 1, 1) := by decide +kernel
theorem dX10_number_103 : decode cX10_number 103 = .ok (.invokevirtual 241, 3) := by decide +kernel
theorem dX10_number_106 : decode cX10_number 106 = .ok (.iload_n 1, 1) := by decide +kernel
theorem dX10_number_107 : decode cX10_number 107 = .ok (.invokevirtual 244, 3) := by decide +kernel
theorem dX10_number_110 : decode cX10_number 110 = .ok (.ireturn, 1) := by decide +kernel
theorem dX10_number_111 : decode cX10_number 111 = .ok (.iload_n 2, 1) := by decide +kernel
theorem dX10_number_112 : decode cX10_number 112 = .ok (.i2l, 1) := by decide +kernel
theorem dX10_number_113 : decode cX10_number 113 = .ok (.ldc2_w 268, 3) := by decide +kernel
theorem dX10_number_116 : decode cX10_number 116 = .ok (.ldc2_w 270, 3) := by decide +kernel
theorem dX10_number_119 : decode cX10_number 119 = .ok (.invokestatic 99, 3) := by decide +kernel
theorem dX10_number_122 : decode cX10_number 122 = .ok (.ifCond .ne 9, 3) := by decide +kernel
theorem dX10_number_125 : decode cX10_number 125 = .ok (.sipush (-1002), 3) := by decide +kernel
theorem dX10_number_128 : decode cX10_number 128 = .ok (.goto 34, 3) := by decide +kernel
theorem dX10_number_131 : decode cX10_number 131 = .ok (.iload_n 2, 1) := by decide +kernel
theorem dX10_number_132 : decode cX10_number 132 = .ok (.bipush 6, 2) := by decide +kernel
theorem dX10_number_134 : decode cX10_number 134 = .ok (.isub, 1) := by decide +kernel
theorem dX10_number_135 : decode cX10_number 135 = .ok (.aload_n 0, 1) := by decide +kernel
theorem dX10_number_136 : decode cX10_number 136 = .ok (.getfield 55, 3) := by decide +kernel
theorem dX10_number_139 : decode cX10_number 139 = .ok (.iload_n 1, 1) := by decide +kernel
theorem dX10_number_140 : decode cX10_number 140 = .ok (.iaload, 1) := by decide +kernel
theorem dX10_number_141 : decode cX10_number 141 = .ok (.if_icmp .ge 20, 3) := by decide +kernel
theorem dX10_number_144 : decode cX10_number 144 = .ok (.aload_n 0, 1) := by decide +kernel
theorem dX10_number_145 : decode cX10_number 145 = .ok (.getfield 58, 3) := by decide +kernel
theorem dX10_number_148 : decode cX10_number 148 = .ok (.bipush 6, 2) := by decide +kernel
theorem dX10_number_150 : decode cX10_number 150 = .ok (.iload_n 1, 1) := by decide +kernel
theorem dX10_number_151 : decode cX10_number 151 = .ok (.imul, 1) := by decide +kernel
theorem dX10_number_152 : decode cX10_number 152 = .ok (.iload_n 2, 1) := by decide +kernel
theorem dX10_number_153 : decode cX10_number 153 = .ok (.iadd, 1) := by decide +kernel
theorem dX10_number_154 : decode cX10_number 154 = .ok (.bipush 6, 2) := by decide +kernel
theorem dX10_number_156 : decode cX10_number 156 = .ok (.isub, 1) := by decide +kernel
theorem dX10_number_157 : decode cX10_number 157 = .ok (.iaload, 1) := by decide +kernel
theorem dX10_number_158 : decode cX10_number 158 = .ok (.goto 4, 3) := by decide +kernel
theorem dX10_number_161 : decode cX10_number 161 = .ok (.iconst (-1), 1) := by decide +kernel
theorem dX10_number_162 : decode cX10_number 162 = .ok (.ireturn, 1) := by decide +kernel
theorem dX10_readers_0 : decode cX10_readers 0 = .ok (.aload_n 0, 1) := by decide +kernel
theorem dX10_readers_1 : decode cX10_readers 1 = .ok (.aload_n 0, 1) := by decide +kernel
theorem dX10_readers_2 : decode cX10_readers 2 = .ok (.getfield 177, 3) := by decide +kernel
theorem dX10_readers_5 : decode cX10_readers 5 = .ok (.iconst 1, 1) := by decide +kernel
theorem dX10_readers_6 : decode cX10_readers 6 = .ok (.isub, 1) := by decide +kernel
theorem dX10_readers_7 : decode cX10_readers 7 = .ok (.invokevirtual 265, 3) := by decide +kernel
theorem dX10_readers_10 : decode cX10_readers 10 = .ok (.ireturn, 1) := by decide +kernel
theorem dX10_findReach_0 : decode cX10_findReach 0 = .ok (.iconst 0, 1) := by decide +kernel
theorem dX10_findReach_1 : decode cX10_findReach 1 = .ok (.istore_n 3, 1) := by decide +kernel
theorem dX10_findReach_2 : decode cX10_findReach 2 = .ok (.iconst 1, 1) := by decide +kernel
theorem dX10_findReach_3 : decode cX10_findReach 3 = .ok (.istore 4, 2) := by decide +kernel
theorem dX10_findReach_5 : decode cX10_findReach 5 = .ok (.iload 4, 2) := by decide +kernel
theorem dX10_findReach_7 : decode cX10_findReach 7 = .ok (.ifCond .eq 129, 3) := by decide +kernel
theorem dX10_findReach_10 : decode cX10_findReach 10 = .ok (.iload_n 1, 1) := by decide +kernel
theorem dX10_findReach_11 : decode cX10_findReach 11 = .ok (.iload_n 3, 1) := by decide +kernel
theorem dX10_findReach_12 : decode cX10_findReach 12 = .ok (.ior, 1) := by decide +kernel
theorem dX10_findReach_13 : decode cX10_findReach 13 = .ok (.istore 5, 2) := by decide +kernel
theorem dX10_findReach_15 : decode cX10_findReach 15 = .ok (.aload_n 0, 1) := by decide +kernel
theorem dX10_findReach_16 : decode cX10_findReach 16 = .ok (.getfield 64, 3) := by decide +kernel
theorem dX10_findReach_19 : decode cX10_findReach 19 = .ok (.iload 5, 2) := by decide +kernel
theorem dX10_findReach_21 : decode cX10_findReach 21 = .ok (.iload_n 3, 1) := by decide +kernel
theorem dX10_findReach_22 : decode cX10_findReach 22 = .ok (.ifCond .ne 7, 3) := by decide +kernel
theorem dX10_findReach_25 : decode cX10_findReach 25 = .ok (.iconst 1, 1) := by decide +kernel
theorem dX10_findReach_26 : decode cX10_findReach 26 = .ok (.goto 4, 3) := by decide +kernel
theorem dX10_findReach_29 : decode cX10_findReach 29 = .ok (.iconst 0, 1) := by decide +kernel
theorem dX10_findReach_30 : decode cX10_findReach 30 = .ok (.bastore, 1) := by decide +kernel
theorem dX10_findReach_31 : decode cX10_findReach 31 = .ok (.iconst 0, 1) := by decide +kernel
theorem dX10_findReach_32 : decode cX10_findReach 32 = .ok (.istore 6, 2) := by decide +kernel
theorem dX10_findReach_34 : decode cX10_findReach 34 = .ok (.iload 6, 2) := by decide +kernel
theorem dX10_findReach_36 : decode cX10_findReach 36 = .ok (.aload_n 0, 1) := by decide +kernel
theorem dX10_findReach_37 : decode cX10_findReach 37 = .ok (.getfield 174, 3) := by decide +kernel
theorem dX10_findReach_40 : decode cX10_findReach 40 = .ok (.if_icmp .ge 76, 3) := by decide +kernel
theorem dX10_findReach_43 : decode cX10_findReach 43 = .ok (.iload 5, 2) := by decide +kernel
theorem dX10_findReach_45 : decode cX10_findReach 45 = .ok (.iconst 1, 1) := by decide +kernel
theorem dX10_findReach_46 : decode cX10_findReach 46 = .ok (.iload 6, 2) := by decide +kernel
theorem dX10_findReach_48 : decode cX10_findReach 48 = .ok (.ishl, 1) := by decide +kernel
theorem dX10_findReach_49 : decode cX10_findReach 49 = .ok (.iconst (-1), 1) := by decide +kernel
theorem dX10_findReach_50 : decode cX10_findReach 50 = .ok (.ixor, 1) := by decide +kernel
theorem dX10_findReach_51 : decode cX10_findReach 51 = .ok (.iand, 1) := by decide +kernel
theorem dX10_findReach_52 : decode cX10_findReach 52 = .ok (.istore 7, 2) := by decide +kernel
theorem dX10_findReach_54 : decode cX10_findReach 54 = .ok (.aload_n 0, 1) := by decide +kernel
theorem dX10_findReach_55 : decode cX10_findReach 55 = .ok (.getfield 64, 3) := by decide +kernel
theorem dX10_findReach_58 : decode cX10_findReach 58 = .ok (.iload 5, 2) := by decide +kernel
theorem dX10_findReach_60 : decode cX10_findReach 60 = .ok (.aload_n 0, 1) := by decide +kernel
theorem dX10_findReach_61 : decode cX10_findReach 61 = .ok (.getfield 64, 3) := by decide +kernel
theorem dX10_findReach_64 : decode cX10_findReach 64 = .ok (.iload 5, 2) := by decide +kernel
theorem dX10_findReach_66 : decode cX10_findReach 66 = .ok (.baload, 1) := by decide +kernel
theorem dX10_findReach_67 : decode cX10_findReach 67 = .ok (.ifCond .ne 37, 3) := by decide +kernel
theorem dX10_findReach_70 : decode cX10_findReach 70 = .ok (.iload_n 3, 1) := by decide +kernel
theorem dX10_findReach_71 : decode cX10_findReach 71 = .ok (.iload 6, 2) := by decide +kernel
theorem dX10_findReach_73 : decode cX10_findReach 73 = .ok (.invokestatic 143, 3) := by decide +kernel
theorem dX10_findReach_76 : decode cX10_findReach 76 = .ok (.ifCond .eq 32, 3) := by decide +kernel
theorem dX10_findReach_79 : decode cX10_findReach 79 = .ok (.aload_n 0, 1) := by decide +kernel
theorem dX10_findReach_80 : decode cX10_findReach 80 = .ok (.getfield 64, 3) := by decide +kernel
theorem dX10_findReach_83 : decode cX10_findReach 83 = .ok (.iload 7, 2) := by decide +kernel
theorem dX10_findReach_85 : decode cX10_findReach 85 = .ok (.baload, 1) := by decide +kernel
theorem dX10_findReach_86 : decode cX10_findReach 86 = .ok (.ifCond .eq 22, 3) := by decide +kernel
theorem dX10_findReach_89 : decode cX10_findReach 89 = .ok (.aload_n 0, 1) := by decide +kernel
theorem dX10_findReach_90 : decode cX10_findReach 90 = .ok (.getfield 49, 3) := by decide +kernel
theorem dX10_findReach_93 : decode cX10_findReach 93 = .ok (.iload 7, 2) := by decide +kernel
theorem dX10_findReach_95 : decode cX10_findReach 95 = .ok (.iaload, 1) := by decide +kernel
theorem dX10_findReach_96 : decode cX10_findReach 96 = .ok (.iload 6, 2) := by decide +kernel
theorem dX10_findReach_98 : decode cX10_findReach 98 = .ok (.invokestatic 143, 3) := by decide +kernel
theorem dX10_findReach_101 : decode cX10_findReach 101 = .ok (.ifCond .eq 7, 3) := by decide +kernel
theorem dX10_findReach_104 : decode cX10_findReach 104 = .ok (.iconst 1, 1) := by decide +kernel
theorem dX10_findReach_105 : decode cX10_findReach 105 = .ok (.goto 4, 3) := by decide +kernel
theorem dX10_findReach_108 : decode cX10_findReach 108 = .ok (.iconst 0, 1) := by decide +kernel
theorem dX10_findReach_109 : decode cX10_findReach 109 = .ok (.bastore, 1) := by decide +kernel
theorem dX10_findReach_110 : decode cX10_findReach 110 = .ok (.iinc 6 1, 3) := by decide +kernel
theorem dX10_findReach_113 : decode cX10_findReach 113 = .ok (.goto (-79), 3) := by decide +kernel
theorem dX10_findReach_116 : decode cX10_findReach 116 = .ok (.iload_n 3, 1) := by decide +kernel
theorem dX10_findReach_117 : decode cX10_findReach 117 = .ok (.iload_n 2, 1) := by decide +kernel
theorem dX10_findReach_118 : decode cX10_findReach 118 = .ok (.isub, 1) := by decide +kernel
theorem dX10_findReach_119 : decode cX10_findReach 119 = .ok (.iload_n 2, 1) := by decide +kernel
theorem dX10_findReach_120 : decode cX10_findReach 120 = .ok (.iand, 1) := by decide +kernel
theorem dX10_findReach_121 : decode cX10_findReach 121 = .ok (.istore_n 3, 1) := by decide +kernel
theorem dX10_findReach_122 : decode cX10_findReach 122 = .ok (.iload_n 3, 1) := by decide +kernel
theorem dX10_findReach_123 : decode cX10_findReach 123 = .ok (.ifCond .eq 7, 3) := by decide +kernel
theorem dX10_findReach_126 : decode cX10_findReach 126 = .ok (.iconst 1, 1) := by decide +kernel
theorem dX10_findReach_127 : decode cX10_findReach 127 = .ok (.goto 4, 3) := by decide +kernel
theorem dX10_findReach_130 : decode cX10_findReach 130 = .ok (.iconst 0, 1) := by decide +kernel
theorem dX10_findReach_131 : decode cX10_findReach 131 = .ok (.istore 4, 2) := by decide +kernel
theorem dX10_findReach_133 : decode cX10_findReach 133 = .ok (.goto (-128), 3) := by decide +kernel
theorem dX10_findReach_136 : decode cX10_findReach 136 = .ok (.return_, 1) := by decide +kernel
theorem dX10_hooks_0 : decode cX10_hooks 0 = .ok (.iload_n 1, 1) := by decide +kernel
theorem dX10_hooks_1 : decode cX10_hooks 1 = .ok (.iload_n 2, 1) := by decide +kernel
theorem dX10_hooks_2 : decode cX10_hooks 2 = .ok (.ior, 1) := by decide +kernel
theorem dX10_hooks_3 : decode cX10_hooks 3 = .ok (.istore_n 3, 1) := by decide +kernel
theorem dX10_hooks_4 : decode cX10_hooks 4 = .ok (.aload_n 0, 1) := by decide +kernel
theorem dX10_hooks_5 : decode cX10_hooks 5 = .ok (.iload_n 3, 1) := by decide +kernel
theorem dX10_hooks_6 : decode cX10_hooks 6 = .ok (.invokevirtual 237, 3) := by decide +kernel
theorem dX10_hooks_9 : decode cX10_hooks 9 = .ok (.istore 4, 2) := by decide +kernel
theorem dX10_hooks_11 : decode cX10_hooks 11 = .ok (.iconst 0, 1) := by decide +kernel
theorem dX10_hooks_12 : decode cX10_hooks 12 = .ok (.istore 5, 2) := by decide +kernel
theorem dX10_hooks_14 : decode cX10_hooks 14 = .ok (.iconst 0, 1) := by decide +kernel
theorem dX10_hooks_15 : decode cX10_hooks 15 = .ok (.istore 6, 2) := by decide +kernel
theorem dX10_hooks_17 : decode cX10_hooks 17 = .ok (.iload 6, 2) := by decide +kernel
theorem dX10_hooks_19 : decode cX10_hooks 19 = .ok (.aload_n 0, 1) := by decide +kernel
theorem dX10_hooks_20 : decode cX10_hooks 20 = .ok (.getfield 174, 3) := by decide +kernel
theorem dX10_hooks_23 : decode cX10_hooks 23 = .ok (.if_icmp .ge 78, 3) := by decide +kernel
theorem dX10_hooks_26 : decode cX10_hooks 26 = .ok (.iload_n 3, 1) := by decide +kernel
theorem dX10_hooks_27 : decode cX10_hooks 27 = .ok (.iconst 1, 1) := by decide +kernel
theorem dX10_hooks_28 : decode cX10_hooks 28 = .ok (.iload 6, 2) := by decide +kernel
theorem dX10_hooks_30 : decode cX10_hooks 30 = .ok (.ishl, 1) := by decide +kernel
theorem dX10_hooks_31 : decode cX10_hooks 31 = .ok (.iconst (-1), 1) := by decide +kernel
theorem dX10_hooks_32 : decode cX10_hooks 32 = .ok (.ixor, 1) := by decide +kernel
theorem dX10_hooks_33 : decode cX10_hooks 33 = .ok (.iand, 1) := by decide +kernel
theorem dX10_hooks_34 : decode cX10_hooks 34 = .ok (.istore 7, 2) := by decide +kernel
theorem dX10_hooks_36 : decode cX10_hooks 36 = .ok (.iload 5, 2) := by decide +kernel
theorem dX10_hooks_38 : decode cX10_hooks 38 = .ok (.ifCond .ne 50, 3) := by decide +kernel
theorem dX10_hooks_41 : decode cX10_hooks 41 = .ok (.iload_n 2, 1) := by decide +kernel
theorem dX10_hooks_42 : decode cX10_hooks 42 = .ok (.iload 6, 2) := by decide +kernel
theorem dX10_hooks_44 : decode cX10_hooks 44 = .ok (.invokestatic 143, 3) := by decide +kernel
theorem dX10_hooks_47 : decode cX10_hooks 47 = .ok (.ifCond .eq 45, 3) := by decide +kernel
theorem dX10_hooks_50 : decode cX10_hooks 50 = .ok (.aload_n 0, 1) := by decide +kernel
theorem dX10_hooks_51 : decode cX10_hooks 51 = .ok (.iload 6, 2) := by decide +kernel
theorem dX10_hooks_53 : decode cX10_hooks 53 = .ok (.iconst 3, 1) := by decide +kernel
theorem dX10_hooks_54 : decode cX10_hooks 54 = .ok (.invokevirtual 199, 3) := by decide +kernel
theorem dX10_hooks_57 : decode cX10_hooks 57 = .ok (.iload 4, 2) := by decide +kernel
theorem dX10_hooks_59 : decode cX10_hooks 59 = .ok (.iand, 1) := by decide +kernel
theorem dX10_hooks_60 : decode cX10_hooks 60 = .ok (.ifCond .eq 32, 3) := by decide +kernel
theorem dX10_hooks_63 : decode cX10_hooks 63 = .ok (.aload_n 0, 1) := by decide +kernel
theorem dX10_hooks_64 : decode cX10_hooks 64 = .ok (.getfield 64, 3) := by decide +kernel
theorem dX10_hooks_67 : decode cX10_hooks 67 = .ok (.iload 7, 2) := by decide +kernel
theorem dX10_hooks_69 : decode cX10_hooks 69 = .ok (.baload, 1) := by decide +kernel
theorem dX10_hooks_70 : decode cX10_hooks 70 = .ok (.ifCond .eq 22, 3) := by decide +kernel
theorem dX10_hooks_73 : decode cX10_hooks 73 = .ok (.aload_n 0, 1) := by decide +kernel
theorem dX10_hooks_74 : decode cX10_hooks 74 = .ok (.getfield 49, 3) := by decide +kernel
theorem dX10_hooks_77 : decode cX10_hooks 77 = .ok (.iload 7, 2) := by decide +kernel
theorem dX10_hooks_79 : decode cX10_hooks 79 = .ok (.iaload, 1) := by decide +kernel
theorem dX10_hooks_80 : decode cX10_hooks 80 = .ok (.iload 6, 2) := by decide +kernel
theorem dX10_hooks_82 : decode cX10_hooks 82 = .ok (.invokestatic 143, 3) := by decide +kernel
theorem dX10_hooks_85 : decode cX10_hooks 85 = .ok (.ifCond .eq 7, 3) := by decide +kernel
theorem dX10_hooks_88 : decode cX10_hooks 88 = .ok (.iconst 1, 1) := by decide +kernel
theorem dX10_hooks_89 : decode cX10_hooks 89 = .ok (.goto 4, 3) := by decide +kernel
theorem dX10_hooks_92 : decode cX10_hooks 92 = .ok (.iconst 0, 1) := by decide +kernel
theorem dX10_hooks_93 : decode cX10_hooks 93 = .ok (.istore 5, 2) := by decide +kernel
theorem dX10_hooks_95 : decode cX10_hooks 95 = .ok (.iinc 6 1, 3) := by decide +kernel
theorem dX10_hooks_98 : decode cX10_hooks 98 = .ok (.goto (-81), 3) := by decide +kernel
theorem dX10_hooks_101 : decode cX10_hooks 101 = .ok (.iload 5, 2) := by decide +kernel
theorem dX10_hooks_103 : decode cX10_hooks 103 = .ok (.ireturn, 1) := by decide +kernel
theorem dX10_findWorths_0 : decode cX10_findWorths 0 = .ok (.aload_n 0, 1) := by decide +kernel
theorem dX10_findWorths_1 : decode cX10_findWorths 1 = .ok (.iload_n 1, 1) := by decide +kernel
theorem dX10_findWorths_2 : decode cX10_findWorths 2 = .ok (.iload_n 2, 1) := by decide +kernel
theorem dX10_findWorths_3 : decode cX10_findWorths 3 = .ok (.invokevirtual 272, 3) := by decide +kernel
theorem dX10_findWorths_6 : decode cX10_findWorths 6 = .ok (.iload_n 2, 1) := by decide +kernel
theorem dX10_findWorths_7 : decode cX10_findWorths 7 = .ok (.istore_n 3, 1) := by decide +kernel
theorem dX10_findWorths_8 : decode cX10_findWorths 8 = .ok (.iload_n 3, 1) := by decide +kernel
theorem dX10_findWorths_9 : decode cX10_findWorths 9 = .ok (.ifCond .le 123, 3) := by decide +kernel
theorem dX10_findWorths_12 : decode cX10_findWorths 12 = .ok (.aload_n 0, 1) := by decide +kernel
theorem dX10_findWorths_13 : decode cX10_findWorths 13 = .ok (.getfield 64, 3) := by decide +kernel
theorem dX10_findWorths_16 : decode cX10_findWorths 16 = .ok (.iload_n 1, 1) := by decide +kernel
theorem dX10_findWorths_17 : decode cX10_findWorths 17 = .ok (.iload_n 3, 1) := by decide +kernel
theorem dX10_findWorths_18 : decode cX10_findWorths 18 = .ok (.ior, 1) := by decide +kernel
theorem dX10_findWorths_19 : decode cX10_findWorths 19 = .ok (.baload, 1) := by decide +kernel
theorem dX10_findWorths_20 : decode cX10_findWorths 20 = .ok (.ifCond .eq 42, 3) := by decide +kernel
theorem dX10_findWorths_23 : decode cX10_findWorths 23 = .ok (.iload_n 3, 1) := by decide +kernel
theorem dX10_findWorths_24 : decode cX10_findWorths 24 = .ok (.invokestatic 208, 3) := by decide +kernel
theorem dX10_findWorths_27 : decode cX10_findWorths 27 = .ok (.bipush 6, 2) := by decide +kernel
theorem dX10_findWorths_29 : decode cX10_findWorths 29 = .ok (.if_icmp .gt 33, 3) := by decide +kernel
theorem dX10_findWorths_32 : decode cX10_findWorths 32 = .ok (.aload_n 0, 1) := by decide +kernel
theorem dX10_findWorths_33 : decode cX10_findWorths 33 = .ok (.iload_n 3, 1) := by decide +kernel
theorem dX10_findWorths_34 : decode cX10_findWorths 34 = .ok (.invokevirtual 211, 3) := by decide +kernel
theorem dX10_findWorths_37 : decode cX10_findWorths 37 = .ok (.i2l, 1) := by decide +kernel
theorem dX10_findWorths_38 : decode cX10_findWorths 38 = .ok (.aload_n 0, 1) := by decide +kernel
theorem dX10_findWorths_39 : decode cX10_findWorths 39 = .ok (.getfield 22, 3) := by decide +kernel
theorem dX10_findWorths_42 : decode cX10_findWorths 42 = .ok (.iconst 0, 1) := by decide +kernel
theorem dX10_findWorths_43 : decode cX10_findWorths 43 = .ok (.iaload, 1) := by decide +kernel
theorem dX10_findWorths_44 : decode cX10_findWorths 44 = .ok (.i2l, 1) := by decide +kernel
theorem dX10_findWorths_45 : decode cX10_findWorths 45 = .ok (.aload_n 0, 1) := by decide +kernel
theorem dX10_findWorths_46 : decode cX10_findWorths 46 = .ok (.getfield 22, 3) := by decide +kernel
theorem dX10_findWorths_49 : decode cX10_findWorths 49 = .ok (.iconst 1, 1) := by decide +kernel
theorem dX10_findWorths_50 : decode cX10_findWorths 50 = .ok (.iaload, 1) := by decide +kernel
theorem dX10_findWorths_51 : decode cX10_findWorths 51 = .ok (.i2l, 1) := by decide +kernel
theorem dX10_findWorths_52 : decode cX10_findWorths 52 = .ok (.invokestatic 99, 3) := by decide +kernel
theorem dX10_findWorths_55 : decode cX10_findWorths 55 = .ok (.ifCond .eq 7, 3) := by decide +kernel
theorem dX10_findWorths_58 : decode cX10_findWorths 58 = .ok (.iconst 1, 1) := by decide +kernel
theorem dX10_findWorths_59 : decode cX10_findWorths 59 = .ok (.goto 4, 3) := by decide +kernel
theorem dX10_findWorths_62 : decode cX10_findWorths 62 = .ok (.iconst 0, 1) := by decide +kernel
theorem dX10_findWorths_63 : decode cX10_findWorths 63 = .ok (.istore 4, 2) := by decide +kernel
theorem dX10_findWorths_65 : decode cX10_findWorths 65 = .ok (.aload_n 0, 1) := by decide +kernel
theorem dX10_findWorths_66 : decode cX10_findWorths 66 = .ok (.getfield 67, 3) := by decide +kernel
theorem dX10_findWorths_69 : decode cX10_findWorths 69 = .ok (.iload_n 3, 1) := by decide +kernel
theorem dX10_findWorths_70 : decode cX10_findWorths 70 = .ok (.iload 4, 2) := by decide +kernel
theorem dX10_findWorths_72 : decode cX10_findWorths 72 = .ok (.ifCond .ne 7, 3) := by decide +kernel
theorem dX10_findWorths_75 : decode cX10_findWorths 75 = .ok (.iconst (-1), 1) := by decide +kernel
theorem dX10_findWorths_76 : decode cX10_findWorths 76 = .ok (.goto 46, 3) := by decide +kernel
theorem dX10_findWorths_79 : decode cX10_findWorths 79 = .ok (.aload_n 0, 1) := by decide +kernel
theorem dX10_findWorths_80 : decode cX10_findWorths 80 = .ok (.iload_n 3, 1) := by decide +kernel
theorem dX10_findWorths_81 : decode cX10_findWorths 81 = .ok (.invokevirtual 253, 3) := by decide +kernel
theorem dX10_findWorths_84 : decode cX10_findWorths 84 = .ok (.aload_n 0, 1) := by decide +kernel
theorem dX10_findWorths_85 : decode cX10_findWorths 85 = .ok (.getfield 22, 3) := by decide +kernel
theorem dX10_findWorths_88 : decode cX10_findWorths 88 = .ok (.iconst 5, 1) := by decide +kernel
theorem dX10_findWorths_89 : decode cX10_findWorths 89 = .ok (.iaload, 1) := by decide +kernel
theorem dX10_findWorths_90 : decode cX10_findWorths 90 = .ok (.aload_n 0, 1) := by decide +kernel
theorem dX10_findWorths_91 : decode cX10_findWorths 91 = .ok (.iload_n 1, 1) := by decide +kernel
theorem dX10_findWorths_92 : decode cX10_findWorths 92 = .ok (.iload_n 3, 1) := by decide +kernel
theorem dX10_findWorths_93 : decode cX10_findWorths 93 = .ok (.ior, 1) := by decide +kernel
theorem dX10_findWorths_94 : decode cX10_findWorths 94 = .ok (.invokevirtual 237, 3) := by decide +kernel
theorem dX10_findWorths_97 : decode cX10_findWorths 97 = .ok (.invokestatic 208, 3) := by decide +kernel
theorem dX10_findWorths_100 : decode cX10_findWorths 100 = .ok (.imul, 1) := by decide +kernel
theorem dX10_findWorths_101 : decode cX10_findWorths 101 = .ok (.iadd, 1) := by decide +kernel
theorem dX10_findWorths_102 : decode cX10_findWorths 102 = .ok (.aload_n 0, 1) := by decide +kernel
theorem dX10_findWorths_103 : decode cX10_findWorths 103 = .ok (.iload_n 1, 1) := by decide +kernel
theorem dX10_findWorths_104 : decode cX10_findWorths 104 = .ok (.iload_n 3, 1) := by decide +kernel
theorem dX10_findWorths_105 : decode cX10_findWorths 105 = .ok (.invokevirtual 276, 3) := by decide +kernel
theorem dX10_findWorths_108 : decode cX10_findWorths 108 = .ok (.ifCond .eq 12, 3) := by decide +kernel
theorem dX10_findWorths_111 : decode cX10_findWorths 111 = .ok (.aload_n 0, 1) := by decide +kernel
theorem dX10_findWorths_112 : decode cX10_findWorths 112 = .ok (.getfield 22, 3) := by decide +kernel
theorem dX10_findWorths_115 : decode cX10_findWorths 115 = .ok (.iconst 4, 1) := by decide +kernel
theorem dX10_findWorths_116 : decode cX10_findWorths 116 = .ok (.iaload, 1) := by decide +kernel
theorem dX10_findWorths_117 : decode cX10_findWorths 117 = .ok (.goto 4, 3) := by decide +kernel
theorem dX10_findWorths_120 : decode cX10_findWorths 120 = .ok (.iconst 0, 1) := by decide +kernel
theorem dX10_findWorths_121 : decode cX10_findWorths 121 = .ok (.iadd, 1) := by decide +kernel
theorem dX10_findWorths_122 : decode cX10_findWorths 122 = .ok (.iastore, 1) := by decide +kernel
theorem dX10_findWorths_123 : decode cX10_findWorths 123 = .ok (.iload_n 3, 1) := by decide +kernel
theorem dX10_findWorths_124 : decode cX10_findWorths 124 = .ok (.iconst 1, 1) := by decide +kernel
theorem dX10_findWorths_125 : decode cX10_findWorths 125 = .ok (.isub, 1) := by decide +kernel
theorem dX10_findWorths_126 : decode cX10_findWorths 126 = .ok (.iload_n 2, 1) := by decide +kernel
theorem dX10_findWorths_127 : decode cX10_findWorths 127 = .ok (.iand, 1) := by decide +kernel
theorem dX10_findWorths_128 : decode cX10_findWorths 128 = .ok (.istore_n 3, 1) := by decide +kernel
theorem dX10_findWorths_129 : decode cX10_findWorths 129 = .ok (.goto (-121), 3) := by decide +kernel
theorem dX10_findWorths_132 : decode cX10_findWorths 132 = .ok (.return_, 1) := by decide +kernel
theorem dX10_findPlan_0 : decode cX10_findPlan 0 = .ok (.aload_n 0, 1) := by decide +kernel
theorem dX10_findPlan_1 : decode cX10_findPlan 1 = .ok (.invokevirtual 226, 3) := by decide +kernel
theorem dX10_findPlan_4 : decode cX10_findPlan 4 = .ok (.iload_n 2, 1) := by decide +kernel
theorem dX10_findPlan_5 : decode cX10_findPlan 5 = .ok (.istore_n 3, 1) := by decide +kernel
theorem dX10_findPlan_6 : decode cX10_findPlan 6 = .ok (.iload_n 3, 1) := by decide +kernel
theorem dX10_findPlan_7 : decode cX10_findPlan 7 = .ok (.ifCond .lt 202, 3) := by decide +kernel
theorem dX10_findPlan_10 : decode cX10_findPlan 10 = .ok (.iload_n 3, 1) := by decide +kernel
theorem dX10_findPlan_11 : decode cX10_findPlan 11 = .ok (.iload_n 2, 1) := by decide +kernel
theorem dX10_findPlan_12 : decode cX10_findPlan 12 = .ok (.iconst (-1), 1) := by decide +kernel
theorem dX10_findPlan_13 : decode cX10_findPlan 13 = .ok (.ixor, 1) := by decide +kernel
theorem dX10_findPlan_14 : decode cX10_findPlan 14 = .ok (.iand, 1) := by decide +kernel
theorem dX10_findPlan_15 : decode cX10_findPlan 15 = .ok (.ifCond .ne 188, 3) := by decide +kernel
theorem dX10_findPlan_18 : decode cX10_findPlan 18 = .ok (.iload_n 2, 1) := by decide +kernel
theorem dX10_findPlan_19 : decode cX10_findPlan 19 = .ok (.iload_n 3, 1) := by decide +kernel
theorem dX10_findPlan_20 : decode cX10_findPlan 20 = .ok (.iconst (-1), 1) := by decide +kernel
theorem dX10_findPlan_21 : decode cX10_findPlan 21 = .ok (.ixor, 1) := by decide +kernel
theorem dX10_findPlan_22 : decode cX10_findPlan 22 = .ok (.iand, 1) := by decide +kernel
theorem dX10_findPlan_23 : decode cX10_findPlan 23 = .ok (.istore 4, 2) := by decide +kernel
theorem dX10_findPlan_25 : decode cX10_findPlan 25 = .ok (.aload_n 0, 1) := by decide +kernel
theorem dX10_findPlan_26 : decode cX10_findPlan 26 = .ok (.aload_n 0, 1) := by decide +kernel
theorem dX10_findPlan_27 : decode cX10_findPlan 27 = .ok (.getfield 180, 3) := by decide +kernel
theorem dX10_findPlan_30 : decode cX10_findPlan 30 = .ok (.iload_n 3, 1) := by decide +kernel
theorem dX10_findPlan_31 : decode cX10_findPlan 31 = .ok (.ior, 1) := by decide +kernel
theorem dX10_findPlan_32 : decode cX10_findPlan 32 = .ok (.iload 4, 2) := by decide +kernel
theorem dX10_findPlan_34 : decode cX10_findPlan 34 = .ok (.invokevirtual 279, 3) := by decide +kernel
theorem dX10_findPlan_37 : decode cX10_findPlan 37 = .ok (.iconst 0, 1) := by decide +kernel
theorem dX10_findPlan_38 : decode cX10_findPlan 38 = .ok (.istore 5, 2) := by decide +kernel
theorem dX10_findPlan_40 : decode cX10_findPlan 40 = .ok (.iload 5, 2) := by decide +kernel
theorem dX10_findPlan_42 : decode cX10_findPlan 42 = .ok (.iload_n 1, 1) := by decide +kernel
theorem dX10_findPlan_43 : decode cX10_findPlan 43 = .ok (.if_icmp .gt 160, 3) := by decide +kernel
theorem dX10_findPlan_46 : decode cX10_findPlan 46 = .ok (.sipush 1024, 3) := by decide +kernel
theorem dX10_findPlan_49 : decode cX10_findPlan 49 = .ok (.iload 5, 2) := by decide +kernel
theorem dX10_findPlan_51 : decode cX10_findPlan 51 = .ok (.imul, 1) := by decide +kernel
theorem dX10_findPlan_52 : decode cX10_findPlan 52 = .ok (.iload_n 3, 1) := by decide +kernel
theorem dX10_findPlan_53 : decode cX10_findPlan 53 = .ok (.iadd, 1) := by decide +kernel
theorem dX10_findPlan_54 : decode cX10_findPlan 54 = .ok (.istore 6, 2) := by decide +kernel
theorem dX10_findPlan_56 : decode cX10_findPlan 56 = .ok (.aload_n 0, 1) := by decide +kernel
theorem dX10_findPlan_57 : decode cX10_findPlan 57 = .ok (.getfield 70, 3) := by decide +kernel
theorem dX10_findPlan_60 : decode cX10_findPlan 60 = .ok (.iload 6, 2) := by decide +kernel
theorem dX10_findPlan_62 : decode cX10_findPlan 62 = .ok (.iload 5, 2) := by decide +kernel
theorem dX10_findPlan_64 : decode cX10_findPlan 64 = .ok (.ifCond .ne 12, 3) := by decide +kernel
theorem dX10_findPlan_67 : decode cX10_findPlan 67 = .ok (.iload_n 3, 1) := by decide +kernel
theorem dX10_findPlan_68 : decode cX10_findPlan 68 = .ok (.iload_n 2, 1) := by decide +kernel
theorem dX10_findPlan_69 : decode cX10_findPlan 69 = .ok (.if_icmp .ne 7, 3) := by decide +kernel
theorem dX10_findPlan_72 : decode cX10_findPlan 72 = .ok (.iconst 0, 1) := by decide +kernel
theorem dX10_findPlan_73 : decode cX10_findPlan 73 = .ok (.goto 4, 3) := by decide +kernel
theorem dX10_findPlan_76 : decode cX10_findPlan 76 = .ok (.iconst (-1), 1) := by decide +kernel
theorem dX10_findPlan_77 : decode cX10_findPlan 77 = .ok (.iastore, 1) := by decide +kernel
theorem dX10_findPlan_78 : decode cX10_findPlan 78 = .ok (.aload_n 0, 1) := by decide +kernel
theorem dX10_findPlan_79 : decode cX10_findPlan 79 = .ok (.getfield 73, 3) := by decide +kernel
theorem dX10_findPlan_82 : decode cX10_findPlan 82 = .ok (.iload 6, 2) := by decide +kernel
theorem dX10_findPlan_84 : decode cX10_findPlan 84 = .ok (.iconst (-1), 1) := by decide +kernel
theorem dX10_findPlan_85 : decode cX10_findPlan 85 = .ok (.iastore, 1) := by decide +kernel
theorem dX10_findPlan_86 : decode cX10_findPlan 86 = .ok (.iload 4, 2) := by decide +kernel
theorem dX10_findPlan_88 : decode cX10_findPlan 88 = .ok (.istore 7, 2) := by decide +kernel
theorem dX10_findPlan_90 : decode cX10_findPlan 90 = .ok (.iload 7, 2) := by decide +kernel
theorem dX10_findPlan_92 : decode cX10_findPlan 92 = .ok (.ifCond .le 105, 3) := by decide +kernel
theorem dX10_findPlan_95 : decode cX10_findPlan 95 = .ok (.iload 5, 2) := by decide +kernel
theorem dX10_findPlan_97 : decode cX10_findPlan 97 = .ok (.ifCond .le 100, 3) := by decide +kernel
theorem dX10_findPlan_100 : decode cX10_findPlan 100 = .ok (.aload_n 0, 1) := by decide +kernel
theorem dX10_findPlan_101 : decode cX10_findPlan 101 = .ok (.getfield 67, 3) := by decide +kernel
theorem dX10_findPlan_104 : decode cX10_findPlan 104 = .ok (.iload 7, 2) := by decide +kernel
theorem dX10_findPlan_106 : decode cX10_findPlan 106 = .ok (.iaload, 1) := by decide +kernel
theorem dX10_findPlan_107 : decode cX10_findPlan 107 = .ok (.ifCond .ge 7, 3) := by decide +kernel
theorem dX10_findPlan_110 : decode cX10_findPlan 110 = .ok (.iconst (-1), 1) := by decide +kernel
theorem dX10_findPlan_111 : decode cX10_findPlan 111 = .ok (.goto 21, 3) := by decide +kernel
theorem dX10_findPlan_114 : decode cX10_findPlan 114 = .ok (.aload_n 0, 1) := by decide +kernel
theorem dX10_findPlan_115 : decode cX10_findPlan 115 = .ok (.getfield 70, 3) := by decide +kernel
theorem dX10_findPlan_118 : decode cX10_findPlan 118 = .ok (.sipush 1024, 3) := by decide +kernel
theorem dX10_findPlan_121 : decode cX10_findPlan 121 = .ok (.iload 5, 2) := by decide +kernel
theorem dX10_findPlan_123 : decode cX10_findPlan 123 = .ok (.iconst 1, 1) := by decide +kernel
theorem dX10_findPlan_124 : decode cX10_findPlan 124 = .ok (.isub, 1) := by decide +kernel
theorem dX10_findPlan_125 : decode cX10_findPlan 125 = .ok (.imul, 1) := by decide +kernel
theorem dX10_findPlan_126 : decode cX10_findPlan 126 = .ok (.iload_n 3, 1) := by decide +kernel
theorem dX10_findPlan_127 : decode cX10_findPlan 127 = .ok (.iload 7, 2) := by decide +kernel
theorem dX10_findPlan_129 : decode cX10_findPlan 129 = .ok (.ior, 1) := by decide +kernel
theorem dX10_findPlan_130 : decode cX10_findPlan 130 = .ok (.iadd, 1) := by decide +kernel
theorem dX10_findPlan_131 : decode cX10_findPlan 131 = .ok (.iaload, 1) := by decide +kernel
theorem dX10_findPlan_132 : decode cX10_findPlan 132 = .ok (.istore 8, 2) := by decide +kernel
theorem dX10_findPlan_134 : decode cX10_findPlan 134 = .ok (.iload 8, 2) := by decide +kernel
theorem dX10_findPlan_136 : decode cX10_findPlan 136 = .ok (.ifCond .lt 49, 3) := by decide +kernel
theorem dX10_findPlan_139 : decode cX10_findPlan 139 = .ok (.iload 8, 2) := by decide +kernel
theorem dX10_findPlan_141 : decode cX10_findPlan 141 = .ok (.aload_n 0, 1) := by decide +kernel
theorem dX10_findPlan_142 : decode cX10_findPlan 142 = .ok (.getfield 67, 3) := by decide +kernel
theorem dX10_findPlan_145 : decode cX10_findPlan 145 = .ok (.iload 7, 2) := by decide +kernel
theorem dX10_findPlan_147 : decode cX10_findPlan 147 = .ok (.iaload, 1) := by decide +kernel
theorem dX10_findPlan_148 : decode cX10_findPlan 148 = .ok (.iadd, 1) := by decide +kernel
theorem dX10_findPlan_149 : decode cX10_findPlan 149 = .ok (.aload_n 0, 1) := by decide +kernel
theorem dX10_findPlan_150 : decode cX10_findPlan 150 = .ok (.getfield 70, 3) := by decide +kernel
theorem dX10_findPlan_153 : decode cX10_findPlan 153 = .ok (.iload 6, 2) := by decide +kernel
theorem dX10_findPlan_155 : decode cX10_findPlan 155 = .ok (.iaload, 1) := by decide +kernel
theorem dX10_findPlan_156 : decode cX10_findPlan 156 = .ok (.if_icmp .lt 29, 3) := by decide +kernel
theorem dX10_findPlan_159 : decode cX10_findPlan 159 = .ok (.aload_n 0, 1) := by decide +kernel
theorem dX10_findPlan_160 : decode cX10_findPlan 160 = .ok (.getfield 70, 3) := by decide +kernel
theorem dX10_findPlan_163 : decode cX10_findPlan 163 = .ok (.iload 6, 2) := by decide +kernel
theorem dX10_findPlan_165 : decode cX10_findPlan 165 = .ok (.iload 8, 2) := by decide +kernel
theorem dX10_findPlan_167 : decode cX10_findPlan 167 = .ok (.aload_n 0, 1) := by decide +kernel
theorem dX10_findPlan_168 : decode cX10_findPlan 168 = .ok (.getfield 67, 3) := by decide +kernel
theorem dX10_findPlan_171 : decode cX10_findPlan 171 = .ok (.iload 7, 2) := by decide +kernel
theorem dX10_findPlan_173 : decode cX10_findPlan 173 = .ok (.iaload, 1) := by decide +kernel
theorem dX10_findPlan_174 : decode cX10_findPlan 174 = .ok (.iadd, 1) := by decide +kernel
theorem dX10_findPlan_175 : decode cX10_findPlan 175 = .ok (.iastore, 1) := by decide +kernel
theorem dX10_findPlan_176 : decode cX10_findPlan 176 = .ok (.aload_n 0, 1) := by decide +kernel
theorem dX10_findPlan_177 : decode cX10_findPlan 177 = .ok (.getfield 73, 3) := by decide +kernel
theorem dX10_findPlan_180 : decode cX10_findPlan 180 = .ok (.iload 6, 2) := by decide +kernel
theorem dX10_findPlan_182 : decode cX10_findPlan 182 = .ok (.iload 7, 2) := by decide +kernel
theorem dX10_findPlan_184 : decode cX10_findPlan 184 = .ok (.iastore, 1) := by decide +kernel
theorem dX10_findPlan_185 : decode cX10_findPlan 185 = .ok (.iload 7, 2) := by decide +kernel
theorem dX10_findPlan_187 : decode cX10_findPlan 187 = .ok (.iconst 1, 1) := by decide +kernel
theorem dX10_findPlan_188 : decode cX10_findPlan 188 = .ok (.isub, 1) := by decide +kernel
theorem dX10_findPlan_189 : decode cX10_findPlan 189 = .ok (.iload 4, 2) := by decide +kernel
theorem dX10_findPlan_191 : decode cX10_findPlan 191 = .ok (.iand, 1) := by decide +kernel
theorem dX10_findPlan_192 : decode cX10_findPlan 192 = .ok (.istore 7, 2) := by decide +kernel
theorem dX10_findPlan_194 : decode cX10_findPlan 194 = .ok (.goto (-104), 3) := by decide +kernel
theorem dX10_findPlan_197 : decode cX10_findPlan 197 = .ok (.iinc 5 1, 3) := by decide +kernel
theorem dX10_findPlan_200 : decode cX10_findPlan 200 = .ok (.goto (-160), 3) := by decide +kernel
theorem dX10_findPlan_203 : decode cX10_findPlan 203 = .ok (.iinc 3 (-1), 3) := by decide +kernel
theorem dX10_findPlan_206 : decode cX10_findPlan 206 = .ok (.goto (-200), 3) := by decide +kernel
theorem dX10_findPlan_209 : decode cX10_findPlan 209 = .ok (.return_, 1) := by decide +kernel
theorem dX10_plan_0 : decode cX10_plan 0 = .ok (.aload_n 0, 1) := by decide +kernel
theorem dX10_plan_1 : decode cX10_plan 1 = .ok (.iload_n 2, 1) := by decide +kernel
theorem dX10_plan_2 : decode cX10_plan 2 = .ok (.invokevirtual 220, 3) := by decide +kernel
theorem dX10_plan_5 : decode cX10_plan 5 = .ok (.ifCond .ne 12, 3) := by decide +kernel
theorem dX10_plan_8 : decode cX10_plan 8 = .ok (.iload_n 2, 1) := by decide +kernel
theorem dX10_plan_9 : decode cX10_plan 9 = .ok (.aload_n 0, 1) := by decide +kernel
theorem dX10_plan_10 : decode cX10_plan 10 = .ok (.getfield 180, 3) := by decide +kernel
theorem dX10_plan_13 : decode cX10_plan 13 = .ok (.iand, 1) := by decide +kernel
theorem dX10_plan_14 : decode cX10_plan 14 = .ok (.ifCond .eq 7, 3) := by decide +kernel
theorem dX10_plan_17 : decode cX10_plan 17 = .ok (.sipush (-1001), 3) := by decide +kernel
theorem dX10_plan_20 : decode cX10_plan 20 = .ok (.ireturn, 1) := by decide +kernel
theorem dX10_plan_21 : decode cX10_plan 21 = .ok (.iload_n 1, 1) := by decide +kernel
theorem dX10_plan_22 : decode cX10_plan 22 = .ok (.i2l, 1) := by decide +kernel
theorem dX10_plan_23 : decode cX10_plan 23 = .ok (.lconst 1, 1) := by decide +kernel
theorem dX10_plan_24 : decode cX10_plan 24 = .ok (.ldc2_w 282, 3) := by decide +kernel
theorem dX10_plan_27 : decode cX10_plan 27 = .ok (.invokestatic 99, 3) := by decide +kernel
theorem dX10_plan_30 : decode cX10_plan 30 = .ok (.ifCond .ne 7, 3) := by decide +kernel
theorem dX10_plan_33 : decode cX10_plan 33 = .ok (.sipush (-1002), 3) := by decide +kernel
theorem dX10_plan_36 : decode cX10_plan 36 = .ok (.ireturn, 1) := by decide +kernel
theorem dX10_plan_37 : decode cX10_plan 37 = .ok (.aload_n 0, 1) := by decide +kernel
theorem dX10_plan_38 : decode cX10_plan 38 = .ok (.iload_n 1, 1) := by decide +kernel
theorem dX10_plan_39 : decode cX10_plan 39 = .ok (.iload_n 2, 1) := by decide +kernel
theorem dX10_plan_40 : decode cX10_plan 40 = .ok (.invokevirtual 284, 3) := by decide +kernel
theorem dX10_plan_43 : decode cX10_plan 43 = .ok (.aload_n 0, 1) := by decide +kernel
theorem dX10_plan_44 : decode cX10_plan 44 = .ok (.getfield 70, 3) := by decide +kernel
theorem dX10_plan_47 : decode cX10_plan 47 = .ok (.sipush 1024, 3) := by decide +kernel
theorem dX10_plan_50 : decode cX10_plan 50 = .ok (.iload_n 1, 1) := by decide +kernel
theorem dX10_plan_51 : decode cX10_plan 51 = .ok (.imul, 1) := by decide +kernel
theorem dX10_plan_52 : decode cX10_plan 52 = .ok (.iaload, 1) := by decide +kernel
theorem dX10_plan_53 : decode cX10_plan 53 = .ok (.ifCond .lt 8, 3) := by decide +kernel
theorem dX10_plan_56 : decode cX10_plan 56 = .ok (.iload_n 3, 1) := by decide +kernel
theorem dX10_plan_57 : decode cX10_plan 57 = .ok (.iconst (-1), 1) := by decide +kernel
theorem dX10_plan_58 : decode cX10_plan 58 = .ok (.if_icmp .ne 14, 3) := by decide +kernel
theorem dX10_plan_61 : decode cX10_plan 61 = .ok (.aload_n 0, 1) := by decide +kernel
theorem dX10_plan_62 : decode cX10_plan 62 = .ok (.getfield 70, 3) := by decide +kernel
theorem dX10_plan_65 : decode cX10_plan 65 = .ok (.sipush 1024, 3) := by decide +kernel
theorem dX10_plan_68 : decode cX10_plan 68 = .ok (.iload_n 1, 1) := by decide +kernel
theorem dX10_plan_69 : decode cX10_plan 69 = .ok (.imul, 1) := by decide +kernel
theorem dX10_plan_70 : decode cX10_plan 70 = .ok (.iaload, 1) := by decide +kernel
theorem dX10_plan_71 : decode cX10_plan 71 = .ok (.ireturn, 1) := by decide +kernel
theorem dX10_plan_72 : decode cX10_plan 72 = .ok (.iconst 0, 1) := by decide +kernel
theorem dX10_plan_73 : decode cX10_plan 73 = .ok (.istore 4, 2) := by decide +kernel
theorem dX10_plan_75 : decode cX10_plan 75 = .ok (.iconst 0, 1) := by decide +kernel
theorem dX10_plan_76 : decode cX10_plan 76 = .ok (.istore 5, 2) := by decide +kernel
theorem dX10_plan_78 : decode cX10_plan 78 = .ok (.iload 5, 2) := by decide +kernel
theorem dX10_plan_80 : decode cX10_plan 80 = .ok (.iload_n 1, 1) := by decide +kernel
theorem dX10_plan_81 : decode cX10_plan 81 = .ok (.if_icmp .ge 43, 3) := by decide +kernel
theorem dX10_plan_84 : decode cX10_plan 84 = .ok (.aload_n 0, 1) := by decide +kernel
theorem dX10_plan_85 : decode cX10_plan 85 = .ok (.getfield 73, 3) := by decide +kernel
theorem dX10_plan_88 : decode cX10_plan 88 = .ok (.sipush 1024, 3) := by decide +kernel
theorem dX10_plan_91 : decode cX10_plan 91 = .ok (.iload_n 1, 1) := by decide +kernel
theorem dX10_plan_92 : decode cX10_plan 92 = .ok (.iload 5, 2) := by decide +kernel
theorem dX10_plan_94 : decode cX10_plan 94 = .ok (.isub, 1) := by decide +kernel
theorem dX10_plan_95 : decode cX10_plan 95 = .ok (.imul, 1) := by decide +kernel
theorem dX10_plan_96 : decode cX10_plan 96 = .ok (.iload 4, 2) := by decide +kernel
theorem dX10_plan_98 : decode cX10_plan 98 = .ok (.iadd, 1) := by decide +kernel
theorem dX10_plan_99 : decode cX10_plan 99 = .ok (.iaload, 1) := by decide +kernel
theorem dX10_plan_100 : decode cX10_plan 100 = .ok (.istore 6, 2) := by decide +kernel
theorem dX10_plan_102 : decode cX10_plan 102 = .ok (.iload 5, 2) := by decide +kernel
theorem dX10_plan_104 : decode cX10_plan 104 = .ok (.iload_n 3, 1) := by decide +kernel
theorem dX10_plan_105 : decode cX10_plan 105 = .ok (.if_icmp .ne 6, 3) := by decide +kernel
theorem dX10_plan_108 : decode cX10_plan 108 = .ok (.iload 6, 2) := by decide +kernel
theorem dX10_plan_110 : decode cX10_plan 110 = .ok (.ireturn, 1) := by decide +kernel
theorem dX10_plan_111 : decode cX10_plan 111 = .ok (.iload 4, 2) := by decide +kernel
theorem dX10_plan_113 : decode cX10_plan 113 = .ok (.iload 6, 2) := by decide +kernel
theorem dX10_plan_115 : decode cX10_plan 115 = .ok (.ior, 1) := by decide +kernel
theorem dX10_plan_116 : decode cX10_plan 116 = .ok (.istore 4, 2) := by decide +kernel
theorem dX10_plan_118 : decode cX10_plan 118 = .ok (.iinc 5 1, 3) := by decide +kernel
theorem dX10_plan_121 : decode cX10_plan 121 = .ok (.goto (-43), 3) := by decide +kernel
theorem dX10_plan_124 : decode cX10_plan 124 = .ok (.iconst (-1), 1) := by decide +kernel
theorem dX10_plan_125 : decode cX10_plan 125 = .ok (.ireturn, 1) := by decide +kernel
theorem dX10_findAll_0 : decode cX10_findAll 0 = .ok (.aload_n 0, 1) := by decide +kernel
theorem dX10_findAll_1 : decode cX10_findAll 1 = .ok (.invokevirtual 226, 3) := by decide +kernel
theorem dX10_findAll_4 : decode cX10_findAll 4 = .ok (.iconst 0, 1) := by decide +kernel
theorem dX10_findAll_5 : decode cX10_findAll 5 = .ok (.istore_n 3, 1) := by decide +kernel
theorem dX10_findAll_6 : decode cX10_findAll 6 = .ok (.iload_n 3, 1) := by decide +kernel
theorem dX10_findAll_7 : decode cX10_findAll 7 = .ok (.sipush 13312, 3) := by decide +kernel
theorem dX10_findAll_10 : decode cX10_findAll 10 = .ok (.if_icmp .ge 16, 3) := by decide +kernel
theorem dX10_findAll_13 : decode cX10_findAll 13 = .ok (.aload_n 0, 1) := by decide +kernel
theorem dX10_findAll_14 : decode cX10_findAll 14 = .ok (.getfield 76, 3) := by decide +kernel
theorem dX10_findAll_17 : decode cX10_findAll 17 = .ok (.iload_n 3, 1) := by decide +kernel
theorem dX10_findAll_18 : decode cX10_findAll 18 = .ok (.iconst (-1), 1) := by decide +kernel
theorem dX10_findAll_19 : decode cX10_findAll 19 = .ok (.iastore, 1) := by decide +kernel
theorem dX10_findAll_20 : decode cX10_findAll 20 = .ok (.iinc 3 1, 3) := by decide +kernel
theorem dX10_findAll_23 : decode cX10_findAll 23 = .ok (.goto (-17), 3) := by decide +kernel
theorem dX10_findAll_26 : decode cX10_findAll 26 = .ok (.aload_n 0, 1) := by decide +kernel
theorem dX10_findAll_27 : decode cX10_findAll 27 = .ok (.getfield 76, 3) := by decide +kernel
theorem dX10_findAll_30 : decode cX10_findAll 30 = .ok (.iconst 0, 1) := by decide +kernel
theorem dX10_findAll_31 : decode cX10_findAll 31 = .ok (.iconst 0, 1) := by decide +kernel
theorem dX10_findAll_32 : decode cX10_findAll 32 = .ok (.iastore, 1) := by decide +kernel
theorem dX10_findAll_33 : decode cX10_findAll 33 = .ok (.iconst 0, 1) := by decide +kernel
theorem dX10_findAll_34 : decode cX10_findAll 34 = .ok (.istore_n 3, 1) := by decide +kernel
theorem dX10_findAll_35 : decode cX10_findAll 35 = .ok (.iload_n 3, 1) := by decide +kernel
theorem dX10_findAll_36 : decode cX10_findAll 36 = .ok (.iload_n 2, 1) := by decide +kernel
theorem dX10_findAll_37 : decode cX10_findAll 37 = .ok (.if_icmp .gt 164, 3) := by decide +kernel
theorem dX10_findAll_40 : decode cX10_findAll 40 = .ok (.iload_n 3, 1) := by decide +kernel
theorem dX10_findAll_41 : decode cX10_findAll 41 = .ok (.iload_n 2, 1) := by decide +kernel
theorem dX10_findAll_42 : decode cX10_findAll 42 = .ok (.iconst (-1), 1) := by decide +kernel
theorem dX10_findAll_43 : decode cX10_findAll 43 = .ok (.ixor, 1) := by decide +kernel
theorem dX10_findAll_44 : decode cX10_findAll 44 = .ok (.iand, 1) := by decide +kernel
theorem dX10_findAll_45 : decode cX10_findAll 45 = .ok (.ifCond .ne 150, 3) := by decide +kernel
theorem dX10_findAll_48 : decode cX10_findAll 48 = .ok (.iload_n 2, 1) := by decide +kernel
theorem dX10_findAll_49 : decode cX10_findAll 49 = .ok (.iload_n 3, 1) := by decide +kernel
theorem dX10_findAll_50 : decode cX10_findAll 50 = .ok (.iconst (-1), 1) := by decide +kernel
theorem dX10_findAll_51 : decode cX10_findAll 51 = .ok (.ixor, 1) := by decide +kernel
theorem dX10_findAll_52 : decode cX10_findAll 52 = .ok (.iand, 1) := by decide +kernel
theorem dX10_findAll_53 : decode cX10_findAll 53 = .ok (.istore 4, 2) := by decide +kernel
theorem dX10_findAll_55 : decode cX10_findAll 55 = .ok (.aload_n 0, 1) := by decide +kernel
theorem dX10_findAll_56 : decode cX10_findAll 56 = .ok (.aload_n 0, 1) := by decide +kernel
theorem dX10_findAll_57 : decode cX10_findAll 57 = .ok (.getfield 180, 3) := by decide +kernel
theorem dX10_findAll_60 : decode cX10_findAll 60 = .ok (.iload_n 3, 1) := by decide +kernel
theorem dX10_findAll_61 : decode cX10_findAll 61 = .ok (.ior, 1) := by decide +kernel
theorem dX10_findAll_62 : decode cX10_findAll 62 = .ok (.iload 4, 2) := by decide +kernel
theorem dX10_findAll_64 : decode cX10_findAll 64 = .ok (.invokevirtual 279, 3) := by decide +kernel
theorem dX10_findAll_67 : decode cX10_findAll 67 = .ok (.iload 4, 2) := by decide +kernel
theorem dX10_findAll_69 : decode cX10_findAll 69 = .ok (.istore 5, 2) := by decide +kernel
theorem dX10_findAll_71 : decode cX10_findAll 71 = .ok (.iload 5, 2) := by decide +kernel
theorem dX10_findAll_73 : decode cX10_findAll 73 = .ok (.ifCond .le 122, 3) := by decide +kernel
theorem dX10_findAll_76 : decode cX10_findAll 76 = .ok (.iconst 0, 1) := by decide +kernel
theorem dX10_findAll_77 : decode cX10_findAll 77 = .ok (.istore 6, 2) := by decide +kernel
theorem dX10_findAll_79 : decode cX10_findAll 79 = .ok (.iload 6, 2) := by decide +kernel
theorem dX10_findAll_81 : decode cX10_findAll 81 = .ok (.iload_n 1, 1) := by decide +kernel
theorem dX10_findAll_82 : decode cX10_findAll 82 = .ok (.if_icmp .ge 101, 3) := by decide +kernel
theorem dX10_findAll_85 : decode cX10_findAll 85 = .ok (.aload_n 0, 1) := by decide +kernel
theorem dX10_findAll_86 : decode cX10_findAll 86 = .ok (.getfield 67, 3) := by decide +kernel
theorem dX10_findAll_89 : decode cX10_findAll 89 = .ok (.iload 5, 2) := by decide +kernel
theorem dX10_findAll_91 : decode cX10_findAll 91 = .ok (.iaload, 1) := by decide +kernel
theorem dX10_findAll_92 : decode cX10_findAll 92 = .ok (.ifCond .lt 91, 3) := by decide +kernel
theorem dX10_findAll_95 : decode cX10_findAll 95 = .ok (.aload_n 0, 1) := by decide +kernel
theorem dX10_findAll_96 : decode cX10_findAll 96 = .ok (.getfield 76, 3) := by decide +kernel
theorem dX10_findAll_99 : decode cX10_findAll 99 = .ok (.sipush 1024, 3) := by decide +kernel
theorem dX10_findAll_102 : decode cX10_findAll 102 = .ok (.iload 6, 2) := by decide +kernel
theorem dX10_findAll_104 : decode cX10_findAll 104 = .ok (.imul, 1) := by decide +kernel
theorem dX10_findAll_105 : decode cX10_findAll 105 = .ok (.iload_n 3, 1) := by decide +kernel
theorem dX10_findAll_106 : decode cX10_findAll 106 = .ok (.iadd, 1) := by decide +kernel
theorem dX10_findAll_107 : decode cX10_findAll 107 = .ok (.iaload, 1) := by decide +kernel
theorem dX10_findAll_108 : decode cX10_findAll 108 = .ok (.istore 7, 2) := by decide +kernel
theorem dX10_findAll_110 : decode cX10_findAll 110 = .ok (.sipush 1024, 3) := by decide +kernel
theorem dX10_findAll_113 : decode cX10_findAll 113 = .ok (.iload 6, 2) := by decide +kernel
theorem dX10_findAll_115 : decode cX10_findAll 115 = .ok (.iconst 1, 1) := by decide +kernel
theorem dX10_findAll_116 : decode cX10_findAll 116 = .ok (.iadd, 1) := by decide +kernel
theorem dX10_findAll_117 : decode cX10_findAll 117 = .ok (.imul, 1) := by decide +kernel
theorem dX10_findAll_118 : decode cX10_findAll 118 = .ok (.iload_n 3, 1) := by decide +kernel
theorem dX10_findAll_119 : decode cX10_findAll 119 = .ok (.iload 5, 2) := by decide +kernel
theorem dX10_findAll_121 : decode cX10_findAll 121 = .ok (.ior, 1) := by decide +kernel
theorem dX10_findAll_122 : decode cX10_findAll 122 = .ok (.iadd, 1) := by decide +kernel
theorem dX10_findAll_123 : decode cX10_findAll 123 = .ok (.istore 8, 2) := by decide +kernel
theorem dX10_findAll_125 : decode cX10_findAll 125 = .ok (.aload_n 0, 1) := by decide +kernel
theorem dX10_findAll_126 : decode cX10_findAll 126 = .ok (.getfield 76, 3) := by decide +kernel
theorem dX10_findAll_129 : decode cX10_findAll 129 = .ok (.iload 8, 2) := by decide +kernel
theorem dX10_findAll_131 : decode cX10_findAll 131 = .ok (.iload 7, 2) := by decide +kernel
theorem dX10_findAll_133 : decode cX10_findAll 133 = .ok (.ifCond .lt 36, 3) := by decide +kernel
theorem dX10_findAll_136 : decode cX10_findAll 136 = .ok (.iload 7, 2) := by decide +kernel
theorem dX10_findAll_138 : decode cX10_findAll 138 = .ok (.aload_n 0, 1) := by decide +kernel
theorem dX10_findAll_139 : decode cX10_findAll 139 = .ok (.getfield 67, 3) := by decide +kernel
theorem dX10_findAll_142 : decode cX10_findAll 142 = .ok (.iload 5, 2) := by decide +kernel
theorem dX10_findAll_144 : decode cX10_findAll 144 = .ok (.iaload, 1) := by decide +kernel
theorem dX10_findAll_145 : decode cX10_findAll 145 = .ok (.iadd, 1) := by decide +kernel
theorem dX10_findAll_146 : decode cX10_findAll 146 = .ok (.aload_n 0, 1) := by decide +kernel
theorem dX10_findAll_147 : decode cX10_findAll 147 = .ok (.getfield 76, 3) := by decide +kernel
theorem dX10_findAll_150 : decode cX10_findAll 150 = .ok (.iload 8, 2) := by decide +kernel
theorem dX10_findAll_152 : decode cX10_findAll 152 = .ok (.iaload, 1) := by decide +kernel
theorem dX10_findAll_153 : decode cX10_findAll 153 = .ok (.if_icmp .le 16, 3) := by decide +kernel
theorem dX10_findAll_156 : decode cX10_findAll 156 = .ok (.iload 7, 2) := by decide +kernel
theorem dX10_findAll_158 : decode cX10_findAll 158 = .ok (.aload_n 0, 1) := by decide +kernel
theorem dX10_findAll_159 : decode cX10_findAll 159 = .ok (.getfield 67, 3) := by decide +kernel
theorem dX10_findAll_162 : decode cX10_findAll 162 = .ok (.iload 5, 2) := by decide +kernel
theorem dX10_findAll_164 : decode cX10_findAll 164 = .ok (.iaload, 1) := by decide +kernel
theorem dX10_findAll_165 : decode cX10_findAll 165 = .ok (.iadd, 1) := by decide +kernel
theorem dX10_findAll_166 : decode cX10_findAll 166 = .ok (.goto 10, 3) := by decide +kernel
theorem dX10_findAll_169 : decode cX10_findAll 169 = .ok (.aload_n 0, 1) := by decide +kernel
theorem dX10_findAll_170 : decode cX10_findAll 170 = .ok (.getfield 76, 3) := by decide +kernel
theorem dX10_findAll_173 : decode cX10_findAll 173 = .ok (.iload 8, 2) := by decide +kernel
theorem dX10_findAll_175 : decode cX10_findAll 175 = .ok (.iaload, 1) := by decide +kernel
theorem dX10_findAll_176 : decode cX10_findAll 176 = .ok (.iastore, 1) := by decide +kernel
theorem dX10_findAll_177 : decode cX10_findAll 177 = .ok (.iinc 6 1, 3) := by decide +kernel
theorem dX10_findAll_180 : decode cX10_findAll 180 = .ok (.goto (-101), 3) := by decide +kernel
theorem dX10_findAll_183 : decode cX10_findAll 183 = .ok (.iload 5, 2) := by decide +kernel
theorem dX10_findAll_185 : decode cX10_findAll 185 = .ok (.iconst 1, 1) := by decide +kernel
theorem dX10_findAll_186 : decode cX10_findAll 186 = .ok (.isub, 1) := by decide +kernel
theorem dX10_findAll_187 : decode cX10_findAll 187 = .ok (.iload 4, 2) := by decide +kernel
theorem dX10_findAll_189 : decode cX10_findAll 189 = .ok (.iand, 1) := by decide +kernel
theorem dX10_findAll_190 : decode cX10_findAll 190 = .ok (.istore 5, 2) := by decide +kernel
theorem dX10_findAll_192 : decode cX10_findAll 192 = .ok (.goto (-121), 3) := by decide +kernel
theorem dX10_findAll_195 : decode cX10_findAll 195 = .ok (.iinc 3 1, 3) := by decide +kernel
theorem dX10_findAll_198 : decode cX10_findAll 198 = .ok (.goto (-163), 3) := by decide +kernel
theorem dX10_findAll_201 : decode cX10_findAll 201 = .ok (.return_, 1) := by decide +kernel
theorem dX10_kind_0 : decode cX10_kind 0 = .ok (.iload_n 2, 1) := by decide +kernel
theorem dX10_kind_1 : decode cX10_kind 1 = .ok (.i2l, 1) := by decide +kernel
theorem dX10_kind_2 : decode cX10_kind 2 = .ok (.lconst 0, 1) := by decide +kernel
theorem dX10_kind_3 : decode cX10_kind 3 = .ok (.ldc2_w 106, 3) := by decide +kernel
theorem dX10_kind_6 : decode cX10_kind 6 = .ok (.invokestatic 99, 3) := by decide +kernel
theorem dX10_kind_9 : decode cX10_kind 9 = .ok (.ifCond .ne 7, 3) := by decide +kernel
theorem dX10_kind_12 : decode cX10_kind 12 = .ok (.sipush (-1001), 3) := by decide +kernel
theorem dX10_kind_15 : decode cX10_kind 15 = .ok (.ireturn, 1) := by decide +kernel
theorem dX10_kind_16 : decode cX10_kind 16 = .ok (.iload_n 1, 1) := by decide +kernel
theorem dX10_kind_17 : decode cX10_kind 17 = .ok (.i2l, 1) := by decide +kernel
theorem dX10_kind_18 : decode cX10_kind 18 = .ok (.lconst 1, 1) := by decide +kernel
theorem dX10_kind_19 : decode cX10_kind 19 = .ok (.ldc2_w 282, 3) := by decide +kernel
theorem dX10_kind_22 : decode cX10_kind 22 = .ok (.invokestatic 99, 3) := by decide +kernel
theorem dX10_kind_25 : decode cX10_kind 25 = .ok (.ifCond .eq 13, 3) := by decide +kernel
theorem dX10_kind_28 : decode cX10_kind 28 = .ok (.iload_n 3, 1) := by decide +kernel
theorem dX10_kind_29 : decode cX10_kind 29 = .ok (.i2l, 1) := by decide +kernel
theorem dX10_kind_30 : decode cX10_kind 30 = .ok (.lconst 0, 1) := by decide +kernel
theorem dX10_kind_31 : decode cX10_kind 31 = .ok (.lconst 1, 1) := by decide +kernel
theorem dX10_kind_32 : decode cX10_kind 32 = .ok (.invokestatic 99, 3) := by decide +kernel
theorem dX10_kind_35 : decode cX10_kind 35 = .ok (.ifCond .ne 7, 3) := by decide +kernel
theorem dX10_kind_38 : decode cX10_kind 38 = .ok (.sipush (-1002), 3) := by decide +kernel
theorem dX10_kind_41 : decode cX10_kind 41 = .ok (.ireturn, 1) := by decide +kernel
theorem dX10_kind_42 : decode cX10_kind 42 = .ok (.iconst 0, 1) := by decide +kernel
theorem dX10_kind_43 : decode cX10_kind 43 = .ok (.istore 4, 2) := by decide +kernel
theorem dX10_kind_45 : decode cX10_kind 45 = .ok (.iconst 0, 1) := by decide +kernel
theorem dX10_kind_46 : decode cX10_kind 46 = .ok (.istore 5, 2) := by decide +kernel
theorem dX10_kind_48 : decode cX10_kind 48 = .ok (.iload 5, 2) := by decide +kernel
theorem dX10_kind_50 : decode cX10_kind 50 = .ok (.aload_n 0, 1) := by decide +kernel
theorem dX10_kind_51 : decode cX10_kind 51 = .ok (.getfield 174, 3) := by decide +kernel
theorem dX10_kind_54 : decode cX10_kind 54 = .ok (.if_icmp .ge 58, 3) := by decide +kernel
theorem dX10_kind_57 : decode cX10_kind 57 = .ok (.iload 4, 2) := by decide +kernel
theorem dX10_kind_59 : decode cX10_kind 59 = .ok (.aload_n 0, 1) := by decide +kernel
theorem dX10_kind_60 : decode cX10_kind 60 = .ok (.getfield 180, 3) := by decide +kernel
theorem dX10_kind_63 : decode cX10_kind 63 = .ok (.iload 5, 2) := by decide +kernel
theorem dX10_kind_65 : decode cX10_kind 65 = .ok (.invokestatic 143, 3) := by decide +kernel
theorem dX10_kind_68 : decode cX10_kind 68 = .ok (.ifCond .ne 34, 3) := by decide +kernel
theorem dX10_kind_71 : decode cX10_kind 71 = .ok (.aload_n 0, 1) := by decide +kernel
theorem dX10_kind_72 : decode cX10_kind 72 = .ok (.getfield 13, 3) := by decide +kernel
theorem dX10_kind_75 : decode cX10_kind 75 = .ok (.iload 5, 2) := by decide +kernel
theorem dX10_kind_77 : decode cX10_kind 77 = .ok (.iaload, 1) := by decide +kernel
theorem dX10_kind_78 : decode cX10_kind 78 = .ok (.ifCond .lt 17, 3) := by decide +kernel
theorem dX10_kind_81 : decode cX10_kind 81 = .ok (.iload_n 2, 1) := by decide +kernel
theorem dX10_kind_82 : decode cX10_kind 82 = .ok (.aload_n 0, 1) := by decide +kernel
theorem dX10_kind_83 : decode cX10_kind 83 = .ok (.getfield 13, 3) := by decide +kernel
theorem dX10_kind_86 : decode cX10_kind 86 = .ok (.iload 5, 2) := by decide +kernel
theorem dX10_kind_88 : decode cX10_kind 88 = .ok (.iaload, 1) := by decide +kernel
theorem dX10_kind_89 : decode cX10_kind 89 = .ok (.invokestatic 143, 3) := by decide +kernel
theorem dX10_kind_92 : decode cX10_kind 92 = .ok (.ifCond .ne 10, 3) := by decide +kernel
theorem dX10_kind_95 : decode cX10_kind 95 = .ok (.iconst 1, 1) := by decide +kernel
theorem dX10_kind_96 : decode cX10_kind 96 = .ok (.iload 5, 2) := by decide +kernel
theorem dX10_kind_98 : decode cX10_kind 98 = .ok (.ishl, 1) := by decide +kernel
theorem dX10_kind_99 : decode cX10_kind 99 = .ok (.goto 4, 3) := by decide +kernel
theorem dX10_kind_102 : decode cX10_kind 102 = .ok (.iconst 0, 1) := by decide +kernel
theorem dX10_kind_103 : decode cX10_kind 103 = .ok (.ior, 1) := by decide +kernel
theorem dX10_kind_104 : decode cX10_kind 104 = .ok (.istore 4, 2) := by decide +kernel
theorem dX10_kind_106 : decode cX10_kind 106 = .ok (.iinc 5 1, 3) := by decide +kernel
theorem dX10_kind_109 : decode cX10_kind 109 = .ok (.goto (-61), 3) := by decide +kernel
theorem dX10_kind_112 : decode cX10_kind 112 = .ok (.aload_n 0, 1) := by decide +kernel
theorem dX10_kind_113 : decode cX10_kind 113 = .ok (.iload_n 1, 1) := by decide +kernel
theorem dX10_kind_114 : decode cX10_kind 114 = .ok (.iload 4, 2) := by decide +kernel
theorem dX10_kind_116 : decode cX10_kind 116 = .ok (.invokevirtual 287, 3) := by decide +kernel
theorem dX10_kind_119 : decode cX10_kind 119 = .ok (.iconst (-1), 1) := by decide +kernel
theorem dX10_kind_120 : decode cX10_kind 120 = .ok (.istore 5, 2) := by decide +kernel
theorem dX10_kind_122 : decode cX10_kind 122 = .ok (.iconst (-1), 1) := by decide +kernel
theorem dX10_kind_123 : decode cX10_kind 123 = .ok (.istore 6, 2) := by decide +kernel
theorem dX10_kind_125 : decode cX10_kind 125 = .ok (.iconst 0, 1) := by decide +kernel
theorem dX10_kind_126 : decode cX10_kind 126 = .ok (.istore 7, 2) := by decide +kernel
theorem dX10_kind_128 : decode cX10_kind 128 = .ok (.iload 7, 2) := by decide +kernel
theorem dX10_kind_130 : decode cX10_kind 130 = .ok (.aload_n 0, 1) := by decide +kernel
theorem dX10_kind_131 : decode cX10_kind 131 = .ok (.invokevirtual 192, 3) := by decide +kernel
theorem dX10_kind_134 : decode cX10_kind 134 = .ok (.if_icmp .gt 87, 3) := by decide +kernel
theorem dX10_kind_137 : decode cX10_kind 137 = .ok (.aload_n 0, 1) := by decide +kernel
theorem dX10_kind_138 : decode cX10_kind 138 = .ok (.getfield 76, 3) := by decide +kernel
theorem dX10_kind_141 : decode cX10_kind 141 = .ok (.sipush 1024, 3) := by decide +kernel
theorem dX10_kind_144 : decode cX10_kind 144 = .ok (.iload_n 1, 1) := by decide +kernel
theorem dX10_kind_145 : decode cX10_kind 145 = .ok (.imul, 1) := by decide +kernel
theorem dX10_kind_146 : decode cX10_kind 146 = .ok (.iload 7, 2) := by decide +kernel
theorem dX10_kind_148 : decode cX10_kind 148 = .ok (.iadd, 1) := by decide +kernel
theorem dX10_kind_149 : decode cX10_kind 149 = .ok (.iaload, 1) := by decide +kernel
theorem dX10_kind_150 : decode cX10_kind 150 = .ok (.istore 8, 2) := by decide +kernel
theorem dX10_kind_152 : decode cX10_kind 152 = .ok (.iload 5, 2) := by decide +kernel
theorem dX10_kind_154 : decode cX10_kind 154 = .ok (.ifCond .lt 36, 3) := by decide +kernel
theorem dX10_kind_157 : decode cX10_kind 157 = .ok (.iload 7, 2) := by decide +kernel
theorem dX10_kind_159 : decode cX10_kind 159 = .ok (.invokestatic 208, 3) := by decide +kernel
theorem dX10_kind_162 : decode cX10_kind 162 = .ok (.iload 5, 2) := by decide +kernel
theorem dX10_kind_164 : decode cX10_kind 164 = .ok (.invokestatic 208, 3) := by decide +kernel
theorem dX10_kind_167 : decode cX10_kind 167 = .ok (.if_icmp .gt 23, 3) := by decide +kernel
theorem dX10_kind_170 : decode cX10_kind 170 = .ok (.iload 7, 2) := by decide +kernel
theorem dX10_kind_172 : decode cX10_kind 172 = .ok (.invokestatic 208, 3) := by decide +kernel
theorem dX10_kind_175 : decode cX10_kind 175 = .ok (.iload 5, 2) := by decide +kernel
theorem dX10_kind_177 : decode cX10_kind 177 = .ok (.invokestatic 208, 3) := by decide +kernel
theorem dX10_kind_180 : decode cX10_kind 180 = .ok (.if_icmp .ne 14, 3) := by decide +kernel
theorem dX10_kind_183 : decode cX10_kind 183 = .ok (.iload 8, 2) := by decide +kernel
theorem dX10_kind_185 : decode cX10_kind 185 = .ok (.iload 6, 2) := by decide +kernel
theorem dX10_kind_187 : decode cX10_kind 187 = .ok (.if_icmp .le 7, 3) := by decide +kernel
theorem dX10_kind_190 : decode cX10_kind 190 = .ok (.iconst 1, 1) := by decide +kernel
theorem dX10_kind_191 : decode cX10_kind 191 = .ok (.goto 4, 3) := by decide +kernel
theorem dX10_kind_194 : decode cX10_kind 194 = .ok (.iconst 0, 1) := by decide +kernel
theorem dX10_kind_195 : decode cX10_kind 195 = .ok (.istore 9, 2) := by decide +kernel
theorem dX10_kind_197 : decode cX10_kind 197 = .ok (.iload 8, 2) := by decide +kernel
theorem dX10_kind_199 : decode cX10_kind 199 = .ok (.ifCond .lt 16, 3) := by decide +kernel
theorem dX10_kind_202 : decode cX10_kind 202 = .ok (.iload 9, 2) := by decide +kernel
theorem dX10_kind_204 : decode cX10_kind 204 = .ok (.ifCond .eq 11, 3) := by decide +kernel
theorem dX10_kind_207 : decode cX10_kind 207 = .ok (.iload 7, 2) := by decide +kernel
theorem dX10_kind_209 : decode cX10_kind 209 = .ok (.istore 5, 2) := by decide +kernel
theorem dX10_kind_211 : decode cX10_kind 211 = .ok (.iload 8, 2) := by decide +kernel
theorem dX10_kind_213 : decode cX10_kind 213 = .ok (.istore 6, 2) := by decide +kernel
theorem dX10_kind_215 : decode cX10_kind 215 = .ok (.iinc 7 1, 3) := by decide +kernel
theorem dX10_kind_218 : decode cX10_kind 218 = .ok (.goto (-90), 3) := by decide +kernel
theorem dX10_kind_221 : decode cX10_kind 221 = .ok (.iload_n 3, 1) := by decide +kernel
theorem dX10_kind_222 : decode cX10_kind 222 = .ok (.ifCond .ne 8, 3) := by decide +kernel
theorem dX10_kind_225 : decode cX10_kind 225 = .ok (.iload 5, 2) := by decide +kernel
theorem dX10_kind_227 : decode cX10_kind 227 = .ok (.goto 5, 3) := by decide +kernel
theorem dX10_kind_230 : decode cX10_kind 230 = .ok (.iload 6, 2) := by decide +kernel
theorem dX10_kind_232 : decode cX10_kind 232 = .ok (.ireturn, 1) := by decide +kernel
theorem dX10_chapter_0 : decode cX10_chapter 0 = .ok (.iload_n 1, 1) := by decide +kernel
theorem dX10_chapter_1 : decode cX10_chapter 1 = .ok (.i2l, 1) := by decide +kernel
theorem dX10_chapter_2 : decode cX10_chapter 2 = .ok (.lconst 1, 1) := by decide +kernel
theorem dX10_chapter_3 : decode cX10_chapter 3 = .ok (.ldc2_w 97, 3) := by decide +kernel
theorem dX10_chapter_6 : decode cX10_chapter 6 = .ok (.invokestatic 99, 3) := by decide +kernel
theorem dX10_chapter_9 : decode cX10_chapter 9 = .ok (.ifCond .ne 7, 3) := by decide +kernel
theorem dX10_chapter_12 : decode cX10_chapter 12 = .ok (.sipush (-1002), 3) := by decide +kernel
theorem dX10_chapter_15 : decode cX10_chapter 15 = .ok (.ireturn, 1) := by decide +kernel
theorem dX10_chapter_16 : decode cX10_chapter 16 = .ok (.iconst 0, 1) := by decide +kernel
theorem dX10_chapter_17 : decode cX10_chapter 17 = .ok (.istore_n 3, 1) := by decide +kernel
theorem dX10_chapter_18 : decode cX10_chapter 18 = .ok (.iconst 0, 1) := by decide +kernel
theorem dX10_chapter_19 : decode cX10_chapter 19 = .ok (.istore 4, 2) := by decide +kernel
theorem dX10_chapter_21 : decode cX10_chapter 21 = .ok (.iload 4, 2) := by decide +kernel
theorem dX10_chapter_23 : decode cX10_chapter 23 = .ok (.aload_n 0, 1) := by decide +kernel
theorem dX10_chapter_24 : decode cX10_chapter 24 = .ok (.getfield 177, 3) := by decide +kernel
theorem dX10_chapter_27 : decode cX10_chapter 27 = .ok (.if_icmp .ge 52, 3) := by decide +kernel
theorem dX10_chapter_30 : decode cX10_chapter 30 = .ok (.iconst 0, 1) := by decide +kernel
theorem dX10_chapter_31 : decode cX10_chapter 31 = .ok (.istore 5, 2) := by decide +kernel
theorem dX10_chapter_33 : decode cX10_chapter 33 = .ok (.iload 5, 2) := by decide +kernel
theorem dX10_chapter_35 : decode cX10_chapter 35 = .ok (.aload_n 0, 1) := by decide +kernel
theorem dX10_chapter_36 : decode cX10_chapter 36 = .ok (.getfield 55, 3) := by decide +kernel
theorem dX10_chapter_39 : decode cX10_chapter 39 = .ok (.iload 4, 2) := by decide +kernel
theorem dX10_chapter_41 : decode cX10_chapter 41 = .ok (.iaload, 1) := by decide +kernel
theorem dX10_chapter_42 : decode cX10_chapter 42 = .ok (.if_icmp .ge 31, 3) := by decide +kernel
theorem dX10_chapter_45 : decode cX10_chapter 45 = .ok (.aload_n 0, 1) := by decide +kernel
theorem dX10_chapter_46 : decode cX10_chapter 46 = .ok (.getfield 79, 3) := by decide +kernel
theorem dX10_chapter_49 : decode cX10_chapter 49 = .ok (.iload_n 3, 1) := by decide +kernel
theorem dX10_chapter_50 : decode cX10_chapter 50 = .ok (.aload_n 0, 1) := by decide +kernel
theorem dX10_chapter_51 : decode cX10_chapter 51 = .ok (.getfield 58, 3) := by decide +kernel
theorem dX10_chapter_54 : decode cX10_chapter 54 = .ok (.bipush 6, 2) := by decide +kernel
theorem dX10_chapter_56 : decode cX10_chapter 56 = .ok (.iload 4, 2) := by decide +kernel
theorem dX10_chapter_58 : decode cX10_chapter 58 = .ok (.imul, 1) := by decide +kernel
theorem dX10_chapter_59 : decode cX10_chapter 59 = .ok (.iload 5, 2) := by decide +kernel
theorem dX10_chapter_61 : decode cX10_chapter 61 = .ok (.iadd, 1) := by decide +kernel
theorem dX10_chapter_62 : decode cX10_chapter 62 = .ok (.iaload, 1) := by decide +kernel
theorem dX10_chapter_63 : decode cX10_chapter 63 = .ok (.iastore, 1) := by decide +kernel
theorem dX10_chapter_64 : decode cX10_chapter 64 = .ok (.iinc 3 1, 3) := by decide +kernel
theorem dX10_chapter_67 : decode cX10_chapter 67 = .ok (.iinc 5 1, 3) := by decide +kernel
theorem dX10_chapter_70 : decode cX10_chapter 70 = .ok (.goto (-37), 3) := by decide +kernel
theorem dX10_chapter_73 : decode cX10_chapter 73 = .ok (.iinc 4 1, 3) := by decide +kernel
theorem dX10_chapter_76 : decode cX10_chapter 76 = .ok (.goto (-55), 3) := by decide +kernel
theorem dX10_chapter_79 : decode cX10_chapter 79 = .ok (.iload_n 3, 1) := by decide +kernel
theorem dX10_chapter_80 : decode cX10_chapter 80 = .ok (.iload_n 1, 1) := by decide +kernel
theorem dX10_chapter_81 : decode cX10_chapter 81 = .ok (.if_icmp .ge 7, 3) := by decide +kernel
theorem dX10_chapter_84 : decode cX10_chapter 84 = .ok (.sipush (-1003), 3) := by decide +kernel
theorem dX10_chapter_87 : decode cX10_chapter 87 = .ok (.ireturn, 1) := by decide +kernel
theorem dX10_chapter_88 : decode cX10_chapter 88 = .ok (.iload_n 2, 1) := by decide +kernel
theorem dX10_chapter_89 : decode cX10_chapter 89 = .ok (.i2l, 1) := by decide +kernel
theorem dX10_chapter_90 : decode cX10_chapter 90 = .ok (.ldc2_w 290, 3) := by decide +kernel
theorem dX10_chapter_93 : decode cX10_chapter 93 = .ok (.iload_n 1, 1) := by decide +kernel
theorem dX10_chapter_94 : decode cX10_chapter 94 = .ok (.iconst 1, 1) := by decide +kernel
theorem dX10_chapter_95 : decode cX10_chapter 95 = .ok (.isub, 1) := by decide +kernel
theorem dX10_chapter_96 : decode cX10_chapter 96 = .ok (.i2l, 1) := by decide +kernel
theorem dX10_chapter_97 : decode cX10_chapter 97 = .ok (.invokestatic 99, 3) := by decide +kernel
theorem dX10_chapter_100 : decode cX10_chapter 100 = .ok (.ifCond .ne 7, 3) := by decide +kernel
theorem dX10_chapter_103 : decode cX10_chapter 103 = .ok (.sipush (-1001), 3) := by decide +kernel
theorem dX10_chapter_106 : decode cX10_chapter 106 = .ok (.ireturn, 1) := by decide +kernel
theorem dX10_chapter_107 : decode cX10_chapter 107 = .ok (.iconst 0, 1) := by decide +kernel
theorem dX10_chapter_108 : decode cX10_chapter 108 = .ok (.istore 4, 2) := by decide +kernel
theorem dX10_chapter_110 : decode cX10_chapter 110 = .ok (.iload 4, 2) := by decide +kernel
theorem dX10_chapter_112 : decode cX10_chapter 112 = .ok (.iload_n 1, 1) := by decide +kernel
theorem dX10_chapter_113 : decode cX10_chapter 113 = .ok (.if_icmp .gt 167, 3) := by decide +kernel
theorem dX10_chapter_116 : decode cX10_chapter 116 = .ok (.iconst 0, 1) := by decide +kernel
theorem dX10_chapter_117 : decode cX10_chapter 117 = .ok (.istore 5, 2) := by decide +kernel
theorem dX10_chapter_119 : decode cX10_chapter 119 = .ok (.iload 5, 2) := by decide +kernel
theorem dX10_chapter_121 : decode cX10_chapter 121 = .ok (.iload_n 3, 1) := by decide +kernel
theorem dX10_chapter_122 : decode cX10_chapter 122 = .ok (.if_icmp .gt 152, 3) := by decide +kernel
theorem dX10_chapter_125 : decode cX10_chapter 125 = .ok (.bipush 11, 2) := by decide +kernel
theorem dX10_chapter_127 : decode cX10_chapter 127 = .ok (.iload 4, 2) := by decide +kernel
theorem dX10_chapter_129 : decode cX10_chapter 129 = .ok (.imul, 1) := by decide +kernel
theorem dX10_chapter_130 : decode cX10_chapter 130 = .ok (.iload 5, 2) := by decide +kernel
theorem dX10_chapter_132 : decode cX10_chapter 132 = .ok (.iadd, 1) := by decide +kernel
theorem dX10_chapter_133 : decode cX10_chapter 133 = .ok (.istore 6, 2) := by decide +kernel
theorem dX10_chapter_135 : decode cX10_chapter 135 = .ok (.aload_n 0, 1) := by decide +kernel
theorem dX10_chapter_136 : decode cX10_chapter 136 = .ok (.getfield 82, 3) := by decide +kernel
theorem dX10_chapter_139 : decode cX10_chapter 139 = .ok (.iload 6, 2) := by decide +kernel
theorem dX10_chapter_141 : decode cX10_chapter 141 = .ok (.iload 4, 2) := by decide +kernel
theorem dX10_chapter_143 : decode cX10_chapter 143 = .ok (.ifCond .ne 13, 3) := by decide +kernel
theorem dX10_chapter_146 : decode cX10_chapter 146 = .ok (.iload 5, 2) := by decide +kernel
theorem dX10_chapter_148 : decode cX10_chapter 148 = .ok (.iload_n 3, 1) := by decide +kernel
theorem dX10_chapter_149 : decode cX10_chapter 149 = .ok (.if_icmp .ne 7, 3) := by decide +kernel
theorem dX10_chapter_152 : decode cX10_chapter 152 = .ok (.iconst 0, 1) := by decide +kernel
theorem dX10_chapter_153 : decode cX10_chapter 153 = .ok (.goto 5, 3) := by decide +kernel
theorem dX10_chapter_156 : decode cX10_chapter 156 = .ok (.ldc 240, 2) := by decide +kernel
theorem dX10_chapter_158 : decode cX10_chapter 158 = .ok (.iastore, 1) := by decide +kernel
theorem dX10_chapter_159 : decode cX10_chapter 159 = .ok (.aload_n 0, 1) := by decide +kernel
theorem dX10_chapter_160 : decode cX10_chapter 160 = .ok (.getfield 85, 3) := by decide +kernel
theorem dX10_chapter_163 : decode cX10_chapter 163 = .ok (.iload 6, 2) := by decide +kernel
theorem dX10_chapter_165 : decode cX10_chapter 165 = .ok (.iconst 0, 1) := by decide +kernel
theorem dX10_chapter_166 : decode cX10_chapter 166 = .ok (.iastore, 1) := by decide +kernel
theorem dX10_chapter_167 : decode cX10_chapter 167 = .ok (.iconst 0, 1) := by decide +kernel
theorem dX10_chapter_168 : decode cX10_chapter 168 = .ok (.istore 7, 2) := by decide +kernel
theorem dX10_chapter_170 : decode cX10_chapter 170 = .ok (.iload 5, 2) := by decide +kernel
theorem dX10_chapter_172 : decode cX10_chapter 172 = .ok (.istore 8, 2) := by decide +kernel
theorem dX10_chapter_174 : decode cX10_chapter 174 = .ok (.iload 8, 2) := by decide +kernel
theorem dX10_chapter_176 : decode cX10_chapter 176 = .ok (.iload_n 3, 1) := by decide +kernel
theorem dX10_chapter_177 : decode cX10_chapter 177 = .ok (.if_icmp .ge 91, 3) := by decide +kernel
theorem dX10_chapter_180 : decode cX10_chapter 180 = .ok (.iload 4, 2) := by decide +kernel
theorem dX10_chapter_182 : decode cX10_chapter 182 = .ok (.ifCond .le 86, 3) := by decide +kernel
theorem dX10_chapter_185 : decode cX10_chapter 185 = .ok (.iload 7, 2) := by decide +kernel
theorem dX10_chapter_187 : decode cX10_chapter 187 = .ok (.aload_n 0, 1) := by decide +kernel
theorem dX10_chapter_188 : decode cX10_chapter 188 = .ok (.getfield 7, 3) := by decide +kernel
theorem dX10_chapter_191 : decode cX10_chapter 191 = .ok (.aload_n 0, 1) := by decide +kernel
theorem dX10_chapter_192 : decode cX10_chapter 192 = .ok (.getfield 79, 3) := by decide +kernel
theorem dX10_chapter_195 : decode cX10_chapter 195 = .ok (.iload 8, 2) := by decide +kernel
theorem dX10_chapter_197 : decode cX10_chapter 197 = .ok (.iaload, 1) := by decide +kernel
theorem dX10_chapter_198 : decode cX10_chapter 198 = .ok (.iaload, 1) := by decide +kernel
theorem dX10_chapter_199 : decode cX10_chapter 199 = .ok (.iadd, 1) := by decide +kernel
theorem dX10_chapter_200 : decode cX10_chapter 200 = .ok (.istore 7, 2) := by decide +kernel
theorem dX10_chapter_202 : decode cX10_chapter 202 = .ok (.iload 7, 2) := by decide +kernel
theorem dX10_chapter_204 : decode cX10_chapter 204 = .ok (.iload 7, 2) := by decide +kernel
theorem dX10_chapter_206 : decode cX10_chapter 206 = .ok (.imul, 1) := by decide +kernel
theorem dX10_chapter_207 : decode cX10_chapter 207 = .ok (.aload_n 0, 1) := by decide +kernel
theorem dX10_chapter_208 : decode cX10_chapter 208 = .ok (.getfield 82, 3) := by decide +kernel
theorem dX10_chapter_211 : decode cX10_chapter 211 = .ok (.bipush 11, 2) := by decide +kernel
theorem dX10_chapter_213 : decode cX10_chapter 213 = .ok (.iload 4, 2) := by decide +kernel
theorem dX10_chapter_215 : decode cX10_chapter 215 = .ok (.iconst 1, 1) := by decide +kernel
theorem dX10_chapter_216 : decode cX10_chapter 216 = .ok (.isub, 1) := by decide +kernel
theorem dX10_chapter_217 : decode cX10_chapter 217 = .ok (.imul, 1) := by decide +kernel
theorem dX10_chapter_218 : decode cX10_chapter 218 = .ok (.iload 8, 2) := by decide +kernel
theorem dX10_chapter_220 : decode cX10_chapter 220 = .ok (.iadd, 1) := by decide +kernel
theorem dX10_chapter_221 : decode cX10_chapter 221 = .ok (.iconst 1, 1) := by decide +kernel
theorem dX10_chapter_222 : decode cX10_chapter 222 = .ok (.iadd, 1) := by decide +kernel
theorem dX10_chapter_223 : decode cX10_chapter 223 = .ok (.iaload, 1) := by decide +kernel
theorem dX10_chapter_224 : decode cX10_chapter 224 = .ok (.iadd, 1) := by decide +kernel
theorem dX10_chapter_225 : decode cX10_chapter 225 = .ok (.istore 9, 2) := by decide +kernel
theorem dX10_chapter_227 : decode cX10_chapter 227 = .ok (.iload 9, 2) := by decide +kernel
theorem dX10_chapter_229 : decode cX10_chapter 229 = .ok (.aload_n 0, 1) := by decide +kernel
theorem dX10_chapter_230 : decode cX10_chapter 230 = .ok (.getfield 82, 3) := by decide +kernel
theorem dX10_chapter_233 : decode cX10_chapter 233 = .ok (.iload 6, 2) := by decide +kernel
theorem dX10_chapter_235 : decode cX10_chapter 235 = .ok (.iaload, 1) := by decide +kernel
theorem dX10_chapter_236 : decode cX10_chapter 236 = .ok (.if_icmp .ge 26, 3) := by decide +kernel
theorem dX10_chapter_239 : decode cX10_chapter 239 = .ok (.aload_n 0, 1) := by decide +kernel
theorem dX10_chapter_240 : decode cX10_chapter 240 = .ok (.getfield 82, 3) := by decide +kernel
theorem dX10_chapter_243 : decode cX10_chapter 243 = .ok (.iload 6, 2) := by decide +kernel
theorem dX10_chapter_245 : decode cX10_chapter 245 = .ok (.iload 9, 2) := by decide +kernel
theorem dX10_chapter_247 : decode cX10_chapter 247 = .ok (.iastore, 1) := by decide +kernel
theorem dX10_chapter_248 : decode cX10_chapter 248 = .ok (.aload_n 0, 1) := by decide +kernel
theorem dX10_chapter_249 : decode cX10_chapter 249 = .ok (.getfield 85, 3) := by decide +kernel
theorem dX10_chapter_252 : decode cX10_chapter 252 = .ok (.iload 6, 2) := by decide +kernel
theorem dX10_chapter_254 : decode cX10_chapter 254 = .ok (.iload 8, 2) := by decide +kernel
theorem dX10_chapter_256 : decode cX10_chapter 256 = .ok (.iconst 1, 1) := by decide +kernel
theorem dX10_chapter_257 : decode cX10_chapter 257 = .ok (.iadd, 1) := by decide +kernel
theorem dX10_chapter_258 : decode cX10_chapter 258 = .ok (.iload 5, 2) := by decide +kernel
theorem dX10_chapter_260 : decode cX10_chapter 260 = .ok (.isub, 1) := by decide +kernel
theorem dX10_chapter_261 : decode cX10_chapter 261 = .ok (.iastore, 1) := by decide +kernel
theorem dX10_chapter_262 : decode cX10_chapter 262 = .ok (.iinc 8 1, 3) := by decide +kernel
theorem dX10_chapter_265 : decode cX10_chapter 265 = .ok (.goto (-91), 3) := by decide +kernel
theorem dX10_chapter_268 : decode cX10_chapter 268 = .ok (.iinc 5 1, 3) := by decide +kernel
theorem dX10_chapter_271 : decode cX10_chapter 271 = .ok (.goto (-152), 3) := by decide +kernel
theorem dX10_chapter_274 : decode cX10_chapter 274 = .ok (.iinc 4 1, 3) := by decide +kernel
theorem dX10_chapter_277 : decode cX10_chapter 277 = .ok (.goto (-167), 3) := by decide +kernel
theorem dX10_chapter_280 : decode cX10_chapter 280 = .ok (.iload_n 2, 1) := by decide +kernel
theorem dX10_chapter_281 : decode cX10_chapter 281 = .ok (.iconst (-1), 1) := by decide +kernel
theorem dX10_chapter_282 : decode cX10_chapter 282 = .ok (.if_icmp .ne 13, 3) := by decide +kernel
theorem dX10_chapter_285 : decode cX10_chapter 285 = .ok (.aload_n 0, 1) := by decide +kernel
theorem dX10_chapter_286 : decode cX10_chapter 286 = .ok (.getfield 82, 3) := by decide +kernel
theorem dX10_chapter_289 : decode cX10_chapter 289 = .ok (.bipush 11, 2) := by decide +kernel
theorem dX10_chapter_291 : decode cX10_chapter 291 = .ok (.iload_n 1, 1) := by decide +kernel
theorem dX10_chapter_292 : decode cX10_chapter 292 = .ok (.imul, 1) := by decide +kernel
theorem dX10_chapter_293 : decode cX10_chapter 293 = .ok (.iaload, 1) := by decide +kernel
theorem dX10_chapter_294 : decode cX10_chapter 294 = .ok (.ireturn, 1) := by decide +kernel
theorem dX10_chapter_295 : decode cX10_chapter 295 = .ok (.iconst 0, 1) := by decide +kernel
theorem dX10_chapter_296 : decode cX10_chapter 296 = .ok (.istore 4, 2) := by decide +kernel
theorem dX10_chapter_298 : decode cX10_chapter 298 = .ok (.iconst 0, 1) := by decide +kernel
theorem dX10_chapter_299 : decode cX10_chapter 299 = .ok (.istore 5, 2) := by decide +kernel
theorem dX10_chapter_301 : decode cX10_chapter 301 = .ok (.iload 5, 2) := by decide +kernel
theorem dX10_chapter_303 : decode cX10_chapter 303 = .ok (.iload_n 2, 1) := by decide +kernel
theorem dX10_chapter_304 : decode cX10_chapter 304 = .ok (.if_icmp .ge 29, 3) := by decide +kernel
theorem dX10_chapter_307 : decode cX10_chapter 307 = .ok (.iload 4, 2) := by decide +kernel
theorem dX10_chapter_309 : decode cX10_chapter 309 = .ok (.aload_n 0, 1) := by decide +kernel
theorem dX10_chapter_310 : decode cX10_chapter 310 = .ok (.getfield 85, 3) := by decide +kernel
theorem dX10_chapter_313 : decode cX10_chapter 313 = .ok (.bipush 11, 2) := by decide +kernel
theorem dX10_chapter_315 : decode cX10_chapter 315 = .ok (.iload_n 1, 1) := by decide +kernel
theorem dX10_chapter_316 : decode cX10_chapter 316 = .ok (.iload 5, 2) := by decide +kernel
theorem dX10_chapter_318 : decode cX10_chapter 318 = .ok (.isub, 1) := by decide +kernel
theorem dX10_chapter_319 : decode cX10_chapter 319 = .ok (.imul, 1) := by decide +kernel
theorem dX10_chapter_320 : decode cX10_chapter 320 = .ok (.iload 4, 2) := by decide +kernel
theorem dX10_chapter_322 : decode cX10_chapter 322 = .ok (.iadd, 1) := by decide +kernel
theorem dX10_chapter_323 : decode cX10_chapter 323 = .ok (.iaload, 1) := by decide +kernel
theorem dX10_chapter_324 : decode cX10_chapter 324 = .ok (.iadd, 1) := by decide +kernel
theorem dX10_chapter_325 : decode cX10_chapter 325 = .ok (.istore 4, 2) := by decide +kernel
theorem dX10_chapter_327 : decode cX10_chapter 327 = .ok (.iinc 5 1, 3) := by decide +kernel
theorem dX10_chapter_330 : decode cX10_chapter 330 = .ok (.goto (-29), 3) := by decide +kernel
theorem dX10_chapter_333 : decode cX10_chapter 333 = .ok (.aload_n 0, 1) := by decide +kernel
theorem dX10_chapter_334 : decode cX10_chapter 334 = .ok (.getfield 85, 3) := by decide +kernel
theorem dX10_chapter_337 : decode cX10_chapter 337 = .ok (.bipush 11, 2) := by decide +kernel
theorem dX10_chapter_339 : decode cX10_chapter 339 = .ok (.iload_n 1, 1) := by decide +kernel
theorem dX10_chapter_340 : decode cX10_chapter 340 = .ok (.iload_n 2, 1) := by decide +kernel
theorem dX10_chapter_341 : decode cX10_chapter 341 = .ok (.isub, 1) := by decide +kernel
theorem dX10_chapter_342 : decode cX10_chapter 342 = .ok (.imul, 1) := by decide +kernel
theorem dX10_chapter_343 : decode cX10_chapter 343 = .ok (.iload 4, 2) := by decide +kernel
theorem dX10_chapter_345 : decode cX10_chapter 345 = .ok (.iadd, 1) := by decide +kernel
theorem dX10_chapter_346 : decode cX10_chapter 346 = .ok (.iaload, 1) := by decide +kernel
theorem dX10_chapter_347 : decode cX10_chapter 347 = .ok (.ireturn, 1) := by decide +kernel
theorem dX10_keep_0 : decode cX10_keep 0 = .ok (.iload_n 1, 1) := by decide +kernel
theorem dX10_keep_1 : decode cX10_keep 1 = .ok (.i2l, 1) := by decide +kernel
theorem dX10_keep_2 : decode cX10_keep 2 = .ok (.lconst 0, 1) := by decide +kernel
theorem dX10_keep_3 : decode cX10_keep 3 = .ok (.lconst 1, 1) := by decide +kernel
theorem dX10_keep_4 : decode cX10_keep 4 = .ok (.invokestatic 99, 3) := by decide +kernel
theorem dX10_keep_7 : decode cX10_keep 7 = .ok (.ifCond .ne 7, 3) := by decide +kernel
theorem dX10_keep_10 : decode cX10_keep 10 = .ok (.sipush (-1001), 3) := by decide +kernel
theorem dX10_keep_13 : decode cX10_keep 13 = .ok (.ireturn, 1) := by decide +kernel
theorem dX10_keep_14 : decode cX10_keep 14 = .ok (.bipush 110, 2) := by decide +kernel
theorem dX10_keep_16 : decode cX10_keep 16 = .ok (.iload_n 1, 1) := by decide +kernel
theorem dX10_keep_17 : decode cX10_keep 17 = .ok (.imul, 1) := by decide +kernel
theorem dX10_keep_18 : decode cX10_keep 18 = .ok (.istore_n 2, 1) := by decide +kernel
theorem dX10_keep_19 : decode cX10_keep 19 = .ok (.aload_n 0, 1) := by decide +kernel
theorem dX10_keep_20 : decode cX10_keep 20 = .ok (.getfield 88, 3) := by decide +kernel
theorem dX10_keep_23 : decode cX10_keep 23 = .ok (.iload_n 2, 1) := by decide +kernel
theorem dX10_keep_24 : decode cX10_keep 24 = .ok (.aload_n 0, 1) := by decide +kernel
theorem dX10_keep_25 : decode cX10_keep 25 = .ok (.getfield 177, 3) := by decide +kernel
theorem dX10_keep_28 : decode cX10_keep 28 = .ok (.iastore, 1) := by decide +kernel
theorem dX10_keep_29 : decode cX10_keep 29 = .ok (.aload_n 0, 1) := by decide +kernel
theorem dX10_keep_30 : decode cX10_keep 30 = .ok (.getfield 88, 3) := by decide +kernel
theorem dX10_keep_33 : decode cX10_keep 33 = .ok (.iload_n 2, 1) := by decide +kernel
theorem dX10_keep_34 : decode cX10_keep 34 = .ok (.iconst 1, 1) := by decide +kernel
theorem dX10_keep_35 : decode cX10_keep 35 = .ok (.iadd, 1) := by decide +kernel
theorem dX10_keep_36 : decode cX10_keep 36 = .ok (.aload_n 0, 1) := by decide +kernel
theorem dX10_keep_37 : decode cX10_keep 37 = .ok (.getfield 180, 3) := by decide +kernel
theorem dX10_keep_40 : decode cX10_keep 40 = .ok (.iastore, 1) := by decide +kernel
theorem dX10_keep_41 : decode cX10_keep 41 = .ok (.aload_n 0, 1) := by decide +kernel
theorem dX10_keep_42 : decode cX10_keep 42 = .ok (.getfield 88, 3) := by decide +kernel
theorem dX10_keep_45 : decode cX10_keep 45 = .ok (.iload_n 2, 1) := by decide +kernel
theorem dX10_keep_46 : decode cX10_keep 46 = .ok (.iconst 2, 1) := by decide +kernel
theorem dX10_keep_47 : decode cX10_keep 47 = .ok (.iadd, 1) := by decide +kernel
theorem dX10_keep_48 : decode cX10_keep 48 = .ok (.aload_n 0, 1) := by decide +kernel
theorem dX10_keep_49 : decode cX10_keep 49 = .ok (.getfield 183, 3) := by decide +kernel
theorem dX10_keep_52 : decode cX10_keep 52 = .ok (.iastore, 1) := by decide +kernel
theorem dX10_keep_53 : decode cX10_keep 53 = .ok (.aload_n 0, 1) := by decide +kernel
theorem dX10_keep_54 : decode cX10_keep 54 = .ok (.getfield 88, 3) := by decide +kernel
theorem dX10_keep_57 : decode cX10_keep 57 = .ok (.iload_n 2, 1) := by decide +kernel
theorem dX10_keep_58 : decode cX10_keep 58 = .ok (.iconst 3, 1) := by decide +kernel
theorem dX10_keep_59 : decode cX10_keep 59 = .ok (.iadd, 1) := by decide +kernel
theorem dX10_keep_60 : decode cX10_keep 60 = .ok (.aload_n 0, 1) := by decide +kernel
theorem dX10_keep_61 : decode cX10_keep 61 = .ok (.getfield 186, 3) := by decide +kernel
theorem dX10_keep_64 : decode cX10_keep 64 = .ok (.iastore, 1) := by decide +kernel
theorem dX10_keep_65 : decode cX10_keep 65 = .ok (.iconst 0, 1) := by decide +kernel
theorem dX10_keep_66 : decode cX10_keep 66 = .ok (.istore_n 3, 1) := by decide +kernel
theorem dX10_keep_67 : decode cX10_keep 67 = .ok (.iload_n 3, 1) := by decide +kernel
theorem dX10_keep_68 : decode cX10_keep 68 = .ok (.bipush 12, 2) := by decide +kernel
theorem dX10_keep_70 : decode cX10_keep 70 = .ok (.if_icmp .ge 25, 3) := by decide +kernel
theorem dX10_keep_73 : decode cX10_keep 73 = .ok (.aload_n 0, 1) := by decide +kernel
theorem dX10_keep_74 : decode cX10_keep 74 = .ok (.getfield 88, 3) := by decide +kernel
theorem dX10_keep_77 : decode cX10_keep 77 = .ok (.iload_n 2, 1) := by decide +kernel
theorem dX10_keep_78 : decode cX10_keep 78 = .ok (.iconst 4, 1) := by decide +kernel
theorem dX10_keep_79 : decode cX10_keep 79 = .ok (.iadd, 1) := by decide +kernel
theorem dX10_keep_80 : decode cX10_keep 80 = .ok (.iload_n 3, 1) := by decide +kernel
theorem dX10_keep_81 : decode cX10_keep 81 = .ok (.iadd, 1) := by decide +kernel
theorem dX10_keep_82 : decode cX10_keep 82 = .ok (.aload_n 0, 1) := by decide +kernel
theorem dX10_keep_83 : decode cX10_keep 83 = .ok (.getfield 55, 3) := by decide +kernel
theorem dX10_keep_86 : decode cX10_keep 86 = .ok (.iload_n 3, 1) := by decide +kernel
theorem dX10_keep_87 : decode cX10_keep 87 = .ok (.iaload, 1) := by decide +kernel
theorem dX10_keep_88 : decode cX10_keep 88 = .ok (.iastore, 1) := by decide +kernel
theorem dX10_keep_89 : decode cX10_keep 89 = .ok (.iinc 3 1, 3) := by decide +kernel
theorem dX10_keep_92 : decode cX10_keep 92 = .ok (.goto (-25), 3) := by decide +kernel
theorem dX10_keep_95 : decode cX10_keep 95 = .ok (.iconst 0, 1) := by decide +kernel
theorem dX10_keep_96 : decode cX10_keep 96 = .ok (.istore_n 3, 1) := by decide +kernel
theorem dX10_keep_97 : decode cX10_keep 97 = .ok (.iload_n 3, 1) := by decide +kernel
theorem dX10_keep_98 : decode cX10_keep 98 = .ok (.bipush 72, 2) := by decide +kernel
theorem dX10_keep_100 : decode cX10_keep 100 = .ok (.if_icmp .ge 26, 3) := by decide +kernel
theorem dX10_keep_103 : decode cX10_keep 103 = .ok (.aload_n 0, 1) := by decide +kernel
theorem dX10_keep_104 : decode cX10_keep 104 = .ok (.getfield 88, 3) := by decide +kernel
theorem dX10_keep_107 : decode cX10_keep 107 = .ok (.iload_n 2, 1) := by decide +kernel
theorem dX10_keep_108 : decode cX10_keep 108 = .ok (.bipush 16, 2) := by decide +kernel
theorem dX10_keep_110 : decode cX10_keep 110 = .ok (.iadd, 1) := by decide +kernel
theorem dX10_keep_111 : decode cX10_keep 111 = .ok (.iload_n 3, 1) := by decide +kernel
theorem dX10_keep_112 : decode cX10_keep 112 = .ok (.iadd, 1) := by decide +kernel
theorem dX10_keep_113 : decode cX10_keep 113 = .ok (.aload_n 0, 1) := by decide +kernel
theorem dX10_keep_114 : decode cX10_keep 114 = .ok (.getfield 58, 3) := by decide +kernel
theorem dX10_keep_117 : decode cX10_keep 117 = .ok (.iload_n 3, 1) := by decide +kernel
theorem dX10_keep_118 : decode cX10_keep 118 = .ok (.iaload, 1) := by decide +kernel
theorem dX10_keep_119 : decode cX10_keep 119 = .ok (.iastore, 1) := by decide +kernel
theorem dX10_keep_120 : decode cX10_keep 120 = .ok (.iinc 3 1, 3) := by decide +kernel
theorem dX10_keep_123 : decode cX10_keep 123 = .ok (.goto (-26), 3) := by decide +kernel
theorem dX10_keep_126 : decode cX10_keep 126 = .ok (.iconst 0, 1) := by decide +kernel
theorem dX10_keep_127 : decode cX10_keep 127 = .ok (.istore_n 3, 1) := by decide +kernel
theorem dX10_keep_128 : decode cX10_keep 128 = .ok (.iload_n 3, 1) := by decide +kernel
theorem dX10_keep_129 : decode cX10_keep 129 = .ok (.bipush 6, 2) := by decide +kernel
theorem dX10_keep_131 : decode cX10_keep 131 = .ok (.if_icmp .ge 26, 3) := by decide +kernel
theorem dX10_keep_134 : decode cX10_keep 134 = .ok (.aload_n 0, 1) := by decide +kernel
theorem dX10_keep_135 : decode cX10_keep 135 = .ok (.getfield 88, 3) := by decide +kernel
theorem dX10_keep_138 : decode cX10_keep 138 = .ok (.iload_n 2, 1) := by decide +kernel
theorem dX10_keep_139 : decode cX10_keep 139 = .ok (.bipush 88, 2) := by decide +kernel
theorem dX10_keep_141 : decode cX10_keep 141 = .ok (.iadd, 1) := by decide +kernel
theorem dX10_keep_142 : decode cX10_keep 142 = .ok (.iload_n 3, 1) := by decide +kernel
theorem dX10_keep_143 : decode cX10_keep 143 = .ok (.iadd, 1) := by decide +kernel
theorem dX10_keep_144 : decode cX10_keep 144 = .ok (.aload_n 0, 1) := by decide +kernel
theorem dX10_keep_145 : decode cX10_keep 145 = .ok (.getfield 61, 3) := by decide +kernel
theorem dX10_keep_148 : decode cX10_keep 148 = .ok (.iload_n 3, 1) := by decide +kernel
theorem dX10_keep_149 : decode cX10_keep 149 = .ok (.iaload, 1) := by decide +kernel
theorem dX10_keep_150 : decode cX10_keep 150 = .ok (.iastore, 1) := by decide +kernel
theorem dX10_keep_151 : decode cX10_keep 151 = .ok (.iinc 3 1, 3) := by decide +kernel
theorem dX10_keep_154 : decode cX10_keep 154 = .ok (.goto (-26), 3) := by decide +kernel
theorem dX10_keep_157 : decode cX10_keep 157 = .ok (.iconst 0, 1) := by decide +kernel
theorem dX10_keep_158 : decode cX10_keep 158 = .ok (.istore_n 3, 1) := by decide +kernel
theorem dX10_keep_159 : decode cX10_keep 159 = .ok (.iload_n 3, 1) := by decide +kernel
theorem dX10_keep_160 : decode cX10_keep 160 = .ok (.bipush 8, 2) := by decide +kernel
theorem dX10_keep_162 : decode cX10_keep 162 = .ok (.if_icmp .ge 26, 3) := by decide +kernel
theorem dX10_keep_165 : decode cX10_keep 165 = .ok (.aload_n 0, 1) := by decide +kernel
theorem dX10_keep_166 : decode cX10_keep 166 = .ok (.getfield 88, 3) := by decide +kernel
theorem dX10_keep_169 : decode cX10_keep 169 = .ok (.iload_n 2, 1) := by decide +kernel
theorem dX10_keep_170 : decode cX10_keep 170 = .ok (.bipush 94, 2) := by decide +kernel
theorem dX10_keep_172 : decode cX10_keep 172 = .ok (.iadd, 1) := by decide +kernel
theorem dX10_keep_173 : decode cX10_keep 173 = .ok (.iload_n 3, 1) := by decide +kernel
theorem dX10_keep_174 : decode cX10_keep 174 = .ok (.iadd, 1) := by decide +kernel
theorem dX10_keep_175 : decode cX10_keep 175 = .ok (.aload_n 0, 1) := by decide +kernel
theorem dX10_keep_176 : decode cX10_keep 176 = .ok (.getfield 22, 3) := by decide +kernel
theorem dX10_keep_179 : decode cX10_keep 179 = .ok (.iload_n 3, 1) := by decide +kernel
theorem dX10_keep_180 : decode cX10_keep 180 = .ok (.iaload, 1) := by decide +kernel
theorem dX10_keep_181 : decode cX10_keep 181 = .ok (.iastore, 1) := by decide +kernel
theorem dX10_keep_182 : decode cX10_keep 182 = .ok (.iinc 3 1, 3) := by decide +kernel
theorem dX10_keep_185 : decode cX10_keep 185 = .ok (.goto (-26), 3) := by decide +kernel
theorem dX10_keep_188 : decode cX10_keep 188 = .ok (.aload_n 0, 1) := by decide +kernel
theorem dX10_keep_189 : decode cX10_keep 189 = .ok (.getfield 91, 3) := by decide +kernel
theorem dX10_keep_192 : decode cX10_keep 192 = .ok (.iload_n 1, 1) := by decide +kernel
theorem dX10_keep_193 : decode cX10_keep 193 = .ok (.aload_n 0, 1) := by decide +kernel
theorem dX10_keep_194 : decode cX10_keep 194 = .ok (.getfield 189, 3) := by decide +kernel
theorem dX10_keep_197 : decode cX10_keep 197 = .ok (.iastore, 1) := by decide +kernel
theorem dX10_keep_198 : decode cX10_keep 198 = .ok (.aload_n 0, 1) := by decide +kernel
theorem dX10_keep_199 : decode cX10_keep 199 = .ok (.getfield 94, 3) := by decide +kernel
theorem dX10_keep_202 : decode cX10_keep 202 = .ok (.iload_n 1, 1) := by decide +kernel
theorem dX10_keep_203 : decode cX10_keep 203 = .ok (.iconst 1, 1) := by decide +kernel
theorem dX10_keep_204 : decode cX10_keep 204 = .ok (.bastore, 1) := by decide +kernel
theorem dX10_keep_205 : decode cX10_keep 205 = .ok (.iconst 1, 1) := by decide +kernel
theorem dX10_keep_206 : decode cX10_keep 206 = .ok (.ireturn, 1) := by decide +kernel
theorem dX10_goBack_0 : decode cX10_goBack 0 = .ok (.iload_n 1, 1) := by decide +kernel
theorem dX10_goBack_1 : decode cX10_goBack 1 = .ok (.i2l, 1) := by decide +kernel
theorem dX10_goBack_2 : decode cX10_goBack 2 = .ok (.lconst 0, 1) := by decide +kernel
theorem dX10_goBack_3 : decode cX10_goBack 3 = .ok (.lconst 1, 1) := by decide +kernel
theorem dX10_goBack_4 : decode cX10_goBack 4 = .ok (.invokestatic 99, 3) := by decide +kernel
theorem dX10_goBack_7 : decode cX10_goBack 7 = .ok (.ifCond .ne 7, 3) := by decide +kernel
theorem dX10_goBack_10 : decode cX10_goBack 10 = .ok (.sipush (-1001), 3) := by decide +kernel
theorem dX10_goBack_13 : decode cX10_goBack 13 = .ok (.ireturn, 1) := by decide +kernel
theorem dX10_goBack_14 : decode cX10_goBack 14 = .ok (.aload_n 0, 1) := by decide +kernel
theorem dX10_goBack_15 : decode cX10_goBack 15 = .ok (.getfield 94, 3) := by decide +kernel
theorem dX10_goBack_18 : decode cX10_goBack 18 = .ok (.iload_n 1, 1) := by decide +kernel
theorem dX10_goBack_19 : decode cX10_goBack 19 = .ok (.baload, 1) := by decide +kernel
theorem dX10_goBack_20 : decode cX10_goBack 20 = .ok (.ifCond .eq 16, 3) := by decide +kernel
theorem dX10_goBack_23 : decode cX10_goBack 23 = .ok (.aload_n 0, 1) := by decide +kernel
theorem dX10_goBack_24 : decode cX10_goBack 24 = .ok (.getfield 91, 3) := by decide +kernel
theorem dX10_goBack_27 : decode cX10_goBack 27 = .ok (.iload_n 1, 1) := by decide +kernel
theorem dX10_goBack_28 : decode cX10_goBack 28 = .ok (.iaload, 1) := by decide +kernel
theorem dX10_goBack_29 : decode cX10_goBack 29 = .ok (.aload_n 0, 1) := by decide +kernel
theorem dX10_goBack_30 : decode cX10_goBack 30 = .ok (.getfield 189, 3) := by decide +kernel
theorem dX10_goBack_33 : decode cX10_goBack 33 = .ok (.if_icmp .eq 7, 3) := by decide +kernel
theorem dX10_goBack_36 : decode cX10_goBack 36 = .ok (.sipush (-1003), 3) := by decide +kernel
theorem dX10_goBack_39 : decode cX10_goBack 39 = .ok (.ireturn, 1) := by decide +kernel
theorem dX10_goBack_40 : decode cX10_goBack 40 = .ok (.bipush 110, 2) := by decide +kernel
theorem dX10_goBack_42 : decode cX10_goBack 42 = .ok (.iload_n 1, 1) := by decide +kernel
theorem dX10_goBack_43 : decode cX10_goBack 43 = .ok (.imul, 1) := by decide +kernel
theorem dX10_goBack_44 : decode cX10_goBack 44 = .ok (.istore_n 2, 1) := by decide +kernel
theorem dX10_goBack_45 : decode cX10_goBack 45 = .ok (.aload_n 0, 1) := by decide +kernel
theorem dX10_goBack_46 : decode cX10_goBack 46 = .ok (.aload_n 0, 1) := by decide +kernel
theorem dX10_goBack_47 : decode cX10_goBack 47 = .ok (.getfield 88, 3) := by decide +kernel
theorem dX10_goBack_50 : decode cX10_goBack 50 = .ok (.iload_n 2, 1) := by decide +kernel
theorem dX10_goBack_51 : decode cX10_goBack 51 = .ok (.iaload, 1) := by decide +kernel
theorem dX10_goBack_52 : decode cX10_goBack 52 = .ok (.putfield 177, 3) := by decide +kernel
theorem dX10_goBack_55 : decode cX10_goBack 55 = .ok (.aload_n 0, 1) := by decide +kernel
theorem dX10_goBack_56 : decode cX10_goBack 56 = .ok (.aload_n 0, 1) := by decide +kernel
theorem dX10_goBack_57 : decode cX10_goBack 57 = .ok (.getfield 88, 3) := by decide +kernel
theorem dX10_goBack_60 : decode cX10_goBack 60 = .ok (.iload_n 2, 1) := by decide +kernel
theorem dX10_goBack_61 : decode cX10_goBack 61 = .ok (.iconst 1, 1) := by decide +kernel
theorem dX10_goBack_62 : decode cX10_goBack 62 = .ok (.iadd, 1) := by decide +kernel
theorem dX10_goBack_63 : decode cX10_goBack 63 = .ok (.iaload, 1) := by decide +kernel
theorem dX10_goBack_64 : decode cX10_goBack 64 = .ok (.putfield 180, 3) := by decide +kernel
theorem dX10_goBack_67 : decode cX10_goBack 67 = .ok (.aload_n 0, 1) := by decide +kernel
theorem dX10_goBack_68 : decode cX10_goBack 68 = .ok (.aload_n 0, 1) := by decide +kernel
theorem dX10_goBack_69 : decode cX10_goBack 69 = .ok (.getfield 88, 3) := by decide +kernel
theorem dX10_goBack_72 : decode cX10_goBack 72 = .ok (.iload_n 2, 1) := by decide +kernel
theorem dX10_goBack_73 : decode cX10_goBack 73 = .ok (.iconst 2, 1) := by decide +kernel
theorem dX10_goBack_74 : decode cX10_goBack 74 = .ok (.iadd, 1) := by decide +kernel
theorem dX10_goBack_75 : decode cX10_goBack 75 = .ok (.iaload, 1) := by decide +kernel
theorem dX10_goBack_76 : decode cX10_goBack 76 = .ok (.putfield 183, 3) := by decide +kernel
theorem dX10_goBack_79 : decode cX10_goBack 79 = .ok (.aload_n 0, 1) := by decide +kernel
theorem dX10_goBack_80 : decode cX10_goBack 80 = .ok (.aload_n 0, 1) := by decide +kernel
theorem dX10_goBack_81 : decode cX10_goBack 81 = .ok (.getfield 88, 3) := by decide +kernel
theorem dX10_goBack_84 : decode cX10_goBack 84 = .ok (.iload_n 2, 1) := by decide +kernel
theorem dX10_goBack_85 : decode cX10_goBack 85 = .ok (.iconst 3, 1) := by decide +kernel
theorem dX10_goBack_86 : decode cX10_goBack 86 = .ok (.iadd, 1) := by decide +kernel
theorem dX10_goBack_87 : decode cX10_goBack 87 = .ok (.iaload, 1) := by decide +kernel
theorem dX10_goBack_88 : decode cX10_goBack 88 = .ok (.putfield 186, 3) := by decide +kernel
theorem dX10_goBack_91 : decode cX10_goBack 91 = .ok (.iconst 0, 1) := by decide +kernel
theorem dX10_goBack_92 : decode cX10_goBack 92 = .ok (.istore_n 3, 1) := by decide +kernel
theorem dX10_goBack_93 : decode cX10_goBack 93 = .ok (.iload_n 3, 1) := by decide +kernel
theorem dX10_goBack_94 : decode cX10_goBack 94 = .ok (.bipush 12, 2) := by decide +kernel
theorem dX10_goBack_96 : decode cX10_goBack 96 = .ok (.if_icmp .ge 25, 3) := by decide +kernel
theorem dX10_goBack_99 : decode cX10_goBack 99 = .ok (.aload_n 0, 1) := by decide +kernel
theorem dX10_goBack_100 : decode cX10_goBack 100 = .ok (.getfield 55, 3) := by decide +kernel
theorem dX10_goBack_103 : decode cX10_goBack 103 = .ok (.iload_n 3, 1) := by decide +kernel
theorem dX10_goBack_104 : decode cX10_goBack 104 = .ok (.aload_n 0, 1) := by decide +kernel
theorem dX10_goBack_105 : decode cX10_goBack 105 = .ok (.getfield 88, 3) := by decide +kernel
theorem dX10_goBack_108 : decode cX10_goBack 108 = .ok (.iload_n 2, 1) := by decide +kernel
theorem dX10_goBack_109 : decode cX10_goBack 109 = .ok (.iconst 4, 1) := by decide +kernel
theorem dX10_goBack_110 : decode cX10_goBack 110 = .ok (.iadd, 1) := by decide +kernel
theorem dX10_goBack_111 : decode cX10_goBack 111 = .ok (.iload_n 3, 1) := by decide +kernel
theorem dX10_goBack_112 : decode cX10_goBack 112 = .ok (.iadd, 1) := by decide +kernel
theorem dX10_goBack_113 : decode cX10_goBack 113 = .ok (.iaload, 1) := by decide +kernel
theorem dX10_goBack_114 : decode cX10_goBack 114 = .ok (.iastore, 1) := by decide +kernel
theorem dX10_goBack_115 : decode cX10_goBack 115 = .ok (.iinc 3 1, 3) := by decide +kernel
theorem dX10_goBack_118 : decode cX10_goBack 118 = .ok (.goto (-25), 3) := by decide +kernel
theorem dX10_goBack_121 : decode cX10_goBack 121 = .ok (.iconst 0, 1) := by decide +kernel
theorem dX10_goBack_122 : decode cX10_goBack 122 = .ok (.istore_n 3, 1) := by decide +kernel
theorem dX10_goBack_123 : decode cX10_goBack 123 = .ok (.iload_n 3, 1) := by decide +kernel
theorem dX10_goBack_124 : decode cX10_goBack 124 = .ok (.bipush 72, 2) := by decide +kernel
theorem dX10_goBack_126 : decode cX10_goBack 126 = .ok (.if_icmp .ge 26, 3) := by decide +kernel
theorem dX10_goBack_129 : decode cX10_goBack 129 = .ok (.aload_n 0, 1) := by decide +kernel
theorem dX10_goBack_130 : decode cX10_goBack 130 = .ok (.getfield 58, 3) := by decide +kernel
theorem dX10_goBack_133 : decode cX10_goBack 133 = .ok (.iload_n 3, 1) := by decide +kernel
theorem dX10_goBack_134 : decode cX10_goBack 134 = .ok (.aload_n 0, 1) := by decide +kernel
theorem dX10_goBack_135 : decode cX10_goBack 135 = .ok (.getfield 88, 3) := by decide +kernel
theorem dX10_goBack_138 : decode cX10_goBack 138 = .ok (.iload_n 2, 1) := by decide +kernel
theorem dX10_goBack_139 : decode cX10_goBack 139 = .ok (.bipush 16, 2) := by decide +kernel
theorem dX10_goBack_141 : decode cX10_goBack 141 = .ok (.iadd, 1) := by decide +kernel
theorem dX10_goBack_142 : decode cX10_goBack 142 = .ok (.iload_n 3, 1) := by decide +kernel
theorem dX10_goBack_143 : decode cX10_goBack 143 = .ok (.iadd, 1) := by decide +kernel
theorem dX10_goBack_144 : decode cX10_goBack 144 = .ok (.iaload, 1) := by decide +kernel
theorem dX10_goBack_145 : decode cX10_goBack 145 = .ok (.iastore, 1) := by decide +kernel
theorem dX10_goBack_146 : decode cX10_goBack 146 = .ok (.iinc 3 1, 3) := by decide +kernel
theorem dX10_goBack_149 : decode cX10_goBack 149 = .ok (.goto (-26), 3) := by decide +kernel
theorem dX10_goBack_152 : decode cX10_goBack 152 = .ok (.iconst 0, 1) := by decide +kernel
theorem dX10_goBack_153 : decode cX10_goBack 153 = .ok (.istore_n 3, 1) := by decide +kernel
theorem dX10_goBack_154 : decode cX10_goBack 154 = .ok (.iload_n 3, 1) := by decide +kernel
theorem dX10_goBack_155 : decode cX10_goBack 155 = .ok (.bipush 6, 2) := by decide +kernel
theorem dX10_goBack_157 : decode cX10_goBack 157 = .ok (.if_icmp .ge 26, 3) := by decide +kernel
theorem dX10_goBack_160 : decode cX10_goBack 160 = .ok (.aload_n 0, 1) := by decide +kernel
theorem dX10_goBack_161 : decode cX10_goBack 161 = .ok (.getfield 61, 3) := by decide +kernel
theorem dX10_goBack_164 : decode cX10_goBack 164 = .ok (.iload_n 3, 1) := by decide +kernel
theorem dX10_goBack_165 : decode cX10_goBack 165 = .ok (.aload_n 0, 1) := by decide +kernel
theorem dX10_goBack_166 : decode cX10_goBack 166 = .ok (.getfield 88, 3) := by decide +kernel
theorem dX10_goBack_169 : decode cX10_goBack 169 = .ok (.iload_n 2, 1) := by decide +kernel
theorem dX10_goBack_170 : decode cX10_goBack 170 = .ok (.bipush 88, 2) := by decide +kernel
theorem dX10_goBack_172 : decode cX10_goBack 172 = .ok (.iadd, 1) := by decide +kernel
theorem dX10_goBack_173 : decode cX10_goBack 173 = .ok (.iload_n 3, 1) := by decide +kernel
theorem dX10_goBack_174 : decode cX10_goBack 174 = .ok (.iadd, 1) := by decide +kernel
theorem dX10_goBack_175 : decode cX10_goBack 175 = .ok (.iaload, 1) := by decide +kernel
theorem dX10_goBack_176 : decode cX10_goBack 176 = .ok (.iastore, 1) := by decide +kernel
theorem dX10_goBack_177 : decode cX10_goBack 177 = .ok (.iinc 3 1, 3) := by decide +kernel
theorem dX10_goBack_180 : decode cX10_goBack 180 = .ok (.goto (-26), 3) := by decide +kernel
theorem dX10_goBack_183 : decode cX10_goBack 183 = .ok (.iconst 0, 1) := by decide +kernel
theorem dX10_goBack_184 : decode cX10_goBack 184 = .ok (.istore_n 3, 1) := by decide +kernel
theorem dX10_goBack_185 : decode cX10_goBack 185 = .ok (.iload_n 3, 1) := by decide +kernel
theorem dX10_goBack_186 : decode cX10_goBack 186 = .ok (.bipush 8, 2) := by decide +kernel
theorem dX10_goBack_188 : decode cX10_goBack 188 = .ok (.if_icmp .ge 26, 3) := by decide +kernel
theorem dX10_goBack_191 : decode cX10_goBack 191 = .ok (.aload_n 0, 1) := by decide +kernel
theorem dX10_goBack_192 : decode cX10_goBack 192 = .ok (.getfield 22, 3) := by decide +kernel
theorem dX10_goBack_195 : decode cX10_goBack 195 = .ok (.iload_n 3, 1) := by decide +kernel
theorem dX10_goBack_196 : decode cX10_goBack 196 = .ok (.aload_n 0, 1) := by decide +kernel
theorem dX10_goBack_197 : decode cX10_goBack 197 = .ok (.getfield 88, 3) := by decide +kernel
theorem dX10_goBack_200 : decode cX10_goBack 200 = .ok (.iload_n 2, 1) := by decide +kernel
theorem dX10_goBack_201 : decode cX10_goBack 201 = .ok (.bipush 94, 2) := by decide +kernel
theorem dX10_goBack_203 : decode cX10_goBack 203 = .ok (.iadd, 1) := by decide +kernel
theorem dX10_goBack_204 : decode cX10_goBack 204 = .ok (.iload_n 3, 1) := by decide +kernel
theorem dX10_goBack_205 : decode cX10_goBack 205 = .ok (.iadd, 1) := by decide +kernel
theorem dX10_goBack_206 : decode cX10_goBack 206 = .ok (.iaload, 1) := by decide +kernel
theorem dX10_goBack_207 : decode cX10_goBack 207 = .ok (.iastore, 1) := by decide +kernel
theorem dX10_goBack_208 : decode cX10_goBack 208 = .ok (.iinc 3 1, 3) := by decide +kernel
theorem dX10_goBack_211 : decode cX10_goBack 211 = .ok (.goto (-26), 3) := by decide +kernel
theorem dX10_goBack_214 : decode cX10_goBack 214 = .ok (.iconst 1, 1) := by decide +kernel
theorem dX10_goBack_215 : decode cX10_goBack 215 = .ok (.ireturn, 1) := by decide +kernel
theorem dJ6_bitCount_0f7a4_0 : decode cJ6_bitCount_0f7a4 0 = .ok (.iload_n 0, 1) := by decide +kernel
theorem dJ6_bitCount_0f7a4_1 : decode cJ6_bitCount_0f7a4 1 = .ok (.iload_n 0, 1) := by decide +kernel
theorem dJ6_bitCount_0f7a4_2 : decode cJ6_bitCount_0f7a4 2 = .ok (.iconst 1, 1) := by decide +kernel
theorem dJ6_bitCount_0f7a4_3 : decode cJ6_bitCount_0f7a4 3 = .ok (.iushr, 1) := by decide +kernel
theorem dJ6_bitCount_0f7a4_4 : decode cJ6_bitCount_0f7a4 4 = .ok (.ldc_w 265, 3) := by decide +kernel
theorem dJ6_bitCount_0f7a4_7 : decode cJ6_bitCount_0f7a4 7 = .ok (.iand, 1) := by decide +kernel
theorem dJ6_bitCount_0f7a4_8 : decode cJ6_bitCount_0f7a4 8 = .ok (.isub, 1) := by decide +kernel
theorem dJ6_bitCount_0f7a4_9 : decode cJ6_bitCount_0f7a4 9 = .ok (.istore_n 0, 1) := by decide +kernel
theorem dJ6_bitCount_0f7a4_10 : decode cJ6_bitCount_0f7a4 10 = .ok (.iload_n 0, 1) := by decide +kernel
theorem dJ6_bitCount_0f7a4_11 : decode cJ6_bitCount_0f7a4 11 = .ok (.ldc_w 266, 3) := by decide +kernel
theorem dJ6_bitCount_0f7a4_14 : decode cJ6_bitCount_0f7a4 14 = .ok (.iand, 1) := by decide +kernel
theorem dJ6_bitCount_0f7a4_15 : decode cJ6_bitCount_0f7a4 15 = .ok (.iload_n 0, 1) := by decide +kernel
theorem dJ6_bitCount_0f7a4_16 : decode cJ6_bitCount_0f7a4 16 = .ok (.iconst 2, 1) := by decide +kernel
theorem dJ6_bitCount_0f7a4_17 : decode cJ6_bitCount_0f7a4 17 = .ok (.iushr, 1) := by decide +kernel
theorem dJ6_bitCount_0f7a4_18 : decode cJ6_bitCount_0f7a4 18 = .ok (.ldc_w 266, 3) := by decide +kernel
theorem dJ6_bitCount_0f7a4_21 : decode cJ6_bitCount_0f7a4 21 = .ok (.iand, 1) := by decide +kernel
theorem dJ6_bitCount_0f7a4_22 : decode cJ6_bitCount_0f7a4 22 = .ok (.iadd, 1) := by decide +kernel
theorem dJ6_bitCount_0f7a4_23 : decode cJ6_bitCount_0f7a4 23 = .ok (.istore_n 0, 1) := by decide +kernel
theorem dJ6_bitCount_0f7a4_24 : decode cJ6_bitCount_0f7a4 24 = .ok (.iload_n 0, 1) := by decide +kernel
theorem dJ6_bitCount_0f7a4_25 : decode cJ6_bitCount_0f7a4 25 = .ok (.iload_n 0, 1) := by decide +kernel
theorem dJ6_bitCount_0f7a4_26 : decode cJ6_bitCount_0f7a4 26 = .ok (.iconst 4, 1) := by decide +kernel
theorem dJ6_bitCount_0f7a4_27 : decode cJ6_bitCount_0f7a4 27 = .ok (.iushr, 1) := by decide +kernel
theorem dJ6_bitCount_0f7a4_28 : decode cJ6_bitCount_0f7a4 28 = .ok (.iadd, 1) := by decide +kernel
theorem dJ6_bitCount_0f7a4_29 : decode cJ6_bitCount_0f7a4 29 = .ok (.ldc_w 267, 3) := by decide +kernel
theorem dJ6_bitCount_0f7a4_32 : decode cJ6_bitCount_0f7a4 32 = .ok (.iand, 1) := by decide +kernel
theorem dJ6_bitCount_0f7a4_33 : decode cJ6_bitCount_0f7a4 33 = .ok (.istore_n 0, 1) := by decide +kernel
theorem dJ6_bitCount_0f7a4_34 : decode cJ6_bitCount_0f7a4 34 = .ok (.iload_n 0, 1) := by decide +kernel
theorem dJ6_bitCount_0f7a4_35 : decode cJ6_bitCount_0f7a4 35 = .ok (.iload_n 0, 1) := by decide +kernel
theorem dJ6_bitCount_0f7a4_36 : decode cJ6_bitCount_0f7a4 36 = .ok (.bipush 8, 2) := by decide +kernel
theorem dJ6_bitCount_0f7a4_38 : decode cJ6_bitCount_0f7a4 38 = .ok (.iushr, 1) := by decide +kernel
theorem dJ6_bitCount_0f7a4_39 : decode cJ6_bitCount_0f7a4 39 = .ok (.iadd, 1) := by decide +kernel
theorem dJ6_bitCount_0f7a4_40 : decode cJ6_bitCount_0f7a4 40 = .ok (.istore_n 0, 1) := by decide +kernel
theorem dJ6_bitCount_0f7a4_41 : decode cJ6_bitCount_0f7a4 41 = .ok (.iload_n 0, 1) := by decide +kernel
theorem dJ6_bitCount_0f7a4_42 : decode cJ6_bitCount_0f7a4 42 = .ok (.iload_n 0, 1) := by decide +kernel
theorem dJ6_bitCount_0f7a4_43 : decode cJ6_bitCount_0f7a4 43 = .ok (.bipush 16, 2) := by decide +kernel
theorem dJ6_bitCount_0f7a4_45 : decode cJ6_bitCount_0f7a4 45 = .ok (.iushr, 1) := by decide +kernel
theorem dJ6_bitCount_0f7a4_46 : decode cJ6_bitCount_0f7a4 46 = .ok (.iadd, 1) := by decide +kernel
theorem dJ6_bitCount_0f7a4_47 : decode cJ6_bitCount_0f7a4 47 = .ok (.istore_n 0, 1) := by decide +kernel
theorem dJ6_bitCount_0f7a4_48 : decode cJ6_bitCount_0f7a4 48 = .ok (.iload_n 0, 1) := by decide +kernel
theorem dJ6_bitCount_0f7a4_49 : decode cJ6_bitCount_0f7a4 49 = .ok (.bipush 63, 2) := by decide +kernel
theorem dJ6_bitCount_0f7a4_51 : decode cJ6_bitCount_0f7a4 51 = .ok (.iand, 1) := by decide +kernel
theorem dJ6_bitCount_0f7a4_52 : decode cJ6_bitCount_0f7a4 52 = .ok (.ireturn, 1) := by decide +kernel
theorem dJ9_max_7cf53_0 : decode cJ9_max_7cf53 0 = .ok (.iload_n 0, 1) := by decide +kernel
theorem dJ9_max_7cf53_1 : decode cJ9_max_7cf53 1 = .ok (.iload_n 1, 1) := by decide +kernel
theorem dJ9_max_7cf53_2 : decode cJ9_max_7cf53 2 = .ok (.if_icmp .lt 7, 3) := by decide +kernel
theorem dJ9_max_7cf53_5 : decode cJ9_max_7cf53 5 = .ok (.iload_n 0, 1) := by decide +kernel
theorem dJ9_max_7cf53_6 : decode cJ9_max_7cf53 6 = .ok (.goto 4, 3) := by decide +kernel
theorem dJ9_max_7cf53_9 : decode cJ9_max_7cf53 9 = .ok (.iload_n 1, 1) := by decide +kernel
theorem dJ9_max_7cf53_10 : decode cJ9_max_7cf53 10 = .ok (.ireturn, 1) := by decide +kernel
theorem dJ9_max_f86c9_0 : decode cJ9_max_f86c9 0 = .ok (.lload_n 0, 1) := by decide +kernel
theorem dJ9_max_f86c9_1 : decode cJ9_max_f86c9 1 = .ok (.lload_n 2, 1) := by decide +kernel
theorem dJ9_max_f86c9_2 : decode cJ9_max_f86c9 2 = .ok (.lcmp, 1) := by decide +kernel
theorem dJ9_max_f86c9_3 : decode cJ9_max_f86c9 3 = .ok (.ifCond .lt 7, 3) := by decide +kernel
theorem dJ9_max_f86c9_6 : decode cJ9_max_f86c9 6 = .ok (.lload_n 0, 1) := by decide +kernel
theorem dJ9_max_f86c9_7 : decode cJ9_max_f86c9 7 = .ok (.goto 4, 3) := by decide +kernel
theorem dJ9_max_f86c9_10 : decode cJ9_max_f86c9 10 = .ok (.lload_n 2, 1) := by decide +kernel
theorem dJ9_max_f86c9_11 : decode cJ9_max_f86c9 11 = .ok (.lreturn, 1) := by decide +kernel
theorem dJ9_min_7cf53_0 : decode cJ9_min_7cf53 0 = .ok (.iload_n 0, 1) := by decide +kernel
theorem dJ9_min_7cf53_1 : decode cJ9_min_7cf53 1 = .ok (.iload_n 1, 1) := by decide +kernel
theorem dJ9_min_7cf53_2 : decode cJ9_min_7cf53 2 = .ok (.if_icmp .gt 7, 3) := by decide +kernel
theorem dJ9_min_7cf53_5 : decode cJ9_min_7cf53 5 = .ok (.iload_n 0, 1) := by decide +kernel
theorem dJ9_min_7cf53_6 : decode cJ9_min_7cf53 6 = .ok (.goto 4, 3) := by decide +kernel
theorem dJ9_min_7cf53_9 : decode cJ9_min_7cf53 9 = .ok (.iload_n 1, 1) := by decide +kernel
theorem dJ9_min_7cf53_10 : decode cJ9_min_7cf53 10 = .ok (.ireturn, 1) := by decide +kernel
theorem dJ9_min_f86c9_0 : decode cJ9_min_f86c9 0 = .ok (.lload_n 0, 1) := by decide +kernel
theorem dJ9_min_f86c9_1 : decode cJ9_min_f86c9 1 = .ok (.lload_n 2, 1) := by decide +kernel
theorem dJ9_min_f86c9_2 : decode cJ9_min_f86c9 2 = .ok (.lcmp, 1) := by decide +kernel
theorem dJ9_min_f86c9_3 : decode cJ9_min_f86c9 3 = .ok (.ifCond .gt 7, 3) := by decide +kernel
theorem dJ9_min_f86c9_6 : decode cJ9_min_f86c9 6 = .ok (.lload_n 0, 1) := by decide +kernel
theorem dJ9_min_f86c9_7 : decode cJ9_min_f86c9 7 = .ok (.goto 4, 3) := by decide +kernel
theorem dJ9_min_f86c9_10 : decode cJ9_min_f86c9 10 = .ok (.lload_n 2, 1) := by decide +kernel
theorem dJ9_min_f86c9_11 : decode cJ9_min_f86c9 11 = .ok (.lreturn, 1) := by decide +kernel
theorem dJ0_charAt_5068e_0 : decode cJ0_charAt_5068e 0 = .ok (.aload_n 0, 1) := by decide +kernel
theorem dJ0_charAt_5068e_1 : decode cJ0_charAt_5068e 1 = .ok (.invokevirtual 492, 3) := by decide +kernel
theorem dJ0_charAt_5068e_4 : decode cJ0_charAt_5068e 4 = .ok (.ifCond .eq 12, 3) := by decide +kernel
theorem dJ0_charAt_5068e_7 : decode cJ0_charAt_5068e 7 = .ok (.aload_n 0, 1) := by decide +kernel
theorem dJ0_charAt_5068e_8 : decode cJ0_charAt_5068e 8 = .ok (.getfield 9, 3) := by decide +kernel
theorem dJ0_charAt_5068e_11 : decode cJ0_charAt_5068e 11 = .ok (.iload_n 1, 1) := by decide +kernel
theorem dJ0_charAt_5068e_12 : decode cJ0_charAt_5068e 12 = .ok (.invokestatic 495, 3) := by decide +kernel
theorem dJ0_charAt_5068e_15 : decode cJ0_charAt_5068e 15 = .ok (.ireturn, 1) := by decide +kernel
theorem dJ0_charAt_5068e_16 : decode cJ0_charAt_5068e 16 = .ok (.aload_n 0, 1) := by decide +kernel
theorem dJ0_charAt_5068e_17 : decode cJ0_charAt_5068e 17 = .ok (.getfield 9, 3) := by decide +kernel
theorem dJ0_charAt_5068e_20 : decode cJ0_charAt_5068e 20 = .ok (.iload_n 1, 1) := by decide +kernel
theorem dJ0_charAt_5068e_21 : decode cJ0_charAt_5068e 21 = .ok (.invokestatic 498, 3) := by decide +kernel
theorem dJ0_charAt_5068e_24 : decode cJ0_charAt_5068e 24 = .ok (.ireturn, 1) := by decide +kernel
theorem dJ0_isLatin1_aae02_0 : decode cJ0_isLatin1_aae02 0 = .ok (.getstatic 38, 3) := by decide +kernel
theorem dJ0_isLatin1_aae02_3 : decode cJ0_isLatin1_aae02 3 = .ok (.ifCond .eq 14, 3) := by decide +kernel
theorem dJ0_isLatin1_aae02_6 : decode cJ0_isLatin1_aae02 6 = .ok (.aload_n 0, 1) := by decide +kernel
theorem dJ0_isLatin1_aae02_7 : decode cJ0_isLatin1_aae02 7 = .ok (.getfield 15, 3) := by decide +kernel
theorem dJ0_isLatin1_aae02_10 : decode cJ0_isLatin1_aae02 10 = .ok (.ifCond .ne 7, 3) := by decide +kernel
theorem dJ0_isLatin1_aae02_13 : decode cJ0_isLatin1_aae02 13 = .ok (.iconst 1, 1) := by decide +kernel
theorem dJ0_isLatin1_aae02_14 : decode cJ0_isLatin1_aae02 14 = .ok (.goto 4, 3) := by decide +kernel
theorem dJ0_isLatin1_aae02_17 : decode cJ0_isLatin1_aae02 17 = .ok (.iconst 0, 1) := by decide +kernel
theorem dJ0_isLatin1_aae02_18 : decode cJ0_isLatin1_aae02 18 = .ok (.ireturn, 1) := by decide +kernel
theorem dJ0_checkIndex_df160_0 : decode cJ0_checkIndex_df160 0 = .ok (.iload_n 0, 1) := by decide +kernel
theorem dJ0_checkIndex_df160_1 : decode cJ0_checkIndex_df160 1 = .ok (.iload_n 1, 1) := by decide +kernel
theorem dJ0_checkIndex_df160_2 : decode cJ0_checkIndex_df160 2 = .ok (.getstatic 1053, 3) := by decide +kernel
