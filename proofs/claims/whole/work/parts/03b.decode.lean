theorem dX3_openBehindNumber_22 : decode cX3_openBehindNumber 22 = .ok (.ireturn, 1) := by decide +kernel
theorem dX3_pullOf_0 : decode cX3_pullOf 0 = .ok (.aload_n 0, 1) := by decide +kernel
theorem dX3_pullOf_1 : decode cX3_pullOf 1 = .ok (.iload_n 1, 1) := by decide +kernel
theorem dX3_pullOf_2 : decode cX3_pullOf 2 = .ok (.invokevirtual 55, 3) := by decide +kernel
theorem dX3_pullOf_5 : decode cX3_pullOf 5 = .ok (.istore_n 2, 1) := by decide +kernel
theorem dX3_pullOf_6 : decode cX3_pullOf 6 = .ok (.aload_n 0, 1) := by decide +kernel
theorem dX3_pullOf_7 : decode cX3_pullOf 7 = .ok (.getfield 9, 3) := by decide +kernel
theorem dX3_pullOf_10 : decode cX3_pullOf 10 = .ok (.aload_n 0, 1) := by decide +kernel
theorem dX3_pullOf_11 : decode cX3_pullOf 11 = .ok (.getfield 15, 3) := by decide +kernel
theorem dX3_pullOf_14 : decode cX3_pullOf 14 = .ok (.iload_n 1, 1) := by decide +kernel
theorem dX3_pullOf_15 : decode cX3_pullOf 15 = .ok (.invokevirtual 34, 3) := by decide +kernel
theorem dX3_pullOf_18 : decode cX3_pullOf 18 = .ok (.iconst 1, 1) := by decide +kernel
theorem dX3_pullOf_19 : decode cX3_pullOf 19 = .ok (.invokevirtual 39, 3) := by decide +kernel
theorem dX3_pullOf_22 : decode cX3_pullOf 22 = .ok (.aload_n 0, 1) := by decide +kernel
theorem dX3_pullOf_23 : decode cX3_pullOf 23 = .ok (.getfield 15, 3) := by decide +kernel
theorem dX3_pullOf_26 : decode cX3_pullOf 26 = .ok (.getfield 19, 3) := by decide +kernel
theorem dX3_pullOf_29 : decode cX3_pullOf 29 = .ok (.iconst 5, 1) := by decide +kernel
theorem dX3_pullOf_30 : decode cX3_pullOf 30 = .ok (.iaload, 1) := by decide +kernel
theorem dX3_pullOf_31 : decode cX3_pullOf 31 = .ok (.iload_n 2, 1) := by decide +kernel
theorem dX3_pullOf_32 : decode cX3_pullOf 32 = .ok (.invokestatic 29, 3) := by decide +kernel
theorem dX3_pullOf_35 : decode cX3_pullOf 35 = .ok (.imul, 1) := by decide +kernel
theorem dX3_pullOf_36 : decode cX3_pullOf 36 = .ok (.iadd, 1) := by decide +kernel
theorem dX3_pullOf_37 : decode cX3_pullOf 37 = .ok (.istore_n 3, 1) := by decide +kernel
theorem dX3_pullOf_38 : decode cX3_pullOf 38 = .ok (.aload_n 0, 1) := by decide +kernel
theorem dX3_pullOf_39 : decode cX3_pullOf 39 = .ok (.getfield 15, 3) := by decide +kernel
theorem dX3_pullOf_42 : decode cX3_pullOf 42 = .ok (.iload_n 1, 1) := by decide +kernel
theorem dX3_pullOf_43 : decode cX3_pullOf 43 = .ok (.aload_n 0, 1) := by decide +kernel
theorem dX3_pullOf_44 : decode cX3_pullOf 44 = .ok (.getfield 15, 3) := by decide +kernel
theorem dX3_pullOf_47 : decode cX3_pullOf 47 = .ok (.iload_n 1, 1) := by decide +kernel
theorem dX3_pullOf_48 : decode cX3_pullOf 48 = .ok (.invokevirtual 46, 3) := by decide +kernel
theorem dX3_pullOf_51 : decode cX3_pullOf 51 = .ok (.aload_n 0, 1) := by decide +kernel
theorem dX3_pullOf_52 : decode cX3_pullOf 52 = .ok (.getfield 15, 3) := by decide +kernel
theorem dX3_pullOf_55 : decode cX3_pullOf 55 = .ok (.iload_n 1, 1) := by decide +kernel
theorem dX3_pullOf_56 : decode cX3_pullOf 56 = .ok (.invokevirtual 58, 3) := by decide +kernel
theorem dX3_pullOf_59 : decode cX3_pullOf 59 = .ok (.isub, 1) := by decide +kernel
theorem dX3_pullOf_60 : decode cX3_pullOf 60 = .ok (.iconst 1, 1) := by decide +kernel
theorem dX3_pullOf_61 : decode cX3_pullOf 61 = .ok (.isub, 1) := by decide +kernel
theorem dX3_pullOf_62 : decode cX3_pullOf 62 = .ok (.invokevirtual 61, 3) := by decide +kernel
theorem dX3_pullOf_65 : decode cX3_pullOf 65 = .ok (.istore 4, 2) := by decide +kernel
theorem dX3_pullOf_67 : decode cX3_pullOf 67 = .ok (.aload_n 0, 1) := by decide +kernel
theorem dX3_pullOf_68 : decode cX3_pullOf 68 = .ok (.getfield 9, 3) := by decide +kernel
theorem dX3_pullOf_71 : decode cX3_pullOf 71 = .ok (.iload 4, 2) := by decide +kernel
theorem dX3_pullOf_73 : decode cX3_pullOf 73 = .ok (.iconst 4, 1) := by decide +kernel
theorem dX3_pullOf_74 : decode cX3_pullOf 74 = .ok (.invokevirtual 64, 3) := by decide +kernel
theorem dX3_pullOf_77 : decode cX3_pullOf 77 = .ok (.iload_n 2, 1) := by decide +kernel
theorem dX3_pullOf_78 : decode cX3_pullOf 78 = .ok (.iand, 1) := by decide +kernel
theorem dX3_pullOf_79 : decode cX3_pullOf 79 = .ok (.ifCond .eq 15, 3) := by decide +kernel
theorem dX3_pullOf_82 : decode cX3_pullOf 82 = .ok (.iload_n 3, 1) := by decide +kernel
theorem dX3_pullOf_83 : decode cX3_pullOf 83 = .ok (.aload_n 0, 1) := by decide +kernel
theorem dX3_pullOf_84 : decode cX3_pullOf 84 = .ok (.getfield 15, 3) := by decide +kernel
theorem dX3_pullOf_87 : decode cX3_pullOf 87 = .ok (.getfield 19, 3) := by decide +kernel
theorem dX3_pullOf_90 : decode cX3_pullOf 90 = .ok (.iconst 4, 1) := by decide +kernel
theorem dX3_pullOf_91 : decode cX3_pullOf 91 = .ok (.iaload, 1) := by decide +kernel
theorem dX3_pullOf_92 : decode cX3_pullOf 92 = .ok (.iadd, 1) := by decide +kernel
theorem dX3_pullOf_93 : decode cX3_pullOf 93 = .ok (.istore_n 3, 1) := by decide +kernel
theorem dX3_pullOf_94 : decode cX3_pullOf 94 = .ok (.iload_n 1, 1) := by decide +kernel
theorem dX3_pullOf_95 : decode cX3_pullOf 95 = .ok (.iconst 4, 1) := by decide +kernel
theorem dX3_pullOf_96 : decode cX3_pullOf 96 = .ok (.if_icmp .ge 7, 3) := by decide +kernel
theorem dX3_pullOf_99 : decode cX3_pullOf 99 = .ok (.iconst 0, 1) := by decide +kernel
theorem dX3_pullOf_100 : decode cX3_pullOf 100 = .ok (.goto 20, 3) := by decide +kernel
theorem dX3_pullOf_103 : decode cX3_pullOf 103 = .ok (.aload_n 0, 1) := by decide +kernel
theorem dX3_pullOf_104 : decode cX3_pullOf 104 = .ok (.getfield 15, 3) := by decide +kernel
theorem dX3_pullOf_107 : decode cX3_pullOf 107 = .ok (.aload_n 0, 1) := by decide +kernel
theorem dX3_pullOf_108 : decode cX3_pullOf 108 = .ok (.getfield 15, 3) := by decide +kernel
theorem dX3_pullOf_111 : decode cX3_pullOf 111 = .ok (.iload_n 1, 1) := by decide +kernel
theorem dX3_pullOf_112 : decode cX3_pullOf 112 = .ok (.iconst 4, 1) := by decide +kernel
theorem dX3_pullOf_113 : decode cX3_pullOf 113 = .ok (.isub, 1) := by decide +kernel
theorem dX3_pullOf_114 : decode cX3_pullOf 114 = .ok (.invokevirtual 46, 3) := by decide +kernel
theorem dX3_pullOf_117 : decode cX3_pullOf 117 = .ok (.invokevirtual 49, 3) := by decide +kernel
theorem dX3_pullOf_120 : decode cX3_pullOf 120 = .ok (.istore 5, 2) := by decide +kernel
theorem dX3_pullOf_122 : decode cX3_pullOf 122 = .ok (.iload_n 3, 1) := by decide +kernel
theorem dX3_pullOf_123 : decode cX3_pullOf 123 = .ok (.aload_n 0, 1) := by decide +kernel
theorem dX3_pullOf_124 : decode cX3_pullOf 124 = .ok (.getfield 15, 3) := by decide +kernel
theorem dX3_pullOf_127 : decode cX3_pullOf 127 = .ok (.getfield 19, 3) := by decide +kernel
theorem dX3_pullOf_130 : decode cX3_pullOf 130 = .ok (.bipush 6, 2) := by decide +kernel
theorem dX3_pullOf_132 : decode cX3_pullOf 132 = .ok (.iaload, 1) := by decide +kernel
theorem dX3_pullOf_133 : decode cX3_pullOf 133 = .ok (.iload_n 2, 1) := by decide +kernel
theorem dX3_pullOf_134 : decode cX3_pullOf 134 = .ok (.aload_n 0, 1) := by decide +kernel
theorem dX3_pullOf_135 : decode cX3_pullOf 135 = .ok (.getfield 9, 3) := by decide +kernel
theorem dX3_pullOf_138 : decode cX3_pullOf 138 = .ok (.iload 5, 2) := by decide +kernel
theorem dX3_pullOf_140 : decode cX3_pullOf 140 = .ok (.iconst 4, 1) := by decide +kernel
theorem dX3_pullOf_141 : decode cX3_pullOf 141 = .ok (.invokevirtual 43, 3) := by decide +kernel
theorem dX3_pullOf_144 : decode cX3_pullOf 144 = .ok (.iand, 1) := by decide +kernel
theorem dX3_pullOf_145 : decode cX3_pullOf 145 = .ok (.invokestatic 29, 3) := by decide +kernel
theorem dX3_pullOf_148 : decode cX3_pullOf 148 = .ok (.imul, 1) := by decide +kernel
theorem dX3_pullOf_149 : decode cX3_pullOf 149 = .ok (.isub, 1) := by decide +kernel
theorem dX3_pullOf_150 : decode cX3_pullOf 150 = .ok (.ireturn, 1) := by decide +kernel
theorem dX3_readersBehind_0 : decode cX3_readersBehind 0 = .ok (.ldc2_w 67, 3) := by decide +kernel
theorem dX3_readersBehind_3 : decode cX3_readersBehind 3 = .ok (.lstore_n 2, 1) := by decide +kernel
theorem dX3_readersBehind_4 : decode cX3_readersBehind 4 = .ok (.iconst 0, 1) := by decide +kernel
theorem dX3_readersBehind_5 : decode cX3_readersBehind 5 = .ok (.istore 4, 2) := by decide +kernel
theorem dX3_readersBehind_7 : decode cX3_readersBehind 7 = .ok (.iload 4, 2) := by decide +kernel
theorem dX3_readersBehind_9 : decode cX3_readersBehind 9 = .ok (.iload_n 1, 1) := by decide +kernel
theorem dX3_readersBehind_10 : decode cX3_readersBehind 10 = .ok (.if_icmp .gt 49, 3) := by decide +kernel
theorem dX3_readersBehind_13 : decode cX3_readersBehind 13 = .ok (.lload_n 2, 1) := by decide +kernel
theorem dX3_readersBehind_14 : decode cX3_readersBehind 14 = .ok (.bipush 100, 2) := by decide +kernel
theorem dX3_readersBehind_16 : decode cX3_readersBehind 16 = .ok (.aload_n 0, 1) := by decide +kernel
theorem dX3_readersBehind_17 : decode cX3_readersBehind 17 = .ok (.getfield 15, 3) := by decide +kernel
theorem dX3_readersBehind_20 : decode cX3_readersBehind 20 = .ok (.getfield 19, 3) := by decide +kernel
theorem dX3_readersBehind_23 : decode cX3_readersBehind 23 = .ok (.bipush 7, 2) := by decide +kernel
theorem dX3_readersBehind_25 : decode cX3_readersBehind 25 = .ok (.iaload, 1) := by decide +kernel
theorem dX3_readersBehind_26 : decode cX3_readersBehind 26 = .ok (.isub, 1) := by decide +kernel
theorem dX3_readersBehind_27 : decode cX3_readersBehind 27 = .ok (.aload_n 0, 1) := by decide +kernel
theorem dX3_readersBehind_28 : decode cX3_readersBehind 28 = .ok (.iload 4, 2) := by decide +kernel
theorem dX3_readersBehind_30 : decode cX3_readersBehind 30 = .ok (.invokevirtual 69, 3) := by decide +kernel
theorem dX3_readersBehind_33 : decode cX3_readersBehind 33 = .ok (.iadd, 1) := by decide +kernel
theorem dX3_readersBehind_34 : decode cX3_readersBehind 34 = .ok (.i2l, 1) := by decide +kernel
theorem dX3_readersBehind_35 : decode cX3_readersBehind 35 = .ok (.lmul, 1) := by decide +kernel
theorem dX3_readersBehind_36 : decode cX3_readersBehind 36 = .ok (.ldc2_w 72, 3) := by decide +kernel
theorem dX3_readersBehind_39 : decode cX3_readersBehind 39 = .ok (.ldiv, 1) := by decide +kernel
theorem dX3_readersBehind_40 : decode cX3_readersBehind 40 = .ok (.lstore_n 2, 1) := by decide +kernel
theorem dX3_readersBehind_41 : decode cX3_readersBehind 41 = .ok (.lconst 0, 1) := by decide +kernel
theorem dX3_readersBehind_42 : decode cX3_readersBehind 42 = .ok (.ldc2_w 74, 3) := by decide +kernel
theorem dX3_readersBehind_45 : decode cX3_readersBehind 45 = .ok (.lload_n 2, 1) := by decide +kernel
theorem dX3_readersBehind_46 : decode cX3_readersBehind 46 = .ok (.invokestatic 76, 3) := by decide +kernel
theorem dX3_readersBehind_49 : decode cX3_readersBehind 49 = .ok (.invokestatic 82, 3) := by decide +kernel
theorem dX3_readersBehind_52 : decode cX3_readersBehind 52 = .ok (.lstore_n 2, 1) := by decide +kernel
theorem dX3_readersBehind_53 : decode cX3_readersBehind 53 = .ok (.iinc 4 1, 3) := by decide +kernel
theorem dX3_readersBehind_56 : decode cX3_readersBehind 56 = .ok (.goto (-49), 3) := by decide +kernel
theorem dX3_readersBehind_59 : decode cX3_readersBehind 59 = .ok (.lload_n 2, 1) := by decide +kernel
theorem dX3_readersBehind_60 : decode cX3_readersBehind 60 = .ok (.l2i, 1) := by decide +kernel
theorem dX3_readersBehind_61 : decode cX3_readersBehind 61 = .ok (.ireturn, 1) := by decide +kernel
theorem dX4_init_0 : decode cX4_init 0 = .ok (.aload_n 0, 1) := by decide +kernel
theorem dX4_init_1 : decode cX4_init 1 = .ok (.invokespecial 3, 3) := by decide +kernel
theorem dX4_init_4 : decode cX4_init 4 = .ok (.aload_n 0, 1) := by decide +kernel
theorem dX4_init_5 : decode cX4_init 5 = .ok (.iconst (-1), 1) := by decide +kernel
theorem dX4_init_6 : decode cX4_init 6 = .ok (.putfield 9, 3) := by decide +kernel
theorem dX4_init_9 : decode cX4_init 9 = .ok (.aload_n 0, 1) := by decide +kernel
theorem dX4_init_10 : decode cX4_init 10 = .ok (.aload_n 1, 1) := by decide +kernel
theorem dX4_init_11 : decode cX4_init 11 = .ok (.putfield 15, 3) := by decide +kernel
theorem dX4_init_14 : decode cX4_init 14 = .ok (.return_, 1) := by decide +kernel
theorem dX4_read_0 : decode cX4_read 0 = .ok (.aload_n 0, 1) := by decide +kernel
theorem dX4_read_1 : decode cX4_read 1 = .ok (.aload_n 1, 1) := by decide +kernel
theorem dX4_read_2 : decode cX4_read 2 = .ok (.putfield 19, 3) := by decide +kernel
theorem dX4_read_5 : decode cX4_read 5 = .ok (.aload_n 0, 1) := by decide +kernel
theorem dX4_read_6 : decode cX4_read 6 = .ok (.getfield 19, 3) := by decide +kernel
theorem dX4_read_9 : decode cX4_read 9 = .ok (.iconst 0, 1) := by decide +kernel
theorem dX4_read_10 : decode cX4_read 10 = .ok (.putfield 23, 3) := by decide +kernel
theorem dX4_read_13 : decode cX4_read 13 = .ok (.aload_n 0, 1) := by decide +kernel
theorem dX4_read_14 : decode cX4_read 14 = .ok (.iconst 0, 1) := by decide +kernel
theorem dX4_read_15 : decode cX4_read 15 = .ok (.putfield 28, 3) := by decide +kernel
theorem dX4_read_18 : decode cX4_read 18 = .ok (.aload_n 0, 1) := by decide +kernel
theorem dX4_read_19 : decode cX4_read 19 = .ok (.iconst 0, 1) := by decide +kernel
theorem dX4_read_20 : decode cX4_read 20 = .ok (.putfield 31, 3) := by decide +kernel
theorem dX4_read_23 : decode cX4_read 23 = .ok (.aload_n 0, 1) := by decide +kernel
theorem dX4_read_24 : decode cX4_read 24 = .ok (.iconst (-1), 1) := by decide +kernel
theorem dX4_read_25 : decode cX4_read 25 = .ok (.putfield 9, 3) := by decide +kernel
theorem dX4_read_28 : decode cX4_read 28 = .ok (.aload_n 0, 1) := by decide +kernel
theorem dX4_read_29 : decode cX4_read 29 = .ok (.iconst 0, 1) := by decide +kernel
theorem dX4_read_30 : decode cX4_read 30 = .ok (.putfield 34, 3) := by decide +kernel
theorem dX4_read_33 : decode cX4_read 33 = .ok (.aload_n 0, 1) := by decide +kernel
theorem dX4_read_34 : decode cX4_read 34 = .ok (.iconst 0, 1) := by decide +kernel
theorem dX4_read_35 : decode cX4_read 35 = .ok (.putfield 37, 3) := by decide +kernel
theorem dX4_read_38 : decode cX4_read 38 = .ok (.aload_n 0, 1) := by decide +kernel
theorem dX4_read_39 : decode cX4_read 39 = .ok (.iconst 0, 1) := by decide +kernel
theorem dX4_read_40 : decode cX4_read 40 = .ok (.putfield 40, 3) := by decide +kernel
theorem dX4_read_43 : decode cX4_read 43 = .ok (.iconst 0, 1) := by decide +kernel
theorem dX4_read_44 : decode cX4_read 44 = .ok (.istore_n 2, 1) := by decide +kernel
theorem dX4_read_45 : decode cX4_read 45 = .ok (.iload_n 2, 1) := by decide +kernel
theorem dX4_read_46 : decode cX4_read 46 = .ok (.bipush 10, 2) := by decide +kernel
theorem dX4_read_48 : decode cX4_read 48 = .ok (.if_icmp .gt 40, 3) := by decide +kernel
theorem dX4_read_51 : decode cX4_read 51 = .ok (.aload_n 0, 1) := by decide +kernel
theorem dX4_read_52 : decode cX4_read 52 = .ok (.getfield 31, 3) := by decide +kernel
theorem dX4_read_55 : decode cX4_read 55 = .ok (.ifCond .ne 33, 3) := by decide +kernel
theorem dX4_read_58 : decode cX4_read 58 = .ok (.aload_n 0, 1) := by decide +kernel
theorem dX4_read_59 : decode cX4_read 59 = .ok (.invokevirtual 43, 3) := by decide +kernel
theorem dX4_read_62 : decode cX4_read 62 = .ok (.aload_n 0, 1) := by decide +kernel
theorem dX4_read_63 : decode cX4_read 63 = .ok (.getfield 28, 3) := by decide +kernel
theorem dX4_read_66 : decode cX4_read 66 = .ok (.aload_n 0, 1) := by decide +kernel
theorem dX4_read_67 : decode cX4_read 67 = .ok (.getfield 15, 3) := by decide +kernel
theorem dX4_read_70 : decode cX4_read 70 = .ok (.getfield 46, 3) := by decide +kernel
theorem dX4_read_73 : decode cX4_read 73 = .ok (.if_icmp .lt 5, 3) := by decide +kernel
theorem dX4_read_76 : decode cX4_read 76 = .ok (.iconst 0, 1) := by decide +kernel
theorem dX4_read_77 : decode cX4_read 77 = .ok (.ireturn, 1) := by decide +kernel
theorem dX4_read_78 : decode cX4_read 78 = .ok (.aload_n 0, 1) := by decide +kernel
theorem dX4_read_79 : decode cX4_read 79 = .ok (.invokevirtual 51, 3) := by decide +kernel
theorem dX4_read_82 : decode cX4_read 82 = .ok (.iinc 2 1, 3) := by decide +kernel
theorem dX4_read_85 : decode cX4_read 85 = .ok (.goto (-40), 3) := by decide +kernel
theorem dX4_read_88 : decode cX4_read 88 = .ok (.aload_n 0, 1) := by decide +kernel
theorem dX4_read_89 : decode cX4_read 89 = .ok (.getfield 31, 3) := by decide +kernel
theorem dX4_read_92 : decode cX4_read 92 = .ok (.ireturn, 1) := by decide +kernel
theorem dX4_fail_0 : decode cX4_fail 0 = .ok (.aload_n 0, 1) := by decide +kernel
theorem dX4_fail_1 : decode cX4_fail 1 = .ok (.iload_n 1, 1) := by decide +kernel
theorem dX4_fail_2 : decode cX4_fail 2 = .ok (.putfield 31, 3) := by decide +kernel
theorem dX4_fail_5 : decode cX4_fail 5 = .ok (.aload_n 0, 1) := by decide +kernel
theorem dX4_fail_6 : decode cX4_fail 6 = .ok (.iload_n 2, 1) := by decide +kernel
theorem dX4_fail_7 : decode cX4_fail 7 = .ok (.putfield 9, 3) := by decide +kernel
theorem dX4_fail_10 : decode cX4_fail 10 = .ok (.return_, 1) := by decide +kernel
theorem dX4_skipBlanks_0 : decode cX4_skipBlanks 0 = .ok (.aload_n 0, 1) := by decide +kernel
theorem dX4_skipBlanks_1 : decode cX4_skipBlanks 1 = .ok (.getfield 28, 3) := by decide +kernel
theorem dX4_skipBlanks_4 : decode cX4_skipBlanks 4 = .ok (.aload_n 0, 1) := by decide +kernel
theorem dX4_skipBlanks_5 : decode cX4_skipBlanks 5 = .ok (.getfield 15, 3) := by decide +kernel
theorem dX4_skipBlanks_8 : decode cX4_skipBlanks 8 = .ok (.getfield 46, 3) := by decide +kernel
theorem dX4_skipBlanks_11 : decode cX4_skipBlanks 11 = .ok (.if_icmp .ge 32, 3) := by decide +kernel
theorem dX4_skipBlanks_14 : decode cX4_skipBlanks 14 = .ok (.aload_n 0, 1) := by decide +kernel
theorem dX4_skipBlanks_15 : decode cX4_skipBlanks 15 = .ok (.getfield 15, 3) := by decide +kernel
theorem dX4_skipBlanks_18 : decode cX4_skipBlanks 18 = .ok (.aload_n 0, 1) := by decide +kernel
theorem dX4_skipBlanks_19 : decode cX4_skipBlanks 19 = .ok (.getfield 28, 3) := by decide +kernel
theorem dX4_skipBlanks_22 : decode cX4_skipBlanks 22 = .ok (.invokevirtual 54, 3) := by decide +kernel
theorem dX4_skipBlanks_25 : decode cX4_skipBlanks 25 = .ok (.bipush 32, 2) := by decide +kernel
theorem dX4_skipBlanks_27 : decode cX4_skipBlanks 27 = .ok (.if_icmp .ne 16, 3) := by decide +kernel
theorem dX4_skipBlanks_30 : decode cX4_skipBlanks 30 = .ok (.aload_n 0, 1) := by decide +kernel
theorem dX4_skipBlanks_31 : decode cX4_skipBlanks 31 = .ok (.dup, 1) := by decide +kernel
theorem dX4_skipBlanks_32 : decode cX4_skipBlanks 32 = .ok (.getfield 28, 3) := by decide +kernel
theorem dX4_skipBlanks_35 : decode cX4_skipBlanks 35 = .ok (.iconst 1, 1) := by decide +kernel
theorem dX4_skipBlanks_36 : decode cX4_skipBlanks 36 = .ok (.iadd, 1) := by decide +kernel
theorem dX4_skipBlanks_37 : decode cX4_skipBlanks 37 = .ok (.putfield 28, 3) := by decide +kernel
theorem dX4_skipBlanks_40 : decode cX4_skipBlanks 40 = .ok (.goto (-40), 3) := by decide +kernel
theorem dX4_skipBlanks_43 : decode cX4_skipBlanks 43 = .ok (.return_, 1) := by decide +kernel
theorem dX4_readClause_0 : decode cX4_readClause 0 = .ok (.aload_n 0, 1) := by decide +kernel
theorem dX4_readClause_1 : decode cX4_readClause 1 = .ok (.getfield 28, 3) := by decide +kernel
theorem dX4_readClause_4 : decode cX4_readClause 4 = .ok (.istore_n 1, 1) := by decide +kernel
theorem dX4_readClause_5 : decode cX4_readClause 5 = .ok (.aload_n 0, 1) := by decide +kernel
theorem dX4_readClause_6 : decode cX4_readClause 6 = .ok (.invokevirtual 57, 3) := by decide +kernel
theorem dX4_readClause_9 : decode cX4_readClause 9 = .ok (.ifCond .eq 10, 3) := by decide +kernel
theorem dX4_readClause_12 : decode cX4_readClause 12 = .ok (.aload_n 0, 1) := by decide +kernel
theorem dX4_readClause_13 : decode cX4_readClause 13 = .ok (.iconst 1, 1) := by decide +kernel
theorem dX4_readClause_14 : decode cX4_readClause 14 = .ok (.iload_n 1, 1) := by decide +kernel
theorem dX4_readClause_15 : decode cX4_readClause 15 = .ok (.invokevirtual 61, 3) := by decide +kernel
theorem dX4_readClause_18 : decode cX4_readClause 18 = .ok (.return_, 1) := by decide +kernel
theorem dX4_readClause_19 : decode cX4_readClause 19 = .ok (.aload_n 0, 1) := by decide +kernel
theorem dX4_readClause_20 : decode cX4_readClause 20 = .ok (.getfield 19, 3) := by decide +kernel
theorem dX4_readClause_23 : decode cX4_readClause 23 = .ok (.getfield 23, 3) := by decide +kernel
theorem dX4_readClause_26 : decode cX4_readClause 26 = .ok (.bipush 10, 2) := by decide +kernel
theorem dX4_readClause_28 : decode cX4_readClause 28 = .ok (.if_icmp .lt 10, 3) := by decide +kernel
theorem dX4_readClause_31 : decode cX4_readClause 31 = .ok (.aload_n 0, 1) := by decide +kernel
theorem dX4_readClause_32 : decode cX4_readClause 32 = .ok (.iconst 5, 1) := by decide +kernel
theorem dX4_readClause_33 : decode cX4_readClause 33 = .ok (.iload_n 1, 1) := by decide +kernel
theorem dX4_readClause_34 : decode cX4_readClause 34 = .ok (.invokevirtual 61, 3) := by decide +kernel
theorem dX4_readClause_37 : decode cX4_readClause 37 = .ok (.return_, 1) := by decide +kernel
theorem dX4_readClause_38 : decode cX4_readClause 38 = .ok (.aload_n 0, 1) := by decide +kernel
theorem dX4_readClause_39 : decode cX4_readClause 39 = .ok (.getfield 19, 3) := by decide +kernel
theorem dX4_readClause_42 : decode cX4_readClause 42 = .ok (.aload_n 0, 1) := by decide +kernel
theorem dX4_readClause_43 : decode cX4_readClause 43 = .ok (.getfield 19, 3) := by decide +kernel
theorem dX4_readClause_46 : decode cX4_readClause 46 = .ok (.getfield 23, 3) := by decide +kernel
theorem dX4_readClause_49 : decode cX4_readClause 49 = .ok (.invokevirtual 65, 3) := by decide +kernel
theorem dX4_readClause_52 : decode cX4_readClause 52 = .ok (.aload_n 0, 1) := by decide +kernel
theorem dX4_readClause_53 : decode cX4_readClause 53 = .ok (.iconst 0, 1) := by decide +kernel
theorem dX4_readClause_54 : decode cX4_readClause 54 = .ok (.invokevirtual 69, 3) := by decide +kernel
theorem dX4_readClause_57 : decode cX4_readClause 57 = .ok (.iconst 0, 1) := by decide +kernel
theorem dX4_readClause_58 : decode cX4_readClause 58 = .ok (.istore_n 2, 1) := by decide +kernel
theorem dX4_readClause_59 : decode cX4_readClause 59 = .ok (.iconst 0, 1) := by decide +kernel
theorem dX4_readClause_60 : decode cX4_readClause 60 = .ok (.istore_n 3, 1) := by decide +kernel
theorem dX4_readClause_61 : decode cX4_readClause 61 = .ok (.iload_n 3, 1) := by decide +kernel
theorem dX4_readClause_62 : decode cX4_readClause 62 = .ok (.bipush 9, 2) := by decide +kernel
theorem dX4_readClause_64 : decode cX4_readClause 64 = .ok (.if_icmp .ge 60, 3) := by decide +kernel
theorem dX4_readClause_67 : decode cX4_readClause 67 = .ok (.aload_n 0, 1) := by decide +kernel
theorem dX4_readClause_68 : decode cX4_readClause 68 = .ok (.getfield 31, 3) := by decide +kernel
theorem dX4_readClause_71 : decode cX4_readClause 71 = .ok (.ifCond .ne 53, 3) := by decide +kernel
theorem dX4_readClause_74 : decode cX4_readClause 74 = .ok (.aload_n 0, 1) := by decide +kernel
theorem dX4_readClause_75 : decode cX4_readClause 75 = .ok (.invokevirtual 43, 3) := by decide +kernel
theorem dX4_readClause_78 : decode cX4_readClause 78 = .ok (.aload_n 0, 1) := by decide +kernel
theorem dX4_readClause_79 : decode cX4_readClause 79 = .ok (.getfield 15, 3) := by decide +kernel
theorem dX4_readClause_82 : decode cX4_readClause 82 = .ok (.aload_n 0, 1) := by decide +kernel
theorem dX4_readClause_83 : decode cX4_readClause 83 = .ok (.getfield 28, 3) := by decide +kernel
theorem dX4_readClause_86 : decode cX4_readClause 86 = .ok (.invokevirtual 54, 3) := by decide +kernel
theorem dX4_readClause_89 : decode cX4_readClause 89 = .ok (.bipush 59, 2) := by decide +kernel
theorem dX4_readClause_91 : decode cX4_readClause 91 = .ok (.if_icmp .ne 21, 3) := by decide +kernel
theorem dX4_readClause_94 : decode cX4_readClause 94 = .ok (.aload_n 0, 1) := by decide +kernel
theorem dX4_readClause_95 : decode cX4_readClause 95 = .ok (.dup, 1) := by decide +kernel
theorem dX4_readClause_96 : decode cX4_readClause 96 = .ok (.getfield 28, 3) := by decide +kernel
theorem dX4_readClause_99 : decode cX4_readClause 99 = .ok (.iconst 1, 1) := by decide +kernel
theorem dX4_readClause_100 : decode cX4_readClause 100 = .ok (.iadd, 1) := by decide +kernel
theorem dX4_readClause_101 : decode cX4_readClause 101 = .ok (.putfield 28, 3) := by decide +kernel
theorem dX4_readClause_104 : decode cX4_readClause 104 = .ok (.aload_n 0, 1) := by decide +kernel
theorem dX4_readClause_105 : decode cX4_readClause 105 = .ok (.getfield 19, 3) := by decide +kernel
theorem dX4_readClause_108 : decode cX4_readClause 108 = .ok (.invokevirtual 72, 3) := by decide +kernel
theorem dX4_readClause_111 : decode cX4_readClause 111 = .ok (.return_, 1) := by decide +kernel
theorem dX4_readClause_112 : decode cX4_readClause 112 = .ok (.aload_n 0, 1) := by decide +kernel
theorem dX4_readClause_113 : decode cX4_readClause 113 = .ok (.iload_n 2, 1) := by decide +kernel
theorem dX4_readClause_114 : decode cX4_readClause 114 = .ok (.invokevirtual 75, 3) := by decide +kernel
theorem dX4_readClause_117 : decode cX4_readClause 117 = .ok (.istore_n 2, 1) := by decide +kernel
theorem dX4_readClause_118 : decode cX4_readClause 118 = .ok (.iinc 3 1, 3) := by decide +kernel
theorem dX4_readClause_121 : decode cX4_readClause 121 = .ok (.goto (-60), 3) := by decide +kernel
theorem dX4_readClause_124 : decode cX4_readClause 124 = .ok (.return_, 1) := by decide +kernel
theorem dX4_readPart_0 : decode cX4_readPart 0 = .ok (.aload_n 0, 1) := by decide +kernel
theorem dX4_readPart_1 : decode cX4_readPart 1 = .ok (.getfield 28, 3) := by decide +kernel
theorem dX4_readPart_4 : decode cX4_readPart 4 = .ok (.istore_n 2, 1) := by decide +kernel
theorem dX4_readPart_5 : decode cX4_readPart 5 = .ok (.aload_n 0, 1) := by decide +kernel
theorem dX4_readPart_6 : decode cX4_readPart 6 = .ok (.invokevirtual 57, 3) := by decide +kernel
theorem dX4_readPart_9 : decode cX4_readPart 9 = .ok (.istore_n 3, 1) := by decide +kernel
theorem dX4_readPart_10 : decode cX4_readPart 10 = .ok (.iload_n 3, 1) := by decide +kernel
theorem dX4_readPart_11 : decode cX4_readPart 11 = .ok (.iload_n 1, 1) := by decide +kernel
theorem dX4_readPart_12 : decode cX4_readPart 12 = .ok (.if_icmp .gt 11, 3) := by decide +kernel
theorem dX4_readPart_15 : decode cX4_readPart 15 = .ok (.aload_n 0, 1) := by decide +kernel
theorem dX4_readPart_16 : decode cX4_readPart 16 = .ok (.iconst 1, 1) := by decide +kernel
theorem dX4_readPart_17 : decode cX4_readPart 17 = .ok (.iload_n 2, 1) := by decide +kernel
theorem dX4_readPart_18 : decode cX4_readPart 18 = .ok (.invokevirtual 61, 3) := by decide +kernel
theorem dX4_readPart_21 : decode cX4_readPart 21 = .ok (.iload_n 1, 1) := by decide +kernel
theorem dX4_readPart_22 : decode cX4_readPart 22 = .ok (.ireturn, 1) := by decide +kernel
theorem dX4_readPart_23 : decode cX4_readPart 23 = .ok (.aload_n 0, 1) := by decide +kernel
theorem dX4_readPart_24 : decode cX4_readPart 24 = .ok (.iload_n 3, 1) := by decide +kernel
theorem dX4_readPart_25 : decode cX4_readPart 25 = .ok (.invokevirtual 69, 3) := by decide +kernel
theorem dX4_readPart_28 : decode cX4_readPart 28 = .ok (.iconst 0, 1) := by decide +kernel
theorem dX4_readPart_29 : decode cX4_readPart 29 = .ok (.istore 4, 2) := by decide +kernel
theorem dX4_readPart_31 : decode cX4_readPart 31 = .ok (.iload 4, 2) := by decide +kernel
theorem dX4_readPart_33 : decode cX4_readPart 33 = .ok (.bipush 10, 2) := by decide +kernel
theorem dX4_readPart_35 : decode cX4_readPart 35 = .ok (.if_icmp .ge 29, 3) := by decide +kernel
theorem dX4_readPart_38 : decode cX4_readPart 38 = .ok (.aload_n 0, 1) := by decide +kernel
theorem dX4_readPart_39 : decode cX4_readPart 39 = .ok (.getfield 31, 3) := by decide +kernel
theorem dX4_readPart_42 : decode cX4_readPart 42 = .ok (.ifCond .ne 22, 3) := by decide +kernel
theorem dX4_readPart_45 : decode cX4_readPart 45 = .ok (.aload_n 0, 1) := by decide +kernel
theorem dX4_readPart_46 : decode cX4_readPart 46 = .ok (.iload_n 3, 1) := by decide +kernel
theorem dX4_readPart_47 : decode cX4_readPart 47 = .ok (.invokevirtual 78, 3) := by decide +kernel
theorem dX4_readPart_50 : decode cX4_readPart 50 = .ok (.ifCond .eq 14, 3) := by decide +kernel
theorem dX4_readPart_53 : decode cX4_readPart 53 = .ok (.aload_n 0, 1) := by decide +kernel
theorem dX4_readPart_54 : decode cX4_readPart 54 = .ok (.iload_n 3, 1) := by decide +kernel
theorem dX4_readPart_55 : decode cX4_readPart 55 = .ok (.invokevirtual 69, 3) := by decide +kernel
theorem dX4_readPart_58 : decode cX4_readPart 58 = .ok (.iinc 4 1, 3) := by decide +kernel
theorem dX4_readPart_61 : decode cX4_readPart 61 = .ok (.goto (-30), 3) := by decide +kernel
theorem dX4_readPart_64 : decode cX4_readPart 64 = .ok (.iload_n 3, 1) := by decide +kernel
theorem dX4_readPart_65 : decode cX4_readPart 65 = .ok (.ireturn, 1) := by decide +kernel
theorem dX4_takeComma_0 : decode cX4_takeComma 0 = .ok (.aload_n 0, 1) := by decide +kernel
theorem dX4_takeComma_1 : decode cX4_takeComma 1 = .ok (.invokevirtual 43, 3) := by decide +kernel
theorem dX4_takeComma_4 : decode cX4_takeComma 4 = .ok (.iload_n 1, 1) := by decide +kernel
theorem dX4_takeComma_5 : decode cX4_takeComma 5 = .ok (.invokestatic 82, 3) := by decide +kernel
theorem dX4_takeComma_8 : decode cX4_takeComma 8 = .ok (.ifCond .eq 19, 3) := by decide +kernel
theorem dX4_takeComma_11 : decode cX4_takeComma 11 = .ok (.aload_n 0, 1) := by decide +kernel
theorem dX4_takeComma_12 : decode cX4_takeComma 12 = .ok (.getfield 15, 3) := by decide +kernel
theorem dX4_takeComma_15 : decode cX4_takeComma 15 = .ok (.aload_n 0, 1) := by decide +kernel
theorem dX4_takeComma_16 : decode cX4_takeComma 16 = .ok (.getfield 28, 3) := by decide +kernel
theorem dX4_takeComma_19 : decode cX4_takeComma 19 = .ok (.invokevirtual 54, 3) := by decide +kernel
theorem dX4_takeComma_22 : decode cX4_takeComma 22 = .ok (.bipush 44, 2) := by decide +kernel
theorem dX4_takeComma_24 : decode cX4_takeComma 24 = .ok (.if_icmp .eq 5, 3) := by decide +kernel
theorem dX4_takeComma_27 : decode cX4_takeComma 27 = .ok (.iconst 0, 1) := by decide +kernel
theorem dX4_takeComma_28 : decode cX4_takeComma 28 = .ok (.ireturn, 1) := by decide +kernel
theorem dX4_takeComma_29 : decode cX4_takeComma 29 = .ok (.aload_n 0, 1) := by decide +kernel
theorem dX4_takeComma_30 : decode cX4_takeComma 30 = .ok (.dup, 1) := by decide +kernel
theorem dX4_takeComma_31 : decode cX4_takeComma 31 = .ok (.getfield 28, 3) := by decide +kernel
theorem dX4_takeComma_34 : decode cX4_takeComma 34 = .ok (.iconst 1, 1) := by decide +kernel
theorem dX4_takeComma_35 : decode cX4_takeComma 35 = .ok (.iadd, 1) := by decide +kernel
theorem dX4_takeComma_36 : decode cX4_takeComma 36 = .ok (.putfield 28, 3) := by decide +kernel
theorem dX4_takeComma_39 : decode cX4_takeComma 39 = .ok (.iconst 1, 1) := by decide +kernel
theorem dX4_takeComma_40 : decode cX4_takeComma 40 = .ok (.ireturn, 1) := by decide +kernel
theorem dX4_takeWord_0 : decode cX4_takeWord 0 = .ok (.aload_n 0, 1) := by decide +kernel
theorem dX4_takeWord_1 : decode cX4_takeWord 1 = .ok (.getfield 28, 3) := by decide +kernel
theorem dX4_takeWord_4 : decode cX4_takeWord 4 = .ok (.istore_n 1, 1) := by decide +kernel
theorem dX4_takeWord_5 : decode cX4_takeWord 5 = .ok (.iload_n 1, 1) := by decide +kernel
theorem dX4_takeWord_6 : decode cX4_takeWord 6 = .ok (.aload_n 0, 1) := by decide +kernel
theorem dX4_takeWord_7 : decode cX4_takeWord 7 = .ok (.getfield 15, 3) := by decide +kernel
theorem dX4_takeWord_10 : decode cX4_takeWord 10 = .ok (.getfield 46, 3) := by decide +kernel
theorem dX4_takeWord_13 : decode cX4_takeWord 13 = .ok (.if_icmp .ge 35, 3) := by decide +kernel
theorem dX4_takeWord_16 : decode cX4_takeWord 16 = .ok (.aload_n 0, 1) := by decide +kernel
theorem dX4_takeWord_17 : decode cX4_takeWord 17 = .ok (.getfield 15, 3) := by decide +kernel
theorem dX4_takeWord_20 : decode cX4_takeWord 20 = .ok (.iload_n 1, 1) := by decide +kernel
theorem dX4_takeWord_21 : decode cX4_takeWord 21 = .ok (.invokevirtual 54, 3) := by decide +kernel
theorem dX4_takeWord_24 : decode cX4_takeWord 24 = .ok (.bipush 97, 2) := by decide +kernel
theorem dX4_takeWord_26 : decode cX4_takeWord 26 = .ok (.if_icmp .lt 22, 3) := by decide +kernel
theorem dX4_takeWord_29 : decode cX4_takeWord 29 = .ok (.aload_n 0, 1) := by decide +kernel
theorem dX4_takeWord_30 : decode cX4_takeWord 30 = .ok (.getfield 15, 3) := by decide +kernel
theorem dX4_takeWord_33 : decode cX4_takeWord 33 = .ok (.iload_n 1, 1) := by decide +kernel
theorem dX4_takeWord_34 : decode cX4_takeWord 34 = .ok (.invokevirtual 54, 3) := by decide +kernel
theorem dX4_takeWord_37 : decode cX4_takeWord 37 = .ok (.bipush 122, 2) := by decide +kernel
theorem dX4_takeWord_39 : decode cX4_takeWord 39 = .ok (.if_icmp .gt 9, 3) := by decide +kernel
theorem dX4_takeWord_42 : decode cX4_takeWord 42 = .ok (.iinc 1 1, 3) := by decide +kernel
theorem dX4_takeWord_45 : decode cX4_takeWord 45 = .ok (.goto (-40), 3) := by decide +kernel
theorem dX4_takeWord_48 : decode cX4_takeWord 48 = .ok (.iconst 0, 1) := by decide +kernel
theorem dX4_takeWord_49 : decode cX4_takeWord 49 = .ok (.istore_n 2, 1) := by decide +kernel
theorem dX4_takeWord_50 : decode cX4_takeWord 50 = .ok (.iload_n 2, 1) := by decide +kernel
theorem dX4_takeWord_51 : decode cX4_takeWord 51 = .ok (.bipush 9, 2) := by decide +kernel
theorem dX4_takeWord_53 : decode cX4_takeWord 53 = .ok (.if_icmp .ge 25, 3) := by decide +kernel
theorem dX4_takeWord_56 : decode cX4_takeWord 56 = .ok (.aload_n 0, 1) := by decide +kernel
theorem dX4_takeWord_57 : decode cX4_takeWord 57 = .ok (.iload_n 2, 1) := by decide +kernel
theorem dX4_takeWord_58 : decode cX4_takeWord 58 = .ok (.iload_n 1, 1) := by decide +kernel
theorem dX4_takeWord_59 : decode cX4_takeWord 59 = .ok (.invokevirtual 85, 3) := by decide +kernel
theorem dX4_takeWord_62 : decode cX4_takeWord 62 = .ok (.ifCond .eq 10, 3) := by decide +kernel
theorem dX4_takeWord_65 : decode cX4_takeWord 65 = .ok (.aload_n 0, 1) := by decide +kernel
theorem dX4_takeWord_66 : decode cX4_takeWord 66 = .ok (.iload_n 1, 1) := by decide +kernel
theorem dX4_takeWord_67 : decode cX4_takeWord 67 = .ok (.putfield 28, 3) := by decide +kernel
theorem dX4_takeWord_70 : decode cX4_takeWord 70 = .ok (.iload_n 2, 1) := by decide +kernel
theorem dX4_takeWord_71 : decode cX4_takeWord 71 = .ok (.ireturn, 1) := by decide +kernel
theorem dX4_takeWord_72 : decode cX4_takeWord 72 = .ok (.iinc 2 1, 3) := by decide +kernel
theorem dX4_takeWord_75 : decode cX4_takeWord 75 = .ok (.goto (-25), 3) := by decide +kernel
theorem dX4_takeWord_78 : decode cX4_takeWord 78 = .ok (.iconst (-1), 1) := by decide +kernel
theorem dX4_takeWord_79 : decode cX4_takeWord 79 = .ok (.ireturn, 1) := by decide +kernel
theorem dX4_isWord_0 : decode cX4_isWord 0 = .ok (.iconst 0, 1) := by decide +kernel
theorem dX4_isWord_1 : decode cX4_isWord 1 = .ok (.istore_n 3, 1) := by decide +kernel
theorem dX4_isWord_2 : decode cX4_isWord 2 = .ok (.iload_n 3, 1) := by decide +kernel
theorem dX4_isWord_3 : decode cX4_isWord 3 = .ok (.iconst 5, 1) := by decide +kernel
theorem dX4_isWord_4 : decode cX4_isWord 4 = .ok (.if_icmp .ge 56, 3) := by decide +kernel
theorem dX4_isWord_7 : decode cX4_isWord 7 = .ok (.aload_n 0, 1) := by decide +kernel
theorem dX4_isWord_8 : decode cX4_isWord 8 = .ok (.getfield 28, 3) := by decide +kernel
theorem dX4_isWord_11 : decode cX4_isWord 11 = .ok (.iload_n 3, 1) := by decide +kernel
theorem dX4_isWord_12 : decode cX4_isWord 12 = .ok (.iadd, 1) := by decide +kernel
theorem dX4_isWord_13 : decode cX4_isWord 13 = .ok (.iload_n 2, 1) := by decide +kernel
theorem dX4_isWord_14 : decode cX4_isWord 14 = .ok (.if_icmp .ge 19, 3) := by decide +kernel
theorem dX4_isWord_17 : decode cX4_isWord 17 = .ok (.aload_n 0, 1) := by decide +kernel
theorem dX4_isWord_18 : decode cX4_isWord 18 = .ok (.getfield 15, 3) := by decide +kernel
theorem dX4_isWord_21 : decode cX4_isWord 21 = .ok (.aload_n 0, 1) := by decide +kernel
theorem dX4_isWord_22 : decode cX4_isWord 22 = .ok (.getfield 28, 3) := by decide +kernel
theorem dX4_isWord_25 : decode cX4_isWord 25 = .ok (.iload_n 3, 1) := by decide +kernel
theorem dX4_isWord_26 : decode cX4_isWord 26 = .ok (.iadd, 1) := by decide +kernel
theorem dX4_isWord_27 : decode cX4_isWord 27 = .ok (.invokevirtual 54, 3) := by decide +kernel
theorem dX4_isWord_30 : decode cX4_isWord 30 = .ok (.goto 5, 3) := by decide +kernel
theorem dX4_isWord_33 : decode cX4_isWord 33 = .ok (.bipush 32, 2) := by decide +kernel
theorem dX4_isWord_35 : decode cX4_isWord 35 = .ok (.istore 4, 2) := by decide +kernel
theorem dX4_isWord_37 : decode cX4_isWord 37 = .ok (.iload 4, 2) := by decide +kernel
theorem dX4_isWord_39 : decode cX4_isWord 39 = .ok (.ldc 89, 2) := by decide +kernel
theorem dX4_isWord_41 : decode cX4_isWord 41 = .ok (.iload_n 1, 1) := by decide +kernel
theorem dX4_isWord_42 : decode cX4_isWord 42 = .ok (.iconst 5, 1) := by decide +kernel
theorem dX4_isWord_43 : decode cX4_isWord 43 = .ok (.imul, 1) := by decide +kernel
theorem dX4_isWord_44 : decode cX4_isWord 44 = .ok (.iload_n 3, 1) := by decide +kernel
theorem dX4_isWord_45 : decode cX4_isWord 45 = .ok (.iadd, 1) := by decide +kernel
theorem dX4_isWord_46 : decode cX4_isWord 46 = .ok (.invokevirtual 91, 3) := by decide +kernel
theorem dX4_isWord_49 : decode cX4_isWord 49 = .ok (.if_icmp .eq 5, 3) := by decide +kernel
theorem dX4_isWord_52 : decode cX4_isWord 52 = .ok (.iconst 0, 1) := by decide +kernel
theorem dX4_isWord_53 : decode cX4_isWord 53 = .ok (.ireturn, 1) := by decide +kernel
theorem dX4_isWord_54 : decode cX4_isWord 54 = .ok (.iinc 3 1, 3) := by decide +kernel
theorem dX4_isWord_57 : decode cX4_isWord 57 = .ok (.goto (-55), 3) := by decide +kernel
theorem dX4_isWord_60 : decode cX4_isWord 60 = .ok (.iload_n 2, 1) := by decide +kernel
theorem dX4_isWord_61 : decode cX4_isWord 61 = .ok (.aload_n 0, 1) := by decide +kernel
theorem dX4_isWord_62 : decode cX4_isWord 62 = .ok (.getfield 28, 3) := by decide +kernel
theorem dX4_isWord_65 : decode cX4_isWord 65 = .ok (.isub, 1) := by decide +kernel
theorem dX4_isWord_66 : decode cX4_isWord 66 = .ok (.iconst 5, 1) := by decide +kernel
theorem dX4_isWord_67 : decode cX4_isWord 67 = .ok (.if_icmp .gt 7, 3) := by decide +kernel
theorem dX4_isWord_70 : decode cX4_isWord 70 = .ok (.iconst 1, 1) := by decide +kernel
theorem dX4_isWord_71 : decode cX4_isWord 71 = .ok (.goto 4, 3) := by decide +kernel
theorem dX4_isWord_74 : decode cX4_isWord 74 = .ok (.iconst 0, 1) := by decide +kernel
theorem dX4_isWord_75 : decode cX4_isWord 75 = .ok (.ireturn, 1) := by decide +kernel
theorem dX4_readNumber_0 : decode cX4_readNumber 0 = .ok (.aload_n 0, 1) := by decide +kernel
theorem dX4_readNumber_1 : decode cX4_readNumber 1 = .ok (.invokevirtual 43, 3) := by decide +kernel
theorem dX4_readNumber_4 : decode cX4_readNumber 4 = .ok (.aload_n 0, 1) := by decide +kernel
theorem dX4_readNumber_5 : decode cX4_readNumber 5 = .ok (.getfield 28, 3) := by decide +kernel
theorem dX4_readNumber_8 : decode cX4_readNumber 8 = .ok (.istore_n 2, 1) := by decide +kernel
theorem dX4_readNumber_9 : decode cX4_readNumber 9 = .ok (.iconst 0, 1) := by decide +kernel
theorem dX4_readNumber_10 : decode cX4_readNumber 10 = .ok (.istore_n 3, 1) := by decide +kernel
theorem dX4_readNumber_11 : decode cX4_readNumber 11 = .ok (.aload_n 0, 1) := by decide +kernel
theorem dX4_readNumber_12 : decode cX4_readNumber 12 = .ok (.getfield 28, 3) := by decide +kernel
theorem dX4_readNumber_15 : decode cX4_readNumber 15 = .ok (.aload_n 0, 1) := by decide +kernel
theorem dX4_readNumber_16 : decode cX4_readNumber 16 = .ok (.getfield 15, 3) := by decide +kernel
theorem dX4_readNumber_19 : decode cX4_readNumber 19 = .ok (.getfield 46, 3) := by decide +kernel
theorem dX4_readNumber_22 : decode cX4_readNumber 22 = .ok (.if_icmp .ge 71, 3) := by decide +kernel
theorem dX4_readNumber_25 : decode cX4_readNumber 25 = .ok (.aload_n 0, 1) := by decide +kernel
theorem dX4_readNumber_26 : decode cX4_readNumber 26 = .ok (.getfield 15, 3) := by decide +kernel
theorem dX4_readNumber_29 : decode cX4_readNumber 29 = .ok (.aload_n 0, 1) := by decide +kernel
theorem dX4_readNumber_30 : decode cX4_readNumber 30 = .ok (.getfield 28, 3) := by decide +kernel
theorem dX4_readNumber_33 : decode cX4_readNumber 33 = .ok (.invokevirtual 54, 3) := by decide +kernel
theorem dX4_readNumber_36 : decode cX4_readNumber 36 = .ok (.bipush 48, 2) := by decide +kernel
theorem dX4_readNumber_38 : decode cX4_readNumber 38 = .ok (.if_icmp .lt 55, 3) := by decide +kernel
theorem dX4_readNumber_41 : decode cX4_readNumber 41 = .ok (.aload_n 0, 1) := by decide +kernel
theorem dX4_readNumber_42 : decode cX4_readNumber 42 = .ok (.getfield 15, 3) := by decide +kernel
theorem dX4_readNumber_45 : decode cX4_readNumber 45 = .ok (.aload_n 0, 1) := by decide +kernel
theorem dX4_readNumber_46 : decode cX4_readNumber 46 = .ok (.getfield 28, 3) := by decide +kernel
theorem dX4_readNumber_49 : decode cX4_readNumber 49 = .ok (.invokevirtual 54, 3) := by decide +kernel
theorem dX4_readNumber_52 : decode cX4_readNumber 52 = .ok (.bipush 57, 2) := by decide +kernel
theorem dX4_readNumber_54 : decode cX4_readNumber 54 = .ok (.if_icmp .gt 39, 3) := by decide +kernel
theorem dX4_readNumber_57 : decode cX4_readNumber 57 = .ok (.iload_n 3, 1) := by decide +kernel
theorem dX4_readNumber_58 : decode cX4_readNumber 58 = .ok (.bipush 100, 2) := by decide +kernel
theorem dX4_readNumber_60 : decode cX4_readNumber 60 = .ok (.irem, 1) := by decide +kernel
theorem dX4_readNumber_61 : decode cX4_readNumber 61 = .ok (.bipush 10, 2) := by decide +kernel
theorem dX4_readNumber_63 : decode cX4_readNumber 63 = .ok (.imul, 1) := by decide +kernel
theorem dX4_readNumber_64 : decode cX4_readNumber 64 = .ok (.aload_n 0, 1) := by decide +kernel
theorem dX4_readNumber_65 : decode cX4_readNumber 65 = .ok (.getfield 15, 3) := by decide +kernel
theorem dX4_readNumber_68 : decode cX4_readNumber 68 = .ok (.aload_n 0, 1) := by decide +kernel
theorem dX4_readNumber_69 : decode cX4_readNumber 69 = .ok (.getfield 28, 3) := by decide +kernel
theorem dX4_readNumber_72 : decode cX4_readNumber 72 = .ok (.invokevirtual 54, 3) := by decide +kernel
theorem dX4_readNumber_75 : decode cX4_readNumber 75 = .ok (.iadd, 1) := by decide +kernel
theorem dX4_readNumber_76 : decode cX4_readNumber 76 = .ok (.bipush 48, 2) := by decide +kernel
theorem dX4_readNumber_78 : decode cX4_readNumber 78 = .ok (.isub, 1) := by decide +kernel
theorem dX4_readNumber_79 : decode cX4_readNumber 79 = .ok (.istore_n 3, 1) := by decide +kernel
theorem dX4_readNumber_80 : decode cX4_readNumber 80 = .ok (.aload_n 0, 1) := by decide +kernel
theorem dX4_readNumber_81 : decode cX4_readNumber 81 = .ok (.dup, 1) := by decide +kernel
theorem dX4_readNumber_82 : decode cX4_readNumber 82 = .ok (.getfield 28, 3) := by decide +kernel
theorem dX4_readNumber_85 : decode cX4_readNumber 85 = .ok (.iconst 1, 1) := by decide +kernel
theorem dX4_readNumber_86 : decode cX4_readNumber 86 = .ok (.iadd, 1) := by decide +kernel
theorem dX4_readNumber_87 : decode cX4_readNumber 87 = .ok (.putfield 28, 3) := by decide +kernel
theorem dX4_readNumber_90 : decode cX4_readNumber 90 = .ok (.goto (-79), 3) := by decide +kernel
theorem dX4_readNumber_93 : decode cX4_readNumber 93 = .ok (.aload_n 0, 1) := by decide +kernel
theorem dX4_readNumber_94 : decode cX4_readNumber 94 = .ok (.iload_n 1, 1) := by decide +kernel
theorem dX4_readNumber_95 : decode cX4_readNumber 95 = .ok (.iload_n 3, 1) := by decide +kernel
theorem dX4_readNumber_96 : decode cX4_readNumber 96 = .ok (.aload_n 0, 1) := by decide +kernel
theorem dX4_readNumber_97 : decode cX4_readNumber 97 = .ok (.getfield 28, 3) := by decide +kernel
theorem dX4_readNumber_100 : decode cX4_readNumber 100 = .ok (.iload_n 2, 1) := by decide +kernel
theorem dX4_readNumber_101 : decode cX4_readNumber 101 = .ok (.isub, 1) := by decide +kernel
theorem dX4_readNumber_102 : decode cX4_readNumber 102 = .ok (.invokevirtual 97, 3) := by decide +kernel
theorem dX4_readNumber_105 : decode cX4_readNumber 105 = .ok (.istore 4, 2) := by decide +kernel
theorem dX4_readNumber_107 : decode cX4_readNumber 107 = .ok (.iload 4, 2) := by decide +kernel
theorem dX4_readNumber_109 : decode cX4_readNumber 109 = .ok (.ifCond .eq 11, 3) := by decide +kernel
theorem dX4_readNumber_112 : decode cX4_readNumber 112 = .ok (.aload_n 0, 1) := by decide +kernel
theorem dX4_readNumber_113 : decode cX4_readNumber 113 = .ok (.iload 4, 2) := by decide +kernel
theorem dX4_readNumber_115 : decode cX4_readNumber 115 = .ok (.iload_n 2, 1) := by decide +kernel
theorem dX4_readNumber_116 : decode cX4_readNumber 116 = .ok (.invokevirtual 61, 3) := by decide +kernel
theorem dX4_readNumber_119 : decode cX4_readNumber 119 = .ok (.return_, 1) := by decide +kernel
theorem dX4_readNumber_120 : decode cX4_readNumber 120 = .ok (.aload_n 0, 1) := by decide +kernel
theorem dX4_readNumber_121 : decode cX4_readNumber 121 = .ok (.iload_n 1, 1) := by decide +kernel
theorem dX4_readNumber_122 : decode cX4_readNumber 122 = .ok (.iload_n 3, 1) := by decide +kernel
theorem dX4_readNumber_123 : decode cX4_readNumber 123 = .ok (.invokevirtual 101, 3) := by decide +kernel
theorem dX4_readNumber_126 : decode cX4_readNumber 126 = .ok (.return_, 1) := by decide +kernel
theorem dX4_faultOf_0 : decode cX4_faultOf 0 = .ok (.iload_n 3, 1) := by decide +kernel
theorem dX4_faultOf_1 : decode cX4_faultOf 1 = .ok (.ifCond .ne 5, 3) := by decide +kernel
theorem dX4_faultOf_4 : decode cX4_faultOf 4 = .ok (.iconst 1, 1) := by decide +kernel
theorem dX4_faultOf_5 : decode cX4_faultOf 5 = .ok (.ireturn, 1) := by decide +kernel
theorem dX4_faultOf_6 : decode cX4_faultOf 6 = .ok (.iload_n 3, 1) := by decide +kernel
theorem dX4_faultOf_7 : decode cX4_faultOf 7 = .ok (.iconst 2, 1) := by decide +kernel
theorem dX4_faultOf_8 : decode cX4_faultOf 8 = .ok (.if_icmp .gt 20, 3) := by decide +kernel
theorem dX4_faultOf_11 : decode cX4_faultOf 11 = .ok (.iload_n 2, 1) := by decide +kernel
theorem dX4_faultOf_12 : decode cX4_faultOf 12 = .ok (.getstatic 104, 3) := by decide +kernel
theorem dX4_faultOf_15 : decode cX4_faultOf 15 = .ok (.iload_n 1, 1) := by decide +kernel
theorem dX4_faultOf_16 : decode cX4_faultOf 16 = .ok (.iaload, 1) := by decide +kernel
theorem dX4_faultOf_17 : decode cX4_faultOf 17 = .ok (.if_icmp .gt 11, 3) := by decide +kernel
theorem dX4_faultOf_20 : decode cX4_faultOf 20 = .ok (.iload_n 1, 1) := by decide +kernel
theorem dX4_faultOf_21 : decode cX4_faultOf 21 = .ok (.ifCond .ne 9, 3) := by decide +kernel
theorem dX4_faultOf_24 : decode cX4_faultOf 24 = .ok (.iload_n 2, 1) := by decide +kernel
theorem dX4_faultOf_25 : decode cX4_faultOf 25 = .ok (.ifCond .ne 5, 3) := by decide +kernel
theorem dX4_faultOf_28 : decode cX4_faultOf 28 = .ok (.iconst 2, 1) := by decide +kernel
theorem dX4_faultOf_29 : decode cX4_faultOf 29 = .ok (.ireturn, 1) := by decide +kernel
theorem dX4_faultOf_30 : decode cX4_faultOf 30 = .ok (.iload_n 1, 1) := by decide +kernel
theorem dX4_faultOf_31 : decode cX4_faultOf 31 = .ok (.invokestatic 82, 3) := by decide +kernel
theorem dX4_faultOf_34 : decode cX4_faultOf 34 = .ok (.ifCond .eq 28, 3) := by decide +kernel
theorem dX4_faultOf_37 : decode cX4_faultOf 37 = .ok (.aload_n 0, 1) := by decide +kernel
theorem dX4_faultOf_38 : decode cX4_faultOf 38 = .ok (.getfield 19, 3) := by decide +kernel
theorem dX4_faultOf_41 : decode cX4_faultOf 41 = .ok (.aload_n 0, 1) := by decide +kernel
theorem dX4_faultOf_42 : decode cX4_faultOf 42 = .ok (.getfield 19, 3) := by decide +kernel
theorem dX4_faultOf_45 : decode cX4_faultOf 45 = .ok (.getfield 23, 3) := by decide +kernel
theorem dX4_faultOf_48 : decode cX4_faultOf 48 = .ok (.iload_n 1, 1) := by decide +kernel
theorem dX4_faultOf_49 : decode cX4_faultOf 49 = .ok (.invokevirtual 108, 3) := by decide +kernel
theorem dX4_faultOf_52 : decode cX4_faultOf 52 = .ok (.iload_n 2, 1) := by decide +kernel
theorem dX4_faultOf_53 : decode cX4_faultOf 53 = .ok (.ishr, 1) := by decide +kernel
theorem dX4_faultOf_54 : decode cX4_faultOf 54 = .ok (.iconst 1, 1) := by decide +kernel
theorem dX4_faultOf_55 : decode cX4_faultOf 55 = .ok (.iand, 1) := by decide +kernel
theorem dX4_faultOf_56 : decode cX4_faultOf 56 = .ok (.iconst 1, 1) := by decide +kernel
theorem dX4_faultOf_57 : decode cX4_faultOf 57 = .ok (.if_icmp .ne 5, 3) := by decide +kernel
theorem dX4_faultOf_60 : decode cX4_faultOf 60 = .ok (.iconst 3, 1) := by decide +kernel
theorem dX4_faultOf_61 : decode cX4_faultOf 61 = .ok (.ireturn, 1) := by decide +kernel
theorem dX4_faultOf_62 : decode cX4_faultOf 62 = .ok (.iload_n 1, 1) := by decide +kernel
theorem dX4_faultOf_63 : decode cX4_faultOf 63 = .ok (.iconst 3, 1) := by decide +kernel
theorem dX4_faultOf_64 : decode cX4_faultOf 64 = .ok (.if_icmp .ne 16, 3) := by decide +kernel
theorem dX4_faultOf_67 : decode cX4_faultOf 67 = .ok (.iload_n 2, 1) := by decide +kernel
theorem dX4_faultOf_68 : decode cX4_faultOf 68 = .ok (.aload_n 0, 1) := by decide +kernel
theorem dX4_faultOf_69 : decode cX4_faultOf 69 = .ok (.getfield 19, 3) := by decide +kernel
theorem dX4_faultOf_72 : decode cX4_faultOf 72 = .ok (.getfield 23, 3) := by decide +kernel
theorem dX4_faultOf_75 : decode cX4_faultOf 75 = .ok (.if_icmp .lt 5, 3) := by decide +kernel
theorem dX4_faultOf_78 : decode cX4_faultOf 78 = .ok (.iconst 4, 1) := by decide +kernel
theorem dX4_faultOf_79 : decode cX4_faultOf 79 = .ok (.ireturn, 1) := by decide +kernel
theorem dX4_faultOf_80 : decode cX4_faultOf 80 = .ok (.iload_n 1, 1) := by decide +kernel
theorem dX4_faultOf_81 : decode cX4_faultOf 81 = .ok (.iconst 4, 1) := by decide +kernel
theorem dX4_faultOf_82 : decode cX4_faultOf 82 = .ok (.if_icmp .ne 15, 3) := by decide +kernel
theorem dX4_faultOf_85 : decode cX4_faultOf 85 = .ok (.aload_n 0, 1) := by decide +kernel
theorem dX4_faultOf_86 : decode cX4_faultOf 86 = .ok (.getfield 34, 3) := by decide +kernel
theorem dX4_faultOf_89 : decode cX4_faultOf 89 = .ok (.iload_n 2, 1) := by decide +kernel
theorem dX4_faultOf_90 : decode cX4_faultOf 90 = .ok (.ishr, 1) := by decide +kernel
theorem dX4_faultOf_91 : decode cX4_faultOf 91 = .ok (.iconst 1, 1) := by decide +kernel
theorem dX4_faultOf_92 : decode cX4_faultOf 92 = .ok (.iand, 1) := by decide +kernel
theorem dX4_faultOf_93 : decode cX4_faultOf 93 = .ok (.iconst 1, 1) := by decide +kernel
theorem dX4_faultOf_94 : decode cX4_faultOf 94 = .ok (.if_icmp .eq 20, 3) := by decide +kernel
theorem dX4_faultOf_97 : decode cX4_faultOf 97 = .ok (.iload_n 1, 1) := by decide +kernel
theorem dX4_faultOf_98 : decode cX4_faultOf 98 = .ok (.iconst 5, 1) := by decide +kernel
theorem dX4_faultOf_99 : decode cX4_faultOf 99 = .ok (.if_icmp .ne 18, 3) := by decide +kernel
theorem dX4_faultOf_102 : decode cX4_faultOf 102 = .ok (.aload_n 0, 1) := by decide +kernel
theorem dX4_faultOf_103 : decode cX4_faultOf 103 = .ok (.getfield 37, 3) := by decide +kernel
theorem dX4_faultOf_106 : decode cX4_faultOf 106 = .ok (.iload_n 2, 1) := by decide +kernel
theorem dX4_faultOf_107 : decode cX4_faultOf 107 = .ok (.ishr, 1) := by decide +kernel
theorem dX4_faultOf_108 : decode cX4_faultOf 108 = .ok (.iconst 1, 1) := by decide +kernel
theorem dX4_faultOf_109 : decode cX4_faultOf 109 = .ok (.iand, 1) := by decide +kernel
theorem dX4_faultOf_110 : decode cX4_faultOf 110 = .ok (.iconst 1, 1) := by decide +kernel
theorem dX4_faultOf_111 : decode cX4_faultOf 111 = .ok (.if_icmp .ne 6, 3) := by decide +kernel
theorem dX4_faultOf_114 : decode cX4_faultOf 114 = .ok (.bipush 6, 2) := by decide +kernel
theorem dX4_faultOf_116 : decode cX4_faultOf 116 = .ok (.ireturn, 1) := by decide +kernel
theorem dX4_faultOf_117 : decode cX4_faultOf 117 = .ok (.iload_n 1, 1) := by decide +kernel
theorem dX4_faultOf_118 : decode cX4_faultOf 118 = .ok (.bipush 8, 2) := by decide +kernel
theorem dX4_faultOf_120 : decode cX4_faultOf 120 = .ok (.if_icmp .ne 20, 3) := by decide +kernel
theorem dX4_faultOf_123 : decode cX4_faultOf 123 = .ok (.aload_n 0, 1) := by decide +kernel
theorem dX4_faultOf_124 : decode cX4_faultOf 124 = .ok (.getfield 40, 3) := by decide +kernel
theorem dX4_faultOf_127 : decode cX4_faultOf 127 = .ok (.iload_n 2, 1) := by decide +kernel
theorem dX4_faultOf_128 : decode cX4_faultOf 128 = .ok (.ishr, 1) := by decide +kernel
theorem dX4_faultOf_129 : decode cX4_faultOf 129 = .ok (.iconst 1, 1) := by decide +kernel
theorem dX4_faultOf_130 : decode cX4_faultOf 130 = .ok (.iand, 1) := by decide +kernel
theorem dX4_faultOf_131 : decode cX4_faultOf 131 = .ok (.iconst 1, 1) := by decide +kernel
theorem dX4_faultOf_132 : decode cX4_faultOf 132 = .ok (.if_icmp .ne 8, 3) := by decide +kernel
theorem dX4_faultOf_135 : decode cX4_faultOf 135 = .ok (.bipush 7, 2) := by decide +kernel
theorem dX4_faultOf_137 : decode cX4_faultOf 137 = .ok (.goto 4, 3) := by decide +kernel
theorem dX4_faultOf_140 : decode cX4_faultOf 140 = .ok (.iconst 0, 1) := by decide +kernel
theorem dX4_faultOf_141 : decode cX4_faultOf 141 = .ok (.ireturn, 1) := by decide +kernel
theorem dX4_take_0 : decode cX4_take 0 = .ok (.iload_n 1, 1) := by decide +kernel
theorem dX4_take_1 : decode cX4_take 1 = .ok (.invokestatic 82, 3) := by decide +kernel
theorem dX4_take_4 : decode cX4_take 4 = .ok (.ifCond .eq 22, 3) := by decide +kernel
theorem dX4_take_7 : decode cX4_take 7 = .ok (.aload_n 0, 1) := by decide +kernel
theorem dX4_take_8 : decode cX4_take 8 = .ok (.getfield 19, 3) := by decide +kernel
theorem dX4_take_11 : decode cX4_take 11 = .ok (.aload_n 0, 1) := by decide +kernel
theorem dX4_take_12 : decode cX4_take 12 = .ok (.getfield 19, 3) := by decide +kernel
theorem dX4_take_15 : decode cX4_take 15 = .ok (.getfield 23, 3) := by decide +kernel
theorem dX4_take_18 : decode cX4_take 18 = .ok (.iload_n 1, 1) := by decide +kernel
theorem dX4_take_19 : decode cX4_take 19 = .ok (.iload_n 2, 1) := by decide +kernel
theorem dX4_take_20 : decode cX4_take 20 = .ok (.invokevirtual 112, 3) := by decide +kernel
theorem dX4_take_23 : decode cX4_take 23 = .ok (.goto 19, 3) := by decide +kernel
theorem dX4_take_26 : decode cX4_take 26 = .ok (.aload_n 0, 1) := by decide +kernel
theorem dX4_take_27 : decode cX4_take 27 = .ok (.getfield 19, 3) := by decide +kernel
theorem dX4_take_30 : decode cX4_take 30 = .ok (.aload_n 0, 1) := by decide +kernel
theorem dX4_take_31 : decode cX4_take 31 = .ok (.getfield 19, 3) := by decide +kernel
theorem dX4_take_34 : decode cX4_take 34 = .ok (.getfield 23, 3) := by decide +kernel
theorem dX4_take_37 : decode cX4_take 37 = .ok (.iload_n 1, 1) := by decide +kernel
theorem dX4_take_38 : decode cX4_take 38 = .ok (.iload_n 2, 1) := by decide +kernel
theorem dX4_take_39 : decode cX4_take 39 = .ok (.invokevirtual 116, 3) := by decide +kernel
theorem dX4_take_42 : decode cX4_take 42 = .ok (.iload_n 1, 1) := by decide +kernel
theorem dX4_take_43 : decode cX4_take 43 = .ok (.iconst 4, 1) := by decide +kernel
theorem dX4_take_44 : decode cX4_take 44 = .ok (.if_icmp .ne 18, 3) := by decide +kernel
theorem dX4_take_47 : decode cX4_take 47 = .ok (.aload_n 0, 1) := by decide +kernel
theorem dX4_take_48 : decode cX4_take 48 = .ok (.dup, 1) := by decide +kernel
theorem dX4_take_49 : decode cX4_take 49 = .ok (.getfield 34, 3) := by decide +kernel
theorem dX4_take_52 : decode cX4_take 52 = .ok (.iconst 1, 1) := by decide +kernel
theorem dX4_take_53 : decode cX4_take 53 = .ok (.iload_n 2, 1) := by decide +kernel
theorem dX4_take_54 : decode cX4_take 54 = .ok (.ishl, 1) := by decide +kernel
theorem dX4_take_55 : decode cX4_take 55 = .ok (.ior, 1) := by decide +kernel
theorem dX4_take_56 : decode cX4_take 56 = .ok (.putfield 34, 3) := by decide +kernel
theorem dX4_take_59 : decode cX4_take 59 = .ok (.goto 57, 3) := by decide +kernel
theorem dX4_take_62 : decode cX4_take 62 = .ok (.iload_n 1, 1) := by decide +kernel
theorem dX4_take_63 : decode cX4_take 63 = .ok (.iconst 5, 1) := by decide +kernel
theorem dX4_take_64 : decode cX4_take 64 = .ok (.if_icmp .ne 18, 3) := by decide +kernel
theorem dX4_take_67 : decode cX4_take 67 = .ok (.aload_n 0, 1) := by decide +kernel
theorem dX4_take_68 : decode cX4_take 68 = .ok (.dup, 1) := by decide +kernel
theorem dX4_take_69 : decode cX4_take 69 = .ok (.getfield 37, 3) := by decide +kernel
theorem dX4_take_72 : decode cX4_take 72 = .ok (.iconst 1, 1) := by decide +kernel
theorem dX4_take_73 : decode cX4_take 73 = .ok (.iload_n 2, 1) := by decide +kernel
theorem dX4_take_74 : decode cX4_take 74 = .ok (.ishl, 1) := by decide +kernel
theorem dX4_take_75 : decode cX4_take 75 = .ok (.ior, 1) := by decide +kernel
theorem dX4_take_76 : decode cX4_take 76 = .ok (.putfield 37, 3) := by decide +kernel
theorem dX4_take_79 : decode cX4_take 79 = .ok (.goto 37, 3) := by decide +kernel
theorem dX4_take_82 : decode cX4_take 82 = .ok (.iload_n 1, 1) := by decide +kernel
theorem dX4_take_83 : decode cX4_take 83 = .ok (.bipush 8, 2) := by decide +kernel
theorem dX4_take_85 : decode cX4_take 85 = .ok (.if_icmp .ne 31, 3) := by decide +kernel
theorem dX4_take_88 : decode cX4_take 88 = .ok (.aload_n 0, 1) := by decide +kernel
theorem dX4_take_89 : decode cX4_take 89 = .ok (.dup, 1) := by decide +kernel
theorem dX4_take_90 : decode cX4_take 90 = .ok (.getfield 40, 3) := by decide +kernel
theorem dX4_take_93 : decode cX4_take 93 = .ok (.iconst 1, 1) := by decide +kernel
theorem dX4_take_94 : decode cX4_take 94 = .ok (.iload_n 2, 1) := by decide +kernel
theorem dX4_take_95 : decode cX4_take 95 = .ok (.ishl, 1) := by decide +kernel
theorem dX4_take_96 : decode cX4_take 96 = .ok (.ior, 1) := by decide +kernel
theorem dX4_take_97 : decode cX4_take 97 = .ok (.putfield 40, 3) := by decide +kernel
theorem dX4_take_100 : decode cX4_take 100 = .ok (.aload_n 0, 1) := by decide +kernel
theorem dX4_take_101 : decode cX4_take 101 = .ok (.getfield 19, 3) := by decide +kernel
theorem dX4_take_104 : decode cX4_take 104 = .ok (.aload_n 0, 1) := by decide +kernel
theorem dX4_take_105 : decode cX4_take 105 = .ok (.getfield 19, 3) := by decide +kernel
theorem dX4_take_108 : decode cX4_take 108 = .ok (.getfield 23, 3) := by decide +kernel
theorem dX4_take_111 : decode cX4_take 111 = .ok (.iconst 2, 1) := by decide +kernel
theorem dX4_take_112 : decode cX4_take 112 = .ok (.iload_n 2, 1) := by decide +kernel
theorem dX4_take_113 : decode cX4_take 113 = .ok (.invokevirtual 112, 3) := by decide +kernel
theorem dX4_take_116 : decode cX4_take 116 = .ok (.return_, 1) := by decide +kernel
theorem dX5_init_0 : decode cX5_init 0 = .ok (.aload_n 0, 1) := by decide +kernel
theorem dX5_init_1 : decode cX5_init 1 = .ok (.invokespecial 3, 3) := by decide +kernel
theorem dX5_init_4 : decode cX5_init 4 = .ok (.aload_n 0, 1) := by decide +kernel
theorem dX5_init_5 : decode cX5_init 5 = .ok (.bipush 8, 2) := by decide +kernel
theorem dX5_init_7 : decode cX5_init 7 = .ok (.newarray .int, 2) := by decide +kernel
theorem dX5_init_9 : decode cX5_init 9 = .ok (.putfield 9, 3) := by decide +kernel
theorem dX5_init_12 : decode cX5_init 12 = .ok (.aload_n 0, 1) := by decide +kernel
theorem dX5_init_13 : decode cX5_init 13 = .ok (.iconst 0, 1) := by decide +kernel
theorem dX5_init_14 : decode cX5_init 14 = .ok (.putfield 15, 3) := by decide +kernel
theorem dX5_init_17 : decode cX5_init 17 = .ok (.aload_n 0, 1) := by decide +kernel
theorem dX5_init_18 : decode cX5_init 18 = .ok (.aload_n 1, 1) := by decide +kernel
theorem dX5_init_19 : decode cX5_init 19 = .ok (.putfield 19, 3) := by decide +kernel
theorem dX5_init_22 : decode cX5_init 22 = .ok (.return_, 1) := by decide +kernel
theorem dX5_isNever_0 : decode cX5_isNever 0 = .ok (.iload_n 1, 1) := by decide +kernel
theorem dX5_isNever_1 : decode cX5_isNever 1 = .ok (.ifCond .lt 27, 3) := by decide +kernel
theorem dX5_isNever_4 : decode cX5_isNever 4 = .ok (.iload_n 1, 1) := by decide +kernel
theorem dX5_isNever_5 : decode cX5_isNever 5 = .ok (.bipush 8, 2) := by decide +kernel
theorem dX5_isNever_7 : decode cX5_isNever 7 = .ok (.if_icmp .ge 21, 3) := by decide +kernel
theorem dX5_isNever_10 : decode cX5_isNever 10 = .ok (.aload_n 0, 1) := by decide +kernel
theorem dX5_isNever_11 : decode cX5_isNever 11 = .ok (.getfield 9, 3) := by decide +kernel
theorem dX5_isNever_14 : decode cX5_isNever 14 = .ok (.iload_n 1, 1) := by decide +kernel
theorem dX5_isNever_15 : decode cX5_isNever 15 = .ok (.iaload, 1) := by decide +kernel
theorem dX5_isNever_16 : decode cX5_isNever 16 = .ok (.iload_n 2, 1) := by decide +kernel
theorem dX5_isNever_17 : decode cX5_isNever 17 = .ok (.ishr, 1) := by decide +kernel
theorem dX5_isNever_18 : decode cX5_isNever 18 = .ok (.iconst 1, 1) := by decide +kernel
theorem dX5_isNever_19 : decode cX5_isNever 19 = .ok (.iand, 1) := by decide +kernel
theorem dX5_isNever_20 : decode cX5_isNever 20 = .ok (.iconst 1, 1) := by decide +kernel
theorem dX5_isNever_21 : decode cX5_isNever 21 = .ok (.if_icmp .ne 7, 3) := by decide +kernel
theorem dX5_isNever_24 : decode cX5_isNever 24 = .ok (.iconst 1, 1) := by decide +kernel
theorem dX5_isNever_25 : decode cX5_isNever 25 = .ok (.goto 4, 3) := by decide +kernel
theorem dX5_isNever_28 : decode cX5_isNever 28 = .ok (.iconst 0, 1) := by decide +kernel
theorem dX5_isNever_29 : decode cX5_isNever 29 = .ok (.ireturn, 1) := by decide +kernel
theorem dX5_turnNever_0 : decode cX5_turnNever 0 = .ok (.iload_n 1, 1) := by decide +kernel
theorem dX5_turnNever_1 : decode cX5_turnNever 1 = .ok (.ifCond .lt 19, 3) := by decide +kernel
theorem dX5_turnNever_4 : decode cX5_turnNever 4 = .ok (.iload_n 1, 1) := by decide +kernel
theorem dX5_turnNever_5 : decode cX5_turnNever 5 = .ok (.bipush 8, 2) := by decide +kernel
theorem dX5_turnNever_7 : decode cX5_turnNever 7 = .ok (.if_icmp .ge 13, 3) := by decide +kernel
theorem dX5_turnNever_10 : decode cX5_turnNever 10 = .ok (.iload_n 2, 1) := by decide +kernel
theorem dX5_turnNever_11 : decode cX5_turnNever 11 = .ok (.ifCond .lt 9, 3) := by decide +kernel
theorem dX5_turnNever_14 : decode cX5_turnNever 14 = .ok (.iload_n 2, 1) := by decide +kernel
theorem dX5_turnNever_15 : decode cX5_turnNever 15 = .ok (.bipush 8, 2) := by decide +kernel
theorem dX5_turnNever_17 : decode cX5_turnNever 17 = .ok (.if_icmp .lt 4, 3) := by decide +kernel
theorem dX5_turnNever_20 : decode cX5_turnNever 20 = .ok (.return_, 1) := by decide +kernel
theorem dX5_turnNever_21 : decode cX5_turnNever 21 = .ok (.aload_n 0, 1) := by decide +kernel
theorem dX5_turnNever_22 : decode cX5_turnNever 22 = .ok (.dup, 1) := by decide +kernel
theorem dX5_turnNever_23 : decode cX5_turnNever 23 = .ok (.getfield 15, 3) := by decide +kernel
theorem dX5_turnNever_26 : decode cX5_turnNever 26 = .ok (.aload_n 0, 1) := by decide +kernel
theorem dX5_turnNever_27 : decode cX5_turnNever 27 = .ok (.iload_n 1, 1) := by decide +kernel
theorem dX5_turnNever_28 : decode cX5_turnNever 28 = .ok (.iload_n 2, 1) := by decide +kernel
theorem dX5_turnNever_29 : decode cX5_turnNever 29 = .ok (.invokevirtual 23, 3) := by decide +kernel
theorem dX5_turnNever_32 : decode cX5_turnNever 32 = .ok (.ifCond .eq 7, 3) := by decide +kernel
theorem dX5_turnNever_35 : decode cX5_turnNever 35 = .ok (.iconst (-1), 1) := by decide +kernel
theorem dX5_turnNever_36 : decode cX5_turnNever 36 = .ok (.goto 4, 3) := by decide +kernel
theorem dX5_turnNever_39 : decode cX5_turnNever 39 = .ok (.iconst 1, 1) := by decide +kernel
theorem dX5_turnNever_40 : decode cX5_turnNever 40 = .ok (.iadd, 1) := by decide +kernel
theorem dX5_turnNever_41 : decode cX5_turnNever 41 = .ok (.putfield 15, 3) := by decide +kernel
theorem dX5_turnNever_44 : decode cX5_turnNever 44 = .ok (.aload_n 0, 1) := by decide +kernel
theorem dX5_turnNever_45 : decode cX5_turnNever 45 = .ok (.getfield 9, 3) := by decide +kernel
theorem dX5_turnNever_48 : decode cX5_turnNever 48 = .ok (.iload_n 1, 1) := by decide +kernel
theorem dX5_turnNever_49 : decode cX5_turnNever 49 = .ok (.dup2, 1) := by decide +kernel
theorem dX5_turnNever_50 : decode cX5_turnNever 50 = .ok (.iaload, 1) := by decide +kernel
theorem dX5_turnNever_51 : decode cX5_turnNever 51 = .ok (.iconst 1, 1) := by decide +kernel
theorem dX5_turnNever_52 : decode cX5_turnNever 52 = .ok (.iload_n 2, 1) := by decide +kernel
theorem dX5_turnNever_53 : decode cX5_turnNever 53 = .ok (.ishl, 1) := by decide +kernel
theorem dX5_turnNever_54 : decode cX5_turnNever 54 = .ok (.ixor, 1) := by decide +kernel
theorem dX5_turnNever_55 : decode cX5_turnNever 55 = .ok (.iastore, 1) := by decide +kernel
theorem dX5_turnNever_56 : decode cX5_turnNever 56 = .ok (.aload_n 0, 1) := by decide +kernel
theorem dX5_turnNever_57 : decode cX5_turnNever 57 = .ok (.getfield 9, 3) := by decide +kernel
theorem dX5_turnNever_60 : decode cX5_turnNever 60 = .ok (.iload_n 2, 1) := by decide +kernel
theorem dX5_turnNever_61 : decode cX5_turnNever 61 = .ok (.dup2, 1) := by decide +kernel
theorem dX5_turnNever_62 : decode cX5_turnNever 62 = .ok (.iaload, 1) := by decide +kernel
theorem dX5_turnNever_63 : decode cX5_turnNever 63 = .ok (.iconst 1, 1) := by decide +kernel
theorem dX5_turnNever_64 : decode cX5_turnNever 64 = .ok (.iload_n 1, 1) := by decide +kernel
theorem dX5_turnNever_65 : decode cX5_turnNever 65 = .ok (.ishl, 1) := by decide +kernel
theorem dX5_turnNever_66 : decode cX5_turnNever 66 = .ok (.ixor, 1) := by decide +kernel
theorem dX5_turnNever_67 : decode cX5_turnNever 67 = .ok (.iastore, 1) := by decide +kernel
theorem dX5_turnNever_68 : decode cX5_turnNever 68 = .ok (.return_, 1) := by decide +kernel
theorem dX5_nextBehind_0 : decode cX5_nextBehind 0 = .ok (.aload_n 0, 1) := by decide +kernel
theorem dX5_nextBehind_1 : decode cX5_nextBehind 1 = .ok (.iload_n 1, 1) := by decide +kernel
theorem dX5_nextBehind_2 : decode cX5_nextBehind 2 = .ok (.aload_n 0, 1) := by decide +kernel
theorem dX5_nextBehind_3 : decode cX5_nextBehind 3 = .ok (.getfield 19, 3) := by decide +kernel
theorem dX5_nextBehind_6 : decode cX5_nextBehind 6 = .ok (.iload_n 1, 1) := by decide +kernel
theorem dX5_nextBehind_7 : decode cX5_nextBehind 7 = .ok (.iconst 4, 1) := by decide +kernel
theorem dX5_nextBehind_8 : decode cX5_nextBehind 8 = .ok (.invokevirtual 29, 3) := by decide +kernel
theorem dX5_nextBehind_11 : decode cX5_nextBehind 11 = .ok (.aload_n 0, 1) := by decide +kernel
theorem dX5_nextBehind_12 : decode cX5_nextBehind 12 = .ok (.getfield 19, 3) := by decide +kernel
theorem dX5_nextBehind_15 : decode cX5_nextBehind 15 = .ok (.iload_n 1, 1) := by decide +kernel
theorem dX5_nextBehind_16 : decode cX5_nextBehind 16 = .ok (.bipush 6, 2) := by decide +kernel
theorem dX5_nextBehind_18 : decode cX5_nextBehind 18 = .ok (.invokevirtual 29, 3) := by decide +kernel
theorem dX5_nextBehind_21 : decode cX5_nextBehind 21 = .ok (.aload_n 0, 1) := by decide +kernel
theorem dX5_nextBehind_22 : decode cX5_nextBehind 22 = .ok (.getfield 19, 3) := by decide +kernel
theorem dX5_nextBehind_25 : decode cX5_nextBehind 25 = .ok (.iload_n 1, 1) := by decide +kernel
theorem dX5_nextBehind_26 : decode cX5_nextBehind 26 = .ok (.invokevirtual 33, 3) := by decide +kernel
theorem dX5_nextBehind_29 : decode cX5_nextBehind 29 = .ok (.invokevirtual 37, 3) := by decide +kernel
theorem dX5_nextBehind_32 : decode cX5_nextBehind 32 = .ok (.ireturn, 1) := by decide +kernel
theorem dX5_nextWhere_0 : decode cX5_nextWhere 0 = .ok (.iconst 0, 1) := by decide +kernel
theorem dX5_nextWhere_1 : decode cX5_nextWhere 1 = .ok (.istore 5, 2) := by decide +kernel
theorem dX5_nextWhere_3 : decode cX5_nextWhere 3 = .ok (.iconst 0, 1) := by decide +kernel
theorem dX5_nextWhere_4 : decode cX5_nextWhere 4 = .ok (.istore 6, 2) := by decide +kernel
theorem dX5_nextWhere_6 : decode cX5_nextWhere 6 = .ok (.iload 6, 2) := by decide +kernel
theorem dX5_nextWhere_8 : decode cX5_nextWhere 8 = .ok (.aload_n 0, 1) := by decide +kernel
theorem dX5_nextWhere_9 : decode cX5_nextWhere 9 = .ok (.getfield 19, 3) := by decide +kernel
theorem dX5_nextWhere_12 : decode cX5_nextWhere 12 = .ok (.getfield 41, 3) := by decide +kernel
theorem dX5_nextWhere_15 : decode cX5_nextWhere 15 = .ok (.if_icmp .ge 101, 3) := by decide +kernel
theorem dX5_nextWhere_18 : decode cX5_nextWhere 18 = .ok (.aload_n 0, 1) := by decide +kernel
theorem dX5_nextWhere_19 : decode cX5_nextWhere 19 = .ok (.getfield 19, 3) := by decide +kernel
theorem dX5_nextWhere_22 : decode cX5_nextWhere 22 = .ok (.getfield 44, 3) := by decide +kernel
theorem dX5_nextWhere_25 : decode cX5_nextWhere 25 = .ok (.iload 6, 2) := by decide +kernel
theorem dX5_nextWhere_27 : decode cX5_nextWhere 27 = .ok (.aaload, 1) := by decide +kernel
theorem dX5_nextWhere_28 : decode cX5_nextWhere 28 = .ok (.astore 7, 2) := by decide +kernel
theorem dX5_nextWhere_30 : decode cX5_nextWhere 30 = .ok (.iload_n 1, 1) := by decide +kernel
theorem dX5_nextWhere_31 : decode cX5_nextWhere 31 = .ok (.iload 6, 2) := by decide +kernel
theorem dX5_nextWhere_33 : decode cX5_nextWhere 33 = .ok (.ishr, 1) := by decide +kernel
theorem dX5_nextWhere_34 : decode cX5_nextWhere 34 = .ok (.iconst 1, 1) := by decide +kernel
theorem dX5_nextWhere_35 : decode cX5_nextWhere 35 = .ok (.iand, 1) := by decide +kernel
theorem dX5_nextWhere_36 : decode cX5_nextWhere 36 = .ok (.ifCond .ne 74, 3) := by decide +kernel
theorem dX5_nextWhere_39 : decode cX5_nextWhere 39 = .ok (.aload 7, 2) := by decide +kernel
theorem dX5_nextWhere_41 : decode cX5_nextWhere 41 = .ok (.iconst 3, 1) := by decide +kernel
theorem dX5_nextWhere_42 : decode cX5_nextWhere 42 = .ok (.iaload, 1) := by decide +kernel
theorem dX5_nextWhere_43 : decode cX5_nextWhere 43 = .ok (.iload_n 1, 1) := by decide +kernel
theorem dX5_nextWhere_44 : decode cX5_nextWhere 44 = .ok (.iconst (-1), 1) := by decide +kernel
theorem dX5_nextWhere_45 : decode cX5_nextWhere 45 = .ok (.ixor, 1) := by decide +kernel
theorem dX5_nextWhere_46 : decode cX5_nextWhere 46 = .ok (.iand, 1) := by decide +kernel
theorem dX5_nextWhere_47 : decode cX5_nextWhere 47 = .ok (.ifCond .ne 63, 3) := by decide +kernel
theorem dX5_nextWhere_50 : decode cX5_nextWhere 50 = .ok (.aload 7, 2) := by decide +kernel
theorem dX5_nextWhere_52 : decode cX5_nextWhere 52 = .ok (.iconst 5, 1) := by decide +kernel
theorem dX5_nextWhere_53 : decode cX5_nextWhere 53 = .ok (.iaload, 1) := by decide +kernel
theorem dX5_nextWhere_54 : decode cX5_nextWhere 54 = .ok (.iload_n 2, 1) := by decide +kernel
theorem dX5_nextWhere_55 : decode cX5_nextWhere 55 = .ok (.aload 7, 2) := by decide +kernel
theorem dX5_nextWhere_57 : decode cX5_nextWhere 57 = .ok (.iconst 4, 1) := by decide +kernel
theorem dX5_nextWhere_58 : decode cX5_nextWhere 58 = .ok (.iaload, 1) := by decide +kernel
theorem dX5_nextWhere_59 : decode cX5_nextWhere 59 = .ok (.ior, 1) := by decide +kernel
theorem dX5_nextWhere_60 : decode cX5_nextWhere 60 = .ok (.iconst (-1), 1) := by decide +kernel
theorem dX5_nextWhere_61 : decode cX5_nextWhere 61 = .ok (.ixor, 1) := by decide +kernel
theorem dX5_nextWhere_62 : decode cX5_nextWhere 62 = .ok (.iand, 1) := by decide +kernel
theorem dX5_nextWhere_63 : decode cX5_nextWhere 63 = .ok (.ifCond .ne 47, 3) := by decide +kernel
theorem dX5_nextWhere_66 : decode cX5_nextWhere 66 = .ok (.aload 7, 2) := by decide +kernel
theorem dX5_nextWhere_68 : decode cX5_nextWhere 68 = .ok (.bipush 7, 2) := by decide +kernel
theorem dX5_nextWhere_70 : decode cX5_nextWhere 70 = .ok (.iaload, 1) := by decide +kernel
theorem dX5_nextWhere_71 : decode cX5_nextWhere 71 = .ok (.iload_n 3, 1) := by decide +kernel
theorem dX5_nextWhere_72 : decode cX5_nextWhere 72 = .ok (.iconst (-1), 1) := by decide +kernel
theorem dX5_nextWhere_73 : decode cX5_nextWhere 73 = .ok (.ixor, 1) := by decide +kernel
theorem dX5_nextWhere_74 : decode cX5_nextWhere 74 = .ok (.iand, 1) := by decide +kernel
theorem dX5_nextWhere_75 : decode cX5_nextWhere 75 = .ok (.ifCond .ne 35, 3) := by decide +kernel
theorem dX5_nextWhere_78 : decode cX5_nextWhere 78 = .ok (.aload 7, 2) := by decide +kernel
theorem dX5_nextWhere_80 : decode cX5_nextWhere 80 = .ok (.iconst 2, 1) := by decide +kernel
theorem dX5_nextWhere_81 : decode cX5_nextWhere 81 = .ok (.iaload, 1) := by decide +kernel
theorem dX5_nextWhere_82 : decode cX5_nextWhere 82 = .ok (.iload 4, 2) := by decide +kernel
theorem dX5_nextWhere_84 : decode cX5_nextWhere 84 = .ok (.iand, 1) := by decide +kernel
theorem dX5_nextWhere_85 : decode cX5_nextWhere 85 = .ok (.ifCond .ne 25, 3) := by decide +kernel
theorem dX5_nextWhere_88 : decode cX5_nextWhere 88 = .ok (.aload_n 0, 1) := by decide +kernel
theorem dX5_nextWhere_89 : decode cX5_nextWhere 89 = .ok (.aload 7, 2) := by decide +kernel
theorem dX5_nextWhere_91 : decode cX5_nextWhere 91 = .ok (.bipush 6, 2) := by decide +kernel
theorem dX5_nextWhere_93 : decode cX5_nextWhere 93 = .ok (.iaload, 1) := by decide +kernel
theorem dX5_nextWhere_94 : decode cX5_nextWhere 94 = .ok (.iload_n 3, 1) := by decide +kernel
theorem dX5_nextWhere_95 : decode cX5_nextWhere 95 = .ok (.invokevirtual 48, 3) := by decide +kernel
theorem dX5_nextWhere_98 : decode cX5_nextWhere 98 = .ok (.ifCond .eq 12, 3) := by decide +kernel
theorem dX5_nextWhere_101 : decode cX5_nextWhere 101 = .ok (.iload 5, 2) := by decide +kernel
theorem dX5_nextWhere_103 : decode cX5_nextWhere 103 = .ok (.iconst 1, 1) := by decide +kernel
theorem dX5_nextWhere_104 : decode cX5_nextWhere 104 = .ok (.iload 6, 2) := by decide +kernel
theorem dX5_nextWhere_106 : decode cX5_nextWhere 106 = .ok (.ishl, 1) := by decide +kernel
theorem dX5_nextWhere_107 : decode cX5_nextWhere 107 = .ok (.ior, 1) := by decide +kernel
theorem dX5_nextWhere_108 : decode cX5_nextWhere 108 = .ok (.istore 5, 2) := by decide +kernel
theorem dX5_nextWhere_110 : decode cX5_nextWhere 110 = .ok (.iinc 6 1, 3) := by decide +kernel
theorem dX5_nextWhere_113 : decode cX5_nextWhere 113 = .ok (.goto (-107), 3) := by decide +kernel
theorem dX5_nextWhere_116 : decode cX5_nextWhere 116 = .ok (.iload 5, 2) := by decide +kernel
theorem dX5_nextWhere_118 : decode cX5_nextWhere 118 = .ok (.ireturn, 1) := by decide +kernel
theorem dX5_mayTell_0 : decode cX5_mayTell 0 = .ok (.iconst 0, 1) := by decide +kernel
theorem dX5_mayTell_1 : decode cX5_mayTell 1 = .ok (.istore_n 3, 1) := by decide +kernel
theorem dX5_mayTell_2 : decode cX5_mayTell 2 = .ok (.iload_n 3, 1) := by decide +kernel
theorem dX5_mayTell_3 : decode cX5_mayTell 3 = .ok (.bipush 8, 2) := by decide +kernel
theorem dX5_mayTell_5 : decode cX5_mayTell 5 = .ok (.if_icmp .ge 39, 3) := by decide +kernel
theorem dX5_mayTell_8 : decode cX5_mayTell 8 = .ok (.iload_n 1, 1) := by decide +kernel
theorem dX5_mayTell_9 : decode cX5_mayTell 9 = .ok (.iload_n 3, 1) := by decide +kernel
theorem dX5_mayTell_10 : decode cX5_mayTell 10 = .ok (.ishr, 1) := by decide +kernel
theorem dX5_mayTell_11 : decode cX5_mayTell 11 = .ok (.ifCond .eq 33, 3) := by decide +kernel
theorem dX5_mayTell_14 : decode cX5_mayTell 14 = .ok (.iload_n 1, 1) := by decide +kernel
theorem dX5_mayTell_15 : decode cX5_mayTell 15 = .ok (.iload_n 3, 1) := by decide +kernel
theorem dX5_mayTell_16 : decode cX5_mayTell 16 = .ok (.ishr, 1) := by decide +kernel
theorem dX5_mayTell_17 : decode cX5_mayTell 17 = .ok (.iconst 1, 1) := by decide +kernel
theorem dX5_mayTell_18 : decode cX5_mayTell 18 = .ok (.iand, 1) := by decide +kernel
theorem dX5_mayTell_19 : decode cX5_mayTell 19 = .ok (.iconst 1, 1) := by decide +kernel
theorem dX5_mayTell_20 : decode cX5_mayTell 20 = .ok (.if_icmp .ne 18, 3) := by decide +kernel
theorem dX5_mayTell_23 : decode cX5_mayTell 23 = .ok (.aload_n 0, 1) := by decide +kernel
theorem dX5_mayTell_24 : decode cX5_mayTell 24 = .ok (.getfield 9, 3) := by decide +kernel
theorem dX5_mayTell_27 : decode cX5_mayTell 27 = .ok (.iload_n 3, 1) := by decide +kernel
theorem dX5_mayTell_28 : decode cX5_mayTell 28 = .ok (.iaload, 1) := by decide +kernel
theorem dX5_mayTell_29 : decode cX5_mayTell 29 = .ok (.iload_n 2, 1) := by decide +kernel
theorem dX5_mayTell_30 : decode cX5_mayTell 30 = .ok (.iload_n 1, 1) := by decide +kernel
theorem dX5_mayTell_31 : decode cX5_mayTell 31 = .ok (.ior, 1) := by decide +kernel
theorem dX5_mayTell_32 : decode cX5_mayTell 32 = .ok (.iand, 1) := by decide +kernel
theorem dX5_mayTell_33 : decode cX5_mayTell 33 = .ok (.ifCond .eq 5, 3) := by decide +kernel
theorem dX5_mayTell_36 : decode cX5_mayTell 36 = .ok (.iconst 0, 1) := by decide +kernel
theorem dX5_mayTell_37 : decode cX5_mayTell 37 = .ok (.ireturn, 1) := by decide +kernel
theorem dX5_mayTell_38 : decode cX5_mayTell 38 = .ok (.iinc 3 1, 3) := by decide +kernel
theorem dX5_mayTell_41 : decode cX5_mayTell 41 = .ok (.goto (-39), 3) := by decide +kernel
theorem dX5_mayTell_44 : decode cX5_mayTell 44 = .ok (.iconst 1, 1) := by decide +kernel
theorem dX5_mayTell_45 : decode cX5_mayTell 45 = .ok (.ireturn, 1) := by decide +kernel
theorem dX6_init_0 : decode cX6_init 0 = .ok (.aload_n 0, 1) := by decide +kernel
theorem dX6_init_1 : decode cX6_init 1 = .ok (.invokespecial 3, 3) := by decide +kernel
theorem dX6_init_4 : decode cX6_init 4 = .ok (.aload_n 0, 1) := by decide +kernel
theorem dX6_init_5 : decode cX6_init 5 = .ok (.iconst 0, 1) := by decide +kernel
theorem dX6_init_6 : decode cX6_init 6 = .ok (.putfield 9, 3) := by decide +kernel
theorem dX6_init_9 : decode cX6_init 9 = .ok (.aload_n 0, 1) := by decide +kernel
theorem dX6_init_10 : decode cX6_init 10 = .ok (.sipush 1024, 3) := by decide +kernel
theorem dX6_init_13 : decode cX6_init 13 = .ok (.newarray .int, 2) := by decide +kernel
theorem dX6_init_15 : decode cX6_init 15 = .ok (.putfield 15, 3) := by decide +kernel
theorem dX6_init_18 : decode cX6_init 18 = .ok (.aload_n 0, 1) := by decide +kernel
theorem dX6_init_19 : decode cX6_init 19 = .ok (.sipush 1024, 3) := by decide +kernel
theorem dX6_init_22 : decode cX6_init 22 = .ok (.newarray .int, 2) := by decide +kernel
theorem dX6_init_24 : decode cX6_init 24 = .ok (.putfield 19, 3) := by decide +kernel
theorem dX6_init_27 : decode cX6_init 27 = .ok (.aload_n 0, 1) := by decide +kernel
theorem dX6_init_28 : decode cX6_init 28 = .ok (.sipush 1024, 3) := by decide +kernel
theorem dX6_init_31 : decode cX6_init 31 = .ok (.newarray .int, 2) := by decide +kernel
theorem dX6_init_33 : decode cX6_init 33 = .ok (.putfield 22, 3) := by decide +kernel
theorem dX6_init_36 : decode cX6_init 36 = .ok (.aload_n 0, 1) := by decide +kernel
theorem dX6_init_37 : decode cX6_init 37 = .ok (.sipush 1024, 3) := by decide +kernel
theorem dX6_init_40 : decode cX6_init 40 = .ok (.newarray .int, 2) := by decide +kernel
theorem dX6_init_42 : decode cX6_init 42 = .ok (.putfield 25, 3) := by decide +kernel
theorem dX6_init_45 : decode cX6_init 45 = .ok (.aload_n 0, 1) := by decide +kernel
theorem dX6_init_46 : decode cX6_init 46 = .ok (.sipush 1024, 3) := by decide +kernel
theorem dX6_init_49 : decode cX6_init 49 = .ok (.newarray .int, 2) := by decide +kernel
theorem dX6_init_51 : decode cX6_init 51 = .ok (.putfield 28, 3) := by decide +kernel
theorem dX6_init_54 : decode cX6_init 54 = .ok (.aload_n 0, 1) := by decide +kernel
theorem dX6_init_55 : decode cX6_init 55 = .ok (.sipush 1024, 3) := by decide +kernel
theorem dX6_init_58 : decode cX6_init 58 = .ok (.newarray .int, 2) := by decide +kernel
theorem dX6_init_60 : decode cX6_init 60 = .ok (.putfield 31, 3) := by decide +kernel
theorem dX6_init_63 : decode cX6_init 63 = .ok (.aload_n 0, 1) := by decide +kernel
theorem dX6_init_64 : decode cX6_init 64 = .ok (.sipush 1024, 3) := by decide +kernel
theorem dX6_init_67 : decode cX6_init 67 = .ok (.newarray .int, 2) := by decide +kernel
theorem dX6_init_69 : decode cX6_init 69 = .ok (.putfield 34, 3) := by decide +kernel
theorem dX6_init_72 : decode cX6_init 72 = .ok (.aload_n 0, 1) := by decide +kernel
theorem dX6_init_73 : decode cX6_init 73 = .ok (.sipush 1024, 3) := by decide +kernel
theorem dX6_init_76 : decode cX6_init 76 = .ok (.newarray .int, 2) := by decide +kernel
theorem dX6_init_78 : decode cX6_init 78 = .ok (.putfield 37, 3) := by decide +kernel
theorem dX6_init_81 : decode cX6_init 81 = .ok (.aload_n 0, 1) := by decide +kernel
theorem dX6_init_82 : decode cX6_init 82 = .ok (.sipush 1024, 3) := by decide +kernel
theorem dX6_init_85 : decode cX6_init 85 = .ok (.newarray .int, 2) := by decide +kernel
theorem dX6_init_87 : decode cX6_init 87 = .ok (.putfield 40, 3) := by decide +kernel
theorem dX6_init_90 : decode cX6_init 90 = .ok (.aload_n 0, 1) := by decide +kernel
theorem dX6_init_91 : decode cX6_init 91 = .ok (.sipush 1024, 3) := by decide +kernel
theorem dX6_init_94 : decode cX6_init 94 = .ok (.newarray .int, 2) := by decide +kernel
theorem dX6_init_96 : decode cX6_init 96 = .ok (.putfield 43, 3) := by decide +kernel
theorem dX6_init_99 : decode cX6_init 99 = .ok (.aload_n 0, 1) := by decide +kernel
theorem dX6_init_100 : decode cX6_init 100 = .ok (.sipush 1024, 3) := by decide +kernel
theorem dX6_init_103 : decode cX6_init 103 = .ok (.newarray .int, 2) := by decide +kernel
theorem dX6_init_105 : decode cX6_init 105 = .ok (.putfield 46, 3) := by decide +kernel
theorem dX6_init_108 : decode cX6_init 108 = .ok (.aload_n 0, 1) := by decide +kernel
theorem dX6_init_109 : decode cX6_init 109 = .ok (.aload_n 1, 1) := by decide +kernel
theorem dX6_init_110 : decode cX6_init 110 = .ok (.putfield 49, 3) := by decide +kernel
theorem dX6_init_113 : decode cX6_init 113 = .ok (.aload_n 0, 1) := by decide +kernel
theorem dX6_init_114 : decode cX6_init 114 = .ok (.aload_n 2, 1) := by decide +kernel
theorem dX6_init_115 : decode cX6_init 115 = .ok (.putfield 53, 3) := by decide +kernel
theorem dX6_init_118 : decode cX6_init 118 = .ok (.return_, 1) := by decide +kernel
theorem dX6_build_0 : decode cX6_build 0 = .ok (.aload_n 0, 1) := by decide +kernel
theorem dX6_build_1 : decode cX6_build 1 = .ok (.iconst 1, 1) := by decide +kernel
theorem dX6_build_2 : decode cX6_build 2 = .ok (.aload_n 0, 1) := by decide +kernel
theorem dX6_build_3 : decode cX6_build 3 = .ok (.getfield 49, 3) := by decide +kernel
theorem dX6_build_6 : decode cX6_build 6 = .ok (.getfield 57, 3) := by decide +kernel
theorem dX6_build_9 : decode cX6_build 9 = .ok (.ishl, 1) := by decide +kernel
theorem dX6_build_10 : decode cX6_build 10 = .ok (.putfield 63, 3) := by decide +kernel
theorem dX6_build_13 : decode cX6_build 13 = .ok (.iconst 0, 1) := by decide +kernel
theorem dX6_build_14 : decode cX6_build 14 = .ok (.istore_n 1, 1) := by decide +kernel
theorem dX6_build_15 : decode cX6_build 15 = .ok (.iload_n 1, 1) := by decide +kernel
theorem dX6_build_16 : decode cX6_build 16 = .ok (.aload_n 0, 1) := by decide +kernel
theorem dX6_build_17 : decode cX6_build 17 = .ok (.getfield 49, 3) := by decide +kernel
theorem dX6_build_20 : decode cX6_build 20 = .ok (.getfield 57, 3) := by decide +kernel
theorem dX6_build_23 : decode cX6_build 23 = .ok (.if_icmp .ge 17, 3) := by decide +kernel
theorem dX6_build_26 : decode cX6_build 26 = .ok (.aload_n 0, 1) := by decide +kernel
theorem dX6_build_27 : decode cX6_build 27 = .ok (.iload_n 1, 1) := by decide +kernel
theorem dX6_build_28 : decode cX6_build 28 = .ok (.iconst 1, 1) := by decide +kernel
theorem dX6_build_29 : decode cX6_build 29 = .ok (.iload_n 1, 1) := by decide +kernel
theorem dX6_build_30 : decode cX6_build 30 = .ok (.ishl, 1) := by decide +kernel
theorem dX6_build_31 : decode cX6_build 31 = .ok (.invokevirtual 66, 3) := by decide +kernel
theorem dX6_build_34 : decode cX6_build 34 = .ok (.iinc 1 1, 3) := by decide +kernel
theorem dX6_build_37 : decode cX6_build 37 = .ok (.goto (-22), 3) := by decide +kernel
theorem dX6_build_40 : decode cX6_build 40 = .ok (.iconst 0, 1) := by decide +kernel
theorem dX6_build_41 : decode cX6_build 41 = .ok (.istore_n 1, 1) := by decide +kernel
theorem dX6_build_42 : decode cX6_build 42 = .ok (.iload_n 1, 1) := by decide +kernel
theorem dX6_build_43 : decode cX6_build 43 = .ok (.aload_n 0, 1) := by decide +kernel
theorem dX6_build_44 : decode cX6_build 44 = .ok (.getfield 63, 3) := by decide +kernel
theorem dX6_build_47 : decode cX6_build 47 = .ok (.if_icmp .ge 84, 3) := by decide +kernel
theorem dX6_build_50 : decode cX6_build 50 = .ok (.aload_n 0, 1) := by decide +kernel
theorem dX6_build_51 : decode cX6_build 51 = .ok (.getfield 34, 3) := by decide +kernel
theorem dX6_build_54 : decode cX6_build 54 = .ok (.iload_n 1, 1) := by decide +kernel
theorem dX6_build_55 : decode cX6_build 55 = .ok (.aload_n 0, 1) := by decide +kernel
theorem dX6_build_56 : decode cX6_build 56 = .ok (.getfield 22, 3) := by decide +kernel
theorem dX6_build_59 : decode cX6_build 59 = .ok (.iload_n 1, 1) := by decide +kernel
theorem dX6_build_60 : decode cX6_build 60 = .ok (.iaload, 1) := by decide +kernel
theorem dX6_build_61 : decode cX6_build 61 = .ok (.aload_n 0, 1) := by decide +kernel
theorem dX6_build_62 : decode cX6_build 62 = .ok (.getfield 25, 3) := by decide +kernel
theorem dX6_build_65 : decode cX6_build 65 = .ok (.iload_n 1, 1) := by decide +kernel
theorem dX6_build_66 : decode cX6_build 66 = .ok (.iaload, 1) := by decide +kernel
theorem dX6_build_67 : decode cX6_build 67 = .ok (.iconst (-1), 1) := by decide +kernel
theorem dX6_build_68 : decode cX6_build 68 = .ok (.ixor, 1) := by decide +kernel
theorem dX6_build_69 : decode cX6_build 69 = .ok (.iand, 1) := by decide +kernel
theorem dX6_build_70 : decode cX6_build 70 = .ok (.iastore, 1) := by decide +kernel
theorem dX6_build_71 : decode cX6_build 71 = .ok (.aload_n 0, 1) := by decide +kernel
theorem dX6_build_72 : decode cX6_build 72 = .ok (.getfield 37, 3) := by decide +kernel
theorem dX6_build_75 : decode cX6_build 75 = .ok (.iload_n 1, 1) := by decide +kernel
theorem dX6_build_76 : decode cX6_build 76 = .ok (.aload_n 0, 1) := by decide +kernel
theorem dX6_build_77 : decode cX6_build 77 = .ok (.getfield 53, 3) := by decide +kernel
theorem dX6_build_80 : decode cX6_build 80 = .ok (.iload_n 1, 1) := by decide +kernel
theorem dX6_build_81 : decode cX6_build 81 = .ok (.aload_n 0, 1) := by decide +kernel
theorem dX6_build_82 : decode cX6_build 82 = .ok (.getfield 22, 3) := by decide +kernel
theorem dX6_build_85 : decode cX6_build 85 = .ok (.iload_n 1, 1) := by decide +kernel
theorem dX6_build_86 : decode cX6_build 86 = .ok (.iaload, 1) := by decide +kernel
theorem dX6_build_87 : decode cX6_build 87 = .ok (.aload_n 0, 1) := by decide +kernel
theorem dX6_build_88 : decode cX6_build 88 = .ok (.getfield 28, 3) := by decide +kernel
theorem dX6_build_91 : decode cX6_build 91 = .ok (.iload_n 1, 1) := by decide +kernel
theorem dX6_build_92 : decode cX6_build 92 = .ok (.iaload, 1) := by decide +kernel
theorem dX6_build_93 : decode cX6_build 93 = .ok (.aload_n 0, 1) := by decide +kernel
theorem dX6_build_94 : decode cX6_build 94 = .ok (.getfield 31, 3) := by decide +kernel
theorem dX6_build_97 : decode cX6_build 97 = .ok (.iload_n 1, 1) := by decide +kernel
theorem dX6_build_98 : decode cX6_build 98 = .ok (.iaload, 1) := by decide +kernel
theorem dX6_build_99 : decode cX6_build 99 = .ok (.invokevirtual 70, 3) := by decide +kernel
theorem dX6_build_102 : decode cX6_build 102 = .ok (.iastore, 1) := by decide +kernel
theorem dX6_build_103 : decode cX6_build 103 = .ok (.aload_n 0, 1) := by decide +kernel
theorem dX6_build_104 : decode cX6_build 104 = .ok (.getfield 40, 3) := by decide +kernel
theorem dX6_build_107 : decode cX6_build 107 = .ok (.iload_n 1, 1) := by decide +kernel
theorem dX6_build_108 : decode cX6_build 108 = .ok (.iload_n 1, 1) := by decide +kernel
theorem dX6_build_109 : decode cX6_build 109 = .ok (.ifCond .ne 7, 3) := by decide +kernel
theorem dX6_build_112 : decode cX6_build 112 = .ok (.iconst 1, 1) := by decide +kernel
theorem dX6_build_113 : decode cX6_build 113 = .ok (.goto 4, 3) := by decide +kernel
theorem dX6_build_116 : decode cX6_build 116 = .ok (.iconst 0, 1) := by decide +kernel
theorem dX6_build_117 : decode cX6_build 117 = .ok (.iastore, 1) := by decide +kernel
theorem dX6_build_118 : decode cX6_build 118 = .ok (.aload_n 0, 1) := by decide +kernel
theorem dX6_build_119 : decode cX6_build 119 = .ok (.getfield 43, 3) := by decide +kernel
theorem dX6_build_122 : decode cX6_build 122 = .ok (.iload_n 1, 1) := by decide +kernel
theorem dX6_build_123 : decode cX6_build 123 = .ok (.iconst (-1), 1) := by decide +kernel
theorem dX6_build_124 : decode cX6_build 124 = .ok (.iastore, 1) := by decide +kernel
theorem dX6_build_125 : decode cX6_build 125 = .ok (.iinc 1 1, 3) := by decide +kernel
theorem dX6_build_128 : decode cX6_build 128 = .ok (.goto (-86), 3) := by decide +kernel
theorem dX6_build_131 : decode cX6_build 131 = .ok (.iconst 0, 1) := by decide +kernel
theorem dX6_build_132 : decode cX6_build 132 = .ok (.istore_n 1, 1) := by decide +kernel
theorem dX6_build_133 : decode cX6_build 133 = .ok (.iload_n 1, 1) := by decide +kernel
theorem dX6_build_134 : decode cX6_build 134 = .ok (.aload_n 0, 1) := by decide +kernel
theorem dX6_build_135 : decode cX6_build 135 = .ok (.getfield 63, 3) := by decide +kernel
theorem dX6_build_138 : decode cX6_build 138 = .ok (.if_icmp .ge 47, 3) := by decide +kernel
theorem dX6_build_141 : decode cX6_build 141 = .ok (.aload_n 0, 1) := by decide +kernel
theorem dX6_build_142 : decode cX6_build 142 = .ok (.getfield 40, 3) := by decide +kernel
theorem dX6_build_145 : decode cX6_build 145 = .ok (.iload_n 1, 1) := by decide +kernel
theorem dX6_build_146 : decode cX6_build 146 = .ok (.iaload, 1) := by decide +kernel
theorem dX6_build_147 : decode cX6_build 147 = .ok (.ifCond .le 32, 3) := by decide +kernel
theorem dX6_build_150 : decode cX6_build 150 = .ok (.aload_n 0, 1) := by decide +kernel
theorem dX6_build_151 : decode cX6_build 151 = .ok (.getfield 43, 3) := by decide +kernel
theorem dX6_build_154 : decode cX6_build 154 = .ok (.iload_n 1, 1) := by decide +kernel
theorem dX6_build_155 : decode cX6_build 155 = .ok (.aload_n 0, 1) := by decide +kernel
theorem dX6_build_156 : decode cX6_build 156 = .ok (.getfield 43, 3) := by decide +kernel
theorem dX6_build_159 : decode cX6_build 159 = .ok (.iload_n 1, 1) := by decide +kernel
theorem dX6_build_160 : decode cX6_build 160 = .ok (.iaload, 1) := by decide +kernel
theorem dX6_build_161 : decode cX6_build 161 = .ok (.aload_n 0, 1) := by decide +kernel
theorem dX6_build_162 : decode cX6_build 162 = .ok (.getfield 34, 3) := by decide +kernel
theorem dX6_build_165 : decode cX6_build 165 = .ok (.iload_n 1, 1) := by decide +kernel
theorem dX6_build_166 : decode cX6_build 166 = .ok (.iaload, 1) := by decide +kernel
theorem dX6_build_167 : decode cX6_build 167 = .ok (.invokestatic 76, 3) := by decide +kernel
theorem dX6_build_170 : decode cX6_build 170 = .ok (.invokestatic 82, 3) := by decide +kernel
theorem dX6_build_173 : decode cX6_build 173 = .ok (.iastore, 1) := by decide +kernel
theorem dX6_build_174 : decode cX6_build 174 = .ok (.aload_n 0, 1) := by decide +kernel
theorem dX6_build_175 : decode cX6_build 175 = .ok (.iload_n 1, 1) := by decide +kernel
theorem dX6_build_176 : decode cX6_build 176 = .ok (.invokevirtual 88, 3) := by decide +kernel
theorem dX6_build_179 : decode cX6_build 179 = .ok (.iinc 1 1, 3) := by decide +kernel
theorem dX6_build_182 : decode cX6_build 182 = .ok (.goto (-49), 3) := by decide +kernel
theorem dX6_build_185 : decode cX6_build 185 = .ok (.aload_n 0, 1) := by decide +kernel
theorem dX6_build_186 : decode cX6_build 186 = .ok (.iconst (-1), 1) := by decide +kernel
theorem dX6_build_187 : decode cX6_build 187 = .ok (.putfield 92, 3) := by decide +kernel
theorem dX6_build_190 : decode cX6_build 190 = .ok (.aload_n 0, 1) := by decide +kernel
theorem dX6_build_191 : decode cX6_build 191 = .ok (.iconst 1, 1) := by decide +kernel
theorem dX6_build_192 : decode cX6_build 192 = .ok (.putfield 9, 3) := by decide +kernel
theorem dX6_build_195 : decode cX6_build 195 = .ok (.return_, 1) := by decide +kernel
theorem dX6_addUp_0 : decode cX6_addUp 0 = .ok (.aload_n 0, 1) := by decide +kernel
theorem dX6_addUp_1 : decode cX6_addUp 1 = .ok (.getfield 49, 3) := by decide +kernel
theorem dX6_addUp_4 : decode cX6_addUp 4 = .ok (.getfield 95, 3) := by decide +kernel
theorem dX6_addUp_7 : decode cX6_addUp 7 = .ok (.iload_n 1, 1) := by decide +kernel
theorem dX6_addUp_8 : decode cX6_addUp 8 = .ok (.aaload, 1) := by decide +kernel
theorem dX6_addUp_9 : decode cX6_addUp 9 = .ok (.astore_n 3, 1) := by decide +kernel
theorem dX6_addUp_10 : decode cX6_addUp 10 = .ok (.aload_n 0, 1) := by decide +kernel
theorem dX6_addUp_11 : decode cX6_addUp 11 = .ok (.getfield 49, 3) := by decide +kernel
theorem dX6_addUp_14 : decode cX6_addUp 14 = .ok (.iload_n 2, 1) := by decide +kernel
theorem dX6_addUp_15 : decode cX6_addUp 15 = .ok (.invokevirtual 99, 3) := by decide +kernel
theorem dX6_addUp_18 : decode cX6_addUp 18 = .ok (.istore 4, 2) := by decide +kernel
theorem dX6_addUp_20 : decode cX6_addUp 20 = .ok (.iconst 0, 1) := by decide +kernel
theorem dX6_addUp_21 : decode cX6_addUp 21 = .ok (.istore 5, 2) := by decide +kernel
theorem dX6_addUp_23 : decode cX6_addUp 23 = .ok (.iload 5, 2) := by decide +kernel
theorem dX6_addUp_25 : decode cX6_addUp 25 = .ok (.iload_n 2, 1) := by decide +kernel
theorem dX6_addUp_26 : decode cX6_addUp 26 = .ok (.if_icmp .ge 123, 3) := by decide +kernel
theorem dX6_addUp_29 : decode cX6_addUp 29 = .ok (.iload 5, 2) := by decide +kernel
theorem dX6_addUp_31 : decode cX6_addUp 31 = .ok (.iload_n 2, 1) := by decide +kernel
theorem dX6_addUp_32 : decode cX6_addUp 32 = .ok (.ior, 1) := by decide +kernel
theorem dX6_addUp_33 : decode cX6_addUp 33 = .ok (.istore 6, 2) := by decide +kernel
theorem dX6_addUp_35 : decode cX6_addUp 35 = .ok (.aload_n 0, 1) := by decide +kernel
theorem dX6_addUp_36 : decode cX6_addUp 36 = .ok (.getfield 15, 3) := by decide +kernel
theorem dX6_addUp_39 : decode cX6_addUp 39 = .ok (.iload 6, 2) := by decide +kernel
theorem dX6_addUp_41 : decode cX6_addUp 41 = .ok (.aload_n 0, 1) := by decide +kernel
theorem dX6_addUp_42 : decode cX6_addUp 42 = .ok (.getfield 15, 3) := by decide +kernel
theorem dX6_addUp_45 : decode cX6_addUp 45 = .ok (.iload 5, 2) := by decide +kernel
theorem dX6_addUp_47 : decode cX6_addUp 47 = .ok (.iaload, 1) := by decide +kernel
theorem dX6_addUp_48 : decode cX6_addUp 48 = .ok (.aload_n 3, 1) := by decide +kernel
theorem dX6_addUp_49 : decode cX6_addUp 49 = .ok (.iconst 0, 1) := by decide +kernel
theorem dX6_addUp_50 : decode cX6_addUp 50 = .ok (.iaload, 1) := by decide +kernel
theorem dX6_addUp_51 : decode cX6_addUp 51 = .ok (.iadd, 1) := by decide +kernel
theorem dX6_addUp_52 : decode cX6_addUp 52 = .ok (.iastore, 1) := by decide +kernel
theorem dX6_addUp_53 : decode cX6_addUp 53 = .ok (.aload_n 0, 1) := by decide +kernel
theorem dX6_addUp_54 : decode cX6_addUp 54 = .ok (.getfield 19, 3) := by decide +kernel
theorem dX6_addUp_57 : decode cX6_addUp 57 = .ok (.iload 6, 2) := by decide +kernel
theorem dX6_addUp_59 : decode cX6_addUp 59 = .ok (.aload_n 0, 1) := by decide +kernel
theorem dX6_addUp_60 : decode cX6_addUp 60 = .ok (.getfield 19, 3) := by decide +kernel
theorem dX6_addUp_63 : decode cX6_addUp 63 = .ok (.iload 5, 2) := by decide +kernel
theorem dX6_addUp_65 : decode cX6_addUp 65 = .ok (.iaload, 1) := by decide +kernel
theorem dX6_addUp_66 : decode cX6_addUp 66 = .ok (.aload_n 3, 1) := by decide +kernel
theorem dX6_addUp_67 : decode cX6_addUp 67 = .ok (.iconst 1, 1) := by decide +kernel
theorem dX6_addUp_68 : decode cX6_addUp 68 = .ok (.iaload, 1) := by decide +kernel
theorem dX6_addUp_69 : decode cX6_addUp 69 = .ok (.iadd, 1) := by decide +kernel
theorem dX6_addUp_70 : decode cX6_addUp 70 = .ok (.iastore, 1) := by decide +kernel
theorem dX6_addUp_71 : decode cX6_addUp 71 = .ok (.aload_n 0, 1) := by decide +kernel
theorem dX6_addUp_72 : decode cX6_addUp 72 = .ok (.getfield 22, 3) := by decide +kernel
theorem dX6_addUp_75 : decode cX6_addUp 75 = .ok (.iload 6, 2) := by decide +kernel
theorem dX6_addUp_77 : decode cX6_addUp 77 = .ok (.aload_n 0, 1) := by decide +kernel
theorem dX6_addUp_78 : decode cX6_addUp 78 = .ok (.getfield 22, 3) := by decide +kernel
theorem dX6_addUp_81 : decode cX6_addUp 81 = .ok (.iload 5, 2) := by decide +kernel
theorem dX6_addUp_83 : decode cX6_addUp 83 = .ok (.iaload, 1) := by decide +kernel
theorem dX6_addUp_84 : decode cX6_addUp 84 = .ok (.aload_n 3, 1) := by decide +kernel
theorem dX6_addUp_85 : decode cX6_addUp 85 = .ok (.iconst 4, 1) := by decide +kernel
theorem dX6_addUp_86 : decode cX6_addUp 86 = .ok (.iaload, 1) := by decide +kernel
theorem dX6_addUp_87 : decode cX6_addUp 87 = .ok (.ior, 1) := by decide +kernel
theorem dX6_addUp_88 : decode cX6_addUp 88 = .ok (.iastore, 1) := by decide +kernel
theorem dX6_addUp_89 : decode cX6_addUp 89 = .ok (.aload_n 0, 1) := by decide +kernel
theorem dX6_addUp_90 : decode cX6_addUp 90 = .ok (.getfield 25, 3) := by decide +kernel
theorem dX6_addUp_93 : decode cX6_addUp 93 = .ok (.iload 6, 2) := by decide +kernel
theorem dX6_addUp_95 : decode cX6_addUp 95 = .ok (.aload_n 0, 1) := by decide +kernel
theorem dX6_addUp_96 : decode cX6_addUp 96 = .ok (.getfield 25, 3) := by decide +kernel
theorem dX6_addUp_99 : decode cX6_addUp 99 = .ok (.iload 5, 2) := by decide +kernel
theorem dX6_addUp_101 : decode cX6_addUp 101 = .ok (.iaload, 1) := by decide +kernel
theorem dX6_addUp_102 : decode cX6_addUp 102 = .ok (.aload_n 3, 1) := by decide +kernel
theorem dX6_addUp_103 : decode cX6_addUp 103 = .ok (.iconst 5, 1) := by decide +kernel
theorem dX6_addUp_104 : decode cX6_addUp 104 = .ok (.iaload, 1) := by decide +kernel
theorem dX6_addUp_105 : decode cX6_addUp 105 = .ok (.ior, 1) := by decide +kernel
theorem dX6_addUp_106 : decode cX6_addUp 106 = .ok (.iastore, 1) := by decide +kernel
theorem dX6_addUp_107 : decode cX6_addUp 107 = .ok (.aload_n 0, 1) := by decide +kernel
theorem dX6_addUp_108 : decode cX6_addUp 108 = .ok (.getfield 28, 3) := by decide +kernel
theorem dX6_addUp_111 : decode cX6_addUp 111 = .ok (.iload 6, 2) := by decide +kernel
theorem dX6_addUp_113 : decode cX6_addUp 113 = .ok (.aload_n 0, 1) := by decide +kernel
theorem dX6_addUp_114 : decode cX6_addUp 114 = .ok (.getfield 28, 3) := by decide +kernel
theorem dX6_addUp_117 : decode cX6_addUp 117 = .ok (.iload 5, 2) := by decide +kernel
theorem dX6_addUp_119 : decode cX6_addUp 119 = .ok (.iaload, 1) := by decide +kernel
theorem dX6_addUp_120 : decode cX6_addUp 120 = .ok (.aload_n 3, 1) := by decide +kernel
theorem dX6_addUp_121 : decode cX6_addUp 121 = .ok (.bipush 6, 2) := by decide +kernel
theorem dX6_addUp_123 : decode cX6_addUp 123 = .ok (.iaload, 1) := by decide +kernel
theorem dX6_addUp_124 : decode cX6_addUp 124 = .ok (.ior, 1) := by decide +kernel
theorem dX6_addUp_125 : decode cX6_addUp 125 = .ok (.iastore, 1) := by decide +kernel
theorem dX6_addUp_126 : decode cX6_addUp 126 = .ok (.aload_n 0, 1) := by decide +kernel
theorem dX6_addUp_127 : decode cX6_addUp 127 = .ok (.getfield 31, 3) := by decide +kernel
theorem dX6_addUp_130 : decode cX6_addUp 130 = .ok (.iload 6, 2) := by decide +kernel
theorem dX6_addUp_132 : decode cX6_addUp 132 = .ok (.aload_n 0, 1) := by decide +kernel
theorem dX6_addUp_133 : decode cX6_addUp 133 = .ok (.getfield 31, 3) := by decide +kernel
theorem dX6_addUp_136 : decode cX6_addUp 136 = .ok (.iload 5, 2) := by decide +kernel
theorem dX6_addUp_138 : decode cX6_addUp 138 = .ok (.iaload, 1) := by decide +kernel
theorem dX6_addUp_139 : decode cX6_addUp 139 = .ok (.iload 4, 2) := by decide +kernel
theorem dX6_addUp_141 : decode cX6_addUp 141 = .ok (.ior, 1) := by decide +kernel
theorem dX6_addUp_142 : decode cX6_addUp 142 = .ok (.iastore, 1) := by decide +kernel
theorem dX6_addUp_143 : decode cX6_addUp 143 = .ok (.iinc 5 1, 3) := by decide +kernel
theorem dX6_addUp_146 : decode cX6_addUp 146 = .ok (.goto (-123), 3) := by decide +kernel
theorem dX6_addUp_149 : decode cX6_addUp 149 = .ok (.return_, 1) := by decide +kernel
theorem dX6_spread_0 : decode cX6_spread 0 = .ok (.iconst 0, 1) := by decide +kernel
theorem dX6_spread_1 : decode cX6_spread 1 = .ok (.istore_n 2, 1) := by decide +kernel
theorem dX6_spread_2 : decode cX6_spread 2 = .ok (.iload_n 2, 1) := by decide +kernel
theorem dX6_spread_3 : decode cX6_spread 3 = .ok (.aload_n 0, 1) := by decide +kernel
theorem dX6_spread_4 : decode cX6_spread 4 = .ok (.getfield 49, 3) := by decide +kernel
theorem dX6_spread_7 : decode cX6_spread 7 = .ok (.getfield 57, 3) := by decide +kernel
theorem dX6_spread_10 : decode cX6_spread 10 = .ok (.if_icmp .ge 83, 3) := by decide +kernel
theorem dX6_spread_13 : decode cX6_spread 13 = .ok (.aload_n 0, 1) := by decide +kernel
theorem dX6_spread_14 : decode cX6_spread 14 = .ok (.getfield 37, 3) := by decide +kernel
theorem dX6_spread_17 : decode cX6_spread 17 = .ok (.iload_n 1, 1) := by decide +kernel
theorem dX6_spread_18 : decode cX6_spread 18 = .ok (.iaload, 1) := by decide +kernel
theorem dX6_spread_19 : decode cX6_spread 19 = .ok (.iload_n 2, 1) := by decide +kernel
theorem dX6_spread_20 : decode cX6_spread 20 = .ok (.ishr, 1) := by decide +kernel
theorem dX6_spread_21 : decode cX6_spread 21 = .ok (.iconst 1, 1) := by decide +kernel
theorem dX6_spread_22 : decode cX6_spread 22 = .ok (.iand, 1) := by decide +kernel
theorem dX6_spread_23 : decode cX6_spread 23 = .ok (.iconst 1, 1) := by decide +kernel
theorem dX6_spread_24 : decode cX6_spread 24 = .ok (.if_icmp .ne 63, 3) := by decide +kernel
theorem dX6_spread_27 : decode cX6_spread 27 = .ok (.iload_n 1, 1) := by decide +kernel
theorem dX6_spread_28 : decode cX6_spread 28 = .ok (.iconst 1, 1) := by decide +kernel
theorem dX6_spread_29 : decode cX6_spread 29 = .ok (.iload_n 2, 1) := by decide +kernel
theorem dX6_spread_30 : decode cX6_spread 30 = .ok (.ishl, 1) := by decide +kernel
theorem dX6_spread_31 : decode cX6_spread 31 = .ok (.ior, 1) := by decide +kernel
theorem dX6_spread_32 : decode cX6_spread 32 = .ok (.istore_n 3, 1) := by decide +kernel
theorem dX6_spread_33 : decode cX6_spread 33 = .ok (.aload_n 0, 1) := by decide +kernel
theorem dX6_spread_34 : decode cX6_spread 34 = .ok (.getfield 43, 3) := by decide +kernel
theorem dX6_spread_37 : decode cX6_spread 37 = .ok (.iload_n 3, 1) := by decide +kernel
theorem dX6_spread_38 : decode cX6_spread 38 = .ok (.aload_n 0, 1) := by decide +kernel
theorem dX6_spread_39 : decode cX6_spread 39 = .ok (.getfield 40, 3) := by decide +kernel
theorem dX6_spread_42 : decode cX6_spread 42 = .ok (.iload_n 3, 1) := by decide +kernel
theorem dX6_spread_43 : decode cX6_spread 43 = .ok (.iaload, 1) := by decide +kernel
theorem dX6_spread_44 : decode cX6_spread 44 = .ok (.ifCond .ne 12, 3) := by decide +kernel
theorem dX6_spread_47 : decode cX6_spread 47 = .ok (.aload_n 0, 1) := by decide +kernel
theorem dX6_spread_48 : decode cX6_spread 48 = .ok (.getfield 43, 3) := by decide +kernel
theorem dX6_spread_51 : decode cX6_spread 51 = .ok (.iload_n 1, 1) := by decide +kernel
theorem dX6_spread_52 : decode cX6_spread 52 = .ok (.iaload, 1) := by decide +kernel
theorem dX6_spread_53 : decode cX6_spread 53 = .ok (.goto 18, 3) := by decide +kernel
theorem dX6_spread_56 : decode cX6_spread 56 = .ok (.aload_n 0, 1) := by decide +kernel
theorem dX6_spread_57 : decode cX6_spread 57 = .ok (.getfield 43, 3) := by decide +kernel
theorem dX6_spread_60 : decode cX6_spread 60 = .ok (.iload_n 3, 1) := by decide +kernel
theorem dX6_spread_61 : decode cX6_spread 61 = .ok (.iaload, 1) := by decide +kernel
theorem dX6_spread_62 : decode cX6_spread 62 = .ok (.aload_n 0, 1) := by decide +kernel
theorem dX6_spread_63 : decode cX6_spread 63 = .ok (.getfield 43, 3) := by decide +kernel
theorem dX6_spread_66 : decode cX6_spread 66 = .ok (.iload_n 1, 1) := by decide +kernel
theorem dX6_spread_67 : decode cX6_spread 67 = .ok (.iaload, 1) := by decide +kernel
theorem dX6_spread_68 : decode cX6_spread 68 = .ok (.invokestatic 102, 3) := by decide +kernel
theorem dX6_spread_71 : decode cX6_spread 71 = .ok (.iastore, 1) := by decide +kernel
theorem dX6_spread_72 : decode cX6_spread 72 = .ok (.aload_n 0, 1) := by decide +kernel
theorem dX6_spread_73 : decode cX6_spread 73 = .ok (.getfield 40, 3) := by decide +kernel
theorem dX6_spread_76 : decode cX6_spread 76 = .ok (.iload_n 3, 1) := by decide +kernel
theorem dX6_spread_77 : decode cX6_spread 77 = .ok (.dup2, 1) := by decide +kernel
theorem dX6_spread_78 : decode cX6_spread 78 = .ok (.iaload, 1) := by decide +kernel
theorem dX6_spread_79 : decode cX6_spread 79 = .ok (.aload_n 0, 1) := by decide +kernel
theorem dX6_spread_80 : decode cX6_spread 80 = .ok (.getfield 40, 3) := by decide +kernel
theorem dX6_spread_83 : decode cX6_spread 83 = .ok (.iload_n 1, 1) := by decide +kernel
theorem dX6_spread_84 : decode cX6_spread 84 = .ok (.iaload, 1) := by decide +kernel
theorem dX6_spread_85 : decode cX6_spread 85 = .ok (.iadd, 1) := by decide +kernel
theorem dX6_spread_86 : decode cX6_spread 86 = .ok (.iastore, 1) := by decide +kernel
theorem dX6_spread_87 : decode cX6_spread 87 = .ok (.iinc 2 1, 3) := by decide +kernel
theorem dX6_spread_90 : decode cX6_spread 90 = .ok (.goto (-88), 3) := by decide +kernel
theorem dX6_spread_93 : decode cX6_spread 93 = .ok (.return_, 1) := by decide +kernel
theorem dX6_countGood_0 : decode cX6_countGood 0 = .ok (.iconst 0, 1) := by decide +kernel
theorem dX6_countGood_1 : decode cX6_countGood 1 = .ok (.istore_n 1, 1) := by decide +kernel
theorem dX6_countGood_2 : decode cX6_countGood 2 = .ok (.iconst 0, 1) := by decide +kernel
theorem dX6_countGood_3 : decode cX6_countGood 3 = .ok (.istore_n 2, 1) := by decide +kernel
theorem dX6_countGood_4 : decode cX6_countGood 4 = .ok (.iload_n 2, 1) := by decide +kernel
theorem dX6_countGood_5 : decode cX6_countGood 5 = .ok (.aload_n 0, 1) := by decide +kernel
theorem dX6_countGood_6 : decode cX6_countGood 6 = .ok (.getfield 63, 3) := by decide +kernel
theorem dX6_countGood_9 : decode cX6_countGood 9 = .ok (.if_icmp .ge 21, 3) := by decide +kernel
theorem dX6_countGood_12 : decode cX6_countGood 12 = .ok (.aload_n 0, 1) := by decide +kernel
theorem dX6_countGood_13 : decode cX6_countGood 13 = .ok (.getfield 40, 3) := by decide +kernel
theorem dX6_countGood_16 : decode cX6_countGood 16 = .ok (.iload_n 2, 1) := by decide +kernel
theorem dX6_countGood_17 : decode cX6_countGood 17 = .ok (.iaload, 1) := by decide +kernel
theorem dX6_countGood_18 : decode cX6_countGood 18 = .ok (.ifCond .le 6, 3) := by decide +kernel
theorem dX6_countGood_21 : decode cX6_countGood 21 = .ok (.iinc 1 1, 3) := by decide +kernel
theorem dX6_countGood_24 : decode cX6_countGood 24 = .ok (.iinc 2 1, 3) := by decide +kernel
theorem dX6_countGood_27 : decode cX6_countGood 27 = .ok (.goto (-23), 3) := by decide +kernel
theorem dX6_countGood_30 : decode cX6_countGood 30 = .ok (.iload_n 1, 1) := by decide +kernel
theorem dX6_countGood_31 : decode cX6_countGood 31 = .ok (.ireturn, 1) := by decide +kernel
theorem dX6_findEndings_0 : decode cX6_findEndings 0 = .ok (.aload_n 0, 1) := by decide +kernel
theorem dX6_findEndings_1 : decode cX6_findEndings 1 = .ok (.getfield 92, 3) := by decide +kernel
theorem dX6_findEndings_4 : decode cX6_findEndings 4 = .ok (.iload_n 1, 1) := by decide +kernel
theorem dX6_findEndings_5 : decode cX6_findEndings 5 = .ok (.if_icmp .ne 4, 3) := by decide +kernel
theorem dX6_findEndings_8 : decode cX6_findEndings 8 = .ok (.return_, 1) := by decide +kernel
theorem dX6_findEndings_9 : decode cX6_findEndings 9 = .ok (.iload_n 1, 1) := by decide +kernel
theorem dX6_findEndings_10 : decode cX6_findEndings 10 = .ok (.istore_n 2, 1) := by decide +kernel
theorem dX6_findEndings_11 : decode cX6_findEndings 11 = .ok (.iload_n 2, 1) := by decide +kernel
theorem dX6_findEndings_12 : decode cX6_findEndings 12 = .ok (.ifCond .lt 97, 3) := by decide +kernel
theorem dX6_findEndings_15 : decode cX6_findEndings 15 = .ok (.aload_n 0, 1) := by decide +kernel
theorem dX6_findEndings_16 : decode cX6_findEndings 16 = .ok (.getfield 46, 3) := by decide +kernel
theorem dX6_findEndings_19 : decode cX6_findEndings 19 = .ok (.iload_n 2, 1) := by decide +kernel
theorem dX6_findEndings_20 : decode cX6_findEndings 20 = .ok (.iload_n 2, 1) := by decide +kernel
theorem dX6_findEndings_21 : decode cX6_findEndings 21 = .ok (.iload_n 1, 1) := by decide +kernel
theorem dX6_findEndings_22 : decode cX6_findEndings 22 = .ok (.if_icmp .ne 7, 3) := by decide +kernel
theorem dX6_findEndings_25 : decode cX6_findEndings 25 = .ok (.iconst 1, 1) := by decide +kernel
theorem dX6_findEndings_26 : decode cX6_findEndings 26 = .ok (.goto 4, 3) := by decide +kernel
theorem dX6_findEndings_29 : decode cX6_findEndings 29 = .ok (.iconst 0, 1) := by decide +kernel
theorem dX6_findEndings_30 : decode cX6_findEndings 30 = .ok (.iastore, 1) := by decide +kernel
theorem dX6_findEndings_31 : decode cX6_findEndings 31 = .ok (.iload_n 2, 1) := by decide +kernel
theorem dX6_findEndings_32 : decode cX6_findEndings 32 = .ok (.iload_n 1, 1) := by decide +kernel
theorem dX6_findEndings_33 : decode cX6_findEndings 33 = .ok (.iconst (-1), 1) := by decide +kernel
theorem dX6_findEndings_34 : decode cX6_findEndings 34 = .ok (.ixor, 1) := by decide +kernel
theorem dX6_findEndings_35 : decode cX6_findEndings 35 = .ok (.iand, 1) := by decide +kernel
theorem dX6_findEndings_36 : decode cX6_findEndings 36 = .ok (.ifCond .ne 14, 3) := by decide +kernel
theorem dX6_findEndings_39 : decode cX6_findEndings 39 = .ok (.aload_n 0, 1) := by decide +kernel
theorem dX6_findEndings_40 : decode cX6_findEndings 40 = .ok (.getfield 37, 3) := by decide +kernel
theorem dX6_findEndings_43 : decode cX6_findEndings 43 = .ok (.iload_n 2, 1) := by decide +kernel
theorem dX6_findEndings_44 : decode cX6_findEndings 44 = .ok (.iaload, 1) := by decide +kernel
theorem dX6_findEndings_45 : decode cX6_findEndings 45 = .ok (.iload_n 1, 1) := by decide +kernel
theorem dX6_findEndings_46 : decode cX6_findEndings 46 = .ok (.iand, 1) := by decide +kernel
theorem dX6_findEndings_47 : decode cX6_findEndings 47 = .ok (.goto 4, 3) := by decide +kernel
theorem dX6_findEndings_50 : decode cX6_findEndings 50 = .ok (.iconst 0, 1) := by decide +kernel
theorem dX6_findEndings_51 : decode cX6_findEndings 51 = .ok (.istore_n 3, 1) := by decide +kernel
theorem dX6_findEndings_52 : decode cX6_findEndings 52 = .ok (.iconst 0, 1) := by decide +kernel
theorem dX6_findEndings_53 : decode cX6_findEndings 53 = .ok (.istore 4, 2) := by decide +kernel
theorem dX6_findEndings_55 : decode cX6_findEndings 55 = .ok (.iload 4, 2) := by decide +kernel
theorem dX6_findEndings_57 : decode cX6_findEndings 57 = .ok (.aload_n 0, 1) := by decide +kernel
theorem dX6_findEndings_58 : decode cX6_findEndings 58 = .ok (.getfield 49, 3) := by decide +kernel
theorem dX6_findEndings_61 : decode cX6_findEndings 61 = .ok (.getfield 57, 3) := by decide +kernel
theorem dX6_findEndings_64 : decode cX6_findEndings 64 = .ok (.if_icmp .ge 39, 3) := by decide +kernel
theorem dX6_findEndings_67 : decode cX6_findEndings 67 = .ok (.iload_n 3, 1) := by decide +kernel
theorem dX6_findEndings_68 : decode cX6_findEndings 68 = .ok (.iload 4, 2) := by decide +kernel
theorem dX6_findEndings_70 : decode cX6_findEndings 70 = .ok (.ishr, 1) := by decide +kernel
theorem dX6_findEndings_71 : decode cX6_findEndings 71 = .ok (.iconst 1, 1) := by decide +kernel
theorem dX6_findEndings_72 : decode cX6_findEndings 72 = .ok (.iand, 1) := by decide +kernel
theorem dX6_findEndings_73 : decode cX6_findEndings 73 = .ok (.iconst 1, 1) := by decide +kernel
theorem dX6_findEndings_74 : decode cX6_findEndings 74 = .ok (.if_icmp .ne 23, 3) := by decide +kernel
theorem dX6_findEndings_77 : decode cX6_findEndings 77 = .ok (.aload_n 0, 1) := by decide +kernel
theorem dX6_findEndings_78 : decode cX6_findEndings 78 = .ok (.getfield 46, 3) := by decide +kernel
theorem dX6_findEndings_81 : decode cX6_findEndings 81 = .ok (.iload_n 2, 1) := by decide +kernel
theorem dX6_findEndings_82 : decode cX6_findEndings 82 = .ok (.dup2, 1) := by decide +kernel
theorem dX6_findEndings_83 : decode cX6_findEndings 83 = .ok (.iaload, 1) := by decide +kernel
theorem dX6_findEndings_84 : decode cX6_findEndings 84 = .ok (.aload_n 0, 1) := by decide +kernel
theorem dX6_findEndings_85 : decode cX6_findEndings 85 = .ok (.getfield 46, 3) := by decide +kernel
theorem dX6_findEndings_88 : decode cX6_findEndings 88 = .ok (.iload_n 2, 1) := by decide +kernel
theorem dX6_findEndings_89 : decode cX6_findEndings 89 = .ok (.iconst 1, 1) := by decide +kernel
theorem dX6_findEndings_90 : decode cX6_findEndings 90 = .ok (.iload 4, 2) := by decide +kernel
theorem dX6_findEndings_92 : decode cX6_findEndings 92 = .ok (.ishl, 1) := by decide +kernel
theorem dX6_findEndings_93 : decode cX6_findEndings 93 = .ok (.ior, 1) := by decide +kernel
theorem dX6_findEndings_94 : decode cX6_findEndings 94 = .ok (.iaload, 1) := by decide +kernel
theorem dX6_findEndings_95 : decode cX6_findEndings 95 = .ok (.iadd, 1) := by decide +kernel
theorem dX6_findEndings_96 : decode cX6_findEndings 96 = .ok (.iastore, 1) := by decide +kernel
theorem dX6_findEndings_97 : decode cX6_findEndings 97 = .ok (.iinc 4 1, 3) := by decide +kernel
theorem dX6_findEndings_100 : decode cX6_findEndings 100 = .ok (.goto (-45), 3) := by decide +kernel
theorem dX6_findEndings_103 : decode cX6_findEndings 103 = .ok (.iinc 2 (-1), 3) := by decide +kernel
theorem dX6_findEndings_106 : decode cX6_findEndings 106 = .ok (.goto (-95), 3) := by decide +kernel
theorem dX6_findEndings_109 : decode cX6_findEndings 109 = .ok (.aload_n 0, 1) := by decide +kernel
theorem dX6_findEndings_110 : decode cX6_findEndings 110 = .ok (.iload_n 1, 1) := by decide +kernel
theorem dX6_findEndings_111 : decode cX6_findEndings 111 = .ok (.putfield 92, 3) := by decide +kernel
theorem dX6_findEndings_114 : decode cX6_findEndings 114 = .ok (.return_, 1) := by decide +kernel
theorem dX6_sceneOfOrder_0 : decode cX6_sceneOfOrder 0 = .ok (.lload_n 2, 1) := by decide +kernel
theorem dX6_sceneOfOrder_1 : decode cX6_sceneOfOrder 1 = .ok (.aload_n 0, 1) := by decide +kernel
theorem dX6_sceneOfOrder_2 : decode cX6_sceneOfOrder 2 = .ok (.getfield 40, 3) := by decide +kernel
theorem dX6_sceneOfOrder_5 : decode cX6_sceneOfOrder 5 = .ok (.iload_n 1, 1) := by decide +kernel
theorem dX6_sceneOfOrder_6 : decode cX6_sceneOfOrder 6 = .ok (.iaload, 1) := by decide +kernel
theorem dX6_sceneOfOrder_7 : decode cX6_sceneOfOrder 7 = .ok (.i2l, 1) := by decide +kernel
theorem dX6_sceneOfOrder_8 : decode cX6_sceneOfOrder 8 = .ok (.lcmp, 1) := by decide +kernel
theorem dX6_sceneOfOrder_9 : decode cX6_sceneOfOrder 9 = .ok (.ifCond .ge 17, 3) := by decide +kernel
theorem dX6_sceneOfOrder_12 : decode cX6_sceneOfOrder 12 = .ok (.iload 4, 2) := by decide +kernel
theorem dX6_sceneOfOrder_14 : decode cX6_sceneOfOrder 14 = .ok (.ifCond .lt 12, 3) := by decide +kernel
theorem dX6_sceneOfOrder_17 : decode cX6_sceneOfOrder 17 = .ok (.iload 4, 2) := by decide +kernel
theorem dX6_sceneOfOrder_19 : decode cX6_sceneOfOrder 19 = .ok (.iload_n 1, 1) := by decide +kernel
theorem dX6_sceneOfOrder_20 : decode cX6_sceneOfOrder 20 = .ok (.invokestatic 76, 3) := by decide +kernel
theorem dX6_sceneOfOrder_23 : decode cX6_sceneOfOrder 23 = .ok (.if_icmp .lt 5, 3) := by decide +kernel
theorem dX6_sceneOfOrder_26 : decode cX6_sceneOfOrder 26 = .ok (.iconst (-1), 1) := by decide +kernel
theorem dX6_sceneOfOrder_27 : decode cX6_sceneOfOrder 27 = .ok (.ireturn, 1) := by decide +kernel
theorem dX6_sceneOfOrder_28 : decode cX6_sceneOfOrder 28 = .ok (.aload_n 0, 1) := by decide +kernel
theorem dX6_sceneOfOrder_29 : decode cX6_sceneOfOrder 29 = .ok (.iload_n 1, 1) := by decide +kernel
theorem dX6_sceneOfOrder_30 : decode cX6_sceneOfOrder 30 = .ok (.invokevirtual 105, 3) := by decide +kernel
theorem dX6_sceneOfOrder_33 : decode cX6_sceneOfOrder 33 = .ok (.lload_n 2, 1) := by decide +kernel
theorem dX6_sceneOfOrder_34 : decode cX6_sceneOfOrder 34 = .ok (.lstore 5, 2) := by decide +kernel
theorem dX6_sceneOfOrder_36 : decode cX6_sceneOfOrder 36 = .ok (.iconst 0, 1) := by decide +kernel
theorem dX6_sceneOfOrder_37 : decode cX6_sceneOfOrder 37 = .ok (.istore 7, 2) := by decide +kernel
theorem dX6_sceneOfOrder_39 : decode cX6_sceneOfOrder 39 = .ok (.iconst (-1), 1) := by decide +kernel
theorem dX6_sceneOfOrder_40 : decode cX6_sceneOfOrder 40 = .ok (.istore 8, 2) := by decide +kernel
theorem dX6_sceneOfOrder_42 : decode cX6_sceneOfOrder 42 = .ok (.iconst 0, 1) := by decide +kernel
theorem dX6_sceneOfOrder_43 : decode cX6_sceneOfOrder 43 = .ok (.istore 9, 2) := by decide +kernel
theorem dX6_sceneOfOrder_45 : decode cX6_sceneOfOrder 45 = .ok (.iload 9, 2) := by decide +kernel
theorem dX6_sceneOfOrder_47 : decode cX6_sceneOfOrder 47 = .ok (.iload 4, 2) := by decide +kernel
theorem dX6_sceneOfOrder_49 : decode cX6_sceneOfOrder 49 = .ok (.if_icmp .gt 120, 3) := by decide +kernel
theorem dX6_sceneOfOrder_52 : decode cX6_sceneOfOrder 52 = .ok (.aload_n 0, 1) := by decide +kernel
theorem dX6_sceneOfOrder_53 : decode cX6_sceneOfOrder 53 = .ok (.getfield 37, 3) := by decide +kernel
theorem dX6_sceneOfOrder_56 : decode cX6_sceneOfOrder 56 = .ok (.iload 7, 2) := by decide +kernel
theorem dX6_sceneOfOrder_58 : decode cX6_sceneOfOrder 58 = .ok (.iaload, 1) := by decide +kernel
theorem dX6_sceneOfOrder_59 : decode cX6_sceneOfOrder 59 = .ok (.iload_n 1, 1) := by decide +kernel
theorem dX6_sceneOfOrder_60 : decode cX6_sceneOfOrder 60 = .ok (.iand, 1) := by decide +kernel
theorem dX6_sceneOfOrder_61 : decode cX6_sceneOfOrder 61 = .ok (.istore 10, 2) := by decide +kernel
theorem dX6_sceneOfOrder_63 : decode cX6_sceneOfOrder 63 = .ok (.iconst (-1), 1) := by decide +kernel
theorem dX6_sceneOfOrder_64 : decode cX6_sceneOfOrder 64 = .ok (.istore 8, 2) := by decide +kernel
theorem dX6_sceneOfOrder_66 : decode cX6_sceneOfOrder 66 = .ok (.iconst 0, 1) := by decide +kernel
theorem dX6_sceneOfOrder_67 : decode cX6_sceneOfOrder 67 = .ok (.istore 11, 2) := by decide +kernel
theorem dX6_sceneOfOrder_69 : decode cX6_sceneOfOrder 69 = .ok (.iload 11, 2) := by decide +kernel
theorem dX6_sceneOfOrder_71 : decode cX6_sceneOfOrder 71 = .ok (.aload_n 0, 1) := by decide +kernel
theorem dX6_sceneOfOrder_72 : decode cX6_sceneOfOrder 72 = .ok (.getfield 49, 3) := by decide +kernel
theorem dX6_sceneOfOrder_75 : decode cX6_sceneOfOrder 75 = .ok (.getfield 57, 3) := by decide +kernel
theorem dX6_sceneOfOrder_78 : decode cX6_sceneOfOrder 78 = .ok (.if_icmp .ge 68, 3) := by decide +kernel
theorem dX6_sceneOfOrder_81 : decode cX6_sceneOfOrder 81 = .ok (.iload 8, 2) := by decide +kernel
theorem dX6_sceneOfOrder_83 : decode cX6_sceneOfOrder 83 = .ok (.iconst (-1), 1) := by decide +kernel
theorem dX6_sceneOfOrder_84 : decode cX6_sceneOfOrder 84 = .ok (.if_icmp .ne 62, 3) := by decide +kernel
theorem dX6_sceneOfOrder_87 : decode cX6_sceneOfOrder 87 = .ok (.iload 10, 2) := by decide +kernel
theorem dX6_sceneOfOrder_89 : decode cX6_sceneOfOrder 89 = .ok (.iload 11, 2) := by decide +kernel
