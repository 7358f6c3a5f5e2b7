theorem dX10_union_2 : decode cX10_union 2 = .ok (.iconst 0, 1) := by decide +kernel
theorem dX10_union_3 : decode cX10_union 3 = .ok (.istore 4, 2) := by decide +kernel
theorem dX10_union_5 : decode cX10_union 5 = .ok (.iload 4, 2) := by decide +kernel
theorem dX10_union_7 : decode cX10_union 7 = .ok (.aload_n 0, 1) := by decide +kernel
theorem dX10_union_8 : decode cX10_union 8 = .ok (.getfield 174, 3) := by decide +kernel
theorem dX10_union_11 : decode cX10_union 11 = .ok (.if_icmp .ge 32, 3) := by decide +kernel
theorem dX10_union_14 : decode cX10_union 14 = .ok (.iload_n 3, 1) := by decide +kernel
theorem dX10_union_15 : decode cX10_union 15 = .ok (.iload_n 1, 1) := by decide +kernel
theorem dX10_union_16 : decode cX10_union 16 = .ok (.iload 4, 2) := by decide +kernel
theorem dX10_union_18 : decode cX10_union 18 = .ok (.invokestatic 143, 3) := by decide +kernel
theorem dX10_union_21 : decode cX10_union 21 = .ok (.ifCond .eq 13, 3) := by decide +kernel
theorem dX10_union_24 : decode cX10_union 24 = .ok (.aload_n 0, 1) := by decide +kernel
theorem dX10_union_25 : decode cX10_union 25 = .ok (.iload 4, 2) := by decide +kernel
theorem dX10_union_27 : decode cX10_union 27 = .ok (.iload_n 2, 1) := by decide +kernel
theorem dX10_union_28 : decode cX10_union 28 = .ok (.invokevirtual 199, 3) := by decide +kernel
theorem dX10_union_31 : decode cX10_union 31 = .ok (.goto 4, 3) := by decide +kernel
theorem dX10_union_34 : decode cX10_union 34 = .ok (.iconst 0, 1) := by decide +kernel
theorem dX10_union_35 : decode cX10_union 35 = .ok (.ior, 1) := by decide +kernel
theorem dX10_union_36 : decode cX10_union 36 = .ok (.istore_n 3, 1) := by decide +kernel
theorem dX10_union_37 : decode cX10_union 37 = .ok (.iinc 4 1, 3) := by decide +kernel
theorem dX10_union_40 : decode cX10_union 40 = .ok (.goto (-35), 3) := by decide +kernel
theorem dX10_union_43 : decode cX10_union 43 = .ok (.iload_n 3, 1) := by decide +kernel
theorem dX10_union_44 : decode cX10_union 44 = .ok (.ireturn, 1) := by decide +kernel
theorem dX10_nevers_0 : decode cX10_nevers 0 = .ok (.iconst 0, 1) := by decide +kernel
theorem dX10_nevers_1 : decode cX10_nevers 1 = .ok (.istore_n 1, 1) := by decide +kernel
theorem dX10_nevers_2 : decode cX10_nevers 2 = .ok (.iconst 0, 1) := by decide +kernel
theorem dX10_nevers_3 : decode cX10_nevers 3 = .ok (.istore_n 2, 1) := by decide +kernel
theorem dX10_nevers_4 : decode cX10_nevers 4 = .ok (.iload_n 2, 1) := by decide +kernel
theorem dX10_nevers_5 : decode cX10_nevers 5 = .ok (.bipush 8, 2) := by decide +kernel
theorem dX10_nevers_7 : decode cX10_nevers 7 = .ok (.if_icmp .ge 21, 3) := by decide +kernel
theorem dX10_nevers_10 : decode cX10_nevers 10 = .ok (.iload_n 1, 1) := by decide +kernel
theorem dX10_nevers_11 : decode cX10_nevers 11 = .ok (.aload_n 0, 1) := by decide +kernel
theorem dX10_nevers_12 : decode cX10_nevers 12 = .ok (.getfield 19, 3) := by decide +kernel
theorem dX10_nevers_15 : decode cX10_nevers 15 = .ok (.iload_n 2, 1) := by decide +kernel
theorem dX10_nevers_16 : decode cX10_nevers 16 = .ok (.iaload, 1) := by decide +kernel
theorem dX10_nevers_17 : decode cX10_nevers 17 = .ok (.invokestatic 208, 3) := by decide +kernel
theorem dX10_nevers_20 : decode cX10_nevers 20 = .ok (.iadd, 1) := by decide +kernel
theorem dX10_nevers_21 : decode cX10_nevers 21 = .ok (.istore_n 1, 1) := by decide +kernel
theorem dX10_nevers_22 : decode cX10_nevers 22 = .ok (.iinc 2 1, 3) := by decide +kernel
theorem dX10_nevers_25 : decode cX10_nevers 25 = .ok (.goto (-21), 3) := by decide +kernel
theorem dX10_nevers_28 : decode cX10_nevers 28 = .ok (.iload_n 1, 1) := by decide +kernel
theorem dX10_nevers_29 : decode cX10_nevers 29 = .ok (.iconst 2, 1) := by decide +kernel
theorem dX10_nevers_30 : decode cX10_nevers 30 = .ok (.idiv, 1) := by decide +kernel
theorem dX10_nevers_31 : decode cX10_nevers 31 = .ok (.ireturn, 1) := by decide +kernel
theorem dX10_count_0 : decode cX10_count 0 = .ok (.iload_n 1, 1) := by decide +kernel
theorem dX10_count_1 : decode cX10_count 1 = .ok (.tableswitch 102 0 7 #[47, 52, 60, 65, 70, 79, 84, 89], 47) := by decide +kernel
theorem dX10_count_48 : decode cX10_count 48 = .ok (.aload_n 0, 1) := by decide +kernel
theorem dX10_count_49 : decode cX10_count 49 = .ok (.getfield 174, 3) := by decide +kernel
theorem dX10_count_52 : decode cX10_count 52 = .ok (.ireturn, 1) := by decide +kernel
theorem dX10_count_53 : decode cX10_count 53 = .ok (.aload_n 0, 1) := by decide +kernel
theorem dX10_count_54 : decode cX10_count 54 = .ok (.getfield 180, 3) := by decide +kernel
theorem dX10_count_57 : decode cX10_count 57 = .ok (.invokestatic 208, 3) := by decide +kernel
theorem dX10_count_60 : decode cX10_count 60 = .ok (.ireturn, 1) := by decide +kernel
theorem dX10_count_61 : decode cX10_count 61 = .ok (.aload_n 0, 1) := by decide +kernel
theorem dX10_count_62 : decode cX10_count 62 = .ok (.getfield 177, 3) := by decide +kernel
theorem dX10_count_65 : decode cX10_count 65 = .ok (.ireturn, 1) := by decide +kernel
theorem dX10_count_66 : decode cX10_count 66 = .ok (.aload_n 0, 1) := by decide +kernel
theorem dX10_count_67 : decode cX10_count 67 = .ok (.getfield 183, 3) := by decide +kernel
theorem dX10_count_70 : decode cX10_count 70 = .ok (.ireturn, 1) := by decide +kernel
theorem dX10_count_71 : decode cX10_count 71 = .ok (.aload_n 0, 1) := by decide +kernel
theorem dX10_count_72 : decode cX10_count 72 = .ok (.aload_n 0, 1) := by decide +kernel
theorem dX10_count_73 : decode cX10_count 73 = .ok (.invokevirtual 192, 3) := by decide +kernel
theorem dX10_count_76 : decode cX10_count 76 = .ok (.invokevirtual 211, 3) := by decide +kernel
theorem dX10_count_79 : decode cX10_count 79 = .ok (.ireturn, 1) := by decide +kernel
theorem dX10_count_80 : decode cX10_count 80 = .ok (.aload_n 0, 1) := by decide +kernel
theorem dX10_count_81 : decode cX10_count 81 = .ok (.getfield 103, 3) := by decide +kernel
theorem dX10_count_84 : decode cX10_count 84 = .ok (.ireturn, 1) := by decide +kernel
theorem dX10_count_85 : decode cX10_count 85 = .ok (.aload_n 0, 1) := by decide +kernel
theorem dX10_count_86 : decode cX10_count 86 = .ok (.invokevirtual 214, 3) := by decide +kernel
theorem dX10_count_89 : decode cX10_count 89 = .ok (.ireturn, 1) := by decide +kernel
theorem dX10_count_90 : decode cX10_count 90 = .ok (.aload_n 0, 1) := by decide +kernel
theorem dX10_count_91 : decode cX10_count 91 = .ok (.aload_n 0, 1) := by decide +kernel
theorem dX10_count_92 : decode cX10_count 92 = .ok (.invokevirtual 192, 3) := by decide +kernel
theorem dX10_count_95 : decode cX10_count 95 = .ok (.iconst 3, 1) := by decide +kernel
theorem dX10_count_96 : decode cX10_count 96 = .ok (.invokevirtual 217, 3) := by decide +kernel
theorem dX10_count_99 : decode cX10_count 99 = .ok (.invokestatic 208, 3) := by decide +kernel
theorem dX10_count_102 : decode cX10_count 102 = .ok (.ireturn, 1) := by decide +kernel
theorem dX10_count_103 : decode cX10_count 103 = .ok (.sipush (-1002), 3) := by decide +kernel
theorem dX10_count_106 : decode cX10_count 106 = .ok (.ireturn, 1) := by decide +kernel
theorem dX10_mayCome_0 : decode cX10_mayCome 0 = .ok (.iload_n 2, 1) := by decide +kernel
theorem dX10_mayCome_1 : decode cX10_mayCome 1 = .ok (.iload_n 1, 1) := by decide +kernel
theorem dX10_mayCome_2 : decode cX10_mayCome 2 = .ok (.invokestatic 143, 3) := by decide +kernel
theorem dX10_mayCome_5 : decode cX10_mayCome 5 = .ok (.ifCond .ne 16, 3) := by decide +kernel
theorem dX10_mayCome_8 : decode cX10_mayCome 8 = .ok (.aload_n 0, 1) := by decide +kernel
theorem dX10_mayCome_9 : decode cX10_mayCome 9 = .ok (.iload_n 1, 1) := by decide +kernel
theorem dX10_mayCome_10 : decode cX10_mayCome 10 = .ok (.iconst 2, 1) := by decide +kernel
theorem dX10_mayCome_11 : decode cX10_mayCome 11 = .ok (.invokevirtual 199, 3) := by decide +kernel
theorem dX10_mayCome_14 : decode cX10_mayCome 14 = .ok (.iload_n 2, 1) := by decide +kernel
theorem dX10_mayCome_15 : decode cX10_mayCome 15 = .ok (.iconst (-1), 1) := by decide +kernel
theorem dX10_mayCome_16 : decode cX10_mayCome 16 = .ok (.ixor, 1) := by decide +kernel
theorem dX10_mayCome_17 : decode cX10_mayCome 17 = .ok (.iand, 1) := by decide +kernel
theorem dX10_mayCome_18 : decode cX10_mayCome 18 = .ok (.ifCond .eq 5, 3) := by decide +kernel
theorem dX10_mayCome_21 : decode cX10_mayCome 21 = .ok (.iconst 0, 1) := by decide +kernel
theorem dX10_mayCome_22 : decode cX10_mayCome 22 = .ok (.ireturn, 1) := by decide +kernel
theorem dX10_mayCome_23 : decode cX10_mayCome 23 = .ok (.aload_n 0, 1) := by decide +kernel
theorem dX10_mayCome_24 : decode cX10_mayCome 24 = .ok (.iload_n 1, 1) := by decide +kernel
theorem dX10_mayCome_25 : decode cX10_mayCome 25 = .ok (.iconst 4, 1) := by decide +kernel
theorem dX10_mayCome_26 : decode cX10_mayCome 26 = .ok (.invokevirtual 199, 3) := by decide +kernel
theorem dX10_mayCome_29 : decode cX10_mayCome 29 = .ok (.aload_n 0, 1) := by decide +kernel
theorem dX10_mayCome_30 : decode cX10_mayCome 30 = .ok (.iload_n 2, 1) := by decide +kernel
theorem dX10_mayCome_31 : decode cX10_mayCome 31 = .ok (.iconst 3, 1) := by decide +kernel
theorem dX10_mayCome_32 : decode cX10_mayCome 32 = .ok (.invokevirtual 217, 3) := by decide +kernel
theorem dX10_mayCome_35 : decode cX10_mayCome 35 = .ok (.aload_n 0, 1) := by decide +kernel
theorem dX10_mayCome_36 : decode cX10_mayCome 36 = .ok (.iload_n 1, 1) := by decide +kernel
theorem dX10_mayCome_37 : decode cX10_mayCome 37 = .ok (.iconst 3, 1) := by decide +kernel
theorem dX10_mayCome_38 : decode cX10_mayCome 38 = .ok (.invokevirtual 199, 3) := by decide +kernel
theorem dX10_mayCome_41 : decode cX10_mayCome 41 = .ok (.ior, 1) := by decide +kernel
theorem dX10_mayCome_42 : decode cX10_mayCome 42 = .ok (.iconst (-1), 1) := by decide +kernel
theorem dX10_mayCome_43 : decode cX10_mayCome 43 = .ok (.ixor, 1) := by decide +kernel
theorem dX10_mayCome_44 : decode cX10_mayCome 44 = .ok (.iand, 1) := by decide +kernel
theorem dX10_mayCome_45 : decode cX10_mayCome 45 = .ok (.ifCond .ne 22, 3) := by decide +kernel
theorem dX10_mayCome_48 : decode cX10_mayCome 48 = .ok (.aload_n 0, 1) := by decide +kernel
theorem dX10_mayCome_49 : decode cX10_mayCome 49 = .ok (.iload_n 1, 1) := by decide +kernel
theorem dX10_mayCome_50 : decode cX10_mayCome 50 = .ok (.bipush 6, 2) := by decide +kernel
theorem dX10_mayCome_52 : decode cX10_mayCome 52 = .ok (.invokevirtual 199, 3) := by decide +kernel
theorem dX10_mayCome_55 : decode cX10_mayCome 55 = .ok (.aload_n 0, 1) := by decide +kernel
theorem dX10_mayCome_56 : decode cX10_mayCome 56 = .ok (.iload_n 2, 1) := by decide +kernel
theorem dX10_mayCome_57 : decode cX10_mayCome 57 = .ok (.iconst 5, 1) := by decide +kernel
theorem dX10_mayCome_58 : decode cX10_mayCome 58 = .ok (.invokevirtual 217, 3) := by decide +kernel
theorem dX10_mayCome_61 : decode cX10_mayCome 61 = .ok (.iconst (-1), 1) := by decide +kernel
theorem dX10_mayCome_62 : decode cX10_mayCome 62 = .ok (.ixor, 1) := by decide +kernel
theorem dX10_mayCome_63 : decode cX10_mayCome 63 = .ok (.iand, 1) := by decide +kernel
theorem dX10_mayCome_64 : decode cX10_mayCome 64 = .ok (.ifCond .eq 5, 3) := by decide +kernel
theorem dX10_mayCome_67 : decode cX10_mayCome 67 = .ok (.iconst 0, 1) := by decide +kernel
theorem dX10_mayCome_68 : decode cX10_mayCome 68 = .ok (.ireturn, 1) := by decide +kernel
theorem dX10_mayCome_69 : decode cX10_mayCome 69 = .ok (.aload_n 0, 1) := by decide +kernel
theorem dX10_mayCome_70 : decode cX10_mayCome 70 = .ok (.iload_n 2, 1) := by decide +kernel
theorem dX10_mayCome_71 : decode cX10_mayCome 71 = .ok (.iconst 5, 1) := by decide +kernel
theorem dX10_mayCome_72 : decode cX10_mayCome 72 = .ok (.invokevirtual 217, 3) := by decide +kernel
theorem dX10_mayCome_75 : decode cX10_mayCome 75 = .ok (.aload_n 0, 1) := by decide +kernel
theorem dX10_mayCome_76 : decode cX10_mayCome 76 = .ok (.iload_n 1, 1) := by decide +kernel
theorem dX10_mayCome_77 : decode cX10_mayCome 77 = .ok (.iconst 5, 1) := by decide +kernel
theorem dX10_mayCome_78 : decode cX10_mayCome 78 = .ok (.invokevirtual 199, 3) := by decide +kernel
theorem dX10_mayCome_81 : decode cX10_mayCome 81 = .ok (.ior, 1) := by decide +kernel
theorem dX10_mayCome_82 : decode cX10_mayCome 82 = .ok (.istore_n 3, 1) := by decide +kernel
theorem dX10_mayCome_83 : decode cX10_mayCome 83 = .ok (.iconst 0, 1) := by decide +kernel
theorem dX10_mayCome_84 : decode cX10_mayCome 84 = .ok (.istore 4, 2) := by decide +kernel
theorem dX10_mayCome_86 : decode cX10_mayCome 86 = .ok (.iload 4, 2) := by decide +kernel
theorem dX10_mayCome_88 : decode cX10_mayCome 88 = .ok (.bipush 8, 2) := by decide +kernel
theorem dX10_mayCome_90 : decode cX10_mayCome 90 = .ok (.if_icmp .ge 37, 3) := by decide +kernel
theorem dX10_mayCome_93 : decode cX10_mayCome 93 = .ok (.aload_n 0, 1) := by decide +kernel
theorem dX10_mayCome_94 : decode cX10_mayCome 94 = .ok (.iload_n 1, 1) := by decide +kernel
theorem dX10_mayCome_95 : decode cX10_mayCome 95 = .ok (.iconst 5, 1) := by decide +kernel
theorem dX10_mayCome_96 : decode cX10_mayCome 96 = .ok (.invokevirtual 199, 3) := by decide +kernel
theorem dX10_mayCome_99 : decode cX10_mayCome 99 = .ok (.iload 4, 2) := by decide +kernel
theorem dX10_mayCome_101 : decode cX10_mayCome 101 = .ok (.invokestatic 143, 3) := by decide +kernel
theorem dX10_mayCome_104 : decode cX10_mayCome 104 = .ok (.ifCond .eq 17, 3) := by decide +kernel
theorem dX10_mayCome_107 : decode cX10_mayCome 107 = .ok (.aload_n 0, 1) := by decide +kernel
theorem dX10_mayCome_108 : decode cX10_mayCome 108 = .ok (.getfield 19, 3) := by decide +kernel
theorem dX10_mayCome_111 : decode cX10_mayCome 111 = .ok (.iload 4, 2) := by decide +kernel
theorem dX10_mayCome_113 : decode cX10_mayCome 113 = .ok (.iaload, 1) := by decide +kernel
theorem dX10_mayCome_114 : decode cX10_mayCome 114 = .ok (.iload_n 3, 1) := by decide +kernel
theorem dX10_mayCome_115 : decode cX10_mayCome 115 = .ok (.iand, 1) := by decide +kernel
theorem dX10_mayCome_116 : decode cX10_mayCome 116 = .ok (.ifCond .eq 5, 3) := by decide +kernel
theorem dX10_mayCome_119 : decode cX10_mayCome 119 = .ok (.iconst 0, 1) := by decide +kernel
theorem dX10_mayCome_120 : decode cX10_mayCome 120 = .ok (.ireturn, 1) := by decide +kernel
theorem dX10_mayCome_121 : decode cX10_mayCome 121 = .ok (.iinc 4 1, 3) := by decide +kernel
theorem dX10_mayCome_124 : decode cX10_mayCome 124 = .ok (.goto (-38), 3) := by decide +kernel
theorem dX10_mayCome_127 : decode cX10_mayCome 127 = .ok (.iconst 1, 1) := by decide +kernel
theorem dX10_mayCome_128 : decode cX10_mayCome 128 = .ok (.istore 4, 2) := by decide +kernel
theorem dX10_mayCome_130 : decode cX10_mayCome 130 = .ok (.iconst 0, 1) := by decide +kernel
theorem dX10_mayCome_131 : decode cX10_mayCome 131 = .ok (.istore 5, 2) := by decide +kernel
theorem dX10_mayCome_133 : decode cX10_mayCome 133 = .ok (.iload 5, 2) := by decide +kernel
theorem dX10_mayCome_135 : decode cX10_mayCome 135 = .ok (.aload_n 0, 1) := by decide +kernel
theorem dX10_mayCome_136 : decode cX10_mayCome 136 = .ok (.getfield 174, 3) := by decide +kernel
theorem dX10_mayCome_139 : decode cX10_mayCome 139 = .ok (.if_icmp .ge 59, 3) := by decide +kernel
theorem dX10_mayCome_142 : decode cX10_mayCome 142 = .ok (.iload 4, 2) := by decide +kernel
theorem dX10_mayCome_144 : decode cX10_mayCome 144 = .ok (.ifCond .eq 45, 3) := by decide +kernel
theorem dX10_mayCome_147 : decode cX10_mayCome 147 = .ok (.iload_n 2, 1) := by decide +kernel
theorem dX10_mayCome_148 : decode cX10_mayCome 148 = .ok (.iload 5, 2) := by decide +kernel
theorem dX10_mayCome_150 : decode cX10_mayCome 150 = .ok (.invokestatic 143, 3) := by decide +kernel
theorem dX10_mayCome_153 : decode cX10_mayCome 153 = .ok (.ifCond .eq 32, 3) := by decide +kernel
theorem dX10_mayCome_156 : decode cX10_mayCome 156 = .ok (.aload_n 0, 1) := by decide +kernel
theorem dX10_mayCome_157 : decode cX10_mayCome 157 = .ok (.getfield 13, 3) := by decide +kernel
theorem dX10_mayCome_160 : decode cX10_mayCome 160 = .ok (.iload 5, 2) := by decide +kernel
theorem dX10_mayCome_162 : decode cX10_mayCome 162 = .ok (.iaload, 1) := by decide +kernel
theorem dX10_mayCome_163 : decode cX10_mayCome 163 = .ok (.ifCond .lt 22, 3) := by decide +kernel
theorem dX10_mayCome_166 : decode cX10_mayCome 166 = .ok (.aload_n 0, 1) := by decide +kernel
theorem dX10_mayCome_167 : decode cX10_mayCome 167 = .ok (.iload_n 1, 1) := by decide +kernel
theorem dX10_mayCome_168 : decode cX10_mayCome 168 = .ok (.iconst 1, 1) := by decide +kernel
theorem dX10_mayCome_169 : decode cX10_mayCome 169 = .ok (.invokevirtual 199, 3) := by decide +kernel
theorem dX10_mayCome_172 : decode cX10_mayCome 172 = .ok (.aload_n 0, 1) := by decide +kernel
theorem dX10_mayCome_173 : decode cX10_mayCome 173 = .ok (.getfield 13, 3) := by decide +kernel
theorem dX10_mayCome_176 : decode cX10_mayCome 176 = .ok (.iload 5, 2) := by decide +kernel
theorem dX10_mayCome_178 : decode cX10_mayCome 178 = .ok (.iaload, 1) := by decide +kernel
theorem dX10_mayCome_179 : decode cX10_mayCome 179 = .ok (.invokestatic 143, 3) := by decide +kernel
theorem dX10_mayCome_182 : decode cX10_mayCome 182 = .ok (.ifCond .ne 7, 3) := by decide +kernel
theorem dX10_mayCome_185 : decode cX10_mayCome 185 = .ok (.iconst 1, 1) := by decide +kernel
theorem dX10_mayCome_186 : decode cX10_mayCome 186 = .ok (.goto 4, 3) := by decide +kernel
theorem dX10_mayCome_189 : decode cX10_mayCome 189 = .ok (.iconst 0, 1) := by decide +kernel
theorem dX10_mayCome_190 : decode cX10_mayCome 190 = .ok (.istore 4, 2) := by decide +kernel
theorem dX10_mayCome_192 : decode cX10_mayCome 192 = .ok (.iinc 5 1, 3) := by decide +kernel
theorem dX10_mayCome_195 : decode cX10_mayCome 195 = .ok (.goto (-62), 3) := by decide +kernel
theorem dX10_mayCome_198 : decode cX10_mayCome 198 = .ok (.iload 4, 2) := by decide +kernel
theorem dX10_mayCome_200 : decode cX10_mayCome 200 = .ok (.ireturn, 1) := by decide +kernel
theorem dX10_may_0 : decode cX10_may 0 = .ok (.aload_n 0, 1) := by decide +kernel
theorem dX10_may_1 : decode cX10_may 1 = .ok (.iload_n 1, 1) := by decide +kernel
theorem dX10_may_2 : decode cX10_may 2 = .ok (.invokevirtual 195, 3) := by decide +kernel
theorem dX10_may_5 : decode cX10_may 5 = .ok (.ifCond .ne 11, 3) := by decide +kernel
theorem dX10_may_8 : decode cX10_may 8 = .ok (.aload_n 0, 1) := by decide +kernel
theorem dX10_may_9 : decode cX10_may 9 = .ok (.iload_n 2, 1) := by decide +kernel
theorem dX10_may_10 : decode cX10_may 10 = .ok (.invokevirtual 220, 3) := by decide +kernel
theorem dX10_may_13 : decode cX10_may 13 = .ok (.ifCond .eq 9, 3) := by decide +kernel
theorem dX10_may_16 : decode cX10_may 16 = .ok (.sipush (-1001), 3) := by decide +kernel
theorem dX10_may_19 : decode cX10_may 19 = .ok (.goto 12, 3) := by decide +kernel
theorem dX10_may_22 : decode cX10_may 22 = .ok (.aload_n 0, 1) := by decide +kernel
theorem dX10_may_23 : decode cX10_may 23 = .ok (.iload_n 1, 1) := by decide +kernel
theorem dX10_may_24 : decode cX10_may 24 = .ok (.iload_n 2, 1) := by decide +kernel
theorem dX10_may_25 : decode cX10_may 25 = .ok (.invokevirtual 223, 3) := by decide +kernel
theorem dX10_may_28 : decode cX10_may 28 = .ok (.invokestatic 154, 3) := by decide +kernel
theorem dX10_may_31 : decode cX10_may 31 = .ok (.ireturn, 1) := by decide +kernel
theorem dX10_next_0 : decode cX10_next 0 = .ok (.aload_n 0, 1) := by decide +kernel
theorem dX10_next_1 : decode cX10_next 1 = .ok (.iload_n 1, 1) := by decide +kernel
theorem dX10_next_2 : decode cX10_next 2 = .ok (.invokevirtual 220, 3) := by decide +kernel
theorem dX10_next_5 : decode cX10_next 5 = .ok (.ifCond .eq 7, 3) := by decide +kernel
theorem dX10_next_8 : decode cX10_next 8 = .ok (.sipush (-1001), 3) := by decide +kernel
theorem dX10_next_11 : decode cX10_next 11 = .ok (.ireturn, 1) := by decide +kernel
theorem dX10_next_12 : decode cX10_next 12 = .ok (.iconst 0, 1) := by decide +kernel
theorem dX10_next_13 : decode cX10_next 13 = .ok (.istore_n 2, 1) := by decide +kernel
theorem dX10_next_14 : decode cX10_next 14 = .ok (.iconst 0, 1) := by decide +kernel
theorem dX10_next_15 : decode cX10_next 15 = .ok (.istore_n 3, 1) := by decide +kernel
theorem dX10_next_16 : decode cX10_next 16 = .ok (.iload_n 3, 1) := by decide +kernel
theorem dX10_next_17 : decode cX10_next 17 = .ok (.aload_n 0, 1) := by decide +kernel
theorem dX10_next_18 : decode cX10_next 18 = .ok (.getfield 174, 3) := by decide +kernel
theorem dX10_next_21 : decode cX10_next 21 = .ok (.if_icmp .ge 23, 3) := by decide +kernel
theorem dX10_next_24 : decode cX10_next 24 = .ok (.iload_n 2, 1) := by decide +kernel
theorem dX10_next_25 : decode cX10_next 25 = .ok (.aload_n 0, 1) := by decide +kernel
theorem dX10_next_26 : decode cX10_next 26 = .ok (.iload_n 3, 1) := by decide +kernel
theorem dX10_next_27 : decode cX10_next 27 = .ok (.iload_n 1, 1) := by decide +kernel
theorem dX10_next_28 : decode cX10_next 28 = .ok (.invokevirtual 223, 3) := by decide +kernel
theorem dX10_next_31 : decode cX10_next 31 = .ok (.invokestatic 154, 3) := by decide +kernel
theorem dX10_next_34 : decode cX10_next 34 = .ok (.iload_n 3, 1) := by decide +kernel
theorem dX10_next_35 : decode cX10_next 35 = .ok (.ishl, 1) := by decide +kernel
theorem dX10_next_36 : decode cX10_next 36 = .ok (.ior, 1) := by decide +kernel
theorem dX10_next_37 : decode cX10_next 37 = .ok (.istore_n 2, 1) := by decide +kernel
theorem dX10_next_38 : decode cX10_next 38 = .ok (.iinc 3 1, 3) := by decide +kernel
theorem dX10_next_41 : decode cX10_next 41 = .ok (.goto (-25), 3) := by decide +kernel
theorem dX10_next_44 : decode cX10_next 44 = .ok (.iload_n 2, 1) := by decide +kernel
theorem dX10_next_45 : decode cX10_next 45 = .ok (.ireturn, 1) := by decide +kernel
theorem dX10_findComing_0 : decode cX10_findComing 0 = .ok (.iconst 0, 1) := by decide +kernel
theorem dX10_findComing_1 : decode cX10_findComing 1 = .ok (.istore_n 1, 1) := by decide +kernel
theorem dX10_findComing_2 : decode cX10_findComing 2 = .ok (.iload_n 1, 1) := by decide +kernel
theorem dX10_findComing_3 : decode cX10_findComing 3 = .ok (.aload_n 0, 1) := by decide +kernel
theorem dX10_findComing_4 : decode cX10_findComing 4 = .ok (.invokevirtual 192, 3) := by decide +kernel
theorem dX10_findComing_7 : decode cX10_findComing 7 = .ok (.if_icmp .gt 52, 3) := by decide +kernel
theorem dX10_findComing_10 : decode cX10_findComing 10 = .ok (.aload_n 0, 1) := by decide +kernel
theorem dX10_findComing_11 : decode cX10_findComing 11 = .ok (.getfield 49, 3) := by decide +kernel
theorem dX10_findComing_14 : decode cX10_findComing 14 = .ok (.iload_n 1, 1) := by decide +kernel
theorem dX10_findComing_15 : decode cX10_findComing 15 = .ok (.iconst 0, 1) := by decide +kernel
theorem dX10_findComing_16 : decode cX10_findComing 16 = .ok (.iastore, 1) := by decide +kernel
theorem dX10_findComing_17 : decode cX10_findComing 17 = .ok (.iconst 0, 1) := by decide +kernel
theorem dX10_findComing_18 : decode cX10_findComing 18 = .ok (.istore_n 2, 1) := by decide +kernel
theorem dX10_findComing_19 : decode cX10_findComing 19 = .ok (.iload_n 2, 1) := by decide +kernel
theorem dX10_findComing_20 : decode cX10_findComing 20 = .ok (.aload_n 0, 1) := by decide +kernel
theorem dX10_findComing_21 : decode cX10_findComing 21 = .ok (.getfield 174, 3) := by decide +kernel
theorem dX10_findComing_24 : decode cX10_findComing 24 = .ok (.if_icmp .ge 29, 3) := by decide +kernel
theorem dX10_findComing_27 : decode cX10_findComing 27 = .ok (.aload_n 0, 1) := by decide +kernel
theorem dX10_findComing_28 : decode cX10_findComing 28 = .ok (.getfield 49, 3) := by decide +kernel
theorem dX10_findComing_31 : decode cX10_findComing 31 = .ok (.iload_n 1, 1) := by decide +kernel
theorem dX10_findComing_32 : decode cX10_findComing 32 = .ok (.dup2, 1) := by decide +kernel
theorem dX10_findComing_33 : decode cX10_findComing 33 = .ok (.iaload, 1) := by decide +kernel
theorem dX10_findComing_34 : decode cX10_findComing 34 = .ok (.aload_n 0, 1) := by decide +kernel
theorem dX10_findComing_35 : decode cX10_findComing 35 = .ok (.iload_n 2, 1) := by decide +kernel
theorem dX10_findComing_36 : decode cX10_findComing 36 = .ok (.iload_n 1, 1) := by decide +kernel
theorem dX10_findComing_37 : decode cX10_findComing 37 = .ok (.invokevirtual 223, 3) := by decide +kernel
theorem dX10_findComing_40 : decode cX10_findComing 40 = .ok (.invokestatic 154, 3) := by decide +kernel
theorem dX10_findComing_43 : decode cX10_findComing 43 = .ok (.iload_n 2, 1) := by decide +kernel
theorem dX10_findComing_44 : decode cX10_findComing 44 = .ok (.ishl, 1) := by decide +kernel
theorem dX10_findComing_45 : decode cX10_findComing 45 = .ok (.ior, 1) := by decide +kernel
theorem dX10_findComing_46 : decode cX10_findComing 46 = .ok (.iastore, 1) := by decide +kernel
theorem dX10_findComing_47 : decode cX10_findComing 47 = .ok (.iinc 2 1, 3) := by decide +kernel
theorem dX10_findComing_50 : decode cX10_findComing 50 = .ok (.goto (-31), 3) := by decide +kernel
theorem dX10_findComing_53 : decode cX10_findComing 53 = .ok (.iinc 1 1, 3) := by decide +kernel
theorem dX10_findComing_56 : decode cX10_findComing 56 = .ok (.goto (-54), 3) := by decide +kernel
theorem dX10_findComing_59 : decode cX10_findComing 59 = .ok (.return_, 1) := by decide +kernel
theorem dX10_findWays_0 : decode cX10_findWays 0 = .ok (.aload_n 0, 1) := by decide +kernel
theorem dX10_findWays_1 : decode cX10_findWays 1 = .ok (.invokevirtual 226, 3) := by decide +kernel
theorem dX10_findWays_4 : decode cX10_findWays 4 = .ok (.iload_n 1, 1) := by decide +kernel
theorem dX10_findWays_5 : decode cX10_findWays 5 = .ok (.istore_n 2, 1) := by decide +kernel
theorem dX10_findWays_6 : decode cX10_findWays 6 = .ok (.iload_n 2, 1) := by decide +kernel
theorem dX10_findWays_7 : decode cX10_findWays 7 = .ok (.ifCond .lt 97, 3) := by decide +kernel
theorem dX10_findWays_10 : decode cX10_findWays 10 = .ok (.aload_n 0, 1) := by decide +kernel
theorem dX10_findWays_11 : decode cX10_findWays 11 = .ok (.getfield 41, 3) := by decide +kernel
theorem dX10_findWays_14 : decode cX10_findWays 14 = .ok (.iload_n 2, 1) := by decide +kernel
theorem dX10_findWays_15 : decode cX10_findWays 15 = .ok (.iload_n 2, 1) := by decide +kernel
theorem dX10_findWays_16 : decode cX10_findWays 16 = .ok (.iload_n 1, 1) := by decide +kernel
theorem dX10_findWays_17 : decode cX10_findWays 17 = .ok (.if_icmp .ne 7, 3) := by decide +kernel
theorem dX10_findWays_20 : decode cX10_findWays 20 = .ok (.iconst 1, 1) := by decide +kernel
theorem dX10_findWays_21 : decode cX10_findWays 21 = .ok (.goto 4, 3) := by decide +kernel
theorem dX10_findWays_24 : decode cX10_findWays 24 = .ok (.iconst 0, 1) := by decide +kernel
theorem dX10_findWays_25 : decode cX10_findWays 25 = .ok (.invokestatic 154, 3) := by decide +kernel
theorem dX10_findWays_28 : decode cX10_findWays 28 = .ok (.i2l, 1) := by decide +kernel
theorem dX10_findWays_29 : decode cX10_findWays 29 = .ok (.lastore, 1) := by decide +kernel
theorem dX10_findWays_30 : decode cX10_findWays 30 = .ok (.iconst 0, 1) := by decide +kernel
theorem dX10_findWays_31 : decode cX10_findWays 31 = .ok (.istore_n 3, 1) := by decide +kernel
theorem dX10_findWays_32 : decode cX10_findWays 32 = .ok (.iload_n 3, 1) := by decide +kernel
theorem dX10_findWays_33 : decode cX10_findWays 33 = .ok (.aload_n 0, 1) := by decide +kernel
theorem dX10_findWays_34 : decode cX10_findWays 34 = .ok (.getfield 174, 3) := by decide +kernel
theorem dX10_findWays_37 : decode cX10_findWays 37 = .ok (.if_icmp .ge 61, 3) := by decide +kernel
theorem dX10_findWays_40 : decode cX10_findWays 40 = .ok (.iload_n 2, 1) := by decide +kernel
theorem dX10_findWays_41 : decode cX10_findWays 41 = .ok (.iload_n 1, 1) := by decide +kernel
theorem dX10_findWays_42 : decode cX10_findWays 42 = .ok (.iconst (-1), 1) := by decide +kernel
theorem dX10_findWays_43 : decode cX10_findWays 43 = .ok (.ixor, 1) := by decide +kernel
theorem dX10_findWays_44 : decode cX10_findWays 44 = .ok (.iand, 1) := by decide +kernel
theorem dX10_findWays_45 : decode cX10_findWays 45 = .ok (.ifCond .ne 53, 3) := by decide +kernel
theorem dX10_findWays_48 : decode cX10_findWays 48 = .ok (.aload_n 0, 1) := by decide +kernel
theorem dX10_findWays_49 : decode cX10_findWays 49 = .ok (.getfield 41, 3) := by decide +kernel
theorem dX10_findWays_52 : decode cX10_findWays 52 = .ok (.iload_n 2, 1) := by decide +kernel
theorem dX10_findWays_53 : decode cX10_findWays 53 = .ok (.dup2, 1) := by decide +kernel
theorem dX10_findWays_54 : decode cX10_findWays 54 = .ok (.laload, 1) := by decide +kernel
theorem dX10_findWays_55 : decode cX10_findWays 55 = .ok (.aload_n 0, 1) := by decide +kernel
theorem dX10_findWays_56 : decode cX10_findWays 56 = .ok (.getfield 49, 3) := by decide +kernel
theorem dX10_findWays_59 : decode cX10_findWays 59 = .ok (.iload_n 2, 1) := by decide +kernel
theorem dX10_findWays_60 : decode cX10_findWays 60 = .ok (.iaload, 1) := by decide +kernel
theorem dX10_findWays_61 : decode cX10_findWays 61 = .ok (.iload_n 3, 1) := by decide +kernel
theorem dX10_findWays_62 : decode cX10_findWays 62 = .ok (.invokestatic 143, 3) := by decide +kernel
theorem dX10_findWays_65 : decode cX10_findWays 65 = .ok (.ifCond .eq 24, 3) := by decide +kernel
theorem dX10_findWays_68 : decode cX10_findWays 68 = .ok (.iload_n 1, 1) := by decide +kernel
theorem dX10_findWays_69 : decode cX10_findWays 69 = .ok (.iload_n 3, 1) := by decide +kernel
theorem dX10_findWays_70 : decode cX10_findWays 70 = .ok (.invokestatic 143, 3) := by decide +kernel
theorem dX10_findWays_73 : decode cX10_findWays 73 = .ok (.ifCond .eq 16, 3) := by decide +kernel
theorem dX10_findWays_76 : decode cX10_findWays 76 = .ok (.aload_n 0, 1) := by decide +kernel
theorem dX10_findWays_77 : decode cX10_findWays 77 = .ok (.getfield 41, 3) := by decide +kernel
theorem dX10_findWays_80 : decode cX10_findWays 80 = .ok (.iload_n 2, 1) := by decide +kernel
theorem dX10_findWays_81 : decode cX10_findWays 81 = .ok (.iconst 1, 1) := by decide +kernel
theorem dX10_findWays_82 : decode cX10_findWays 82 = .ok (.iload_n 3, 1) := by decide +kernel
theorem dX10_findWays_83 : decode cX10_findWays 83 = .ok (.ishl, 1) := by decide +kernel
theorem dX10_findWays_84 : decode cX10_findWays 84 = .ok (.ior, 1) := by decide +kernel
theorem dX10_findWays_85 : decode cX10_findWays 85 = .ok (.laload, 1) := by decide +kernel
theorem dX10_findWays_86 : decode cX10_findWays 86 = .ok (.goto 4, 3) := by decide +kernel
theorem dX10_findWays_89 : decode cX10_findWays 89 = .ok (.lconst 0, 1) := by decide +kernel
theorem dX10_findWays_90 : decode cX10_findWays 90 = .ok (.ladd, 1) := by decide +kernel
theorem dX10_findWays_91 : decode cX10_findWays 91 = .ok (.lastore, 1) := by decide +kernel
theorem dX10_findWays_92 : decode cX10_findWays 92 = .ok (.iinc 3 1, 3) := by decide +kernel
theorem dX10_findWays_95 : decode cX10_findWays 95 = .ok (.goto (-63), 3) := by decide +kernel
theorem dX10_findWays_98 : decode cX10_findWays 98 = .ok (.iinc 2 (-1), 3) := by decide +kernel
theorem dX10_findWays_101 : decode cX10_findWays 101 = .ok (.goto (-95), 3) := by decide +kernel
theorem dX10_findWays_104 : decode cX10_findWays 104 = .ok (.return_, 1) := by decide +kernel
theorem dX10_findGood_0 : decode cX10_findGood 0 = .ok (.aload_n 0, 1) := by decide +kernel
theorem dX10_findGood_1 : decode cX10_findGood 1 = .ok (.invokevirtual 226, 3) := by decide +kernel
theorem dX10_findGood_4 : decode cX10_findGood 4 = .ok (.iconst 0, 1) := by decide +kernel
theorem dX10_findGood_5 : decode cX10_findGood 5 = .ok (.istore_n 1, 1) := by decide +kernel
theorem dX10_findGood_6 : decode cX10_findGood 6 = .ok (.iload_n 1, 1) := by decide +kernel
theorem dX10_findGood_7 : decode cX10_findGood 7 = .ok (.aload_n 0, 1) := by decide +kernel
theorem dX10_findGood_8 : decode cX10_findGood 8 = .ok (.invokevirtual 192, 3) := by decide +kernel
theorem dX10_findGood_11 : decode cX10_findGood 11 = .ok (.if_icmp .gt 98, 3) := by decide +kernel
theorem dX10_findGood_14 : decode cX10_findGood 14 = .ok (.aload_n 0, 1) := by decide +kernel
theorem dX10_findGood_15 : decode cX10_findGood 15 = .ok (.getfield 45, 3) := by decide +kernel
theorem dX10_findGood_18 : decode cX10_findGood 18 = .ok (.iload_n 1, 1) := by decide +kernel
theorem dX10_findGood_19 : decode cX10_findGood 19 = .ok (.iload_n 1, 1) := by decide +kernel
theorem dX10_findGood_20 : decode cX10_findGood 20 = .ok (.ifCond .ne 7, 3) := by decide +kernel
theorem dX10_findGood_23 : decode cX10_findGood 23 = .ok (.iconst 1, 1) := by decide +kernel
theorem dX10_findGood_24 : decode cX10_findGood 24 = .ok (.goto 4, 3) := by decide +kernel
theorem dX10_findGood_27 : decode cX10_findGood 27 = .ok (.iconst 0, 1) := by decide +kernel
theorem dX10_findGood_28 : decode cX10_findGood 28 = .ok (.bastore, 1) := by decide +kernel
theorem dX10_findGood_29 : decode cX10_findGood 29 = .ok (.iconst 0, 1) := by decide +kernel
theorem dX10_findGood_30 : decode cX10_findGood 30 = .ok (.istore_n 2, 1) := by decide +kernel
theorem dX10_findGood_31 : decode cX10_findGood 31 = .ok (.iload_n 2, 1) := by decide +kernel
theorem dX10_findGood_32 : decode cX10_findGood 32 = .ok (.aload_n 0, 1) := by decide +kernel
theorem dX10_findGood_33 : decode cX10_findGood 33 = .ok (.getfield 174, 3) := by decide +kernel
theorem dX10_findGood_36 : decode cX10_findGood 36 = .ok (.if_icmp .ge 67, 3) := by decide +kernel
theorem dX10_findGood_39 : decode cX10_findGood 39 = .ok (.iload_n 1, 1) := by decide +kernel
theorem dX10_findGood_40 : decode cX10_findGood 40 = .ok (.iconst 1, 1) := by decide +kernel
theorem dX10_findGood_41 : decode cX10_findGood 41 = .ok (.iload_n 2, 1) := by decide +kernel
theorem dX10_findGood_42 : decode cX10_findGood 42 = .ok (.ishl, 1) := by decide +kernel
theorem dX10_findGood_43 : decode cX10_findGood 43 = .ok (.iconst (-1), 1) := by decide +kernel
theorem dX10_findGood_44 : decode cX10_findGood 44 = .ok (.ixor, 1) := by decide +kernel
theorem dX10_findGood_45 : decode cX10_findGood 45 = .ok (.iand, 1) := by decide +kernel
theorem dX10_findGood_46 : decode cX10_findGood 46 = .ok (.istore_n 3, 1) := by decide +kernel
theorem dX10_findGood_47 : decode cX10_findGood 47 = .ok (.aload_n 0, 1) := by decide +kernel
theorem dX10_findGood_48 : decode cX10_findGood 48 = .ok (.getfield 45, 3) := by decide +kernel
theorem dX10_findGood_51 : decode cX10_findGood 51 = .ok (.iload_n 1, 1) := by decide +kernel
theorem dX10_findGood_52 : decode cX10_findGood 52 = .ok (.aload_n 0, 1) := by decide +kernel
theorem dX10_findGood_53 : decode cX10_findGood 53 = .ok (.getfield 45, 3) := by decide +kernel
theorem dX10_findGood_56 : decode cX10_findGood 56 = .ok (.iload_n 1, 1) := by decide +kernel
theorem dX10_findGood_57 : decode cX10_findGood 57 = .ok (.baload, 1) := by decide +kernel
theorem dX10_findGood_58 : decode cX10_findGood 58 = .ok (.ifCond .ne 33, 3) := by decide +kernel
theorem dX10_findGood_61 : decode cX10_findGood 61 = .ok (.iload_n 1, 1) := by decide +kernel
theorem dX10_findGood_62 : decode cX10_findGood 62 = .ok (.iload_n 2, 1) := by decide +kernel
theorem dX10_findGood_63 : decode cX10_findGood 63 = .ok (.invokestatic 143, 3) := by decide +kernel
theorem dX10_findGood_66 : decode cX10_findGood 66 = .ok (.ifCond .eq 29, 3) := by decide +kernel
theorem dX10_findGood_69 : decode cX10_findGood 69 = .ok (.aload_n 0, 1) := by decide +kernel
theorem dX10_findGood_70 : decode cX10_findGood 70 = .ok (.getfield 45, 3) := by decide +kernel
theorem dX10_findGood_73 : decode cX10_findGood 73 = .ok (.iload_n 3, 1) := by decide +kernel
theorem dX10_findGood_74 : decode cX10_findGood 74 = .ok (.baload, 1) := by decide +kernel
theorem dX10_findGood_75 : decode cX10_findGood 75 = .ok (.ifCond .eq 20, 3) := by decide +kernel
theorem dX10_findGood_78 : decode cX10_findGood 78 = .ok (.aload_n 0, 1) := by decide +kernel
theorem dX10_findGood_79 : decode cX10_findGood 79 = .ok (.getfield 49, 3) := by decide +kernel
theorem dX10_findGood_82 : decode cX10_findGood 82 = .ok (.iload_n 3, 1) := by decide +kernel
theorem dX10_findGood_83 : decode cX10_findGood 83 = .ok (.iaload, 1) := by decide +kernel
theorem dX10_findGood_84 : decode cX10_findGood 84 = .ok (.iload_n 2, 1) := by decide +kernel
theorem dX10_findGood_85 : decode cX10_findGood 85 = .ok (.invokestatic 143, 3) := by decide +kernel
theorem dX10_findGood_88 : decode cX10_findGood 88 = .ok (.ifCond .eq 7, 3) := by decide +kernel
theorem dX10_findGood_91 : decode cX10_findGood 91 = .ok (.iconst 1, 1) := by decide +kernel
theorem dX10_findGood_92 : decode cX10_findGood 92 = .ok (.goto 4, 3) := by decide +kernel
theorem dX10_findGood_95 : decode cX10_findGood 95 = .ok (.iconst 0, 1) := by decide +kernel
theorem dX10_findGood_96 : decode cX10_findGood 96 = .ok (.bastore, 1) := by decide +kernel
theorem dX10_findGood_97 : decode cX10_findGood 97 = .ok (.iinc 2 1, 3) := by decide +kernel
theorem dX10_findGood_100 : decode cX10_findGood 100 = .ok (.goto (-69), 3) := by decide +kernel
theorem dX10_findGood_103 : decode cX10_findGood 103 = .ok (.iinc 1 1, 3) := by decide +kernel
theorem dX10_findGood_106 : decode cX10_findGood 106 = .ok (.goto (-100), 3) := by decide +kernel
theorem dX10_findGood_109 : decode cX10_findGood 109 = .ok (.return_, 1) := by decide +kernel
theorem dX10_orders_0 : decode cX10_orders 0 = .ok (.aload_n 0, 1) := by decide +kernel
theorem dX10_orders_1 : decode cX10_orders 1 = .ok (.iload_n 1, 1) := by decide +kernel
theorem dX10_orders_2 : decode cX10_orders 2 = .ok (.invokevirtual 220, 3) := by decide +kernel
theorem dX10_orders_5 : decode cX10_orders 5 = .ok (.ifCond .eq 7, 3) := by decide +kernel
theorem dX10_orders_8 : decode cX10_orders 8 = .ok (.ldc2_w 229, 3) := by decide +kernel
theorem dX10_orders_11 : decode cX10_orders 11 = .ok (.lreturn, 1) := by decide +kernel
theorem dX10_orders_12 : decode cX10_orders 12 = .ok (.aload_n 0, 1) := by decide +kernel
theorem dX10_orders_13 : decode cX10_orders 13 = .ok (.iload_n 1, 1) := by decide +kernel
theorem dX10_orders_14 : decode cX10_orders 14 = .ok (.invokevirtual 231, 3) := by decide +kernel
theorem dX10_orders_17 : decode cX10_orders 17 = .ok (.aload_n 0, 1) := by decide +kernel
theorem dX10_orders_18 : decode cX10_orders 18 = .ok (.getfield 41, 3) := by decide +kernel
theorem dX10_orders_21 : decode cX10_orders 21 = .ok (.iconst 0, 1) := by decide +kernel
theorem dX10_orders_22 : decode cX10_orders 22 = .ok (.laload, 1) := by decide +kernel
theorem dX10_orders_23 : decode cX10_orders 23 = .ok (.lreturn, 1) := by decide +kernel
theorem dX10_order_0 : decode cX10_order 0 = .ok (.aload_n 0, 1) := by decide +kernel
theorem dX10_order_1 : decode cX10_order 1 = .ok (.iload_n 1, 1) := by decide +kernel
theorem dX10_order_2 : decode cX10_order 2 = .ok (.invokevirtual 220, 3) := by decide +kernel
theorem dX10_order_5 : decode cX10_order 5 = .ok (.ifCond .eq 7, 3) := by decide +kernel
theorem dX10_order_8 : decode cX10_order 8 = .ok (.sipush (-1001), 3) := by decide +kernel
theorem dX10_order_11 : decode cX10_order 11 = .ok (.ireturn, 1) := by decide +kernel
theorem dX10_order_12 : decode cX10_order 12 = .ok (.lload_n 2, 1) := by decide +kernel
theorem dX10_order_13 : decode cX10_order 13 = .ok (.lconst 0, 1) := by decide +kernel
theorem dX10_order_14 : decode cX10_order 14 = .ok (.lcmp, 1) := by decide +kernel
theorem dX10_order_15 : decode cX10_order 15 = .ok (.ifCond .ge 7, 3) := by decide +kernel
theorem dX10_order_18 : decode cX10_order 18 = .ok (.sipush (-1002), 3) := by decide +kernel
theorem dX10_order_21 : decode cX10_order 21 = .ok (.ireturn, 1) := by decide +kernel
theorem dX10_order_22 : decode cX10_order 22 = .ok (.aload_n 0, 1) := by decide +kernel
theorem dX10_order_23 : decode cX10_order 23 = .ok (.iload_n 1, 1) := by decide +kernel
theorem dX10_order_24 : decode cX10_order 24 = .ok (.invokevirtual 231, 3) := by decide +kernel
theorem dX10_order_27 : decode cX10_order 27 = .ok (.aload_n 0, 1) := by decide +kernel
theorem dX10_order_28 : decode cX10_order 28 = .ok (.getfield 41, 3) := by decide +kernel
theorem dX10_order_31 : decode cX10_order 31 = .ok (.iconst 0, 1) := by decide +kernel
theorem dX10_order_32 : decode cX10_order 32 = .ok (.laload, 1) := by decide +kernel
theorem dX10_order_33 : decode cX10_order 33 = .ok (.lload_n 2, 1) := by decide +kernel
theorem dX10_order_34 : decode cX10_order 34 = .ok (.lcmp, 1) := by decide +kernel
theorem dX10_order_35 : decode cX10_order 35 = .ok (.ifCond .le 8, 3) := by decide +kernel
theorem dX10_order_38 : decode cX10_order 38 = .ok (.iload 4, 2) := by decide +kernel
theorem dX10_order_40 : decode cX10_order 40 = .ok (.ifCond .ge 5, 3) := by decide +kernel
theorem dX10_order_43 : decode cX10_order 43 = .ok (.iconst (-1), 1) := by decide +kernel
theorem dX10_order_44 : decode cX10_order 44 = .ok (.ireturn, 1) := by decide +kernel
theorem dX10_order_45 : decode cX10_order 45 = .ok (.lload_n 2, 1) := by decide +kernel
theorem dX10_order_46 : decode cX10_order 46 = .ok (.lstore 5, 2) := by decide +kernel
theorem dX10_order_48 : decode cX10_order 48 = .ok (.iconst 0, 1) := by decide +kernel
theorem dX10_order_49 : decode cX10_order 49 = .ok (.istore 7, 2) := by decide +kernel
theorem dX10_order_51 : decode cX10_order 51 = .ok (.iconst 0, 1) := by decide +kernel
theorem dX10_order_52 : decode cX10_order 52 = .ok (.istore 8, 2) := by decide +kernel
theorem dX10_order_54 : decode cX10_order 54 = .ok (.iload 7, 2) := by decide +kernel
theorem dX10_order_56 : decode cX10_order 56 = .ok (.iload_n 1, 1) := by decide +kernel
theorem dX10_order_57 : decode cX10_order 57 = .ok (.if_icmp .eq 114, 3) := by decide +kernel
theorem dX10_order_60 : decode cX10_order 60 = .ok (.iconst (-1), 1) := by decide +kernel
theorem dX10_order_61 : decode cX10_order 61 = .ok (.istore 9, 2) := by decide +kernel
theorem dX10_order_63 : decode cX10_order 63 = .ok (.iconst 0, 1) := by decide +kernel
theorem dX10_order_64 : decode cX10_order 64 = .ok (.istore 10, 2) := by decide +kernel
theorem dX10_order_66 : decode cX10_order 66 = .ok (.iload 10, 2) := by decide +kernel
theorem dX10_order_68 : decode cX10_order 68 = .ok (.aload_n 0, 1) := by decide +kernel
theorem dX10_order_69 : decode cX10_order 69 = .ok (.getfield 174, 3) := by decide +kernel
theorem dX10_order_72 : decode cX10_order 72 = .ok (.if_icmp .ge 74, 3) := by decide +kernel
theorem dX10_order_75 : decode cX10_order 75 = .ok (.iload 9, 2) := by decide +kernel
theorem dX10_order_77 : decode cX10_order 77 = .ok (.ifCond .ge 69, 3) := by decide +kernel
theorem dX10_order_80 : decode cX10_order 80 = .ok (.iload_n 1, 1) := by decide +kernel
theorem dX10_order_81 : decode cX10_order 81 = .ok (.iload 10, 2) := by decide +kernel
theorem dX10_order_83 : decode cX10_order 83 = .ok (.invokestatic 143, 3) := by decide +kernel
theorem dX10_order_86 : decode cX10_order 86 = .ok (.ifCond .eq 54, 3) := by decide +kernel
theorem dX10_order_89 : decode cX10_order 89 = .ok (.aload_n 0, 1) := by decide +kernel
theorem dX10_order_90 : decode cX10_order 90 = .ok (.getfield 49, 3) := by decide +kernel
theorem dX10_order_93 : decode cX10_order 93 = .ok (.iload 7, 2) := by decide +kernel
theorem dX10_order_95 : decode cX10_order 95 = .ok (.iaload, 1) := by decide +kernel
theorem dX10_order_96 : decode cX10_order 96 = .ok (.iload 10, 2) := by decide +kernel
theorem dX10_order_98 : decode cX10_order 98 = .ok (.invokestatic 143, 3) := by decide +kernel
theorem dX10_order_101 : decode cX10_order 101 = .ok (.ifCond .eq 39, 3) := by decide +kernel
theorem dX10_order_104 : decode cX10_order 104 = .ok (.aload_n 0, 1) := by decide +kernel
theorem dX10_order_105 : decode cX10_order 105 = .ok (.getfield 41, 3) := by decide +kernel
theorem dX10_order_108 : decode cX10_order 108 = .ok (.iload 7, 2) := by decide +kernel
theorem dX10_order_110 : decode cX10_order 110 = .ok (.iconst 1, 1) := by decide +kernel
theorem dX10_order_111 : decode cX10_order 111 = .ok (.iload 10, 2) := by decide +kernel
theorem dX10_order_113 : decode cX10_order 113 = .ok (.ishl, 1) := by decide +kernel
theorem dX10_order_114 : decode cX10_order 114 = .ok (.ior, 1) := by decide +kernel
theorem dX10_order_115 : decode cX10_order 115 = .ok (.laload, 1) := by decide +kernel
theorem dX10_order_116 : decode cX10_order 116 = .ok (.lstore 11, 2) := by decide +kernel
theorem dX10_order_118 : decode cX10_order 118 = .ok (.lload 5, 2) := by decide +kernel
theorem dX10_order_120 : decode cX10_order 120 = .ok (.lload 11, 2) := by decide +kernel
theorem dX10_order_122 : decode cX10_order 122 = .ok (.lcmp, 1) := by decide +kernel
theorem dX10_order_123 : decode cX10_order 123 = .ok (.ifCond .ge 10, 3) := by decide +kernel
theorem dX10_order_126 : decode cX10_order 126 = .ok (.iload 10, 2) := by decide +kernel
theorem dX10_order_128 : decode cX10_order 128 = .ok (.istore 9, 2) := by decide +kernel
theorem dX10_order_130 : decode cX10_order 130 = .ok (.goto 10, 3) := by decide +kernel
theorem dX10_order_133 : decode cX10_order 133 = .ok (.lload 5, 2) := by decide +kernel
theorem dX10_order_135 : decode cX10_order 135 = .ok (.lload 11, 2) := by decide +kernel
theorem dX10_order_137 : decode cX10_order 137 = .ok (.lsub, 1) := by decide +kernel
theorem dX10_order_138 : decode cX10_order 138 = .ok (.lstore 5, 2) := by decide +kernel
theorem dX10_order_140 : decode cX10_order 140 = .ok (.iinc 10 1, 3) := by decide +kernel
theorem dX10_order_143 : decode cX10_order 143 = .ok (.goto (-77), 3) := by decide +kernel
theorem dX10_order_146 : decode cX10_order 146 = .ok (.iload 8, 2) := by decide +kernel
theorem dX10_order_148 : decode cX10_order 148 = .ok (.iload 4, 2) := by decide +kernel
theorem dX10_order_150 : decode cX10_order 150 = .ok (.if_icmp .ne 6, 3) := by decide +kernel
theorem dX10_order_153 : decode cX10_order 153 = .ok (.iload 9, 2) := by decide +kernel
theorem dX10_order_155 : decode cX10_order 155 = .ok (.ireturn, 1) := by decide +kernel
theorem dX10_order_156 : decode cX10_order 156 = .ok (.iload 7, 2) := by decide +kernel
theorem dX10_order_158 : decode cX10_order 158 = .ok (.iconst 1, 1) := by decide +kernel
theorem dX10_order_159 : decode cX10_order 159 = .ok (.iload 9, 2) := by decide +kernel
theorem dX10_order_161 : decode cX10_order 161 = .ok (.ishl, 1) := by decide +kernel
theorem dX10_order_162 : decode cX10_order 162 = .ok (.ior, 1) := by decide +kernel
theorem dX10_order_163 : decode cX10_order 163 = .ok (.istore 7, 2) := by decide +kernel
theorem dX10_order_165 : decode cX10_order 165 = .ok (.iinc 8 1, 3) := by decide +kernel
theorem dX10_order_168 : decode cX10_order 168 = .ok (.goto (-114), 3) := by decide +kernel
theorem dX10_order_171 : decode cX10_order 171 = .ok (.iconst (-1), 1) := by decide +kernel
theorem dX10_order_172 : decode cX10_order 172 = .ok (.ireturn, 1) := by decide +kernel
theorem dX10_good_0 : decode cX10_good 0 = .ok (.aload_n 0, 1) := by decide +kernel
theorem dX10_good_1 : decode cX10_good 1 = .ok (.invokevirtual 234, 3) := by decide +kernel
theorem dX10_good_4 : decode cX10_good 4 = .ok (.iconst 0, 1) := by decide +kernel
theorem dX10_good_5 : decode cX10_good 5 = .ok (.istore_n 1, 1) := by decide +kernel
theorem dX10_good_6 : decode cX10_good 6 = .ok (.iconst 0, 1) := by decide +kernel
theorem dX10_good_7 : decode cX10_good 7 = .ok (.istore_n 2, 1) := by decide +kernel
theorem dX10_good_8 : decode cX10_good 8 = .ok (.iload_n 2, 1) := by decide +kernel
theorem dX10_good_9 : decode cX10_good 9 = .ok (.aload_n 0, 1) := by decide +kernel
theorem dX10_good_10 : decode cX10_good 10 = .ok (.invokevirtual 192, 3) := by decide +kernel
theorem dX10_good_13 : decode cX10_good 13 = .ok (.if_icmp .gt 21, 3) := by decide +kernel
theorem dX10_good_16 : decode cX10_good 16 = .ok (.iload_n 1, 1) := by decide +kernel
theorem dX10_good_17 : decode cX10_good 17 = .ok (.aload_n 0, 1) := by decide +kernel
theorem dX10_good_18 : decode cX10_good 18 = .ok (.getfield 45, 3) := by decide +kernel
theorem dX10_good_21 : decode cX10_good 21 = .ok (.iload_n 2, 1) := by decide +kernel
theorem dX10_good_22 : decode cX10_good 22 = .ok (.baload, 1) := by decide +kernel
theorem dX10_good_23 : decode cX10_good 23 = .ok (.invokestatic 154, 3) := by decide +kernel
theorem dX10_good_26 : decode cX10_good 26 = .ok (.iadd, 1) := by decide +kernel
theorem dX10_good_27 : decode cX10_good 27 = .ok (.istore_n 1, 1) := by decide +kernel
theorem dX10_good_28 : decode cX10_good 28 = .ok (.iinc 2 1, 3) := by decide +kernel
theorem dX10_good_31 : decode cX10_good 31 = .ok (.goto (-23), 3) := by decide +kernel
theorem dX10_good_34 : decode cX10_good 34 = .ok (.iload_n 1, 1) := by decide +kernel
theorem dX10_good_35 : decode cX10_good 35 = .ok (.ireturn, 1) := by decide +kernel
theorem dX10_place_0 : decode cX10_place 0 = .ok (.aload_n 0, 1) := by decide +kernel
theorem dX10_place_1 : decode cX10_place 1 = .ok (.iload_n 1, 1) := by decide +kernel
theorem dX10_place_2 : decode cX10_place 2 = .ok (.invokevirtual 195, 3) := by decide +kernel
theorem dX10_place_5 : decode cX10_place 5 = .ok (.ifCond .eq 7, 3) := by decide +kernel
theorem dX10_place_8 : decode cX10_place 8 = .ok (.sipush (-1001), 3) := by decide +kernel
theorem dX10_place_11 : decode cX10_place 11 = .ok (.ireturn, 1) := by decide +kernel
theorem dX10_place_12 : decode cX10_place 12 = .ok (.iload_n 2, 1) := by decide +kernel
theorem dX10_place_13 : decode cX10_place 13 = .ok (.i2l, 1) := by decide +kernel
theorem dX10_place_14 : decode cX10_place 14 = .ok (.lconst 0, 1) := by decide +kernel
theorem dX10_place_15 : decode cX10_place 15 = .ok (.lconst 1, 1) := by decide +kernel
theorem dX10_place_16 : decode cX10_place 16 = .ok (.invokestatic 99, 3) := by decide +kernel
theorem dX10_place_19 : decode cX10_place 19 = .ok (.ifCond .ne 7, 3) := by decide +kernel
theorem dX10_place_22 : decode cX10_place 22 = .ok (.sipush (-1002), 3) := by decide +kernel
theorem dX10_place_25 : decode cX10_place 25 = .ok (.ireturn, 1) := by decide +kernel
theorem dX10_place_26 : decode cX10_place 26 = .ok (.aload_n 0, 1) := by decide +kernel
theorem dX10_place_27 : decode cX10_place 27 = .ok (.aload_n 0, 1) := by decide +kernel
theorem dX10_place_28 : decode cX10_place 28 = .ok (.invokevirtual 192, 3) := by decide +kernel
theorem dX10_place_31 : decode cX10_place 31 = .ok (.invokevirtual 231, 3) := by decide +kernel
theorem dX10_place_34 : decode cX10_place 34 = .ok (.aload_n 0, 1) := by decide +kernel
theorem dX10_place_35 : decode cX10_place 35 = .ok (.invokevirtual 234, 3) := by decide +kernel
theorem dX10_place_38 : decode cX10_place 38 = .ok (.iconst (-1), 1) := by decide +kernel
theorem dX10_place_39 : decode cX10_place 39 = .ok (.istore_n 3, 1) := by decide +kernel
theorem dX10_place_40 : decode cX10_place 40 = .ok (.iconst 0, 1) := by decide +kernel
theorem dX10_place_41 : decode cX10_place 41 = .ok (.istore 4, 2) := by decide +kernel
theorem dX10_place_43 : decode cX10_place 43 = .ok (.iload 4, 2) := by decide +kernel
theorem dX10_place_45 : decode cX10_place 45 = .ok (.aload_n 0, 1) := by decide +kernel
theorem dX10_place_46 : decode cX10_place 46 = .ok (.invokevirtual 192, 3) := by decide +kernel
theorem dX10_place_49 : decode cX10_place 49 = .ok (.if_icmp .gt 86, 3) := by decide +kernel
theorem dX10_place_52 : decode cX10_place 52 = .ok (.aload_n 0, 1) := by decide +kernel
theorem dX10_place_53 : decode cX10_place 53 = .ok (.getfield 45, 3) := by decide +kernel
theorem dX10_place_56 : decode cX10_place 56 = .ok (.iload 4, 2) := by decide +kernel
theorem dX10_place_58 : decode cX10_place 58 = .ok (.baload, 1) := by decide +kernel
theorem dX10_place_59 : decode cX10_place 59 = .ok (.ifCond .eq 70, 3) := by decide +kernel
theorem dX10_place_62 : decode cX10_place 62 = .ok (.aload_n 0, 1) := by decide +kernel
theorem dX10_place_63 : decode cX10_place 63 = .ok (.getfield 49, 3) := by decide +kernel
theorem dX10_place_66 : decode cX10_place 66 = .ok (.iload 4, 2) := by decide +kernel
theorem dX10_place_68 : decode cX10_place 68 = .ok (.iaload, 1) := by decide +kernel
theorem dX10_place_69 : decode cX10_place 69 = .ok (.iload_n 1, 1) := by decide +kernel
theorem dX10_place_70 : decode cX10_place 70 = .ok (.invokestatic 143, 3) := by decide +kernel
theorem dX10_place_73 : decode cX10_place 73 = .ok (.ifCond .eq 56, 3) := by decide +kernel
theorem dX10_place_76 : decode cX10_place 76 = .ok (.aload_n 0, 1) := by decide +kernel
theorem dX10_place_77 : decode cX10_place 77 = .ok (.getfield 41, 3) := by decide +kernel
theorem dX10_place_80 : decode cX10_place 80 = .ok (.iload 4, 2) := by decide +kernel
theorem dX10_place_82 : decode cX10_place 82 = .ok (.iconst 1, 1) := by decide +kernel
theorem dX10_place_83 : decode cX10_place 83 = .ok (.iload_n 1, 1) := by decide +kernel
theorem dX10_place_84 : decode cX10_place 84 = .ok (.ishl, 1) := by decide +kernel
theorem dX10_place_85 : decode cX10_place 85 = .ok (.ior, 1) := by decide +kernel
theorem dX10_place_86 : decode cX10_place 86 = .ok (.laload, 1) := by decide +kernel
theorem dX10_place_87 : decode cX10_place 87 = .ok (.lconst 0, 1) := by decide +kernel
theorem dX10_place_88 : decode cX10_place 88 = .ok (.lcmp, 1) := by decide +kernel
theorem dX10_place_89 : decode cX10_place 89 = .ok (.ifCond .le 40, 3) := by decide +kernel
theorem dX10_place_92 : decode cX10_place 92 = .ok (.iload 4, 2) := by decide +kernel
theorem dX10_place_94 : decode cX10_place 94 = .ok (.invokestatic 208, 3) := by decide +kernel
theorem dX10_place_97 : decode cX10_place 97 = .ok (.istore 5, 2) := by decide +kernel
theorem dX10_place_99 : decode cX10_place 99 = .ok (.iload_n 3, 1) := by decide +kernel
theorem dX10_place_100 : decode cX10_place 100 = .ok (.ifCond .lt 22, 3) := by decide +kernel
theorem dX10_place_103 : decode cX10_place 103 = .ok (.iload_n 2, 1) := by decide +kernel
theorem dX10_place_104 : decode cX10_place 104 = .ok (.ifCond .ne 12, 3) := by decide +kernel
theorem dX10_place_107 : decode cX10_place 107 = .ok (.iload 5, 2) := by decide +kernel
theorem dX10_place_109 : decode cX10_place 109 = .ok (.iload_n 3, 1) := by decide +kernel
theorem dX10_place_110 : decode cX10_place 110 = .ok (.if_icmp .ge 17, 3) := by decide +kernel
theorem dX10_place_113 : decode cX10_place 113 = .ok (.goto 9, 3) := by decide +kernel
theorem dX10_place_116 : decode cX10_place 116 = .ok (.iload 5, 2) := by decide +kernel
theorem dX10_place_118 : decode cX10_place 118 = .ok (.iload_n 3, 1) := by decide +kernel
theorem dX10_place_119 : decode cX10_place 119 = .ok (.if_icmp .le 8, 3) := by decide +kernel
theorem dX10_place_122 : decode cX10_place 122 = .ok (.iload 5, 2) := by decide +kernel
theorem dX10_place_124 : decode cX10_place 124 = .ok (.goto 4, 3) := by decide +kernel
theorem dX10_place_127 : decode cX10_place 127 = .ok (.iload_n 3, 1) := by decide +kernel
theorem dX10_place_128 : decode cX10_place 128 = .ok (.istore_n 3, 1) := by decide +kernel
theorem dX10_place_129 : decode cX10_place 129 = .ok (.iinc 4 1, 3) := by decide +kernel
theorem dX10_place_132 : decode cX10_place 132 = .ok (.goto (-89), 3) := by decide +kernel
theorem dX10_place_135 : decode cX10_place 135 = .ok (.iload_n 3, 1) := by decide +kernel
theorem dX10_place_136 : decode cX10_place 136 = .ok (.ireturn, 1) := by decide +kernel
theorem dX10_openOf_0 : decode cX10_openOf 0 = .ok (.aload_n 0, 1) := by decide +kernel
theorem dX10_openOf_1 : decode cX10_openOf 1 = .ok (.iload_n 1, 1) := by decide +kernel
theorem dX10_openOf_2 : decode cX10_openOf 2 = .ok (.iconst 3, 1) := by decide +kernel
theorem dX10_openOf_3 : decode cX10_openOf 3 = .ok (.invokevirtual 217, 3) := by decide +kernel
theorem dX10_openOf_6 : decode cX10_openOf 6 = .ok (.aload_n 0, 1) := by decide +kernel
theorem dX10_openOf_7 : decode cX10_openOf 7 = .ok (.iload_n 1, 1) := by decide +kernel
theorem dX10_openOf_8 : decode cX10_openOf 8 = .ok (.iconst 4, 1) := by decide +kernel
theorem dX10_openOf_9 : decode cX10_openOf 9 = .ok (.invokevirtual 217, 3) := by decide +kernel
theorem dX10_openOf_12 : decode cX10_openOf 12 = .ok (.iconst (-1), 1) := by decide +kernel
theorem dX10_openOf_13 : decode cX10_openOf 13 = .ok (.ixor, 1) := by decide +kernel
theorem dX10_openOf_14 : decode cX10_openOf 14 = .ok (.iand, 1) := by decide +kernel
theorem dX10_openOf_15 : decode cX10_openOf 15 = .ok (.ireturn, 1) := by decide +kernel
theorem dX10_open_0 : decode cX10_open 0 = .ok (.aload_n 0, 1) := by decide +kernel
theorem dX10_open_1 : decode cX10_open 1 = .ok (.iload_n 1, 1) := by decide +kernel
theorem dX10_open_2 : decode cX10_open 2 = .ok (.invokevirtual 220, 3) := by decide +kernel
theorem dX10_open_5 : decode cX10_open 5 = .ok (.ifCond .eq 9, 3) := by decide +kernel
theorem dX10_open_8 : decode cX10_open 8 = .ok (.sipush (-1001), 3) := by decide +kernel
theorem dX10_open_11 : decode cX10_open 11 = .ok (.goto 8, 3) := by decide +kernel
theorem dX10_open_14 : decode cX10_open 14 = .ok (.aload_n 0, 1) := by decide +kernel
theorem dX10_open_15 : decode cX10_open 15 = .ok (.iload_n 1, 1) := by decide +kernel
theorem dX10_open_16 : decode cX10_open 16 = .ok (.invokevirtual 237, 3) := by decide +kernel
theorem dX10_open_19 : decode cX10_open 19 = .ok (.ireturn, 1) := by decide +kernel
theorem dX10_atOnce_0 : decode cX10_atOnce 0 = .ok (.aload_n 0, 1) := by decide +kernel
theorem dX10_atOnce_1 : decode cX10_atOnce 1 = .ok (.iload_n 1, 1) := by decide +kernel
theorem dX10_atOnce_2 : decode cX10_atOnce 2 = .ok (.invokevirtual 220, 3) := by decide +kernel
theorem dX10_atOnce_5 : decode cX10_atOnce 5 = .ok (.ifCond .eq 7, 3) := by decide +kernel
theorem dX10_atOnce_8 : decode cX10_atOnce 8 = .ok (.sipush (-1001), 3) := by decide +kernel
theorem dX10_atOnce_11 : decode cX10_atOnce 11 = .ok (.ireturn, 1) := by decide +kernel
theorem dX10_atOnce_12 : decode cX10_atOnce 12 = .ok (.aload_n 0, 1) := by decide +kernel
theorem dX10_atOnce_13 : decode cX10_atOnce 13 = .ok (.invokevirtual 234, 3) := by decide +kernel
theorem dX10_atOnce_16 : decode cX10_atOnce 16 = .ok (.iconst 0, 1) := by decide +kernel
theorem dX10_atOnce_17 : decode cX10_atOnce 17 = .ok (.istore_n 2, 1) := by decide +kernel
theorem dX10_atOnce_18 : decode cX10_atOnce 18 = .ok (.iload_n 2, 1) := by decide +kernel
theorem dX10_atOnce_19 : decode cX10_atOnce 19 = .ok (.iload_n 1, 1) := by decide +kernel
theorem dX10_atOnce_20 : decode cX10_atOnce 20 = .ok (.if_icmp .gt 145, 3) := by decide +kernel
theorem dX10_atOnce_23 : decode cX10_atOnce 23 = .ok (.iload_n 2, 1) := by decide +kernel
theorem dX10_atOnce_24 : decode cX10_atOnce 24 = .ok (.ifCond .ne 7, 3) := by decide +kernel
theorem dX10_atOnce_27 : decode cX10_atOnce 27 = .ok (.iconst 0, 1) := by decide +kernel
theorem dX10_atOnce_28 : decode cX10_atOnce 28 = .ok (.goto 5, 3) := by decide +kernel
theorem dX10_atOnce_31 : decode cX10_atOnce 31 = .ok (.ldc 240, 2) := by decide +kernel
theorem dX10_atOnce_33 : decode cX10_atOnce 33 = .ok (.istore_n 3, 1) := by decide +kernel
theorem dX10_atOnce_34 : decode cX10_atOnce 34 = .ok (.iconst 0, 1) := by decide +kernel
theorem dX10_atOnce_35 : decode cX10_atOnce 35 = .ok (.istore 4, 2) := by decide +kernel
theorem dX10_atOnce_37 : decode cX10_atOnce 37 = .ok (.iload 4, 2) := by decide +kernel
theorem dX10_atOnce_39 : decode cX10_atOnce 39 = .ok (.aload_n 0, 1) := by decide +kernel
theorem dX10_atOnce_40 : decode cX10_atOnce 40 = .ok (.getfield 174, 3) := by decide +kernel
theorem dX10_atOnce_43 : decode cX10_atOnce 43 = .ok (.if_icmp .ge 88, 3) := by decide +kernel
theorem dX10_atOnce_46 : decode cX10_atOnce 46 = .ok (.iload_n 2, 1) := by decide +kernel
theorem dX10_atOnce_47 : decode cX10_atOnce 47 = .ok (.iconst 1, 1) := by decide +kernel
theorem dX10_atOnce_48 : decode cX10_atOnce 48 = .ok (.iload 4, 2) := by decide +kernel
theorem dX10_atOnce_50 : decode cX10_atOnce 50 = .ok (.ishl, 1) := by decide +kernel
theorem dX10_atOnce_51 : decode cX10_atOnce 51 = .ok (.iconst (-1), 1) := by decide +kernel
theorem dX10_atOnce_52 : decode cX10_atOnce 52 = .ok (.ixor, 1) := by decide +kernel
theorem dX10_atOnce_53 : decode cX10_atOnce 53 = .ok (.iand, 1) := by decide +kernel
theorem dX10_atOnce_54 : decode cX10_atOnce 54 = .ok (.istore 5, 2) := by decide +kernel
theorem dX10_atOnce_56 : decode cX10_atOnce 56 = .ok (.iload_n 2, 1) := by decide +kernel
theorem dX10_atOnce_57 : decode cX10_atOnce 57 = .ok (.iload 4, 2) := by decide +kernel
theorem dX10_atOnce_59 : decode cX10_atOnce 59 = .ok (.invokestatic 143, 3) := by decide +kernel
theorem dX10_atOnce_62 : decode cX10_atOnce 62 = .ok (.ifCond .eq 32, 3) := by decide +kernel
theorem dX10_atOnce_65 : decode cX10_atOnce 65 = .ok (.aload_n 0, 1) := by decide +kernel
theorem dX10_atOnce_66 : decode cX10_atOnce 66 = .ok (.getfield 45, 3) := by decide +kernel
theorem dX10_atOnce_69 : decode cX10_atOnce 69 = .ok (.iload 5, 2) := by decide +kernel
theorem dX10_atOnce_71 : decode cX10_atOnce 71 = .ok (.baload, 1) := by decide +kernel
theorem dX10_atOnce_72 : decode cX10_atOnce 72 = .ok (.ifCond .eq 22, 3) := by decide +kernel
theorem dX10_atOnce_75 : decode cX10_atOnce 75 = .ok (.aload_n 0, 1) := by decide +kernel
theorem dX10_atOnce_76 : decode cX10_atOnce 76 = .ok (.getfield 49, 3) := by decide +kernel
theorem dX10_atOnce_79 : decode cX10_atOnce 79 = .ok (.iload 5, 2) := by decide +kernel
theorem dX10_atOnce_81 : decode cX10_atOnce 81 = .ok (.iaload, 1) := by decide +kernel
theorem dX10_atOnce_82 : decode cX10_atOnce 82 = .ok (.iload 4, 2) := by decide +kernel
theorem dX10_atOnce_84 : decode cX10_atOnce 84 = .ok (.invokestatic 143, 3) := by decide +kernel
theorem dX10_atOnce_87 : decode cX10_atOnce 87 = .ok (.ifCond .eq 7, 3) := by decide +kernel
theorem dX10_atOnce_90 : decode cX10_atOnce 90 = .ok (.iconst 1, 1) := by decide +kernel
theorem dX10_atOnce_91 : decode cX10_atOnce 91 = .ok (.goto 4, 3) := by decide +kernel
theorem dX10_atOnce_94 : decode cX10_atOnce 94 = .ok (.iconst 0, 1) := by decide +kernel
theorem dX10_atOnce_95 : decode cX10_atOnce 95 = .ok (.istore 6, 2) := by decide +kernel
theorem dX10_atOnce_97 : decode cX10_atOnce 97 = .ok (.iload 6, 2) := by decide +kernel
theorem dX10_atOnce_99 : decode cX10_atOnce 99 = .ok (.ifCond .eq 24, 3) := by decide +kernel
theorem dX10_atOnce_102 : decode cX10_atOnce 102 = .ok (.aload_n 0, 1) := by decide +kernel
theorem dX10_atOnce_103 : decode cX10_atOnce 103 = .ok (.getfield 52, 3) := by decide +kernel
theorem dX10_atOnce_106 : decode cX10_atOnce 106 = .ok (.iload 5, 2) := by decide +kernel
theorem dX10_atOnce_108 : decode cX10_atOnce 108 = .ok (.iaload, 1) := by decide +kernel
theorem dX10_atOnce_109 : decode cX10_atOnce 109 = .ok (.iload_n 3, 1) := by decide +kernel
theorem dX10_atOnce_110 : decode cX10_atOnce 110 = .ok (.if_icmp .ge 13, 3) := by decide +kernel
theorem dX10_atOnce_113 : decode cX10_atOnce 113 = .ok (.aload_n 0, 1) := by decide +kernel
theorem dX10_atOnce_114 : decode cX10_atOnce 114 = .ok (.getfield 52, 3) := by decide +kernel
theorem dX10_atOnce_117 : decode cX10_atOnce 117 = .ok (.iload 5, 2) := by decide +kernel
theorem dX10_atOnce_119 : decode cX10_atOnce 119 = .ok (.iaload, 1) := by decide +kernel
theorem dX10_atOnce_120 : decode cX10_atOnce 120 = .ok (.goto 4, 3) := by decide +kernel
theorem dX10_atOnce_123 : decode cX10_atOnce 123 = .ok (.iload_n 3, 1) := by decide +kernel
theorem dX10_atOnce_124 : decode cX10_atOnce 124 = .ok (.istore_n 3, 1) := by decide +kernel
theorem dX10_atOnce_125 : decode cX10_atOnce 125 = .ok (.iinc 4 1, 3) := by decide +kernel
theorem dX10_atOnce_128 : decode cX10_atOnce 128 = .ok (.goto (-91), 3) := by decide +kernel
theorem dX10_atOnce_131 : decode cX10_atOnce 131 = .ok (.aload_n 0, 1) := by decide +kernel
theorem dX10_atOnce_132 : decode cX10_atOnce 132 = .ok (.iload_n 2, 1) := by decide +kernel
theorem dX10_atOnce_133 : decode cX10_atOnce 133 = .ok (.invokevirtual 237, 3) := by decide +kernel
theorem dX10_atOnce_136 : decode cX10_atOnce 136 = .ok (.invokestatic 208, 3) := by decide +kernel
theorem dX10_atOnce_139 : decode cX10_atOnce 139 = .ok (.istore 4, 2) := by decide +kernel
theorem dX10_atOnce_141 : decode cX10_atOnce 141 = .ok (.aload_n 0, 1) := by decide +kernel
theorem dX10_atOnce_142 : decode cX10_atOnce 142 = .ok (.getfield 52, 3) := by decide +kernel
theorem dX10_atOnce_145 : decode cX10_atOnce 145 = .ok (.iload_n 2, 1) := by decide +kernel
theorem dX10_atOnce_146 : decode cX10_atOnce 146 = .ok (.iload_n 3, 1) := by decide +kernel
theorem dX10_atOnce_147 : decode cX10_atOnce 147 = .ok (.iload 4, 2) := by decide +kernel
theorem dX10_atOnce_149 : decode cX10_atOnce 149 = .ok (.if_icmp .le 7, 3) := by decide +kernel
theorem dX10_atOnce_152 : decode cX10_atOnce 152 = .ok (.iload_n 3, 1) := by decide +kernel
theorem dX10_atOnce_153 : decode cX10_atOnce 153 = .ok (.goto 5, 3) := by decide +kernel
theorem dX10_atOnce_156 : decode cX10_atOnce 156 = .ok (.iload 4, 2) := by decide +kernel
theorem dX10_atOnce_158 : decode cX10_atOnce 158 = .ok (.iastore, 1) := by decide +kernel
theorem dX10_atOnce_159 : decode cX10_atOnce 159 = .ok (.iinc 2 1, 3) := by decide +kernel
theorem dX10_atOnce_162 : decode cX10_atOnce 162 = .ok (.goto (-144), 3) := by decide +kernel
theorem dX10_atOnce_165 : decode cX10_atOnce 165 = .ok (.aload_n 0, 1) := by decide +kernel
theorem dX10_atOnce_166 : decode cX10_atOnce 166 = .ok (.getfield 45, 3) := by decide +kernel
theorem dX10_atOnce_169 : decode cX10_atOnce 169 = .ok (.iload_n 1, 1) := by decide +kernel
theorem dX10_atOnce_170 : decode cX10_atOnce 170 = .ok (.baload, 1) := by decide +kernel
theorem dX10_atOnce_171 : decode cX10_atOnce 171 = .ok (.ifCond .eq 12, 3) := by decide +kernel
theorem dX10_atOnce_174 : decode cX10_atOnce 174 = .ok (.aload_n 0, 1) := by decide +kernel
theorem dX10_atOnce_175 : decode cX10_atOnce 175 = .ok (.getfield 52, 3) := by decide +kernel
theorem dX10_atOnce_178 : decode cX10_atOnce 178 = .ok (.iload_n 1, 1) := by decide +kernel
theorem dX10_atOnce_179 : decode cX10_atOnce 179 = .ok (.iaload, 1) := by decide +kernel
theorem dX10_atOnce_180 : decode cX10_atOnce 180 = .ok (.goto 4, 3) := by decide +kernel
theorem dX10_atOnce_183 : decode cX10_atOnce 183 = .ok (.iconst (-1), 1) := by decide +kernel
theorem dX10_atOnce_184 : decode cX10_atOnce 184 = .ok (.ireturn, 1) := by decide +kernel
theorem dX10_along_0 : decode cX10_along 0 = .ok (.aload_n 0, 1) := by decide +kernel
theorem dX10_along_1 : decode cX10_along 1 = .ok (.iload_n 1, 1) := by decide +kernel
theorem dX10_along_2 : decode cX10_along 2 = .ok (.invokevirtual 195, 3) := by decide +kernel
theorem dX10_along_5 : decode cX10_along 5 = .ok (.ifCond .eq 7, 3) := by decide +kernel
theorem dX10_along_8 : decode cX10_along 8 = .ok (.sipush (-1001), 3) := by decide +kernel
theorem dX10_along_11 : decode cX10_along 11 = .ok (.ireturn, 1) := by decide +kernel
theorem dX10_along_12 : decode cX10_along 12 = .ok (.aload_n 0, 1) := by decide +kernel
theorem dX10_along_13 : decode cX10_along 13 = .ok (.invokevirtual 234, 3) := by decide +kernel
theorem dX10_along_16 : decode cX10_along 16 = .ok (.iconst 0, 1) := by decide +kernel
theorem dX10_along_17 : decode cX10_along 17 = .ok (.istore_n 2, 1) := by decide +kernel
theorem dX10_along_18 : decode cX10_along 18 = .ok (.iconst 0, 1) := by decide +kernel
theorem dX10_along_19 : decode cX10_along 19 = .ok (.istore_n 3, 1) := by decide +kernel
theorem dX10_along_20 : decode cX10_along 20 = .ok (.iload_n 3, 1) := by decide +kernel
theorem dX10_along_21 : decode cX10_along 21 = .ok (.aload_n 0, 1) := by decide +kernel
theorem dX10_along_22 : decode cX10_along 22 = .ok (.invokevirtual 192, 3) := by decide +kernel
theorem dX10_along_25 : decode cX10_along 25 = .ok (.if_icmp .gt 34, 3) := by decide +kernel
theorem dX10_along_28 : decode cX10_along 28 = .ok (.iload_n 2, 1) := by decide +kernel
theorem dX10_along_29 : decode cX10_along 29 = .ok (.aload_n 0, 1) := by decide +kernel
theorem dX10_along_30 : decode cX10_along 30 = .ok (.getfield 45, 3) := by decide +kernel
theorem dX10_along_33 : decode cX10_along 33 = .ok (.iload_n 3, 1) := by decide +kernel
theorem dX10_along_34 : decode cX10_along 34 = .ok (.baload, 1) := by decide +kernel
theorem dX10_along_35 : decode cX10_along 35 = .ok (.ifCond .eq 15, 3) := by decide +kernel
theorem dX10_along_38 : decode cX10_along 38 = .ok (.iload_n 3, 1) := by decide +kernel
theorem dX10_along_39 : decode cX10_along 39 = .ok (.iload_n 1, 1) := by decide +kernel
theorem dX10_along_40 : decode cX10_along 40 = .ok (.invokestatic 143, 3) := by decide +kernel
theorem dX10_along_43 : decode cX10_along 43 = .ok (.ifCond .ne 7, 3) := by decide +kernel
theorem dX10_along_46 : decode cX10_along 46 = .ok (.iload_n 3, 1) := by decide +kernel
theorem dX10_along_47 : decode cX10_along 47 = .ok (.goto 4, 3) := by decide +kernel
theorem dX10_along_50 : decode cX10_along 50 = .ok (.iconst 0, 1) := by decide +kernel
theorem dX10_along_51 : decode cX10_along 51 = .ok (.ior, 1) := by decide +kernel
theorem dX10_along_52 : decode cX10_along 52 = .ok (.istore_n 2, 1) := by decide +kernel
theorem dX10_along_53 : decode cX10_along 53 = .ok (.iinc 3 1, 3) := by decide +kernel
theorem dX10_along_56 : decode cX10_along 56 = .ok (.goto (-36), 3) := by decide +kernel
theorem dX10_along_59 : decode cX10_along 59 = .ok (.aload_n 0, 1) := by decide +kernel
theorem dX10_along_60 : decode cX10_along 60 = .ok (.invokevirtual 192, 3) := by decide +kernel
theorem dX10_along_63 : decode cX10_along 63 = .ok (.iload_n 2, 1) := by decide +kernel
theorem dX10_along_64 : decode cX10_along 64 = .ok (.iconst (-1), 1) := by decide +kernel
theorem dX10_along_65 : decode cX10_along 65 = .ok (.ixor, 1) := by decide +kernel
theorem dX10_along_66 : decode cX10_along 66 = .ok (.iand, 1) := by decide +kernel
theorem dX10_along_67 : decode cX10_along 67 = .ok (.ireturn, 1) := by decide +kernel
theorem dX10_shortest_0 : decode cX10_shortest 0 = .ok (.aload_n 0, 1) := by decide +kernel
theorem dX10_shortest_1 : decode cX10_shortest 1 = .ok (.iload_n 1, 1) := by decide +kernel
theorem dX10_shortest_2 : decode cX10_shortest 2 = .ok (.invokevirtual 195, 3) := by decide +kernel
theorem dX10_shortest_5 : decode cX10_shortest 5 = .ok (.ifCond .eq 7, 3) := by decide +kernel
theorem dX10_shortest_8 : decode cX10_shortest 8 = .ok (.sipush (-1001), 3) := by decide +kernel
theorem dX10_shortest_11 : decode cX10_shortest 11 = .ok (.ireturn, 1) := by decide +kernel
theorem dX10_shortest_12 : decode cX10_shortest 12 = .ok (.iload_n 2, 1) := by decide +kernel
theorem dX10_shortest_13 : decode cX10_shortest 13 = .ok (.i2l, 1) := by decide +kernel
theorem dX10_shortest_14 : decode cX10_shortest 14 = .ok (.lconst 0, 1) := by decide +kernel
theorem dX10_shortest_15 : decode cX10_shortest 15 = .ok (.lconst 1, 1) := by decide +kernel
theorem dX10_shortest_16 : decode cX10_shortest 16 = .ok (.invokestatic 99, 3) := by decide +kernel
theorem dX10_shortest_19 : decode cX10_shortest 19 = .ok (.ifCond .ne 7, 3) := by decide +kernel
theorem dX10_shortest_22 : decode cX10_shortest 22 = .ok (.sipush (-1002), 3) := by decide +kernel
theorem dX10_shortest_25 : decode cX10_shortest 25 = .ok (.ireturn, 1) := by decide +kernel
theorem dX10_shortest_26 : decode cX10_shortest 26 = .ok (.aload_n 0, 1) := by decide +kernel
theorem dX10_shortest_27 : decode cX10_shortest 27 = .ok (.invokevirtual 234, 3) := by decide +kernel
theorem dX10_shortest_30 : decode cX10_shortest 30 = .ok (.iconst (-1), 1) := by decide +kernel
theorem dX10_shortest_31 : decode cX10_shortest 31 = .ok (.istore_n 3, 1) := by decide +kernel
theorem dX10_shortest_32 : decode cX10_shortest 32 = .ok (.iconst 0, 1) := by decide +kernel
theorem dX10_shortest_33 : decode cX10_shortest 33 = .ok (.istore 4, 2) := by decide +kernel
theorem dX10_shortest_35 : decode cX10_shortest 35 = .ok (.iload 4, 2) := by decide +kernel
theorem dX10_shortest_37 : decode cX10_shortest 37 = .ok (.aload_n 0, 1) := by decide +kernel
theorem dX10_shortest_38 : decode cX10_shortest 38 = .ok (.invokevirtual 192, 3) := by decide +kernel
theorem dX10_shortest_41 : decode cX10_shortest 41 = .ok (.if_icmp .gt 49, 3) := by decide +kernel
theorem dX10_shortest_44 : decode cX10_shortest 44 = .ok (.aload_n 0, 1) := by decide +kernel
theorem dX10_shortest_45 : decode cX10_shortest 45 = .ok (.getfield 45, 3) := by decide +kernel
theorem dX10_shortest_48 : decode cX10_shortest 48 = .ok (.iload 4, 2) := by decide +kernel
theorem dX10_shortest_50 : decode cX10_shortest 50 = .ok (.baload, 1) := by decide +kernel
theorem dX10_shortest_51 : decode cX10_shortest 51 = .ok (.ifCond .eq 33, 3) := by decide +kernel
theorem dX10_shortest_54 : decode cX10_shortest 54 = .ok (.iload 4, 2) := by decide +kernel
theorem dX10_shortest_56 : decode cX10_shortest 56 = .ok (.iload_n 1, 1) := by decide +kernel
theorem dX10_shortest_57 : decode cX10_shortest 57 = .ok (.invokestatic 143, 3) := by decide +kernel
theorem dX10_shortest_60 : decode cX10_shortest 60 = .ok (.ifCond .eq 24, 3) := by decide +kernel
theorem dX10_shortest_63 : decode cX10_shortest 63 = .ok (.iload_n 3, 1) := by decide +kernel
theorem dX10_shortest_64 : decode cX10_shortest 64 = .ok (.ifCond .lt 17, 3) := by decide +kernel
theorem dX10_shortest_67 : decode cX10_shortest 67 = .ok (.aload_n 0, 1) := by decide +kernel
theorem dX10_shortest_68 : decode cX10_shortest 68 = .ok (.iload 4, 2) := by decide +kernel
theorem dX10_shortest_70 : decode cX10_shortest 70 = .ok (.invokevirtual 211, 3) := by decide +kernel
theorem dX10_shortest_73 : decode cX10_shortest 73 = .ok (.aload_n 0, 1) := by decide +kernel
theorem dX10_shortest_74 : decode cX10_shortest 74 = .ok (.iload_n 3, 1) := by decide +kernel
theorem dX10_shortest_75 : decode cX10_shortest 75 = .ok (.invokevirtual 211, 3) := by decide +kernel
theorem dX10_shortest_78 : decode cX10_shortest 78 = .ok (.if_icmp .ge 6, 3) := by decide +kernel
theorem dX10_shortest_81 : decode cX10_shortest 81 = .ok (.iload 4, 2) := by decide +kernel
theorem dX10_shortest_83 : decode cX10_shortest 83 = .ok (.istore_n 3, 1) := by decide +kernel
theorem dX10_shortest_84 : decode cX10_shortest 84 = .ok (.iinc 4 1, 3) := by decide +kernel
theorem dX10_shortest_87 : decode cX10_shortest 87 = .ok (.goto (-52), 3) := by decide +kernel
theorem dX10_shortest_90 : decode cX10_shortest 90 = .ok (.iload_n 3, 1) := by decide +kernel
theorem dX10_shortest_91 : decode cX10_shortest 91 = .ok (.ifCond .lt 7, 3) := by decide +kernel
theorem dX10_shortest_94 : decode cX10_shortest 94 = .ok (.iload_n 2, 1) := by decide +kernel
theorem dX10_shortest_95 : decode cX10_shortest 95 = .ok (.ifCond .ne 7, 3) := by decide +kernel
theorem dX10_shortest_98 : decode cX10_shortest 98 = .ok (.iload_n 3, 1) := by decide +kernel
theorem dX10_shortest_99 : decode cX10_shortest 99 = .ok (.goto 8, 3) := by decide +kernel
theorem dX10_shortest_102 : decode cX10_shortest 102 = .ok (.aload_n 0, 1) := by decide +kernel
theorem dX10_shortest_103 : decode cX10_shortest 103 = .ok (.iload_n 3, 1) := by decide +kernel
theorem dX10_shortest_104 : decode cX10_shortest 104 = .ok (.invokevirtual 211, 3) := by decide +kernel
theorem dX10_shortest_107 : decode cX10_shortest 107 = .ok (.ireturn, 1) := by decide +kernel
theorem dX10_numberOf_0 : decode cX10_numberOf 0 = .ok (.iconst 0, 1) := by decide +kernel
theorem dX10_numberOf_1 : decode cX10_numberOf 1 = .ok (.istore_n 2, 1) := by decide +kernel
theorem dX10_numberOf_2 : decode cX10_numberOf 2 = .ok (.iload_n 2, 1) := by decide +kernel
theorem dX10_numberOf_3 : decode cX10_numberOf 3 = .ok (.aload_n 0, 1) := by decide +kernel
theorem dX10_numberOf_4 : decode cX10_numberOf 4 = .ok (.getfield 177, 3) := by decide +kernel
theorem dX10_numberOf_7 : decode cX10_numberOf 7 = .ok (.if_icmp .ge 23, 3) := by decide +kernel
theorem dX10_numberOf_10 : decode cX10_numberOf 10 = .ok (.aload_n 0, 1) := by decide +kernel
theorem dX10_numberOf_11 : decode cX10_numberOf 11 = .ok (.iload_n 2, 1) := by decide +kernel
theorem dX10_numberOf_12 : decode cX10_numberOf 12 = .ok (.invokevirtual 241, 3) := by decide +kernel
theorem dX10_numberOf_15 : decode cX10_numberOf 15 = .ok (.iload_n 1, 1) := by decide +kernel
theorem dX10_numberOf_16 : decode cX10_numberOf 16 = .ok (.invokestatic 143, 3) := by decide +kernel
theorem dX10_numberOf_19 : decode cX10_numberOf 19 = .ok (.ifCond .eq 5, 3) := by decide +kernel
theorem dX10_numberOf_22 : decode cX10_numberOf 22 = .ok (.iload_n 2, 1) := by decide +kernel
theorem dX10_numberOf_23 : decode cX10_numberOf 23 = .ok (.ireturn, 1) := by decide +kernel
theorem dX10_numberOf_24 : decode cX10_numberOf 24 = .ok (.iinc 2 1, 3) := by decide +kernel
theorem dX10_numberOf_27 : decode cX10_numberOf 27 = .ok (.goto (-25), 3) := by decide +kernel
theorem dX10_numberOf_30 : decode cX10_numberOf 30 = .ok (.iconst (-1), 1) := by decide +kernel
theorem dX10_numberOf_31 : decode cX10_numberOf 31 = .ok (.ireturn, 1) := by decide +kernel
theorem dX10_setIn_0 : decode cX10_setIn 0 = .ok (.iconst 0, 1) := by decide +kernel
theorem dX10_setIn_1 : decode cX10_setIn 1 = .ok (.istore_n 2, 1) := by decide +kernel
theorem dX10_setIn_2 : decode cX10_setIn 2 = .ok (.iconst 0, 1) := by decide +kernel
theorem dX10_setIn_3 : decode cX10_setIn 3 = .ok (.istore_n 3, 1) := by decide +kernel
theorem dX10_setIn_4 : decode cX10_setIn 4 = .ok (.iload_n 3, 1) := by decide +kernel
theorem dX10_setIn_5 : decode cX10_setIn 5 = .ok (.aload_n 0, 1) := by decide +kernel
theorem dX10_setIn_6 : decode cX10_setIn 6 = .ok (.getfield 55, 3) := by decide +kernel
theorem dX10_setIn_9 : decode cX10_setIn 9 = .ok (.iload_n 1, 1) := by decide +kernel
theorem dX10_setIn_10 : decode cX10_setIn 10 = .ok (.iaload, 1) := by decide +kernel
theorem dX10_setIn_11 : decode cX10_setIn 11 = .ok (.if_icmp .ge 25, 3) := by decide +kernel
theorem dX10_setIn_14 : decode cX10_setIn 14 = .ok (.iload_n 2, 1) := by decide +kernel
theorem dX10_setIn_15 : decode cX10_setIn 15 = .ok (.iconst 1, 1) := by decide +kernel
theorem dX10_setIn_16 : decode cX10_setIn 16 = .ok (.aload_n 0, 1) := by decide +kernel
theorem dX10_setIn_17 : decode cX10_setIn 17 = .ok (.getfield 58, 3) := by decide +kernel
theorem dX10_setIn_20 : decode cX10_setIn 20 = .ok (.bipush 6, 2) := by decide +kernel
theorem dX10_setIn_22 : decode cX10_setIn 22 = .ok (.iload_n 1, 1) := by decide +kernel
theorem dX10_setIn_23 : decode cX10_setIn 23 = .ok (.imul, 1) := by decide +kernel
theorem dX10_setIn_24 : decode cX10_setIn 24 = .ok (.iload_n 3, 1) := by decide +kernel
theorem dX10_setIn_25 : decode cX10_setIn 25 = .ok (.iadd, 1) := by decide +kernel
theorem dX10_setIn_26 : decode cX10_setIn 26 = .ok (.iaload, 1) := by decide +kernel
theorem dX10_setIn_27 : decode cX10_setIn 27 = .ok (.ishl, 1) := by decide +kernel
theorem dX10_setIn_28 : decode cX10_setIn 28 = .ok (.ior, 1) := by decide +kernel
theorem dX10_setIn_29 : decode cX10_setIn 29 = .ok (.istore_n 2, 1) := by decide +kernel
theorem dX10_setIn_30 : decode cX10_setIn 30 = .ok (.iinc 3 1, 3) := by decide +kernel
theorem dX10_setIn_33 : decode cX10_setIn 33 = .ok (.goto (-29), 3) := by decide +kernel
theorem dX10_setIn_36 : decode cX10_setIn 36 = .ok (.iload_n 2, 1) := by decide +kernel
theorem dX10_setIn_37 : decode cX10_setIn 37 = .ok (.ireturn, 1) := by decide +kernel
theorem dX10_law_0 : decode cX10_law 0 = .ok (.iload_n 1, 1) := by decide +kernel
theorem dX10_law_1 : decode cX10_law 1 = .ok (.i2l, 1) := by decide +kernel
theorem dX10_law_2 : decode cX10_law 2 = .ok (.lconst 0, 1) := by decide +kernel
theorem dX10_law_3 : decode cX10_law 3 = .ok (.ldc2_w 206, 3) := by decide +kernel
theorem dX10_law_6 : decode cX10_law 6 = .ok (.invokestatic 99, 3) := by decide +kernel
theorem dX10_law_9 : decode cX10_law 9 = .ok (.ifCond .ne 7, 3) := by decide +kernel
theorem dX10_law_12 : decode cX10_law 12 = .ok (.sipush (-1002), 3) := by decide +kernel
theorem dX10_law_15 : decode cX10_law 15 = .ok (.ireturn, 1) := by decide +kernel
theorem dX10_law_16 : decode cX10_law 16 = .ok (.iload_n 1, 1) := by decide +kernel
theorem dX10_law_17 : decode cX10_law 17 = .ok (.iconst 3, 1) := by decide +kernel
theorem dX10_law_18 : decode cX10_law 18 = .ok (.if_icmp .ge 7, 3) := by decide +kernel
theorem dX10_law_21 : decode cX10_law 21 = .ok (.iconst 1, 1) := by decide +kernel
theorem dX10_law_22 : decode cX10_law 22 = .ok (.goto 4, 3) := by decide +kernel
theorem dX10_law_25 : decode cX10_law 25 = .ok (.iconst 0, 1) := by decide +kernel
theorem dX10_law_26 : decode cX10_law 26 = .ok (.istore_n 3, 1) := by decide +kernel
theorem dX10_law_27 : decode cX10_law 27 = .ok (.iload_n 1, 1) := by decide +kernel
theorem dX10_law_28 : decode cX10_law 28 = .ok (.ifCond .eq 9, 3) := by decide +kernel
theorem dX10_law_31 : decode cX10_law 31 = .ok (.iload_n 1, 1) := by decide +kernel
theorem dX10_law_32 : decode cX10_law 32 = .ok (.bipush 7, 2) := by decide +kernel
theorem dX10_law_34 : decode cX10_law 34 = .ok (.if_icmp .ne 8, 3) := by decide +kernel
theorem dX10_law_37 : decode cX10_law 37 = .ok (.bipush 99, 2) := by decide +kernel
theorem dX10_law_39 : decode cX10_law 39 = .ok (.goto 26, 3) := by decide +kernel
theorem dX10_law_42 : decode cX10_law 42 = .ok (.iload_n 1, 1) := by decide +kernel
theorem dX10_law_43 : decode cX10_law 43 = .ok (.iconst 1, 1) := by decide +kernel
theorem dX10_law_44 : decode cX10_law 44 = .ok (.if_icmp .ne 9, 3) := by decide +kernel
theorem dX10_law_47 : decode cX10_law 47 = .ok (.sipush 200, 3) := by decide +kernel
theorem dX10_law_50 : decode cX10_law 50 = .ok (.goto 15, 3) := by decide +kernel
theorem dX10_law_53 : decode cX10_law 53 = .ok (.iload_n 1, 1) := by decide +kernel
theorem dX10_law_54 : decode cX10_law 54 = .ok (.iconst 2, 1) := by decide +kernel
theorem dX10_law_55 : decode cX10_law 55 = .ok (.if_icmp .ne 8, 3) := by decide +kernel
theorem dX10_law_58 : decode cX10_law 58 = .ok (.bipush 9, 2) := by decide +kernel
theorem dX10_law_60 : decode cX10_law 60 = .ok (.goto 5, 3) := by decide +kernel
theorem dX10_law_63 : decode cX10_law 63 = .ok (.bipush 20, 2) := by decide +kernel
theorem dX10_law_65 : decode cX10_law 65 = .ok (.istore 4, 2) := by decide +kernel
theorem dX10_law_67 : decode cX10_law 67 = .ok (.iload_n 2, 1) := by decide +kernel
theorem dX10_law_68 : decode cX10_law 68 = .ok (.i2l, 1) := by decide +kernel
theorem dX10_law_69 : decode cX10_law 69 = .ok (.iload_n 3, 1) := by decide +kernel
theorem dX10_law_70 : decode cX10_law 70 = .ok (.i2l, 1) := by decide +kernel
theorem dX10_law_71 : decode cX10_law 71 = .ok (.iload 4, 2) := by decide +kernel
theorem dX10_law_73 : decode cX10_law 73 = .ok (.i2l, 1) := by decide +kernel
theorem dX10_law_74 : decode cX10_law 74 = .ok (.invokestatic 99, 3) := by decide +kernel
theorem dX10_law_77 : decode cX10_law 77 = .ok (.ifCond .eq 32, 3) := by decide +kernel
theorem dX10_law_80 : decode cX10_law 80 = .ok (.iload_n 1, 1) := by decide +kernel
theorem dX10_law_81 : decode cX10_law 81 = .ok (.ifCond .ne 13, 3) := by decide +kernel
theorem dX10_law_84 : decode cX10_law 84 = .ok (.iload_n 2, 1) := by decide +kernel
theorem dX10_law_85 : decode cX10_law 85 = .ok (.aload_n 0, 1) := by decide +kernel
theorem dX10_law_86 : decode cX10_law 86 = .ok (.getfield 22, 3) := by decide +kernel
theorem dX10_law_89 : decode cX10_law 89 = .ok (.iconst 1, 1) := by decide +kernel
theorem dX10_law_90 : decode cX10_law 90 = .ok (.iaload, 1) := by decide +kernel
theorem dX10_law_91 : decode cX10_law 91 = .ok (.if_icmp .gt 18, 3) := by decide +kernel
theorem dX10_law_94 : decode cX10_law 94 = .ok (.iload_n 1, 1) := by decide +kernel
theorem dX10_law_95 : decode cX10_law 95 = .ok (.iconst 1, 1) := by decide +kernel
theorem dX10_law_96 : decode cX10_law 96 = .ok (.if_icmp .ne 17, 3) := by decide +kernel
theorem dX10_law_99 : decode cX10_law 99 = .ok (.iload_n 2, 1) := by decide +kernel
theorem dX10_law_100 : decode cX10_law 100 = .ok (.aload_n 0, 1) := by decide +kernel
theorem dX10_law_101 : decode cX10_law 101 = .ok (.getfield 22, 3) := by decide +kernel
theorem dX10_law_104 : decode cX10_law 104 = .ok (.iconst 0, 1) := by decide +kernel
theorem dX10_law_105 : decode cX10_law 105 = .ok (.iaload, 1) := by decide +kernel
theorem dX10_law_106 : decode cX10_law 106 = .ok (.if_icmp .ge 7, 3) := by decide +kernel
theorem dX10_law_109 : decode cX10_law 109 = .ok (.sipush (-1002), 3) := by decide +kernel
theorem dX10_law_112 : decode cX10_law 112 = .ok (.ireturn, 1) := by decide +kernel
theorem dX10_law_113 : decode cX10_law 113 = .ok (.aload_n 0, 1) := by decide +kernel
theorem dX10_law_114 : decode cX10_law 114 = .ok (.getfield 22, 3) := by decide +kernel
theorem dX10_law_117 : decode cX10_law 117 = .ok (.iload_n 1, 1) := by decide +kernel
theorem dX10_law_118 : decode cX10_law 118 = .ok (.iaload, 1) := by decide +kernel
theorem dX10_law_119 : decode cX10_law 119 = .ok (.istore 5, 2) := by decide +kernel
theorem dX10_law_121 : decode cX10_law 121 = .ok (.aload_n 0, 1) := by decide +kernel
theorem dX10_law_122 : decode cX10_law 122 = .ok (.getfield 22, 3) := by decide +kernel
theorem dX10_law_125 : decode cX10_law 125 = .ok (.iload_n 1, 1) := by decide +kernel
theorem dX10_law_126 : decode cX10_law 126 = .ok (.iload_n 2, 1) := by decide +kernel
theorem dX10_law_127 : decode cX10_law 127 = .ok (.iastore, 1) := by decide +kernel
theorem dX10_law_128 : decode cX10_law 128 = .ok (.iload 5, 2) := by decide +kernel
theorem dX10_law_130 : decode cX10_law 130 = .ok (.ireturn, 1) := by decide +kernel
theorem dX10_add_0 : decode cX10_add 0 = .ok (.aload_n 0, 1) := by decide +kernel
theorem dX10_add_1 : decode cX10_add 1 = .ok (.iload_n 1, 1) := by decide +kernel
theorem dX10_add_2 : decode cX10_add 2 = .ok (.invokevirtual 195, 3) := by decide +kernel
theorem dX10_add_5 : decode cX10_add 5 = .ok (.ifCond .eq 7, 3) := by decide +kernel
theorem dX10_add_8 : decode cX10_add 8 = .ok (.sipush (-1001), 3) := by decide +kernel
theorem dX10_add_11 : decode cX10_add 11 = .ok (.ireturn, 1) := by decide +kernel
theorem dX10_add_12 : decode cX10_add 12 = .ok (.aload_n 0, 1) := by decide +kernel
theorem dX10_add_13 : decode cX10_add 13 = .ok (.iload_n 1, 1) := by decide +kernel
theorem dX10_add_14 : decode cX10_add 14 = .ok (.aload_n 0, 1) := by decide +kernel
theorem dX10_add_15 : decode cX10_add 15 = .ok (.getfield 180, 3) := by decide +kernel
theorem dX10_add_18 : decode cX10_add 18 = .ok (.aload_n 0, 1) := by decide +kernel
theorem dX10_add_19 : decode cX10_add 19 = .ok (.getfield 186, 3) := by decide +kernel
theorem dX10_add_22 : decode cX10_add 22 = .ok (.ior, 1) := by decide +kernel
theorem dX10_add_23 : decode cX10_add 23 = .ok (.invokevirtual 223, 3) := by decide +kernel
theorem dX10_add_26 : decode cX10_add 26 = .ok (.ifCond .ne 7, 3) := by decide +kernel
theorem dX10_add_29 : decode cX10_add 29 = .ok (.sipush (-1003), 3) := by decide +kernel
theorem dX10_add_32 : decode cX10_add 32 = .ok (.ireturn, 1) := by decide +kernel
theorem dX10_add_33 : decode cX10_add 33 = .ok (.aload_n 0, 1) := by decide +kernel
theorem dX10_add_34 : decode cX10_add 34 = .ok (.getfield 183, 3) := by decide +kernel
theorem dX10_add_37 : decode cX10_add 37 = .ok (.bipush 6, 2) := by decide +kernel
theorem dX10_add_39 : decode cX10_add 39 = .ok (.if_icmp .ne 7, 3) := by decide +kernel
theorem dX10_add_42 : decode cX10_add 42 = .ok (.sipush (-1004), 3) := by decide +kernel
theorem dX10_add_45 : decode cX10_add 45 = .ok (.ireturn, 1) := by decide +kernel
theorem dX10_add_46 : decode cX10_add 46 = .ok (.aload_n 0, 1) := by decide +kernel
theorem dX10_add_47 : decode cX10_add 47 = .ok (.getfield 61, 3) := by decide +kernel
theorem dX10_add_50 : decode cX10_add 50 = .ok (.aload_n 0, 1) := by decide +kernel
theorem dX10_add_51 : decode cX10_add 51 = .ok (.getfield 183, 3) := by decide +kernel
theorem dX10_add_54 : decode cX10_add 54 = .ok (.iload_n 1, 1) := by decide +kernel
theorem dX10_add_55 : decode cX10_add 55 = .ok (.iastore, 1) := by decide +kernel
theorem dX10_add_56 : decode cX10_add 56 = .ok (.aload_n 0, 1) := by decide +kernel
theorem dX10_add_57 : decode cX10_add 57 = .ok (.dup, 1) := by decide +kernel
theorem dX10_add_58 : decode cX10_add 58 = .ok (.getfield 186, 3) := by decide +kernel
theorem dX10_add_61 : decode cX10_add 61 = .ok (.iconst 1, 1) := by decide +kernel
theorem dX10_add_62 : decode cX10_add 62 = .ok (.iload_n 1, 1) := by decide +kernel
theorem dX10_add_63 : decode cX10_add 63 = .ok (.ishl, 1) := by decide +kernel
theorem dX10_add_64 : decode cX10_add 64 = .ok (.ior, 1) := by decide +kernel
theorem dX10_add_65 : decode cX10_add 65 = .ok (.putfield 186, 3) := by decide +kernel
theorem dX10_add_68 : decode cX10_add 68 = .ok (.aload_n 0, 1) := by decide +kernel
theorem dX10_add_69 : decode cX10_add 69 = .ok (.dup, 1) := by decide +kernel
theorem dX10_add_70 : decode cX10_add 70 = .ok (.getfield 183, 3) := by decide +kernel
theorem dX10_add_73 : decode cX10_add 73 = .ok (.iconst 1, 1) := by decide +kernel
theorem dX10_add_74 : decode cX10_add 74 = .ok (.iadd, 1) := by decide +kernel
theorem dX10_add_75 : decode cX10_add 75 = .ok (.putfield 183, 3) := by decide +kernel
theorem dX10_add_78 : decode cX10_add 78 = .ok (.aload_n 0, 1) := by decide +kernel
theorem dX10_add_79 : decode cX10_add 79 = .ok (.getfield 183, 3) := by decide +kernel
theorem dX10_add_82 : decode cX10_add 82 = .ok (.ireturn, 1) := by decide +kernel
theorem dX10_drop_0 : decode cX10_drop 0 = .ok (.aload_n 0, 1) := by decide +kernel
theorem dX10_drop_1 : decode cX10_drop 1 = .ok (.getfield 183, 3) := by decide +kernel
theorem dX10_drop_4 : decode cX10_drop 4 = .ok (.ifCond .ne 5, 3) := by decide +kernel
theorem dX10_drop_7 : decode cX10_drop 7 = .ok (.iconst (-1), 1) := by decide +kernel
theorem dX10_drop_8 : decode cX10_drop 8 = .ok (.ireturn, 1) := by decide +kernel
theorem dX10_drop_9 : decode cX10_drop 9 = .ok (.aload_n 0, 1) := by decide +kernel
theorem dX10_drop_10 : decode cX10_drop 10 = .ok (.dup, 1) := by decide +kernel
theorem dX10_drop_11 : decode cX10_drop 11 = .ok (.getfield 183, 3) := by decide +kernel
theorem dX10_drop_14 : decode cX10_drop 14 = .ok (.iconst 1, 1) := by decide +kernel
theorem dX10_drop_15 : decode cX10_drop 15 = .ok (.isub, 1) := by decide +kernel
theorem dX10_drop_16 : decode cX10_drop 16 = .ok (.putfield 183, 3) := by decide +kernel
theorem dX10_drop_19 : decode cX10_drop 19 = .ok (.aload_n 0, 1) := by decide +kernel
theorem dX10_drop_20 : decode cX10_drop 20 = .ok (.getfield 61, 3) := by decide +kernel
theorem dX10_drop_23 : decode cX10_drop 23 = .ok (.aload_n 0, 1) := by decide +kernel
theorem dX10_drop_24 : decode cX10_drop 24 = .ok (.getfield 183, 3) := by decide +kernel
theorem dX10_drop_27 : decode cX10_drop 27 = .ok (.iaload, 1) := by decide +kernel
theorem dX10_drop_28 : decode cX10_drop 28 = .ok (.istore_n 1, 1) := by decide +kernel
theorem dX10_drop_29 : decode cX10_drop 29 = .ok (.aload_n 0, 1) := by decide +kernel
theorem dX10_drop_30 : decode cX10_drop 30 = .ok (.dup, 1) := by decide +kernel
theorem dX10_drop_31 : decode cX10_drop 31 = .ok (.getfield 186, 3) := by decide +kernel
theorem dX10_drop_34 : decode cX10_drop 34 = .ok (.iconst 1, 1) := by decide +kernel
theorem dX10_drop_35 : decode cX10_drop 35 = .ok (.iload_n 1, 1) := by decide +kernel
theorem dX10_drop_36 : decode cX10_drop 36 = .ok (.ishl, 1) := by decide +kernel
theorem dX10_drop_37 : decode cX10_drop 37 = .ok (.iconst (-1), 1) := by decide +kernel
theorem dX10_drop_38 : decode cX10_drop 38 = .ok (.ixor, 1) := by decide +kernel
theorem dX10_drop_39 : decode cX10_drop 39 = .ok (.iand, 1) := by decide +kernel
theorem dX10_drop_40 : decode cX10_drop 40 = .ok (.putfield 186, 3) := by decide +kernel
theorem dX10_drop_43 : decode cX10_drop 43 = .ok (.iload_n 1, 1) := by decide +kernel
theorem dX10_drop_44 : decode cX10_drop 44 = .ok (.ireturn, 1) := by decide +kernel
theorem dX10_remindedOf_0 : decode cX10_remindedOf 0 = .ok (.iconst 0, 1) := by decide +kernel
theorem dX10_remindedOf_1 : decode cX10_remindedOf 1 = .ok (.istore_n 3, 1) := by decide +kernel
theorem dX10_remindedOf_2 : decode cX10_remindedOf 2 = .ok (.iconst 0, 1) := by decide +kernel
theorem dX10_remindedOf_3 : decode cX10_remindedOf 3 = .ok (.istore 4, 2) := by decide +kernel
theorem dX10_remindedOf_5 : decode cX10_remindedOf 5 = .ok (.iconst 0, 1) := by decide +kernel
theorem dX10_remindedOf_6 : decode cX10_remindedOf 6 = .ok (.istore 5, 2) := by decide +kernel
theorem dX10_remindedOf_8 : decode cX10_remindedOf 8 = .ok (.iload 5, 2) := by decide +kernel
theorem dX10_remindedOf_10 : decode cX10_remindedOf 10 = .ok (.iload_n 2, 1) := by decide +kernel
theorem dX10_remindedOf_11 : decode cX10_remindedOf 11 = .ok (.if_icmp .ge 51, 3) := by decide +kernel
theorem dX10_remindedOf_14 : decode cX10_remindedOf 14 = .ok (.aload_n 0, 1) := by decide +kernel
theorem dX10_remindedOf_15 : decode cX10_remindedOf 15 = .ok (.aload_n 0, 1) := by decide +kernel
theorem dX10_remindedOf_16 : decode cX10_remindedOf 16 = .ok (.iload 5, 2) := by decide +kernel
theorem dX10_remindedOf_18 : decode cX10_remindedOf 18 = .ok (.invokevirtual 241, 3) := by decide +kernel
theorem dX10_remindedOf_21 : decode cX10_remindedOf 21 = .ok (.iconst 1, 1) := by decide +kernel
theorem dX10_remindedOf_22 : decode cX10_remindedOf 22 = .ok (.invokevirtual 217, 3) := by decide +kernel
theorem dX10_remindedOf_25 : decode cX10_remindedOf 25 = .ok (.istore 6, 2) := by decide +kernel
theorem dX10_remindedOf_27 : decode cX10_remindedOf 27 = .ok (.iload_n 3, 1) := by decide +kernel
theorem dX10_remindedOf_28 : decode cX10_remindedOf 28 = .ok (.iload 6, 2) := by decide +kernel
theorem dX10_remindedOf_30 : decode cX10_remindedOf 30 = .ok (.ior, 1) := by decide +kernel
theorem dX10_remindedOf_31 : decode cX10_remindedOf 31 = .ok (.istore_n 3, 1) := by decide +kernel
theorem dX10_remindedOf_32 : decode cX10_remindedOf 32 = .ok (.iload 4, 2) := by decide +kernel
theorem dX10_remindedOf_34 : decode cX10_remindedOf 34 = .ok (.iload_n 2, 1) := by decide +kernel
theorem dX10_remindedOf_35 : decode cX10_remindedOf 35 = .ok (.iload 5, 2) := by decide +kernel
theorem dX10_remindedOf_37 : decode cX10_remindedOf 37 = .ok (.isub, 1) := by decide +kernel
theorem dX10_remindedOf_38 : decode cX10_remindedOf 38 = .ok (.aload_n 0, 1) := by decide +kernel
theorem dX10_remindedOf_39 : decode cX10_remindedOf 39 = .ok (.getfield 22, 3) := by decide +kernel
theorem dX10_remindedOf_42 : decode cX10_remindedOf 42 = .ok (.iconst 2, 1) := by decide +kernel
theorem dX10_remindedOf_43 : decode cX10_remindedOf 43 = .ok (.iaload, 1) := by decide +kernel
theorem dX10_remindedOf_44 : decode cX10_remindedOf 44 = .ok (.if_icmp .gt 8, 3) := by decide +kernel
theorem dX10_remindedOf_47 : decode cX10_remindedOf 47 = .ok (.iload 6, 2) := by decide +kernel
theorem dX10_remindedOf_49 : decode cX10_remindedOf 49 = .ok (.goto 4, 3) := by decide +kernel
theorem dX10_remindedOf_52 : decode cX10_remindedOf 52 = .ok (.iconst 0, 1) := by decide +kernel
theorem dX10_remindedOf_53 : decode cX10_remindedOf 53 = .ok (.ior, 1) := by decide +kernel
theorem dX10_remindedOf_54 : decode cX10_remindedOf 54 = .ok (.istore 4, 2) := by decide +kernel
theorem dX10_remindedOf_56 : decode cX10_remindedOf 56 = .ok (.iinc 5 1, 3) := by decide +kernel
theorem dX10_remindedOf_59 : decode cX10_remindedOf 59 = .ok (.goto (-51), 3) := by decide +kernel
theorem dX10_remindedOf_62 : decode cX10_remindedOf 62 = .ok (.aload_n 0, 1) := by decide +kernel
theorem dX10_remindedOf_63 : decode cX10_remindedOf 63 = .ok (.iload_n 1, 1) := by decide +kernel
theorem dX10_remindedOf_64 : decode cX10_remindedOf 64 = .ok (.iconst 1, 1) := by decide +kernel
theorem dX10_remindedOf_65 : decode cX10_remindedOf 65 = .ok (.invokevirtual 217, 3) := by decide +kernel
theorem dX10_remindedOf_68 : decode cX10_remindedOf 68 = .ok (.iload_n 3, 1) := by decide +kernel
theorem dX10_remindedOf_69 : decode cX10_remindedOf 69 = .ok (.iand, 1) := by decide +kernel
theorem dX10_remindedOf_70 : decode cX10_remindedOf 70 = .ok (.iload 4, 2) := by decide +kernel
theorem dX10_remindedOf_72 : decode cX10_remindedOf 72 = .ok (.iconst (-1), 1) := by decide +kernel
theorem dX10_remindedOf_73 : decode cX10_remindedOf 73 = .ok (.ixor, 1) := by decide +kernel
theorem dX10_remindedOf_74 : decode cX10_remindedOf 74 = .ok (.iand, 1) := by decide +kernel
theorem dX10_remindedOf_75 : decode cX10_remindedOf 75 = .ok (.ireturn, 1) := by decide +kernel
theorem dX10_linesAs_0 : decode cX10_linesAs 0 = .ok (.aload_n 0, 1) := by decide +kernel
theorem dX10_linesAs_1 : decode cX10_linesAs 1 = .ok (.iload_n 1, 1) := by decide +kernel
theorem dX10_linesAs_2 : decode cX10_linesAs 2 = .ok (.invokevirtual 211, 3) := by decide +kernel
theorem dX10_linesAs_5 : decode cX10_linesAs 5 = .ok (.aload_n 0, 1) := by decide +kernel
theorem dX10_linesAs_6 : decode cX10_linesAs 6 = .ok (.getfield 22, 3) := by decide +kernel
theorem dX10_linesAs_9 : decode cX10_linesAs 9 = .ok (.iconst 3, 1) := by decide +kernel
theorem dX10_linesAs_10 : decode cX10_linesAs 10 = .ok (.iaload, 1) := by decide +kernel
theorem dX10_linesAs_11 : decode cX10_linesAs 11 = .ok (.aload_n 0, 1) := by decide +kernel
theorem dX10_linesAs_12 : decode cX10_linesAs 12 = .ok (.iload_n 1, 1) := by decide +kernel
theorem dX10_linesAs_13 : decode cX10_linesAs 13 = .ok (.iload_n 2, 1) := by decide +kernel
theorem dX10_linesAs_14 : decode cX10_linesAs 14 = .ok (.invokevirtual 244, 3) := by decide +kernel
theorem dX10_linesAs_17 : decode cX10_linesAs 17 = .ok (.invokestatic 208, 3) := by decide +kernel
theorem dX10_linesAs_20 : decode cX10_linesAs 20 = .ok (.imul, 1) := by decide +kernel
theorem dX10_linesAs_21 : decode cX10_linesAs 21 = .ok (.iadd, 1) := by decide +kernel
theorem dX10_linesAs_22 : decode cX10_linesAs 22 = .ok (.ireturn, 1) := by decide +kernel
theorem dX10_lines_0 : decode cX10_lines 0 = .ok (.aload_n 0, 1) := by decide +kernel
theorem dX10_lines_1 : decode cX10_lines 1 = .ok (.aload_n 0, 1) := by decide +kernel
theorem dX10_lines_2 : decode cX10_lines 2 = .ok (.getfield 186, 3) := by decide +kernel
theorem dX10_lines_5 : decode cX10_lines 5 = .ok (.aload_n 0, 1) := by decide +kernel
theorem dX10_lines_6 : decode cX10_lines 6 = .ok (.getfield 177, 3) := by decide +kernel
theorem dX10_lines_9 : decode cX10_lines 9 = .ok (.invokevirtual 247, 3) := by decide +kernel
theorem dX10_lines_12 : decode cX10_lines 12 = .ok (.ireturn, 1) := by decide +kernel
theorem dX10_print_0 : decode cX10_print 0 = .ok (.aload_n 0, 1) := by decide +kernel
theorem dX10_print_1 : decode cX10_print 1 = .ok (.getfield 183, 3) := by decide +kernel
theorem dX10_print_4 : decode cX10_print 4 = .ok (.ifCond .eq 36, 3) := by decide +kernel
theorem dX10_print_7 : decode cX10_print 7 = .ok (.aload_n 0, 1) := by decide +kernel
theorem dX10_print_8 : decode cX10_print 8 = .ok (.aload_n 0, 1) := by decide +kernel
theorem dX10_print_9 : decode cX10_print 9 = .ok (.getfield 186, 3) := by decide +kernel
theorem dX10_print_12 : decode cX10_print 12 = .ok (.aload_n 0, 1) := by decide +kernel
theorem dX10_print_13 : decode cX10_print 13 = .ok (.getfield 177, 3) := by decide +kernel
theorem dX10_print_16 : decode cX10_print 16 = .ok (.invokevirtual 247, 3) := by decide +kernel
theorem dX10_print_19 : decode cX10_print 19 = .ok (.i2l, 1) := by decide +kernel
theorem dX10_print_20 : decode cX10_print 20 = .ok (.aload_n 0, 1) := by decide +kernel
theorem dX10_print_21 : decode cX10_print 21 = .ok (.getfield 22, 3) := by decide +kernel
theorem dX10_print_24 : decode cX10_print 24 = .ok (.iconst 0, 1) := by decide +kernel
theorem dX10_print_25 : decode cX10_print 25 = .ok (.iaload, 1) := by decide +kernel
theorem dX10_print_26 : decode cX10_print 26 = .ok (.i2l, 1) := by decide +kernel
theorem dX10_print_27 : decode cX10_print 27 = .ok (.aload_n 0, 1) := by decide +kernel
theorem dX10_print_28 : decode cX10_print 28 = .ok (.getfield 22, 3) := by decide +kernel
theorem dX10_print_31 : decode cX10_print 31 = .ok (.iconst 1, 1) := by decide +kernel
theorem dX10_print_32 : decode cX10_print 32 = .ok (.iaload, 1) := by decide +kernel
theorem dX10_print_33 : decode cX10_print 33 = .ok (.i2l, 1) := by decide +kernel
theorem dX10_print_34 : decode cX10_print 34 = .ok (.invokestatic 99, 3) := by decide +kernel
theorem dX10_print_37 : decode cX10_print 37 = .ok (.ifCond .ne 7, 3) := by decide +kernel
theorem dX10_print_40 : decode cX10_print 40 = .ok (.sipush (-1003), 3) := by decide +kernel
theorem dX10_print_43 : decode cX10_print 43 = .ok (.ireturn, 1) := by decide +kernel
theorem dX10_print_44 : decode cX10_print 44 = .ok (.aload_n 0, 1) := by decide +kernel
theorem dX10_print_45 : decode cX10_print 45 = .ok (.getfield 177, 3) := by decide +kernel
theorem dX10_print_48 : decode cX10_print 48 = .ok (.bipush 12, 2) := by decide +kernel
theorem dX10_print_50 : decode cX10_print 50 = .ok (.if_icmp .ne 7, 3) := by decide +kernel
theorem dX10_print_53 : decode cX10_print 53 = .ok (.sipush (-1004), 3) := by decide +kernel
theorem dX10_print_56 : decode cX10_print 56 = .ok (.ireturn, 1) := by decide +kernel
theorem dX10_print_57 : decode cX10_print 57 = .ok (.aload_n 0, 1) := by decide +kernel
theorem dX10_print_58 : decode cX10_print 58 = .ok (.getfield 55, 3) := by decide +kernel
theorem dX10_print_61 : decode cX10_print 61 = .ok (.aload_n 0, 1) := by decide +kernel
theorem dX10_print_62 : decode cX10_print 62 = .ok (.getfield 177, 3) := by decide +kernel
theorem dX10_print_65 : decode cX10_print 65 = .ok (.aload_n 0, 1) := by decide +kernel
theorem dX10_print_66 : decode cX10_print 66 = .ok (.getfield 183, 3) := by decide +kernel
theorem dX10_print_69 : decode cX10_print 69 = .ok (.iastore, 1) := by decide +kernel
theorem dX10_print_70 : decode cX10_print 70 = .ok (.iconst 0, 1) := by decide +kernel
theorem dX10_print_71 : decode cX10_print 71 = .ok (.istore_n 1, 1) := by decide +kernel
theorem dX10_print_72 : decode cX10_print 72 = .ok (.iload_n 1, 1) := by decide +kernel
theorem dX10_print_73 : decode cX10_print 73 = .ok (.aload_n 0, 1) := by decide +kernel
theorem dX10_print_74 : decode cX10_print 74 = .ok (.getfield 183, 3) := by decide +kernel
theorem dX10_print_77 : decode cX10_print 77 = .ok (.if_icmp .ge 29, 3) := by decide +kernel
theorem dX10_print_80 : decode cX10_print 80 = .ok (.aload_n 0, 1) := by decide +kernel
theorem dX10_print_81 : decode cX10_print 81 = .ok (.getfield 58, 3) := by decide +kernel
theorem dX10_print_84 : decode cX10_print 84 = .ok (.bipush 6, 2) := by decide +kernel
theorem dX10_print_86 : decode cX10_print 86 = .ok (.aload_n 0, 1) := by decide +kernel
theorem dX10_print_87 : decode cX10_print 87 = .ok (.getfield 177, 3) := by decide +kernel
theorem dX10_print_90 : decode cX10_print 90 = .ok (.imul, 1) := by decide +kernel
theorem dX10_print_91 : decode cX10_print 91 = .ok (.iload_n 1, 1) := by decide +kernel
theorem dX10_print_92 : decode cX10_print 92 = .ok (.iadd, 1) := by decide +kernel
theorem dX10_print_93 : decode cX10_print 93 = .ok (.aload_n 0, 1) := by decide +kernel
theorem dX10_print_94 : decode cX10_print 94 = .ok (.getfield 61, 3) := by decide +kernel
theorem dX10_print_97 : decode cX10_print 97 = .ok (.iload_n 1, 1) := by decide +kernel
theorem dX10_print_98 : decode cX10_print 98 = .ok (.iaload, 1) := by decide +kernel
theorem dX10_print_99 : decode cX10_print 99 = .ok (.iastore, 1) := by decide +kernel
theorem dX10_print_100 : decode cX10_print 100 = .ok (.iinc 1 1, 3) := by decide +kernel
theorem dX10_print_103 : decode cX10_print 103 = .ok (.goto (-31), 3) := by decide +kernel
theorem dX10_print_106 : decode cX10_print 106 = .ok (.aload_n 0, 1) := by decide +kernel
theorem dX10_print_107 : decode cX10_print 107 = .ok (.dup, 1) := by decide +kernel
theorem dX10_print_108 : decode cX10_print 108 = .ok (.getfield 180, 3) := by decide +kernel
theorem dX10_print_111 : decode cX10_print 111 = .ok (.aload_n 0, 1) := by decide +kernel
theorem dX10_print_112 : decode cX10_print 112 = .ok (.getfield 186, 3) := by decide +kernel
theorem dX10_print_115 : decode cX10_print 115 = .ok (.ior, 1) := by decide +kernel
theorem dX10_print_116 : decode cX10_print 116 = .ok (.putfield 180, 3) := by decide +kernel
theorem dX10_print_119 : decode cX10_print 119 = .ok (.aload_n 0, 1) := by decide +kernel
theorem dX10_print_120 : decode cX10_print 120 = .ok (.iconst 0, 1) := by decide +kernel
theorem dX10_print_121 : decode cX10_print 121 = .ok (.putfield 183, 3) := by decide +kernel
theorem dX10_print_124 : decode cX10_print 124 = .ok (.aload_n 0, 1) := by decide +kernel
theorem dX10_print_125 : decode cX10_print 125 = .ok (.iconst 0, 1) := by decide +kernel
theorem dX10_print_126 : decode cX10_print 126 = .ok (.putfield 186, 3) := by decide +kernel
theorem dX10_print_129 : decode cX10_print 129 = .ok (.aload_n 0, 1) := by decide +kernel
theorem dX10_print_130 : decode cX10_print 130 = .ok (.dup, 1) := by decide +kernel
theorem dX10_print_131 : decode cX10_print 131 = .ok (.getfield 177, 3) := by decide +kernel
theorem dX10_print_134 : decode cX10_print 134 = .ok (.iconst 1, 1) := by decide +kernel
theorem dX10_print_135 : decode cX10_print 135 = .ok (.iadd, 1) := by decide +kernel
theorem dX10_print_136 : decode cX10_print 136 = .ok (.putfield 177, 3) := by decide +kernel
theorem dX10_print_139 : decode cX10_print 139 = .ok (.aload_n 0, 1) := by decide +kernel
theorem dX10_print_140 : decode cX10_print 140 = .ok (.getfield 177, 3) := by decide +kernel
theorem dX10_print_143 : decode cX10_print 143 = .ok (.iconst 1, 1) := by decide +kernel
theorem dX10_print_144 : decode cX10_print 144 = .ok (.isub, 1) := by decide +kernel
theorem dX10_print_145 : decode cX10_print 145 = .ok (.ireturn, 1) := by decide +kernel
theorem dX10_upTo_0 : decode cX10_upTo 0 = .ok (.iconst 0, 1) := by decide +kernel
theorem dX10_upTo_1 : decode cX10_upTo 1 = .ok (.istore_n 2, 1) := by decide +kernel
theorem dX10_upTo_2 : decode cX10_upTo 2 = .ok (.iconst 0, 1) := by decide +kernel
theorem dX10_upTo_3 : decode cX10_upTo 3 = .ok (.istore_n 3, 1) := by decide +kernel
theorem dX10_upTo_4 : decode cX10_upTo 4 = .ok (.iload_n 3, 1) := by decide +kernel
theorem dX10_upTo_5 : decode cX10_upTo 5 = .ok (.iload_n 1, 1) := by decide +kernel
theorem dX10_upTo_6 : decode cX10_upTo 6 = .ok (.if_icmp .gt 17, 3) := by decide +kernel
theorem dX10_upTo_9 : decode cX10_upTo 9 = .ok (.iload_n 2, 1) := by decide +kernel
theorem dX10_upTo_10 : decode cX10_upTo 10 = .ok (.aload_n 0, 1) := by decide +kernel
theorem dX10_upTo_11 : decode cX10_upTo 11 = .ok (.iload_n 3, 1) := by decide +kernel
theorem dX10_upTo_12 : decode cX10_upTo 12 = .ok (.invokevirtual 241, 3) := by decide +kernel
theorem dX10_upTo_15 : decode cX10_upTo 15 = .ok (.ior, 1) := by decide +kernel
theorem dX10_upTo_16 : decode cX10_upTo 16 = .ok (.istore_n 2, 1) := by decide +kernel
theorem dX10_upTo_17 : decode cX10_upTo 17 = .ok (.iinc 3 1, 3) := by decide +kernel
theorem dX10_upTo_20 : decode cX10_upTo 20 = .ok (.goto (-16), 3) := by decide +kernel
theorem dX10_upTo_23 : decode cX10_upTo 23 = .ok (.iload_n 2, 1) := by decide +kernel
theorem dX10_upTo_24 : decode cX10_upTo 24 = .ok (.ireturn, 1) := by decide +kernel
theorem dX10_joyOf_0 : decode cX10_joyOf 0 = .ok (.iconst 0, 1) := by decide +kernel
theorem dX10_joyOf_1 : decode cX10_joyOf 1 = .ok (.istore_n 2, 1) := by decide +kernel
theorem dX10_joyOf_2 : decode cX10_joyOf 2 = .ok (.iconst 0, 1) := by decide +kernel
theorem dX10_joyOf_3 : decode cX10_joyOf 3 = .ok (.istore_n 3, 1) := by decide +kernel
theorem dX10_joyOf_4 : decode cX10_joyOf 4 = .ok (.iload_n 3, 1) := by decide +kernel
theorem dX10_joyOf_5 : decode cX10_joyOf 5 = .ok (.aload_n 0, 1) := by decide +kernel
theorem dX10_joyOf_6 : decode cX10_joyOf 6 = .ok (.getfield 174, 3) := by decide +kernel
theorem dX10_joyOf_9 : decode cX10_joyOf 9 = .ok (.if_icmp .ge 30, 3) := by decide +kernel
theorem dX10_joyOf_12 : decode cX10_joyOf 12 = .ok (.iload_n 2, 1) := by decide +kernel
theorem dX10_joyOf_13 : decode cX10_joyOf 13 = .ok (.iload_n 1, 1) := by decide +kernel
theorem dX10_joyOf_14 : decode cX10_joyOf 14 = .ok (.iload_n 3, 1) := by decide +kernel
theorem dX10_joyOf_15 : decode cX10_joyOf 15 = .ok (.invokestatic 143, 3) := by decide +kernel
theorem dX10_joyOf_18 : decode cX10_joyOf 18 = .ok (.ifCond .eq 12, 3) := by decide +kernel
theorem dX10_joyOf_21 : decode cX10_joyOf 21 = .ok (.aload_n 0, 1) := by decide +kernel
theorem dX10_joyOf_22 : decode cX10_joyOf 22 = .ok (.iload_n 3, 1) := by decide +kernel
theorem dX10_joyOf_23 : decode cX10_joyOf 23 = .ok (.iconst 0, 1) := by decide +kernel
theorem dX10_joyOf_24 : decode cX10_joyOf 24 = .ok (.invokevirtual 199, 3) := by decide +kernel
theorem dX10_joyOf_27 : decode cX10_joyOf 27 = .ok (.goto 4, 3) := by decide +kernel
theorem dX10_joyOf_30 : decode cX10_joyOf 30 = .ok (.iconst 0, 1) := by decide +kernel
theorem dX10_joyOf_31 : decode cX10_joyOf 31 = .ok (.iadd, 1) := by decide +kernel
theorem dX10_joyOf_32 : decode cX10_joyOf 32 = .ok (.istore_n 2, 1) := by decide +kernel
theorem dX10_joyOf_33 : decode cX10_joyOf 33 = .ok (.iinc 3 1, 3) := by decide +kernel
theorem dX10_joyOf_36 : decode cX10_joyOf 36 = .ok (.goto (-32), 3) := by decide +kernel
theorem dX10_joyOf_39 : decode cX10_joyOf 39 = .ok (.iload_n 2, 1) := by decide +kernel
theorem dX10_joyOf_40 : decode cX10_joyOf 40 = .ok (.ireturn, 1) := by decide +kernel
theorem dX10_pullOf_0 : decode cX10_pullOf 0 = .ok (.aload_n 0, 1) := by decide +kernel
theorem dX10_pullOf_1 : decode cX10_pullOf 1 = .ok (.aload_n 0, 1) := by decide +kernel
theorem dX10_pullOf_2 : decode cX10_pullOf 2 = .ok (.iload_n 1, 1) := by decide +kernel
theorem dX10_pullOf_3 : decode cX10_pullOf 3 = .ok (.invokevirtual 250, 3) := by decide +kernel
theorem dX10_pullOf_6 : decode cX10_pullOf 6 = .ok (.invokevirtual 237, 3) := by decide +kernel
theorem dX10_pullOf_9 : decode cX10_pullOf 9 = .ok (.istore_n 2, 1) := by decide +kernel
theorem dX10_pullOf_10 : decode cX10_pullOf 10 = .ok (.aload_n 0, 1) := by decide +kernel
theorem dX10_pullOf_11 : decode cX10_pullOf 11 = .ok (.getfield 58, 3) := by decide +kernel
theorem dX10_pullOf_14 : decode cX10_pullOf 14 = .ok (.bipush 6, 2) := by decide +kernel
theorem dX10_pullOf_16 : decode cX10_pullOf 16 = .ok (.iload_n 1, 1) := by decide +kernel
theorem dX10_pullOf_17 : decode cX10_pullOf 17 = .ok (.imul, 1) := by decide +kernel
theorem dX10_pullOf_18 : decode cX10_pullOf 18 = .ok (.aload_n 0, 1) := by decide +kernel
theorem dX10_pullOf_19 : decode cX10_pullOf 19 = .ok (.getfield 55, 3) := by decide +kernel
theorem dX10_pullOf_22 : decode cX10_pullOf 22 = .ok (.iload_n 1, 1) := by decide +kernel
theorem dX10_pullOf_23 : decode cX10_pullOf 23 = .ok (.iaload, 1) := by decide +kernel
theorem dX10_pullOf_24 : decode cX10_pullOf 24 = .ok (.iadd, 1) := by decide +kernel
theorem dX10_pullOf_25 : decode cX10_pullOf 25 = .ok (.iconst 1, 1) := by decide +kernel
theorem dX10_pullOf_26 : decode cX10_pullOf 26 = .ok (.isub, 1) := by decide +kernel
theorem dX10_pullOf_27 : decode cX10_pullOf 27 = .ok (.iaload, 1) := by decide +kernel
theorem dX10_pullOf_28 : decode cX10_pullOf 28 = .ok (.istore_n 3, 1) := by decide +kernel
theorem dX10_pullOf_29 : decode cX10_pullOf 29 = .ok (.aload_n 0, 1) := by decide +kernel
theorem dX10_pullOf_30 : decode cX10_pullOf 30 = .ok (.aload_n 0, 1) := by decide +kernel
theorem dX10_pullOf_31 : decode cX10_pullOf 31 = .ok (.iload_n 1, 1) := by decide +kernel
theorem dX10_pullOf_32 : decode cX10_pullOf 32 = .ok (.invokevirtual 241, 3) := by decide +kernel
theorem dX10_pullOf_35 : decode cX10_pullOf 35 = .ok (.invokevirtual 253, 3) := by decide +kernel
theorem dX10_pullOf_38 : decode cX10_pullOf 38 = .ok (.aload_n 0, 1) := by decide +kernel
theorem dX10_pullOf_39 : decode cX10_pullOf 39 = .ok (.getfield 22, 3) := by decide +kernel
theorem dX10_pullOf_42 : decode cX10_pullOf 42 = .ok (.iconst 5, 1) := by decide +kernel
theorem dX10_pullOf_43 : decode cX10_pullOf 43 = .ok (.iaload, 1) := by decide +kernel
theorem dX10_pullOf_44 : decode cX10_pullOf 44 = .ok (.iload_n 2, 1) := by decide +kernel
theorem dX10_pullOf_45 : decode cX10_pullOf 45 = .ok (.invokestatic 208, 3) := by decide +kernel
theorem dX10_pullOf_48 : decode cX10_pullOf 48 = .ok (.imul, 1) := by decide +kernel
theorem dX10_pullOf_49 : decode cX10_pullOf 49 = .ok (.iadd, 1) := by decide +kernel
theorem dX10_pullOf_50 : decode cX10_pullOf 50 = .ok (.aload_n 0, 1) := by decide +kernel
theorem dX10_pullOf_51 : decode cX10_pullOf 51 = .ok (.iload_n 3, 1) := by decide +kernel
theorem dX10_pullOf_52 : decode cX10_pullOf 52 = .ok (.iconst 3, 1) := by decide +kernel
theorem dX10_pullOf_53 : decode cX10_pullOf 53 = .ok (.invokevirtual 199, 3) := by decide +kernel
theorem dX10_pullOf_56 : decode cX10_pullOf 56 = .ok (.iload_n 2, 1) := by decide +kernel
theorem dX10_pullOf_57 : decode cX10_pullOf 57 = .ok (.iand, 1) := by decide +kernel
theorem dX10_pullOf_58 : decode cX10_pullOf 58 = .ok (.ifCond .eq 12, 3) := by decide +kernel
theorem dX10_pullOf_61 : decode cX10_pullOf 61 = .ok (.aload_n 0, 1) := by decide +kernel
theorem dX10_pullOf_62 : decode cX10_pullOf 62 = .ok (.getfield 22, 3) := by decide +kernel
theorem dX10_pullOf_65 : decode cX10_pullOf 65 = .ok (.iconst 4, 1) := by decide +kernel
theorem dX10_pullOf_66 : decode cX10_pullOf 66 = .ok (.iaload, 1) := by decide +kernel
theorem dX10_pullOf_67 : decode cX10_pullOf 67 = .ok (.goto 4, 3) := by decide +kernel
theorem dX10_pullOf_70 : decode cX10_pullOf 70 = .ok (.iconst 0, 1) := by decide +kernel
theorem dX10_pullOf_71 : decode cX10_pullOf 71 = .ok (.iadd, 1) := by decide +kernel
theorem dX10_pullOf_72 : decode cX10_pullOf 72 = .ok (.istore 4, 2) := by decide +kernel
theorem dX10_pullOf_74 : decode cX10_pullOf 74 = .ok (.iload_n 1, 1) := by decide +kernel
theorem dX10_pullOf_75 : decode cX10_pullOf 75 = .ok (.iconst 3, 1) := by decide +kernel
theorem dX10_pullOf_76 : decode cX10_pullOf 76 = .ok (.if_icmp .le 20, 3) := by decide +kernel
theorem dX10_pullOf_79 : decode cX10_pullOf 79 = .ok (.aload_n 0, 1) := by decide +kernel
theorem dX10_pullOf_80 : decode cX10_pullOf 80 = .ok (.aload_n 0, 1) := by decide +kernel
theorem dX10_pullOf_81 : decode cX10_pullOf 81 = .ok (.iload_n 1, 1) := by decide +kernel
theorem dX10_pullOf_82 : decode cX10_pullOf 82 = .ok (.iconst 4, 1) := by decide +kernel
theorem dX10_pullOf_83 : decode cX10_pullOf 83 = .ok (.isub, 1) := by decide +kernel
theorem dX10_pullOf_84 : decode cX10_pullOf 84 = .ok (.invokevirtual 250, 3) := by decide +kernel
theorem dX10_pullOf_87 : decode cX10_pullOf 87 = .ok (.iconst 3, 1) := by decide +kernel
theorem dX10_pullOf_88 : decode cX10_pullOf 88 = .ok (.invokevirtual 217, 3) := by decide +kernel
theorem dX10_pullOf_91 : decode cX10_pullOf 91 = .ok (.iload_n 2, 1) := by decide +kernel
theorem dX10_pullOf_92 : decode cX10_pullOf 92 = .ok (.iand, 1) := by decide +kernel
theorem dX10_pullOf_93 : decode cX10_pullOf 93 = .ok (.goto 4, 3) := by decide +kernel
theorem dX10_pullOf_96 : decode cX10_pullOf 96 = .ok (.iconst 0, 1) := by decide +kernel
theorem dX10_pullOf_97 : decode cX10_pullOf 97 = .ok (.istore 5, 2) := by decide +kernel
theorem dX10_pullOf_99 : decode cX10_pullOf 99 = .ok (.iload 4, 2) := by decide +kernel
theorem dX10_pullOf_101 : decode cX10_pullOf 101 = .ok (.aload_n 0, 1) := by decide +kernel
theorem dX10_pullOf_102 : decode cX10_pullOf 102 = .ok (.getfield 22, 3) := by decide +kernel
theorem dX10_pullOf_105 : decode cX10_pullOf 105 = .ok (.bipush 6, 2) := by decide +kernel
theorem dX10_pullOf_107 : decode cX10_pullOf 107 = .ok (.iaload, 1) := by decide +kernel
theorem dX10_pullOf_108 : decode cX10_pullOf 108 = .ok (.iload 5, 2) := by decide +kernel
theorem dX10_pullOf_110 : decode cX10_pullOf 110 = .ok (.invokestatic 208, 3) := by decide +kernel
theorem dX10_pullOf_113 : decode cX10_pullOf 113 = .ok (.imul, 1) := by decide +kernel
theorem dX10_pullOf_114 : decode cX10_pullOf 114 = .ok (.isub, 1) := by decide +kernel
theorem dX10_pullOf_115 : decode cX10_pullOf 115 = .ok (.ireturn, 1) := by decide +kernel
theorem dX10_readersBehind_0 : decode cX10_readersBehind 0 = .ok (.ldc2_w 256, 3) := by decide +kernel
theorem dX10_readersBehind_3 : decode cX10_readersBehind 3 = .ok (.lstore_n 2, 1) := by decide +kernel
theorem dX10_readersBehind_4 : decode cX10_readersBehind 4 = .ok (.iconst 0, 1) := by decide +kernel
theorem dX10_readersBehind_5 : decode cX10_readersBehind 5 = .ok (.istore 4, 2) := by decide +kernel
theorem dX10_readersBehind_7 : decode cX10_readersBehind 7 = .ok (.iload 4, 2) := by decide +kernel
theorem dX10_readersBehind_9 : decode cX10_readersBehind 9 = .ok (.iload_n 1, 1) := by decide +kernel
theorem dX10_readersBehind_10 : decode cX10_readersBehind 10 = .ok (.if_icmp .gt 60, 3) := by decide +kernel
theorem dX10_readersBehind_13 : decode cX10_readersBehind 13 = .ok (.lload_n 2, 1) := by decide +kernel
theorem dX10_readersBehind_14 : decode cX10_readersBehind 14 = .ok (.bipush 100, 2) := by decide +kernel
theorem dX10_readersBehind_16 : decode cX10_readersBehind 16 = .ok (.aload_n 0, 1) := by decide +kernel
theorem dX10_readersBehind_17 : decode cX10_readersBehind 17 = .ok (.getfield 22, 3) := by decide +kernel
theorem dX10_readersBehind_20 : decode cX10_readersBehind 20 = .ok (.bipush 7, 2) := by decide +kernel
theorem dX10_readersBehind_22 : decode cX10_readersBehind 22 = .ok (.iaload, 1) := by decide +kernel
theorem dX10_readersBehind_23 : decode cX10_readersBehind 23 = .ok (.isub, 1) := by decide +kernel
theorem dX10_readersBehind_24 : decode cX10_readersBehind 24 = .ok (.aload_n 0, 1) := by decide +kernel
theorem dX10_readersBehind_25 : decode cX10_readersBehind 25 = .ok (.iload 4, 2) := by decide +kernel
theorem dX10_readersBehind_27 : decode cX10_readersBehind 27 = .ok (.invokevirtual 258, 3) := by decide +kernel
theorem dX10_readersBehind_30 : decode cX10_readersBehind 30 = .ok (.iadd, 1) := by decide +kernel
theorem dX10_readersBehind_31 : decode cX10_readersBehind 31 = .ok (.i2l, 1) := by decide +kernel
