theorem dX9_chapter_76 : decode cX9_chapter 76 = .ok (.iload_n 1, 1) := by decide +kernel
theorem dX9_chapter_77 : decode cX9_chapter 77 = .ok (.iload_n 2, 1) := by decide +kernel
theorem dX9_chapter_78 : decode cX9_chapter 78 = .ok (.invokevirtual 279, 3) := by decide +kernel
theorem dX9_chapter_81 : decode cX9_chapter 81 = .ok (.ireturn, 1) := by decide +kernel
theorem dX9_keep_0 : decode cX9_keep 0 = .ok (.iload_n 1, 1) := by decide +kernel
theorem dX9_keep_1 : decode cX9_keep 1 = .ok (.ifCond .lt 8, 3) := by decide +kernel
theorem dX9_keep_4 : decode cX9_keep 4 = .ok (.iload_n 1, 1) := by decide +kernel
theorem dX9_keep_5 : decode cX9_keep 5 = .ok (.iconst 2, 1) := by decide +kernel
theorem dX9_keep_6 : decode cX9_keep 6 = .ok (.if_icmp .lt 7, 3) := by decide +kernel
theorem dX9_keep_9 : decode cX9_keep 9 = .ok (.sipush (-1001), 3) := by decide +kernel
theorem dX9_keep_12 : decode cX9_keep 12 = .ok (.ireturn, 1) := by decide +kernel
theorem dX9_keep_13 : decode cX9_keep 13 = .ok (.aload_n 0, 1) := by decide +kernel
theorem dX9_keep_14 : decode cX9_keep 14 = .ok (.getfield 76, 3) := by decide +kernel
theorem dX9_keep_17 : decode cX9_keep 17 = .ok (.iload_n 1, 1) := by decide +kernel
theorem dX9_keep_18 : decode cX9_keep 18 = .ok (.aaload, 1) := by decide +kernel
theorem dX9_keep_19 : decode cX9_keep 19 = .ok (.aload_n 0, 1) := by decide +kernel
theorem dX9_keep_20 : decode cX9_keep 20 = .ok (.getfield 56, 3) := by decide +kernel
theorem dX9_keep_23 : decode cX9_keep 23 = .ok (.invokevirtual 282, 3) := by decide +kernel
theorem dX9_keep_26 : decode cX9_keep 26 = .ok (.aload_n 0, 1) := by decide +kernel
theorem dX9_keep_27 : decode cX9_keep 27 = .ok (.getfield 80, 3) := by decide +kernel
theorem dX9_keep_30 : decode cX9_keep 30 = .ok (.iload_n 1, 1) := by decide +kernel
theorem dX9_keep_31 : decode cX9_keep 31 = .ok (.iconst 1, 1) := by decide +kernel
theorem dX9_keep_32 : decode cX9_keep 32 = .ok (.bastore, 1) := by decide +kernel
theorem dX9_keep_33 : decode cX9_keep 33 = .ok (.iconst 1, 1) := by decide +kernel
theorem dX9_keep_34 : decode cX9_keep 34 = .ok (.ireturn, 1) := by decide +kernel
theorem dX9_goBack_0 : decode cX9_goBack 0 = .ok (.iload_n 1, 1) := by decide +kernel
theorem dX9_goBack_1 : decode cX9_goBack 1 = .ok (.ifCond .lt 8, 3) := by decide +kernel
theorem dX9_goBack_4 : decode cX9_goBack 4 = .ok (.iload_n 1, 1) := by decide +kernel
theorem dX9_goBack_5 : decode cX9_goBack 5 = .ok (.iconst 2, 1) := by decide +kernel
theorem dX9_goBack_6 : decode cX9_goBack 6 = .ok (.if_icmp .lt 7, 3) := by decide +kernel
theorem dX9_goBack_9 : decode cX9_goBack 9 = .ok (.sipush (-1001), 3) := by decide +kernel
theorem dX9_goBack_12 : decode cX9_goBack 12 = .ok (.ireturn, 1) := by decide +kernel
theorem dX9_goBack_13 : decode cX9_goBack 13 = .ok (.aload_n 0, 1) := by decide +kernel
theorem dX9_goBack_14 : decode cX9_goBack 14 = .ok (.getfield 80, 3) := by decide +kernel
theorem dX9_goBack_17 : decode cX9_goBack 17 = .ok (.iload_n 1, 1) := by decide +kernel
theorem dX9_goBack_18 : decode cX9_goBack 18 = .ok (.baload, 1) := by decide +kernel
theorem dX9_goBack_19 : decode cX9_goBack 19 = .ok (.ifCond .ne 7, 3) := by decide +kernel
theorem dX9_goBack_22 : decode cX9_goBack 22 = .ok (.sipush (-1003), 3) := by decide +kernel
theorem dX9_goBack_25 : decode cX9_goBack 25 = .ok (.ireturn, 1) := by decide +kernel
theorem dX9_goBack_26 : decode cX9_goBack 26 = .ok (.aload_n 0, 1) := by decide +kernel
theorem dX9_goBack_27 : decode cX9_goBack 27 = .ok (.getfield 56, 3) := by decide +kernel
theorem dX9_goBack_30 : decode cX9_goBack 30 = .ok (.aload_n 0, 1) := by decide +kernel
theorem dX9_goBack_31 : decode cX9_goBack 31 = .ok (.getfield 76, 3) := by decide +kernel
theorem dX9_goBack_34 : decode cX9_goBack 34 = .ok (.iload_n 1, 1) := by decide +kernel
theorem dX9_goBack_35 : decode cX9_goBack 35 = .ok (.aaload, 1) := by decide +kernel
theorem dX9_goBack_36 : decode cX9_goBack 36 = .ok (.invokevirtual 282, 3) := by decide +kernel
theorem dX9_goBack_39 : decode cX9_goBack 39 = .ok (.aload_n 0, 1) := by decide +kernel
theorem dX9_goBack_40 : decode cX9_goBack 40 = .ok (.invokevirtual 106, 3) := by decide +kernel
theorem dX9_goBack_43 : decode cX9_goBack 43 = .ok (.iconst 1, 1) := by decide +kernel
theorem dX9_goBack_44 : decode cX9_goBack 44 = .ok (.ireturn, 1) := by decide +kernel
theorem dX9_isScene_0 : decode cX9_isScene 0 = .ok (.iload_n 1, 1) := by decide +kernel
theorem dX9_isScene_1 : decode cX9_isScene 1 = .ok (.ifCond .lt 18, 3) := by decide +kernel
theorem dX9_isScene_4 : decode cX9_isScene 4 = .ok (.iload_n 1, 1) := by decide +kernel
theorem dX9_isScene_5 : decode cX9_isScene 5 = .ok (.aload_n 0, 1) := by decide +kernel
theorem dX9_isScene_6 : decode cX9_isScene 6 = .ok (.getfield 28, 3) := by decide +kernel
theorem dX9_isScene_9 : decode cX9_isScene 9 = .ok (.getfield 109, 3) := by decide +kernel
theorem dX9_isScene_12 : decode cX9_isScene 12 = .ok (.if_icmp .ge 7, 3) := by decide +kernel
theorem dX9_isScene_15 : decode cX9_isScene 15 = .ok (.iconst 1, 1) := by decide +kernel
theorem dX9_isScene_16 : decode cX9_isScene 16 = .ok (.goto 4, 3) := by decide +kernel
theorem dX9_isScene_19 : decode cX9_isScene 19 = .ok (.iconst 0, 1) := by decide +kernel
theorem dX9_isScene_20 : decode cX9_isScene 20 = .ok (.ireturn, 1) := by decide +kernel
theorem dX9_areScenes_0 : decode cX9_areScenes 0 = .ok (.iload_n 1, 1) := by decide +kernel
theorem dX9_areScenes_1 : decode cX9_areScenes 1 = .ok (.aload_n 0, 1) := by decide +kernel
theorem dX9_areScenes_2 : decode cX9_areScenes 2 = .ok (.getfield 28, 3) := by decide +kernel
theorem dX9_areScenes_5 : decode cX9_areScenes 5 = .ok (.invokevirtual 145, 3) := by decide +kernel
theorem dX9_areScenes_8 : decode cX9_areScenes 8 = .ok (.iconst (-1), 1) := by decide +kernel
theorem dX9_areScenes_9 : decode cX9_areScenes 9 = .ok (.ixor, 1) := by decide +kernel
theorem dX9_areScenes_10 : decode cX9_areScenes 10 = .ok (.iand, 1) := by decide +kernel
theorem dX9_areScenes_11 : decode cX9_areScenes 11 = .ok (.ifCond .ne 7, 3) := by decide +kernel
theorem dX9_areScenes_14 : decode cX9_areScenes 14 = .ok (.iconst 1, 1) := by decide +kernel
theorem dX9_areScenes_15 : decode cX9_areScenes 15 = .ok (.goto 4, 3) := by decide +kernel
theorem dX9_areScenes_18 : decode cX9_areScenes 18 = .ok (.iconst 0, 1) := by decide +kernel
theorem dX9_areScenes_19 : decode cX9_areScenes 19 = .ok (.ireturn, 1) := by decide +kernel
theorem dX9_freshSets_0 : decode cX9_freshSets 0 = .ok (.aload_n 0, 1) := by decide +kernel
theorem dX9_freshSets_1 : decode cX9_freshSets 1 = .ok (.getfield 49, 3) := by decide +kernel
theorem dX9_freshSets_4 : decode cX9_freshSets 4 = .ok (.getfield 102, 3) := by decide +kernel
theorem dX9_freshSets_7 : decode cX9_freshSets 7 = .ok (.ifCond .ne 10, 3) := by decide +kernel
theorem dX9_freshSets_10 : decode cX9_freshSets 10 = .ok (.aload_n 0, 1) := by decide +kernel
theorem dX9_freshSets_11 : decode cX9_freshSets 11 = .ok (.getfield 49, 3) := by decide +kernel
theorem dX9_freshSets_14 : decode cX9_freshSets 14 = .ok (.invokevirtual 285, 3) := by decide +kernel
theorem dX9_freshSets_17 : decode cX9_freshSets 17 = .ok (.aload_n 0, 1) := by decide +kernel
theorem dX9_freshSets_18 : decode cX9_freshSets 18 = .ok (.getfield 49, 3) := by decide +kernel
theorem dX9_freshSets_21 : decode cX9_freshSets 21 = .ok (.areturn, 1) := by decide +kernel
theorem dX9_freshPlans_0 : decode cX9_freshPlans 0 = .ok (.aload_n 0, 1) := by decide +kernel
theorem dX9_freshPlans_1 : decode cX9_freshPlans 1 = .ok (.invokevirtual 168, 3) := by decide +kernel
theorem dX9_freshPlans_4 : decode cX9_freshPlans 4 = .ok (.astore_n 1, 1) := by decide +kernel
theorem dX9_freshPlans_5 : decode cX9_freshPlans 5 = .ok (.aload_n 0, 1) := by decide +kernel
theorem dX9_freshPlans_6 : decode cX9_freshPlans 6 = .ok (.getfield 288, 3) := by decide +kernel
theorem dX9_freshPlans_9 : decode cX9_freshPlans 9 = .ok (.ifnonnull 23, 3) := by decide +kernel
theorem dX9_freshPlans_12 : decode cX9_freshPlans 12 = .ok (.aload_n 0, 1) := by decide +kernel
theorem dX9_freshPlans_13 : decode cX9_freshPlans 13 = .ok (.new 251, 3) := by decide +kernel
theorem dX9_freshPlans_16 : decode cX9_freshPlans 16 = .ok (.dup, 1) := by decide +kernel
theorem dX9_freshPlans_17 : decode cX9_freshPlans 17 = .ok (.aload_n 0, 1) := by decide +kernel
theorem dX9_freshPlans_18 : decode cX9_freshPlans 18 = .ok (.getfield 28, 3) := by decide +kernel
theorem dX9_freshPlans_21 : decode cX9_freshPlans 21 = .ok (.aload_n 1, 1) := by decide +kernel
theorem dX9_freshPlans_22 : decode cX9_freshPlans 22 = .ok (.aload_n 0, 1) := by decide +kernel
theorem dX9_freshPlans_23 : decode cX9_freshPlans 23 = .ok (.getfield 56, 3) := by decide +kernel
theorem dX9_freshPlans_26 : decode cX9_freshPlans 26 = .ok (.invokespecial 292, 3) := by decide +kernel
theorem dX9_freshPlans_29 : decode cX9_freshPlans 29 = .ok (.putfield 288, 3) := by decide +kernel
theorem dX9_freshPlans_32 : decode cX9_freshPlans 32 = .ok (.aload_n 0, 1) := by decide +kernel
theorem dX9_freshPlans_33 : decode cX9_freshPlans 33 = .ok (.getfield 288, 3) := by decide +kernel
theorem dX9_freshPlans_36 : decode cX9_freshPlans 36 = .ok (.areturn, 1) := by decide +kernel
theorem dX9_forgetPlans_0 : decode cX9_forgetPlans 0 = .ok (.aload_n 0, 1) := by decide +kernel
theorem dX9_forgetPlans_1 : decode cX9_forgetPlans 1 = .ok (.getfield 288, 3) := by decide +kernel
theorem dX9_forgetPlans_4 : decode cX9_forgetPlans 4 = .ok (.ifnull 10, 3) := by decide +kernel
theorem dX9_forgetPlans_7 : decode cX9_forgetPlans 7 = .ok (.aload_n 0, 1) := by decide +kernel
theorem dX9_forgetPlans_8 : decode cX9_forgetPlans 8 = .ok (.getfield 288, 3) := by decide +kernel
theorem dX9_forgetPlans_11 : decode cX9_forgetPlans 11 = .ok (.invokevirtual 295, 3) := by decide +kernel
theorem dX9_forgetPlans_14 : decode cX9_forgetPlans 14 = .ok (.return_, 1) := by decide +kernel
theorem dX10_init_0 : decode cX10_init 0 = .ok (.aload_n 0, 1) := by decide +kernel
theorem dX10_init_1 : decode cX10_init 1 = .ok (.invokespecial 1, 3) := by decide +kernel
theorem dX10_init_4 : decode cX10_init 4 = .ok (.aload_n 0, 1) := by decide +kernel
theorem dX10_init_5 : decode cX10_init 5 = .ok (.bipush 10, 2) := by decide +kernel
theorem dX10_init_7 : decode cX10_init 7 = .ok (.newarray .int, 2) := by decide +kernel
theorem dX10_init_9 : decode cX10_init 9 = .ok (.putfield 7, 3) := by decide +kernel
theorem dX10_init_12 : decode cX10_init 12 = .ok (.aload_n 0, 1) := by decide +kernel
theorem dX10_init_13 : decode cX10_init 13 = .ok (.bipush 10, 2) := by decide +kernel
theorem dX10_init_15 : decode cX10_init 15 = .ok (.newarray .int, 2) := by decide +kernel
theorem dX10_init_17 : decode cX10_init 17 = .ok (.putfield 13, 3) := by decide +kernel
theorem dX10_init_20 : decode cX10_init 20 = .ok (.aload_n 0, 1) := by decide +kernel
theorem dX10_init_21 : decode cX10_init 21 = .ok (.bipush 80, 2) := by decide +kernel
theorem dX10_init_23 : decode cX10_init 23 = .ok (.newarray .int, 2) := by decide +kernel
theorem dX10_init_25 : decode cX10_init 25 = .ok (.putfield 16, 3) := by decide +kernel
theorem dX10_init_28 : decode cX10_init 28 = .ok (.aload_n 0, 1) := by decide +kernel
theorem dX10_init_29 : decode cX10_init 29 = .ok (.bipush 8, 2) := by decide +kernel
theorem dX10_init_31 : decode cX10_init 31 = .ok (.newarray .int, 2) := by decide +kernel
theorem dX10_init_33 : decode cX10_init 33 = .ok (.putfield 19, 3) := by decide +kernel
theorem dX10_init_36 : decode cX10_init 36 = .ok (.aload_n 0, 1) := by decide +kernel
theorem dX10_init_37 : decode cX10_init 37 = .ok (.bipush 8, 2) := by decide +kernel
theorem dX10_init_39 : decode cX10_init 39 = .ok (.newarray .int, 2) := by decide +kernel
theorem dX10_init_41 : decode cX10_init 41 = .ok (.putfield 22, 3) := by decide +kernel
theorem dX10_init_44 : decode cX10_init 44 = .ok (.aload_n 0, 1) := by decide +kernel
theorem dX10_init_45 : decode cX10_init 45 = .ok (.sipush 400, 3) := by decide +kernel
theorem dX10_init_48 : decode cX10_init 48 = .ok (.newarray .int, 2) := by decide +kernel
theorem dX10_init_50 : decode cX10_init 50 = .ok (.putfield 25, 3) := by decide +kernel
theorem dX10_init_53 : decode cX10_init 53 = .ok (.aload_n 0, 1) := by decide +kernel
theorem dX10_init_54 : decode cX10_init 54 = .ok (.iconst (-1), 1) := by decide +kernel
theorem dX10_init_55 : decode cX10_init 55 = .ok (.putfield 28, 3) := by decide +kernel
theorem dX10_init_58 : decode cX10_init 58 = .ok (.aload_n 0, 1) := by decide +kernel
theorem dX10_init_59 : decode cX10_init 59 = .ok (.bipush 10, 2) := by decide +kernel
theorem dX10_init_61 : decode cX10_init 61 = .ok (.newarray .int, 2) := by decide +kernel
theorem dX10_init_63 : decode cX10_init 63 = .ok (.putfield 32, 3) := by decide +kernel
theorem dX10_init_66 : decode cX10_init 66 = .ok (.aload_n 0, 1) := by decide +kernel
theorem dX10_init_67 : decode cX10_init 67 = .ok (.bipush 10, 2) := by decide +kernel
theorem dX10_init_69 : decode cX10_init 69 = .ok (.newarray .int, 2) := by decide +kernel
theorem dX10_init_71 : decode cX10_init 71 = .ok (.putfield 35, 3) := by decide +kernel
theorem dX10_init_74 : decode cX10_init 74 = .ok (.aload_n 0, 1) := by decide +kernel
theorem dX10_init_75 : decode cX10_init 75 = .ok (.bipush 80, 2) := by decide +kernel
theorem dX10_init_77 : decode cX10_init 77 = .ok (.newarray .int, 2) := by decide +kernel
theorem dX10_init_79 : decode cX10_init 79 = .ok (.putfield 38, 3) := by decide +kernel
theorem dX10_init_82 : decode cX10_init 82 = .ok (.aload_n 0, 1) := by decide +kernel
theorem dX10_init_83 : decode cX10_init 83 = .ok (.sipush 1024, 3) := by decide +kernel
theorem dX10_init_86 : decode cX10_init 86 = .ok (.newarray .long, 2) := by decide +kernel
theorem dX10_init_88 : decode cX10_init 88 = .ok (.putfield 41, 3) := by decide +kernel
theorem dX10_init_91 : decode cX10_init 91 = .ok (.aload_n 0, 1) := by decide +kernel
theorem dX10_init_92 : decode cX10_init 92 = .ok (.sipush 1024, 3) := by decide +kernel
theorem dX10_init_95 : decode cX10_init 95 = .ok (.newarray .boolean, 2) := by decide +kernel
theorem dX10_init_97 : decode cX10_init 97 = .ok (.putfield 45, 3) := by decide +kernel
theorem dX10_init_100 : decode cX10_init 100 = .ok (.aload_n 0, 1) := by decide +kernel
theorem dX10_init_101 : decode cX10_init 101 = .ok (.sipush 1024, 3) := by decide +kernel
theorem dX10_init_104 : decode cX10_init 104 = .ok (.newarray .int, 2) := by decide +kernel
theorem dX10_init_106 : decode cX10_init 106 = .ok (.putfield 49, 3) := by decide +kernel
theorem dX10_init_109 : decode cX10_init 109 = .ok (.aload_n 0, 1) := by decide +kernel
theorem dX10_init_110 : decode cX10_init 110 = .ok (.sipush 1024, 3) := by decide +kernel
theorem dX10_init_113 : decode cX10_init 113 = .ok (.newarray .int, 2) := by decide +kernel
theorem dX10_init_115 : decode cX10_init 115 = .ok (.putfield 52, 3) := by decide +kernel
theorem dX10_init_118 : decode cX10_init 118 = .ok (.aload_n 0, 1) := by decide +kernel
theorem dX10_init_119 : decode cX10_init 119 = .ok (.bipush 12, 2) := by decide +kernel
theorem dX10_init_121 : decode cX10_init 121 = .ok (.newarray .int, 2) := by decide +kernel
theorem dX10_init_123 : decode cX10_init 123 = .ok (.putfield 55, 3) := by decide +kernel
theorem dX10_init_126 : decode cX10_init 126 = .ok (.aload_n 0, 1) := by decide +kernel
theorem dX10_init_127 : decode cX10_init 127 = .ok (.bipush 72, 2) := by decide +kernel
theorem dX10_init_129 : decode cX10_init 129 = .ok (.newarray .int, 2) := by decide +kernel
theorem dX10_init_131 : decode cX10_init 131 = .ok (.putfield 58, 3) := by decide +kernel
theorem dX10_init_134 : decode cX10_init 134 = .ok (.aload_n 0, 1) := by decide +kernel
theorem dX10_init_135 : decode cX10_init 135 = .ok (.bipush 6, 2) := by decide +kernel
theorem dX10_init_137 : decode cX10_init 137 = .ok (.newarray .int, 2) := by decide +kernel
theorem dX10_init_139 : decode cX10_init 139 = .ok (.putfield 61, 3) := by decide +kernel
theorem dX10_init_142 : decode cX10_init 142 = .ok (.aload_n 0, 1) := by decide +kernel
theorem dX10_init_143 : decode cX10_init 143 = .ok (.sipush 1024, 3) := by decide +kernel
theorem dX10_init_146 : decode cX10_init 146 = .ok (.newarray .boolean, 2) := by decide +kernel
theorem dX10_init_148 : decode cX10_init 148 = .ok (.putfield 64, 3) := by decide +kernel
theorem dX10_init_151 : decode cX10_init 151 = .ok (.aload_n 0, 1) := by decide +kernel
theorem dX10_init_152 : decode cX10_init 152 = .ok (.sipush 1024, 3) := by decide +kernel
theorem dX10_init_155 : decode cX10_init 155 = .ok (.newarray .int, 2) := by decide +kernel
theorem dX10_init_157 : decode cX10_init 157 = .ok (.putfield 67, 3) := by decide +kernel
theorem dX10_init_160 : decode cX10_init 160 = .ok (.aload_n 0, 1) := by decide +kernel
theorem dX10_init_161 : decode cX10_init 161 = .ok (.sipush 13312, 3) := by decide +kernel
theorem dX10_init_164 : decode cX10_init 164 = .ok (.newarray .int, 2) := by decide +kernel
theorem dX10_init_166 : decode cX10_init 166 = .ok (.putfield 70, 3) := by decide +kernel
theorem dX10_init_169 : decode cX10_init 169 = .ok (.aload_n 0, 1) := by decide +kernel
theorem dX10_init_170 : decode cX10_init 170 = .ok (.sipush 13312, 3) := by decide +kernel
theorem dX10_init_173 : decode cX10_init 173 = .ok (.newarray .int, 2) := by decide +kernel
theorem dX10_init_175 : decode cX10_init 175 = .ok (.putfield 73, 3) := by decide +kernel
theorem dX10_init_178 : decode cX10_init 178 = .ok (.aload_n 0, 1) := by decide +kernel
theorem dX10_init_179 : decode cX10_init 179 = .ok (.sipush 13312, 3) := by decide +kernel
theorem dX10_init_182 : decode cX10_init 182 = .ok (.newarray .int, 2) := by decide +kernel
theorem dX10_init_184 : decode cX10_init 184 = .ok (.putfield 76, 3) := by decide +kernel
theorem dX10_init_187 : decode cX10_init 187 = .ok (.aload_n 0, 1) := by decide +kernel
theorem dX10_init_188 : decode cX10_init 188 = .ok (.bipush 10, 2) := by decide +kernel
theorem dX10_init_190 : decode cX10_init 190 = .ok (.newarray .int, 2) := by decide +kernel
theorem dX10_init_192 : decode cX10_init 192 = .ok (.putfield 79, 3) := by decide +kernel
theorem dX10_init_195 : decode cX10_init 195 = .ok (.aload_n 0, 1) := by decide +kernel
theorem dX10_init_196 : decode cX10_init 196 = .ok (.bipush 99, 2) := by decide +kernel
theorem dX10_init_198 : decode cX10_init 198 = .ok (.newarray .int, 2) := by decide +kernel
theorem dX10_init_200 : decode cX10_init 200 = .ok (.putfield 82, 3) := by decide +kernel
theorem dX10_init_203 : decode cX10_init 203 = .ok (.aload_n 0, 1) := by decide +kernel
theorem dX10_init_204 : decode cX10_init 204 = .ok (.bipush 99, 2) := by decide +kernel
theorem dX10_init_206 : decode cX10_init 206 = .ok (.newarray .int, 2) := by decide +kernel
theorem dX10_init_208 : decode cX10_init 208 = .ok (.putfield 85, 3) := by decide +kernel
theorem dX10_init_211 : decode cX10_init 211 = .ok (.aload_n 0, 1) := by decide +kernel
theorem dX10_init_212 : decode cX10_init 212 = .ok (.sipush 220, 3) := by decide +kernel
theorem dX10_init_215 : decode cX10_init 215 = .ok (.newarray .int, 2) := by decide +kernel
theorem dX10_init_217 : decode cX10_init 217 = .ok (.putfield 88, 3) := by decide +kernel
theorem dX10_init_220 : decode cX10_init 220 = .ok (.aload_n 0, 1) := by decide +kernel
theorem dX10_init_221 : decode cX10_init 221 = .ok (.iconst 2, 1) := by decide +kernel
theorem dX10_init_222 : decode cX10_init 222 = .ok (.newarray .int, 2) := by decide +kernel
theorem dX10_init_224 : decode cX10_init 224 = .ok (.putfield 91, 3) := by decide +kernel
theorem dX10_init_227 : decode cX10_init 227 = .ok (.aload_n 0, 1) := by decide +kernel
theorem dX10_init_228 : decode cX10_init 228 = .ok (.iconst 2, 1) := by decide +kernel
theorem dX10_init_229 : decode cX10_init 229 = .ok (.newarray .boolean, 2) := by decide +kernel
theorem dX10_init_231 : decode cX10_init 231 = .ok (.putfield 94, 3) := by decide +kernel
theorem dX10_init_234 : decode cX10_init 234 = .ok (.aload_n 0, 1) := by decide +kernel
theorem dX10_init_235 : decode cX10_init 235 = .ok (.getfield 22, 3) := by decide +kernel
theorem dX10_init_238 : decode cX10_init 238 = .ok (.iconst 0, 1) := by decide +kernel
theorem dX10_init_239 : decode cX10_init 239 = .ok (.iconst 1, 1) := by decide +kernel
theorem dX10_init_240 : decode cX10_init 240 = .ok (.iastore, 1) := by decide +kernel
theorem dX10_init_241 : decode cX10_init 241 = .ok (.aload_n 0, 1) := by decide +kernel
theorem dX10_init_242 : decode cX10_init 242 = .ok (.getfield 22, 3) := by decide +kernel
theorem dX10_init_245 : decode cX10_init 245 = .ok (.iconst 1, 1) := by decide +kernel
theorem dX10_init_246 : decode cX10_init 246 = .ok (.bipush 60, 2) := by decide +kernel
theorem dX10_init_248 : decode cX10_init 248 = .ok (.iastore, 1) := by decide +kernel
theorem dX10_init_249 : decode cX10_init 249 = .ok (.aload_n 0, 1) := by decide +kernel
theorem dX10_init_250 : decode cX10_init 250 = .ok (.getfield 22, 3) := by decide +kernel
theorem dX10_init_253 : decode cX10_init 253 = .ok (.iconst 2, 1) := by decide +kernel
theorem dX10_init_254 : decode cX10_init 254 = .ok (.iconst 2, 1) := by decide +kernel
theorem dX10_init_255 : decode cX10_init 255 = .ok (.iastore, 1) := by decide +kernel
theorem dX10_init_256 : decode cX10_init 256 = .ok (.aload_n 0, 1) := by decide +kernel
theorem dX10_init_257 : decode cX10_init 257 = .ok (.getfield 22, 3) := by decide +kernel
theorem dX10_init_260 : decode cX10_init 260 = .ok (.iconst 3, 1) := by decide +kernel
theorem dX10_init_261 : decode cX10_init 261 = .ok (.iconst 3, 1) := by decide +kernel
theorem dX10_init_262 : decode cX10_init 262 = .ok (.iastore, 1) := by decide +kernel
theorem dX10_init_263 : decode cX10_init 263 = .ok (.aload_n 0, 1) := by decide +kernel
theorem dX10_init_264 : decode cX10_init 264 = .ok (.getfield 22, 3) := by decide +kernel
theorem dX10_init_267 : decode cX10_init 267 = .ok (.iconst 4, 1) := by decide +kernel
theorem dX10_init_268 : decode cX10_init 268 = .ok (.iconst 4, 1) := by decide +kernel
theorem dX10_init_269 : decode cX10_init 269 = .ok (.iastore, 1) := by decide +kernel
theorem dX10_init_270 : decode cX10_init 270 = .ok (.aload_n 0, 1) := by decide +kernel
theorem dX10_init_271 : decode cX10_init 271 = .ok (.getfield 22, 3) := by decide +kernel
theorem dX10_init_274 : decode cX10_init 274 = .ok (.iconst 5, 1) := by decide +kernel
theorem dX10_init_275 : decode cX10_init 275 = .ok (.iconst 2, 1) := by decide +kernel
theorem dX10_init_276 : decode cX10_init 276 = .ok (.iastore, 1) := by decide +kernel
theorem dX10_init_277 : decode cX10_init 277 = .ok (.aload_n 0, 1) := by decide +kernel
theorem dX10_init_278 : decode cX10_init 278 = .ok (.getfield 22, 3) := by decide +kernel
theorem dX10_init_281 : decode cX10_init 281 = .ok (.bipush 6, 2) := by decide +kernel
theorem dX10_init_283 : decode cX10_init 283 = .ok (.iconst 1, 1) := by decide +kernel
theorem dX10_init_284 : decode cX10_init 284 = .ok (.iastore, 1) := by decide +kernel
theorem dX10_init_285 : decode cX10_init 285 = .ok (.aload_n 0, 1) := by decide +kernel
theorem dX10_init_286 : decode cX10_init 286 = .ok (.getfield 22, 3) := by decide +kernel
theorem dX10_init_289 : decode cX10_init 289 = .ok (.bipush 7, 2) := by decide +kernel
theorem dX10_init_291 : decode cX10_init 291 = .ok (.bipush 8, 2) := by decide +kernel
theorem dX10_init_293 : decode cX10_init 293 = .ok (.iastore, 1) := by decide +kernel
theorem dX10_init_294 : decode cX10_init 294 = .ok (.return_, 1) := by decide +kernel
theorem dX10_in_0 : decode cX10_in 0 = .ok (.lload_n 0, 1) := by decide +kernel
theorem dX10_in_1 : decode cX10_in 1 = .ok (.lload_n 2, 1) := by decide +kernel
theorem dX10_in_2 : decode cX10_in 2 = .ok (.lcmp, 1) := by decide +kernel
theorem dX10_in_3 : decode cX10_in 3 = .ok (.ifCond .lt 14, 3) := by decide +kernel
theorem dX10_in_6 : decode cX10_in 6 = .ok (.lload_n 0, 1) := by decide +kernel
theorem dX10_in_7 : decode cX10_in 7 = .ok (.lload 4, 2) := by decide +kernel
theorem dX10_in_9 : decode cX10_in 9 = .ok (.lcmp, 1) := by decide +kernel
theorem dX10_in_10 : decode cX10_in 10 = .ok (.ifCond .gt 7, 3) := by decide +kernel
theorem dX10_in_13 : decode cX10_in 13 = .ok (.iconst 1, 1) := by decide +kernel
theorem dX10_in_14 : decode cX10_in 14 = .ok (.goto 4, 3) := by decide +kernel
theorem dX10_in_17 : decode cX10_in 17 = .ok (.iconst 0, 1) := by decide +kernel
theorem dX10_in_18 : decode cX10_in 18 = .ok (.ireturn, 1) := by decide +kernel
theorem dX10_one_0 : decode cX10_one 0 = .ok (.iload_n 0, 1) := by decide +kernel
theorem dX10_one_1 : decode cX10_one 1 = .ok (.ifCond .eq 7, 3) := by decide +kernel
theorem dX10_one_4 : decode cX10_one 4 = .ok (.iconst 1, 1) := by decide +kernel
theorem dX10_one_5 : decode cX10_one 5 = .ok (.goto 4, 3) := by decide +kernel
theorem dX10_one_8 : decode cX10_one 8 = .ok (.iconst 0, 1) := by decide +kernel
theorem dX10_one_9 : decode cX10_one 9 = .ok (.ireturn, 1) := by decide +kernel
theorem dX10_ones_0 : decode cX10_ones 0 = .ok (.iconst 0, 1) := by decide +kernel
theorem dX10_ones_1 : decode cX10_ones 1 = .ok (.istore_n 1, 1) := by decide +kernel
theorem dX10_ones_2 : decode cX10_ones 2 = .ok (.iconst 0, 1) := by decide +kernel
theorem dX10_ones_3 : decode cX10_ones 3 = .ok (.istore_n 2, 1) := by decide +kernel
theorem dX10_ones_4 : decode cX10_ones 4 = .ok (.iload_n 2, 1) := by decide +kernel
theorem dX10_ones_5 : decode cX10_ones 5 = .ok (.bipush 10, 2) := by decide +kernel
theorem dX10_ones_7 : decode cX10_ones 7 = .ok (.if_icmp .ge 17, 3) := by decide +kernel
theorem dX10_ones_10 : decode cX10_ones 10 = .ok (.iload_n 1, 1) := by decide +kernel
theorem dX10_ones_11 : decode cX10_ones 11 = .ok (.iload_n 0, 1) := by decide +kernel
theorem dX10_ones_12 : decode cX10_ones 12 = .ok (.iload_n 2, 1) := by decide +kernel
theorem dX10_ones_13 : decode cX10_ones 13 = .ok (.ishr, 1) := by decide +kernel
theorem dX10_ones_14 : decode cX10_ones 14 = .ok (.iconst 1, 1) := by decide +kernel
theorem dX10_ones_15 : decode cX10_ones 15 = .ok (.iand, 1) := by decide +kernel
theorem dX10_ones_16 : decode cX10_ones 16 = .ok (.iadd, 1) := by decide +kernel
theorem dX10_ones_17 : decode cX10_ones 17 = .ok (.istore_n 1, 1) := by decide +kernel
theorem dX10_ones_18 : decode cX10_ones 18 = .ok (.iinc 2 1, 3) := by decide +kernel
theorem dX10_ones_21 : decode cX10_ones 21 = .ok (.goto (-17), 3) := by decide +kernel
theorem dX10_ones_24 : decode cX10_ones 24 = .ok (.iload_n 1, 1) := by decide +kernel
theorem dX10_ones_25 : decode cX10_ones 25 = .ok (.ireturn, 1) := by decide +kernel
theorem dX10_has_0 : decode cX10_has 0 = .ok (.iload_n 0, 1) := by decide +kernel
theorem dX10_has_1 : decode cX10_has 1 = .ok (.iload_n 1, 1) := by decide +kernel
theorem dX10_has_2 : decode cX10_has 2 = .ok (.ishr, 1) := by decide +kernel
theorem dX10_has_3 : decode cX10_has 3 = .ok (.iconst 1, 1) := by decide +kernel
theorem dX10_has_4 : decode cX10_has 4 = .ok (.iand, 1) := by decide +kernel
theorem dX10_has_5 : decode cX10_has 5 = .ok (.iconst 1, 1) := by decide +kernel
theorem dX10_has_6 : decode cX10_has 6 = .ok (.if_icmp .ne 7, 3) := by decide +kernel
theorem dX10_has_9 : decode cX10_has 9 = .ok (.iconst 1, 1) := by decide +kernel
theorem dX10_has_10 : decode cX10_has 10 = .ok (.goto 4, 3) := by decide +kernel
theorem dX10_has_13 : decode cX10_has 13 = .ok (.iconst 0, 1) := by decide +kernel
theorem dX10_has_14 : decode cX10_has 14 = .ok (.ireturn, 1) := by decide +kernel
theorem dX10_feed_0 : decode cX10_feed 0 = .ok (.iload_n 1, 1) := by decide +kernel
theorem dX10_feed_1 : decode cX10_feed 1 = .ok (.i2l, 1) := by decide +kernel
theorem dX10_feed_2 : decode cX10_feed 2 = .ok (.lconst 1, 1) := by decide +kernel
theorem dX10_feed_3 : decode cX10_feed 3 = .ok (.ldc2_w 97, 3) := by decide +kernel
theorem dX10_feed_6 : decode cX10_feed 6 = .ok (.invokestatic 99, 3) := by decide +kernel
theorem dX10_feed_9 : decode cX10_feed 9 = .ok (.ifCond .ne 7, 3) := by decide +kernel
theorem dX10_feed_12 : decode cX10_feed 12 = .ok (.sipush (-1002), 3) := by decide +kernel
theorem dX10_feed_15 : decode cX10_feed 15 = .ok (.ireturn, 1) := by decide +kernel
theorem dX10_feed_16 : decode cX10_feed 16 = .ok (.aload_n 0, 1) := by decide +kernel
theorem dX10_feed_17 : decode cX10_feed 17 = .ok (.getfield 103, 3) := by decide +kernel
theorem dX10_feed_20 : decode cX10_feed 20 = .ok (.iload_n 1, 1) := by decide +kernel
theorem dX10_feed_21 : decode cX10_feed 21 = .ok (.iadd, 1) := by decide +kernel
theorem dX10_feed_22 : decode cX10_feed 22 = .ok (.sipush 400, 3) := by decide +kernel
theorem dX10_feed_25 : decode cX10_feed 25 = .ok (.if_icmp .le 7, 3) := by decide +kernel
theorem dX10_feed_28 : decode cX10_feed 28 = .ok (.sipush (-1004), 3) := by decide +kernel
theorem dX10_feed_31 : decode cX10_feed 31 = .ok (.ireturn, 1) := by decide +kernel
theorem dX10_feed_32 : decode cX10_feed 32 = .ok (.iload_n 1, 1) := by decide +kernel
theorem dX10_feed_33 : decode cX10_feed 33 = .ok (.iconst 1, 1) := by decide +kernel
theorem dX10_feed_34 : decode cX10_feed 34 = .ok (.isub, 1) := by decide +kernel
theorem dX10_feed_35 : decode cX10_feed 35 = .ok (.istore 4, 2) := by decide +kernel
theorem dX10_feed_37 : decode cX10_feed 37 = .ok (.iload 4, 2) := by decide +kernel
theorem dX10_feed_39 : decode cX10_feed 39 = .ok (.ifCond .lt 40, 3) := by decide +kernel
theorem dX10_feed_42 : decode cX10_feed 42 = .ok (.aload_n 0, 1) := by decide +kernel
theorem dX10_feed_43 : decode cX10_feed 43 = .ok (.getfield 25, 3) := by decide +kernel
theorem dX10_feed_46 : decode cX10_feed 46 = .ok (.aload_n 0, 1) := by decide +kernel
theorem dX10_feed_47 : decode cX10_feed 47 = .ok (.getfield 103, 3) := by decide +kernel
theorem dX10_feed_50 : decode cX10_feed 50 = .ok (.lload_n 2, 1) := by decide +kernel
theorem dX10_feed_51 : decode cX10_feed 51 = .ok (.bipush 8, 2) := by decide +kernel
theorem dX10_feed_53 : decode cX10_feed 53 = .ok (.iload 4, 2) := by decide +kernel
theorem dX10_feed_55 : decode cX10_feed 55 = .ok (.imul, 1) := by decide +kernel
theorem dX10_feed_56 : decode cX10_feed 56 = .ok (.lshr, 1) := by decide +kernel
theorem dX10_feed_57 : decode cX10_feed 57 = .ok (.ldc2_w 106, 3) := by decide +kernel
theorem dX10_feed_60 : decode cX10_feed 60 = .ok (.land, 1) := by decide +kernel
theorem dX10_feed_61 : decode cX10_feed 61 = .ok (.l2i, 1) := by decide +kernel
theorem dX10_feed_62 : decode cX10_feed 62 = .ok (.iastore, 1) := by decide +kernel
theorem dX10_feed_63 : decode cX10_feed 63 = .ok (.aload_n 0, 1) := by decide +kernel
theorem dX10_feed_64 : decode cX10_feed 64 = .ok (.dup, 1) := by decide +kernel
theorem dX10_feed_65 : decode cX10_feed 65 = .ok (.getfield 103, 3) := by decide +kernel
theorem dX10_feed_68 : decode cX10_feed 68 = .ok (.iconst 1, 1) := by decide +kernel
theorem dX10_feed_69 : decode cX10_feed 69 = .ok (.iadd, 1) := by decide +kernel
theorem dX10_feed_70 : decode cX10_feed 70 = .ok (.putfield 103, 3) := by decide +kernel
theorem dX10_feed_73 : decode cX10_feed 73 = .ok (.iinc 4 (-1), 3) := by decide +kernel
theorem dX10_feed_76 : decode cX10_feed 76 = .ok (.goto (-39), 3) := by decide +kernel
theorem dX10_feed_79 : decode cX10_feed 79 = .ok (.aload_n 0, 1) := by decide +kernel
theorem dX10_feed_80 : decode cX10_feed 80 = .ok (.getfield 103, 3) := by decide +kernel
theorem dX10_feed_83 : decode cX10_feed 83 = .ok (.ireturn, 1) := by decide +kernel
theorem dX10_here_0 : decode cX10_here 0 = .ok (.aload_n 0, 1) := by decide +kernel
theorem dX10_here_1 : decode cX10_here 1 = .ok (.getfield 108, 3) := by decide +kernel
theorem dX10_here_4 : decode cX10_here 4 = .ok (.aload_n 0, 1) := by decide +kernel
theorem dX10_here_5 : decode cX10_here 5 = .ok (.getfield 103, 3) := by decide +kernel
theorem dX10_here_8 : decode cX10_here 8 = .ok (.if_icmp .ge 30, 3) := by decide +kernel
theorem dX10_here_11 : decode cX10_here 11 = .ok (.aload_n 0, 1) := by decide +kernel
theorem dX10_here_12 : decode cX10_here 12 = .ok (.getfield 25, 3) := by decide +kernel
theorem dX10_here_15 : decode cX10_here 15 = .ok (.aload_n 0, 1) := by decide +kernel
theorem dX10_here_16 : decode cX10_here 16 = .ok (.getfield 108, 3) := by decide +kernel
theorem dX10_here_19 : decode cX10_here 19 = .ok (.iaload, 1) := by decide +kernel
theorem dX10_here_20 : decode cX10_here 20 = .ok (.bipush 32, 2) := by decide +kernel
theorem dX10_here_22 : decode cX10_here 22 = .ok (.if_icmp .ne 16, 3) := by decide +kernel
theorem dX10_here_25 : decode cX10_here 25 = .ok (.aload_n 0, 1) := by decide +kernel
theorem dX10_here_26 : decode cX10_here 26 = .ok (.dup, 1) := by decide +kernel
theorem dX10_here_27 : decode cX10_here 27 = .ok (.getfield 108, 3) := by decide +kernel
theorem dX10_here_30 : decode cX10_here 30 = .ok (.iconst 1, 1) := by decide +kernel
theorem dX10_here_31 : decode cX10_here 31 = .ok (.iadd, 1) := by decide +kernel
theorem dX10_here_32 : decode cX10_here 32 = .ok (.putfield 108, 3) := by decide +kernel
theorem dX10_here_35 : decode cX10_here 35 = .ok (.goto (-35), 3) := by decide +kernel
theorem dX10_here_38 : decode cX10_here 38 = .ok (.aload_n 0, 1) := by decide +kernel
theorem dX10_here_39 : decode cX10_here 39 = .ok (.getfield 108, 3) := by decide +kernel
theorem dX10_here_42 : decode cX10_here 42 = .ok (.aload_n 0, 1) := by decide +kernel
theorem dX10_here_43 : decode cX10_here 43 = .ok (.getfield 103, 3) := by decide +kernel
theorem dX10_here_46 : decode cX10_here 46 = .ok (.if_icmp .ge 15, 3) := by decide +kernel
theorem dX10_here_49 : decode cX10_here 49 = .ok (.aload_n 0, 1) := by decide +kernel
theorem dX10_here_50 : decode cX10_here 50 = .ok (.getfield 25, 3) := by decide +kernel
theorem dX10_here_53 : decode cX10_here 53 = .ok (.aload_n 0, 1) := by decide +kernel
theorem dX10_here_54 : decode cX10_here 54 = .ok (.getfield 108, 3) := by decide +kernel
theorem dX10_here_57 : decode cX10_here 57 = .ok (.iaload, 1) := by decide +kernel
theorem dX10_here_58 : decode cX10_here 58 = .ok (.goto 4, 3) := by decide +kernel
theorem dX10_here_61 : decode cX10_here 61 = .ok (.iconst (-1), 1) := by decide +kernel
theorem dX10_here_62 : decode cX10_here 62 = .ok (.ireturn, 1) := by decide +kernel
theorem dX10_want_0 : decode cX10_want 0 = .ok (.iload_n 1, 1) := by decide +kernel
theorem dX10_want_1 : decode cX10_want 1 = .ok (.ifCond .ne 20, 3) := by decide +kernel
theorem dX10_want_4 : decode cX10_want 4 = .ok (.aload_n 0, 1) := by decide +kernel
theorem dX10_want_5 : decode cX10_want 5 = .ok (.getfield 111, 3) := by decide +kernel
theorem dX10_want_8 : decode cX10_want 8 = .ok (.ifCond .ne 13, 3) := by decide +kernel
theorem dX10_want_11 : decode cX10_want 11 = .ok (.aload_n 0, 1) := by decide +kernel
theorem dX10_want_12 : decode cX10_want 12 = .ok (.iload_n 2, 1) := by decide +kernel
theorem dX10_want_13 : decode cX10_want 13 = .ok (.putfield 111, 3) := by decide +kernel
theorem dX10_want_16 : decode cX10_want 16 = .ok (.aload_n 0, 1) := by decide +kernel
theorem dX10_want_17 : decode cX10_want 17 = .ok (.iload_n 3, 1) := by decide +kernel
theorem dX10_want_18 : decode cX10_want 18 = .ok (.putfield 28, 3) := by decide +kernel
theorem dX10_want_21 : decode cX10_want 21 = .ok (.aload_n 0, 1) := by decide +kernel
theorem dX10_want_22 : decode cX10_want 22 = .ok (.getfield 111, 3) := by decide +kernel
theorem dX10_want_25 : decode cX10_want 25 = .ok (.ifCond .ne 7, 3) := by decide +kernel
theorem dX10_want_28 : decode cX10_want 28 = .ok (.iconst 1, 1) := by decide +kernel
theorem dX10_want_29 : decode cX10_want 29 = .ok (.goto 4, 3) := by decide +kernel
theorem dX10_want_32 : decode cX10_want 32 = .ok (.iconst 0, 1) := by decide +kernel
theorem dX10_want_33 : decode cX10_want 33 = .ok (.ireturn, 1) := by decide +kernel
theorem dX10_takeWord_0 : decode cX10_takeWord 0 = .ok (.aload_n 0, 1) := by decide +kernel
theorem dX10_takeWord_1 : decode cX10_takeWord 1 = .ok (.invokevirtual 114, 3) := by decide +kernel
theorem dX10_takeWord_4 : decode cX10_takeWord 4 = .ok (.istore_n 1, 1) := by decide +kernel
theorem dX10_takeWord_5 : decode cX10_takeWord 5 = .ok (.aload_n 0, 1) := by decide +kernel
theorem dX10_takeWord_6 : decode cX10_takeWord 6 = .ok (.aload_n 0, 1) := by decide +kernel
theorem dX10_takeWord_7 : decode cX10_takeWord 7 = .ok (.getfield 108, 3) := by decide +kernel
theorem dX10_takeWord_10 : decode cX10_takeWord 10 = .ok (.putfield 118, 3) := by decide +kernel
theorem dX10_takeWord_13 : decode cX10_takeWord 13 = .ok (.aload_n 0, 1) := by decide +kernel
theorem dX10_takeWord_14 : decode cX10_takeWord 14 = .ok (.getfield 108, 3) := by decide +kernel
theorem dX10_takeWord_17 : decode cX10_takeWord 17 = .ok (.aload_n 0, 1) := by decide +kernel
theorem dX10_takeWord_18 : decode cX10_takeWord 18 = .ok (.getfield 103, 3) := by decide +kernel
theorem dX10_takeWord_21 : decode cX10_takeWord 21 = .ok (.if_icmp .ge 38, 3) := by decide +kernel
theorem dX10_takeWord_24 : decode cX10_takeWord 24 = .ok (.aload_n 0, 1) := by decide +kernel
theorem dX10_takeWord_25 : decode cX10_takeWord 25 = .ok (.getfield 25, 3) := by decide +kernel
theorem dX10_takeWord_28 : decode cX10_takeWord 28 = .ok (.aload_n 0, 1) := by decide +kernel
theorem dX10_takeWord_29 : decode cX10_takeWord 29 = .ok (.getfield 108, 3) := by decide +kernel
theorem dX10_takeWord_32 : decode cX10_takeWord 32 = .ok (.iaload, 1) := by decide +kernel
theorem dX10_takeWord_33 : decode cX10_takeWord 33 = .ok (.i2l, 1) := by decide +kernel
theorem dX10_takeWord_34 : decode cX10_takeWord 34 = .ok (.ldc2_w 121, 3) := by decide +kernel
theorem dX10_takeWord_37 : decode cX10_takeWord 37 = .ok (.ldc2_w 123, 3) := by decide +kernel
theorem dX10_takeWord_40 : decode cX10_takeWord 40 = .ok (.invokestatic 99, 3) := by decide +kernel
theorem dX10_takeWord_43 : decode cX10_takeWord 43 = .ok (.ifCond .eq 16, 3) := by decide +kernel
theorem dX10_takeWord_46 : decode cX10_takeWord 46 = .ok (.aload_n 0, 1) := by decide +kernel
theorem dX10_takeWord_47 : decode cX10_takeWord 47 = .ok (.dup, 1) := by decide +kernel
theorem dX10_takeWord_48 : decode cX10_takeWord 48 = .ok (.getfield 108, 3) := by decide +kernel
theorem dX10_takeWord_51 : decode cX10_takeWord 51 = .ok (.iconst 1, 1) := by decide +kernel
theorem dX10_takeWord_52 : decode cX10_takeWord 52 = .ok (.iadd, 1) := by decide +kernel
theorem dX10_takeWord_53 : decode cX10_takeWord 53 = .ok (.putfield 108, 3) := by decide +kernel
theorem dX10_takeWord_56 : decode cX10_takeWord 56 = .ok (.goto (-43), 3) := by decide +kernel
theorem dX10_takeWord_59 : decode cX10_takeWord 59 = .ok (.aload_n 0, 1) := by decide +kernel
theorem dX10_takeWord_60 : decode cX10_takeWord 60 = .ok (.aload_n 0, 1) := by decide +kernel
theorem dX10_takeWord_61 : decode cX10_takeWord 61 = .ok (.getfield 108, 3) := by decide +kernel
theorem dX10_takeWord_64 : decode cX10_takeWord 64 = .ok (.aload_n 0, 1) := by decide +kernel
theorem dX10_takeWord_65 : decode cX10_takeWord 65 = .ok (.getfield 118, 3) := by decide +kernel
theorem dX10_takeWord_68 : decode cX10_takeWord 68 = .ok (.isub, 1) := by decide +kernel
theorem dX10_takeWord_69 : decode cX10_takeWord 69 = .ok (.putfield 125, 3) := by decide +kernel
theorem dX10_takeWord_72 : decode cX10_takeWord 72 = .ok (.return_, 1) := by decide +kernel
theorem dX10_isWord_0 : decode cX10_isWord 0 = .ok (.aload_n 0, 1) := by decide +kernel
theorem dX10_isWord_1 : decode cX10_isWord 1 = .ok (.getfield 125, 3) := by decide +kernel
theorem dX10_isWord_4 : decode cX10_isWord 4 = .ok (.iload_n 1, 1) := by decide +kernel
theorem dX10_isWord_5 : decode cX10_isWord 5 = .ok (.if_icmp .ne 7, 3) := by decide +kernel
theorem dX10_isWord_8 : decode cX10_isWord 8 = .ok (.iconst 1, 1) := by decide +kernel
theorem dX10_isWord_9 : decode cX10_isWord 9 = .ok (.goto 4, 3) := by decide +kernel
theorem dX10_isWord_12 : decode cX10_isWord 12 = .ok (.iconst 0, 1) := by decide +kernel
theorem dX10_isWord_13 : decode cX10_isWord 13 = .ok (.istore 7, 2) := by decide +kernel
theorem dX10_isWord_15 : decode cX10_isWord 15 = .ok (.iconst 0, 1) := by decide +kernel
theorem dX10_isWord_16 : decode cX10_isWord 16 = .ok (.istore 8, 2) := by decide +kernel
theorem dX10_isWord_18 : decode cX10_isWord 18 = .ok (.iload 8, 2) := by decide +kernel
theorem dX10_isWord_20 : decode cX10_isWord 20 = .ok (.iload_n 1, 1) := by decide +kernel
theorem dX10_isWord_21 : decode cX10_isWord 21 = .ok (.if_icmp .ge 79, 3) := by decide +kernel
theorem dX10_isWord_24 : decode cX10_isWord 24 = .ok (.iload 7, 2) := by decide +kernel
theorem dX10_isWord_26 : decode cX10_isWord 26 = .ok (.ifCond .eq 74, 3) := by decide +kernel
theorem dX10_isWord_29 : decode cX10_isWord 29 = .ok (.aload_n 0, 1) := by decide +kernel
theorem dX10_isWord_30 : decode cX10_isWord 30 = .ok (.getfield 25, 3) := by decide +kernel
theorem dX10_isWord_33 : decode cX10_isWord 33 = .ok (.aload_n 0, 1) := by decide +kernel
theorem dX10_isWord_34 : decode cX10_isWord 34 = .ok (.getfield 118, 3) := by decide +kernel
theorem dX10_isWord_37 : decode cX10_isWord 37 = .ok (.iload 8, 2) := by decide +kernel
theorem dX10_isWord_39 : decode cX10_isWord 39 = .ok (.iadd, 1) := by decide +kernel
theorem dX10_isWord_40 : decode cX10_isWord 40 = .ok (.iaload, 1) := by decide +kernel
theorem dX10_isWord_41 : decode cX10_isWord 41 = .ok (.iload 8, 2) := by decide +kernel
theorem dX10_isWord_43 : decode cX10_isWord 43 = .ok (.ifCond .ne 7, 3) := by decide +kernel
theorem dX10_isWord_46 : decode cX10_isWord 46 = .ok (.iload_n 2, 1) := by decide +kernel
theorem dX10_isWord_47 : decode cX10_isWord 47 = .ok (.goto 37, 3) := by decide +kernel
theorem dX10_isWord_50 : decode cX10_isWord 50 = .ok (.iload 8, 2) := by decide +kernel
theorem dX10_isWord_52 : decode cX10_isWord 52 = .ok (.iconst 1, 1) := by decide +kernel
theorem dX10_isWord_53 : decode cX10_isWord 53 = .ok (.if_icmp .ne 7, 3) := by decide +kernel
theorem dX10_isWord_56 : decode cX10_isWord 56 = .ok (.iload_n 3, 1) := by decide +kernel
theorem dX10_isWord_57 : decode cX10_isWord 57 = .ok (.goto 27, 3) := by decide +kernel
theorem dX10_isWord_60 : decode cX10_isWord 60 = .ok (.iload 8, 2) := by decide +kernel
theorem dX10_isWord_62 : decode cX10_isWord 62 = .ok (.iconst 2, 1) := by decide +kernel
theorem dX10_isWord_63 : decode cX10_isWord 63 = .ok (.if_icmp .ne 8, 3) := by decide +kernel
theorem dX10_isWord_66 : decode cX10_isWord 66 = .ok (.iload 4, 2) := by decide +kernel
theorem dX10_isWord_68 : decode cX10_isWord 68 = .ok (.goto 16, 3) := by decide +kernel
theorem dX10_isWord_71 : decode cX10_isWord 71 = .ok (.iload 8, 2) := by decide +kernel
theorem dX10_isWord_73 : decode cX10_isWord 73 = .ok (.iconst 3, 1) := by decide +kernel
theorem dX10_isWord_74 : decode cX10_isWord 74 = .ok (.if_icmp .ne 8, 3) := by decide +kernel
theorem dX10_isWord_77 : decode cX10_isWord 77 = .ok (.iload 5, 2) := by decide +kernel
theorem dX10_isWord_79 : decode cX10_isWord 79 = .ok (.goto 5, 3) := by decide +kernel
theorem dX10_isWord_82 : decode cX10_isWord 82 = .ok (.iload 6, 2) := by decide +kernel
theorem dX10_isWord_84 : decode cX10_isWord 84 = .ok (.if_icmp .ne 7, 3) := by decide +kernel
theorem dX10_isWord_87 : decode cX10_isWord 87 = .ok (.iconst 1, 1) := by decide +kernel
theorem dX10_isWord_88 : decode cX10_isWord 88 = .ok (.goto 4, 3) := by decide +kernel
theorem dX10_isWord_91 : decode cX10_isWord 91 = .ok (.iconst 0, 1) := by decide +kernel
theorem dX10_isWord_92 : decode cX10_isWord 92 = .ok (.istore 7, 2) := by decide +kernel
theorem dX10_isWord_94 : decode cX10_isWord 94 = .ok (.iinc 8 1, 3) := by decide +kernel
theorem dX10_isWord_97 : decode cX10_isWord 97 = .ok (.goto (-79), 3) := by decide +kernel
theorem dX10_isWord_100 : decode cX10_isWord 100 = .ok (.iload 7, 2) := by decide +kernel
theorem dX10_isWord_102 : decode cX10_isWord 102 = .ok (.ireturn, 1) := by decide +kernel
theorem dX10_kindOf_0 : decode cX10_kindOf 0 = .ok (.aload_n 0, 1) := by decide +kernel
theorem dX10_kindOf_1 : decode cX10_kindOf 1 = .ok (.iconst 3, 1) := by decide +kernel
theorem dX10_kindOf_2 : decode cX10_kindOf 2 = .ok (.bipush 106, 2) := by decide +kernel
theorem dX10_kindOf_4 : decode cX10_kindOf 4 = .ok (.bipush 111, 2) := by decide +kernel
theorem dX10_kindOf_6 : decode cX10_kindOf 6 = .ok (.bipush 121, 2) := by decide +kernel
theorem dX10_kindOf_8 : decode cX10_kindOf 8 = .ok (.iconst 0, 1) := by decide +kernel
theorem dX10_kindOf_9 : decode cX10_kindOf 9 = .ok (.iconst 0, 1) := by decide +kernel
theorem dX10_kindOf_10 : decode cX10_kindOf 10 = .ok (.invokevirtual 128, 3) := by decide +kernel
theorem dX10_kindOf_13 : decode cX10_kindOf 13 = .ok (.ifCond .eq 5, 3) := by decide +kernel
theorem dX10_kindOf_16 : decode cX10_kindOf 16 = .ok (.iconst 0, 1) := by decide +kernel
theorem dX10_kindOf_17 : decode cX10_kindOf 17 = .ok (.ireturn, 1) := by decide +kernel
theorem dX10_kindOf_18 : decode cX10_kindOf 18 = .ok (.aload_n 0, 1) := by decide +kernel
theorem dX10_kindOf_19 : decode cX10_kindOf 19 = .ok (.iconst 4, 1) := by decide +kernel
theorem dX10_kindOf_20 : decode cX10_kindOf 20 = .ok (.bipush 119, 2) := by decide +kernel
theorem dX10_kindOf_22 : decode cX10_kindOf 22 = .ok (.bipush 105, 2) := by decide +kernel
theorem dX10_kindOf_24 : decode cX10_kindOf 24 = .ok (.bipush 116, 2) := by decide +kernel
theorem dX10_kindOf_26 : decode cX10_kindOf 26 = .ok (.bipush 104, 2) := by decide +kernel
theorem dX10_kindOf_28 : decode cX10_kindOf 28 = .ok (.iconst 0, 1) := by decide +kernel
theorem dX10_kindOf_29 : decode cX10_kindOf 29 = .ok (.invokevirtual 128, 3) := by decide +kernel
theorem dX10_kindOf_32 : decode cX10_kindOf 32 = .ok (.ifCond .eq 5, 3) := by decide +kernel
theorem dX10_kindOf_35 : decode cX10_kindOf 35 = .ok (.iconst 1, 1) := by decide +kernel
theorem dX10_kindOf_36 : decode cX10_kindOf 36 = .ok (.ireturn, 1) := by decide +kernel
theorem dX10_kindOf_37 : decode cX10_kindOf 37 = .ok (.aload_n 0, 1) := by decide +kernel
theorem dX10_kindOf_38 : decode cX10_kindOf 38 = .ok (.iconst 5, 1) := by decide +kernel
theorem dX10_kindOf_39 : decode cX10_kindOf 39 = .ok (.bipush 97, 2) := by decide +kernel
theorem dX10_kindOf_41 : decode cX10_kindOf 41 = .ok (.bipush 102, 2) := by decide +kernel
theorem dX10_kindOf_43 : decode cX10_kindOf 43 = .ok (.bipush 116, 2) := by decide +kernel
theorem dX10_kindOf_45 : decode cX10_kindOf 45 = .ok (.bipush 101, 2) := by decide +kernel
theorem dX10_kindOf_47 : decode cX10_kindOf 47 = .ok (.bipush 114, 2) := by decide +kernel
theorem dX10_kindOf_49 : decode cX10_kindOf 49 = .ok (.invokevirtual 128, 3) := by decide +kernel
theorem dX10_kindOf_52 : decode cX10_kindOf 52 = .ok (.ifCond .eq 5, 3) := by decide +kernel
theorem dX10_kindOf_55 : decode cX10_kindOf 55 = .ok (.iconst 2, 1) := by decide +kernel
theorem dX10_kindOf_56 : decode cX10_kindOf 56 = .ok (.ireturn, 1) := by decide +kernel
theorem dX10_kindOf_57 : decode cX10_kindOf 57 = .ok (.aload_n 0, 1) := by decide +kernel
theorem dX10_kindOf_58 : decode cX10_kindOf 58 = .ok (.iconst 5, 1) := by decide +kernel
theorem dX10_kindOf_59 : decode cX10_kindOf 59 = .ok (.bipush 111, 2) := by decide +kernel
theorem dX10_kindOf_61 : decode cX10_kindOf 61 = .ok (.bipush 112, 2) := by decide +kernel
theorem dX10_kindOf_63 : decode cX10_kindOf 63 = .ok (.bipush 101, 2) := by decide +kernel
theorem dX10_kindOf_65 : decode cX10_kindOf 65 = .ok (.bipush 110, 2) := by decide +kernel
theorem dX10_kindOf_67 : decode cX10_kindOf 67 = .ok (.bipush 115, 2) := by decide +kernel
theorem dX10_kindOf_69 : decode cX10_kindOf 69 = .ok (.invokevirtual 128, 3) := by decide +kernel
theorem dX10_kindOf_72 : decode cX10_kindOf 72 = .ok (.ifCond .eq 5, 3) := by decide +kernel
theorem dX10_kindOf_75 : decode cX10_kindOf 75 = .ok (.iconst 3, 1) := by decide +kernel
theorem dX10_kindOf_76 : decode cX10_kindOf 76 = .ok (.ireturn, 1) := by decide +kernel
theorem dX10_kindOf_77 : decode cX10_kindOf 77 = .ok (.aload_n 0, 1) := by decide +kernel
theorem dX10_kindOf_78 : decode cX10_kindOf 78 = .ok (.iconst 5, 1) := by decide +kernel
theorem dX10_kindOf_79 : decode cX10_kindOf 79 = .ok (.bipush 115, 2) := by decide +kernel
theorem dX10_kindOf_81 : decode cX10_kindOf 81 = .ok (.bipush 104, 2) := by decide +kernel
theorem dX10_kindOf_83 : decode cX10_kindOf 83 = .ok (.bipush 117, 2) := by decide +kernel
theorem dX10_kindOf_85 : decode cX10_kindOf 85 = .ok (.bipush 116, 2) := by decide +kernel
theorem dX10_kindOf_87 : decode cX10_kindOf 87 = .ok (.bipush 115, 2) := by decide +kernel
theorem dX10_kindOf_89 : decode cX10_kindOf 89 = .ok (.invokevirtual 128, 3) := by decide +kernel
theorem dX10_kindOf_92 : decode cX10_kindOf 92 = .ok (.ifCond .eq 5, 3) := by decide +kernel
theorem dX10_kindOf_95 : decode cX10_kindOf 95 = .ok (.iconst 4, 1) := by decide +kernel
theorem dX10_kindOf_96 : decode cX10_kindOf 96 = .ok (.ireturn, 1) := by decide +kernel
theorem dX10_kindOf_97 : decode cX10_kindOf 97 = .ok (.aload_n 0, 1) := by decide +kernel
theorem dX10_kindOf_98 : decode cX10_kindOf 98 = .ok (.iconst 5, 1) := by decide +kernel
theorem dX10_kindOf_99 : decode cX10_kindOf 99 = .ok (.bipush 116, 2) := by decide +kernel
theorem dX10_kindOf_101 : decode cX10_kindOf 101 = .ok (.bipush 101, 2) := by decide +kernel
theorem dX10_kindOf_103 : decode cX10_kindOf 103 = .ok (.bipush 108, 2) := by decide +kernel
theorem dX10_kindOf_105 : decode cX10_kindOf 105 = .ok (.bipush 108, 2) := by decide +kernel
theorem dX10_kindOf_107 : decode cX10_kindOf 107 = .ok (.bipush 115, 2) := by decide +kernel
theorem dX10_kindOf_109 : decode cX10_kindOf 109 = .ok (.invokevirtual 128, 3) := by decide +kernel
theorem dX10_kindOf_112 : decode cX10_kindOf 112 = .ok (.ifCond .eq 5, 3) := by decide +kernel
theorem dX10_kindOf_115 : decode cX10_kindOf 115 = .ok (.iconst 5, 1) := by decide +kernel
theorem dX10_kindOf_116 : decode cX10_kindOf 116 = .ok (.ireturn, 1) := by decide +kernel
theorem dX10_kindOf_117 : decode cX10_kindOf 117 = .ok (.aload_n 0, 1) := by decide +kernel
theorem dX10_kindOf_118 : decode cX10_kindOf 118 = .ok (.iconst 5, 1) := by decide +kernel
theorem dX10_kindOf_119 : decode cX10_kindOf 119 = .ok (.bipush 110, 2) := by decide +kernel
theorem dX10_kindOf_121 : decode cX10_kindOf 121 = .ok (.bipush 101, 2) := by decide +kernel
theorem dX10_kindOf_123 : decode cX10_kindOf 123 = .ok (.bipush 101, 2) := by decide +kernel
theorem dX10_kindOf_125 : decode cX10_kindOf 125 = .ok (.bipush 100, 2) := by decide +kernel
theorem dX10_kindOf_127 : decode cX10_kindOf 127 = .ok (.bipush 115, 2) := by decide +kernel
theorem dX10_kindOf_129 : decode cX10_kindOf 129 = .ok (.invokevirtual 128, 3) := by decide +kernel
theorem dX10_kindOf_132 : decode cX10_kindOf 132 = .ok (.ifCond .eq 6, 3) := by decide +kernel
theorem dX10_kindOf_135 : decode cX10_kindOf 135 = .ok (.bipush 6, 2) := by decide +kernel
theorem dX10_kindOf_137 : decode cX10_kindOf 137 = .ok (.ireturn, 1) := by decide +kernel
theorem dX10_kindOf_138 : decode cX10_kindOf 138 = .ok (.aload_n 0, 1) := by decide +kernel
theorem dX10_kindOf_139 : decode cX10_kindOf 139 = .ok (.iconst 4, 1) := by decide +kernel
theorem dX10_kindOf_140 : decode cX10_kindOf 140 = .ok (.bipush 100, 2) := by decide +kernel
theorem dX10_kindOf_142 : decode cX10_kindOf 142 = .ok (.bipush 105, 2) := by decide +kernel
theorem dX10_kindOf_144 : decode cX10_kindOf 144 = .ok (.bipush 101, 2) := by decide +kernel
theorem dX10_kindOf_146 : decode cX10_kindOf 146 = .ok (.bipush 115, 2) := by decide +kernel
theorem dX10_kindOf_148 : decode cX10_kindOf 148 = .ok (.iconst 0, 1) := by decide +kernel
theorem dX10_kindOf_149 : decode cX10_kindOf 149 = .ok (.invokevirtual 128, 3) := by decide +kernel
theorem dX10_kindOf_152 : decode cX10_kindOf 152 = .ok (.ifCond .eq 8, 3) := by decide +kernel
theorem dX10_kindOf_155 : decode cX10_kindOf 155 = .ok (.bipush 7, 2) := by decide +kernel
theorem dX10_kindOf_157 : decode cX10_kindOf 157 = .ok (.goto 4, 3) := by decide +kernel
theorem dX10_kindOf_160 : decode cX10_kindOf 160 = .ok (.iconst (-1), 1) := by decide +kernel
theorem dX10_kindOf_161 : decode cX10_kindOf 161 = .ok (.ireturn, 1) := by decide +kernel
theorem dX10_takeNumber_0 : decode cX10_takeNumber 0 = .ok (.aload_n 0, 1) := by decide +kernel
theorem dX10_takeNumber_1 : decode cX10_takeNumber 1 = .ok (.getfield 111, 3) := by decide +kernel
theorem dX10_takeNumber_4 : decode cX10_takeNumber 4 = .ok (.ifCond .le 5, 3) := by decide +kernel
theorem dX10_takeNumber_7 : decode cX10_takeNumber 7 = .ok (.iconst 0, 1) := by decide +kernel
theorem dX10_takeNumber_8 : decode cX10_takeNumber 8 = .ok (.ireturn, 1) := by decide +kernel
theorem dX10_takeNumber_9 : decode cX10_takeNumber 9 = .ok (.aload_n 0, 1) := by decide +kernel
theorem dX10_takeNumber_10 : decode cX10_takeNumber 10 = .ok (.invokevirtual 114, 3) := by decide +kernel
theorem dX10_takeNumber_13 : decode cX10_takeNumber 13 = .ok (.istore_n 3, 1) := by decide +kernel
theorem dX10_takeNumber_14 : decode cX10_takeNumber 14 = .ok (.aload_n 0, 1) := by decide +kernel
theorem dX10_takeNumber_15 : decode cX10_takeNumber 15 = .ok (.aload_n 0, 1) := by decide +kernel
theorem dX10_takeNumber_16 : decode cX10_takeNumber 16 = .ok (.getfield 108, 3) := by decide +kernel
theorem dX10_takeNumber_19 : decode cX10_takeNumber 19 = .ok (.putfield 118, 3) := by decide +kernel
theorem dX10_takeNumber_22 : decode cX10_takeNumber 22 = .ok (.aload_n 0, 1) := by decide +kernel
theorem dX10_takeNumber_23 : decode cX10_takeNumber 23 = .ok (.iload_n 3, 1) := by decide +kernel
theorem dX10_takeNumber_24 : decode cX10_takeNumber 24 = .ok (.i2l, 1) := by decide +kernel
theorem dX10_takeNumber_25 : decode cX10_takeNumber 25 = .ok (.ldc2_w 132, 3) := by decide +kernel
theorem dX10_takeNumber_28 : decode cX10_takeNumber 28 = .ok (.ldc2_w 134, 3) := by decide +kernel
theorem dX10_takeNumber_31 : decode cX10_takeNumber 31 = .ok (.invokestatic 99, 3) := by decide +kernel
theorem dX10_takeNumber_34 : decode cX10_takeNumber 34 = .ok (.iconst 1, 1) := by decide +kernel
theorem dX10_takeNumber_35 : decode cX10_takeNumber 35 = .ok (.aload_n 0, 1) := by decide +kernel
theorem dX10_takeNumber_36 : decode cX10_takeNumber 36 = .ok (.getfield 108, 3) := by decide +kernel
theorem dX10_takeNumber_39 : decode cX10_takeNumber 39 = .ok (.invokevirtual 136, 3) := by decide +kernel
theorem dX10_takeNumber_42 : decode cX10_takeNumber 42 = .ok (.ifCond .ne 5, 3) := by decide +kernel
theorem dX10_takeNumber_45 : decode cX10_takeNumber 45 = .ok (.iconst 0, 1) := by decide +kernel
theorem dX10_takeNumber_46 : decode cX10_takeNumber 46 = .ok (.ireturn, 1) := by decide +kernel
theorem dX10_takeNumber_47 : decode cX10_takeNumber 47 = .ok (.iconst 0, 1) := by decide +kernel
theorem dX10_takeNumber_48 : decode cX10_takeNumber 48 = .ok (.istore 4, 2) := by decide +kernel
theorem dX10_takeNumber_50 : decode cX10_takeNumber 50 = .ok (.aload_n 0, 1) := by decide +kernel
theorem dX10_takeNumber_51 : decode cX10_takeNumber 51 = .ok (.getfield 108, 3) := by decide +kernel
theorem dX10_takeNumber_54 : decode cX10_takeNumber 54 = .ok (.aload_n 0, 1) := by decide +kernel
theorem dX10_takeNumber_55 : decode cX10_takeNumber 55 = .ok (.getfield 103, 3) := by decide +kernel
theorem dX10_takeNumber_58 : decode cX10_takeNumber 58 = .ok (.if_icmp .ge 71, 3) := by decide +kernel
theorem dX10_takeNumber_61 : decode cX10_takeNumber 61 = .ok (.aload_n 0, 1) := by decide +kernel
theorem dX10_takeNumber_62 : decode cX10_takeNumber 62 = .ok (.getfield 25, 3) := by decide +kernel
theorem dX10_takeNumber_65 : decode cX10_takeNumber 65 = .ok (.aload_n 0, 1) := by decide +kernel
theorem dX10_takeNumber_66 : decode cX10_takeNumber 66 = .ok (.getfield 108, 3) := by decide +kernel
theorem dX10_takeNumber_69 : decode cX10_takeNumber 69 = .ok (.iaload, 1) := by decide +kernel
theorem dX10_takeNumber_70 : decode cX10_takeNumber 70 = .ok (.i2l, 1) := by decide +kernel
theorem dX10_takeNumber_71 : decode cX10_takeNumber 71 = .ok (.ldc2_w 132, 3) := by decide +kernel
theorem dX10_takeNumber_74 : decode cX10_takeNumber 74 = .ok (.ldc2_w 134, 3) := by decide +kernel
theorem dX10_takeNumber_77 : decode cX10_takeNumber 77 = .ok (.invokestatic 99, 3) := by decide +kernel
theorem dX10_takeNumber_80 : decode cX10_takeNumber 80 = .ok (.ifCond .eq 49, 3) := by decide +kernel
theorem dX10_takeNumber_83 : decode cX10_takeNumber 83 = .ok (.iload 4, 2) := by decide +kernel
theorem dX10_takeNumber_85 : decode cX10_takeNumber 85 = .ok (.sipush 999, 3) := by decide +kernel
theorem dX10_takeNumber_88 : decode cX10_takeNumber 88 = .ok (.if_icmp .le 8, 3) := by decide +kernel
theorem dX10_takeNumber_91 : decode cX10_takeNumber 91 = .ok (.iload 4, 2) := by decide +kernel
theorem dX10_takeNumber_93 : decode cX10_takeNumber 93 = .ok (.goto 21, 3) := by decide +kernel
theorem dX10_takeNumber_96 : decode cX10_takeNumber 96 = .ok (.bipush 10, 2) := by decide +kernel
theorem dX10_takeNumber_98 : decode cX10_takeNumber 98 = .ok (.iload 4, 2) := by decide +kernel
theorem dX10_takeNumber_100 : decode cX10_takeNumber 100 = .ok (.imul, 1) := by decide +kernel
theorem dX10_takeNumber_101 : decode cX10_takeNumber 101 = .ok (.aload_n 0, 1) := by decide +kernel
theorem dX10_takeNumber_102 : decode cX10_takeNumber 102 = .ok (.getfield 25, 3) := by decide +kernel
theorem dX10_takeNumber_105 : decode cX10_takeNumber 105 = .ok (.aload_n 0, 1) := by decide +kernel
theorem dX10_takeNumber_106 : decode cX10_takeNumber 106 = .ok (.getfield 108, 3) := by decide +kernel
theorem dX10_takeNumber_109 : decode cX10_takeNumber 109 = .ok (.iaload, 1) := by decide +kernel
theorem dX10_takeNumber_110 : decode cX10_takeNumber 110 = .ok (.iadd, 1) := by decide +kernel
theorem dX10_takeNumber_111 : decode cX10_takeNumber 111 = .ok (.bipush 48, 2) := by decide +kernel
theorem dX10_takeNumber_113 : decode cX10_takeNumber 113 = .ok (.isub, 1) := by decide +kernel
theorem dX10_takeNumber_114 : decode cX10_takeNumber 114 = .ok (.istore 4, 2) := by decide +kernel
theorem dX10_takeNumber_116 : decode cX10_takeNumber 116 = .ok (.aload_n 0, 1) := by decide +kernel
theorem dX10_takeNumber_117 : decode cX10_takeNumber 117 = .ok (.dup, 1) := by decide +kernel
theorem dX10_takeNumber_118 : decode cX10_takeNumber 118 = .ok (.getfield 108, 3) := by decide +kernel
theorem dX10_takeNumber_121 : decode cX10_takeNumber 121 = .ok (.iconst 1, 1) := by decide +kernel
theorem dX10_takeNumber_122 : decode cX10_takeNumber 122 = .ok (.iadd, 1) := by decide +kernel
theorem dX10_takeNumber_123 : decode cX10_takeNumber 123 = .ok (.putfield 108, 3) := by decide +kernel
theorem dX10_takeNumber_126 : decode cX10_takeNumber 126 = .ok (.goto (-76), 3) := by decide +kernel
theorem dX10_takeNumber_129 : decode cX10_takeNumber 129 = .ok (.aload_n 0, 1) := by decide +kernel
theorem dX10_takeNumber_130 : decode cX10_takeNumber 130 = .ok (.aload_n 0, 1) := by decide +kernel
theorem dX10_takeNumber_131 : decode cX10_takeNumber 131 = .ok (.getfield 108, 3) := by decide +kernel
theorem dX10_takeNumber_134 : decode cX10_takeNumber 134 = .ok (.aload_n 0, 1) := by decide +kernel
theorem dX10_takeNumber_135 : decode cX10_takeNumber 135 = .ok (.getfield 118, 3) := by decide +kernel
theorem dX10_takeNumber_138 : decode cX10_takeNumber 138 = .ok (.isub, 1) := by decide +kernel
theorem dX10_takeNumber_139 : decode cX10_takeNumber 139 = .ok (.iconst 3, 1) := by decide +kernel
theorem dX10_takeNumber_140 : decode cX10_takeNumber 140 = .ok (.if_icmp .ge 20, 3) := by decide +kernel
theorem dX10_takeNumber_143 : decode cX10_takeNumber 143 = .ok (.iload 4, 2) := by decide +kernel
theorem dX10_takeNumber_145 : decode cX10_takeNumber 145 = .ok (.i2l, 1) := by decide +kernel
theorem dX10_takeNumber_146 : decode cX10_takeNumber 146 = .ok (.iload_n 1, 1) := by decide +kernel
theorem dX10_takeNumber_147 : decode cX10_takeNumber 147 = .ok (.i2l, 1) := by decide +kernel
theorem dX10_takeNumber_148 : decode cX10_takeNumber 148 = .ok (.iload_n 2, 1) := by decide +kernel
theorem dX10_takeNumber_149 : decode cX10_takeNumber 149 = .ok (.i2l, 1) := by decide +kernel
theorem dX10_takeNumber_150 : decode cX10_takeNumber 150 = .ok (.invokestatic 99, 3) := by decide +kernel
theorem dX10_takeNumber_153 : decode cX10_takeNumber 153 = .ok (.ifCond .eq 7, 3) := by decide +kernel
theorem dX10_takeNumber_156 : decode cX10_takeNumber 156 = .ok (.iconst 1, 1) := by decide +kernel
theorem dX10_takeNumber_157 : decode cX10_takeNumber 157 = .ok (.goto 4, 3) := by decide +kernel
theorem dX10_takeNumber_160 : decode cX10_takeNumber 160 = .ok (.iconst 0, 1) := by decide +kernel
theorem dX10_takeNumber_161 : decode cX10_takeNumber 161 = .ok (.iconst 2, 1) := by decide +kernel
theorem dX10_takeNumber_162 : decode cX10_takeNumber 162 = .ok (.aload_n 0, 1) := by decide +kernel
theorem dX10_takeNumber_163 : decode cX10_takeNumber 163 = .ok (.getfield 118, 3) := by decide +kernel
theorem dX10_takeNumber_166 : decode cX10_takeNumber 166 = .ok (.invokevirtual 136, 3) := by decide +kernel
theorem dX10_takeNumber_169 : decode cX10_takeNumber 169 = .ok (.istore 5, 2) := by decide +kernel
theorem dX10_takeNumber_171 : decode cX10_takeNumber 171 = .ok (.iload 4, 2) := by decide +kernel
theorem dX10_takeNumber_173 : decode cX10_takeNumber 173 = .ok (.ireturn, 1) := by decide +kernel
theorem dX10_isAhead_0 : decode cX10_isAhead 0 = .ok (.iconst 0, 1) := by decide +kernel
theorem dX10_isAhead_1 : decode cX10_isAhead 1 = .ok (.istore_n 3, 1) := by decide +kernel
theorem dX10_isAhead_2 : decode cX10_isAhead 2 = .ok (.iconst 0, 1) := by decide +kernel
theorem dX10_isAhead_3 : decode cX10_isAhead 3 = .ok (.istore 4, 2) := by decide +kernel
theorem dX10_isAhead_5 : decode cX10_isAhead 5 = .ok (.iload 4, 2) := by decide +kernel
theorem dX10_isAhead_7 : decode cX10_isAhead 7 = .ok (.aload_n 0, 1) := by decide +kernel
theorem dX10_isAhead_8 : decode cX10_isAhead 8 = .ok (.getfield 140, 3) := by decide +kernel
theorem dX10_isAhead_11 : decode cX10_isAhead 11 = .ok (.if_icmp .ge 38, 3) := by decide +kernel
theorem dX10_isAhead_14 : decode cX10_isAhead 14 = .ok (.iload_n 3, 1) := by decide +kernel
theorem dX10_isAhead_15 : decode cX10_isAhead 15 = .ok (.ifCond .ne 22, 3) := by decide +kernel
theorem dX10_isAhead_18 : decode cX10_isAhead 18 = .ok (.aload_n 0, 1) := by decide +kernel
theorem dX10_isAhead_19 : decode cX10_isAhead 19 = .ok (.getfield 38, 3) := by decide +kernel
theorem dX10_isAhead_22 : decode cX10_isAhead 22 = .ok (.bipush 8, 2) := by decide +kernel
theorem dX10_isAhead_24 : decode cX10_isAhead 24 = .ok (.iload 4, 2) := by decide +kernel
theorem dX10_isAhead_26 : decode cX10_isAhead 26 = .ok (.imul, 1) := by decide +kernel
theorem dX10_isAhead_27 : decode cX10_isAhead 27 = .ok (.iload_n 1, 1) := by decide +kernel
theorem dX10_isAhead_28 : decode cX10_isAhead 28 = .ok (.iadd, 1) := by decide +kernel
theorem dX10_isAhead_29 : decode cX10_isAhead 29 = .ok (.iaload, 1) := by decide +kernel
theorem dX10_isAhead_30 : decode cX10_isAhead 30 = .ok (.iload_n 2, 1) := by decide +kernel
theorem dX10_isAhead_31 : decode cX10_isAhead 31 = .ok (.invokestatic 143, 3) := by decide +kernel
theorem dX10_isAhead_34 : decode cX10_isAhead 34 = .ok (.ifCond .eq 7, 3) := by decide +kernel
theorem dX10_isAhead_37 : decode cX10_isAhead 37 = .ok (.iconst 1, 1) := by decide +kernel
theorem dX10_isAhead_38 : decode cX10_isAhead 38 = .ok (.goto 4, 3) := by decide +kernel
theorem dX10_isAhead_41 : decode cX10_isAhead 41 = .ok (.iconst 0, 1) := by decide +kernel
theorem dX10_isAhead_42 : decode cX10_isAhead 42 = .ok (.istore_n 3, 1) := by decide +kernel
theorem dX10_isAhead_43 : decode cX10_isAhead 43 = .ok (.iinc 4 1, 3) := by decide +kernel
theorem dX10_isAhead_46 : decode cX10_isAhead 46 = .ok (.goto (-41), 3) := by decide +kernel
theorem dX10_isAhead_49 : decode cX10_isAhead 49 = .ok (.iload_n 3, 1) := by decide +kernel
theorem dX10_isAhead_50 : decode cX10_isAhead 50 = .ok (.ireturn, 1) := by decide +kernel
theorem dX10_takeList_0 : decode cX10_takeList 0 = .ok (.iconst 1, 1) := by decide +kernel
theorem dX10_takeList_1 : decode cX10_takeList 1 = .ok (.istore_n 2, 1) := by decide +kernel
theorem dX10_takeList_2 : decode cX10_takeList 2 = .ok (.iconst 0, 1) := by decide +kernel
theorem dX10_takeList_3 : decode cX10_takeList 3 = .ok (.istore_n 3, 1) := by decide +kernel
theorem dX10_takeList_4 : decode cX10_takeList 4 = .ok (.iload_n 2, 1) := by decide +kernel
theorem dX10_takeList_5 : decode cX10_takeList 5 = .ok (.ifCond .eq 214, 3) := by decide +kernel
theorem dX10_takeList_8 : decode cX10_takeList 8 = .ok (.aload_n 0, 1) := by decide +kernel
theorem dX10_takeList_9 : decode cX10_takeList 9 = .ok (.getfield 111, 3) := by decide +kernel
theorem dX10_takeList_12 : decode cX10_takeList 12 = .ok (.ifCond .ne 207, 3) := by decide +kernel
theorem dX10_takeList_15 : decode cX10_takeList 15 = .ok (.aload_n 0, 1) := by decide +kernel
theorem dX10_takeList_16 : decode cX10_takeList 16 = .ok (.iconst 0, 1) := by decide +kernel
theorem dX10_takeList_17 : decode cX10_takeList 17 = .ok (.iload_n 1, 1) := by decide +kernel
theorem dX10_takeList_18 : decode cX10_takeList 18 = .ok (.iconst 2, 1) := by decide +kernel
theorem dX10_takeList_19 : decode cX10_takeList 19 = .ok (.if_icmp .ne 8, 3) := by decide +kernel
theorem dX10_takeList_22 : decode cX10_takeList 22 = .ok (.bipush 9, 2) := by decide +kernel
theorem dX10_takeList_24 : decode cX10_takeList 24 = .ok (.goto 5, 3) := by decide +kernel
theorem dX10_takeList_27 : decode cX10_takeList 27 = .ok (.bipush 7, 2) := by decide +kernel
theorem dX10_takeList_29 : decode cX10_takeList 29 = .ok (.invokevirtual 147, 3) := by decide +kernel
theorem dX10_takeList_32 : decode cX10_takeList 32 = .ok (.istore 4, 2) := by decide +kernel
theorem dX10_takeList_34 : decode cX10_takeList 34 = .ok (.aload_n 0, 1) := by decide +kernel
theorem dX10_takeList_35 : decode cX10_takeList 35 = .ok (.getfield 111, 3) := by decide +kernel
theorem dX10_takeList_38 : decode cX10_takeList 38 = .ok (.ifCond .ne 33, 3) := by decide +kernel
theorem dX10_takeList_41 : decode cX10_takeList 41 = .ok (.aload_n 0, 1) := by decide +kernel
theorem dX10_takeList_42 : decode cX10_takeList 42 = .ok (.iload_n 3, 1) := by decide +kernel
theorem dX10_takeList_43 : decode cX10_takeList 43 = .ok (.iload 4, 2) := by decide +kernel
theorem dX10_takeList_45 : decode cX10_takeList 45 = .ok (.invokestatic 143, 3) := by decide +kernel
theorem dX10_takeList_48 : decode cX10_takeList 48 = .ok (.ifCond .ne 7, 3) := by decide +kernel
theorem dX10_takeList_51 : decode cX10_takeList 51 = .ok (.iconst 1, 1) := by decide +kernel
theorem dX10_takeList_52 : decode cX10_takeList 52 = .ok (.goto 4, 3) := by decide +kernel
theorem dX10_takeList_55 : decode cX10_takeList 55 = .ok (.iconst 0, 1) := by decide +kernel
theorem dX10_takeList_56 : decode cX10_takeList 56 = .ok (.iconst 3, 1) := by decide +kernel
theorem dX10_takeList_57 : decode cX10_takeList 57 = .ok (.aload_n 0, 1) := by decide +kernel
theorem dX10_takeList_58 : decode cX10_takeList 58 = .ok (.getfield 118, 3) := by decide +kernel
theorem dX10_takeList_61 : decode cX10_takeList 61 = .ok (.invokevirtual 136, 3) := by decide +kernel
theorem dX10_takeList_64 : decode cX10_takeList 64 = .ok (.ifCond .eq 7, 3) := by decide +kernel
theorem dX10_takeList_67 : decode cX10_takeList 67 = .ok (.iconst 1, 1) := by decide +kernel
theorem dX10_takeList_68 : decode cX10_takeList 68 = .ok (.goto 4, 3) := by decide +kernel
theorem dX10_takeList_71 : decode cX10_takeList 71 = .ok (.iconst 0, 1) := by decide +kernel
theorem dX10_takeList_72 : decode cX10_takeList 72 = .ok (.istore 5, 2) := by decide +kernel
theorem dX10_takeList_74 : decode cX10_takeList 74 = .ok (.iload 5, 2) := by decide +kernel
theorem dX10_takeList_76 : decode cX10_takeList 76 = .ok (.ifCond .eq 38, 3) := by decide +kernel
theorem dX10_takeList_79 : decode cX10_takeList 79 = .ok (.aload_n 0, 1) := by decide +kernel
theorem dX10_takeList_80 : decode cX10_takeList 80 = .ok (.iload_n 1, 1) := by decide +kernel
theorem dX10_takeList_81 : decode cX10_takeList 81 = .ok (.iconst 2, 1) := by decide +kernel
theorem dX10_takeList_82 : decode cX10_takeList 82 = .ok (.if_icmp .ne 12, 3) := by decide +kernel
theorem dX10_takeList_85 : decode cX10_takeList 85 = .ok (.iload 4, 2) := by decide +kernel
theorem dX10_takeList_87 : decode cX10_takeList 87 = .ok (.aload_n 0, 1) := by decide +kernel
theorem dX10_takeList_88 : decode cX10_takeList 88 = .ok (.getfield 140, 3) := by decide +kernel
theorem dX10_takeList_91 : decode cX10_takeList 91 = .ok (.if_icmp .ge 7, 3) := by decide +kernel
theorem dX10_takeList_94 : decode cX10_takeList 94 = .ok (.iconst 1, 1) := by decide +kernel
theorem dX10_takeList_95 : decode cX10_takeList 95 = .ok (.goto 4, 3) := by decide +kernel
theorem dX10_takeList_98 : decode cX10_takeList 98 = .ok (.iconst 0, 1) := by decide +kernel
theorem dX10_takeList_99 : decode cX10_takeList 99 = .ok (.iconst 4, 1) := by decide +kernel
theorem dX10_takeList_100 : decode cX10_takeList 100 = .ok (.aload_n 0, 1) := by decide +kernel
theorem dX10_takeList_101 : decode cX10_takeList 101 = .ok (.getfield 118, 3) := by decide +kernel
theorem dX10_takeList_104 : decode cX10_takeList 104 = .ok (.invokevirtual 136, 3) := by decide +kernel
theorem dX10_takeList_107 : decode cX10_takeList 107 = .ok (.ifCond .eq 7, 3) := by decide +kernel
theorem dX10_takeList_110 : decode cX10_takeList 110 = .ok (.iconst 1, 1) := by decide +kernel
theorem dX10_takeList_111 : decode cX10_takeList 111 = .ok (.goto 4, 3) := by decide +kernel
theorem dX10_takeList_114 : decode cX10_takeList 114 = .ok (.iconst 0, 1) := by decide +kernel
theorem dX10_takeList_115 : decode cX10_takeList 115 = .ok (.istore 5, 2) := by decide +kernel
theorem dX10_takeList_117 : decode cX10_takeList 117 = .ok (.iload 5, 2) := by decide +kernel
theorem dX10_takeList_119 : decode cX10_takeList 119 = .ok (.ifCond .eq 45, 3) := by decide +kernel
theorem dX10_takeList_122 : decode cX10_takeList 122 = .ok (.aload_n 0, 1) := by decide +kernel
theorem dX10_takeList_123 : decode cX10_takeList 123 = .ok (.iload_n 1, 1) := by decide +kernel
theorem dX10_takeList_124 : decode cX10_takeList 124 = .ok (.iconst 3, 1) := by decide +kernel
theorem dX10_takeList_125 : decode cX10_takeList 125 = .ok (.if_icmp .eq 8, 3) := by decide +kernel
theorem dX10_takeList_128 : decode cX10_takeList 128 = .ok (.iload_n 1, 1) := by decide +kernel
theorem dX10_takeList_129 : decode cX10_takeList 129 = .ok (.iconst 4, 1) := by decide +kernel
theorem dX10_takeList_130 : decode cX10_takeList 130 = .ok (.if_icmp .ne 13, 3) := by decide +kernel
theorem dX10_takeList_133 : decode cX10_takeList 133 = .ok (.aload_n 0, 1) := by decide +kernel
theorem dX10_takeList_134 : decode cX10_takeList 134 = .ok (.iload_n 1, 1) := by decide +kernel
theorem dX10_takeList_135 : decode cX10_takeList 135 = .ok (.iload 4, 2) := by decide +kernel
theorem dX10_takeList_137 : decode cX10_takeList 137 = .ok (.invokevirtual 151, 3) := by decide +kernel
theorem dX10_takeList_140 : decode cX10_takeList 140 = .ok (.ifCond .ne 7, 3) := by decide +kernel
theorem dX10_takeList_143 : decode cX10_takeList 143 = .ok (.iconst 1, 1) := by decide +kernel
theorem dX10_takeList_144 : decode cX10_takeList 144 = .ok (.goto 4, 3) := by decide +kernel
theorem dX10_takeList_147 : decode cX10_takeList 147 = .ok (.iconst 0, 1) := by decide +kernel
theorem dX10_takeList_148 : decode cX10_takeList 148 = .ok (.bipush 6, 2) := by decide +kernel
theorem dX10_takeList_150 : decode cX10_takeList 150 = .ok (.aload_n 0, 1) := by decide +kernel
theorem dX10_takeList_151 : decode cX10_takeList 151 = .ok (.getfield 118, 3) := by decide +kernel
theorem dX10_takeList_154 : decode cX10_takeList 154 = .ok (.invokevirtual 136, 3) := by decide +kernel
theorem dX10_takeList_157 : decode cX10_takeList 157 = .ok (.ifCond .eq 7, 3) := by decide +kernel
theorem dX10_takeList_160 : decode cX10_takeList 160 = .ok (.iconst 1, 1) := by decide +kernel
theorem dX10_takeList_161 : decode cX10_takeList 161 = .ok (.goto 4, 3) := by decide +kernel
theorem dX10_takeList_164 : decode cX10_takeList 164 = .ok (.iconst 0, 1) := by decide +kernel
theorem dX10_takeList_165 : decode cX10_takeList 165 = .ok (.istore 5, 2) := by decide +kernel
theorem dX10_takeList_167 : decode cX10_takeList 167 = .ok (.iload_n 3, 1) := by decide +kernel
theorem dX10_takeList_168 : decode cX10_takeList 168 = .ok (.iload 5, 2) := by decide +kernel
theorem dX10_takeList_170 : decode cX10_takeList 170 = .ok (.ifCond .eq 10, 3) := by decide +kernel
theorem dX10_takeList_173 : decode cX10_takeList 173 = .ok (.iconst 1, 1) := by decide +kernel
theorem dX10_takeList_174 : decode cX10_takeList 174 = .ok (.iload 4, 2) := by decide +kernel
theorem dX10_takeList_176 : decode cX10_takeList 176 = .ok (.ishl, 1) := by decide +kernel
theorem dX10_takeList_177 : decode cX10_takeList 177 = .ok (.goto 4, 3) := by decide +kernel
theorem dX10_takeList_180 : decode cX10_takeList 180 = .ok (.iconst 0, 1) := by decide +kernel
theorem dX10_takeList_181 : decode cX10_takeList 181 = .ok (.ior, 1) := by decide +kernel
theorem dX10_takeList_182 : decode cX10_takeList 182 = .ok (.istore_n 3, 1) := by decide +kernel
theorem dX10_takeList_183 : decode cX10_takeList 183 = .ok (.iload 5, 2) := by decide +kernel
theorem dX10_takeList_185 : decode cX10_takeList 185 = .ok (.ifCond .eq 16, 3) := by decide +kernel
theorem dX10_takeList_188 : decode cX10_takeList 188 = .ok (.aload_n 0, 1) := by decide +kernel
theorem dX10_takeList_189 : decode cX10_takeList 189 = .ok (.invokevirtual 114, 3) := by decide +kernel
theorem dX10_takeList_192 : decode cX10_takeList 192 = .ok (.bipush 44, 2) := by decide +kernel
theorem dX10_takeList_194 : decode cX10_takeList 194 = .ok (.if_icmp .ne 7, 3) := by decide +kernel
theorem dX10_takeList_197 : decode cX10_takeList 197 = .ok (.iconst 1, 1) := by decide +kernel
theorem dX10_takeList_198 : decode cX10_takeList 198 = .ok (.goto 4, 3) := by decide +kernel
theorem dX10_takeList_201 : decode cX10_takeList 201 = .ok (.iconst 0, 1) := by decide +kernel
theorem dX10_takeList_202 : decode cX10_takeList 202 = .ok (.istore_n 2, 1) := by decide +kernel
theorem dX10_takeList_203 : decode cX10_takeList 203 = .ok (.aload_n 0, 1) := by decide +kernel
theorem dX10_takeList_204 : decode cX10_takeList 204 = .ok (.dup, 1) := by decide +kernel
theorem dX10_takeList_205 : decode cX10_takeList 205 = .ok (.getfield 108, 3) := by decide +kernel
theorem dX10_takeList_208 : decode cX10_takeList 208 = .ok (.iload_n 2, 1) := by decide +kernel
theorem dX10_takeList_209 : decode cX10_takeList 209 = .ok (.invokestatic 154, 3) := by decide +kernel
theorem dX10_takeList_212 : decode cX10_takeList 212 = .ok (.iadd, 1) := by decide +kernel
theorem dX10_takeList_213 : decode cX10_takeList 213 = .ok (.putfield 108, 3) := by decide +kernel
theorem dX10_takeList_216 : decode cX10_takeList 216 = .ok (.goto (-212), 3) := by decide +kernel
theorem dX10_takeList_219 : decode cX10_takeList 219 = .ok (.aload_n 0, 1) := by decide +kernel
theorem dX10_takeList_220 : decode cX10_takeList 220 = .ok (.getfield 38, 3) := by decide +kernel
theorem dX10_takeList_223 : decode cX10_takeList 223 = .ok (.bipush 8, 2) := by decide +kernel
theorem dX10_takeList_225 : decode cX10_takeList 225 = .ok (.aload_n 0, 1) := by decide +kernel
theorem dX10_takeList_226 : decode cX10_takeList 226 = .ok (.getfield 140, 3) := by decide +kernel
theorem dX10_takeList_229 : decode cX10_takeList 229 = .ok (.imul, 1) := by decide +kernel
theorem dX10_takeList_230 : decode cX10_takeList 230 = .ok (.iload_n 1, 1) := by decide +kernel
theorem dX10_takeList_231 : decode cX10_takeList 231 = .ok (.iadd, 1) := by decide +kernel
theorem dX10_takeList_232 : decode cX10_takeList 232 = .ok (.iload_n 3, 1) := by decide +kernel
theorem dX10_takeList_233 : decode cX10_takeList 233 = .ok (.iastore, 1) := by decide +kernel
theorem dX10_takeList_234 : decode cX10_takeList 234 = .ok (.return_, 1) := by decide +kernel
theorem dX10_takeDying_0 : decode cX10_takeDying 0 = .ok (.aload_n 0, 1) := by decide +kernel
theorem dX10_takeDying_1 : decode cX10_takeDying 1 = .ok (.iconst 0, 1) := by decide +kernel
theorem dX10_takeDying_2 : decode cX10_takeDying 2 = .ok (.bipush 7, 2) := by decide +kernel
theorem dX10_takeDying_4 : decode cX10_takeDying 4 = .ok (.invokevirtual 147, 3) := by decide +kernel
theorem dX10_takeDying_7 : decode cX10_takeDying 7 = .ok (.istore_n 1, 1) := by decide +kernel
theorem dX10_takeDying_8 : decode cX10_takeDying 8 = .ok (.iconst 1, 1) := by decide +kernel
theorem dX10_takeDying_9 : decode cX10_takeDying 9 = .ok (.istore_n 2, 1) := by decide +kernel
theorem dX10_takeDying_10 : decode cX10_takeDying 10 = .ok (.iconst 0, 1) := by decide +kernel
theorem dX10_takeDying_11 : decode cX10_takeDying 11 = .ok (.istore_n 3, 1) := by decide +kernel
theorem dX10_takeDying_12 : decode cX10_takeDying 12 = .ok (.iload_n 3, 1) := by decide +kernel
theorem dX10_takeDying_13 : decode cX10_takeDying 13 = .ok (.aload_n 0, 1) := by decide +kernel
theorem dX10_takeDying_14 : decode cX10_takeDying 14 = .ok (.getfield 140, 3) := by decide +kernel
theorem dX10_takeDying_17 : decode cX10_takeDying 17 = .ok (.if_icmp .ge 29, 3) := by decide +kernel
theorem dX10_takeDying_20 : decode cX10_takeDying 20 = .ok (.iload_n 2, 1) := by decide +kernel
theorem dX10_takeDying_21 : decode cX10_takeDying 21 = .ok (.ifCond .eq 17, 3) := by decide +kernel
theorem dX10_takeDying_24 : decode cX10_takeDying 24 = .ok (.aload_n 0, 1) := by decide +kernel
theorem dX10_takeDying_25 : decode cX10_takeDying 25 = .ok (.getfield 35, 3) := by decide +kernel
theorem dX10_takeDying_28 : decode cX10_takeDying 28 = .ok (.iload_n 3, 1) := by decide +kernel
theorem dX10_takeDying_29 : decode cX10_takeDying 29 = .ok (.iaload, 1) := by decide +kernel
theorem dX10_takeDying_30 : decode cX10_takeDying 30 = .ok (.iload_n 1, 1) := by decide +kernel
theorem dX10_takeDying_31 : decode cX10_takeDying 31 = .ok (.if_icmp .eq 7, 3) := by decide +kernel
theorem dX10_takeDying_34 : decode cX10_takeDying 34 = .ok (.iconst 1, 1) := by decide +kernel
theorem dX10_takeDying_35 : decode cX10_takeDying 35 = .ok (.goto 4, 3) := by decide +kernel
theorem dX10_takeDying_38 : decode cX10_takeDying 38 = .ok (.iconst 0, 1) := by decide +kernel
theorem dX10_takeDying_39 : decode cX10_takeDying 39 = .ok (.istore_n 2, 1) := by decide +kernel
theorem dX10_takeDying_40 : decode cX10_takeDying 40 = .ok (.iinc 3 1, 3) := by decide +kernel
theorem dX10_takeDying_43 : decode cX10_takeDying 43 = .ok (.goto (-31), 3) := by decide +kernel
theorem dX10_takeDying_46 : decode cX10_takeDying 46 = .ok (.aload_n 0, 1) := by decide +kernel
theorem dX10_takeDying_47 : decode cX10_takeDying 47 = .ok (.getfield 111, 3) := by decide +kernel
theorem dX10_takeDying_50 : decode cX10_takeDying 50 = .ok (.ifCond .ne 47, 3) := by decide +kernel
theorem dX10_takeDying_53 : decode cX10_takeDying 53 = .ok (.aload_n 0, 1) := by decide +kernel
theorem dX10_takeDying_54 : decode cX10_takeDying 54 = .ok (.iload_n 2, 1) := by decide +kernel
theorem dX10_takeDying_55 : decode cX10_takeDying 55 = .ok (.bipush 7, 2) := by decide +kernel
theorem dX10_takeDying_57 : decode cX10_takeDying 57 = .ok (.aload_n 0, 1) := by decide +kernel
theorem dX10_takeDying_58 : decode cX10_takeDying 58 = .ok (.getfield 118, 3) := by decide +kernel
theorem dX10_takeDying_61 : decode cX10_takeDying 61 = .ok (.invokevirtual 136, 3) := by decide +kernel
theorem dX10_takeDying_64 : decode cX10_takeDying 64 = .ok (.ifCond .eq 33, 3) := by decide +kernel
theorem dX10_takeDying_67 : decode cX10_takeDying 67 = .ok (.aload_n 0, 1) := by decide +kernel
theorem dX10_takeDying_68 : decode cX10_takeDying 68 = .ok (.getfield 35, 3) := by decide +kernel
theorem dX10_takeDying_71 : decode cX10_takeDying 71 = .ok (.aload_n 0, 1) := by decide +kernel
theorem dX10_takeDying_72 : decode cX10_takeDying 72 = .ok (.getfield 140, 3) := by decide +kernel
theorem dX10_takeDying_75 : decode cX10_takeDying 75 = .ok (.iload_n 1, 1) := by decide +kernel
theorem dX10_takeDying_76 : decode cX10_takeDying 76 = .ok (.iastore, 1) := by decide +kernel
theorem dX10_takeDying_77 : decode cX10_takeDying 77 = .ok (.aload_n 0, 1) := by decide +kernel
theorem dX10_takeDying_78 : decode cX10_takeDying 78 = .ok (.getfield 38, 3) := by decide +kernel
theorem dX10_takeDying_81 : decode cX10_takeDying 81 = .ok (.bipush 8, 2) := by decide +kernel
theorem dX10_takeDying_83 : decode cX10_takeDying 83 = .ok (.aload_n 0, 1) := by decide +kernel
theorem dX10_takeDying_84 : decode cX10_takeDying 84 = .ok (.getfield 140, 3) := by decide +kernel
theorem dX10_takeDying_87 : decode cX10_takeDying 87 = .ok (.imul, 1) := by decide +kernel
theorem dX10_takeDying_88 : decode cX10_takeDying 88 = .ok (.iconst 1, 1) := by decide +kernel
theorem dX10_takeDying_89 : decode cX10_takeDying 89 = .ok (.iadd, 1) := by decide +kernel
theorem dX10_takeDying_90 : decode cX10_takeDying 90 = .ok (.dup2, 1) := by decide +kernel
theorem dX10_takeDying_91 : decode cX10_takeDying 91 = .ok (.iaload, 1) := by decide +kernel
theorem dX10_takeDying_92 : decode cX10_takeDying 92 = .ok (.iconst 1, 1) := by decide +kernel
theorem dX10_takeDying_93 : decode cX10_takeDying 93 = .ok (.iload_n 1, 1) := by decide +kernel
theorem dX10_takeDying_94 : decode cX10_takeDying 94 = .ok (.ishl, 1) := by decide +kernel
theorem dX10_takeDying_95 : decode cX10_takeDying 95 = .ok (.ior, 1) := by decide +kernel
theorem dX10_takeDying_96 : decode cX10_takeDying 96 = .ok (.iastore, 1) := by decide +kernel
theorem dX10_takeDying_97 : decode cX10_takeDying 97 = .ok (.return_, 1) := by decide +kernel
theorem dX10_takeScene_0 : decode cX10_takeScene 0 = .ok (.aload_n 0, 1) := by decide +kernel
theorem dX10_takeScene_1 : decode cX10_takeScene 1 = .ok (.invokevirtual 158, 3) := by decide +kernel
theorem dX10_takeScene_4 : decode cX10_takeScene 4 = .ok (.aload_n 0, 1) := by decide +kernel
theorem dX10_takeScene_5 : decode cX10_takeScene 5 = .ok (.aload_n 0, 1) := by decide +kernel
theorem dX10_takeScene_6 : decode cX10_takeScene 6 = .ok (.iconst 5, 1) := by decide +kernel
theorem dX10_takeScene_7 : decode cX10_takeScene 7 = .ok (.bipush 115, 2) := by decide +kernel
theorem dX10_takeScene_9 : decode cX10_takeScene 9 = .ok (.bipush 99, 2) := by decide +kernel
theorem dX10_takeScene_11 : decode cX10_takeScene 11 = .ok (.bipush 101, 2) := by decide +kernel
theorem dX10_takeScene_13 : decode cX10_takeScene 13 = .ok (.bipush 110, 2) := by decide +kernel
theorem dX10_takeScene_15 : decode cX10_takeScene 15 = .ok (.bipush 101, 2) := by decide +kernel
theorem dX10_takeScene_17 : decode cX10_takeScene 17 = .ok (.invokevirtual 128, 3) := by decide +kernel
theorem dX10_takeScene_20 : decode cX10_takeScene 20 = .ok (.iconst 1, 1) := by decide +kernel
theorem dX10_takeScene_21 : decode cX10_takeScene 21 = .ok (.aload_n 0, 1) := by decide +kernel
theorem dX10_takeScene_22 : decode cX10_takeScene 22 = .ok (.getfield 118, 3) := by decide +kernel
theorem dX10_takeScene_25 : decode cX10_takeScene 25 = .ok (.invokevirtual 136, 3) := by decide +kernel
theorem dX10_takeScene_28 : decode cX10_takeScene 28 = .ok (.ifCond .eq 216, 3) := by decide +kernel
theorem dX10_takeScene_31 : decode cX10_takeScene 31 = .ok (.aload_n 0, 1) := by decide +kernel
theorem dX10_takeScene_32 : decode cX10_takeScene 32 = .ok (.aload_n 0, 1) := by decide +kernel
theorem dX10_takeScene_33 : decode cX10_takeScene 33 = .ok (.getfield 140, 3) := by decide +kernel
theorem dX10_takeScene_36 : decode cX10_takeScene 36 = .ok (.bipush 10, 2) := by decide +kernel
theorem dX10_takeScene_38 : decode cX10_takeScene 38 = .ok (.if_icmp .ge 7, 3) := by decide +kernel
theorem dX10_takeScene_41 : decode cX10_takeScene 41 = .ok (.iconst 1, 1) := by decide +kernel
theorem dX10_takeScene_42 : decode cX10_takeScene 42 = .ok (.goto 4, 3) := by decide +kernel
theorem dX10_takeScene_45 : decode cX10_takeScene 45 = .ok (.iconst 0, 1) := by decide +kernel
theorem dX10_takeScene_46 : decode cX10_takeScene 46 = .ok (.iconst 5, 1) := by decide +kernel
theorem dX10_takeScene_47 : decode cX10_takeScene 47 = .ok (.aload_n 0, 1) := by decide +kernel
theorem dX10_takeScene_48 : decode cX10_takeScene 48 = .ok (.getfield 118, 3) := by decide +kernel
theorem dX10_takeScene_51 : decode cX10_takeScene 51 = .ok (.invokevirtual 136, 3) := by decide +kernel
theorem dX10_takeScene_54 : decode cX10_takeScene 54 = .ok (.ifCond .eq 190, 3) := by decide +kernel
theorem dX10_takeScene_57 : decode cX10_takeScene 57 = .ok (.aload_n 0, 1) := by decide +kernel
theorem dX10_takeScene_58 : decode cX10_takeScene 58 = .ok (.getfield 32, 3) := by decide +kernel
theorem dX10_takeScene_61 : decode cX10_takeScene 61 = .ok (.aload_n 0, 1) := by decide +kernel
theorem dX10_takeScene_62 : decode cX10_takeScene 62 = .ok (.getfield 140, 3) := by decide +kernel
theorem dX10_takeScene_65 : decode cX10_takeScene 65 = .ok (.aload_n 0, 1) := by decide +kernel
theorem dX10_takeScene_66 : decode cX10_takeScene 66 = .ok (.iconst 1, 1) := by decide +kernel
theorem dX10_takeScene_67 : decode cX10_takeScene 67 = .ok (.bipush 99, 2) := by decide +kernel
theorem dX10_takeScene_69 : decode cX10_takeScene 69 = .ok (.invokevirtual 147, 3) := by decide +kernel
theorem dX10_takeScene_72 : decode cX10_takeScene 72 = .ok (.iastore, 1) := by decide +kernel
theorem dX10_takeScene_73 : decode cX10_takeScene 73 = .ok (.aload_n 0, 1) := by decide +kernel
theorem dX10_takeScene_74 : decode cX10_takeScene 74 = .ok (.getfield 35, 3) := by decide +kernel
theorem dX10_takeScene_77 : decode cX10_takeScene 77 = .ok (.aload_n 0, 1) := by decide +kernel
theorem dX10_takeScene_78 : decode cX10_takeScene 78 = .ok (.getfield 140, 3) := by decide +kernel
theorem dX10_takeScene_81 : decode cX10_takeScene 81 = .ok (.iconst (-1), 1) := by decide +kernel
theorem dX10_takeScene_82 : decode cX10_takeScene 82 = .ok (.iastore, 1) := by decide +kernel
theorem dX10_takeScene_83 : decode cX10_takeScene 83 = .ok (.iconst 0, 1) := by decide +kernel
theorem dX10_takeScene_84 : decode cX10_takeScene 84 = .ok (.istore_n 1, 1) := by decide +kernel
theorem dX10_takeScene_85 : decode cX10_takeScene 85 = .ok (.iload_n 1, 1) := by decide +kernel
theorem dX10_takeScene_86 : decode cX10_takeScene 86 = .ok (.bipush 8, 2) := by decide +kernel
theorem dX10_takeScene_88 : decode cX10_takeScene 88 = .ok (.if_icmp .ge 24, 3) := by decide +kernel
theorem dX10_takeScene_91 : decode cX10_takeScene 91 = .ok (.aload_n 0, 1) := by decide +kernel
theorem dX10_takeScene_92 : decode cX10_takeScene 92 = .ok (.getfield 38, 3) := by decide +kernel
theorem dX10_takeScene_95 : decode cX10_takeScene 95 = .ok (.bipush 8, 2) := by decide +kernel
theorem dX10_takeScene_97 : decode cX10_takeScene 97 = .ok (.aload_n 0, 1) := by decide +kernel
theorem dX10_takeScene_98 : decode cX10_takeScene 98 = .ok (.getfield 140, 3) := by decide +kernel
theorem dX10_takeScene_101 : decode cX10_takeScene 101 = .ok (.imul, 1) := by decide +kernel
theorem dX10_takeScene_102 : decode cX10_takeScene 102 = .ok (.iload_n 1, 1) := by decide +kernel
theorem dX10_takeScene_103 : decode cX10_takeScene 103 = .ok (.iadd, 1) := by decide +kernel
theorem dX10_takeScene_104 : decode cX10_takeScene 104 = .ok (.iconst 0, 1) := by decide +kernel
theorem dX10_takeScene_105 : decode cX10_takeScene 105 = .ok (.iastore, 1) := by decide +kernel
theorem dX10_takeScene_106 : decode cX10_takeScene 106 = .ok (.iinc 1 1, 3) := by decide +kernel
theorem dX10_takeScene_109 : decode cX10_takeScene 109 = .ok (.goto (-24), 3) := by decide +kernel
theorem dX10_takeScene_112 : decode cX10_takeScene 112 = .ok (.iconst (-1), 1) := by decide +kernel
theorem dX10_takeScene_113 : decode cX10_takeScene 113 = .ok (.istore_n 1, 1) := by decide +kernel
theorem dX10_takeScene_114 : decode cX10_takeScene 114 = .ok (.aload_n 0, 1) := by decide +kernel
theorem dX10_takeScene_115 : decode cX10_takeScene 115 = .ok (.getfield 111, 3) := by decide +kernel
theorem dX10_takeScene_118 : decode cX10_takeScene 118 = .ok (.ifCond .ne 92, 3) := by decide +kernel
theorem dX10_takeScene_121 : decode cX10_takeScene 121 = .ok (.aload_n 0, 1) := by decide +kernel
theorem dX10_takeScene_122 : decode cX10_takeScene 122 = .ok (.invokevirtual 114, 3) := by decide +kernel
theorem dX10_takeScene_125 : decode cX10_takeScene 125 = .ok (.bipush 59, 2) := by decide +kernel
theorem dX10_takeScene_127 : decode cX10_takeScene 127 = .ok (.if_icmp .eq 83, 3) := by decide +kernel
theorem dX10_takeScene_130 : decode cX10_takeScene 130 = .ok (.aload_n 0, 1) := by decide +kernel
theorem dX10_takeScene_131 : decode cX10_takeScene 131 = .ok (.invokevirtual 158, 3) := by decide +kernel
theorem dX10_takeScene_134 : decode cX10_takeScene 134 = .ok (.aload_n 0, 1) := by decide +kernel
theorem dX10_takeScene_135 : decode cX10_takeScene 135 = .ok (.invokevirtual 161, 3) := by decide +kernel
theorem dX10_takeScene_138 : decode cX10_takeScene 138 = .ok (.istore_n 2, 1) := by decide +kernel
theorem dX10_takeScene_139 : decode cX10_takeScene 139 = .ok (.aload_n 0, 1) := by decide +kernel
theorem dX10_takeScene_140 : decode cX10_takeScene 140 = .ok (.iload_n 2, 1) := by decide +kernel
theorem dX10_takeScene_141 : decode cX10_takeScene 141 = .ok (.iload_n 1, 1) := by decide +kernel
theorem dX10_takeScene_142 : decode cX10_takeScene 142 = .ok (.if_icmp .le 7, 3) := by decide +kernel
theorem dX10_takeScene_145 : decode cX10_takeScene 145 = .ok (.iconst 1, 1) := by decide +kernel
theorem dX10_takeScene_146 : decode cX10_takeScene 146 = .ok (.goto 4, 3) := by decide +kernel
theorem dX10_takeScene_149 : decode cX10_takeScene 149 = .ok (.iconst 0, 1) := by decide +kernel
theorem dX10_takeScene_150 : decode cX10_takeScene 150 = .ok (.iconst 1, 1) := by decide +kernel
theorem dX10_takeScene_151 : decode cX10_takeScene 151 = .ok (.aload_n 0, 1) := by decide +kernel
theorem dX10_takeScene_152 : decode cX10_takeScene 152 = .ok (.getfield 118, 3) := by decide +kernel
theorem dX10_takeScene_155 : decode cX10_takeScene 155 = .ok (.invokevirtual 136, 3) := by decide +kernel
theorem dX10_takeScene_158 : decode cX10_takeScene 158 = .ok (.ifCond .eq 49, 3) := by decide +kernel
theorem dX10_takeScene_161 : decode cX10_takeScene 161 = .ok (.iload_n 2, 1) := by decide +kernel
theorem dX10_takeScene_162 : decode cX10_takeScene 162 = .ok (.istore_n 1, 1) := by decide +kernel
theorem dX10_takeScene_163 : decode cX10_takeScene 163 = .ok (.iload_n 2, 1) := by decide +kernel
theorem dX10_takeScene_164 : decode cX10_takeScene 164 = .ok (.ifCond .ne 25, 3) := by decide +kernel
theorem dX10_takeScene_167 : decode cX10_takeScene 167 = .ok (.aload_n 0, 1) := by decide +kernel
theorem dX10_takeScene_168 : decode cX10_takeScene 168 = .ok (.getfield 38, 3) := by decide +kernel
theorem dX10_takeScene_171 : decode cX10_takeScene 171 = .ok (.bipush 8, 2) := by decide +kernel
theorem dX10_takeScene_173 : decode cX10_takeScene 173 = .ok (.aload_n 0, 1) := by decide +kernel
theorem dX10_takeScene_174 : decode cX10_takeScene 174 = .ok (.getfield 140, 3) := by decide +kernel
theorem dX10_takeScene_177 : decode cX10_takeScene 177 = .ok (.imul, 1) := by decide +kernel
theorem dX10_takeScene_178 : decode cX10_takeScene 178 = .ok (.aload_n 0, 1) := by decide +kernel
theorem dX10_takeScene_179 : decode cX10_takeScene 179 = .ok (.iconst 0, 1) := by decide +kernel
theorem dX10_takeScene_180 : decode cX10_takeScene 180 = .ok (.bipush 9, 2) := by decide +kernel
theorem dX10_takeScene_182 : decode cX10_takeScene 182 = .ok (.invokevirtual 147, 3) := by decide +kernel
theorem dX10_takeScene_185 : decode cX10_takeScene 185 = .ok (.iastore, 1) := by decide +kernel
theorem dX10_takeScene_186 : decode cX10_takeScene 186 = .ok (.goto 21, 3) := by decide +kernel
theorem dX10_takeScene_189 : decode cX10_takeScene 189 = .ok (.iload_n 2, 1) := by decide +kernel
theorem dX10_takeScene_190 : decode cX10_takeScene 190 = .ok (.bipush 7, 2) := by decide +kernel
theorem dX10_takeScene_192 : decode cX10_takeScene 192 = .ok (.if_icmp .ne 10, 3) := by decide +kernel
theorem dX10_takeScene_195 : decode cX10_takeScene 195 = .ok (.aload_n 0, 1) := by decide +kernel
theorem dX10_takeScene_196 : decode cX10_takeScene 196 = .ok (.invokevirtual 164, 3) := by decide +kernel
theorem dX10_takeScene_199 : decode cX10_takeScene 199 = .ok (.goto 8, 3) := by decide +kernel
theorem dX10_takeScene_202 : decode cX10_takeScene 202 = .ok (.aload_n 0, 1) := by decide +kernel
theorem dX10_takeScene_203 : decode cX10_takeScene 203 = .ok (.iload_n 2, 1) := by decide +kernel
theorem dX10_takeScene_204 : decode cX10_takeScene 204 = .ok (.invokevirtual 167, 3) := by decide +kernel
theorem dX10_takeScene_207 : decode cX10_takeScene 207 = .ok (.goto (-93), 3) := by decide +kernel
theorem dX10_takeScene_210 : decode cX10_takeScene 210 = .ok (.aload_n 0, 1) := by decide +kernel
theorem dX10_takeScene_211 : decode cX10_takeScene 211 = .ok (.dup, 1) := by decide +kernel
theorem dX10_takeScene_212 : decode cX10_takeScene 212 = .ok (.getfield 108, 3) := by decide +kernel
theorem dX10_takeScene_215 : decode cX10_takeScene 215 = .ok (.aload_n 0, 1) := by decide +kernel
theorem dX10_takeScene_216 : decode cX10_takeScene 216 = .ok (.getfield 111, 3) := by decide +kernel
theorem dX10_takeScene_219 : decode cX10_takeScene 219 = .ok (.ifCond .ne 7, 3) := by decide +kernel
theorem dX10_takeScene_222 : decode cX10_takeScene 222 = .ok (.iconst 1, 1) := by decide +kernel
theorem dX10_takeScene_223 : decode cX10_takeScene 223 = .ok (.goto 4, 3) := by decide +kernel
theorem dX10_takeScene_226 : decode cX10_takeScene 226 = .ok (.iconst 0, 1) := by decide +kernel
theorem dX10_takeScene_227 : decode cX10_takeScene 227 = .ok (.invokestatic 154, 3) := by decide +kernel
theorem dX10_takeScene_230 : decode cX10_takeScene 230 = .ok (.iadd, 1) := by decide +kernel
theorem dX10_takeScene_231 : decode cX10_takeScene 231 = .ok (.putfield 108, 3) := by decide +kernel
theorem dX10_takeScene_234 : decode cX10_takeScene 234 = .ok (.aload_n 0, 1) := by decide +kernel
theorem dX10_takeScene_235 : decode cX10_takeScene 235 = .ok (.dup, 1) := by decide +kernel
theorem dX10_takeScene_236 : decode cX10_takeScene 236 = .ok (.getfield 140, 3) := by decide +kernel
theorem dX10_takeScene_239 : decode cX10_takeScene 239 = .ok (.iconst 1, 1) := by decide +kernel
theorem dX10_takeScene_240 : decode cX10_takeScene 240 = .ok (.iadd, 1) := by decide +kernel
theorem dX10_takeScene_241 : decode cX10_takeScene 241 = .ok (.putfield 140, 3) := by decide +kernel
theorem dX10_takeScene_244 : decode cX10_takeScene 244 = .ok (.return_, 1) := by decide +kernel
theorem dX10_story_0 : decode cX10_story 0 = .ok (.aload_n 0, 1) := by decide +kernel
theorem dX10_story_1 : decode cX10_story 1 = .ok (.iconst 0, 1) := by decide +kernel
theorem dX10_story_2 : decode cX10_story 2 = .ok (.putfield 108, 3) := by decide +kernel
theorem dX10_story_5 : decode cX10_story 5 = .ok (.aload_n 0, 1) := by decide +kernel
theorem dX10_story_6 : decode cX10_story 6 = .ok (.iconst 0, 1) := by decide +kernel
theorem dX10_story_7 : decode cX10_story 7 = .ok (.putfield 111, 3) := by decide +kernel
theorem dX10_story_10 : decode cX10_story 10 = .ok (.aload_n 0, 1) := by decide +kernel
theorem dX10_story_11 : decode cX10_story 11 = .ok (.iconst (-1), 1) := by decide +kernel
theorem dX10_story_12 : decode cX10_story 12 = .ok (.putfield 28, 3) := by decide +kernel
theorem dX10_story_15 : decode cX10_story 15 = .ok (.aload_n 0, 1) := by decide +kernel
theorem dX10_story_16 : decode cX10_story 16 = .ok (.iconst 0, 1) := by decide +kernel
theorem dX10_story_17 : decode cX10_story 17 = .ok (.putfield 140, 3) := by decide +kernel
theorem dX10_story_20 : decode cX10_story 20 = .ok (.aload_n 0, 1) := by decide +kernel
theorem dX10_story_21 : decode cX10_story 21 = .ok (.getfield 111, 3) := by decide +kernel
theorem dX10_story_24 : decode cX10_story 24 = .ok (.ifCond .ne 17, 3) := by decide +kernel
theorem dX10_story_27 : decode cX10_story 27 = .ok (.aload_n 0, 1) := by decide +kernel
theorem dX10_story_28 : decode cX10_story 28 = .ok (.invokevirtual 114, 3) := by decide +kernel
theorem dX10_story_31 : decode cX10_story 31 = .ok (.ifCond .lt 10, 3) := by decide +kernel
theorem dX10_story_34 : decode cX10_story 34 = .ok (.aload_n 0, 1) := by decide +kernel
theorem dX10_story_35 : decode cX10_story 35 = .ok (.invokevirtual 171, 3) := by decide +kernel
theorem dX10_story_38 : decode cX10_story 38 = .ok (.goto (-18), 3) := by decide +kernel
theorem dX10_story_41 : decode cX10_story 41 = .ok (.aload_n 0, 1) := by decide +kernel
theorem dX10_story_42 : decode cX10_story 42 = .ok (.iconst 0, 1) := by decide +kernel
theorem dX10_story_43 : decode cX10_story 43 = .ok (.putfield 103, 3) := by decide +kernel
theorem dX10_story_46 : decode cX10_story 46 = .ok (.aload_n 0, 1) := by decide +kernel
theorem dX10_story_47 : decode cX10_story 47 = .ok (.getfield 111, 3) := by decide +kernel
theorem dX10_story_50 : decode cX10_story 50 = .ok (.ifCond .le 11, 3) := by decide +kernel
theorem dX10_story_53 : decode cX10_story 53 = .ok (.bipush (-10), 2) := by decide +kernel
theorem dX10_story_55 : decode cX10_story 55 = .ok (.aload_n 0, 1) := by decide +kernel
theorem dX10_story_56 : decode cX10_story 56 = .ok (.getfield 111, 3) := by decide +kernel
theorem dX10_story_59 : decode cX10_story 59 = .ok (.isub, 1) := by decide +kernel
theorem dX10_story_60 : decode cX10_story 60 = .ok (.ireturn, 1) := by decide +kernel
theorem dX10_story_61 : decode cX10_story 61 = .ok (.aload_n 0, 1) := by decide +kernel
theorem dX10_story_62 : decode cX10_story 62 = .ok (.aload_n 0, 1) := by decide +kernel
theorem dX10_story_63 : decode cX10_story 63 = .ok (.getfield 140, 3) := by decide +kernel
theorem dX10_story_66 : decode cX10_story 66 = .ok (.putfield 174, 3) := by decide +kernel
theorem dX10_story_69 : decode cX10_story 69 = .ok (.iconst 0, 1) := by decide +kernel
theorem dX10_story_70 : decode cX10_story 70 = .ok (.istore_n 1, 1) := by decide +kernel
theorem dX10_story_71 : decode cX10_story 71 = .ok (.iload_n 1, 1) := by decide +kernel
theorem dX10_story_72 : decode cX10_story 72 = .ok (.aload_n 0, 1) := by decide +kernel
theorem dX10_story_73 : decode cX10_story 73 = .ok (.getfield 174, 3) := by decide +kernel
theorem dX10_story_76 : decode cX10_story 76 = .ok (.if_icmp .ge 33, 3) := by decide +kernel
theorem dX10_story_79 : decode cX10_story 79 = .ok (.aload_n 0, 1) := by decide +kernel
theorem dX10_story_80 : decode cX10_story 80 = .ok (.getfield 7, 3) := by decide +kernel
theorem dX10_story_83 : decode cX10_story 83 = .ok (.iload_n 1, 1) := by decide +kernel
theorem dX10_story_84 : decode cX10_story 84 = .ok (.aload_n 0, 1) := by decide +kernel
theorem dX10_story_85 : decode cX10_story 85 = .ok (.getfield 32, 3) := by decide +kernel
theorem dX10_story_88 : decode cX10_story 88 = .ok (.iload_n 1, 1) := by decide +kernel
theorem dX10_story_89 : decode cX10_story 89 = .ok (.iaload, 1) := by decide +kernel
theorem dX10_story_90 : decode cX10_story 90 = .ok (.iastore, 1) := by decide +kernel
theorem dX10_story_91 : decode cX10_story 91 = .ok (.aload_n 0, 1) := by decide +kernel
theorem dX10_story_92 : decode cX10_story 92 = .ok (.getfield 13, 3) := by decide +kernel
theorem dX10_story_95 : decode cX10_story 95 = .ok (.iload_n 1, 1) := by decide +kernel
theorem dX10_story_96 : decode cX10_story 96 = .ok (.aload_n 0, 1) := by decide +kernel
theorem dX10_story_97 : decode cX10_story 97 = .ok (.getfield 35, 3) := by decide +kernel
theorem dX10_story_100 : decode cX10_story 100 = .ok (.iload_n 1, 1) := by decide +kernel
theorem dX10_story_101 : decode cX10_story 101 = .ok (.iaload, 1) := by decide +kernel
theorem dX10_story_102 : decode cX10_story 102 = .ok (.iastore, 1) := by decide +kernel
theorem dX10_story_103 : decode cX10_story 103 = .ok (.iinc 1 1, 3) := by decide +kernel
theorem dX10_story_106 : decode cX10_story 106 = .ok (.goto (-35), 3) := by decide +kernel
theorem dX10_story_109 : decode cX10_story 109 = .ok (.iconst 0, 1) := by decide +kernel
theorem dX10_story_110 : decode cX10_story 110 = .ok (.istore_n 1, 1) := by decide +kernel
theorem dX10_story_111 : decode cX10_story 111 = .ok (.iload_n 1, 1) := by decide +kernel
theorem dX10_story_112 : decode cX10_story 112 = .ok (.bipush 80, 2) := by decide +kernel
theorem dX10_story_114 : decode cX10_story 114 = .ok (.if_icmp .ge 21, 3) := by decide +kernel
theorem dX10_story_117 : decode cX10_story 117 = .ok (.aload_n 0, 1) := by decide +kernel
theorem dX10_story_118 : decode cX10_story 118 = .ok (.getfield 16, 3) := by decide +kernel
theorem dX10_story_121 : decode cX10_story 121 = .ok (.iload_n 1, 1) := by decide +kernel
theorem dX10_story_122 : decode cX10_story 122 = .ok (.aload_n 0, 1) := by decide +kernel
theorem dX10_story_123 : decode cX10_story 123 = .ok (.getfield 38, 3) := by decide +kernel
theorem dX10_story_126 : decode cX10_story 126 = .ok (.iload_n 1, 1) := by decide +kernel
theorem dX10_story_127 : decode cX10_story 127 = .ok (.iaload, 1) := by decide +kernel
theorem dX10_story_128 : decode cX10_story 128 = .ok (.iastore, 1) := by decide +kernel
theorem dX10_story_129 : decode cX10_story 129 = .ok (.iinc 1 1, 3) := by decide +kernel
theorem dX10_story_132 : decode cX10_story 132 = .ok (.goto (-21), 3) := by decide +kernel
theorem dX10_story_135 : decode cX10_story 135 = .ok (.aload_n 0, 1) := by decide +kernel
theorem dX10_story_136 : decode cX10_story 136 = .ok (.iconst 0, 1) := by decide +kernel
theorem dX10_story_137 : decode cX10_story 137 = .ok (.putfield 177, 3) := by decide +kernel
theorem dX10_story_140 : decode cX10_story 140 = .ok (.aload_n 0, 1) := by decide +kernel
theorem dX10_story_141 : decode cX10_story 141 = .ok (.iconst 0, 1) := by decide +kernel
theorem dX10_story_142 : decode cX10_story 142 = .ok (.putfield 180, 3) := by decide +kernel
theorem dX10_story_145 : decode cX10_story 145 = .ok (.aload_n 0, 1) := by decide +kernel
theorem dX10_story_146 : decode cX10_story 146 = .ok (.iconst 0, 1) := by decide +kernel
theorem dX10_story_147 : decode cX10_story 147 = .ok (.putfield 183, 3) := by decide +kernel
theorem dX10_story_150 : decode cX10_story 150 = .ok (.aload_n 0, 1) := by decide +kernel
theorem dX10_story_151 : decode cX10_story 151 = .ok (.iconst 0, 1) := by decide +kernel
theorem dX10_story_152 : decode cX10_story 152 = .ok (.putfield 186, 3) := by decide +kernel
theorem dX10_story_155 : decode cX10_story 155 = .ok (.aload_n 0, 1) := by decide +kernel
theorem dX10_story_156 : decode cX10_story 156 = .ok (.dup, 1) := by decide +kernel
theorem dX10_story_157 : decode cX10_story 157 = .ok (.getfield 189, 3) := by decide +kernel
theorem dX10_story_160 : decode cX10_story 160 = .ok (.iconst 1, 1) := by decide +kernel
theorem dX10_story_161 : decode cX10_story 161 = .ok (.iadd, 1) := by decide +kernel
theorem dX10_story_162 : decode cX10_story 162 = .ok (.putfield 189, 3) := by decide +kernel
theorem dX10_story_165 : decode cX10_story 165 = .ok (.aload_n 0, 1) := by decide +kernel
theorem dX10_story_166 : decode cX10_story 166 = .ok (.getfield 174, 3) := by decide +kernel
theorem dX10_story_169 : decode cX10_story 169 = .ok (.ireturn, 1) := by decide +kernel
theorem dX10_fault_0 : decode cX10_fault 0 = .ok (.aload_n 0, 1) := by decide +kernel
theorem dX10_fault_1 : decode cX10_fault 1 = .ok (.getfield 28, 3) := by decide +kernel
theorem dX10_fault_4 : decode cX10_fault 4 = .ok (.ireturn, 1) := by decide +kernel
theorem dX10_setOf_0 : decode cX10_setOf 0 = .ok (.aload_n 0, 1) := by decide +kernel
theorem dX10_setOf_1 : decode cX10_setOf 1 = .ok (.getfield 16, 3) := by decide +kernel
theorem dX10_setOf_4 : decode cX10_setOf 4 = .ok (.bipush 8, 2) := by decide +kernel
theorem dX10_setOf_6 : decode cX10_setOf 6 = .ok (.iload_n 1, 1) := by decide +kernel
theorem dX10_setOf_7 : decode cX10_setOf 7 = .ok (.imul, 1) := by decide +kernel
theorem dX10_setOf_8 : decode cX10_setOf 8 = .ok (.iload_n 2, 1) := by decide +kernel
theorem dX10_setOf_9 : decode cX10_setOf 9 = .ok (.iadd, 1) := by decide +kernel
theorem dX10_setOf_10 : decode cX10_setOf 10 = .ok (.iaload, 1) := by decide +kernel
theorem dX10_setOf_11 : decode cX10_setOf 11 = .ok (.ireturn, 1) := by decide +kernel
theorem dX10_noScene_0 : decode cX10_noScene 0 = .ok (.iload_n 1, 1) := by decide +kernel
theorem dX10_noScene_1 : decode cX10_noScene 1 = .ok (.i2l, 1) := by decide +kernel
theorem dX10_noScene_2 : decode cX10_noScene 2 = .ok (.lconst 0, 1) := by decide +kernel
theorem dX10_noScene_3 : decode cX10_noScene 3 = .ok (.aload_n 0, 1) := by decide +kernel
theorem dX10_noScene_4 : decode cX10_noScene 4 = .ok (.getfield 174, 3) := by decide +kernel
theorem dX10_noScene_7 : decode cX10_noScene 7 = .ok (.iconst 1, 1) := by decide +kernel
theorem dX10_noScene_8 : decode cX10_noScene 8 = .ok (.isub, 1) := by decide +kernel
theorem dX10_noScene_9 : decode cX10_noScene 9 = .ok (.i2l, 1) := by decide +kernel
theorem dX10_noScene_10 : decode cX10_noScene 10 = .ok (.invokestatic 99, 3) := by decide +kernel
theorem dX10_noScene_13 : decode cX10_noScene 13 = .ok (.ifCond .ne 7, 3) := by decide +kernel
theorem dX10_noScene_16 : decode cX10_noScene 16 = .ok (.iconst 1, 1) := by decide +kernel
theorem dX10_noScene_17 : decode cX10_noScene 17 = .ok (.goto 4, 3) := by decide +kernel
theorem dX10_noScene_20 : decode cX10_noScene 20 = .ok (.iconst 0, 1) := by decide +kernel
theorem dX10_noScene_21 : decode cX10_noScene 21 = .ok (.ireturn, 1) := by decide +kernel
theorem dX10_all_0 : decode cX10_all 0 = .ok (.iconst 1, 1) := by decide +kernel
theorem dX10_all_1 : decode cX10_all 1 = .ok (.aload_n 0, 1) := by decide +kernel
theorem dX10_all_2 : decode cX10_all 2 = .ok (.getfield 174, 3) := by decide +kernel
theorem dX10_all_5 : decode cX10_all 5 = .ok (.ishl, 1) := by decide +kernel
theorem dX10_all_6 : decode cX10_all 6 = .ok (.iconst 1, 1) := by decide +kernel
theorem dX10_all_7 : decode cX10_all 7 = .ok (.isub, 1) := by decide +kernel
theorem dX10_all_8 : decode cX10_all 8 = .ok (.ireturn, 1) := by decide +kernel
theorem dX10_noSet_0 : decode cX10_noSet 0 = .ok (.iload_n 1, 1) := by decide +kernel
theorem dX10_noSet_1 : decode cX10_noSet 1 = .ok (.i2l, 1) := by decide +kernel
theorem dX10_noSet_2 : decode cX10_noSet 2 = .ok (.lconst 0, 1) := by decide +kernel
theorem dX10_noSet_3 : decode cX10_noSet 3 = .ok (.aload_n 0, 1) := by decide +kernel
theorem dX10_noSet_4 : decode cX10_noSet 4 = .ok (.invokevirtual 192, 3) := by decide +kernel
theorem dX10_noSet_7 : decode cX10_noSet 7 = .ok (.i2l, 1) := by decide +kernel
theorem dX10_noSet_8 : decode cX10_noSet 8 = .ok (.invokestatic 99, 3) := by decide +kernel
theorem dX10_noSet_11 : decode cX10_noSet 11 = .ok (.ifCond .ne 7, 3) := by decide +kernel
theorem dX10_noSet_14 : decode cX10_noSet 14 = .ok (.iconst 1, 1) := by decide +kernel
theorem dX10_noSet_15 : decode cX10_noSet 15 = .ok (.goto 4, 3) := by decide +kernel
theorem dX10_noSet_18 : decode cX10_noSet 18 = .ok (.iconst 0, 1) := by decide +kernel
theorem dX10_noSet_19 : decode cX10_noSet 19 = .ok (.ireturn, 1) := by decide +kernel
theorem dX10_scene_0 : decode cX10_scene 0 = .ok (.aload_n 0, 1) := by decide +kernel
theorem dX10_scene_1 : decode cX10_scene 1 = .ok (.iload_n 1, 1) := by decide +kernel
theorem dX10_scene_2 : decode cX10_scene 2 = .ok (.invokevirtual 195, 3) := by decide +kernel
theorem dX10_scene_5 : decode cX10_scene 5 = .ok (.ifCond .eq 7, 3) := by decide +kernel
theorem dX10_scene_8 : decode cX10_scene 8 = .ok (.sipush (-1001), 3) := by decide +kernel
theorem dX10_scene_11 : decode cX10_scene 11 = .ok (.ireturn, 1) := by decide +kernel
theorem dX10_scene_12 : decode cX10_scene 12 = .ok (.iload_n 2, 1) := by decide +kernel
theorem dX10_scene_13 : decode cX10_scene 13 = .ok (.tableswitch 84 0 9 #[55, 62, 62, 62, 62, 62, 62, 62, 71, 78], 55) := by decide +kernel
theorem dX10_scene_68 : decode cX10_scene 68 = .ok (.aload_n 0, 1) := by decide +kernel
theorem dX10_scene_69 : decode cX10_scene 69 = .ok (.getfield 7, 3) := by decide +kernel
theorem dX10_scene_72 : decode cX10_scene 72 = .ok (.iload_n 1, 1) := by decide +kernel
theorem dX10_scene_73 : decode cX10_scene 73 = .ok (.iaload, 1) := by decide +kernel
theorem dX10_scene_74 : decode cX10_scene 74 = .ok (.ireturn, 1) := by decide +kernel
theorem dX10_scene_75 : decode cX10_scene 75 = .ok (.aload_n 0, 1) := by decide +kernel
theorem dX10_scene_76 : decode cX10_scene 76 = .ok (.iload_n 1, 1) := by decide +kernel
theorem dX10_scene_77 : decode cX10_scene 77 = .ok (.iload_n 2, 1) := by decide +kernel
theorem dX10_scene_78 : decode cX10_scene 78 = .ok (.iconst 1, 1) := by decide +kernel
theorem dX10_scene_79 : decode cX10_scene 79 = .ok (.isub, 1) := by decide +kernel
theorem dX10_scene_80 : decode cX10_scene 80 = .ok (.invokevirtual 199, 3) := by decide +kernel
theorem dX10_scene_83 : decode cX10_scene 83 = .ok (.ireturn, 1) := by decide +kernel
theorem dX10_scene_84 : decode cX10_scene 84 = .ok (.aload_n 0, 1) := by decide +kernel
theorem dX10_scene_85 : decode cX10_scene 85 = .ok (.getfield 13, 3) := by decide +kernel
theorem dX10_scene_88 : decode cX10_scene 88 = .ok (.iload_n 1, 1) := by decide +kernel
theorem dX10_scene_89 : decode cX10_scene 89 = .ok (.iaload, 1) := by decide +kernel
theorem dX10_scene_90 : decode cX10_scene 90 = .ok (.ireturn, 1) := by decide +kernel
theorem dX10_scene_91 : decode cX10_scene 91 = .ok (.aload_n 0, 1) := by decide +kernel
theorem dX10_scene_92 : decode cX10_scene 92 = .ok (.iload_n 1, 1) := by decide +kernel
theorem dX10_scene_93 : decode cX10_scene 93 = .ok (.invokevirtual 202, 3) := by decide +kernel
theorem dX10_scene_96 : decode cX10_scene 96 = .ok (.ireturn, 1) := by decide +kernel
theorem dX10_scene_97 : decode cX10_scene 97 = .ok (.sipush (-1002), 3) := by decide +kernel
theorem dX10_scene_100 : decode cX10_scene 100 = .ok (.ireturn, 1) := by decide +kernel
theorem dX10_never_0 : decode cX10_never 0 = .ok (.iload_n 1, 1) := by decide +kernel
theorem dX10_never_1 : decode cX10_never 1 = .ok (.i2l, 1) := by decide +kernel
theorem dX10_never_2 : decode cX10_never 2 = .ok (.lconst 0, 1) := by decide +kernel
theorem dX10_never_3 : decode cX10_never 3 = .ok (.ldc2_w 206, 3) := by decide +kernel
theorem dX10_never_6 : decode cX10_never 6 = .ok (.invokestatic 99, 3) := by decide +kernel
theorem dX10_never_9 : decode cX10_never 9 = .ok (.ifCond .eq 20, 3) := by decide +kernel
theorem dX10_never_12 : decode cX10_never 12 = .ok (.iload_n 2, 1) := by decide +kernel
theorem dX10_never_13 : decode cX10_never 13 = .ok (.i2l, 1) := by decide +kernel
theorem dX10_never_14 : decode cX10_never 14 = .ok (.lconst 0, 1) := by decide +kernel
theorem dX10_never_15 : decode cX10_never 15 = .ok (.ldc2_w 206, 3) := by decide +kernel
theorem dX10_never_18 : decode cX10_never 18 = .ok (.invokestatic 99, 3) := by decide +kernel
theorem dX10_never_21 : decode cX10_never 21 = .ok (.ifCond .eq 8, 3) := by decide +kernel
theorem dX10_never_24 : decode cX10_never 24 = .ok (.iload_n 1, 1) := by decide +kernel
theorem dX10_never_25 : decode cX10_never 25 = .ok (.iload_n 2, 1) := by decide +kernel
theorem dX10_never_26 : decode cX10_never 26 = .ok (.if_icmp .ne 7, 3) := by decide +kernel
theorem dX10_never_29 : decode cX10_never 29 = .ok (.sipush (-1001), 3) := by decide +kernel
theorem dX10_never_32 : decode cX10_never 32 = .ok (.ireturn, 1) := by decide +kernel
theorem dX10_never_33 : decode cX10_never 33 = .ok (.aload_n 0, 1) := by decide +kernel
theorem dX10_never_34 : decode cX10_never 34 = .ok (.getfield 19, 3) := by decide +kernel
theorem dX10_never_37 : decode cX10_never 37 = .ok (.iload_n 1, 1) := by decide +kernel
theorem dX10_never_38 : decode cX10_never 38 = .ok (.iaload, 1) := by decide +kernel
theorem dX10_never_39 : decode cX10_never 39 = .ok (.iload_n 2, 1) := by decide +kernel
theorem dX10_never_40 : decode cX10_never 40 = .ok (.ishr, 1) := by decide +kernel
theorem dX10_never_41 : decode cX10_never 41 = .ok (.iconst 1, 1) := by decide +kernel
theorem dX10_never_42 : decode cX10_never 42 = .ok (.iand, 1) := by decide +kernel
theorem dX10_never_43 : decode cX10_never 43 = .ok (.istore 4, 2) := by decide +kernel
theorem dX10_never_45 : decode cX10_never 45 = .ok (.aload_n 0, 1) := by decide +kernel
theorem dX10_never_46 : decode cX10_never 46 = .ok (.getfield 19, 3) := by decide +kernel
theorem dX10_never_49 : decode cX10_never 49 = .ok (.iload_n 1, 1) := by decide +kernel
theorem dX10_never_50 : decode cX10_never 50 = .ok (.iload_n 3, 1) := by decide +kernel
theorem dX10_never_51 : decode cX10_never 51 = .ok (.ifCond .eq 16, 3) := by decide +kernel
theorem dX10_never_54 : decode cX10_never 54 = .ok (.aload_n 0, 1) := by decide +kernel
theorem dX10_never_55 : decode cX10_never 55 = .ok (.getfield 19, 3) := by decide +kernel
theorem dX10_never_58 : decode cX10_never 58 = .ok (.iload_n 1, 1) := by decide +kernel
theorem dX10_never_59 : decode cX10_never 59 = .ok (.iaload, 1) := by decide +kernel
theorem dX10_never_60 : decode cX10_never 60 = .ok (.iconst 1, 1) := by decide +kernel
theorem dX10_never_61 : decode cX10_never 61 = .ok (.iload_n 2, 1) := by decide +kernel
theorem dX10_never_62 : decode cX10_never 62 = .ok (.ishl, 1) := by decide +kernel
theorem dX10_never_63 : decode cX10_never 63 = .ok (.ior, 1) := by decide +kernel
theorem dX10_never_64 : decode cX10_never 64 = .ok (.goto 15, 3) := by decide +kernel
theorem dX10_never_67 : decode cX10_never 67 = .ok (.aload_n 0, 1) := by decide +kernel
theorem dX10_never_68 : decode cX10_never 68 = .ok (.getfield 19, 3) := by decide +kernel
theorem dX10_never_71 : decode cX10_never 71 = .ok (.iload_n 1, 1) := by decide +kernel
theorem dX10_never_72 : decode cX10_never 72 = .ok (.iaload, 1) := by decide +kernel
theorem dX10_never_73 : decode cX10_never 73 = .ok (.iconst 1, 1) := by decide +kernel
theorem dX10_never_74 : decode cX10_never 74 = .ok (.iload_n 2, 1) := by decide +kernel
theorem dX10_never_75 : decode cX10_never 75 = .ok (.ishl, 1) := by decide +kernel
theorem dX10_never_76 : decode cX10_never 76 = .ok (.iconst (-1), 1) := by decide +kernel
theorem dX10_never_77 : decode cX10_never 77 = .ok (.ixor, 1) := by decide +kernel
theorem dX10_never_78 : decode cX10_never 78 = .ok (.iand, 1) := by decide +kernel
theorem dX10_never_79 : decode cX10_never 79 = .ok (.iastore, 1) := by decide +kernel
theorem dX10_never_80 : decode cX10_never 80 = .ok (.aload_n 0, 1) := by decide +kernel
theorem dX10_never_81 : decode cX10_never 81 = .ok (.getfield 19, 3) := by decide +kernel
theorem dX10_never_84 : decode cX10_never 84 = .ok (.iload_n 2, 1) := by decide +kernel
theorem dX10_never_85 : decode cX10_never 85 = .ok (.iload_n 3, 1) := by decide +kernel
theorem dX10_never_86 : decode cX10_never 86 = .ok (.ifCond .eq 16, 3) := by decide +kernel
theorem dX10_never_89 : decode cX10_never 89 = .ok (.aload_n 0, 1) := by decide +kernel
theorem dX10_never_90 : decode cX10_never 90 = .ok (.getfield 19, 3) := by decide +kernel
theorem dX10_never_93 : decode cX10_never 93 = .ok (.iload_n 2, 1) := by decide +kernel
theorem dX10_never_94 : decode cX10_never 94 = .ok (.iaload, 1) := by decide +kernel
theorem dX10_never_95 : decode cX10_never 95 = .ok (.iconst 1, 1) := by decide +kernel
theorem dX10_never_96 : decode cX10_never 96 = .ok (.iload_n 1, 1) := by decide +kernel
theorem dX10_never_97 : decode cX10_never 97 = .ok (.ishl, 1) := by decide +kernel
theorem dX10_never_98 : decode cX10_never 98 = .ok (.ior, 1) := by decide +kernel
theorem dX10_never_99 : decode cX10_never 99 = .ok (.goto 15, 3) := by decide +kernel
theorem dX10_never_102 : decode cX10_never 102 = .ok (.aload_n 0, 1) := by decide +kernel
theorem dX10_never_103 : decode cX10_never 103 = .ok (.getfield 19, 3) := by decide +kernel
theorem dX10_never_106 : decode cX10_never 106 = .ok (.iload_n 2, 1) := by decide +kernel
theorem dX10_never_107 : decode cX10_never 107 = .ok (.iaload, 1) := by decide +kernel
theorem dX10_never_108 : decode cX10_never 108 = .ok (.iconst 1, 1) := by decide +kernel
theorem dX10_never_109 : decode cX10_never 109 = .ok (.iload_n 1, 1) := by decide +kernel
theorem dX10_never_110 : decode cX10_never 110 = .ok (.ishl, 1) := by decide +kernel
theorem dX10_never_111 : decode cX10_never 111 = .ok (.iconst (-1), 1) := by decide +kernel
theorem dX10_never_112 : decode cX10_never 112 = .ok (.ixor, 1) := by decide +kernel
theorem dX10_never_113 : decode cX10_never 113 = .ok (.iand, 1) := by decide +kernel
theorem dX10_never_114 : decode cX10_never 114 = .ok (.iastore, 1) := by decide +kernel
theorem dX10_never_115 : decode cX10_never 115 = .ok (.iload 4, 2) := by decide +kernel
theorem dX10_never_117 : decode cX10_never 117 = .ok (.ireturn, 1) := by decide +kernel
theorem dX10_linesOf_0 : decode cX10_linesOf 0 = .ok (.iconst 0, 1) := by decide +kernel
theorem dX10_linesOf_1 : decode cX10_linesOf 1 = .ok (.istore_n 2, 1) := by decide +kernel
theorem dX10_linesOf_2 : decode cX10_linesOf 2 = .ok (.iconst 0, 1) := by decide +kernel
theorem dX10_linesOf_3 : decode cX10_linesOf 3 = .ok (.istore_n 3, 1) := by decide +kernel
theorem dX10_linesOf_4 : decode cX10_linesOf 4 = .ok (.iload_n 3, 1) := by decide +kernel
theorem dX10_linesOf_5 : decode cX10_linesOf 5 = .ok (.aload_n 0, 1) := by decide +kernel
theorem dX10_linesOf_6 : decode cX10_linesOf 6 = .ok (.getfield 174, 3) := by decide +kernel
theorem dX10_linesOf_9 : decode cX10_linesOf 9 = .ok (.if_icmp .ge 30, 3) := by decide +kernel
theorem dX10_linesOf_12 : decode cX10_linesOf 12 = .ok (.iload_n 2, 1) := by decide +kernel
theorem dX10_linesOf_13 : decode cX10_linesOf 13 = .ok (.iload_n 1, 1) := by decide +kernel
theorem dX10_linesOf_14 : decode cX10_linesOf 14 = .ok (.iload_n 3, 1) := by decide +kernel
theorem dX10_linesOf_15 : decode cX10_linesOf 15 = .ok (.invokestatic 143, 3) := by decide +kernel
theorem dX10_linesOf_18 : decode cX10_linesOf 18 = .ok (.ifCond .eq 12, 3) := by decide +kernel
theorem dX10_linesOf_21 : decode cX10_linesOf 21 = .ok (.aload_n 0, 1) := by decide +kernel
theorem dX10_linesOf_22 : decode cX10_linesOf 22 = .ok (.getfield 7, 3) := by decide +kernel
theorem dX10_linesOf_25 : decode cX10_linesOf 25 = .ok (.iload_n 3, 1) := by decide +kernel
theorem dX10_linesOf_26 : decode cX10_linesOf 26 = .ok (.iaload, 1) := by decide +kernel
theorem dX10_linesOf_27 : decode cX10_linesOf 27 = .ok (.goto 4, 3) := by decide +kernel
theorem dX10_linesOf_30 : decode cX10_linesOf 30 = .ok (.iconst 0, 1) := by decide +kernel
theorem dX10_linesOf_31 : decode cX10_linesOf 31 = .ok (.iadd, 1) := by decide +kernel
theorem dX10_linesOf_32 : decode cX10_linesOf 32 = .ok (.istore_n 2, 1) := by decide +kernel
theorem dX10_linesOf_33 : decode cX10_linesOf 33 = .ok (.iinc 3 1, 3) := by decide +kernel
theorem dX10_linesOf_36 : decode cX10_linesOf 36 = .ok (.goto (-32), 3) := by decide +kernel
theorem dX10_linesOf_39 : decode cX10_linesOf 39 = .ok (.iload_n 2, 1) := by decide +kernel
theorem dX10_linesOf_40 : decode cX10_linesOf 40 = .ok (.ireturn, 1) := by decide +kernel
theorem dX10_union_0 : decode cX10_union 0 = .ok (.iconst 0, 1) := by decide +kernel
theorem dX10_union_1 : decode cX10_union 1 = .ok (.istore_n 3, 1) := by decide +kernel
