theorem dX6_sceneOfOrder_91 : decode cX6_sceneOfOrder 91 = .ok (.ishr, 1) := by decide +kernel
theorem dX6_sceneOfOrder_92 : decode cX6_sceneOfOrder 92 = .ok (.iconst 1, 1) := by decide +kernel
theorem dX6_sceneOfOrder_93 : decode cX6_sceneOfOrder 93 = .ok (.iand, 1) := by decide +kernel
theorem dX6_sceneOfOrder_94 : decode cX6_sceneOfOrder 94 = .ok (.iconst 1, 1) := by decide +kernel
theorem dX6_sceneOfOrder_95 : decode cX6_sceneOfOrder 95 = .ok (.if_icmp .ne 18, 3) := by decide +kernel
theorem dX6_sceneOfOrder_98 : decode cX6_sceneOfOrder 98 = .ok (.aload_n 0, 1) := by decide +kernel
theorem dX6_sceneOfOrder_99 : decode cX6_sceneOfOrder 99 = .ok (.getfield 46, 3) := by decide +kernel
theorem dX6_sceneOfOrder_102 : decode cX6_sceneOfOrder 102 = .ok (.iload 7, 2) := by decide +kernel
theorem dX6_sceneOfOrder_104 : decode cX6_sceneOfOrder 104 = .ok (.iconst 1, 1) := by decide +kernel
theorem dX6_sceneOfOrder_105 : decode cX6_sceneOfOrder 105 = .ok (.iload 11, 2) := by decide +kernel
theorem dX6_sceneOfOrder_107 : decode cX6_sceneOfOrder 107 = .ok (.ishl, 1) := by decide +kernel
theorem dX6_sceneOfOrder_108 : decode cX6_sceneOfOrder 108 = .ok (.ior, 1) := by decide +kernel
theorem dX6_sceneOfOrder_109 : decode cX6_sceneOfOrder 109 = .ok (.iaload, 1) := by decide +kernel
theorem dX6_sceneOfOrder_110 : decode cX6_sceneOfOrder 110 = .ok (.goto 4, 3) := by decide +kernel
theorem dX6_sceneOfOrder_113 : decode cX6_sceneOfOrder 113 = .ok (.iconst 0, 1) := by decide +kernel
theorem dX6_sceneOfOrder_114 : decode cX6_sceneOfOrder 114 = .ok (.istore 12, 2) := by decide +kernel
theorem dX6_sceneOfOrder_116 : decode cX6_sceneOfOrder 116 = .ok (.lload 5, 2) := by decide +kernel
theorem dX6_sceneOfOrder_118 : decode cX6_sceneOfOrder 118 = .ok (.iload 12, 2) := by decide +kernel
theorem dX6_sceneOfOrder_120 : decode cX6_sceneOfOrder 120 = .ok (.i2l, 1) := by decide +kernel
theorem dX6_sceneOfOrder_121 : decode cX6_sceneOfOrder 121 = .ok (.lcmp, 1) := by decide +kernel
theorem dX6_sceneOfOrder_122 : decode cX6_sceneOfOrder 122 = .ok (.ifCond .ge 10, 3) := by decide +kernel
theorem dX6_sceneOfOrder_125 : decode cX6_sceneOfOrder 125 = .ok (.iload 11, 2) := by decide +kernel
theorem dX6_sceneOfOrder_127 : decode cX6_sceneOfOrder 127 = .ok (.istore 8, 2) := by decide +kernel
theorem dX6_sceneOfOrder_129 : decode cX6_sceneOfOrder 129 = .ok (.goto 11, 3) := by decide +kernel
theorem dX6_sceneOfOrder_132 : decode cX6_sceneOfOrder 132 = .ok (.lload 5, 2) := by decide +kernel
theorem dX6_sceneOfOrder_134 : decode cX6_sceneOfOrder 134 = .ok (.iload 12, 2) := by decide +kernel
theorem dX6_sceneOfOrder_136 : decode cX6_sceneOfOrder 136 = .ok (.i2l, 1) := by decide +kernel
theorem dX6_sceneOfOrder_137 : decode cX6_sceneOfOrder 137 = .ok (.lsub, 1) := by decide +kernel
theorem dX6_sceneOfOrder_138 : decode cX6_sceneOfOrder 138 = .ok (.lstore 5, 2) := by decide +kernel
theorem dX6_sceneOfOrder_140 : decode cX6_sceneOfOrder 140 = .ok (.iinc 11 1, 3) := by decide +kernel
theorem dX6_sceneOfOrder_143 : decode cX6_sceneOfOrder 143 = .ok (.goto (-74), 3) := by decide +kernel
theorem dX6_sceneOfOrder_146 : decode cX6_sceneOfOrder 146 = .ok (.iload 8, 2) := by decide +kernel
theorem dX6_sceneOfOrder_148 : decode cX6_sceneOfOrder 148 = .ok (.iconst (-1), 1) := by decide +kernel
theorem dX6_sceneOfOrder_149 : decode cX6_sceneOfOrder 149 = .ok (.if_icmp .ne 5, 3) := by decide +kernel
theorem dX6_sceneOfOrder_152 : decode cX6_sceneOfOrder 152 = .ok (.iconst (-1), 1) := by decide +kernel
theorem dX6_sceneOfOrder_153 : decode cX6_sceneOfOrder 153 = .ok (.ireturn, 1) := by decide +kernel
theorem dX6_sceneOfOrder_154 : decode cX6_sceneOfOrder 154 = .ok (.iload 7, 2) := by decide +kernel
theorem dX6_sceneOfOrder_156 : decode cX6_sceneOfOrder 156 = .ok (.iconst 1, 1) := by decide +kernel
theorem dX6_sceneOfOrder_157 : decode cX6_sceneOfOrder 157 = .ok (.iload 8, 2) := by decide +kernel
theorem dX6_sceneOfOrder_159 : decode cX6_sceneOfOrder 159 = .ok (.ishl, 1) := by decide +kernel
theorem dX6_sceneOfOrder_160 : decode cX6_sceneOfOrder 160 = .ok (.ior, 1) := by decide +kernel
theorem dX6_sceneOfOrder_161 : decode cX6_sceneOfOrder 161 = .ok (.istore 7, 2) := by decide +kernel
theorem dX6_sceneOfOrder_163 : decode cX6_sceneOfOrder 163 = .ok (.iinc 9 1, 3) := by decide +kernel
theorem dX6_sceneOfOrder_166 : decode cX6_sceneOfOrder 166 = .ok (.goto (-121), 3) := by decide +kernel
theorem dX6_sceneOfOrder_169 : decode cX6_sceneOfOrder 169 = .ok (.iload 8, 2) := by decide +kernel
theorem dX6_sceneOfOrder_171 : decode cX6_sceneOfOrder 171 = .ok (.ireturn, 1) := by decide +kernel
theorem dX6_isPlace_0 : decode cX6_isPlace 0 = .ok (.aload_n 0, 1) := by decide +kernel
theorem dX6_isPlace_1 : decode cX6_isPlace 1 = .ok (.getfield 40, 3) := by decide +kernel
theorem dX6_isPlace_4 : decode cX6_isPlace 4 = .ok (.iload_n 1, 1) := by decide +kernel
theorem dX6_isPlace_5 : decode cX6_isPlace 5 = .ok (.iaload, 1) := by decide +kernel
theorem dX6_isPlace_6 : decode cX6_isPlace 6 = .ok (.ifCond .le 34, 3) := by decide +kernel
theorem dX6_isPlace_9 : decode cX6_isPlace 9 = .ok (.aload_n 0, 1) := by decide +kernel
theorem dX6_isPlace_10 : decode cX6_isPlace 10 = .ok (.getfield 37, 3) := by decide +kernel
theorem dX6_isPlace_13 : decode cX6_isPlace 13 = .ok (.iload_n 1, 1) := by decide +kernel
theorem dX6_isPlace_14 : decode cX6_isPlace 14 = .ok (.iaload, 1) := by decide +kernel
theorem dX6_isPlace_15 : decode cX6_isPlace 15 = .ok (.iload_n 2, 1) := by decide +kernel
theorem dX6_isPlace_16 : decode cX6_isPlace 16 = .ok (.ishr, 1) := by decide +kernel
theorem dX6_isPlace_17 : decode cX6_isPlace 17 = .ok (.iconst 1, 1) := by decide +kernel
theorem dX6_isPlace_18 : decode cX6_isPlace 18 = .ok (.iand, 1) := by decide +kernel
theorem dX6_isPlace_19 : decode cX6_isPlace 19 = .ok (.iconst 1, 1) := by decide +kernel
theorem dX6_isPlace_20 : decode cX6_isPlace 20 = .ok (.if_icmp .ne 20, 3) := by decide +kernel
theorem dX6_isPlace_23 : decode cX6_isPlace 23 = .ok (.aload_n 0, 1) := by decide +kernel
theorem dX6_isPlace_24 : decode cX6_isPlace 24 = .ok (.getfield 46, 3) := by decide +kernel
theorem dX6_isPlace_27 : decode cX6_isPlace 27 = .ok (.iload_n 1, 1) := by decide +kernel
theorem dX6_isPlace_28 : decode cX6_isPlace 28 = .ok (.iconst 1, 1) := by decide +kernel
theorem dX6_isPlace_29 : decode cX6_isPlace 29 = .ok (.iload_n 2, 1) := by decide +kernel
theorem dX6_isPlace_30 : decode cX6_isPlace 30 = .ok (.ishl, 1) := by decide +kernel
theorem dX6_isPlace_31 : decode cX6_isPlace 31 = .ok (.ior, 1) := by decide +kernel
theorem dX6_isPlace_32 : decode cX6_isPlace 32 = .ok (.iaload, 1) := by decide +kernel
theorem dX6_isPlace_33 : decode cX6_isPlace 33 = .ok (.ifCond .le 7, 3) := by decide +kernel
theorem dX6_isPlace_36 : decode cX6_isPlace 36 = .ok (.iconst 1, 1) := by decide +kernel
theorem dX6_isPlace_37 : decode cX6_isPlace 37 = .ok (.goto 4, 3) := by decide +kernel
theorem dX6_isPlace_40 : decode cX6_isPlace 40 = .ok (.iconst 0, 1) := by decide +kernel
theorem dX6_isPlace_41 : decode cX6_isPlace 41 = .ok (.ireturn, 1) := by decide +kernel
theorem dX6_leastPlace_0 : decode cX6_leastPlace 0 = .ok (.aload_n 0, 1) := by decide +kernel
theorem dX6_leastPlace_1 : decode cX6_leastPlace 1 = .ok (.aload_n 0, 1) := by decide +kernel
theorem dX6_leastPlace_2 : decode cX6_leastPlace 2 = .ok (.getfield 63, 3) := by decide +kernel
theorem dX6_leastPlace_5 : decode cX6_leastPlace 5 = .ok (.iconst 1, 1) := by decide +kernel
theorem dX6_leastPlace_6 : decode cX6_leastPlace 6 = .ok (.isub, 1) := by decide +kernel
theorem dX6_leastPlace_7 : decode cX6_leastPlace 7 = .ok (.invokevirtual 105, 3) := by decide +kernel
theorem dX6_leastPlace_10 : decode cX6_leastPlace 10 = .ok (.iconst (-1), 1) := by decide +kernel
theorem dX6_leastPlace_11 : decode cX6_leastPlace 11 = .ok (.istore_n 2, 1) := by decide +kernel
theorem dX6_leastPlace_12 : decode cX6_leastPlace 12 = .ok (.iconst 0, 1) := by decide +kernel
theorem dX6_leastPlace_13 : decode cX6_leastPlace 13 = .ok (.istore_n 3, 1) := by decide +kernel
theorem dX6_leastPlace_14 : decode cX6_leastPlace 14 = .ok (.iload_n 3, 1) := by decide +kernel
theorem dX6_leastPlace_15 : decode cX6_leastPlace 15 = .ok (.aload_n 0, 1) := by decide +kernel
theorem dX6_leastPlace_16 : decode cX6_leastPlace 16 = .ok (.getfield 63, 3) := by decide +kernel
theorem dX6_leastPlace_19 : decode cX6_leastPlace 19 = .ok (.if_icmp .ge 38, 3) := by decide +kernel
theorem dX6_leastPlace_22 : decode cX6_leastPlace 22 = .ok (.iload_n 3, 1) := by decide +kernel
theorem dX6_leastPlace_23 : decode cX6_leastPlace 23 = .ok (.invokestatic 76, 3) := by decide +kernel
theorem dX6_leastPlace_26 : decode cX6_leastPlace 26 = .ok (.istore 4, 2) := by decide +kernel
theorem dX6_leastPlace_28 : decode cX6_leastPlace 28 = .ok (.aload_n 0, 1) := by decide +kernel
theorem dX6_leastPlace_29 : decode cX6_leastPlace 29 = .ok (.iload_n 3, 1) := by decide +kernel
theorem dX6_leastPlace_30 : decode cX6_leastPlace 30 = .ok (.iload_n 1, 1) := by decide +kernel
theorem dX6_leastPlace_31 : decode cX6_leastPlace 31 = .ok (.invokevirtual 108, 3) := by decide +kernel
theorem dX6_leastPlace_34 : decode cX6_leastPlace 34 = .ok (.ifCond .eq 17, 3) := by decide +kernel
theorem dX6_leastPlace_37 : decode cX6_leastPlace 37 = .ok (.iload_n 2, 1) := by decide +kernel
theorem dX6_leastPlace_38 : decode cX6_leastPlace 38 = .ok (.iconst (-1), 1) := by decide +kernel
theorem dX6_leastPlace_39 : decode cX6_leastPlace 39 = .ok (.if_icmp .eq 9, 3) := by decide +kernel
theorem dX6_leastPlace_42 : decode cX6_leastPlace 42 = .ok (.iload 4, 2) := by decide +kernel
theorem dX6_leastPlace_44 : decode cX6_leastPlace 44 = .ok (.iload_n 2, 1) := by decide +kernel
theorem dX6_leastPlace_45 : decode cX6_leastPlace 45 = .ok (.if_icmp .ge 6, 3) := by decide +kernel
theorem dX6_leastPlace_48 : decode cX6_leastPlace 48 = .ok (.iload 4, 2) := by decide +kernel
theorem dX6_leastPlace_50 : decode cX6_leastPlace 50 = .ok (.istore_n 2, 1) := by decide +kernel
theorem dX6_leastPlace_51 : decode cX6_leastPlace 51 = .ok (.iinc 3 1, 3) := by decide +kernel
theorem dX6_leastPlace_54 : decode cX6_leastPlace 54 = .ok (.goto (-40), 3) := by decide +kernel
theorem dX6_leastPlace_57 : decode cX6_leastPlace 57 = .ok (.iload_n 2, 1) := by decide +kernel
theorem dX6_leastPlace_58 : decode cX6_leastPlace 58 = .ok (.ireturn, 1) := by decide +kernel
theorem dX6_greatestPlace_0 : decode cX6_greatestPlace 0 = .ok (.aload_n 0, 1) := by decide +kernel
theorem dX6_greatestPlace_1 : decode cX6_greatestPlace 1 = .ok (.aload_n 0, 1) := by decide +kernel
theorem dX6_greatestPlace_2 : decode cX6_greatestPlace 2 = .ok (.getfield 63, 3) := by decide +kernel
theorem dX6_greatestPlace_5 : decode cX6_greatestPlace 5 = .ok (.iconst 1, 1) := by decide +kernel
theorem dX6_greatestPlace_6 : decode cX6_greatestPlace 6 = .ok (.isub, 1) := by decide +kernel
theorem dX6_greatestPlace_7 : decode cX6_greatestPlace 7 = .ok (.invokevirtual 105, 3) := by decide +kernel
theorem dX6_greatestPlace_10 : decode cX6_greatestPlace 10 = .ok (.iconst (-1), 1) := by decide +kernel
theorem dX6_greatestPlace_11 : decode cX6_greatestPlace 11 = .ok (.istore_n 2, 1) := by decide +kernel
theorem dX6_greatestPlace_12 : decode cX6_greatestPlace 12 = .ok (.iconst 0, 1) := by decide +kernel
theorem dX6_greatestPlace_13 : decode cX6_greatestPlace 13 = .ok (.istore_n 3, 1) := by decide +kernel
theorem dX6_greatestPlace_14 : decode cX6_greatestPlace 14 = .ok (.iload_n 3, 1) := by decide +kernel
theorem dX6_greatestPlace_15 : decode cX6_greatestPlace 15 = .ok (.aload_n 0, 1) := by decide +kernel
theorem dX6_greatestPlace_16 : decode cX6_greatestPlace 16 = .ok (.getfield 63, 3) := by decide +kernel
theorem dX6_greatestPlace_19 : decode cX6_greatestPlace 19 = .ok (.if_icmp .ge 27, 3) := by decide +kernel
theorem dX6_greatestPlace_22 : decode cX6_greatestPlace 22 = .ok (.aload_n 0, 1) := by decide +kernel
theorem dX6_greatestPlace_23 : decode cX6_greatestPlace 23 = .ok (.iload_n 3, 1) := by decide +kernel
theorem dX6_greatestPlace_24 : decode cX6_greatestPlace 24 = .ok (.iload_n 1, 1) := by decide +kernel
theorem dX6_greatestPlace_25 : decode cX6_greatestPlace 25 = .ok (.invokevirtual 108, 3) := by decide +kernel
theorem dX6_greatestPlace_28 : decode cX6_greatestPlace 28 = .ok (.ifCond .eq 12, 3) := by decide +kernel
theorem dX6_greatestPlace_31 : decode cX6_greatestPlace 31 = .ok (.iload_n 2, 1) := by decide +kernel
theorem dX6_greatestPlace_32 : decode cX6_greatestPlace 32 = .ok (.iload_n 3, 1) := by decide +kernel
theorem dX6_greatestPlace_33 : decode cX6_greatestPlace 33 = .ok (.invokestatic 76, 3) := by decide +kernel
theorem dX6_greatestPlace_36 : decode cX6_greatestPlace 36 = .ok (.invokestatic 82, 3) := by decide +kernel
theorem dX6_greatestPlace_39 : decode cX6_greatestPlace 39 = .ok (.istore_n 2, 1) := by decide +kernel
theorem dX6_greatestPlace_40 : decode cX6_greatestPlace 40 = .ok (.iinc 3 1, 3) := by decide +kernel
theorem dX6_greatestPlace_43 : decode cX6_greatestPlace 43 = .ok (.goto (-29), 3) := by decide +kernel
theorem dX6_greatestPlace_46 : decode cX6_greatestPlace 46 = .ok (.iload_n 2, 1) := by decide +kernel
theorem dX6_greatestPlace_47 : decode cX6_greatestPlace 47 = .ok (.ireturn, 1) := by decide +kernel
theorem dX6_takenAlong_0 : decode cX6_takenAlong 0 = .ok (.iconst 0, 1) := by decide +kernel
theorem dX6_takenAlong_1 : decode cX6_takenAlong 1 = .ok (.istore_n 2, 1) := by decide +kernel
theorem dX6_takenAlong_2 : decode cX6_takenAlong 2 = .ok (.iconst 0, 1) := by decide +kernel
theorem dX6_takenAlong_3 : decode cX6_takenAlong 3 = .ok (.istore_n 3, 1) := by decide +kernel
theorem dX6_takenAlong_4 : decode cX6_takenAlong 4 = .ok (.iload_n 3, 1) := by decide +kernel
theorem dX6_takenAlong_5 : decode cX6_takenAlong 5 = .ok (.aload_n 0, 1) := by decide +kernel
theorem dX6_takenAlong_6 : decode cX6_takenAlong 6 = .ok (.getfield 63, 3) := by decide +kernel
theorem dX6_takenAlong_9 : decode cX6_takenAlong 9 = .ok (.if_icmp .ge 30, 3) := by decide +kernel
theorem dX6_takenAlong_12 : decode cX6_takenAlong 12 = .ok (.aload_n 0, 1) := by decide +kernel
theorem dX6_takenAlong_13 : decode cX6_takenAlong 13 = .ok (.getfield 40, 3) := by decide +kernel
theorem dX6_takenAlong_16 : decode cX6_takenAlong 16 = .ok (.iload_n 3, 1) := by decide +kernel
theorem dX6_takenAlong_17 : decode cX6_takenAlong 17 = .ok (.iaload, 1) := by decide +kernel
theorem dX6_takenAlong_18 : decode cX6_takenAlong 18 = .ok (.ifCond .le 15, 3) := by decide +kernel
theorem dX6_takenAlong_21 : decode cX6_takenAlong 21 = .ok (.iload_n 3, 1) := by decide +kernel
theorem dX6_takenAlong_22 : decode cX6_takenAlong 22 = .ok (.iload_n 1, 1) := by decide +kernel
theorem dX6_takenAlong_23 : decode cX6_takenAlong 23 = .ok (.ishr, 1) := by decide +kernel
theorem dX6_takenAlong_24 : decode cX6_takenAlong 24 = .ok (.iconst 1, 1) := by decide +kernel
theorem dX6_takenAlong_25 : decode cX6_takenAlong 25 = .ok (.iand, 1) := by decide +kernel
theorem dX6_takenAlong_26 : decode cX6_takenAlong 26 = .ok (.ifCond .ne 7, 3) := by decide +kernel
theorem dX6_takenAlong_29 : decode cX6_takenAlong 29 = .ok (.iload_n 2, 1) := by decide +kernel
theorem dX6_takenAlong_30 : decode cX6_takenAlong 30 = .ok (.iload_n 3, 1) := by decide +kernel
theorem dX6_takenAlong_31 : decode cX6_takenAlong 31 = .ok (.ior, 1) := by decide +kernel
theorem dX6_takenAlong_32 : decode cX6_takenAlong 32 = .ok (.istore_n 2, 1) := by decide +kernel
theorem dX6_takenAlong_33 : decode cX6_takenAlong 33 = .ok (.iinc 3 1, 3) := by decide +kernel
theorem dX6_takenAlong_36 : decode cX6_takenAlong 36 = .ok (.goto (-32), 3) := by decide +kernel
theorem dX6_takenAlong_39 : decode cX6_takenAlong 39 = .ok (.aload_n 0, 1) := by decide +kernel
theorem dX6_takenAlong_40 : decode cX6_takenAlong 40 = .ok (.getfield 49, 3) := by decide +kernel
theorem dX6_takenAlong_43 : decode cX6_takenAlong 43 = .ok (.invokevirtual 112, 3) := by decide +kernel
theorem dX6_takenAlong_46 : decode cX6_takenAlong 46 = .ok (.iload_n 2, 1) := by decide +kernel
theorem dX6_takenAlong_47 : decode cX6_takenAlong 47 = .ok (.iconst (-1), 1) := by decide +kernel
theorem dX6_takenAlong_48 : decode cX6_takenAlong 48 = .ok (.ixor, 1) := by decide +kernel
theorem dX6_takenAlong_49 : decode cX6_takenAlong 49 = .ok (.iand, 1) := by decide +kernel
theorem dX6_takenAlong_50 : decode cX6_takenAlong 50 = .ok (.ireturn, 1) := by decide +kernel
theorem dX6_shortestTo_0 : decode cX6_shortestTo 0 = .ok (.iconst (-1), 1) := by decide +kernel
theorem dX6_shortestTo_1 : decode cX6_shortestTo 1 = .ok (.istore_n 2, 1) := by decide +kernel
theorem dX6_shortestTo_2 : decode cX6_shortestTo 2 = .ok (.iconst 0, 1) := by decide +kernel
theorem dX6_shortestTo_3 : decode cX6_shortestTo 3 = .ok (.istore_n 3, 1) := by decide +kernel
theorem dX6_shortestTo_4 : decode cX6_shortestTo 4 = .ok (.iload_n 3, 1) := by decide +kernel
theorem dX6_shortestTo_5 : decode cX6_shortestTo 5 = .ok (.aload_n 0, 1) := by decide +kernel
theorem dX6_shortestTo_6 : decode cX6_shortestTo 6 = .ok (.getfield 63, 3) := by decide +kernel
theorem dX6_shortestTo_9 : decode cX6_shortestTo 9 = .ok (.if_icmp .ge 49, 3) := by decide +kernel
theorem dX6_shortestTo_12 : decode cX6_shortestTo 12 = .ok (.aload_n 0, 1) := by decide +kernel
theorem dX6_shortestTo_13 : decode cX6_shortestTo 13 = .ok (.getfield 40, 3) := by decide +kernel
theorem dX6_shortestTo_16 : decode cX6_shortestTo 16 = .ok (.iload_n 3, 1) := by decide +kernel
theorem dX6_shortestTo_17 : decode cX6_shortestTo 17 = .ok (.iaload, 1) := by decide +kernel
theorem dX6_shortestTo_18 : decode cX6_shortestTo 18 = .ok (.ifCond .le 34, 3) := by decide +kernel
theorem dX6_shortestTo_21 : decode cX6_shortestTo 21 = .ok (.iload_n 3, 1) := by decide +kernel
theorem dX6_shortestTo_22 : decode cX6_shortestTo 22 = .ok (.iload_n 1, 1) := by decide +kernel
theorem dX6_shortestTo_23 : decode cX6_shortestTo 23 = .ok (.ishr, 1) := by decide +kernel
theorem dX6_shortestTo_24 : decode cX6_shortestTo 24 = .ok (.iconst 1, 1) := by decide +kernel
theorem dX6_shortestTo_25 : decode cX6_shortestTo 25 = .ok (.iand, 1) := by decide +kernel
theorem dX6_shortestTo_26 : decode cX6_shortestTo 26 = .ok (.iconst 1, 1) := by decide +kernel
theorem dX6_shortestTo_27 : decode cX6_shortestTo 27 = .ok (.if_icmp .ne 25, 3) := by decide +kernel
theorem dX6_shortestTo_30 : decode cX6_shortestTo 30 = .ok (.iload_n 2, 1) := by decide +kernel
theorem dX6_shortestTo_31 : decode cX6_shortestTo 31 = .ok (.iconst (-1), 1) := by decide +kernel
theorem dX6_shortestTo_32 : decode cX6_shortestTo 32 = .ok (.if_icmp .eq 18, 3) := by decide +kernel
theorem dX6_shortestTo_35 : decode cX6_shortestTo 35 = .ok (.aload_n 0, 1) := by decide +kernel
theorem dX6_shortestTo_36 : decode cX6_shortestTo 36 = .ok (.getfield 15, 3) := by decide +kernel
theorem dX6_shortestTo_39 : decode cX6_shortestTo 39 = .ok (.iload_n 3, 1) := by decide +kernel
theorem dX6_shortestTo_40 : decode cX6_shortestTo 40 = .ok (.iaload, 1) := by decide +kernel
theorem dX6_shortestTo_41 : decode cX6_shortestTo 41 = .ok (.aload_n 0, 1) := by decide +kernel
theorem dX6_shortestTo_42 : decode cX6_shortestTo 42 = .ok (.getfield 15, 3) := by decide +kernel
theorem dX6_shortestTo_45 : decode cX6_shortestTo 45 = .ok (.iload_n 2, 1) := by decide +kernel
theorem dX6_shortestTo_46 : decode cX6_shortestTo 46 = .ok (.iaload, 1) := by decide +kernel
theorem dX6_shortestTo_47 : decode cX6_shortestTo 47 = .ok (.if_icmp .ge 5, 3) := by decide +kernel
theorem dX6_shortestTo_50 : decode cX6_shortestTo 50 = .ok (.iload_n 3, 1) := by decide +kernel
theorem dX6_shortestTo_51 : decode cX6_shortestTo 51 = .ok (.istore_n 2, 1) := by decide +kernel
theorem dX6_shortestTo_52 : decode cX6_shortestTo 52 = .ok (.iinc 3 1, 3) := by decide +kernel
theorem dX6_shortestTo_55 : decode cX6_shortestTo 55 = .ok (.goto (-51), 3) := by decide +kernel
theorem dX6_shortestTo_58 : decode cX6_shortestTo 58 = .ok (.iload_n 2, 1) := by decide +kernel
theorem dX6_shortestTo_59 : decode cX6_shortestTo 59 = .ok (.ireturn, 1) := by decide +kernel
theorem dX7_init_0 : decode cX7_init 0 = .ok (.aload_n 0, 1) := by decide +kernel
theorem dX7_init_1 : decode cX7_init 1 = .ok (.invokespecial 3, 3) := by decide +kernel
theorem dX7_init_4 : decode cX7_init 4 = .ok (.aload_n 0, 1) := by decide +kernel
theorem dX7_init_5 : decode cX7_init 5 = .ok (.bipush 10, 2) := by decide +kernel
theorem dX7_init_7 : decode cX7_init 7 = .ok (.bipush 9, 2) := by decide +kernel
theorem dX7_init_9 : decode cX7_init 9 = .ok (.multianewarray 11 2, 4) := by decide +kernel
theorem dX7_init_13 : decode cX7_init 13 = .ok (.putfield 13, 3) := by decide +kernel
theorem dX7_init_16 : decode cX7_init 16 = .ok (.aload_n 0, 1) := by decide +kernel
theorem dX7_init_17 : decode cX7_init 17 = .ok (.iconst 0, 1) := by decide +kernel
theorem dX7_init_18 : decode cX7_init 18 = .ok (.putfield 16, 3) := by decide +kernel
theorem dX7_init_21 : decode cX7_init 21 = .ok (.return_, 1) := by decide +kernel
theorem dX7_isList_0 : decode cX7_isList 0 = .ok (.iload_n 0, 1) := by decide +kernel
theorem dX7_isList_1 : decode cX7_isList 1 = .ok (.iconst 2, 1) := by decide +kernel
theorem dX7_isList_2 : decode cX7_isList 2 = .ok (.if_icmp .lt 13, 3) := by decide +kernel
theorem dX7_isList_5 : decode cX7_isList 5 = .ok (.iload_n 0, 1) := by decide +kernel
theorem dX7_isList_6 : decode cX7_isList 6 = .ok (.bipush 7, 2) := by decide +kernel
theorem dX7_isList_8 : decode cX7_isList 8 = .ok (.if_icmp .gt 7, 3) := by decide +kernel
theorem dX7_isList_11 : decode cX7_isList 11 = .ok (.iconst 1, 1) := by decide +kernel
theorem dX7_isList_12 : decode cX7_isList 12 = .ok (.goto 4, 3) := by decide +kernel
theorem dX7_isList_15 : decode cX7_isList 15 = .ok (.iconst 0, 1) := by decide +kernel
theorem dX7_isList_16 : decode cX7_isList 16 = .ok (.ireturn, 1) := by decide +kernel
theorem dX7_cell_0 : decode cX7_cell 0 = .ok (.iload_n 1, 1) := by decide +kernel
theorem dX7_cell_1 : decode cX7_cell 1 = .ok (.ifCond .lt 30, 3) := by decide +kernel
theorem dX7_cell_4 : decode cX7_cell 4 = .ok (.iload_n 1, 1) := by decide +kernel
theorem dX7_cell_5 : decode cX7_cell 5 = .ok (.bipush 10, 2) := by decide +kernel
theorem dX7_cell_7 : decode cX7_cell 7 = .ok (.if_icmp .ge 24, 3) := by decide +kernel
theorem dX7_cell_10 : decode cX7_cell 10 = .ok (.iload_n 2, 1) := by decide +kernel
theorem dX7_cell_11 : decode cX7_cell 11 = .ok (.ifCond .lt 20, 3) := by decide +kernel
theorem dX7_cell_14 : decode cX7_cell 14 = .ok (.iload_n 2, 1) := by decide +kernel
theorem dX7_cell_15 : decode cX7_cell 15 = .ok (.bipush 9, 2) := by decide +kernel
theorem dX7_cell_17 : decode cX7_cell 17 = .ok (.if_icmp .ge 14, 3) := by decide +kernel
theorem dX7_cell_20 : decode cX7_cell 20 = .ok (.aload_n 0, 1) := by decide +kernel
theorem dX7_cell_21 : decode cX7_cell 21 = .ok (.getfield 13, 3) := by decide +kernel
theorem dX7_cell_24 : decode cX7_cell 24 = .ok (.iload_n 1, 1) := by decide +kernel
theorem dX7_cell_25 : decode cX7_cell 25 = .ok (.aaload, 1) := by decide +kernel
theorem dX7_cell_26 : decode cX7_cell 26 = .ok (.iload_n 2, 1) := by decide +kernel
theorem dX7_cell_27 : decode cX7_cell 27 = .ok (.iaload, 1) := by decide +kernel
theorem dX7_cell_28 : decode cX7_cell 28 = .ok (.goto 4, 3) := by decide +kernel
theorem dX7_cell_31 : decode cX7_cell 31 = .ok (.iconst 0, 1) := by decide +kernel
theorem dX7_cell_32 : decode cX7_cell 32 = .ok (.ireturn, 1) := by decide +kernel
theorem dX7_put_0 : decode cX7_put 0 = .ok (.iload_n 1, 1) := by decide +kernel
theorem dX7_put_1 : decode cX7_put 1 = .ok (.ifCond .lt 28, 3) := by decide +kernel
theorem dX7_put_4 : decode cX7_put 4 = .ok (.iload_n 1, 1) := by decide +kernel
theorem dX7_put_5 : decode cX7_put 5 = .ok (.bipush 10, 2) := by decide +kernel
theorem dX7_put_7 : decode cX7_put 7 = .ok (.if_icmp .ge 22, 3) := by decide +kernel
theorem dX7_put_10 : decode cX7_put 10 = .ok (.iload_n 2, 1) := by decide +kernel
theorem dX7_put_11 : decode cX7_put 11 = .ok (.ifCond .lt 18, 3) := by decide +kernel
theorem dX7_put_14 : decode cX7_put 14 = .ok (.iload_n 2, 1) := by decide +kernel
theorem dX7_put_15 : decode cX7_put 15 = .ok (.bipush 9, 2) := by decide +kernel
theorem dX7_put_17 : decode cX7_put 17 = .ok (.if_icmp .ge 12, 3) := by decide +kernel
theorem dX7_put_20 : decode cX7_put 20 = .ok (.aload_n 0, 1) := by decide +kernel
theorem dX7_put_21 : decode cX7_put 21 = .ok (.getfield 13, 3) := by decide +kernel
theorem dX7_put_24 : decode cX7_put 24 = .ok (.iload_n 1, 1) := by decide +kernel
theorem dX7_put_25 : decode cX7_put 25 = .ok (.aaload, 1) := by decide +kernel
theorem dX7_put_26 : decode cX7_put 26 = .ok (.iload_n 2, 1) := by decide +kernel
theorem dX7_put_27 : decode cX7_put 27 = .ok (.iload_n 3, 1) := by decide +kernel
theorem dX7_put_28 : decode cX7_put 28 = .ok (.iastore, 1) := by decide +kernel
theorem dX7_put_29 : decode cX7_put 29 = .ok (.return_, 1) := by decide +kernel
theorem dX7_include_0 : decode cX7_include 0 = .ok (.iload_n 1, 1) := by decide +kernel
theorem dX7_include_1 : decode cX7_include 1 = .ok (.ifCond .lt 33, 3) := by decide +kernel
theorem dX7_include_4 : decode cX7_include 4 = .ok (.iload_n 1, 1) := by decide +kernel
theorem dX7_include_5 : decode cX7_include 5 = .ok (.bipush 10, 2) := by decide +kernel
theorem dX7_include_7 : decode cX7_include 7 = .ok (.if_icmp .ge 27, 3) := by decide +kernel
theorem dX7_include_10 : decode cX7_include 10 = .ok (.iload_n 2, 1) := by decide +kernel
theorem dX7_include_11 : decode cX7_include 11 = .ok (.ifCond .lt 23, 3) := by decide +kernel
theorem dX7_include_14 : decode cX7_include 14 = .ok (.iload_n 2, 1) := by decide +kernel
theorem dX7_include_15 : decode cX7_include 15 = .ok (.bipush 9, 2) := by decide +kernel
theorem dX7_include_17 : decode cX7_include 17 = .ok (.if_icmp .ge 17, 3) := by decide +kernel
theorem dX7_include_20 : decode cX7_include 20 = .ok (.aload_n 0, 1) := by decide +kernel
theorem dX7_include_21 : decode cX7_include 21 = .ok (.getfield 13, 3) := by decide +kernel
theorem dX7_include_24 : decode cX7_include 24 = .ok (.iload_n 1, 1) := by decide +kernel
theorem dX7_include_25 : decode cX7_include 25 = .ok (.aaload, 1) := by decide +kernel
theorem dX7_include_26 : decode cX7_include 26 = .ok (.iload_n 2, 1) := by decide +kernel
theorem dX7_include_27 : decode cX7_include 27 = .ok (.dup2, 1) := by decide +kernel
theorem dX7_include_28 : decode cX7_include 28 = .ok (.iaload, 1) := by decide +kernel
theorem dX7_include_29 : decode cX7_include 29 = .ok (.iconst 1, 1) := by decide +kernel
theorem dX7_include_30 : decode cX7_include 30 = .ok (.iload_n 3, 1) := by decide +kernel
theorem dX7_include_31 : decode cX7_include 31 = .ok (.ishl, 1) := by decide +kernel
theorem dX7_include_32 : decode cX7_include 32 = .ok (.ior, 1) := by decide +kernel
theorem dX7_include_33 : decode cX7_include 33 = .ok (.iastore, 1) := by decide +kernel
theorem dX7_include_34 : decode cX7_include 34 = .ok (.return_, 1) := by decide +kernel
theorem dX7_clearScene_0 : decode cX7_clearScene 0 = .ok (.iconst 0, 1) := by decide +kernel
theorem dX7_clearScene_1 : decode cX7_clearScene 1 = .ok (.istore_n 2, 1) := by decide +kernel
theorem dX7_clearScene_2 : decode cX7_clearScene 2 = .ok (.iload_n 2, 1) := by decide +kernel
theorem dX7_clearScene_3 : decode cX7_clearScene 3 = .ok (.bipush 9, 2) := by decide +kernel
theorem dX7_clearScene_5 : decode cX7_clearScene 5 = .ok (.if_icmp .ge 26, 3) := by decide +kernel
theorem dX7_clearScene_8 : decode cX7_clearScene 8 = .ok (.aload_n 0, 1) := by decide +kernel
theorem dX7_clearScene_9 : decode cX7_clearScene 9 = .ok (.iload_n 1, 1) := by decide +kernel
theorem dX7_clearScene_10 : decode cX7_clearScene 10 = .ok (.iload_n 2, 1) := by decide +kernel
theorem dX7_clearScene_11 : decode cX7_clearScene 11 = .ok (.iload_n 2, 1) := by decide +kernel
theorem dX7_clearScene_12 : decode cX7_clearScene 12 = .ok (.bipush 8, 2) := by decide +kernel
theorem dX7_clearScene_14 : decode cX7_clearScene 14 = .ok (.if_icmp .ne 7, 3) := by decide +kernel
theorem dX7_clearScene_17 : decode cX7_clearScene 17 = .ok (.iconst (-1), 1) := by decide +kernel
theorem dX7_clearScene_18 : decode cX7_clearScene 18 = .ok (.goto 4, 3) := by decide +kernel
theorem dX7_clearScene_21 : decode cX7_clearScene 21 = .ok (.iconst 0, 1) := by decide +kernel
theorem dX7_clearScene_22 : decode cX7_clearScene 22 = .ok (.invokevirtual 20, 3) := by decide +kernel
theorem dX7_clearScene_25 : decode cX7_clearScene 25 = .ok (.iinc 2 1, 3) := by decide +kernel
theorem dX7_clearScene_28 : decode cX7_clearScene 28 = .ok (.goto (-26), 3) := by decide +kernel
theorem dX7_clearScene_31 : decode cX7_clearScene 31 = .ok (.return_, 1) := by decide +kernel
theorem dX7_closeScene_0 : decode cX7_closeScene 0 = .ok (.aload_n 0, 1) := by decide +kernel
theorem dX7_closeScene_1 : decode cX7_closeScene 1 = .ok (.getfield 16, 3) := by decide +kernel
theorem dX7_closeScene_4 : decode cX7_closeScene 4 = .ok (.bipush 10, 2) := by decide +kernel
theorem dX7_closeScene_6 : decode cX7_closeScene 6 = .ok (.if_icmp .ge 13, 3) := by decide +kernel
theorem dX7_closeScene_9 : decode cX7_closeScene 9 = .ok (.aload_n 0, 1) := by decide +kernel
theorem dX7_closeScene_10 : decode cX7_closeScene 10 = .ok (.dup, 1) := by decide +kernel
theorem dX7_closeScene_11 : decode cX7_closeScene 11 = .ok (.getfield 16, 3) := by decide +kernel
theorem dX7_closeScene_14 : decode cX7_closeScene 14 = .ok (.iconst 1, 1) := by decide +kernel
theorem dX7_closeScene_15 : decode cX7_closeScene 15 = .ok (.iadd, 1) := by decide +kernel
theorem dX7_closeScene_16 : decode cX7_closeScene 16 = .ok (.putfield 16, 3) := by decide +kernel
theorem dX7_closeScene_19 : decode cX7_closeScene 19 = .ok (.return_, 1) := by decide +kernel
theorem dX7_become_0 : decode cX7_become 0 = .ok (.iconst 0, 1) := by decide +kernel
theorem dX7_become_1 : decode cX7_become 1 = .ok (.istore_n 2, 1) := by decide +kernel
theorem dX7_become_2 : decode cX7_become 2 = .ok (.iload_n 2, 1) := by decide +kernel
theorem dX7_become_3 : decode cX7_become 3 = .ok (.bipush 10, 2) := by decide +kernel
theorem dX7_become_5 : decode cX7_become 5 = .ok (.if_icmp .ge 28, 3) := by decide +kernel
theorem dX7_become_8 : decode cX7_become 8 = .ok (.aload_n 1, 1) := by decide +kernel
theorem dX7_become_9 : decode cX7_become 9 = .ok (.getfield 13, 3) := by decide +kernel
theorem dX7_become_12 : decode cX7_become 12 = .ok (.iload_n 2, 1) := by decide +kernel
theorem dX7_become_13 : decode cX7_become 13 = .ok (.aaload, 1) := by decide +kernel
theorem dX7_become_14 : decode cX7_become 14 = .ok (.iconst 0, 1) := by decide +kernel
theorem dX7_become_15 : decode cX7_become 15 = .ok (.aload_n 0, 1) := by decide +kernel
theorem dX7_become_16 : decode cX7_become 16 = .ok (.getfield 13, 3) := by decide +kernel
theorem dX7_become_19 : decode cX7_become 19 = .ok (.iload_n 2, 1) := by decide +kernel
theorem dX7_become_20 : decode cX7_become 20 = .ok (.aaload, 1) := by decide +kernel
theorem dX7_become_21 : decode cX7_become 21 = .ok (.iconst 0, 1) := by decide +kernel
theorem dX7_become_22 : decode cX7_become 22 = .ok (.bipush 9, 2) := by decide +kernel
theorem dX7_become_24 : decode cX7_become 24 = .ok (.invokestatic 24, 3) := by decide +kernel
theorem dX7_become_27 : decode cX7_become 27 = .ok (.iinc 2 1, 3) := by decide +kernel
theorem dX7_become_30 : decode cX7_become 30 = .ok (.goto (-28), 3) := by decide +kernel
theorem dX7_become_33 : decode cX7_become 33 = .ok (.aload_n 0, 1) := by decide +kernel
theorem dX7_become_34 : decode cX7_become 34 = .ok (.aload_n 1, 1) := by decide +kernel
theorem dX7_become_35 : decode cX7_become 35 = .ok (.getfield 16, 3) := by decide +kernel
theorem dX7_become_38 : decode cX7_become 38 = .ok (.putfield 16, 3) := by decide +kernel
theorem dX7_become_41 : decode cX7_become 41 = .ok (.return_, 1) := by decide +kernel
theorem dX7_all_0 : decode cX7_all 0 = .ok (.iconst 1, 1) := by decide +kernel
theorem dX7_all_1 : decode cX7_all 1 = .ok (.aload_n 0, 1) := by decide +kernel
theorem dX7_all_2 : decode cX7_all 2 = .ok (.getfield 16, 3) := by decide +kernel
theorem dX7_all_5 : decode cX7_all 5 = .ok (.ishl, 1) := by decide +kernel
theorem dX7_all_6 : decode cX7_all 6 = .ok (.iconst 1, 1) := by decide +kernel
theorem dX7_all_7 : decode cX7_all 7 = .ok (.isub, 1) := by decide +kernel
theorem dX7_all_8 : decode cX7_all 8 = .ok (.ireturn, 1) := by decide +kernel
theorem dX7_union_0 : decode cX7_union 0 = .ok (.iconst 0, 1) := by decide +kernel
theorem dX7_union_1 : decode cX7_union 1 = .ok (.istore_n 3, 1) := by decide +kernel
theorem dX7_union_2 : decode cX7_union 2 = .ok (.iconst 0, 1) := by decide +kernel
theorem dX7_union_3 : decode cX7_union 3 = .ok (.istore 4, 2) := by decide +kernel
theorem dX7_union_5 : decode cX7_union 5 = .ok (.iload 4, 2) := by decide +kernel
theorem dX7_union_7 : decode cX7_union 7 = .ok (.aload_n 0, 1) := by decide +kernel
theorem dX7_union_8 : decode cX7_union 8 = .ok (.getfield 16, 3) := by decide +kernel
theorem dX7_union_11 : decode cX7_union 11 = .ok (.if_icmp .ge 31, 3) := by decide +kernel
theorem dX7_union_14 : decode cX7_union 14 = .ok (.iload_n 1, 1) := by decide +kernel
theorem dX7_union_15 : decode cX7_union 15 = .ok (.iload 4, 2) := by decide +kernel
theorem dX7_union_17 : decode cX7_union 17 = .ok (.ishr, 1) := by decide +kernel
theorem dX7_union_18 : decode cX7_union 18 = .ok (.iconst 1, 1) := by decide +kernel
theorem dX7_union_19 : decode cX7_union 19 = .ok (.iand, 1) := by decide +kernel
theorem dX7_union_20 : decode cX7_union 20 = .ok (.iconst 1, 1) := by decide +kernel
theorem dX7_union_21 : decode cX7_union 21 = .ok (.if_icmp .ne 15, 3) := by decide +kernel
theorem dX7_union_24 : decode cX7_union 24 = .ok (.iload_n 3, 1) := by decide +kernel
theorem dX7_union_25 : decode cX7_union 25 = .ok (.aload_n 0, 1) := by decide +kernel
theorem dX7_union_26 : decode cX7_union 26 = .ok (.getfield 13, 3) := by decide +kernel
theorem dX7_union_29 : decode cX7_union 29 = .ok (.iload 4, 2) := by decide +kernel
theorem dX7_union_31 : decode cX7_union 31 = .ok (.aaload, 1) := by decide +kernel
theorem dX7_union_32 : decode cX7_union 32 = .ok (.iload_n 2, 1) := by decide +kernel
theorem dX7_union_33 : decode cX7_union 33 = .ok (.iaload, 1) := by decide +kernel
theorem dX7_union_34 : decode cX7_union 34 = .ok (.ior, 1) := by decide +kernel
theorem dX7_union_35 : decode cX7_union 35 = .ok (.istore_n 3, 1) := by decide +kernel
theorem dX7_union_36 : decode cX7_union 36 = .ok (.iinc 4 1, 3) := by decide +kernel
theorem dX7_union_39 : decode cX7_union 39 = .ok (.goto (-34), 3) := by decide +kernel
theorem dX7_union_42 : decode cX7_union 42 = .ok (.iload_n 3, 1) := by decide +kernel
theorem dX7_union_43 : decode cX7_union 43 = .ok (.ireturn, 1) := by decide +kernel
theorem dX7_sum_0 : decode cX7_sum 0 = .ok (.iconst 0, 1) := by decide +kernel
theorem dX7_sum_1 : decode cX7_sum 1 = .ok (.istore_n 3, 1) := by decide +kernel
theorem dX7_sum_2 : decode cX7_sum 2 = .ok (.iconst 0, 1) := by decide +kernel
theorem dX7_sum_3 : decode cX7_sum 3 = .ok (.istore 4, 2) := by decide +kernel
theorem dX7_sum_5 : decode cX7_sum 5 = .ok (.iload 4, 2) := by decide +kernel
theorem dX7_sum_7 : decode cX7_sum 7 = .ok (.aload_n 0, 1) := by decide +kernel
theorem dX7_sum_8 : decode cX7_sum 8 = .ok (.getfield 16, 3) := by decide +kernel
theorem dX7_sum_11 : decode cX7_sum 11 = .ok (.if_icmp .ge 31, 3) := by decide +kernel
theorem dX7_sum_14 : decode cX7_sum 14 = .ok (.iload_n 1, 1) := by decide +kernel
theorem dX7_sum_15 : decode cX7_sum 15 = .ok (.iload 4, 2) := by decide +kernel
theorem dX7_sum_17 : decode cX7_sum 17 = .ok (.ishr, 1) := by decide +kernel
theorem dX7_sum_18 : decode cX7_sum 18 = .ok (.iconst 1, 1) := by decide +kernel
theorem dX7_sum_19 : decode cX7_sum 19 = .ok (.iand, 1) := by decide +kernel
theorem dX7_sum_20 : decode cX7_sum 20 = .ok (.iconst 1, 1) := by decide +kernel
theorem dX7_sum_21 : decode cX7_sum 21 = .ok (.if_icmp .ne 15, 3) := by decide +kernel
theorem dX7_sum_24 : decode cX7_sum 24 = .ok (.iload_n 3, 1) := by decide +kernel
theorem dX7_sum_25 : decode cX7_sum 25 = .ok (.aload_n 0, 1) := by decide +kernel
theorem dX7_sum_26 : decode cX7_sum 26 = .ok (.getfield 13, 3) := by decide +kernel
theorem dX7_sum_29 : decode cX7_sum 29 = .ok (.iload 4, 2) := by decide +kernel
theorem dX7_sum_31 : decode cX7_sum 31 = .ok (.aaload, 1) := by decide +kernel
theorem dX7_sum_32 : decode cX7_sum 32 = .ok (.iload_n 2, 1) := by decide +kernel
theorem dX7_sum_33 : decode cX7_sum 33 = .ok (.iaload, 1) := by decide +kernel
theorem dX7_sum_34 : decode cX7_sum 34 = .ok (.iadd, 1) := by decide +kernel
theorem dX7_sum_35 : decode cX7_sum 35 = .ok (.istore_n 3, 1) := by decide +kernel
theorem dX7_sum_36 : decode cX7_sum 36 = .ok (.iinc 4 1, 3) := by decide +kernel
theorem dX7_sum_39 : decode cX7_sum 39 = .ok (.goto (-34), 3) := by decide +kernel
theorem dX7_sum_42 : decode cX7_sum 42 = .ok (.iload_n 3, 1) := by decide +kernel
theorem dX7_sum_43 : decode cX7_sum 43 = .ok (.ireturn, 1) := by decide +kernel
theorem dX7_deadIn_0 : decode cX7_deadIn 0 = .ok (.iconst 0, 1) := by decide +kernel
theorem dX7_deadIn_1 : decode cX7_deadIn 1 = .ok (.istore_n 2, 1) := by decide +kernel
theorem dX7_deadIn_2 : decode cX7_deadIn 2 = .ok (.iconst 0, 1) := by decide +kernel
theorem dX7_deadIn_3 : decode cX7_deadIn 3 = .ok (.istore_n 3, 1) := by decide +kernel
theorem dX7_deadIn_4 : decode cX7_deadIn 4 = .ok (.iload_n 3, 1) := by decide +kernel
theorem dX7_deadIn_5 : decode cX7_deadIn 5 = .ok (.aload_n 0, 1) := by decide +kernel
theorem dX7_deadIn_6 : decode cX7_deadIn 6 = .ok (.getfield 16, 3) := by decide +kernel
theorem dX7_deadIn_9 : decode cX7_deadIn 9 = .ok (.if_icmp .ge 45, 3) := by decide +kernel
theorem dX7_deadIn_12 : decode cX7_deadIn 12 = .ok (.iload_n 1, 1) := by decide +kernel
theorem dX7_deadIn_13 : decode cX7_deadIn 13 = .ok (.iload_n 3, 1) := by decide +kernel
theorem dX7_deadIn_14 : decode cX7_deadIn 14 = .ok (.ishr, 1) := by decide +kernel
theorem dX7_deadIn_15 : decode cX7_deadIn 15 = .ok (.iconst 1, 1) := by decide +kernel
theorem dX7_deadIn_16 : decode cX7_deadIn 16 = .ok (.iand, 1) := by decide +kernel
theorem dX7_deadIn_17 : decode cX7_deadIn 17 = .ok (.iconst 1, 1) := by decide +kernel
theorem dX7_deadIn_18 : decode cX7_deadIn 18 = .ok (.if_icmp .ne 30, 3) := by decide +kernel
theorem dX7_deadIn_21 : decode cX7_deadIn 21 = .ok (.aload_n 0, 1) := by decide +kernel
theorem dX7_deadIn_22 : decode cX7_deadIn 22 = .ok (.getfield 13, 3) := by decide +kernel
theorem dX7_deadIn_25 : decode cX7_deadIn 25 = .ok (.iload_n 3, 1) := by decide +kernel
theorem dX7_deadIn_26 : decode cX7_deadIn 26 = .ok (.aaload, 1) := by decide +kernel
theorem dX7_deadIn_27 : decode cX7_deadIn 27 = .ok (.bipush 8, 2) := by decide +kernel
theorem dX7_deadIn_29 : decode cX7_deadIn 29 = .ok (.iaload, 1) := by decide +kernel
theorem dX7_deadIn_30 : decode cX7_deadIn 30 = .ok (.iconst (-1), 1) := by decide +kernel
theorem dX7_deadIn_31 : decode cX7_deadIn 31 = .ok (.if_icmp .eq 17, 3) := by decide +kernel
theorem dX7_deadIn_34 : decode cX7_deadIn 34 = .ok (.iload_n 2, 1) := by decide +kernel
theorem dX7_deadIn_35 : decode cX7_deadIn 35 = .ok (.iconst 1, 1) := by decide +kernel
theorem dX7_deadIn_36 : decode cX7_deadIn 36 = .ok (.aload_n 0, 1) := by decide +kernel
theorem dX7_deadIn_37 : decode cX7_deadIn 37 = .ok (.getfield 13, 3) := by decide +kernel
theorem dX7_deadIn_40 : decode cX7_deadIn 40 = .ok (.iload_n 3, 1) := by decide +kernel
theorem dX7_deadIn_41 : decode cX7_deadIn 41 = .ok (.aaload, 1) := by decide +kernel
theorem dX7_deadIn_42 : decode cX7_deadIn 42 = .ok (.bipush 8, 2) := by decide +kernel
theorem dX7_deadIn_44 : decode cX7_deadIn 44 = .ok (.iaload, 1) := by decide +kernel
theorem dX7_deadIn_45 : decode cX7_deadIn 45 = .ok (.ishl, 1) := by decide +kernel
theorem dX7_deadIn_46 : decode cX7_deadIn 46 = .ok (.ior, 1) := by decide +kernel
theorem dX7_deadIn_47 : decode cX7_deadIn 47 = .ok (.istore_n 2, 1) := by decide +kernel
theorem dX7_deadIn_48 : decode cX7_deadIn 48 = .ok (.iinc 3 1, 3) := by decide +kernel
theorem dX7_deadIn_51 : decode cX7_deadIn 51 = .ok (.goto (-47), 3) := by decide +kernel
theorem dX7_deadIn_54 : decode cX7_deadIn 54 = .ok (.iload_n 2, 1) := by decide +kernel
theorem dX7_deadIn_55 : decode cX7_deadIn 55 = .ok (.ireturn, 1) := by decide +kernel
theorem dX7_deathsOf_0 : decode cX7_deathsOf 0 = .ok (.iconst 0, 1) := by decide +kernel
theorem dX7_deathsOf_1 : decode cX7_deathsOf 1 = .ok (.istore_n 2, 1) := by decide +kernel
theorem dX7_deathsOf_2 : decode cX7_deathsOf 2 = .ok (.iconst 0, 1) := by decide +kernel
theorem dX7_deathsOf_3 : decode cX7_deathsOf 3 = .ok (.istore_n 3, 1) := by decide +kernel
theorem dX7_deathsOf_4 : decode cX7_deathsOf 4 = .ok (.iload_n 3, 1) := by decide +kernel
theorem dX7_deathsOf_5 : decode cX7_deathsOf 5 = .ok (.aload_n 0, 1) := by decide +kernel
theorem dX7_deathsOf_6 : decode cX7_deathsOf 6 = .ok (.getfield 16, 3) := by decide +kernel
theorem dX7_deathsOf_9 : decode cX7_deathsOf 9 = .ok (.if_icmp .ge 27, 3) := by decide +kernel
theorem dX7_deathsOf_12 : decode cX7_deathsOf 12 = .ok (.aload_n 0, 1) := by decide +kernel
theorem dX7_deathsOf_13 : decode cX7_deathsOf 13 = .ok (.iconst 1, 1) := by decide +kernel
theorem dX7_deathsOf_14 : decode cX7_deathsOf 14 = .ok (.iload_n 3, 1) := by decide +kernel
theorem dX7_deathsOf_15 : decode cX7_deathsOf 15 = .ok (.ishl, 1) := by decide +kernel
theorem dX7_deathsOf_16 : decode cX7_deathsOf 16 = .ok (.invokevirtual 30, 3) := by decide +kernel
theorem dX7_deathsOf_19 : decode cX7_deathsOf 19 = .ok (.iload_n 1, 1) := by decide +kernel
theorem dX7_deathsOf_20 : decode cX7_deathsOf 20 = .ok (.iand, 1) := by decide +kernel
theorem dX7_deathsOf_21 : decode cX7_deathsOf 21 = .ok (.ifCond .eq 9, 3) := by decide +kernel
theorem dX7_deathsOf_24 : decode cX7_deathsOf 24 = .ok (.iload_n 2, 1) := by decide +kernel
theorem dX7_deathsOf_25 : decode cX7_deathsOf 25 = .ok (.iconst 1, 1) := by decide +kernel
theorem dX7_deathsOf_26 : decode cX7_deathsOf 26 = .ok (.iload_n 3, 1) := by decide +kernel
theorem dX7_deathsOf_27 : decode cX7_deathsOf 27 = .ok (.ishl, 1) := by decide +kernel
theorem dX7_deathsOf_28 : decode cX7_deathsOf 28 = .ok (.ior, 1) := by decide +kernel
theorem dX7_deathsOf_29 : decode cX7_deathsOf 29 = .ok (.istore_n 2, 1) := by decide +kernel
theorem dX7_deathsOf_30 : decode cX7_deathsOf 30 = .ok (.iinc 3 1, 3) := by decide +kernel
theorem dX7_deathsOf_33 : decode cX7_deathsOf 33 = .ok (.goto (-29), 3) := by decide +kernel
theorem dX7_deathsOf_36 : decode cX7_deathsOf 36 = .ok (.iload_n 2, 1) := by decide +kernel
theorem dX7_deathsOf_37 : decode cX7_deathsOf 37 = .ok (.ireturn, 1) := by decide +kernel
theorem dX7_openBehind_0 : decode cX7_openBehind 0 = .ok (.aload_n 0, 1) := by decide +kernel
theorem dX7_openBehind_1 : decode cX7_openBehind 1 = .ok (.iload_n 1, 1) := by decide +kernel
theorem dX7_openBehind_2 : decode cX7_openBehind 2 = .ok (.iconst 4, 1) := by decide +kernel
theorem dX7_openBehind_3 : decode cX7_openBehind 3 = .ok (.invokevirtual 34, 3) := by decide +kernel
theorem dX7_openBehind_6 : decode cX7_openBehind 6 = .ok (.aload_n 0, 1) := by decide +kernel
theorem dX7_openBehind_7 : decode cX7_openBehind 7 = .ok (.iload_n 1, 1) := by decide +kernel
theorem dX7_openBehind_8 : decode cX7_openBehind 8 = .ok (.iconst 5, 1) := by decide +kernel
theorem dX7_openBehind_9 : decode cX7_openBehind 9 = .ok (.invokevirtual 34, 3) := by decide +kernel
theorem dX7_openBehind_12 : decode cX7_openBehind 12 = .ok (.iconst (-1), 1) := by decide +kernel
theorem dX7_openBehind_13 : decode cX7_openBehind 13 = .ok (.ixor, 1) := by decide +kernel
theorem dX7_openBehind_14 : decode cX7_openBehind 14 = .ok (.iand, 1) := by decide +kernel
theorem dX7_openBehind_15 : decode cX7_openBehind 15 = .ok (.ireturn, 1) := by decide +kernel
theorem dX8_init_0 : decode cX8_init 0 = .ok (.aload_n 0, 1) := by decide +kernel
theorem dX8_init_1 : decode cX8_init 1 = .ok (.invokespecial 3, 3) := by decide +kernel
theorem dX8_init_4 : decode cX8_init 4 = .ok (.aload_n 0, 1) := by decide +kernel
theorem dX8_init_5 : decode cX8_init 5 = .ok (.sipush 400, 3) := by decide +kernel
theorem dX8_init_8 : decode cX8_init 8 = .ok (.newarray .int, 2) := by decide +kernel
theorem dX8_init_10 : decode cX8_init 10 = .ok (.putfield 9, 3) := by decide +kernel
theorem dX8_init_13 : decode cX8_init 13 = .ok (.aload_n 0, 1) := by decide +kernel
theorem dX8_init_14 : decode cX8_init 14 = .ok (.iconst 0, 1) := by decide +kernel
theorem dX8_init_15 : decode cX8_init 15 = .ok (.putfield 15, 3) := by decide +kernel
theorem dX8_init_18 : decode cX8_init 18 = .ok (.return_, 1) := by decide +kernel
theorem dX8_append_0 : decode cX8_append 0 = .ok (.aload_n 0, 1) := by decide +kernel
theorem dX8_append_1 : decode cX8_append 1 = .ok (.getfield 15, 3) := by decide +kernel
theorem dX8_append_4 : decode cX8_append 4 = .ok (.sipush 400, 3) := by decide +kernel
theorem dX8_append_7 : decode cX8_append 7 = .ok (.if_icmp .ge 23, 3) := by decide +kernel
theorem dX8_append_10 : decode cX8_append 10 = .ok (.aload_n 0, 1) := by decide +kernel
theorem dX8_append_11 : decode cX8_append 11 = .ok (.getfield 9, 3) := by decide +kernel
theorem dX8_append_14 : decode cX8_append 14 = .ok (.aload_n 0, 1) := by decide +kernel
theorem dX8_append_15 : decode cX8_append 15 = .ok (.getfield 15, 3) := by decide +kernel
theorem dX8_append_18 : decode cX8_append 18 = .ok (.iload_n 1, 1) := by decide +kernel
theorem dX8_append_19 : decode cX8_append 19 = .ok (.iastore, 1) := by decide +kernel
theorem dX8_append_20 : decode cX8_append 20 = .ok (.aload_n 0, 1) := by decide +kernel
theorem dX8_append_21 : decode cX8_append 21 = .ok (.dup, 1) := by decide +kernel
theorem dX8_append_22 : decode cX8_append 22 = .ok (.getfield 15, 3) := by decide +kernel
theorem dX8_append_25 : decode cX8_append 25 = .ok (.iconst 1, 1) := by decide +kernel
theorem dX8_append_26 : decode cX8_append 26 = .ok (.iadd, 1) := by decide +kernel
theorem dX8_append_27 : decode cX8_append 27 = .ok (.putfield 15, 3) := by decide +kernel
theorem dX8_append_30 : decode cX8_append 30 = .ok (.return_, 1) := by decide +kernel
theorem dX8_at_0 : decode cX8_at 0 = .ok (.iload_n 1, 1) := by decide +kernel
theorem dX8_at_1 : decode cX8_at 1 = .ok (.ifCond .lt 20, 3) := by decide +kernel
theorem dX8_at_4 : decode cX8_at 4 = .ok (.iload_n 1, 1) := by decide +kernel
theorem dX8_at_5 : decode cX8_at 5 = .ok (.aload_n 0, 1) := by decide +kernel
theorem dX8_at_6 : decode cX8_at 6 = .ok (.getfield 15, 3) := by decide +kernel
theorem dX8_at_9 : decode cX8_at 9 = .ok (.if_icmp .ge 12, 3) := by decide +kernel
theorem dX8_at_12 : decode cX8_at 12 = .ok (.aload_n 0, 1) := by decide +kernel
theorem dX8_at_13 : decode cX8_at 13 = .ok (.getfield 9, 3) := by decide +kernel
theorem dX8_at_16 : decode cX8_at 16 = .ok (.iload_n 1, 1) := by decide +kernel
theorem dX8_at_17 : decode cX8_at 17 = .ok (.iaload, 1) := by decide +kernel
theorem dX8_at_18 : decode cX8_at 18 = .ok (.goto 4, 3) := by decide +kernel
theorem dX8_at_21 : decode cX8_at 21 = .ok (.iconst (-1), 1) := by decide +kernel
theorem dX8_at_22 : decode cX8_at 22 = .ok (.ireturn, 1) := by decide +kernel
theorem dX9_init_0 : decode cX9_init 0 = .ok (.aload_n 0, 1) := by decide +kernel
theorem dX9_init_1 : decode cX9_init 1 = .ok (.invokespecial 3, 3) := by decide +kernel
theorem dX9_init_4 : decode cX9_init 4 = .ok (.aload_n 0, 1) := by decide +kernel
theorem dX9_init_5 : decode cX9_init 5 = .ok (.new 9, 3) := by decide +kernel
theorem dX9_init_8 : decode cX9_init 8 = .ok (.dup, 1) := by decide +kernel
theorem dX9_init_9 : decode cX9_init 9 = .ok (.invokespecial 11, 3) := by decide +kernel
theorem dX9_init_12 : decode cX9_init 12 = .ok (.putfield 12, 3) := by decide +kernel
theorem dX9_init_15 : decode cX9_init 15 = .ok (.aload_n 0, 1) := by decide +kernel
theorem dX9_init_16 : decode cX9_init 16 = .ok (.new 16, 3) := by decide +kernel
theorem dX9_init_19 : decode cX9_init 19 = .ok (.dup, 1) := by decide +kernel
theorem dX9_init_20 : decode cX9_init 20 = .ok (.aload_n 0, 1) := by decide +kernel
theorem dX9_init_21 : decode cX9_init 21 = .ok (.getfield 12, 3) := by decide +kernel
theorem dX9_init_24 : decode cX9_init 24 = .ok (.invokespecial 18, 3) := by decide +kernel
theorem dX9_init_27 : decode cX9_init 27 = .ok (.putfield 21, 3) := by decide +kernel
theorem dX9_init_30 : decode cX9_init 30 = .ok (.aload_n 0, 1) := by decide +kernel
theorem dX9_init_31 : decode cX9_init 31 = .ok (.new 25, 3) := by decide +kernel
theorem dX9_init_34 : decode cX9_init 34 = .ok (.dup, 1) := by decide +kernel
theorem dX9_init_35 : decode cX9_init 35 = .ok (.invokespecial 27, 3) := by decide +kernel
theorem dX9_init_38 : decode cX9_init 38 = .ok (.putfield 28, 3) := by decide +kernel
theorem dX9_init_41 : decode cX9_init 41 = .ok (.aload_n 0, 1) := by decide +kernel
theorem dX9_init_42 : decode cX9_init 42 = .ok (.new 25, 3) := by decide +kernel
theorem dX9_init_45 : decode cX9_init 45 = .ok (.dup, 1) := by decide +kernel
theorem dX9_init_46 : decode cX9_init 46 = .ok (.invokespecial 27, 3) := by decide +kernel
theorem dX9_init_49 : decode cX9_init 49 = .ok (.putfield 32, 3) := by decide +kernel
theorem dX9_init_52 : decode cX9_init 52 = .ok (.aload_n 0, 1) := by decide +kernel
theorem dX9_init_53 : decode cX9_init 53 = .ok (.new 35, 3) := by decide +kernel
theorem dX9_init_56 : decode cX9_init 56 = .ok (.dup, 1) := by decide +kernel
theorem dX9_init_57 : decode cX9_init 57 = .ok (.aload_n 0, 1) := by decide +kernel
theorem dX9_init_58 : decode cX9_init 58 = .ok (.getfield 28, 3) := by decide +kernel
theorem dX9_init_61 : decode cX9_init 61 = .ok (.invokespecial 37, 3) := by decide +kernel
theorem dX9_init_64 : decode cX9_init 64 = .ok (.putfield 40, 3) := by decide +kernel
theorem dX9_init_67 : decode cX9_init 67 = .ok (.aload_n 0, 1) := by decide +kernel
theorem dX9_init_68 : decode cX9_init 68 = .ok (.new 44, 3) := by decide +kernel
theorem dX9_init_71 : decode cX9_init 71 = .ok (.dup, 1) := by decide +kernel
theorem dX9_init_72 : decode cX9_init 72 = .ok (.aload_n 0, 1) := by decide +kernel
theorem dX9_init_73 : decode cX9_init 73 = .ok (.getfield 28, 3) := by decide +kernel
theorem dX9_init_76 : decode cX9_init 76 = .ok (.aload_n 0, 1) := by decide +kernel
theorem dX9_init_77 : decode cX9_init 77 = .ok (.getfield 40, 3) := by decide +kernel
theorem dX9_init_80 : decode cX9_init 80 = .ok (.invokespecial 46, 3) := by decide +kernel
theorem dX9_init_83 : decode cX9_init 83 = .ok (.putfield 49, 3) := by decide +kernel
theorem dX9_init_86 : decode cX9_init 86 = .ok (.aload_n 0, 1) := by decide +kernel
theorem dX9_init_87 : decode cX9_init 87 = .ok (.new 53, 3) := by decide +kernel
theorem dX9_init_90 : decode cX9_init 90 = .ok (.dup, 1) := by decide +kernel
theorem dX9_init_91 : decode cX9_init 91 = .ok (.invokespecial 55, 3) := by decide +kernel
theorem dX9_init_94 : decode cX9_init 94 = .ok (.putfield 56, 3) := by decide +kernel
theorem dX9_init_97 : decode cX9_init 97 = .ok (.aload_n 0, 1) := by decide +kernel
theorem dX9_init_98 : decode cX9_init 98 = .ok (.new 60, 3) := by decide +kernel
theorem dX9_init_101 : decode cX9_init 101 = .ok (.dup, 1) := by decide +kernel
theorem dX9_init_102 : decode cX9_init 102 = .ok (.aload_n 0, 1) := by decide +kernel
theorem dX9_init_103 : decode cX9_init 103 = .ok (.getfield 28, 3) := by decide +kernel
theorem dX9_init_106 : decode cX9_init 106 = .ok (.aload_n 0, 1) := by decide +kernel
theorem dX9_init_107 : decode cX9_init 107 = .ok (.getfield 56, 3) := by decide +kernel
theorem dX9_init_110 : decode cX9_init 110 = .ok (.invokespecial 62, 3) := by decide +kernel
theorem dX9_init_113 : decode cX9_init 113 = .ok (.putfield 65, 3) := by decide +kernel
theorem dX9_init_116 : decode cX9_init 116 = .ok (.aload_n 0, 1) := by decide +kernel
theorem dX9_init_117 : decode cX9_init 117 = .ok (.new 69, 3) := by decide +kernel
theorem dX9_init_120 : decode cX9_init 120 = .ok (.dup, 1) := by decide +kernel
theorem dX9_init_121 : decode cX9_init 121 = .ok (.aload_n 0, 1) := by decide +kernel
theorem dX9_init_122 : decode cX9_init 122 = .ok (.getfield 28, 3) := by decide +kernel
theorem dX9_init_125 : decode cX9_init 125 = .ok (.aload_n 0, 1) := by decide +kernel
theorem dX9_init_126 : decode cX9_init 126 = .ok (.getfield 56, 3) := by decide +kernel
theorem dX9_init_129 : decode cX9_init 129 = .ok (.invokespecial 71, 3) := by decide +kernel
theorem dX9_init_132 : decode cX9_init 132 = .ok (.putfield 72, 3) := by decide +kernel
theorem dX9_init_135 : decode cX9_init 135 = .ok (.aload_n 0, 1) := by decide +kernel
theorem dX9_init_136 : decode cX9_init 136 = .ok (.iconst 2, 1) := by decide +kernel
theorem dX9_init_137 : decode cX9_init 137 = .ok (.anewarray 53, 3) := by decide +kernel
theorem dX9_init_140 : decode cX9_init 140 = .ok (.dup, 1) := by decide +kernel
theorem dX9_init_141 : decode cX9_init 141 = .ok (.iconst 0, 1) := by decide +kernel
theorem dX9_init_142 : decode cX9_init 142 = .ok (.new 53, 3) := by decide +kernel
theorem dX9_init_145 : decode cX9_init 145 = .ok (.dup, 1) := by decide +kernel
theorem dX9_init_146 : decode cX9_init 146 = .ok (.invokespecial 55, 3) := by decide +kernel
theorem dX9_init_149 : decode cX9_init 149 = .ok (.aastore, 1) := by decide +kernel
theorem dX9_init_150 : decode cX9_init 150 = .ok (.dup, 1) := by decide +kernel
theorem dX9_init_151 : decode cX9_init 151 = .ok (.iconst 1, 1) := by decide +kernel
theorem dX9_init_152 : decode cX9_init 152 = .ok (.new 53, 3) := by decide +kernel
theorem dX9_init_155 : decode cX9_init 155 = .ok (.dup, 1) := by decide +kernel
theorem dX9_init_156 : decode cX9_init 156 = .ok (.invokespecial 55, 3) := by decide +kernel
theorem dX9_init_159 : decode cX9_init 159 = .ok (.aastore, 1) := by decide +kernel
theorem dX9_init_160 : decode cX9_init 160 = .ok (.putfield 76, 3) := by decide +kernel
theorem dX9_init_163 : decode cX9_init 163 = .ok (.aload_n 0, 1) := by decide +kernel
theorem dX9_init_164 : decode cX9_init 164 = .ok (.iconst 2, 1) := by decide +kernel
theorem dX9_init_165 : decode cX9_init 165 = .ok (.newarray .boolean, 2) := by decide +kernel
theorem dX9_init_167 : decode cX9_init 167 = .ok (.putfield 80, 3) := by decide +kernel
theorem dX9_init_170 : decode cX9_init 170 = .ok (.return_, 1) := by decide +kernel
theorem dX9_feed_0 : decode cX9_feed 0 = .ok (.iload_n 1, 1) := by decide +kernel
theorem dX9_feed_1 : decode cX9_feed 1 = .ok (.iconst 1, 1) := by decide +kernel
theorem dX9_feed_2 : decode cX9_feed 2 = .ok (.if_icmp .lt 9, 3) := by decide +kernel
theorem dX9_feed_5 : decode cX9_feed 5 = .ok (.iload_n 1, 1) := by decide +kernel
theorem dX9_feed_6 : decode cX9_feed 6 = .ok (.bipush 8, 2) := by decide +kernel
theorem dX9_feed_8 : decode cX9_feed 8 = .ok (.if_icmp .le 7, 3) := by decide +kernel
theorem dX9_feed_11 : decode cX9_feed 11 = .ok (.sipush (-1002), 3) := by decide +kernel
theorem dX9_feed_14 : decode cX9_feed 14 = .ok (.ireturn, 1) := by decide +kernel
theorem dX9_feed_15 : decode cX9_feed 15 = .ok (.aload_n 0, 1) := by decide +kernel
theorem dX9_feed_16 : decode cX9_feed 16 = .ok (.getfield 12, 3) := by decide +kernel
theorem dX9_feed_19 : decode cX9_feed 19 = .ok (.getfield 84, 3) := by decide +kernel
theorem dX9_feed_22 : decode cX9_feed 22 = .ok (.iload_n 1, 1) := by decide +kernel
theorem dX9_feed_23 : decode cX9_feed 23 = .ok (.iadd, 1) := by decide +kernel
theorem dX9_feed_24 : decode cX9_feed 24 = .ok (.sipush 400, 3) := by decide +kernel
theorem dX9_feed_27 : decode cX9_feed 27 = .ok (.if_icmp .le 7, 3) := by decide +kernel
theorem dX9_feed_30 : decode cX9_feed 30 = .ok (.sipush (-1004), 3) := by decide +kernel
theorem dX9_feed_33 : decode cX9_feed 33 = .ok (.ireturn, 1) := by decide +kernel
theorem dX9_feed_34 : decode cX9_feed 34 = .ok (.iload_n 1, 1) := by decide +kernel
theorem dX9_feed_35 : decode cX9_feed 35 = .ok (.iconst 1, 1) := by decide +kernel
theorem dX9_feed_36 : decode cX9_feed 36 = .ok (.isub, 1) := by decide +kernel
theorem dX9_feed_37 : decode cX9_feed 37 = .ok (.istore 4, 2) := by decide +kernel
theorem dX9_feed_39 : decode cX9_feed 39 = .ok (.iload 4, 2) := by decide +kernel
theorem dX9_feed_41 : decode cX9_feed 41 = .ok (.ifCond .lt 28, 3) := by decide +kernel
theorem dX9_feed_44 : decode cX9_feed 44 = .ok (.aload_n 0, 1) := by decide +kernel
theorem dX9_feed_45 : decode cX9_feed 45 = .ok (.getfield 12, 3) := by decide +kernel
theorem dX9_feed_48 : decode cX9_feed 48 = .ok (.lload_n 2, 1) := by decide +kernel
theorem dX9_feed_49 : decode cX9_feed 49 = .ok (.bipush 8, 2) := by decide +kernel
theorem dX9_feed_51 : decode cX9_feed 51 = .ok (.iload 4, 2) := by decide +kernel
theorem dX9_feed_53 : decode cX9_feed 53 = .ok (.imul, 1) := by decide +kernel
theorem dX9_feed_54 : decode cX9_feed 54 = .ok (.lushr, 1) := by decide +kernel
theorem dX9_feed_55 : decode cX9_feed 55 = .ok (.l2i, 1) := by decide +kernel
theorem dX9_feed_56 : decode cX9_feed 56 = .ok (.sipush 255, 3) := by decide +kernel
theorem dX9_feed_59 : decode cX9_feed 59 = .ok (.iand, 1) := by decide +kernel
theorem dX9_feed_60 : decode cX9_feed 60 = .ok (.invokevirtual 88, 3) := by decide +kernel
theorem dX9_feed_63 : decode cX9_feed 63 = .ok (.iinc 4 (-1), 3) := by decide +kernel
theorem dX9_feed_66 : decode cX9_feed 66 = .ok (.goto (-27), 3) := by decide +kernel
theorem dX9_feed_69 : decode cX9_feed 69 = .ok (.aload_n 0, 1) := by decide +kernel
theorem dX9_feed_70 : decode cX9_feed 70 = .ok (.getfield 12, 3) := by decide +kernel
theorem dX9_feed_73 : decode cX9_feed 73 = .ok (.getfield 84, 3) := by decide +kernel
theorem dX9_feed_76 : decode cX9_feed 76 = .ok (.ireturn, 1) := by decide +kernel
theorem dX9_story_0 : decode cX9_story 0 = .ok (.aload_n 0, 1) := by decide +kernel
theorem dX9_story_1 : decode cX9_story 1 = .ok (.getfield 21, 3) := by decide +kernel
theorem dX9_story_4 : decode cX9_story 4 = .ok (.aload_n 0, 1) := by decide +kernel
theorem dX9_story_5 : decode cX9_story 5 = .ok (.getfield 32, 3) := by decide +kernel
theorem dX9_story_8 : decode cX9_story 8 = .ok (.invokevirtual 92, 3) := by decide +kernel
theorem dX9_story_11 : decode cX9_story 11 = .ok (.istore_n 1, 1) := by decide +kernel
theorem dX9_story_12 : decode cX9_story 12 = .ok (.aload_n 0, 1) := by decide +kernel
theorem dX9_story_13 : decode cX9_story 13 = .ok (.getfield 12, 3) := by decide +kernel
theorem dX9_story_16 : decode cX9_story 16 = .ok (.iconst 0, 1) := by decide +kernel
theorem dX9_story_17 : decode cX9_story 17 = .ok (.putfield 84, 3) := by decide +kernel
theorem dX9_story_20 : decode cX9_story 20 = .ok (.iload_n 1, 1) := by decide +kernel
theorem dX9_story_21 : decode cX9_story 21 = .ok (.ifCond .eq 8, 3) := by decide +kernel
theorem dX9_story_24 : decode cX9_story 24 = .ok (.bipush (-10), 2) := by decide +kernel
theorem dX9_story_26 : decode cX9_story 26 = .ok (.iload_n 1, 1) := by decide +kernel
theorem dX9_story_27 : decode cX9_story 27 = .ok (.isub, 1) := by decide +kernel
theorem dX9_story_28 : decode cX9_story 28 = .ok (.ireturn, 1) := by decide +kernel
theorem dX9_story_29 : decode cX9_story 29 = .ok (.aload_n 0, 1) := by decide +kernel
theorem dX9_story_30 : decode cX9_story 30 = .ok (.getfield 28, 3) := by decide +kernel
theorem dX9_story_33 : decode cX9_story 33 = .ok (.aload_n 0, 1) := by decide +kernel
theorem dX9_story_34 : decode cX9_story 34 = .ok (.getfield 32, 3) := by decide +kernel
theorem dX9_story_37 : decode cX9_story 37 = .ok (.invokevirtual 96, 3) := by decide +kernel
theorem dX9_story_40 : decode cX9_story 40 = .ok (.aload_n 0, 1) := by decide +kernel
theorem dX9_story_41 : decode cX9_story 41 = .ok (.getfield 56, 3) := by decide +kernel
theorem dX9_story_44 : decode cX9_story 44 = .ok (.invokevirtual 99, 3) := by decide +kernel
theorem dX9_story_47 : decode cX9_story 47 = .ok (.aload_n 0, 1) := by decide +kernel
theorem dX9_story_48 : decode cX9_story 48 = .ok (.getfield 80, 3) := by decide +kernel
theorem dX9_story_51 : decode cX9_story 51 = .ok (.iconst 0, 1) := by decide +kernel
theorem dX9_story_52 : decode cX9_story 52 = .ok (.iconst 0, 1) := by decide +kernel
theorem dX9_story_53 : decode cX9_story 53 = .ok (.bastore, 1) := by decide +kernel
theorem dX9_story_54 : decode cX9_story 54 = .ok (.aload_n 0, 1) := by decide +kernel
theorem dX9_story_55 : decode cX9_story 55 = .ok (.getfield 80, 3) := by decide +kernel
theorem dX9_story_58 : decode cX9_story 58 = .ok (.iconst 1, 1) := by decide +kernel
theorem dX9_story_59 : decode cX9_story 59 = .ok (.iconst 0, 1) := by decide +kernel
theorem dX9_story_60 : decode cX9_story 60 = .ok (.bastore, 1) := by decide +kernel
theorem dX9_story_61 : decode cX9_story 61 = .ok (.aload_n 0, 1) := by decide +kernel
theorem dX9_story_62 : decode cX9_story 62 = .ok (.getfield 49, 3) := by decide +kernel
theorem dX9_story_65 : decode cX9_story 65 = .ok (.iconst 0, 1) := by decide +kernel
theorem dX9_story_66 : decode cX9_story 66 = .ok (.putfield 102, 3) := by decide +kernel
theorem dX9_story_69 : decode cX9_story 69 = .ok (.aload_n 0, 1) := by decide +kernel
theorem dX9_story_70 : decode cX9_story 70 = .ok (.invokevirtual 106, 3) := by decide +kernel
theorem dX9_story_73 : decode cX9_story 73 = .ok (.aload_n 0, 1) := by decide +kernel
theorem dX9_story_74 : decode cX9_story 74 = .ok (.getfield 28, 3) := by decide +kernel
theorem dX9_story_77 : decode cX9_story 77 = .ok (.getfield 109, 3) := by decide +kernel
theorem dX9_story_80 : decode cX9_story 80 = .ok (.ireturn, 1) := by decide +kernel
theorem dX9_fault_0 : decode cX9_fault 0 = .ok (.aload_n 0, 1) := by decide +kernel
theorem dX9_fault_1 : decode cX9_fault 1 = .ok (.getfield 21, 3) := by decide +kernel
theorem dX9_fault_4 : decode cX9_fault 4 = .ok (.getfield 112, 3) := by decide +kernel
theorem dX9_fault_7 : decode cX9_fault 7 = .ok (.ireturn, 1) := by decide +kernel
theorem dX9_scene_0 : decode cX9_scene 0 = .ok (.aload_n 0, 1) := by decide +kernel
theorem dX9_scene_1 : decode cX9_scene 1 = .ok (.iload_n 1, 1) := by decide +kernel
theorem dX9_scene_2 : decode cX9_scene 2 = .ok (.invokevirtual 115, 3) := by decide +kernel
theorem dX9_scene_5 : decode cX9_scene 5 = .ok (.ifCond .ne 7, 3) := by decide +kernel
theorem dX9_scene_8 : decode cX9_scene 8 = .ok (.sipush (-1001), 3) := by decide +kernel
theorem dX9_scene_11 : decode cX9_scene 11 = .ok (.ireturn, 1) := by decide +kernel
theorem dX9_scene_12 : decode cX9_scene 12 = .ok (.iload_n 2, 1) := by decide +kernel
theorem dX9_scene_13 : decode cX9_scene 13 = .ok (.ifCond .lt 9, 3) := by decide +kernel
theorem dX9_scene_16 : decode cX9_scene 16 = .ok (.iload_n 2, 1) := by decide +kernel
theorem dX9_scene_17 : decode cX9_scene 17 = .ok (.bipush 9, 2) := by decide +kernel
theorem dX9_scene_19 : decode cX9_scene 19 = .ok (.if_icmp .le 7, 3) := by decide +kernel
theorem dX9_scene_22 : decode cX9_scene 22 = .ok (.sipush (-1002), 3) := by decide +kernel
theorem dX9_scene_25 : decode cX9_scene 25 = .ok (.ireturn, 1) := by decide +kernel
theorem dX9_scene_26 : decode cX9_scene 26 = .ok (.iload_n 2, 1) := by decide +kernel
theorem dX9_scene_27 : decode cX9_scene 27 = .ok (.bipush 9, 2) := by decide +kernel
theorem dX9_scene_29 : decode cX9_scene 29 = .ok (.if_icmp .ne 14, 3) := by decide +kernel
theorem dX9_scene_32 : decode cX9_scene 32 = .ok (.aload_n 0, 1) := by decide +kernel
theorem dX9_scene_33 : decode cX9_scene 33 = .ok (.getfield 56, 3) := by decide +kernel
theorem dX9_scene_36 : decode cX9_scene 36 = .ok (.iload_n 1, 1) := by decide +kernel
theorem dX9_scene_37 : decode cX9_scene 37 = .ok (.invokevirtual 119, 3) := by decide +kernel
theorem dX9_scene_40 : decode cX9_scene 40 = .ok (.goto 12, 3) := by decide +kernel
theorem dX9_scene_43 : decode cX9_scene 43 = .ok (.aload_n 0, 1) := by decide +kernel
theorem dX9_scene_44 : decode cX9_scene 44 = .ok (.getfield 28, 3) := by decide +kernel
theorem dX9_scene_47 : decode cX9_scene 47 = .ok (.iload_n 1, 1) := by decide +kernel
theorem dX9_scene_48 : decode cX9_scene 48 = .ok (.iload_n 2, 1) := by decide +kernel
theorem dX9_scene_49 : decode cX9_scene 49 = .ok (.invokevirtual 123, 3) := by decide +kernel
theorem dX9_scene_52 : decode cX9_scene 52 = .ok (.ireturn, 1) := by decide +kernel
theorem dX9_never_0 : decode cX9_never 0 = .ok (.iload_n 1, 1) := by decide +kernel
theorem dX9_never_1 : decode cX9_never 1 = .ok (.ifCond .lt 24, 3) := by decide +kernel
theorem dX9_never_4 : decode cX9_never 4 = .ok (.iload_n 1, 1) := by decide +kernel
theorem dX9_never_5 : decode cX9_never 5 = .ok (.bipush 8, 2) := by decide +kernel
theorem dX9_never_7 : decode cX9_never 7 = .ok (.if_icmp .ge 18, 3) := by decide +kernel
theorem dX9_never_10 : decode cX9_never 10 = .ok (.iload_n 2, 1) := by decide +kernel
theorem dX9_never_11 : decode cX9_never 11 = .ok (.ifCond .lt 14, 3) := by decide +kernel
theorem dX9_never_14 : decode cX9_never 14 = .ok (.iload_n 2, 1) := by decide +kernel
theorem dX9_never_15 : decode cX9_never 15 = .ok (.bipush 8, 2) := by decide +kernel
theorem dX9_never_17 : decode cX9_never 17 = .ok (.if_icmp .ge 8, 3) := by decide +kernel
theorem dX9_never_20 : decode cX9_never 20 = .ok (.iload_n 1, 1) := by decide +kernel
theorem dX9_never_21 : decode cX9_never 21 = .ok (.iload_n 2, 1) := by decide +kernel
theorem dX9_never_22 : decode cX9_never 22 = .ok (.if_icmp .ne 7, 3) := by decide +kernel
theorem dX9_never_25 : decode cX9_never 25 = .ok (.sipush (-1001), 3) := by decide +kernel
theorem dX9_never_28 : decode cX9_never 28 = .ok (.ireturn, 1) := by decide +kernel
theorem dX9_never_29 : decode cX9_never 29 = .ok (.aload_n 0, 1) := by decide +kernel
theorem dX9_never_30 : decode cX9_never 30 = .ok (.getfield 40, 3) := by decide +kernel
theorem dX9_never_33 : decode cX9_never 33 = .ok (.iload_n 1, 1) := by decide +kernel
theorem dX9_never_34 : decode cX9_never 34 = .ok (.iload_n 2, 1) := by decide +kernel
theorem dX9_never_35 : decode cX9_never 35 = .ok (.invokevirtual 127, 3) := by decide +kernel
theorem dX9_never_38 : decode cX9_never 38 = .ok (.istore 4, 2) := by decide +kernel
theorem dX9_never_40 : decode cX9_never 40 = .ok (.iload 4, 2) := by decide +kernel
theorem dX9_never_42 : decode cX9_never 42 = .ok (.iload_n 3, 1) := by decide +kernel
theorem dX9_never_43 : decode cX9_never 43 = .ok (.if_icmp .eq 24, 3) := by decide +kernel
theorem dX9_never_46 : decode cX9_never 46 = .ok (.aload_n 0, 1) := by decide +kernel
theorem dX9_never_47 : decode cX9_never 47 = .ok (.getfield 40, 3) := by decide +kernel
theorem dX9_never_50 : decode cX9_never 50 = .ok (.iload_n 1, 1) := by decide +kernel
theorem dX9_never_51 : decode cX9_never 51 = .ok (.iload_n 2, 1) := by decide +kernel
theorem dX9_never_52 : decode cX9_never 52 = .ok (.invokevirtual 131, 3) := by decide +kernel
theorem dX9_never_55 : decode cX9_never 55 = .ok (.aload_n 0, 1) := by decide +kernel
theorem dX9_never_56 : decode cX9_never 56 = .ok (.getfield 49, 3) := by decide +kernel
theorem dX9_never_59 : decode cX9_never 59 = .ok (.iconst 0, 1) := by decide +kernel
theorem dX9_never_60 : decode cX9_never 60 = .ok (.putfield 102, 3) := by decide +kernel
theorem dX9_never_63 : decode cX9_never 63 = .ok (.aload_n 0, 1) := by decide +kernel
theorem dX9_never_64 : decode cX9_never 64 = .ok (.invokevirtual 106, 3) := by decide +kernel
theorem dX9_never_67 : decode cX9_never 67 = .ok (.iload 4, 2) := by decide +kernel
theorem dX9_never_69 : decode cX9_never 69 = .ok (.ifCond .eq 7, 3) := by decide +kernel
theorem dX9_never_72 : decode cX9_never 72 = .ok (.iconst 1, 1) := by decide +kernel
theorem dX9_never_73 : decode cX9_never 73 = .ok (.goto 4, 3) := by decide +kernel
theorem dX9_never_76 : decode cX9_never 76 = .ok (.iconst 0, 1) := by decide +kernel
theorem dX9_never_77 : decode cX9_never 77 = .ok (.ireturn, 1) := by decide +kernel
theorem dX9_count_0 : decode cX9_count 0 = .ok (.iload_n 1, 1) := by decide +kernel
theorem dX9_count_1 : decode cX9_count 1 = .ok (.tableswitch 130 0 7 #[47, 55, 63, 71, 79, 95, 103, 111], 47) := by decide +kernel
theorem dX9_count_48 : decode cX9_count 48 = .ok (.aload_n 0, 1) := by decide +kernel
theorem dX9_count_49 : decode cX9_count 49 = .ok (.getfield 28, 3) := by decide +kernel
theorem dX9_count_52 : decode cX9_count 52 = .ok (.getfield 109, 3) := by decide +kernel
theorem dX9_count_55 : decode cX9_count 55 = .ok (.ireturn, 1) := by decide +kernel
theorem dX9_count_56 : decode cX9_count 56 = .ok (.aload_n 0, 1) := by decide +kernel
theorem dX9_count_57 : decode cX9_count 57 = .ok (.getfield 56, 3) := by decide +kernel
theorem dX9_count_60 : decode cX9_count 60 = .ok (.invokevirtual 135, 3) := by decide +kernel
theorem dX9_count_63 : decode cX9_count 63 = .ok (.ireturn, 1) := by decide +kernel
theorem dX9_count_64 : decode cX9_count 64 = .ok (.aload_n 0, 1) := by decide +kernel
theorem dX9_count_65 : decode cX9_count 65 = .ok (.getfield 56, 3) := by decide +kernel
theorem dX9_count_68 : decode cX9_count 68 = .ok (.getfield 139, 3) := by decide +kernel
theorem dX9_count_71 : decode cX9_count 71 = .ok (.ireturn, 1) := by decide +kernel
theorem dX9_count_72 : decode cX9_count 72 = .ok (.aload_n 0, 1) := by decide +kernel
theorem dX9_count_73 : decode cX9_count 73 = .ok (.getfield 56, 3) := by decide +kernel
theorem dX9_count_76 : decode cX9_count 76 = .ok (.invokevirtual 142, 3) := by decide +kernel
theorem dX9_count_79 : decode cX9_count 79 = .ok (.ireturn, 1) := by decide +kernel
theorem dX9_count_80 : decode cX9_count 80 = .ok (.aload_n 0, 1) := by decide +kernel
theorem dX9_count_81 : decode cX9_count 81 = .ok (.getfield 28, 3) := by decide +kernel
theorem dX9_count_84 : decode cX9_count 84 = .ok (.aload_n 0, 1) := by decide +kernel
theorem dX9_count_85 : decode cX9_count 85 = .ok (.getfield 28, 3) := by decide +kernel
theorem dX9_count_88 : decode cX9_count 88 = .ok (.invokevirtual 145, 3) := by decide +kernel
theorem dX9_count_91 : decode cX9_count 91 = .ok (.iconst 0, 1) := by decide +kernel
theorem dX9_count_92 : decode cX9_count 92 = .ok (.invokevirtual 148, 3) := by decide +kernel
theorem dX9_count_95 : decode cX9_count 95 = .ok (.ireturn, 1) := by decide +kernel
theorem dX9_count_96 : decode cX9_count 96 = .ok (.aload_n 0, 1) := by decide +kernel
theorem dX9_count_97 : decode cX9_count 97 = .ok (.getfield 12, 3) := by decide +kernel
theorem dX9_count_100 : decode cX9_count 100 = .ok (.getfield 84, 3) := by decide +kernel
theorem dX9_count_103 : decode cX9_count 103 = .ok (.ireturn, 1) := by decide +kernel
theorem dX9_count_104 : decode cX9_count 104 = .ok (.aload_n 0, 1) := by decide +kernel
theorem dX9_count_105 : decode cX9_count 105 = .ok (.getfield 40, 3) := by decide +kernel
theorem dX9_count_108 : decode cX9_count 108 = .ok (.getfield 151, 3) := by decide +kernel
theorem dX9_count_111 : decode cX9_count 111 = .ok (.ireturn, 1) := by decide +kernel
theorem dX9_count_112 : decode cX9_count 112 = .ok (.aload_n 0, 1) := by decide +kernel
theorem dX9_count_113 : decode cX9_count 113 = .ok (.getfield 28, 3) := by decide +kernel
theorem dX9_count_116 : decode cX9_count 116 = .ok (.aload_n 0, 1) := by decide +kernel
theorem dX9_count_117 : decode cX9_count 117 = .ok (.getfield 28, 3) := by decide +kernel
theorem dX9_count_120 : decode cX9_count 120 = .ok (.invokevirtual 145, 3) := by decide +kernel
theorem dX9_count_123 : decode cX9_count 123 = .ok (.iconst 4, 1) := by decide +kernel
theorem dX9_count_124 : decode cX9_count 124 = .ok (.invokevirtual 154, 3) := by decide +kernel
theorem dX9_count_127 : decode cX9_count 127 = .ok (.invokestatic 157, 3) := by decide +kernel
theorem dX9_count_130 : decode cX9_count 130 = .ok (.ireturn, 1) := by decide +kernel
theorem dX9_count_131 : decode cX9_count 131 = .ok (.sipush (-1002), 3) := by decide +kernel
theorem dX9_count_134 : decode cX9_count 134 = .ok (.ireturn, 1) := by decide +kernel
theorem dX9_may_0 : decode cX9_may 0 = .ok (.aload_n 0, 1) := by decide +kernel
theorem dX9_may_1 : decode cX9_may 1 = .ok (.iload_n 1, 1) := by decide +kernel
theorem dX9_may_2 : decode cX9_may 2 = .ok (.invokevirtual 115, 3) := by decide +kernel
theorem dX9_may_5 : decode cX9_may 5 = .ok (.ifCond .eq 11, 3) := by decide +kernel
theorem dX9_may_8 : decode cX9_may 8 = .ok (.aload_n 0, 1) := by decide +kernel
theorem dX9_may_9 : decode cX9_may 9 = .ok (.iload_n 2, 1) := by decide +kernel
theorem dX9_may_10 : decode cX9_may 10 = .ok (.invokevirtual 162, 3) := by decide +kernel
theorem dX9_may_13 : decode cX9_may 13 = .ok (.ifCond .ne 7, 3) := by decide +kernel
theorem dX9_may_16 : decode cX9_may 16 = .ok (.sipush (-1001), 3) := by decide +kernel
theorem dX9_may_19 : decode cX9_may 19 = .ok (.ireturn, 1) := by decide +kernel
theorem dX9_may_20 : decode cX9_may 20 = .ok (.aload_n 0, 1) := by decide +kernel
theorem dX9_may_21 : decode cX9_may 21 = .ok (.getfield 40, 3) := by decide +kernel
theorem dX9_may_24 : decode cX9_may 24 = .ok (.iload_n 2, 1) := by decide +kernel
theorem dX9_may_25 : decode cX9_may 25 = .ok (.invokevirtual 165, 3) := by decide +kernel
theorem dX9_may_28 : decode cX9_may 28 = .ok (.iload_n 1, 1) := by decide +kernel
theorem dX9_may_29 : decode cX9_may 29 = .ok (.ishr, 1) := by decide +kernel
theorem dX9_may_30 : decode cX9_may 30 = .ok (.iconst 1, 1) := by decide +kernel
theorem dX9_may_31 : decode cX9_may 31 = .ok (.iand, 1) := by decide +kernel
theorem dX9_may_32 : decode cX9_may 32 = .ok (.ireturn, 1) := by decide +kernel
theorem dX9_next_0 : decode cX9_next 0 = .ok (.aload_n 0, 1) := by decide +kernel
theorem dX9_next_1 : decode cX9_next 1 = .ok (.iload_n 1, 1) := by decide +kernel
theorem dX9_next_2 : decode cX9_next 2 = .ok (.invokevirtual 162, 3) := by decide +kernel
theorem dX9_next_5 : decode cX9_next 5 = .ok (.ifCond .eq 14, 3) := by decide +kernel
theorem dX9_next_8 : decode cX9_next 8 = .ok (.aload_n 0, 1) := by decide +kernel
theorem dX9_next_9 : decode cX9_next 9 = .ok (.getfield 40, 3) := by decide +kernel
theorem dX9_next_12 : decode cX9_next 12 = .ok (.iload_n 1, 1) := by decide +kernel
theorem dX9_next_13 : decode cX9_next 13 = .ok (.invokevirtual 165, 3) := by decide +kernel
theorem dX9_next_16 : decode cX9_next 16 = .ok (.goto 6, 3) := by decide +kernel
theorem dX9_next_19 : decode cX9_next 19 = .ok (.sipush (-1001), 3) := by decide +kernel
theorem dX9_next_22 : decode cX9_next 22 = .ok (.ireturn, 1) := by decide +kernel
theorem dX9_orders_0 : decode cX9_orders 0 = .ok (.aload_n 0, 1) := by decide +kernel
theorem dX9_orders_1 : decode cX9_orders 1 = .ok (.iload_n 1, 1) := by decide +kernel
theorem dX9_orders_2 : decode cX9_orders 2 = .ok (.invokevirtual 162, 3) := by decide +kernel
theorem dX9_orders_5 : decode cX9_orders 5 = .ok (.ifCond .eq 16, 3) := by decide +kernel
theorem dX9_orders_8 : decode cX9_orders 8 = .ok (.aload_n 0, 1) := by decide +kernel
theorem dX9_orders_9 : decode cX9_orders 9 = .ok (.invokevirtual 168, 3) := by decide +kernel
theorem dX9_orders_12 : decode cX9_orders 12 = .ok (.getfield 172, 3) := by decide +kernel
theorem dX9_orders_15 : decode cX9_orders 15 = .ok (.iload_n 1, 1) := by decide +kernel
theorem dX9_orders_16 : decode cX9_orders 16 = .ok (.iaload, 1) := by decide +kernel
theorem dX9_orders_17 : decode cX9_orders 17 = .ok (.i2l, 1) := by decide +kernel
theorem dX9_orders_18 : decode cX9_orders 18 = .ok (.goto 6, 3) := by decide +kernel
theorem dX9_orders_21 : decode cX9_orders 21 = .ok (.ldc2_w 176, 3) := by decide +kernel
theorem dX9_orders_24 : decode cX9_orders 24 = .ok (.lreturn, 1) := by decide +kernel
theorem dX9_order_0 : decode cX9_order 0 = .ok (.aload_n 0, 1) := by decide +kernel
theorem dX9_order_1 : decode cX9_order 1 = .ok (.iload_n 1, 1) := by decide +kernel
theorem dX9_order_2 : decode cX9_order 2 = .ok (.invokevirtual 162, 3) := by decide +kernel
theorem dX9_order_5 : decode cX9_order 5 = .ok (.ifCond .ne 7, 3) := by decide +kernel
theorem dX9_order_8 : decode cX9_order 8 = .ok (.sipush (-1001), 3) := by decide +kernel
theorem dX9_order_11 : decode cX9_order 11 = .ok (.ireturn, 1) := by decide +kernel
theorem dX9_order_12 : decode cX9_order 12 = .ok (.lload_n 2, 1) := by decide +kernel
theorem dX9_order_13 : decode cX9_order 13 = .ok (.lconst 0, 1) := by decide +kernel
theorem dX9_order_14 : decode cX9_order 14 = .ok (.lcmp, 1) := by decide +kernel
theorem dX9_order_15 : decode cX9_order 15 = .ok (.ifCond .ge 7, 3) := by decide +kernel
theorem dX9_order_18 : decode cX9_order 18 = .ok (.sipush (-1002), 3) := by decide +kernel
theorem dX9_order_21 : decode cX9_order 21 = .ok (.ireturn, 1) := by decide +kernel
theorem dX9_order_22 : decode cX9_order 22 = .ok (.aload_n 0, 1) := by decide +kernel
theorem dX9_order_23 : decode cX9_order 23 = .ok (.invokevirtual 168, 3) := by decide +kernel
theorem dX9_order_26 : decode cX9_order 26 = .ok (.iload_n 1, 1) := by decide +kernel
theorem dX9_order_27 : decode cX9_order 27 = .ok (.lload_n 2, 1) := by decide +kernel
theorem dX9_order_28 : decode cX9_order 28 = .ok (.iload 4, 2) := by decide +kernel
theorem dX9_order_30 : decode cX9_order 30 = .ok (.invokevirtual 178, 3) := by decide +kernel
theorem dX9_order_33 : decode cX9_order 33 = .ok (.ireturn, 1) := by decide +kernel
theorem dX9_good_0 : decode cX9_good 0 = .ok (.aload_n 0, 1) := by decide +kernel
theorem dX9_good_1 : decode cX9_good 1 = .ok (.invokevirtual 168, 3) := by decide +kernel
theorem dX9_good_4 : decode cX9_good 4 = .ok (.invokevirtual 182, 3) := by decide +kernel
theorem dX9_good_7 : decode cX9_good 7 = .ok (.ireturn, 1) := by decide +kernel
theorem dX9_place_0 : decode cX9_place 0 = .ok (.aload_n 0, 1) := by decide +kernel
theorem dX9_place_1 : decode cX9_place 1 = .ok (.iload_n 1, 1) := by decide +kernel
theorem dX9_place_2 : decode cX9_place 2 = .ok (.invokevirtual 115, 3) := by decide +kernel
theorem dX9_place_5 : decode cX9_place 5 = .ok (.ifCond .ne 7, 3) := by decide +kernel
theorem dX9_place_8 : decode cX9_place 8 = .ok (.sipush (-1001), 3) := by decide +kernel
theorem dX9_place_11 : decode cX9_place 11 = .ok (.ireturn, 1) := by decide +kernel
theorem dX9_place_12 : decode cX9_place 12 = .ok (.iload_n 2, 1) := by decide +kernel
theorem dX9_place_13 : decode cX9_place 13 = .ok (.ifCond .lt 8, 3) := by decide +kernel
theorem dX9_place_16 : decode cX9_place 16 = .ok (.iload_n 2, 1) := by decide +kernel
theorem dX9_place_17 : decode cX9_place 17 = .ok (.iconst 1, 1) := by decide +kernel
theorem dX9_place_18 : decode cX9_place 18 = .ok (.if_icmp .le 7, 3) := by decide +kernel
theorem dX9_place_21 : decode cX9_place 21 = .ok (.sipush (-1002), 3) := by decide +kernel
theorem dX9_place_24 : decode cX9_place 24 = .ok (.ireturn, 1) := by decide +kernel
theorem dX9_place_25 : decode cX9_place 25 = .ok (.iload_n 2, 1) := by decide +kernel
theorem dX9_place_26 : decode cX9_place 26 = .ok (.ifCond .ne 14, 3) := by decide +kernel
theorem dX9_place_29 : decode cX9_place 29 = .ok (.aload_n 0, 1) := by decide +kernel
theorem dX9_place_30 : decode cX9_place 30 = .ok (.invokevirtual 168, 3) := by decide +kernel
theorem dX9_place_33 : decode cX9_place 33 = .ok (.iload_n 1, 1) := by decide +kernel
theorem dX9_place_34 : decode cX9_place 34 = .ok (.invokevirtual 185, 3) := by decide +kernel
theorem dX9_place_37 : decode cX9_place 37 = .ok (.goto 11, 3) := by decide +kernel
theorem dX9_place_40 : decode cX9_place 40 = .ok (.aload_n 0, 1) := by decide +kernel
theorem dX9_place_41 : decode cX9_place 41 = .ok (.invokevirtual 168, 3) := by decide +kernel
theorem dX9_place_44 : decode cX9_place 44 = .ok (.iload_n 1, 1) := by decide +kernel
theorem dX9_place_45 : decode cX9_place 45 = .ok (.invokevirtual 188, 3) := by decide +kernel
theorem dX9_place_48 : decode cX9_place 48 = .ok (.ireturn, 1) := by decide +kernel
theorem dX9_open_0 : decode cX9_open 0 = .ok (.aload_n 0, 1) := by decide +kernel
theorem dX9_open_1 : decode cX9_open 1 = .ok (.iload_n 1, 1) := by decide +kernel
theorem dX9_open_2 : decode cX9_open 2 = .ok (.invokevirtual 162, 3) := by decide +kernel
theorem dX9_open_5 : decode cX9_open 5 = .ok (.ifCond .eq 14, 3) := by decide +kernel
theorem dX9_open_8 : decode cX9_open 8 = .ok (.aload_n 0, 1) := by decide +kernel
theorem dX9_open_9 : decode cX9_open 9 = .ok (.getfield 28, 3) := by decide +kernel
theorem dX9_open_12 : decode cX9_open 12 = .ok (.iload_n 1, 1) := by decide +kernel
theorem dX9_open_13 : decode cX9_open 13 = .ok (.invokevirtual 191, 3) := by decide +kernel
theorem dX9_open_16 : decode cX9_open 16 = .ok (.goto 6, 3) := by decide +kernel
theorem dX9_open_19 : decode cX9_open 19 = .ok (.sipush (-1001), 3) := by decide +kernel
theorem dX9_open_22 : decode cX9_open 22 = .ok (.ireturn, 1) := by decide +kernel
theorem dX9_atOnce_0 : decode cX9_atOnce 0 = .ok (.aload_n 0, 1) := by decide +kernel
theorem dX9_atOnce_1 : decode cX9_atOnce 1 = .ok (.iload_n 1, 1) := by decide +kernel
theorem dX9_atOnce_2 : decode cX9_atOnce 2 = .ok (.invokevirtual 162, 3) := by decide +kernel
theorem dX9_atOnce_5 : decode cX9_atOnce 5 = .ok (.ifCond .eq 15, 3) := by decide +kernel
theorem dX9_atOnce_8 : decode cX9_atOnce 8 = .ok (.aload_n 0, 1) := by decide +kernel
theorem dX9_atOnce_9 : decode cX9_atOnce 9 = .ok (.invokevirtual 168, 3) := by decide +kernel
theorem dX9_atOnce_12 : decode cX9_atOnce 12 = .ok (.getfield 194, 3) := by decide +kernel
theorem dX9_atOnce_15 : decode cX9_atOnce 15 = .ok (.iload_n 1, 1) := by decide +kernel
theorem dX9_atOnce_16 : decode cX9_atOnce 16 = .ok (.iaload, 1) := by decide +kernel
theorem dX9_atOnce_17 : decode cX9_atOnce 17 = .ok (.goto 6, 3) := by decide +kernel
theorem dX9_atOnce_20 : decode cX9_atOnce 20 = .ok (.sipush (-1001), 3) := by decide +kernel
theorem dX9_atOnce_23 : decode cX9_atOnce 23 = .ok (.ireturn, 1) := by decide +kernel
theorem dX9_along_0 : decode cX9_along 0 = .ok (.aload_n 0, 1) := by decide +kernel
theorem dX9_along_1 : decode cX9_along 1 = .ok (.iload_n 1, 1) := by decide +kernel
theorem dX9_along_2 : decode cX9_along 2 = .ok (.invokevirtual 115, 3) := by decide +kernel
theorem dX9_along_5 : decode cX9_along 5 = .ok (.ifCond .eq 14, 3) := by decide +kernel
theorem dX9_along_8 : decode cX9_along 8 = .ok (.aload_n 0, 1) := by decide +kernel
theorem dX9_along_9 : decode cX9_along 9 = .ok (.invokevirtual 168, 3) := by decide +kernel
theorem dX9_along_12 : decode cX9_along 12 = .ok (.iload_n 1, 1) := by decide +kernel
theorem dX9_along_13 : decode cX9_along 13 = .ok (.invokevirtual 197, 3) := by decide +kernel
theorem dX9_along_16 : decode cX9_along 16 = .ok (.goto 6, 3) := by decide +kernel
theorem dX9_along_19 : decode cX9_along 19 = .ok (.sipush (-1001), 3) := by decide +kernel
theorem dX9_along_22 : decode cX9_along 22 = .ok (.ireturn, 1) := by decide +kernel
theorem dX9_shortest_0 : decode cX9_shortest 0 = .ok (.aload_n 0, 1) := by decide +kernel
theorem dX9_shortest_1 : decode cX9_shortest 1 = .ok (.iload_n 1, 1) := by decide +kernel
theorem dX9_shortest_2 : decode cX9_shortest 2 = .ok (.invokevirtual 115, 3) := by decide +kernel
theorem dX9_shortest_5 : decode cX9_shortest 5 = .ok (.ifCond .ne 7, 3) := by decide +kernel
theorem dX9_shortest_8 : decode cX9_shortest 8 = .ok (.sipush (-1001), 3) := by decide +kernel
theorem dX9_shortest_11 : decode cX9_shortest 11 = .ok (.ireturn, 1) := by decide +kernel
theorem dX9_shortest_12 : decode cX9_shortest 12 = .ok (.iload_n 2, 1) := by decide +kernel
theorem dX9_shortest_13 : decode cX9_shortest 13 = .ok (.ifCond .lt 8, 3) := by decide +kernel
theorem dX9_shortest_16 : decode cX9_shortest 16 = .ok (.iload_n 2, 1) := by decide +kernel
theorem dX9_shortest_17 : decode cX9_shortest 17 = .ok (.iconst 1, 1) := by decide +kernel
theorem dX9_shortest_18 : decode cX9_shortest 18 = .ok (.if_icmp .le 7, 3) := by decide +kernel
theorem dX9_shortest_21 : decode cX9_shortest 21 = .ok (.sipush (-1002), 3) := by decide +kernel
theorem dX9_shortest_24 : decode cX9_shortest 24 = .ok (.ireturn, 1) := by decide +kernel
theorem dX9_shortest_25 : decode cX9_shortest 25 = .ok (.aload_n 0, 1) := by decide +kernel
theorem dX9_shortest_26 : decode cX9_shortest 26 = .ok (.invokevirtual 168, 3) := by decide +kernel
theorem dX9_shortest_29 : decode cX9_shortest 29 = .ok (.iload_n 1, 1) := by decide +kernel
theorem dX9_shortest_30 : decode cX9_shortest 30 = .ok (.invokevirtual 200, 3) := by decide +kernel
theorem dX9_shortest_33 : decode cX9_shortest 33 = .ok (.istore_n 3, 1) := by decide +kernel
theorem dX9_shortest_34 : decode cX9_shortest 34 = .ok (.iload_n 2, 1) := by decide +kernel
theorem dX9_shortest_35 : decode cX9_shortest 35 = .ok (.ifCond .eq 8, 3) := by decide +kernel
theorem dX9_shortest_38 : decode cX9_shortest 38 = .ok (.iload_n 3, 1) := by decide +kernel
theorem dX9_shortest_39 : decode cX9_shortest 39 = .ok (.iconst (-1), 1) := by decide +kernel
theorem dX9_shortest_40 : decode cX9_shortest 40 = .ok (.if_icmp .ne 7, 3) := by decide +kernel
theorem dX9_shortest_43 : decode cX9_shortest 43 = .ok (.iload_n 3, 1) := by decide +kernel
theorem dX9_shortest_44 : decode cX9_shortest 44 = .ok (.goto 12, 3) := by decide +kernel
theorem dX9_shortest_47 : decode cX9_shortest 47 = .ok (.aload_n 0, 1) := by decide +kernel
theorem dX9_shortest_48 : decode cX9_shortest 48 = .ok (.getfield 28, 3) := by decide +kernel
theorem dX9_shortest_51 : decode cX9_shortest 51 = .ok (.iload_n 3, 1) := by decide +kernel
theorem dX9_shortest_52 : decode cX9_shortest 52 = .ok (.iconst 0, 1) := by decide +kernel
theorem dX9_shortest_53 : decode cX9_shortest 53 = .ok (.invokevirtual 148, 3) := by decide +kernel
theorem dX9_shortest_56 : decode cX9_shortest 56 = .ok (.ireturn, 1) := by decide +kernel
theorem dX9_law_0 : decode cX9_law 0 = .ok (.aload_n 0, 1) := by decide +kernel
theorem dX9_law_1 : decode cX9_law 1 = .ok (.getfield 56, 3) := by decide +kernel
theorem dX9_law_4 : decode cX9_law 4 = .ok (.iload_n 1, 1) := by decide +kernel
theorem dX9_law_5 : decode cX9_law 5 = .ok (.iload_n 2, 1) := by decide +kernel
theorem dX9_law_6 : decode cX9_law 6 = .ok (.invokevirtual 203, 3) := by decide +kernel
theorem dX9_law_9 : decode cX9_law 9 = .ok (.ifCond .ne 7, 3) := by decide +kernel
theorem dX9_law_12 : decode cX9_law 12 = .ok (.sipush (-1002), 3) := by decide +kernel
theorem dX9_law_15 : decode cX9_law 15 = .ok (.ireturn, 1) := by decide +kernel
theorem dX9_law_16 : decode cX9_law 16 = .ok (.aload_n 0, 1) := by decide +kernel
theorem dX9_law_17 : decode cX9_law 17 = .ok (.getfield 56, 3) := by decide +kernel
theorem dX9_law_20 : decode cX9_law 20 = .ok (.getfield 206, 3) := by decide +kernel
theorem dX9_law_23 : decode cX9_law 23 = .ok (.iload_n 1, 1) := by decide +kernel
theorem dX9_law_24 : decode cX9_law 24 = .ok (.iaload, 1) := by decide +kernel
theorem dX9_law_25 : decode cX9_law 25 = .ok (.istore_n 3, 1) := by decide +kernel
theorem dX9_law_26 : decode cX9_law 26 = .ok (.aload_n 0, 1) := by decide +kernel
theorem dX9_law_27 : decode cX9_law 27 = .ok (.getfield 56, 3) := by decide +kernel
theorem dX9_law_30 : decode cX9_law 30 = .ok (.getfield 206, 3) := by decide +kernel
theorem dX9_law_33 : decode cX9_law 33 = .ok (.iload_n 1, 1) := by decide +kernel
theorem dX9_law_34 : decode cX9_law 34 = .ok (.iload_n 2, 1) := by decide +kernel
theorem dX9_law_35 : decode cX9_law 35 = .ok (.iastore, 1) := by decide +kernel
theorem dX9_law_36 : decode cX9_law 36 = .ok (.aload_n 0, 1) := by decide +kernel
theorem dX9_law_37 : decode cX9_law 37 = .ok (.invokevirtual 106, 3) := by decide +kernel
theorem dX9_law_40 : decode cX9_law 40 = .ok (.iload_n 3, 1) := by decide +kernel
theorem dX9_law_41 : decode cX9_law 41 = .ok (.ireturn, 1) := by decide +kernel
theorem dX9_add_0 : decode cX9_add 0 = .ok (.aload_n 0, 1) := by decide +kernel
theorem dX9_add_1 : decode cX9_add 1 = .ok (.iload_n 1, 1) := by decide +kernel
theorem dX9_add_2 : decode cX9_add 2 = .ok (.invokevirtual 115, 3) := by decide +kernel
theorem dX9_add_5 : decode cX9_add 5 = .ok (.ifCond .ne 7, 3) := by decide +kernel
theorem dX9_add_8 : decode cX9_add 8 = .ok (.sipush (-1001), 3) := by decide +kernel
theorem dX9_add_11 : decode cX9_add 11 = .ok (.ireturn, 1) := by decide +kernel
theorem dX9_add_12 : decode cX9_add 12 = .ok (.aload_n 0, 1) := by decide +kernel
theorem dX9_add_13 : decode cX9_add 13 = .ok (.getfield 40, 3) := by decide +kernel
theorem dX9_add_16 : decode cX9_add 16 = .ok (.aload_n 0, 1) := by decide +kernel
theorem dX9_add_17 : decode cX9_add 17 = .ok (.getfield 56, 3) := by decide +kernel
theorem dX9_add_20 : decode cX9_add 20 = .ok (.aload_n 0, 1) := by decide +kernel
theorem dX9_add_21 : decode cX9_add 21 = .ok (.getfield 56, 3) := by decide +kernel
theorem dX9_add_24 : decode cX9_add 24 = .ok (.getfield 209, 3) := by decide +kernel
theorem dX9_add_27 : decode cX9_add 27 = .ok (.invokevirtual 212, 3) := by decide +kernel
theorem dX9_add_30 : decode cX9_add 30 = .ok (.invokevirtual 165, 3) := by decide +kernel
theorem dX9_add_33 : decode cX9_add 33 = .ok (.iload_n 1, 1) := by decide +kernel
theorem dX9_add_34 : decode cX9_add 34 = .ok (.ishr, 1) := by decide +kernel
theorem dX9_add_35 : decode cX9_add 35 = .ok (.iconst 1, 1) := by decide +kernel
theorem dX9_add_36 : decode cX9_add 36 = .ok (.iand, 1) := by decide +kernel
theorem dX9_add_37 : decode cX9_add 37 = .ok (.ifCond .ne 7, 3) := by decide +kernel
theorem dX9_add_40 : decode cX9_add 40 = .ok (.sipush (-1003), 3) := by decide +kernel
theorem dX9_add_43 : decode cX9_add 43 = .ok (.ireturn, 1) := by decide +kernel
theorem dX9_add_44 : decode cX9_add 44 = .ok (.aload_n 0, 1) := by decide +kernel
theorem dX9_add_45 : decode cX9_add 45 = .ok (.getfield 56, 3) := by decide +kernel
theorem dX9_add_48 : decode cX9_add 48 = .ok (.invokevirtual 142, 3) := by decide +kernel
theorem dX9_add_51 : decode cX9_add 51 = .ok (.bipush 6, 2) := by decide +kernel
theorem dX9_add_53 : decode cX9_add 53 = .ok (.if_icmp .lt 7, 3) := by decide +kernel
theorem dX9_add_56 : decode cX9_add 56 = .ok (.sipush (-1004), 3) := by decide +kernel
theorem dX9_add_59 : decode cX9_add 59 = .ok (.ireturn, 1) := by decide +kernel
theorem dX9_add_60 : decode cX9_add 60 = .ok (.aload_n 0, 1) := by decide +kernel
theorem dX9_add_61 : decode cX9_add 61 = .ok (.getfield 56, 3) := by decide +kernel
theorem dX9_add_64 : decode cX9_add 64 = .ok (.iload_n 1, 1) := by decide +kernel
theorem dX9_add_65 : decode cX9_add 65 = .ok (.invokevirtual 215, 3) := by decide +kernel
theorem dX9_add_68 : decode cX9_add 68 = .ok (.aload_n 0, 1) := by decide +kernel
theorem dX9_add_69 : decode cX9_add 69 = .ok (.getfield 56, 3) := by decide +kernel
theorem dX9_add_72 : decode cX9_add 72 = .ok (.invokevirtual 142, 3) := by decide +kernel
theorem dX9_add_75 : decode cX9_add 75 = .ok (.ireturn, 1) := by decide +kernel
theorem dX9_drop_0 : decode cX9_drop 0 = .ok (.aload_n 0, 1) := by decide +kernel
theorem dX9_drop_1 : decode cX9_drop 1 = .ok (.getfield 56, 3) := by decide +kernel
theorem dX9_drop_4 : decode cX9_drop 4 = .ok (.invokevirtual 142, 3) := by decide +kernel
theorem dX9_drop_7 : decode cX9_drop 7 = .ok (.ifCond .ne 7, 3) := by decide +kernel
theorem dX9_drop_10 : decode cX9_drop 10 = .ok (.iconst (-1), 1) := by decide +kernel
theorem dX9_drop_11 : decode cX9_drop 11 = .ok (.goto 10, 3) := by decide +kernel
theorem dX9_drop_14 : decode cX9_drop 14 = .ok (.aload_n 0, 1) := by decide +kernel
theorem dX9_drop_15 : decode cX9_drop 15 = .ok (.getfield 56, 3) := by decide +kernel
theorem dX9_drop_18 : decode cX9_drop 18 = .ok (.invokevirtual 216, 3) := by decide +kernel
theorem dX9_drop_21 : decode cX9_drop 21 = .ok (.ireturn, 1) := by decide +kernel
theorem dX9_lines_0 : decode cX9_lines 0 = .ok (.aload_n 0, 1) := by decide +kernel
theorem dX9_lines_1 : decode cX9_lines 1 = .ok (.getfield 65, 3) := by decide +kernel
theorem dX9_lines_4 : decode cX9_lines 4 = .ok (.aload_n 0, 1) := by decide +kernel
theorem dX9_lines_5 : decode cX9_lines 5 = .ok (.getfield 56, 3) := by decide +kernel
theorem dX9_lines_8 : decode cX9_lines 8 = .ok (.getfield 139, 3) := by decide +kernel
theorem dX9_lines_11 : decode cX9_lines 11 = .ok (.invokevirtual 219, 3) := by decide +kernel
theorem dX9_lines_14 : decode cX9_lines 14 = .ok (.ireturn, 1) := by decide +kernel
theorem dX9_print_0 : decode cX9_print 0 = .ok (.aload_n 0, 1) := by decide +kernel
theorem dX9_print_1 : decode cX9_print 1 = .ok (.getfield 56, 3) := by decide +kernel
theorem dX9_print_4 : decode cX9_print 4 = .ok (.invokevirtual 142, 3) := by decide +kernel
theorem dX9_print_7 : decode cX9_print 7 = .ok (.ifCond .ne 7, 3) := by decide +kernel
theorem dX9_print_10 : decode cX9_print 10 = .ok (.sipush (-1003), 3) := by decide +kernel
theorem dX9_print_13 : decode cX9_print 13 = .ok (.ireturn, 1) := by decide +kernel
theorem dX9_print_14 : decode cX9_print 14 = .ok (.aload_n 0, 1) := by decide +kernel
theorem dX9_print_15 : decode cX9_print 15 = .ok (.getfield 65, 3) := by decide +kernel
theorem dX9_print_18 : decode cX9_print 18 = .ok (.aload_n 0, 1) := by decide +kernel
theorem dX9_print_19 : decode cX9_print 19 = .ok (.getfield 56, 3) := by decide +kernel
theorem dX9_print_22 : decode cX9_print 22 = .ok (.getfield 139, 3) := by decide +kernel
theorem dX9_print_25 : decode cX9_print 25 = .ok (.invokevirtual 219, 3) := by decide +kernel
theorem dX9_print_28 : decode cX9_print 28 = .ok (.istore_n 1, 1) := by decide +kernel
theorem dX9_print_29 : decode cX9_print 29 = .ok (.iload_n 1, 1) := by decide +kernel
theorem dX9_print_30 : decode cX9_print 30 = .ok (.aload_n 0, 1) := by decide +kernel
theorem dX9_print_31 : decode cX9_print 31 = .ok (.getfield 56, 3) := by decide +kernel
theorem dX9_print_34 : decode cX9_print 34 = .ok (.getfield 206, 3) := by decide +kernel
theorem dX9_print_37 : decode cX9_print 37 = .ok (.iconst 0, 1) := by decide +kernel
theorem dX9_print_38 : decode cX9_print 38 = .ok (.iaload, 1) := by decide +kernel
theorem dX9_print_39 : decode cX9_print 39 = .ok (.if_icmp .lt 16, 3) := by decide +kernel
theorem dX9_print_42 : decode cX9_print 42 = .ok (.iload_n 1, 1) := by decide +kernel
theorem dX9_print_43 : decode cX9_print 43 = .ok (.aload_n 0, 1) := by decide +kernel
theorem dX9_print_44 : decode cX9_print 44 = .ok (.getfield 56, 3) := by decide +kernel
theorem dX9_print_47 : decode cX9_print 47 = .ok (.getfield 206, 3) := by decide +kernel
theorem dX9_print_50 : decode cX9_print 50 = .ok (.iconst 1, 1) := by decide +kernel
theorem dX9_print_51 : decode cX9_print 51 = .ok (.iaload, 1) := by decide +kernel
theorem dX9_print_52 : decode cX9_print 52 = .ok (.if_icmp .le 7, 3) := by decide +kernel
theorem dX9_print_55 : decode cX9_print 55 = .ok (.sipush (-1003), 3) := by decide +kernel
theorem dX9_print_58 : decode cX9_print 58 = .ok (.ireturn, 1) := by decide +kernel
theorem dX9_print_59 : decode cX9_print 59 = .ok (.aload_n 0, 1) := by decide +kernel
theorem dX9_print_60 : decode cX9_print 60 = .ok (.getfield 56, 3) := by decide +kernel
theorem dX9_print_63 : decode cX9_print 63 = .ok (.getfield 139, 3) := by decide +kernel
theorem dX9_print_66 : decode cX9_print 66 = .ok (.bipush 12, 2) := by decide +kernel
theorem dX9_print_68 : decode cX9_print 68 = .ok (.if_icmp .lt 7, 3) := by decide +kernel
theorem dX9_print_71 : decode cX9_print 71 = .ok (.sipush (-1004), 3) := by decide +kernel
theorem dX9_print_74 : decode cX9_print 74 = .ok (.ireturn, 1) := by decide +kernel
theorem dX9_print_75 : decode cX9_print 75 = .ok (.aload_n 0, 1) := by decide +kernel
theorem dX9_print_76 : decode cX9_print 76 = .ok (.getfield 56, 3) := by decide +kernel
theorem dX9_print_79 : decode cX9_print 79 = .ok (.invokevirtual 222, 3) := by decide +kernel
theorem dX9_print_82 : decode cX9_print 82 = .ok (.aload_n 0, 1) := by decide +kernel
theorem dX9_print_83 : decode cX9_print 83 = .ok (.invokevirtual 106, 3) := by decide +kernel
theorem dX9_print_86 : decode cX9_print 86 = .ok (.aload_n 0, 1) := by decide +kernel
theorem dX9_print_87 : decode cX9_print 87 = .ok (.getfield 56, 3) := by decide +kernel
theorem dX9_print_90 : decode cX9_print 90 = .ok (.getfield 139, 3) := by decide +kernel
theorem dX9_print_93 : decode cX9_print 93 = .ok (.iconst 1, 1) := by decide +kernel
theorem dX9_print_94 : decode cX9_print 94 = .ok (.isub, 1) := by decide +kernel
theorem dX9_print_95 : decode cX9_print 95 = .ok (.ireturn, 1) := by decide +kernel
theorem dX9_number_0 : decode cX9_number 0 = .ok (.iload_n 1, 1) := by decide +kernel
theorem dX9_number_1 : decode cX9_number 1 = .ok (.ifCond .lt 14, 3) := by decide +kernel
theorem dX9_number_4 : decode cX9_number 4 = .ok (.iload_n 1, 1) := by decide +kernel
theorem dX9_number_5 : decode cX9_number 5 = .ok (.aload_n 0, 1) := by decide +kernel
theorem dX9_number_6 : decode cX9_number 6 = .ok (.getfield 56, 3) := by decide +kernel
theorem dX9_number_9 : decode cX9_number 9 = .ok (.getfield 139, 3) := by decide +kernel
theorem dX9_number_12 : decode cX9_number 12 = .ok (.if_icmp .lt 7, 3) := by decide +kernel
theorem dX9_number_15 : decode cX9_number 15 = .ok (.sipush (-1001), 3) := by decide +kernel
theorem dX9_number_18 : decode cX9_number 18 = .ok (.ireturn, 1) := by decide +kernel
theorem dX9_number_19 : decode cX9_number 19 = .ok (.iload_n 2, 1) := by decide +kernel
theorem dX9_number_20 : decode cX9_number 20 = .ok (.tableswitch 103 0 5 #[40, 58, 67, 76, 85, 94], 40) := by decide +kernel
theorem dX9_number_60 : decode cX9_number 60 = .ok (.aload_n 0, 1) := by decide +kernel
theorem dX9_number_61 : decode cX9_number 61 = .ok (.getfield 56, 3) := by decide +kernel
theorem dX9_number_64 : decode cX9_number 64 = .ok (.iload_n 1, 1) := by decide +kernel
theorem dX9_number_65 : decode cX9_number 65 = .ok (.invokevirtual 225, 3) := by decide +kernel
theorem dX9_number_68 : decode cX9_number 68 = .ok (.aload_n 0, 1) := by decide +kernel
theorem dX9_number_69 : decode cX9_number 69 = .ok (.getfield 56, 3) := by decide +kernel
theorem dX9_number_72 : decode cX9_number 72 = .ok (.iload_n 1, 1) := by decide +kernel
theorem dX9_number_73 : decode cX9_number 73 = .ok (.invokevirtual 228, 3) := by decide +kernel
theorem dX9_number_76 : decode cX9_number 76 = .ok (.isub, 1) := by decide +kernel
theorem dX9_number_77 : decode cX9_number 77 = .ok (.ireturn, 1) := by decide +kernel
theorem dX9_number_78 : decode cX9_number 78 = .ok (.aload_n 0, 1) := by decide +kernel
theorem dX9_number_79 : decode cX9_number 79 = .ok (.getfield 65, 3) := by decide +kernel
theorem dX9_number_82 : decode cX9_number 82 = .ok (.iload_n 1, 1) := by decide +kernel
theorem dX9_number_83 : decode cX9_number 83 = .ok (.invokevirtual 219, 3) := by decide +kernel
theorem dX9_number_86 : decode cX9_number 86 = .ok (.ireturn, 1) := by decide +kernel
theorem dX9_number_87 : decode cX9_number 87 = .ok (.aload_n 0, 1) := by decide +kernel
theorem dX9_number_88 : decode cX9_number 88 = .ok (.getfield 65, 3) := by decide +kernel
theorem dX9_number_91 : decode cX9_number 91 = .ok (.iload_n 1, 1) := by decide +kernel
theorem dX9_number_92 : decode cX9_number 92 = .ok (.invokevirtual 231, 3) := by decide +kernel
theorem dX9_number_95 : decode cX9_number 95 = .ok (.ireturn, 1) := by decide +kernel
theorem dX9_number_96 : decode cX9_number 96 = .ok (.aload_n 0, 1) := by decide +kernel
theorem dX9_number_97 : decode cX9_number 97 = .ok (.getfield 65, 3) := by decide +kernel
theorem dX9_number_100 : decode cX9_number 100 = .ok (.iload_n 1, 1) := by decide +kernel
theorem dX9_number_101 : decode cX9_number 101 = .ok (.invokevirtual 234, 3) := by decide +kernel
theorem dX9_number_104 : decode cX9_number 104 = .ok (.ireturn, 1) := by decide +kernel
theorem dX9_number_105 : decode cX9_number 105 = .ok (.aload_n 0, 1) := by decide +kernel
theorem dX9_number_106 : decode cX9_number 106 = .ok (.getfield 65, 3) := by decide +kernel
theorem dX9_number_109 : decode cX9_number 109 = .ok (.iload_n 1, 1) := by decide +kernel
theorem dX9_number_110 : decode cX9_number 110 = .ok (.invokevirtual 237, 3) := by decide +kernel
theorem dX9_number_113 : decode cX9_number 113 = .ok (.ireturn, 1) := by decide +kernel
theorem dX9_number_114 : decode cX9_number 114 = .ok (.aload_n 0, 1) := by decide +kernel
theorem dX9_number_115 : decode cX9_number 115 = .ok (.getfield 65, 3) := by decide +kernel
theorem dX9_number_118 : decode cX9_number 118 = .ok (.iload_n 1, 1) := by decide +kernel
theorem dX9_number_119 : decode cX9_number 119 = .ok (.invokevirtual 240, 3) := by decide +kernel
theorem dX9_number_122 : decode cX9_number 122 = .ok (.ireturn, 1) := by decide +kernel
theorem dX9_number_123 : decode cX9_number 123 = .ok (.iload_n 2, 1) := by decide +kernel
theorem dX9_number_124 : decode cX9_number 124 = .ok (.bipush 6, 2) := by decide +kernel
theorem dX9_number_126 : decode cX9_number 126 = .ok (.if_icmp .lt 9, 3) := by decide +kernel
theorem dX9_number_129 : decode cX9_number 129 = .ok (.iload_n 2, 1) := by decide +kernel
theorem dX9_number_130 : decode cX9_number 130 = .ok (.bipush 11, 2) := by decide +kernel
theorem dX9_number_132 : decode cX9_number 132 = .ok (.if_icmp .le 9, 3) := by decide +kernel
theorem dX9_number_135 : decode cX9_number 135 = .ok (.sipush (-1002), 3) := by decide +kernel
theorem dX9_number_138 : decode cX9_number 138 = .ok (.goto 15, 3) := by decide +kernel
theorem dX9_number_141 : decode cX9_number 141 = .ok (.aload_n 0, 1) := by decide +kernel
theorem dX9_number_142 : decode cX9_number 142 = .ok (.getfield 56, 3) := by decide +kernel
theorem dX9_number_145 : decode cX9_number 145 = .ok (.iload_n 1, 1) := by decide +kernel
theorem dX9_number_146 : decode cX9_number 146 = .ok (.iload_n 2, 1) := by decide +kernel
theorem dX9_number_147 : decode cX9_number 147 = .ok (.bipush 6, 2) := by decide +kernel
theorem dX9_number_149 : decode cX9_number 149 = .ok (.isub, 1) := by decide +kernel
theorem dX9_number_150 : decode cX9_number 150 = .ok (.invokevirtual 243, 3) := by decide +kernel
theorem dX9_number_153 : decode cX9_number 153 = .ok (.ireturn, 1) := by decide +kernel
theorem dX9_readers_0 : decode cX9_readers 0 = .ok (.aload_n 0, 1) := by decide +kernel
theorem dX9_readers_1 : decode cX9_readers 1 = .ok (.getfield 65, 3) := by decide +kernel
theorem dX9_readers_4 : decode cX9_readers 4 = .ok (.aload_n 0, 1) := by decide +kernel
theorem dX9_readers_5 : decode cX9_readers 5 = .ok (.getfield 56, 3) := by decide +kernel
theorem dX9_readers_8 : decode cX9_readers 8 = .ok (.getfield 139, 3) := by decide +kernel
theorem dX9_readers_11 : decode cX9_readers 11 = .ok (.iconst 1, 1) := by decide +kernel
theorem dX9_readers_12 : decode cX9_readers 12 = .ok (.isub, 1) := by decide +kernel
theorem dX9_readers_13 : decode cX9_readers 13 = .ok (.invokevirtual 234, 3) := by decide +kernel
theorem dX9_readers_16 : decode cX9_readers 16 = .ok (.ireturn, 1) := by decide +kernel
theorem dX9_plan_0 : decode cX9_plan 0 = .ok (.aload_n 0, 1) := by decide +kernel
theorem dX9_plan_1 : decode cX9_plan 1 = .ok (.iload_n 2, 1) := by decide +kernel
theorem dX9_plan_2 : decode cX9_plan 2 = .ok (.invokevirtual 162, 3) := by decide +kernel
theorem dX9_plan_5 : decode cX9_plan 5 = .ok (.ifCond .eq 22, 3) := by decide +kernel
theorem dX9_plan_8 : decode cX9_plan 8 = .ok (.iload_n 2, 1) := by decide +kernel
theorem dX9_plan_9 : decode cX9_plan 9 = .ok (.aload_n 0, 1) := by decide +kernel
theorem dX9_plan_10 : decode cX9_plan 10 = .ok (.getfield 56, 3) := by decide +kernel
theorem dX9_plan_13 : decode cX9_plan 13 = .ok (.aload_n 0, 1) := by decide +kernel
theorem dX9_plan_14 : decode cX9_plan 14 = .ok (.getfield 56, 3) := by decide +kernel
theorem dX9_plan_17 : decode cX9_plan 17 = .ok (.invokevirtual 135, 3) := by decide +kernel
theorem dX9_plan_20 : decode cX9_plan 20 = .ok (.invokevirtual 212, 3) := by decide +kernel
theorem dX9_plan_23 : decode cX9_plan 23 = .ok (.iand, 1) := by decide +kernel
theorem dX9_plan_24 : decode cX9_plan 24 = .ok (.ifCond .eq 7, 3) := by decide +kernel
theorem dX9_plan_27 : decode cX9_plan 27 = .ok (.sipush (-1001), 3) := by decide +kernel
theorem dX9_plan_30 : decode cX9_plan 30 = .ok (.ireturn, 1) := by decide +kernel
theorem dX9_plan_31 : decode cX9_plan 31 = .ok (.iload_n 1, 1) := by decide +kernel
theorem dX9_plan_32 : decode cX9_plan 32 = .ok (.iconst 1, 1) := by decide +kernel
theorem dX9_plan_33 : decode cX9_plan 33 = .ok (.if_icmp .lt 9, 3) := by decide +kernel
theorem dX9_plan_36 : decode cX9_plan 36 = .ok (.iload_n 1, 1) := by decide +kernel
theorem dX9_plan_37 : decode cX9_plan 37 = .ok (.bipush 12, 2) := by decide +kernel
theorem dX9_plan_39 : decode cX9_plan 39 = .ok (.if_icmp .le 7, 3) := by decide +kernel
theorem dX9_plan_42 : decode cX9_plan 42 = .ok (.sipush (-1002), 3) := by decide +kernel
theorem dX9_plan_45 : decode cX9_plan 45 = .ok (.ireturn, 1) := by decide +kernel
theorem dX9_plan_46 : decode cX9_plan 46 = .ok (.aload_n 0, 1) := by decide +kernel
theorem dX9_plan_47 : decode cX9_plan 47 = .ok (.invokevirtual 246, 3) := by decide +kernel
theorem dX9_plan_50 : decode cX9_plan 50 = .ok (.astore 4, 2) := by decide +kernel
theorem dX9_plan_52 : decode cX9_plan 52 = .ok (.aload 4, 2) := by decide +kernel
theorem dX9_plan_54 : decode cX9_plan 54 = .ok (.iload_n 2, 1) := by decide +kernel
theorem dX9_plan_55 : decode cX9_plan 55 = .ok (.invokevirtual 250, 3) := by decide +kernel
theorem dX9_plan_58 : decode cX9_plan 58 = .ok (.iload_n 3, 1) := by decide +kernel
theorem dX9_plan_59 : decode cX9_plan 59 = .ok (.iconst (-1), 1) := by decide +kernel
theorem dX9_plan_60 : decode cX9_plan 60 = .ok (.if_icmp .ne 12, 3) := by decide +kernel
theorem dX9_plan_63 : decode cX9_plan 63 = .ok (.aload 4, 2) := by decide +kernel
theorem dX9_plan_65 : decode cX9_plan 65 = .ok (.iload_n 1, 1) := by decide +kernel
theorem dX9_plan_66 : decode cX9_plan 66 = .ok (.invokevirtual 255, 3) := by decide +kernel
theorem dX9_plan_69 : decode cX9_plan 69 = .ok (.goto 10, 3) := by decide +kernel
theorem dX9_plan_72 : decode cX9_plan 72 = .ok (.aload 4, 2) := by decide +kernel
theorem dX9_plan_74 : decode cX9_plan 74 = .ok (.iload_n 1, 1) := by decide +kernel
theorem dX9_plan_75 : decode cX9_plan 75 = .ok (.iload_n 3, 1) := by decide +kernel
theorem dX9_plan_76 : decode cX9_plan 76 = .ok (.invokevirtual 258, 3) := by decide +kernel
theorem dX9_plan_79 : decode cX9_plan 79 = .ok (.ireturn, 1) := by decide +kernel
theorem dX9_kind_0 : decode cX9_kind 0 = .ok (.iload_n 2, 1) := by decide +kernel
theorem dX9_kind_1 : decode cX9_kind 1 = .ok (.ifCond .lt 10, 3) := by decide +kernel
theorem dX9_kind_4 : decode cX9_kind 4 = .ok (.iload_n 2, 1) := by decide +kernel
theorem dX9_kind_5 : decode cX9_kind 5 = .ok (.sipush 256, 3) := by decide +kernel
theorem dX9_kind_8 : decode cX9_kind 8 = .ok (.if_icmp .lt 7, 3) := by decide +kernel
theorem dX9_kind_11 : decode cX9_kind 11 = .ok (.sipush (-1001), 3) := by decide +kernel
theorem dX9_kind_14 : decode cX9_kind 14 = .ok (.ireturn, 1) := by decide +kernel
theorem dX9_kind_15 : decode cX9_kind 15 = .ok (.iload_n 1, 1) := by decide +kernel
theorem dX9_kind_16 : decode cX9_kind 16 = .ok (.iconst 1, 1) := by decide +kernel
theorem dX9_kind_17 : decode cX9_kind 17 = .ok (.if_icmp .lt 18, 3) := by decide +kernel
theorem dX9_kind_20 : decode cX9_kind 20 = .ok (.iload_n 1, 1) := by decide +kernel
theorem dX9_kind_21 : decode cX9_kind 21 = .ok (.bipush 12, 2) := by decide +kernel
theorem dX9_kind_23 : decode cX9_kind 23 = .ok (.if_icmp .gt 12, 3) := by decide +kernel
theorem dX9_kind_26 : decode cX9_kind 26 = .ok (.iload_n 3, 1) := by decide +kernel
theorem dX9_kind_27 : decode cX9_kind 27 = .ok (.ifCond .lt 8, 3) := by decide +kernel
theorem dX9_kind_30 : decode cX9_kind 30 = .ok (.iload_n 3, 1) := by decide +kernel
theorem dX9_kind_31 : decode cX9_kind 31 = .ok (.iconst 1, 1) := by decide +kernel
theorem dX9_kind_32 : decode cX9_kind 32 = .ok (.if_icmp .le 7, 3) := by decide +kernel
theorem dX9_kind_35 : decode cX9_kind 35 = .ok (.sipush (-1002), 3) := by decide +kernel
theorem dX9_kind_38 : decode cX9_kind 38 = .ok (.ireturn, 1) := by decide +kernel
theorem dX9_kind_39 : decode cX9_kind 39 = .ok (.aload_n 0, 1) := by decide +kernel
theorem dX9_kind_40 : decode cX9_kind 40 = .ok (.getfield 28, 3) := by decide +kernel
theorem dX9_kind_43 : decode cX9_kind 43 = .ok (.invokevirtual 145, 3) := by decide +kernel
theorem dX9_kind_46 : decode cX9_kind 46 = .ok (.aload_n 0, 1) := by decide +kernel
theorem dX9_kind_47 : decode cX9_kind 47 = .ok (.getfield 56, 3) := by decide +kernel
theorem dX9_kind_50 : decode cX9_kind 50 = .ok (.aload_n 0, 1) := by decide +kernel
theorem dX9_kind_51 : decode cX9_kind 51 = .ok (.getfield 56, 3) := by decide +kernel
theorem dX9_kind_54 : decode cX9_kind 54 = .ok (.invokevirtual 135, 3) := by decide +kernel
theorem dX9_kind_57 : decode cX9_kind 57 = .ok (.invokevirtual 212, 3) := by decide +kernel
theorem dX9_kind_60 : decode cX9_kind 60 = .ok (.iconst (-1), 1) := by decide +kernel
theorem dX9_kind_61 : decode cX9_kind 61 = .ok (.ixor, 1) := by decide +kernel
theorem dX9_kind_62 : decode cX9_kind 62 = .ok (.iand, 1) := by decide +kernel
theorem dX9_kind_63 : decode cX9_kind 63 = .ok (.aload_n 0, 1) := by decide +kernel
theorem dX9_kind_64 : decode cX9_kind 64 = .ok (.getfield 28, 3) := by decide +kernel
theorem dX9_kind_67 : decode cX9_kind 67 = .ok (.iload_n 2, 1) := by decide +kernel
theorem dX9_kind_68 : decode cX9_kind 68 = .ok (.invokevirtual 261, 3) := by decide +kernel
theorem dX9_kind_71 : decode cX9_kind 71 = .ok (.iconst (-1), 1) := by decide +kernel
theorem dX9_kind_72 : decode cX9_kind 72 = .ok (.ixor, 1) := by decide +kernel
theorem dX9_kind_73 : decode cX9_kind 73 = .ok (.iand, 1) := by decide +kernel
theorem dX9_kind_74 : decode cX9_kind 74 = .ok (.istore 4, 2) := by decide +kernel
theorem dX9_kind_76 : decode cX9_kind 76 = .ok (.aload_n 0, 1) := by decide +kernel
theorem dX9_kind_77 : decode cX9_kind 77 = .ok (.invokevirtual 246, 3) := by decide +kernel
theorem dX9_kind_80 : decode cX9_kind 80 = .ok (.astore 5, 2) := by decide +kernel
theorem dX9_kind_82 : decode cX9_kind 82 = .ok (.aload 5, 2) := by decide +kernel
theorem dX9_kind_84 : decode cX9_kind 84 = .ok (.iload 4, 2) := by decide +kernel
theorem dX9_kind_86 : decode cX9_kind 86 = .ok (.invokevirtual 264, 3) := by decide +kernel
theorem dX9_kind_89 : decode cX9_kind 89 = .ok (.aload 5, 2) := by decide +kernel
theorem dX9_kind_91 : decode cX9_kind 91 = .ok (.iload_n 1, 1) := by decide +kernel
theorem dX9_kind_92 : decode cX9_kind 92 = .ok (.iload 4, 2) := by decide +kernel
theorem dX9_kind_94 : decode cX9_kind 94 = .ok (.invokevirtual 267, 3) := by decide +kernel
theorem dX9_kind_97 : decode cX9_kind 97 = .ok (.istore 6, 2) := by decide +kernel
theorem dX9_kind_99 : decode cX9_kind 99 = .ok (.iload_n 3, 1) := by decide +kernel
theorem dX9_kind_100 : decode cX9_kind 100 = .ok (.ifCond .eq 9, 3) := by decide +kernel
theorem dX9_kind_103 : decode cX9_kind 103 = .ok (.iload 6, 2) := by decide +kernel
theorem dX9_kind_105 : decode cX9_kind 105 = .ok (.iconst (-1), 1) := by decide +kernel
theorem dX9_kind_106 : decode cX9_kind 106 = .ok (.if_icmp .ne 8, 3) := by decide +kernel
theorem dX9_kind_109 : decode cX9_kind 109 = .ok (.iload 6, 2) := by decide +kernel
theorem dX9_kind_111 : decode cX9_kind 111 = .ok (.goto 11, 3) := by decide +kernel
theorem dX9_kind_114 : decode cX9_kind 114 = .ok (.aload 5, 2) := by decide +kernel
theorem dX9_kind_116 : decode cX9_kind 116 = .ok (.iload_n 1, 1) := by decide +kernel
theorem dX9_kind_117 : decode cX9_kind 117 = .ok (.iload 6, 2) := by decide +kernel
theorem dX9_kind_119 : decode cX9_kind 119 = .ok (.invokevirtual 270, 3) := by decide +kernel
theorem dX9_kind_122 : decode cX9_kind 122 = .ok (.ireturn, 1) := by decide +kernel
theorem dX9_chapter_0 : decode cX9_chapter 0 = .ok (.iload_n 1, 1) := by decide +kernel
theorem dX9_chapter_1 : decode cX9_chapter 1 = .ok (.iconst 1, 1) := by decide +kernel
theorem dX9_chapter_2 : decode cX9_chapter 2 = .ok (.if_icmp .lt 9, 3) := by decide +kernel
theorem dX9_chapter_5 : decode cX9_chapter 5 = .ok (.iload_n 1, 1) := by decide +kernel
theorem dX9_chapter_6 : decode cX9_chapter 6 = .ok (.bipush 8, 2) := by decide +kernel
theorem dX9_chapter_8 : decode cX9_chapter 8 = .ok (.if_icmp .le 7, 3) := by decide +kernel
theorem dX9_chapter_11 : decode cX9_chapter 11 = .ok (.sipush (-1002), 3) := by decide +kernel
theorem dX9_chapter_14 : decode cX9_chapter 14 = .ok (.ireturn, 1) := by decide +kernel
theorem dX9_chapter_15 : decode cX9_chapter 15 = .ok (.aload_n 0, 1) := by decide +kernel
theorem dX9_chapter_16 : decode cX9_chapter 16 = .ok (.getfield 56, 3) := by decide +kernel
theorem dX9_chapter_19 : decode cX9_chapter 19 = .ok (.invokevirtual 135, 3) := by decide +kernel
theorem dX9_chapter_22 : decode cX9_chapter 22 = .ok (.iload_n 1, 1) := by decide +kernel
theorem dX9_chapter_23 : decode cX9_chapter 23 = .ok (.if_icmp .ge 7, 3) := by decide +kernel
theorem dX9_chapter_26 : decode cX9_chapter 26 = .ok (.sipush (-1003), 3) := by decide +kernel
theorem dX9_chapter_29 : decode cX9_chapter 29 = .ok (.ireturn, 1) := by decide +kernel
theorem dX9_chapter_30 : decode cX9_chapter 30 = .ok (.iload_n 2, 1) := by decide +kernel
theorem dX9_chapter_31 : decode cX9_chapter 31 = .ok (.iconst (-1), 1) := by decide +kernel
theorem dX9_chapter_32 : decode cX9_chapter 32 = .ok (.if_icmp .eq 16, 3) := by decide +kernel
theorem dX9_chapter_35 : decode cX9_chapter 35 = .ok (.iload_n 2, 1) := by decide +kernel
theorem dX9_chapter_36 : decode cX9_chapter 36 = .ok (.ifCond .lt 8, 3) := by decide +kernel
theorem dX9_chapter_39 : decode cX9_chapter 39 = .ok (.iload_n 2, 1) := by decide +kernel
theorem dX9_chapter_40 : decode cX9_chapter 40 = .ok (.iload_n 1, 1) := by decide +kernel
theorem dX9_chapter_41 : decode cX9_chapter 41 = .ok (.if_icmp .lt 7, 3) := by decide +kernel
theorem dX9_chapter_44 : decode cX9_chapter 44 = .ok (.sipush (-1001), 3) := by decide +kernel
theorem dX9_chapter_47 : decode cX9_chapter 47 = .ok (.ireturn, 1) := by decide +kernel
theorem dX9_chapter_48 : decode cX9_chapter 48 = .ok (.aload_n 0, 1) := by decide +kernel
theorem dX9_chapter_49 : decode cX9_chapter 49 = .ok (.getfield 72, 3) := by decide +kernel
theorem dX9_chapter_52 : decode cX9_chapter 52 = .ok (.iload_n 1, 1) := by decide +kernel
theorem dX9_chapter_53 : decode cX9_chapter 53 = .ok (.invokevirtual 273, 3) := by decide +kernel
theorem dX9_chapter_56 : decode cX9_chapter 56 = .ok (.iload_n 2, 1) := by decide +kernel
theorem dX9_chapter_57 : decode cX9_chapter 57 = .ok (.iconst (-1), 1) := by decide +kernel
theorem dX9_chapter_58 : decode cX9_chapter 58 = .ok (.if_icmp .ne 14, 3) := by decide +kernel
theorem dX9_chapter_61 : decode cX9_chapter 61 = .ok (.aload_n 0, 1) := by decide +kernel
theorem dX9_chapter_62 : decode cX9_chapter 62 = .ok (.getfield 72, 3) := by decide +kernel
theorem dX9_chapter_65 : decode cX9_chapter 65 = .ok (.iload_n 1, 1) := by decide +kernel
theorem dX9_chapter_66 : decode cX9_chapter 66 = .ok (.invokevirtual 276, 3) := by decide +kernel
theorem dX9_chapter_69 : decode cX9_chapter 69 = .ok (.goto 12, 3) := by decide +kernel
theorem dX9_chapter_72 : decode cX9_chapter 72 = .ok (.aload_n 0, 1) := by decide +kernel
theorem dX9_chapter_73 : decode cX9_chapter 73 = .ok (.getfield 72, 3) := by decide +kernel
