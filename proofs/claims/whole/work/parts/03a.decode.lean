theorem dX0_init_0 : decode cX0_init 0 = .ok (.aload_n 0, 1) := by decide +kernel
theorem dX0_init_1 : decode cX0_init 1 = .ok (.invokespecial 3, 3) := by decide +kernel
theorem dX0_init_4 : decode cX0_init 4 = .ok (.aload_n 0, 1) := by decide +kernel
theorem dX0_init_5 : decode cX0_init 5 = .ok (.bipush 10, 2) := by decide +kernel
theorem dX0_init_7 : decode cX0_init 7 = .ok (.newarray .int, 2) := by decide +kernel
theorem dX0_init_9 : decode cX0_init 9 = .ok (.putfield 9, 3) := by decide +kernel
theorem dX0_init_12 : decode cX0_init 12 = .ok (.aload_n 0, 1) := by decide +kernel
theorem dX0_init_13 : decode cX0_init 13 = .ok (.iconst 0, 1) := by decide +kernel
theorem dX0_init_14 : decode cX0_init 14 = .ok (.putfield 15, 3) := by decide +kernel
theorem dX0_init_17 : decode cX0_init 17 = .ok (.aload_n 0, 1) := by decide +kernel
theorem dX0_init_18 : decode cX0_init 18 = .ok (.bipush 12, 2) := by decide +kernel
theorem dX0_init_20 : decode cX0_init 20 = .ok (.newarray .int, 2) := by decide +kernel
theorem dX0_init_22 : decode cX0_init 22 = .ok (.putfield 19, 3) := by decide +kernel
theorem dX0_init_25 : decode cX0_init 25 = .ok (.aload_n 0, 1) := by decide +kernel
theorem dX0_init_26 : decode cX0_init 26 = .ok (.iconst 0, 1) := by decide +kernel
theorem dX0_init_27 : decode cX0_init 27 = .ok (.putfield 22, 3) := by decide +kernel
theorem dX0_init_30 : decode cX0_init 30 = .ok (.aload_n 0, 1) := by decide +kernel
theorem dX0_init_31 : decode cX0_init 31 = .ok (.getstatic 25, 3) := by decide +kernel
theorem dX0_init_34 : decode cX0_init 34 = .ok (.invokevirtual 28, 3) := by decide +kernel
theorem dX0_init_37 : decode cX0_init 37 = .ok (.checkcast 29, 3) := by decide +kernel
theorem dX0_init_40 : decode cX0_init 40 = .ok (.putfield 33, 3) := by decide +kernel
theorem dX0_init_43 : decode cX0_init 43 = .ok (.return_, 1) := by decide +kernel
theorem dX0_clear_0 : decode cX0_clear 0 = .ok (.aload_n 0, 1) := by decide +kernel
theorem dX0_clear_1 : decode cX0_clear 1 = .ok (.iconst 0, 1) := by decide +kernel
theorem dX0_clear_2 : decode cX0_clear 2 = .ok (.putfield 15, 3) := by decide +kernel
theorem dX0_clear_5 : decode cX0_clear 5 = .ok (.aload_n 0, 1) := by decide +kernel
theorem dX0_clear_6 : decode cX0_clear 6 = .ok (.iconst 0, 1) := by decide +kernel
theorem dX0_clear_7 : decode cX0_clear 7 = .ok (.putfield 22, 3) := by decide +kernel
theorem dX0_clear_10 : decode cX0_clear 10 = .ok (.return_, 1) := by decide +kernel
theorem dX0_become_0 : decode cX0_become 0 = .ok (.aload_n 1, 1) := by decide +kernel
theorem dX0_become_1 : decode cX0_become 1 = .ok (.getfield 9, 3) := by decide +kernel
theorem dX0_become_4 : decode cX0_become 4 = .ok (.iconst 0, 1) := by decide +kernel
theorem dX0_become_5 : decode cX0_become 5 = .ok (.aload_n 0, 1) := by decide +kernel
theorem dX0_become_6 : decode cX0_become 6 = .ok (.getfield 9, 3) := by decide +kernel
theorem dX0_become_9 : decode cX0_become 9 = .ok (.iconst 0, 1) := by decide +kernel
theorem dX0_become_10 : decode cX0_become 10 = .ok (.bipush 10, 2) := by decide +kernel
theorem dX0_become_12 : decode cX0_become 12 = .ok (.invokestatic 36, 3) := by decide +kernel
theorem dX0_become_15 : decode cX0_become 15 = .ok (.aload_n 1, 1) := by decide +kernel
theorem dX0_become_16 : decode cX0_become 16 = .ok (.getfield 19, 3) := by decide +kernel
theorem dX0_become_19 : decode cX0_become 19 = .ok (.iconst 0, 1) := by decide +kernel
theorem dX0_become_20 : decode cX0_become 20 = .ok (.aload_n 0, 1) := by decide +kernel
theorem dX0_become_21 : decode cX0_become 21 = .ok (.getfield 19, 3) := by decide +kernel
theorem dX0_become_24 : decode cX0_become 24 = .ok (.iconst 0, 1) := by decide +kernel
theorem dX0_become_25 : decode cX0_become 25 = .ok (.bipush 12, 2) := by decide +kernel
theorem dX0_become_27 : decode cX0_become 27 = .ok (.invokestatic 36, 3) := by decide +kernel
theorem dX0_become_30 : decode cX0_become 30 = .ok (.aload_n 1, 1) := by decide +kernel
theorem dX0_become_31 : decode cX0_become 31 = .ok (.getfield 33, 3) := by decide +kernel
theorem dX0_become_34 : decode cX0_become 34 = .ok (.iconst 0, 1) := by decide +kernel
theorem dX0_become_35 : decode cX0_become 35 = .ok (.aload_n 0, 1) := by decide +kernel
theorem dX0_become_36 : decode cX0_become 36 = .ok (.getfield 33, 3) := by decide +kernel
theorem dX0_become_39 : decode cX0_become 39 = .ok (.iconst 0, 1) := by decide +kernel
theorem dX0_become_40 : decode cX0_become 40 = .ok (.bipush 8, 2) := by decide +kernel
theorem dX0_become_42 : decode cX0_become 42 = .ok (.invokestatic 36, 3) := by decide +kernel
theorem dX0_become_45 : decode cX0_become 45 = .ok (.aload_n 0, 1) := by decide +kernel
theorem dX0_become_46 : decode cX0_become 46 = .ok (.aload_n 1, 1) := by decide +kernel
theorem dX0_become_47 : decode cX0_become 47 = .ok (.getfield 15, 3) := by decide +kernel
theorem dX0_become_50 : decode cX0_become 50 = .ok (.putfield 15, 3) := by decide +kernel
theorem dX0_become_53 : decode cX0_become 53 = .ok (.aload_n 0, 1) := by decide +kernel
theorem dX0_become_54 : decode cX0_become 54 = .ok (.aload_n 1, 1) := by decide +kernel
theorem dX0_become_55 : decode cX0_become 55 = .ok (.getfield 22, 3) := by decide +kernel
theorem dX0_become_58 : decode cX0_become 58 = .ok (.putfield 22, 3) := by decide +kernel
theorem dX0_become_61 : decode cX0_become 61 = .ok (.return_, 1) := by decide +kernel
theorem dX0_mayBecome_0 : decode cX0_mayBecome 0 = .ok (.iload_n 1, 1) := by decide +kernel
theorem dX0_mayBecome_1 : decode cX0_mayBecome 1 = .ok (.ifCond .lt 27, 3) := by decide +kernel
theorem dX0_mayBecome_4 : decode cX0_mayBecome 4 = .ok (.iload_n 1, 1) := by decide +kernel
theorem dX0_mayBecome_5 : decode cX0_mayBecome 5 = .ok (.bipush 8, 2) := by decide +kernel
theorem dX0_mayBecome_7 : decode cX0_mayBecome 7 = .ok (.if_icmp .ge 21, 3) := by decide +kernel
theorem dX0_mayBecome_10 : decode cX0_mayBecome 10 = .ok (.iload_n 2, 1) := by decide +kernel
theorem dX0_mayBecome_11 : decode cX0_mayBecome 11 = .ok (.getstatic 42, 3) := by decide +kernel
theorem dX0_mayBecome_14 : decode cX0_mayBecome 14 = .ok (.iload_n 1, 1) := by decide +kernel
theorem dX0_mayBecome_15 : decode cX0_mayBecome 15 = .ok (.iaload, 1) := by decide +kernel
theorem dX0_mayBecome_16 : decode cX0_mayBecome 16 = .ok (.if_icmp .lt 12, 3) := by decide +kernel
theorem dX0_mayBecome_19 : decode cX0_mayBecome 19 = .ok (.iload_n 2, 1) := by decide +kernel
theorem dX0_mayBecome_20 : decode cX0_mayBecome 20 = .ok (.getstatic 45, 3) := by decide +kernel
theorem dX0_mayBecome_23 : decode cX0_mayBecome 23 = .ok (.iload_n 1, 1) := by decide +kernel
theorem dX0_mayBecome_24 : decode cX0_mayBecome 24 = .ok (.iaload, 1) := by decide +kernel
theorem dX0_mayBecome_25 : decode cX0_mayBecome 25 = .ok (.if_icmp .le 5, 3) := by decide +kernel
theorem dX0_mayBecome_28 : decode cX0_mayBecome 28 = .ok (.iconst 0, 1) := by decide +kernel
theorem dX0_mayBecome_29 : decode cX0_mayBecome 29 = .ok (.ireturn, 1) := by decide +kernel
theorem dX0_mayBecome_30 : decode cX0_mayBecome 30 = .ok (.iload_n 1, 1) := by decide +kernel
theorem dX0_mayBecome_31 : decode cX0_mayBecome 31 = .ok (.ifCond .ne 13, 3) := by decide +kernel
theorem dX0_mayBecome_34 : decode cX0_mayBecome 34 = .ok (.iload_n 2, 1) := by decide +kernel
theorem dX0_mayBecome_35 : decode cX0_mayBecome 35 = .ok (.aload_n 0, 1) := by decide +kernel
theorem dX0_mayBecome_36 : decode cX0_mayBecome 36 = .ok (.getfield 33, 3) := by decide +kernel
theorem dX0_mayBecome_39 : decode cX0_mayBecome 39 = .ok (.iconst 1, 1) := by decide +kernel
theorem dX0_mayBecome_40 : decode cX0_mayBecome 40 = .ok (.iaload, 1) := by decide +kernel
theorem dX0_mayBecome_41 : decode cX0_mayBecome 41 = .ok (.if_icmp .gt 22, 3) := by decide +kernel
theorem dX0_mayBecome_44 : decode cX0_mayBecome 44 = .ok (.iload_n 1, 1) := by decide +kernel
theorem dX0_mayBecome_45 : decode cX0_mayBecome 45 = .ok (.iconst 1, 1) := by decide +kernel
theorem dX0_mayBecome_46 : decode cX0_mayBecome 46 = .ok (.if_icmp .ne 13, 3) := by decide +kernel
theorem dX0_mayBecome_49 : decode cX0_mayBecome 49 = .ok (.iload_n 2, 1) := by decide +kernel
theorem dX0_mayBecome_50 : decode cX0_mayBecome 50 = .ok (.aload_n 0, 1) := by decide +kernel
theorem dX0_mayBecome_51 : decode cX0_mayBecome 51 = .ok (.getfield 33, 3) := by decide +kernel
theorem dX0_mayBecome_54 : decode cX0_mayBecome 54 = .ok (.iconst 0, 1) := by decide +kernel
theorem dX0_mayBecome_55 : decode cX0_mayBecome 55 = .ok (.iaload, 1) := by decide +kernel
theorem dX0_mayBecome_56 : decode cX0_mayBecome 56 = .ok (.if_icmp .lt 7, 3) := by decide +kernel
theorem dX0_mayBecome_59 : decode cX0_mayBecome 59 = .ok (.iconst 1, 1) := by decide +kernel
theorem dX0_mayBecome_60 : decode cX0_mayBecome 60 = .ok (.goto 4, 3) := by decide +kernel
theorem dX0_mayBecome_63 : decode cX0_mayBecome 63 = .ok (.iconst 0, 1) := by decide +kernel
theorem dX0_mayBecome_64 : decode cX0_mayBecome 64 = .ok (.ireturn, 1) := by decide +kernel
theorem dX0_start_0 : decode cX0_start 0 = .ok (.iload_n 1, 1) := by decide +kernel
theorem dX0_start_1 : decode cX0_start 1 = .ok (.iconst 1, 1) := by decide +kernel
theorem dX0_start_2 : decode cX0_start 2 = .ok (.if_icmp .lt 11, 3) := by decide +kernel
theorem dX0_start_5 : decode cX0_start 5 = .ok (.iload_n 1, 1) := by decide +kernel
theorem dX0_start_6 : decode cX0_start 6 = .ok (.aload_n 0, 1) := by decide +kernel
theorem dX0_start_7 : decode cX0_start 7 = .ok (.getfield 22, 3) := by decide +kernel
theorem dX0_start_10 : decode cX0_start 10 = .ok (.if_icmp .le 7, 3) := by decide +kernel
theorem dX0_start_13 : decode cX0_start 13 = .ok (.iconst 0, 1) := by decide +kernel
theorem dX0_start_14 : decode cX0_start 14 = .ok (.goto 11, 3) := by decide +kernel
theorem dX0_start_17 : decode cX0_start 17 = .ok (.aload_n 0, 1) := by decide +kernel
theorem dX0_start_18 : decode cX0_start 18 = .ok (.getfield 19, 3) := by decide +kernel
theorem dX0_start_21 : decode cX0_start 21 = .ok (.iload_n 1, 1) := by decide +kernel
theorem dX0_start_22 : decode cX0_start 22 = .ok (.iconst 1, 1) := by decide +kernel
theorem dX0_start_23 : decode cX0_start 23 = .ok (.isub, 1) := by decide +kernel
theorem dX0_start_24 : decode cX0_start 24 = .ok (.iaload, 1) := by decide +kernel
theorem dX0_start_25 : decode cX0_start 25 = .ok (.ireturn, 1) := by decide +kernel
theorem dX0_end_0 : decode cX0_end 0 = .ok (.iload_n 1, 1) := by decide +kernel
theorem dX0_end_1 : decode cX0_end 1 = .ok (.ifCond .lt 20, 3) := by decide +kernel
theorem dX0_end_4 : decode cX0_end 4 = .ok (.iload_n 1, 1) := by decide +kernel
theorem dX0_end_5 : decode cX0_end 5 = .ok (.aload_n 0, 1) := by decide +kernel
theorem dX0_end_6 : decode cX0_end 6 = .ok (.getfield 22, 3) := by decide +kernel
theorem dX0_end_9 : decode cX0_end 9 = .ok (.if_icmp .ge 12, 3) := by decide +kernel
theorem dX0_end_12 : decode cX0_end 12 = .ok (.aload_n 0, 1) := by decide +kernel
theorem dX0_end_13 : decode cX0_end 13 = .ok (.getfield 19, 3) := by decide +kernel
theorem dX0_end_16 : decode cX0_end 16 = .ok (.iload_n 1, 1) := by decide +kernel
theorem dX0_end_17 : decode cX0_end 17 = .ok (.iaload, 1) := by decide +kernel
theorem dX0_end_18 : decode cX0_end 18 = .ok (.goto 7, 3) := by decide +kernel
theorem dX0_end_21 : decode cX0_end 21 = .ok (.aload_n 0, 1) := by decide +kernel
theorem dX0_end_22 : decode cX0_end 22 = .ok (.getfield 15, 3) := by decide +kernel
theorem dX0_end_25 : decode cX0_end 25 = .ok (.ireturn, 1) := by decide +kernel
theorem dX0_printed_0 : decode cX0_printed 0 = .ok (.aload_n 0, 1) := by decide +kernel
theorem dX0_printed_1 : decode cX0_printed 1 = .ok (.aload_n 0, 1) := by decide +kernel
theorem dX0_printed_2 : decode cX0_printed 2 = .ok (.getfield 22, 3) := by decide +kernel
theorem dX0_printed_5 : decode cX0_printed 5 = .ok (.invokevirtual 48, 3) := by decide +kernel
theorem dX0_printed_8 : decode cX0_printed 8 = .ok (.ireturn, 1) := by decide +kernel
theorem dX0_drafted_0 : decode cX0_drafted 0 = .ok (.aload_n 0, 1) := by decide +kernel
theorem dX0_drafted_1 : decode cX0_drafted 1 = .ok (.getfield 15, 3) := by decide +kernel
theorem dX0_drafted_4 : decode cX0_drafted 4 = .ok (.aload_n 0, 1) := by decide +kernel
theorem dX0_drafted_5 : decode cX0_drafted 5 = .ok (.invokevirtual 52, 3) := by decide +kernel
theorem dX0_drafted_8 : decode cX0_drafted 8 = .ok (.isub, 1) := by decide +kernel
theorem dX0_drafted_9 : decode cX0_drafted 9 = .ok (.ireturn, 1) := by decide +kernel
theorem dX0_append_0 : decode cX0_append 0 = .ok (.aload_n 0, 1) := by decide +kernel
theorem dX0_append_1 : decode cX0_append 1 = .ok (.getfield 15, 3) := by decide +kernel
theorem dX0_append_4 : decode cX0_append 4 = .ok (.bipush 10, 2) := by decide +kernel
theorem dX0_append_6 : decode cX0_append 6 = .ok (.if_icmp .ge 23, 3) := by decide +kernel
theorem dX0_append_9 : decode cX0_append 9 = .ok (.aload_n 0, 1) := by decide +kernel
theorem dX0_append_10 : decode cX0_append 10 = .ok (.getfield 9, 3) := by decide +kernel
theorem dX0_append_13 : decode cX0_append 13 = .ok (.aload_n 0, 1) := by decide +kernel
theorem dX0_append_14 : decode cX0_append 14 = .ok (.getfield 15, 3) := by decide +kernel
theorem dX0_append_17 : decode cX0_append 17 = .ok (.iload_n 1, 1) := by decide +kernel
theorem dX0_append_18 : decode cX0_append 18 = .ok (.iastore, 1) := by decide +kernel
theorem dX0_append_19 : decode cX0_append 19 = .ok (.aload_n 0, 1) := by decide +kernel
theorem dX0_append_20 : decode cX0_append 20 = .ok (.dup, 1) := by decide +kernel
theorem dX0_append_21 : decode cX0_append 21 = .ok (.getfield 15, 3) := by decide +kernel
theorem dX0_append_24 : decode cX0_append 24 = .ok (.iconst 1, 1) := by decide +kernel
theorem dX0_append_25 : decode cX0_append 25 = .ok (.iadd, 1) := by decide +kernel
theorem dX0_append_26 : decode cX0_append 26 = .ok (.putfield 15, 3) := by decide +kernel
theorem dX0_append_29 : decode cX0_append 29 = .ok (.return_, 1) := by decide +kernel
theorem dX0_takeLast_0 : decode cX0_takeLast 0 = .ok (.aload_n 0, 1) := by decide +kernel
theorem dX0_takeLast_1 : decode cX0_takeLast 1 = .ok (.getfield 15, 3) := by decide +kernel
theorem dX0_takeLast_4 : decode cX0_takeLast 4 = .ok (.iconst 1, 1) := by decide +kernel
theorem dX0_takeLast_5 : decode cX0_takeLast 5 = .ok (.if_icmp .ge 5, 3) := by decide +kernel
theorem dX0_takeLast_8 : decode cX0_takeLast 8 = .ok (.iconst (-1), 1) := by decide +kernel
theorem dX0_takeLast_9 : decode cX0_takeLast 9 = .ok (.ireturn, 1) := by decide +kernel
theorem dX0_takeLast_10 : decode cX0_takeLast 10 = .ok (.aload_n 0, 1) := by decide +kernel
theorem dX0_takeLast_11 : decode cX0_takeLast 11 = .ok (.dup, 1) := by decide +kernel
theorem dX0_takeLast_12 : decode cX0_takeLast 12 = .ok (.getfield 15, 3) := by decide +kernel
theorem dX0_takeLast_15 : decode cX0_takeLast 15 = .ok (.iconst 1, 1) := by decide +kernel
theorem dX0_takeLast_16 : decode cX0_takeLast 16 = .ok (.isub, 1) := by decide +kernel
theorem dX0_takeLast_17 : decode cX0_takeLast 17 = .ok (.putfield 15, 3) := by decide +kernel
theorem dX0_takeLast_20 : decode cX0_takeLast 20 = .ok (.aload_n 0, 1) := by decide +kernel
theorem dX0_takeLast_21 : decode cX0_takeLast 21 = .ok (.getfield 9, 3) := by decide +kernel
theorem dX0_takeLast_24 : decode cX0_takeLast 24 = .ok (.aload_n 0, 1) := by decide +kernel
theorem dX0_takeLast_25 : decode cX0_takeLast 25 = .ok (.getfield 15, 3) := by decide +kernel
theorem dX0_takeLast_28 : decode cX0_takeLast 28 = .ok (.iaload, 1) := by decide +kernel
theorem dX0_takeLast_29 : decode cX0_takeLast 29 = .ok (.ireturn, 1) := by decide +kernel
theorem dX0_closeNumber_0 : decode cX0_closeNumber 0 = .ok (.aload_n 0, 1) := by decide +kernel
theorem dX0_closeNumber_1 : decode cX0_closeNumber 1 = .ok (.getfield 22, 3) := by decide +kernel
theorem dX0_closeNumber_4 : decode cX0_closeNumber 4 = .ok (.bipush 12, 2) := by decide +kernel
theorem dX0_closeNumber_6 : decode cX0_closeNumber 6 = .ok (.if_icmp .ge 26, 3) := by decide +kernel
theorem dX0_closeNumber_9 : decode cX0_closeNumber 9 = .ok (.aload_n 0, 1) := by decide +kernel
theorem dX0_closeNumber_10 : decode cX0_closeNumber 10 = .ok (.getfield 19, 3) := by decide +kernel
theorem dX0_closeNumber_13 : decode cX0_closeNumber 13 = .ok (.aload_n 0, 1) := by decide +kernel
theorem dX0_closeNumber_14 : decode cX0_closeNumber 14 = .ok (.getfield 22, 3) := by decide +kernel
theorem dX0_closeNumber_17 : decode cX0_closeNumber 17 = .ok (.aload_n 0, 1) := by decide +kernel
theorem dX0_closeNumber_18 : decode cX0_closeNumber 18 = .ok (.getfield 15, 3) := by decide +kernel
theorem dX0_closeNumber_21 : decode cX0_closeNumber 21 = .ok (.iastore, 1) := by decide +kernel
theorem dX0_closeNumber_22 : decode cX0_closeNumber 22 = .ok (.aload_n 0, 1) := by decide +kernel
theorem dX0_closeNumber_23 : decode cX0_closeNumber 23 = .ok (.dup, 1) := by decide +kernel
theorem dX0_closeNumber_24 : decode cX0_closeNumber 24 = .ok (.getfield 22, 3) := by decide +kernel
theorem dX0_closeNumber_27 : decode cX0_closeNumber 27 = .ok (.iconst 1, 1) := by decide +kernel
theorem dX0_closeNumber_28 : decode cX0_closeNumber 28 = .ok (.iadd, 1) := by decide +kernel
theorem dX0_closeNumber_29 : decode cX0_closeNumber 29 = .ok (.putfield 22, 3) := by decide +kernel
theorem dX0_closeNumber_32 : decode cX0_closeNumber 32 = .ok (.return_, 1) := by decide +kernel
theorem dX0_sceneOf_0 : decode cX0_sceneOf 0 = .ok (.aload_n 0, 1) := by decide +kernel
theorem dX0_sceneOf_1 : decode cX0_sceneOf 1 = .ok (.iload_n 1, 1) := by decide +kernel
theorem dX0_sceneOf_2 : decode cX0_sceneOf 2 = .ok (.invokevirtual 48, 3) := by decide +kernel
theorem dX0_sceneOf_5 : decode cX0_sceneOf 5 = .ok (.iload_n 2, 1) := by decide +kernel
theorem dX0_sceneOf_6 : decode cX0_sceneOf 6 = .ok (.iadd, 1) := by decide +kernel
theorem dX0_sceneOf_7 : decode cX0_sceneOf 7 = .ok (.istore_n 3, 1) := by decide +kernel
theorem dX0_sceneOf_8 : decode cX0_sceneOf 8 = .ok (.iload_n 2, 1) := by decide +kernel
theorem dX0_sceneOf_9 : decode cX0_sceneOf 9 = .ok (.ifCond .lt 12, 3) := by decide +kernel
theorem dX0_sceneOf_12 : decode cX0_sceneOf 12 = .ok (.iload_n 3, 1) := by decide +kernel
theorem dX0_sceneOf_13 : decode cX0_sceneOf 13 = .ok (.aload_n 0, 1) := by decide +kernel
theorem dX0_sceneOf_14 : decode cX0_sceneOf 14 = .ok (.iload_n 1, 1) := by decide +kernel
theorem dX0_sceneOf_15 : decode cX0_sceneOf 15 = .ok (.invokevirtual 56, 3) := by decide +kernel
theorem dX0_sceneOf_18 : decode cX0_sceneOf 18 = .ok (.if_icmp .lt 7, 3) := by decide +kernel
theorem dX0_sceneOf_21 : decode cX0_sceneOf 21 = .ok (.iconst (-1), 1) := by decide +kernel
theorem dX0_sceneOf_22 : decode cX0_sceneOf 22 = .ok (.goto 9, 3) := by decide +kernel
theorem dX0_sceneOf_25 : decode cX0_sceneOf 25 = .ok (.aload_n 0, 1) := by decide +kernel
theorem dX0_sceneOf_26 : decode cX0_sceneOf 26 = .ok (.getfield 9, 3) := by decide +kernel
theorem dX0_sceneOf_29 : decode cX0_sceneOf 29 = .ok (.iload_n 3, 1) := by decide +kernel
theorem dX0_sceneOf_30 : decode cX0_sceneOf 30 = .ok (.iaload, 1) := by decide +kernel
theorem dX0_sceneOf_31 : decode cX0_sceneOf 31 = .ok (.ireturn, 1) := by decide +kernel
theorem dX0_setUpTo_0 : decode cX0_setUpTo 0 = .ok (.aload_n 0, 1) := by decide +kernel
theorem dX0_setUpTo_1 : decode cX0_setUpTo 1 = .ok (.iconst 0, 1) := by decide +kernel
theorem dX0_setUpTo_2 : decode cX0_setUpTo 2 = .ok (.iload_n 1, 1) := by decide +kernel
theorem dX0_setUpTo_3 : decode cX0_setUpTo 3 = .ok (.invokevirtual 59, 3) := by decide +kernel
theorem dX0_setUpTo_6 : decode cX0_setUpTo 6 = .ok (.ireturn, 1) := by decide +kernel
theorem dX0_setOf_0 : decode cX0_setOf 0 = .ok (.aload_n 0, 1) := by decide +kernel
theorem dX0_setOf_1 : decode cX0_setOf 1 = .ok (.aload_n 0, 1) := by decide +kernel
theorem dX0_setOf_2 : decode cX0_setOf 2 = .ok (.iload_n 1, 1) := by decide +kernel
theorem dX0_setOf_3 : decode cX0_setOf 3 = .ok (.invokevirtual 48, 3) := by decide +kernel
theorem dX0_setOf_6 : decode cX0_setOf 6 = .ok (.aload_n 0, 1) := by decide +kernel
theorem dX0_setOf_7 : decode cX0_setOf 7 = .ok (.iload_n 1, 1) := by decide +kernel
theorem dX0_setOf_8 : decode cX0_setOf 8 = .ok (.invokevirtual 56, 3) := by decide +kernel
theorem dX0_setOf_11 : decode cX0_setOf 11 = .ok (.invokevirtual 59, 3) := by decide +kernel
theorem dX0_setOf_14 : decode cX0_setOf 14 = .ok (.ireturn, 1) := by decide +kernel
theorem dX0_setFrom_0 : decode cX0_setFrom 0 = .ok (.iconst 0, 1) := by decide +kernel
theorem dX0_setFrom_1 : decode cX0_setFrom 1 = .ok (.istore_n 3, 1) := by decide +kernel
theorem dX0_setFrom_2 : decode cX0_setFrom 2 = .ok (.iload_n 1, 1) := by decide +kernel
theorem dX0_setFrom_3 : decode cX0_setFrom 3 = .ok (.istore 4, 2) := by decide +kernel
theorem dX0_setFrom_5 : decode cX0_setFrom 5 = .ok (.iload 4, 2) := by decide +kernel
theorem dX0_setFrom_7 : decode cX0_setFrom 7 = .ok (.iload_n 2, 1) := by decide +kernel
theorem dX0_setFrom_8 : decode cX0_setFrom 8 = .ok (.if_icmp .ge 28, 3) := by decide +kernel
theorem dX0_setFrom_11 : decode cX0_setFrom 11 = .ok (.iload 4, 2) := by decide +kernel
theorem dX0_setFrom_13 : decode cX0_setFrom 13 = .ok (.bipush 10, 2) := by decide +kernel
theorem dX0_setFrom_15 : decode cX0_setFrom 15 = .ok (.if_icmp .ge 21, 3) := by decide +kernel
theorem dX0_setFrom_18 : decode cX0_setFrom 18 = .ok (.iload_n 3, 1) := by decide +kernel
theorem dX0_setFrom_19 : decode cX0_setFrom 19 = .ok (.iconst 1, 1) := by decide +kernel
theorem dX0_setFrom_20 : decode cX0_setFrom 20 = .ok (.aload_n 0, 1) := by decide +kernel
theorem dX0_setFrom_21 : decode cX0_setFrom 21 = .ok (.getfield 9, 3) := by decide +kernel
theorem dX0_setFrom_24 : decode cX0_setFrom 24 = .ok (.iload 4, 2) := by decide +kernel
theorem dX0_setFrom_26 : decode cX0_setFrom 26 = .ok (.iaload, 1) := by decide +kernel
theorem dX0_setFrom_27 : decode cX0_setFrom 27 = .ok (.ishl, 1) := by decide +kernel
theorem dX0_setFrom_28 : decode cX0_setFrom 28 = .ok (.ior, 1) := by decide +kernel
theorem dX0_setFrom_29 : decode cX0_setFrom 29 = .ok (.istore_n 3, 1) := by decide +kernel
theorem dX0_setFrom_30 : decode cX0_setFrom 30 = .ok (.iinc 4 1, 3) := by decide +kernel
theorem dX0_setFrom_33 : decode cX0_setFrom 33 = .ok (.goto (-28), 3) := by decide +kernel
theorem dX0_setFrom_36 : decode cX0_setFrom 36 = .ok (.iload_n 3, 1) := by decide +kernel
theorem dX0_setFrom_37 : decode cX0_setFrom 37 = .ok (.ireturn, 1) := by decide +kernel
theorem dX0_numberOf_0 : decode cX0_numberOf 0 = .ok (.iconst 0, 1) := by decide +kernel
theorem dX0_numberOf_1 : decode cX0_numberOf 1 = .ok (.istore_n 2, 1) := by decide +kernel
theorem dX0_numberOf_2 : decode cX0_numberOf 2 = .ok (.iload_n 2, 1) := by decide +kernel
theorem dX0_numberOf_3 : decode cX0_numberOf 3 = .ok (.aload_n 0, 1) := by decide +kernel
theorem dX0_numberOf_4 : decode cX0_numberOf 4 = .ok (.getfield 22, 3) := by decide +kernel
theorem dX0_numberOf_7 : decode cX0_numberOf 7 = .ok (.if_icmp .ge 24, 3) := by decide +kernel
theorem dX0_numberOf_10 : decode cX0_numberOf 10 = .ok (.aload_n 0, 1) := by decide +kernel
theorem dX0_numberOf_11 : decode cX0_numberOf 11 = .ok (.iload_n 2, 1) := by decide +kernel
theorem dX0_numberOf_12 : decode cX0_numberOf 12 = .ok (.invokevirtual 63, 3) := by decide +kernel
theorem dX0_numberOf_15 : decode cX0_numberOf 15 = .ok (.iload_n 1, 1) := by decide +kernel
theorem dX0_numberOf_16 : decode cX0_numberOf 16 = .ok (.ishr, 1) := by decide +kernel
theorem dX0_numberOf_17 : decode cX0_numberOf 17 = .ok (.iconst 1, 1) := by decide +kernel
theorem dX0_numberOf_18 : decode cX0_numberOf 18 = .ok (.iand, 1) := by decide +kernel
theorem dX0_numberOf_19 : decode cX0_numberOf 19 = .ok (.iconst 1, 1) := by decide +kernel
theorem dX0_numberOf_20 : decode cX0_numberOf 20 = .ok (.if_icmp .ne 5, 3) := by decide +kernel
theorem dX0_numberOf_23 : decode cX0_numberOf 23 = .ok (.iload_n 2, 1) := by decide +kernel
theorem dX0_numberOf_24 : decode cX0_numberOf 24 = .ok (.ireturn, 1) := by decide +kernel
theorem dX0_numberOf_25 : decode cX0_numberOf 25 = .ok (.iinc 2 1, 3) := by decide +kernel
theorem dX0_numberOf_28 : decode cX0_numberOf 28 = .ok (.goto (-26), 3) := by decide +kernel
theorem dX0_numberOf_31 : decode cX0_numberOf 31 = .ok (.iconst (-1), 1) := by decide +kernel
theorem dX0_numberOf_32 : decode cX0_numberOf 32 = .ok (.ireturn, 1) := by decide +kernel
theorem dX1_init_0 : decode cX1_init 0 = .ok (.aload_n 0, 1) := by decide +kernel
theorem dX1_init_1 : decode cX1_init 1 = .ok (.invokespecial 3, 3) := by decide +kernel
theorem dX1_init_4 : decode cX1_init 4 = .ok (.aload_n 0, 1) := by decide +kernel
theorem dX1_init_5 : decode cX1_init 5 = .ok (.bipush 9, 2) := by decide +kernel
theorem dX1_init_7 : decode cX1_init 7 = .ok (.bipush 11, 2) := by decide +kernel
theorem dX1_init_9 : decode cX1_init 9 = .ok (.multianewarray 9 2, 4) := by decide +kernel
theorem dX1_init_13 : decode cX1_init 13 = .ok (.putfield 11, 3) := by decide +kernel
theorem dX1_init_16 : decode cX1_init 16 = .ok (.aload_n 0, 1) := by decide +kernel
theorem dX1_init_17 : decode cX1_init 17 = .ok (.bipush 9, 2) := by decide +kernel
theorem dX1_init_19 : decode cX1_init 19 = .ok (.bipush 11, 2) := by decide +kernel
theorem dX1_init_21 : decode cX1_init 21 = .ok (.multianewarray 9 2, 4) := by decide +kernel
theorem dX1_init_25 : decode cX1_init 25 = .ok (.putfield 16, 3) := by decide +kernel
theorem dX1_init_28 : decode cX1_init 28 = .ok (.aload_n 0, 1) := by decide +kernel
theorem dX1_init_29 : decode cX1_init 29 = .ok (.aload_n 1, 1) := by decide +kernel
theorem dX1_init_30 : decode cX1_init 30 = .ok (.putfield 19, 3) := by decide +kernel
theorem dX1_init_33 : decode cX1_init 33 = .ok (.aload_n 0, 1) := by decide +kernel
theorem dX1_init_34 : decode cX1_init 34 = .ok (.aload_n 2, 1) := by decide +kernel
theorem dX1_init_35 : decode cX1_init 35 = .ok (.putfield 23, 3) := by decide +kernel
theorem dX1_init_38 : decode cX1_init 38 = .ok (.return_, 1) := by decide +kernel
theorem dX1_part_0 : decode cX1_part 0 = .ok (.aload_n 0, 1) := by decide +kernel
theorem dX1_part_1 : decode cX1_part 1 = .ok (.getfield 23, 3) := by decide +kernel
theorem dX1_part_4 : decode cX1_part 4 = .ok (.invokevirtual 27, 3) := by decide +kernel
theorem dX1_part_7 : decode cX1_part 7 = .ok (.istore_n 2, 1) := by decide +kernel
theorem dX1_part_8 : decode cX1_part 8 = .ok (.iconst 0, 1) := by decide +kernel
theorem dX1_part_9 : decode cX1_part 9 = .ok (.istore_n 3, 1) := by decide +kernel
theorem dX1_part_10 : decode cX1_part 10 = .ok (.iload_n 3, 1) := by decide +kernel
theorem dX1_part_11 : decode cX1_part 11 = .ok (.iload_n 2, 1) := by decide +kernel
theorem dX1_part_12 : decode cX1_part 12 = .ok (.if_icmp .gt 33, 3) := by decide +kernel
theorem dX1_part_15 : decode cX1_part 15 = .ok (.iload_n 3, 1) := by decide +kernel
theorem dX1_part_16 : decode cX1_part 16 = .ok (.bipush 10, 2) := by decide +kernel
theorem dX1_part_18 : decode cX1_part 18 = .ok (.if_icmp .gt 27, 3) := by decide +kernel
theorem dX1_part_21 : decode cX1_part 21 = .ok (.aload_n 0, 1) := by decide +kernel
theorem dX1_part_22 : decode cX1_part 22 = .ok (.getfield 11, 3) := by decide +kernel
theorem dX1_part_25 : decode cX1_part 25 = .ok (.iconst 0, 1) := by decide +kernel
theorem dX1_part_26 : decode cX1_part 26 = .ok (.aaload, 1) := by decide +kernel
theorem dX1_part_27 : decode cX1_part 27 = .ok (.iload_n 3, 1) := by decide +kernel
theorem dX1_part_28 : decode cX1_part 28 = .ok (.iload_n 3, 1) := by decide +kernel
theorem dX1_part_29 : decode cX1_part 29 = .ok (.iload_n 2, 1) := by decide +kernel
theorem dX1_part_30 : decode cX1_part 30 = .ok (.if_icmp .ne 7, 3) := by decide +kernel
theorem dX1_part_33 : decode cX1_part 33 = .ok (.iconst 0, 1) := by decide +kernel
theorem dX1_part_34 : decode cX1_part 34 = .ok (.goto 4, 3) := by decide +kernel
theorem dX1_part_37 : decode cX1_part 37 = .ok (.iconst (-1), 1) := by decide +kernel
theorem dX1_part_38 : decode cX1_part 38 = .ok (.iastore, 1) := by decide +kernel
theorem dX1_part_39 : decode cX1_part 39 = .ok (.iinc 3 1, 3) := by decide +kernel
theorem dX1_part_42 : decode cX1_part 42 = .ok (.goto (-32), 3) := by decide +kernel
theorem dX1_part_45 : decode cX1_part 45 = .ok (.iconst 1, 1) := by decide +kernel
theorem dX1_part_46 : decode cX1_part 46 = .ok (.istore_n 3, 1) := by decide +kernel
theorem dX1_part_47 : decode cX1_part 47 = .ok (.iload_n 3, 1) := by decide +kernel
theorem dX1_part_48 : decode cX1_part 48 = .ok (.iload_n 1, 1) := by decide +kernel
theorem dX1_part_49 : decode cX1_part 49 = .ok (.if_icmp .gt 45, 3) := by decide +kernel
theorem dX1_part_52 : decode cX1_part 52 = .ok (.iload_n 3, 1) := by decide +kernel
theorem dX1_part_53 : decode cX1_part 53 = .ok (.bipush 8, 2) := by decide +kernel
theorem dX1_part_55 : decode cX1_part 55 = .ok (.if_icmp .gt 39, 3) := by decide +kernel
theorem dX1_part_58 : decode cX1_part 58 = .ok (.iconst 0, 1) := by decide +kernel
theorem dX1_part_59 : decode cX1_part 59 = .ok (.istore 4, 2) := by decide +kernel
theorem dX1_part_61 : decode cX1_part 61 = .ok (.iload 4, 2) := by decide +kernel
theorem dX1_part_63 : decode cX1_part 63 = .ok (.iload_n 2, 1) := by decide +kernel
theorem dX1_part_64 : decode cX1_part 64 = .ok (.if_icmp .gt 24, 3) := by decide +kernel
theorem dX1_part_67 : decode cX1_part 67 = .ok (.iload 4, 2) := by decide +kernel
theorem dX1_part_69 : decode cX1_part 69 = .ok (.bipush 10, 2) := by decide +kernel
theorem dX1_part_71 : decode cX1_part 71 = .ok (.if_icmp .gt 17, 3) := by decide +kernel
theorem dX1_part_74 : decode cX1_part 74 = .ok (.aload_n 0, 1) := by decide +kernel
theorem dX1_part_75 : decode cX1_part 75 = .ok (.iload_n 3, 1) := by decide +kernel
theorem dX1_part_76 : decode cX1_part 76 = .ok (.iload 4, 2) := by decide +kernel
theorem dX1_part_78 : decode cX1_part 78 = .ok (.iload_n 2, 1) := by decide +kernel
theorem dX1_part_79 : decode cX1_part 79 = .ok (.invokevirtual 33, 3) := by decide +kernel
theorem dX1_part_82 : decode cX1_part 82 = .ok (.iinc 4 1, 3) := by decide +kernel
theorem dX1_part_85 : decode cX1_part 85 = .ok (.goto (-24), 3) := by decide +kernel
theorem dX1_part_88 : decode cX1_part 88 = .ok (.iinc 3 1, 3) := by decide +kernel
theorem dX1_part_91 : decode cX1_part 91 = .ok (.goto (-44), 3) := by decide +kernel
theorem dX1_part_94 : decode cX1_part 94 = .ok (.return_, 1) := by decide +kernel
theorem dX1_chooseFirst_0 : decode cX1_chooseFirst 0 = .ok (.aload_n 0, 1) := by decide +kernel
theorem dX1_chooseFirst_1 : decode cX1_chooseFirst 1 = .ok (.getfield 11, 3) := by decide +kernel
theorem dX1_chooseFirst_4 : decode cX1_chooseFirst 4 = .ok (.iload_n 1, 1) := by decide +kernel
theorem dX1_chooseFirst_5 : decode cX1_chooseFirst 5 = .ok (.aaload, 1) := by decide +kernel
theorem dX1_chooseFirst_6 : decode cX1_chooseFirst 6 = .ok (.iload_n 2, 1) := by decide +kernel
theorem dX1_chooseFirst_7 : decode cX1_chooseFirst 7 = .ok (.iconst (-1), 1) := by decide +kernel
theorem dX1_chooseFirst_8 : decode cX1_chooseFirst 8 = .ok (.iastore, 1) := by decide +kernel
theorem dX1_chooseFirst_9 : decode cX1_chooseFirst 9 = .ok (.iload_n 2, 1) := by decide +kernel
theorem dX1_chooseFirst_10 : decode cX1_chooseFirst 10 = .ok (.iconst 1, 1) := by decide +kernel
theorem dX1_chooseFirst_11 : decode cX1_chooseFirst 11 = .ok (.iadd, 1) := by decide +kernel
theorem dX1_chooseFirst_12 : decode cX1_chooseFirst 12 = .ok (.istore 4, 2) := by decide +kernel
theorem dX1_chooseFirst_14 : decode cX1_chooseFirst 14 = .ok (.iload 4, 2) := by decide +kernel
theorem dX1_chooseFirst_16 : decode cX1_chooseFirst 16 = .ok (.iload_n 3, 1) := by decide +kernel
theorem dX1_chooseFirst_17 : decode cX1_chooseFirst 17 = .ok (.if_icmp .gt 110, 3) := by decide +kernel
theorem dX1_chooseFirst_20 : decode cX1_chooseFirst 20 = .ok (.aload_n 0, 1) := by decide +kernel
theorem dX1_chooseFirst_21 : decode cX1_chooseFirst 21 = .ok (.getfield 19, 3) := by decide +kernel
theorem dX1_chooseFirst_24 : decode cX1_chooseFirst 24 = .ok (.aload_n 0, 1) := by decide +kernel
theorem dX1_chooseFirst_25 : decode cX1_chooseFirst 25 = .ok (.getfield 23, 3) := by decide +kernel
theorem dX1_chooseFirst_28 : decode cX1_chooseFirst 28 = .ok (.iload_n 2, 1) := by decide +kernel
theorem dX1_chooseFirst_29 : decode cX1_chooseFirst 29 = .ok (.iload 4, 2) := by decide +kernel
theorem dX1_chooseFirst_31 : decode cX1_chooseFirst 31 = .ok (.invokevirtual 37, 3) := by decide +kernel
theorem dX1_chooseFirst_34 : decode cX1_chooseFirst 34 = .ok (.iconst 0, 1) := by decide +kernel
theorem dX1_chooseFirst_35 : decode cX1_chooseFirst 35 = .ok (.invokevirtual 43, 3) := by decide +kernel
theorem dX1_chooseFirst_38 : decode cX1_chooseFirst 38 = .ok (.istore 5, 2) := by decide +kernel
theorem dX1_chooseFirst_40 : decode cX1_chooseFirst 40 = .ok (.aload_n 0, 1) := by decide +kernel
theorem dX1_chooseFirst_41 : decode cX1_chooseFirst 41 = .ok (.getfield 11, 3) := by decide +kernel
theorem dX1_chooseFirst_44 : decode cX1_chooseFirst 44 = .ok (.iload_n 1, 1) := by decide +kernel
theorem dX1_chooseFirst_45 : decode cX1_chooseFirst 45 = .ok (.iconst 1, 1) := by decide +kernel
theorem dX1_chooseFirst_46 : decode cX1_chooseFirst 46 = .ok (.isub, 1) := by decide +kernel
theorem dX1_chooseFirst_47 : decode cX1_chooseFirst 47 = .ok (.aaload, 1) := by decide +kernel
theorem dX1_chooseFirst_48 : decode cX1_chooseFirst 48 = .ok (.iload 4, 2) := by decide +kernel
theorem dX1_chooseFirst_50 : decode cX1_chooseFirst 50 = .ok (.iaload, 1) := by decide +kernel
theorem dX1_chooseFirst_51 : decode cX1_chooseFirst 51 = .ok (.iload 5, 2) := by decide +kernel
theorem dX1_chooseFirst_53 : decode cX1_chooseFirst 53 = .ok (.iload 5, 2) := by decide +kernel
theorem dX1_chooseFirst_55 : decode cX1_chooseFirst 55 = .ok (.imul, 1) := by decide +kernel
theorem dX1_chooseFirst_56 : decode cX1_chooseFirst 56 = .ok (.iadd, 1) := by decide +kernel
theorem dX1_chooseFirst_57 : decode cX1_chooseFirst 57 = .ok (.istore 6, 2) := by decide +kernel
theorem dX1_chooseFirst_59 : decode cX1_chooseFirst 59 = .ok (.aload_n 0, 1) := by decide +kernel
theorem dX1_chooseFirst_60 : decode cX1_chooseFirst 60 = .ok (.getfield 11, 3) := by decide +kernel
theorem dX1_chooseFirst_63 : decode cX1_chooseFirst 63 = .ok (.iload_n 1, 1) := by decide +kernel
theorem dX1_chooseFirst_64 : decode cX1_chooseFirst 64 = .ok (.iconst 1, 1) := by decide +kernel
theorem dX1_chooseFirst_65 : decode cX1_chooseFirst 65 = .ok (.isub, 1) := by decide +kernel
theorem dX1_chooseFirst_66 : decode cX1_chooseFirst 66 = .ok (.aaload, 1) := by decide +kernel
theorem dX1_chooseFirst_67 : decode cX1_chooseFirst 67 = .ok (.iload 4, 2) := by decide +kernel
theorem dX1_chooseFirst_69 : decode cX1_chooseFirst 69 = .ok (.iaload, 1) := by decide +kernel
theorem dX1_chooseFirst_70 : decode cX1_chooseFirst 70 = .ok (.iconst (-1), 1) := by decide +kernel
theorem dX1_chooseFirst_71 : decode cX1_chooseFirst 71 = .ok (.if_icmp .eq 50, 3) := by decide +kernel
theorem dX1_chooseFirst_74 : decode cX1_chooseFirst 74 = .ok (.aload_n 0, 1) := by decide +kernel
theorem dX1_chooseFirst_75 : decode cX1_chooseFirst 75 = .ok (.getfield 11, 3) := by decide +kernel
theorem dX1_chooseFirst_78 : decode cX1_chooseFirst 78 = .ok (.iload_n 1, 1) := by decide +kernel
theorem dX1_chooseFirst_79 : decode cX1_chooseFirst 79 = .ok (.aaload, 1) := by decide +kernel
theorem dX1_chooseFirst_80 : decode cX1_chooseFirst 80 = .ok (.iload_n 2, 1) := by decide +kernel
theorem dX1_chooseFirst_81 : decode cX1_chooseFirst 81 = .ok (.iaload, 1) := by decide +kernel
theorem dX1_chooseFirst_82 : decode cX1_chooseFirst 82 = .ok (.iconst (-1), 1) := by decide +kernel
theorem dX1_chooseFirst_83 : decode cX1_chooseFirst 83 = .ok (.if_icmp .eq 16, 3) := by decide +kernel
theorem dX1_chooseFirst_86 : decode cX1_chooseFirst 86 = .ok (.iload 6, 2) := by decide +kernel
theorem dX1_chooseFirst_88 : decode cX1_chooseFirst 88 = .ok (.aload_n 0, 1) := by decide +kernel
theorem dX1_chooseFirst_89 : decode cX1_chooseFirst 89 = .ok (.getfield 11, 3) := by decide +kernel
theorem dX1_chooseFirst_92 : decode cX1_chooseFirst 92 = .ok (.iload_n 1, 1) := by decide +kernel
theorem dX1_chooseFirst_93 : decode cX1_chooseFirst 93 = .ok (.aaload, 1) := by decide +kernel
theorem dX1_chooseFirst_94 : decode cX1_chooseFirst 94 = .ok (.iload_n 2, 1) := by decide +kernel
theorem dX1_chooseFirst_95 : decode cX1_chooseFirst 95 = .ok (.iaload, 1) := by decide +kernel
theorem dX1_chooseFirst_96 : decode cX1_chooseFirst 96 = .ok (.if_icmp .ge 25, 3) := by decide +kernel
theorem dX1_chooseFirst_99 : decode cX1_chooseFirst 99 = .ok (.aload_n 0, 1) := by decide +kernel
theorem dX1_chooseFirst_100 : decode cX1_chooseFirst 100 = .ok (.getfield 11, 3) := by decide +kernel
theorem dX1_chooseFirst_103 : decode cX1_chooseFirst 103 = .ok (.iload_n 1, 1) := by decide +kernel
theorem dX1_chooseFirst_104 : decode cX1_chooseFirst 104 = .ok (.aaload, 1) := by decide +kernel
theorem dX1_chooseFirst_105 : decode cX1_chooseFirst 105 = .ok (.iload_n 2, 1) := by decide +kernel
theorem dX1_chooseFirst_106 : decode cX1_chooseFirst 106 = .ok (.iload 6, 2) := by decide +kernel
theorem dX1_chooseFirst_108 : decode cX1_chooseFirst 108 = .ok (.iastore, 1) := by decide +kernel
theorem dX1_chooseFirst_109 : decode cX1_chooseFirst 109 = .ok (.aload_n 0, 1) := by decide +kernel
theorem dX1_chooseFirst_110 : decode cX1_chooseFirst 110 = .ok (.getfield 16, 3) := by decide +kernel
theorem dX1_chooseFirst_113 : decode cX1_chooseFirst 113 = .ok (.iload_n 1, 1) := by decide +kernel
theorem dX1_chooseFirst_114 : decode cX1_chooseFirst 114 = .ok (.aaload, 1) := by decide +kernel
theorem dX1_chooseFirst_115 : decode cX1_chooseFirst 115 = .ok (.iload_n 2, 1) := by decide +kernel
theorem dX1_chooseFirst_116 : decode cX1_chooseFirst 116 = .ok (.iload 4, 2) := by decide +kernel
theorem dX1_chooseFirst_118 : decode cX1_chooseFirst 118 = .ok (.iload_n 2, 1) := by decide +kernel
theorem dX1_chooseFirst_119 : decode cX1_chooseFirst 119 = .ok (.isub, 1) := by decide +kernel
theorem dX1_chooseFirst_120 : decode cX1_chooseFirst 120 = .ok (.iastore, 1) := by decide +kernel
theorem dX1_chooseFirst_121 : decode cX1_chooseFirst 121 = .ok (.iinc 4 1, 3) := by decide +kernel
theorem dX1_chooseFirst_124 : decode cX1_chooseFirst 124 = .ok (.goto (-110), 3) := by decide +kernel
theorem dX1_chooseFirst_127 : decode cX1_chooseFirst 127 = .ok (.return_, 1) := by decide +kernel
theorem dX1_uneven_0 : decode cX1_uneven 0 = .ok (.iload_n 1, 1) := by decide +kernel
theorem dX1_uneven_1 : decode cX1_uneven 1 = .ok (.ifCond .lt 9, 3) := by decide +kernel
theorem dX1_uneven_4 : decode cX1_uneven 4 = .ok (.iload_n 1, 1) := by decide +kernel
theorem dX1_uneven_5 : decode cX1_uneven 5 = .ok (.bipush 8, 2) := by decide +kernel
theorem dX1_uneven_7 : decode cX1_uneven 7 = .ok (.if_icmp .le 7, 3) := by decide +kernel
theorem dX1_uneven_10 : decode cX1_uneven 10 = .ok (.iconst (-1), 1) := by decide +kernel
theorem dX1_uneven_11 : decode cX1_uneven 11 = .ok (.goto 11, 3) := by decide +kernel
theorem dX1_uneven_14 : decode cX1_uneven 14 = .ok (.aload_n 0, 1) := by decide +kernel
theorem dX1_uneven_15 : decode cX1_uneven 15 = .ok (.getfield 11, 3) := by decide +kernel
theorem dX1_uneven_18 : decode cX1_uneven 18 = .ok (.iload_n 1, 1) := by decide +kernel
theorem dX1_uneven_19 : decode cX1_uneven 19 = .ok (.aaload, 1) := by decide +kernel
theorem dX1_uneven_20 : decode cX1_uneven 20 = .ok (.iconst 0, 1) := by decide +kernel
theorem dX1_uneven_21 : decode cX1_uneven 21 = .ok (.iaload, 1) := by decide +kernel
theorem dX1_uneven_22 : decode cX1_uneven 22 = .ok (.ireturn, 1) := by decide +kernel
theorem dX1_scenesIn_0 : decode cX1_scenesIn 0 = .ok (.iconst 0, 1) := by decide +kernel
theorem dX1_scenesIn_1 : decode cX1_scenesIn 1 = .ok (.istore_n 3, 1) := by decide +kernel
theorem dX1_scenesIn_2 : decode cX1_scenesIn 2 = .ok (.iconst 0, 1) := by decide +kernel
theorem dX1_scenesIn_3 : decode cX1_scenesIn 3 = .ok (.istore 4, 2) := by decide +kernel
theorem dX1_scenesIn_5 : decode cX1_scenesIn 5 = .ok (.iload 4, 2) := by decide +kernel
theorem dX1_scenesIn_7 : decode cX1_scenesIn 7 = .ok (.iload_n 2, 1) := by decide +kernel
theorem dX1_scenesIn_8 : decode cX1_scenesIn 8 = .ok (.if_icmp .ge 29, 3) := by decide +kernel
theorem dX1_scenesIn_11 : decode cX1_scenesIn 11 = .ok (.iload_n 3, 1) := by decide +kernel
theorem dX1_scenesIn_12 : decode cX1_scenesIn 12 = .ok (.bipush 10, 2) := by decide +kernel
theorem dX1_scenesIn_14 : decode cX1_scenesIn 14 = .ok (.if_icmp .gt 23, 3) := by decide +kernel
theorem dX1_scenesIn_17 : decode cX1_scenesIn 17 = .ok (.iload_n 3, 1) := by decide +kernel
theorem dX1_scenesIn_18 : decode cX1_scenesIn 18 = .ok (.aload_n 0, 1) := by decide +kernel
theorem dX1_scenesIn_19 : decode cX1_scenesIn 19 = .ok (.getfield 16, 3) := by decide +kernel
theorem dX1_scenesIn_22 : decode cX1_scenesIn 22 = .ok (.iload_n 1, 1) := by decide +kernel
theorem dX1_scenesIn_23 : decode cX1_scenesIn 23 = .ok (.iload 4, 2) := by decide +kernel
theorem dX1_scenesIn_25 : decode cX1_scenesIn 25 = .ok (.isub, 1) := by decide +kernel
theorem dX1_scenesIn_26 : decode cX1_scenesIn 26 = .ok (.aaload, 1) := by decide +kernel
theorem dX1_scenesIn_27 : decode cX1_scenesIn 27 = .ok (.iload_n 3, 1) := by decide +kernel
theorem dX1_scenesIn_28 : decode cX1_scenesIn 28 = .ok (.iaload, 1) := by decide +kernel
theorem dX1_scenesIn_29 : decode cX1_scenesIn 29 = .ok (.iadd, 1) := by decide +kernel
theorem dX1_scenesIn_30 : decode cX1_scenesIn 30 = .ok (.istore_n 3, 1) := by decide +kernel
theorem dX1_scenesIn_31 : decode cX1_scenesIn 31 = .ok (.iinc 4 1, 3) := by decide +kernel
theorem dX1_scenesIn_34 : decode cX1_scenesIn 34 = .ok (.goto (-29), 3) := by decide +kernel
theorem dX1_scenesIn_37 : decode cX1_scenesIn 37 = .ok (.iload_n 3, 1) := by decide +kernel
theorem dX1_scenesIn_38 : decode cX1_scenesIn 38 = .ok (.bipush 10, 2) := by decide +kernel
theorem dX1_scenesIn_40 : decode cX1_scenesIn 40 = .ok (.if_icmp .le 7, 3) := by decide +kernel
theorem dX1_scenesIn_43 : decode cX1_scenesIn 43 = .ok (.iconst 0, 1) := by decide +kernel
theorem dX1_scenesIn_44 : decode cX1_scenesIn 44 = .ok (.goto 13, 3) := by decide +kernel
theorem dX1_scenesIn_47 : decode cX1_scenesIn 47 = .ok (.aload_n 0, 1) := by decide +kernel
theorem dX1_scenesIn_48 : decode cX1_scenesIn 48 = .ok (.getfield 16, 3) := by decide +kernel
theorem dX1_scenesIn_51 : decode cX1_scenesIn 51 = .ok (.iload_n 1, 1) := by decide +kernel
theorem dX1_scenesIn_52 : decode cX1_scenesIn 52 = .ok (.iload_n 2, 1) := by decide +kernel
theorem dX1_scenesIn_53 : decode cX1_scenesIn 53 = .ok (.isub, 1) := by decide +kernel
theorem dX1_scenesIn_54 : decode cX1_scenesIn 54 = .ok (.aaload, 1) := by decide +kernel
theorem dX1_scenesIn_55 : decode cX1_scenesIn 55 = .ok (.iload_n 3, 1) := by decide +kernel
theorem dX1_scenesIn_56 : decode cX1_scenesIn 56 = .ok (.iaload, 1) := by decide +kernel
theorem dX1_scenesIn_57 : decode cX1_scenesIn 57 = .ok (.ireturn, 1) := by decide +kernel
theorem dX2_init_0 : decode cX2_init 0 = .ok (.aload_n 0, 1) := by decide +kernel
theorem dX2_init_1 : decode cX2_init 1 = .ok (.invokespecial 3, 3) := by decide +kernel
theorem dX2_init_4 : decode cX2_init 4 = .ok (.aload_n 0, 1) := by decide +kernel
theorem dX2_init_5 : decode cX2_init 5 = .ok (.sipush 1024, 3) := by decide +kernel
theorem dX2_init_8 : decode cX2_init 8 = .ok (.newarray .int, 2) := by decide +kernel
theorem dX2_init_10 : decode cX2_init 10 = .ok (.putfield 9, 3) := by decide +kernel
theorem dX2_init_13 : decode cX2_init 13 = .ok (.aload_n 0, 1) := by decide +kernel
theorem dX2_init_14 : decode cX2_init 14 = .ok (.bipush 11, 2) := by decide +kernel
theorem dX2_init_16 : decode cX2_init 16 = .ok (.sipush 1024, 3) := by decide +kernel
theorem dX2_init_19 : decode cX2_init 19 = .ok (.multianewarray 15 2, 4) := by decide +kernel
theorem dX2_init_23 : decode cX2_init 23 = .ok (.putfield 17, 3) := by decide +kernel
theorem dX2_init_26 : decode cX2_init 26 = .ok (.aload_n 0, 1) := by decide +kernel
theorem dX2_init_27 : decode cX2_init 27 = .ok (.bipush 11, 2) := by decide +kernel
theorem dX2_init_29 : decode cX2_init 29 = .ok (.sipush 1024, 3) := by decide +kernel
theorem dX2_init_32 : decode cX2_init 32 = .ok (.multianewarray 15 2, 4) := by decide +kernel
theorem dX2_init_36 : decode cX2_init 36 = .ok (.putfield 20, 3) := by decide +kernel
theorem dX2_init_39 : decode cX2_init 39 = .ok (.aload_n 0, 1) := by decide +kernel
theorem dX2_init_40 : decode cX2_init 40 = .ok (.iconst (-1), 1) := by decide +kernel
theorem dX2_init_41 : decode cX2_init 41 = .ok (.putfield 23, 3) := by decide +kernel
theorem dX2_init_44 : decode cX2_init 44 = .ok (.aload_n 0, 1) := by decide +kernel
theorem dX2_init_45 : decode cX2_init 45 = .ok (.bipush 11, 2) := by decide +kernel
theorem dX2_init_47 : decode cX2_init 47 = .ok (.sipush 1024, 3) := by decide +kernel
theorem dX2_init_50 : decode cX2_init 50 = .ok (.multianewarray 15 2, 4) := by decide +kernel
theorem dX2_init_54 : decode cX2_init 54 = .ok (.putfield 27, 3) := by decide +kernel
theorem dX2_init_57 : decode cX2_init 57 = .ok (.aload_n 0, 1) := by decide +kernel
theorem dX2_init_58 : decode cX2_init 58 = .ok (.iconst (-1), 1) := by decide +kernel
theorem dX2_init_59 : decode cX2_init 59 = .ok (.putfield 30, 3) := by decide +kernel
theorem dX2_init_62 : decode cX2_init 62 = .ok (.aload_n 0, 1) := by decide +kernel
theorem dX2_init_63 : decode cX2_init 63 = .ok (.aload_n 1, 1) := by decide +kernel
theorem dX2_init_64 : decode cX2_init 64 = .ok (.putfield 33, 3) := by decide +kernel
theorem dX2_init_67 : decode cX2_init 67 = .ok (.aload_n 0, 1) := by decide +kernel
theorem dX2_init_68 : decode cX2_init 68 = .ok (.aload_n 2, 1) := by decide +kernel
theorem dX2_init_69 : decode cX2_init 69 = .ok (.putfield 37, 3) := by decide +kernel
theorem dX2_init_72 : decode cX2_init 72 = .ok (.aload_n 0, 1) := by decide +kernel
theorem dX2_init_73 : decode cX2_init 73 = .ok (.aload_n 3, 1) := by decide +kernel
theorem dX2_init_74 : decode cX2_init 74 = .ok (.putfield 41, 3) := by decide +kernel
theorem dX2_init_77 : decode cX2_init 77 = .ok (.return_, 1) := by decide +kernel
theorem dX2_forget_0 : decode cX2_forget 0 = .ok (.aload_n 0, 1) := by decide +kernel
theorem dX2_forget_1 : decode cX2_forget 1 = .ok (.iconst (-1), 1) := by decide +kernel
theorem dX2_forget_2 : decode cX2_forget 2 = .ok (.putfield 23, 3) := by decide +kernel
theorem dX2_forget_5 : decode cX2_forget 5 = .ok (.aload_n 0, 1) := by decide +kernel
theorem dX2_forget_6 : decode cX2_forget 6 = .ok (.iconst (-1), 1) := by decide +kernel
theorem dX2_forget_7 : decode cX2_forget 7 = .ok (.putfield 30, 3) := by decide +kernel
theorem dX2_forget_10 : decode cX2_forget 10 = .ok (.return_, 1) := by decide +kernel
theorem dX2_worthOfBest_0 : decode cX2_worthOfBest 0 = .ok (.iload_n 1, 1) := by decide +kernel
theorem dX2_worthOfBest_1 : decode cX2_worthOfBest 1 = .ok (.ifCond .lt 9, 3) := by decide +kernel
theorem dX2_worthOfBest_4 : decode cX2_worthOfBest 4 = .ok (.iload_n 1, 1) := by decide +kernel
theorem dX2_worthOfBest_5 : decode cX2_worthOfBest 5 = .ok (.bipush 10, 2) := by decide +kernel
theorem dX2_worthOfBest_7 : decode cX2_worthOfBest 7 = .ok (.if_icmp .le 7, 3) := by decide +kernel
theorem dX2_worthOfBest_10 : decode cX2_worthOfBest 10 = .ok (.iconst (-1), 1) := by decide +kernel
theorem dX2_worthOfBest_11 : decode cX2_worthOfBest 11 = .ok (.goto 11, 3) := by decide +kernel
theorem dX2_worthOfBest_14 : decode cX2_worthOfBest 14 = .ok (.aload_n 0, 1) := by decide +kernel
theorem dX2_worthOfBest_15 : decode cX2_worthOfBest 15 = .ok (.getfield 17, 3) := by decide +kernel
theorem dX2_worthOfBest_18 : decode cX2_worthOfBest 18 = .ok (.iload_n 1, 1) := by decide +kernel
theorem dX2_worthOfBest_19 : decode cX2_worthOfBest 19 = .ok (.aaload, 1) := by decide +kernel
theorem dX2_worthOfBest_20 : decode cX2_worthOfBest 20 = .ok (.iconst 0, 1) := by decide +kernel
theorem dX2_worthOfBest_21 : decode cX2_worthOfBest 21 = .ok (.iaload, 1) := by decide +kernel
theorem dX2_worthOfBest_22 : decode cX2_worthOfBest 22 = .ok (.ireturn, 1) := by decide +kernel
theorem dX2_partOfBest_0 : decode cX2_partOfBest 0 = .ok (.iload_n 2, 1) := by decide +kernel
theorem dX2_partOfBest_1 : decode cX2_partOfBest 1 = .ok (.ifCond .lt 17, 3) := by decide +kernel
theorem dX2_partOfBest_4 : decode cX2_partOfBest 4 = .ok (.iload_n 2, 1) := by decide +kernel
theorem dX2_partOfBest_5 : decode cX2_partOfBest 5 = .ok (.iload_n 1, 1) := by decide +kernel
theorem dX2_partOfBest_6 : decode cX2_partOfBest 6 = .ok (.if_icmp .ge 12, 3) := by decide +kernel
theorem dX2_partOfBest_9 : decode cX2_partOfBest 9 = .ok (.aload_n 0, 1) := by decide +kernel
theorem dX2_partOfBest_10 : decode cX2_partOfBest 10 = .ok (.iload_n 1, 1) := by decide +kernel
theorem dX2_partOfBest_11 : decode cX2_partOfBest 11 = .ok (.invokevirtual 45, 3) := by decide +kernel
theorem dX2_partOfBest_14 : decode cX2_partOfBest 14 = .ok (.iconst (-1), 1) := by decide +kernel
theorem dX2_partOfBest_15 : decode cX2_partOfBest 15 = .ok (.if_icmp .ne 5, 3) := by decide +kernel
theorem dX2_partOfBest_18 : decode cX2_partOfBest 18 = .ok (.iconst (-1), 1) := by decide +kernel
theorem dX2_partOfBest_19 : decode cX2_partOfBest 19 = .ok (.ireturn, 1) := by decide +kernel
theorem dX2_partOfBest_20 : decode cX2_partOfBest 20 = .ok (.iconst 0, 1) := by decide +kernel
theorem dX2_partOfBest_21 : decode cX2_partOfBest 21 = .ok (.istore_n 3, 1) := by decide +kernel
theorem dX2_partOfBest_22 : decode cX2_partOfBest 22 = .ok (.iconst 0, 1) := by decide +kernel
theorem dX2_partOfBest_23 : decode cX2_partOfBest 23 = .ok (.istore 4, 2) := by decide +kernel
theorem dX2_partOfBest_25 : decode cX2_partOfBest 25 = .ok (.iload 4, 2) := by decide +kernel
theorem dX2_partOfBest_27 : decode cX2_partOfBest 27 = .ok (.iload_n 2, 1) := by decide +kernel
theorem dX2_partOfBest_28 : decode cX2_partOfBest 28 = .ok (.if_icmp .ge 23, 3) := by decide +kernel
theorem dX2_partOfBest_31 : decode cX2_partOfBest 31 = .ok (.iload_n 3, 1) := by decide +kernel
theorem dX2_partOfBest_32 : decode cX2_partOfBest 32 = .ok (.aload_n 0, 1) := by decide +kernel
theorem dX2_partOfBest_33 : decode cX2_partOfBest 33 = .ok (.getfield 20, 3) := by decide +kernel
theorem dX2_partOfBest_36 : decode cX2_partOfBest 36 = .ok (.iload_n 1, 1) := by decide +kernel
theorem dX2_partOfBest_37 : decode cX2_partOfBest 37 = .ok (.iload 4, 2) := by decide +kernel
theorem dX2_partOfBest_39 : decode cX2_partOfBest 39 = .ok (.isub, 1) := by decide +kernel
theorem dX2_partOfBest_40 : decode cX2_partOfBest 40 = .ok (.aaload, 1) := by decide +kernel
theorem dX2_partOfBest_41 : decode cX2_partOfBest 41 = .ok (.iload_n 3, 1) := by decide +kernel
theorem dX2_partOfBest_42 : decode cX2_partOfBest 42 = .ok (.iaload, 1) := by decide +kernel
theorem dX2_partOfBest_43 : decode cX2_partOfBest 43 = .ok (.ior, 1) := by decide +kernel
theorem dX2_partOfBest_44 : decode cX2_partOfBest 44 = .ok (.istore_n 3, 1) := by decide +kernel
theorem dX2_partOfBest_45 : decode cX2_partOfBest 45 = .ok (.iinc 4 1, 3) := by decide +kernel
theorem dX2_partOfBest_48 : decode cX2_partOfBest 48 = .ok (.goto (-23), 3) := by decide +kernel
theorem dX2_partOfBest_51 : decode cX2_partOfBest 51 = .ok (.aload_n 0, 1) := by decide +kernel
theorem dX2_partOfBest_52 : decode cX2_partOfBest 52 = .ok (.getfield 20, 3) := by decide +kernel
theorem dX2_partOfBest_55 : decode cX2_partOfBest 55 = .ok (.iload_n 1, 1) := by decide +kernel
theorem dX2_partOfBest_56 : decode cX2_partOfBest 56 = .ok (.iload_n 2, 1) := by decide +kernel
theorem dX2_partOfBest_57 : decode cX2_partOfBest 57 = .ok (.isub, 1) := by decide +kernel
theorem dX2_partOfBest_58 : decode cX2_partOfBest 58 = .ok (.aaload, 1) := by decide +kernel
theorem dX2_partOfBest_59 : decode cX2_partOfBest 59 = .ok (.iload_n 3, 1) := by decide +kernel
theorem dX2_partOfBest_60 : decode cX2_partOfBest 60 = .ok (.iaload, 1) := by decide +kernel
theorem dX2_partOfBest_61 : decode cX2_partOfBest 61 = .ok (.ireturn, 1) := by decide +kernel
theorem dX2_kindest_0 : decode cX2_kindest 0 = .ok (.iconst (-1), 1) := by decide +kernel
theorem dX2_kindest_1 : decode cX2_kindest 1 = .ok (.istore_n 3, 1) := by decide +kernel
theorem dX2_kindest_2 : decode cX2_kindest 2 = .ok (.iconst 0, 1) := by decide +kernel
theorem dX2_kindest_3 : decode cX2_kindest 3 = .ok (.istore 4, 2) := by decide +kernel
theorem dX2_kindest_5 : decode cX2_kindest 5 = .ok (.iload 4, 2) := by decide +kernel
theorem dX2_kindest_7 : decode cX2_kindest 7 = .ok (.iload_n 2, 1) := by decide +kernel
theorem dX2_kindest_8 : decode cX2_kindest 8 = .ok (.if_icmp .gt 51, 3) := by decide +kernel
theorem dX2_kindest_11 : decode cX2_kindest 11 = .ok (.iload_n 1, 1) := by decide +kernel
theorem dX2_kindest_12 : decode cX2_kindest 12 = .ok (.bipush 10, 2) := by decide +kernel
theorem dX2_kindest_14 : decode cX2_kindest 14 = .ok (.if_icmp .gt 45, 3) := by decide +kernel
theorem dX2_kindest_17 : decode cX2_kindest 17 = .ok (.iload 4, 2) := by decide +kernel
theorem dX2_kindest_19 : decode cX2_kindest 19 = .ok (.iload_n 2, 1) := by decide +kernel
theorem dX2_kindest_20 : decode cX2_kindest 20 = .ok (.iconst (-1), 1) := by decide +kernel
theorem dX2_kindest_21 : decode cX2_kindest 21 = .ok (.ixor, 1) := by decide +kernel
theorem dX2_kindest_22 : decode cX2_kindest 22 = .ok (.iand, 1) := by decide +kernel
theorem dX2_kindest_23 : decode cX2_kindest 23 = .ok (.ifCond .ne 30, 3) := by decide +kernel
theorem dX2_kindest_26 : decode cX2_kindest 26 = .ok (.aload_n 0, 1) := by decide +kernel
theorem dX2_kindest_27 : decode cX2_kindest 27 = .ok (.getfield 27, 3) := by decide +kernel
theorem dX2_kindest_30 : decode cX2_kindest 30 = .ok (.iload_n 1, 1) := by decide +kernel
theorem dX2_kindest_31 : decode cX2_kindest 31 = .ok (.aaload, 1) := by decide +kernel
theorem dX2_kindest_32 : decode cX2_kindest 32 = .ok (.iload 4, 2) := by decide +kernel
theorem dX2_kindest_34 : decode cX2_kindest 34 = .ok (.iaload, 1) := by decide +kernel
theorem dX2_kindest_35 : decode cX2_kindest 35 = .ok (.iconst (-1), 1) := by decide +kernel
theorem dX2_kindest_36 : decode cX2_kindest 36 = .ok (.if_icmp .eq 17, 3) := by decide +kernel
theorem dX2_kindest_39 : decode cX2_kindest 39 = .ok (.aload_n 0, 1) := by decide +kernel
theorem dX2_kindest_40 : decode cX2_kindest 40 = .ok (.iload_n 1, 1) := by decide +kernel
theorem dX2_kindest_41 : decode cX2_kindest 41 = .ok (.iload 4, 2) := by decide +kernel
theorem dX2_kindest_43 : decode cX2_kindest 43 = .ok (.iload_n 3, 1) := by decide +kernel
theorem dX2_kindest_44 : decode cX2_kindest 44 = .ok (.invokevirtual 49, 3) := by decide +kernel
theorem dX2_kindest_47 : decode cX2_kindest 47 = .ok (.ifCond .eq 6, 3) := by decide +kernel
theorem dX2_kindest_50 : decode cX2_kindest 50 = .ok (.iload 4, 2) := by decide +kernel
theorem dX2_kindest_52 : decode cX2_kindest 52 = .ok (.istore_n 3, 1) := by decide +kernel
theorem dX2_kindest_53 : decode cX2_kindest 53 = .ok (.iinc 4 1, 3) := by decide +kernel
theorem dX2_kindest_56 : decode cX2_kindest 56 = .ok (.goto (-51), 3) := by decide +kernel
theorem dX2_kindest_59 : decode cX2_kindest 59 = .ok (.iload_n 3, 1) := by decide +kernel
theorem dX2_kindest_60 : decode cX2_kindest 60 = .ok (.ireturn, 1) := by decide +kernel
theorem dX2_isKinder_0 : decode cX2_isKinder 0 = .ok (.iload_n 3, 1) := by decide +kernel
theorem dX2_isKinder_1 : decode cX2_isKinder 1 = .ok (.iconst (-1), 1) := by decide +kernel
theorem dX2_isKinder_2 : decode cX2_isKinder 2 = .ok (.if_icmp .ne 5, 3) := by decide +kernel
theorem dX2_isKinder_5 : decode cX2_isKinder 5 = .ok (.iconst 1, 1) := by decide +kernel
theorem dX2_isKinder_6 : decode cX2_isKinder 6 = .ok (.ireturn, 1) := by decide +kernel
theorem dX2_isKinder_7 : decode cX2_isKinder 7 = .ok (.iload_n 2, 1) := by decide +kernel
theorem dX2_isKinder_8 : decode cX2_isKinder 8 = .ok (.invokestatic 53, 3) := by decide +kernel
theorem dX2_isKinder_11 : decode cX2_isKinder 11 = .ok (.iload_n 3, 1) := by decide +kernel
theorem dX2_isKinder_12 : decode cX2_isKinder 12 = .ok (.invokestatic 53, 3) := by decide +kernel
theorem dX2_isKinder_15 : decode cX2_isKinder 15 = .ok (.isub, 1) := by decide +kernel
theorem dX2_isKinder_16 : decode cX2_isKinder 16 = .ok (.istore 4, 2) := by decide +kernel
theorem dX2_isKinder_18 : decode cX2_isKinder 18 = .ok (.iload 4, 2) := by decide +kernel
theorem dX2_isKinder_20 : decode cX2_isKinder 20 = .ok (.ifCond .gt 27, 3) := by decide +kernel
theorem dX2_isKinder_23 : decode cX2_isKinder 23 = .ok (.iload 4, 2) := by decide +kernel
theorem dX2_isKinder_25 : decode cX2_isKinder 25 = .ok (.ifCond .ne 26, 3) := by decide +kernel
theorem dX2_isKinder_28 : decode cX2_isKinder 28 = .ok (.aload_n 0, 1) := by decide +kernel
theorem dX2_isKinder_29 : decode cX2_isKinder 29 = .ok (.getfield 27, 3) := by decide +kernel
theorem dX2_isKinder_32 : decode cX2_isKinder 32 = .ok (.iload_n 1, 1) := by decide +kernel
theorem dX2_isKinder_33 : decode cX2_isKinder 33 = .ok (.aaload, 1) := by decide +kernel
theorem dX2_isKinder_34 : decode cX2_isKinder 34 = .ok (.iload_n 2, 1) := by decide +kernel
theorem dX2_isKinder_35 : decode cX2_isKinder 35 = .ok (.iaload, 1) := by decide +kernel
theorem dX2_isKinder_36 : decode cX2_isKinder 36 = .ok (.aload_n 0, 1) := by decide +kernel
theorem dX2_isKinder_37 : decode cX2_isKinder 37 = .ok (.getfield 27, 3) := by decide +kernel
theorem dX2_isKinder_40 : decode cX2_isKinder 40 = .ok (.iload_n 1, 1) := by decide +kernel
theorem dX2_isKinder_41 : decode cX2_isKinder 41 = .ok (.aaload, 1) := by decide +kernel
theorem dX2_isKinder_42 : decode cX2_isKinder 42 = .ok (.iload_n 3, 1) := by decide +kernel
theorem dX2_isKinder_43 : decode cX2_isKinder 43 = .ok (.iaload, 1) := by decide +kernel
theorem dX2_isKinder_44 : decode cX2_isKinder 44 = .ok (.if_icmp .le 7, 3) := by decide +kernel
theorem dX2_isKinder_47 : decode cX2_isKinder 47 = .ok (.iconst 1, 1) := by decide +kernel
theorem dX2_isKinder_48 : decode cX2_isKinder 48 = .ok (.goto 4, 3) := by decide +kernel
theorem dX2_isKinder_51 : decode cX2_isKinder 51 = .ok (.iconst 0, 1) := by decide +kernel
theorem dX2_isKinder_52 : decode cX2_isKinder 52 = .ok (.ireturn, 1) := by decide +kernel
theorem dX2_worthGathered_0 : decode cX2_worthGathered 0 = .ok (.iload_n 1, 1) := by decide +kernel
theorem dX2_worthGathered_1 : decode cX2_worthGathered 1 = .ok (.ifCond .lt 20, 3) := by decide +kernel
theorem dX2_worthGathered_4 : decode cX2_worthGathered 4 = .ok (.iload_n 1, 1) := by decide +kernel
theorem dX2_worthGathered_5 : decode cX2_worthGathered 5 = .ok (.bipush 10, 2) := by decide +kernel
theorem dX2_worthGathered_7 : decode cX2_worthGathered 7 = .ok (.if_icmp .gt 14, 3) := by decide +kernel
theorem dX2_worthGathered_10 : decode cX2_worthGathered 10 = .ok (.iload_n 2, 1) := by decide +kernel
theorem dX2_worthGathered_11 : decode cX2_worthGathered 11 = .ok (.ifCond .lt 10, 3) := by decide +kernel
theorem dX2_worthGathered_14 : decode cX2_worthGathered 14 = .ok (.iload_n 2, 1) := by decide +kernel
theorem dX2_worthGathered_15 : decode cX2_worthGathered 15 = .ok (.sipush 1024, 3) := by decide +kernel
theorem dX2_worthGathered_18 : decode cX2_worthGathered 18 = .ok (.if_icmp .lt 7, 3) := by decide +kernel
theorem dX2_worthGathered_21 : decode cX2_worthGathered 21 = .ok (.iconst (-1), 1) := by decide +kernel
theorem dX2_worthGathered_22 : decode cX2_worthGathered 22 = .ok (.goto 11, 3) := by decide +kernel
theorem dX2_worthGathered_25 : decode cX2_worthGathered 25 = .ok (.aload_n 0, 1) := by decide +kernel
theorem dX2_worthGathered_26 : decode cX2_worthGathered 26 = .ok (.getfield 27, 3) := by decide +kernel
theorem dX2_worthGathered_29 : decode cX2_worthGathered 29 = .ok (.iload_n 1, 1) := by decide +kernel
theorem dX2_worthGathered_30 : decode cX2_worthGathered 30 = .ok (.aaload, 1) := by decide +kernel
theorem dX2_worthGathered_31 : decode cX2_worthGathered 31 = .ok (.iload_n 2, 1) := by decide +kernel
theorem dX2_worthGathered_32 : decode cX2_worthGathered 32 = .ok (.iaload, 1) := by decide +kernel
theorem dX2_worthGathered_33 : decode cX2_worthGathered 33 = .ok (.ireturn, 1) := by decide +kernel
theorem dX2_planFor_0 : decode cX2_planFor 0 = .ok (.aload_n 0, 1) := by decide +kernel
theorem dX2_planFor_1 : decode cX2_planFor 1 = .ok (.getfield 23, 3) := by decide +kernel
theorem dX2_planFor_4 : decode cX2_planFor 4 = .ok (.iload_n 1, 1) := by decide +kernel
theorem dX2_planFor_5 : decode cX2_planFor 5 = .ok (.if_icmp .ne 4, 3) := by decide +kernel
theorem dX2_planFor_8 : decode cX2_planFor 8 = .ok (.return_, 1) := by decide +kernel
theorem dX2_planFor_9 : decode cX2_planFor 9 = .ok (.aload_n 0, 1) := by decide +kernel
theorem dX2_planFor_10 : decode cX2_planFor 10 = .ok (.aload_n 0, 1) := by decide +kernel
theorem dX2_planFor_11 : decode cX2_planFor 11 = .ok (.getfield 41, 3) := by decide +kernel
theorem dX2_planFor_14 : decode cX2_planFor 14 = .ok (.aload_n 0, 1) := by decide +kernel
theorem dX2_planFor_15 : decode cX2_planFor 15 = .ok (.getfield 41, 3) := by decide +kernel
theorem dX2_planFor_18 : decode cX2_planFor 18 = .ok (.invokevirtual 58, 3) := by decide +kernel
theorem dX2_planFor_21 : decode cX2_planFor 21 = .ok (.invokevirtual 64, 3) := by decide +kernel
theorem dX2_planFor_24 : decode cX2_planFor 24 = .ok (.putfield 67, 3) := by decide +kernel
theorem dX2_planFor_27 : decode cX2_planFor 27 = .ok (.iload_n 1, 1) := by decide +kernel
theorem dX2_planFor_28 : decode cX2_planFor 28 = .ok (.invokestatic 53, 3) := by decide +kernel
theorem dX2_planFor_31 : decode cX2_planFor 31 = .ok (.istore_n 2, 1) := by decide +kernel
theorem dX2_planFor_32 : decode cX2_planFor 32 = .ok (.iload_n 1, 1) := by decide +kernel
theorem dX2_planFor_33 : decode cX2_planFor 33 = .ok (.istore_n 3, 1) := by decide +kernel
theorem dX2_planFor_34 : decode cX2_planFor 34 = .ok (.iconst 0, 1) := by decide +kernel
theorem dX2_planFor_35 : decode cX2_planFor 35 = .ok (.istore 4, 2) := by decide +kernel
theorem dX2_planFor_37 : decode cX2_planFor 37 = .ok (.iload 4, 2) := by decide +kernel
theorem dX2_planFor_39 : decode cX2_planFor 39 = .ok (.iconst 1, 1) := by decide +kernel
theorem dX2_planFor_40 : decode cX2_planFor 40 = .ok (.iload_n 2, 1) := by decide +kernel
theorem dX2_planFor_41 : decode cX2_planFor 41 = .ok (.ishl, 1) := by decide +kernel
theorem dX2_planFor_42 : decode cX2_planFor 42 = .ok (.if_icmp .ge 65, 3) := by decide +kernel
theorem dX2_planFor_45 : decode cX2_planFor 45 = .ok (.iconst 0, 1) := by decide +kernel
theorem dX2_planFor_46 : decode cX2_planFor 46 = .ok (.istore 5, 2) := by decide +kernel
theorem dX2_planFor_48 : decode cX2_planFor 48 = .ok (.iload 5, 2) := by decide +kernel
theorem dX2_planFor_50 : decode cX2_planFor 50 = .ok (.bipush 10, 2) := by decide +kernel
theorem dX2_planFor_52 : decode cX2_planFor 52 = .ok (.if_icmp .gt 33, 3) := by decide +kernel
theorem dX2_planFor_55 : decode cX2_planFor 55 = .ok (.aload_n 0, 1) := by decide +kernel
theorem dX2_planFor_56 : decode cX2_planFor 56 = .ok (.getfield 17, 3) := by decide +kernel
theorem dX2_planFor_59 : decode cX2_planFor 59 = .ok (.iload 5, 2) := by decide +kernel
theorem dX2_planFor_61 : decode cX2_planFor 61 = .ok (.aaload, 1) := by decide +kernel
theorem dX2_planFor_62 : decode cX2_planFor 62 = .ok (.iload_n 3, 1) := by decide +kernel
theorem dX2_planFor_63 : decode cX2_planFor 63 = .ok (.iload 5, 2) := by decide +kernel
theorem dX2_planFor_65 : decode cX2_planFor 65 = .ok (.ifCond .ne 12, 3) := by decide +kernel
theorem dX2_planFor_68 : decode cX2_planFor 68 = .ok (.iload_n 3, 1) := by decide +kernel
theorem dX2_planFor_69 : decode cX2_planFor 69 = .ok (.iload_n 1, 1) := by decide +kernel
theorem dX2_planFor_70 : decode cX2_planFor 70 = .ok (.if_icmp .ne 7, 3) := by decide +kernel
theorem dX2_planFor_73 : decode cX2_planFor 73 = .ok (.iconst 0, 1) := by decide +kernel
theorem dX2_planFor_74 : decode cX2_planFor 74 = .ok (.goto 4, 3) := by decide +kernel
theorem dX2_planFor_77 : decode cX2_planFor 77 = .ok (.iconst (-1), 1) := by decide +kernel
theorem dX2_planFor_78 : decode cX2_planFor 78 = .ok (.iastore, 1) := by decide +kernel
theorem dX2_planFor_79 : decode cX2_planFor 79 = .ok (.iinc 5 1, 3) := by decide +kernel
theorem dX2_planFor_82 : decode cX2_planFor 82 = .ok (.goto (-34), 3) := by decide +kernel
theorem dX2_planFor_85 : decode cX2_planFor 85 = .ok (.aload_n 0, 1) := by decide +kernel
theorem dX2_planFor_86 : decode cX2_planFor 86 = .ok (.iload_n 3, 1) := by decide +kernel
theorem dX2_planFor_87 : decode cX2_planFor 87 = .ok (.iload_n 1, 1) := by decide +kernel
theorem dX2_planFor_88 : decode cX2_planFor 88 = .ok (.iload_n 3, 1) := by decide +kernel
theorem dX2_planFor_89 : decode cX2_planFor 89 = .ok (.iconst (-1), 1) := by decide +kernel
theorem dX2_planFor_90 : decode cX2_planFor 90 = .ok (.ixor, 1) := by decide +kernel
theorem dX2_planFor_91 : decode cX2_planFor 91 = .ok (.iand, 1) := by decide +kernel
theorem dX2_planFor_92 : decode cX2_planFor 92 = .ok (.invokevirtual 69, 3) := by decide +kernel
theorem dX2_planFor_95 : decode cX2_planFor 95 = .ok (.iload_n 3, 1) := by decide +kernel
theorem dX2_planFor_96 : decode cX2_planFor 96 = .ok (.iconst 1, 1) := by decide +kernel
theorem dX2_planFor_97 : decode cX2_planFor 97 = .ok (.isub, 1) := by decide +kernel
theorem dX2_planFor_98 : decode cX2_planFor 98 = .ok (.iload_n 1, 1) := by decide +kernel
theorem dX2_planFor_99 : decode cX2_planFor 99 = .ok (.iand, 1) := by decide +kernel
theorem dX2_planFor_100 : decode cX2_planFor 100 = .ok (.istore_n 3, 1) := by decide +kernel
theorem dX2_planFor_101 : decode cX2_planFor 101 = .ok (.iinc 4 1, 3) := by decide +kernel
theorem dX2_planFor_104 : decode cX2_planFor 104 = .ok (.goto (-67), 3) := by decide +kernel
theorem dX2_planFor_107 : decode cX2_planFor 107 = .ok (.aload_n 0, 1) := by decide +kernel
theorem dX2_planFor_108 : decode cX2_planFor 108 = .ok (.iload_n 1, 1) := by decide +kernel
theorem dX2_planFor_109 : decode cX2_planFor 109 = .ok (.putfield 23, 3) := by decide +kernel
theorem dX2_planFor_112 : decode cX2_planFor 112 = .ok (.return_, 1) := by decide +kernel
theorem dX2_chooseFirst_0 : decode cX2_chooseFirst 0 = .ok (.aload_n 0, 1) := by decide +kernel
theorem dX2_chooseFirst_1 : decode cX2_chooseFirst 1 = .ok (.iload_n 1, 1) := by decide +kernel
theorem dX2_chooseFirst_2 : decode cX2_chooseFirst 2 = .ok (.iload_n 2, 1) := by decide +kernel
theorem dX2_chooseFirst_3 : decode cX2_chooseFirst 3 = .ok (.invokevirtual 73, 3) := by decide +kernel
theorem dX2_chooseFirst_6 : decode cX2_chooseFirst 6 = .ok (.iload_n 2, 1) := by decide +kernel
theorem dX2_chooseFirst_7 : decode cX2_chooseFirst 7 = .ok (.invokestatic 53, 3) := by decide +kernel
theorem dX2_chooseFirst_10 : decode cX2_chooseFirst 10 = .ok (.istore_n 3, 1) := by decide +kernel
theorem dX2_chooseFirst_11 : decode cX2_chooseFirst 11 = .ok (.iconst 0, 1) := by decide +kernel
theorem dX2_chooseFirst_12 : decode cX2_chooseFirst 12 = .ok (.istore 4, 2) := by decide +kernel
theorem dX2_chooseFirst_14 : decode cX2_chooseFirst 14 = .ok (.iconst 1, 1) := by decide +kernel
theorem dX2_chooseFirst_15 : decode cX2_chooseFirst 15 = .ok (.istore 5, 2) := by decide +kernel
theorem dX2_chooseFirst_17 : decode cX2_chooseFirst 17 = .ok (.iload 5, 2) := by decide +kernel
theorem dX2_chooseFirst_19 : decode cX2_chooseFirst 19 = .ok (.iconst 1, 1) := by decide +kernel
theorem dX2_chooseFirst_20 : decode cX2_chooseFirst 20 = .ok (.iload_n 3, 1) := by decide +kernel
theorem dX2_chooseFirst_21 : decode cX2_chooseFirst 21 = .ok (.ishl, 1) := by decide +kernel
theorem dX2_chooseFirst_22 : decode cX2_chooseFirst 22 = .ok (.if_icmp .ge 127, 3) := by decide +kernel
theorem dX2_chooseFirst_25 : decode cX2_chooseFirst 25 = .ok (.iload 4, 2) := by decide +kernel
theorem dX2_chooseFirst_27 : decode cX2_chooseFirst 27 = .ok (.iload_n 2, 1) := by decide +kernel
theorem dX2_chooseFirst_28 : decode cX2_chooseFirst 28 = .ok (.isub, 1) := by decide +kernel
theorem dX2_chooseFirst_29 : decode cX2_chooseFirst 29 = .ok (.iload_n 2, 1) := by decide +kernel
theorem dX2_chooseFirst_30 : decode cX2_chooseFirst 30 = .ok (.iand, 1) := by decide +kernel
theorem dX2_chooseFirst_31 : decode cX2_chooseFirst 31 = .ok (.istore 4, 2) := by decide +kernel
theorem dX2_chooseFirst_33 : decode cX2_chooseFirst 33 = .ok (.aload_n 0, 1) := by decide +kernel
theorem dX2_chooseFirst_34 : decode cX2_chooseFirst 34 = .ok (.iload_n 1, 1) := by decide +kernel
theorem dX2_chooseFirst_35 : decode cX2_chooseFirst 35 = .ok (.iload 4, 2) := by decide +kernel
theorem dX2_chooseFirst_37 : decode cX2_chooseFirst 37 = .ok (.invokevirtual 76, 3) := by decide +kernel
theorem dX2_chooseFirst_40 : decode cX2_chooseFirst 40 = .ok (.istore 6, 2) := by decide +kernel
theorem dX2_chooseFirst_42 : decode cX2_chooseFirst 42 = .ok (.iload 6, 2) := by decide +kernel
theorem dX2_chooseFirst_44 : decode cX2_chooseFirst 44 = .ok (.iconst (-1), 1) := by decide +kernel
theorem dX2_chooseFirst_45 : decode cX2_chooseFirst 45 = .ok (.if_icmp .ne 7, 3) := by decide +kernel
theorem dX2_chooseFirst_48 : decode cX2_chooseFirst 48 = .ok (.iconst 0, 1) := by decide +kernel
theorem dX2_chooseFirst_49 : decode cX2_chooseFirst 49 = .ok (.goto 12, 3) := by decide +kernel
theorem dX2_chooseFirst_52 : decode cX2_chooseFirst 52 = .ok (.iconst 1, 1) := by decide +kernel
theorem dX2_chooseFirst_53 : decode cX2_chooseFirst 53 = .ok (.iload_n 3, 1) := by decide +kernel
theorem dX2_chooseFirst_54 : decode cX2_chooseFirst 54 = .ok (.iadd, 1) := by decide +kernel
theorem dX2_chooseFirst_55 : decode cX2_chooseFirst 55 = .ok (.iload 4, 2) := by decide +kernel
theorem dX2_chooseFirst_57 : decode cX2_chooseFirst 57 = .ok (.invokestatic 53, 3) := by decide +kernel
theorem dX2_chooseFirst_60 : decode cX2_chooseFirst 60 = .ok (.isub, 1) := by decide +kernel
theorem dX2_chooseFirst_61 : decode cX2_chooseFirst 61 = .ok (.istore 7, 2) := by decide +kernel
theorem dX2_chooseFirst_63 : decode cX2_chooseFirst 63 = .ok (.iconst 1, 1) := by decide +kernel
theorem dX2_chooseFirst_64 : decode cX2_chooseFirst 64 = .ok (.istore 8, 2) := by decide +kernel
theorem dX2_chooseFirst_66 : decode cX2_chooseFirst 66 = .ok (.iload 8, 2) := by decide +kernel
theorem dX2_chooseFirst_68 : decode cX2_chooseFirst 68 = .ok (.iload 7, 2) := by decide +kernel
theorem dX2_chooseFirst_70 : decode cX2_chooseFirst 70 = .ok (.if_icmp .gt 73, 3) := by decide +kernel
theorem dX2_chooseFirst_73 : decode cX2_chooseFirst 73 = .ok (.aload_n 0, 1) := by decide +kernel
theorem dX2_chooseFirst_74 : decode cX2_chooseFirst 74 = .ok (.getfield 17, 3) := by decide +kernel
theorem dX2_chooseFirst_77 : decode cX2_chooseFirst 77 = .ok (.iload 8, 2) := by decide +kernel
theorem dX2_chooseFirst_79 : decode cX2_chooseFirst 79 = .ok (.iconst 1, 1) := by decide +kernel
theorem dX2_chooseFirst_80 : decode cX2_chooseFirst 80 = .ok (.isub, 1) := by decide +kernel
theorem dX2_chooseFirst_81 : decode cX2_chooseFirst 81 = .ok (.aaload, 1) := by decide +kernel
theorem dX2_chooseFirst_82 : decode cX2_chooseFirst 82 = .ok (.iload_n 1, 1) := by decide +kernel
theorem dX2_chooseFirst_83 : decode cX2_chooseFirst 83 = .ok (.iload 4, 2) := by decide +kernel
theorem dX2_chooseFirst_85 : decode cX2_chooseFirst 85 = .ok (.ior, 1) := by decide +kernel
theorem dX2_chooseFirst_86 : decode cX2_chooseFirst 86 = .ok (.iaload, 1) := by decide +kernel
theorem dX2_chooseFirst_87 : decode cX2_chooseFirst 87 = .ok (.istore 9, 2) := by decide +kernel
theorem dX2_chooseFirst_89 : decode cX2_chooseFirst 89 = .ok (.iload 9, 2) := by decide +kernel
theorem dX2_chooseFirst_91 : decode cX2_chooseFirst 91 = .ok (.iconst (-1), 1) := by decide +kernel
theorem dX2_chooseFirst_92 : decode cX2_chooseFirst 92 = .ok (.if_icmp .eq 45, 3) := by decide +kernel
theorem dX2_chooseFirst_95 : decode cX2_chooseFirst 95 = .ok (.iload 9, 2) := by decide +kernel
theorem dX2_chooseFirst_97 : decode cX2_chooseFirst 97 = .ok (.iload 6, 2) := by decide +kernel
theorem dX2_chooseFirst_99 : decode cX2_chooseFirst 99 = .ok (.iadd, 1) := by decide +kernel
theorem dX2_chooseFirst_100 : decode cX2_chooseFirst 100 = .ok (.aload_n 0, 1) := by decide +kernel
theorem dX2_chooseFirst_101 : decode cX2_chooseFirst 101 = .ok (.getfield 17, 3) := by decide +kernel
theorem dX2_chooseFirst_104 : decode cX2_chooseFirst 104 = .ok (.iload 8, 2) := by decide +kernel
theorem dX2_chooseFirst_106 : decode cX2_chooseFirst 106 = .ok (.aaload, 1) := by decide +kernel
theorem dX2_chooseFirst_107 : decode cX2_chooseFirst 107 = .ok (.iload_n 1, 1) := by decide +kernel
theorem dX2_chooseFirst_108 : decode cX2_chooseFirst 108 = .ok (.iaload, 1) := by decide +kernel
theorem dX2_chooseFirst_109 : decode cX2_chooseFirst 109 = .ok (.if_icmp .le 28, 3) := by decide +kernel
theorem dX2_chooseFirst_112 : decode cX2_chooseFirst 112 = .ok (.aload_n 0, 1) := by decide +kernel
theorem dX2_chooseFirst_113 : decode cX2_chooseFirst 113 = .ok (.getfield 17, 3) := by decide +kernel
theorem dX2_chooseFirst_116 : decode cX2_chooseFirst 116 = .ok (.iload 8, 2) := by decide +kernel
theorem dX2_chooseFirst_118 : decode cX2_chooseFirst 118 = .ok (.aaload, 1) := by decide +kernel
theorem dX2_chooseFirst_119 : decode cX2_chooseFirst 119 = .ok (.iload_n 1, 1) := by decide +kernel
theorem dX2_chooseFirst_120 : decode cX2_chooseFirst 120 = .ok (.iload 9, 2) := by decide +kernel
theorem dX2_chooseFirst_122 : decode cX2_chooseFirst 122 = .ok (.iload 6, 2) := by decide +kernel
theorem dX2_chooseFirst_124 : decode cX2_chooseFirst 124 = .ok (.iadd, 1) := by decide +kernel
theorem dX2_chooseFirst_125 : decode cX2_chooseFirst 125 = .ok (.iastore, 1) := by decide +kernel
theorem dX2_chooseFirst_126 : decode cX2_chooseFirst 126 = .ok (.aload_n 0, 1) := by decide +kernel
theorem dX2_chooseFirst_127 : decode cX2_chooseFirst 127 = .ok (.getfield 20, 3) := by decide +kernel
theorem dX2_chooseFirst_130 : decode cX2_chooseFirst 130 = .ok (.iload 8, 2) := by decide +kernel
theorem dX2_chooseFirst_132 : decode cX2_chooseFirst 132 = .ok (.aaload, 1) := by decide +kernel
theorem dX2_chooseFirst_133 : decode cX2_chooseFirst 133 = .ok (.iload_n 1, 1) := by decide +kernel
theorem dX2_chooseFirst_134 : decode cX2_chooseFirst 134 = .ok (.iload 4, 2) := by decide +kernel
theorem dX2_chooseFirst_136 : decode cX2_chooseFirst 136 = .ok (.iastore, 1) := by decide +kernel
theorem dX2_chooseFirst_137 : decode cX2_chooseFirst 137 = .ok (.iinc 8 1, 3) := by decide +kernel
theorem dX2_chooseFirst_140 : decode cX2_chooseFirst 140 = .ok (.goto (-74), 3) := by decide +kernel
theorem dX2_chooseFirst_143 : decode cX2_chooseFirst 143 = .ok (.iinc 5 1, 3) := by decide +kernel
theorem dX2_chooseFirst_146 : decode cX2_chooseFirst 146 = .ok (.goto (-129), 3) := by decide +kernel
theorem dX2_chooseFirst_149 : decode cX2_chooseFirst 149 = .ok (.return_, 1) := by decide +kernel
theorem dX2_gatherFor_0 : decode cX2_gatherFor 0 = .ok (.aload_n 0, 1) := by decide +kernel
theorem dX2_gatherFor_1 : decode cX2_gatherFor 1 = .ok (.getfield 30, 3) := by decide +kernel
theorem dX2_gatherFor_4 : decode cX2_gatherFor 4 = .ok (.iload_n 1, 1) := by decide +kernel
theorem dX2_gatherFor_5 : decode cX2_gatherFor 5 = .ok (.if_icmp .ne 4, 3) := by decide +kernel
theorem dX2_gatherFor_8 : decode cX2_gatherFor 8 = .ok (.return_, 1) := by decide +kernel
theorem dX2_gatherFor_9 : decode cX2_gatherFor 9 = .ok (.iconst 0, 1) := by decide +kernel
theorem dX2_gatherFor_10 : decode cX2_gatherFor 10 = .ok (.istore_n 2, 1) := by decide +kernel
theorem dX2_gatherFor_11 : decode cX2_gatherFor 11 = .ok (.iload_n 2, 1) := by decide +kernel
theorem dX2_gatherFor_12 : decode cX2_gatherFor 12 = .ok (.bipush 10, 2) := by decide +kernel
theorem dX2_gatherFor_14 : decode cX2_gatherFor 14 = .ok (.if_icmp .gt 43, 3) := by decide +kernel
theorem dX2_gatherFor_17 : decode cX2_gatherFor 17 = .ok (.iconst 0, 1) := by decide +kernel
theorem dX2_gatherFor_18 : decode cX2_gatherFor 18 = .ok (.istore_n 3, 1) := by decide +kernel
theorem dX2_gatherFor_19 : decode cX2_gatherFor 19 = .ok (.iload_n 3, 1) := by decide +kernel
theorem dX2_gatherFor_20 : decode cX2_gatherFor 20 = .ok (.iload_n 1, 1) := by decide +kernel
theorem dX2_gatherFor_21 : decode cX2_gatherFor 21 = .ok (.if_icmp .gt 30, 3) := by decide +kernel
theorem dX2_gatherFor_24 : decode cX2_gatherFor 24 = .ok (.aload_n 0, 1) := by decide +kernel
theorem dX2_gatherFor_25 : decode cX2_gatherFor 25 = .ok (.getfield 27, 3) := by decide +kernel
theorem dX2_gatherFor_28 : decode cX2_gatherFor 28 = .ok (.iload_n 2, 1) := by decide +kernel
theorem dX2_gatherFor_29 : decode cX2_gatherFor 29 = .ok (.aaload, 1) := by decide +kernel
theorem dX2_gatherFor_30 : decode cX2_gatherFor 30 = .ok (.iload_n 3, 1) := by decide +kernel
theorem dX2_gatherFor_31 : decode cX2_gatherFor 31 = .ok (.iload_n 2, 1) := by decide +kernel
theorem dX2_gatherFor_32 : decode cX2_gatherFor 32 = .ok (.ifCond .ne 11, 3) := by decide +kernel
theorem dX2_gatherFor_35 : decode cX2_gatherFor 35 = .ok (.iload_n 3, 1) := by decide +kernel
theorem dX2_gatherFor_36 : decode cX2_gatherFor 36 = .ok (.ifCond .ne 7, 3) := by decide +kernel
theorem dX2_gatherFor_39 : decode cX2_gatherFor 39 = .ok (.iconst 0, 1) := by decide +kernel
theorem dX2_gatherFor_40 : decode cX2_gatherFor 40 = .ok (.goto 4, 3) := by decide +kernel
theorem dX2_gatherFor_43 : decode cX2_gatherFor 43 = .ok (.iconst (-1), 1) := by decide +kernel
theorem dX2_gatherFor_44 : decode cX2_gatherFor 44 = .ok (.iastore, 1) := by decide +kernel
theorem dX2_gatherFor_45 : decode cX2_gatherFor 45 = .ok (.iinc 3 1, 3) := by decide +kernel
theorem dX2_gatherFor_48 : decode cX2_gatherFor 48 = .ok (.goto (-29), 3) := by decide +kernel
theorem dX2_gatherFor_51 : decode cX2_gatherFor 51 = .ok (.iinc 2 1, 3) := by decide +kernel
theorem dX2_gatherFor_54 : decode cX2_gatherFor 54 = .ok (.goto (-43), 3) := by decide +kernel
theorem dX2_gatherFor_57 : decode cX2_gatherFor 57 = .ok (.aload_n 0, 1) := by decide +kernel
theorem dX2_gatherFor_58 : decode cX2_gatherFor 58 = .ok (.aload_n 0, 1) := by decide +kernel
theorem dX2_gatherFor_59 : decode cX2_gatherFor 59 = .ok (.getfield 41, 3) := by decide +kernel
theorem dX2_gatherFor_62 : decode cX2_gatherFor 62 = .ok (.aload_n 0, 1) := by decide +kernel
theorem dX2_gatherFor_63 : decode cX2_gatherFor 63 = .ok (.getfield 41, 3) := by decide +kernel
theorem dX2_gatherFor_66 : decode cX2_gatherFor 66 = .ok (.invokevirtual 58, 3) := by decide +kernel
theorem dX2_gatherFor_69 : decode cX2_gatherFor 69 = .ok (.invokevirtual 64, 3) := by decide +kernel
theorem dX2_gatherFor_72 : decode cX2_gatherFor 72 = .ok (.putfield 67, 3) := by decide +kernel
theorem dX2_gatherFor_75 : decode cX2_gatherFor 75 = .ok (.iload_n 1, 1) := by decide +kernel
theorem dX2_gatherFor_76 : decode cX2_gatherFor 76 = .ok (.invokestatic 53, 3) := by decide +kernel
theorem dX2_gatherFor_79 : decode cX2_gatherFor 79 = .ok (.istore_n 2, 1) := by decide +kernel
theorem dX2_gatherFor_80 : decode cX2_gatherFor 80 = .ok (.iconst 0, 1) := by decide +kernel
theorem dX2_gatherFor_81 : decode cX2_gatherFor 81 = .ok (.istore_n 3, 1) := by decide +kernel
theorem dX2_gatherFor_82 : decode cX2_gatherFor 82 = .ok (.iconst 0, 1) := by decide +kernel
theorem dX2_gatherFor_83 : decode cX2_gatherFor 83 = .ok (.istore 4, 2) := by decide +kernel
theorem dX2_gatherFor_85 : decode cX2_gatherFor 85 = .ok (.iload 4, 2) := by decide +kernel
theorem dX2_gatherFor_87 : decode cX2_gatherFor 87 = .ok (.iconst 1, 1) := by decide +kernel
theorem dX2_gatherFor_88 : decode cX2_gatherFor 88 = .ok (.iload_n 2, 1) := by decide +kernel
theorem dX2_gatherFor_89 : decode cX2_gatherFor 89 = .ok (.ishl, 1) := by decide +kernel
theorem dX2_gatherFor_90 : decode cX2_gatherFor 90 = .ok (.if_icmp .ge 33, 3) := by decide +kernel
theorem dX2_gatherFor_93 : decode cX2_gatherFor 93 = .ok (.aload_n 0, 1) := by decide +kernel
theorem dX2_gatherFor_94 : decode cX2_gatherFor 94 = .ok (.iload_n 3, 1) := by decide +kernel
theorem dX2_gatherFor_95 : decode cX2_gatherFor 95 = .ok (.invokevirtual 80, 3) := by decide +kernel
theorem dX2_gatherFor_98 : decode cX2_gatherFor 98 = .ok (.ifCond .eq 13, 3) := by decide +kernel
theorem dX2_gatherFor_101 : decode cX2_gatherFor 101 = .ok (.aload_n 0, 1) := by decide +kernel
theorem dX2_gatherFor_102 : decode cX2_gatherFor 102 = .ok (.iload_n 3, 1) := by decide +kernel
theorem dX2_gatherFor_103 : decode cX2_gatherFor 103 = .ok (.iload_n 1, 1) := by decide +kernel
theorem dX2_gatherFor_104 : decode cX2_gatherFor 104 = .ok (.iload_n 3, 1) := by decide +kernel
theorem dX2_gatherFor_105 : decode cX2_gatherFor 105 = .ok (.iconst (-1), 1) := by decide +kernel
theorem dX2_gatherFor_106 : decode cX2_gatherFor 106 = .ok (.ixor, 1) := by decide +kernel
theorem dX2_gatherFor_107 : decode cX2_gatherFor 107 = .ok (.iand, 1) := by decide +kernel
theorem dX2_gatherFor_108 : decode cX2_gatherFor 108 = .ok (.invokevirtual 84, 3) := by decide +kernel
theorem dX2_gatherFor_111 : decode cX2_gatherFor 111 = .ok (.iload_n 3, 1) := by decide +kernel
theorem dX2_gatherFor_112 : decode cX2_gatherFor 112 = .ok (.iload_n 1, 1) := by decide +kernel
theorem dX2_gatherFor_113 : decode cX2_gatherFor 113 = .ok (.isub, 1) := by decide +kernel
theorem dX2_gatherFor_114 : decode cX2_gatherFor 114 = .ok (.iload_n 1, 1) := by decide +kernel
theorem dX2_gatherFor_115 : decode cX2_gatherFor 115 = .ok (.iand, 1) := by decide +kernel
theorem dX2_gatherFor_116 : decode cX2_gatherFor 116 = .ok (.istore_n 3, 1) := by decide +kernel
theorem dX2_gatherFor_117 : decode cX2_gatherFor 117 = .ok (.iinc 4 1, 3) := by decide +kernel
theorem dX2_gatherFor_120 : decode cX2_gatherFor 120 = .ok (.goto (-35), 3) := by decide +kernel
theorem dX2_gatherFor_123 : decode cX2_gatherFor 123 = .ok (.aload_n 0, 1) := by decide +kernel
theorem dX2_gatherFor_124 : decode cX2_gatherFor 124 = .ok (.iload_n 1, 1) := by decide +kernel
theorem dX2_gatherFor_125 : decode cX2_gatherFor 125 = .ok (.putfield 30, 3) := by decide +kernel
theorem dX2_gatherFor_128 : decode cX2_gatherFor 128 = .ok (.return_, 1) := by decide +kernel
theorem dX2_isGathered_0 : decode cX2_isGathered 0 = .ok (.iconst 0, 1) := by decide +kernel
theorem dX2_isGathered_1 : decode cX2_isGathered 1 = .ok (.istore_n 2, 1) := by decide +kernel
theorem dX2_isGathered_2 : decode cX2_isGathered 2 = .ok (.iload_n 2, 1) := by decide +kernel
theorem dX2_isGathered_3 : decode cX2_isGathered 3 = .ok (.bipush 10, 2) := by decide +kernel
theorem dX2_isGathered_5 : decode cX2_isGathered 5 = .ok (.if_icmp .gt 23, 3) := by decide +kernel
theorem dX2_isGathered_8 : decode cX2_isGathered 8 = .ok (.aload_n 0, 1) := by decide +kernel
theorem dX2_isGathered_9 : decode cX2_isGathered 9 = .ok (.getfield 27, 3) := by decide +kernel
theorem dX2_isGathered_12 : decode cX2_isGathered 12 = .ok (.iload_n 2, 1) := by decide +kernel
theorem dX2_isGathered_13 : decode cX2_isGathered 13 = .ok (.aaload, 1) := by decide +kernel
theorem dX2_isGathered_14 : decode cX2_isGathered 14 = .ok (.iload_n 1, 1) := by decide +kernel
theorem dX2_isGathered_15 : decode cX2_isGathered 15 = .ok (.iaload, 1) := by decide +kernel
theorem dX2_isGathered_16 : decode cX2_isGathered 16 = .ok (.iconst (-1), 1) := by decide +kernel
theorem dX2_isGathered_17 : decode cX2_isGathered 17 = .ok (.if_icmp .eq 5, 3) := by decide +kernel
theorem dX2_isGathered_20 : decode cX2_isGathered 20 = .ok (.iconst 1, 1) := by decide +kernel
theorem dX2_isGathered_21 : decode cX2_isGathered 21 = .ok (.ireturn, 1) := by decide +kernel
theorem dX2_isGathered_22 : decode cX2_isGathered 22 = .ok (.iinc 2 1, 3) := by decide +kernel
theorem dX2_isGathered_25 : decode cX2_isGathered 25 = .ok (.goto (-23), 3) := by decide +kernel
theorem dX2_isGathered_28 : decode cX2_isGathered 28 = .ok (.iconst 0, 1) := by decide +kernel
theorem dX2_isGathered_29 : decode cX2_isGathered 29 = .ok (.ireturn, 1) := by decide +kernel
theorem dX2_gatherBehind_0 : decode cX2_gatherBehind 0 = .ok (.aload_n 0, 1) := by decide +kernel
theorem dX2_gatherBehind_1 : decode cX2_gatherBehind 1 = .ok (.iload_n 1, 1) := by decide +kernel
theorem dX2_gatherBehind_2 : decode cX2_gatherBehind 2 = .ok (.iload_n 2, 1) := by decide +kernel
theorem dX2_gatherBehind_3 : decode cX2_gatherBehind 3 = .ok (.invokevirtual 73, 3) := by decide +kernel
theorem dX2_gatherBehind_6 : decode cX2_gatherBehind 6 = .ok (.iload_n 2, 1) := by decide +kernel
theorem dX2_gatherBehind_7 : decode cX2_gatherBehind 7 = .ok (.invokestatic 53, 3) := by decide +kernel
theorem dX2_gatherBehind_10 : decode cX2_gatherBehind 10 = .ok (.istore_n 3, 1) := by decide +kernel
theorem dX2_gatherBehind_11 : decode cX2_gatherBehind 11 = .ok (.iload_n 1, 1) := by decide +kernel
theorem dX2_gatherBehind_12 : decode cX2_gatherBehind 12 = .ok (.invokestatic 53, 3) := by decide +kernel
theorem dX2_gatherBehind_15 : decode cX2_gatherBehind 15 = .ok (.istore 4, 2) := by decide +kernel
theorem dX2_gatherBehind_17 : decode cX2_gatherBehind 17 = .ok (.iconst 0, 1) := by decide +kernel
theorem dX2_gatherBehind_18 : decode cX2_gatherBehind 18 = .ok (.istore 5, 2) := by decide +kernel
theorem dX2_gatherBehind_20 : decode cX2_gatherBehind 20 = .ok (.iconst 1, 1) := by decide +kernel
theorem dX2_gatherBehind_21 : decode cX2_gatherBehind 21 = .ok (.istore 6, 2) := by decide +kernel
theorem dX2_gatherBehind_23 : decode cX2_gatherBehind 23 = .ok (.iload 6, 2) := by decide +kernel
theorem dX2_gatherBehind_25 : decode cX2_gatherBehind 25 = .ok (.iconst 1, 1) := by decide +kernel
theorem dX2_gatherBehind_26 : decode cX2_gatherBehind 26 = .ok (.iload_n 3, 1) := by decide +kernel
theorem dX2_gatherBehind_27 : decode cX2_gatherBehind 27 = .ok (.ishl, 1) := by decide +kernel
theorem dX2_gatherBehind_28 : decode cX2_gatherBehind 28 = .ok (.if_icmp .ge 106, 3) := by decide +kernel
theorem dX2_gatherBehind_31 : decode cX2_gatherBehind 31 = .ok (.iload 5, 2) := by decide +kernel
theorem dX2_gatherBehind_33 : decode cX2_gatherBehind 33 = .ok (.iload_n 2, 1) := by decide +kernel
theorem dX2_gatherBehind_34 : decode cX2_gatherBehind 34 = .ok (.isub, 1) := by decide +kernel
theorem dX2_gatherBehind_35 : decode cX2_gatherBehind 35 = .ok (.iload_n 2, 1) := by decide +kernel
theorem dX2_gatherBehind_36 : decode cX2_gatherBehind 36 = .ok (.iand, 1) := by decide +kernel
theorem dX2_gatherBehind_37 : decode cX2_gatherBehind 37 = .ok (.istore 5, 2) := by decide +kernel
theorem dX2_gatherBehind_39 : decode cX2_gatherBehind 39 = .ok (.aload_n 0, 1) := by decide +kernel
theorem dX2_gatherBehind_40 : decode cX2_gatherBehind 40 = .ok (.iload_n 1, 1) := by decide +kernel
theorem dX2_gatherBehind_41 : decode cX2_gatherBehind 41 = .ok (.iload 5, 2) := by decide +kernel
theorem dX2_gatherBehind_43 : decode cX2_gatherBehind 43 = .ok (.invokevirtual 76, 3) := by decide +kernel
theorem dX2_gatherBehind_46 : decode cX2_gatherBehind 46 = .ok (.istore 7, 2) := by decide +kernel
theorem dX2_gatherBehind_48 : decode cX2_gatherBehind 48 = .ok (.iconst 0, 1) := by decide +kernel
theorem dX2_gatherBehind_49 : decode cX2_gatherBehind 49 = .ok (.istore 8, 2) := by decide +kernel
theorem dX2_gatherBehind_51 : decode cX2_gatherBehind 51 = .ok (.iload 8, 2) := by decide +kernel
theorem dX2_gatherBehind_53 : decode cX2_gatherBehind 53 = .ok (.iload 4, 2) := by decide +kernel
theorem dX2_gatherBehind_55 : decode cX2_gatherBehind 55 = .ok (.if_icmp .gt 73, 3) := by decide +kernel
theorem dX2_gatherBehind_58 : decode cX2_gatherBehind 58 = .ok (.iload 7, 2) := by decide +kernel
theorem dX2_gatherBehind_60 : decode cX2_gatherBehind 60 = .ok (.iconst (-1), 1) := by decide +kernel
theorem dX2_gatherBehind_61 : decode cX2_gatherBehind 61 = .ok (.if_icmp .eq 67, 3) := by decide +kernel
theorem dX2_gatherBehind_64 : decode cX2_gatherBehind 64 = .ok (.aload_n 0, 1) := by decide +kernel
theorem dX2_gatherBehind_65 : decode cX2_gatherBehind 65 = .ok (.getfield 27, 3) := by decide +kernel
theorem dX2_gatherBehind_68 : decode cX2_gatherBehind 68 = .ok (.iload 8, 2) := by decide +kernel
theorem dX2_gatherBehind_70 : decode cX2_gatherBehind 70 = .ok (.aaload, 1) := by decide +kernel
theorem dX2_gatherBehind_71 : decode cX2_gatherBehind 71 = .ok (.iload_n 1, 1) := by decide +kernel
theorem dX2_gatherBehind_72 : decode cX2_gatherBehind 72 = .ok (.iaload, 1) := by decide +kernel
theorem dX2_gatherBehind_73 : decode cX2_gatherBehind 73 = .ok (.iconst (-1), 1) := by decide +kernel
theorem dX2_gatherBehind_74 : decode cX2_gatherBehind 74 = .ok (.if_icmp .eq 48, 3) := by decide +kernel
theorem dX2_gatherBehind_77 : decode cX2_gatherBehind 77 = .ok (.iload_n 1, 1) := by decide +kernel
theorem dX2_gatherBehind_78 : decode cX2_gatherBehind 78 = .ok (.iload 5, 2) := by decide +kernel
theorem dX2_gatherBehind_80 : decode cX2_gatherBehind 80 = .ok (.ior, 1) := by decide +kernel
theorem dX2_gatherBehind_81 : decode cX2_gatherBehind 81 = .ok (.istore 9, 2) := by decide +kernel
theorem dX2_gatherBehind_83 : decode cX2_gatherBehind 83 = .ok (.aload_n 0, 1) := by decide +kernel
theorem dX2_gatherBehind_84 : decode cX2_gatherBehind 84 = .ok (.getfield 27, 3) := by decide +kernel
theorem dX2_gatherBehind_87 : decode cX2_gatherBehind 87 = .ok (.iload 8, 2) := by decide +kernel
theorem dX2_gatherBehind_89 : decode cX2_gatherBehind 89 = .ok (.iconst 1, 1) := by decide +kernel
theorem dX2_gatherBehind_90 : decode cX2_gatherBehind 90 = .ok (.iadd, 1) := by decide +kernel
theorem dX2_gatherBehind_91 : decode cX2_gatherBehind 91 = .ok (.aaload, 1) := by decide +kernel
theorem dX2_gatherBehind_92 : decode cX2_gatherBehind 92 = .ok (.iload 9, 2) := by decide +kernel
theorem dX2_gatherBehind_94 : decode cX2_gatherBehind 94 = .ok (.aload_n 0, 1) := by decide +kernel
theorem dX2_gatherBehind_95 : decode cX2_gatherBehind 95 = .ok (.getfield 27, 3) := by decide +kernel
theorem dX2_gatherBehind_98 : decode cX2_gatherBehind 98 = .ok (.iload 8, 2) := by decide +kernel
theorem dX2_gatherBehind_100 : decode cX2_gatherBehind 100 = .ok (.iconst 1, 1) := by decide +kernel
theorem dX2_gatherBehind_101 : decode cX2_gatherBehind 101 = .ok (.iadd, 1) := by decide +kernel
theorem dX2_gatherBehind_102 : decode cX2_gatherBehind 102 = .ok (.aaload, 1) := by decide +kernel
theorem dX2_gatherBehind_103 : decode cX2_gatherBehind 103 = .ok (.iload 9, 2) := by decide +kernel
theorem dX2_gatherBehind_105 : decode cX2_gatherBehind 105 = .ok (.iaload, 1) := by decide +kernel
theorem dX2_gatherBehind_106 : decode cX2_gatherBehind 106 = .ok (.aload_n 0, 1) := by decide +kernel
theorem dX2_gatherBehind_107 : decode cX2_gatherBehind 107 = .ok (.getfield 27, 3) := by decide +kernel
theorem dX2_gatherBehind_110 : decode cX2_gatherBehind 110 = .ok (.iload 8, 2) := by decide +kernel
theorem dX2_gatherBehind_112 : decode cX2_gatherBehind 112 = .ok (.aaload, 1) := by decide +kernel
theorem dX2_gatherBehind_113 : decode cX2_gatherBehind 113 = .ok (.iload_n 1, 1) := by decide +kernel
theorem dX2_gatherBehind_114 : decode cX2_gatherBehind 114 = .ok (.iaload, 1) := by decide +kernel
theorem dX2_gatherBehind_115 : decode cX2_gatherBehind 115 = .ok (.iload 7, 2) := by decide +kernel
theorem dX2_gatherBehind_117 : decode cX2_gatherBehind 117 = .ok (.iadd, 1) := by decide +kernel
theorem dX2_gatherBehind_118 : decode cX2_gatherBehind 118 = .ok (.invokestatic 87, 3) := by decide +kernel
theorem dX2_gatherBehind_121 : decode cX2_gatherBehind 121 = .ok (.iastore, 1) := by decide +kernel
theorem dX2_gatherBehind_122 : decode cX2_gatherBehind 122 = .ok (.iinc 8 1, 3) := by decide +kernel
theorem dX2_gatherBehind_125 : decode cX2_gatherBehind 125 = .ok (.goto (-74), 3) := by decide +kernel
theorem dX2_gatherBehind_128 : decode cX2_gatherBehind 128 = .ok (.iinc 6 1, 3) := by decide +kernel
theorem dX2_gatherBehind_131 : decode cX2_gatherBehind 131 = .ok (.goto (-108), 3) := by decide +kernel
theorem dX2_gatherBehind_134 : decode cX2_gatherBehind 134 = .ok (.return_, 1) := by decide +kernel
theorem dX2_findParts_0 : decode cX2_findParts 0 = .ok (.aload_n 0, 1) := by decide +kernel
theorem dX2_findParts_1 : decode cX2_findParts 1 = .ok (.getfield 67, 3) := by decide +kernel
theorem dX2_findParts_4 : decode cX2_findParts 4 = .ok (.iload_n 1, 1) := by decide +kernel
theorem dX2_findParts_5 : decode cX2_findParts 5 = .ok (.ior, 1) := by decide +kernel
theorem dX2_findParts_6 : decode cX2_findParts 6 = .ok (.istore_n 3, 1) := by decide +kernel
theorem dX2_findParts_7 : decode cX2_findParts 7 = .ok (.iconst 1, 1) := by decide +kernel
theorem dX2_findParts_8 : decode cX2_findParts 8 = .ok (.iload_n 2, 1) := by decide +kernel
theorem dX2_findParts_9 : decode cX2_findParts 9 = .ok (.invokestatic 53, 3) := by decide +kernel
theorem dX2_findParts_12 : decode cX2_findParts 12 = .ok (.ishl, 1) := by decide +kernel
theorem dX2_findParts_13 : decode cX2_findParts 13 = .ok (.istore 4, 2) := by decide +kernel
theorem dX2_findParts_15 : decode cX2_findParts 15 = .ok (.iconst 0, 1) := by decide +kernel
theorem dX2_findParts_16 : decode cX2_findParts 16 = .ok (.istore 5, 2) := by decide +kernel
theorem dX2_findParts_18 : decode cX2_findParts 18 = .ok (.iconst 0, 1) := by decide +kernel
theorem dX2_findParts_19 : decode cX2_findParts 19 = .ok (.istore 6, 2) := by decide +kernel
theorem dX2_findParts_21 : decode cX2_findParts 21 = .ok (.iload 6, 2) := by decide +kernel
theorem dX2_findParts_23 : decode cX2_findParts 23 = .ok (.iload 4, 2) := by decide +kernel
theorem dX2_findParts_25 : decode cX2_findParts 25 = .ok (.if_icmp .ge 34, 3) := by decide +kernel
theorem dX2_findParts_28 : decode cX2_findParts 28 = .ok (.aload_n 0, 1) := by decide +kernel
theorem dX2_findParts_29 : decode cX2_findParts 29 = .ok (.getfield 9, 3) := by decide +kernel
theorem dX2_findParts_32 : decode cX2_findParts 32 = .ok (.iload 5, 2) := by decide +kernel
theorem dX2_findParts_34 : decode cX2_findParts 34 = .ok (.iload 6, 2) := by decide +kernel
theorem dX2_findParts_36 : decode cX2_findParts 36 = .ok (.ifCond .ne 7, 3) := by decide +kernel
theorem dX2_findParts_39 : decode cX2_findParts 39 = .ok (.iconst 1, 1) := by decide +kernel
theorem dX2_findParts_40 : decode cX2_findParts 40 = .ok (.goto 4, 3) := by decide +kernel
theorem dX2_findParts_43 : decode cX2_findParts 43 = .ok (.iconst 0, 1) := by decide +kernel
theorem dX2_findParts_44 : decode cX2_findParts 44 = .ok (.iastore, 1) := by decide +kernel
theorem dX2_findParts_45 : decode cX2_findParts 45 = .ok (.iload 5, 2) := by decide +kernel
theorem dX2_findParts_47 : decode cX2_findParts 47 = .ok (.iload_n 2, 1) := by decide +kernel
theorem dX2_findParts_48 : decode cX2_findParts 48 = .ok (.isub, 1) := by decide +kernel
theorem dX2_findParts_49 : decode cX2_findParts 49 = .ok (.iload_n 2, 1) := by decide +kernel
theorem dX2_findParts_50 : decode cX2_findParts 50 = .ok (.iand, 1) := by decide +kernel
theorem dX2_findParts_51 : decode cX2_findParts 51 = .ok (.istore 5, 2) := by decide +kernel
theorem dX2_findParts_53 : decode cX2_findParts 53 = .ok (.iinc 6 1, 3) := by decide +kernel
theorem dX2_findParts_56 : decode cX2_findParts 56 = .ok (.goto (-35), 3) := by decide +kernel
theorem dX2_findParts_59 : decode cX2_findParts 59 = .ok (.iconst 0, 1) := by decide +kernel
theorem dX2_findParts_60 : decode cX2_findParts 60 = .ok (.istore 6, 2) := by decide +kernel
theorem dX2_findParts_62 : decode cX2_findParts 62 = .ok (.iload 6, 2) := by decide +kernel
theorem dX2_findParts_64 : decode cX2_findParts 64 = .ok (.iload 4, 2) := by decide +kernel
theorem dX2_findParts_66 : decode cX2_findParts 66 = .ok (.if_icmp .ge 92, 3) := by decide +kernel
theorem dX2_findParts_69 : decode cX2_findParts 69 = .ok (.iload 5, 2) := by decide +kernel
theorem dX2_findParts_71 : decode cX2_findParts 71 = .ok (.invokestatic 53, 3) := by decide +kernel
theorem dX2_findParts_74 : decode cX2_findParts 74 = .ok (.bipush 6, 2) := by decide +kernel
theorem dX2_findParts_76 : decode cX2_findParts 76 = .ok (.if_icmp .ge 29, 3) := by decide +kernel
theorem dX2_findParts_79 : decode cX2_findParts 79 = .ok (.aload_n 0, 1) := by decide +kernel
theorem dX2_findParts_80 : decode cX2_findParts 80 = .ok (.getfield 37, 3) := by decide +kernel
theorem dX2_findParts_83 : decode cX2_findParts 83 = .ok (.getfield 92, 3) := by decide +kernel
theorem dX2_findParts_86 : decode cX2_findParts 86 = .ok (.iload 5, 2) := by decide +kernel
theorem dX2_findParts_88 : decode cX2_findParts 88 = .ok (.iaload, 1) := by decide +kernel
theorem dX2_findParts_89 : decode cX2_findParts 89 = .ok (.aload_n 0, 1) := by decide +kernel
theorem dX2_findParts_90 : decode cX2_findParts 90 = .ok (.getfield 41, 3) := by decide +kernel
theorem dX2_findParts_93 : decode cX2_findParts 93 = .ok (.getfield 97, 3) := by decide +kernel
theorem dX2_findParts_96 : decode cX2_findParts 96 = .ok (.iconst 1, 1) := by decide +kernel
theorem dX2_findParts_97 : decode cX2_findParts 97 = .ok (.iaload, 1) := by decide +kernel
theorem dX2_findParts_98 : decode cX2_findParts 98 = .ok (.if_icmp .gt 7, 3) := by decide +kernel
theorem dX2_findParts_101 : decode cX2_findParts 101 = .ok (.iconst 1, 1) := by decide +kernel
theorem dX2_findParts_102 : decode cX2_findParts 102 = .ok (.goto 4, 3) := by decide +kernel
theorem dX2_findParts_105 : decode cX2_findParts 105 = .ok (.iconst 0, 1) := by decide +kernel
theorem dX2_findParts_106 : decode cX2_findParts 106 = .ok (.istore 7, 2) := by decide +kernel
theorem dX2_findParts_108 : decode cX2_findParts 108 = .ok (.iload 7, 2) := by decide +kernel
theorem dX2_findParts_110 : decode cX2_findParts 110 = .ok (.ifCond .eq 34, 3) := by decide +kernel
theorem dX2_findParts_113 : decode cX2_findParts 113 = .ok (.aload_n 0, 1) := by decide +kernel
theorem dX2_findParts_114 : decode cX2_findParts 114 = .ok (.getfield 9, 3) := by decide +kernel
theorem dX2_findParts_117 : decode cX2_findParts 117 = .ok (.iload 5, 2) := by decide +kernel
theorem dX2_findParts_119 : decode cX2_findParts 119 = .ok (.iaload, 1) := by decide +kernel
theorem dX2_findParts_120 : decode cX2_findParts 120 = .ok (.ifCond .eq 24, 3) := by decide +kernel
theorem dX2_findParts_123 : decode cX2_findParts 123 = .ok (.aload_n 0, 1) := by decide +kernel
theorem dX2_findParts_124 : decode cX2_findParts 124 = .ok (.iload_n 3, 1) := by decide +kernel
theorem dX2_findParts_125 : decode cX2_findParts 125 = .ok (.iload 5, 2) := by decide +kernel
theorem dX2_findParts_127 : decode cX2_findParts 127 = .ok (.aload_n 0, 1) := by decide +kernel
theorem dX2_findParts_128 : decode cX2_findParts 128 = .ok (.getfield 37, 3) := by decide +kernel
theorem dX2_findParts_131 : decode cX2_findParts 131 = .ok (.getfield 100, 3) := by decide +kernel
theorem dX2_findParts_134 : decode cX2_findParts 134 = .ok (.iload_n 3, 1) := by decide +kernel
theorem dX2_findParts_135 : decode cX2_findParts 135 = .ok (.iload 5, 2) := by decide +kernel
theorem dX2_findParts_137 : decode cX2_findParts 137 = .ok (.ior, 1) := by decide +kernel
theorem dX2_findParts_138 : decode cX2_findParts 138 = .ok (.iaload, 1) := by decide +kernel
theorem dX2_findParts_139 : decode cX2_findParts 139 = .ok (.iload_n 2, 1) := by decide +kernel
theorem dX2_findParts_140 : decode cX2_findParts 140 = .ok (.iand, 1) := by decide +kernel
theorem dX2_findParts_141 : decode cX2_findParts 141 = .ok (.invokevirtual 103, 3) := by decide +kernel
theorem dX2_findParts_144 : decode cX2_findParts 144 = .ok (.iload 5, 2) := by decide +kernel
theorem dX2_findParts_146 : decode cX2_findParts 146 = .ok (.iload_n 2, 1) := by decide +kernel
theorem dX2_findParts_147 : decode cX2_findParts 147 = .ok (.isub, 1) := by decide +kernel
theorem dX2_findParts_148 : decode cX2_findParts 148 = .ok (.iload_n 2, 1) := by decide +kernel
theorem dX2_findParts_149 : decode cX2_findParts 149 = .ok (.iand, 1) := by decide +kernel
theorem dX2_findParts_150 : decode cX2_findParts 150 = .ok (.istore 5, 2) := by decide +kernel
theorem dX2_findParts_152 : decode cX2_findParts 152 = .ok (.iinc 6 1, 3) := by decide +kernel
theorem dX2_findParts_155 : decode cX2_findParts 155 = .ok (.goto (-93), 3) := by decide +kernel
theorem dX2_findParts_158 : decode cX2_findParts 158 = .ok (.return_, 1) := by decide +kernel
theorem dX2_growPart_0 : decode cX2_growPart 0 = .ok (.iconst 0, 1) := by decide +kernel
theorem dX2_growPart_1 : decode cX2_growPart 1 = .ok (.istore 4, 2) := by decide +kernel
theorem dX2_growPart_3 : decode cX2_growPart 3 = .ok (.iload 4, 2) := by decide +kernel
theorem dX2_growPart_5 : decode cX2_growPart 5 = .ok (.aload_n 0, 1) := by decide +kernel
theorem dX2_growPart_6 : decode cX2_growPart 6 = .ok (.getfield 33, 3) := by decide +kernel
theorem dX2_growPart_9 : decode cX2_growPart 9 = .ok (.getfield 107, 3) := by decide +kernel
theorem dX2_growPart_12 : decode cX2_growPart 12 = .ok (.if_icmp .ge 94, 3) := by decide +kernel
theorem dX2_growPart_15 : decode cX2_growPart 15 = .ok (.iload_n 3, 1) := by decide +kernel
theorem dX2_growPart_16 : decode cX2_growPart 16 = .ok (.iload 4, 2) := by decide +kernel
theorem dX2_growPart_18 : decode cX2_growPart 18 = .ok (.ishr, 1) := by decide +kernel
theorem dX2_growPart_19 : decode cX2_growPart 19 = .ok (.ifCond .eq 87, 3) := by decide +kernel
theorem dX2_growPart_22 : decode cX2_growPart 22 = .ok (.iload_n 3, 1) := by decide +kernel
theorem dX2_growPart_23 : decode cX2_growPart 23 = .ok (.iload 4, 2) := by decide +kernel
theorem dX2_growPart_25 : decode cX2_growPart 25 = .ok (.ishr, 1) := by decide +kernel
theorem dX2_growPart_26 : decode cX2_growPart 26 = .ok (.iconst 1, 1) := by decide +kernel
theorem dX2_growPart_27 : decode cX2_growPart 27 = .ok (.iand, 1) := by decide +kernel
theorem dX2_growPart_28 : decode cX2_growPart 28 = .ok (.iconst 1, 1) := by decide +kernel
theorem dX2_growPart_29 : decode cX2_growPart 29 = .ok (.if_icmp .ne 71, 3) := by decide +kernel
theorem dX2_growPart_32 : decode cX2_growPart 32 = .ok (.iload_n 2, 1) := by decide +kernel
theorem dX2_growPart_33 : decode cX2_growPart 33 = .ok (.iconst 1, 1) := by decide +kernel
theorem dX2_growPart_34 : decode cX2_growPart 34 = .ok (.iload 4, 2) := by decide +kernel
theorem dX2_growPart_36 : decode cX2_growPart 36 = .ok (.ishl, 1) := by decide +kernel
theorem dX2_growPart_37 : decode cX2_growPart 37 = .ok (.ior, 1) := by decide +kernel
theorem dX2_growPart_38 : decode cX2_growPart 38 = .ok (.istore 5, 2) := by decide +kernel
theorem dX2_growPart_40 : decode cX2_growPart 40 = .ok (.aload_n 0, 1) := by decide +kernel
theorem dX2_growPart_41 : decode cX2_growPart 41 = .ok (.getfield 33, 3) := by decide +kernel
theorem dX2_growPart_44 : decode cX2_growPart 44 = .ok (.iload 4, 2) := by decide +kernel
theorem dX2_growPart_46 : decode cX2_growPart 46 = .ok (.iconst 4, 1) := by decide +kernel
theorem dX2_growPart_47 : decode cX2_growPart 47 = .ok (.invokevirtual 112, 3) := by decide +kernel
theorem dX2_growPart_50 : decode cX2_growPart 50 = .ok (.aload_n 0, 1) := by decide +kernel
theorem dX2_growPart_51 : decode cX2_growPart 51 = .ok (.getfield 37, 3) := by decide +kernel
theorem dX2_growPart_54 : decode cX2_growPart 54 = .ok (.getfield 115, 3) := by decide +kernel
theorem dX2_growPart_57 : decode cX2_growPart 57 = .ok (.iload_n 1, 1) := by decide +kernel
theorem dX2_growPart_58 : decode cX2_growPart 58 = .ok (.iload 5, 2) := by decide +kernel
theorem dX2_growPart_60 : decode cX2_growPart 60 = .ok (.ior, 1) := by decide +kernel
theorem dX2_growPart_61 : decode cX2_growPart 61 = .ok (.iaload, 1) := by decide +kernel
theorem dX2_growPart_62 : decode cX2_growPart 62 = .ok (.iand, 1) := by decide +kernel
theorem dX2_growPart_63 : decode cX2_growPart 63 = .ok (.ifCond .eq 7, 3) := by decide +kernel
theorem dX2_growPart_66 : decode cX2_growPart 66 = .ok (.iconst 1, 1) := by decide +kernel
theorem dX2_growPart_67 : decode cX2_growPart 67 = .ok (.goto 4, 3) := by decide +kernel
theorem dX2_growPart_70 : decode cX2_growPart 70 = .ok (.iconst 0, 1) := by decide +kernel
theorem dX2_growPart_71 : decode cX2_growPart 71 = .ok (.istore 6, 2) := by decide +kernel
theorem dX2_growPart_73 : decode cX2_growPart 73 = .ok (.aload_n 0, 1) := by decide +kernel
theorem dX2_growPart_74 : decode cX2_growPart 74 = .ok (.getfield 9, 3) := by decide +kernel
theorem dX2_growPart_77 : decode cX2_growPart 77 = .ok (.iload 5, 2) := by decide +kernel
theorem dX2_growPart_79 : decode cX2_growPart 79 = .ok (.aload_n 0, 1) := by decide +kernel
theorem dX2_growPart_80 : decode cX2_growPart 80 = .ok (.getfield 9, 3) := by decide +kernel
theorem dX2_growPart_83 : decode cX2_growPart 83 = .ok (.iload 5, 2) := by decide +kernel
theorem dX2_growPart_85 : decode cX2_growPart 85 = .ok (.iaload, 1) := by decide +kernel
theorem dX2_growPart_86 : decode cX2_growPart 86 = .ok (.iload 6, 2) := by decide +kernel
theorem dX2_growPart_88 : decode cX2_growPart 88 = .ok (.ifCond .eq 7, 3) := by decide +kernel
theorem dX2_growPart_91 : decode cX2_growPart 91 = .ok (.iconst 2, 1) := by decide +kernel
theorem dX2_growPart_92 : decode cX2_growPart 92 = .ok (.goto 4, 3) := by decide +kernel
theorem dX2_growPart_95 : decode cX2_growPart 95 = .ok (.iconst 1, 1) := by decide +kernel
theorem dX2_growPart_96 : decode cX2_growPart 96 = .ok (.invokestatic 87, 3) := by decide +kernel
theorem dX2_growPart_99 : decode cX2_growPart 99 = .ok (.iastore, 1) := by decide +kernel
theorem dX2_growPart_100 : decode cX2_growPart 100 = .ok (.iinc 4 1, 3) := by decide +kernel
theorem dX2_growPart_103 : decode cX2_growPart 103 = .ok (.goto (-100), 3) := by decide +kernel
theorem dX2_growPart_106 : decode cX2_growPart 106 = .ok (.return_, 1) := by decide +kernel
theorem dX2_worthOfPart_0 : decode cX2_worthOfPart 0 = .ok (.aload_n 0, 1) := by decide +kernel
theorem dX2_worthOfPart_1 : decode cX2_worthOfPart 1 = .ok (.getfield 37, 3) := by decide +kernel
theorem dX2_worthOfPart_4 : decode cX2_worthOfPart 4 = .ok (.getfield 92, 3) := by decide +kernel
theorem dX2_worthOfPart_7 : decode cX2_worthOfPart 7 = .ok (.iload_n 2, 1) := by decide +kernel
theorem dX2_worthOfPart_8 : decode cX2_worthOfPart 8 = .ok (.iaload, 1) := by decide +kernel
theorem dX2_worthOfPart_9 : decode cX2_worthOfPart 9 = .ok (.istore_n 3, 1) := by decide +kernel
theorem dX2_worthOfPart_10 : decode cX2_worthOfPart 10 = .ok (.aload_n 0, 1) := by decide +kernel
theorem dX2_worthOfPart_11 : decode cX2_worthOfPart 11 = .ok (.getfield 9, 3) := by decide +kernel
theorem dX2_worthOfPart_14 : decode cX2_worthOfPart 14 = .ok (.iload_n 2, 1) := by decide +kernel
theorem dX2_worthOfPart_15 : decode cX2_worthOfPart 15 = .ok (.iaload, 1) := by decide +kernel
theorem dX2_worthOfPart_16 : decode cX2_worthOfPart 16 = .ok (.ifCond .eq 29, 3) := by decide +kernel
theorem dX2_worthOfPart_19 : decode cX2_worthOfPart 19 = .ok (.iload_n 3, 1) := by decide +kernel
theorem dX2_worthOfPart_20 : decode cX2_worthOfPart 20 = .ok (.aload_n 0, 1) := by decide +kernel
theorem dX2_worthOfPart_21 : decode cX2_worthOfPart 21 = .ok (.getfield 41, 3) := by decide +kernel
theorem dX2_worthOfPart_24 : decode cX2_worthOfPart 24 = .ok (.getfield 97, 3) := by decide +kernel
theorem dX2_worthOfPart_27 : decode cX2_worthOfPart 27 = .ok (.iconst 0, 1) := by decide +kernel
theorem dX2_worthOfPart_28 : decode cX2_worthOfPart 28 = .ok (.iaload, 1) := by decide +kernel
theorem dX2_worthOfPart_29 : decode cX2_worthOfPart 29 = .ok (.if_icmp .lt 16, 3) := by decide +kernel
theorem dX2_worthOfPart_32 : decode cX2_worthOfPart 32 = .ok (.iload_n 3, 1) := by decide +kernel
theorem dX2_worthOfPart_33 : decode cX2_worthOfPart 33 = .ok (.aload_n 0, 1) := by decide +kernel
theorem dX2_worthOfPart_34 : decode cX2_worthOfPart 34 = .ok (.getfield 41, 3) := by decide +kernel
theorem dX2_worthOfPart_37 : decode cX2_worthOfPart 37 = .ok (.getfield 97, 3) := by decide +kernel
theorem dX2_worthOfPart_40 : decode cX2_worthOfPart 40 = .ok (.iconst 1, 1) := by decide +kernel
theorem dX2_worthOfPart_41 : decode cX2_worthOfPart 41 = .ok (.iaload, 1) := by decide +kernel
theorem dX2_worthOfPart_42 : decode cX2_worthOfPart 42 = .ok (.if_icmp .le 5, 3) := by decide +kernel
theorem dX2_worthOfPart_45 : decode cX2_worthOfPart 45 = .ok (.iconst (-1), 1) := by decide +kernel
theorem dX2_worthOfPart_46 : decode cX2_worthOfPart 46 = .ok (.ireturn, 1) := by decide +kernel
theorem dX2_worthOfPart_47 : decode cX2_worthOfPart 47 = .ok (.aload_n 0, 1) := by decide +kernel
theorem dX2_worthOfPart_48 : decode cX2_worthOfPart 48 = .ok (.getfield 37, 3) := by decide +kernel
theorem dX2_worthOfPart_51 : decode cX2_worthOfPart 51 = .ok (.getfield 115, 3) := by decide +kernel
theorem dX2_worthOfPart_54 : decode cX2_worthOfPart 54 = .ok (.aload_n 0, 1) := by decide +kernel
theorem dX2_worthOfPart_55 : decode cX2_worthOfPart 55 = .ok (.getfield 67, 3) := by decide +kernel
theorem dX2_worthOfPart_58 : decode cX2_worthOfPart 58 = .ok (.iload_n 1, 1) := by decide +kernel
theorem dX2_worthOfPart_59 : decode cX2_worthOfPart 59 = .ok (.ior, 1) := by decide +kernel
theorem dX2_worthOfPart_60 : decode cX2_worthOfPart 60 = .ok (.iload_n 2, 1) := by decide +kernel
theorem dX2_worthOfPart_61 : decode cX2_worthOfPart 61 = .ok (.ior, 1) := by decide +kernel
theorem dX2_worthOfPart_62 : decode cX2_worthOfPart 62 = .ok (.iaload, 1) := by decide +kernel
theorem dX2_worthOfPart_63 : decode cX2_worthOfPart 63 = .ok (.istore 4, 2) := by decide +kernel
theorem dX2_worthOfPart_65 : decode cX2_worthOfPart 65 = .ok (.aload_n 0, 1) := by decide +kernel
theorem dX2_worthOfPart_66 : decode cX2_worthOfPart 66 = .ok (.getfield 9, 3) := by decide +kernel
theorem dX2_worthOfPart_69 : decode cX2_worthOfPart 69 = .ok (.iload_n 2, 1) := by decide +kernel
theorem dX2_worthOfPart_70 : decode cX2_worthOfPart 70 = .ok (.iaload, 1) := by decide +kernel
theorem dX2_worthOfPart_71 : decode cX2_worthOfPart 71 = .ok (.iconst 2, 1) := by decide +kernel
theorem dX2_worthOfPart_72 : decode cX2_worthOfPart 72 = .ok (.if_icmp .ne 15, 3) := by decide +kernel
theorem dX2_worthOfPart_75 : decode cX2_worthOfPart 75 = .ok (.aload_n 0, 1) := by decide +kernel
theorem dX2_worthOfPart_76 : decode cX2_worthOfPart 76 = .ok (.getfield 41, 3) := by decide +kernel
theorem dX2_worthOfPart_79 : decode cX2_worthOfPart 79 = .ok (.getfield 97, 3) := by decide +kernel
theorem dX2_worthOfPart_82 : decode cX2_worthOfPart 82 = .ok (.iconst 4, 1) := by decide +kernel
theorem dX2_worthOfPart_83 : decode cX2_worthOfPart 83 = .ok (.iaload, 1) := by decide +kernel
theorem dX2_worthOfPart_84 : decode cX2_worthOfPart 84 = .ok (.goto 4, 3) := by decide +kernel
theorem dX2_worthOfPart_87 : decode cX2_worthOfPart 87 = .ok (.iconst 0, 1) := by decide +kernel
theorem dX2_worthOfPart_88 : decode cX2_worthOfPart 88 = .ok (.istore 5, 2) := by decide +kernel
theorem dX2_worthOfPart_90 : decode cX2_worthOfPart 90 = .ok (.aload_n 0, 1) := by decide +kernel
theorem dX2_worthOfPart_91 : decode cX2_worthOfPart 91 = .ok (.getfield 37, 3) := by decide +kernel
theorem dX2_worthOfPart_94 : decode cX2_worthOfPart 94 = .ok (.getfield 118, 3) := by decide +kernel
theorem dX2_worthOfPart_97 : decode cX2_worthOfPart 97 = .ok (.iload_n 2, 1) := by decide +kernel
theorem dX2_worthOfPart_98 : decode cX2_worthOfPart 98 = .ok (.iaload, 1) := by decide +kernel
theorem dX2_worthOfPart_99 : decode cX2_worthOfPart 99 = .ok (.aload_n 0, 1) := by decide +kernel
theorem dX2_worthOfPart_100 : decode cX2_worthOfPart 100 = .ok (.getfield 41, 3) := by decide +kernel
theorem dX2_worthOfPart_103 : decode cX2_worthOfPart 103 = .ok (.getfield 97, 3) := by decide +kernel
theorem dX2_worthOfPart_106 : decode cX2_worthOfPart 106 = .ok (.iconst 5, 1) := by decide +kernel
theorem dX2_worthOfPart_107 : decode cX2_worthOfPart 107 = .ok (.iaload, 1) := by decide +kernel
theorem dX2_worthOfPart_108 : decode cX2_worthOfPart 108 = .ok (.iload 4, 2) := by decide +kernel
theorem dX2_worthOfPart_110 : decode cX2_worthOfPart 110 = .ok (.invokestatic 53, 3) := by decide +kernel
theorem dX2_worthOfPart_113 : decode cX2_worthOfPart 113 = .ok (.imul, 1) := by decide +kernel
theorem dX2_worthOfPart_114 : decode cX2_worthOfPart 114 = .ok (.iadd, 1) := by decide +kernel
theorem dX2_worthOfPart_115 : decode cX2_worthOfPart 115 = .ok (.iload 5, 2) := by decide +kernel
theorem dX2_worthOfPart_117 : decode cX2_worthOfPart 117 = .ok (.iadd, 1) := by decide +kernel
theorem dX2_worthOfPart_118 : decode cX2_worthOfPart 118 = .ok (.ireturn, 1) := by decide +kernel
theorem dX3_init_0 : decode cX3_init 0 = .ok (.aload_n 0, 1) := by decide +kernel
theorem dX3_init_1 : decode cX3_init 1 = .ok (.invokespecial 3, 3) := by decide +kernel
theorem dX3_init_4 : decode cX3_init 4 = .ok (.aload_n 0, 1) := by decide +kernel
theorem dX3_init_5 : decode cX3_init 5 = .ok (.aload_n 1, 1) := by decide +kernel
theorem dX3_init_6 : decode cX3_init 6 = .ok (.putfield 9, 3) := by decide +kernel
theorem dX3_init_9 : decode cX3_init 9 = .ok (.aload_n 0, 1) := by decide +kernel
theorem dX3_init_10 : decode cX3_init 10 = .ok (.aload_n 2, 1) := by decide +kernel
theorem dX3_init_11 : decode cX3_init 11 = .ok (.putfield 15, 3) := by decide +kernel
theorem dX3_init_14 : decode cX3_init 14 = .ok (.return_, 1) := by decide +kernel
theorem dX3_linesOf_0 : decode cX3_linesOf 0 = .ok (.aload_n 0, 1) := by decide +kernel
theorem dX3_linesOf_1 : decode cX3_linesOf 1 = .ok (.getfield 15, 3) := by decide +kernel
theorem dX3_linesOf_4 : decode cX3_linesOf 4 = .ok (.getfield 19, 3) := by decide +kernel
theorem dX3_linesOf_7 : decode cX3_linesOf 7 = .ok (.iconst 3, 1) := by decide +kernel
theorem dX3_linesOf_8 : decode cX3_linesOf 8 = .ok (.iaload, 1) := by decide +kernel
theorem dX3_linesOf_9 : decode cX3_linesOf 9 = .ok (.aload_n 0, 1) := by decide +kernel
theorem dX3_linesOf_10 : decode cX3_linesOf 10 = .ok (.iload_n 1, 1) := by decide +kernel
theorem dX3_linesOf_11 : decode cX3_linesOf 11 = .ok (.invokevirtual 25, 3) := by decide +kernel
theorem dX3_linesOf_14 : decode cX3_linesOf 14 = .ok (.invokestatic 29, 3) := by decide +kernel
theorem dX3_linesOf_17 : decode cX3_linesOf 17 = .ok (.imul, 1) := by decide +kernel
theorem dX3_linesOf_18 : decode cX3_linesOf 18 = .ok (.istore_n 2, 1) := by decide +kernel
theorem dX3_linesOf_19 : decode cX3_linesOf 19 = .ok (.aload_n 0, 1) := by decide +kernel
theorem dX3_linesOf_20 : decode cX3_linesOf 20 = .ok (.getfield 9, 3) := by decide +kernel
theorem dX3_linesOf_23 : decode cX3_linesOf 23 = .ok (.aload_n 0, 1) := by decide +kernel
theorem dX3_linesOf_24 : decode cX3_linesOf 24 = .ok (.getfield 15, 3) := by decide +kernel
theorem dX3_linesOf_27 : decode cX3_linesOf 27 = .ok (.iload_n 1, 1) := by decide +kernel
theorem dX3_linesOf_28 : decode cX3_linesOf 28 = .ok (.invokevirtual 34, 3) := by decide +kernel
theorem dX3_linesOf_31 : decode cX3_linesOf 31 = .ok (.iconst 0, 1) := by decide +kernel
theorem dX3_linesOf_32 : decode cX3_linesOf 32 = .ok (.invokevirtual 39, 3) := by decide +kernel
theorem dX3_linesOf_35 : decode cX3_linesOf 35 = .ok (.iload_n 2, 1) := by decide +kernel
theorem dX3_linesOf_36 : decode cX3_linesOf 36 = .ok (.iadd, 1) := by decide +kernel
theorem dX3_linesOf_37 : decode cX3_linesOf 37 = .ok (.ireturn, 1) := by decide +kernel
theorem dX3_remindedIn_0 : decode cX3_remindedIn 0 = .ok (.iconst 0, 1) := by decide +kernel
theorem dX3_remindedIn_1 : decode cX3_remindedIn 1 = .ok (.istore_n 2, 1) := by decide +kernel
theorem dX3_remindedIn_2 : decode cX3_remindedIn 2 = .ok (.iconst 0, 1) := by decide +kernel
theorem dX3_remindedIn_3 : decode cX3_remindedIn 3 = .ok (.istore_n 3, 1) := by decide +kernel
theorem dX3_remindedIn_4 : decode cX3_remindedIn 4 = .ok (.iconst 0, 1) := by decide +kernel
theorem dX3_remindedIn_5 : decode cX3_remindedIn 5 = .ok (.istore 4, 2) := by decide +kernel
theorem dX3_remindedIn_7 : decode cX3_remindedIn 7 = .ok (.iload 4, 2) := by decide +kernel
theorem dX3_remindedIn_9 : decode cX3_remindedIn 9 = .ok (.iload_n 1, 1) := by decide +kernel
theorem dX3_remindedIn_10 : decode cX3_remindedIn 10 = .ok (.if_icmp .ge 54, 3) := by decide +kernel
theorem dX3_remindedIn_13 : decode cX3_remindedIn 13 = .ok (.aload_n 0, 1) := by decide +kernel
theorem dX3_remindedIn_14 : decode cX3_remindedIn 14 = .ok (.getfield 9, 3) := by decide +kernel
theorem dX3_remindedIn_17 : decode cX3_remindedIn 17 = .ok (.aload_n 0, 1) := by decide +kernel
theorem dX3_remindedIn_18 : decode cX3_remindedIn 18 = .ok (.getfield 15, 3) := by decide +kernel
theorem dX3_remindedIn_21 : decode cX3_remindedIn 21 = .ok (.iload 4, 2) := by decide +kernel
theorem dX3_remindedIn_23 : decode cX3_remindedIn 23 = .ok (.invokevirtual 34, 3) := by decide +kernel
theorem dX3_remindedIn_26 : decode cX3_remindedIn 26 = .ok (.iconst 2, 1) := by decide +kernel
theorem dX3_remindedIn_27 : decode cX3_remindedIn 27 = .ok (.invokevirtual 43, 3) := by decide +kernel
theorem dX3_remindedIn_30 : decode cX3_remindedIn 30 = .ok (.istore 5, 2) := by decide +kernel
theorem dX3_remindedIn_32 : decode cX3_remindedIn 32 = .ok (.iload_n 2, 1) := by decide +kernel
theorem dX3_remindedIn_33 : decode cX3_remindedIn 33 = .ok (.iload 5, 2) := by decide +kernel
theorem dX3_remindedIn_35 : decode cX3_remindedIn 35 = .ok (.ior, 1) := by decide +kernel
theorem dX3_remindedIn_36 : decode cX3_remindedIn 36 = .ok (.istore_n 2, 1) := by decide +kernel
theorem dX3_remindedIn_37 : decode cX3_remindedIn 37 = .ok (.iload_n 1, 1) := by decide +kernel
theorem dX3_remindedIn_38 : decode cX3_remindedIn 38 = .ok (.iload 4, 2) := by decide +kernel
theorem dX3_remindedIn_40 : decode cX3_remindedIn 40 = .ok (.isub, 1) := by decide +kernel
theorem dX3_remindedIn_41 : decode cX3_remindedIn 41 = .ok (.aload_n 0, 1) := by decide +kernel
theorem dX3_remindedIn_42 : decode cX3_remindedIn 42 = .ok (.getfield 15, 3) := by decide +kernel
theorem dX3_remindedIn_45 : decode cX3_remindedIn 45 = .ok (.getfield 19, 3) := by decide +kernel
theorem dX3_remindedIn_48 : decode cX3_remindedIn 48 = .ok (.iconst 2, 1) := by decide +kernel
theorem dX3_remindedIn_49 : decode cX3_remindedIn 49 = .ok (.iaload, 1) := by decide +kernel
theorem dX3_remindedIn_50 : decode cX3_remindedIn 50 = .ok (.if_icmp .gt 8, 3) := by decide +kernel
theorem dX3_remindedIn_53 : decode cX3_remindedIn 53 = .ok (.iload_n 3, 1) := by decide +kernel
theorem dX3_remindedIn_54 : decode cX3_remindedIn 54 = .ok (.iload 5, 2) := by decide +kernel
theorem dX3_remindedIn_56 : decode cX3_remindedIn 56 = .ok (.ior, 1) := by decide +kernel
theorem dX3_remindedIn_57 : decode cX3_remindedIn 57 = .ok (.istore_n 3, 1) := by decide +kernel
theorem dX3_remindedIn_58 : decode cX3_remindedIn 58 = .ok (.iinc 4 1, 3) := by decide +kernel
theorem dX3_remindedIn_61 : decode cX3_remindedIn 61 = .ok (.goto (-54), 3) := by decide +kernel
theorem dX3_remindedIn_64 : decode cX3_remindedIn 64 = .ok (.aload_n 0, 1) := by decide +kernel
theorem dX3_remindedIn_65 : decode cX3_remindedIn 65 = .ok (.getfield 9, 3) := by decide +kernel
theorem dX3_remindedIn_68 : decode cX3_remindedIn 68 = .ok (.aload_n 0, 1) := by decide +kernel
theorem dX3_remindedIn_69 : decode cX3_remindedIn 69 = .ok (.getfield 15, 3) := by decide +kernel
theorem dX3_remindedIn_72 : decode cX3_remindedIn 72 = .ok (.iload_n 1, 1) := by decide +kernel
theorem dX3_remindedIn_73 : decode cX3_remindedIn 73 = .ok (.invokevirtual 34, 3) := by decide +kernel
theorem dX3_remindedIn_76 : decode cX3_remindedIn 76 = .ok (.iconst 2, 1) := by decide +kernel
theorem dX3_remindedIn_77 : decode cX3_remindedIn 77 = .ok (.invokevirtual 43, 3) := by decide +kernel
theorem dX3_remindedIn_80 : decode cX3_remindedIn 80 = .ok (.iload_n 2, 1) := by decide +kernel
theorem dX3_remindedIn_81 : decode cX3_remindedIn 81 = .ok (.iand, 1) := by decide +kernel
theorem dX3_remindedIn_82 : decode cX3_remindedIn 82 = .ok (.iload_n 3, 1) := by decide +kernel
theorem dX3_remindedIn_83 : decode cX3_remindedIn 83 = .ok (.iconst (-1), 1) := by decide +kernel
theorem dX3_remindedIn_84 : decode cX3_remindedIn 84 = .ok (.ixor, 1) := by decide +kernel
theorem dX3_remindedIn_85 : decode cX3_remindedIn 85 = .ok (.iand, 1) := by decide +kernel
theorem dX3_remindedIn_86 : decode cX3_remindedIn 86 = .ok (.ireturn, 1) := by decide +kernel
theorem dX3_openBehindNumber_0 : decode cX3_openBehindNumber 0 = .ok (.aload_n 0, 1) := by decide +kernel
theorem dX3_openBehindNumber_1 : decode cX3_openBehindNumber 1 = .ok (.getfield 9, 3) := by decide +kernel
theorem dX3_openBehindNumber_4 : decode cX3_openBehindNumber 4 = .ok (.aload_n 0, 1) := by decide +kernel
theorem dX3_openBehindNumber_5 : decode cX3_openBehindNumber 5 = .ok (.getfield 15, 3) := by decide +kernel
theorem dX3_openBehindNumber_8 : decode cX3_openBehindNumber 8 = .ok (.aload_n 0, 1) := by decide +kernel
theorem dX3_openBehindNumber_9 : decode cX3_openBehindNumber 9 = .ok (.getfield 15, 3) := by decide +kernel
theorem dX3_openBehindNumber_12 : decode cX3_openBehindNumber 12 = .ok (.iload_n 1, 1) := by decide +kernel
theorem dX3_openBehindNumber_13 : decode cX3_openBehindNumber 13 = .ok (.invokevirtual 46, 3) := by decide +kernel
theorem dX3_openBehindNumber_16 : decode cX3_openBehindNumber 16 = .ok (.invokevirtual 49, 3) := by decide +kernel
theorem dX3_openBehindNumber_19 : decode cX3_openBehindNumber 19 = .ok (.invokevirtual 52, 3) := by decide +kernel
