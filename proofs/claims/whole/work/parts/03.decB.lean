theorem dX9_init_0 : decode cX9_init 0 = .ok (.aload_n 0, 1) := by decide +kernel
theorem dX9_init_1 : decode cX9_init 1 = .ok (.invokespecial 1, 3) := by decide +kernel
theorem dX9_init_4 : decode cX9_init 4 = .ok (.aload_n 0, 1) := by decide +kernel
theorem dX9_init_5 : decode cX9_init 5 = .ok (.new 7, 3) := by decide +kernel
theorem dX9_init_8 : decode cX9_init 8 = .ok (.dup, 1) := by decide +kernel
theorem dX9_init_9 : decode cX9_init 9 = .ok (.invokespecial 9, 3) := by decide +kernel
theorem dX9_init_12 : decode cX9_init 12 = .ok (.putfield 10, 3) := by decide +kernel
theorem dX9_init_15 : decode cX9_init 15 = .ok (.aload_n 0, 1) := by decide +kernel
theorem dX9_init_16 : decode cX9_init 16 = .ok (.new 16, 3) := by decide +kernel
theorem dX9_init_19 : decode cX9_init 19 = .ok (.dup, 1) := by decide +kernel
theorem dX9_init_20 : decode cX9_init 20 = .ok (.invokespecial 18, 3) := by decide +kernel
theorem dX9_init_23 : decode cX9_init 23 = .ok (.putfield 19, 3) := by decide +kernel
theorem dX9_init_26 : decode cX9_init 26 = .ok (.aload_n 0, 1) := by decide +kernel
theorem dX9_init_27 : decode cX9_init 27 = .ok (.new 16, 3) := by decide +kernel
theorem dX9_init_30 : decode cX9_init 30 = .ok (.dup, 1) := by decide +kernel
theorem dX9_init_31 : decode cX9_init 31 = .ok (.invokespecial 18, 3) := by decide +kernel
theorem dX9_init_34 : decode cX9_init 34 = .ok (.putfield 23, 3) := by decide +kernel
theorem dX9_init_37 : decode cX9_init 37 = .ok (.aload_n 0, 1) := by decide +kernel
theorem dX9_init_38 : decode cX9_init 38 = .ok (.new 26, 3) := by decide +kernel
theorem dX9_init_41 : decode cX9_init 41 = .ok (.dup, 1) := by decide +kernel
theorem dX9_init_42 : decode cX9_init 42 = .ok (.invokespecial 28, 3) := by decide +kernel
theorem dX9_init_45 : decode cX9_init 45 = .ok (.putfield 29, 3) := by decide +kernel
theorem dX9_init_48 : decode cX9_init 48 = .ok (.aload_n 0, 1) := by decide +kernel
theorem dX9_init_49 : decode cX9_init 49 = .ok (.new 26, 3) := by decide +kernel
theorem dX9_init_52 : decode cX9_init 52 = .ok (.dup, 1) := by decide +kernel
theorem dX9_init_53 : decode cX9_init 53 = .ok (.invokespecial 28, 3) := by decide +kernel
theorem dX9_init_56 : decode cX9_init 56 = .ok (.putfield 33, 3) := by decide +kernel
theorem dX9_init_59 : decode cX9_init 59 = .ok (.aload_n 0, 1) := by decide +kernel
theorem dX9_init_60 : decode cX9_init 60 = .ok (.new 36, 3) := by decide +kernel
theorem dX9_init_63 : decode cX9_init 63 = .ok (.dup, 1) := by decide +kernel
theorem dX9_init_64 : decode cX9_init 64 = .ok (.invokespecial 38, 3) := by decide +kernel
theorem dX9_init_67 : decode cX9_init 67 = .ok (.putfield 39, 3) := by decide +kernel
theorem dX9_init_70 : decode cX9_init 70 = .ok (.aload_n 0, 1) := by decide +kernel
theorem dX9_init_71 : decode cX9_init 71 = .ok (.new 43, 3) := by decide +kernel
theorem dX9_init_74 : decode cX9_init 74 = .ok (.dup, 1) := by decide +kernel
theorem dX9_init_75 : decode cX9_init 75 = .ok (.invokespecial 45, 3) := by decide +kernel
theorem dX9_init_78 : decode cX9_init 78 = .ok (.putfield 46, 3) := by decide +kernel
theorem dX9_init_81 : decode cX9_init 81 = .ok (.aload_n 0, 1) := by decide +kernel
theorem dX9_init_82 : decode cX9_init 82 = .ok (.new 43, 3) := by decide +kernel
theorem dX9_init_85 : decode cX9_init 85 = .ok (.dup, 1) := by decide +kernel
theorem dX9_init_86 : decode cX9_init 86 = .ok (.invokespecial 45, 3) := by decide +kernel
theorem dX9_init_89 : decode cX9_init 89 = .ok (.putfield 50, 3) := by decide +kernel
theorem dX9_init_92 : decode cX9_init 92 = .ok (.aload_n 0, 1) := by decide +kernel
theorem dX9_init_93 : decode cX9_init 93 = .ok (.new 53, 3) := by decide +kernel
theorem dX9_init_96 : decode cX9_init 96 = .ok (.dup, 1) := by decide +kernel
theorem dX9_init_97 : decode cX9_init 97 = .ok (.invokespecial 55, 3) := by decide +kernel
theorem dX9_init_100 : decode cX9_init 100 = .ok (.putfield 56, 3) := by decide +kernel
theorem dX9_init_103 : decode cX9_init 103 = .ok (.aload_n 0, 1) := by decide +kernel
theorem dX9_init_104 : decode cX9_init 104 = .ok (.iconst 2, 1) := by decide +kernel
theorem dX9_init_105 : decode cX9_init 105 = .ok (.anewarray 26, 3) := by decide +kernel
theorem dX9_init_108 : decode cX9_init 108 = .ok (.putfield 60, 3) := by decide +kernel
theorem dX9_init_111 : decode cX9_init 111 = .ok (.aload_n 0, 1) := by decide +kernel
theorem dX9_init_112 : decode cX9_init 112 = .ok (.lconst 0, 1) := by decide +kernel
theorem dX9_init_113 : decode cX9_init 113 = .ok (.putfield 64, 3) := by decide +kernel
theorem dX9_init_116 : decode cX9_init 116 = .ok (.return_, 1) := by decide +kernel
theorem dX9_write_0 : decode cX9_write 0 = .ok (.iload_n 1, 1) := by decide +kernel
theorem dX9_write_1 : decode cX9_write 1 = .ok (.ifCond .lt 10, 3) := by decide +kernel
theorem dX9_write_4 : decode cX9_write 4 = .ok (.iload_n 1, 1) := by decide +kernel
theorem dX9_write_5 : decode cX9_write 5 = .ok (.sipush 255, 3) := by decide +kernel
theorem dX9_write_8 : decode cX9_write 8 = .ok (.if_icmp .le 6, 3) := by decide +kernel
theorem dX9_write_11 : decode cX9_write 11 = .ok (.bipush (-2), 2) := by decide +kernel
theorem dX9_write_13 : decode cX9_write 13 = .ok (.ireturn, 1) := by decide +kernel
theorem dX9_write_14 : decode cX9_write 14 = .ok (.aload_n 0, 1) := by decide +kernel
theorem dX9_write_15 : decode cX9_write 15 = .ok (.getfield 10, 3) := by decide +kernel
theorem dX9_write_18 : decode cX9_write 18 = .ok (.iload_n 1, 1) := by decide +kernel
theorem dX9_write_19 : decode cX9_write 19 = .ok (.invokevirtual 68, 3) := by decide +kernel
theorem dX9_write_22 : decode cX9_write 22 = .ok (.ifCond .eq 13, 3) := by decide +kernel
theorem dX9_write_25 : decode cX9_write 25 = .ok (.aload_n 0, 1) := by decide +kernel
theorem dX9_write_26 : decode cX9_write 26 = .ok (.getfield 10, 3) := by decide +kernel
theorem dX9_write_29 : decode cX9_write 29 = .ok (.getfield 72, 3) := by decide +kernel
theorem dX9_write_32 : decode cX9_write 32 = .ok (.goto 5, 3) := by decide +kernel
theorem dX9_write_35 : decode cX9_write 35 = .ok (.bipush (-4), 2) := by decide +kernel
theorem dX9_write_37 : decode cX9_write 37 = .ok (.ireturn, 1) := by decide +kernel
theorem dX9_wipe_0 : decode cX9_wipe 0 = .ok (.aload_n 0, 1) := by decide +kernel
theorem dX9_wipe_1 : decode cX9_wipe 1 = .ok (.getfield 10, 3) := by decide +kernel
theorem dX9_wipe_4 : decode cX9_wipe 4 = .ok (.getfield 72, 3) := by decide +kernel
theorem dX9_wipe_7 : decode cX9_wipe 7 = .ok (.istore_n 1, 1) := by decide +kernel
theorem dX9_wipe_8 : decode cX9_wipe 8 = .ok (.aload_n 0, 1) := by decide +kernel
theorem dX9_wipe_9 : decode cX9_wipe 9 = .ok (.getfield 10, 3) := by decide +kernel
theorem dX9_wipe_12 : decode cX9_wipe 12 = .ok (.iconst 0, 1) := by decide +kernel
theorem dX9_wipe_13 : decode cX9_wipe 13 = .ok (.putfield 72, 3) := by decide +kernel
theorem dX9_wipe_16 : decode cX9_wipe 16 = .ok (.iload_n 1, 1) := by decide +kernel
theorem dX9_wipe_17 : decode cX9_wipe 17 = .ok (.ireturn, 1) := by decide +kernel
theorem dX9_fault_0 : decode cX9_fault 0 = .ok (.aload_n 0, 1) := by decide +kernel
theorem dX9_fault_1 : decode cX9_fault 1 = .ok (.getfield 10, 3) := by decide +kernel
theorem dX9_fault_4 : decode cX9_fault 4 = .ok (.aload_n 0, 1) := by decide +kernel
theorem dX9_fault_5 : decode cX9_fault 5 = .ok (.getfield 23, 3) := by decide +kernel
theorem dX9_fault_8 : decode cX9_fault 8 = .ok (.invokevirtual 76, 3) := by decide +kernel
theorem dX9_fault_11 : decode cX9_fault 11 = .ok (.ireturn, 1) := by decide +kernel
theorem dX9_plan_0 : decode cX9_plan 0 = .ok (.aload_n 0, 1) := by decide +kernel
theorem dX9_plan_1 : decode cX9_plan 1 = .ok (.getfield 10, 3) := by decide +kernel
theorem dX9_plan_4 : decode cX9_plan 4 = .ok (.aload_n 0, 1) := by decide +kernel
theorem dX9_plan_5 : decode cX9_plan 5 = .ok (.getfield 23, 3) := by decide +kernel
theorem dX9_plan_8 : decode cX9_plan 8 = .ok (.invokevirtual 76, 3) := by decide +kernel
theorem dX9_plan_11 : decode cX9_plan 11 = .ok (.bipush (-9), 2) := by decide +kernel
theorem dX9_plan_13 : decode cX9_plan 13 = .ok (.if_icmp .eq 6, 3) := by decide +kernel
theorem dX9_plan_16 : decode cX9_plan 16 = .ok (.bipush (-3), 2) := by decide +kernel
theorem dX9_plan_18 : decode cX9_plan 18 = .ok (.ireturn, 1) := by decide +kernel
theorem dX9_plan_19 : decode cX9_plan 19 = .ok (.aload_n 0, 1) := by decide +kernel
theorem dX9_plan_20 : decode cX9_plan 20 = .ok (.getfield 19, 3) := by decide +kernel
theorem dX9_plan_23 : decode cX9_plan 23 = .ok (.astore_n 1, 1) := by decide +kernel
theorem dX9_plan_24 : decode cX9_plan 24 = .ok (.aload_n 0, 1) := by decide +kernel
theorem dX9_plan_25 : decode cX9_plan 25 = .ok (.aload_n 0, 1) := by decide +kernel
theorem dX9_plan_26 : decode cX9_plan 26 = .ok (.getfield 23, 3) := by decide +kernel
theorem dX9_plan_29 : decode cX9_plan 29 = .ok (.putfield 19, 3) := by decide +kernel
theorem dX9_plan_32 : decode cX9_plan 32 = .ok (.aload_n 0, 1) := by decide +kernel
theorem dX9_plan_33 : decode cX9_plan 33 = .ok (.aload_n 1, 1) := by decide +kernel
theorem dX9_plan_34 : decode cX9_plan 34 = .ok (.putfield 23, 3) := by decide +kernel
theorem dX9_plan_37 : decode cX9_plan 37 = .ok (.aload_n 0, 1) := by decide +kernel
theorem dX9_plan_38 : decode cX9_plan 38 = .ok (.aload_n 0, 1) := by decide +kernel
theorem dX9_plan_39 : decode cX9_plan 39 = .ok (.getfield 29, 3) := by decide +kernel
theorem dX9_plan_42 : decode cX9_plan 42 = .ok (.invokevirtual 80, 3) := by decide +kernel
theorem dX9_plan_45 : decode cX9_plan 45 = .ok (.getfield 84, 3) := by decide +kernel
theorem dX9_plan_48 : decode cX9_plan 48 = .ok (.ireturn, 1) := by decide +kernel
theorem dX9_word_0 : decode cX9_word 0 = .ok (.aload_n 0, 1) := by decide +kernel
theorem dX9_word_1 : decode cX9_word 1 = .ok (.getfield 19, 3) := by decide +kernel
theorem dX9_word_4 : decode cX9_word 4 = .ok (.getfield 87, 3) := by decide +kernel
theorem dX9_word_7 : decode cX9_word 7 = .ok (.getfield 91, 3) := by decide +kernel
theorem dX9_word_10 : decode cX9_word 10 = .ok (.astore_n 2, 1) := by decide +kernel
theorem dX9_word_11 : decode cX9_word 11 = .ok (.iload_n 1, 1) := by decide +kernel
theorem dX9_word_12 : decode cX9_word 12 = .ok (.ifCond .lt 19, 3) := by decide +kernel
theorem dX9_word_15 : decode cX9_word 15 = .ok (.iload_n 1, 1) := by decide +kernel
theorem dX9_word_16 : decode cX9_word 16 = .ok (.aload_n 2, 1) := by decide +kernel
theorem dX9_word_17 : decode cX9_word 17 = .ok (.invokevirtual 97, 3) := by decide +kernel
theorem dX9_word_20 : decode cX9_word 20 = .ok (.if_icmp .ge 11, 3) := by decide +kernel
theorem dX9_word_23 : decode cX9_word 23 = .ok (.aload_n 2, 1) := by decide +kernel
theorem dX9_word_24 : decode cX9_word 24 = .ok (.iload_n 1, 1) := by decide +kernel
theorem dX9_word_25 : decode cX9_word 25 = .ok (.invokevirtual 102, 3) := by decide +kernel
theorem dX9_word_28 : decode cX9_word 28 = .ok (.goto 5, 3) := by decide +kernel
theorem dX9_word_31 : decode cX9_word 31 = .ok (.bipush (-9), 2) := by decide +kernel
theorem dX9_word_33 : decode cX9_word 33 = .ok (.ireturn, 1) := by decide +kernel
theorem dX9_add_0 : decode cX9_add 0 = .ok (.iload_n 1, 1) := by decide +kernel
theorem dX9_add_1 : decode cX9_add 1 = .ok (.iload_n 2, 1) := by decide +kernel
theorem dX9_add_2 : decode cX9_add 2 = .ok (.iload_n 3, 1) := by decide +kernel
theorem dX9_add_3 : decode cX9_add 3 = .ok (.invokestatic 106, 3) := by decide +kernel
theorem dX9_add_6 : decode cX9_add 6 = .ok (.ifCond .ne 6, 3) := by decide +kernel
theorem dX9_add_9 : decode cX9_add 9 = .ok (.bipush (-2), 2) := by decide +kernel
theorem dX9_add_11 : decode cX9_add 11 = .ok (.ireturn, 1) := by decide +kernel
theorem dX9_add_12 : decode cX9_add 12 = .ok (.aload_n 0, 1) := by decide +kernel
theorem dX9_add_13 : decode cX9_add 13 = .ok (.getfield 29, 3) := by decide +kernel
theorem dX9_add_16 : decode cX9_add 16 = .ok (.invokevirtual 110, 3) := by decide +kernel
theorem dX9_add_19 : decode cX9_add 19 = .ok (.ifCond .ne 6, 3) := by decide +kernel
theorem dX9_add_22 : decode cX9_add 22 = .ok (.bipush (-4), 2) := by decide +kernel
theorem dX9_add_24 : decode cX9_add 24 = .ok (.ireturn, 1) := by decide +kernel
theorem dX9_add_25 : decode cX9_add 25 = .ok (.aload_n 0, 1) := by decide +kernel
theorem dX9_add_26 : decode cX9_add 26 = .ok (.getfield 39, 3) := by decide +kernel
theorem dX9_add_29 : decode cX9_add 29 = .ok (.invokevirtual 114, 3) := by decide +kernel
theorem dX9_add_32 : decode cX9_add 32 = .ok (.iconst 0, 1) := by decide +kernel
theorem dX9_add_33 : decode cX9_add 33 = .ok (.aload_n 0, 1) := by decide +kernel
theorem dX9_add_34 : decode cX9_add 34 = .ok (.getfield 29, 3) := by decide +kernel
theorem dX9_add_37 : decode cX9_add 37 = .ok (.getfield 118, 3) := by decide +kernel
theorem dX9_add_40 : decode cX9_add 40 = .ok (.iload_n 1, 1) := by decide +kernel
theorem dX9_add_41 : decode cX9_add 41 = .ok (.iload_n 2, 1) := by decide +kernel
theorem dX9_add_42 : decode cX9_add 42 = .ok (.iload_n 3, 1) := by decide +kernel
theorem dX9_add_43 : decode cX9_add 43 = .ok (.invokevirtual 119, 3) := by decide +kernel
theorem dX9_add_46 : decode cX9_add 46 = .ok (.aload_n 0, 1) := by decide +kernel
theorem dX9_add_47 : decode cX9_add 47 = .ok (.getfield 29, 3) := by decide +kernel
theorem dX9_add_50 : decode cX9_add 50 = .ok (.iload_n 1, 1) := by decide +kernel
theorem dX9_add_51 : decode cX9_add 51 = .ok (.iload_n 2, 1) := by decide +kernel
theorem dX9_add_52 : decode cX9_add 52 = .ok (.iload_n 3, 1) := by decide +kernel
theorem dX9_add_53 : decode cX9_add 53 = .ok (.invokevirtual 125, 3) := by decide +kernel
theorem dX9_add_56 : decode cX9_add 56 = .ok (.aload_n 0, 1) := by decide +kernel
theorem dX9_add_57 : decode cX9_add 57 = .ok (.getfield 29, 3) := by decide +kernel
theorem dX9_add_60 : decode cX9_add 60 = .ok (.getfield 118, 3) := by decide +kernel
theorem dX9_add_63 : decode cX9_add 63 = .ok (.ireturn, 1) := by decide +kernel
theorem dX9_drop_0 : decode cX9_drop 0 = .ok (.aload_n 0, 1) := by decide +kernel
theorem dX9_drop_1 : decode cX9_drop 1 = .ok (.getfield 29, 3) := by decide +kernel
theorem dX9_drop_4 : decode cX9_drop 4 = .ok (.iload_n 1, 1) := by decide +kernel
theorem dX9_drop_5 : decode cX9_drop 5 = .ok (.invokevirtual 129, 3) := by decide +kernel
theorem dX9_drop_8 : decode cX9_drop 8 = .ok (.ifCond .ne 5, 3) := by decide +kernel
theorem dX9_drop_11 : decode cX9_drop 11 = .ok (.iconst (-1), 1) := by decide +kernel
theorem dX9_drop_12 : decode cX9_drop 12 = .ok (.ireturn, 1) := by decide +kernel
theorem dX9_drop_13 : decode cX9_drop 13 = .ok (.aload_n 0, 1) := by decide +kernel
theorem dX9_drop_14 : decode cX9_drop 14 = .ok (.getfield 29, 3) := by decide +kernel
theorem dX9_drop_17 : decode cX9_drop 17 = .ok (.getfield 132, 3) := by decide +kernel
theorem dX9_drop_20 : decode cX9_drop 20 = .ok (.iload_n 1, 1) := by decide +kernel
theorem dX9_drop_21 : decode cX9_drop 21 = .ok (.iaload, 1) := by decide +kernel
theorem dX9_drop_22 : decode cX9_drop 22 = .ok (.istore_n 2, 1) := by decide +kernel
theorem dX9_drop_23 : decode cX9_drop 23 = .ok (.aload_n 0, 1) := by decide +kernel
theorem dX9_drop_24 : decode cX9_drop 24 = .ok (.getfield 39, 3) := by decide +kernel
theorem dX9_drop_27 : decode cX9_drop 27 = .ok (.invokevirtual 114, 3) := by decide +kernel
theorem dX9_drop_30 : decode cX9_drop 30 = .ok (.iconst 1, 1) := by decide +kernel
theorem dX9_drop_31 : decode cX9_drop 31 = .ok (.iload_n 1, 1) := by decide +kernel
theorem dX9_drop_32 : decode cX9_drop 32 = .ok (.aload_n 0, 1) := by decide +kernel
theorem dX9_drop_33 : decode cX9_drop 33 = .ok (.getfield 29, 3) := by decide +kernel
theorem dX9_drop_36 : decode cX9_drop 36 = .ok (.getfield 136, 3) := by decide +kernel
theorem dX9_drop_39 : decode cX9_drop 39 = .ok (.iload_n 1, 1) := by decide +kernel
theorem dX9_drop_40 : decode cX9_drop 40 = .ok (.iaload, 1) := by decide +kernel
theorem dX9_drop_41 : decode cX9_drop 41 = .ok (.aload_n 0, 1) := by decide +kernel
theorem dX9_drop_42 : decode cX9_drop 42 = .ok (.getfield 29, 3) := by decide +kernel
theorem dX9_drop_45 : decode cX9_drop 45 = .ok (.getfield 139, 3) := by decide +kernel
theorem dX9_drop_48 : decode cX9_drop 48 = .ok (.iload_n 1, 1) := by decide +kernel
theorem dX9_drop_49 : decode cX9_drop 49 = .ok (.iaload, 1) := by decide +kernel
theorem dX9_drop_50 : decode cX9_drop 50 = .ok (.iload_n 2, 1) := by decide +kernel
theorem dX9_drop_51 : decode cX9_drop 51 = .ok (.invokevirtual 119, 3) := by decide +kernel
theorem dX9_drop_54 : decode cX9_drop 54 = .ok (.aload_n 0, 1) := by decide +kernel
theorem dX9_drop_55 : decode cX9_drop 55 = .ok (.getfield 29, 3) := by decide +kernel
theorem dX9_drop_58 : decode cX9_drop 58 = .ok (.iload_n 1, 1) := by decide +kernel
theorem dX9_drop_59 : decode cX9_drop 59 = .ok (.invokevirtual 142, 3) := by decide +kernel
theorem dX9_drop_62 : decode cX9_drop 62 = .ok (.iload_n 2, 1) := by decide +kernel
theorem dX9_drop_63 : decode cX9_drop 63 = .ok (.ireturn, 1) := by decide +kernel
theorem dX9_change_0 : decode cX9_change 0 = .ok (.aload_n 0, 1) := by decide +kernel
theorem dX9_change_1 : decode cX9_change 1 = .ok (.getfield 29, 3) := by decide +kernel
theorem dX9_change_4 : decode cX9_change 4 = .ok (.iload_n 1, 1) := by decide +kernel
theorem dX9_change_5 : decode cX9_change 5 = .ok (.invokevirtual 129, 3) := by decide +kernel
theorem dX9_change_8 : decode cX9_change 8 = .ok (.ifCond .ne 5, 3) := by decide +kernel
theorem dX9_change_11 : decode cX9_change 11 = .ok (.iconst (-1), 1) := by decide +kernel
theorem dX9_change_12 : decode cX9_change 12 = .ok (.ireturn, 1) := by decide +kernel
theorem dX9_change_13 : decode cX9_change 13 = .ok (.iload_n 2, 1) := by decide +kernel
theorem dX9_change_14 : decode cX9_change 14 = .ok (.invokestatic 146, 3) := by decide +kernel
theorem dX9_change_17 : decode cX9_change 17 = .ok (.ifCond .ne 6, 3) := by decide +kernel
theorem dX9_change_20 : decode cX9_change 20 = .ok (.bipush (-2), 2) := by decide +kernel
theorem dX9_change_22 : decode cX9_change 22 = .ok (.ireturn, 1) := by decide +kernel
theorem dX9_change_23 : decode cX9_change 23 = .ok (.aload_n 0, 1) := by decide +kernel
theorem dX9_change_24 : decode cX9_change 24 = .ok (.getfield 29, 3) := by decide +kernel
theorem dX9_change_27 : decode cX9_change 27 = .ok (.getfield 132, 3) := by decide +kernel
theorem dX9_change_30 : decode cX9_change 30 = .ok (.iload_n 1, 1) := by decide +kernel
theorem dX9_change_31 : decode cX9_change 31 = .ok (.iaload, 1) := by decide +kernel
theorem dX9_change_32 : decode cX9_change 32 = .ok (.istore_n 3, 1) := by decide +kernel
theorem dX9_change_33 : decode cX9_change 33 = .ok (.aload_n 0, 1) := by decide +kernel
theorem dX9_change_34 : decode cX9_change 34 = .ok (.getfield 39, 3) := by decide +kernel
theorem dX9_change_37 : decode cX9_change 37 = .ok (.invokevirtual 114, 3) := by decide +kernel
theorem dX9_change_40 : decode cX9_change 40 = .ok (.iconst 2, 1) := by decide +kernel
theorem dX9_change_41 : decode cX9_change 41 = .ok (.iload_n 1, 1) := by decide +kernel
theorem dX9_change_42 : decode cX9_change 42 = .ok (.aload_n 0, 1) := by decide +kernel
theorem dX9_change_43 : decode cX9_change 43 = .ok (.getfield 29, 3) := by decide +kernel
theorem dX9_change_46 : decode cX9_change 46 = .ok (.getfield 136, 3) := by decide +kernel
theorem dX9_change_49 : decode cX9_change 49 = .ok (.iload_n 1, 1) := by decide +kernel
theorem dX9_change_50 : decode cX9_change 50 = .ok (.iaload, 1) := by decide +kernel
theorem dX9_change_51 : decode cX9_change 51 = .ok (.aload_n 0, 1) := by decide +kernel
theorem dX9_change_52 : decode cX9_change 52 = .ok (.getfield 29, 3) := by decide +kernel
theorem dX9_change_55 : decode cX9_change 55 = .ok (.getfield 139, 3) := by decide +kernel
theorem dX9_change_58 : decode cX9_change 58 = .ok (.iload_n 1, 1) := by decide +kernel
theorem dX9_change_59 : decode cX9_change 59 = .ok (.iaload, 1) := by decide +kernel
theorem dX9_change_60 : decode cX9_change 60 = .ok (.iload_n 3, 1) := by decide +kernel
theorem dX9_change_61 : decode cX9_change 61 = .ok (.invokevirtual 119, 3) := by decide +kernel
theorem dX9_change_64 : decode cX9_change 64 = .ok (.aload_n 0, 1) := by decide +kernel
theorem dX9_change_65 : decode cX9_change 65 = .ok (.getfield 29, 3) := by decide +kernel
theorem dX9_change_68 : decode cX9_change 68 = .ok (.getfield 132, 3) := by decide +kernel
theorem dX9_change_71 : decode cX9_change 71 = .ok (.iload_n 1, 1) := by decide +kernel
theorem dX9_change_72 : decode cX9_change 72 = .ok (.iload_n 2, 1) := by decide +kernel
theorem dX9_change_73 : decode cX9_change 73 = .ok (.iastore, 1) := by decide +kernel
theorem dX9_change_74 : decode cX9_change 74 = .ok (.iload_n 3, 1) := by decide +kernel
theorem dX9_change_75 : decode cX9_change 75 = .ok (.ireturn, 1) := by decide +kernel
theorem dX9_undo_0 : decode cX9_undo 0 = .ok (.aload_n 0, 1) := by decide +kernel
theorem dX9_undo_1 : decode cX9_undo 1 = .ok (.getfield 39, 3) := by decide +kernel
theorem dX9_undo_4 : decode cX9_undo 4 = .ok (.invokevirtual 149, 3) := by decide +kernel
theorem dX9_undo_7 : decode cX9_undo 7 = .ok (.astore_n 1, 1) := by decide +kernel
theorem dX9_undo_8 : decode cX9_undo 8 = .ok (.aload_n 1, 1) := by decide +kernel
theorem dX9_undo_9 : decode cX9_undo 9 = .ok (.ifnonnull 6, 3) := by decide +kernel
theorem dX9_undo_12 : decode cX9_undo 12 = .ok (.bipush (-3), 2) := by decide +kernel
theorem dX9_undo_14 : decode cX9_undo 14 = .ok (.ireturn, 1) := by decide +kernel
theorem dX9_undo_15 : decode cX9_undo 15 = .ok (.aload_n 1, 1) := by decide +kernel
theorem dX9_undo_16 : decode cX9_undo 16 = .ok (.aload_n 0, 1) := by decide +kernel
theorem dX9_undo_17 : decode cX9_undo 17 = .ok (.getfield 29, 3) := by decide +kernel
theorem dX9_undo_20 : decode cX9_undo 20 = .ok (.invokevirtual 152, 3) := by decide +kernel
theorem dX9_undo_23 : decode cX9_undo 23 = .ok (.aload_n 0, 1) := by decide +kernel
theorem dX9_undo_24 : decode cX9_undo 24 = .ok (.getfield 39, 3) := by decide +kernel
theorem dX9_undo_27 : decode cX9_undo 27 = .ok (.getfield 156, 3) := by decide +kernel
theorem dX9_undo_30 : decode cX9_undo 30 = .ok (.ireturn, 1) := by decide +kernel
theorem dX9_entry_0 : decode cX9_entry 0 = .ok (.aload_n 0, 1) := by decide +kernel
theorem dX9_entry_1 : decode cX9_entry 1 = .ok (.getfield 29, 3) := by decide +kernel
theorem dX9_entry_4 : decode cX9_entry 4 = .ok (.iload_n 1, 1) := by decide +kernel
theorem dX9_entry_5 : decode cX9_entry 5 = .ok (.invokevirtual 129, 3) := by decide +kernel
theorem dX9_entry_8 : decode cX9_entry 8 = .ok (.ifCond .ne 5, 3) := by decide +kernel
theorem dX9_entry_11 : decode cX9_entry 11 = .ok (.iconst (-1), 1) := by decide +kernel
theorem dX9_entry_12 : decode cX9_entry 12 = .ok (.ireturn, 1) := by decide +kernel
theorem dX9_entry_13 : decode cX9_entry 13 = .ok (.iload_n 2, 1) := by decide +kernel
theorem dX9_entry_14 : decode cX9_entry 14 = .ok (.tableswitch 90 0 4 #[34, 44, 54, 64, 77], 34) := by decide +kernel
theorem dX9_entry_48 : decode cX9_entry 48 = .ok (.aload_n 0, 1) := by decide +kernel
theorem dX9_entry_49 : decode cX9_entry 49 = .ok (.getfield 29, 3) := by decide +kernel
theorem dX9_entry_52 : decode cX9_entry 52 = .ok (.getfield 136, 3) := by decide +kernel
theorem dX9_entry_55 : decode cX9_entry 55 = .ok (.iload_n 1, 1) := by decide +kernel
theorem dX9_entry_56 : decode cX9_entry 56 = .ok (.iaload, 1) := by decide +kernel
theorem dX9_entry_57 : decode cX9_entry 57 = .ok (.ireturn, 1) := by decide +kernel
theorem dX9_entry_58 : decode cX9_entry 58 = .ok (.aload_n 0, 1) := by decide +kernel
theorem dX9_entry_59 : decode cX9_entry 59 = .ok (.getfield 29, 3) := by decide +kernel
theorem dX9_entry_62 : decode cX9_entry 62 = .ok (.getfield 139, 3) := by decide +kernel
theorem dX9_entry_65 : decode cX9_entry 65 = .ok (.iload_n 1, 1) := by decide +kernel
theorem dX9_entry_66 : decode cX9_entry 66 = .ok (.iaload, 1) := by decide +kernel
theorem dX9_entry_67 : decode cX9_entry 67 = .ok (.ireturn, 1) := by decide +kernel
theorem dX9_entry_68 : decode cX9_entry 68 = .ok (.aload_n 0, 1) := by decide +kernel
theorem dX9_entry_69 : decode cX9_entry 69 = .ok (.getfield 29, 3) := by decide +kernel
theorem dX9_entry_72 : decode cX9_entry 72 = .ok (.getfield 132, 3) := by decide +kernel
theorem dX9_entry_75 : decode cX9_entry 75 = .ok (.iload_n 1, 1) := by decide +kernel
theorem dX9_entry_76 : decode cX9_entry 76 = .ok (.iaload, 1) := by decide +kernel
theorem dX9_entry_77 : decode cX9_entry 77 = .ok (.ireturn, 1) := by decide +kernel
theorem dX9_entry_78 : decode cX9_entry 78 = .ok (.aload_n 0, 1) := by decide +kernel
theorem dX9_entry_79 : decode cX9_entry 79 = .ok (.aload_n 0, 1) := by decide +kernel
theorem dX9_entry_80 : decode cX9_entry 80 = .ok (.getfield 29, 3) := by decide +kernel
theorem dX9_entry_83 : decode cX9_entry 83 = .ok (.invokevirtual 80, 3) := by decide +kernel
theorem dX9_entry_86 : decode cX9_entry 86 = .ok (.iload_n 1, 1) := by decide +kernel
theorem dX9_entry_87 : decode cX9_entry 87 = .ok (.invokevirtual 157, 3) := by decide +kernel
theorem dX9_entry_90 : decode cX9_entry 90 = .ok (.ireturn, 1) := by decide +kernel
theorem dX9_entry_91 : decode cX9_entry 91 = .ok (.aload_n 0, 1) := by decide +kernel
theorem dX9_entry_92 : decode cX9_entry 92 = .ok (.aload_n 0, 1) := by decide +kernel
theorem dX9_entry_93 : decode cX9_entry 93 = .ok (.getfield 29, 3) := by decide +kernel
theorem dX9_entry_96 : decode cX9_entry 96 = .ok (.invokevirtual 161, 3) := by decide +kernel
theorem dX9_entry_99 : decode cX9_entry 99 = .ok (.iload_n 1, 1) := by decide +kernel
theorem dX9_entry_100 : decode cX9_entry 100 = .ok (.invokevirtual 157, 3) := by decide +kernel
theorem dX9_entry_103 : decode cX9_entry 103 = .ok (.ireturn, 1) := by decide +kernel
theorem dX9_entry_104 : decode cX9_entry 104 = .ok (.bipush (-2), 2) := by decide +kernel
theorem dX9_entry_106 : decode cX9_entry 106 = .ok (.ireturn, 1) := by decide +kernel
theorem dX9_key_0 : decode cX9_key 0 = .ok (.iload_n 1, 1) := by decide +kernel
theorem dX9_key_1 : decode cX9_key 1 = .ok (.invokestatic 164, 3) := by decide +kernel
theorem dX9_key_4 : decode cX9_key 4 = .ok (.ifCond .ne 6, 3) := by decide +kernel
theorem dX9_key_7 : decode cX9_key 7 = .ok (.bipush (-2), 2) := by decide +kernel
theorem dX9_key_9 : decode cX9_key 9 = .ok (.ireturn, 1) := by decide +kernel
theorem dX9_key_10 : decode cX9_key 10 = .ok (.aload_n 0, 1) := by decide +kernel
theorem dX9_key_11 : decode cX9_key 11 = .ok (.iload_n 1, 1) := by decide +kernel
theorem dX9_key_12 : decode cX9_key 12 = .ok (.invokevirtual 167, 3) := by decide +kernel
theorem dX9_key_15 : decode cX9_key 15 = .ok (.astore_n 3, 1) := by decide +kernel
theorem dX9_key_16 : decode cX9_key 16 = .ok (.aload_n 3, 1) := by decide +kernel
theorem dX9_key_17 : decode cX9_key 17 = .ok (.iload_n 2, 1) := by decide +kernel
theorem dX9_key_18 : decode cX9_key 18 = .ok (.invokevirtual 171, 3) := by decide +kernel
theorem dX9_key_21 : decode cX9_key 21 = .ok (.ifCond .eq 12, 3) := by decide +kernel
theorem dX9_key_24 : decode cX9_key 24 = .ok (.aload_n 3, 1) := by decide +kernel
theorem dX9_key_25 : decode cX9_key 25 = .ok (.getfield 172, 3) := by decide +kernel
theorem dX9_key_28 : decode cX9_key 28 = .ok (.iload_n 2, 1) := by decide +kernel
theorem dX9_key_29 : decode cX9_key 29 = .ok (.iaload, 1) := by decide +kernel
theorem dX9_key_30 : decode cX9_key 30 = .ok (.goto 5, 3) := by decide +kernel
theorem dX9_key_33 : decode cX9_key 33 = .ok (.bipush (-9), 2) := by decide +kernel
theorem dX9_key_35 : decode cX9_key 35 = .ok (.ireturn, 1) := by decide +kernel
theorem dX9_cell_0 : decode cX9_cell 0 = .ok (.aload_n 0, 1) := by decide +kernel
theorem dX9_cell_1 : decode cX9_cell 1 = .ok (.aload_n 0, 1) := by decide +kernel
theorem dX9_cell_2 : decode cX9_cell 2 = .ok (.getfield 29, 3) := by decide +kernel
theorem dX9_cell_5 : decode cX9_cell 5 = .ok (.aload_n 0, 1) := by decide +kernel
theorem dX9_cell_6 : decode cX9_cell 6 = .ok (.aload_n 0, 1) := by decide +kernel
theorem dX9_cell_7 : decode cX9_cell 7 = .ok (.getfield 29, 3) := by decide +kernel
theorem dX9_cell_10 : decode cX9_cell 10 = .ok (.iload_n 1, 1) := by decide +kernel
theorem dX9_cell_11 : decode cX9_cell 11 = .ok (.iload_n 2, 1) := by decide +kernel
theorem dX9_cell_12 : decode cX9_cell 12 = .ok (.invokevirtual 175, 3) := by decide +kernel
theorem dX9_cell_15 : decode cX9_cell 15 = .ok (.invokevirtual 179, 3) := by decide +kernel
theorem dX9_cell_18 : decode cX9_cell 18 = .ok (.ireturn, 1) := by decide +kernel
theorem dX9_drill_0 : decode cX9_drill 0 = .ok (.aload_n 0, 1) := by decide +kernel
theorem dX9_drill_1 : decode cX9_drill 1 = .ok (.aload_n 0, 1) := by decide +kernel
theorem dX9_drill_2 : decode cX9_drill 2 = .ok (.getfield 29, 3) := by decide +kernel
theorem dX9_drill_5 : decode cX9_drill 5 = .ok (.iload_n 1, 1) := by decide +kernel
theorem dX9_drill_6 : decode cX9_drill 6 = .ok (.iload_n 2, 1) := by decide +kernel
theorem dX9_drill_7 : decode cX9_drill 7 = .ok (.invokevirtual 175, 3) := by decide +kernel
theorem dX9_drill_10 : decode cX9_drill 10 = .ok (.ireturn, 1) := by decide +kernel
theorem dX9_along_0 : decode cX9_along 0 = .ok (.iload_n 1, 1) := by decide +kernel
theorem dX9_along_1 : decode cX9_along 1 = .ok (.invokestatic 164, 3) := by decide +kernel
theorem dX9_along_4 : decode cX9_along 4 = .ok (.ifCond .ne 6, 3) := by decide +kernel
theorem dX9_along_7 : decode cX9_along 7 = .ok (.bipush (-2), 2) := by decide +kernel
theorem dX9_along_9 : decode cX9_along 9 = .ok (.ireturn, 1) := by decide +kernel
theorem dX9_along_10 : decode cX9_along 10 = .ok (.aload_n 0, 1) := by decide +kernel
theorem dX9_along_11 : decode cX9_along 11 = .ok (.aload_n 0, 1) := by decide +kernel
theorem dX9_along_12 : decode cX9_along 12 = .ok (.getfield 29, 3) := by decide +kernel
theorem dX9_along_15 : decode cX9_along 15 = .ok (.aload_n 0, 1) := by decide +kernel
theorem dX9_along_16 : decode cX9_along 16 = .ok (.iload_n 1, 1) := by decide +kernel
theorem dX9_along_17 : decode cX9_along 17 = .ok (.invokevirtual 167, 3) := by decide +kernel
theorem dX9_along_20 : decode cX9_along 20 = .ok (.iload_n 2, 1) := by decide +kernel
theorem dX9_along_21 : decode cX9_along 21 = .ok (.invokevirtual 183, 3) := by decide +kernel
theorem dX9_along_24 : decode cX9_along 24 = .ok (.invokevirtual 179, 3) := by decide +kernel
theorem dX9_along_27 : decode cX9_along 27 = .ok (.ireturn, 1) := by decide +kernel
theorem dX9_total_0 : decode cX9_total 0 = .ok (.aload_n 0, 1) := by decide +kernel
theorem dX9_total_1 : decode cX9_total 1 = .ok (.aload_n 0, 1) := by decide +kernel
theorem dX9_total_2 : decode cX9_total 2 = .ok (.getfield 29, 3) := by decide +kernel
theorem dX9_total_5 : decode cX9_total 5 = .ok (.invokevirtual 186, 3) := by decide +kernel
theorem dX9_total_8 : decode cX9_total 8 = .ok (.ireturn, 1) := by decide +kernel
theorem dX9_would_0 : decode cX9_would 0 = .ok (.iload_n 1, 1) := by decide +kernel
theorem dX9_would_1 : decode cX9_would 1 = .ok (.iload_n 2, 1) := by decide +kernel
theorem dX9_would_2 : decode cX9_would 2 = .ok (.iload_n 3, 1) := by decide +kernel
theorem dX9_would_3 : decode cX9_would 3 = .ok (.invokestatic 106, 3) := by decide +kernel
theorem dX9_would_6 : decode cX9_would 6 = .ok (.ifCond .eq 11, 3) := by decide +kernel
theorem dX9_would_9 : decode cX9_would 9 = .ok (.iload 4, 2) := by decide +kernel
theorem dX9_would_11 : decode cX9_would 11 = .ok (.invokestatic 190, 3) := by decide +kernel
theorem dX9_would_14 : decode cX9_would 14 = .ok (.ifCond .ne 6, 3) := by decide +kernel
theorem dX9_would_17 : decode cX9_would 17 = .ok (.bipush (-2), 2) := by decide +kernel
theorem dX9_would_19 : decode cX9_would 19 = .ok (.ireturn, 1) := by decide +kernel
theorem dX9_would_20 : decode cX9_would 20 = .ok (.aload_n 0, 1) := by decide +kernel
theorem dX9_would_21 : decode cX9_would 21 = .ok (.getfield 29, 3) := by decide +kernel
theorem dX9_would_24 : decode cX9_would 24 = .ok (.invokevirtual 110, 3) := by decide +kernel
theorem dX9_would_27 : decode cX9_would 27 = .ok (.ifCond .ne 6, 3) := by decide +kernel
theorem dX9_would_30 : decode cX9_would 30 = .ok (.bipush (-4), 2) := by decide +kernel
theorem dX9_would_32 : decode cX9_would 32 = .ok (.ireturn, 1) := by decide +kernel
theorem dX9_would_33 : decode cX9_would 33 = .ok (.aload_n 0, 1) := by decide +kernel
theorem dX9_would_34 : decode cX9_would 34 = .ok (.getfield 33, 3) := by decide +kernel
theorem dX9_would_37 : decode cX9_would 37 = .ok (.aload_n 0, 1) := by decide +kernel
theorem dX9_would_38 : decode cX9_would 38 = .ok (.getfield 29, 3) := by decide +kernel
theorem dX9_would_41 : decode cX9_would 41 = .ok (.invokevirtual 193, 3) := by decide +kernel
theorem dX9_would_44 : decode cX9_would 44 = .ok (.aload_n 0, 1) := by decide +kernel
theorem dX9_would_45 : decode cX9_would 45 = .ok (.getfield 33, 3) := by decide +kernel
theorem dX9_would_48 : decode cX9_would 48 = .ok (.iload_n 1, 1) := by decide +kernel
theorem dX9_would_49 : decode cX9_would 49 = .ok (.iload_n 2, 1) := by decide +kernel
theorem dX9_would_50 : decode cX9_would 50 = .ok (.iload_n 3, 1) := by decide +kernel
theorem dX9_would_51 : decode cX9_would 51 = .ok (.invokevirtual 125, 3) := by decide +kernel
theorem dX9_would_54 : decode cX9_would 54 = .ok (.iload 4, 2) := by decide +kernel
theorem dX9_would_56 : decode cX9_would 56 = .ok (.ifCond .ne 14, 3) := by decide +kernel
theorem dX9_would_59 : decode cX9_would 59 = .ok (.aload_n 0, 1) := by decide +kernel
theorem dX9_would_60 : decode cX9_would 60 = .ok (.aload_n 0, 1) := by decide +kernel
theorem dX9_would_61 : decode cX9_would 61 = .ok (.getfield 33, 3) := by decide +kernel
theorem dX9_would_64 : decode cX9_would 64 = .ok (.invokevirtual 186, 3) := by decide +kernel
theorem dX9_would_67 : decode cX9_would 67 = .ok (.goto 14, 3) := by decide +kernel
theorem dX9_would_70 : decode cX9_would 70 = .ok (.aload_n 0, 1) := by decide +kernel
theorem dX9_would_71 : decode cX9_would 71 = .ok (.aload_n 0, 1) := by decide +kernel
theorem dX9_would_72 : decode cX9_would 72 = .ok (.getfield 33, 3) := by decide +kernel
theorem dX9_would_75 : decode cX9_would 75 = .ok (.invokevirtual 80, 3) := by decide +kernel
theorem dX9_would_78 : decode cX9_would 78 = .ok (.getfield 84, 3) := by decide +kernel
theorem dX9_would_81 : decode cX9_would 81 = .ok (.ireturn, 1) := by decide +kernel
theorem dX9_best_0 : decode cX9_best 0 = .ok (.iload_n 1, 1) := by decide +kernel
theorem dX9_best_1 : decode cX9_best 1 = .ok (.invokestatic 190, 3) := by decide +kernel
theorem dX9_best_4 : decode cX9_best 4 = .ok (.ifCond .ne 6, 3) := by decide +kernel
theorem dX9_best_7 : decode cX9_best 7 = .ok (.bipush (-2), 2) := by decide +kernel
theorem dX9_best_9 : decode cX9_best 9 = .ok (.ireturn, 1) := by decide +kernel
theorem dX9_best_10 : decode cX9_best 10 = .ok (.bipush (-9), 2) := by decide +kernel
theorem dX9_best_12 : decode cX9_best 12 = .ok (.istore_n 2, 1) := by decide +kernel
theorem dX9_best_13 : decode cX9_best 13 = .ok (.bipush (-9), 2) := by decide +kernel
theorem dX9_best_15 : decode cX9_best 15 = .ok (.istore_n 3, 1) := by decide +kernel
theorem dX9_best_16 : decode cX9_best 16 = .ok (.iconst 0, 1) := by decide +kernel
theorem dX9_best_17 : decode cX9_best 17 = .ok (.istore 4, 2) := by decide +kernel
theorem dX9_best_19 : decode cX9_best 19 = .ok (.iload 4, 2) := by decide +kernel
theorem dX9_best_21 : decode cX9_best 21 = .ok (.aload_n 0, 1) := by decide +kernel
theorem dX9_best_22 : decode cX9_best 22 = .ok (.getfield 29, 3) := by decide +kernel
theorem dX9_best_25 : decode cX9_best 25 = .ok (.getfield 118, 3) := by decide +kernel
theorem dX9_best_28 : decode cX9_best 28 = .ok (.if_icmp .ge 51, 3) := by decide +kernel
theorem dX9_best_31 : decode cX9_best 31 = .ok (.aload_n 0, 1) := by decide +kernel
theorem dX9_best_32 : decode cX9_best 32 = .ok (.aload_n 0, 1) := by decide +kernel
theorem dX9_best_33 : decode cX9_best 33 = .ok (.getfield 29, 3) := by decide +kernel
theorem dX9_best_36 : decode cX9_best 36 = .ok (.aload_n 0, 1) := by decide +kernel
theorem dX9_best_37 : decode cX9_best 37 = .ok (.getfield 29, 3) := by decide +kernel
theorem dX9_best_40 : decode cX9_best 40 = .ok (.invokevirtual 196, 3) := by decide +kernel
theorem dX9_best_43 : decode cX9_best 43 = .ok (.iconst 1, 1) := by decide +kernel
theorem dX9_best_44 : decode cX9_best 44 = .ok (.iload 4, 2) := by decide +kernel
theorem dX9_best_46 : decode cX9_best 46 = .ok (.ishl, 1) := by decide +kernel
theorem dX9_best_47 : decode cX9_best 47 = .ok (.iconst (-1), 1) := by decide +kernel
theorem dX9_best_48 : decode cX9_best 48 = .ok (.ixor, 1) := by decide +kernel
theorem dX9_best_49 : decode cX9_best 49 = .ok (.iand, 1) := by decide +kernel
theorem dX9_best_50 : decode cX9_best 50 = .ok (.invokevirtual 179, 3) := by decide +kernel
theorem dX9_best_53 : decode cX9_best 53 = .ok (.istore 5, 2) := by decide +kernel
theorem dX9_best_55 : decode cX9_best 55 = .ok (.iload_n 2, 1) := by decide +kernel
theorem dX9_best_56 : decode cX9_best 56 = .ok (.bipush (-9), 2) := by decide +kernel
theorem dX9_best_58 : decode cX9_best 58 = .ok (.if_icmp .eq 9, 3) := by decide +kernel
theorem dX9_best_61 : decode cX9_best 61 = .ok (.iload 5, 2) := by decide +kernel
theorem dX9_best_63 : decode cX9_best 63 = .ok (.iload_n 3, 1) := by decide +kernel
theorem dX9_best_64 : decode cX9_best 64 = .ok (.if_icmp .le 9, 3) := by decide +kernel
theorem dX9_best_67 : decode cX9_best 67 = .ok (.iload 4, 2) := by decide +kernel
theorem dX9_best_69 : decode cX9_best 69 = .ok (.istore_n 2, 1) := by decide +kernel
theorem dX9_best_70 : decode cX9_best 70 = .ok (.iload 5, 2) := by decide +kernel
theorem dX9_best_72 : decode cX9_best 72 = .ok (.istore_n 3, 1) := by decide +kernel
theorem dX9_best_73 : decode cX9_best 73 = .ok (.iinc 4 1, 3) := by decide +kernel
theorem dX9_best_76 : decode cX9_best 76 = .ok (.goto (-57), 3) := by decide +kernel
theorem dX9_best_79 : decode cX9_best 79 = .ok (.iload_n 1, 1) := by decide +kernel
theorem dX9_best_80 : decode cX9_best 80 = .ok (.ifCond .ne 7, 3) := by decide +kernel
theorem dX9_best_83 : decode cX9_best 83 = .ok (.iload_n 2, 1) := by decide +kernel
theorem dX9_best_84 : decode cX9_best 84 = .ok (.goto 4, 3) := by decide +kernel
theorem dX9_best_87 : decode cX9_best 87 = .ok (.iload_n 3, 1) := by decide +kernel
theorem dX9_best_88 : decode cX9_best 88 = .ok (.ireturn, 1) := by decide +kernel
theorem dX9_judge_0 : decode cX9_judge 0 = .ok (.iload_n 1, 1) := by decide +kernel
theorem dX9_judge_1 : decode cX9_judge 1 = .ok (.iconst 1, 1) := by decide +kernel
theorem dX9_judge_2 : decode cX9_judge 2 = .ok (.if_icmp .lt 24, 3) := by decide +kernel
theorem dX9_judge_5 : decode cX9_judge 5 = .ok (.iload_n 1, 1) := by decide +kernel
theorem dX9_judge_6 : decode cX9_judge 6 = .ok (.iconst 4, 1) := by decide +kernel
theorem dX9_judge_7 : decode cX9_judge 7 = .ok (.if_icmp .gt 19, 3) := by decide +kernel
theorem dX9_judge_10 : decode cX9_judge 10 = .ok (.lload_n 2, 1) := by decide +kernel
theorem dX9_judge_11 : decode cX9_judge 11 = .ok (.lconst 0, 1) := by decide +kernel
theorem dX9_judge_12 : decode cX9_judge 12 = .ok (.lcmp, 1) := by decide +kernel
theorem dX9_judge_13 : decode cX9_judge 13 = .ok (.ifCond .lt 13, 3) := by decide +kernel
theorem dX9_judge_16 : decode cX9_judge 16 = .ok (.lload_n 2, 1) := by decide +kernel
theorem dX9_judge_17 : decode cX9_judge 17 = .ok (.getstatic 199, 3) := by decide +kernel
theorem dX9_judge_20 : decode cX9_judge 20 = .ok (.iload_n 1, 1) := by decide +kernel
theorem dX9_judge_21 : decode cX9_judge 21 = .ok (.laload, 1) := by decide +kernel
theorem dX9_judge_22 : decode cX9_judge 22 = .ok (.lcmp, 1) := by decide +kernel
theorem dX9_judge_23 : decode cX9_judge 23 = .ok (.ifCond .lt 6, 3) := by decide +kernel
theorem dX9_judge_26 : decode cX9_judge 26 = .ok (.bipush (-2), 2) := by decide +kernel
theorem dX9_judge_28 : decode cX9_judge 28 = .ok (.ireturn, 1) := by decide +kernel
theorem dX9_judge_29 : decode cX9_judge 29 = .ok (.aload_n 0, 1) := by decide +kernel
theorem dX9_judge_30 : decode cX9_judge 30 = .ok (.getfield 33, 3) := by decide +kernel
theorem dX9_judge_33 : decode cX9_judge 33 = .ok (.aload_n 0, 1) := by decide +kernel
theorem dX9_judge_34 : decode cX9_judge 34 = .ok (.getfield 29, 3) := by decide +kernel
theorem dX9_judge_37 : decode cX9_judge 37 = .ok (.invokevirtual 193, 3) := by decide +kernel
theorem dX9_judge_40 : decode cX9_judge 40 = .ok (.iconst 0, 1) := by decide +kernel
theorem dX9_judge_41 : decode cX9_judge 41 = .ok (.istore 4, 2) := by decide +kernel
theorem dX9_judge_43 : decode cX9_judge 43 = .ok (.iload 4, 2) := by decide +kernel
theorem dX9_judge_45 : decode cX9_judge 45 = .ok (.iload_n 1, 1) := by decide +kernel
theorem dX9_judge_46 : decode cX9_judge 46 = .ok (.if_icmp .ge 42, 3) := by decide +kernel
theorem dX9_judge_49 : decode cX9_judge 49 = .ok (.lload_n 2, 1) := by decide +kernel
theorem dX9_judge_50 : decode cX9_judge 50 = .ok (.getstatic 199, 3) := by decide +kernel
theorem dX9_judge_53 : decode cX9_judge 53 = .ok (.iload_n 1, 1) := by decide +kernel
theorem dX9_judge_54 : decode cX9_judge 54 = .ok (.iconst 1, 1) := by decide +kernel
theorem dX9_judge_55 : decode cX9_judge 55 = .ok (.isub, 1) := by decide +kernel
theorem dX9_judge_56 : decode cX9_judge 56 = .ok (.iload 4, 2) := by decide +kernel
theorem dX9_judge_58 : decode cX9_judge 58 = .ok (.isub, 1) := by decide +kernel
theorem dX9_judge_59 : decode cX9_judge 59 = .ok (.laload, 1) := by decide +kernel
theorem dX9_judge_60 : decode cX9_judge 60 = .ok (.ldiv, 1) := by decide +kernel
theorem dX9_judge_61 : decode cX9_judge 61 = .ok (.lstore 5, 2) := by decide +kernel
theorem dX9_judge_63 : decode cX9_judge 63 = .ok (.aload_n 0, 1) := by decide +kernel
theorem dX9_judge_64 : decode cX9_judge 64 = .ok (.lload 5, 2) := by decide +kernel
theorem dX9_judge_66 : decode cX9_judge 66 = .ok (.getstatic 199, 3) := by decide +kernel
theorem dX9_judge_69 : decode cX9_judge 69 = .ok (.iconst 1, 1) := by decide +kernel
theorem dX9_judge_70 : decode cX9_judge 70 = .ok (.laload, 1) := by decide +kernel
theorem dX9_judge_71 : decode cX9_judge 71 = .ok (.lrem, 1) := by decide +kernel
theorem dX9_judge_72 : decode cX9_judge 72 = .ok (.l2i, 1) := by decide +kernel
theorem dX9_judge_73 : decode cX9_judge 73 = .ok (.invokevirtual 203, 3) := by decide +kernel
theorem dX9_judge_76 : decode cX9_judge 76 = .ok (.ifCond .ne 6, 3) := by decide +kernel
theorem dX9_judge_79 : decode cX9_judge 79 = .ok (.iload 4, 2) := by decide +kernel
theorem dX9_judge_81 : decode cX9_judge 81 = .ok (.ireturn, 1) := by decide +kernel
theorem dX9_judge_82 : decode cX9_judge 82 = .ok (.iinc 4 1, 3) := by decide +kernel
theorem dX9_judge_85 : decode cX9_judge 85 = .ok (.goto (-42), 3) := by decide +kernel
theorem dX9_judge_88 : decode cX9_judge 88 = .ok (.bipush (-9), 2) := by decide +kernel
theorem dX9_judge_90 : decode cX9_judge 90 = .ok (.ireturn, 1) := by decide +kernel
theorem dX9_see_0 : decode cX9_see 0 = .ok (.iload_n 1, 1) := by decide +kernel
theorem dX9_see_1 : decode cX9_see 1 = .ok (.invokestatic 206, 3) := by decide +kernel
theorem dX9_see_4 : decode cX9_see 4 = .ok (.ifCond .eq 17, 3) := by decide +kernel
theorem dX9_see_7 : decode cX9_see 7 = .ok (.iload_n 2, 1) := by decide +kernel
theorem dX9_see_8 : decode cX9_see 8 = .ok (.invokestatic 209, 3) := by decide +kernel
theorem dX9_see_11 : decode cX9_see 11 = .ok (.ifCond .eq 10, 3) := by decide +kernel
theorem dX9_see_14 : decode cX9_see 14 = .ok (.iload_n 3, 1) := by decide +kernel
theorem dX9_see_15 : decode cX9_see 15 = .ok (.invokestatic 190, 3) := by decide +kernel
theorem dX9_see_18 : decode cX9_see 18 = .ok (.ifCond .ne 6, 3) := by decide +kernel
theorem dX9_see_21 : decode cX9_see 21 = .ok (.bipush (-2), 2) := by decide +kernel
theorem dX9_see_23 : decode cX9_see 23 = .ok (.ireturn, 1) := by decide +kernel
theorem dX9_see_24 : decode cX9_see 24 = .ok (.aload_n 0, 1) := by decide +kernel
theorem dX9_see_25 : decode cX9_see 25 = .ok (.getfield 56, 3) := by decide +kernel
theorem dX9_see_28 : decode cX9_see 28 = .ok (.iload_n 1, 1) := by decide +kernel
theorem dX9_see_29 : decode cX9_see 29 = .ok (.iload_n 2, 1) := by decide +kernel
theorem dX9_see_30 : decode cX9_see 30 = .ok (.iload_n 3, 1) := by decide +kernel
theorem dX9_see_31 : decode cX9_see 31 = .ok (.iconst 1, 1) := by decide +kernel
theorem dX9_see_32 : decode cX9_see 32 = .ok (.if_icmp .ne 7, 3) := by decide +kernel
theorem dX9_see_35 : decode cX9_see 35 = .ok (.iconst 1, 1) := by decide +kernel
theorem dX9_see_36 : decode cX9_see 36 = .ok (.goto 4, 3) := by decide +kernel
theorem dX9_see_39 : decode cX9_see 39 = .ok (.iconst 0, 1) := by decide +kernel
theorem dX9_see_40 : decode cX9_see 40 = .ok (.invokevirtual 212, 3) := by decide +kernel
theorem dX9_see_43 : decode cX9_see 43 = .ok (.ifCond .eq 13, 3) := by decide +kernel
theorem dX9_see_46 : decode cX9_see 46 = .ok (.aload_n 0, 1) := by decide +kernel
theorem dX9_see_47 : decode cX9_see 47 = .ok (.getfield 56, 3) := by decide +kernel
theorem dX9_see_50 : decode cX9_see 50 = .ok (.getfield 215, 3) := by decide +kernel
theorem dX9_see_53 : decode cX9_see 53 = .ok (.goto 5, 3) := by decide +kernel
theorem dX9_see_56 : decode cX9_see 56 = .ok (.bipush (-4), 2) := by decide +kernel
theorem dX9_see_58 : decode cX9_see 58 = .ok (.ireturn, 1) := by decide +kernel
theorem dX9_unsee_0 : decode cX9_unsee 0 = .ok (.aload_n 0, 1) := by decide +kernel
theorem dX9_unsee_1 : decode cX9_unsee 1 = .ok (.getfield 56, 3) := by decide +kernel
theorem dX9_unsee_4 : decode cX9_unsee 4 = .ok (.getfield 215, 3) := by decide +kernel
theorem dX9_unsee_7 : decode cX9_unsee 7 = .ok (.istore_n 1, 1) := by decide +kernel
theorem dX9_unsee_8 : decode cX9_unsee 8 = .ok (.aload_n 0, 1) := by decide +kernel
theorem dX9_unsee_9 : decode cX9_unsee 9 = .ok (.getfield 56, 3) := by decide +kernel
theorem dX9_unsee_12 : decode cX9_unsee 12 = .ok (.iconst 0, 1) := by decide +kernel
theorem dX9_unsee_13 : decode cX9_unsee 13 = .ok (.putfield 215, 3) := by decide +kernel
theorem dX9_unsee_16 : decode cX9_unsee 16 = .ok (.iload_n 1, 1) := by decide +kernel
theorem dX9_unsee_17 : decode cX9_unsee 17 = .ok (.ireturn, 1) := by decide +kernel
theorem dX9_hidden_0 : decode cX9_hidden 0 = .ok (.iload_n 1, 1) := by decide +kernel
theorem dX9_hidden_1 : decode cX9_hidden 1 = .ok (.invokestatic 190, 3) := by decide +kernel
theorem dX9_hidden_4 : decode cX9_hidden 4 = .ok (.ifCond .ne 6, 3) := by decide +kernel
theorem dX9_hidden_7 : decode cX9_hidden 7 = .ok (.bipush (-2), 2) := by decide +kernel
theorem dX9_hidden_9 : decode cX9_hidden 9 = .ok (.ireturn, 1) := by decide +kernel
theorem dX9_hidden_10 : decode cX9_hidden 10 = .ok (.aload_n 0, 1) := by decide +kernel
theorem dX9_hidden_11 : decode cX9_hidden 11 = .ok (.getfield 29, 3) := by decide +kernel
theorem dX9_hidden_14 : decode cX9_hidden 14 = .ok (.invokevirtual 110, 3) := by decide +kernel
theorem dX9_hidden_17 : decode cX9_hidden 17 = .ok (.ifCond .ne 6, 3) := by decide +kernel
theorem dX9_hidden_20 : decode cX9_hidden 20 = .ok (.bipush (-4), 2) := by decide +kernel
theorem dX9_hidden_22 : decode cX9_hidden 22 = .ok (.ireturn, 1) := by decide +kernel
theorem dX9_hidden_23 : decode cX9_hidden 23 = .ok (.aload_n 0, 1) := by decide +kernel
theorem dX9_hidden_24 : decode cX9_hidden 24 = .ok (.getfield 19, 3) := by decide +kernel
theorem dX9_hidden_27 : decode cX9_hidden 27 = .ok (.getfield 216, 3) := by decide +kernel
theorem dX9_hidden_30 : decode cX9_hidden 30 = .ok (.getstatic 220, 3) := by decide +kernel
theorem dX9_hidden_33 : decode cX9_hidden 33 = .ok (.if_acmp .ne 7, 3) := by decide +kernel
theorem dX9_hidden_36 : decode cX9_hidden 36 = .ok (.iconst 4, 1) := by decide +kernel
theorem dX9_hidden_37 : decode cX9_hidden 37 = .ok (.goto 4, 3) := by decide +kernel
theorem dX9_hidden_40 : decode cX9_hidden 40 = .ok (.iconst 1, 1) := by decide +kernel
theorem dX9_hidden_41 : decode cX9_hidden 41 = .ok (.istore_n 2, 1) := by decide +kernel
theorem dX9_hidden_42 : decode cX9_hidden 42 = .ok (.aload_n 0, 1) := by decide +kernel
theorem dX9_hidden_43 : decode cX9_hidden 43 = .ok (.getfield 19, 3) := by decide +kernel
theorem dX9_hidden_46 : decode cX9_hidden 46 = .ok (.getfield 216, 3) := by decide +kernel
theorem dX9_hidden_49 : decode cX9_hidden 49 = .ok (.getstatic 225, 3) := by decide +kernel
theorem dX9_hidden_52 : decode cX9_hidden 52 = .ok (.if_acmp .ne 7, 3) := by decide +kernel
theorem dX9_hidden_55 : decode cX9_hidden 55 = .ok (.iconst 5, 1) := by decide +kernel
theorem dX9_hidden_56 : decode cX9_hidden 56 = .ok (.goto 4, 3) := by decide +kernel
theorem dX9_hidden_59 : decode cX9_hidden 59 = .ok (.iconst 1, 1) := by decide +kernel
theorem dX9_hidden_60 : decode cX9_hidden 60 = .ok (.istore_n 3, 1) := by decide +kernel
theorem dX9_hidden_61 : decode cX9_hidden 61 = .ok (.bipush (-9), 2) := by decide +kernel
theorem dX9_hidden_63 : decode cX9_hidden 63 = .ok (.istore 4, 2) := by decide +kernel
theorem dX9_hidden_65 : decode cX9_hidden 65 = .ok (.iconst 0, 1) := by decide +kernel
theorem dX9_hidden_66 : decode cX9_hidden 66 = .ok (.istore 5, 2) := by decide +kernel
theorem dX9_hidden_68 : decode cX9_hidden 68 = .ok (.iconst 0, 1) := by decide +kernel
theorem dX9_hidden_69 : decode cX9_hidden 69 = .ok (.istore 6, 2) := by decide +kernel
theorem dX9_hidden_71 : decode cX9_hidden 71 = .ok (.iload 6, 2) := by decide +kernel
theorem dX9_hidden_73 : decode cX9_hidden 73 = .ok (.iload_n 2, 1) := by decide +kernel
theorem dX9_hidden_74 : decode cX9_hidden 74 = .ok (.if_icmp .ge 84, 3) := by decide +kernel
theorem dX9_hidden_77 : decode cX9_hidden 77 = .ok (.iconst 0, 1) := by decide +kernel
theorem dX9_hidden_78 : decode cX9_hidden 78 = .ok (.istore 7, 2) := by decide +kernel
theorem dX9_hidden_80 : decode cX9_hidden 80 = .ok (.iload 7, 2) := by decide +kernel
theorem dX9_hidden_82 : decode cX9_hidden 82 = .ok (.iload_n 3, 1) := by decide +kernel
theorem dX9_hidden_83 : decode cX9_hidden 83 = .ok (.if_icmp .ge 69, 3) := by decide +kernel
theorem dX9_hidden_86 : decode cX9_hidden 86 = .ok (.iconst 0, 1) := by decide +kernel
theorem dX9_hidden_87 : decode cX9_hidden 87 = .ok (.istore 8, 2) := by decide +kernel
theorem dX9_hidden_89 : decode cX9_hidden 89 = .ok (.iload 8, 2) := by decide +kernel
theorem dX9_hidden_91 : decode cX9_hidden 91 = .ok (.bipush 100, 2) := by decide +kernel
theorem dX9_hidden_93 : decode cX9_hidden 93 = .ok (.if_icmp .gt 53, 3) := by decide +kernel
theorem dX9_hidden_96 : decode cX9_hidden 96 = .ok (.aload_n 0, 1) := by decide +kernel
theorem dX9_hidden_97 : decode cX9_hidden 97 = .ok (.iload 6, 2) := by decide +kernel
theorem dX9_hidden_99 : decode cX9_hidden 99 = .ok (.iload 7, 2) := by decide +kernel
theorem dX9_hidden_101 : decode cX9_hidden 101 = .ok (.iload 8, 2) := by decide +kernel
theorem dX9_hidden_103 : decode cX9_hidden 103 = .ok (.invokevirtual 228, 3) := by decide +kernel
theorem dX9_hidden_106 : decode cX9_hidden 106 = .ok (.ifCond .eq 34, 3) := by decide +kernel
theorem dX9_hidden_109 : decode cX9_hidden 109 = .ok (.iload 5, 2) := by decide +kernel
theorem dX9_hidden_111 : decode cX9_hidden 111 = .ok (.ifCond .ne 22, 3) := by decide +kernel
theorem dX9_hidden_114 : decode cX9_hidden 114 = .ok (.sipush 10000, 3) := by decide +kernel
theorem dX9_hidden_117 : decode cX9_hidden 117 = .ok (.iload 6, 2) := by decide +kernel
theorem dX9_hidden_119 : decode cX9_hidden 119 = .ok (.imul, 1) := by decide +kernel
theorem dX9_hidden_120 : decode cX9_hidden 120 = .ok (.sipush 1000, 3) := by decide +kernel
theorem dX9_hidden_123 : decode cX9_hidden 123 = .ok (.iload 7, 2) := by decide +kernel
theorem dX9_hidden_125 : decode cX9_hidden 125 = .ok (.imul, 1) := by decide +kernel
theorem dX9_hidden_126 : decode cX9_hidden 126 = .ok (.iadd, 1) := by decide +kernel
theorem dX9_hidden_127 : decode cX9_hidden 127 = .ok (.iload 8, 2) := by decide +kernel
theorem dX9_hidden_129 : decode cX9_hidden 129 = .ok (.iadd, 1) := by decide +kernel
theorem dX9_hidden_130 : decode cX9_hidden 130 = .ok (.goto 5, 3) := by decide +kernel
theorem dX9_hidden_133 : decode cX9_hidden 133 = .ok (.iload 4, 2) := by decide +kernel
theorem dX9_hidden_135 : decode cX9_hidden 135 = .ok (.istore 4, 2) := by decide +kernel
theorem dX9_hidden_137 : decode cX9_hidden 137 = .ok (.iinc 5 1, 3) := by decide +kernel
theorem dX9_hidden_140 : decode cX9_hidden 140 = .ok (.iinc 8 1, 3) := by decide +kernel
theorem dX9_hidden_143 : decode cX9_hidden 143 = .ok (.goto (-54), 3) := by decide +kernel
theorem dX9_hidden_146 : decode cX9_hidden 146 = .ok (.iinc 7 1, 3) := by decide +kernel
theorem dX9_hidden_149 : decode cX9_hidden 149 = .ok (.goto (-69), 3) := by decide +kernel
theorem dX9_hidden_152 : decode cX9_hidden 152 = .ok (.iinc 6 1, 3) := by decide +kernel
theorem dX9_hidden_155 : decode cX9_hidden 155 = .ok (.goto (-84), 3) := by decide +kernel
theorem dX9_hidden_158 : decode cX9_hidden 158 = .ok (.iload_n 2, 1) := by decide +kernel
theorem dX9_hidden_159 : decode cX9_hidden 159 = .ok (.iconst 1, 1) := by decide +kernel
theorem dX9_hidden_160 : decode cX9_hidden 160 = .ok (.if_icmp .ne 7, 3) := by decide +kernel
theorem dX9_hidden_163 : decode cX9_hidden 163 = .ok (.iconst 4, 1) := by decide +kernel
theorem dX9_hidden_164 : decode cX9_hidden 164 = .ok (.goto 4, 3) := by decide +kernel
theorem dX9_hidden_167 : decode cX9_hidden 167 = .ok (.iconst 1, 1) := by decide +kernel
theorem dX9_hidden_168 : decode cX9_hidden 168 = .ok (.iload_n 3, 1) := by decide +kernel
theorem dX9_hidden_169 : decode cX9_hidden 169 = .ok (.iconst 1, 1) := by decide +kernel
theorem dX9_hidden_170 : decode cX9_hidden 170 = .ok (.if_icmp .ne 7, 3) := by decide +kernel
theorem dX9_hidden_173 : decode cX9_hidden 173 = .ok (.iconst 5, 1) := by decide +kernel
theorem dX9_hidden_174 : decode cX9_hidden 174 = .ok (.goto 4, 3) := by decide +kernel
theorem dX9_hidden_177 : decode cX9_hidden 177 = .ok (.iconst 1, 1) := by decide +kernel
theorem dX9_hidden_178 : decode cX9_hidden 178 = .ok (.imul, 1) := by decide +kernel
theorem dX9_hidden_179 : decode cX9_hidden 179 = .ok (.istore 6, 2) := by decide +kernel
theorem dX9_hidden_181 : decode cX9_hidden 181 = .ok (.iload_n 1, 1) := by decide +kernel
theorem dX9_hidden_182 : decode cX9_hidden 182 = .ok (.ifCond .ne 11, 3) := by decide +kernel
theorem dX9_hidden_185 : decode cX9_hidden 185 = .ok (.iload 5, 2) := by decide +kernel
theorem dX9_hidden_187 : decode cX9_hidden 187 = .ok (.iload 6, 2) := by decide +kernel
theorem dX9_hidden_189 : decode cX9_hidden 189 = .ok (.imul, 1) := by decide +kernel
theorem dX9_hidden_190 : decode cX9_hidden 190 = .ok (.goto 5, 3) := by decide +kernel
theorem dX9_hidden_193 : decode cX9_hidden 193 = .ok (.iload 4, 2) := by decide +kernel
theorem dX9_hidden_195 : decode cX9_hidden 195 = .ok (.ireturn, 1) := by decide +kernel
theorem dX9_share_0 : decode cX9_share 0 = .ok (.aload_n 0, 1) := by decide +kernel
theorem dX9_share_1 : decode cX9_share 1 = .ok (.aload_n 0, 1) := by decide +kernel
theorem dX9_share_2 : decode cX9_share 2 = .ok (.getfield 29, 3) := by decide +kernel
theorem dX9_share_5 : decode cX9_share 5 = .ok (.invokevirtual 80, 3) := by decide +kernel
theorem dX9_share_8 : decode cX9_share 8 = .ok (.astore_n 3, 1) := by decide +kernel
theorem dX9_share_9 : decode cX9_share 9 = .ok (.aload_n 3, 1) := by decide +kernel
theorem dX9_share_10 : decode cX9_share 10 = .ok (.iload_n 1, 1) := by decide +kernel
theorem dX9_share_11 : decode cX9_share 11 = .ok (.invokevirtual 171, 3) := by decide +kernel
theorem dX9_share_14 : decode cX9_share 14 = .ok (.ifCond .ne 5, 3) := by decide +kernel
theorem dX9_share_17 : decode cX9_share 17 = .ok (.iconst (-1), 1) := by decide +kernel
theorem dX9_share_18 : decode cX9_share 18 = .ok (.ireturn, 1) := by decide +kernel
theorem dX9_share_19 : decode cX9_share 19 = .ok (.aload_n 3, 1) := by decide +kernel
theorem dX9_share_20 : decode cX9_share 20 = .ok (.getfield 84, 3) := by decide +kernel
theorem dX9_share_23 : decode cX9_share 23 = .ok (.bipush 6, 2) := by decide +kernel
theorem dX9_share_25 : decode cX9_share 25 = .ok (.if_icmp .le 6, 3) := by decide +kernel
theorem dX9_share_28 : decode cX9_share 28 = .ok (.bipush (-4), 2) := by decide +kernel
theorem dX9_share_30 : decode cX9_share 30 = .ok (.ireturn, 1) := by decide +kernel
theorem dX9_share_31 : decode cX9_share 31 = .ok (.iconst 0, 1) := by decide +kernel
theorem dX9_share_32 : decode cX9_share 32 = .ok (.istore 4, 2) := by decide +kernel
theorem dX9_share_34 : decode cX9_share 34 = .ok (.iconst 0, 1) := by decide +kernel
theorem dX9_share_35 : decode cX9_share 35 = .ok (.istore 5, 2) := by decide +kernel
theorem dX9_share_37 : decode cX9_share 37 = .ok (.iload 5, 2) := by decide +kernel
theorem dX9_share_39 : decode cX9_share 39 = .ok (.iconst 1, 1) := by decide +kernel
theorem dX9_share_40 : decode cX9_share 40 = .ok (.aload_n 3, 1) := by decide +kernel
theorem dX9_share_41 : decode cX9_share 41 = .ok (.getfield 84, 3) := by decide +kernel
theorem dX9_share_44 : decode cX9_share 44 = .ok (.ishl, 1) := by decide +kernel
theorem dX9_share_45 : decode cX9_share 45 = .ok (.if_icmp .ge 84, 3) := by decide +kernel
theorem dX9_share_48 : decode cX9_share 48 = .ok (.iload 5, 2) := by decide +kernel
theorem dX9_share_50 : decode cX9_share 50 = .ok (.iload_n 1, 1) := by decide +kernel
theorem dX9_share_51 : decode cX9_share 51 = .ok (.ishr, 1) := by decide +kernel
theorem dX9_share_52 : decode cX9_share 52 = .ok (.iconst 1, 1) := by decide +kernel
theorem dX9_share_53 : decode cX9_share 53 = .ok (.iand, 1) := by decide +kernel
theorem dX9_share_54 : decode cX9_share 54 = .ok (.ifCond .ne 69, 3) := by decide +kernel
theorem dX9_share_57 : decode cX9_share 57 = .ok (.iload 5, 2) := by decide +kernel
theorem dX9_share_59 : decode cX9_share 59 = .ok (.invokestatic 231, 3) := by decide +kernel
theorem dX9_share_62 : decode cX9_share 62 = .ok (.istore 6, 2) := by decide +kernel
theorem dX9_share_64 : decode cX9_share 64 = .ok (.getstatic 236, 3) := by decide +kernel
theorem dX9_share_67 : decode cX9_share 67 = .ok (.iload 6, 2) := by decide +kernel
theorem dX9_share_69 : decode cX9_share 69 = .ok (.iaload, 1) := by decide +kernel
theorem dX9_share_70 : decode cX9_share 70 = .ok (.getstatic 236, 3) := by decide +kernel
theorem dX9_share_73 : decode cX9_share 73 = .ok (.aload_n 3, 1) := by decide +kernel
theorem dX9_share_74 : decode cX9_share 74 = .ok (.getfield 84, 3) := by decide +kernel
theorem dX9_share_77 : decode cX9_share 77 = .ok (.iconst 1, 1) := by decide +kernel
theorem dX9_share_78 : decode cX9_share 78 = .ok (.isub, 1) := by decide +kernel
theorem dX9_share_79 : decode cX9_share 79 = .ok (.iload 6, 2) := by decide +kernel
theorem dX9_share_81 : decode cX9_share 81 = .ok (.isub, 1) := by decide +kernel
theorem dX9_share_82 : decode cX9_share 82 = .ok (.iaload, 1) := by decide +kernel
theorem dX9_share_83 : decode cX9_share 83 = .ok (.imul, 1) := by decide +kernel
theorem dX9_share_84 : decode cX9_share 84 = .ok (.istore 7, 2) := by decide +kernel
theorem dX9_share_86 : decode cX9_share 86 = .ok (.aload_n 0, 1) := by decide +kernel
theorem dX9_share_87 : decode cX9_share 87 = .ok (.aload_n 3, 1) := by decide +kernel
theorem dX9_share_88 : decode cX9_share 88 = .ok (.iload 5, 2) := by decide +kernel
theorem dX9_share_90 : decode cX9_share 90 = .ok (.iconst 1, 1) := by decide +kernel
theorem dX9_share_91 : decode cX9_share 91 = .ok (.iload_n 1, 1) := by decide +kernel
theorem dX9_share_92 : decode cX9_share 92 = .ok (.ishl, 1) := by decide +kernel
theorem dX9_share_93 : decode cX9_share 93 = .ok (.ior, 1) := by decide +kernel
theorem dX9_share_94 : decode cX9_share 94 = .ok (.invokevirtual 239, 3) := by decide +kernel
theorem dX9_share_97 : decode cX9_share 97 = .ok (.invokevirtual 242, 3) := by decide +kernel
theorem dX9_share_100 : decode cX9_share 100 = .ok (.aload_n 0, 1) := by decide +kernel
theorem dX9_share_101 : decode cX9_share 101 = .ok (.aload_n 3, 1) := by decide +kernel
theorem dX9_share_102 : decode cX9_share 102 = .ok (.iload 5, 2) := by decide +kernel
theorem dX9_share_104 : decode cX9_share 104 = .ok (.invokevirtual 239, 3) := by decide +kernel
theorem dX9_share_107 : decode cX9_share 107 = .ok (.invokevirtual 242, 3) := by decide +kernel
theorem dX9_share_110 : decode cX9_share 110 = .ok (.isub, 1) := by decide +kernel
theorem dX9_share_111 : decode cX9_share 111 = .ok (.istore 8, 2) := by decide +kernel
theorem dX9_share_113 : decode cX9_share 113 = .ok (.iload 4, 2) := by decide +kernel
theorem dX9_share_115 : decode cX9_share 115 = .ok (.iload 7, 2) := by decide +kernel
theorem dX9_share_117 : decode cX9_share 117 = .ok (.iload 8, 2) := by decide +kernel
theorem dX9_share_119 : decode cX9_share 119 = .ok (.imul, 1) := by decide +kernel
theorem dX9_share_120 : decode cX9_share 120 = .ok (.iadd, 1) := by decide +kernel
theorem dX9_share_121 : decode cX9_share 121 = .ok (.istore 4, 2) := by decide +kernel
theorem dX9_share_123 : decode cX9_share 123 = .ok (.iinc 5 1, 3) := by decide +kernel
theorem dX9_share_126 : decode cX9_share 126 = .ok (.goto (-89), 3) := by decide +kernel
theorem dX9_share_129 : decode cX9_share 129 = .ok (.iload 4, 2) := by decide +kernel
theorem dX9_share_131 : decode cX9_share 131 = .ok (.getstatic 236, 3) := by decide +kernel
theorem dX9_share_134 : decode cX9_share 134 = .ok (.aload_n 3, 1) := by decide +kernel
theorem dX9_share_135 : decode cX9_share 135 = .ok (.getfield 84, 3) := by decide +kernel
theorem dX9_share_138 : decode cX9_share 138 = .ok (.iaload, 1) := by decide +kernel
theorem dX9_share_139 : decode cX9_share 139 = .ok (.iload_n 2, 1) := by decide +kernel
theorem dX9_share_140 : decode cX9_share 140 = .ok (.invokestatic 245, 3) := by decide +kernel
theorem dX9_share_143 : decode cX9_share 143 = .ok (.ireturn, 1) := by decide +kernel
theorem dX9_lost_0 : decode cX9_lost 0 = .ok (.iload_n 1, 1) := by decide +kernel
theorem dX9_lost_1 : decode cX9_lost 1 = .ok (.ifCond .lt 20, 3) := by decide +kernel
theorem dX9_lost_4 : decode cX9_lost 4 = .ok (.iload_n 1, 1) := by decide +kernel
theorem dX9_lost_5 : decode cX9_lost 5 = .ok (.sipush 999, 3) := by decide +kernel
theorem dX9_lost_8 : decode cX9_lost 8 = .ok (.if_icmp .gt 13, 3) := by decide +kernel
theorem dX9_lost_11 : decode cX9_lost 11 = .ok (.iload_n 2, 1) := by decide +kernel
theorem dX9_lost_12 : decode cX9_lost 12 = .ok (.ifCond .lt 9, 3) := by decide +kernel
theorem dX9_lost_15 : decode cX9_lost 15 = .ok (.iload_n 2, 1) := by decide +kernel
theorem dX9_lost_16 : decode cX9_lost 16 = .ok (.bipush 10, 2) := by decide +kernel
theorem dX9_lost_18 : decode cX9_lost 18 = .ok (.if_icmp .le 6, 3) := by decide +kernel
theorem dX9_lost_21 : decode cX9_lost 21 = .ok (.bipush (-2), 2) := by decide +kernel
theorem dX9_lost_23 : decode cX9_lost 23 = .ok (.ireturn, 1) := by decide +kernel
theorem dX9_lost_24 : decode cX9_lost 24 = .ok (.aload_n 0, 1) := by decide +kernel
theorem dX9_lost_25 : decode cX9_lost 25 = .ok (.aload_n 0, 1) := by decide +kernel
theorem dX9_lost_26 : decode cX9_lost 26 = .ok (.getfield 29, 3) := by decide +kernel
theorem dX9_lost_29 : decode cX9_lost 29 = .ok (.invokevirtual 80, 3) := by decide +kernel
theorem dX9_lost_32 : decode cX9_lost 32 = .ok (.astore 4, 2) := by decide +kernel
theorem dX9_lost_34 : decode cX9_lost 34 = .ok (.aload 4, 2) := by decide +kernel
theorem dX9_lost_36 : decode cX9_lost 36 = .ok (.getfield 84, 3) := by decide +kernel
theorem dX9_lost_39 : decode cX9_lost 39 = .ok (.bipush 6, 2) := by decide +kernel
theorem dX9_lost_41 : decode cX9_lost 41 = .ok (.if_icmp .le 6, 3) := by decide +kernel
theorem dX9_lost_44 : decode cX9_lost 44 = .ok (.bipush (-4), 2) := by decide +kernel
theorem dX9_lost_46 : decode cX9_lost 46 = .ok (.ireturn, 1) := by decide +kernel
theorem dX9_lost_47 : decode cX9_lost 47 = .ok (.iconst 0, 1) := by decide +kernel
theorem dX9_lost_48 : decode cX9_lost 48 = .ok (.istore 5, 2) := by decide +kernel
theorem dX9_lost_50 : decode cX9_lost 50 = .ok (.iconst 0, 1) := by decide +kernel
theorem dX9_lost_51 : decode cX9_lost 51 = .ok (.istore 6, 2) := by decide +kernel
theorem dX9_lost_53 : decode cX9_lost 53 = .ok (.iload 6, 2) := by decide +kernel
theorem dX9_lost_55 : decode cX9_lost 55 = .ok (.iconst 1, 1) := by decide +kernel
theorem dX9_lost_56 : decode cX9_lost 56 = .ok (.aload 4, 2) := by decide +kernel
theorem dX9_lost_58 : decode cX9_lost 58 = .ok (.getfield 84, 3) := by decide +kernel
theorem dX9_lost_61 : decode cX9_lost 61 = .ok (.ishl, 1) := by decide +kernel
theorem dX9_lost_62 : decode cX9_lost 62 = .ok (.if_icmp .ge 62, 3) := by decide +kernel
theorem dX9_lost_65 : decode cX9_lost 65 = .ok (.aload_n 0, 1) := by decide +kernel
theorem dX9_lost_66 : decode cX9_lost 66 = .ok (.aload_n 0, 1) := by decide +kernel
theorem dX9_lost_67 : decode cX9_lost 67 = .ok (.getfield 29, 3) := by decide +kernel
theorem dX9_lost_70 : decode cX9_lost 70 = .ok (.aload 4, 2) := by decide +kernel
theorem dX9_lost_72 : decode cX9_lost 72 = .ok (.iload 6, 2) := by decide +kernel
theorem dX9_lost_74 : decode cX9_lost 74 = .ok (.invokevirtual 239, 3) := by decide +kernel
theorem dX9_lost_77 : decode cX9_lost 77 = .ok (.invokevirtual 179, 3) := by decide +kernel
theorem dX9_lost_80 : decode cX9_lost 80 = .ok (.iload_n 1, 1) := by decide +kernel
theorem dX9_lost_81 : decode cX9_lost 81 = .ok (.if_icmp .lt 37, 3) := by decide +kernel
theorem dX9_lost_84 : decode cX9_lost 84 = .ok (.iload 6, 2) := by decide +kernel
theorem dX9_lost_86 : decode cX9_lost 86 = .ok (.invokestatic 231, 3) := by decide +kernel
theorem dX9_lost_89 : decode cX9_lost 89 = .ok (.istore 7, 2) := by decide +kernel
theorem dX9_lost_91 : decode cX9_lost 91 = .ok (.iload 5, 2) := by decide +kernel
theorem dX9_lost_93 : decode cX9_lost 93 = .ok (.bipush 10, 2) := by decide +kernel
theorem dX9_lost_95 : decode cX9_lost 95 = .ok (.iload_n 2, 1) := by decide +kernel
theorem dX9_lost_96 : decode cX9_lost 96 = .ok (.isub, 1) := by decide +kernel
theorem dX9_lost_97 : decode cX9_lost 97 = .ok (.iload 7, 2) := by decide +kernel
theorem dX9_lost_99 : decode cX9_lost 99 = .ok (.invokestatic 249, 3) := by decide +kernel
theorem dX9_lost_102 : decode cX9_lost 102 = .ok (.iload_n 2, 1) := by decide +kernel
theorem dX9_lost_103 : decode cX9_lost 103 = .ok (.aload 4, 2) := by decide +kernel
theorem dX9_lost_105 : decode cX9_lost 105 = .ok (.getfield 84, 3) := by decide +kernel
theorem dX9_lost_108 : decode cX9_lost 108 = .ok (.iload 7, 2) := by decide +kernel
theorem dX9_lost_110 : decode cX9_lost 110 = .ok (.isub, 1) := by decide +kernel
theorem dX9_lost_111 : decode cX9_lost 111 = .ok (.invokestatic 249, 3) := by decide +kernel
theorem dX9_lost_114 : decode cX9_lost 114 = .ok (.imul, 1) := by decide +kernel
theorem dX9_lost_115 : decode cX9_lost 115 = .ok (.iadd, 1) := by decide +kernel
theorem dX9_lost_116 : decode cX9_lost 116 = .ok (.istore 5, 2) := by decide +kernel
theorem dX9_lost_118 : decode cX9_lost 118 = .ok (.iinc 6 1, 3) := by decide +kernel
theorem dX9_lost_121 : decode cX9_lost 121 = .ok (.goto (-68), 3) := by decide +kernel
theorem dX9_lost_124 : decode cX9_lost 124 = .ok (.iload 5, 2) := by decide +kernel
theorem dX9_lost_126 : decode cX9_lost 126 = .ok (.bipush 10, 2) := by decide +kernel
theorem dX9_lost_128 : decode cX9_lost 128 = .ok (.aload 4, 2) := by decide +kernel
theorem dX9_lost_130 : decode cX9_lost 130 = .ok (.getfield 84, 3) := by decide +kernel
theorem dX9_lost_133 : decode cX9_lost 133 = .ok (.invokestatic 249, 3) := by decide +kernel
theorem dX9_lost_136 : decode cX9_lost 136 = .ok (.iload_n 3, 1) := by decide +kernel
theorem dX9_lost_137 : decode cX9_lost 137 = .ok (.invokestatic 245, 3) := by decide +kernel
theorem dX9_lost_140 : decode cX9_lost 140 = .ok (.ireturn, 1) := by decide +kernel
theorem dX9_seed_0 : decode cX9_seed 0 = .ok (.aload_n 0, 1) := by decide +kernel
theorem dX9_seed_1 : decode cX9_seed 1 = .ok (.getfield 64, 3) := by decide +kernel
theorem dX9_seed_4 : decode cX9_seed 4 = .ok (.lstore_n 3, 1) := by decide +kernel
theorem dX9_seed_5 : decode cX9_seed 5 = .ok (.aload_n 0, 1) := by decide +kernel
theorem dX9_seed_6 : decode cX9_seed 6 = .ok (.lload_n 1, 1) := by decide +kernel
theorem dX9_seed_7 : decode cX9_seed 7 = .ok (.putfield 64, 3) := by decide +kernel
theorem dX9_seed_10 : decode cX9_seed 10 = .ok (.lload_n 3, 1) := by decide +kernel
theorem dX9_seed_11 : decode cX9_seed 11 = .ok (.lreturn, 1) := by decide +kernel
theorem dX9_drawn_0 : decode cX9_drawn 0 = .ok (.iload_n 1, 1) := by decide +kernel
theorem dX9_drawn_1 : decode cX9_drawn 1 = .ok (.iconst 1, 1) := by decide +kernel
theorem dX9_drawn_2 : decode cX9_drawn 2 = .ok (.if_icmp .lt 9, 3) := by decide +kernel
theorem dX9_drawn_5 : decode cX9_drawn 5 = .ok (.iload_n 1, 1) := by decide +kernel
theorem dX9_drawn_6 : decode cX9_drawn 6 = .ok (.bipush 20, 2) := by decide +kernel
theorem dX9_drawn_8 : decode cX9_drawn 8 = .ok (.if_icmp .le 6, 3) := by decide +kernel
theorem dX9_drawn_11 : decode cX9_drawn 11 = .ok (.bipush (-2), 2) := by decide +kernel
theorem dX9_drawn_13 : decode cX9_drawn 13 = .ok (.ireturn, 1) := by decide +kernel
theorem dX9_drawn_14 : decode cX9_drawn 14 = .ok (.aload_n 0, 1) := by decide +kernel
theorem dX9_drawn_15 : decode cX9_drawn 15 = .ok (.getfield 33, 3) := by decide +kernel
theorem dX9_drawn_18 : decode cX9_drawn 18 = .ok (.aload_n 0, 1) := by decide +kernel
theorem dX9_drawn_19 : decode cX9_drawn 19 = .ok (.getfield 29, 3) := by decide +kernel
theorem dX9_drawn_22 : decode cX9_drawn 22 = .ok (.invokevirtual 193, 3) := by decide +kernel
theorem dX9_drawn_25 : decode cX9_drawn 25 = .ok (.iconst 0, 1) := by decide +kernel
theorem dX9_drawn_26 : decode cX9_drawn 26 = .ok (.istore_n 2, 1) := by decide +kernel
theorem dX9_drawn_27 : decode cX9_drawn 27 = .ok (.iconst 0, 1) := by decide +kernel
theorem dX9_drawn_28 : decode cX9_drawn 28 = .ok (.istore_n 3, 1) := by decide +kernel
theorem dX9_drawn_29 : decode cX9_drawn 29 = .ok (.iload_n 3, 1) := by decide +kernel
theorem dX9_drawn_30 : decode cX9_drawn 30 = .ok (.iload_n 1, 1) := by decide +kernel
theorem dX9_drawn_31 : decode cX9_drawn 31 = .ok (.if_icmp .ge 51, 3) := by decide +kernel
theorem dX9_drawn_34 : decode cX9_drawn 34 = .ok (.aload_n 0, 1) := by decide +kernel
theorem dX9_drawn_35 : decode cX9_drawn 35 = .ok (.aload_n 0, 1) := by decide +kernel
theorem dX9_drawn_36 : decode cX9_drawn 36 = .ok (.getfield 64, 3) := by decide +kernel
theorem dX9_drawn_39 : decode cX9_drawn 39 = .ok (.ldc2_w 253, 3) := by decide +kernel
theorem dX9_drawn_42 : decode cX9_drawn 42 = .ok (.lmul, 1) := by decide +kernel
theorem dX9_drawn_43 : decode cX9_drawn 43 = .ok (.ldc2_w 255, 3) := by decide +kernel
theorem dX9_drawn_46 : decode cX9_drawn 46 = .ok (.ladd, 1) := by decide +kernel
theorem dX9_drawn_47 : decode cX9_drawn 47 = .ok (.putfield 64, 3) := by decide +kernel
theorem dX9_drawn_50 : decode cX9_drawn 50 = .ok (.aload_n 0, 1) := by decide +kernel
theorem dX9_drawn_51 : decode cX9_drawn 51 = .ok (.aload_n 0, 1) := by decide +kernel
theorem dX9_drawn_52 : decode cX9_drawn 52 = .ok (.getfield 64, 3) := by decide +kernel
theorem dX9_drawn_55 : decode cX9_drawn 55 = .ok (.bipush 33, 2) := by decide +kernel
theorem dX9_drawn_57 : decode cX9_drawn 57 = .ok (.lushr, 1) := by decide +kernel
theorem dX9_drawn_58 : decode cX9_drawn 58 = .ok (.l2i, 1) := by decide +kernel
theorem dX9_drawn_59 : decode cX9_drawn 59 = .ok (.invokevirtual 257, 3) := by decide +kernel
theorem dX9_drawn_62 : decode cX9_drawn 62 = .ok (.iload_n 2, 1) := by decide +kernel
theorem dX9_drawn_63 : decode cX9_drawn 63 = .ok (.aload_n 0, 1) := by decide +kernel
theorem dX9_drawn_64 : decode cX9_drawn 64 = .ok (.aload_n 0, 1) := by decide +kernel
theorem dX9_drawn_65 : decode cX9_drawn 65 = .ok (.getfield 33, 3) := by decide +kernel
theorem dX9_drawn_68 : decode cX9_drawn 68 = .ok (.invokevirtual 186, 3) := by decide +kernel
theorem dX9_drawn_71 : decode cX9_drawn 71 = .ok (.invokestatic 260, 3) := by decide +kernel
theorem dX9_drawn_74 : decode cX9_drawn 74 = .ok (.iadd, 1) := by decide +kernel
theorem dX9_drawn_75 : decode cX9_drawn 75 = .ok (.istore_n 2, 1) := by decide +kernel
theorem dX9_drawn_76 : decode cX9_drawn 76 = .ok (.iinc 3 1, 3) := by decide +kernel
theorem dX9_drawn_79 : decode cX9_drawn 79 = .ok (.goto (-50), 3) := by decide +kernel
theorem dX9_drawn_82 : decode cX9_drawn 82 = .ok (.iload_n 2, 1) := by decide +kernel
theorem dX9_drawn_83 : decode cX9_drawn 83 = .ok (.ireturn, 1) := by decide +kernel
theorem dX9_keep_0 : decode cX9_keep 0 = .ok (.iload_n 1, 1) := by decide +kernel
theorem dX9_keep_1 : decode cX9_keep 1 = .ok (.invokestatic 263, 3) := by decide +kernel
theorem dX9_keep_4 : decode cX9_keep 4 = .ok (.ifCond .ne 5, 3) := by decide +kernel
theorem dX9_keep_7 : decode cX9_keep 7 = .ok (.iconst (-1), 1) := by decide +kernel
theorem dX9_keep_8 : decode cX9_keep 8 = .ok (.ireturn, 1) := by decide +kernel
theorem dX9_keep_9 : decode cX9_keep 9 = .ok (.aload_n 0, 1) := by decide +kernel
theorem dX9_keep_10 : decode cX9_keep 10 = .ok (.getfield 60, 3) := by decide +kernel
theorem dX9_keep_13 : decode cX9_keep 13 = .ok (.iload_n 1, 1) := by decide +kernel
theorem dX9_keep_14 : decode cX9_keep 14 = .ok (.aaload, 1) := by decide +kernel
theorem dX9_keep_15 : decode cX9_keep 15 = .ok (.astore_n 2, 1) := by decide +kernel
theorem dX9_keep_16 : decode cX9_keep 16 = .ok (.aload_n 2, 1) := by decide +kernel
theorem dX9_keep_17 : decode cX9_keep 17 = .ok (.ifnonnull 18, 3) := by decide +kernel
theorem dX9_keep_20 : decode cX9_keep 20 = .ok (.new 26, 3) := by decide +kernel
theorem dX9_keep_23 : decode cX9_keep 23 = .ok (.dup, 1) := by decide +kernel
theorem dX9_keep_24 : decode cX9_keep 24 = .ok (.invokespecial 28, 3) := by decide +kernel
theorem dX9_keep_27 : decode cX9_keep 27 = .ok (.astore_n 2, 1) := by decide +kernel
theorem dX9_keep_28 : decode cX9_keep 28 = .ok (.aload_n 0, 1) := by decide +kernel
theorem dX9_keep_29 : decode cX9_keep 29 = .ok (.getfield 60, 3) := by decide +kernel
theorem dX9_keep_32 : decode cX9_keep 32 = .ok (.iload_n 1, 1) := by decide +kernel
theorem dX9_keep_33 : decode cX9_keep 33 = .ok (.aload_n 2, 1) := by decide +kernel
theorem dX9_keep_34 : decode cX9_keep 34 = .ok (.aastore, 1) := by decide +kernel
theorem dX9_keep_35 : decode cX9_keep 35 = .ok (.aload_n 2, 1) := by decide +kernel
theorem dX9_keep_36 : decode cX9_keep 36 = .ok (.aload_n 0, 1) := by decide +kernel
theorem dX9_keep_37 : decode cX9_keep 37 = .ok (.getfield 29, 3) := by decide +kernel
theorem dX9_keep_40 : decode cX9_keep 40 = .ok (.invokevirtual 193, 3) := by decide +kernel
theorem dX9_keep_43 : decode cX9_keep 43 = .ok (.aload_n 2, 1) := by decide +kernel
theorem dX9_keep_44 : decode cX9_keep 44 = .ok (.getfield 118, 3) := by decide +kernel
theorem dX9_keep_47 : decode cX9_keep 47 = .ok (.ireturn, 1) := by decide +kernel
theorem dX9_again_0 : decode cX9_again 0 = .ok (.iload_n 1, 1) := by decide +kernel
theorem dX9_again_1 : decode cX9_again 1 = .ok (.invokestatic 263, 3) := by decide +kernel
theorem dX9_again_4 : decode cX9_again 4 = .ok (.ifCond .ne 5, 3) := by decide +kernel
theorem dX9_again_7 : decode cX9_again 7 = .ok (.iconst (-1), 1) := by decide +kernel
theorem dX9_again_8 : decode cX9_again 8 = .ok (.ireturn, 1) := by decide +kernel
theorem dX9_again_9 : decode cX9_again 9 = .ok (.aload_n 0, 1) := by decide +kernel
theorem dX9_again_10 : decode cX9_again 10 = .ok (.getfield 60, 3) := by decide +kernel
theorem dX9_again_13 : decode cX9_again 13 = .ok (.iload_n 1, 1) := by decide +kernel
theorem dX9_again_14 : decode cX9_again 14 = .ok (.aaload, 1) := by decide +kernel
theorem dX9_again_15 : decode cX9_again 15 = .ok (.astore_n 2, 1) := by decide +kernel
theorem dX9_again_16 : decode cX9_again 16 = .ok (.aload_n 2, 1) := by decide +kernel
theorem dX9_again_17 : decode cX9_again 17 = .ok (.ifnonnull 6, 3) := by decide +kernel
theorem dX9_again_20 : decode cX9_again 20 = .ok (.bipush (-3), 2) := by decide +kernel
theorem dX9_again_22 : decode cX9_again 22 = .ok (.ireturn, 1) := by decide +kernel
theorem dX9_again_23 : decode cX9_again 23 = .ok (.aload_n 0, 1) := by decide +kernel
theorem dX9_again_24 : decode cX9_again 24 = .ok (.getfield 29, 3) := by decide +kernel
theorem dX9_again_27 : decode cX9_again 27 = .ok (.aload_n 2, 1) := by decide +kernel
theorem dX9_again_28 : decode cX9_again 28 = .ok (.invokevirtual 193, 3) := by decide +kernel
theorem dX9_again_31 : decode cX9_again 31 = .ok (.aload_n 0, 1) := by decide +kernel
theorem dX9_again_32 : decode cX9_again 32 = .ok (.getfield 39, 3) := by decide +kernel
theorem dX9_again_35 : decode cX9_again 35 = .ok (.iconst 0, 1) := by decide +kernel
theorem dX9_again_36 : decode cX9_again 36 = .ok (.putfield 156, 3) := by decide +kernel
theorem dX9_again_39 : decode cX9_again 39 = .ok (.aload_n 0, 1) := by decide +kernel
theorem dX9_again_40 : decode cX9_again 40 = .ok (.getfield 29, 3) := by decide +kernel
theorem dX9_again_43 : decode cX9_again 43 = .ok (.getfield 118, 3) := by decide +kernel
theorem dX9_again_46 : decode cX9_again 46 = .ok (.ireturn, 1) := by decide +kernel
theorem dX9_count_0 : decode cX9_count 0 = .ok (.iload_n 1, 1) := by decide +kernel
theorem dX9_count_1 : decode cX9_count 1 = .ok (.tableswitch 134 0 7 #[47, 55, 63, 75, 87, 107, 118, 126], 47) := by decide +kernel
theorem dX9_count_48 : decode cX9_count 48 = .ok (.aload_n 0, 1) := by decide +kernel
theorem dX9_count_49 : decode cX9_count 49 = .ok (.getfield 10, 3) := by decide +kernel
theorem dX9_count_52 : decode cX9_count 52 = .ok (.getfield 72, 3) := by decide +kernel
theorem dX9_count_55 : decode cX9_count 55 = .ok (.ireturn, 1) := by decide +kernel
theorem dX9_count_56 : decode cX9_count 56 = .ok (.aload_n 0, 1) := by decide +kernel
theorem dX9_count_57 : decode cX9_count 57 = .ok (.getfield 29, 3) := by decide +kernel
theorem dX9_count_60 : decode cX9_count 60 = .ok (.getfield 118, 3) := by decide +kernel
theorem dX9_count_63 : decode cX9_count 63 = .ok (.ireturn, 1) := by decide +kernel
theorem dX9_count_64 : decode cX9_count 64 = .ok (.aload_n 0, 1) := by decide +kernel
theorem dX9_count_65 : decode cX9_count 65 = .ok (.aload_n 0, 1) := by decide +kernel
theorem dX9_count_66 : decode cX9_count 66 = .ok (.getfield 29, 3) := by decide +kernel
theorem dX9_count_69 : decode cX9_count 69 = .ok (.invokevirtual 80, 3) := by decide +kernel
theorem dX9_count_72 : decode cX9_count 72 = .ok (.getfield 84, 3) := by decide +kernel
theorem dX9_count_75 : decode cX9_count 75 = .ok (.ireturn, 1) := by decide +kernel
theorem dX9_count_76 : decode cX9_count 76 = .ok (.aload_n 0, 1) := by decide +kernel
theorem dX9_count_77 : decode cX9_count 77 = .ok (.aload_n 0, 1) := by decide +kernel
theorem dX9_count_78 : decode cX9_count 78 = .ok (.getfield 29, 3) := by decide +kernel
theorem dX9_count_81 : decode cX9_count 81 = .ok (.invokevirtual 161, 3) := by decide +kernel
theorem dX9_count_84 : decode cX9_count 84 = .ok (.getfield 84, 3) := by decide +kernel
theorem dX9_count_87 : decode cX9_count 87 = .ok (.ireturn, 1) := by decide +kernel
theorem dX9_count_88 : decode cX9_count 88 = .ok (.aload_n 0, 1) := by decide +kernel
theorem dX9_count_89 : decode cX9_count 89 = .ok (.aload_n 0, 1) := by decide +kernel
theorem dX9_count_90 : decode cX9_count 90 = .ok (.getfield 29, 3) := by decide +kernel
theorem dX9_count_93 : decode cX9_count 93 = .ok (.invokevirtual 80, 3) := by decide +kernel
theorem dX9_count_96 : decode cX9_count 96 = .ok (.aload_n 0, 1) := by decide +kernel
theorem dX9_count_97 : decode cX9_count 97 = .ok (.aload_n 0, 1) := by decide +kernel
theorem dX9_count_98 : decode cX9_count 98 = .ok (.getfield 29, 3) := by decide +kernel
theorem dX9_count_101 : decode cX9_count 101 = .ok (.invokevirtual 161, 3) := by decide +kernel
theorem dX9_count_104 : decode cX9_count 104 = .ok (.invokevirtual 266, 3) := by decide +kernel
theorem dX9_count_107 : decode cX9_count 107 = .ok (.ireturn, 1) := by decide +kernel
theorem dX9_count_108 : decode cX9_count 108 = .ok (.aload_n 0, 1) := by decide +kernel
theorem dX9_count_109 : decode cX9_count 109 = .ok (.getfield 29, 3) := by decide +kernel
theorem dX9_count_112 : decode cX9_count 112 = .ok (.invokevirtual 270, 3) := by decide +kernel
theorem dX9_count_115 : decode cX9_count 115 = .ok (.invokestatic 231, 3) := by decide +kernel
theorem dX9_count_118 : decode cX9_count 118 = .ok (.ireturn, 1) := by decide +kernel
theorem dX9_count_119 : decode cX9_count 119 = .ok (.aload_n 0, 1) := by decide +kernel
theorem dX9_count_120 : decode cX9_count 120 = .ok (.getfield 39, 3) := by decide +kernel
theorem dX9_count_123 : decode cX9_count 123 = .ok (.getfield 156, 3) := by decide +kernel
theorem dX9_count_126 : decode cX9_count 126 = .ok (.ireturn, 1) := by decide +kernel
theorem dX9_count_127 : decode cX9_count 127 = .ok (.aload_n 0, 1) := by decide +kernel
theorem dX9_count_128 : decode cX9_count 128 = .ok (.getfield 56, 3) := by decide +kernel
theorem dX9_count_131 : decode cX9_count 131 = .ok (.getfield 215, 3) := by decide +kernel
theorem dX9_count_134 : decode cX9_count 134 = .ok (.ireturn, 1) := by decide +kernel
theorem dX9_count_135 : decode cX9_count 135 = .ok (.bipush (-2), 2) := by decide +kernel
theorem dX9_count_137 : decode cX9_count 137 = .ok (.ireturn, 1) := by decide +kernel
theorem dX9_isAmount_0 : decode cX9_isAmount 0 = .ok (.iload_n 0, 1) := by decide +kernel
theorem dX9_isAmount_1 : decode cX9_isAmount 1 = .ok (.ifCond .lt 13, 3) := by decide +kernel
theorem dX9_isAmount_4 : decode cX9_isAmount 4 = .ok (.iload_n 0, 1) := by decide +kernel
theorem dX9_isAmount_5 : decode cX9_isAmount 5 = .ok (.bipush 100, 2) := by decide +kernel
theorem dX9_isAmount_7 : decode cX9_isAmount 7 = .ok (.if_icmp .gt 7, 3) := by decide +kernel
theorem dX9_isAmount_10 : decode cX9_isAmount 10 = .ok (.iconst 1, 1) := by decide +kernel
theorem dX9_isAmount_11 : decode cX9_isAmount 11 = .ok (.goto 4, 3) := by decide +kernel
theorem dX9_isAmount_14 : decode cX9_isAmount 14 = .ok (.iconst 0, 1) := by decide +kernel
theorem dX9_isAmount_15 : decode cX9_isAmount 15 = .ok (.ireturn, 1) := by decide +kernel
theorem dX9_isEntry_0 : decode cX9_isEntry 0 = .ok (.iload_n 0, 1) := by decide +kernel
theorem dX9_isEntry_1 : decode cX9_isEntry 1 = .ok (.ifCond .lt 28, 3) := by decide +kernel
theorem dX9_isEntry_4 : decode cX9_isEntry 4 = .ok (.iload_n 0, 1) := by decide +kernel
theorem dX9_isEntry_5 : decode cX9_isEntry 5 = .ok (.iconst 4, 1) := by decide +kernel
theorem dX9_isEntry_6 : decode cX9_isEntry 6 = .ok (.if_icmp .ge 23, 3) := by decide +kernel
theorem dX9_isEntry_9 : decode cX9_isEntry 9 = .ok (.iload_n 1, 1) := by decide +kernel
theorem dX9_isEntry_10 : decode cX9_isEntry 10 = .ok (.ifCond .lt 19, 3) := by decide +kernel
theorem dX9_isEntry_13 : decode cX9_isEntry 13 = .ok (.iload_n 1, 1) := by decide +kernel
theorem dX9_isEntry_14 : decode cX9_isEntry 14 = .ok (.iconst 5, 1) := by decide +kernel
theorem dX9_isEntry_15 : decode cX9_isEntry 15 = .ok (.if_icmp .ge 14, 3) := by decide +kernel
theorem dX9_isEntry_18 : decode cX9_isEntry 18 = .ok (.iload_n 2, 1) := by decide +kernel
theorem dX9_isEntry_19 : decode cX9_isEntry 19 = .ok (.invokestatic 146, 3) := by decide +kernel
theorem dX9_isEntry_22 : decode cX9_isEntry 22 = .ok (.ifCond .eq 7, 3) := by decide +kernel
theorem dX9_isEntry_25 : decode cX9_isEntry 25 = .ok (.iconst 1, 1) := by decide +kernel
theorem dX9_isEntry_26 : decode cX9_isEntry 26 = .ok (.goto 4, 3) := by decide +kernel
theorem dX9_isEntry_29 : decode cX9_isEntry 29 = .ok (.iconst 0, 1) := by decide +kernel
theorem dX9_isEntry_30 : decode cX9_isEntry 30 = .ok (.ireturn, 1) := by decide +kernel
theorem dX9_isAxis_0 : decode cX9_isAxis 0 = .ok (.iload_n 0, 1) := by decide +kernel
theorem dX9_isAxis_1 : decode cX9_isAxis 1 = .ok (.invokestatic 190, 3) := by decide +kernel
theorem dX9_isAxis_4 : decode cX9_isAxis 4 = .ok (.ireturn, 1) := by decide +kernel
theorem dX9_isOneOfTwo_0 : decode cX9_isOneOfTwo 0 = .ok (.iload_n 0, 1) := by decide +kernel
theorem dX9_isOneOfTwo_1 : decode cX9_isOneOfTwo 1 = .ok (.ifCond .eq 8, 3) := by decide +kernel
theorem dX9_isOneOfTwo_4 : decode cX9_isOneOfTwo 4 = .ok (.iload_n 0, 1) := by decide +kernel
theorem dX9_isOneOfTwo_5 : decode cX9_isOneOfTwo 5 = .ok (.iconst 1, 1) := by decide +kernel
theorem dX9_isOneOfTwo_6 : decode cX9_isOneOfTwo 6 = .ok (.if_icmp .ne 7, 3) := by decide +kernel
theorem dX9_isOneOfTwo_9 : decode cX9_isOneOfTwo 9 = .ok (.iconst 1, 1) := by decide +kernel
theorem dX9_isOneOfTwo_10 : decode cX9_isOneOfTwo 10 = .ok (.goto 4, 3) := by decide +kernel
theorem dX9_isOneOfTwo_13 : decode cX9_isOneOfTwo 13 = .ok (.iconst 0, 1) := by decide +kernel
theorem dX9_isOneOfTwo_14 : decode cX9_isOneOfTwo 14 = .ok (.ireturn, 1) := by decide +kernel
theorem dX9_isRowKey_0 : decode cX9_isRowKey 0 = .ok (.iload_n 0, 1) := by decide +kernel
theorem dX9_isRowKey_1 : decode cX9_isRowKey 1 = .ok (.ifCond .lt 9, 3) := by decide +kernel
theorem dX9_isRowKey_4 : decode cX9_isRowKey 4 = .ok (.iload_n 0, 1) := by decide +kernel
theorem dX9_isRowKey_5 : decode cX9_isRowKey 5 = .ok (.bipush 20, 2) := by decide +kernel
theorem dX9_isRowKey_7 : decode cX9_isRowKey 7 = .ok (.if_icmp .le 9, 3) := by decide +kernel
theorem dX9_isRowKey_10 : decode cX9_isRowKey 10 = .ok (.iload_n 0, 1) := by decide +kernel
theorem dX9_isRowKey_11 : decode cX9_isRowKey 11 = .ok (.bipush 99, 2) := by decide +kernel
theorem dX9_isRowKey_13 : decode cX9_isRowKey 13 = .ok (.if_icmp .ne 7, 3) := by decide +kernel
theorem dX9_isRowKey_16 : decode cX9_isRowKey 16 = .ok (.iconst 1, 1) := by decide +kernel
theorem dX9_isRowKey_17 : decode cX9_isRowKey 17 = .ok (.goto 4, 3) := by decide +kernel
theorem dX9_isRowKey_20 : decode cX9_isRowKey 20 = .ok (.iconst 0, 1) := by decide +kernel
theorem dX9_isRowKey_21 : decode cX9_isRowKey 21 = .ok (.ireturn, 1) := by decide +kernel
theorem dX9_isSeenMeasure_0 : decode cX9_isSeenMeasure 0 = .ok (.iload_n 0, 1) := by decide +kernel
theorem dX9_isSeenMeasure_1 : decode cX9_isSeenMeasure 1 = .ok (.bipush (-9), 2) := by decide +kernel
theorem dX9_isSeenMeasure_3 : decode cX9_isSeenMeasure 3 = .ok (.if_icmp .eq 14, 3) := by decide +kernel
theorem dX9_isSeenMeasure_6 : decode cX9_isSeenMeasure 6 = .ok (.iload_n 0, 1) := by decide +kernel
theorem dX9_isSeenMeasure_7 : decode cX9_isSeenMeasure 7 = .ok (.ifCond .lt 14, 3) := by decide +kernel
theorem dX9_isSeenMeasure_10 : decode cX9_isSeenMeasure 10 = .ok (.iload_n 0, 1) := by decide +kernel
theorem dX9_isSeenMeasure_11 : decode cX9_isSeenMeasure 11 = .ok (.sipush 9999, 3) := by decide +kernel
theorem dX9_isSeenMeasure_14 : decode cX9_isSeenMeasure 14 = .ok (.if_icmp .gt 7, 3) := by decide +kernel
theorem dX9_isSeenMeasure_17 : decode cX9_isSeenMeasure 17 = .ok (.iconst 1, 1) := by decide +kernel
theorem dX9_isSeenMeasure_18 : decode cX9_isSeenMeasure 18 = .ok (.goto 4, 3) := by decide +kernel
theorem dX9_isSeenMeasure_21 : decode cX9_isSeenMeasure 21 = .ok (.iconst 0, 1) := by decide +kernel
theorem dX9_isSeenMeasure_22 : decode cX9_isSeenMeasure 22 = .ok (.ireturn, 1) := by decide +kernel
theorem dX9_isSlot_0 : decode cX9_isSlot 0 = .ok (.iload_n 0, 1) := by decide +kernel
theorem dX9_isSlot_1 : decode cX9_isSlot 1 = .ok (.ifCond .lt 12, 3) := by decide +kernel
theorem dX9_isSlot_4 : decode cX9_isSlot 4 = .ok (.iload_n 0, 1) := by decide +kernel
theorem dX9_isSlot_5 : decode cX9_isSlot 5 = .ok (.iconst 2, 1) := by decide +kernel
theorem dX9_isSlot_6 : decode cX9_isSlot 6 = .ok (.if_icmp .ge 7, 3) := by decide +kernel
theorem dX9_isSlot_9 : decode cX9_isSlot 9 = .ok (.iconst 1, 1) := by decide +kernel
theorem dX9_isSlot_10 : decode cX9_isSlot 10 = .ok (.goto 4, 3) := by decide +kernel
theorem dX9_isSlot_13 : decode cX9_isSlot 13 = .ok (.iconst 0, 1) := by decide +kernel
theorem dX9_isSlot_14 : decode cX9_isSlot 14 = .ok (.ireturn, 1) := by decide +kernel
theorem dX9_rowsOf_0 : decode cX9_rowsOf 0 = .ok (.aload_n 0, 1) := by decide +kernel
theorem dX9_rowsOf_1 : decode cX9_rowsOf 1 = .ok (.getfield 46, 3) := by decide +kernel
theorem dX9_rowsOf_4 : decode cX9_rowsOf 4 = .ok (.aload_n 1, 1) := by decide +kernel
theorem dX9_rowsOf_5 : decode cX9_rowsOf 5 = .ok (.aload_n 0, 1) := by decide +kernel
theorem dX9_rowsOf_6 : decode cX9_rowsOf 6 = .ok (.getfield 19, 3) := by decide +kernel
theorem dX9_rowsOf_9 : decode cX9_rowsOf 9 = .ok (.getfield 216, 3) := by decide +kernel
theorem dX9_rowsOf_12 : decode cX9_rowsOf 12 = .ok (.aload_n 0, 1) := by decide +kernel
theorem dX9_rowsOf_13 : decode cX9_rowsOf 13 = .ok (.getfield 19, 3) := by decide +kernel
theorem dX9_rowsOf_16 : decode cX9_rowsOf 16 = .ok (.getfield 273, 3) := by decide +kernel
theorem dX9_rowsOf_19 : decode cX9_rowsOf 19 = .ok (.invokevirtual 276, 3) := by decide +kernel
theorem dX9_rowsOf_22 : decode cX9_rowsOf 22 = .ok (.aload_n 0, 1) := by decide +kernel
theorem dX9_rowsOf_23 : decode cX9_rowsOf 23 = .ok (.getfield 46, 3) := by decide +kernel
theorem dX9_rowsOf_26 : decode cX9_rowsOf 26 = .ok (.aload_n 1, 1) := by decide +kernel
theorem dX9_rowsOf_27 : decode cX9_rowsOf 27 = .ok (.aload_n 0, 1) := by decide +kernel
theorem dX9_rowsOf_28 : decode cX9_rowsOf 28 = .ok (.getfield 19, 3) := by decide +kernel
theorem dX9_rowsOf_31 : decode cX9_rowsOf 31 = .ok (.getfield 87, 3) := by decide +kernel
theorem dX9_rowsOf_34 : decode cX9_rowsOf 34 = .ok (.aload_n 0, 1) := by decide +kernel
theorem dX9_rowsOf_35 : decode cX9_rowsOf 35 = .ok (.getfield 19, 3) := by decide +kernel
theorem dX9_rowsOf_38 : decode cX9_rowsOf 38 = .ok (.getfield 280, 3) := by decide +kernel
theorem dX9_rowsOf_41 : decode cX9_rowsOf 41 = .ok (.invokevirtual 283, 3) := by decide +kernel
theorem dX9_rowsOf_44 : decode cX9_rowsOf 44 = .ok (.aload_n 0, 1) := by decide +kernel
theorem dX9_rowsOf_45 : decode cX9_rowsOf 45 = .ok (.getfield 46, 3) := by decide +kernel
theorem dX9_rowsOf_48 : decode cX9_rowsOf 48 = .ok (.areturn, 1) := by decide +kernel
theorem dX9_columnsOf_0 : decode cX9_columnsOf 0 = .ok (.aload_n 0, 1) := by decide +kernel
theorem dX9_columnsOf_1 : decode cX9_columnsOf 1 = .ok (.getfield 50, 3) := by decide +kernel
theorem dX9_columnsOf_4 : decode cX9_columnsOf 4 = .ok (.aload_n 1, 1) := by decide +kernel
theorem dX9_columnsOf_5 : decode cX9_columnsOf 5 = .ok (.aload_n 0, 1) := by decide +kernel
theorem dX9_columnsOf_6 : decode cX9_columnsOf 6 = .ok (.getfield 19, 3) := by decide +kernel
theorem dX9_columnsOf_9 : decode cX9_columnsOf 9 = .ok (.getfield 287, 3) := by decide +kernel
theorem dX9_columnsOf_12 : decode cX9_columnsOf 12 = .ok (.aload_n 0, 1) := by decide +kernel
theorem dX9_columnsOf_13 : decode cX9_columnsOf 13 = .ok (.getfield 19, 3) := by decide +kernel
theorem dX9_columnsOf_16 : decode cX9_columnsOf 16 = .ok (.getfield 273, 3) := by decide +kernel
theorem dX9_columnsOf_19 : decode cX9_columnsOf 19 = .ok (.invokevirtual 276, 3) := by decide +kernel
theorem dX9_columnsOf_22 : decode cX9_columnsOf 22 = .ok (.aload_n 0, 1) := by decide +kernel
theorem dX9_columnsOf_23 : decode cX9_columnsOf 23 = .ok (.getfield 50, 3) := by decide +kernel
theorem dX9_columnsOf_26 : decode cX9_columnsOf 26 = .ok (.areturn, 1) := by decide +kernel
theorem dX9_axisOf_0 : decode cX9_axisOf 0 = .ok (.iload_n 1, 1) := by decide +kernel
theorem dX9_axisOf_1 : decode cX9_axisOf 1 = .ok (.ifCond .ne 14, 3) := by decide +kernel
theorem dX9_axisOf_4 : decode cX9_axisOf 4 = .ok (.aload_n 0, 1) := by decide +kernel
theorem dX9_axisOf_5 : decode cX9_axisOf 5 = .ok (.aload_n 0, 1) := by decide +kernel
theorem dX9_axisOf_6 : decode cX9_axisOf 6 = .ok (.getfield 29, 3) := by decide +kernel
theorem dX9_axisOf_9 : decode cX9_axisOf 9 = .ok (.invokevirtual 80, 3) := by decide +kernel
theorem dX9_axisOf_12 : decode cX9_axisOf 12 = .ok (.goto 11, 3) := by decide +kernel
theorem dX9_axisOf_15 : decode cX9_axisOf 15 = .ok (.aload_n 0, 1) := by decide +kernel
theorem dX9_axisOf_16 : decode cX9_axisOf 16 = .ok (.aload_n 0, 1) := by decide +kernel
theorem dX9_axisOf_17 : decode cX9_axisOf 17 = .ok (.getfield 29, 3) := by decide +kernel
theorem dX9_axisOf_20 : decode cX9_axisOf 20 = .ok (.invokevirtual 161, 3) := by decide +kernel
theorem dX9_axisOf_23 : decode cX9_axisOf 23 = .ok (.areturn, 1) := by decide +kernel
theorem dX9_cellOf_0 : decode cX9_cellOf 0 = .ok (.aload_n 0, 1) := by decide +kernel
theorem dX9_cellOf_1 : decode cX9_cellOf 1 = .ok (.aload_n 1, 1) := by decide +kernel
theorem dX9_cellOf_2 : decode cX9_cellOf 2 = .ok (.invokevirtual 80, 3) := by decide +kernel
theorem dX9_cellOf_5 : decode cX9_cellOf 5 = .ok (.iload_n 2, 1) := by decide +kernel
theorem dX9_cellOf_6 : decode cX9_cellOf 6 = .ok (.invokevirtual 183, 3) := by decide +kernel
theorem dX9_cellOf_9 : decode cX9_cellOf 9 = .ok (.aload_n 0, 1) := by decide +kernel
theorem dX9_cellOf_10 : decode cX9_cellOf 10 = .ok (.aload_n 1, 1) := by decide +kernel
theorem dX9_cellOf_11 : decode cX9_cellOf 11 = .ok (.invokevirtual 161, 3) := by decide +kernel
theorem dX9_cellOf_14 : decode cX9_cellOf 14 = .ok (.iload_n 3, 1) := by decide +kernel
theorem dX9_cellOf_15 : decode cX9_cellOf 15 = .ok (.invokevirtual 183, 3) := by decide +kernel
theorem dX9_cellOf_18 : decode cX9_cellOf 18 = .ok (.iand, 1) := by decide +kernel
theorem dX9_cellOf_19 : decode cX9_cellOf 19 = .ok (.ireturn, 1) := by decide +kernel
theorem dX9_measureOf_0 : decode cX9_measureOf 0 = .ok (.aload_n 0, 1) := by decide +kernel
theorem dX9_measureOf_1 : decode cX9_measureOf 1 = .ok (.getfield 19, 3) := by decide +kernel
theorem dX9_measureOf_4 : decode cX9_measureOf 4 = .ok (.getfield 87, 3) := by decide +kernel
theorem dX9_measureOf_7 : decode cX9_measureOf 7 = .ok (.aload_n 1, 1) := by decide +kernel
theorem dX9_measureOf_8 : decode cX9_measureOf 8 = .ok (.iload_n 2, 1) := by decide +kernel
theorem dX9_measureOf_9 : decode cX9_measureOf 9 = .ok (.invokevirtual 290, 3) := by decide +kernel
theorem dX9_measureOf_12 : decode cX9_measureOf 12 = .ok (.ireturn, 1) := by decide +kernel
theorem dX9_totalOf_0 : decode cX9_totalOf 0 = .ok (.aload_n 0, 1) := by decide +kernel
theorem dX9_totalOf_1 : decode cX9_totalOf 1 = .ok (.aload_n 1, 1) := by decide +kernel
theorem dX9_totalOf_2 : decode cX9_totalOf 2 = .ok (.aload_n 1, 1) := by decide +kernel
theorem dX9_totalOf_3 : decode cX9_totalOf 3 = .ok (.invokevirtual 196, 3) := by decide +kernel
theorem dX9_totalOf_6 : decode cX9_totalOf 6 = .ok (.invokevirtual 179, 3) := by decide +kernel
theorem dX9_totalOf_9 : decode cX9_totalOf 9 = .ok (.ireturn, 1) := by decide +kernel
theorem dX9_worthOf_0 : decode cX9_worthOf 0 = .ok (.aload_n 0, 1) := by decide +kernel
theorem dX9_worthOf_1 : decode cX9_worthOf 1 = .ok (.aload_n 0, 1) := by decide +kernel
theorem dX9_worthOf_2 : decode cX9_worthOf 2 = .ok (.getfield 29, 3) := by decide +kernel
theorem dX9_worthOf_5 : decode cX9_worthOf 5 = .ok (.iload_n 1, 1) := by decide +kernel
theorem dX9_worthOf_6 : decode cX9_worthOf 6 = .ok (.invokevirtual 179, 3) := by decide +kernel
theorem dX9_worthOf_9 : decode cX9_worthOf 9 = .ok (.invokestatic 260, 3) := by decide +kernel
theorem dX9_worthOf_12 : decode cX9_worthOf 12 = .ok (.ireturn, 1) := by decide +kernel
theorem dX9_noneAsZero_0 : decode cX9_noneAsZero 0 = .ok (.iload_n 0, 1) := by decide +kernel
theorem dX9_noneAsZero_1 : decode cX9_noneAsZero 1 = .ok (.bipush (-9), 2) := by decide +kernel
theorem dX9_noneAsZero_3 : decode cX9_noneAsZero 3 = .ok (.if_icmp .ne 7, 3) := by decide +kernel
theorem dX9_noneAsZero_6 : decode cX9_noneAsZero 6 = .ok (.iconst 0, 1) := by decide +kernel
theorem dX9_noneAsZero_7 : decode cX9_noneAsZero 7 = .ok (.goto 4, 3) := by decide +kernel
theorem dX9_noneAsZero_10 : decode cX9_noneAsZero 10 = .ok (.iload_n 0, 1) := by decide +kernel
theorem dX9_noneAsZero_11 : decode cX9_noneAsZero 11 = .ok (.ireturn, 1) := by decide +kernel
theorem dX9_stands_0 : decode cX9_stands 0 = .ok (.iload_n 1, 1) := by decide +kernel
theorem dX9_stands_1 : decode cX9_stands 1 = .ok (.bipush 100, 2) := by decide +kernel
theorem dX9_stands_3 : decode cX9_stands 3 = .ok (.idiv, 1) := by decide +kernel
theorem dX9_stands_4 : decode cX9_stands 4 = .ok (.bipush 10, 2) := by decide +kernel
theorem dX9_stands_6 : decode cX9_stands 6 = .ok (.irem, 1) := by decide +kernel
theorem dX9_stands_7 : decode cX9_stands 7 = .ok (.istore_n 2, 1) := by decide +kernel
theorem dX9_stands_8 : decode cX9_stands 8 = .ok (.iload_n 1, 1) := by decide +kernel
theorem dX9_stands_9 : decode cX9_stands 9 = .ok (.bipush 10, 2) := by decide +kernel
theorem dX9_stands_11 : decode cX9_stands 11 = .ok (.idiv, 1) := by decide +kernel
theorem dX9_stands_12 : decode cX9_stands 12 = .ok (.bipush 10, 2) := by decide +kernel
theorem dX9_stands_14 : decode cX9_stands 14 = .ok (.irem, 1) := by decide +kernel
theorem dX9_stands_15 : decode cX9_stands 15 = .ok (.istore_n 3, 1) := by decide +kernel
theorem dX9_stands_16 : decode cX9_stands 16 = .ok (.iload_n 1, 1) := by decide +kernel
theorem dX9_stands_17 : decode cX9_stands 17 = .ok (.bipush 10, 2) := by decide +kernel
theorem dX9_stands_19 : decode cX9_stands 19 = .ok (.irem, 1) := by decide +kernel
theorem dX9_stands_20 : decode cX9_stands 20 = .ok (.istore 4, 2) := by decide +kernel
theorem dX9_stands_22 : decode cX9_stands 22 = .ok (.iload_n 1, 1) := by decide +kernel
theorem dX9_stands_23 : decode cX9_stands 23 = .ok (.bipush 100, 2) := by decide +kernel
theorem dX9_stands_25 : decode cX9_stands 25 = .ok (.irem, 1) := by decide +kernel
theorem dX9_stands_26 : decode cX9_stands 26 = .ok (.istore 5, 2) := by decide +kernel
theorem dX9_stands_28 : decode cX9_stands 28 = .ok (.iload_n 1, 1) := by decide +kernel
theorem dX9_stands_29 : decode cX9_stands 29 = .ok (.sipush 1000, 3) := by decide +kernel
theorem dX9_stands_32 : decode cX9_stands 32 = .ok (.idiv, 1) := by decide +kernel
theorem dX9_stands_33 : decode cX9_stands 33 = .ok (.tableswitch 163 1 6 #[39, 51, 70, 81, 111, 140], 39) := by decide +kernel
theorem dX9_stands_72 : decode cX9_stands 72 = .ok (.aload_n 0, 1) := by decide +kernel
theorem dX9_stands_73 : decode cX9_stands 73 = .ok (.iload_n 2, 1) := by decide +kernel
theorem dX9_stands_74 : decode cX9_stands 74 = .ok (.iload_n 3, 1) := by decide +kernel
theorem dX9_stands_75 : decode cX9_stands 75 = .ok (.bipush 11, 2) := by decide +kernel
theorem dX9_stands_77 : decode cX9_stands 77 = .ok (.iload 4, 2) := by decide +kernel
theorem dX9_stands_79 : decode cX9_stands 79 = .ok (.imul, 1) := by decide +kernel
theorem dX9_stands_80 : decode cX9_stands 80 = .ok (.invokevirtual 293, 3) := by decide +kernel
theorem dX9_stands_83 : decode cX9_stands 83 = .ok (.ireturn, 1) := by decide +kernel
theorem dX9_stands_84 : decode cX9_stands 84 = .ok (.iload_n 2, 1) := by decide +kernel
theorem dX9_stands_85 : decode cX9_stands 85 = .ok (.ifCond .ne 16, 3) := by decide +kernel
theorem dX9_stands_88 : decode cX9_stands 88 = .ok (.aload_n 0, 1) := by decide +kernel
theorem dX9_stands_89 : decode cX9_stands 89 = .ok (.iload 5, 2) := by decide +kernel
theorem dX9_stands_91 : decode cX9_stands 91 = .ok (.invokevirtual 296, 3) := by decide +kernel
theorem dX9_stands_94 : decode cX9_stands 94 = .ok (.ifCond .eq 7, 3) := by decide +kernel
theorem dX9_stands_97 : decode cX9_stands 97 = .ok (.iconst 1, 1) := by decide +kernel
theorem dX9_stands_98 : decode cX9_stands 98 = .ok (.goto 4, 3) := by decide +kernel
theorem dX9_stands_101 : decode cX9_stands 101 = .ok (.iconst 0, 1) := by decide +kernel
theorem dX9_stands_102 : decode cX9_stands 102 = .ok (.ireturn, 1) := by decide +kernel
theorem dX9_stands_103 : decode cX9_stands 103 = .ok (.aload_n 0, 1) := by decide +kernel
theorem dX9_stands_104 : decode cX9_stands 104 = .ok (.iload 5, 2) := by decide +kernel
theorem dX9_stands_106 : decode cX9_stands 106 = .ok (.bipush 11, 2) := by decide +kernel
theorem dX9_stands_108 : decode cX9_stands 108 = .ok (.iload_n 2, 1) := by decide +kernel
theorem dX9_stands_109 : decode cX9_stands 109 = .ok (.imul, 1) := by decide +kernel
theorem dX9_stands_110 : decode cX9_stands 110 = .ok (.invokevirtual 299, 3) := by decide +kernel
theorem dX9_stands_113 : decode cX9_stands 113 = .ok (.ireturn, 1) := by decide +kernel
theorem dX9_stands_114 : decode cX9_stands 114 = .ok (.iload_n 2, 1) := by decide +kernel
theorem dX9_stands_115 : decode cX9_stands 115 = .ok (.ifCond .ne 27, 3) := by decide +kernel
theorem dX9_stands_118 : decode cX9_stands 118 = .ok (.iload_n 3, 1) := by decide +kernel
theorem dX9_stands_119 : decode cX9_stands 119 = .ok (.ifCond .ne 23, 3) := by decide +kernel
theorem dX9_stands_122 : decode cX9_stands 122 = .ok (.aload_n 0, 1) := by decide +kernel
theorem dX9_stands_123 : decode cX9_stands 123 = .ok (.aload_n 0, 1) := by decide +kernel
theorem dX9_stands_124 : decode cX9_stands 124 = .ok (.getfield 33, 3) := by decide +kernel
theorem dX9_stands_127 : decode cX9_stands 127 = .ok (.invokevirtual 80, 3) := by decide +kernel
theorem dX9_stands_130 : decode cX9_stands 130 = .ok (.getfield 84, 3) := by decide +kernel
theorem dX9_stands_133 : decode cX9_stands 133 = .ok (.iload 4, 2) := by decide +kernel
theorem dX9_stands_135 : decode cX9_stands 135 = .ok (.if_icmp .lt 7, 3) := by decide +kernel
theorem dX9_stands_138 : decode cX9_stands 138 = .ok (.iconst 1, 1) := by decide +kernel
theorem dX9_stands_139 : decode cX9_stands 139 = .ok (.goto 4, 3) := by decide +kernel
theorem dX9_stands_142 : decode cX9_stands 142 = .ok (.iconst 0, 1) := by decide +kernel
theorem dX9_stands_143 : decode cX9_stands 143 = .ok (.ireturn, 1) := by decide +kernel
theorem dX9_stands_144 : decode cX9_stands 144 = .ok (.aload_n 0, 1) := by decide +kernel
theorem dX9_stands_145 : decode cX9_stands 145 = .ok (.aload_n 0, 1) := by decide +kernel
theorem dX9_stands_146 : decode cX9_stands 146 = .ok (.getfield 33, 3) := by decide +kernel
theorem dX9_stands_149 : decode cX9_stands 149 = .ok (.aload_n 0, 1) := by decide +kernel
theorem dX9_stands_150 : decode cX9_stands 150 = .ok (.aload_n 0, 1) := by decide +kernel
theorem dX9_stands_151 : decode cX9_stands 151 = .ok (.getfield 33, 3) := by decide +kernel
theorem dX9_stands_154 : decode cX9_stands 154 = .ok (.iload_n 2, 1) := by decide +kernel
theorem dX9_stands_155 : decode cX9_stands 155 = .ok (.iload_n 3, 1) := by decide +kernel
theorem dX9_stands_156 : decode cX9_stands 156 = .ok (.invokevirtual 175, 3) := by decide +kernel
theorem dX9_stands_159 : decode cX9_stands 159 = .ok (.invokevirtual 179, 3) := by decide +kernel
theorem dX9_stands_162 : decode cX9_stands 162 = .ok (.iload 4, 2) := by decide +kernel
theorem dX9_stands_164 : decode cX9_stands 164 = .ok (.if_icmp .lt 7, 3) := by decide +kernel
theorem dX9_stands_167 : decode cX9_stands 167 = .ok (.iconst 1, 1) := by decide +kernel
theorem dX9_stands_168 : decode cX9_stands 168 = .ok (.goto 4, 3) := by decide +kernel
theorem dX9_stands_171 : decode cX9_stands 171 = .ok (.iconst 0, 1) := by decide +kernel
theorem dX9_stands_172 : decode cX9_stands 172 = .ok (.ireturn, 1) := by decide +kernel
theorem dX9_stands_173 : decode cX9_stands 173 = .ok (.iload_n 2, 1) := by decide +kernel
theorem dX9_stands_174 : decode cX9_stands 174 = .ok (.ifCond .ne 20, 3) := by decide +kernel
theorem dX9_stands_177 : decode cX9_stands 177 = .ok (.aload_n 0, 1) := by decide +kernel
theorem dX9_stands_178 : decode cX9_stands 178 = .ok (.aload_n 0, 1) := by decide +kernel
theorem dX9_stands_179 : decode cX9_stands 179 = .ok (.getfield 33, 3) := by decide +kernel
theorem dX9_stands_182 : decode cX9_stands 182 = .ok (.invokevirtual 186, 3) := by decide +kernel
theorem dX9_stands_185 : decode cX9_stands 185 = .ok (.iload 5, 2) := by decide +kernel
theorem dX9_stands_187 : decode cX9_stands 187 = .ok (.if_icmp .lt 7, 3) := by decide +kernel
theorem dX9_stands_190 : decode cX9_stands 190 = .ok (.iconst 1, 1) := by decide +kernel
theorem dX9_stands_191 : decode cX9_stands 191 = .ok (.goto 4, 3) := by decide +kernel
theorem dX9_stands_194 : decode cX9_stands 194 = .ok (.iconst 0, 1) := by decide +kernel
theorem dX9_stands_195 : decode cX9_stands 195 = .ok (.ireturn, 1) := by decide +kernel
theorem dX9_stands_196 : decode cX9_stands 196 = .ok (.iconst 0, 1) := by decide +kernel
theorem dX9_stands_197 : decode cX9_stands 197 = .ok (.ireturn, 1) := by decide +kernel
theorem dX9_addToTrial_0 : decode cX9_addToTrial 0 = .ok (.iload_n 1, 1) := by decide +kernel
theorem dX9_addToTrial_1 : decode cX9_addToTrial 1 = .ok (.iload_n 2, 1) := by decide +kernel
theorem dX9_addToTrial_2 : decode cX9_addToTrial 2 = .ok (.iload_n 3, 1) := by decide +kernel
theorem dX9_addToTrial_3 : decode cX9_addToTrial 3 = .ok (.invokestatic 106, 3) := by decide +kernel
theorem dX9_addToTrial_6 : decode cX9_addToTrial 6 = .ok (.ifCond .eq 17, 3) := by decide +kernel
theorem dX9_addToTrial_9 : decode cX9_addToTrial 9 = .ok (.aload_n 0, 1) := by decide +kernel
theorem dX9_addToTrial_10 : decode cX9_addToTrial 10 = .ok (.getfield 33, 3) := by decide +kernel
theorem dX9_addToTrial_13 : decode cX9_addToTrial 13 = .ok (.invokevirtual 110, 3) := by decide +kernel
theorem dX9_addToTrial_16 : decode cX9_addToTrial 16 = .ok (.ifCond .eq 7, 3) := by decide +kernel
theorem dX9_addToTrial_19 : decode cX9_addToTrial 19 = .ok (.iconst 1, 1) := by decide +kernel
theorem dX9_addToTrial_20 : decode cX9_addToTrial 20 = .ok (.goto 4, 3) := by decide +kernel
theorem dX9_addToTrial_23 : decode cX9_addToTrial 23 = .ok (.iconst 0, 1) := by decide +kernel
theorem dX9_addToTrial_24 : decode cX9_addToTrial 24 = .ok (.istore 4, 2) := by decide +kernel
theorem dX9_addToTrial_26 : decode cX9_addToTrial 26 = .ok (.iload 4, 2) := by decide +kernel
theorem dX9_addToTrial_28 : decode cX9_addToTrial 28 = .ok (.ifCond .eq 13, 3) := by decide +kernel
theorem dX9_addToTrial_31 : decode cX9_addToTrial 31 = .ok (.aload_n 0, 1) := by decide +kernel
theorem dX9_addToTrial_32 : decode cX9_addToTrial 32 = .ok (.getfield 33, 3) := by decide +kernel
theorem dX9_addToTrial_35 : decode cX9_addToTrial 35 = .ok (.iload_n 1, 1) := by decide +kernel
theorem dX9_addToTrial_36 : decode cX9_addToTrial 36 = .ok (.iload_n 2, 1) := by decide +kernel
theorem dX9_addToTrial_37 : decode cX9_addToTrial 37 = .ok (.iload_n 3, 1) := by decide +kernel
theorem dX9_addToTrial_38 : decode cX9_addToTrial 38 = .ok (.invokevirtual 125, 3) := by decide +kernel
theorem dX9_addToTrial_41 : decode cX9_addToTrial 41 = .ok (.iload 4, 2) := by decide +kernel
theorem dX9_addToTrial_43 : decode cX9_addToTrial 43 = .ok (.ireturn, 1) := by decide +kernel
theorem dX9_dropFromTrial_0 : decode cX9_dropFromTrial 0 = .ok (.aload_n 0, 1) := by decide +kernel
theorem dX9_dropFromTrial_1 : decode cX9_dropFromTrial 1 = .ok (.getfield 33, 3) := by decide +kernel
theorem dX9_dropFromTrial_4 : decode cX9_dropFromTrial 4 = .ok (.iload_n 1, 1) := by decide +kernel
theorem dX9_dropFromTrial_5 : decode cX9_dropFromTrial 5 = .ok (.invokevirtual 129, 3) := by decide +kernel
theorem dX9_dropFromTrial_8 : decode cX9_dropFromTrial 8 = .ok (.istore_n 2, 1) := by decide +kernel
theorem dX9_dropFromTrial_9 : decode cX9_dropFromTrial 9 = .ok (.iload_n 2, 1) := by decide +kernel
theorem dX9_dropFromTrial_10 : decode cX9_dropFromTrial 10 = .ok (.ifCond .eq 11, 3) := by decide +kernel
theorem dX9_dropFromTrial_13 : decode cX9_dropFromTrial 13 = .ok (.aload_n 0, 1) := by decide +kernel
theorem dX9_dropFromTrial_14 : decode cX9_dropFromTrial 14 = .ok (.getfield 33, 3) := by decide +kernel
theorem dX9_dropFromTrial_17 : decode cX9_dropFromTrial 17 = .ok (.iload_n 1, 1) := by decide +kernel
theorem dX9_dropFromTrial_18 : decode cX9_dropFromTrial 18 = .ok (.invokevirtual 142, 3) := by decide +kernel
theorem dX9_dropFromTrial_21 : decode cX9_dropFromTrial 21 = .ok (.iload_n 2, 1) := by decide +kernel
theorem dX9_dropFromTrial_22 : decode cX9_dropFromTrial 22 = .ok (.ireturn, 1) := by decide +kernel
theorem dX9_changeInTrial_0 : decode cX9_changeInTrial 0 = .ok (.aload_n 0, 1) := by decide +kernel
theorem dX9_changeInTrial_1 : decode cX9_changeInTrial 1 = .ok (.getfield 33, 3) := by decide +kernel
theorem dX9_changeInTrial_4 : decode cX9_changeInTrial 4 = .ok (.iload_n 1, 1) := by decide +kernel
theorem dX9_changeInTrial_5 : decode cX9_changeInTrial 5 = .ok (.invokevirtual 129, 3) := by decide +kernel
theorem dX9_changeInTrial_8 : decode cX9_changeInTrial 8 = .ok (.istore_n 3, 1) := by decide +kernel
theorem dX9_changeInTrial_9 : decode cX9_changeInTrial 9 = .ok (.iload_n 3, 1) := by decide +kernel
theorem dX9_changeInTrial_10 : decode cX9_changeInTrial 10 = .ok (.ifCond .eq 13, 3) := by decide +kernel
theorem dX9_changeInTrial_13 : decode cX9_changeInTrial 13 = .ok (.aload_n 0, 1) := by decide +kernel
theorem dX9_changeInTrial_14 : decode cX9_changeInTrial 14 = .ok (.getfield 33, 3) := by decide +kernel
theorem dX9_changeInTrial_17 : decode cX9_changeInTrial 17 = .ok (.getfield 132, 3) := by decide +kernel
theorem dX9_changeInTrial_20 : decode cX9_changeInTrial 20 = .ok (.iload_n 1, 1) := by decide +kernel
theorem dX9_changeInTrial_21 : decode cX9_changeInTrial 21 = .ok (.iload_n 2, 1) := by decide +kernel
theorem dX9_changeInTrial_22 : decode cX9_changeInTrial 22 = .ok (.iastore, 1) := by decide +kernel
theorem dX9_changeInTrial_23 : decode cX9_changeInTrial 23 = .ok (.iload_n 3, 1) := by decide +kernel
theorem dX9_changeInTrial_24 : decode cX9_changeInTrial 24 = .ok (.ireturn, 1) := by decide +kernel
theorem dX9_isAllSeenSo_0 : decode cX9_isAllSeenSo 0 = .ok (.aload_n 0, 1) := by decide +kernel
theorem dX9_isAllSeenSo_1 : decode cX9_isAllSeenSo 1 = .ok (.getfield 33, 3) := by decide +kernel
theorem dX9_isAllSeenSo_4 : decode cX9_isAllSeenSo 4 = .ok (.aload_n 0, 1) := by decide +kernel
theorem dX9_isAllSeenSo_5 : decode cX9_isAllSeenSo 5 = .ok (.getfield 29, 3) := by decide +kernel
theorem dX9_isAllSeenSo_8 : decode cX9_isAllSeenSo 8 = .ok (.invokevirtual 193, 3) := by decide +kernel
theorem dX9_isAllSeenSo_11 : decode cX9_isAllSeenSo 11 = .ok (.aload_n 0, 1) := by decide +kernel
theorem dX9_isAllSeenSo_12 : decode cX9_isAllSeenSo 12 = .ok (.getfield 33, 3) := by decide +kernel
theorem dX9_isAllSeenSo_15 : decode cX9_isAllSeenSo 15 = .ok (.iload_n 1, 1) := by decide +kernel
theorem dX9_isAllSeenSo_16 : decode cX9_isAllSeenSo 16 = .ok (.iload_n 2, 1) := by decide +kernel
theorem dX9_isAllSeenSo_17 : decode cX9_isAllSeenSo 17 = .ok (.iload_n 3, 1) := by decide +kernel
theorem dX9_isAllSeenSo_18 : decode cX9_isAllSeenSo 18 = .ok (.invokevirtual 125, 3) := by decide +kernel
theorem dX9_isAllSeenSo_21 : decode cX9_isAllSeenSo 21 = .ok (.aload_n 0, 1) := by decide +kernel
theorem dX9_isAllSeenSo_22 : decode cX9_isAllSeenSo 22 = .ok (.aload_n 0, 1) := by decide +kernel
theorem dX9_isAllSeenSo_23 : decode cX9_isAllSeenSo 23 = .ok (.getfield 33, 3) := by decide +kernel
theorem dX9_isAllSeenSo_26 : decode cX9_isAllSeenSo 26 = .ok (.invokevirtual 80, 3) := by decide +kernel
theorem dX9_isAllSeenSo_29 : decode cX9_isAllSeenSo 29 = .ok (.astore 4, 2) := by decide +kernel
theorem dX9_isAllSeenSo_31 : decode cX9_isAllSeenSo 31 = .ok (.iconst 0, 1) := by decide +kernel
theorem dX9_isAllSeenSo_32 : decode cX9_isAllSeenSo 32 = .ok (.istore 5, 2) := by decide +kernel
theorem dX9_isAllSeenSo_34 : decode cX9_isAllSeenSo 34 = .ok (.iload 5, 2) := by decide +kernel
theorem dX9_isAllSeenSo_36 : decode cX9_isAllSeenSo 36 = .ok (.aload_n 0, 1) := by decide +kernel
theorem dX9_isAllSeenSo_37 : decode cX9_isAllSeenSo 37 = .ok (.getfield 56, 3) := by decide +kernel
theorem dX9_isAllSeenSo_40 : decode cX9_isAllSeenSo 40 = .ok (.getfield 215, 3) := by decide +kernel
theorem dX9_isAllSeenSo_43 : decode cX9_isAllSeenSo 43 = .ok (.if_icmp .ge 69, 3) := by decide +kernel
theorem dX9_isAllSeenSo_46 : decode cX9_isAllSeenSo 46 = .ok (.aload_n 0, 1) := by decide +kernel
theorem dX9_isAllSeenSo_47 : decode cX9_isAllSeenSo 47 = .ok (.aload_n 0, 1) := by decide +kernel
theorem dX9_isAllSeenSo_48 : decode cX9_isAllSeenSo 48 = .ok (.getfield 33, 3) := by decide +kernel
theorem dX9_isAllSeenSo_51 : decode cX9_isAllSeenSo 51 = .ok (.aload 4, 2) := by decide +kernel
theorem dX9_isAllSeenSo_53 : decode cX9_isAllSeenSo 53 = .ok (.aload_n 0, 1) := by decide +kernel
theorem dX9_isAllSeenSo_54 : decode cX9_isAllSeenSo 54 = .ok (.getfield 56, 3) := by decide +kernel
theorem dX9_isAllSeenSo_57 : decode cX9_isAllSeenSo 57 = .ok (.getfield 303, 3) := by decide +kernel
theorem dX9_isAllSeenSo_60 : decode cX9_isAllSeenSo 60 = .ok (.iload 5, 2) := by decide +kernel
theorem dX9_isAllSeenSo_62 : decode cX9_isAllSeenSo 62 = .ok (.iaload, 1) := by decide +kernel
theorem dX9_isAllSeenSo_63 : decode cX9_isAllSeenSo 63 = .ok (.invokevirtual 183, 3) := by decide +kernel
theorem dX9_isAllSeenSo_66 : decode cX9_isAllSeenSo 66 = .ok (.invokevirtual 179, 3) := by decide +kernel
theorem dX9_isAllSeenSo_69 : decode cX9_isAllSeenSo 69 = .ok (.aload_n 0, 1) := by decide +kernel
theorem dX9_isAllSeenSo_70 : decode cX9_isAllSeenSo 70 = .ok (.getfield 56, 3) := by decide +kernel
theorem dX9_isAllSeenSo_73 : decode cX9_isAllSeenSo 73 = .ok (.getfield 304, 3) := by decide +kernel
theorem dX9_isAllSeenSo_76 : decode cX9_isAllSeenSo 76 = .ok (.iload 5, 2) := by decide +kernel
theorem dX9_isAllSeenSo_78 : decode cX9_isAllSeenSo 78 = .ok (.iaload, 1) := by decide +kernel
theorem dX9_isAllSeenSo_79 : decode cX9_isAllSeenSo 79 = .ok (.if_icmp .ne 7, 3) := by decide +kernel
theorem dX9_isAllSeenSo_82 : decode cX9_isAllSeenSo 82 = .ok (.iconst 1, 1) := by decide +kernel
theorem dX9_isAllSeenSo_83 : decode cX9_isAllSeenSo 83 = .ok (.goto 4, 3) := by decide +kernel
theorem dX9_isAllSeenSo_86 : decode cX9_isAllSeenSo 86 = .ok (.iconst 0, 1) := by decide +kernel
theorem dX9_isAllSeenSo_87 : decode cX9_isAllSeenSo 87 = .ok (.istore 6, 2) := by decide +kernel
theorem dX9_isAllSeenSo_89 : decode cX9_isAllSeenSo 89 = .ok (.iload 6, 2) := by decide +kernel
theorem dX9_isAllSeenSo_91 : decode cX9_isAllSeenSo 91 = .ok (.aload_n 0, 1) := by decide +kernel
theorem dX9_isAllSeenSo_92 : decode cX9_isAllSeenSo 92 = .ok (.getfield 56, 3) := by decide +kernel
theorem dX9_isAllSeenSo_95 : decode cX9_isAllSeenSo 95 = .ok (.getfield 307, 3) := by decide +kernel
theorem dX9_isAllSeenSo_98 : decode cX9_isAllSeenSo 98 = .ok (.iload 5, 2) := by decide +kernel
theorem dX9_isAllSeenSo_100 : decode cX9_isAllSeenSo 100 = .ok (.baload, 1) := by decide +kernel
theorem dX9_isAllSeenSo_101 : decode cX9_isAllSeenSo 101 = .ok (.if_icmp .eq 5, 3) := by decide +kernel
theorem dX9_isAllSeenSo_104 : decode cX9_isAllSeenSo 104 = .ok (.iconst 0, 1) := by decide +kernel
theorem dX9_isAllSeenSo_105 : decode cX9_isAllSeenSo 105 = .ok (.ireturn, 1) := by decide +kernel
theorem dX9_isAllSeenSo_106 : decode cX9_isAllSeenSo 106 = .ok (.iinc 5 1, 3) := by decide +kernel
theorem dX9_isAllSeenSo_109 : decode cX9_isAllSeenSo 109 = .ok (.goto (-75), 3) := by decide +kernel
theorem dX9_isAllSeenSo_112 : decode cX9_isAllSeenSo 112 = .ok (.iconst 1, 1) := by decide +kernel
theorem dX9_isAllSeenSo_113 : decode cX9_isAllSeenSo 113 = .ok (.ireturn, 1) := by decide +kernel
theorem dX9_drawIntoTrial_0 : decode cX9_drawIntoTrial 0 = .ok (.aload_n 0, 1) := by decide +kernel
theorem dX9_drawIntoTrial_1 : decode cX9_drawIntoTrial 1 = .ok (.getfield 33, 3) := by decide +kernel
theorem dX9_drawIntoTrial_4 : decode cX9_drawIntoTrial 4 = .ok (.invokevirtual 110, 3) := by decide +kernel
theorem dX9_drawIntoTrial_7 : decode cX9_drawIntoTrial 7 = .ok (.ifCond .eq 28, 3) := by decide +kernel
theorem dX9_drawIntoTrial_10 : decode cX9_drawIntoTrial 10 = .ok (.aload_n 0, 1) := by decide +kernel
theorem dX9_drawIntoTrial_11 : decode cX9_drawIntoTrial 11 = .ok (.getfield 33, 3) := by decide +kernel
theorem dX9_drawIntoTrial_14 : decode cX9_drawIntoTrial 14 = .ok (.iload_n 1, 1) := by decide +kernel
theorem dX9_drawIntoTrial_15 : decode cX9_drawIntoTrial 15 = .ok (.iconst 4, 1) := by decide +kernel
theorem dX9_drawIntoTrial_16 : decode cX9_drawIntoTrial 16 = .ok (.irem, 1) := by decide +kernel
theorem dX9_drawIntoTrial_17 : decode cX9_drawIntoTrial 17 = .ok (.iload_n 1, 1) := by decide +kernel
theorem dX9_drawIntoTrial_18 : decode cX9_drawIntoTrial 18 = .ok (.iconst 4, 1) := by decide +kernel
theorem dX9_drawIntoTrial_19 : decode cX9_drawIntoTrial 19 = .ok (.idiv, 1) := by decide +kernel
theorem dX9_drawIntoTrial_20 : decode cX9_drawIntoTrial 20 = .ok (.iconst 5, 1) := by decide +kernel
theorem dX9_drawIntoTrial_21 : decode cX9_drawIntoTrial 21 = .ok (.irem, 1) := by decide +kernel
theorem dX9_drawIntoTrial_22 : decode cX9_drawIntoTrial 22 = .ok (.iload_n 1, 1) := by decide +kernel
theorem dX9_drawIntoTrial_23 : decode cX9_drawIntoTrial 23 = .ok (.bipush 32, 2) := by decide +kernel
theorem dX9_drawIntoTrial_25 : decode cX9_drawIntoTrial 25 = .ok (.idiv, 1) := by decide +kernel
theorem dX9_drawIntoTrial_26 : decode cX9_drawIntoTrial 26 = .ok (.bipush 101, 2) := by decide +kernel
theorem dX9_drawIntoTrial_28 : decode cX9_drawIntoTrial 28 = .ok (.irem, 1) := by decide +kernel
theorem dX9_drawIntoTrial_29 : decode cX9_drawIntoTrial 29 = .ok (.invokevirtual 125, 3) := by decide +kernel
theorem dX9_drawIntoTrial_32 : decode cX9_drawIntoTrial 32 = .ok (.goto 11, 3) := by decide +kernel
theorem dX9_drawIntoTrial_35 : decode cX9_drawIntoTrial 35 = .ok (.aload_n 0, 1) := by decide +kernel
theorem dX9_drawIntoTrial_36 : decode cX9_drawIntoTrial 36 = .ok (.getfield 33, 3) := by decide +kernel
theorem dX9_drawIntoTrial_39 : decode cX9_drawIntoTrial 39 = .ok (.iconst 0, 1) := by decide +kernel
theorem dX9_drawIntoTrial_40 : decode cX9_drawIntoTrial 40 = .ok (.invokevirtual 142, 3) := by decide +kernel
theorem dX9_drawIntoTrial_43 : decode cX9_drawIntoTrial 43 = .ok (.return_, 1) := by decide +kernel
theorem dX9_fraction_0 : decode cX9_fraction 0 = .ok (.iconst 1, 1) := by decide +kernel
theorem dX9_fraction_1 : decode cX9_fraction 1 = .ok (.iload_n 0, 1) := by decide +kernel
theorem dX9_fraction_2 : decode cX9_fraction 2 = .ok (.invokestatic 311, 3) := by decide +kernel
theorem dX9_fraction_5 : decode cX9_fraction 5 = .ok (.iload_n 1, 1) := by decide +kernel
theorem dX9_fraction_6 : decode cX9_fraction 6 = .ok (.invokestatic 316, 3) := by decide +kernel
theorem dX9_fraction_9 : decode cX9_fraction 9 = .ok (.invokestatic 319, 3) := by decide +kernel
theorem dX9_fraction_12 : decode cX9_fraction 12 = .ok (.istore_n 3, 1) := by decide +kernel
theorem dX9_fraction_13 : decode cX9_fraction 13 = .ok (.iload_n 2, 1) := by decide +kernel
theorem dX9_fraction_14 : decode cX9_fraction 14 = .ok (.ifCond .eq 7, 3) := by decide +kernel
theorem dX9_fraction_17 : decode cX9_fraction 17 = .ok (.iload_n 0, 1) := by decide +kernel
theorem dX9_fraction_18 : decode cX9_fraction 18 = .ok (.goto 4, 3) := by decide +kernel
theorem dX9_fraction_21 : decode cX9_fraction 21 = .ok (.iload_n 1, 1) := by decide +kernel
theorem dX9_fraction_22 : decode cX9_fraction 22 = .ok (.iload_n 3, 1) := by decide +kernel
theorem dX9_fraction_23 : decode cX9_fraction 23 = .ok (.idiv, 1) := by decide +kernel
theorem dX9_fraction_24 : decode cX9_fraction 24 = .ok (.ireturn, 1) := by decide +kernel
theorem dX9_commonDivisor_0 : decode cX9_commonDivisor 0 = .ok (.iload_n 0, 1) := by decide +kernel
theorem dX9_commonDivisor_1 : decode cX9_commonDivisor 1 = .ok (.istore_n 2, 1) := by decide +kernel
theorem dX9_commonDivisor_2 : decode cX9_commonDivisor 2 = .ok (.iload_n 1, 1) := by decide +kernel
theorem dX9_commonDivisor_3 : decode cX9_commonDivisor 3 = .ok (.istore_n 3, 1) := by decide +kernel
theorem dX9_commonDivisor_4 : decode cX9_commonDivisor 4 = .ok (.iconst 0, 1) := by decide +kernel
theorem dX9_commonDivisor_5 : decode cX9_commonDivisor 5 = .ok (.istore 4, 2) := by decide +kernel
theorem dX9_commonDivisor_7 : decode cX9_commonDivisor 7 = .ok (.iload 4, 2) := by decide +kernel
theorem dX9_commonDivisor_9 : decode cX9_commonDivisor 9 = .ok (.bipush 100, 2) := by decide +kernel
theorem dX9_commonDivisor_11 : decode cX9_commonDivisor 11 = .ok (.if_icmp .ge 23, 3) := by decide +kernel
theorem dX9_commonDivisor_14 : decode cX9_commonDivisor 14 = .ok (.iload_n 3, 1) := by decide +kernel
theorem dX9_commonDivisor_15 : decode cX9_commonDivisor 15 = .ok (.ifCond .eq 19, 3) := by decide +kernel
theorem dX9_commonDivisor_18 : decode cX9_commonDivisor 18 = .ok (.iload_n 2, 1) := by decide +kernel
theorem dX9_commonDivisor_19 : decode cX9_commonDivisor 19 = .ok (.iload_n 3, 1) := by decide +kernel
theorem dX9_commonDivisor_20 : decode cX9_commonDivisor 20 = .ok (.irem, 1) := by decide +kernel
theorem dX9_commonDivisor_21 : decode cX9_commonDivisor 21 = .ok (.istore 5, 2) := by decide +kernel
theorem dX9_commonDivisor_23 : decode cX9_commonDivisor 23 = .ok (.iload_n 3, 1) := by decide +kernel
theorem dX9_commonDivisor_24 : decode cX9_commonDivisor 24 = .ok (.istore_n 2, 1) := by decide +kernel
theorem dX9_commonDivisor_25 : decode cX9_commonDivisor 25 = .ok (.iload 5, 2) := by decide +kernel
theorem dX9_commonDivisor_27 : decode cX9_commonDivisor 27 = .ok (.istore_n 3, 1) := by decide +kernel
theorem dX9_commonDivisor_28 : decode cX9_commonDivisor 28 = .ok (.iinc 4 1, 3) := by decide +kernel
theorem dX9_commonDivisor_31 : decode cX9_commonDivisor 31 = .ok (.goto (-24), 3) := by decide +kernel
theorem dX9_commonDivisor_34 : decode cX9_commonDivisor 34 = .ok (.iload_n 2, 1) := by decide +kernel
theorem dX9_commonDivisor_35 : decode cX9_commonDivisor 35 = .ok (.ireturn, 1) := by decide +kernel
theorem dX9_power_0 : decode cX9_power 0 = .ok (.iconst 1, 1) := by decide +kernel
theorem dX9_power_1 : decode cX9_power 1 = .ok (.istore_n 2, 1) := by decide +kernel
theorem dX9_power_2 : decode cX9_power 2 = .ok (.iconst 0, 1) := by decide +kernel
theorem dX9_power_3 : decode cX9_power 3 = .ok (.istore_n 3, 1) := by decide +kernel
theorem dX9_power_4 : decode cX9_power 4 = .ok (.iload_n 3, 1) := by decide +kernel
theorem dX9_power_5 : decode cX9_power 5 = .ok (.iload_n 1, 1) := by decide +kernel
theorem dX9_power_6 : decode cX9_power 6 = .ok (.if_icmp .ge 13, 3) := by decide +kernel
theorem dX9_power_9 : decode cX9_power 9 = .ok (.iload_n 2, 1) := by decide +kernel
theorem dX9_power_10 : decode cX9_power 10 = .ok (.iload_n 0, 1) := by decide +kernel
theorem dX9_power_11 : decode cX9_power 11 = .ok (.imul, 1) := by decide +kernel
theorem dX9_power_12 : decode cX9_power 12 = .ok (.istore_n 2, 1) := by decide +kernel
theorem dX9_power_13 : decode cX9_power 13 = .ok (.iinc 3 1, 3) := by decide +kernel
theorem dX9_power_16 : decode cX9_power 16 = .ok (.goto (-12), 3) := by decide +kernel
theorem dX9_power_19 : decode cX9_power 19 = .ok (.iload_n 2, 1) := by decide +kernel
theorem dX9_power_20 : decode cX9_power 20 = .ok (.ireturn, 1) := by decide +kernel
