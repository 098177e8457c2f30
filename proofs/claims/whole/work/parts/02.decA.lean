theorem dX0_init_0 : decode cX0_init 0 = .ok (.aload_n 0, 1) := by decide +kernel
theorem dX0_init_1 : decode cX0_init 1 = .ok (.invokespecial 3, 3) := by decide +kernel
theorem dX0_init_4 : decode cX0_init 4 = .ok (.return_, 1) := by decide +kernel
theorem dX0_tell_0 : decode cX0_tell 0 = .ok (.aload_n 0, 1) := by decide +kernel
theorem dX0_tell_1 : decode cX0_tell 1 = .ok (.iload_n 1, 1) := by decide +kernel
theorem dX0_tell_2 : decode cX0_tell 2 = .ok (.putfield 9, 3) := by decide +kernel
theorem dX0_tell_5 : decode cX0_tell 5 = .ok (.aload_n 0, 1) := by decide +kernel
theorem dX0_tell_6 : decode cX0_tell 6 = .ok (.iload_n 2, 1) := by decide +kernel
theorem dX0_tell_7 : decode cX0_tell 7 = .ok (.putfield 15, 3) := by decide +kernel
theorem dX0_tell_10 : decode cX0_tell 10 = .ok (.aload_n 0, 1) := by decide +kernel
theorem dX0_tell_11 : decode cX0_tell 11 = .ok (.iload_n 3, 1) := by decide +kernel
theorem dX0_tell_12 : decode cX0_tell 12 = .ok (.putfield 18, 3) := by decide +kernel
theorem dX0_tell_15 : decode cX0_tell 15 = .ok (.aload_n 0, 1) := by decide +kernel
theorem dX0_tell_16 : decode cX0_tell 16 = .ok (.iload 4, 2) := by decide +kernel
theorem dX0_tell_18 : decode cX0_tell 18 = .ok (.putfield 21, 3) := by decide +kernel
theorem dX0_tell_21 : decode cX0_tell 21 = .ok (.aload_n 0, 1) := by decide +kernel
theorem dX0_tell_22 : decode cX0_tell 22 = .ok (.iload 5, 2) := by decide +kernel
theorem dX0_tell_24 : decode cX0_tell 24 = .ok (.putfield 24, 3) := by decide +kernel
theorem dX0_tell_27 : decode cX0_tell 27 = .ok (.return_, 1) := by decide +kernel
theorem dX0_takeBack_0 : decode cX0_takeBack 0 = .ok (.aload_n 0, 1) := by decide +kernel
theorem dX0_takeBack_1 : decode cX0_takeBack 1 = .ok (.getfield 9, 3) := by decide +kernel
theorem dX0_takeBack_4 : decode cX0_takeBack 4 = .ok (.ifCond .ne 14, 3) := by decide +kernel
theorem dX0_takeBack_7 : decode cX0_takeBack 7 = .ok (.aload_n 1, 1) := by decide +kernel
theorem dX0_takeBack_8 : decode cX0_takeBack 8 = .ok (.aload_n 0, 1) := by decide +kernel
theorem dX0_takeBack_9 : decode cX0_takeBack 9 = .ok (.getfield 15, 3) := by decide +kernel
theorem dX0_takeBack_12 : decode cX0_takeBack 12 = .ok (.invokevirtual 27, 3) := by decide +kernel
theorem dX0_takeBack_15 : decode cX0_takeBack 15 = .ok (.goto 58, 3) := by decide +kernel
theorem dX0_takeBack_18 : decode cX0_takeBack 18 = .ok (.aload_n 0, 1) := by decide +kernel
theorem dX0_takeBack_19 : decode cX0_takeBack 19 = .ok (.getfield 9, 3) := by decide +kernel
theorem dX0_takeBack_22 : decode cX0_takeBack 22 = .ok (.iconst 1, 1) := by decide +kernel
theorem dX0_takeBack_23 : decode cX0_takeBack 23 = .ok (.if_icmp .ne 26, 3) := by decide +kernel
theorem dX0_takeBack_26 : decode cX0_takeBack 26 = .ok (.aload_n 1, 1) := by decide +kernel
theorem dX0_takeBack_27 : decode cX0_takeBack 27 = .ok (.aload_n 0, 1) := by decide +kernel
theorem dX0_takeBack_28 : decode cX0_takeBack 28 = .ok (.getfield 15, 3) := by decide +kernel
theorem dX0_takeBack_31 : decode cX0_takeBack 31 = .ok (.aload_n 0, 1) := by decide +kernel
theorem dX0_takeBack_32 : decode cX0_takeBack 32 = .ok (.getfield 18, 3) := by decide +kernel
theorem dX0_takeBack_35 : decode cX0_takeBack 35 = .ok (.aload_n 0, 1) := by decide +kernel
theorem dX0_takeBack_36 : decode cX0_takeBack 36 = .ok (.getfield 21, 3) := by decide +kernel
theorem dX0_takeBack_39 : decode cX0_takeBack 39 = .ok (.aload_n 0, 1) := by decide +kernel
theorem dX0_takeBack_40 : decode cX0_takeBack 40 = .ok (.getfield 24, 3) := by decide +kernel
theorem dX0_takeBack_43 : decode cX0_takeBack 43 = .ok (.invokevirtual 33, 3) := by decide +kernel
theorem dX0_takeBack_46 : decode cX0_takeBack 46 = .ok (.goto 27, 3) := by decide +kernel
theorem dX0_takeBack_49 : decode cX0_takeBack 49 = .ok (.aload_n 1, 1) := by decide +kernel
theorem dX0_takeBack_50 : decode cX0_takeBack 50 = .ok (.aload_n 0, 1) := by decide +kernel
theorem dX0_takeBack_51 : decode cX0_takeBack 51 = .ok (.getfield 15, 3) := by decide +kernel
theorem dX0_takeBack_54 : decode cX0_takeBack 54 = .ok (.invokevirtual 37, 3) := by decide +kernel
theorem dX0_takeBack_57 : decode cX0_takeBack 57 = .ok (.ifCond .eq 16, 3) := by decide +kernel
theorem dX0_takeBack_60 : decode cX0_takeBack 60 = .ok (.aload_n 1, 1) := by decide +kernel
theorem dX0_takeBack_61 : decode cX0_takeBack 61 = .ok (.getfield 41, 3) := by decide +kernel
theorem dX0_takeBack_64 : decode cX0_takeBack 64 = .ok (.aload_n 0, 1) := by decide +kernel
theorem dX0_takeBack_65 : decode cX0_takeBack 65 = .ok (.getfield 15, 3) := by decide +kernel
theorem dX0_takeBack_68 : decode cX0_takeBack 68 = .ok (.aload_n 0, 1) := by decide +kernel
theorem dX0_takeBack_69 : decode cX0_takeBack 69 = .ok (.getfield 24, 3) := by decide +kernel
theorem dX0_takeBack_72 : decode cX0_takeBack 72 = .ok (.iastore, 1) := by decide +kernel
theorem dX0_takeBack_73 : decode cX0_takeBack 73 = .ok (.return_, 1) := by decide +kernel
theorem dX1_init_0 : decode cX1_init 0 = .ok (.aload_n 0, 1) := by decide +kernel
theorem dX1_init_1 : decode cX1_init 1 = .ok (.invokespecial 3, 3) := by decide +kernel
theorem dX1_init_4 : decode cX1_init 4 = .ok (.aload_n 0, 1) := by decide +kernel
theorem dX1_init_5 : decode cX1_init 5 = .ok (.bipush 14, 2) := by decide +kernel
theorem dX1_init_7 : decode cX1_init 7 = .ok (.anewarray 9, 3) := by decide +kernel
theorem dX1_init_10 : decode cX1_init 10 = .ok (.putfield 11, 3) := by decide +kernel
theorem dX1_init_13 : decode cX1_init 13 = .ok (.aload_n 0, 1) := by decide +kernel
theorem dX1_init_14 : decode cX1_init 14 = .ok (.iconst 0, 1) := by decide +kernel
theorem dX1_init_15 : decode cX1_init 15 = .ok (.putfield 17, 3) := by decide +kernel
theorem dX1_init_18 : decode cX1_init 18 = .ok (.iconst 0, 1) := by decide +kernel
theorem dX1_init_19 : decode cX1_init 19 = .ok (.istore_n 1, 1) := by decide +kernel
theorem dX1_init_20 : decode cX1_init 20 = .ok (.iload_n 1, 1) := by decide +kernel
theorem dX1_init_21 : decode cX1_init 21 = .ok (.aload_n 0, 1) := by decide +kernel
theorem dX1_init_22 : decode cX1_init 22 = .ok (.getfield 11, 3) := by decide +kernel
theorem dX1_init_25 : decode cX1_init 25 = .ok (.arraylength, 1) := by decide +kernel
theorem dX1_init_26 : decode cX1_init 26 = .ok (.if_icmp .ge 22, 3) := by decide +kernel
theorem dX1_init_29 : decode cX1_init 29 = .ok (.aload_n 0, 1) := by decide +kernel
theorem dX1_init_30 : decode cX1_init 30 = .ok (.getfield 11, 3) := by decide +kernel
theorem dX1_init_33 : decode cX1_init 33 = .ok (.iload_n 1, 1) := by decide +kernel
theorem dX1_init_34 : decode cX1_init 34 = .ok (.new 9, 3) := by decide +kernel
theorem dX1_init_37 : decode cX1_init 37 = .ok (.dup, 1) := by decide +kernel
theorem dX1_init_38 : decode cX1_init 38 = .ok (.invokespecial 21, 3) := by decide +kernel
theorem dX1_init_41 : decode cX1_init 41 = .ok (.aastore, 1) := by decide +kernel
theorem dX1_init_42 : decode cX1_init 42 = .ok (.iinc 1 1, 3) := by decide +kernel
theorem dX1_init_45 : decode cX1_init 45 = .ok (.goto (-25), 3) := by decide +kernel
theorem dX1_init_48 : decode cX1_init 48 = .ok (.return_, 1) := by decide +kernel
theorem dX1_next_0 : decode cX1_next 0 = .ok (.aload_n 0, 1) := by decide +kernel
theorem dX1_next_1 : decode cX1_next 1 = .ok (.getfield 17, 3) := by decide +kernel
theorem dX1_next_4 : decode cX1_next 4 = .ok (.bipush 14, 2) := by decide +kernel
theorem dX1_next_6 : decode cX1_next 6 = .ok (.if_icmp .ge 25, 3) := by decide +kernel
theorem dX1_next_9 : decode cX1_next 9 = .ok (.aload_n 0, 1) := by decide +kernel
theorem dX1_next_10 : decode cX1_next 10 = .ok (.dup, 1) := by decide +kernel
theorem dX1_next_11 : decode cX1_next 11 = .ok (.getfield 17, 3) := by decide +kernel
theorem dX1_next_14 : decode cX1_next 14 = .ok (.iconst 1, 1) := by decide +kernel
theorem dX1_next_15 : decode cX1_next 15 = .ok (.iadd, 1) := by decide +kernel
theorem dX1_next_16 : decode cX1_next 16 = .ok (.putfield 17, 3) := by decide +kernel
theorem dX1_next_19 : decode cX1_next 19 = .ok (.aload_n 0, 1) := by decide +kernel
theorem dX1_next_20 : decode cX1_next 20 = .ok (.getfield 11, 3) := by decide +kernel
theorem dX1_next_23 : decode cX1_next 23 = .ok (.aload_n 0, 1) := by decide +kernel
theorem dX1_next_24 : decode cX1_next 24 = .ok (.getfield 17, 3) := by decide +kernel
theorem dX1_next_27 : decode cX1_next 27 = .ok (.iconst 1, 1) := by decide +kernel
theorem dX1_next_28 : decode cX1_next 28 = .ok (.isub, 1) := by decide +kernel
theorem dX1_next_29 : decode cX1_next 29 = .ok (.aaload, 1) := by decide +kernel
theorem dX1_next_30 : decode cX1_next 30 = .ok (.areturn, 1) := by decide +kernel
theorem dX1_next_31 : decode cX1_next 31 = .ok (.aload_n 0, 1) := by decide +kernel
theorem dX1_next_32 : decode cX1_next 32 = .ok (.getfield 11, 3) := by decide +kernel
theorem dX1_next_35 : decode cX1_next 35 = .ok (.iconst 0, 1) := by decide +kernel
theorem dX1_next_36 : decode cX1_next 36 = .ok (.aaload, 1) := by decide +kernel
theorem dX1_next_37 : decode cX1_next 37 = .ok (.astore_n 1, 1) := by decide +kernel
theorem dX1_next_38 : decode cX1_next 38 = .ok (.iconst 1, 1) := by decide +kernel
theorem dX1_next_39 : decode cX1_next 39 = .ok (.istore_n 2, 1) := by decide +kernel
theorem dX1_next_40 : decode cX1_next 40 = .ok (.iload_n 2, 1) := by decide +kernel
theorem dX1_next_41 : decode cX1_next 41 = .ok (.bipush 14, 2) := by decide +kernel
theorem dX1_next_43 : decode cX1_next 43 = .ok (.if_icmp .ge 23, 3) := by decide +kernel
theorem dX1_next_46 : decode cX1_next 46 = .ok (.aload_n 0, 1) := by decide +kernel
theorem dX1_next_47 : decode cX1_next 47 = .ok (.getfield 11, 3) := by decide +kernel
theorem dX1_next_50 : decode cX1_next 50 = .ok (.iload_n 2, 1) := by decide +kernel
theorem dX1_next_51 : decode cX1_next 51 = .ok (.iconst 1, 1) := by decide +kernel
theorem dX1_next_52 : decode cX1_next 52 = .ok (.isub, 1) := by decide +kernel
theorem dX1_next_53 : decode cX1_next 53 = .ok (.aload_n 0, 1) := by decide +kernel
theorem dX1_next_54 : decode cX1_next 54 = .ok (.getfield 11, 3) := by decide +kernel
theorem dX1_next_57 : decode cX1_next 57 = .ok (.iload_n 2, 1) := by decide +kernel
theorem dX1_next_58 : decode cX1_next 58 = .ok (.aaload, 1) := by decide +kernel
theorem dX1_next_59 : decode cX1_next 59 = .ok (.aastore, 1) := by decide +kernel
theorem dX1_next_60 : decode cX1_next 60 = .ok (.iinc 2 1, 3) := by decide +kernel
theorem dX1_next_63 : decode cX1_next 63 = .ok (.goto (-23), 3) := by decide +kernel
theorem dX1_next_66 : decode cX1_next 66 = .ok (.aload_n 0, 1) := by decide +kernel
theorem dX1_next_67 : decode cX1_next 67 = .ok (.getfield 11, 3) := by decide +kernel
theorem dX1_next_70 : decode cX1_next 70 = .ok (.bipush 13, 2) := by decide +kernel
theorem dX1_next_72 : decode cX1_next 72 = .ok (.aload_n 1, 1) := by decide +kernel
theorem dX1_next_73 : decode cX1_next 73 = .ok (.aastore, 1) := by decide +kernel
theorem dX1_next_74 : decode cX1_next 74 = .ok (.aload_n 1, 1) := by decide +kernel
theorem dX1_next_75 : decode cX1_next 75 = .ok (.areturn, 1) := by decide +kernel
theorem dX1_takeLast_0 : decode cX1_takeLast 0 = .ok (.aload_n 0, 1) := by decide +kernel
theorem dX1_takeLast_1 : decode cX1_takeLast 1 = .ok (.getfield 17, 3) := by decide +kernel
theorem dX1_takeLast_4 : decode cX1_takeLast 4 = .ok (.iconst 1, 1) := by decide +kernel
theorem dX1_takeLast_5 : decode cX1_takeLast 5 = .ok (.if_icmp .ge 5, 3) := by decide +kernel
theorem dX1_takeLast_8 : decode cX1_takeLast 8 = .ok (.aconst_null, 1) := by decide +kernel
theorem dX1_takeLast_9 : decode cX1_takeLast 9 = .ok (.areturn, 1) := by decide +kernel
theorem dX1_takeLast_10 : decode cX1_takeLast 10 = .ok (.aload_n 0, 1) := by decide +kernel
theorem dX1_takeLast_11 : decode cX1_takeLast 11 = .ok (.dup, 1) := by decide +kernel
theorem dX1_takeLast_12 : decode cX1_takeLast 12 = .ok (.getfield 17, 3) := by decide +kernel
theorem dX1_takeLast_15 : decode cX1_takeLast 15 = .ok (.iconst 1, 1) := by decide +kernel
theorem dX1_takeLast_16 : decode cX1_takeLast 16 = .ok (.isub, 1) := by decide +kernel
theorem dX1_takeLast_17 : decode cX1_takeLast 17 = .ok (.putfield 17, 3) := by decide +kernel
theorem dX1_takeLast_20 : decode cX1_takeLast 20 = .ok (.aload_n 0, 1) := by decide +kernel
theorem dX1_takeLast_21 : decode cX1_takeLast 21 = .ok (.getfield 11, 3) := by decide +kernel
theorem dX1_takeLast_24 : decode cX1_takeLast 24 = .ok (.aload_n 0, 1) := by decide +kernel
theorem dX1_takeLast_25 : decode cX1_takeLast 25 = .ok (.getfield 17, 3) := by decide +kernel
theorem dX1_takeLast_28 : decode cX1_takeLast 28 = .ok (.aaload, 1) := by decide +kernel
theorem dX1_takeLast_29 : decode cX1_takeLast 29 = .ok (.areturn, 1) := by decide +kernel
theorem dX2_init_0 : decode cX2_init 0 = .ok (.aload_n 0, 1) := by decide +kernel
theorem dX2_init_1 : decode cX2_init 1 = .ok (.invokespecial 3, 3) := by decide +kernel
theorem dX2_init_4 : decode cX2_init 4 = .ok (.aload_n 0, 1) := by decide +kernel
theorem dX2_init_5 : decode cX2_init 5 = .ok (.bipush 21, 2) := by decide +kernel
theorem dX2_init_7 : decode cX2_init 7 = .ok (.newarray .int, 2) := by decide +kernel
theorem dX2_init_9 : decode cX2_init 9 = .ok (.putfield 9, 3) := by decide +kernel
theorem dX2_init_12 : decode cX2_init 12 = .ok (.aload_n 0, 1) := by decide +kernel
theorem dX2_init_13 : decode cX2_init 13 = .ok (.bipush 21, 2) := by decide +kernel
theorem dX2_init_15 : decode cX2_init 15 = .ok (.newarray .int, 2) := by decide +kernel
theorem dX2_init_17 : decode cX2_init 17 = .ok (.putfield 15, 3) := by decide +kernel
theorem dX2_init_20 : decode cX2_init 20 = .ok (.aload_n 0, 1) := by decide +kernel
theorem dX2_init_21 : decode cX2_init 21 = .ok (.bipush 21, 2) := by decide +kernel
theorem dX2_init_23 : decode cX2_init 23 = .ok (.newarray .int, 2) := by decide +kernel
theorem dX2_init_25 : decode cX2_init 25 = .ok (.putfield 18, 3) := by decide +kernel
theorem dX2_init_28 : decode cX2_init 28 = .ok (.aload_n 0, 1) := by decide +kernel
theorem dX2_init_29 : decode cX2_init 29 = .ok (.iconst 0, 1) := by decide +kernel
theorem dX2_init_30 : decode cX2_init 30 = .ok (.putfield 21, 3) := by decide +kernel
theorem dX2_init_33 : decode cX2_init 33 = .ok (.return_, 1) := by decide +kernel
theorem dX2_has_0 : decode cX2_has 0 = .ok (.iload_n 1, 1) := by decide +kernel
theorem dX2_has_1 : decode cX2_has 1 = .ok (.ifCond .lt 15, 3) := by decide +kernel
theorem dX2_has_4 : decode cX2_has 4 = .ok (.iload_n 1, 1) := by decide +kernel
theorem dX2_has_5 : decode cX2_has 5 = .ok (.aload_n 0, 1) := by decide +kernel
theorem dX2_has_6 : decode cX2_has 6 = .ok (.getfield 21, 3) := by decide +kernel
theorem dX2_has_9 : decode cX2_has 9 = .ok (.if_icmp .ge 7, 3) := by decide +kernel
theorem dX2_has_12 : decode cX2_has 12 = .ok (.iconst 1, 1) := by decide +kernel
theorem dX2_has_13 : decode cX2_has 13 = .ok (.goto 4, 3) := by decide +kernel
theorem dX2_has_16 : decode cX2_has 16 = .ok (.iconst 0, 1) := by decide +kernel
theorem dX2_has_17 : decode cX2_has 17 = .ok (.ireturn, 1) := by decide +kernel
theorem dX2_gather_0 : decode cX2_gather 0 = .ok (.aload_n 0, 1) := by decide +kernel
theorem dX2_gather_1 : decode cX2_gather 1 = .ok (.getfield 15, 3) := by decide +kernel
theorem dX2_gather_4 : decode cX2_gather 4 = .ok (.iconst 0, 1) := by decide +kernel
theorem dX2_gather_5 : decode cX2_gather 5 = .ok (.invokestatic 25, 3) := by decide +kernel
theorem dX2_gather_8 : decode cX2_gather 8 = .ok (.iconst 0, 1) := by decide +kernel
theorem dX2_gather_9 : decode cX2_gather 9 = .ok (.istore 4, 2) := by decide +kernel
theorem dX2_gather_11 : decode cX2_gather 11 = .ok (.iload 4, 2) := by decide +kernel
theorem dX2_gather_13 : decode cX2_gather 13 = .ok (.aload_n 1, 1) := by decide +kernel
theorem dX2_gather_14 : decode cX2_gather 14 = .ok (.getfield 31, 3) := by decide +kernel
theorem dX2_gather_17 : decode cX2_gather 17 = .ok (.if_icmp .ge 48, 3) := by decide +kernel
theorem dX2_gather_20 : decode cX2_gather 20 = .ok (.aload_n 2, 1) := by decide +kernel
theorem dX2_gather_21 : decode cX2_gather 21 = .ok (.aload_n 1, 1) := by decide +kernel
theorem dX2_gather_22 : decode cX2_gather 22 = .ok (.iload 4, 2) := by decide +kernel
theorem dX2_gather_24 : decode cX2_gather 24 = .ok (.iload_n 3, 1) := by decide +kernel
theorem dX2_gather_25 : decode cX2_gather 25 = .ok (.invokevirtual 34, 3) := by decide +kernel
theorem dX2_gather_28 : decode cX2_gather 28 = .ok (.istore 5, 2) := by decide +kernel
theorem dX2_gather_30 : decode cX2_gather 30 = .ok (.iload 5, 2) := by decide +kernel
theorem dX2_gather_32 : decode cX2_gather 32 = .ok (.ifCond .lt 27, 3) := by decide +kernel
theorem dX2_gather_35 : decode cX2_gather 35 = .ok (.iload 5, 2) := by decide +kernel
theorem dX2_gather_37 : decode cX2_gather 37 = .ok (.aload_n 0, 1) := by decide +kernel
theorem dX2_gather_38 : decode cX2_gather 38 = .ok (.getfield 15, 3) := by decide +kernel
theorem dX2_gather_41 : decode cX2_gather 41 = .ok (.arraylength, 1) := by decide +kernel
theorem dX2_gather_42 : decode cX2_gather 42 = .ok (.if_icmp .ge 17, 3) := by decide +kernel
theorem dX2_gather_45 : decode cX2_gather 45 = .ok (.aload_n 0, 1) := by decide +kernel
theorem dX2_gather_46 : decode cX2_gather 46 = .ok (.getfield 15, 3) := by decide +kernel
theorem dX2_gather_49 : decode cX2_gather 49 = .ok (.iload 5, 2) := by decide +kernel
theorem dX2_gather_51 : decode cX2_gather 51 = .ok (.dup2, 1) := by decide +kernel
theorem dX2_gather_52 : decode cX2_gather 52 = .ok (.iaload, 1) := by decide +kernel
theorem dX2_gather_53 : decode cX2_gather 53 = .ok (.iconst 1, 1) := by decide +kernel
theorem dX2_gather_54 : decode cX2_gather 54 = .ok (.iload 4, 2) := by decide +kernel
theorem dX2_gather_56 : decode cX2_gather 56 = .ok (.ishl, 1) := by decide +kernel
theorem dX2_gather_57 : decode cX2_gather 57 = .ok (.ior, 1) := by decide +kernel
theorem dX2_gather_58 : decode cX2_gather 58 = .ok (.iastore, 1) := by decide +kernel
theorem dX2_gather_59 : decode cX2_gather 59 = .ok (.iinc 4 1, 3) := by decide +kernel
theorem dX2_gather_62 : decode cX2_gather 62 = .ok (.goto (-51), 3) := by decide +kernel
theorem dX2_gather_65 : decode cX2_gather 65 = .ok (.aload_n 0, 1) := by decide +kernel
theorem dX2_gather_66 : decode cX2_gather 66 = .ok (.iconst 0, 1) := by decide +kernel
theorem dX2_gather_67 : decode cX2_gather 67 = .ok (.putfield 21, 3) := by decide +kernel
theorem dX2_gather_70 : decode cX2_gather 70 = .ok (.iconst 0, 1) := by decide +kernel
theorem dX2_gather_71 : decode cX2_gather 71 = .ok (.istore 4, 2) := by decide +kernel
theorem dX2_gather_73 : decode cX2_gather 73 = .ok (.iload 4, 2) := by decide +kernel
theorem dX2_gather_75 : decode cX2_gather 75 = .ok (.aload_n 0, 1) := by decide +kernel
theorem dX2_gather_76 : decode cX2_gather 76 = .ok (.getfield 15, 3) := by decide +kernel
theorem dX2_gather_79 : decode cX2_gather 79 = .ok (.arraylength, 1) := by decide +kernel
theorem dX2_gather_80 : decode cX2_gather 80 = .ok (.if_icmp .ge 56, 3) := by decide +kernel
theorem dX2_gather_83 : decode cX2_gather 83 = .ok (.aload_n 0, 1) := by decide +kernel
theorem dX2_gather_84 : decode cX2_gather 84 = .ok (.getfield 15, 3) := by decide +kernel
theorem dX2_gather_87 : decode cX2_gather 87 = .ok (.iload 4, 2) := by decide +kernel
theorem dX2_gather_89 : decode cX2_gather 89 = .ok (.iaload, 1) := by decide +kernel
theorem dX2_gather_90 : decode cX2_gather 90 = .ok (.ifCond .eq 40, 3) := by decide +kernel
theorem dX2_gather_93 : decode cX2_gather 93 = .ok (.aload_n 0, 1) := by decide +kernel
theorem dX2_gather_94 : decode cX2_gather 94 = .ok (.getfield 9, 3) := by decide +kernel
theorem dX2_gather_97 : decode cX2_gather 97 = .ok (.aload_n 0, 1) := by decide +kernel
theorem dX2_gather_98 : decode cX2_gather 98 = .ok (.getfield 21, 3) := by decide +kernel
theorem dX2_gather_101 : decode cX2_gather 101 = .ok (.iload 4, 2) := by decide +kernel
theorem dX2_gather_103 : decode cX2_gather 103 = .ok (.iastore, 1) := by decide +kernel
theorem dX2_gather_104 : decode cX2_gather 104 = .ok (.aload_n 0, 1) := by decide +kernel
theorem dX2_gather_105 : decode cX2_gather 105 = .ok (.getfield 15, 3) := by decide +kernel
theorem dX2_gather_108 : decode cX2_gather 108 = .ok (.aload_n 0, 1) := by decide +kernel
theorem dX2_gather_109 : decode cX2_gather 109 = .ok (.getfield 21, 3) := by decide +kernel
theorem dX2_gather_112 : decode cX2_gather 112 = .ok (.aload_n 0, 1) := by decide +kernel
theorem dX2_gather_113 : decode cX2_gather 113 = .ok (.getfield 15, 3) := by decide +kernel
theorem dX2_gather_116 : decode cX2_gather 116 = .ok (.iload 4, 2) := by decide +kernel
theorem dX2_gather_118 : decode cX2_gather 118 = .ok (.iaload, 1) := by decide +kernel
theorem dX2_gather_119 : decode cX2_gather 119 = .ok (.iastore, 1) := by decide +kernel
theorem dX2_gather_120 : decode cX2_gather 120 = .ok (.aload_n 0, 1) := by decide +kernel
theorem dX2_gather_121 : decode cX2_gather 121 = .ok (.dup, 1) := by decide +kernel
theorem dX2_gather_122 : decode cX2_gather 122 = .ok (.getfield 21, 3) := by decide +kernel
theorem dX2_gather_125 : decode cX2_gather 125 = .ok (.iconst 1, 1) := by decide +kernel
theorem dX2_gather_126 : decode cX2_gather 126 = .ok (.iadd, 1) := by decide +kernel
theorem dX2_gather_127 : decode cX2_gather 127 = .ok (.putfield 21, 3) := by decide +kernel
theorem dX2_gather_130 : decode cX2_gather 130 = .ok (.iinc 4 1, 3) := by decide +kernel
theorem dX2_gather_133 : decode cX2_gather 133 = .ok (.goto (-60), 3) := by decide +kernel
theorem dX2_gather_136 : decode cX2_gather 136 = .ok (.return_, 1) := by decide +kernel
theorem dX2_foldRest_0 : decode cX2_foldRest 0 = .ok (.iload_n 3, 1) := by decide +kernel
theorem dX2_foldRest_1 : decode cX2_foldRest 1 = .ok (.iconst 1, 1) := by decide +kernel
theorem dX2_foldRest_2 : decode cX2_foldRest 2 = .ok (.if_icmp .lt 11, 3) := by decide +kernel
theorem dX2_foldRest_5 : decode cX2_foldRest 5 = .ok (.aload_n 0, 1) := by decide +kernel
theorem dX2_foldRest_6 : decode cX2_foldRest 6 = .ok (.getfield 21, 3) := by decide +kernel
theorem dX2_foldRest_9 : decode cX2_foldRest 9 = .ok (.iload_n 3, 1) := by decide +kernel
theorem dX2_foldRest_10 : decode cX2_foldRest 10 = .ok (.if_icmp .gt 4, 3) := by decide +kernel
theorem dX2_foldRest_13 : decode cX2_foldRest 13 = .ok (.return_, 1) := by decide +kernel
theorem dX2_foldRest_14 : decode cX2_foldRest 14 = .ok (.iconst 0, 1) := by decide +kernel
theorem dX2_foldRest_15 : decode cX2_foldRest 15 = .ok (.istore 4, 2) := by decide +kernel
theorem dX2_foldRest_17 : decode cX2_foldRest 17 = .ok (.iload 4, 2) := by decide +kernel
theorem dX2_foldRest_19 : decode cX2_foldRest 19 = .ok (.aload_n 0, 1) := by decide +kernel
theorem dX2_foldRest_20 : decode cX2_foldRest 20 = .ok (.getfield 21, 3) := by decide +kernel
theorem dX2_foldRest_23 : decode cX2_foldRest 23 = .ok (.if_icmp .ge 28, 3) := by decide +kernel
theorem dX2_foldRest_26 : decode cX2_foldRest 26 = .ok (.aload_n 0, 1) := by decide +kernel
theorem dX2_foldRest_27 : decode cX2_foldRest 27 = .ok (.getfield 18, 3) := by decide +kernel
theorem dX2_foldRest_30 : decode cX2_foldRest 30 = .ok (.iload 4, 2) := by decide +kernel
theorem dX2_foldRest_32 : decode cX2_foldRest 32 = .ok (.aload_n 2, 1) := by decide +kernel
theorem dX2_foldRest_33 : decode cX2_foldRest 33 = .ok (.aload_n 1, 1) := by decide +kernel
theorem dX2_foldRest_34 : decode cX2_foldRest 34 = .ok (.aload_n 0, 1) := by decide +kernel
theorem dX2_foldRest_35 : decode cX2_foldRest 35 = .ok (.getfield 15, 3) := by decide +kernel
theorem dX2_foldRest_38 : decode cX2_foldRest 38 = .ok (.iload 4, 2) := by decide +kernel
theorem dX2_foldRest_40 : decode cX2_foldRest 40 = .ok (.iaload, 1) := by decide +kernel
theorem dX2_foldRest_41 : decode cX2_foldRest 41 = .ok (.invokevirtual 40, 3) := by decide +kernel
theorem dX2_foldRest_44 : decode cX2_foldRest 44 = .ok (.iastore, 1) := by decide +kernel
theorem dX2_foldRest_45 : decode cX2_foldRest 45 = .ok (.iinc 4 1, 3) := by decide +kernel
theorem dX2_foldRest_48 : decode cX2_foldRest 48 = .ok (.goto (-31), 3) := by decide +kernel
theorem dX2_foldRest_51 : decode cX2_foldRest 51 = .ok (.iconst 0, 1) := by decide +kernel
theorem dX2_foldRest_52 : decode cX2_foldRest 52 = .ok (.istore 4, 2) := by decide +kernel
theorem dX2_foldRest_54 : decode cX2_foldRest 54 = .ok (.iconst 0, 1) := by decide +kernel
theorem dX2_foldRest_55 : decode cX2_foldRest 55 = .ok (.istore 5, 2) := by decide +kernel
theorem dX2_foldRest_57 : decode cX2_foldRest 57 = .ok (.iload 5, 2) := by decide +kernel
theorem dX2_foldRest_59 : decode cX2_foldRest 59 = .ok (.iload_n 3, 1) := by decide +kernel
theorem dX2_foldRest_60 : decode cX2_foldRest 60 = .ok (.if_icmp .ge 22, 3) := by decide +kernel
theorem dX2_foldRest_63 : decode cX2_foldRest 63 = .ok (.iload 4, 2) := by decide +kernel
theorem dX2_foldRest_65 : decode cX2_foldRest 65 = .ok (.iconst 1, 1) := by decide +kernel
theorem dX2_foldRest_66 : decode cX2_foldRest 66 = .ok (.aload_n 0, 1) := by decide +kernel
theorem dX2_foldRest_67 : decode cX2_foldRest 67 = .ok (.iload 4, 2) := by decide +kernel
theorem dX2_foldRest_69 : decode cX2_foldRest 69 = .ok (.invokevirtual 46, 3) := by decide +kernel
theorem dX2_foldRest_72 : decode cX2_foldRest 72 = .ok (.ishl, 1) := by decide +kernel
theorem dX2_foldRest_73 : decode cX2_foldRest 73 = .ok (.ior, 1) := by decide +kernel
theorem dX2_foldRest_74 : decode cX2_foldRest 74 = .ok (.istore 4, 2) := by decide +kernel
theorem dX2_foldRest_76 : decode cX2_foldRest 76 = .ok (.iinc 5 1, 3) := by decide +kernel
theorem dX2_foldRest_79 : decode cX2_foldRest 79 = .ok (.goto (-22), 3) := by decide +kernel
theorem dX2_foldRest_82 : decode cX2_foldRest 82 = .ok (.aload_n 0, 1) := by decide +kernel
theorem dX2_foldRest_83 : decode cX2_foldRest 83 = .ok (.iload 4, 2) := by decide +kernel
theorem dX2_foldRest_85 : decode cX2_foldRest 85 = .ok (.invokevirtual 50, 3) := by decide +kernel
theorem dX2_foldRest_88 : decode cX2_foldRest 88 = .ok (.return_, 1) := by decide +kernel
theorem dX2_greatestBut_0 : decode cX2_greatestBut 0 = .ok (.iconst 0, 1) := by decide +kernel
theorem dX2_greatestBut_1 : decode cX2_greatestBut 1 = .ok (.istore_n 2, 1) := by decide +kernel
theorem dX2_greatestBut_2 : decode cX2_greatestBut 2 = .ok (.iconst 0, 1) := by decide +kernel
theorem dX2_greatestBut_3 : decode cX2_greatestBut 3 = .ok (.istore_n 3, 1) := by decide +kernel
theorem dX2_greatestBut_4 : decode cX2_greatestBut 4 = .ok (.iconst 0, 1) := by decide +kernel
theorem dX2_greatestBut_5 : decode cX2_greatestBut 5 = .ok (.istore 4, 2) := by decide +kernel
theorem dX2_greatestBut_7 : decode cX2_greatestBut 7 = .ok (.iload 4, 2) := by decide +kernel
theorem dX2_greatestBut_9 : decode cX2_greatestBut 9 = .ok (.aload_n 0, 1) := by decide +kernel
theorem dX2_greatestBut_10 : decode cX2_greatestBut 10 = .ok (.getfield 21, 3) := by decide +kernel
theorem dX2_greatestBut_13 : decode cX2_greatestBut 13 = .ok (.if_icmp .ge 55, 3) := by decide +kernel
theorem dX2_greatestBut_16 : decode cX2_greatestBut 16 = .ok (.iload_n 1, 1) := by decide +kernel
theorem dX2_greatestBut_17 : decode cX2_greatestBut 17 = .ok (.iload 4, 2) := by decide +kernel
theorem dX2_greatestBut_19 : decode cX2_greatestBut 19 = .ok (.ishr, 1) := by decide +kernel
theorem dX2_greatestBut_20 : decode cX2_greatestBut 20 = .ok (.iconst 1, 1) := by decide +kernel
theorem dX2_greatestBut_21 : decode cX2_greatestBut 21 = .ok (.iand, 1) := by decide +kernel
theorem dX2_greatestBut_22 : decode cX2_greatestBut 22 = .ok (.ifCond .ne 7, 3) := by decide +kernel
theorem dX2_greatestBut_25 : decode cX2_greatestBut 25 = .ok (.iconst 1, 1) := by decide +kernel
theorem dX2_greatestBut_26 : decode cX2_greatestBut 26 = .ok (.goto 4, 3) := by decide +kernel
theorem dX2_greatestBut_29 : decode cX2_greatestBut 29 = .ok (.iconst 0, 1) := by decide +kernel
theorem dX2_greatestBut_30 : decode cX2_greatestBut 30 = .ok (.istore 5, 2) := by decide +kernel
theorem dX2_greatestBut_32 : decode cX2_greatestBut 32 = .ok (.iload 5, 2) := by decide +kernel
theorem dX2_greatestBut_34 : decode cX2_greatestBut 34 = .ok (.ifCond .eq 28, 3) := by decide +kernel
theorem dX2_greatestBut_37 : decode cX2_greatestBut 37 = .ok (.iload_n 3, 1) := by decide +kernel
theorem dX2_greatestBut_38 : decode cX2_greatestBut 38 = .ok (.ifCond .eq 19, 3) := by decide +kernel
theorem dX2_greatestBut_41 : decode cX2_greatestBut 41 = .ok (.aload_n 0, 1) := by decide +kernel
theorem dX2_greatestBut_42 : decode cX2_greatestBut 42 = .ok (.getfield 18, 3) := by decide +kernel
theorem dX2_greatestBut_45 : decode cX2_greatestBut 45 = .ok (.iload 4, 2) := by decide +kernel
theorem dX2_greatestBut_47 : decode cX2_greatestBut 47 = .ok (.iaload, 1) := by decide +kernel
theorem dX2_greatestBut_48 : decode cX2_greatestBut 48 = .ok (.aload_n 0, 1) := by decide +kernel
theorem dX2_greatestBut_49 : decode cX2_greatestBut 49 = .ok (.getfield 18, 3) := by decide +kernel
theorem dX2_greatestBut_52 : decode cX2_greatestBut 52 = .ok (.iload_n 2, 1) := by decide +kernel
theorem dX2_greatestBut_53 : decode cX2_greatestBut 53 = .ok (.iaload, 1) := by decide +kernel
theorem dX2_greatestBut_54 : decode cX2_greatestBut 54 = .ok (.if_icmp .le 8, 3) := by decide +kernel
theorem dX2_greatestBut_57 : decode cX2_greatestBut 57 = .ok (.iload 4, 2) := by decide +kernel
theorem dX2_greatestBut_59 : decode cX2_greatestBut 59 = .ok (.istore_n 2, 1) := by decide +kernel
theorem dX2_greatestBut_60 : decode cX2_greatestBut 60 = .ok (.iconst 1, 1) := by decide +kernel
theorem dX2_greatestBut_61 : decode cX2_greatestBut 61 = .ok (.istore_n 3, 1) := by decide +kernel
theorem dX2_greatestBut_62 : decode cX2_greatestBut 62 = .ok (.iinc 4 1, 3) := by decide +kernel
theorem dX2_greatestBut_65 : decode cX2_greatestBut 65 = .ok (.goto (-58), 3) := by decide +kernel
theorem dX2_greatestBut_68 : decode cX2_greatestBut 68 = .ok (.iload_n 2, 1) := by decide +kernel
theorem dX2_greatestBut_69 : decode cX2_greatestBut 69 = .ok (.ireturn, 1) := by decide +kernel
theorem dX2_closeUp_0 : decode cX2_closeUp 0 = .ok (.iconst 0, 1) := by decide +kernel
theorem dX2_closeUp_1 : decode cX2_closeUp 1 = .ok (.istore_n 2, 1) := by decide +kernel
theorem dX2_closeUp_2 : decode cX2_closeUp 2 = .ok (.iconst 0, 1) := by decide +kernel
theorem dX2_closeUp_3 : decode cX2_closeUp 3 = .ok (.istore_n 3, 1) := by decide +kernel
theorem dX2_closeUp_4 : decode cX2_closeUp 4 = .ok (.iconst 0, 1) := by decide +kernel
theorem dX2_closeUp_5 : decode cX2_closeUp 5 = .ok (.istore 4, 2) := by decide +kernel
theorem dX2_closeUp_7 : decode cX2_closeUp 7 = .ok (.iload 4, 2) := by decide +kernel
theorem dX2_closeUp_9 : decode cX2_closeUp 9 = .ok (.aload_n 0, 1) := by decide +kernel
theorem dX2_closeUp_10 : decode cX2_closeUp 10 = .ok (.getfield 21, 3) := by decide +kernel
theorem dX2_closeUp_13 : decode cX2_closeUp 13 = .ok (.if_icmp .ge 61, 3) := by decide +kernel
theorem dX2_closeUp_16 : decode cX2_closeUp 16 = .ok (.iload_n 1, 1) := by decide +kernel
theorem dX2_closeUp_17 : decode cX2_closeUp 17 = .ok (.iload 4, 2) := by decide +kernel
theorem dX2_closeUp_19 : decode cX2_closeUp 19 = .ok (.ishr, 1) := by decide +kernel
theorem dX2_closeUp_20 : decode cX2_closeUp 20 = .ok (.iconst 1, 1) := by decide +kernel
theorem dX2_closeUp_21 : decode cX2_closeUp 21 = .ok (.iand, 1) := by decide +kernel
theorem dX2_closeUp_22 : decode cX2_closeUp 22 = .ok (.iconst 1, 1) := by decide +kernel
theorem dX2_closeUp_23 : decode cX2_closeUp 23 = .ok (.if_icmp .ne 35, 3) := by decide +kernel
theorem dX2_closeUp_26 : decode cX2_closeUp 26 = .ok (.aload_n 0, 1) := by decide +kernel
theorem dX2_closeUp_27 : decode cX2_closeUp 27 = .ok (.getfield 9, 3) := by decide +kernel
theorem dX2_closeUp_30 : decode cX2_closeUp 30 = .ok (.iload_n 3, 1) := by decide +kernel
theorem dX2_closeUp_31 : decode cX2_closeUp 31 = .ok (.aload_n 0, 1) := by decide +kernel
theorem dX2_closeUp_32 : decode cX2_closeUp 32 = .ok (.getfield 9, 3) := by decide +kernel
theorem dX2_closeUp_35 : decode cX2_closeUp 35 = .ok (.iload 4, 2) := by decide +kernel
theorem dX2_closeUp_37 : decode cX2_closeUp 37 = .ok (.iaload, 1) := by decide +kernel
theorem dX2_closeUp_38 : decode cX2_closeUp 38 = .ok (.iastore, 1) := by decide +kernel
theorem dX2_closeUp_39 : decode cX2_closeUp 39 = .ok (.aload_n 0, 1) := by decide +kernel
theorem dX2_closeUp_40 : decode cX2_closeUp 40 = .ok (.getfield 15, 3) := by decide +kernel
theorem dX2_closeUp_43 : decode cX2_closeUp 43 = .ok (.iload_n 3, 1) := by decide +kernel
theorem dX2_closeUp_44 : decode cX2_closeUp 44 = .ok (.aload_n 0, 1) := by decide +kernel
theorem dX2_closeUp_45 : decode cX2_closeUp 45 = .ok (.getfield 15, 3) := by decide +kernel
theorem dX2_closeUp_48 : decode cX2_closeUp 48 = .ok (.iload 4, 2) := by decide +kernel
theorem dX2_closeUp_50 : decode cX2_closeUp 50 = .ok (.iaload, 1) := by decide +kernel
theorem dX2_closeUp_51 : decode cX2_closeUp 51 = .ok (.iastore, 1) := by decide +kernel
theorem dX2_closeUp_52 : decode cX2_closeUp 52 = .ok (.iinc 3 1, 3) := by decide +kernel
theorem dX2_closeUp_55 : decode cX2_closeUp 55 = .ok (.goto 13, 3) := by decide +kernel
theorem dX2_closeUp_58 : decode cX2_closeUp 58 = .ok (.iload_n 2, 1) := by decide +kernel
theorem dX2_closeUp_59 : decode cX2_closeUp 59 = .ok (.aload_n 0, 1) := by decide +kernel
theorem dX2_closeUp_60 : decode cX2_closeUp 60 = .ok (.getfield 15, 3) := by decide +kernel
theorem dX2_closeUp_63 : decode cX2_closeUp 63 = .ok (.iload 4, 2) := by decide +kernel
theorem dX2_closeUp_65 : decode cX2_closeUp 65 = .ok (.iaload, 1) := by decide +kernel
theorem dX2_closeUp_66 : decode cX2_closeUp 66 = .ok (.ior, 1) := by decide +kernel
theorem dX2_closeUp_67 : decode cX2_closeUp 67 = .ok (.istore_n 2, 1) := by decide +kernel
theorem dX2_closeUp_68 : decode cX2_closeUp 68 = .ok (.iinc 4 1, 3) := by decide +kernel
theorem dX2_closeUp_71 : decode cX2_closeUp 71 = .ok (.goto (-64), 3) := by decide +kernel
theorem dX2_closeUp_74 : decode cX2_closeUp 74 = .ok (.iload_n 3, 1) := by decide +kernel
theorem dX2_closeUp_75 : decode cX2_closeUp 75 = .ok (.aload_n 0, 1) := by decide +kernel
theorem dX2_closeUp_76 : decode cX2_closeUp 76 = .ok (.getfield 21, 3) := by decide +kernel
theorem dX2_closeUp_79 : decode cX2_closeUp 79 = .ok (.if_icmp .ge 25, 3) := by decide +kernel
theorem dX2_closeUp_82 : decode cX2_closeUp 82 = .ok (.aload_n 0, 1) := by decide +kernel
theorem dX2_closeUp_83 : decode cX2_closeUp 83 = .ok (.getfield 9, 3) := by decide +kernel
theorem dX2_closeUp_86 : decode cX2_closeUp 86 = .ok (.iload_n 3, 1) := by decide +kernel
theorem dX2_closeUp_87 : decode cX2_closeUp 87 = .ok (.bipush 99, 2) := by decide +kernel
theorem dX2_closeUp_89 : decode cX2_closeUp 89 = .ok (.iastore, 1) := by decide +kernel
theorem dX2_closeUp_90 : decode cX2_closeUp 90 = .ok (.aload_n 0, 1) := by decide +kernel
theorem dX2_closeUp_91 : decode cX2_closeUp 91 = .ok (.getfield 15, 3) := by decide +kernel
theorem dX2_closeUp_94 : decode cX2_closeUp 94 = .ok (.iload_n 3, 1) := by decide +kernel
theorem dX2_closeUp_95 : decode cX2_closeUp 95 = .ok (.iload_n 2, 1) := by decide +kernel
theorem dX2_closeUp_96 : decode cX2_closeUp 96 = .ok (.iastore, 1) := by decide +kernel
theorem dX2_closeUp_97 : decode cX2_closeUp 97 = .ok (.aload_n 0, 1) := by decide +kernel
theorem dX2_closeUp_98 : decode cX2_closeUp 98 = .ok (.iload_n 3, 1) := by decide +kernel
theorem dX2_closeUp_99 : decode cX2_closeUp 99 = .ok (.iconst 1, 1) := by decide +kernel
theorem dX2_closeUp_100 : decode cX2_closeUp 100 = .ok (.iadd, 1) := by decide +kernel
theorem dX2_closeUp_101 : decode cX2_closeUp 101 = .ok (.putfield 21, 3) := by decide +kernel
theorem dX2_closeUp_104 : decode cX2_closeUp 104 = .ok (.return_, 1) := by decide +kernel
theorem dX2_setOf_0 : decode cX2_setOf 0 = .ok (.iconst 0, 1) := by decide +kernel
theorem dX2_setOf_1 : decode cX2_setOf 1 = .ok (.istore_n 2, 1) := by decide +kernel
theorem dX2_setOf_2 : decode cX2_setOf 2 = .ok (.iload_n 2, 1) := by decide +kernel
theorem dX2_setOf_3 : decode cX2_setOf 3 = .ok (.aload_n 0, 1) := by decide +kernel
theorem dX2_setOf_4 : decode cX2_setOf 4 = .ok (.getfield 21, 3) := by decide +kernel
theorem dX2_setOf_7 : decode cX2_setOf 7 = .ok (.if_icmp .ge 26, 3) := by decide +kernel
theorem dX2_setOf_10 : decode cX2_setOf 10 = .ok (.aload_n 0, 1) := by decide +kernel
theorem dX2_setOf_11 : decode cX2_setOf 11 = .ok (.getfield 9, 3) := by decide +kernel
theorem dX2_setOf_14 : decode cX2_setOf 14 = .ok (.iload_n 2, 1) := by decide +kernel
theorem dX2_setOf_15 : decode cX2_setOf 15 = .ok (.iaload, 1) := by decide +kernel
theorem dX2_setOf_16 : decode cX2_setOf 16 = .ok (.iload_n 1, 1) := by decide +kernel
theorem dX2_setOf_17 : decode cX2_setOf 17 = .ok (.if_icmp .ne 10, 3) := by decide +kernel
theorem dX2_setOf_20 : decode cX2_setOf 20 = .ok (.aload_n 0, 1) := by decide +kernel
theorem dX2_setOf_21 : decode cX2_setOf 21 = .ok (.getfield 15, 3) := by decide +kernel
theorem dX2_setOf_24 : decode cX2_setOf 24 = .ok (.iload_n 2, 1) := by decide +kernel
theorem dX2_setOf_25 : decode cX2_setOf 25 = .ok (.iaload, 1) := by decide +kernel
theorem dX2_setOf_26 : decode cX2_setOf 26 = .ok (.ireturn, 1) := by decide +kernel
theorem dX2_setOf_27 : decode cX2_setOf 27 = .ok (.iinc 2 1, 3) := by decide +kernel
theorem dX2_setOf_30 : decode cX2_setOf 30 = .ok (.goto (-28), 3) := by decide +kernel
theorem dX2_setOf_33 : decode cX2_setOf 33 = .ok (.iconst 0, 1) := by decide +kernel
theorem dX2_setOf_34 : decode cX2_setOf 34 = .ok (.ireturn, 1) := by decide +kernel
theorem dX2_keyOfEntry_0 : decode cX2_keyOfEntry 0 = .ok (.iconst 0, 1) := by decide +kernel
theorem dX2_keyOfEntry_1 : decode cX2_keyOfEntry 1 = .ok (.istore_n 2, 1) := by decide +kernel
theorem dX2_keyOfEntry_2 : decode cX2_keyOfEntry 2 = .ok (.iload_n 2, 1) := by decide +kernel
theorem dX2_keyOfEntry_3 : decode cX2_keyOfEntry 3 = .ok (.aload_n 0, 1) := by decide +kernel
theorem dX2_keyOfEntry_4 : decode cX2_keyOfEntry 4 = .ok (.getfield 21, 3) := by decide +kernel
theorem dX2_keyOfEntry_7 : decode cX2_keyOfEntry 7 = .ok (.if_icmp .ge 30, 3) := by decide +kernel
theorem dX2_keyOfEntry_10 : decode cX2_keyOfEntry 10 = .ok (.aload_n 0, 1) := by decide +kernel
theorem dX2_keyOfEntry_11 : decode cX2_keyOfEntry 11 = .ok (.getfield 15, 3) := by decide +kernel
theorem dX2_keyOfEntry_14 : decode cX2_keyOfEntry 14 = .ok (.iload_n 2, 1) := by decide +kernel
theorem dX2_keyOfEntry_15 : decode cX2_keyOfEntry 15 = .ok (.iaload, 1) := by decide +kernel
theorem dX2_keyOfEntry_16 : decode cX2_keyOfEntry 16 = .ok (.iload_n 1, 1) := by decide +kernel
theorem dX2_keyOfEntry_17 : decode cX2_keyOfEntry 17 = .ok (.ishr, 1) := by decide +kernel
theorem dX2_keyOfEntry_18 : decode cX2_keyOfEntry 18 = .ok (.iconst 1, 1) := by decide +kernel
theorem dX2_keyOfEntry_19 : decode cX2_keyOfEntry 19 = .ok (.iand, 1) := by decide +kernel
theorem dX2_keyOfEntry_20 : decode cX2_keyOfEntry 20 = .ok (.iconst 1, 1) := by decide +kernel
theorem dX2_keyOfEntry_21 : decode cX2_keyOfEntry 21 = .ok (.if_icmp .ne 10, 3) := by decide +kernel
theorem dX2_keyOfEntry_24 : decode cX2_keyOfEntry 24 = .ok (.aload_n 0, 1) := by decide +kernel
theorem dX2_keyOfEntry_25 : decode cX2_keyOfEntry 25 = .ok (.getfield 9, 3) := by decide +kernel
theorem dX2_keyOfEntry_28 : decode cX2_keyOfEntry 28 = .ok (.iload_n 2, 1) := by decide +kernel
theorem dX2_keyOfEntry_29 : decode cX2_keyOfEntry 29 = .ok (.iaload, 1) := by decide +kernel
theorem dX2_keyOfEntry_30 : decode cX2_keyOfEntry 30 = .ok (.ireturn, 1) := by decide +kernel
theorem dX2_keyOfEntry_31 : decode cX2_keyOfEntry 31 = .ok (.iinc 2 1, 3) := by decide +kernel
theorem dX2_keyOfEntry_34 : decode cX2_keyOfEntry 34 = .ok (.goto (-32), 3) := by decide +kernel
theorem dX2_keyOfEntry_37 : decode cX2_keyOfEntry 37 = .ok (.bipush (-9), 2) := by decide +kernel
theorem dX2_keyOfEntry_39 : decode cX2_keyOfEntry 39 = .ok (.ireturn, 1) := by decide +kernel
theorem dX2_union_0 : decode cX2_union 0 = .ok (.iconst 0, 1) := by decide +kernel
theorem dX2_union_1 : decode cX2_union 1 = .ok (.istore_n 2, 1) := by decide +kernel
theorem dX2_union_2 : decode cX2_union 2 = .ok (.iconst 0, 1) := by decide +kernel
theorem dX2_union_3 : decode cX2_union 3 = .ok (.istore_n 3, 1) := by decide +kernel
theorem dX2_union_4 : decode cX2_union 4 = .ok (.iload_n 3, 1) := by decide +kernel
theorem dX2_union_5 : decode cX2_union 5 = .ok (.aload_n 0, 1) := by decide +kernel
theorem dX2_union_6 : decode cX2_union 6 = .ok (.getfield 21, 3) := by decide +kernel
theorem dX2_union_9 : decode cX2_union 9 = .ok (.if_icmp .ge 27, 3) := by decide +kernel
theorem dX2_union_12 : decode cX2_union 12 = .ok (.iload_n 1, 1) := by decide +kernel
theorem dX2_union_13 : decode cX2_union 13 = .ok (.iload_n 3, 1) := by decide +kernel
theorem dX2_union_14 : decode cX2_union 14 = .ok (.ishr, 1) := by decide +kernel
theorem dX2_union_15 : decode cX2_union 15 = .ok (.iconst 1, 1) := by decide +kernel
theorem dX2_union_16 : decode cX2_union 16 = .ok (.iand, 1) := by decide +kernel
theorem dX2_union_17 : decode cX2_union 17 = .ok (.iconst 1, 1) := by decide +kernel
theorem dX2_union_18 : decode cX2_union 18 = .ok (.if_icmp .ne 12, 3) := by decide +kernel
theorem dX2_union_21 : decode cX2_union 21 = .ok (.iload_n 2, 1) := by decide +kernel
theorem dX2_union_22 : decode cX2_union 22 = .ok (.aload_n 0, 1) := by decide +kernel
theorem dX2_union_23 : decode cX2_union 23 = .ok (.getfield 15, 3) := by decide +kernel
theorem dX2_union_26 : decode cX2_union 26 = .ok (.iload_n 3, 1) := by decide +kernel
theorem dX2_union_27 : decode cX2_union 27 = .ok (.iaload, 1) := by decide +kernel
theorem dX2_union_28 : decode cX2_union 28 = .ok (.ior, 1) := by decide +kernel
theorem dX2_union_29 : decode cX2_union 29 = .ok (.istore_n 2, 1) := by decide +kernel
theorem dX2_union_30 : decode cX2_union 30 = .ok (.iinc 3 1, 3) := by decide +kernel
theorem dX2_union_33 : decode cX2_union 33 = .ok (.goto (-29), 3) := by decide +kernel
theorem dX2_union_36 : decode cX2_union 36 = .ok (.iload_n 2, 1) := by decide +kernel
theorem dX2_union_37 : decode cX2_union 37 = .ok (.ireturn, 1) := by decide +kernel
theorem dX2_meetings_0 : decode cX2_meetings 0 = .ok (.iconst 0, 1) := by decide +kernel
theorem dX2_meetings_1 : decode cX2_meetings 1 = .ok (.istore_n 2, 1) := by decide +kernel
theorem dX2_meetings_2 : decode cX2_meetings 2 = .ok (.iconst 0, 1) := by decide +kernel
theorem dX2_meetings_3 : decode cX2_meetings 3 = .ok (.istore_n 3, 1) := by decide +kernel
theorem dX2_meetings_4 : decode cX2_meetings 4 = .ok (.iload_n 3, 1) := by decide +kernel
theorem dX2_meetings_5 : decode cX2_meetings 5 = .ok (.aload_n 0, 1) := by decide +kernel
theorem dX2_meetings_6 : decode cX2_meetings 6 = .ok (.getfield 21, 3) := by decide +kernel
theorem dX2_meetings_9 : decode cX2_meetings 9 = .ok (.if_icmp .ge 47, 3) := by decide +kernel
theorem dX2_meetings_12 : decode cX2_meetings 12 = .ok (.iconst 0, 1) := by decide +kernel
theorem dX2_meetings_13 : decode cX2_meetings 13 = .ok (.istore 4, 2) := by decide +kernel
theorem dX2_meetings_15 : decode cX2_meetings 15 = .ok (.iload 4, 2) := by decide +kernel
theorem dX2_meetings_17 : decode cX2_meetings 17 = .ok (.aload_n 1, 1) := by decide +kernel
theorem dX2_meetings_18 : decode cX2_meetings 18 = .ok (.getfield 21, 3) := by decide +kernel
theorem dX2_meetings_21 : decode cX2_meetings 21 = .ok (.if_icmp .ge 29, 3) := by decide +kernel
theorem dX2_meetings_24 : decode cX2_meetings 24 = .ok (.aload_n 0, 1) := by decide +kernel
theorem dX2_meetings_25 : decode cX2_meetings 25 = .ok (.getfield 15, 3) := by decide +kernel
theorem dX2_meetings_28 : decode cX2_meetings 28 = .ok (.iload_n 3, 1) := by decide +kernel
theorem dX2_meetings_29 : decode cX2_meetings 29 = .ok (.iaload, 1) := by decide +kernel
theorem dX2_meetings_30 : decode cX2_meetings 30 = .ok (.aload_n 1, 1) := by decide +kernel
theorem dX2_meetings_31 : decode cX2_meetings 31 = .ok (.getfield 15, 3) := by decide +kernel
theorem dX2_meetings_34 : decode cX2_meetings 34 = .ok (.iload 4, 2) := by decide +kernel
theorem dX2_meetings_36 : decode cX2_meetings 36 = .ok (.iaload, 1) := by decide +kernel
theorem dX2_meetings_37 : decode cX2_meetings 37 = .ok (.iand, 1) := by decide +kernel
theorem dX2_meetings_38 : decode cX2_meetings 38 = .ok (.ifCond .eq 6, 3) := by decide +kernel
theorem dX2_meetings_41 : decode cX2_meetings 41 = .ok (.iinc 2 1, 3) := by decide +kernel
theorem dX2_meetings_44 : decode cX2_meetings 44 = .ok (.iinc 4 1, 3) := by decide +kernel
theorem dX2_meetings_47 : decode cX2_meetings 47 = .ok (.goto (-32), 3) := by decide +kernel
theorem dX2_meetings_50 : decode cX2_meetings 50 = .ok (.iinc 3 1, 3) := by decide +kernel
theorem dX2_meetings_53 : decode cX2_meetings 53 = .ok (.goto (-49), 3) := by decide +kernel
theorem dX2_meetings_56 : decode cX2_meetings 56 = .ok (.iload_n 2, 1) := by decide +kernel
theorem dX2_meetings_57 : decode cX2_meetings 57 = .ok (.ireturn, 1) := by decide +kernel
theorem dX3_init_0 : decode cX3_init 0 = .ok (.aload_n 0, 1) := by decide +kernel
theorem dX3_init_1 : decode cX3_init 1 = .ok (.invokespecial 3, 3) := by decide +kernel
theorem dX3_init_4 : decode cX3_init 4 = .ok (.aload_n 0, 1) := by decide +kernel
theorem dX3_init_5 : decode cX3_init 5 = .ok (.bipush 16, 2) := by decide +kernel
theorem dX3_init_7 : decode cX3_init 7 = .ok (.newarray .int, 2) := by decide +kernel
theorem dX3_init_9 : decode cX3_init 9 = .ok (.putfield 9, 3) := by decide +kernel
theorem dX3_init_12 : decode cX3_init 12 = .ok (.aload_n 0, 1) := by decide +kernel
theorem dX3_init_13 : decode cX3_init 13 = .ok (.bipush 16, 2) := by decide +kernel
theorem dX3_init_15 : decode cX3_init 15 = .ok (.newarray .int, 2) := by decide +kernel
theorem dX3_init_17 : decode cX3_init 17 = .ok (.putfield 15, 3) := by decide +kernel
theorem dX3_init_20 : decode cX3_init 20 = .ok (.aload_n 0, 1) := by decide +kernel
theorem dX3_init_21 : decode cX3_init 21 = .ok (.bipush 16, 2) := by decide +kernel
theorem dX3_init_23 : decode cX3_init 23 = .ok (.newarray .int, 2) := by decide +kernel
theorem dX3_init_25 : decode cX3_init 25 = .ok (.putfield 18, 3) := by decide +kernel
theorem dX3_init_28 : decode cX3_init 28 = .ok (.aload_n 0, 1) := by decide +kernel
theorem dX3_init_29 : decode cX3_init 29 = .ok (.iconst 0, 1) := by decide +kernel
theorem dX3_init_30 : decode cX3_init 30 = .ok (.putfield 21, 3) := by decide +kernel
theorem dX3_init_33 : decode cX3_init 33 = .ok (.return_, 1) := by decide +kernel
theorem dX3_has_0 : decode cX3_has 0 = .ok (.iload_n 1, 1) := by decide +kernel
theorem dX3_has_1 : decode cX3_has 1 = .ok (.ifCond .lt 15, 3) := by decide +kernel
theorem dX3_has_4 : decode cX3_has 4 = .ok (.iload_n 1, 1) := by decide +kernel
theorem dX3_has_5 : decode cX3_has 5 = .ok (.aload_n 0, 1) := by decide +kernel
theorem dX3_has_6 : decode cX3_has 6 = .ok (.getfield 21, 3) := by decide +kernel
theorem dX3_has_9 : decode cX3_has 9 = .ok (.if_icmp .ge 7, 3) := by decide +kernel
theorem dX3_has_12 : decode cX3_has 12 = .ok (.iconst 1, 1) := by decide +kernel
theorem dX3_has_13 : decode cX3_has 13 = .ok (.goto 4, 3) := by decide +kernel
theorem dX3_has_16 : decode cX3_has 16 = .ok (.iconst 0, 1) := by decide +kernel
theorem dX3_has_17 : decode cX3_has 17 = .ok (.ireturn, 1) := by decide +kernel
theorem dX3_hasRoom_0 : decode cX3_hasRoom 0 = .ok (.aload_n 0, 1) := by decide +kernel
theorem dX3_hasRoom_1 : decode cX3_hasRoom 1 = .ok (.getfield 21, 3) := by decide +kernel
theorem dX3_hasRoom_4 : decode cX3_hasRoom 4 = .ok (.bipush 16, 2) := by decide +kernel
theorem dX3_hasRoom_6 : decode cX3_hasRoom 6 = .ok (.if_icmp .ge 7, 3) := by decide +kernel
theorem dX3_hasRoom_9 : decode cX3_hasRoom 9 = .ok (.iconst 1, 1) := by decide +kernel
theorem dX3_hasRoom_10 : decode cX3_hasRoom 10 = .ok (.goto 4, 3) := by decide +kernel
theorem dX3_hasRoom_13 : decode cX3_hasRoom 13 = .ok (.iconst 0, 1) := by decide +kernel
theorem dX3_hasRoom_14 : decode cX3_hasRoom 14 = .ok (.ireturn, 1) := by decide +kernel
theorem dX3_all_0 : decode cX3_all 0 = .ok (.iconst 1, 1) := by decide +kernel
theorem dX3_all_1 : decode cX3_all 1 = .ok (.aload_n 0, 1) := by decide +kernel
theorem dX3_all_2 : decode cX3_all 2 = .ok (.getfield 21, 3) := by decide +kernel
theorem dX3_all_5 : decode cX3_all 5 = .ok (.ishl, 1) := by decide +kernel
theorem dX3_all_6 : decode cX3_all 6 = .ok (.iconst 1, 1) := by decide +kernel
theorem dX3_all_7 : decode cX3_all 7 = .ok (.isub, 1) := by decide +kernel
theorem dX3_all_8 : decode cX3_all 8 = .ok (.ireturn, 1) := by decide +kernel
theorem dX3_append_0 : decode cX3_append 0 = .ok (.aload_n 0, 1) := by decide +kernel
theorem dX3_append_1 : decode cX3_append 1 = .ok (.aload_n 0, 1) := by decide +kernel
theorem dX3_append_2 : decode cX3_append 2 = .ok (.getfield 21, 3) := by decide +kernel
theorem dX3_append_5 : decode cX3_append 5 = .ok (.iload_n 1, 1) := by decide +kernel
theorem dX3_append_6 : decode cX3_append 6 = .ok (.iload_n 2, 1) := by decide +kernel
theorem dX3_append_7 : decode cX3_append 7 = .ok (.iload_n 3, 1) := by decide +kernel
theorem dX3_append_8 : decode cX3_append 8 = .ok (.invokevirtual 25, 3) := by decide +kernel
theorem dX3_append_11 : decode cX3_append 11 = .ok (.return_, 1) := by decide +kernel
theorem dX3_insert_0 : decode cX3_insert 0 = .ok (.aload_n 0, 1) := by decide +kernel
theorem dX3_insert_1 : decode cX3_insert 1 = .ok (.invokevirtual 29, 3) := by decide +kernel
theorem dX3_insert_4 : decode cX3_insert 4 = .ok (.ifCond .eq 15, 3) := by decide +kernel
theorem dX3_insert_7 : decode cX3_insert 7 = .ok (.iload_n 1, 1) := by decide +kernel
theorem dX3_insert_8 : decode cX3_insert 8 = .ok (.ifCond .lt 11, 3) := by decide +kernel
theorem dX3_insert_11 : decode cX3_insert 11 = .ok (.iload_n 1, 1) := by decide +kernel
theorem dX3_insert_12 : decode cX3_insert 12 = .ok (.aload_n 0, 1) := by decide +kernel
theorem dX3_insert_13 : decode cX3_insert 13 = .ok (.getfield 21, 3) := by decide +kernel
theorem dX3_insert_16 : decode cX3_insert 16 = .ok (.if_icmp .le 4, 3) := by decide +kernel
theorem dX3_insert_19 : decode cX3_insert 19 = .ok (.return_, 1) := by decide +kernel
theorem dX3_insert_20 : decode cX3_insert 20 = .ok (.aload_n 0, 1) := by decide +kernel
theorem dX3_insert_21 : decode cX3_insert 21 = .ok (.iload_n 1, 1) := by decide +kernel
theorem dX3_insert_22 : decode cX3_insert 22 = .ok (.iload_n 1, 1) := by decide +kernel
theorem dX3_insert_23 : decode cX3_insert 23 = .ok (.iconst 1, 1) := by decide +kernel
theorem dX3_insert_24 : decode cX3_insert 24 = .ok (.iadd, 1) := by decide +kernel
theorem dX3_insert_25 : decode cX3_insert 25 = .ok (.aload_n 0, 1) := by decide +kernel
theorem dX3_insert_26 : decode cX3_insert 26 = .ok (.getfield 21, 3) := by decide +kernel
theorem dX3_insert_29 : decode cX3_insert 29 = .ok (.iload_n 1, 1) := by decide +kernel
theorem dX3_insert_30 : decode cX3_insert 30 = .ok (.isub, 1) := by decide +kernel
theorem dX3_insert_31 : decode cX3_insert 31 = .ok (.invokevirtual 33, 3) := by decide +kernel
theorem dX3_insert_34 : decode cX3_insert 34 = .ok (.aload_n 0, 1) := by decide +kernel
theorem dX3_insert_35 : decode cX3_insert 35 = .ok (.getfield 9, 3) := by decide +kernel
theorem dX3_insert_38 : decode cX3_insert 38 = .ok (.iload_n 1, 1) := by decide +kernel
theorem dX3_insert_39 : decode cX3_insert 39 = .ok (.iload_n 2, 1) := by decide +kernel
theorem dX3_insert_40 : decode cX3_insert 40 = .ok (.iastore, 1) := by decide +kernel
theorem dX3_insert_41 : decode cX3_insert 41 = .ok (.aload_n 0, 1) := by decide +kernel
theorem dX3_insert_42 : decode cX3_insert 42 = .ok (.getfield 15, 3) := by decide +kernel
theorem dX3_insert_45 : decode cX3_insert 45 = .ok (.iload_n 1, 1) := by decide +kernel
theorem dX3_insert_46 : decode cX3_insert 46 = .ok (.iload_n 3, 1) := by decide +kernel
theorem dX3_insert_47 : decode cX3_insert 47 = .ok (.iastore, 1) := by decide +kernel
theorem dX3_insert_48 : decode cX3_insert 48 = .ok (.aload_n 0, 1) := by decide +kernel
theorem dX3_insert_49 : decode cX3_insert 49 = .ok (.getfield 18, 3) := by decide +kernel
theorem dX3_insert_52 : decode cX3_insert 52 = .ok (.iload_n 1, 1) := by decide +kernel
theorem dX3_insert_53 : decode cX3_insert 53 = .ok (.iload 4, 2) := by decide +kernel
theorem dX3_insert_55 : decode cX3_insert 55 = .ok (.iastore, 1) := by decide +kernel
theorem dX3_insert_56 : decode cX3_insert 56 = .ok (.aload_n 0, 1) := by decide +kernel
theorem dX3_insert_57 : decode cX3_insert 57 = .ok (.dup, 1) := by decide +kernel
theorem dX3_insert_58 : decode cX3_insert 58 = .ok (.getfield 21, 3) := by decide +kernel
theorem dX3_insert_61 : decode cX3_insert 61 = .ok (.iconst 1, 1) := by decide +kernel
theorem dX3_insert_62 : decode cX3_insert 62 = .ok (.iadd, 1) := by decide +kernel
theorem dX3_insert_63 : decode cX3_insert 63 = .ok (.putfield 21, 3) := by decide +kernel
theorem dX3_insert_66 : decode cX3_insert 66 = .ok (.return_, 1) := by decide +kernel
theorem dX3_remove_0 : decode cX3_remove 0 = .ok (.aload_n 0, 1) := by decide +kernel
theorem dX3_remove_1 : decode cX3_remove 1 = .ok (.iload_n 1, 1) := by decide +kernel
theorem dX3_remove_2 : decode cX3_remove 2 = .ok (.invokevirtual 37, 3) := by decide +kernel
theorem dX3_remove_5 : decode cX3_remove 5 = .ok (.ifCond .ne 4, 3) := by decide +kernel
theorem dX3_remove_8 : decode cX3_remove 8 = .ok (.return_, 1) := by decide +kernel
theorem dX3_remove_9 : decode cX3_remove 9 = .ok (.aload_n 0, 1) := by decide +kernel
theorem dX3_remove_10 : decode cX3_remove 10 = .ok (.iload_n 1, 1) := by decide +kernel
theorem dX3_remove_11 : decode cX3_remove 11 = .ok (.iconst 1, 1) := by decide +kernel
theorem dX3_remove_12 : decode cX3_remove 12 = .ok (.iadd, 1) := by decide +kernel
theorem dX3_remove_13 : decode cX3_remove 13 = .ok (.iload_n 1, 1) := by decide +kernel
theorem dX3_remove_14 : decode cX3_remove 14 = .ok (.aload_n 0, 1) := by decide +kernel
theorem dX3_remove_15 : decode cX3_remove 15 = .ok (.getfield 21, 3) := by decide +kernel
theorem dX3_remove_18 : decode cX3_remove 18 = .ok (.iload_n 1, 1) := by decide +kernel
theorem dX3_remove_19 : decode cX3_remove 19 = .ok (.isub, 1) := by decide +kernel
theorem dX3_remove_20 : decode cX3_remove 20 = .ok (.iconst 1, 1) := by decide +kernel
theorem dX3_remove_21 : decode cX3_remove 21 = .ok (.isub, 1) := by decide +kernel
theorem dX3_remove_22 : decode cX3_remove 22 = .ok (.invokevirtual 33, 3) := by decide +kernel
theorem dX3_remove_25 : decode cX3_remove 25 = .ok (.aload_n 0, 1) := by decide +kernel
theorem dX3_remove_26 : decode cX3_remove 26 = .ok (.dup, 1) := by decide +kernel
theorem dX3_remove_27 : decode cX3_remove 27 = .ok (.getfield 21, 3) := by decide +kernel
theorem dX3_remove_30 : decode cX3_remove 30 = .ok (.iconst 1, 1) := by decide +kernel
theorem dX3_remove_31 : decode cX3_remove 31 = .ok (.isub, 1) := by decide +kernel
theorem dX3_remove_32 : decode cX3_remove 32 = .ok (.putfield 21, 3) := by decide +kernel
theorem dX3_remove_35 : decode cX3_remove 35 = .ok (.return_, 1) := by decide +kernel
theorem dX3_shift_0 : decode cX3_shift 0 = .ok (.aload_n 0, 1) := by decide +kernel
theorem dX3_shift_1 : decode cX3_shift 1 = .ok (.getfield 9, 3) := by decide +kernel
theorem dX3_shift_4 : decode cX3_shift 4 = .ok (.iload_n 1, 1) := by decide +kernel
theorem dX3_shift_5 : decode cX3_shift 5 = .ok (.aload_n 0, 1) := by decide +kernel
theorem dX3_shift_6 : decode cX3_shift 6 = .ok (.getfield 9, 3) := by decide +kernel
theorem dX3_shift_9 : decode cX3_shift 9 = .ok (.iload_n 2, 1) := by decide +kernel
theorem dX3_shift_10 : decode cX3_shift 10 = .ok (.iload_n 3, 1) := by decide +kernel
theorem dX3_shift_11 : decode cX3_shift 11 = .ok (.invokestatic 41, 3) := by decide +kernel
theorem dX3_shift_14 : decode cX3_shift 14 = .ok (.aload_n 0, 1) := by decide +kernel
theorem dX3_shift_15 : decode cX3_shift 15 = .ok (.getfield 15, 3) := by decide +kernel
theorem dX3_shift_18 : decode cX3_shift 18 = .ok (.iload_n 1, 1) := by decide +kernel
theorem dX3_shift_19 : decode cX3_shift 19 = .ok (.aload_n 0, 1) := by decide +kernel
theorem dX3_shift_20 : decode cX3_shift 20 = .ok (.getfield 15, 3) := by decide +kernel
theorem dX3_shift_23 : decode cX3_shift 23 = .ok (.iload_n 2, 1) := by decide +kernel
theorem dX3_shift_24 : decode cX3_shift 24 = .ok (.iload_n 3, 1) := by decide +kernel
theorem dX3_shift_25 : decode cX3_shift 25 = .ok (.invokestatic 41, 3) := by decide +kernel
theorem dX3_shift_28 : decode cX3_shift 28 = .ok (.aload_n 0, 1) := by decide +kernel
theorem dX3_shift_29 : decode cX3_shift 29 = .ok (.getfield 18, 3) := by decide +kernel
theorem dX3_shift_32 : decode cX3_shift 32 = .ok (.iload_n 1, 1) := by decide +kernel
theorem dX3_shift_33 : decode cX3_shift 33 = .ok (.aload_n 0, 1) := by decide +kernel
theorem dX3_shift_34 : decode cX3_shift 34 = .ok (.getfield 18, 3) := by decide +kernel
theorem dX3_shift_37 : decode cX3_shift 37 = .ok (.iload_n 2, 1) := by decide +kernel
theorem dX3_shift_38 : decode cX3_shift 38 = .ok (.iload_n 3, 1) := by decide +kernel
theorem dX3_shift_39 : decode cX3_shift 39 = .ok (.invokestatic 41, 3) := by decide +kernel
theorem dX3_shift_42 : decode cX3_shift 42 = .ok (.return_, 1) := by decide +kernel
theorem dX3_copyFrom_0 : decode cX3_copyFrom 0 = .ok (.aload_n 0, 1) := by decide +kernel
theorem dX3_copyFrom_1 : decode cX3_copyFrom 1 = .ok (.aload_n 1, 1) := by decide +kernel
theorem dX3_copyFrom_2 : decode cX3_copyFrom 2 = .ok (.getfield 21, 3) := by decide +kernel
theorem dX3_copyFrom_5 : decode cX3_copyFrom 5 = .ok (.putfield 21, 3) := by decide +kernel
theorem dX3_copyFrom_8 : decode cX3_copyFrom 8 = .ok (.aload_n 1, 1) := by decide +kernel
theorem dX3_copyFrom_9 : decode cX3_copyFrom 9 = .ok (.getfield 9, 3) := by decide +kernel
theorem dX3_copyFrom_12 : decode cX3_copyFrom 12 = .ok (.iconst 0, 1) := by decide +kernel
theorem dX3_copyFrom_13 : decode cX3_copyFrom 13 = .ok (.aload_n 0, 1) := by decide +kernel
theorem dX3_copyFrom_14 : decode cX3_copyFrom 14 = .ok (.getfield 9, 3) := by decide +kernel
theorem dX3_copyFrom_17 : decode cX3_copyFrom 17 = .ok (.iconst 0, 1) := by decide +kernel
theorem dX3_copyFrom_18 : decode cX3_copyFrom 18 = .ok (.aload_n 0, 1) := by decide +kernel
theorem dX3_copyFrom_19 : decode cX3_copyFrom 19 = .ok (.getfield 21, 3) := by decide +kernel
theorem dX3_copyFrom_22 : decode cX3_copyFrom 22 = .ok (.invokestatic 41, 3) := by decide +kernel
theorem dX3_copyFrom_25 : decode cX3_copyFrom 25 = .ok (.aload_n 1, 1) := by decide +kernel
theorem dX3_copyFrom_26 : decode cX3_copyFrom 26 = .ok (.getfield 15, 3) := by decide +kernel
theorem dX3_copyFrom_29 : decode cX3_copyFrom 29 = .ok (.iconst 0, 1) := by decide +kernel
theorem dX3_copyFrom_30 : decode cX3_copyFrom 30 = .ok (.aload_n 0, 1) := by decide +kernel
theorem dX3_copyFrom_31 : decode cX3_copyFrom 31 = .ok (.getfield 15, 3) := by decide +kernel
theorem dX3_copyFrom_34 : decode cX3_copyFrom 34 = .ok (.iconst 0, 1) := by decide +kernel
theorem dX3_copyFrom_35 : decode cX3_copyFrom 35 = .ok (.aload_n 0, 1) := by decide +kernel
theorem dX3_copyFrom_36 : decode cX3_copyFrom 36 = .ok (.getfield 21, 3) := by decide +kernel
theorem dX3_copyFrom_39 : decode cX3_copyFrom 39 = .ok (.invokestatic 41, 3) := by decide +kernel
theorem dX3_copyFrom_42 : decode cX3_copyFrom 42 = .ok (.aload_n 1, 1) := by decide +kernel
theorem dX3_copyFrom_43 : decode cX3_copyFrom 43 = .ok (.getfield 18, 3) := by decide +kernel
theorem dX3_copyFrom_46 : decode cX3_copyFrom 46 = .ok (.iconst 0, 1) := by decide +kernel
theorem dX3_copyFrom_47 : decode cX3_copyFrom 47 = .ok (.aload_n 0, 1) := by decide +kernel
theorem dX3_copyFrom_48 : decode cX3_copyFrom 48 = .ok (.getfield 18, 3) := by decide +kernel
theorem dX3_copyFrom_51 : decode cX3_copyFrom 51 = .ok (.iconst 0, 1) := by decide +kernel
theorem dX3_copyFrom_52 : decode cX3_copyFrom 52 = .ok (.aload_n 0, 1) := by decide +kernel
theorem dX3_copyFrom_53 : decode cX3_copyFrom 53 = .ok (.getfield 21, 3) := by decide +kernel
theorem dX3_copyFrom_56 : decode cX3_copyFrom 56 = .ok (.invokestatic 41, 3) := by decide +kernel
theorem dX3_copyFrom_59 : decode cX3_copyFrom 59 = .ok (.return_, 1) := by decide +kernel
theorem dX3_missing_0 : decode cX3_missing 0 = .ok (.iconst 0, 1) := by decide +kernel
theorem dX3_missing_1 : decode cX3_missing 1 = .ok (.istore_n 1, 1) := by decide +kernel
theorem dX3_missing_2 : decode cX3_missing 2 = .ok (.iconst 0, 1) := by decide +kernel
theorem dX3_missing_3 : decode cX3_missing 3 = .ok (.istore_n 2, 1) := by decide +kernel
theorem dX3_missing_4 : decode cX3_missing 4 = .ok (.iload_n 2, 1) := by decide +kernel
theorem dX3_missing_5 : decode cX3_missing 5 = .ok (.aload_n 0, 1) := by decide +kernel
theorem dX3_missing_6 : decode cX3_missing 6 = .ok (.getfield 21, 3) := by decide +kernel
theorem dX3_missing_9 : decode cX3_missing 9 = .ok (.if_icmp .ge 26, 3) := by decide +kernel
theorem dX3_missing_12 : decode cX3_missing 12 = .ok (.aload_n 0, 1) := by decide +kernel
theorem dX3_missing_13 : decode cX3_missing 13 = .ok (.getfield 18, 3) := by decide +kernel
theorem dX3_missing_16 : decode cX3_missing 16 = .ok (.iload_n 2, 1) := by decide +kernel
theorem dX3_missing_17 : decode cX3_missing 17 = .ok (.iaload, 1) := by decide +kernel
theorem dX3_missing_18 : decode cX3_missing 18 = .ok (.bipush 100, 2) := by decide +kernel
theorem dX3_missing_20 : decode cX3_missing 20 = .ok (.if_icmp .ne 9, 3) := by decide +kernel
theorem dX3_missing_23 : decode cX3_missing 23 = .ok (.iload_n 1, 1) := by decide +kernel
theorem dX3_missing_24 : decode cX3_missing 24 = .ok (.iconst 1, 1) := by decide +kernel
theorem dX3_missing_25 : decode cX3_missing 25 = .ok (.iload_n 2, 1) := by decide +kernel
theorem dX3_missing_26 : decode cX3_missing 26 = .ok (.ishl, 1) := by decide +kernel
theorem dX3_missing_27 : decode cX3_missing 27 = .ok (.ior, 1) := by decide +kernel
theorem dX3_missing_28 : decode cX3_missing 28 = .ok (.istore_n 1, 1) := by decide +kernel
theorem dX3_missing_29 : decode cX3_missing 29 = .ok (.iinc 2 1, 3) := by decide +kernel
theorem dX3_missing_32 : decode cX3_missing 32 = .ok (.goto (-28), 3) := by decide +kernel
theorem dX3_missing_35 : decode cX3_missing 35 = .ok (.iload_n 1, 1) := by decide +kernel
theorem dX3_missing_36 : decode cX3_missing 36 = .ok (.ireturn, 1) := by decide +kernel
theorem dX3_sumOf_0 : decode cX3_sumOf 0 = .ok (.iconst 0, 1) := by decide +kernel
theorem dX3_sumOf_1 : decode cX3_sumOf 1 = .ok (.istore_n 2, 1) := by decide +kernel
theorem dX3_sumOf_2 : decode cX3_sumOf 2 = .ok (.iconst 0, 1) := by decide +kernel
theorem dX3_sumOf_3 : decode cX3_sumOf 3 = .ok (.istore_n 3, 1) := by decide +kernel
theorem dX3_sumOf_4 : decode cX3_sumOf 4 = .ok (.iload_n 3, 1) := by decide +kernel
theorem dX3_sumOf_5 : decode cX3_sumOf 5 = .ok (.aload_n 0, 1) := by decide +kernel
theorem dX3_sumOf_6 : decode cX3_sumOf 6 = .ok (.getfield 21, 3) := by decide +kernel
theorem dX3_sumOf_9 : decode cX3_sumOf 9 = .ok (.if_icmp .ge 27, 3) := by decide +kernel
theorem dX3_sumOf_12 : decode cX3_sumOf 12 = .ok (.iload_n 1, 1) := by decide +kernel
theorem dX3_sumOf_13 : decode cX3_sumOf 13 = .ok (.iload_n 3, 1) := by decide +kernel
theorem dX3_sumOf_14 : decode cX3_sumOf 14 = .ok (.ishr, 1) := by decide +kernel
theorem dX3_sumOf_15 : decode cX3_sumOf 15 = .ok (.iconst 1, 1) := by decide +kernel
theorem dX3_sumOf_16 : decode cX3_sumOf 16 = .ok (.iand, 1) := by decide +kernel
theorem dX3_sumOf_17 : decode cX3_sumOf 17 = .ok (.iconst 1, 1) := by decide +kernel
theorem dX3_sumOf_18 : decode cX3_sumOf 18 = .ok (.if_icmp .ne 12, 3) := by decide +kernel
theorem dX3_sumOf_21 : decode cX3_sumOf 21 = .ok (.iload_n 2, 1) := by decide +kernel
theorem dX3_sumOf_22 : decode cX3_sumOf 22 = .ok (.aload_n 0, 1) := by decide +kernel
theorem dX3_sumOf_23 : decode cX3_sumOf 23 = .ok (.getfield 18, 3) := by decide +kernel
theorem dX3_sumOf_26 : decode cX3_sumOf 26 = .ok (.iload_n 3, 1) := by decide +kernel
theorem dX3_sumOf_27 : decode cX3_sumOf 27 = .ok (.iaload, 1) := by decide +kernel
theorem dX3_sumOf_28 : decode cX3_sumOf 28 = .ok (.iadd, 1) := by decide +kernel
theorem dX3_sumOf_29 : decode cX3_sumOf 29 = .ok (.istore_n 2, 1) := by decide +kernel
theorem dX3_sumOf_30 : decode cX3_sumOf 30 = .ok (.iinc 3 1, 3) := by decide +kernel
theorem dX3_sumOf_33 : decode cX3_sumOf 33 = .ok (.goto (-29), 3) := by decide +kernel
theorem dX3_sumOf_36 : decode cX3_sumOf 36 = .ok (.iload_n 2, 1) := by decide +kernel
theorem dX3_sumOf_37 : decode cX3_sumOf 37 = .ok (.ireturn, 1) := by decide +kernel
theorem dX3_mostOf_0 : decode cX3_mostOf 0 = .ok (.bipush (-9), 2) := by decide +kernel
theorem dX3_mostOf_2 : decode cX3_mostOf 2 = .ok (.istore_n 2, 1) := by decide +kernel
theorem dX3_mostOf_3 : decode cX3_mostOf 3 = .ok (.iconst 0, 1) := by decide +kernel
theorem dX3_mostOf_4 : decode cX3_mostOf 4 = .ok (.istore_n 3, 1) := by decide +kernel
theorem dX3_mostOf_5 : decode cX3_mostOf 5 = .ok (.iload_n 3, 1) := by decide +kernel
theorem dX3_mostOf_6 : decode cX3_mostOf 6 = .ok (.aload_n 0, 1) := by decide +kernel
theorem dX3_mostOf_7 : decode cX3_mostOf 7 = .ok (.getfield 21, 3) := by decide +kernel
theorem dX3_mostOf_10 : decode cX3_mostOf 10 = .ok (.if_icmp .ge 35, 3) := by decide +kernel
theorem dX3_mostOf_13 : decode cX3_mostOf 13 = .ok (.iload_n 1, 1) := by decide +kernel
theorem dX3_mostOf_14 : decode cX3_mostOf 14 = .ok (.iload_n 3, 1) := by decide +kernel
theorem dX3_mostOf_15 : decode cX3_mostOf 15 = .ok (.ishr, 1) := by decide +kernel
theorem dX3_mostOf_16 : decode cX3_mostOf 16 = .ok (.iconst 1, 1) := by decide +kernel
theorem dX3_mostOf_17 : decode cX3_mostOf 17 = .ok (.iand, 1) := by decide +kernel
theorem dX3_mostOf_18 : decode cX3_mostOf 18 = .ok (.iconst 1, 1) := by decide +kernel
theorem dX3_mostOf_19 : decode cX3_mostOf 19 = .ok (.if_icmp .ne 20, 3) := by decide +kernel
theorem dX3_mostOf_22 : decode cX3_mostOf 22 = .ok (.aload_n 0, 1) := by decide +kernel
theorem dX3_mostOf_23 : decode cX3_mostOf 23 = .ok (.getfield 18, 3) := by decide +kernel
theorem dX3_mostOf_26 : decode cX3_mostOf 26 = .ok (.iload_n 3, 1) := by decide +kernel
theorem dX3_mostOf_27 : decode cX3_mostOf 27 = .ok (.iaload, 1) := by decide +kernel
theorem dX3_mostOf_28 : decode cX3_mostOf 28 = .ok (.iload_n 2, 1) := by decide +kernel
theorem dX3_mostOf_29 : decode cX3_mostOf 29 = .ok (.if_icmp .le 10, 3) := by decide +kernel
theorem dX3_mostOf_32 : decode cX3_mostOf 32 = .ok (.aload_n 0, 1) := by decide +kernel
theorem dX3_mostOf_33 : decode cX3_mostOf 33 = .ok (.getfield 18, 3) := by decide +kernel
theorem dX3_mostOf_36 : decode cX3_mostOf 36 = .ok (.iload_n 3, 1) := by decide +kernel
theorem dX3_mostOf_37 : decode cX3_mostOf 37 = .ok (.iaload, 1) := by decide +kernel
theorem dX3_mostOf_38 : decode cX3_mostOf 38 = .ok (.istore_n 2, 1) := by decide +kernel
theorem dX3_mostOf_39 : decode cX3_mostOf 39 = .ok (.iinc 3 1, 3) := by decide +kernel
theorem dX3_mostOf_42 : decode cX3_mostOf 42 = .ok (.goto (-37), 3) := by decide +kernel
theorem dX3_mostOf_45 : decode cX3_mostOf 45 = .ok (.iload_n 2, 1) := by decide +kernel
theorem dX3_mostOf_46 : decode cX3_mostOf 46 = .ok (.ireturn, 1) := by decide +kernel
theorem dX3_leastOf_0 : decode cX3_leastOf 0 = .ok (.bipush 100, 2) := by decide +kernel
theorem dX3_leastOf_2 : decode cX3_leastOf 2 = .ok (.istore_n 2, 1) := by decide +kernel
theorem dX3_leastOf_3 : decode cX3_leastOf 3 = .ok (.iconst 0, 1) := by decide +kernel
theorem dX3_leastOf_4 : decode cX3_leastOf 4 = .ok (.istore_n 3, 1) := by decide +kernel
theorem dX3_leastOf_5 : decode cX3_leastOf 5 = .ok (.iload_n 3, 1) := by decide +kernel
theorem dX3_leastOf_6 : decode cX3_leastOf 6 = .ok (.aload_n 0, 1) := by decide +kernel
theorem dX3_leastOf_7 : decode cX3_leastOf 7 = .ok (.getfield 21, 3) := by decide +kernel
theorem dX3_leastOf_10 : decode cX3_leastOf 10 = .ok (.if_icmp .ge 35, 3) := by decide +kernel
theorem dX3_leastOf_13 : decode cX3_leastOf 13 = .ok (.iload_n 1, 1) := by decide +kernel
theorem dX3_leastOf_14 : decode cX3_leastOf 14 = .ok (.iload_n 3, 1) := by decide +kernel
theorem dX3_leastOf_15 : decode cX3_leastOf 15 = .ok (.ishr, 1) := by decide +kernel
theorem dX3_leastOf_16 : decode cX3_leastOf 16 = .ok (.iconst 1, 1) := by decide +kernel
theorem dX3_leastOf_17 : decode cX3_leastOf 17 = .ok (.iand, 1) := by decide +kernel
theorem dX3_leastOf_18 : decode cX3_leastOf 18 = .ok (.iconst 1, 1) := by decide +kernel
theorem dX3_leastOf_19 : decode cX3_leastOf 19 = .ok (.if_icmp .ne 20, 3) := by decide +kernel
theorem dX3_leastOf_22 : decode cX3_leastOf 22 = .ok (.aload_n 0, 1) := by decide +kernel
theorem dX3_leastOf_23 : decode cX3_leastOf 23 = .ok (.getfield 18, 3) := by decide +kernel
theorem dX3_leastOf_26 : decode cX3_leastOf 26 = .ok (.iload_n 3, 1) := by decide +kernel
theorem dX3_leastOf_27 : decode cX3_leastOf 27 = .ok (.iaload, 1) := by decide +kernel
theorem dX3_leastOf_28 : decode cX3_leastOf 28 = .ok (.iload_n 2, 1) := by decide +kernel
theorem dX3_leastOf_29 : decode cX3_leastOf 29 = .ok (.if_icmp .ge 10, 3) := by decide +kernel
theorem dX3_leastOf_32 : decode cX3_leastOf 32 = .ok (.aload_n 0, 1) := by decide +kernel
theorem dX3_leastOf_33 : decode cX3_leastOf 33 = .ok (.getfield 18, 3) := by decide +kernel
theorem dX3_leastOf_36 : decode cX3_leastOf 36 = .ok (.iload_n 3, 1) := by decide +kernel
theorem dX3_leastOf_37 : decode cX3_leastOf 37 = .ok (.iaload, 1) := by decide +kernel
theorem dX3_leastOf_38 : decode cX3_leastOf 38 = .ok (.istore_n 2, 1) := by decide +kernel
theorem dX3_leastOf_39 : decode cX3_leastOf 39 = .ok (.iinc 3 1, 3) := by decide +kernel
theorem dX3_leastOf_42 : decode cX3_leastOf 42 = .ok (.goto (-37), 3) := by decide +kernel
theorem dX3_leastOf_45 : decode cX3_leastOf 45 = .ok (.iload_n 2, 1) := by decide +kernel
theorem dX3_leastOf_46 : decode cX3_leastOf 46 = .ok (.bipush 100, 2) := by decide +kernel
theorem dX3_leastOf_48 : decode cX3_leastOf 48 = .ok (.if_icmp .ne 8, 3) := by decide +kernel
theorem dX3_leastOf_51 : decode cX3_leastOf 51 = .ok (.bipush (-9), 2) := by decide +kernel
theorem dX3_leastOf_53 : decode cX3_leastOf 53 = .ok (.goto 4, 3) := by decide +kernel
theorem dX3_leastOf_56 : decode cX3_leastOf 56 = .ok (.iload_n 2, 1) := by decide +kernel
theorem dX3_leastOf_57 : decode cX3_leastOf 57 = .ok (.ireturn, 1) := by decide +kernel
theorem dX3_kindsOf_0 : decode cX3_kindsOf 0 = .ok (.lconst 0, 1) := by decide +kernel
theorem dX3_kindsOf_1 : decode cX3_kindsOf 1 = .ok (.lstore_n 2, 1) := by decide +kernel
theorem dX3_kindsOf_2 : decode cX3_kindsOf 2 = .ok (.lconst 0, 1) := by decide +kernel
theorem dX3_kindsOf_3 : decode cX3_kindsOf 3 = .ok (.lstore 4, 2) := by decide +kernel
theorem dX3_kindsOf_5 : decode cX3_kindsOf 5 = .ok (.iconst 0, 1) := by decide +kernel
theorem dX3_kindsOf_6 : decode cX3_kindsOf 6 = .ok (.istore 6, 2) := by decide +kernel
theorem dX3_kindsOf_8 : decode cX3_kindsOf 8 = .ok (.iload 6, 2) := by decide +kernel
theorem dX3_kindsOf_10 : decode cX3_kindsOf 10 = .ok (.aload_n 0, 1) := by decide +kernel
theorem dX3_kindsOf_11 : decode cX3_kindsOf 11 = .ok (.getfield 21, 3) := by decide +kernel
theorem dX3_kindsOf_14 : decode cX3_kindsOf 14 = .ok (.if_icmp .ge 60, 3) := by decide +kernel
theorem dX3_kindsOf_17 : decode cX3_kindsOf 17 = .ok (.iload_n 1, 1) := by decide +kernel
theorem dX3_kindsOf_18 : decode cX3_kindsOf 18 = .ok (.iload 6, 2) := by decide +kernel
theorem dX3_kindsOf_20 : decode cX3_kindsOf 20 = .ok (.ishr, 1) := by decide +kernel
theorem dX3_kindsOf_21 : decode cX3_kindsOf 21 = .ok (.iconst 1, 1) := by decide +kernel
theorem dX3_kindsOf_22 : decode cX3_kindsOf 22 = .ok (.iand, 1) := by decide +kernel
theorem dX3_kindsOf_23 : decode cX3_kindsOf 23 = .ok (.iconst 1, 1) := by decide +kernel
theorem dX3_kindsOf_24 : decode cX3_kindsOf 24 = .ok (.if_icmp .ne 44, 3) := by decide +kernel
theorem dX3_kindsOf_27 : decode cX3_kindsOf 27 = .ok (.aload_n 0, 1) := by decide +kernel
theorem dX3_kindsOf_28 : decode cX3_kindsOf 28 = .ok (.getfield 18, 3) := by decide +kernel
theorem dX3_kindsOf_31 : decode cX3_kindsOf 31 = .ok (.iload 6, 2) := by decide +kernel
theorem dX3_kindsOf_33 : decode cX3_kindsOf 33 = .ok (.iaload, 1) := by decide +kernel
theorem dX3_kindsOf_34 : decode cX3_kindsOf 34 = .ok (.bipush 64, 2) := by decide +kernel
theorem dX3_kindsOf_36 : decode cX3_kindsOf 36 = .ok (.if_icmp .ge 18, 3) := by decide +kernel
theorem dX3_kindsOf_39 : decode cX3_kindsOf 39 = .ok (.lload_n 2, 1) := by decide +kernel
theorem dX3_kindsOf_40 : decode cX3_kindsOf 40 = .ok (.lconst 1, 1) := by decide +kernel
theorem dX3_kindsOf_41 : decode cX3_kindsOf 41 = .ok (.aload_n 0, 1) := by decide +kernel
theorem dX3_kindsOf_42 : decode cX3_kindsOf 42 = .ok (.getfield 18, 3) := by decide +kernel
theorem dX3_kindsOf_45 : decode cX3_kindsOf 45 = .ok (.iload 6, 2) := by decide +kernel
theorem dX3_kindsOf_47 : decode cX3_kindsOf 47 = .ok (.iaload, 1) := by decide +kernel
theorem dX3_kindsOf_48 : decode cX3_kindsOf 48 = .ok (.lshl, 1) := by decide +kernel
theorem dX3_kindsOf_49 : decode cX3_kindsOf 49 = .ok (.lor, 1) := by decide +kernel
theorem dX3_kindsOf_50 : decode cX3_kindsOf 50 = .ok (.lstore_n 2, 1) := by decide +kernel
theorem dX3_kindsOf_51 : decode cX3_kindsOf 51 = .ok (.goto 17, 3) := by decide +kernel
theorem dX3_kindsOf_54 : decode cX3_kindsOf 54 = .ok (.lload 4, 2) := by decide +kernel
theorem dX3_kindsOf_56 : decode cX3_kindsOf 56 = .ok (.lconst 1, 1) := by decide +kernel
theorem dX3_kindsOf_57 : decode cX3_kindsOf 57 = .ok (.aload_n 0, 1) := by decide +kernel
theorem dX3_kindsOf_58 : decode cX3_kindsOf 58 = .ok (.getfield 18, 3) := by decide +kernel
theorem dX3_kindsOf_61 : decode cX3_kindsOf 61 = .ok (.iload 6, 2) := by decide +kernel
theorem dX3_kindsOf_63 : decode cX3_kindsOf 63 = .ok (.iaload, 1) := by decide +kernel
theorem dX3_kindsOf_64 : decode cX3_kindsOf 64 = .ok (.lshl, 1) := by decide +kernel
theorem dX3_kindsOf_65 : decode cX3_kindsOf 65 = .ok (.lor, 1) := by decide +kernel
theorem dX3_kindsOf_66 : decode cX3_kindsOf 66 = .ok (.lstore 4, 2) := by decide +kernel
theorem dX3_kindsOf_68 : decode cX3_kindsOf 68 = .ok (.iinc 6 1, 3) := by decide +kernel
theorem dX3_kindsOf_71 : decode cX3_kindsOf 71 = .ok (.goto (-63), 3) := by decide +kernel
theorem dX3_kindsOf_74 : decode cX3_kindsOf 74 = .ok (.lload_n 2, 1) := by decide +kernel
theorem dX3_kindsOf_75 : decode cX3_kindsOf 75 = .ok (.invokestatic 47, 3) := by decide +kernel
theorem dX3_kindsOf_78 : decode cX3_kindsOf 78 = .ok (.lload 4, 2) := by decide +kernel
theorem dX3_kindsOf_80 : decode cX3_kindsOf 80 = .ok (.invokestatic 47, 3) := by decide +kernel
theorem dX3_kindsOf_83 : decode cX3_kindsOf 83 = .ok (.iadd, 1) := by decide +kernel
theorem dX3_kindsOf_84 : decode cX3_kindsOf 84 = .ok (.ireturn, 1) := by decide +kernel
theorem dX4_named_0 : decode cX4_named 0 = .ok (.iload_n 0, 1) := by decide +kernel
theorem dX4_named_1 : decode cX4_named 1 = .ok (.lookupswitch 59 #[(45, 55), (97, 43), (98, 47), (118, 51)], 43) := by decide +kernel
theorem dX4_named_44 : decode cX4_named 44 = .ok (.getstatic 5, 3) := by decide +kernel
theorem dX4_named_47 : decode cX4_named 47 = .ok (.areturn, 1) := by decide +kernel
theorem dX4_named_48 : decode cX4_named 48 = .ok (.getstatic 9, 3) := by decide +kernel
theorem dX4_named_51 : decode cX4_named 51 = .ok (.areturn, 1) := by decide +kernel
theorem dX4_named_52 : decode cX4_named 52 = .ok (.getstatic 12, 3) := by decide +kernel
theorem dX4_named_55 : decode cX4_named 55 = .ok (.areturn, 1) := by decide +kernel
theorem dX4_named_56 : decode cX4_named 56 = .ok (.getstatic 15, 3) := by decide +kernel
theorem dX4_named_59 : decode cX4_named 59 = .ok (.areturn, 1) := by decide +kernel
theorem dX4_named_60 : decode cX4_named 60 = .ok (.aconst_null, 1) := by decide +kernel
theorem dX4_named_61 : decode cX4_named 61 = .ok (.areturn, 1) := by decide +kernel
theorem dX4_keyOf_0 : decode cX4_keyOf 0 = .ok (.aload_n 0, 1) := by decide +kernel
theorem dX4_keyOf_1 : decode cX4_keyOf 1 = .ok (.getstatic 5, 3) := by decide +kernel
theorem dX4_keyOf_4 : decode cX4_keyOf 4 = .ok (.if_acmp .ne 10, 3) := by decide +kernel
theorem dX4_keyOf_7 : decode cX4_keyOf 7 = .ok (.aload_n 1, 1) := by decide +kernel
theorem dX4_keyOf_8 : decode cX4_keyOf 8 = .ok (.getfield 37, 3) := by decide +kernel
theorem dX4_keyOf_11 : decode cX4_keyOf 11 = .ok (.iload_n 2, 1) := by decide +kernel
theorem dX4_keyOf_12 : decode cX4_keyOf 12 = .ok (.iaload, 1) := by decide +kernel
theorem dX4_keyOf_13 : decode cX4_keyOf 13 = .ok (.ireturn, 1) := by decide +kernel
theorem dX4_keyOf_14 : decode cX4_keyOf 14 = .ok (.aload_n 0, 1) := by decide +kernel
theorem dX4_keyOf_15 : decode cX4_keyOf 15 = .ok (.getstatic 9, 3) := by decide +kernel
theorem dX4_keyOf_18 : decode cX4_keyOf 18 = .ok (.if_acmp .ne 10, 3) := by decide +kernel
theorem dX4_keyOf_21 : decode cX4_keyOf 21 = .ok (.aload_n 1, 1) := by decide +kernel
theorem dX4_keyOf_22 : decode cX4_keyOf 22 = .ok (.getfield 43, 3) := by decide +kernel
theorem dX4_keyOf_25 : decode cX4_keyOf 25 = .ok (.iload_n 2, 1) := by decide +kernel
theorem dX4_keyOf_26 : decode cX4_keyOf 26 = .ok (.iaload, 1) := by decide +kernel
theorem dX4_keyOf_27 : decode cX4_keyOf 27 = .ok (.ireturn, 1) := by decide +kernel
theorem dX4_keyOf_28 : decode cX4_keyOf 28 = .ok (.aload_n 0, 1) := by decide +kernel
theorem dX4_keyOf_29 : decode cX4_keyOf 29 = .ok (.getstatic 12, 3) := by decide +kernel
theorem dX4_keyOf_32 : decode cX4_keyOf 32 = .ok (.if_acmp .ne 20, 3) := by decide +kernel
theorem dX4_keyOf_35 : decode cX4_keyOf 35 = .ok (.aload_n 1, 1) := by decide +kernel
theorem dX4_keyOf_36 : decode cX4_keyOf 36 = .ok (.getfield 46, 3) := by decide +kernel
theorem dX4_keyOf_39 : decode cX4_keyOf 39 = .ok (.iload_n 2, 1) := by decide +kernel
theorem dX4_keyOf_40 : decode cX4_keyOf 40 = .ok (.iaload, 1) := by decide +kernel
theorem dX4_keyOf_41 : decode cX4_keyOf 41 = .ok (.iconst 1, 1) := by decide +kernel
theorem dX4_keyOf_42 : decode cX4_keyOf 42 = .ok (.iconst 5, 1) := by decide +kernel
theorem dX4_keyOf_43 : decode cX4_keyOf 43 = .ok (.iload_n 3, 1) := by decide +kernel
theorem dX4_keyOf_44 : decode cX4_keyOf 44 = .ok (.imul, 1) := by decide +kernel
theorem dX4_keyOf_45 : decode cX4_keyOf 45 = .ok (.invokestatic 49, 3) := by decide +kernel
theorem dX4_keyOf_48 : decode cX4_keyOf 48 = .ok (.invokestatic 55, 3) := by decide +kernel
theorem dX4_keyOf_51 : decode cX4_keyOf 51 = .ok (.ireturn, 1) := by decide +kernel
theorem dX4_keyOf_52 : decode cX4_keyOf 52 = .ok (.iconst 0, 1) := by decide +kernel
theorem dX4_keyOf_53 : decode cX4_keyOf 53 = .ok (.ireturn, 1) := by decide +kernel
theorem dX4_binOf_0 : decode cX4_binOf 0 = .ok (.iload_n 0, 1) := by decide +kernel
theorem dX4_binOf_1 : decode cX4_binOf 1 = .ok (.bipush 100, 2) := by decide +kernel
theorem dX4_binOf_3 : decode cX4_binOf 3 = .ok (.if_icmp .ne 8, 3) := by decide +kernel
theorem dX4_binOf_6 : decode cX4_binOf 6 = .ok (.bipush 20, 2) := by decide +kernel
theorem dX4_binOf_8 : decode cX4_binOf 8 = .ok (.goto 6, 3) := by decide +kernel
theorem dX4_binOf_11 : decode cX4_binOf 11 = .ok (.iload_n 0, 1) := by decide +kernel
theorem dX4_binOf_12 : decode cX4_binOf 12 = .ok (.iload_n 1, 1) := by decide +kernel
theorem dX4_binOf_13 : decode cX4_binOf 13 = .ok (.idiv, 1) := by decide +kernel
theorem dX4_binOf_14 : decode cX4_binOf 14 = .ok (.ireturn, 1) := by decide +kernel
theorem dX5_startingWith_0 : decode cX5_startingWith 0 = .ok (.iload_n 0, 1) := by decide +kernel
theorem dX5_startingWith_1 : decode cX5_startingWith 1 = .ok (.lookupswitch 71 #[(99, 51), (107, 67), (108, 63), (109, 59), (115, 55)], 51) := by decide +kernel
theorem dX5_startingWith_52 : decode cX5_startingWith 52 = .ok (.getstatic 5, 3) := by decide +kernel
theorem dX5_startingWith_55 : decode cX5_startingWith 55 = .ok (.areturn, 1) := by decide +kernel
theorem dX5_startingWith_56 : decode cX5_startingWith 56 = .ok (.getstatic 9, 3) := by decide +kernel
theorem dX5_startingWith_59 : decode cX5_startingWith 59 = .ok (.areturn, 1) := by decide +kernel
theorem dX5_startingWith_60 : decode cX5_startingWith 60 = .ok (.getstatic 12, 3) := by decide +kernel
theorem dX5_startingWith_63 : decode cX5_startingWith 63 = .ok (.areturn, 1) := by decide +kernel
theorem dX5_startingWith_64 : decode cX5_startingWith 64 = .ok (.getstatic 15, 3) := by decide +kernel
theorem dX5_startingWith_67 : decode cX5_startingWith 67 = .ok (.areturn, 1) := by decide +kernel
theorem dX5_startingWith_68 : decode cX5_startingWith 68 = .ok (.getstatic 18, 3) := by decide +kernel
theorem dX5_startingWith_71 : decode cX5_startingWith 71 = .ok (.areturn, 1) := by decide +kernel
theorem dX5_startingWith_72 : decode cX5_startingWith 72 = .ok (.aconst_null, 1) := by decide +kernel
theorem dX5_startingWith_73 : decode cX5_startingWith 73 = .ok (.areturn, 1) := by decide +kernel
theorem dX5_of_0 : decode cX5_of 0 = .ok (.iload_n 2, 1) := by decide +kernel
theorem dX5_of_1 : decode cX5_of 1 = .ok (.ifCond .ne 6, 3) := by decide +kernel
theorem dX5_of_4 : decode cX5_of 4 = .ok (.bipush (-9), 2) := by decide +kernel
theorem dX5_of_6 : decode cX5_of 6 = .ok (.ireturn, 1) := by decide +kernel
theorem dX5_of_7 : decode cX5_of 7 = .ok (.aload_n 0, 1) := by decide +kernel
theorem dX5_of_8 : decode cX5_of 8 = .ok (.getstatic 5, 3) := by decide +kernel
theorem dX5_of_11 : decode cX5_of 11 = .ok (.if_acmp .ne 8, 3) := by decide +kernel
theorem dX5_of_14 : decode cX5_of 14 = .ok (.iload_n 2, 1) := by decide +kernel
theorem dX5_of_15 : decode cX5_of 15 = .ok (.invokestatic 44, 3) := by decide +kernel
theorem dX5_of_18 : decode cX5_of 18 = .ok (.ireturn, 1) := by decide +kernel
theorem dX5_of_19 : decode cX5_of 19 = .ok (.iload_n 2, 1) := by decide +kernel
theorem dX5_of_20 : decode cX5_of 20 = .ok (.aload_n 1, 1) := by decide +kernel
theorem dX5_of_21 : decode cX5_of 21 = .ok (.invokevirtual 50, 3) := by decide +kernel
theorem dX5_of_24 : decode cX5_of 24 = .ok (.iconst (-1), 1) := by decide +kernel
theorem dX5_of_25 : decode cX5_of 25 = .ok (.ixor, 1) := by decide +kernel
theorem dX5_of_26 : decode cX5_of 26 = .ok (.iand, 1) := by decide +kernel
theorem dX5_of_27 : decode cX5_of 27 = .ok (.istore_n 3, 1) := by decide +kernel
theorem dX5_of_28 : decode cX5_of 28 = .ok (.aload_n 0, 1) := by decide +kernel
theorem dX5_of_29 : decode cX5_of 29 = .ok (.getstatic 9, 3) := by decide +kernel
theorem dX5_of_32 : decode cX5_of 32 = .ok (.if_acmp .ne 9, 3) := by decide +kernel
theorem dX5_of_35 : decode cX5_of 35 = .ok (.aload_n 1, 1) := by decide +kernel
theorem dX5_of_36 : decode cX5_of 36 = .ok (.iload_n 3, 1) := by decide +kernel
theorem dX5_of_37 : decode cX5_of 37 = .ok (.invokevirtual 56, 3) := by decide +kernel
theorem dX5_of_40 : decode cX5_of 40 = .ok (.ireturn, 1) := by decide +kernel
theorem dX5_of_41 : decode cX5_of 41 = .ok (.aload_n 0, 1) := by decide +kernel
theorem dX5_of_42 : decode cX5_of 42 = .ok (.getstatic 12, 3) := by decide +kernel
theorem dX5_of_45 : decode cX5_of 45 = .ok (.if_acmp .ne 9, 3) := by decide +kernel
theorem dX5_of_48 : decode cX5_of 48 = .ok (.aload_n 1, 1) := by decide +kernel
theorem dX5_of_49 : decode cX5_of 49 = .ok (.iload_n 3, 1) := by decide +kernel
theorem dX5_of_50 : decode cX5_of 50 = .ok (.invokevirtual 59, 3) := by decide +kernel
theorem dX5_of_53 : decode cX5_of 53 = .ok (.ireturn, 1) := by decide +kernel
theorem dX5_of_54 : decode cX5_of 54 = .ok (.aload_n 0, 1) := by decide +kernel
theorem dX5_of_55 : decode cX5_of 55 = .ok (.getstatic 15, 3) := by decide +kernel
theorem dX5_of_58 : decode cX5_of 58 = .ok (.if_acmp .ne 11, 3) := by decide +kernel
theorem dX5_of_61 : decode cX5_of 61 = .ok (.aload_n 1, 1) := by decide +kernel
theorem dX5_of_62 : decode cX5_of 62 = .ok (.iload_n 3, 1) := by decide +kernel
theorem dX5_of_63 : decode cX5_of 63 = .ok (.invokevirtual 62, 3) := by decide +kernel
theorem dX5_of_66 : decode cX5_of 66 = .ok (.goto 8, 3) := by decide +kernel
theorem dX5_of_69 : decode cX5_of 69 = .ok (.aload_n 1, 1) := by decide +kernel
theorem dX5_of_70 : decode cX5_of 70 = .ok (.iload_n 3, 1) := by decide +kernel
theorem dX5_of_71 : decode cX5_of 71 = .ok (.invokevirtual 65, 3) := by decide +kernel
theorem dX5_of_74 : decode cX5_of 74 = .ok (.ireturn, 1) := by decide +kernel
theorem dX6_init_0 : decode cX6_init 0 = .ok (.aload_n 0, 1) := by decide +kernel
theorem dX6_init_1 : decode cX6_init 1 = .ok (.invokespecial 1, 3) := by decide +kernel
theorem dX6_init_4 : decode cX6_init 4 = .ok (.aload_n 0, 1) := by decide +kernel
theorem dX6_init_5 : decode cX6_init 5 = .ok (.getstatic 7, 3) := by decide +kernel
theorem dX6_init_8 : decode cX6_init 8 = .ok (.putfield 13, 3) := by decide +kernel
theorem dX6_init_11 : decode cX6_init 11 = .ok (.aload_n 0, 1) := by decide +kernel
theorem dX6_init_12 : decode cX6_init 12 = .ok (.getstatic 18, 3) := by decide +kernel
theorem dX6_init_15 : decode cX6_init 15 = .ok (.putfield 21, 3) := by decide +kernel
theorem dX6_init_18 : decode cX6_init 18 = .ok (.aload_n 0, 1) := by decide +kernel
theorem dX6_init_19 : decode cX6_init 19 = .ok (.getstatic 24, 3) := by decide +kernel
theorem dX6_init_22 : decode cX6_init 22 = .ok (.putfield 30, 3) := by decide +kernel
theorem dX6_init_25 : decode cX6_init 25 = .ok (.aload_n 0, 1) := by decide +kernel
theorem dX6_init_26 : decode cX6_init 26 = .ok (.iconst 0, 1) := by decide +kernel
theorem dX6_init_27 : decode cX6_init 27 = .ok (.putfield 33, 3) := by decide +kernel
theorem dX6_init_30 : decode cX6_init 30 = .ok (.aload_n 0, 1) := by decide +kernel
theorem dX6_init_31 : decode cX6_init 31 = .ok (.iconst 1, 1) := by decide +kernel
theorem dX6_init_32 : decode cX6_init 32 = .ok (.putfield 37, 3) := by decide +kernel
theorem dX6_init_35 : decode cX6_init 35 = .ok (.return_, 1) := by decide +kernel
theorem dX7_init_0 : decode cX7_init 0 = .ok (.aload_n 0, 1) := by decide +kernel
theorem dX7_init_1 : decode cX7_init 1 = .ok (.invokespecial 3, 3) := by decide +kernel
theorem dX7_init_4 : decode cX7_init 4 = .ok (.aload_n 0, 1) := by decide +kernel
theorem dX7_init_5 : decode cX7_init 5 = .ok (.bipush 32, 2) := by decide +kernel
theorem dX7_init_7 : decode cX7_init 7 = .ok (.newarray .int, 2) := by decide +kernel
theorem dX7_init_9 : decode cX7_init 9 = .ok (.putfield 9, 3) := by decide +kernel
theorem dX7_init_12 : decode cX7_init 12 = .ok (.aload_n 0, 1) := by decide +kernel
theorem dX7_init_13 : decode cX7_init 13 = .ok (.iconst 0, 1) := by decide +kernel
theorem dX7_init_14 : decode cX7_init 14 = .ok (.putfield 15, 3) := by decide +kernel
theorem dX7_init_17 : decode cX7_init 17 = .ok (.return_, 1) := by decide +kernel
theorem dX7_put_0 : decode cX7_put 0 = .ok (.aload_n 0, 1) := by decide +kernel
theorem dX7_put_1 : decode cX7_put 1 = .ok (.getfield 15, 3) := by decide +kernel
theorem dX7_put_4 : decode cX7_put 4 = .ok (.aload_n 0, 1) := by decide +kernel
theorem dX7_put_5 : decode cX7_put 5 = .ok (.getfield 9, 3) := by decide +kernel
theorem dX7_put_8 : decode cX7_put 8 = .ok (.arraylength, 1) := by decide +kernel
theorem dX7_put_9 : decode cX7_put 9 = .ok (.if_icmp .ge 7, 3) := by decide +kernel
theorem dX7_put_12 : decode cX7_put 12 = .ok (.iconst 1, 1) := by decide +kernel
theorem dX7_put_13 : decode cX7_put 13 = .ok (.goto 4, 3) := by decide +kernel
theorem dX7_put_16 : decode cX7_put 16 = .ok (.iconst 0, 1) := by decide +kernel
theorem dX7_put_17 : decode cX7_put 17 = .ok (.istore_n 2, 1) := by decide +kernel
theorem dX7_put_18 : decode cX7_put 18 = .ok (.iload_n 2, 1) := by decide +kernel
theorem dX7_put_19 : decode cX7_put 19 = .ok (.ifCond .eq 23, 3) := by decide +kernel
theorem dX7_put_22 : decode cX7_put 22 = .ok (.aload_n 0, 1) := by decide +kernel
theorem dX7_put_23 : decode cX7_put 23 = .ok (.getfield 9, 3) := by decide +kernel
theorem dX7_put_26 : decode cX7_put 26 = .ok (.aload_n 0, 1) := by decide +kernel
theorem dX7_put_27 : decode cX7_put 27 = .ok (.getfield 15, 3) := by decide +kernel
theorem dX7_put_30 : decode cX7_put 30 = .ok (.iload_n 1, 1) := by decide +kernel
theorem dX7_put_31 : decode cX7_put 31 = .ok (.iastore, 1) := by decide +kernel
theorem dX7_put_32 : decode cX7_put 32 = .ok (.aload_n 0, 1) := by decide +kernel
theorem dX7_put_33 : decode cX7_put 33 = .ok (.dup, 1) := by decide +kernel
theorem dX7_put_34 : decode cX7_put 34 = .ok (.getfield 15, 3) := by decide +kernel
theorem dX7_put_37 : decode cX7_put 37 = .ok (.iconst 1, 1) := by decide +kernel
theorem dX7_put_38 : decode cX7_put 38 = .ok (.iadd, 1) := by decide +kernel
theorem dX7_put_39 : decode cX7_put 39 = .ok (.putfield 15, 3) := by decide +kernel
theorem dX7_put_42 : decode cX7_put 42 = .ok (.iload_n 2, 1) := by decide +kernel
theorem dX7_put_43 : decode cX7_put 43 = .ok (.ireturn, 1) := by decide +kernel
theorem dX7_readInto_0 : decode cX7_readInto 0 = .ok (.aload_n 0, 1) := by decide +kernel
theorem dX7_readInto_1 : decode cX7_readInto 1 = .ok (.iconst 0, 1) := by decide +kernel
theorem dX7_readInto_2 : decode cX7_readInto 2 = .ok (.invokevirtual 19, 3) := by decide +kernel
theorem dX7_readInto_5 : decode cX7_readInto 5 = .ok (.invokestatic 23, 3) := by decide +kernel
theorem dX7_readInto_8 : decode cX7_readInto 8 = .ok (.astore_n 2, 1) := by decide +kernel
theorem dX7_readInto_9 : decode cX7_readInto 9 = .ok (.aload_n 2, 1) := by decide +kernel
theorem dX7_readInto_10 : decode cX7_readInto 10 = .ok (.ifnull 10, 3) := by decide +kernel
theorem dX7_readInto_13 : decode cX7_readInto 13 = .ok (.aload_n 2, 1) := by decide +kernel
theorem dX7_readInto_14 : decode cX7_readInto 14 = .ok (.getstatic 29, 3) := by decide +kernel
theorem dX7_readInto_17 : decode cX7_readInto 17 = .ok (.if_acmp .ne 5, 3) := by decide +kernel
theorem dX7_readInto_20 : decode cX7_readInto 20 = .ok (.iconst 0, 1) := by decide +kernel
theorem dX7_readInto_21 : decode cX7_readInto 21 = .ok (.ireturn, 1) := by decide +kernel
theorem dX7_readInto_22 : decode cX7_readInto 22 = .ok (.aload_n 0, 1) := by decide +kernel
theorem dX7_readInto_23 : decode cX7_readInto 23 = .ok (.iconst 1, 1) := by decide +kernel
theorem dX7_readInto_24 : decode cX7_readInto 24 = .ok (.invokevirtual 19, 3) := by decide +kernel
theorem dX7_readInto_27 : decode cX7_readInto 27 = .ok (.invokestatic 23, 3) := by decide +kernel
theorem dX7_readInto_30 : decode cX7_readInto 30 = .ok (.astore_n 3, 1) := by decide +kernel
theorem dX7_readInto_31 : decode cX7_readInto 31 = .ok (.aload_n 3, 1) := by decide +kernel
theorem dX7_readInto_32 : decode cX7_readInto 32 = .ok (.ifnull 8, 3) := by decide +kernel
theorem dX7_readInto_35 : decode cX7_readInto 35 = .ok (.aload_n 3, 1) := by decide +kernel
theorem dX7_readInto_36 : decode cX7_readInto 36 = .ok (.aload_n 2, 1) := by decide +kernel
theorem dX7_readInto_37 : decode cX7_readInto 37 = .ok (.if_acmp .ne 5, 3) := by decide +kernel
theorem dX7_readInto_40 : decode cX7_readInto 40 = .ok (.iconst 1, 1) := by decide +kernel
theorem dX7_readInto_41 : decode cX7_readInto 41 = .ok (.ireturn, 1) := by decide +kernel
theorem dX7_readInto_42 : decode cX7_readInto 42 = .ok (.aload_n 0, 1) := by decide +kernel
theorem dX7_readInto_43 : decode cX7_readInto 43 = .ok (.iconst 2, 1) := by decide +kernel
theorem dX7_readInto_44 : decode cX7_readInto 44 = .ok (.invokevirtual 19, 3) := by decide +kernel
theorem dX7_readInto_47 : decode cX7_readInto 47 = .ok (.invokestatic 33, 3) := by decide +kernel
theorem dX7_readInto_50 : decode cX7_readInto 50 = .ok (.astore 4, 2) := by decide +kernel
theorem dX7_readInto_52 : decode cX7_readInto 52 = .ok (.aload 4, 2) := by decide +kernel
theorem dX7_readInto_54 : decode cX7_readInto 54 = .ok (.ifnonnull 5, 3) := by decide +kernel
theorem dX7_readInto_57 : decode cX7_readInto 57 = .ok (.iconst 2, 1) := by decide +kernel
theorem dX7_readInto_58 : decode cX7_readInto 58 = .ok (.ireturn, 1) := by decide +kernel
theorem dX7_readInto_59 : decode cX7_readInto 59 = .ok (.iconst 2, 1) := by decide +kernel
theorem dX7_readInto_60 : decode cX7_readInto 60 = .ok (.aload_n 0, 1) := by decide +kernel
theorem dX7_readInto_61 : decode cX7_readInto 61 = .ok (.aload 4, 2) := by decide +kernel
theorem dX7_readInto_63 : decode cX7_readInto 63 = .ok (.getfield 39, 3) := by decide +kernel
theorem dX7_readInto_66 : decode cX7_readInto 66 = .ok (.invokevirtual 43, 3) := by decide +kernel
theorem dX7_readInto_69 : decode cX7_readInto 69 = .ok (.iadd, 1) := by decide +kernel
theorem dX7_readInto_70 : decode cX7_readInto 70 = .ok (.istore 5, 2) := by decide +kernel
theorem dX7_readInto_72 : decode cX7_readInto 72 = .ok (.iload 5, 2) := by decide +kernel
theorem dX7_readInto_74 : decode cX7_readInto 74 = .ok (.iconst 2, 1) := by decide +kernel
theorem dX7_readInto_75 : decode cX7_readInto 75 = .ok (.aload 4, 2) := by decide +kernel
theorem dX7_readInto_77 : decode cX7_readInto 77 = .ok (.getfield 39, 3) := by decide +kernel
theorem dX7_readInto_80 : decode cX7_readInto 80 = .ok (.invokevirtual 47, 3) := by decide +kernel
theorem dX7_readInto_83 : decode cX7_readInto 83 = .ok (.iadd, 1) := by decide +kernel
theorem dX7_readInto_84 : decode cX7_readInto 84 = .ok (.if_icmp .lt 14, 3) := by decide +kernel
theorem dX7_readInto_87 : decode cX7_readInto 87 = .ok (.aload_n 0, 1) := by decide +kernel
theorem dX7_readInto_88 : decode cX7_readInto 88 = .ok (.iload 5, 2) := by decide +kernel
theorem dX7_readInto_90 : decode cX7_readInto 90 = .ok (.invokevirtual 19, 3) := by decide +kernel
theorem dX7_readInto_93 : decode cX7_readInto 93 = .ok (.bipush 46, 2) := by decide +kernel
theorem dX7_readInto_95 : decode cX7_readInto 95 = .ok (.if_icmp .eq 6, 3) := by decide +kernel
theorem dX7_readInto_98 : decode cX7_readInto 98 = .ok (.iload 5, 2) := by decide +kernel
theorem dX7_readInto_100 : decode cX7_readInto 100 = .ok (.ireturn, 1) := by decide +kernel
theorem dX7_readInto_101 : decode cX7_readInto 101 = .ok (.aload_n 0, 1) := by decide +kernel
theorem dX7_readInto_102 : decode cX7_readInto 102 = .ok (.iload 5, 2) := by decide +kernel
theorem dX7_readInto_104 : decode cX7_readInto 104 = .ok (.iconst 1, 1) := by decide +kernel
theorem dX7_readInto_105 : decode cX7_readInto 105 = .ok (.iadd, 1) := by decide +kernel
theorem dX7_readInto_106 : decode cX7_readInto 106 = .ok (.invokevirtual 52, 3) := by decide +kernel
theorem dX7_readInto_109 : decode cX7_readInto 109 = .ok (.istore 6, 2) := by decide +kernel
theorem dX7_readInto_111 : decode cX7_readInto 111 = .ok (.iload 6, 2) := by decide +kernel
theorem dX7_readInto_113 : decode cX7_readInto 113 = .ok (.ifCond .lt 9, 3) := by decide +kernel
theorem dX7_readInto_116 : decode cX7_readInto 116 = .ok (.iload 6, 2) := by decide +kernel
theorem dX7_readInto_118 : decode cX7_readInto 118 = .ok (.iconst 4, 1) := by decide +kernel
theorem dX7_readInto_119 : decode cX7_readInto 119 = .ok (.if_icmp .le 8, 3) := by decide +kernel
theorem dX7_readInto_122 : decode cX7_readInto 122 = .ok (.iload 5, 2) := by decide +kernel
theorem dX7_readInto_124 : decode cX7_readInto 124 = .ok (.iconst 1, 1) := by decide +kernel
theorem dX7_readInto_125 : decode cX7_readInto 125 = .ok (.iadd, 1) := by decide +kernel
theorem dX7_readInto_126 : decode cX7_readInto 126 = .ok (.ireturn, 1) := by decide +kernel
theorem dX7_readInto_127 : decode cX7_readInto 127 = .ok (.aload_n 0, 1) := by decide +kernel
theorem dX7_readInto_128 : decode cX7_readInto 128 = .ok (.iload 5, 2) := by decide +kernel
theorem dX7_readInto_130 : decode cX7_readInto 130 = .ok (.iconst 2, 1) := by decide +kernel
theorem dX7_readInto_131 : decode cX7_readInto 131 = .ok (.iadd, 1) := by decide +kernel
theorem dX7_readInto_132 : decode cX7_readInto 132 = .ok (.invokevirtual 52, 3) := by decide +kernel
theorem dX7_readInto_135 : decode cX7_readInto 135 = .ok (.istore 7, 2) := by decide +kernel
theorem dX7_readInto_137 : decode cX7_readInto 137 = .ok (.iload 7, 2) := by decide +kernel
theorem dX7_readInto_139 : decode cX7_readInto 139 = .ok (.iconst 1, 1) := by decide +kernel
theorem dX7_readInto_140 : decode cX7_readInto 140 = .ok (.if_icmp .ge 8, 3) := by decide +kernel
theorem dX7_readInto_143 : decode cX7_readInto 143 = .ok (.iload 5, 2) := by decide +kernel
theorem dX7_readInto_145 : decode cX7_readInto 145 = .ok (.iconst 2, 1) := by decide +kernel
theorem dX7_readInto_146 : decode cX7_readInto 146 = .ok (.iadd, 1) := by decide +kernel
theorem dX7_readInto_147 : decode cX7_readInto 147 = .ok (.ireturn, 1) := by decide +kernel
theorem dX7_readInto_148 : decode cX7_readInto 148 = .ok (.aload_n 0, 1) := by decide +kernel
theorem dX7_readInto_149 : decode cX7_readInto 149 = .ok (.getfield 15, 3) := by decide +kernel
theorem dX7_readInto_152 : decode cX7_readInto 152 = .ok (.iload 5, 2) := by decide +kernel
theorem dX7_readInto_154 : decode cX7_readInto 154 = .ok (.iconst 3, 1) := by decide +kernel
theorem dX7_readInto_155 : decode cX7_readInto 155 = .ok (.iadd, 1) := by decide +kernel
theorem dX7_readInto_156 : decode cX7_readInto 156 = .ok (.if_icmp .le 8, 3) := by decide +kernel
theorem dX7_readInto_159 : decode cX7_readInto 159 = .ok (.iload 5, 2) := by decide +kernel
theorem dX7_readInto_161 : decode cX7_readInto 161 = .ok (.iconst 3, 1) := by decide +kernel
theorem dX7_readInto_162 : decode cX7_readInto 162 = .ok (.iadd, 1) := by decide +kernel
theorem dX7_readInto_163 : decode cX7_readInto 163 = .ok (.ireturn, 1) := by decide +kernel
theorem dX7_readInto_164 : decode cX7_readInto 164 = .ok (.aload_n 1, 1) := by decide +kernel
theorem dX7_readInto_165 : decode cX7_readInto 165 = .ok (.aload_n 2, 1) := by decide +kernel
theorem dX7_readInto_166 : decode cX7_readInto 166 = .ok (.putfield 55, 3) := by decide +kernel
theorem dX7_readInto_169 : decode cX7_readInto 169 = .ok (.aload_n 1, 1) := by decide +kernel
theorem dX7_readInto_170 : decode cX7_readInto 170 = .ok (.aload_n 3, 1) := by decide +kernel
theorem dX7_readInto_171 : decode cX7_readInto 171 = .ok (.putfield 60, 3) := by decide +kernel
theorem dX7_readInto_174 : decode cX7_readInto 174 = .ok (.aload_n 1, 1) := by decide +kernel
theorem dX7_readInto_175 : decode cX7_readInto 175 = .ok (.aload 4, 2) := by decide +kernel
theorem dX7_readInto_177 : decode cX7_readInto 177 = .ok (.putfield 63, 3) := by decide +kernel
theorem dX7_readInto_180 : decode cX7_readInto 180 = .ok (.aload_n 1, 1) := by decide +kernel
theorem dX7_readInto_181 : decode cX7_readInto 181 = .ok (.iload 6, 2) := by decide +kernel
theorem dX7_readInto_183 : decode cX7_readInto 183 = .ok (.putfield 67, 3) := by decide +kernel
theorem dX7_readInto_186 : decode cX7_readInto 186 = .ok (.aload_n 1, 1) := by decide +kernel
theorem dX7_readInto_187 : decode cX7_readInto 187 = .ok (.iload 7, 2) := by decide +kernel
theorem dX7_readInto_189 : decode cX7_readInto 189 = .ok (.putfield 70, 3) := by decide +kernel
theorem dX7_readInto_192 : decode cX7_readInto 192 = .ok (.bipush (-9), 2) := by decide +kernel
theorem dX7_readInto_194 : decode cX7_readInto 194 = .ok (.ireturn, 1) := by decide +kernel
theorem dX7_spelt_0 : decode cX7_spelt 0 = .ok (.iconst 0, 1) := by decide +kernel
theorem dX7_spelt_1 : decode cX7_spelt 1 = .ok (.istore_n 2, 1) := by decide +kernel
theorem dX7_spelt_2 : decode cX7_spelt 2 = .ok (.iload_n 2, 1) := by decide +kernel
theorem dX7_spelt_3 : decode cX7_spelt 3 = .ok (.aload_n 1, 1) := by decide +kernel
theorem dX7_spelt_4 : decode cX7_spelt 4 = .ok (.invokevirtual 47, 3) := by decide +kernel
theorem dX7_spelt_7 : decode cX7_spelt 7 = .ok (.if_icmp .ge 26, 3) := by decide +kernel
theorem dX7_spelt_10 : decode cX7_spelt 10 = .ok (.aload_n 0, 1) := by decide +kernel
theorem dX7_spelt_11 : decode cX7_spelt 11 = .ok (.iconst 2, 1) := by decide +kernel
theorem dX7_spelt_12 : decode cX7_spelt 12 = .ok (.iload_n 2, 1) := by decide +kernel
theorem dX7_spelt_13 : decode cX7_spelt 13 = .ok (.iadd, 1) := by decide +kernel
theorem dX7_spelt_14 : decode cX7_spelt 14 = .ok (.invokevirtual 19, 3) := by decide +kernel
theorem dX7_spelt_17 : decode cX7_spelt 17 = .ok (.aload_n 1, 1) := by decide +kernel
theorem dX7_spelt_18 : decode cX7_spelt 18 = .ok (.iload_n 2, 1) := by decide +kernel
theorem dX7_spelt_19 : decode cX7_spelt 19 = .ok (.invokevirtual 73, 3) := by decide +kernel
theorem dX7_spelt_22 : decode cX7_spelt 22 = .ok (.if_icmp .eq 5, 3) := by decide +kernel
theorem dX7_spelt_25 : decode cX7_spelt 25 = .ok (.iload_n 2, 1) := by decide +kernel
theorem dX7_spelt_26 : decode cX7_spelt 26 = .ok (.ireturn, 1) := by decide +kernel
theorem dX7_spelt_27 : decode cX7_spelt 27 = .ok (.iinc 2 1, 3) := by decide +kernel
theorem dX7_spelt_30 : decode cX7_spelt 30 = .ok (.goto (-28), 3) := by decide +kernel
theorem dX7_spelt_33 : decode cX7_spelt 33 = .ok (.aload_n 1, 1) := by decide +kernel
theorem dX7_spelt_34 : decode cX7_spelt 34 = .ok (.invokevirtual 47, 3) := by decide +kernel
theorem dX7_spelt_37 : decode cX7_spelt 37 = .ok (.ireturn, 1) := by decide +kernel
theorem dX7_letterAt_0 : decode cX7_letterAt 0 = .ok (.iload_n 1, 1) := by decide +kernel
theorem dX7_letterAt_1 : decode cX7_letterAt 1 = .ok (.ifCond .lt 20, 3) := by decide +kernel
theorem dX7_letterAt_4 : decode cX7_letterAt 4 = .ok (.iload_n 1, 1) := by decide +kernel
theorem dX7_letterAt_5 : decode cX7_letterAt 5 = .ok (.aload_n 0, 1) := by decide +kernel
theorem dX7_letterAt_6 : decode cX7_letterAt 6 = .ok (.getfield 15, 3) := by decide +kernel
theorem dX7_letterAt_9 : decode cX7_letterAt 9 = .ok (.if_icmp .ge 12, 3) := by decide +kernel
theorem dX7_letterAt_12 : decode cX7_letterAt 12 = .ok (.aload_n 0, 1) := by decide +kernel
theorem dX7_letterAt_13 : decode cX7_letterAt 13 = .ok (.getfield 9, 3) := by decide +kernel
theorem dX7_letterAt_16 : decode cX7_letterAt 16 = .ok (.iload_n 1, 1) := by decide +kernel
theorem dX7_letterAt_17 : decode cX7_letterAt 17 = .ok (.iaload, 1) := by decide +kernel
theorem dX7_letterAt_18 : decode cX7_letterAt 18 = .ok (.goto 4, 3) := by decide +kernel
theorem dX7_letterAt_21 : decode cX7_letterAt 21 = .ok (.iconst (-1), 1) := by decide +kernel
theorem dX7_letterAt_22 : decode cX7_letterAt 22 = .ok (.ireturn, 1) := by decide +kernel
theorem dX7_figureAt_0 : decode cX7_figureAt 0 = .ok (.aload_n 0, 1) := by decide +kernel
theorem dX7_figureAt_1 : decode cX7_figureAt 1 = .ok (.iload_n 1, 1) := by decide +kernel
theorem dX7_figureAt_2 : decode cX7_figureAt 2 = .ok (.invokevirtual 19, 3) := by decide +kernel
theorem dX7_figureAt_5 : decode cX7_figureAt 5 = .ok (.istore_n 2, 1) := by decide +kernel
theorem dX7_figureAt_6 : decode cX7_figureAt 6 = .ok (.iload_n 2, 1) := by decide +kernel
theorem dX7_figureAt_7 : decode cX7_figureAt 7 = .ok (.bipush 48, 2) := by decide +kernel
theorem dX7_figureAt_9 : decode cX7_figureAt 9 = .ok (.if_icmp .lt 16, 3) := by decide +kernel
theorem dX7_figureAt_12 : decode cX7_figureAt 12 = .ok (.iload_n 2, 1) := by decide +kernel
theorem dX7_figureAt_13 : decode cX7_figureAt 13 = .ok (.bipush 57, 2) := by decide +kernel
theorem dX7_figureAt_15 : decode cX7_figureAt 15 = .ok (.if_icmp .gt 10, 3) := by decide +kernel
theorem dX7_figureAt_18 : decode cX7_figureAt 18 = .ok (.iload_n 2, 1) := by decide +kernel
theorem dX7_figureAt_19 : decode cX7_figureAt 19 = .ok (.bipush 48, 2) := by decide +kernel
theorem dX7_figureAt_21 : decode cX7_figureAt 21 = .ok (.isub, 1) := by decide +kernel
theorem dX7_figureAt_22 : decode cX7_figureAt 22 = .ok (.goto 4, 3) := by decide +kernel
theorem dX7_figureAt_25 : decode cX7_figureAt 25 = .ok (.iconst (-1), 1) := by decide +kernel
theorem dX7_figureAt_26 : decode cX7_figureAt 26 = .ok (.ireturn, 1) := by decide +kernel
theorem dX8_init_0 : decode cX8_init 0 = .ok (.aload_n 0, 1) := by decide +kernel
theorem dX8_init_1 : decode cX8_init 1 = .ok (.invokespecial 3, 3) := by decide +kernel
theorem dX8_init_4 : decode cX8_init 4 = .ok (.aload_n 0, 1) := by decide +kernel
theorem dX8_init_5 : decode cX8_init 5 = .ok (.bipush 6, 2) := by decide +kernel
theorem dX8_init_7 : decode cX8_init 7 = .ok (.newarray .int, 2) := by decide +kernel
theorem dX8_init_9 : decode cX8_init 9 = .ok (.putfield 9, 3) := by decide +kernel
theorem dX8_init_12 : decode cX8_init 12 = .ok (.aload_n 0, 1) := by decide +kernel
theorem dX8_init_13 : decode cX8_init 13 = .ok (.bipush 6, 2) := by decide +kernel
theorem dX8_init_15 : decode cX8_init 15 = .ok (.newarray .int, 2) := by decide +kernel
theorem dX8_init_17 : decode cX8_init 17 = .ok (.putfield 15, 3) := by decide +kernel
theorem dX8_init_20 : decode cX8_init 20 = .ok (.aload_n 0, 1) := by decide +kernel
theorem dX8_init_21 : decode cX8_init 21 = .ok (.bipush 6, 2) := by decide +kernel
theorem dX8_init_23 : decode cX8_init 23 = .ok (.newarray .boolean, 2) := by decide +kernel
theorem dX8_init_25 : decode cX8_init 25 = .ok (.putfield 18, 3) := by decide +kernel
theorem dX8_init_28 : decode cX8_init 28 = .ok (.aload_n 0, 1) := by decide +kernel
theorem dX8_init_29 : decode cX8_init 29 = .ok (.iconst 0, 1) := by decide +kernel
theorem dX8_init_30 : decode cX8_init 30 = .ok (.putfield 22, 3) := by decide +kernel
theorem dX8_init_33 : decode cX8_init 33 = .ok (.return_, 1) := by decide +kernel
theorem dX8_put_0 : decode cX8_put 0 = .ok (.aload_n 0, 1) := by decide +kernel
theorem dX8_put_1 : decode cX8_put 1 = .ok (.getfield 22, 3) := by decide +kernel
theorem dX8_put_4 : decode cX8_put 4 = .ok (.bipush 6, 2) := by decide +kernel
theorem dX8_put_6 : decode cX8_put 6 = .ok (.if_icmp .ge 7, 3) := by decide +kernel
theorem dX8_put_9 : decode cX8_put 9 = .ok (.iconst 1, 1) := by decide +kernel
theorem dX8_put_10 : decode cX8_put 10 = .ok (.goto 4, 3) := by decide +kernel
theorem dX8_put_13 : decode cX8_put 13 = .ok (.iconst 0, 1) := by decide +kernel
theorem dX8_put_14 : decode cX8_put 14 = .ok (.istore 4, 2) := by decide +kernel
theorem dX8_put_16 : decode cX8_put 16 = .ok (.iload 4, 2) := by decide +kernel
theorem dX8_put_18 : decode cX8_put 18 = .ok (.ifCond .eq 43, 3) := by decide +kernel
theorem dX8_put_21 : decode cX8_put 21 = .ok (.aload_n 0, 1) := by decide +kernel
theorem dX8_put_22 : decode cX8_put 22 = .ok (.getfield 9, 3) := by decide +kernel
theorem dX8_put_25 : decode cX8_put 25 = .ok (.aload_n 0, 1) := by decide +kernel
theorem dX8_put_26 : decode cX8_put 26 = .ok (.getfield 22, 3) := by decide +kernel
theorem dX8_put_29 : decode cX8_put 29 = .ok (.iload_n 1, 1) := by decide +kernel
theorem dX8_put_30 : decode cX8_put 30 = .ok (.iastore, 1) := by decide +kernel
theorem dX8_put_31 : decode cX8_put 31 = .ok (.aload_n 0, 1) := by decide +kernel
theorem dX8_put_32 : decode cX8_put 32 = .ok (.getfield 15, 3) := by decide +kernel
theorem dX8_put_35 : decode cX8_put 35 = .ok (.aload_n 0, 1) := by decide +kernel
theorem dX8_put_36 : decode cX8_put 36 = .ok (.getfield 22, 3) := by decide +kernel
theorem dX8_put_39 : decode cX8_put 39 = .ok (.iload_n 2, 1) := by decide +kernel
theorem dX8_put_40 : decode cX8_put 40 = .ok (.iastore, 1) := by decide +kernel
theorem dX8_put_41 : decode cX8_put 41 = .ok (.aload_n 0, 1) := by decide +kernel
theorem dX8_put_42 : decode cX8_put 42 = .ok (.getfield 18, 3) := by decide +kernel
theorem dX8_put_45 : decode cX8_put 45 = .ok (.aload_n 0, 1) := by decide +kernel
theorem dX8_put_46 : decode cX8_put 46 = .ok (.getfield 22, 3) := by decide +kernel
theorem dX8_put_49 : decode cX8_put 49 = .ok (.iload_n 3, 1) := by decide +kernel
theorem dX8_put_50 : decode cX8_put 50 = .ok (.bastore, 1) := by decide +kernel
theorem dX8_put_51 : decode cX8_put 51 = .ok (.aload_n 0, 1) := by decide +kernel
theorem dX8_put_52 : decode cX8_put 52 = .ok (.dup, 1) := by decide +kernel
theorem dX8_put_53 : decode cX8_put 53 = .ok (.getfield 22, 3) := by decide +kernel
theorem dX8_put_56 : decode cX8_put 56 = .ok (.iconst 1, 1) := by decide +kernel
theorem dX8_put_57 : decode cX8_put 57 = .ok (.iadd, 1) := by decide +kernel
theorem dX8_put_58 : decode cX8_put 58 = .ok (.putfield 22, 3) := by decide +kernel
theorem dX8_put_61 : decode cX8_put 61 = .ok (.iload 4, 2) := by decide +kernel
theorem dX8_put_63 : decode cX8_put 63 = .ok (.ireturn, 1) := by decide +kernel
theorem dJ0_length_8abf5_0 : decode cJ0_length_8abf5 0 = .ok (.aload_n 0, 1) := by decide +kernel
theorem dJ0_length_8abf5_1 : decode cJ0_length_8abf5 1 = .ok (.getfield 9, 3) := by decide +kernel
theorem dJ0_length_8abf5_4 : decode cJ0_length_8abf5 4 = .ok (.arraylength, 1) := by decide +kernel
theorem dJ0_length_8abf5_5 : decode cJ0_length_8abf5 5 = .ok (.aload_n 0, 1) := by decide +kernel
theorem dJ0_length_8abf5_6 : decode cJ0_length_8abf5 6 = .ok (.invokevirtual 335, 3) := by decide +kernel
theorem dJ0_length_8abf5_9 : decode cJ0_length_8abf5 9 = .ok (.ishr, 1) := by decide +kernel
theorem dJ0_length_8abf5_10 : decode cJ0_length_8abf5 10 = .ok (.ireturn, 1) := by decide +kernel
theorem dJ0_charAt_5068e_0 : decode cJ0_charAt_5068e 0 = .ok (.aload_n 0, 1) := by decide +kernel
theorem dJ0_charAt_5068e_1 : decode cJ0_charAt_5068e 1 = .ok (.invokevirtual 492, 3) := by decide +kernel
theorem dJ0_charAt_5068e_4 : decode cJ0_charAt_5068e 4 = .ok (.ifCond .eq 12, 3) := by decide +kernel
theorem dJ0_charAt_5068e_7 : decode cJ0_charAt_5068e 7 = .ok (.aload_n 0, 1) := by decide +kernel
theorem dJ0_charAt_5068e_8 : decode cJ0_charAt_5068e 8 = .ok (.getfield 9, 3) := by decide +kernel
theorem dJ0_charAt_5068e_11 : decode cJ0_charAt_5068e 11 = .ok (.iload_n 1, 1) := by decide +kernel
theorem dJ0_charAt_5068e_12 : decode cJ0_charAt_5068e 12 = .ok (.invokestatic 495, 3) := by decide +kernel
theorem dJ0_charAt_5068e_15 : decode cJ0_charAt_5068e 15 = .ok (.ireturn, 1) := by decide +kernel
theorem dJ0_charAt_5068e_16 : decode cJ0_charAt_5068e 16 = .ok (.aload_n 0, 1) := by decide +kernel
theorem dJ0_charAt_5068e_17 : decode cJ0_charAt_5068e 17 = .ok (.getfield 9, 3) := by decide +kernel
theorem dJ0_charAt_5068e_20 : decode cJ0_charAt_5068e 20 = .ok (.iload_n 1, 1) := by decide +kernel
theorem dJ0_charAt_5068e_21 : decode cJ0_charAt_5068e 21 = .ok (.invokestatic 498, 3) := by decide +kernel
theorem dJ0_charAt_5068e_24 : decode cJ0_charAt_5068e 24 = .ok (.ireturn, 1) := by decide +kernel
theorem dJ0_coder_7d493_0 : decode cJ0_coder_7d493 0 = .ok (.getstatic 38, 3) := by decide +kernel
theorem dJ0_coder_7d493_3 : decode cJ0_coder_7d493 3 = .ok (.ifCond .eq 10, 3) := by decide +kernel
theorem dJ0_coder_7d493_6 : decode cJ0_coder_7d493 6 = .ok (.aload_n 0, 1) := by decide +kernel
theorem dJ0_coder_7d493_7 : decode cJ0_coder_7d493 7 = .ok (.getfield 15, 3) := by decide +kernel
theorem dJ0_coder_7d493_10 : decode cJ0_coder_7d493 10 = .ok (.goto 4, 3) := by decide +kernel
theorem dJ0_coder_7d493_13 : decode cJ0_coder_7d493 13 = .ok (.iconst 1, 1) := by decide +kernel
theorem dJ0_coder_7d493_14 : decode cJ0_coder_7d493 14 = .ok (.ireturn, 1) := by decide +kernel
theorem dJ0_isLatin1_aae02_0 : decode cJ0_isLatin1_aae02 0 = .ok (.getstatic 38, 3) := by decide +kernel
theorem dJ0_isLatin1_aae02_3 : decode cJ0_isLatin1_aae02 3 = .ok (.ifCond .eq 14, 3) := by decide +kernel
theorem dJ0_isLatin1_aae02_6 : decode cJ0_isLatin1_aae02 6 = .ok (.aload_n 0, 1) := by decide +kernel
theorem dJ0_isLatin1_aae02_7 : decode cJ0_isLatin1_aae02 7 = .ok (.getfield 15, 3) := by decide +kernel
theorem dJ0_isLatin1_aae02_10 : decode cJ0_isLatin1_aae02 10 = .ok (.ifCond .ne 7, 3) := by decide +kernel
theorem dJ0_isLatin1_aae02_13 : decode cJ0_isLatin1_aae02 13 = .ok (.iconst 1, 1) := by decide +kernel
theorem dJ0_isLatin1_aae02_14 : decode cJ0_isLatin1_aae02 14 = .ok (.goto 4, 3) := by decide +kernel
theorem dJ0_isLatin1_aae02_17 : decode cJ0_isLatin1_aae02 17 = .ok (.iconst 0, 1) := by decide +kernel
theorem dJ0_isLatin1_aae02_18 : decode cJ0_isLatin1_aae02 18 = .ok (.ireturn, 1) := by decide +kernel
theorem dJ0_checkIndex_df160_0 : decode cJ0_checkIndex_df160 0 = .ok (.iload_n 0, 1) := by decide +kernel
theorem dJ0_checkIndex_df160_1 : decode cJ0_checkIndex_df160 1 = .ok (.iload_n 1, 1) := by decide +kernel
theorem dJ0_checkIndex_df160_2 : decode cJ0_checkIndex_df160 2 = .ok (.getstatic 1053, 3) := by decide +kernel
theorem dJ0_checkIndex_df160_5 : decode cJ0_checkIndex_df160 5 = .ok (.invokestatic 1059, 3) := by decide +kernel
theorem dJ0_checkIndex_df160_8 : decode cJ0_checkIndex_df160 8 = .ok (.pop, 1) := by decide +kernel
theorem dJ0_checkIndex_df160_9 : decode cJ0_checkIndex_df160 9 = .ok (.return_, 1) := by decide +kernel
theorem dJ1_charAt_3b067_0 : decode cJ1_charAt_3b067 0 = .ok (.iload_n 1, 1) := by decide +kernel
theorem dJ1_charAt_3b067_1 : decode cJ1_charAt_3b067 1 = .ok (.aload_n 0, 1) := by decide +kernel
theorem dJ1_charAt_3b067_2 : decode cJ1_charAt_3b067 2 = .ok (.arraylength, 1) := by decide +kernel
theorem dJ1_charAt_3b067_3 : decode cJ1_charAt_3b067 3 = .ok (.invokestatic 9, 3) := by decide +kernel
theorem dJ1_charAt_3b067_6 : decode cJ1_charAt_3b067 6 = .ok (.aload_n 0, 1) := by decide +kernel
theorem dJ1_charAt_3b067_7 : decode cJ1_charAt_3b067 7 = .ok (.iload_n 1, 1) := by decide +kernel
theorem dJ1_charAt_3b067_8 : decode cJ1_charAt_3b067 8 = .ok (.baload, 1) := by decide +kernel
theorem dJ1_charAt_3b067_9 : decode cJ1_charAt_3b067 9 = .ok (.sipush 255, 3) := by decide +kernel
theorem dJ1_charAt_3b067_12 : decode cJ1_charAt_3b067 12 = .ok (.iand, 1) := by decide +kernel
theorem dJ1_charAt_3b067_13 : decode cJ1_charAt_3b067 13 = .ok (.i2c, 1) := by decide +kernel
theorem dJ1_charAt_3b067_14 : decode cJ1_charAt_3b067 14 = .ok (.ireturn, 1) := by decide +kernel
theorem dJ2_getChar_3b067_0 : decode cJ2_getChar_3b067 0 = .ok (.getstatic 44, 3) := by decide +kernel
theorem dJ2_getChar_3b067_3 : decode cJ2_getChar_3b067 3 = .ok (.ifCond .ne 25, 3) := by decide +kernel
theorem dJ2_getChar_3b067_6 : decode cJ2_getChar_3b067 6 = .ok (.iload_n 1, 1) := by decide +kernel
theorem dJ2_getChar_3b067_7 : decode cJ2_getChar_3b067 7 = .ok (.ifCond .lt 11, 3) := by decide +kernel
theorem dJ2_getChar_3b067_10 : decode cJ2_getChar_3b067 10 = .ok (.iload_n 1, 1) := by decide +kernel
theorem dJ2_getChar_3b067_11 : decode cJ2_getChar_3b067 11 = .ok (.aload_n 0, 1) := by decide +kernel
theorem dJ2_getChar_3b067_12 : decode cJ2_getChar_3b067 12 = .ok (.invokestatic 48, 3) := by decide +kernel
theorem dJ2_getChar_3b067_15 : decode cJ2_getChar_3b067 15 = .ok (.if_icmp .lt 13, 3) := by decide +kernel
theorem dJ2_getChar_3b067_18 : decode cJ2_getChar_3b067 18 = .ok (.new 52, 3) := by decide +kernel
theorem dJ2_getChar_3b067_21 : decode cJ2_getChar_3b067 21 = .ok (.dup, 1) := by decide +kernel
theorem dJ2_getChar_3b067_22 : decode cJ2_getChar_3b067 22 = .ok (.ldc 54, 2) := by decide +kernel
theorem dJ2_getChar_3b067_24 : decode cJ2_getChar_3b067 24 = .ok (.invokespecial 56, 3) := by decide +kernel
theorem dJ2_getChar_3b067_27 : decode cJ2_getChar_3b067 27 = .ok (.athrow, 1) := by decide +kernel
theorem dJ2_getChar_3b067_28 : decode cJ2_getChar_3b067 28 = .ok (.iload_n 1, 1) := by decide +kernel
theorem dJ2_getChar_3b067_29 : decode cJ2_getChar_3b067 29 = .ok (.iconst 1, 1) := by decide +kernel
theorem dJ2_getChar_3b067_30 : decode cJ2_getChar_3b067 30 = .ok (.ishl, 1) := by decide +kernel
theorem dJ2_getChar_3b067_31 : decode cJ2_getChar_3b067 31 = .ok (.istore_n 1, 1) := by decide +kernel
theorem dJ2_getChar_3b067_32 : decode cJ2_getChar_3b067 32 = .ok (.aload_n 0, 1) := by decide +kernel
theorem dJ2_getChar_3b067_33 : decode cJ2_getChar_3b067 33 = .ok (.iload_n 1, 1) := by decide +kernel
theorem dJ2_getChar_3b067_34 : decode cJ2_getChar_3b067 34 = .ok (.iinc 1 1, 3) := by decide +kernel
theorem dJ2_getChar_3b067_37 : decode cJ2_getChar_3b067 37 = .ok (.baload, 1) := by decide +kernel
theorem dJ2_getChar_3b067_38 : decode cJ2_getChar_3b067 38 = .ok (.sipush 255, 3) := by decide +kernel
theorem dJ2_getChar_3b067_41 : decode cJ2_getChar_3b067 41 = .ok (.iand, 1) := by decide +kernel
theorem dJ2_getChar_3b067_42 : decode cJ2_getChar_3b067 42 = .ok (.getstatic 59, 3) := by decide +kernel
theorem dJ2_getChar_3b067_45 : decode cJ2_getChar_3b067 45 = .ok (.ishl, 1) := by decide +kernel
theorem dJ2_getChar_3b067_46 : decode cJ2_getChar_3b067 46 = .ok (.aload_n 0, 1) := by decide +kernel
theorem dJ2_getChar_3b067_47 : decode cJ2_getChar_3b067 47 = .ok (.iload_n 1, 1) := by decide +kernel
theorem dJ2_getChar_3b067_48 : decode cJ2_getChar_3b067 48 = .ok (.baload, 1) := by decide +kernel
theorem dJ2_getChar_3b067_49 : decode cJ2_getChar_3b067 49 = .ok (.sipush 255, 3) := by decide +kernel
theorem dJ2_getChar_3b067_52 : decode cJ2_getChar_3b067 52 = .ok (.iand, 1) := by decide +kernel
theorem dJ2_getChar_3b067_53 : decode cJ2_getChar_3b067 53 = .ok (.getstatic 63, 3) := by decide +kernel
theorem dJ2_getChar_3b067_56 : decode cJ2_getChar_3b067 56 = .ok (.ishl, 1) := by decide +kernel
theorem dJ2_getChar_3b067_57 : decode cJ2_getChar_3b067 57 = .ok (.ior, 1) := by decide +kernel
theorem dJ2_getChar_3b067_58 : decode cJ2_getChar_3b067 58 = .ok (.i2c, 1) := by decide +kernel
theorem dJ2_getChar_3b067_59 : decode cJ2_getChar_3b067 59 = .ok (.ireturn, 1) := by decide +kernel
theorem dJ2_length_9d52b_0 : decode cJ2_length_9d52b 0 = .ok (.aload_n 0, 1) := by decide +kernel
theorem dJ2_length_9d52b_1 : decode cJ2_length_9d52b 1 = .ok (.arraylength, 1) := by decide +kernel
theorem dJ2_length_9d52b_2 : decode cJ2_length_9d52b 2 = .ok (.iconst 1, 1) := by decide +kernel
theorem dJ2_length_9d52b_3 : decode cJ2_length_9d52b 3 = .ok (.ishr, 1) := by decide +kernel
theorem dJ2_length_9d52b_4 : decode cJ2_length_9d52b 4 = .ok (.ireturn, 1) := by decide +kernel
theorem dJ2_charAt_3b067_0 : decode cJ2_charAt_3b067 0 = .ok (.iload_n 1, 1) := by decide +kernel
theorem dJ2_charAt_3b067_1 : decode cJ2_charAt_3b067 1 = .ok (.aload_n 0, 1) := by decide +kernel
theorem dJ2_charAt_3b067_2 : decode cJ2_charAt_3b067 2 = .ok (.invokestatic 67, 3) := by decide +kernel
theorem dJ2_charAt_3b067_5 : decode cJ2_charAt_3b067 5 = .ok (.aload_n 0, 1) := by decide +kernel
theorem dJ2_charAt_3b067_6 : decode cJ2_charAt_3b067 6 = .ok (.iload_n 1, 1) := by decide +kernel
theorem dJ2_charAt_3b067_7 : decode cJ2_charAt_3b067 7 = .ok (.invokestatic 71, 3) := by decide +kernel
theorem dJ2_charAt_3b067_10 : decode cJ2_charAt_3b067 10 = .ok (.ireturn, 1) := by decide +kernel
theorem dJ2_checkIndex_2214a_0 : decode cJ2_checkIndex_2214a 0 = .ok (.iload_n 0, 1) := by decide +kernel
theorem dJ2_checkIndex_2214a_1 : decode cJ2_checkIndex_2214a 1 = .ok (.aload_n 1, 1) := by decide +kernel
theorem dJ2_checkIndex_2214a_2 : decode cJ2_checkIndex_2214a 2 = .ok (.invokestatic 48, 3) := by decide +kernel
theorem dJ2_checkIndex_2214a_5 : decode cJ2_checkIndex_2214a 5 = .ok (.invokestatic 414, 3) := by decide +kernel
theorem dJ2_checkIndex_2214a_8 : decode cJ2_checkIndex_2214a 8 = .ok (.return_, 1) := by decide +kernel
theorem dJ3_checkIndex_8e157_0 : decode cJ3_checkIndex_8e157 0 = .ok (.iload_n 0, 1) := by decide +kernel
theorem dJ3_checkIndex_8e157_1 : decode cJ3_checkIndex_8e157 1 = .ok (.ifCond .lt 8, 3) := by decide +kernel
theorem dJ3_checkIndex_8e157_4 : decode cJ3_checkIndex_8e157 4 = .ok (.iload_n 0, 1) := by decide +kernel
theorem dJ3_checkIndex_8e157_5 : decode cJ3_checkIndex_8e157 5 = .ok (.iload_n 1, 1) := by decide +kernel
theorem dJ3_checkIndex_8e157_6 : decode cJ3_checkIndex_8e157 6 = .ok (.if_icmp .lt 10, 3) := by decide +kernel
theorem dJ3_checkIndex_8e157_9 : decode cJ3_checkIndex_8e157 9 = .ok (.aload_n 2, 1) := by decide +kernel
theorem dJ3_checkIndex_8e157_10 : decode cJ3_checkIndex_8e157 10 = .ok (.iload_n 0, 1) := by decide +kernel
theorem dJ3_checkIndex_8e157_11 : decode cJ3_checkIndex_8e157 11 = .ok (.iload_n 1, 1) := by decide +kernel
theorem dJ3_checkIndex_8e157_12 : decode cJ3_checkIndex_8e157 12 = .ok (.invokestatic 95, 3) := by decide +kernel
theorem dJ3_checkIndex_8e157_15 : decode cJ3_checkIndex_8e157 15 = .ok (.athrow, 1) := by decide +kernel
theorem dJ3_checkIndex_8e157_16 : decode cJ3_checkIndex_8e157 16 = .ok (.iload_n 0, 1) := by decide +kernel
theorem dJ3_checkIndex_8e157_17 : decode cJ3_checkIndex_8e157 17 = .ok (.ireturn, 1) := by decide +kernel
theorem dJ6_bitCount_0f7a4_0 : decode cJ6_bitCount_0f7a4 0 = .ok (.iload_n 0, 1) := by decide +kernel
theorem dJ6_bitCount_0f7a4_1 : decode cJ6_bitCount_0f7a4 1 = .ok (.iload_n 0, 1) := by decide +kernel
theorem dJ6_bitCount_0f7a4_2 : decode cJ6_bitCount_0f7a4 2 = .ok (.iconst 1, 1) := by decide +kernel
theorem dJ6_bitCount_0f7a4_3 : decode cJ6_bitCount_0f7a4 3 = .ok (.iushr, 1) := by decide +kernel
theorem dJ6_bitCount_0f7a4_4 : decode cJ6_bitCount_0f7a4 4 = .ok (.ldc_w 265, 3) := by decide +kernel
theorem dJ6_bitCount_0f7a4_7 : decode cJ6_bitCount_0f7a4 7 = .ok (.iand, 1) := by decide +kernel
theorem dJ6_bitCount_0f7a4_8 : decode cJ6_bitCount_0f7a4 8 = .ok (.isub, 1) := by decide +kernel
theorem dJ6_bitCount_0f7a4_9 : decode cJ6_bitCount_0f7a4 9 = .ok (.istore_n 0, 1) := by decide +kernel
theorem dJ6_bitCount_0f7a4_10 : decode cJ6_bitCount_0f7a4 10 = .ok (.iload_n 0, 1) := by decide +kernel
theorem dJ6_bitCount_0f7a4_11 : decode cJ6_bitCount_0f7a4 11 = .ok (.ldc_w 266, 3) := by decide +kernel
theorem dJ6_bitCount_0f7a4_14 : decode cJ6_bitCount_0f7a4 14 = .ok (.iand, 1) := by decide +kernel
theorem dJ6_bitCount_0f7a4_15 : decode cJ6_bitCount_0f7a4 15 = .ok (.iload_n 0, 1) := by decide +kernel
theorem dJ6_bitCount_0f7a4_16 : decode cJ6_bitCount_0f7a4 16 = .ok (.iconst 2, 1) := by decide +kernel
theorem dJ6_bitCount_0f7a4_17 : decode cJ6_bitCount_0f7a4 17 = .ok (.iushr, 1) := by decide +kernel
theorem dJ6_bitCount_0f7a4_18 : decode cJ6_bitCount_0f7a4 18 = .ok (.ldc_w 266, 3) := by decide +kernel
theorem dJ6_bitCount_0f7a4_21 : decode cJ6_bitCount_0f7a4 21 = .ok (.iand, 1) := by decide +kernel
theorem dJ6_bitCount_0f7a4_22 : decode cJ6_bitCount_0f7a4 22 = .ok (.iadd, 1) := by decide +kernel
theorem dJ6_bitCount_0f7a4_23 : decode cJ6_bitCount_0f7a4 23 = .ok (.istore_n 0, 1) := by decide +kernel
theorem dJ6_bitCount_0f7a4_24 : decode cJ6_bitCount_0f7a4 24 = .ok (.iload_n 0, 1) := by decide +kernel
theorem dJ6_bitCount_0f7a4_25 : decode cJ6_bitCount_0f7a4 25 = .ok (.iload_n 0, 1) := by decide +kernel
theorem dJ6_bitCount_0f7a4_26 : decode cJ6_bitCount_0f7a4 26 = .ok (.iconst 4, 1) := by decide +kernel
theorem dJ6_bitCount_0f7a4_27 : decode cJ6_bitCount_0f7a4 27 = .ok (.iushr, 1) := by decide +kernel
theorem dJ6_bitCount_0f7a4_28 : decode cJ6_bitCount_0f7a4 28 = .ok (.iadd, 1) := by decide +kernel
theorem dJ6_bitCount_0f7a4_29 : decode cJ6_bitCount_0f7a4 29 = .ok (.ldc_w 267, 3) := by decide +kernel
theorem dJ6_bitCount_0f7a4_32 : decode cJ6_bitCount_0f7a4 32 = .ok (.iand, 1) := by decide +kernel
theorem dJ6_bitCount_0f7a4_33 : decode cJ6_bitCount_0f7a4 33 = .ok (.istore_n 0, 1) := by decide +kernel
theorem dJ6_bitCount_0f7a4_34 : decode cJ6_bitCount_0f7a4 34 = .ok (.iload_n 0, 1) := by decide +kernel
theorem dJ6_bitCount_0f7a4_35 : decode cJ6_bitCount_0f7a4 35 = .ok (.iload_n 0, 1) := by decide +kernel
theorem dJ6_bitCount_0f7a4_36 : decode cJ6_bitCount_0f7a4 36 = .ok (.bipush 8, 2) := by decide +kernel
theorem dJ6_bitCount_0f7a4_38 : decode cJ6_bitCount_0f7a4 38 = .ok (.iushr, 1) := by decide +kernel
theorem dJ6_bitCount_0f7a4_39 : decode cJ6_bitCount_0f7a4 39 = .ok (.iadd, 1) := by decide +kernel
theorem dJ6_bitCount_0f7a4_40 : decode cJ6_bitCount_0f7a4 40 = .ok (.istore_n 0, 1) := by decide +kernel
theorem dJ6_bitCount_0f7a4_41 : decode cJ6_bitCount_0f7a4 41 = .ok (.iload_n 0, 1) := by decide +kernel
theorem dJ6_bitCount_0f7a4_42 : decode cJ6_bitCount_0f7a4 42 = .ok (.iload_n 0, 1) := by decide +kernel
theorem dJ6_bitCount_0f7a4_43 : decode cJ6_bitCount_0f7a4 43 = .ok (.bipush 16, 2) := by decide +kernel
theorem dJ6_bitCount_0f7a4_45 : decode cJ6_bitCount_0f7a4 45 = .ok (.iushr, 1) := by decide +kernel
theorem dJ6_bitCount_0f7a4_46 : decode cJ6_bitCount_0f7a4 46 = .ok (.iadd, 1) := by decide +kernel
theorem dJ6_bitCount_0f7a4_47 : decode cJ6_bitCount_0f7a4 47 = .ok (.istore_n 0, 1) := by decide +kernel
theorem dJ6_bitCount_0f7a4_48 : decode cJ6_bitCount_0f7a4 48 = .ok (.iload_n 0, 1) := by decide +kernel
theorem dJ6_bitCount_0f7a4_49 : decode cJ6_bitCount_0f7a4 49 = .ok (.bipush 63, 2) := by decide +kernel
theorem dJ6_bitCount_0f7a4_51 : decode cJ6_bitCount_0f7a4 51 = .ok (.iand, 1) := by decide +kernel
theorem dJ6_bitCount_0f7a4_52 : decode cJ6_bitCount_0f7a4 52 = .ok (.ireturn, 1) := by decide +kernel
theorem dJ7_fill_53178_0 : decode cJ7_fill_53178 0 = .ok (.iconst 0, 1) := by decide +kernel
theorem dJ7_fill_53178_1 : decode cJ7_fill_53178 1 = .ok (.istore_n 2, 1) := by decide +kernel
theorem dJ7_fill_53178_2 : decode cJ7_fill_53178 2 = .ok (.aload_n 0, 1) := by decide +kernel
theorem dJ7_fill_53178_3 : decode cJ7_fill_53178 3 = .ok (.arraylength, 1) := by decide +kernel
theorem dJ7_fill_53178_4 : decode cJ7_fill_53178 4 = .ok (.istore_n 3, 1) := by decide +kernel
theorem dJ7_fill_53178_5 : decode cJ7_fill_53178 5 = .ok (.iload_n 2, 1) := by decide +kernel
theorem dJ7_fill_53178_6 : decode cJ7_fill_53178 6 = .ok (.iload_n 3, 1) := by decide +kernel
theorem dJ7_fill_53178_7 : decode cJ7_fill_53178 7 = .ok (.if_icmp .ge 13, 3) := by decide +kernel
theorem dJ7_fill_53178_10 : decode cJ7_fill_53178 10 = .ok (.aload_n 0, 1) := by decide +kernel
theorem dJ7_fill_53178_11 : decode cJ7_fill_53178 11 = .ok (.iload_n 2, 1) := by decide +kernel
theorem dJ7_fill_53178_12 : decode cJ7_fill_53178 12 = .ok (.iload_n 1, 1) := by decide +kernel
theorem dJ7_fill_53178_13 : decode cJ7_fill_53178 13 = .ok (.iastore, 1) := by decide +kernel
theorem dJ7_fill_53178_14 : decode cJ7_fill_53178 14 = .ok (.iinc 2 1, 3) := by decide +kernel
theorem dJ7_fill_53178_17 : decode cJ7_fill_53178 17 = .ok (.goto (-12), 3) := by decide +kernel
theorem dJ7_fill_53178_20 : decode cJ7_fill_53178 20 = .ok (.return_, 1) := by decide +kernel
theorem dJ9_abs_0f7a4_0 : decode cJ9_abs_0f7a4 0 = .ok (.iload_n 0, 1) := by decide +kernel
theorem dJ9_abs_0f7a4_1 : decode cJ9_abs_0f7a4 1 = .ok (.ifCond .ge 8, 3) := by decide +kernel
theorem dJ9_abs_0f7a4_4 : decode cJ9_abs_0f7a4 4 = .ok (.iload_n 0, 1) := by decide +kernel
theorem dJ9_abs_0f7a4_5 : decode cJ9_abs_0f7a4 5 = .ok (.ineg, 1) := by decide +kernel
theorem dJ9_abs_0f7a4_6 : decode cJ9_abs_0f7a4 6 = .ok (.goto 4, 3) := by decide +kernel
theorem dJ9_abs_0f7a4_9 : decode cJ9_abs_0f7a4 9 = .ok (.iload_n 0, 1) := by decide +kernel
theorem dJ9_abs_0f7a4_10 : decode cJ9_abs_0f7a4 10 = .ok (.ireturn, 1) := by decide +kernel
theorem dJ9_max_7cf53_0 : decode cJ9_max_7cf53 0 = .ok (.iload_n 0, 1) := by decide +kernel
theorem dJ9_max_7cf53_1 : decode cJ9_max_7cf53 1 = .ok (.iload_n 1, 1) := by decide +kernel
theorem dJ9_max_7cf53_2 : decode cJ9_max_7cf53 2 = .ok (.if_icmp .lt 7, 3) := by decide +kernel
theorem dJ9_max_7cf53_5 : decode cJ9_max_7cf53 5 = .ok (.iload_n 0, 1) := by decide +kernel
theorem dJ9_max_7cf53_6 : decode cJ9_max_7cf53 6 = .ok (.goto 4, 3) := by decide +kernel
theorem dJ9_max_7cf53_9 : decode cJ9_max_7cf53 9 = .ok (.iload_n 1, 1) := by decide +kernel
theorem dJ9_max_7cf53_10 : decode cJ9_max_7cf53 10 = .ok (.ireturn, 1) := by decide +kernel
theorem dJ13_bitCount_95d88_0 : decode cJ13_bitCount_95d88 0 = .ok (.lload_n 0, 1) := by decide +kernel
theorem dJ13_bitCount_95d88_1 : decode cJ13_bitCount_95d88 1 = .ok (.lload_n 0, 1) := by decide +kernel
theorem dJ13_bitCount_95d88_2 : decode cJ13_bitCount_95d88 2 = .ok (.iconst 1, 1) := by decide +kernel
theorem dJ13_bitCount_95d88_3 : decode cJ13_bitCount_95d88 3 = .ok (.lushr, 1) := by decide +kernel
theorem dJ13_bitCount_95d88_4 : decode cJ13_bitCount_95d88 4 = .ok (.ldc2_w 314, 3) := by decide +kernel
theorem dJ13_bitCount_95d88_7 : decode cJ13_bitCount_95d88 7 = .ok (.land, 1) := by decide +kernel
theorem dJ13_bitCount_95d88_8 : decode cJ13_bitCount_95d88 8 = .ok (.lsub, 1) := by decide +kernel
theorem dJ13_bitCount_95d88_9 : decode cJ13_bitCount_95d88 9 = .ok (.lstore_n 0, 1) := by decide +kernel
theorem dJ13_bitCount_95d88_10 : decode cJ13_bitCount_95d88 10 = .ok (.lload_n 0, 1) := by decide +kernel
theorem dJ13_bitCount_95d88_11 : decode cJ13_bitCount_95d88 11 = .ok (.ldc2_w 316, 3) := by decide +kernel
theorem dJ13_bitCount_95d88_14 : decode cJ13_bitCount_95d88 14 = .ok (.land, 1) := by decide +kernel
theorem dJ13_bitCount_95d88_15 : decode cJ13_bitCount_95d88 15 = .ok (.lload_n 0, 1) := by decide +kernel
theorem dJ13_bitCount_95d88_16 : decode cJ13_bitCount_95d88 16 = .ok (.iconst 2, 1) := by decide +kernel
theorem dJ13_bitCount_95d88_17 : decode cJ13_bitCount_95d88 17 = .ok (.lushr, 1) := by decide +kernel
theorem dJ13_bitCount_95d88_18 : decode cJ13_bitCount_95d88 18 = .ok (.ldc2_w 316, 3) := by decide +kernel
theorem dJ13_bitCount_95d88_21 : decode cJ13_bitCount_95d88 21 = .ok (.land, 1) := by decide +kernel
theorem dJ13_bitCount_95d88_22 : decode cJ13_bitCount_95d88 22 = .ok (.ladd, 1) := by decide +kernel
theorem dJ13_bitCount_95d88_23 : decode cJ13_bitCount_95d88 23 = .ok (.lstore_n 0, 1) := by decide +kernel
theorem dJ13_bitCount_95d88_24 : decode cJ13_bitCount_95d88 24 = .ok (.lload_n 0, 1) := by decide +kernel
theorem dJ13_bitCount_95d88_25 : decode cJ13_bitCount_95d88 25 = .ok (.lload_n 0, 1) := by decide +kernel
theorem dJ13_bitCount_95d88_26 : decode cJ13_bitCount_95d88 26 = .ok (.iconst 4, 1) := by decide +kernel
theorem dJ13_bitCount_95d88_27 : decode cJ13_bitCount_95d88 27 = .ok (.lushr, 1) := by decide +kernel
theorem dJ13_bitCount_95d88_28 : decode cJ13_bitCount_95d88 28 = .ok (.ladd, 1) := by decide +kernel
theorem dJ13_bitCount_95d88_29 : decode cJ13_bitCount_95d88 29 = .ok (.ldc2_w 318, 3) := by decide +kernel
theorem dJ13_bitCount_95d88_32 : decode cJ13_bitCount_95d88 32 = .ok (.land, 1) := by decide +kernel
theorem dJ13_bitCount_95d88_33 : decode cJ13_bitCount_95d88 33 = .ok (.lstore_n 0, 1) := by decide +kernel
theorem dJ13_bitCount_95d88_34 : decode cJ13_bitCount_95d88 34 = .ok (.lload_n 0, 1) := by decide +kernel
theorem dJ13_bitCount_95d88_35 : decode cJ13_bitCount_95d88 35 = .ok (.lload_n 0, 1) := by decide +kernel
theorem dJ13_bitCount_95d88_36 : decode cJ13_bitCount_95d88 36 = .ok (.bipush 8, 2) := by decide +kernel
theorem dJ13_bitCount_95d88_38 : decode cJ13_bitCount_95d88 38 = .ok (.lushr, 1) := by decide +kernel
theorem dJ13_bitCount_95d88_39 : decode cJ13_bitCount_95d88 39 = .ok (.ladd, 1) := by decide +kernel
theorem dJ13_bitCount_95d88_40 : decode cJ13_bitCount_95d88 40 = .ok (.lstore_n 0, 1) := by decide +kernel
theorem dJ13_bitCount_95d88_41 : decode cJ13_bitCount_95d88 41 = .ok (.lload_n 0, 1) := by decide +kernel
theorem dJ13_bitCount_95d88_42 : decode cJ13_bitCount_95d88 42 = .ok (.lload_n 0, 1) := by decide +kernel
theorem dJ13_bitCount_95d88_43 : decode cJ13_bitCount_95d88 43 = .ok (.bipush 16, 2) := by decide +kernel
theorem dJ13_bitCount_95d88_45 : decode cJ13_bitCount_95d88 45 = .ok (.lushr, 1) := by decide +kernel
theorem dJ13_bitCount_95d88_46 : decode cJ13_bitCount_95d88 46 = .ok (.ladd, 1) := by decide +kernel
theorem dJ13_bitCount_95d88_47 : decode cJ13_bitCount_95d88 47 = .ok (.lstore_n 0, 1) := by decide +kernel
theorem dJ13_bitCount_95d88_48 : decode cJ13_bitCount_95d88 48 = .ok (.lload_n 0, 1) := by decide +kernel
theorem dJ13_bitCount_95d88_49 : decode cJ13_bitCount_95d88 49 = .ok (.lload_n 0, 1) := by decide +kernel
theorem dJ13_bitCount_95d88_50 : decode cJ13_bitCount_95d88 50 = .ok (.bipush 32, 2) := by decide +kernel
theorem dJ13_bitCount_95d88_52 : decode cJ13_bitCount_95d88 52 = .ok (.lushr, 1) := by decide +kernel
theorem dJ13_bitCount_95d88_53 : decode cJ13_bitCount_95d88 53 = .ok (.ladd, 1) := by decide +kernel
theorem dJ13_bitCount_95d88_54 : decode cJ13_bitCount_95d88 54 = .ok (.lstore_n 0, 1) := by decide +kernel
theorem dJ13_bitCount_95d88_55 : decode cJ13_bitCount_95d88 55 = .ok (.lload_n 0, 1) := by decide +kernel
theorem dJ13_bitCount_95d88_56 : decode cJ13_bitCount_95d88 56 = .ok (.l2i, 1) := by decide +kernel
theorem dJ13_bitCount_95d88_57 : decode cJ13_bitCount_95d88 57 = .ok (.bipush 127, 2) := by decide +kernel
theorem dJ13_bitCount_95d88_59 : decode cJ13_bitCount_95d88 59 = .ok (.iand, 1) := by decide +kernel
theorem dJ13_bitCount_95d88_60 : decode cJ13_bitCount_95d88 60 = .ok (.ireturn, 1) := by decide +kernel
