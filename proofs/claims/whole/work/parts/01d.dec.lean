theorem dX3_init_0 : decode cX3_init 0 = .ok (.aload_n 0, 1) := by decide +kernel
theorem dX3_init_1 : decode cX3_init 1 = .ok (.invokespecial 3, 3) := by decide +kernel
theorem dX3_init_4 : decode cX3_init 4 = .ok (.aload_n 0, 1) := by decide +kernel
theorem dX3_init_5 : decode cX3_init 5 = .ok (.new 9, 3) := by decide +kernel
theorem dX3_init_8 : decode cX3_init 8 = .ok (.dup, 1) := by decide +kernel
theorem dX3_init_9 : decode cX3_init 9 = .ok (.invokespecial 11, 3) := by decide +kernel
theorem dX3_init_12 : decode cX3_init 12 = .ok (.putfield 12, 3) := by decide +kernel
theorem dX3_init_15 : decode cX3_init 15 = .ok (.aload_n 0, 1) := by decide +kernel
theorem dX3_init_16 : decode cX3_init 16 = .ok (.bipush 12, 2) := by decide +kernel
theorem dX3_init_18 : decode cX3_init 18 = .ok (.newarray .int, 2) := by decide +kernel
theorem dX3_init_20 : decode cX3_init 20 = .ok (.putfield 18, 3) := by decide +kernel
theorem dX3_init_23 : decode cX3_init 23 = .ok (.aload_n 0, 1) := by decide +kernel
theorem dX3_init_24 : decode cX3_init 24 = .ok (.bipush 12, 2) := by decide +kernel
theorem dX3_init_26 : decode cX3_init 26 = .ok (.newarray .int, 2) := by decide +kernel
theorem dX3_init_28 : decode cX3_init 28 = .ok (.putfield 22, 3) := by decide +kernel
theorem dX3_init_31 : decode cX3_init 31 = .ok (.aload_n 0, 1) := by decide +kernel
theorem dX3_init_32 : decode cX3_init 32 = .ok (.bipush 24, 2) := by decide +kernel
theorem dX3_init_34 : decode cX3_init 34 = .ok (.newarray .int, 2) := by decide +kernel
theorem dX3_init_36 : decode cX3_init 36 = .ok (.putfield 25, 3) := by decide +kernel
theorem dX3_init_39 : decode cX3_init 39 = .ok (.aload_n 0, 1) := by decide +kernel
theorem dX3_init_40 : decode cX3_init 40 = .ok (.iconst 0, 1) := by decide +kernel
theorem dX3_init_41 : decode cX3_init 41 = .ok (.putfield 28, 3) := by decide +kernel
theorem dX3_init_44 : decode cX3_init 44 = .ok (.aload_n 0, 1) := by decide +kernel
theorem dX3_init_45 : decode cX3_init 45 = .ok (.iconst 0, 1) := by decide +kernel
theorem dX3_init_46 : decode cX3_init 46 = .ok (.putfield 32, 3) := by decide +kernel
theorem dX3_init_49 : decode cX3_init 49 = .ok (.aload_n 0, 1) := by decide +kernel
theorem dX3_init_50 : decode cX3_init 50 = .ok (.iconst 0, 1) := by decide +kernel
theorem dX3_init_51 : decode cX3_init 51 = .ok (.putfield 35, 3) := by decide +kernel
theorem dX3_init_54 : decode cX3_init 54 = .ok (.aload_n 0, 1) := by decide +kernel
theorem dX3_init_55 : decode cX3_init 55 = .ok (.iconst 0, 1) := by decide +kernel
theorem dX3_init_56 : decode cX3_init 56 = .ok (.putfield 38, 3) := by decide +kernel
theorem dX3_init_59 : decode cX3_init 59 = .ok (.aload_n 0, 1) := by decide +kernel
theorem dX3_init_60 : decode cX3_init 60 = .ok (.iconst 0, 1) := by decide +kernel
theorem dX3_init_61 : decode cX3_init 61 = .ok (.putfield 41, 3) := by decide +kernel
theorem dX3_init_64 : decode cX3_init 64 = .ok (.aload_n 0, 1) := by decide +kernel
theorem dX3_init_65 : decode cX3_init 65 = .ok (.iconst 0, 1) := by decide +kernel
theorem dX3_init_66 : decode cX3_init 66 = .ok (.putfield 45, 3) := by decide +kernel
theorem dX3_init_69 : decode cX3_init 69 = .ok (.aload_n 0, 1) := by decide +kernel
theorem dX3_init_70 : decode cX3_init 70 = .ok (.iconst 0, 1) := by decide +kernel
theorem dX3_init_71 : decode cX3_init 71 = .ok (.putfield 48, 3) := by decide +kernel
theorem dX3_init_74 : decode cX3_init 74 = .ok (.return_, 1) := by decide +kernel
theorem dX3_settle_0 : decode cX3_settle 0 = .ok (.aload_n 0, 1) := by decide +kernel
theorem dX3_settle_1 : decode cX3_settle 1 = .ok (.aload_n 0, 1) := by decide +kernel
theorem dX3_settle_2 : decode cX3_settle 2 = .ok (.aload_n 1, 1) := by decide +kernel
theorem dX3_settle_3 : decode cX3_settle 3 = .ok (.aload_n 1, 1) := by decide +kernel
theorem dX3_settle_4 : decode cX3_settle 4 = .ok (.getfield 51, 3) := by decide +kernel
theorem dX3_settle_7 : decode cX3_settle 7 = .ok (.iconst 1, 1) := by decide +kernel
theorem dX3_settle_8 : decode cX3_settle 8 = .ok (.isub, 1) := by decide +kernel
theorem dX3_settle_9 : decode cX3_settle 9 = .ok (.invokevirtual 56, 3) := by decide +kernel
theorem dX3_settle_12 : decode cX3_settle 12 = .ok (.putfield 32, 3) := by decide +kernel
theorem dX3_settle_15 : decode cX3_settle 15 = .ok (.aload_n 0, 1) := by decide +kernel
theorem dX3_settle_16 : decode cX3_settle 16 = .ok (.aload_n 0, 1) := by decide +kernel
theorem dX3_settle_17 : decode cX3_settle 17 = .ok (.getfield 32, 3) := by decide +kernel
theorem dX3_settle_20 : decode cX3_settle 20 = .ok (.invokestatic 60, 3) := by decide +kernel
theorem dX3_settle_23 : decode cX3_settle 23 = .ok (.putfield 35, 3) := by decide +kernel
theorem dX3_settle_26 : decode cX3_settle 26 = .ok (.aload_n 0, 1) := by decide +kernel
theorem dX3_settle_27 : decode cX3_settle 27 = .ok (.iconst 2, 1) := by decide +kernel
theorem dX3_settle_28 : decode cX3_settle 28 = .ok (.aload_n 1, 1) := by decide +kernel
theorem dX3_settle_29 : decode cX3_settle 29 = .ok (.getfield 66, 3) := by decide +kernel
theorem dX3_settle_32 : decode cX3_settle 32 = .ok (.imul, 1) := by decide +kernel
theorem dX3_settle_33 : decode cX3_settle 33 = .ok (.aload_n 0, 1) := by decide +kernel
theorem dX3_settle_34 : decode cX3_settle 34 = .ok (.getfield 35, 3) := by decide +kernel
theorem dX3_settle_37 : decode cX3_settle 37 = .ok (.isub, 1) := by decide +kernel
theorem dX3_settle_38 : decode cX3_settle 38 = .ok (.putfield 38, 3) := by decide +kernel
theorem dX3_settle_41 : decode cX3_settle 41 = .ok (.aload_n 0, 1) := by decide +kernel
theorem dX3_settle_42 : decode cX3_settle 42 = .ok (.aload_n 1, 1) := by decide +kernel
theorem dX3_settle_43 : decode cX3_settle 43 = .ok (.getfield 66, 3) := by decide +kernel
theorem dX3_settle_46 : decode cX3_settle 46 = .ok (.iconst 2, 1) := by decide +kernel
theorem dX3_settle_47 : decode cX3_settle 47 = .ok (.if_icmp .lt 15, 3) := by decide +kernel
theorem dX3_settle_50 : decode cX3_settle 50 = .ok (.aload_n 0, 1) := by decide +kernel
theorem dX3_settle_51 : decode cX3_settle 51 = .ok (.getfield 38, 3) := by decide +kernel
theorem dX3_settle_54 : decode cX3_settle 54 = .ok (.iconst 3, 1) := by decide +kernel
theorem dX3_settle_55 : decode cX3_settle 55 = .ok (.if_icmp .ne 7, 3) := by decide +kernel
theorem dX3_settle_58 : decode cX3_settle 58 = .ok (.iconst 1, 1) := by decide +kernel
theorem dX3_settle_59 : decode cX3_settle 59 = .ok (.goto 4, 3) := by decide +kernel
theorem dX3_settle_62 : decode cX3_settle 62 = .ok (.iconst 0, 1) := by decide +kernel
theorem dX3_settle_63 : decode cX3_settle 63 = .ok (.putfield 41, 3) := by decide +kernel
theorem dX3_settle_66 : decode cX3_settle 66 = .ok (.return_, 1) := by decide +kernel
theorem dX3_carryingWithLast_0 : decode cX3_carryingWithLast 0 = .ok (.aload_n 0, 1) := by decide +kernel
theorem dX3_carryingWithLast_1 : decode cX3_carryingWithLast 1 = .ok (.getfield 12, 3) := by decide +kernel
theorem dX3_carryingWithLast_4 : decode cX3_carryingWithLast 4 = .ok (.invokevirtual 69, 3) := by decide +kernel
theorem dX3_carryingWithLast_7 : decode cX3_carryingWithLast 7 = .ok (.iconst 0, 1) := by decide +kernel
theorem dX3_carryingWithLast_8 : decode cX3_carryingWithLast 8 = .ok (.istore_n 3, 1) := by decide +kernel
theorem dX3_carryingWithLast_9 : decode cX3_carryingWithLast 9 = .ok (.iconst 0, 1) := by decide +kernel
theorem dX3_carryingWithLast_10 : decode cX3_carryingWithLast 10 = .ok (.istore 4, 2) := by decide +kernel
theorem dX3_carryingWithLast_12 : decode cX3_carryingWithLast 12 = .ok (.iload 4, 2) := by decide +kernel
theorem dX3_carryingWithLast_14 : decode cX3_carryingWithLast 14 = .ok (.aload_n 1, 1) := by decide +kernel
theorem dX3_carryingWithLast_15 : decode cX3_carryingWithLast 15 = .ok (.getfield 51, 3) := by decide +kernel
theorem dX3_carryingWithLast_18 : decode cX3_carryingWithLast 18 = .ok (.if_icmp .ge 91, 3) := by decide +kernel
theorem dX3_carryingWithLast_21 : decode cX3_carryingWithLast 21 = .ok (.iload 4, 2) := by decide +kernel
theorem dX3_carryingWithLast_23 : decode cX3_carryingWithLast 23 = .ok (.aload_n 1, 1) := by decide +kernel
theorem dX3_carryingWithLast_24 : decode cX3_carryingWithLast 24 = .ok (.getfield 51, 3) := by decide +kernel
theorem dX3_carryingWithLast_27 : decode cX3_carryingWithLast 27 = .ok (.iconst 1, 1) := by decide +kernel
theorem dX3_carryingWithLast_28 : decode cX3_carryingWithLast 28 = .ok (.isub, 1) := by decide +kernel
theorem dX3_carryingWithLast_29 : decode cX3_carryingWithLast 29 = .ok (.if_icmp .ne 7, 3) := by decide +kernel
theorem dX3_carryingWithLast_32 : decode cX3_carryingWithLast 32 = .ok (.iload_n 2, 1) := by decide +kernel
theorem dX3_carryingWithLast_33 : decode cX3_carryingWithLast 33 = .ok (.goto 18, 3) := by decide +kernel
theorem dX3_carryingWithLast_36 : decode cX3_carryingWithLast 36 = .ok (.iload 4, 2) := by decide +kernel
theorem dX3_carryingWithLast_38 : decode cX3_carryingWithLast 38 = .ok (.iload_n 2, 1) := by decide +kernel
theorem dX3_carryingWithLast_39 : decode cX3_carryingWithLast 39 = .ok (.if_icmp .ge 8, 3) := by decide +kernel
theorem dX3_carryingWithLast_42 : decode cX3_carryingWithLast 42 = .ok (.iload 4, 2) := by decide +kernel
theorem dX3_carryingWithLast_44 : decode cX3_carryingWithLast 44 = .ok (.goto 7, 3) := by decide +kernel
theorem dX3_carryingWithLast_47 : decode cX3_carryingWithLast 47 = .ok (.iload 4, 2) := by decide +kernel
theorem dX3_carryingWithLast_49 : decode cX3_carryingWithLast 49 = .ok (.iconst 1, 1) := by decide +kernel
theorem dX3_carryingWithLast_50 : decode cX3_carryingWithLast 50 = .ok (.iadd, 1) := by decide +kernel
theorem dX3_carryingWithLast_51 : decode cX3_carryingWithLast 51 = .ok (.istore 5, 2) := by decide +kernel
theorem dX3_carryingWithLast_53 : decode cX3_carryingWithLast 53 = .ok (.aload_n 1, 1) := by decide +kernel
theorem dX3_carryingWithLast_54 : decode cX3_carryingWithLast 54 = .ok (.getfield 72, 3) := by decide +kernel
theorem dX3_carryingWithLast_57 : decode cX3_carryingWithLast 57 = .ok (.iload 5, 2) := by decide +kernel
theorem dX3_carryingWithLast_59 : decode cX3_carryingWithLast 59 = .ok (.iaload, 1) := by decide +kernel
theorem dX3_carryingWithLast_60 : decode cX3_carryingWithLast 60 = .ok (.istore 6, 2) := by decide +kernel
theorem dX3_carryingWithLast_62 : decode cX3_carryingWithLast 62 = .ok (.aload_n 1, 1) := by decide +kernel
theorem dX3_carryingWithLast_63 : decode cX3_carryingWithLast 63 = .ok (.getfield 75, 3) := by decide +kernel
theorem dX3_carryingWithLast_66 : decode cX3_carryingWithLast 66 = .ok (.iload 5, 2) := by decide +kernel
theorem dX3_carryingWithLast_68 : decode cX3_carryingWithLast 68 = .ok (.iaload, 1) := by decide +kernel
theorem dX3_carryingWithLast_69 : decode cX3_carryingWithLast 69 = .ok (.istore 7, 2) := by decide +kernel
theorem dX3_carryingWithLast_71 : decode cX3_carryingWithLast 71 = .ok (.aload_n 0, 1) := by decide +kernel
theorem dX3_carryingWithLast_72 : decode cX3_carryingWithLast 72 = .ok (.getfield 12, 3) := by decide +kernel
theorem dX3_carryingWithLast_75 : decode cX3_carryingWithLast 75 = .ok (.iload 6, 2) := by decide +kernel
theorem dX3_carryingWithLast_77 : decode cX3_carryingWithLast 77 = .ok (.iload 7, 2) := by decide +kernel
theorem dX3_carryingWithLast_79 : decode cX3_carryingWithLast 79 = .ok (.invokevirtual 78, 3) := by decide +kernel
theorem dX3_carryingWithLast_82 : decode cX3_carryingWithLast 82 = .ok (.ifCond .eq 21, 3) := by decide +kernel
theorem dX3_carryingWithLast_85 : decode cX3_carryingWithLast 85 = .ok (.aload_n 0, 1) := by decide +kernel
theorem dX3_carryingWithLast_86 : decode cX3_carryingWithLast 86 = .ok (.getfield 12, 3) := by decide +kernel
theorem dX3_carryingWithLast_89 : decode cX3_carryingWithLast 89 = .ok (.iload 6, 2) := by decide +kernel
theorem dX3_carryingWithLast_91 : decode cX3_carryingWithLast 91 = .ok (.iload 7, 2) := by decide +kernel
theorem dX3_carryingWithLast_93 : decode cX3_carryingWithLast 93 = .ok (.invokevirtual 82, 3) := by decide +kernel
theorem dX3_carryingWithLast_96 : decode cX3_carryingWithLast 96 = .ok (.iload_n 3, 1) := by decide +kernel
theorem dX3_carryingWithLast_97 : decode cX3_carryingWithLast 97 = .ok (.iconst 1, 1) := by decide +kernel
theorem dX3_carryingWithLast_98 : decode cX3_carryingWithLast 98 = .ok (.iload 4, 2) := by decide +kernel
theorem dX3_carryingWithLast_100 : decode cX3_carryingWithLast 100 = .ok (.ishl, 1) := by decide +kernel
theorem dX3_carryingWithLast_101 : decode cX3_carryingWithLast 101 = .ok (.ior, 1) := by decide +kernel
theorem dX3_carryingWithLast_102 : decode cX3_carryingWithLast 102 = .ok (.istore_n 3, 1) := by decide +kernel
theorem dX3_carryingWithLast_103 : decode cX3_carryingWithLast 103 = .ok (.iinc 4 1, 3) := by decide +kernel
theorem dX3_carryingWithLast_106 : decode cX3_carryingWithLast 106 = .ok (.goto (-94), 3) := by decide +kernel
theorem dX3_carryingWithLast_109 : decode cX3_carryingWithLast 109 = .ok (.iload_n 3, 1) := by decide +kernel
theorem dX3_carryingWithLast_110 : decode cX3_carryingWithLast 110 = .ok (.ireturn, 1) := by decide +kernel
theorem dX3_isOvertied_0 : decode cX3_isOvertied 0 = .ok (.aload_n 0, 1) := by decide +kernel
theorem dX3_isOvertied_1 : decode cX3_isOvertied 1 = .ok (.aload_n 1, 1) := by decide +kernel
theorem dX3_isOvertied_2 : decode cX3_isOvertied 2 = .ok (.iload_n 2, 1) := by decide +kernel
theorem dX3_isOvertied_3 : decode cX3_isOvertied 3 = .ok (.invokevirtual 56, 3) := by decide +kernel
theorem dX3_isOvertied_6 : decode cX3_isOvertied 6 = .ok (.aload_n 1, 1) := by decide +kernel
theorem dX3_isOvertied_7 : decode cX3_isOvertied 7 = .ok (.getfield 51, 3) := by decide +kernel
theorem dX3_isOvertied_10 : decode cX3_isOvertied 10 = .ok (.iconst 1, 1) := by decide +kernel
theorem dX3_isOvertied_11 : decode cX3_isOvertied 11 = .ok (.isub, 1) := by decide +kernel
theorem dX3_isOvertied_12 : decode cX3_isOvertied 12 = .ok (.ishr, 1) := by decide +kernel
theorem dX3_isOvertied_13 : decode cX3_isOvertied 13 = .ok (.iconst 1, 1) := by decide +kernel
theorem dX3_isOvertied_14 : decode cX3_isOvertied 14 = .ok (.iand, 1) := by decide +kernel
theorem dX3_isOvertied_15 : decode cX3_isOvertied 15 = .ok (.ifCond .ne 7, 3) := by decide +kernel
theorem dX3_isOvertied_18 : decode cX3_isOvertied 18 = .ok (.iconst 1, 1) := by decide +kernel
theorem dX3_isOvertied_19 : decode cX3_isOvertied 19 = .ok (.goto 4, 3) := by decide +kernel
theorem dX3_isOvertied_22 : decode cX3_isOvertied 22 = .ok (.iconst 0, 1) := by decide +kernel
theorem dX3_isOvertied_23 : decode cX3_isOvertied 23 = .ok (.ireturn, 1) := by decide +kernel
theorem dX3_countOvertied_0 : decode cX3_countOvertied 0 = .ok (.iconst 0, 1) := by decide +kernel
theorem dX3_countOvertied_1 : decode cX3_countOvertied 1 = .ok (.istore_n 2, 1) := by decide +kernel
theorem dX3_countOvertied_2 : decode cX3_countOvertied 2 = .ok (.iconst 0, 1) := by decide +kernel
theorem dX3_countOvertied_3 : decode cX3_countOvertied 3 = .ok (.istore_n 3, 1) := by decide +kernel
theorem dX3_countOvertied_4 : decode cX3_countOvertied 4 = .ok (.iload_n 3, 1) := by decide +kernel
theorem dX3_countOvertied_5 : decode cX3_countOvertied 5 = .ok (.aload_n 1, 1) := by decide +kernel
theorem dX3_countOvertied_6 : decode cX3_countOvertied 6 = .ok (.getfield 51, 3) := by decide +kernel
theorem dX3_countOvertied_9 : decode cX3_countOvertied 9 = .ok (.if_icmp .ge 21, 3) := by decide +kernel
theorem dX3_countOvertied_12 : decode cX3_countOvertied 12 = .ok (.aload_n 0, 1) := by decide +kernel
theorem dX3_countOvertied_13 : decode cX3_countOvertied 13 = .ok (.aload_n 1, 1) := by decide +kernel
theorem dX3_countOvertied_14 : decode cX3_countOvertied 14 = .ok (.iload_n 3, 1) := by decide +kernel
theorem dX3_countOvertied_15 : decode cX3_countOvertied 15 = .ok (.invokevirtual 86, 3) := by decide +kernel
theorem dX3_countOvertied_18 : decode cX3_countOvertied 18 = .ok (.ifCond .eq 6, 3) := by decide +kernel
theorem dX3_countOvertied_21 : decode cX3_countOvertied 21 = .ok (.iinc 2 1, 3) := by decide +kernel
theorem dX3_countOvertied_24 : decode cX3_countOvertied 24 = .ok (.iinc 3 1, 3) := by decide +kernel
theorem dX3_countOvertied_27 : decode cX3_countOvertied 27 = .ok (.goto (-23), 3) := by decide +kernel
theorem dX3_countOvertied_30 : decode cX3_countOvertied 30 = .ok (.iload_n 2, 1) := by decide +kernel
theorem dX3_countOvertied_31 : decode cX3_countOvertied 31 = .ok (.ireturn, 1) := by decide +kernel
theorem dX3_freedomsWithout_0 : decode cX3_freedomsWithout 0 = .ok (.aload_n 0, 1) := by decide +kernel
theorem dX3_freedomsWithout_1 : decode cX3_freedomsWithout 1 = .ok (.aload_n 1, 1) := by decide +kernel
theorem dX3_freedomsWithout_2 : decode cX3_freedomsWithout 2 = .ok (.iload_n 2, 1) := by decide +kernel
theorem dX3_freedomsWithout_3 : decode cX3_freedomsWithout 3 = .ok (.invokevirtual 56, 3) := by decide +kernel
theorem dX3_freedomsWithout_6 : decode cX3_freedomsWithout 6 = .ok (.iconst 1, 1) := by decide +kernel
theorem dX3_freedomsWithout_7 : decode cX3_freedomsWithout 7 = .ok (.aload_n 1, 1) := by decide +kernel
theorem dX3_freedomsWithout_8 : decode cX3_freedomsWithout 8 = .ok (.getfield 51, 3) := by decide +kernel
theorem dX3_freedomsWithout_11 : decode cX3_freedomsWithout 11 = .ok (.iconst 1, 1) := by decide +kernel
theorem dX3_freedomsWithout_12 : decode cX3_freedomsWithout 12 = .ok (.isub, 1) := by decide +kernel
theorem dX3_freedomsWithout_13 : decode cX3_freedomsWithout 13 = .ok (.ishl, 1) := by decide +kernel
theorem dX3_freedomsWithout_14 : decode cX3_freedomsWithout 14 = .ok (.iconst 1, 1) := by decide +kernel
theorem dX3_freedomsWithout_15 : decode cX3_freedomsWithout 15 = .ok (.isub, 1) := by decide +kernel
theorem dX3_freedomsWithout_16 : decode cX3_freedomsWithout 16 = .ok (.iand, 1) := by decide +kernel
theorem dX3_freedomsWithout_17 : decode cX3_freedomsWithout 17 = .ok (.istore_n 3, 1) := by decide +kernel
theorem dX3_freedomsWithout_18 : decode cX3_freedomsWithout 18 = .ok (.iconst 2, 1) := by decide +kernel
theorem dX3_freedomsWithout_19 : decode cX3_freedomsWithout 19 = .ok (.aload_n 1, 1) := by decide +kernel
theorem dX3_freedomsWithout_20 : decode cX3_freedomsWithout 20 = .ok (.getfield 66, 3) := by decide +kernel
theorem dX3_freedomsWithout_23 : decode cX3_freedomsWithout 23 = .ok (.imul, 1) := by decide +kernel
theorem dX3_freedomsWithout_24 : decode cX3_freedomsWithout 24 = .ok (.iload_n 3, 1) := by decide +kernel
theorem dX3_freedomsWithout_25 : decode cX3_freedomsWithout 25 = .ok (.invokestatic 60, 3) := by decide +kernel
theorem dX3_freedomsWithout_28 : decode cX3_freedomsWithout 28 = .ok (.isub, 1) := by decide +kernel
theorem dX3_freedomsWithout_29 : decode cX3_freedomsWithout 29 = .ok (.ireturn, 1) := by decide +kernel
theorem dX3_isTied_0 : decode cX3_isTied 0 = .ok (.aload_n 0, 1) := by decide +kernel
theorem dX3_isTied_1 : decode cX3_isTied 1 = .ok (.getfield 12, 3) := by decide +kernel
theorem dX3_isTied_4 : decode cX3_isTied 4 = .ok (.iload_n 1, 1) := by decide +kernel
theorem dX3_isTied_5 : decode cX3_isTied 5 = .ok (.iload_n 2, 1) := by decide +kernel
theorem dX3_isTied_6 : decode cX3_isTied 6 = .ok (.invokevirtual 78, 3) := by decide +kernel
theorem dX3_isTied_9 : decode cX3_isTied 9 = .ok (.ifCond .ne 7, 3) := by decide +kernel
theorem dX3_isTied_12 : decode cX3_isTied 12 = .ok (.iconst 1, 1) := by decide +kernel
theorem dX3_isTied_13 : decode cX3_isTied 13 = .ok (.goto 4, 3) := by decide +kernel
theorem dX3_isTied_16 : decode cX3_isTied 16 = .ok (.iconst 0, 1) := by decide +kernel
theorem dX3_isTied_17 : decode cX3_isTied 17 = .ok (.ireturn, 1) := by decide +kernel
theorem dX3_findParts_0 : decode cX3_findParts 0 = .ok (.aload_n 0, 1) := by decide +kernel
theorem dX3_findParts_1 : decode cX3_findParts 1 = .ok (.iload_n 1, 1) := by decide +kernel
theorem dX3_findParts_2 : decode cX3_findParts 2 = .ok (.invokevirtual 90, 3) := by decide +kernel
theorem dX3_findParts_5 : decode cX3_findParts 5 = .ok (.aload_n 0, 1) := by decide +kernel
theorem dX3_findParts_6 : decode cX3_findParts 6 = .ok (.iconst 0, 1) := by decide +kernel
theorem dX3_findParts_7 : decode cX3_findParts 7 = .ok (.putfield 28, 3) := by decide +kernel
theorem dX3_findParts_10 : decode cX3_findParts 10 = .ok (.iconst 0, 1) := by decide +kernel
theorem dX3_findParts_11 : decode cX3_findParts 11 = .ok (.istore_n 2, 1) := by decide +kernel
theorem dX3_findParts_12 : decode cX3_findParts 12 = .ok (.iload_n 2, 1) := by decide +kernel
theorem dX3_findParts_13 : decode cX3_findParts 13 = .ok (.iload_n 1, 1) := by decide +kernel
theorem dX3_findParts_14 : decode cX3_findParts 14 = .ok (.if_icmp .ge 124, 3) := by decide +kernel
theorem dX3_findParts_17 : decode cX3_findParts 17 = .ok (.iload_n 2, 1) := by decide +kernel
theorem dX3_findParts_18 : decode cX3_findParts 18 = .ok (.iconst 1, 1) := by decide +kernel
theorem dX3_findParts_19 : decode cX3_findParts 19 = .ok (.iadd, 1) := by decide +kernel
theorem dX3_findParts_20 : decode cX3_findParts 20 = .ok (.istore_n 3, 1) := by decide +kernel
theorem dX3_findParts_21 : decode cX3_findParts 21 = .ok (.iload_n 3, 1) := by decide +kernel
theorem dX3_findParts_22 : decode cX3_findParts 22 = .ok (.iload_n 1, 1) := by decide +kernel
theorem dX3_findParts_23 : decode cX3_findParts 23 = .ok (.if_icmp .ge 109, 3) := by decide +kernel
theorem dX3_findParts_26 : decode cX3_findParts 26 = .ok (.iconst 1, 1) := by decide +kernel
theorem dX3_findParts_27 : decode cX3_findParts 27 = .ok (.iload_n 2, 1) := by decide +kernel
theorem dX3_findParts_28 : decode cX3_findParts 28 = .ok (.ishl, 1) := by decide +kernel
theorem dX3_findParts_29 : decode cX3_findParts 29 = .ok (.iconst 1, 1) := by decide +kernel
theorem dX3_findParts_30 : decode cX3_findParts 30 = .ok (.iload_n 3, 1) := by decide +kernel
theorem dX3_findParts_31 : decode cX3_findParts 31 = .ok (.ishl, 1) := by decide +kernel
theorem dX3_findParts_32 : decode cX3_findParts 32 = .ok (.ior, 1) := by decide +kernel
theorem dX3_findParts_33 : decode cX3_findParts 33 = .ok (.istore 4, 2) := by decide +kernel
theorem dX3_findParts_35 : decode cX3_findParts 35 = .ok (.aload_n 0, 1) := by decide +kernel
theorem dX3_findParts_36 : decode cX3_findParts 36 = .ok (.getfield 22, 3) := by decide +kernel
theorem dX3_findParts_39 : decode cX3_findParts 39 = .ok (.iload_n 2, 1) := by decide +kernel
theorem dX3_findParts_40 : decode cX3_findParts 40 = .ok (.iaload, 1) := by decide +kernel
theorem dX3_findParts_41 : decode cX3_findParts 41 = .ok (.aload_n 0, 1) := by decide +kernel
theorem dX3_findParts_42 : decode cX3_findParts 42 = .ok (.getfield 22, 3) := by decide +kernel
theorem dX3_findParts_45 : decode cX3_findParts 45 = .ok (.iload_n 3, 1) := by decide +kernel
theorem dX3_findParts_46 : decode cX3_findParts 46 = .ok (.iaload, 1) := by decide +kernel
theorem dX3_findParts_47 : decode cX3_findParts 47 = .ok (.iand, 1) := by decide +kernel
theorem dX3_findParts_48 : decode cX3_findParts 48 = .ok (.iload 4, 2) := by decide +kernel
theorem dX3_findParts_50 : decode cX3_findParts 50 = .ok (.ior, 1) := by decide +kernel
theorem dX3_findParts_51 : decode cX3_findParts 51 = .ok (.istore 5, 2) := by decide +kernel
theorem dX3_findParts_53 : decode cX3_findParts 53 = .ok (.iload 5, 2) := by decide +kernel
theorem dX3_findParts_55 : decode cX3_findParts 55 = .ok (.iconst 1, 1) := by decide +kernel
theorem dX3_findParts_56 : decode cX3_findParts 56 = .ok (.iload_n 3, 1) := by decide +kernel
theorem dX3_findParts_57 : decode cX3_findParts 57 = .ok (.ishl, 1) := by decide +kernel
theorem dX3_findParts_58 : decode cX3_findParts 58 = .ok (.iconst 1, 1) := by decide +kernel
theorem dX3_findParts_59 : decode cX3_findParts 59 = .ok (.isub, 1) := by decide +kernel
theorem dX3_findParts_60 : decode cX3_findParts 60 = .ok (.iand, 1) := by decide +kernel
theorem dX3_findParts_61 : decode cX3_findParts 61 = .ok (.iconst 1, 1) := by decide +kernel
theorem dX3_findParts_62 : decode cX3_findParts 62 = .ok (.iload_n 2, 1) := by decide +kernel
theorem dX3_findParts_63 : decode cX3_findParts 63 = .ok (.ishl, 1) := by decide +kernel
theorem dX3_findParts_64 : decode cX3_findParts 64 = .ok (.if_icmp .ne 7, 3) := by decide +kernel
theorem dX3_findParts_67 : decode cX3_findParts 67 = .ok (.iconst 1, 1) := by decide +kernel
theorem dX3_findParts_68 : decode cX3_findParts 68 = .ok (.goto 4, 3) := by decide +kernel
theorem dX3_findParts_71 : decode cX3_findParts 71 = .ok (.iconst 0, 1) := by decide +kernel
theorem dX3_findParts_72 : decode cX3_findParts 72 = .ok (.istore 6, 2) := by decide +kernel
theorem dX3_findParts_74 : decode cX3_findParts 74 = .ok (.aload_n 0, 1) := by decide +kernel
theorem dX3_findParts_75 : decode cX3_findParts 75 = .ok (.getfield 22, 3) := by decide +kernel
theorem dX3_findParts_78 : decode cX3_findParts 78 = .ok (.iload_n 2, 1) := by decide +kernel
theorem dX3_findParts_79 : decode cX3_findParts 79 = .ok (.iaload, 1) := by decide +kernel
theorem dX3_findParts_80 : decode cX3_findParts 80 = .ok (.iload_n 3, 1) := by decide +kernel
theorem dX3_findParts_81 : decode cX3_findParts 81 = .ok (.ishr, 1) := by decide +kernel
theorem dX3_findParts_82 : decode cX3_findParts 82 = .ok (.iconst 1, 1) := by decide +kernel
theorem dX3_findParts_83 : decode cX3_findParts 83 = .ok (.iand, 1) := by decide +kernel
theorem dX3_findParts_84 : decode cX3_findParts 84 = .ok (.iconst 1, 1) := by decide +kernel
theorem dX3_findParts_85 : decode cX3_findParts 85 = .ok (.if_icmp .ne 41, 3) := by decide +kernel
theorem dX3_findParts_88 : decode cX3_findParts 88 = .ok (.iload 6, 2) := by decide +kernel
theorem dX3_findParts_90 : decode cX3_findParts 90 = .ok (.ifCond .eq 36, 3) := by decide +kernel
theorem dX3_findParts_93 : decode cX3_findParts 93 = .ok (.aload_n 0, 1) := by decide +kernel
theorem dX3_findParts_94 : decode cX3_findParts 94 = .ok (.getfield 28, 3) := by decide +kernel
theorem dX3_findParts_97 : decode cX3_findParts 97 = .ok (.aload_n 0, 1) := by decide +kernel
theorem dX3_findParts_98 : decode cX3_findParts 98 = .ok (.getfield 25, 3) := by decide +kernel
theorem dX3_findParts_101 : decode cX3_findParts 101 = .ok (.arraylength, 1) := by decide +kernel
theorem dX3_findParts_102 : decode cX3_findParts 102 = .ok (.if_icmp .ge 24, 3) := by decide +kernel
theorem dX3_findParts_105 : decode cX3_findParts 105 = .ok (.aload_n 0, 1) := by decide +kernel
theorem dX3_findParts_106 : decode cX3_findParts 106 = .ok (.getfield 25, 3) := by decide +kernel
theorem dX3_findParts_109 : decode cX3_findParts 109 = .ok (.aload_n 0, 1) := by decide +kernel
theorem dX3_findParts_110 : decode cX3_findParts 110 = .ok (.getfield 28, 3) := by decide +kernel
theorem dX3_findParts_113 : decode cX3_findParts 113 = .ok (.iload 5, 2) := by decide +kernel
theorem dX3_findParts_115 : decode cX3_findParts 115 = .ok (.iastore, 1) := by decide +kernel
theorem dX3_findParts_116 : decode cX3_findParts 116 = .ok (.aload_n 0, 1) := by decide +kernel
theorem dX3_findParts_117 : decode cX3_findParts 117 = .ok (.dup, 1) := by decide +kernel
theorem dX3_findParts_118 : decode cX3_findParts 118 = .ok (.getfield 28, 3) := by decide +kernel
theorem dX3_findParts_121 : decode cX3_findParts 121 = .ok (.iconst 1, 1) := by decide +kernel
theorem dX3_findParts_122 : decode cX3_findParts 122 = .ok (.iadd, 1) := by decide +kernel
theorem dX3_findParts_123 : decode cX3_findParts 123 = .ok (.putfield 28, 3) := by decide +kernel
theorem dX3_findParts_126 : decode cX3_findParts 126 = .ok (.iinc 3 1, 3) := by decide +kernel
theorem dX3_findParts_129 : decode cX3_findParts 129 = .ok (.goto (-108), 3) := by decide +kernel
theorem dX3_findParts_132 : decode cX3_findParts 132 = .ok (.iinc 2 1, 3) := by decide +kernel
theorem dX3_findParts_135 : decode cX3_findParts 135 = .ok (.goto (-123), 3) := by decide +kernel
theorem dX3_findParts_138 : decode cX3_findParts 138 = .ok (.return_, 1) := by decide +kernel
theorem dX3_findTies_0 : decode cX3_findTies 0 = .ok (.iconst 0, 1) := by decide +kernel
theorem dX3_findTies_1 : decode cX3_findTies 1 = .ok (.istore_n 2, 1) := by decide +kernel
theorem dX3_findTies_2 : decode cX3_findTies 2 = .ok (.iload_n 2, 1) := by decide +kernel
theorem dX3_findTies_3 : decode cX3_findTies 3 = .ok (.iload_n 1, 1) := by decide +kernel
theorem dX3_findTies_4 : decode cX3_findTies 4 = .ok (.if_icmp .ge 16, 3) := by decide +kernel
theorem dX3_findTies_7 : decode cX3_findTies 7 = .ok (.aload_n 0, 1) := by decide +kernel
theorem dX3_findTies_8 : decode cX3_findTies 8 = .ok (.getfield 22, 3) := by decide +kernel
theorem dX3_findTies_11 : decode cX3_findTies 11 = .ok (.iload_n 2, 1) := by decide +kernel
theorem dX3_findTies_12 : decode cX3_findTies 12 = .ok (.iconst 0, 1) := by decide +kernel
theorem dX3_findTies_13 : decode cX3_findTies 13 = .ok (.iastore, 1) := by decide +kernel
theorem dX3_findTies_14 : decode cX3_findTies 14 = .ok (.iinc 2 1, 3) := by decide +kernel
theorem dX3_findTies_17 : decode cX3_findTies 17 = .ok (.goto (-15), 3) := by decide +kernel
theorem dX3_findTies_20 : decode cX3_findTies 20 = .ok (.iconst 0, 1) := by decide +kernel
theorem dX3_findTies_21 : decode cX3_findTies 21 = .ok (.istore_n 2, 1) := by decide +kernel
theorem dX3_findTies_22 : decode cX3_findTies 22 = .ok (.iload_n 2, 1) := by decide +kernel
theorem dX3_findTies_23 : decode cX3_findTies 23 = .ok (.iload_n 1, 1) := by decide +kernel
theorem dX3_findTies_24 : decode cX3_findTies 24 = .ok (.if_icmp .ge 60, 3) := by decide +kernel
theorem dX3_findTies_27 : decode cX3_findTies 27 = .ok (.iload_n 2, 1) := by decide +kernel
theorem dX3_findTies_28 : decode cX3_findTies 28 = .ok (.iconst 1, 1) := by decide +kernel
theorem dX3_findTies_29 : decode cX3_findTies 29 = .ok (.iadd, 1) := by decide +kernel
theorem dX3_findTies_30 : decode cX3_findTies 30 = .ok (.istore_n 3, 1) := by decide +kernel
theorem dX3_findTies_31 : decode cX3_findTies 31 = .ok (.iload_n 3, 1) := by decide +kernel
theorem dX3_findTies_32 : decode cX3_findTies 32 = .ok (.iload_n 1, 1) := by decide +kernel
theorem dX3_findTies_33 : decode cX3_findTies 33 = .ok (.if_icmp .ge 45, 3) := by decide +kernel
theorem dX3_findTies_36 : decode cX3_findTies 36 = .ok (.aload_n 0, 1) := by decide +kernel
theorem dX3_findTies_37 : decode cX3_findTies 37 = .ok (.getfield 12, 3) := by decide +kernel
theorem dX3_findTies_40 : decode cX3_findTies 40 = .ok (.iload_n 2, 1) := by decide +kernel
theorem dX3_findTies_41 : decode cX3_findTies 41 = .ok (.iload_n 3, 1) := by decide +kernel
theorem dX3_findTies_42 : decode cX3_findTies 42 = .ok (.invokevirtual 78, 3) := by decide +kernel
theorem dX3_findTies_45 : decode cX3_findTies 45 = .ok (.ifCond .ne 27, 3) := by decide +kernel
theorem dX3_findTies_48 : decode cX3_findTies 48 = .ok (.aload_n 0, 1) := by decide +kernel
theorem dX3_findTies_49 : decode cX3_findTies 49 = .ok (.getfield 22, 3) := by decide +kernel
theorem dX3_findTies_52 : decode cX3_findTies 52 = .ok (.iload_n 2, 1) := by decide +kernel
theorem dX3_findTies_53 : decode cX3_findTies 53 = .ok (.dup2, 1) := by decide +kernel
theorem dX3_findTies_54 : decode cX3_findTies 54 = .ok (.iaload, 1) := by decide +kernel
theorem dX3_findTies_55 : decode cX3_findTies 55 = .ok (.iconst 1, 1) := by decide +kernel
theorem dX3_findTies_56 : decode cX3_findTies 56 = .ok (.iload_n 3, 1) := by decide +kernel
theorem dX3_findTies_57 : decode cX3_findTies 57 = .ok (.ishl, 1) := by decide +kernel
theorem dX3_findTies_58 : decode cX3_findTies 58 = .ok (.ior, 1) := by decide +kernel
theorem dX3_findTies_59 : decode cX3_findTies 59 = .ok (.iastore, 1) := by decide +kernel
theorem dX3_findTies_60 : decode cX3_findTies 60 = .ok (.aload_n 0, 1) := by decide +kernel
theorem dX3_findTies_61 : decode cX3_findTies 61 = .ok (.getfield 22, 3) := by decide +kernel
theorem dX3_findTies_64 : decode cX3_findTies 64 = .ok (.iload_n 3, 1) := by decide +kernel
theorem dX3_findTies_65 : decode cX3_findTies 65 = .ok (.dup2, 1) := by decide +kernel
theorem dX3_findTies_66 : decode cX3_findTies 66 = .ok (.iaload, 1) := by decide +kernel
theorem dX3_findTies_67 : decode cX3_findTies 67 = .ok (.iconst 1, 1) := by decide +kernel
theorem dX3_findTies_68 : decode cX3_findTies 68 = .ok (.iload_n 2, 1) := by decide +kernel
theorem dX3_findTies_69 : decode cX3_findTies 69 = .ok (.ishl, 1) := by decide +kernel
theorem dX3_findTies_70 : decode cX3_findTies 70 = .ok (.ior, 1) := by decide +kernel
theorem dX3_findTies_71 : decode cX3_findTies 71 = .ok (.iastore, 1) := by decide +kernel
theorem dX3_findTies_72 : decode cX3_findTies 72 = .ok (.iinc 3 1, 3) := by decide +kernel
theorem dX3_findTies_75 : decode cX3_findTies 75 = .ok (.goto (-44), 3) := by decide +kernel
theorem dX3_findTies_78 : decode cX3_findTies 78 = .ok (.iinc 2 1, 3) := by decide +kernel
theorem dX3_findTies_81 : decode cX3_findTies 81 = .ok (.goto (-59), 3) := by decide +kernel
theorem dX3_findTies_84 : decode cX3_findTies 84 = .ok (.return_, 1) := by decide +kernel
theorem dX3_countPartsOf_0 : decode cX3_countPartsOf 0 = .ok (.iconst 0, 1) := by decide +kernel
theorem dX3_countPartsOf_1 : decode cX3_countPartsOf 1 = .ok (.istore_n 2, 1) := by decide +kernel
theorem dX3_countPartsOf_2 : decode cX3_countPartsOf 2 = .ok (.iconst 0, 1) := by decide +kernel
theorem dX3_countPartsOf_3 : decode cX3_countPartsOf 3 = .ok (.istore_n 3, 1) := by decide +kernel
theorem dX3_countPartsOf_4 : decode cX3_countPartsOf 4 = .ok (.iload_n 3, 1) := by decide +kernel
theorem dX3_countPartsOf_5 : decode cX3_countPartsOf 5 = .ok (.aload_n 0, 1) := by decide +kernel
theorem dX3_countPartsOf_6 : decode cX3_countPartsOf 6 = .ok (.getfield 28, 3) := by decide +kernel
theorem dX3_countPartsOf_9 : decode cX3_countPartsOf 9 = .ok (.if_icmp .ge 22, 3) := by decide +kernel
theorem dX3_countPartsOf_12 : decode cX3_countPartsOf 12 = .ok (.iload_n 2, 1) := by decide +kernel
theorem dX3_countPartsOf_13 : decode cX3_countPartsOf 13 = .ok (.aload_n 0, 1) := by decide +kernel
theorem dX3_countPartsOf_14 : decode cX3_countPartsOf 14 = .ok (.getfield 25, 3) := by decide +kernel
theorem dX3_countPartsOf_17 : decode cX3_countPartsOf 17 = .ok (.iload_n 3, 1) := by decide +kernel
theorem dX3_countPartsOf_18 : decode cX3_countPartsOf 18 = .ok (.iaload, 1) := by decide +kernel
theorem dX3_countPartsOf_19 : decode cX3_countPartsOf 19 = .ok (.iload_n 1, 1) := by decide +kernel
theorem dX3_countPartsOf_20 : decode cX3_countPartsOf 20 = .ok (.ishr, 1) := by decide +kernel
theorem dX3_countPartsOf_21 : decode cX3_countPartsOf 21 = .ok (.iconst 1, 1) := by decide +kernel
theorem dX3_countPartsOf_22 : decode cX3_countPartsOf 22 = .ok (.iand, 1) := by decide +kernel
theorem dX3_countPartsOf_23 : decode cX3_countPartsOf 23 = .ok (.iadd, 1) := by decide +kernel
theorem dX3_countPartsOf_24 : decode cX3_countPartsOf 24 = .ok (.istore_n 2, 1) := by decide +kernel
theorem dX3_countPartsOf_25 : decode cX3_countPartsOf 25 = .ok (.iinc 3 1, 3) := by decide +kernel
theorem dX3_countPartsOf_28 : decode cX3_countPartsOf 28 = .ok (.goto (-24), 3) := by decide +kernel
theorem dX3_countPartsOf_31 : decode cX3_countPartsOf 31 = .ok (.iload_n 2, 1) := by decide +kernel
theorem dX3_countPartsOf_32 : decode cX3_countPartsOf 32 = .ok (.ireturn, 1) := by decide +kernel
theorem dX3_ringOf_0 : decode cX3_ringOf 0 = .ok (.iconst 1, 1) := by decide +kernel
theorem dX3_ringOf_1 : decode cX3_ringOf 1 = .ok (.iload_n 2, 1) := by decide +kernel
theorem dX3_ringOf_2 : decode cX3_ringOf 2 = .ok (.ishl, 1) := by decide +kernel
theorem dX3_ringOf_3 : decode cX3_ringOf 3 = .ok (.istore_n 3, 1) := by decide +kernel
theorem dX3_ringOf_4 : decode cX3_ringOf 4 = .ok (.iconst 0, 1) := by decide +kernel
theorem dX3_ringOf_5 : decode cX3_ringOf 5 = .ok (.istore 4, 2) := by decide +kernel
theorem dX3_ringOf_7 : decode cX3_ringOf 7 = .ok (.iload 4, 2) := by decide +kernel
theorem dX3_ringOf_9 : decode cX3_ringOf 9 = .ok (.iload_n 2, 1) := by decide +kernel
theorem dX3_ringOf_10 : decode cX3_ringOf 10 = .ok (.if_icmp .ge 61, 3) := by decide +kernel
theorem dX3_ringOf_13 : decode cX3_ringOf 13 = .ok (.aload_n 0, 1) := by decide +kernel
theorem dX3_ringOf_14 : decode cX3_ringOf 14 = .ok (.getfield 32, 3) := by decide +kernel
theorem dX3_ringOf_17 : decode cX3_ringOf 17 = .ok (.iload 4, 2) := by decide +kernel
theorem dX3_ringOf_19 : decode cX3_ringOf 19 = .ok (.ishr, 1) := by decide +kernel
theorem dX3_ringOf_20 : decode cX3_ringOf 20 = .ok (.iconst 1, 1) := by decide +kernel
theorem dX3_ringOf_21 : decode cX3_ringOf 21 = .ok (.iand, 1) := by decide +kernel
theorem dX3_ringOf_22 : decode cX3_ringOf 22 = .ok (.iconst 1, 1) := by decide +kernel
theorem dX3_ringOf_23 : decode cX3_ringOf 23 = .ok (.if_icmp .ne 7, 3) := by decide +kernel
theorem dX3_ringOf_26 : decode cX3_ringOf 26 = .ok (.iconst 1, 1) := by decide +kernel
theorem dX3_ringOf_27 : decode cX3_ringOf 27 = .ok (.goto 4, 3) := by decide +kernel
theorem dX3_ringOf_30 : decode cX3_ringOf 30 = .ok (.iconst 0, 1) := by decide +kernel
theorem dX3_ringOf_31 : decode cX3_ringOf 31 = .ok (.istore 5, 2) := by decide +kernel
theorem dX3_ringOf_33 : decode cX3_ringOf 33 = .ok (.iload 5, 2) := by decide +kernel
theorem dX3_ringOf_35 : decode cX3_ringOf 35 = .ok (.ifCond .eq 30, 3) := by decide +kernel
theorem dX3_ringOf_38 : decode cX3_ringOf 38 = .ok (.aload_n 0, 1) := by decide +kernel
theorem dX3_ringOf_39 : decode cX3_ringOf 39 = .ok (.aload_n 1, 1) := by decide +kernel
theorem dX3_ringOf_40 : decode cX3_ringOf 40 = .ok (.iload_n 2, 1) := by decide +kernel
theorem dX3_ringOf_41 : decode cX3_ringOf 41 = .ok (.aload_n 0, 1) := by decide +kernel
theorem dX3_ringOf_42 : decode cX3_ringOf 42 = .ok (.getfield 32, 3) := by decide +kernel
theorem dX3_ringOf_45 : decode cX3_ringOf 45 = .ok (.iconst 1, 1) := by decide +kernel
theorem dX3_ringOf_46 : decode cX3_ringOf 46 = .ok (.iload 4, 2) := by decide +kernel
theorem dX3_ringOf_48 : decode cX3_ringOf 48 = .ok (.ishl, 1) := by decide +kernel
theorem dX3_ringOf_49 : decode cX3_ringOf 49 = .ok (.iconst (-1), 1) := by decide +kernel
theorem dX3_ringOf_50 : decode cX3_ringOf 50 = .ok (.ixor, 1) := by decide +kernel
theorem dX3_ringOf_51 : decode cX3_ringOf 51 = .ok (.iand, 1) := by decide +kernel
theorem dX3_ringOf_52 : decode cX3_ringOf 52 = .ok (.invokevirtual 94, 3) := by decide +kernel
theorem dX3_ringOf_55 : decode cX3_ringOf 55 = .ok (.ifCond .eq 10, 3) := by decide +kernel
theorem dX3_ringOf_58 : decode cX3_ringOf 58 = .ok (.iload_n 3, 1) := by decide +kernel
theorem dX3_ringOf_59 : decode cX3_ringOf 59 = .ok (.iconst 1, 1) := by decide +kernel
theorem dX3_ringOf_60 : decode cX3_ringOf 60 = .ok (.iload 4, 2) := by decide +kernel
theorem dX3_ringOf_62 : decode cX3_ringOf 62 = .ok (.ishl, 1) := by decide +kernel
theorem dX3_ringOf_63 : decode cX3_ringOf 63 = .ok (.ior, 1) := by decide +kernel
theorem dX3_ringOf_64 : decode cX3_ringOf 64 = .ok (.istore_n 3, 1) := by decide +kernel
theorem dX3_ringOf_65 : decode cX3_ringOf 65 = .ok (.iinc 4 1, 3) := by decide +kernel
theorem dX3_ringOf_68 : decode cX3_ringOf 68 = .ok (.goto (-61), 3) := by decide +kernel
theorem dX3_ringOf_71 : decode cX3_ringOf 71 = .ok (.iload_n 3, 1) := by decide +kernel
theorem dX3_ringOf_72 : decode cX3_ringOf 72 = .ok (.ireturn, 1) := by decide +kernel
theorem dX3_wouldCarryBehind_0 : decode cX3_wouldCarryBehind 0 = .ok (.aload_n 0, 1) := by decide +kernel
theorem dX3_wouldCarryBehind_1 : decode cX3_wouldCarryBehind 1 = .ok (.getfield 12, 3) := by decide +kernel
theorem dX3_wouldCarryBehind_4 : decode cX3_wouldCarryBehind 4 = .ok (.invokevirtual 69, 3) := by decide +kernel
theorem dX3_wouldCarryBehind_7 : decode cX3_wouldCarryBehind 7 = .ok (.iconst 0, 1) := by decide +kernel
theorem dX3_wouldCarryBehind_8 : decode cX3_wouldCarryBehind 8 = .ok (.istore 4, 2) := by decide +kernel
theorem dX3_wouldCarryBehind_10 : decode cX3_wouldCarryBehind 10 = .ok (.iload 4, 2) := by decide +kernel
theorem dX3_wouldCarryBehind_12 : decode cX3_wouldCarryBehind 12 = .ok (.iload_n 2, 1) := by decide +kernel
theorem dX3_wouldCarryBehind_13 : decode cX3_wouldCarryBehind 13 = .ok (.if_icmp .ge 76, 3) := by decide +kernel
theorem dX3_wouldCarryBehind_16 : decode cX3_wouldCarryBehind 16 = .ok (.iload_n 3, 1) := by decide +kernel
theorem dX3_wouldCarryBehind_17 : decode cX3_wouldCarryBehind 17 = .ok (.iload 4, 2) := by decide +kernel
theorem dX3_wouldCarryBehind_19 : decode cX3_wouldCarryBehind 19 = .ok (.ishr, 1) := by decide +kernel
theorem dX3_wouldCarryBehind_20 : decode cX3_wouldCarryBehind 20 = .ok (.iconst 1, 1) := by decide +kernel
theorem dX3_wouldCarryBehind_21 : decode cX3_wouldCarryBehind 21 = .ok (.iand, 1) := by decide +kernel
theorem dX3_wouldCarryBehind_22 : decode cX3_wouldCarryBehind 22 = .ok (.iconst 1, 1) := by decide +kernel
theorem dX3_wouldCarryBehind_23 : decode cX3_wouldCarryBehind 23 = .ok (.if_icmp .ne 7, 3) := by decide +kernel
theorem dX3_wouldCarryBehind_26 : decode cX3_wouldCarryBehind 26 = .ok (.iconst 1, 1) := by decide +kernel
theorem dX3_wouldCarryBehind_27 : decode cX3_wouldCarryBehind 27 = .ok (.goto 4, 3) := by decide +kernel
theorem dX3_wouldCarryBehind_30 : decode cX3_wouldCarryBehind 30 = .ok (.iconst 0, 1) := by decide +kernel
theorem dX3_wouldCarryBehind_31 : decode cX3_wouldCarryBehind 31 = .ok (.istore 5, 2) := by decide +kernel
theorem dX3_wouldCarryBehind_33 : decode cX3_wouldCarryBehind 33 = .ok (.iload 5, 2) := by decide +kernel
theorem dX3_wouldCarryBehind_35 : decode cX3_wouldCarryBehind 35 = .ok (.ifCond .eq 48, 3) := by decide +kernel
theorem dX3_wouldCarryBehind_38 : decode cX3_wouldCarryBehind 38 = .ok (.aload_n 0, 1) := by decide +kernel
theorem dX3_wouldCarryBehind_39 : decode cX3_wouldCarryBehind 39 = .ok (.getfield 12, 3) := by decide +kernel
theorem dX3_wouldCarryBehind_42 : decode cX3_wouldCarryBehind 42 = .ok (.aload_n 1, 1) := by decide +kernel
theorem dX3_wouldCarryBehind_43 : decode cX3_wouldCarryBehind 43 = .ok (.getfield 72, 3) := by decide +kernel
theorem dX3_wouldCarryBehind_46 : decode cX3_wouldCarryBehind 46 = .ok (.iload 4, 2) := by decide +kernel
theorem dX3_wouldCarryBehind_48 : decode cX3_wouldCarryBehind 48 = .ok (.iaload, 1) := by decide +kernel
theorem dX3_wouldCarryBehind_49 : decode cX3_wouldCarryBehind 49 = .ok (.aload_n 1, 1) := by decide +kernel
theorem dX3_wouldCarryBehind_50 : decode cX3_wouldCarryBehind 50 = .ok (.getfield 75, 3) := by decide +kernel
theorem dX3_wouldCarryBehind_53 : decode cX3_wouldCarryBehind 53 = .ok (.iload 4, 2) := by decide +kernel
theorem dX3_wouldCarryBehind_55 : decode cX3_wouldCarryBehind 55 = .ok (.iaload, 1) := by decide +kernel
theorem dX3_wouldCarryBehind_56 : decode cX3_wouldCarryBehind 56 = .ok (.invokevirtual 78, 3) := by decide +kernel
theorem dX3_wouldCarryBehind_59 : decode cX3_wouldCarryBehind 59 = .ok (.ifCond .eq 24, 3) := by decide +kernel
theorem dX3_wouldCarryBehind_62 : decode cX3_wouldCarryBehind 62 = .ok (.aload_n 0, 1) := by decide +kernel
theorem dX3_wouldCarryBehind_63 : decode cX3_wouldCarryBehind 63 = .ok (.getfield 12, 3) := by decide +kernel
theorem dX3_wouldCarryBehind_66 : decode cX3_wouldCarryBehind 66 = .ok (.aload_n 1, 1) := by decide +kernel
theorem dX3_wouldCarryBehind_67 : decode cX3_wouldCarryBehind 67 = .ok (.getfield 72, 3) := by decide +kernel
theorem dX3_wouldCarryBehind_70 : decode cX3_wouldCarryBehind 70 = .ok (.iload 4, 2) := by decide +kernel
theorem dX3_wouldCarryBehind_72 : decode cX3_wouldCarryBehind 72 = .ok (.iaload, 1) := by decide +kernel
theorem dX3_wouldCarryBehind_73 : decode cX3_wouldCarryBehind 73 = .ok (.aload_n 1, 1) := by decide +kernel
theorem dX3_wouldCarryBehind_74 : decode cX3_wouldCarryBehind 74 = .ok (.getfield 75, 3) := by decide +kernel
theorem dX3_wouldCarryBehind_77 : decode cX3_wouldCarryBehind 77 = .ok (.iload 4, 2) := by decide +kernel
theorem dX3_wouldCarryBehind_79 : decode cX3_wouldCarryBehind 79 = .ok (.iaload, 1) := by decide +kernel
theorem dX3_wouldCarryBehind_80 : decode cX3_wouldCarryBehind 80 = .ok (.invokevirtual 82, 3) := by decide +kernel
theorem dX3_wouldCarryBehind_83 : decode cX3_wouldCarryBehind 83 = .ok (.iinc 4 1, 3) := by decide +kernel
theorem dX3_wouldCarryBehind_86 : decode cX3_wouldCarryBehind 86 = .ok (.goto (-76), 3) := by decide +kernel
theorem dX3_wouldCarryBehind_89 : decode cX3_wouldCarryBehind 89 = .ok (.aload_n 0, 1) := by decide +kernel
theorem dX3_wouldCarryBehind_90 : decode cX3_wouldCarryBehind 90 = .ok (.getfield 12, 3) := by decide +kernel
theorem dX3_wouldCarryBehind_93 : decode cX3_wouldCarryBehind 93 = .ok (.aload_n 1, 1) := by decide +kernel
theorem dX3_wouldCarryBehind_94 : decode cX3_wouldCarryBehind 94 = .ok (.getfield 72, 3) := by decide +kernel
theorem dX3_wouldCarryBehind_97 : decode cX3_wouldCarryBehind 97 = .ok (.iload_n 2, 1) := by decide +kernel
theorem dX3_wouldCarryBehind_98 : decode cX3_wouldCarryBehind 98 = .ok (.iaload, 1) := by decide +kernel
theorem dX3_wouldCarryBehind_99 : decode cX3_wouldCarryBehind 99 = .ok (.aload_n 1, 1) := by decide +kernel
theorem dX3_wouldCarryBehind_100 : decode cX3_wouldCarryBehind 100 = .ok (.getfield 75, 3) := by decide +kernel
theorem dX3_wouldCarryBehind_103 : decode cX3_wouldCarryBehind 103 = .ok (.iload_n 2, 1) := by decide +kernel
theorem dX3_wouldCarryBehind_104 : decode cX3_wouldCarryBehind 104 = .ok (.iaload, 1) := by decide +kernel
theorem dX3_wouldCarryBehind_105 : decode cX3_wouldCarryBehind 105 = .ok (.invokevirtual 78, 3) := by decide +kernel
theorem dX3_wouldCarryBehind_108 : decode cX3_wouldCarryBehind 108 = .ok (.ireturn, 1) := by decide +kernel
theorem dX3_seekWorst_0 : decode cX3_seekWorst 0 = .ok (.iconst 0, 1) := by decide +kernel
theorem dX3_seekWorst_1 : decode cX3_seekWorst 1 = .ok (.istore_n 2, 1) := by decide +kernel
theorem dX3_seekWorst_2 : decode cX3_seekWorst 2 = .ok (.iload_n 2, 1) := by decide +kernel
theorem dX3_seekWorst_3 : decode cX3_seekWorst 3 = .ok (.aload_n 1, 1) := by decide +kernel
theorem dX3_seekWorst_4 : decode cX3_seekWorst 4 = .ok (.getfield 66, 3) := by decide +kernel
theorem dX3_seekWorst_7 : decode cX3_seekWorst 7 = .ok (.if_icmp .ge 20, 3) := by decide +kernel
theorem dX3_seekWorst_10 : decode cX3_seekWorst 10 = .ok (.aload_n 0, 1) := by decide +kernel
theorem dX3_seekWorst_11 : decode cX3_seekWorst 11 = .ok (.getfield 18, 3) := by decide +kernel
theorem dX3_seekWorst_14 : decode cX3_seekWorst 14 = .ok (.iload_n 2, 1) := by decide +kernel
theorem dX3_seekWorst_15 : decode cX3_seekWorst 15 = .ok (.aload_n 1, 1) := by decide +kernel
theorem dX3_seekWorst_16 : decode cX3_seekWorst 16 = .ok (.iload_n 2, 1) := by decide +kernel
theorem dX3_seekWorst_17 : decode cX3_seekWorst 17 = .ok (.invokevirtual 98, 3) := by decide +kernel
theorem dX3_seekWorst_20 : decode cX3_seekWorst 20 = .ok (.iastore, 1) := by decide +kernel
theorem dX3_seekWorst_21 : decode cX3_seekWorst 21 = .ok (.iinc 2 1, 3) := by decide +kernel
theorem dX3_seekWorst_24 : decode cX3_seekWorst 24 = .ok (.goto (-22), 3) := by decide +kernel
theorem dX3_seekWorst_27 : decode cX3_seekWorst 27 = .ok (.aload_n 0, 1) := by decide +kernel
theorem dX3_seekWorst_28 : decode cX3_seekWorst 28 = .ok (.iconst 0, 1) := by decide +kernel
theorem dX3_seekWorst_29 : decode cX3_seekWorst 29 = .ok (.putfield 48, 3) := by decide +kernel
theorem dX3_seekWorst_32 : decode cX3_seekWorst 32 = .ok (.iconst 0, 1) := by decide +kernel
theorem dX3_seekWorst_33 : decode cX3_seekWorst 33 = .ok (.istore_n 2, 1) := by decide +kernel
theorem dX3_seekWorst_34 : decode cX3_seekWorst 34 = .ok (.iconst 0, 1) := by decide +kernel
theorem dX3_seekWorst_35 : decode cX3_seekWorst 35 = .ok (.istore_n 3, 1) := by decide +kernel
theorem dX3_seekWorst_36 : decode cX3_seekWorst 36 = .ok (.iconst 1, 1) := by decide +kernel
theorem dX3_seekWorst_37 : decode cX3_seekWorst 37 = .ok (.istore 4, 2) := by decide +kernel
theorem dX3_seekWorst_39 : decode cX3_seekWorst 39 = .ok (.iload 4, 2) := by decide +kernel
theorem dX3_seekWorst_41 : decode cX3_seekWorst 41 = .ok (.iconst 1, 1) := by decide +kernel
theorem dX3_seekWorst_42 : decode cX3_seekWorst 42 = .ok (.aload_n 1, 1) := by decide +kernel
theorem dX3_seekWorst_43 : decode cX3_seekWorst 43 = .ok (.getfield 66, 3) := by decide +kernel
theorem dX3_seekWorst_46 : decode cX3_seekWorst 46 = .ok (.ishl, 1) := by decide +kernel
theorem dX3_seekWorst_47 : decode cX3_seekWorst 47 = .ok (.if_icmp .ge 81, 3) := by decide +kernel
theorem dX3_seekWorst_50 : decode cX3_seekWorst 50 = .ok (.iload 4, 2) := by decide +kernel
theorem dX3_seekWorst_52 : decode cX3_seekWorst 52 = .ok (.invokestatic 101, 3) := by decide +kernel
theorem dX3_seekWorst_55 : decode cX3_seekWorst 55 = .ok (.istore 5, 2) := by decide +kernel
theorem dX3_seekWorst_57 : decode cX3_seekWorst 57 = .ok (.aload_n 0, 1) := by decide +kernel
theorem dX3_seekWorst_58 : decode cX3_seekWorst 58 = .ok (.getfield 18, 3) := by decide +kernel
theorem dX3_seekWorst_61 : decode cX3_seekWorst 61 = .ok (.iload 5, 2) := by decide +kernel
theorem dX3_seekWorst_63 : decode cX3_seekWorst 63 = .ok (.iaload, 1) := by decide +kernel
theorem dX3_seekWorst_64 : decode cX3_seekWorst 64 = .ok (.iload_n 2, 1) := by decide +kernel
theorem dX3_seekWorst_65 : decode cX3_seekWorst 65 = .ok (.iand, 1) := by decide +kernel
theorem dX3_seekWorst_66 : decode cX3_seekWorst 66 = .ok (.invokestatic 60, 3) := by decide +kernel
theorem dX3_seekWorst_69 : decode cX3_seekWorst 69 = .ok (.istore 6, 2) := by decide +kernel
theorem dX3_seekWorst_71 : decode cX3_seekWorst 71 = .ok (.iload_n 2, 1) := by decide +kernel
theorem dX3_seekWorst_72 : decode cX3_seekWorst 72 = .ok (.iconst 1, 1) := by decide +kernel
theorem dX3_seekWorst_73 : decode cX3_seekWorst 73 = .ok (.iload 5, 2) := by decide +kernel
theorem dX3_seekWorst_75 : decode cX3_seekWorst 75 = .ok (.ishl, 1) := by decide +kernel
theorem dX3_seekWorst_76 : decode cX3_seekWorst 76 = .ok (.ixor, 1) := by decide +kernel
theorem dX3_seekWorst_77 : decode cX3_seekWorst 77 = .ok (.istore_n 2, 1) := by decide +kernel
theorem dX3_seekWorst_78 : decode cX3_seekWorst 78 = .ok (.iload_n 3, 1) := by decide +kernel
theorem dX3_seekWorst_79 : decode cX3_seekWorst 79 = .ok (.iload_n 2, 1) := by decide +kernel
theorem dX3_seekWorst_80 : decode cX3_seekWorst 80 = .ok (.iload 5, 2) := by decide +kernel
theorem dX3_seekWorst_82 : decode cX3_seekWorst 82 = .ok (.ishr, 1) := by decide +kernel
theorem dX3_seekWorst_83 : decode cX3_seekWorst 83 = .ok (.iconst 1, 1) := by decide +kernel
theorem dX3_seekWorst_84 : decode cX3_seekWorst 84 = .ok (.iand, 1) := by decide +kernel
theorem dX3_seekWorst_85 : decode cX3_seekWorst 85 = .ok (.iconst 1, 1) := by decide +kernel
theorem dX3_seekWorst_86 : decode cX3_seekWorst 86 = .ok (.if_icmp .ne 8, 3) := by decide +kernel
theorem dX3_seekWorst_89 : decode cX3_seekWorst 89 = .ok (.iload 6, 2) := by decide +kernel
theorem dX3_seekWorst_91 : decode cX3_seekWorst 91 = .ok (.goto 6, 3) := by decide +kernel
theorem dX3_seekWorst_94 : decode cX3_seekWorst 94 = .ok (.iload 6, 2) := by decide +kernel
theorem dX3_seekWorst_96 : decode cX3_seekWorst 96 = .ok (.ineg, 1) := by decide +kernel
theorem dX3_seekWorst_97 : decode cX3_seekWorst 97 = .ok (.iadd, 1) := by decide +kernel
theorem dX3_seekWorst_98 : decode cX3_seekWorst 98 = .ok (.istore_n 3, 1) := by decide +kernel
theorem dX3_seekWorst_99 : decode cX3_seekWorst 99 = .ok (.iload_n 2, 1) := by decide +kernel
theorem dX3_seekWorst_100 : decode cX3_seekWorst 100 = .ok (.invokestatic 60, 3) := by decide +kernel
theorem dX3_seekWorst_103 : decode cX3_seekWorst 103 = .ok (.iconst 2, 1) := by decide +kernel
theorem dX3_seekWorst_104 : decode cX3_seekWorst 104 = .ok (.if_icmp .lt 18, 3) := by decide +kernel
theorem dX3_seekWorst_107 : decode cX3_seekWorst 107 = .ok (.aload_n 0, 1) := by decide +kernel
theorem dX3_seekWorst_108 : decode cX3_seekWorst 108 = .ok (.iload_n 2, 1) := by decide +kernel
theorem dX3_seekWorst_109 : decode cX3_seekWorst 109 = .ok (.iload_n 3, 1) := by decide +kernel
theorem dX3_seekWorst_110 : decode cX3_seekWorst 110 = .ok (.iconst 2, 1) := by decide +kernel
theorem dX3_seekWorst_111 : decode cX3_seekWorst 111 = .ok (.iload_n 2, 1) := by decide +kernel
theorem dX3_seekWorst_112 : decode cX3_seekWorst 112 = .ok (.invokestatic 60, 3) := by decide +kernel
theorem dX3_seekWorst_115 : decode cX3_seekWorst 115 = .ok (.imul, 1) := by decide +kernel
theorem dX3_seekWorst_116 : decode cX3_seekWorst 116 = .ok (.iconst 3, 1) := by decide +kernel
theorem dX3_seekWorst_117 : decode cX3_seekWorst 117 = .ok (.isub, 1) := by decide +kernel
theorem dX3_seekWorst_118 : decode cX3_seekWorst 118 = .ok (.isub, 1) := by decide +kernel
theorem dX3_seekWorst_119 : decode cX3_seekWorst 119 = .ok (.invokevirtual 104, 3) := by decide +kernel
theorem dX3_seekWorst_122 : decode cX3_seekWorst 122 = .ok (.iinc 4 1, 3) := by decide +kernel
theorem dX3_seekWorst_125 : decode cX3_seekWorst 125 = .ok (.goto (-86), 3) := by decide +kernel
theorem dX3_seekWorst_128 : decode cX3_seekWorst 128 = .ok (.return_, 1) := by decide +kernel
theorem dX3_leastBit_0 : decode cX3_leastBit 0 = .ok (.iconst 0, 1) := by decide +kernel
theorem dX3_leastBit_1 : decode cX3_leastBit 1 = .ok (.istore_n 1, 1) := by decide +kernel
theorem dX3_leastBit_2 : decode cX3_leastBit 2 = .ok (.iload_n 1, 1) := by decide +kernel
theorem dX3_leastBit_3 : decode cX3_leastBit 3 = .ok (.bipush 11, 2) := by decide +kernel
theorem dX3_leastBit_5 : decode cX3_leastBit 5 = .ok (.if_icmp .ge 17, 3) := by decide +kernel
theorem dX3_leastBit_8 : decode cX3_leastBit 8 = .ok (.iload_n 0, 1) := by decide +kernel
theorem dX3_leastBit_9 : decode cX3_leastBit 9 = .ok (.iload_n 1, 1) := by decide +kernel
theorem dX3_leastBit_10 : decode cX3_leastBit 10 = .ok (.ishr, 1) := by decide +kernel
theorem dX3_leastBit_11 : decode cX3_leastBit 11 = .ok (.iconst 1, 1) := by decide +kernel
theorem dX3_leastBit_12 : decode cX3_leastBit 12 = .ok (.iand, 1) := by decide +kernel
theorem dX3_leastBit_13 : decode cX3_leastBit 13 = .ok (.ifCond .ne 9, 3) := by decide +kernel
theorem dX3_leastBit_16 : decode cX3_leastBit 16 = .ok (.iinc 1 1, 3) := by decide +kernel
theorem dX3_leastBit_19 : decode cX3_leastBit 19 = .ok (.goto (-17), 3) := by decide +kernel
theorem dX3_leastBit_22 : decode cX3_leastBit 22 = .ok (.iload_n 1, 1) := by decide +kernel
theorem dX3_leastBit_23 : decode cX3_leastBit 23 = .ok (.ireturn, 1) := by decide +kernel
theorem dX3_weigh_0 : decode cX3_weigh 0 = .ok (.aload_n 0, 1) := by decide +kernel
theorem dX3_weigh_1 : decode cX3_weigh 1 = .ok (.getfield 48, 3) := by decide +kernel
theorem dX3_weigh_4 : decode cX3_weigh 4 = .ok (.invokestatic 60, 3) := by decide +kernel
theorem dX3_weigh_7 : decode cX3_weigh 7 = .ok (.iload_n 1, 1) := by decide +kernel
theorem dX3_weigh_8 : decode cX3_weigh 8 = .ok (.invokestatic 60, 3) := by decide +kernel
theorem dX3_weigh_11 : decode cX3_weigh 11 = .ok (.isub, 1) := by decide +kernel
theorem dX3_weigh_12 : decode cX3_weigh 12 = .ok (.istore_n 3, 1) := by decide +kernel
theorem dX3_weigh_13 : decode cX3_weigh 13 = .ok (.iload_n 2, 1) := by decide +kernel
theorem dX3_weigh_14 : decode cX3_weigh 14 = .ok (.aload_n 0, 1) := by decide +kernel
theorem dX3_weigh_15 : decode cX3_weigh 15 = .ok (.getfield 45, 3) := by decide +kernel
theorem dX3_weigh_18 : decode cX3_weigh 18 = .ok (.if_icmp .gt 27, 3) := by decide +kernel
theorem dX3_weigh_21 : decode cX3_weigh 21 = .ok (.iload_n 2, 1) := by decide +kernel
theorem dX3_weigh_22 : decode cX3_weigh 22 = .ok (.aload_n 0, 1) := by decide +kernel
theorem dX3_weigh_23 : decode cX3_weigh 23 = .ok (.getfield 45, 3) := by decide +kernel
theorem dX3_weigh_26 : decode cX3_weigh 26 = .ok (.if_icmp .ne 23, 3) := by decide +kernel
theorem dX3_weigh_29 : decode cX3_weigh 29 = .ok (.iload_n 3, 1) := by decide +kernel
theorem dX3_weigh_30 : decode cX3_weigh 30 = .ok (.ifCond .gt 15, 3) := by decide +kernel
theorem dX3_weigh_33 : decode cX3_weigh 33 = .ok (.iload_n 3, 1) := by decide +kernel
theorem dX3_weigh_34 : decode cX3_weigh 34 = .ok (.ifCond .ne 15, 3) := by decide +kernel
theorem dX3_weigh_37 : decode cX3_weigh 37 = .ok (.iload_n 1, 1) := by decide +kernel
theorem dX3_weigh_38 : decode cX3_weigh 38 = .ok (.aload_n 0, 1) := by decide +kernel
theorem dX3_weigh_39 : decode cX3_weigh 39 = .ok (.getfield 48, 3) := by decide +kernel
theorem dX3_weigh_42 : decode cX3_weigh 42 = .ok (.if_icmp .ge 7, 3) := by decide +kernel
theorem dX3_weigh_45 : decode cX3_weigh 45 = .ok (.iconst 1, 1) := by decide +kernel
theorem dX3_weigh_46 : decode cX3_weigh 46 = .ok (.goto 4, 3) := by decide +kernel
theorem dX3_weigh_49 : decode cX3_weigh 49 = .ok (.iconst 0, 1) := by decide +kernel
theorem dX3_weigh_50 : decode cX3_weigh 50 = .ok (.istore 4, 2) := by decide +kernel
theorem dX3_weigh_52 : decode cX3_weigh 52 = .ok (.aload_n 0, 1) := by decide +kernel
theorem dX3_weigh_53 : decode cX3_weigh 53 = .ok (.getfield 48, 3) := by decide +kernel
theorem dX3_weigh_56 : decode cX3_weigh 56 = .ok (.ifCond .eq 8, 3) := by decide +kernel
theorem dX3_weigh_59 : decode cX3_weigh 59 = .ok (.iload 4, 2) := by decide +kernel
theorem dX3_weigh_61 : decode cX3_weigh 61 = .ok (.ifCond .eq 13, 3) := by decide +kernel
theorem dX3_weigh_64 : decode cX3_weigh 64 = .ok (.aload_n 0, 1) := by decide +kernel
theorem dX3_weigh_65 : decode cX3_weigh 65 = .ok (.iload_n 1, 1) := by decide +kernel
theorem dX3_weigh_66 : decode cX3_weigh 66 = .ok (.putfield 48, 3) := by decide +kernel
theorem dX3_weigh_69 : decode cX3_weigh 69 = .ok (.aload_n 0, 1) := by decide +kernel
theorem dX3_weigh_70 : decode cX3_weigh 70 = .ok (.iload_n 2, 1) := by decide +kernel
theorem dX3_weigh_71 : decode cX3_weigh 71 = .ok (.putfield 45, 3) := by decide +kernel
theorem dX3_weigh_74 : decode cX3_weigh 74 = .ok (.return_, 1) := by decide +kernel
theorem dX3_lackingAt_0 : decode cX3_lackingAt 0 = .ok (.iconst 0, 1) := by decide +kernel
theorem dX3_lackingAt_1 : decode cX3_lackingAt 1 = .ok (.istore_n 3, 1) := by decide +kernel
theorem dX3_lackingAt_2 : decode cX3_lackingAt 2 = .ok (.iconst 0, 1) := by decide +kernel
theorem dX3_lackingAt_3 : decode cX3_lackingAt 3 = .ok (.istore 4, 2) := by decide +kernel
theorem dX3_lackingAt_5 : decode cX3_lackingAt 5 = .ok (.iload 4, 2) := by decide +kernel
theorem dX3_lackingAt_7 : decode cX3_lackingAt 7 = .ok (.iload_n 1, 1) := by decide +kernel
theorem dX3_lackingAt_8 : decode cX3_lackingAt 8 = .ok (.if_icmp .ge 69, 3) := by decide +kernel
theorem dX3_lackingAt_11 : decode cX3_lackingAt 11 = .ok (.iload 4, 2) := by decide +kernel
theorem dX3_lackingAt_13 : decode cX3_lackingAt 13 = .ok (.iconst 1, 1) := by decide +kernel
theorem dX3_lackingAt_14 : decode cX3_lackingAt 14 = .ok (.iadd, 1) := by decide +kernel
theorem dX3_lackingAt_15 : decode cX3_lackingAt 15 = .ok (.istore 5, 2) := by decide +kernel
theorem dX3_lackingAt_17 : decode cX3_lackingAt 17 = .ok (.iload 5, 2) := by decide +kernel
theorem dX3_lackingAt_19 : decode cX3_lackingAt 19 = .ok (.iload_n 1, 1) := by decide +kernel
theorem dX3_lackingAt_20 : decode cX3_lackingAt 20 = .ok (.if_icmp .ge 51, 3) := by decide +kernel
theorem dX3_lackingAt_23 : decode cX3_lackingAt 23 = .ok (.aload_n 0, 1) := by decide +kernel
theorem dX3_lackingAt_24 : decode cX3_lackingAt 24 = .ok (.getfield 12, 3) := by decide +kernel
theorem dX3_lackingAt_27 : decode cX3_lackingAt 27 = .ok (.iload 4, 2) := by decide +kernel
theorem dX3_lackingAt_29 : decode cX3_lackingAt 29 = .ok (.iload 5, 2) := by decide +kernel
theorem dX3_lackingAt_31 : decode cX3_lackingAt 31 = .ok (.invokevirtual 78, 3) := by decide +kernel
theorem dX3_lackingAt_34 : decode cX3_lackingAt 34 = .ok (.ifCond .eq 31, 3) := by decide +kernel
theorem dX3_lackingAt_37 : decode cX3_lackingAt 37 = .ok (.iload_n 3, 1) := by decide +kernel
theorem dX3_lackingAt_38 : decode cX3_lackingAt 38 = .ok (.iload_n 2, 1) := by decide +kernel
theorem dX3_lackingAt_39 : decode cX3_lackingAt 39 = .ok (.if_icmp .ne 12, 3) := by decide +kernel
theorem dX3_lackingAt_42 : decode cX3_lackingAt 42 = .ok (.bipush 100, 2) := by decide +kernel
theorem dX3_lackingAt_44 : decode cX3_lackingAt 44 = .ok (.iload 4, 2) := by decide +kernel
theorem dX3_lackingAt_46 : decode cX3_lackingAt 46 = .ok (.imul, 1) := by decide +kernel
theorem dX3_lackingAt_47 : decode cX3_lackingAt 47 = .ok (.iload 5, 2) := by decide +kernel
theorem dX3_lackingAt_49 : decode cX3_lackingAt 49 = .ok (.iadd, 1) := by decide +kernel
theorem dX3_lackingAt_50 : decode cX3_lackingAt 50 = .ok (.ireturn, 1) := by decide +kernel
theorem dX3_lackingAt_51 : decode cX3_lackingAt 51 = .ok (.aload_n 0, 1) := by decide +kernel
theorem dX3_lackingAt_52 : decode cX3_lackingAt 52 = .ok (.getfield 12, 3) := by decide +kernel
theorem dX3_lackingAt_55 : decode cX3_lackingAt 55 = .ok (.iload 4, 2) := by decide +kernel
theorem dX3_lackingAt_57 : decode cX3_lackingAt 57 = .ok (.iload 5, 2) := by decide +kernel
theorem dX3_lackingAt_59 : decode cX3_lackingAt 59 = .ok (.invokevirtual 82, 3) := by decide +kernel
theorem dX3_lackingAt_62 : decode cX3_lackingAt 62 = .ok (.iinc 3 1, 3) := by decide +kernel
theorem dX3_lackingAt_65 : decode cX3_lackingAt 65 = .ok (.iinc 5 1, 3) := by decide +kernel
theorem dX3_lackingAt_68 : decode cX3_lackingAt 68 = .ok (.goto (-51), 3) := by decide +kernel
theorem dX3_lackingAt_71 : decode cX3_lackingAt 71 = .ok (.iinc 4 1, 3) := by decide +kernel
theorem dX3_lackingAt_74 : decode cX3_lackingAt 74 = .ok (.goto (-69), 3) := by decide +kernel
theorem dX3_lackingAt_77 : decode cX3_lackingAt 77 = .ok (.iload_n 2, 1) := by decide +kernel
theorem dX3_lackingAt_78 : decode cX3_lackingAt 78 = .ok (.iconst (-1), 1) := by decide +kernel
theorem dX3_lackingAt_79 : decode cX3_lackingAt 79 = .ok (.if_icmp .ne 7, 3) := by decide +kernel
theorem dX3_lackingAt_82 : decode cX3_lackingAt 82 = .ok (.iload_n 3, 1) := by decide +kernel
theorem dX3_lackingAt_83 : decode cX3_lackingAt 83 = .ok (.goto 5, 3) := by decide +kernel
theorem dX3_lackingAt_86 : decode cX3_lackingAt 86 = .ok (.bipush (-12), 2) := by decide +kernel
theorem dX3_lackingAt_88 : decode cX3_lackingAt 88 = .ok (.ireturn, 1) := by decide +kernel
theorem dX4_init_0 : decode cX4_init 0 = .ok (.aload_n 0, 1) := by decide +kernel
theorem dX4_init_1 : decode cX4_init 1 = .ok (.invokespecial 3, 3) := by decide +kernel
theorem dX4_init_4 : decode cX4_init 4 = .ok (.aload_n 0, 1) := by decide +kernel
theorem dX4_init_5 : decode cX4_init 5 = .ok (.new 9, 3) := by decide +kernel
theorem dX4_init_8 : decode cX4_init 8 = .ok (.dup, 1) := by decide +kernel
theorem dX4_init_9 : decode cX4_init 9 = .ok (.invokespecial 11, 3) := by decide +kernel
theorem dX4_init_12 : decode cX4_init 12 = .ok (.putfield 12, 3) := by decide +kernel
theorem dX4_init_15 : decode cX4_init 15 = .ok (.aload_n 0, 1) := by decide +kernel
theorem dX4_init_16 : decode cX4_init 16 = .ok (.bipush 12, 2) := by decide +kernel
theorem dX4_init_18 : decode cX4_init 18 = .ok (.newarray .int, 2) := by decide +kernel
theorem dX4_init_20 : decode cX4_init 20 = .ok (.putfield 18, 3) := by decide +kernel
theorem dX4_init_23 : decode cX4_init 23 = .ok (.aload_n 0, 1) := by decide +kernel
theorem dX4_init_24 : decode cX4_init 24 = .ok (.iconst 0, 1) := by decide +kernel
theorem dX4_init_25 : decode cX4_init 25 = .ok (.putfield 22, 3) := by decide +kernel
theorem dX4_init_28 : decode cX4_init 28 = .ok (.aload_n 0, 1) := by decide +kernel
theorem dX4_init_29 : decode cX4_init 29 = .ok (.bipush 12, 2) := by decide +kernel
theorem dX4_init_31 : decode cX4_init 31 = .ok (.newarray .int, 2) := by decide +kernel
theorem dX4_init_33 : decode cX4_init 33 = .ok (.putfield 26, 3) := by decide +kernel
theorem dX4_init_36 : decode cX4_init 36 = .ok (.aload_n 0, 1) := by decide +kernel
theorem dX4_init_37 : decode cX4_init 37 = .ok (.bipush 12, 2) := by decide +kernel
theorem dX4_init_39 : decode cX4_init 39 = .ok (.newarray .int, 2) := by decide +kernel
theorem dX4_init_41 : decode cX4_init 41 = .ok (.putfield 29, 3) := by decide +kernel
theorem dX4_init_44 : decode cX4_init 44 = .ok (.aload_n 0, 1) := by decide +kernel
theorem dX4_init_45 : decode cX4_init 45 = .ok (.bipush 12, 2) := by decide +kernel
theorem dX4_init_47 : decode cX4_init 47 = .ok (.newarray .int, 2) := by decide +kernel
theorem dX4_init_49 : decode cX4_init 49 = .ok (.putfield 32, 3) := by decide +kernel
theorem dX4_init_52 : decode cX4_init 52 = .ok (.return_, 1) := by decide +kernel
theorem dX4_run_0 : decode cX4_run 0 = .ok (.iconst 0, 1) := by decide +kernel
theorem dX4_run_1 : decode cX4_run 1 = .ok (.istore_n 2, 1) := by decide +kernel
theorem dX4_run_2 : decode cX4_run 2 = .ok (.iload_n 2, 1) := by decide +kernel
theorem dX4_run_3 : decode cX4_run 3 = .ok (.bipush 12, 2) := by decide +kernel
theorem dX4_run_5 : decode cX4_run 5 = .ok (.if_icmp .ge 32, 3) := by decide +kernel
theorem dX4_run_8 : decode cX4_run 8 = .ok (.aload_n 0, 1) := by decide +kernel
theorem dX4_run_9 : decode cX4_run 9 = .ok (.getfield 18, 3) := by decide +kernel
theorem dX4_run_12 : decode cX4_run 12 = .ok (.iload_n 2, 1) := by decide +kernel
theorem dX4_run_13 : decode cX4_run 13 = .ok (.iload_n 2, 1) := by decide +kernel
theorem dX4_run_14 : decode cX4_run 14 = .ok (.aload_n 1, 1) := by decide +kernel
theorem dX4_run_15 : decode cX4_run 15 = .ok (.getfield 35, 3) := by decide +kernel
theorem dX4_run_18 : decode cX4_run 18 = .ok (.if_icmp .ge 11, 3) := by decide +kernel
theorem dX4_run_21 : decode cX4_run 21 = .ok (.aload_n 1, 1) := by decide +kernel
theorem dX4_run_22 : decode cX4_run 22 = .ok (.iload_n 2, 1) := by decide +kernel
theorem dX4_run_23 : decode cX4_run 23 = .ok (.invokevirtual 40, 3) := by decide +kernel
theorem dX4_run_26 : decode cX4_run 26 = .ok (.goto 4, 3) := by decide +kernel
theorem dX4_run_29 : decode cX4_run 29 = .ok (.iconst 0, 1) := by decide +kernel
theorem dX4_run_30 : decode cX4_run 30 = .ok (.iastore, 1) := by decide +kernel
theorem dX4_run_31 : decode cX4_run 31 = .ok (.iinc 2 1, 3) := by decide +kernel
theorem dX4_run_34 : decode cX4_run 34 = .ok (.goto (-32), 3) := by decide +kernel
theorem dX4_run_37 : decode cX4_run 37 = .ok (.aload_n 0, 1) := by decide +kernel
theorem dX4_run_38 : decode cX4_run 38 = .ok (.iconst 0, 1) := by decide +kernel
theorem dX4_run_39 : decode cX4_run 39 = .ok (.putfield 22, 3) := by decide +kernel
theorem dX4_run_42 : decode cX4_run 42 = .ok (.aload_n 1, 1) := by decide +kernel
theorem dX4_run_43 : decode cX4_run 43 = .ok (.getfield 35, 3) := by decide +kernel
theorem dX4_run_46 : decode cX4_run 46 = .ok (.istore_n 2, 1) := by decide +kernel
theorem dX4_run_47 : decode cX4_run 47 = .ok (.iload_n 2, 1) := by decide +kernel
theorem dX4_run_48 : decode cX4_run 48 = .ok (.iconst 3, 1) := by decide +kernel
theorem dX4_run_49 : decode cX4_run 49 = .ok (.if_icmp .lt 13, 3) := by decide +kernel
theorem dX4_run_52 : decode cX4_run 52 = .ok (.aload_n 0, 1) := by decide +kernel
theorem dX4_run_53 : decode cX4_run 53 = .ok (.invokevirtual 44, 3) := by decide +kernel
theorem dX4_run_56 : decode cX4_run 56 = .ok (.iinc 2 (-1), 3) := by decide +kernel
theorem dX4_run_59 : decode cX4_run 59 = .ok (.goto (-12), 3) := by decide +kernel
theorem dX4_run_62 : decode cX4_run 62 = .ok (.return_, 1) := by decide +kernel
theorem dX4_takeOne_0 : decode cX4_takeOne 0 = .ok (.aload_n 0, 1) := by decide +kernel
theorem dX4_takeOne_1 : decode cX4_takeOne 1 = .ok (.iconst 2, 1) := by decide +kernel
theorem dX4_takeOne_2 : decode cX4_takeOne 2 = .ok (.invokevirtual 47, 3) := by decide +kernel
theorem dX4_takeOne_5 : decode cX4_takeOne 5 = .ok (.istore_n 1, 1) := by decide +kernel
theorem dX4_takeOne_6 : decode cX4_takeOne 6 = .ok (.iload_n 1, 1) := by decide +kernel
theorem dX4_takeOne_7 : decode cX4_takeOne 7 = .ok (.iconst (-1), 1) := by decide +kernel
theorem dX4_takeOne_8 : decode cX4_takeOne 8 = .ok (.if_icmp .ne 9, 3) := by decide +kernel
theorem dX4_takeOne_11 : decode cX4_takeOne 11 = .ok (.aload_n 0, 1) := by decide +kernel
theorem dX4_takeOne_12 : decode cX4_takeOne 12 = .ok (.iconst 3, 1) := by decide +kernel
theorem dX4_takeOne_13 : decode cX4_takeOne 13 = .ok (.invokevirtual 47, 3) := by decide +kernel
theorem dX4_takeOne_16 : decode cX4_takeOne 16 = .ok (.istore_n 1, 1) := by decide +kernel
theorem dX4_takeOne_17 : decode cX4_takeOne 17 = .ok (.iload_n 1, 1) := by decide +kernel
theorem dX4_takeOne_18 : decode cX4_takeOne 18 = .ok (.iconst (-1), 1) := by decide +kernel
theorem dX4_takeOne_19 : decode cX4_takeOne 19 = .ok (.if_icmp .eq 12, 3) := by decide +kernel
theorem dX4_takeOne_22 : decode cX4_takeOne 22 = .ok (.aload_n 0, 1) := by decide +kernel
theorem dX4_takeOne_23 : decode cX4_takeOne 23 = .ok (.getfield 22, 3) := by decide +kernel
theorem dX4_takeOne_26 : decode cX4_takeOne 26 = .ok (.bipush 12, 2) := by decide +kernel
theorem dX4_takeOne_28 : decode cX4_takeOne 28 = .ok (.if_icmp .lt 4, 3) := by decide +kernel
theorem dX4_takeOne_31 : decode cX4_takeOne 31 = .ok (.return_, 1) := by decide +kernel
theorem dX4_takeOne_32 : decode cX4_takeOne 32 = .ok (.aload_n 0, 1) := by decide +kernel
theorem dX4_takeOne_33 : decode cX4_takeOne 33 = .ok (.getfield 18, 3) := by decide +kernel
theorem dX4_takeOne_36 : decode cX4_takeOne 36 = .ok (.iload_n 1, 1) := by decide +kernel
theorem dX4_takeOne_37 : decode cX4_takeOne 37 = .ok (.iaload, 1) := by decide +kernel
theorem dX4_takeOne_38 : decode cX4_takeOne 38 = .ok (.istore_n 2, 1) := by decide +kernel
theorem dX4_takeOne_39 : decode cX4_takeOne 39 = .ok (.aload_n 0, 1) := by decide +kernel
theorem dX4_takeOne_40 : decode cX4_takeOne 40 = .ok (.getfield 26, 3) := by decide +kernel
theorem dX4_takeOne_43 : decode cX4_takeOne 43 = .ok (.aload_n 0, 1) := by decide +kernel
theorem dX4_takeOne_44 : decode cX4_takeOne 44 = .ok (.getfield 22, 3) := by decide +kernel
theorem dX4_takeOne_47 : decode cX4_takeOne 47 = .ok (.iload_n 1, 1) := by decide +kernel
theorem dX4_takeOne_48 : decode cX4_takeOne 48 = .ok (.iastore, 1) := by decide +kernel
theorem dX4_takeOne_49 : decode cX4_takeOne 49 = .ok (.aload_n 0, 1) := by decide +kernel
theorem dX4_takeOne_50 : decode cX4_takeOne 50 = .ok (.getfield 29, 3) := by decide +kernel
theorem dX4_takeOne_53 : decode cX4_takeOne 53 = .ok (.aload_n 0, 1) := by decide +kernel
theorem dX4_takeOne_54 : decode cX4_takeOne 54 = .ok (.getfield 22, 3) := by decide +kernel
theorem dX4_takeOne_57 : decode cX4_takeOne 57 = .ok (.iload_n 2, 1) := by decide +kernel
theorem dX4_takeOne_58 : decode cX4_takeOne 58 = .ok (.invokestatic 50, 3) := by decide +kernel
theorem dX4_takeOne_61 : decode cX4_takeOne 61 = .ok (.iastore, 1) := by decide +kernel
theorem dX4_takeOne_62 : decode cX4_takeOne 62 = .ok (.aload_n 0, 1) := by decide +kernel
theorem dX4_takeOne_63 : decode cX4_takeOne 63 = .ok (.iload_n 1, 1) := by decide +kernel
theorem dX4_takeOne_64 : decode cX4_takeOne 64 = .ok (.invokevirtual 55, 3) := by decide +kernel
theorem dX4_takeOne_67 : decode cX4_takeOne 67 = .ok (.aload_n 0, 1) := by decide +kernel
theorem dX4_takeOne_68 : decode cX4_takeOne 68 = .ok (.getfield 32, 3) := by decide +kernel
theorem dX4_takeOne_71 : decode cX4_takeOne 71 = .ok (.aload_n 0, 1) := by decide +kernel
theorem dX4_takeOne_72 : decode cX4_takeOne 72 = .ok (.getfield 22, 3) := by decide +kernel
theorem dX4_takeOne_75 : decode cX4_takeOne 75 = .ok (.iconst (-1), 1) := by decide +kernel
theorem dX4_takeOne_76 : decode cX4_takeOne 76 = .ok (.iastore, 1) := by decide +kernel
theorem dX4_takeOne_77 : decode cX4_takeOne 77 = .ok (.aload_n 0, 1) := by decide +kernel
theorem dX4_takeOne_78 : decode cX4_takeOne 78 = .ok (.getfield 29, 3) := by decide +kernel
theorem dX4_takeOne_81 : decode cX4_takeOne 81 = .ok (.aload_n 0, 1) := by decide +kernel
theorem dX4_takeOne_82 : decode cX4_takeOne 82 = .ok (.getfield 22, 3) := by decide +kernel
theorem dX4_takeOne_85 : decode cX4_takeOne 85 = .ok (.iaload, 1) := by decide +kernel
theorem dX4_takeOne_86 : decode cX4_takeOne 86 = .ok (.iconst 3, 1) := by decide +kernel
theorem dX4_takeOne_87 : decode cX4_takeOne 87 = .ok (.if_icmp .ne 21, 3) := by decide +kernel
theorem dX4_takeOne_90 : decode cX4_takeOne 90 = .ok (.aload_n 0, 1) := by decide +kernel
theorem dX4_takeOne_91 : decode cX4_takeOne 91 = .ok (.invokevirtual 59, 3) := by decide +kernel
theorem dX4_takeOne_94 : decode cX4_takeOne 94 = .ok (.aload_n 0, 1) := by decide +kernel
theorem dX4_takeOne_95 : decode cX4_takeOne 95 = .ok (.getfield 32, 3) := by decide +kernel
theorem dX4_takeOne_98 : decode cX4_takeOne 98 = .ok (.aload_n 0, 1) := by decide +kernel
theorem dX4_takeOne_99 : decode cX4_takeOne 99 = .ok (.getfield 22, 3) := by decide +kernel
theorem dX4_takeOne_102 : decode cX4_takeOne 102 = .ok (.aload_n 0, 1) := by decide +kernel
theorem dX4_takeOne_103 : decode cX4_takeOne 103 = .ok (.iload_n 2, 1) := by decide +kernel
theorem dX4_takeOne_104 : decode cX4_takeOne 104 = .ok (.invokevirtual 62, 3) := by decide +kernel
theorem dX4_takeOne_107 : decode cX4_takeOne 107 = .ok (.iastore, 1) := by decide +kernel
theorem dX4_takeOne_108 : decode cX4_takeOne 108 = .ok (.aload_n 0, 1) := by decide +kernel
theorem dX4_takeOne_109 : decode cX4_takeOne 109 = .ok (.dup, 1) := by decide +kernel
theorem dX4_takeOne_110 : decode cX4_takeOne 110 = .ok (.getfield 22, 3) := by decide +kernel
theorem dX4_takeOne_113 : decode cX4_takeOne 113 = .ok (.iconst 1, 1) := by decide +kernel
theorem dX4_takeOne_114 : decode cX4_takeOne 114 = .ok (.iadd, 1) := by decide +kernel
theorem dX4_takeOne_115 : decode cX4_takeOne 115 = .ok (.putfield 22, 3) := by decide +kernel
theorem dX4_takeOne_118 : decode cX4_takeOne 118 = .ok (.return_, 1) := by decide +kernel
theorem dX4_firstOf_0 : decode cX4_firstOf 0 = .ok (.iconst 0, 1) := by decide +kernel
theorem dX4_firstOf_1 : decode cX4_firstOf 1 = .ok (.istore_n 2, 1) := by decide +kernel
theorem dX4_firstOf_2 : decode cX4_firstOf 2 = .ok (.iload_n 2, 1) := by decide +kernel
theorem dX4_firstOf_3 : decode cX4_firstOf 3 = .ok (.bipush 12, 2) := by decide +kernel
theorem dX4_firstOf_5 : decode cX4_firstOf 5 = .ok (.if_icmp .ge 24, 3) := by decide +kernel
theorem dX4_firstOf_8 : decode cX4_firstOf 8 = .ok (.aload_n 0, 1) := by decide +kernel
theorem dX4_firstOf_9 : decode cX4_firstOf 9 = .ok (.getfield 18, 3) := by decide +kernel
theorem dX4_firstOf_12 : decode cX4_firstOf 12 = .ok (.iload_n 2, 1) := by decide +kernel
theorem dX4_firstOf_13 : decode cX4_firstOf 13 = .ok (.iaload, 1) := by decide +kernel
theorem dX4_firstOf_14 : decode cX4_firstOf 14 = .ok (.invokestatic 50, 3) := by decide +kernel
theorem dX4_firstOf_17 : decode cX4_firstOf 17 = .ok (.iload_n 1, 1) := by decide +kernel
theorem dX4_firstOf_18 : decode cX4_firstOf 18 = .ok (.if_icmp .ne 5, 3) := by decide +kernel
theorem dX4_firstOf_21 : decode cX4_firstOf 21 = .ok (.iload_n 2, 1) := by decide +kernel
theorem dX4_firstOf_22 : decode cX4_firstOf 22 = .ok (.ireturn, 1) := by decide +kernel
theorem dX4_firstOf_23 : decode cX4_firstOf 23 = .ok (.iinc 2 1, 3) := by decide +kernel
theorem dX4_firstOf_26 : decode cX4_firstOf 26 = .ok (.goto (-24), 3) := by decide +kernel
theorem dX4_firstOf_29 : decode cX4_firstOf 29 = .ok (.iconst (-1), 1) := by decide +kernel
theorem dX4_firstOf_30 : decode cX4_firstOf 30 = .ok (.ireturn, 1) := by decide +kernel
theorem dX4_takeAway_0 : decode cX4_takeAway 0 = .ok (.aload_n 0, 1) := by decide +kernel
theorem dX4_takeAway_1 : decode cX4_takeAway 1 = .ok (.getfield 18, 3) := by decide +kernel
theorem dX4_takeAway_4 : decode cX4_takeAway 4 = .ok (.iload_n 1, 1) := by decide +kernel
theorem dX4_takeAway_5 : decode cX4_takeAway 5 = .ok (.iconst 0, 1) := by decide +kernel
theorem dX4_takeAway_6 : decode cX4_takeAway 6 = .ok (.iastore, 1) := by decide +kernel
theorem dX4_takeAway_7 : decode cX4_takeAway 7 = .ok (.iconst 0, 1) := by decide +kernel
theorem dX4_takeAway_8 : decode cX4_takeAway 8 = .ok (.istore_n 2, 1) := by decide +kernel
theorem dX4_takeAway_9 : decode cX4_takeAway 9 = .ok (.iload_n 2, 1) := by decide +kernel
theorem dX4_takeAway_10 : decode cX4_takeAway 10 = .ok (.bipush 12, 2) := by decide +kernel
theorem dX4_takeAway_12 : decode cX4_takeAway 12 = .ok (.if_icmp .ge 23, 3) := by decide +kernel
theorem dX4_takeAway_15 : decode cX4_takeAway 15 = .ok (.aload_n 0, 1) := by decide +kernel
theorem dX4_takeAway_16 : decode cX4_takeAway 16 = .ok (.getfield 18, 3) := by decide +kernel
theorem dX4_takeAway_19 : decode cX4_takeAway 19 = .ok (.iload_n 2, 1) := by decide +kernel
theorem dX4_takeAway_20 : decode cX4_takeAway 20 = .ok (.dup2, 1) := by decide +kernel
theorem dX4_takeAway_21 : decode cX4_takeAway 21 = .ok (.iaload, 1) := by decide +kernel
theorem dX4_takeAway_22 : decode cX4_takeAway 22 = .ok (.iconst 1, 1) := by decide +kernel
theorem dX4_takeAway_23 : decode cX4_takeAway 23 = .ok (.iload_n 1, 1) := by decide +kernel
theorem dX4_takeAway_24 : decode cX4_takeAway 24 = .ok (.ishl, 1) := by decide +kernel
theorem dX4_takeAway_25 : decode cX4_takeAway 25 = .ok (.iconst (-1), 1) := by decide +kernel
theorem dX4_takeAway_26 : decode cX4_takeAway 26 = .ok (.ixor, 1) := by decide +kernel
theorem dX4_takeAway_27 : decode cX4_takeAway 27 = .ok (.iand, 1) := by decide +kernel
theorem dX4_takeAway_28 : decode cX4_takeAway 28 = .ok (.iastore, 1) := by decide +kernel
theorem dX4_takeAway_29 : decode cX4_takeAway 29 = .ok (.iinc 2 1, 3) := by decide +kernel
theorem dX4_takeAway_32 : decode cX4_takeAway 32 = .ok (.goto (-23), 3) := by decide +kernel
theorem dX4_takeAway_35 : decode cX4_takeAway 35 = .ok (.return_, 1) := by decide +kernel
theorem dX4_joinFirstOf_0 : decode cX4_joinFirstOf 0 = .ok (.iconst 0, 1) := by decide +kernel
theorem dX4_joinFirstOf_1 : decode cX4_joinFirstOf 1 = .ok (.istore_n 2, 1) := by decide +kernel
theorem dX4_joinFirstOf_2 : decode cX4_joinFirstOf 2 = .ok (.iload_n 2, 1) := by decide +kernel
theorem dX4_joinFirstOf_3 : decode cX4_joinFirstOf 3 = .ok (.bipush 12, 2) := by decide +kernel
theorem dX4_joinFirstOf_5 : decode cX4_joinFirstOf 5 = .ok (.if_icmp .ge 111, 3) := by decide +kernel
theorem dX4_joinFirstOf_8 : decode cX4_joinFirstOf 8 = .ok (.iload_n 2, 1) := by decide +kernel
theorem dX4_joinFirstOf_9 : decode cX4_joinFirstOf 9 = .ok (.iconst 1, 1) := by decide +kernel
theorem dX4_joinFirstOf_10 : decode cX4_joinFirstOf 10 = .ok (.iadd, 1) := by decide +kernel
theorem dX4_joinFirstOf_11 : decode cX4_joinFirstOf 11 = .ok (.istore_n 3, 1) := by decide +kernel
theorem dX4_joinFirstOf_12 : decode cX4_joinFirstOf 12 = .ok (.iload_n 3, 1) := by decide +kernel
theorem dX4_joinFirstOf_13 : decode cX4_joinFirstOf 13 = .ok (.bipush 12, 2) := by decide +kernel
theorem dX4_joinFirstOf_15 : decode cX4_joinFirstOf 15 = .ok (.if_icmp .ge 95, 3) := by decide +kernel
theorem dX4_joinFirstOf_18 : decode cX4_joinFirstOf 18 = .ok (.iload_n 1, 1) := by decide +kernel
theorem dX4_joinFirstOf_19 : decode cX4_joinFirstOf 19 = .ok (.iload_n 2, 1) := by decide +kernel
theorem dX4_joinFirstOf_20 : decode cX4_joinFirstOf 20 = .ok (.ishr, 1) := by decide +kernel
theorem dX4_joinFirstOf_21 : decode cX4_joinFirstOf 21 = .ok (.iconst 1, 1) := by decide +kernel
theorem dX4_joinFirstOf_22 : decode cX4_joinFirstOf 22 = .ok (.iand, 1) := by decide +kernel
theorem dX4_joinFirstOf_23 : decode cX4_joinFirstOf 23 = .ok (.iconst 1, 1) := by decide +kernel
theorem dX4_joinFirstOf_24 : decode cX4_joinFirstOf 24 = .ok (.if_icmp .ne 16, 3) := by decide +kernel
theorem dX4_joinFirstOf_27 : decode cX4_joinFirstOf 27 = .ok (.iload_n 1, 1) := by decide +kernel
theorem dX4_joinFirstOf_28 : decode cX4_joinFirstOf 28 = .ok (.iload_n 3, 1) := by decide +kernel
theorem dX4_joinFirstOf_29 : decode cX4_joinFirstOf 29 = .ok (.ishr, 1) := by decide +kernel
theorem dX4_joinFirstOf_30 : decode cX4_joinFirstOf 30 = .ok (.iconst 1, 1) := by decide +kernel
theorem dX4_joinFirstOf_31 : decode cX4_joinFirstOf 31 = .ok (.iand, 1) := by decide +kernel
theorem dX4_joinFirstOf_32 : decode cX4_joinFirstOf 32 = .ok (.iconst 1, 1) := by decide +kernel
theorem dX4_joinFirstOf_33 : decode cX4_joinFirstOf 33 = .ok (.if_icmp .ne 7, 3) := by decide +kernel
theorem dX4_joinFirstOf_36 : decode cX4_joinFirstOf 36 = .ok (.iconst 1, 1) := by decide +kernel
theorem dX4_joinFirstOf_37 : decode cX4_joinFirstOf 37 = .ok (.goto 4, 3) := by decide +kernel
theorem dX4_joinFirstOf_40 : decode cX4_joinFirstOf 40 = .ok (.iconst 0, 1) := by decide +kernel
theorem dX4_joinFirstOf_41 : decode cX4_joinFirstOf 41 = .ok (.istore 4, 2) := by decide +kernel
theorem dX4_joinFirstOf_43 : decode cX4_joinFirstOf 43 = .ok (.iload 4, 2) := by decide +kernel
theorem dX4_joinFirstOf_45 : decode cX4_joinFirstOf 45 = .ok (.ifCond .eq 59, 3) := by decide +kernel
theorem dX4_joinFirstOf_48 : decode cX4_joinFirstOf 48 = .ok (.aload_n 0, 1) := by decide +kernel
theorem dX4_joinFirstOf_49 : decode cX4_joinFirstOf 49 = .ok (.getfield 18, 3) := by decide +kernel
theorem dX4_joinFirstOf_52 : decode cX4_joinFirstOf 52 = .ok (.iload_n 2, 1) := by decide +kernel
theorem dX4_joinFirstOf_53 : decode cX4_joinFirstOf 53 = .ok (.iaload, 1) := by decide +kernel
theorem dX4_joinFirstOf_54 : decode cX4_joinFirstOf 54 = .ok (.iload_n 3, 1) := by decide +kernel
theorem dX4_joinFirstOf_55 : decode cX4_joinFirstOf 55 = .ok (.ishr, 1) := by decide +kernel
theorem dX4_joinFirstOf_56 : decode cX4_joinFirstOf 56 = .ok (.iconst 1, 1) := by decide +kernel
theorem dX4_joinFirstOf_57 : decode cX4_joinFirstOf 57 = .ok (.iand, 1) := by decide +kernel
theorem dX4_joinFirstOf_58 : decode cX4_joinFirstOf 58 = .ok (.ifCond .ne 46, 3) := by decide +kernel
theorem dX4_joinFirstOf_61 : decode cX4_joinFirstOf 61 = .ok (.aload_n 0, 1) := by decide +kernel
theorem dX4_joinFirstOf_62 : decode cX4_joinFirstOf 62 = .ok (.getfield 12, 3) := by decide +kernel
theorem dX4_joinFirstOf_65 : decode cX4_joinFirstOf 65 = .ok (.iload_n 2, 1) := by decide +kernel
theorem dX4_joinFirstOf_66 : decode cX4_joinFirstOf 66 = .ok (.iload_n 3, 1) := by decide +kernel
theorem dX4_joinFirstOf_67 : decode cX4_joinFirstOf 67 = .ok (.invokevirtual 65, 3) := by decide +kernel
theorem dX4_joinFirstOf_70 : decode cX4_joinFirstOf 70 = .ok (.ifCond .eq 34, 3) := by decide +kernel
theorem dX4_joinFirstOf_73 : decode cX4_joinFirstOf 73 = .ok (.aload_n 0, 1) := by decide +kernel
theorem dX4_joinFirstOf_74 : decode cX4_joinFirstOf 74 = .ok (.getfield 18, 3) := by decide +kernel
theorem dX4_joinFirstOf_77 : decode cX4_joinFirstOf 77 = .ok (.iload_n 2, 1) := by decide +kernel
theorem dX4_joinFirstOf_78 : decode cX4_joinFirstOf 78 = .ok (.dup2, 1) := by decide +kernel
theorem dX4_joinFirstOf_79 : decode cX4_joinFirstOf 79 = .ok (.iaload, 1) := by decide +kernel
theorem dX4_joinFirstOf_80 : decode cX4_joinFirstOf 80 = .ok (.iconst 1, 1) := by decide +kernel
theorem dX4_joinFirstOf_81 : decode cX4_joinFirstOf 81 = .ok (.iload_n 3, 1) := by decide +kernel
theorem dX4_joinFirstOf_82 : decode cX4_joinFirstOf 82 = .ok (.ishl, 1) := by decide +kernel
theorem dX4_joinFirstOf_83 : decode cX4_joinFirstOf 83 = .ok (.ior, 1) := by decide +kernel
theorem dX4_joinFirstOf_84 : decode cX4_joinFirstOf 84 = .ok (.iastore, 1) := by decide +kernel
theorem dX4_joinFirstOf_85 : decode cX4_joinFirstOf 85 = .ok (.aload_n 0, 1) := by decide +kernel
theorem dX4_joinFirstOf_86 : decode cX4_joinFirstOf 86 = .ok (.getfield 18, 3) := by decide +kernel
theorem dX4_joinFirstOf_89 : decode cX4_joinFirstOf 89 = .ok (.iload_n 3, 1) := by decide +kernel
theorem dX4_joinFirstOf_90 : decode cX4_joinFirstOf 90 = .ok (.dup2, 1) := by decide +kernel
theorem dX4_joinFirstOf_91 : decode cX4_joinFirstOf 91 = .ok (.iaload, 1) := by decide +kernel
theorem dX4_joinFirstOf_92 : decode cX4_joinFirstOf 92 = .ok (.iconst 1, 1) := by decide +kernel
theorem dX4_joinFirstOf_93 : decode cX4_joinFirstOf 93 = .ok (.iload_n 2, 1) := by decide +kernel
theorem dX4_joinFirstOf_94 : decode cX4_joinFirstOf 94 = .ok (.ishl, 1) := by decide +kernel
theorem dX4_joinFirstOf_95 : decode cX4_joinFirstOf 95 = .ok (.ior, 1) := by decide +kernel
theorem dX4_joinFirstOf_96 : decode cX4_joinFirstOf 96 = .ok (.iastore, 1) := by decide +kernel
theorem dX4_joinFirstOf_97 : decode cX4_joinFirstOf 97 = .ok (.bipush 100, 2) := by decide +kernel
theorem dX4_joinFirstOf_99 : decode cX4_joinFirstOf 99 = .ok (.iload_n 2, 1) := by decide +kernel
theorem dX4_joinFirstOf_100 : decode cX4_joinFirstOf 100 = .ok (.imul, 1) := by decide +kernel
theorem dX4_joinFirstOf_101 : decode cX4_joinFirstOf 101 = .ok (.iload_n 3, 1) := by decide +kernel
theorem dX4_joinFirstOf_102 : decode cX4_joinFirstOf 102 = .ok (.iadd, 1) := by decide +kernel
theorem dX4_joinFirstOf_103 : decode cX4_joinFirstOf 103 = .ok (.ireturn, 1) := by decide +kernel
theorem dX4_joinFirstOf_104 : decode cX4_joinFirstOf 104 = .ok (.iinc 3 1, 3) := by decide +kernel
theorem dX4_joinFirstOf_107 : decode cX4_joinFirstOf 107 = .ok (.goto (-95), 3) := by decide +kernel
theorem dX4_joinFirstOf_110 : decode cX4_joinFirstOf 110 = .ok (.iinc 2 1, 3) := by decide +kernel
theorem dX4_joinFirstOf_113 : decode cX4_joinFirstOf 113 = .ok (.goto (-111), 3) := by decide +kernel
theorem dX4_joinFirstOf_116 : decode cX4_joinFirstOf 116 = .ok (.iconst (-1), 1) := by decide +kernel
theorem dX4_joinFirstOf_117 : decode cX4_joinFirstOf 117 = .ok (.ireturn, 1) := by decide +kernel
theorem dX4_layAll_0 : decode cX4_layAll 0 = .ok (.aload_n 0, 1) := by decide +kernel
theorem dX4_layAll_1 : decode cX4_layAll 1 = .ok (.getfield 12, 3) := by decide +kernel
theorem dX4_layAll_4 : decode cX4_layAll 4 = .ok (.invokevirtual 69, 3) := by decide +kernel
theorem dX4_layAll_7 : decode cX4_layAll 7 = .ok (.iconst 0, 1) := by decide +kernel
theorem dX4_layAll_8 : decode cX4_layAll 8 = .ok (.istore_n 1, 1) := by decide +kernel
theorem dX4_layAll_9 : decode cX4_layAll 9 = .ok (.iload_n 1, 1) := by decide +kernel
theorem dX4_layAll_10 : decode cX4_layAll 10 = .ok (.bipush 12, 2) := by decide +kernel
theorem dX4_layAll_12 : decode cX4_layAll 12 = .ok (.if_icmp .ge 60, 3) := by decide +kernel
theorem dX4_layAll_15 : decode cX4_layAll 15 = .ok (.iload_n 1, 1) := by decide +kernel
theorem dX4_layAll_16 : decode cX4_layAll 16 = .ok (.iconst 1, 1) := by decide +kernel
theorem dX4_layAll_17 : decode cX4_layAll 17 = .ok (.iadd, 1) := by decide +kernel
theorem dX4_layAll_18 : decode cX4_layAll 18 = .ok (.istore_n 2, 1) := by decide +kernel
theorem dX4_layAll_19 : decode cX4_layAll 19 = .ok (.iload_n 2, 1) := by decide +kernel
theorem dX4_layAll_20 : decode cX4_layAll 20 = .ok (.bipush 12, 2) := by decide +kernel
theorem dX4_layAll_22 : decode cX4_layAll 22 = .ok (.if_icmp .ge 44, 3) := by decide +kernel
theorem dX4_layAll_25 : decode cX4_layAll 25 = .ok (.aload_n 0, 1) := by decide +kernel
theorem dX4_layAll_26 : decode cX4_layAll 26 = .ok (.getfield 18, 3) := by decide +kernel
theorem dX4_layAll_29 : decode cX4_layAll 29 = .ok (.iload_n 1, 1) := by decide +kernel
theorem dX4_layAll_30 : decode cX4_layAll 30 = .ok (.iaload, 1) := by decide +kernel
theorem dX4_layAll_31 : decode cX4_layAll 31 = .ok (.iload_n 2, 1) := by decide +kernel
theorem dX4_layAll_32 : decode cX4_layAll 32 = .ok (.ishr, 1) := by decide +kernel
theorem dX4_layAll_33 : decode cX4_layAll 33 = .ok (.iconst 1, 1) := by decide +kernel
theorem dX4_layAll_34 : decode cX4_layAll 34 = .ok (.iand, 1) := by decide +kernel
theorem dX4_layAll_35 : decode cX4_layAll 35 = .ok (.iconst 1, 1) := by decide +kernel
theorem dX4_layAll_36 : decode cX4_layAll 36 = .ok (.if_icmp .ne 24, 3) := by decide +kernel
theorem dX4_layAll_39 : decode cX4_layAll 39 = .ok (.aload_n 0, 1) := by decide +kernel
theorem dX4_layAll_40 : decode cX4_layAll 40 = .ok (.getfield 12, 3) := by decide +kernel
theorem dX4_layAll_43 : decode cX4_layAll 43 = .ok (.iload_n 1, 1) := by decide +kernel
theorem dX4_layAll_44 : decode cX4_layAll 44 = .ok (.iload_n 2, 1) := by decide +kernel
theorem dX4_layAll_45 : decode cX4_layAll 45 = .ok (.invokevirtual 65, 3) := by decide +kernel
theorem dX4_layAll_48 : decode cX4_layAll 48 = .ok (.ifCond .eq 12, 3) := by decide +kernel
theorem dX4_layAll_51 : decode cX4_layAll 51 = .ok (.aload_n 0, 1) := by decide +kernel
theorem dX4_layAll_52 : decode cX4_layAll 52 = .ok (.getfield 12, 3) := by decide +kernel
theorem dX4_layAll_55 : decode cX4_layAll 55 = .ok (.iload_n 1, 1) := by decide +kernel
theorem dX4_layAll_56 : decode cX4_layAll 56 = .ok (.iload_n 2, 1) := by decide +kernel
theorem dX4_layAll_57 : decode cX4_layAll 57 = .ok (.invokevirtual 72, 3) := by decide +kernel
theorem dX4_layAll_60 : decode cX4_layAll 60 = .ok (.iinc 2 1, 3) := by decide +kernel
theorem dX4_layAll_63 : decode cX4_layAll 63 = .ok (.goto (-44), 3) := by decide +kernel
theorem dX4_layAll_66 : decode cX4_layAll 66 = .ok (.iinc 1 1, 3) := by decide +kernel
theorem dX4_layAll_69 : decode cX4_layAll 69 = .ok (.goto (-60), 3) := by decide +kernel
theorem dX4_layAll_72 : decode cX4_layAll 72 = .ok (.return_, 1) := by decide +kernel
theorem dX6_init_0 : decode cX6_init 0 = .ok (.aload_n 0, 1) := by decide +kernel
theorem dX6_init_1 : decode cX6_init 1 = .ok (.invokespecial 1, 3) := by decide +kernel
theorem dX6_init_4 : decode cX6_init 4 = .ok (.aload_n 0, 1) := by decide +kernel
theorem dX6_init_5 : decode cX6_init 5 = .ok (.new 7, 3) := by decide +kernel
theorem dX6_init_8 : decode cX6_init 8 = .ok (.dup, 1) := by decide +kernel
theorem dX6_init_9 : decode cX6_init 9 = .ok (.invokespecial 9, 3) := by decide +kernel
theorem dX6_init_12 : decode cX6_init 12 = .ok (.putfield 10, 3) := by decide +kernel
theorem dX6_init_15 : decode cX6_init 15 = .ok (.aload_n 0, 1) := by decide +kernel
theorem dX6_init_16 : decode cX6_init 16 = .ok (.new 7, 3) := by decide +kernel
theorem dX6_init_19 : decode cX6_init 19 = .ok (.dup, 1) := by decide +kernel
theorem dX6_init_20 : decode cX6_init 20 = .ok (.invokespecial 9, 3) := by decide +kernel
theorem dX6_init_23 : decode cX6_init 23 = .ok (.putfield 16, 3) := by decide +kernel
theorem dX6_init_26 : decode cX6_init 26 = .ok (.aload_n 0, 1) := by decide +kernel
theorem dX6_init_27 : decode cX6_init 27 = .ok (.iconst 0, 1) := by decide +kernel
theorem dX6_init_28 : decode cX6_init 28 = .ok (.putfield 19, 3) := by decide +kernel
theorem dX6_init_31 : decode cX6_init 31 = .ok (.aload_n 0, 1) := by decide +kernel
theorem dX6_init_32 : decode cX6_init 32 = .ok (.new 23, 3) := by decide +kernel
theorem dX6_init_35 : decode cX6_init 35 = .ok (.dup, 1) := by decide +kernel
theorem dX6_init_36 : decode cX6_init 36 = .ok (.invokespecial 25, 3) := by decide +kernel
theorem dX6_init_39 : decode cX6_init 39 = .ok (.putfield 26, 3) := by decide +kernel
theorem dX6_init_42 : decode cX6_init 42 = .ok (.aload_n 0, 1) := by decide +kernel
theorem dX6_init_43 : decode cX6_init 43 = .ok (.new 30, 3) := by decide +kernel
theorem dX6_init_46 : decode cX6_init 46 = .ok (.dup, 1) := by decide +kernel
theorem dX6_init_47 : decode cX6_init 47 = .ok (.invokespecial 32, 3) := by decide +kernel
theorem dX6_init_50 : decode cX6_init 50 = .ok (.putfield 33, 3) := by decide +kernel
theorem dX6_init_53 : decode cX6_init 53 = .ok (.aload_n 0, 1) := by decide +kernel
theorem dX6_init_54 : decode cX6_init 54 = .ok (.new 37, 3) := by decide +kernel
theorem dX6_init_57 : decode cX6_init 57 = .ok (.dup, 1) := by decide +kernel
theorem dX6_init_58 : decode cX6_init 58 = .ok (.invokespecial 39, 3) := by decide +kernel
theorem dX6_init_61 : decode cX6_init 61 = .ok (.putfield 40, 3) := by decide +kernel
theorem dX6_init_64 : decode cX6_init 64 = .ok (.aload_n 0, 1) := by decide +kernel
theorem dX6_init_65 : decode cX6_init 65 = .ok (.iconst 4, 1) := by decide +kernel
theorem dX6_init_66 : decode cX6_init 66 = .ok (.anewarray 44, 3) := by decide +kernel
theorem dX6_init_69 : decode cX6_init 69 = .ok (.putfield 46, 3) := by decide +kernel
theorem dX6_init_72 : decode cX6_init 72 = .ok (.iconst 0, 1) := by decide +kernel
theorem dX6_init_73 : decode cX6_init 73 = .ok (.istore_n 1, 1) := by decide +kernel
theorem dX6_init_74 : decode cX6_init 74 = .ok (.iload_n 1, 1) := by decide +kernel
theorem dX6_init_75 : decode cX6_init 75 = .ok (.iconst 4, 1) := by decide +kernel
theorem dX6_init_76 : decode cX6_init 76 = .ok (.if_icmp .ge 22, 3) := by decide +kernel
theorem dX6_init_79 : decode cX6_init 79 = .ok (.aload_n 0, 1) := by decide +kernel
theorem dX6_init_80 : decode cX6_init 80 = .ok (.getfield 46, 3) := by decide +kernel
theorem dX6_init_83 : decode cX6_init 83 = .ok (.iload_n 1, 1) := by decide +kernel
theorem dX6_init_84 : decode cX6_init 84 = .ok (.new 44, 3) := by decide +kernel
theorem dX6_init_87 : decode cX6_init 87 = .ok (.dup, 1) := by decide +kernel
theorem dX6_init_88 : decode cX6_init 88 = .ok (.invokespecial 50, 3) := by decide +kernel
theorem dX6_init_91 : decode cX6_init 91 = .ok (.aastore, 1) := by decide +kernel
theorem dX6_init_92 : decode cX6_init 92 = .ok (.iinc 1 1, 3) := by decide +kernel
theorem dX6_init_95 : decode cX6_init 95 = .ok (.goto (-21), 3) := by decide +kernel
theorem dX6_init_98 : decode cX6_init 98 = .ok (.return_, 1) := by decide +kernel
theorem dX6_feed_0 : decode cX6_feed 0 = .ok (.iload_n 1, 1) := by decide +kernel
theorem dX6_feed_1 : decode cX6_feed 1 = .ok (.iconst 1, 1) := by decide +kernel
theorem dX6_feed_2 : decode cX6_feed 2 = .ok (.if_icmp .lt 8, 3) := by decide +kernel
theorem dX6_feed_5 : decode cX6_feed 5 = .ok (.iload_n 1, 1) := by decide +kernel
theorem dX6_feed_6 : decode cX6_feed 6 = .ok (.iconst 5, 1) := by decide +kernel
theorem dX6_feed_7 : decode cX6_feed 7 = .ok (.if_icmp .le 6, 3) := by decide +kernel
theorem dX6_feed_10 : decode cX6_feed 10 = .ok (.bipush (-2), 2) := by decide +kernel
theorem dX6_feed_12 : decode cX6_feed 12 = .ok (.ireturn, 1) := by decide +kernel
theorem dX6_feed_13 : decode cX6_feed 13 = .ok (.iload_n 2, 1) := by decide +kernel
theorem dX6_feed_14 : decode cX6_feed 14 = .ok (.invokestatic 51, 3) := by decide +kernel
theorem dX6_feed_17 : decode cX6_feed 17 = .ok (.ifCond .eq 34, 3) := by decide +kernel
theorem dX6_feed_20 : decode cX6_feed 20 = .ok (.iload_n 3, 1) := by decide +kernel
theorem dX6_feed_21 : decode cX6_feed 21 = .ok (.invokestatic 51, 3) := by decide +kernel
theorem dX6_feed_24 : decode cX6_feed 24 = .ok (.ifCond .eq 27, 3) := by decide +kernel
theorem dX6_feed_27 : decode cX6_feed 27 = .ok (.iload 4, 2) := by decide +kernel
theorem dX6_feed_29 : decode cX6_feed 29 = .ok (.invokestatic 51, 3) := by decide +kernel
theorem dX6_feed_32 : decode cX6_feed 32 = .ok (.ifCond .eq 19, 3) := by decide +kernel
theorem dX6_feed_35 : decode cX6_feed 35 = .ok (.iload 5, 2) := by decide +kernel
theorem dX6_feed_37 : decode cX6_feed 37 = .ok (.invokestatic 51, 3) := by decide +kernel
theorem dX6_feed_40 : decode cX6_feed 40 = .ok (.ifCond .eq 11, 3) := by decide +kernel
theorem dX6_feed_43 : decode cX6_feed 43 = .ok (.iload 6, 2) := by decide +kernel
theorem dX6_feed_45 : decode cX6_feed 45 = .ok (.invokestatic 51, 3) := by decide +kernel
theorem dX6_feed_48 : decode cX6_feed 48 = .ok (.ifCond .ne 6, 3) := by decide +kernel
theorem dX6_feed_51 : decode cX6_feed 51 = .ok (.bipush (-2), 2) := by decide +kernel
theorem dX6_feed_53 : decode cX6_feed 53 = .ok (.ireturn, 1) := by decide +kernel
theorem dX6_feed_54 : decode cX6_feed 54 = .ok (.iload_n 1, 1) := by decide +kernel
theorem dX6_feed_55 : decode cX6_feed 55 = .ok (.bipush 30, 2) := by decide +kernel
theorem dX6_feed_57 : decode cX6_feed 57 = .ok (.aload_n 0, 1) := by decide +kernel
theorem dX6_feed_58 : decode cX6_feed 58 = .ok (.getfield 26, 3) := by decide +kernel
theorem dX6_feed_61 : decode cX6_feed 61 = .ok (.getfield 55, 3) := by decide +kernel
theorem dX6_feed_64 : decode cX6_feed 64 = .ok (.isub, 1) := by decide +kernel
theorem dX6_feed_65 : decode cX6_feed 65 = .ok (.if_icmp .le 6, 3) := by decide +kernel
theorem dX6_feed_68 : decode cX6_feed 68 = .ok (.bipush (-4), 2) := by decide +kernel
theorem dX6_feed_70 : decode cX6_feed 70 = .ok (.ireturn, 1) := by decide +kernel
theorem dX6_feed_71 : decode cX6_feed 71 = .ok (.iconst 0, 1) := by decide +kernel
theorem dX6_feed_72 : decode cX6_feed 72 = .ok (.istore 7, 2) := by decide +kernel
theorem dX6_feed_74 : decode cX6_feed 74 = .ok (.iload 7, 2) := by decide +kernel
theorem dX6_feed_76 : decode cX6_feed 76 = .ok (.iload_n 1, 1) := by decide +kernel
theorem dX6_feed_77 : decode cX6_feed 77 = .ok (.if_icmp .ge 59, 3) := by decide +kernel
theorem dX6_feed_80 : decode cX6_feed 80 = .ok (.aload_n 0, 1) := by decide +kernel
theorem dX6_feed_81 : decode cX6_feed 81 = .ok (.getfield 26, 3) := by decide +kernel
theorem dX6_feed_84 : decode cX6_feed 84 = .ok (.iload 7, 2) := by decide +kernel
theorem dX6_feed_86 : decode cX6_feed 86 = .ok (.ifCond .ne 7, 3) := by decide +kernel
theorem dX6_feed_89 : decode cX6_feed 89 = .ok (.iload_n 2, 1) := by decide +kernel
theorem dX6_feed_90 : decode cX6_feed 90 = .ok (.goto 37, 3) := by decide +kernel
theorem dX6_feed_93 : decode cX6_feed 93 = .ok (.iload 7, 2) := by decide +kernel
theorem dX6_feed_95 : decode cX6_feed 95 = .ok (.iconst 1, 1) := by decide +kernel
theorem dX6_feed_96 : decode cX6_feed 96 = .ok (.if_icmp .ne 7, 3) := by decide +kernel
theorem dX6_feed_99 : decode cX6_feed 99 = .ok (.iload_n 3, 1) := by decide +kernel
theorem dX6_feed_100 : decode cX6_feed 100 = .ok (.goto 27, 3) := by decide +kernel
theorem dX6_feed_103 : decode cX6_feed 103 = .ok (.iload 7, 2) := by decide +kernel
theorem dX6_feed_105 : decode cX6_feed 105 = .ok (.iconst 2, 1) := by decide +kernel
theorem dX6_feed_106 : decode cX6_feed 106 = .ok (.if_icmp .ne 8, 3) := by decide +kernel
theorem dX6_feed_109 : decode cX6_feed 109 = .ok (.iload 4, 2) := by decide +kernel
theorem dX6_feed_111 : decode cX6_feed 111 = .ok (.goto 16, 3) := by decide +kernel
theorem dX6_feed_114 : decode cX6_feed 114 = .ok (.iload 7, 2) := by decide +kernel
theorem dX6_feed_116 : decode cX6_feed 116 = .ok (.iconst 3, 1) := by decide +kernel
theorem dX6_feed_117 : decode cX6_feed 117 = .ok (.if_icmp .ne 8, 3) := by decide +kernel
theorem dX6_feed_120 : decode cX6_feed 120 = .ok (.iload 5, 2) := by decide +kernel
theorem dX6_feed_122 : decode cX6_feed 122 = .ok (.goto 5, 3) := by decide +kernel
theorem dX6_feed_125 : decode cX6_feed 125 = .ok (.iload 6, 2) := by decide +kernel
theorem dX6_feed_127 : decode cX6_feed 127 = .ok (.invokevirtual 59, 3) := by decide +kernel
theorem dX6_feed_130 : decode cX6_feed 130 = .ok (.iinc 7 1, 3) := by decide +kernel
theorem dX6_feed_133 : decode cX6_feed 133 = .ok (.goto (-59), 3) := by decide +kernel
theorem dX6_feed_136 : decode cX6_feed 136 = .ok (.aload_n 0, 1) := by decide +kernel
theorem dX6_feed_137 : decode cX6_feed 137 = .ok (.getfield 26, 3) := by decide +kernel
theorem dX6_feed_140 : decode cX6_feed 140 = .ok (.getfield 55, 3) := by decide +kernel
theorem dX6_feed_143 : decode cX6_feed 143 = .ok (.ireturn, 1) := by decide +kernel
theorem dX6_text_0 : decode cX6_text 0 = .ok (.aload_n 0, 1) := by decide +kernel
theorem dX6_text_1 : decode cX6_text 1 = .ok (.invokevirtual 63, 3) := by decide +kernel
theorem dX6_text_4 : decode cX6_text 4 = .ok (.istore_n 1, 1) := by decide +kernel
theorem dX6_text_5 : decode cX6_text 5 = .ok (.aload_n 0, 1) := by decide +kernel
theorem dX6_text_6 : decode cX6_text 6 = .ok (.getfield 26, 3) := by decide +kernel
theorem dX6_text_9 : decode cX6_text 9 = .ok (.invokevirtual 67, 3) := by decide +kernel
theorem dX6_text_12 : decode cX6_text 12 = .ok (.iload_n 1, 1) := by decide +kernel
theorem dX6_text_13 : decode cX6_text 13 = .ok (.ireturn, 1) := by decide +kernel
theorem dX6_named_0 : decode cX6_named 0 = .ok (.aload_n 0, 1) := by decide +kernel
theorem dX6_named_1 : decode cX6_named 1 = .ok (.getfield 10, 3) := by decide +kernel
theorem dX6_named_4 : decode cX6_named 4 = .ok (.aload_n 0, 1) := by decide +kernel
theorem dX6_named_5 : decode cX6_named 5 = .ok (.getfield 26, 3) := by decide +kernel
theorem dX6_named_8 : decode cX6_named 8 = .ok (.invokevirtual 70, 3) := by decide +kernel
theorem dX6_named_11 : decode cX6_named 11 = .ok (.invokevirtual 73, 3) := by decide +kernel
theorem dX6_named_14 : decode cX6_named 14 = .ok (.istore_n 1, 1) := by decide +kernel
theorem dX6_named_15 : decode cX6_named 15 = .ok (.aload_n 0, 1) := by decide +kernel
theorem dX6_named_16 : decode cX6_named 16 = .ok (.getfield 26, 3) := by decide +kernel
theorem dX6_named_19 : decode cX6_named 19 = .ok (.invokevirtual 67, 3) := by decide +kernel
theorem dX6_named_22 : decode cX6_named 22 = .ok (.iload_n 1, 1) := by decide +kernel
theorem dX6_named_23 : decode cX6_named 23 = .ok (.ireturn, 1) := by decide +kernel
theorem dX6_bar_0 : decode cX6_bar 0 = .ok (.aload_n 0, 1) := by decide +kernel
theorem dX6_bar_1 : decode cX6_bar 1 = .ok (.iload_n 1, 1) := by decide +kernel
theorem dX6_bar_2 : decode cX6_bar 2 = .ok (.iload_n 2, 1) := by decide +kernel
theorem dX6_bar_3 : decode cX6_bar 3 = .ok (.invokevirtual 77, 3) := by decide +kernel
theorem dX6_bar_6 : decode cX6_bar 6 = .ok (.ifCond .ne 6, 3) := by decide +kernel
theorem dX6_bar_9 : decode cX6_bar 9 = .ok (.bipush (-2), 2) := by decide +kernel
theorem dX6_bar_11 : decode cX6_bar 11 = .ok (.ireturn, 1) := by decide +kernel
theorem dX6_bar_12 : decode cX6_bar 12 = .ok (.aload_n 0, 1) := by decide +kernel
theorem dX6_bar_13 : decode cX6_bar 13 = .ok (.getfield 10, 3) := by decide +kernel
theorem dX6_bar_16 : decode cX6_bar 16 = .ok (.iload_n 1, 1) := by decide +kernel
theorem dX6_bar_17 : decode cX6_bar 17 = .ok (.iload_n 2, 1) := by decide +kernel
theorem dX6_bar_18 : decode cX6_bar 18 = .ok (.invokevirtual 81, 3) := by decide +kernel
theorem dX6_bar_21 : decode cX6_bar 21 = .ok (.iconst (-1), 1) := by decide +kernel
theorem dX6_bar_22 : decode cX6_bar 22 = .ok (.if_icmp .eq 6, 3) := by decide +kernel
theorem dX6_bar_25 : decode cX6_bar 25 = .ok (.bipush (-3), 2) := by decide +kernel
theorem dX6_bar_27 : decode cX6_bar 27 = .ok (.ireturn, 1) := by decide +kernel
theorem dX6_bar_28 : decode cX6_bar 28 = .ok (.aload_n 0, 1) := by decide +kernel
theorem dX6_bar_29 : decode cX6_bar 29 = .ok (.getfield 10, 3) := by decide +kernel
theorem dX6_bar_32 : decode cX6_bar 32 = .ok (.iload_n 1, 1) := by decide +kernel
theorem dX6_bar_33 : decode cX6_bar 33 = .ok (.iload_n 2, 1) := by decide +kernel
theorem dX6_bar_34 : decode cX6_bar 34 = .ok (.invokevirtual 85, 3) := by decide +kernel
theorem dX6_bar_37 : decode cX6_bar 37 = .ok (.ireturn, 1) := by decide +kernel
theorem dX6_off_0 : decode cX6_off 0 = .ok (.aload_n 0, 1) := by decide +kernel
theorem dX6_off_1 : decode cX6_off 1 = .ok (.iload_n 1, 1) := by decide +kernel
theorem dX6_off_2 : decode cX6_off 2 = .ok (.iload_n 2, 1) := by decide +kernel
theorem dX6_off_3 : decode cX6_off 3 = .ok (.invokevirtual 77, 3) := by decide +kernel
theorem dX6_off_6 : decode cX6_off 6 = .ok (.ifCond .ne 6, 3) := by decide +kernel
theorem dX6_off_9 : decode cX6_off 9 = .ok (.bipush (-2), 2) := by decide +kernel
theorem dX6_off_11 : decode cX6_off 11 = .ok (.ireturn, 1) := by decide +kernel
theorem dX6_off_12 : decode cX6_off 12 = .ok (.aload_n 0, 1) := by decide +kernel
theorem dX6_off_13 : decode cX6_off 13 = .ok (.getfield 10, 3) := by decide +kernel
theorem dX6_off_16 : decode cX6_off 16 = .ok (.iload_n 1, 1) := by decide +kernel
theorem dX6_off_17 : decode cX6_off 17 = .ok (.iload_n 2, 1) := by decide +kernel
theorem dX6_off_18 : decode cX6_off 18 = .ok (.invokevirtual 81, 3) := by decide +kernel
theorem dX6_off_21 : decode cX6_off 21 = .ok (.istore_n 3, 1) := by decide +kernel
theorem dX6_off_22 : decode cX6_off 22 = .ok (.iload_n 3, 1) := by decide +kernel
theorem dX6_off_23 : decode cX6_off 23 = .ok (.iconst (-1), 1) := by decide +kernel
theorem dX6_off_24 : decode cX6_off 24 = .ok (.if_icmp .ne 6, 3) := by decide +kernel
theorem dX6_off_27 : decode cX6_off 27 = .ok (.bipush (-3), 2) := by decide +kernel
theorem dX6_off_29 : decode cX6_off 29 = .ok (.ireturn, 1) := by decide +kernel
theorem dX6_off_30 : decode cX6_off 30 = .ok (.aload_n 0, 1) := by decide +kernel
theorem dX6_off_31 : decode cX6_off 31 = .ok (.getfield 10, 3) := by decide +kernel
theorem dX6_off_34 : decode cX6_off 34 = .ok (.iload_n 3, 1) := by decide +kernel
theorem dX6_off_35 : decode cX6_off 35 = .ok (.invokevirtual 88, 3) := by decide +kernel
theorem dX6_off_38 : decode cX6_off 38 = .ok (.iload_n 3, 1) := by decide +kernel
theorem dX6_off_39 : decode cX6_off 39 = .ok (.ireturn, 1) := by decide +kernel
theorem dX6_told_0 : decode cX6_told 0 = .ok (.aload_n 0, 1) := by decide +kernel
theorem dX6_told_1 : decode cX6_told 1 = .ok (.getfield 33, 3) := by decide +kernel
theorem dX6_told_4 : decode cX6_told 4 = .ok (.aload_n 0, 1) := by decide +kernel
theorem dX6_told_5 : decode cX6_told 5 = .ok (.getfield 10, 3) := by decide +kernel
theorem dX6_told_8 : decode cX6_told 8 = .ok (.invokevirtual 91, 3) := by decide +kernel
theorem dX6_told_11 : decode cX6_told 11 = .ok (.iload_n 1, 1) := by decide +kernel
theorem dX6_told_12 : decode cX6_told 12 = .ok (.tableswitch 158 0 8 #[52, 60, 68, 76, 84, 100, 116, 138, 150], 52) := by decide +kernel
theorem dX6_told_64 : decode cX6_told 64 = .ok (.aload_n 0, 1) := by decide +kernel
theorem dX6_told_65 : decode cX6_told 65 = .ok (.getfield 10, 3) := by decide +kernel
theorem dX6_told_68 : decode cX6_told 68 = .ok (.getfield 95, 3) := by decide +kernel
theorem dX6_told_71 : decode cX6_told 71 = .ok (.ireturn, 1) := by decide +kernel
theorem dX6_told_72 : decode cX6_told 72 = .ok (.aload_n 0, 1) := by decide +kernel
theorem dX6_told_73 : decode cX6_told 73 = .ok (.getfield 10, 3) := by decide +kernel
theorem dX6_told_76 : decode cX6_told 76 = .ok (.getfield 98, 3) := by decide +kernel
theorem dX6_told_79 : decode cX6_told 79 = .ok (.ireturn, 1) := by decide +kernel
theorem dX6_told_80 : decode cX6_told 80 = .ok (.aload_n 0, 1) := by decide +kernel
theorem dX6_told_81 : decode cX6_told 81 = .ok (.getfield 33, 3) := by decide +kernel
theorem dX6_told_84 : decode cX6_told 84 = .ok (.getfield 101, 3) := by decide +kernel
theorem dX6_told_87 : decode cX6_told 87 = .ok (.ireturn, 1) := by decide +kernel
theorem dX6_told_88 : decode cX6_told 88 = .ok (.aload_n 0, 1) := by decide +kernel
theorem dX6_told_89 : decode cX6_told 89 = .ok (.getfield 33, 3) := by decide +kernel
theorem dX6_told_92 : decode cX6_told 92 = .ok (.getfield 104, 3) := by decide +kernel
theorem dX6_told_95 : decode cX6_told 95 = .ok (.ireturn, 1) := by decide +kernel
theorem dX6_told_96 : decode cX6_told 96 = .ok (.aload_n 0, 1) := by decide +kernel
theorem dX6_told_97 : decode cX6_told 97 = .ok (.getfield 33, 3) := by decide +kernel
theorem dX6_told_100 : decode cX6_told 100 = .ok (.getfield 107, 3) := by decide +kernel
theorem dX6_told_103 : decode cX6_told 103 = .ok (.ifCond .eq 7, 3) := by decide +kernel
theorem dX6_told_106 : decode cX6_told 106 = .ok (.iconst 1, 1) := by decide +kernel
theorem dX6_told_107 : decode cX6_told 107 = .ok (.goto 4, 3) := by decide +kernel
theorem dX6_told_110 : decode cX6_told 110 = .ok (.iconst 0, 1) := by decide +kernel
theorem dX6_told_111 : decode cX6_told 111 = .ok (.ireturn, 1) := by decide +kernel
theorem dX6_told_112 : decode cX6_told 112 = .ok (.aload_n 0, 1) := by decide +kernel
theorem dX6_told_113 : decode cX6_told 113 = .ok (.getfield 10, 3) := by decide +kernel
theorem dX6_told_116 : decode cX6_told 116 = .ok (.getfield 98, 3) := by decide +kernel
theorem dX6_told_119 : decode cX6_told 119 = .ok (.aload_n 0, 1) := by decide +kernel
theorem dX6_told_120 : decode cX6_told 120 = .ok (.getfield 33, 3) := by decide +kernel
theorem dX6_told_123 : decode cX6_told 123 = .ok (.getfield 101, 3) := by decide +kernel
theorem dX6_told_126 : decode cX6_told 126 = .ok (.isub, 1) := by decide +kernel
theorem dX6_told_127 : decode cX6_told 127 = .ok (.ireturn, 1) := by decide +kernel
theorem dX6_told_128 : decode cX6_told 128 = .ok (.aload_n 0, 1) := by decide +kernel
theorem dX6_told_129 : decode cX6_told 129 = .ok (.getfield 33, 3) := by decide +kernel
theorem dX6_told_132 : decode cX6_told 132 = .ok (.aload_n 0, 1) := by decide +kernel
theorem dX6_told_133 : decode cX6_told 133 = .ok (.getfield 10, 3) := by decide +kernel
theorem dX6_told_136 : decode cX6_told 136 = .ok (.getfield 95, 3) := by decide +kernel
theorem dX6_told_139 : decode cX6_told 139 = .ok (.invokevirtual 110, 3) := by decide +kernel
theorem dX6_told_142 : decode cX6_told 142 = .ok (.aload_n 0, 1) := by decide +kernel
theorem dX6_told_143 : decode cX6_told 143 = .ok (.getfield 33, 3) := by decide +kernel
theorem dX6_told_146 : decode cX6_told 146 = .ok (.getfield 113, 3) := by decide +kernel
theorem dX6_told_149 : decode cX6_told 149 = .ok (.ireturn, 1) := by decide +kernel
theorem dX6_told_150 : decode cX6_told 150 = .ok (.aload_n 0, 1) := by decide +kernel
theorem dX6_told_151 : decode cX6_told 151 = .ok (.getfield 33, 3) := by decide +kernel
theorem dX6_told_154 : decode cX6_told 154 = .ok (.aload_n 0, 1) := by decide +kernel
theorem dX6_told_155 : decode cX6_told 155 = .ok (.getfield 10, 3) := by decide +kernel
theorem dX6_told_158 : decode cX6_told 158 = .ok (.invokevirtual 116, 3) := by decide +kernel
theorem dX6_told_161 : decode cX6_told 161 = .ok (.ireturn, 1) := by decide +kernel
theorem dX6_told_162 : decode cX6_told 162 = .ok (.aload_n 0, 1) := by decide +kernel
theorem dX6_told_163 : decode cX6_told 163 = .ok (.getfield 26, 3) := by decide +kernel
theorem dX6_told_166 : decode cX6_told 166 = .ok (.getfield 55, 3) := by decide +kernel
theorem dX6_told_169 : decode cX6_told 169 = .ok (.ireturn, 1) := by decide +kernel
theorem dX6_told_170 : decode cX6_told 170 = .ok (.bipush (-2), 2) := by decide +kernel
theorem dX6_told_172 : decode cX6_told 172 = .ok (.ireturn, 1) := by decide +kernel
theorem dX6_barAt_0 : decode cX6_barAt 0 = .ok (.iload_n 2, 1) := by decide +kernel
theorem dX6_barAt_1 : decode cX6_barAt 1 = .ok (.ifCond .lt 8, 3) := by decide +kernel
theorem dX6_barAt_4 : decode cX6_barAt 4 = .ok (.iload_n 2, 1) := by decide +kernel
theorem dX6_barAt_5 : decode cX6_barAt 5 = .ok (.iconst 3, 1) := by decide +kernel
theorem dX6_barAt_6 : decode cX6_barAt 6 = .ok (.if_icmp .le 6, 3) := by decide +kernel
theorem dX6_barAt_9 : decode cX6_barAt 9 = .ok (.bipush (-2), 2) := by decide +kernel
theorem dX6_barAt_11 : decode cX6_barAt 11 = .ok (.ireturn, 1) := by decide +kernel
theorem dX6_barAt_12 : decode cX6_barAt 12 = .ok (.aload_n 0, 1) := by decide +kernel
theorem dX6_barAt_13 : decode cX6_barAt 13 = .ok (.iload_n 1, 1) := by decide +kernel
theorem dX6_barAt_14 : decode cX6_barAt 14 = .ok (.invokevirtual 120, 3) := by decide +kernel
theorem dX6_barAt_17 : decode cX6_barAt 17 = .ok (.ifCond .ne 6, 3) := by decide +kernel
theorem dX6_barAt_20 : decode cX6_barAt 20 = .ok (.bipush (-12), 2) := by decide +kernel
theorem dX6_barAt_22 : decode cX6_barAt 22 = .ok (.ireturn, 1) := by decide +kernel
theorem dX6_barAt_23 : decode cX6_barAt 23 = .ok (.iload_n 2, 1) := by decide +kernel
theorem dX6_barAt_24 : decode cX6_barAt 24 = .ok (.tableswitch 71 0 2 #[28, 38, 48], 28) := by decide +kernel
theorem dX6_barAt_52 : decode cX6_barAt 52 = .ok (.aload_n 0, 1) := by decide +kernel
theorem dX6_barAt_53 : decode cX6_barAt 53 = .ok (.getfield 10, 3) := by decide +kernel
theorem dX6_barAt_56 : decode cX6_barAt 56 = .ok (.getfield 123, 3) := by decide +kernel
theorem dX6_barAt_59 : decode cX6_barAt 59 = .ok (.iload_n 1, 1) := by decide +kernel
theorem dX6_barAt_60 : decode cX6_barAt 60 = .ok (.iaload, 1) := by decide +kernel
theorem dX6_barAt_61 : decode cX6_barAt 61 = .ok (.ireturn, 1) := by decide +kernel
theorem dX6_barAt_62 : decode cX6_barAt 62 = .ok (.aload_n 0, 1) := by decide +kernel
theorem dX6_barAt_63 : decode cX6_barAt 63 = .ok (.getfield 10, 3) := by decide +kernel
theorem dX6_barAt_66 : decode cX6_barAt 66 = .ok (.getfield 127, 3) := by decide +kernel
theorem dX6_barAt_69 : decode cX6_barAt 69 = .ok (.iload_n 1, 1) := by decide +kernel
theorem dX6_barAt_70 : decode cX6_barAt 70 = .ok (.iaload, 1) := by decide +kernel
theorem dX6_barAt_71 : decode cX6_barAt 71 = .ok (.ireturn, 1) := by decide +kernel
theorem dX6_barAt_72 : decode cX6_barAt 72 = .ok (.aload_n 0, 1) := by decide +kernel
theorem dX6_barAt_73 : decode cX6_barAt 73 = .ok (.getfield 33, 3) := by decide +kernel
theorem dX6_barAt_76 : decode cX6_barAt 76 = .ok (.aload_n 0, 1) := by decide +kernel
theorem dX6_barAt_77 : decode cX6_barAt 77 = .ok (.getfield 10, 3) := by decide +kernel
theorem dX6_barAt_80 : decode cX6_barAt 80 = .ok (.invokevirtual 91, 3) := by decide +kernel
theorem dX6_barAt_83 : decode cX6_barAt 83 = .ok (.aload_n 0, 1) := by decide +kernel
theorem dX6_barAt_84 : decode cX6_barAt 84 = .ok (.getfield 33, 3) := by decide +kernel
theorem dX6_barAt_87 : decode cX6_barAt 87 = .ok (.getfield 130, 3) := by decide +kernel
theorem dX6_barAt_90 : decode cX6_barAt 90 = .ok (.iload_n 1, 1) := by decide +kernel
theorem dX6_barAt_91 : decode cX6_barAt 91 = .ok (.ishr, 1) := by decide +kernel
theorem dX6_barAt_92 : decode cX6_barAt 92 = .ok (.iconst 1, 1) := by decide +kernel
theorem dX6_barAt_93 : decode cX6_barAt 93 = .ok (.iand, 1) := by decide +kernel
theorem dX6_barAt_94 : decode cX6_barAt 94 = .ok (.ireturn, 1) := by decide +kernel
theorem dX6_barAt_95 : decode cX6_barAt 95 = .ok (.aload_n 0, 1) := by decide +kernel
theorem dX6_barAt_96 : decode cX6_barAt 96 = .ok (.getfield 33, 3) := by decide +kernel
theorem dX6_barAt_99 : decode cX6_barAt 99 = .ok (.aload_n 0, 1) := by decide +kernel
theorem dX6_barAt_100 : decode cX6_barAt 100 = .ok (.getfield 10, 3) := by decide +kernel
theorem dX6_barAt_103 : decode cX6_barAt 103 = .ok (.iload_n 1, 1) := by decide +kernel
theorem dX6_barAt_104 : decode cX6_barAt 104 = .ok (.invokevirtual 133, 3) := by decide +kernel
theorem dX6_barAt_107 : decode cX6_barAt 107 = .ok (.ifCond .eq 7, 3) := by decide +kernel
theorem dX6_barAt_110 : decode cX6_barAt 110 = .ok (.iconst 1, 1) := by decide +kernel
theorem dX6_barAt_111 : decode cX6_barAt 111 = .ok (.goto 4, 3) := by decide +kernel
theorem dX6_barAt_114 : decode cX6_barAt 114 = .ok (.iconst 0, 1) := by decide +kernel
theorem dX6_barAt_115 : decode cX6_barAt 115 = .ok (.ireturn, 1) := by decide +kernel
theorem dX6_pin_0 : decode cX6_pin 0 = .ok (.aload_n 0, 1) := by decide +kernel
theorem dX6_pin_1 : decode cX6_pin 1 = .ok (.iload_n 1, 1) := by decide +kernel
theorem dX6_pin_2 : decode cX6_pin 2 = .ok (.invokevirtual 137, 3) := by decide +kernel
theorem dX6_pin_5 : decode cX6_pin 5 = .ok (.ifCond .ne 6, 3) := by decide +kernel
theorem dX6_pin_8 : decode cX6_pin 8 = .ok (.bipush (-2), 2) := by decide +kernel
theorem dX6_pin_10 : decode cX6_pin 10 = .ok (.ireturn, 1) := by decide +kernel
theorem dX6_pin_11 : decode cX6_pin 11 = .ok (.iload_n 2, 1) := by decide +kernel
theorem dX6_pin_12 : decode cX6_pin 12 = .ok (.tableswitch 96 0 3 #[32, 44, 53, 87], 32) := by decide +kernel
theorem dX6_pin_44 : decode cX6_pin 44 = .ok (.aload_n 0, 1) := by decide +kernel
theorem dX6_pin_45 : decode cX6_pin 45 = .ok (.getfield 10, 3) := by decide +kernel
theorem dX6_pin_48 : decode cX6_pin 48 = .ok (.iload_n 1, 1) := by decide +kernel
theorem dX6_pin_49 : decode cX6_pin 49 = .ok (.invokevirtual 140, 3) := by decide +kernel
theorem dX6_pin_52 : decode cX6_pin 52 = .ok (.invokestatic 143, 3) := by decide +kernel
theorem dX6_pin_55 : decode cX6_pin 55 = .ok (.ireturn, 1) := by decide +kernel
theorem dX6_pin_56 : decode cX6_pin 56 = .ok (.aload_n 0, 1) := by decide +kernel
theorem dX6_pin_57 : decode cX6_pin 57 = .ok (.getfield 10, 3) := by decide +kernel
theorem dX6_pin_60 : decode cX6_pin 60 = .ok (.iload_n 1, 1) := by decide +kernel
theorem dX6_pin_61 : decode cX6_pin 61 = .ok (.invokevirtual 140, 3) := by decide +kernel
theorem dX6_pin_64 : decode cX6_pin 64 = .ok (.ireturn, 1) := by decide +kernel
theorem dX6_pin_65 : decode cX6_pin 65 = .ok (.aload_n 0, 1) := by decide +kernel
theorem dX6_pin_66 : decode cX6_pin 66 = .ok (.getfield 33, 3) := by decide +kernel
theorem dX6_pin_69 : decode cX6_pin 69 = .ok (.aload_n 0, 1) := by decide +kernel
theorem dX6_pin_70 : decode cX6_pin 70 = .ok (.getfield 10, 3) := by decide +kernel
theorem dX6_pin_73 : decode cX6_pin 73 = .ok (.invokevirtual 91, 3) := by decide +kernel
theorem dX6_pin_76 : decode cX6_pin 76 = .ok (.aload_n 0, 1) := by decide +kernel
theorem dX6_pin_77 : decode cX6_pin 77 = .ok (.getfield 33, 3) := by decide +kernel
theorem dX6_pin_80 : decode cX6_pin 80 = .ok (.aload_n 0, 1) := by decide +kernel
theorem dX6_pin_81 : decode cX6_pin 81 = .ok (.getfield 10, 3) := by decide +kernel
theorem dX6_pin_84 : decode cX6_pin 84 = .ok (.getfield 95, 3) := by decide +kernel
theorem dX6_pin_87 : decode cX6_pin 87 = .ok (.invokevirtual 110, 3) := by decide +kernel
theorem dX6_pin_90 : decode cX6_pin 90 = .ok (.aload_n 0, 1) := by decide +kernel
theorem dX6_pin_91 : decode cX6_pin 91 = .ok (.getfield 33, 3) := by decide +kernel
theorem dX6_pin_94 : decode cX6_pin 94 = .ok (.iload_n 1, 1) := by decide +kernel
theorem dX6_pin_95 : decode cX6_pin 95 = .ok (.invokevirtual 148, 3) := by decide +kernel
theorem dX6_pin_98 : decode cX6_pin 98 = .ok (.ireturn, 1) := by decide +kernel
theorem dX6_pin_99 : decode cX6_pin 99 = .ok (.aload_n 0, 1) := by decide +kernel
theorem dX6_pin_100 : decode cX6_pin 100 = .ok (.getfield 10, 3) := by decide +kernel
theorem dX6_pin_103 : decode cX6_pin 103 = .ok (.iload_n 1, 1) := by decide +kernel
theorem dX6_pin_104 : decode cX6_pin 104 = .ok (.invokevirtual 151, 3) := by decide +kernel
theorem dX6_pin_107 : decode cX6_pin 107 = .ok (.ireturn, 1) := by decide +kernel
theorem dX6_pin_108 : decode cX6_pin 108 = .ok (.iload_n 2, 1) := by decide +kernel
theorem dX6_pin_109 : decode cX6_pin 109 = .ok (.bipush 10, 2) := by decide +kernel
theorem dX6_pin_111 : decode cX6_pin 111 = .ok (.if_icmp .lt 9, 3) := by decide +kernel
theorem dX6_pin_114 : decode cX6_pin 114 = .ok (.iload_n 2, 1) := by decide +kernel
theorem dX6_pin_115 : decode cX6_pin 115 = .ok (.bipush 14, 2) := by decide +kernel
theorem dX6_pin_117 : decode cX6_pin 117 = .ok (.if_icmp .lt 6, 3) := by decide +kernel
theorem dX6_pin_120 : decode cX6_pin 120 = .ok (.bipush (-2), 2) := by decide +kernel
theorem dX6_pin_122 : decode cX6_pin 122 = .ok (.ireturn, 1) := by decide +kernel
theorem dX6_pin_123 : decode cX6_pin 123 = .ok (.aload_n 0, 1) := by decide +kernel
theorem dX6_pin_124 : decode cX6_pin 124 = .ok (.getfield 10, 3) := by decide +kernel
theorem dX6_pin_127 : decode cX6_pin 127 = .ok (.iload_n 1, 1) := by decide +kernel
theorem dX6_pin_128 : decode cX6_pin 128 = .ok (.iload_n 2, 1) := by decide +kernel
theorem dX6_pin_129 : decode cX6_pin 129 = .ok (.bipush 10, 2) := by decide +kernel
theorem dX6_pin_131 : decode cX6_pin 131 = .ok (.isub, 1) := by decide +kernel
theorem dX6_pin_132 : decode cX6_pin 132 = .ok (.invokevirtual 154, 3) := by decide +kernel
theorem dX6_pin_135 : decode cX6_pin 135 = .ok (.ireturn, 1) := by decide +kernel
theorem dX6_between_0 : decode cX6_between 0 = .ok (.aload_n 0, 1) := by decide +kernel
theorem dX6_between_1 : decode cX6_between 1 = .ok (.iload_n 1, 1) := by decide +kernel
theorem dX6_between_2 : decode cX6_between 2 = .ok (.iload_n 2, 1) := by decide +kernel
theorem dX6_between_3 : decode cX6_between 3 = .ok (.invokevirtual 77, 3) := by decide +kernel
theorem dX6_between_6 : decode cX6_between 6 = .ok (.ifCond .ne 6, 3) := by decide +kernel
theorem dX6_between_9 : decode cX6_between 9 = .ok (.bipush (-2), 2) := by decide +kernel
theorem dX6_between_11 : decode cX6_between 11 = .ok (.ireturn, 1) := by decide +kernel
theorem dX6_between_12 : decode cX6_between 12 = .ok (.aload_n 0, 1) := by decide +kernel
theorem dX6_between_13 : decode cX6_between 13 = .ok (.getfield 10, 3) := by decide +kernel
theorem dX6_between_16 : decode cX6_between 16 = .ok (.iload_n 1, 1) := by decide +kernel
theorem dX6_between_17 : decode cX6_between 17 = .ok (.iload_n 2, 1) := by decide +kernel
theorem dX6_between_18 : decode cX6_between 18 = .ok (.invokevirtual 81, 3) := by decide +kernel
theorem dX6_between_21 : decode cX6_between 21 = .ok (.ireturn, 1) := by decide +kernel
theorem dX6_tied_0 : decode cX6_tied 0 = .ok (.aload_n 0, 1) := by decide +kernel
theorem dX6_tied_1 : decode cX6_tied 1 = .ok (.iload_n 1, 1) := by decide +kernel
theorem dX6_tied_2 : decode cX6_tied 2 = .ok (.iload_n 2, 1) := by decide +kernel
theorem dX6_tied_3 : decode cX6_tied 3 = .ok (.invokevirtual 77, 3) := by decide +kernel
theorem dX6_tied_6 : decode cX6_tied 6 = .ok (.ifCond .ne 6, 3) := by decide +kernel
theorem dX6_tied_9 : decode cX6_tied 9 = .ok (.bipush (-2), 2) := by decide +kernel
theorem dX6_tied_11 : decode cX6_tied 11 = .ok (.ireturn, 1) := by decide +kernel
theorem dX6_tied_12 : decode cX6_tied 12 = .ok (.aload_n 0, 1) := by decide +kernel
theorem dX6_tied_13 : decode cX6_tied 13 = .ok (.getfield 33, 3) := by decide +kernel
theorem dX6_tied_16 : decode cX6_tied 16 = .ok (.aload_n 0, 1) := by decide +kernel
theorem dX6_tied_17 : decode cX6_tied 17 = .ok (.getfield 10, 3) := by decide +kernel
theorem dX6_tied_20 : decode cX6_tied 20 = .ok (.invokevirtual 91, 3) := by decide +kernel
theorem dX6_tied_23 : decode cX6_tied 23 = .ok (.aload_n 0, 1) := by decide +kernel
theorem dX6_tied_24 : decode cX6_tied 24 = .ok (.getfield 33, 3) := by decide +kernel
theorem dX6_tied_27 : decode cX6_tied 27 = .ok (.iload_n 1, 1) := by decide +kernel
theorem dX6_tied_28 : decode cX6_tied 28 = .ok (.iload_n 2, 1) := by decide +kernel
theorem dX6_tied_29 : decode cX6_tied 29 = .ok (.invokevirtual 157, 3) := by decide +kernel
theorem dX6_tied_32 : decode cX6_tied 32 = .ok (.ifCond .eq 7, 3) := by decide +kernel
theorem dX6_tied_35 : decode cX6_tied 35 = .ok (.iconst 1, 1) := by decide +kernel
theorem dX6_tied_36 : decode cX6_tied 36 = .ok (.goto 4, 3) := by decide +kernel
theorem dX6_tied_39 : decode cX6_tied 39 = .ok (.iconst 0, 1) := by decide +kernel
theorem dX6_tied_40 : decode cX6_tied 40 = .ok (.ireturn, 1) := by decide +kernel
theorem dX6_part_0 : decode cX6_part 0 = .ok (.aload_n 0, 1) := by decide +kernel
theorem dX6_part_1 : decode cX6_part 1 = .ok (.getfield 33, 3) := by decide +kernel
theorem dX6_part_4 : decode cX6_part 4 = .ok (.aload_n 0, 1) := by decide +kernel
theorem dX6_part_5 : decode cX6_part 5 = .ok (.getfield 10, 3) := by decide +kernel
theorem dX6_part_8 : decode cX6_part 8 = .ok (.invokevirtual 91, 3) := by decide +kernel
theorem dX6_part_11 : decode cX6_part 11 = .ok (.aload_n 0, 1) := by decide +kernel
theorem dX6_part_12 : decode cX6_part 12 = .ok (.getfield 33, 3) := by decide +kernel
theorem dX6_part_15 : decode cX6_part 15 = .ok (.aload_n 0, 1) := by decide +kernel
theorem dX6_part_16 : decode cX6_part 16 = .ok (.getfield 10, 3) := by decide +kernel
theorem dX6_part_19 : decode cX6_part 19 = .ok (.getfield 95, 3) := by decide +kernel
theorem dX6_part_22 : decode cX6_part 22 = .ok (.invokevirtual 110, 3) := by decide +kernel
theorem dX6_part_25 : decode cX6_part 25 = .ok (.iload_n 1, 1) := by decide +kernel
theorem dX6_part_26 : decode cX6_part 26 = .ok (.ifCond .lt 14, 3) := by decide +kernel
theorem dX6_part_29 : decode cX6_part 29 = .ok (.iload_n 1, 1) := by decide +kernel
theorem dX6_part_30 : decode cX6_part 30 = .ok (.aload_n 0, 1) := by decide +kernel
theorem dX6_part_31 : decode cX6_part 31 = .ok (.getfield 33, 3) := by decide +kernel
theorem dX6_part_34 : decode cX6_part 34 = .ok (.getfield 113, 3) := by decide +kernel
theorem dX6_part_37 : decode cX6_part 37 = .ok (.if_icmp .lt 6, 3) := by decide +kernel
theorem dX6_part_40 : decode cX6_part 40 = .ok (.bipush (-12), 2) := by decide +kernel
theorem dX6_part_42 : decode cX6_part 42 = .ok (.ireturn, 1) := by decide +kernel
theorem dX6_part_43 : decode cX6_part 43 = .ok (.aload_n 0, 1) := by decide +kernel
theorem dX6_part_44 : decode cX6_part 44 = .ok (.getfield 33, 3) := by decide +kernel
theorem dX6_part_47 : decode cX6_part 47 = .ok (.getfield 160, 3) := by decide +kernel
theorem dX6_part_50 : decode cX6_part 50 = .ok (.iload_n 1, 1) := by decide +kernel
theorem dX6_part_51 : decode cX6_part 51 = .ok (.iaload, 1) := by decide +kernel
theorem dX6_part_52 : decode cX6_part 52 = .ok (.ireturn, 1) := by decide +kernel
theorem dX6_ring_0 : decode cX6_ring 0 = .ok (.aload_n 0, 1) := by decide +kernel
theorem dX6_ring_1 : decode cX6_ring 1 = .ok (.iload_n 1, 1) := by decide +kernel
theorem dX6_ring_2 : decode cX6_ring 2 = .ok (.invokevirtual 120, 3) := by decide +kernel
theorem dX6_ring_5 : decode cX6_ring 5 = .ok (.ifCond .ne 6, 3) := by decide +kernel
theorem dX6_ring_8 : decode cX6_ring 8 = .ok (.bipush (-12), 2) := by decide +kernel
theorem dX6_ring_10 : decode cX6_ring 10 = .ok (.ireturn, 1) := by decide +kernel
theorem dX6_ring_11 : decode cX6_ring 11 = .ok (.aload_n 0, 1) := by decide +kernel
theorem dX6_ring_12 : decode cX6_ring 12 = .ok (.getfield 33, 3) := by decide +kernel
theorem dX6_ring_15 : decode cX6_ring 15 = .ok (.aload_n 0, 1) := by decide +kernel
theorem dX6_ring_16 : decode cX6_ring 16 = .ok (.getfield 10, 3) := by decide +kernel
theorem dX6_ring_19 : decode cX6_ring 19 = .ok (.invokevirtual 91, 3) := by decide +kernel
theorem dX6_ring_22 : decode cX6_ring 22 = .ok (.aload_n 0, 1) := by decide +kernel
theorem dX6_ring_23 : decode cX6_ring 23 = .ok (.getfield 33, 3) := by decide +kernel
theorem dX6_ring_26 : decode cX6_ring 26 = .ok (.getfield 130, 3) := by decide +kernel
theorem dX6_ring_29 : decode cX6_ring 29 = .ok (.iload_n 1, 1) := by decide +kernel
theorem dX6_ring_30 : decode cX6_ring 30 = .ok (.ishr, 1) := by decide +kernel
theorem dX6_ring_31 : decode cX6_ring 31 = .ok (.iconst 1, 1) := by decide +kernel
theorem dX6_ring_32 : decode cX6_ring 32 = .ok (.iand, 1) := by decide +kernel
theorem dX6_ring_33 : decode cX6_ring 33 = .ok (.iconst 1, 1) := by decide +kernel
theorem dX6_ring_34 : decode cX6_ring 34 = .ok (.if_icmp .ne 6, 3) := by decide +kernel
theorem dX6_ring_37 : decode cX6_ring 37 = .ok (.bipush (-3), 2) := by decide +kernel
theorem dX6_ring_39 : decode cX6_ring 39 = .ok (.ireturn, 1) := by decide +kernel
theorem dX6_ring_40 : decode cX6_ring 40 = .ok (.aload_n 0, 1) := by decide +kernel
theorem dX6_ring_41 : decode cX6_ring 41 = .ok (.getfield 33, 3) := by decide +kernel
theorem dX6_ring_44 : decode cX6_ring 44 = .ok (.aload_n 0, 1) := by decide +kernel
theorem dX6_ring_45 : decode cX6_ring 45 = .ok (.getfield 10, 3) := by decide +kernel
theorem dX6_ring_48 : decode cX6_ring 48 = .ok (.iload_n 1, 1) := by decide +kernel
theorem dX6_ring_49 : decode cX6_ring 49 = .ok (.invokevirtual 163, 3) := by decide +kernel
theorem dX6_ring_52 : decode cX6_ring 52 = .ok (.ireturn, 1) := by decide +kernel
theorem dX6_worst_0 : decode cX6_worst 0 = .ok (.iload_n 1, 1) := by decide +kernel
theorem dX6_worst_1 : decode cX6_worst 1 = .ok (.ifCond .eq 11, 3) := by decide +kernel
theorem dX6_worst_4 : decode cX6_worst 4 = .ok (.iload_n 1, 1) := by decide +kernel
theorem dX6_worst_5 : decode cX6_worst 5 = .ok (.iconst 1, 1) := by decide +kernel
theorem dX6_worst_6 : decode cX6_worst 6 = .ok (.if_icmp .eq 6, 3) := by decide +kernel
theorem dX6_worst_9 : decode cX6_worst 9 = .ok (.bipush (-2), 2) := by decide +kernel
theorem dX6_worst_11 : decode cX6_worst 11 = .ok (.ireturn, 1) := by decide +kernel
theorem dX6_worst_12 : decode cX6_worst 12 = .ok (.aload_n 0, 1) := by decide +kernel
theorem dX6_worst_13 : decode cX6_worst 13 = .ok (.getfield 10, 3) := by decide +kernel
theorem dX6_worst_16 : decode cX6_worst 16 = .ok (.getfield 95, 3) := by decide +kernel
theorem dX6_worst_19 : decode cX6_worst 19 = .ok (.iconst 2, 1) := by decide +kernel
theorem dX6_worst_20 : decode cX6_worst 20 = .ok (.if_icmp .ge 6, 3) := by decide +kernel
theorem dX6_worst_23 : decode cX6_worst 23 = .ok (.bipush (-3), 2) := by decide +kernel
theorem dX6_worst_25 : decode cX6_worst 25 = .ok (.ireturn, 1) := by decide +kernel
theorem dX6_worst_26 : decode cX6_worst 26 = .ok (.aload_n 0, 1) := by decide +kernel
theorem dX6_worst_27 : decode cX6_worst 27 = .ok (.getfield 33, 3) := by decide +kernel
theorem dX6_worst_30 : decode cX6_worst 30 = .ok (.aload_n 0, 1) := by decide +kernel
theorem dX6_worst_31 : decode cX6_worst 31 = .ok (.getfield 10, 3) := by decide +kernel
theorem dX6_worst_34 : decode cX6_worst 34 = .ok (.invokevirtual 167, 3) := by decide +kernel
theorem dX6_worst_37 : decode cX6_worst 37 = .ok (.iload_n 1, 1) := by decide +kernel
theorem dX6_worst_38 : decode cX6_worst 38 = .ok (.ifCond .ne 17, 3) := by decide +kernel
theorem dX6_worst_41 : decode cX6_worst 41 = .ok (.sipush 1000, 3) := by decide +kernel
theorem dX6_worst_44 : decode cX6_worst 44 = .ok (.aload_n 0, 1) := by decide +kernel
theorem dX6_worst_45 : decode cX6_worst 45 = .ok (.getfield 33, 3) := by decide +kernel
theorem dX6_worst_48 : decode cX6_worst 48 = .ok (.getfield 170, 3) := by decide +kernel
theorem dX6_worst_51 : decode cX6_worst 51 = .ok (.iadd, 1) := by decide +kernel
theorem dX6_worst_52 : decode cX6_worst 52 = .ok (.goto 10, 3) := by decide +kernel
theorem dX6_worst_55 : decode cX6_worst 55 = .ok (.aload_n 0, 1) := by decide +kernel
theorem dX6_worst_56 : decode cX6_worst 56 = .ok (.getfield 33, 3) := by decide +kernel
theorem dX6_worst_59 : decode cX6_worst 59 = .ok (.getfield 173, 3) := by decide +kernel
theorem dX6_worst_62 : decode cX6_worst 62 = .ok (.ireturn, 1) := by decide +kernel
theorem dX6_without_0 : decode cX6_without 0 = .ok (.aload_n 0, 1) := by decide +kernel
theorem dX6_without_1 : decode cX6_without 1 = .ok (.iload_n 1, 1) := by decide +kernel
theorem dX6_without_2 : decode cX6_without 2 = .ok (.invokevirtual 120, 3) := by decide +kernel
theorem dX6_without_5 : decode cX6_without 5 = .ok (.ifCond .ne 6, 3) := by decide +kernel
theorem dX6_without_8 : decode cX6_without 8 = .ok (.bipush (-12), 2) := by decide +kernel
theorem dX6_without_10 : decode cX6_without 10 = .ok (.ireturn, 1) := by decide +kernel
theorem dX6_without_11 : decode cX6_without 11 = .ok (.aload_n 0, 1) := by decide +kernel
theorem dX6_without_12 : decode cX6_without 12 = .ok (.getfield 33, 3) := by decide +kernel
theorem dX6_without_15 : decode cX6_without 15 = .ok (.aload_n 0, 1) := by decide +kernel
theorem dX6_without_16 : decode cX6_without 16 = .ok (.getfield 10, 3) := by decide +kernel
theorem dX6_without_19 : decode cX6_without 19 = .ok (.iload_n 1, 1) := by decide +kernel
theorem dX6_without_20 : decode cX6_without 20 = .ok (.invokevirtual 176, 3) := by decide +kernel
theorem dX6_without_23 : decode cX6_without 23 = .ok (.ireturn, 1) := by decide +kernel
theorem dX6_with_0 : decode cX6_with 0 = .ok (.aload_n 0, 1) := by decide +kernel
theorem dX6_with_1 : decode cX6_with 1 = .ok (.iload_n 1, 1) := by decide +kernel
theorem dX6_with_2 : decode cX6_with 2 = .ok (.iload_n 2, 1) := by decide +kernel
theorem dX6_with_3 : decode cX6_with 3 = .ok (.invokevirtual 77, 3) := by decide +kernel
theorem dX6_with_6 : decode cX6_with 6 = .ok (.ifCond .ne 6, 3) := by decide +kernel
theorem dX6_with_9 : decode cX6_with 9 = .ok (.bipush (-2), 2) := by decide +kernel
theorem dX6_with_11 : decode cX6_with 11 = .ok (.ireturn, 1) := by decide +kernel
theorem dX6_with_12 : decode cX6_with 12 = .ok (.aload_n 0, 1) := by decide +kernel
theorem dX6_with_13 : decode cX6_with 13 = .ok (.getfield 33, 3) := by decide +kernel
theorem dX6_with_16 : decode cX6_with 16 = .ok (.aload_n 0, 1) := by decide +kernel
theorem dX6_with_17 : decode cX6_with 17 = .ok (.getfield 10, 3) := by decide +kernel
theorem dX6_with_20 : decode cX6_with 20 = .ok (.invokevirtual 91, 3) := by decide +kernel
theorem dX6_with_23 : decode cX6_with 23 = .ok (.aload_n 0, 1) := by decide +kernel
theorem dX6_with_24 : decode cX6_with 24 = .ok (.getfield 33, 3) := by decide +kernel
theorem dX6_with_27 : decode cX6_with 27 = .ok (.iload_n 1, 1) := by decide +kernel
theorem dX6_with_28 : decode cX6_with 28 = .ok (.iload_n 2, 1) := by decide +kernel
theorem dX6_with_29 : decode cX6_with 29 = .ok (.invokevirtual 157, 3) := by decide +kernel
theorem dX6_with_32 : decode cX6_with 32 = .ok (.ifCond .eq 13, 3) := by decide +kernel
theorem dX6_with_35 : decode cX6_with 35 = .ok (.aload_n 0, 1) := by decide +kernel
theorem dX6_with_36 : decode cX6_with 36 = .ok (.getfield 33, 3) := by decide +kernel
theorem dX6_with_39 : decode cX6_with 39 = .ok (.getfield 104, 3) := by decide +kernel
theorem dX6_with_42 : decode cX6_with 42 = .ok (.goto 12, 3) := by decide +kernel
theorem dX6_with_45 : decode cX6_with 45 = .ok (.aload_n 0, 1) := by decide +kernel
theorem dX6_with_46 : decode cX6_with 46 = .ok (.getfield 33, 3) := by decide +kernel
theorem dX6_with_49 : decode cX6_with 49 = .ok (.getfield 104, 3) := by decide +kernel
theorem dX6_with_52 : decode cX6_with 52 = .ok (.iconst 1, 1) := by decide +kernel
theorem dX6_with_53 : decode cX6_with 53 = .ok (.isub, 1) := by decide +kernel
theorem dX6_with_54 : decode cX6_with 54 = .ok (.ireturn, 1) := by decide +kernel
theorem dX6_lacking_0 : decode cX6_lacking 0 = .ok (.iload_n 1, 1) := by decide +kernel
theorem dX6_lacking_1 : decode cX6_lacking 1 = .ok (.iconst (-1), 1) := by decide +kernel
theorem dX6_lacking_2 : decode cX6_lacking 2 = .ok (.if_icmp .ge 6, 3) := by decide +kernel
theorem dX6_lacking_5 : decode cX6_lacking 5 = .ok (.bipush (-12), 2) := by decide +kernel
theorem dX6_lacking_7 : decode cX6_lacking 7 = .ok (.ireturn, 1) := by decide +kernel
theorem dX6_lacking_8 : decode cX6_lacking 8 = .ok (.aload_n 0, 1) := by decide +kernel
theorem dX6_lacking_9 : decode cX6_lacking 9 = .ok (.getfield 33, 3) := by decide +kernel
theorem dX6_lacking_12 : decode cX6_lacking 12 = .ok (.aload_n 0, 1) := by decide +kernel
theorem dX6_lacking_13 : decode cX6_lacking 13 = .ok (.getfield 10, 3) := by decide +kernel
theorem dX6_lacking_16 : decode cX6_lacking 16 = .ok (.invokevirtual 91, 3) := by decide +kernel
theorem dX6_lacking_19 : decode cX6_lacking 19 = .ok (.aload_n 0, 1) := by decide +kernel
theorem dX6_lacking_20 : decode cX6_lacking 20 = .ok (.getfield 33, 3) := by decide +kernel
theorem dX6_lacking_23 : decode cX6_lacking 23 = .ok (.aload_n 0, 1) := by decide +kernel
theorem dX6_lacking_24 : decode cX6_lacking 24 = .ok (.getfield 10, 3) := by decide +kernel
theorem dX6_lacking_27 : decode cX6_lacking 27 = .ok (.getfield 95, 3) := by decide +kernel
theorem dX6_lacking_30 : decode cX6_lacking 30 = .ok (.iload_n 1, 1) := by decide +kernel
theorem dX6_lacking_31 : decode cX6_lacking 31 = .ok (.invokevirtual 179, 3) := by decide +kernel
theorem dX6_lacking_34 : decode cX6_lacking 34 = .ok (.ireturn, 1) := by decide +kernel
theorem dX6_down_0 : decode cX6_down 0 = .ok (.iload_n 2, 1) := by decide +kernel
theorem dX6_down_1 : decode cX6_down 1 = .ok (.ifCond .lt 8, 3) := by decide +kernel
theorem dX6_down_4 : decode cX6_down 4 = .ok (.iload_n 2, 1) := by decide +kernel
theorem dX6_down_5 : decode cX6_down 5 = .ok (.iconst 2, 1) := by decide +kernel
theorem dX6_down_6 : decode cX6_down 6 = .ok (.if_icmp .le 6, 3) := by decide +kernel
theorem dX6_down_9 : decode cX6_down 9 = .ok (.bipush (-2), 2) := by decide +kernel
theorem dX6_down_11 : decode cX6_down 11 = .ok (.ireturn, 1) := by decide +kernel
theorem dX6_down_12 : decode cX6_down 12 = .ok (.aload_n 0, 1) := by decide +kernel
theorem dX6_down_13 : decode cX6_down 13 = .ok (.getfield 33, 3) := by decide +kernel
theorem dX6_down_16 : decode cX6_down 16 = .ok (.aload_n 0, 1) := by decide +kernel
theorem dX6_down_17 : decode cX6_down 17 = .ok (.getfield 10, 3) := by decide +kernel
theorem dX6_down_20 : decode cX6_down 20 = .ok (.invokevirtual 91, 3) := by decide +kernel
theorem dX6_down_23 : decode cX6_down 23 = .ok (.aload_n 0, 1) := by decide +kernel
theorem dX6_down_24 : decode cX6_down 24 = .ok (.getfield 33, 3) := by decide +kernel
theorem dX6_down_27 : decode cX6_down 27 = .ok (.getfield 107, 3) := by decide +kernel
theorem dX6_down_30 : decode cX6_down 30 = .ok (.ifCond .eq 20, 3) := by decide +kernel
theorem dX6_down_33 : decode cX6_down 33 = .ok (.aload_n 0, 1) := by decide +kernel
theorem dX6_down_34 : decode cX6_down 34 = .ok (.getfield 33, 3) := by decide +kernel
theorem dX6_down_37 : decode cX6_down 37 = .ok (.getfield 101, 3) := by decide +kernel
theorem dX6_down_40 : decode cX6_down 40 = .ok (.aload_n 0, 1) := by decide +kernel
theorem dX6_down_41 : decode cX6_down 41 = .ok (.getfield 10, 3) := by decide +kernel
theorem dX6_down_44 : decode cX6_down 44 = .ok (.getfield 98, 3) := by decide +kernel
theorem dX6_down_47 : decode cX6_down 47 = .ok (.if_icmp .eq 6, 3) := by decide +kernel
theorem dX6_down_50 : decode cX6_down 50 = .ok (.bipush (-3), 2) := by decide +kernel
theorem dX6_down_52 : decode cX6_down 52 = .ok (.ireturn, 1) := by decide +kernel
theorem dX6_down_53 : decode cX6_down 53 = .ok (.aload_n 0, 1) := by decide +kernel
theorem dX6_down_54 : decode cX6_down 54 = .ok (.getfield 40, 3) := by decide +kernel
theorem dX6_down_57 : decode cX6_down 57 = .ok (.aload_n 0, 1) := by decide +kernel
theorem dX6_down_58 : decode cX6_down 58 = .ok (.getfield 10, 3) := by decide +kernel
theorem dX6_down_61 : decode cX6_down 61 = .ok (.invokevirtual 182, 3) := by decide +kernel
theorem dX6_down_64 : decode cX6_down 64 = .ok (.iload_n 1, 1) := by decide +kernel
theorem dX6_down_65 : decode cX6_down 65 = .ok (.ifCond .lt 14, 3) := by decide +kernel
theorem dX6_down_68 : decode cX6_down 68 = .ok (.iload_n 1, 1) := by decide +kernel
theorem dX6_down_69 : decode cX6_down 69 = .ok (.aload_n 0, 1) := by decide +kernel
theorem dX6_down_70 : decode cX6_down 70 = .ok (.getfield 40, 3) := by decide +kernel
theorem dX6_down_73 : decode cX6_down 73 = .ok (.getfield 185, 3) := by decide +kernel
theorem dX6_down_76 : decode cX6_down 76 = .ok (.if_icmp .lt 6, 3) := by decide +kernel
theorem dX6_down_79 : decode cX6_down 79 = .ok (.bipush (-12), 2) := by decide +kernel
theorem dX6_down_81 : decode cX6_down 81 = .ok (.ireturn, 1) := by decide +kernel
theorem dX6_down_82 : decode cX6_down 82 = .ok (.iload_n 2, 1) := by decide +kernel
theorem dX6_down_83 : decode cX6_down 83 = .ok (.ifCond .ne 15, 3) := by decide +kernel
theorem dX6_down_86 : decode cX6_down 86 = .ok (.aload_n 0, 1) := by decide +kernel
theorem dX6_down_87 : decode cX6_down 87 = .ok (.getfield 40, 3) := by decide +kernel
theorem dX6_down_90 : decode cX6_down 90 = .ok (.getfield 188, 3) := by decide +kernel
theorem dX6_down_93 : decode cX6_down 93 = .ok (.iload_n 1, 1) := by decide +kernel
theorem dX6_down_94 : decode cX6_down 94 = .ok (.iaload, 1) := by decide +kernel
theorem dX6_down_95 : decode cX6_down 95 = .ok (.goto 29, 3) := by decide +kernel
theorem dX6_down_98 : decode cX6_down 98 = .ok (.iload_n 2, 1) := by decide +kernel
theorem dX6_down_99 : decode cX6_down 99 = .ok (.iconst 1, 1) := by decide +kernel
theorem dX6_down_100 : decode cX6_down 100 = .ok (.if_icmp .ne 15, 3) := by decide +kernel
theorem dX6_down_103 : decode cX6_down 103 = .ok (.aload_n 0, 1) := by decide +kernel
theorem dX6_down_104 : decode cX6_down 104 = .ok (.getfield 40, 3) := by decide +kernel
theorem dX6_down_107 : decode cX6_down 107 = .ok (.getfield 191, 3) := by decide +kernel
theorem dX6_down_110 : decode cX6_down 110 = .ok (.iload_n 1, 1) := by decide +kernel
theorem dX6_down_111 : decode cX6_down 111 = .ok (.iaload, 1) := by decide +kernel
theorem dX6_down_112 : decode cX6_down 112 = .ok (.goto 12, 3) := by decide +kernel
theorem dX6_down_115 : decode cX6_down 115 = .ok (.aload_n 0, 1) := by decide +kernel
theorem dX6_down_116 : decode cX6_down 116 = .ok (.getfield 40, 3) := by decide +kernel
theorem dX6_down_119 : decode cX6_down 119 = .ok (.getfield 194, 3) := by decide +kernel
theorem dX6_down_122 : decode cX6_down 122 = .ok (.iload_n 1, 1) := by decide +kernel
theorem dX6_down_123 : decode cX6_down 123 = .ok (.iaload, 1) := by decide +kernel
theorem dX6_down_124 : decode cX6_down 124 = .ok (.ireturn, 1) := by decide +kernel
theorem dX6_line_0 : decode cX6_line 0 = .ok (.iconst 0, 1) := by decide +kernel
theorem dX6_line_1 : decode cX6_line 1 = .ok (.istore_n 2, 1) := by decide +kernel
theorem dX6_line_2 : decode cX6_line 2 = .ok (.iconst 0, 1) := by decide +kernel
theorem dX6_line_3 : decode cX6_line 3 = .ok (.istore_n 3, 1) := by decide +kernel
theorem dX6_line_4 : decode cX6_line 4 = .ok (.iload_n 3, 1) := by decide +kernel
theorem dX6_line_5 : decode cX6_line 5 = .ok (.aload_n 0, 1) := by decide +kernel
theorem dX6_line_6 : decode cX6_line 6 = .ok (.getfield 10, 3) := by decide +kernel
theorem dX6_line_9 : decode cX6_line 9 = .ok (.getfield 98, 3) := by decide +kernel
theorem dX6_line_12 : decode cX6_line 12 = .ok (.if_icmp .ge 64, 3) := by decide +kernel
theorem dX6_line_15 : decode cX6_line 15 = .ok (.iload_n 3, 1) := by decide +kernel
theorem dX6_line_16 : decode cX6_line 16 = .ok (.ifCond .le 14, 3) := by decide +kernel
theorem dX6_line_19 : decode cX6_line 19 = .ok (.iload_n 1, 1) := by decide +kernel
theorem dX6_line_20 : decode cX6_line 20 = .ok (.iload_n 2, 1) := by decide +kernel
theorem dX6_line_21 : decode cX6_line 21 = .ok (.if_icmp .ne 6, 3) := by decide +kernel
theorem dX6_line_24 : decode cX6_line 24 = .ok (.bipush 32, 2) := by decide +kernel
theorem dX6_line_26 : decode cX6_line 26 = .ok (.ireturn, 1) := by decide +kernel
theorem dX6_line_27 : decode cX6_line 27 = .ok (.iinc 2 1, 3) := by decide +kernel
theorem dX6_line_30 : decode cX6_line 30 = .ok (.aload_n 0, 1) := by decide +kernel
theorem dX6_line_31 : decode cX6_line 31 = .ok (.getfield 10, 3) := by decide +kernel
theorem dX6_line_34 : decode cX6_line 34 = .ok (.iload_n 3, 1) := by decide +kernel
theorem dX6_line_35 : decode cX6_line 35 = .ok (.invokevirtual 197, 3) := by decide +kernel
theorem dX6_line_38 : decode cX6_line 38 = .ok (.istore 4, 2) := by decide +kernel
theorem dX6_line_40 : decode cX6_line 40 = .ok (.iload_n 1, 1) := by decide +kernel
theorem dX6_line_41 : decode cX6_line 41 = .ok (.iload_n 2, 1) := by decide +kernel
theorem dX6_line_42 : decode cX6_line 42 = .ok (.if_icmp .lt 23, 3) := by decide +kernel
theorem dX6_line_45 : decode cX6_line 45 = .ok (.iload_n 1, 1) := by decide +kernel
theorem dX6_line_46 : decode cX6_line 46 = .ok (.iload_n 2, 1) := by decide +kernel
theorem dX6_line_47 : decode cX6_line 47 = .ok (.iload 4, 2) := by decide +kernel
theorem dX6_line_49 : decode cX6_line 49 = .ok (.iadd, 1) := by decide +kernel
theorem dX6_line_50 : decode cX6_line 50 = .ok (.if_icmp .ge 15, 3) := by decide +kernel
theorem dX6_line_53 : decode cX6_line 53 = .ok (.aload_n 0, 1) := by decide +kernel
theorem dX6_line_54 : decode cX6_line 54 = .ok (.getfield 10, 3) := by decide +kernel
theorem dX6_line_57 : decode cX6_line 57 = .ok (.iload_n 3, 1) := by decide +kernel
theorem dX6_line_58 : decode cX6_line 58 = .ok (.iload_n 1, 1) := by decide +kernel
theorem dX6_line_59 : decode cX6_line 59 = .ok (.iload_n 2, 1) := by decide +kernel
theorem dX6_line_60 : decode cX6_line 60 = .ok (.isub, 1) := by decide +kernel
theorem dX6_line_61 : decode cX6_line 61 = .ok (.invokevirtual 200, 3) := by decide +kernel
theorem dX6_line_64 : decode cX6_line 64 = .ok (.ireturn, 1) := by decide +kernel
theorem dX6_line_65 : decode cX6_line 65 = .ok (.iload_n 2, 1) := by decide +kernel
theorem dX6_line_66 : decode cX6_line 66 = .ok (.iload 4, 2) := by decide +kernel
theorem dX6_line_68 : decode cX6_line 68 = .ok (.iadd, 1) := by decide +kernel
theorem dX6_line_69 : decode cX6_line 69 = .ok (.istore_n 2, 1) := by decide +kernel
theorem dX6_line_70 : decode cX6_line 70 = .ok (.iinc 3 1, 3) := by decide +kernel
theorem dX6_line_73 : decode cX6_line 73 = .ok (.goto (-69), 3) := by decide +kernel
theorem dX6_line_76 : decode cX6_line 76 = .ok (.iload_n 1, 1) := by decide +kernel
theorem dX6_line_77 : decode cX6_line 77 = .ok (.iconst (-1), 1) := by decide +kernel
theorem dX6_line_78 : decode cX6_line 78 = .ok (.if_icmp .ne 7, 3) := by decide +kernel
theorem dX6_line_81 : decode cX6_line 81 = .ok (.iload_n 2, 1) := by decide +kernel
theorem dX6_line_82 : decode cX6_line 82 = .ok (.goto 4, 3) := by decide +kernel
theorem dX6_line_85 : decode cX6_line 85 = .ok (.iconst (-1), 1) := by decide +kernel
theorem dX6_line_86 : decode cX6_line 86 = .ok (.ireturn, 1) := by decide +kernel
theorem dX6_tells_0 : decode cX6_tells 0 = .ok (.iload_n 1, 1) := by decide +kernel
theorem dX6_tells_1 : decode cX6_tells 1 = .ok (.invokestatic 203, 3) := by decide +kernel
theorem dX6_tells_4 : decode cX6_tells 4 = .ok (.ifCond .eq 12, 3) := by decide +kernel
theorem dX6_tells_7 : decode cX6_tells 7 = .ok (.iload_n 2, 1) := by decide +kernel
theorem dX6_tells_8 : decode cX6_tells 8 = .ok (.ifCond .eq 11, 3) := by decide +kernel
theorem dX6_tells_11 : decode cX6_tells 11 = .ok (.iload_n 2, 1) := by decide +kernel
theorem dX6_tells_12 : decode cX6_tells 12 = .ok (.iconst 1, 1) := by decide +kernel
theorem dX6_tells_13 : decode cX6_tells 13 = .ok (.if_icmp .eq 6, 3) := by decide +kernel
theorem dX6_tells_16 : decode cX6_tells 16 = .ok (.bipush (-2), 2) := by decide +kernel
theorem dX6_tells_18 : decode cX6_tells 18 = .ok (.ireturn, 1) := by decide +kernel
theorem dX6_tells_19 : decode cX6_tells 19 = .ok (.aload_n 0, 1) := by decide +kernel
theorem dX6_tells_20 : decode cX6_tells 20 = .ok (.getfield 46, 3) := by decide +kernel
theorem dX6_tells_23 : decode cX6_tells 23 = .ok (.iload_n 1, 1) := by decide +kernel
theorem dX6_tells_24 : decode cX6_tells 24 = .ok (.aaload, 1) := by decide +kernel
theorem dX6_tells_25 : decode cX6_tells 25 = .ok (.astore_n 3, 1) := by decide +kernel
theorem dX6_tells_26 : decode cX6_tells 26 = .ok (.aload_n 3, 1) := by decide +kernel
theorem dX6_tells_27 : decode cX6_tells 27 = .ok (.invokevirtual 206, 3) := by decide +kernel
theorem dX6_tells_30 : decode cX6_tells 30 = .ok (.ifCond .eq 6, 3) := by decide +kernel
theorem dX6_tells_33 : decode cX6_tells 33 = .ok (.bipush (-11), 2) := by decide +kernel
theorem dX6_tells_35 : decode cX6_tells 35 = .ok (.ireturn, 1) := by decide +kernel
theorem dX6_tells_36 : decode cX6_tells 36 = .ok (.aload_n 3, 1) := by decide +kernel
theorem dX6_tells_37 : decode cX6_tells 37 = .ok (.getfield 210, 3) := by decide +kernel
theorem dX6_tells_40 : decode cX6_tells 40 = .ok (.bipush 24, 2) := by decide +kernel
theorem dX6_tells_42 : decode cX6_tells 42 = .ok (.if_icmp .le 6, 3) := by decide +kernel
theorem dX6_tells_45 : decode cX6_tells 45 = .ok (.bipush (-2), 2) := by decide +kernel
theorem dX6_tells_47 : decode cX6_tells 47 = .ok (.ireturn, 1) := by decide +kernel
theorem dX6_tells_48 : decode cX6_tells 48 = .ok (.iload_n 2, 1) := by decide +kernel
theorem dX6_tells_49 : decode cX6_tells 49 = .ok (.ifCond .ne 11, 3) := by decide +kernel
theorem dX6_tells_52 : decode cX6_tells 52 = .ok (.aload_n 0, 1) := by decide +kernel
theorem dX6_tells_53 : decode cX6_tells 53 = .ok (.aload_n 3, 1) := by decide +kernel
theorem dX6_tells_54 : decode cX6_tells 54 = .ok (.invokevirtual 211, 3) := by decide +kernel
theorem dX6_tells_57 : decode cX6_tells 57 = .ok (.goto 8, 3) := by decide +kernel
theorem dX6_tells_60 : decode cX6_tells 60 = .ok (.aload_n 0, 1) := by decide +kernel
theorem dX6_tells_61 : decode cX6_tells 61 = .ok (.aload_n 3, 1) := by decide +kernel
theorem dX6_tells_62 : decode cX6_tells 62 = .ok (.invokevirtual 215, 3) := by decide +kernel
theorem dX6_tells_65 : decode cX6_tells 65 = .ok (.ireturn, 1) := by decide +kernel
theorem dX6_film_0 : decode cX6_film 0 = .ok (.iload_n 1, 1) := by decide +kernel
theorem dX6_film_1 : decode cX6_film 1 = .ok (.invokestatic 203, 3) := by decide +kernel
theorem dX6_film_4 : decode cX6_film 4 = .ok (.ifCond .ne 6, 3) := by decide +kernel
theorem dX6_film_7 : decode cX6_film 7 = .ok (.bipush (-2), 2) := by decide +kernel
theorem dX6_film_9 : decode cX6_film 9 = .ok (.ireturn, 1) := by decide +kernel
theorem dX6_film_10 : decode cX6_film 10 = .ok (.aload_n 0, 1) := by decide +kernel
theorem dX6_film_11 : decode cX6_film 11 = .ok (.getfield 33, 3) := by decide +kernel
theorem dX6_film_14 : decode cX6_film 14 = .ok (.aload_n 0, 1) := by decide +kernel
theorem dX6_film_15 : decode cX6_film 15 = .ok (.getfield 10, 3) := by decide +kernel
theorem dX6_film_18 : decode cX6_film 18 = .ok (.invokevirtual 91, 3) := by decide +kernel
theorem dX6_film_21 : decode cX6_film 21 = .ok (.aload_n 0, 1) := by decide +kernel
theorem dX6_film_22 : decode cX6_film 22 = .ok (.getfield 46, 3) := by decide +kernel
theorem dX6_film_25 : decode cX6_film 25 = .ok (.iload_n 1, 1) := by decide +kernel
theorem dX6_film_26 : decode cX6_film 26 = .ok (.aaload, 1) := by decide +kernel
theorem dX6_film_27 : decode cX6_film 27 = .ok (.iconst 0, 1) := by decide +kernel
theorem dX6_film_28 : decode cX6_film 28 = .ok (.aload_n 0, 1) := by decide +kernel
theorem dX6_film_29 : decode cX6_film 29 = .ok (.getfield 10, 3) := by decide +kernel
theorem dX6_film_32 : decode cX6_film 32 = .ok (.getfield 98, 3) := by decide +kernel
theorem dX6_film_35 : decode cX6_film 35 = .ok (.invokevirtual 218, 3) := by decide +kernel
theorem dX6_film_38 : decode cX6_film 38 = .ok (.iconst 0, 1) := by decide +kernel
theorem dX6_film_39 : decode cX6_film 39 = .ok (.istore_n 2, 1) := by decide +kernel
theorem dX6_film_40 : decode cX6_film 40 = .ok (.iload_n 2, 1) := by decide +kernel
theorem dX6_film_41 : decode cX6_film 41 = .ok (.aload_n 0, 1) := by decide +kernel
theorem dX6_film_42 : decode cX6_film 42 = .ok (.getfield 10, 3) := by decide +kernel
theorem dX6_film_45 : decode cX6_film 45 = .ok (.getfield 98, 3) := by decide +kernel
theorem dX6_film_48 : decode cX6_film 48 = .ok (.if_icmp .ge 30, 3) := by decide +kernel
theorem dX6_film_51 : decode cX6_film 51 = .ok (.aload_n 0, 1) := by decide +kernel
theorem dX6_film_52 : decode cX6_film 52 = .ok (.getfield 46, 3) := by decide +kernel
theorem dX6_film_55 : decode cX6_film 55 = .ok (.iload_n 1, 1) := by decide +kernel
theorem dX6_film_56 : decode cX6_film 56 = .ok (.aaload, 1) := by decide +kernel
theorem dX6_film_57 : decode cX6_film 57 = .ok (.iload_n 2, 1) := by decide +kernel
theorem dX6_film_58 : decode cX6_film 58 = .ok (.aload_n 0, 1) := by decide +kernel
theorem dX6_film_59 : decode cX6_film 59 = .ok (.getfield 33, 3) := by decide +kernel
theorem dX6_film_62 : decode cX6_film 62 = .ok (.getfield 130, 3) := by decide +kernel
theorem dX6_film_65 : decode cX6_film 65 = .ok (.iload_n 2, 1) := by decide +kernel
theorem dX6_film_66 : decode cX6_film 66 = .ok (.ishr, 1) := by decide +kernel
theorem dX6_film_67 : decode cX6_film 67 = .ok (.iconst 1, 1) := by decide +kernel
theorem dX6_film_68 : decode cX6_film 68 = .ok (.iand, 1) := by decide +kernel
theorem dX6_film_69 : decode cX6_film 69 = .ok (.invokevirtual 222, 3) := by decide +kernel
theorem dX6_film_72 : decode cX6_film 72 = .ok (.iinc 2 1, 3) := by decide +kernel
theorem dX6_film_75 : decode cX6_film 75 = .ok (.goto (-35), 3) := by decide +kernel
theorem dX6_film_78 : decode cX6_film 78 = .ok (.aload_n 0, 1) := by decide +kernel
theorem dX6_film_79 : decode cX6_film 79 = .ok (.getfield 10, 3) := by decide +kernel
theorem dX6_film_82 : decode cX6_film 82 = .ok (.getfield 98, 3) := by decide +kernel
theorem dX6_film_85 : decode cX6_film 85 = .ok (.ireturn, 1) := by decide +kernel
theorem dX6_image_0 : decode cX6_image 0 = .ok (.aload_n 0, 1) := by decide +kernel
theorem dX6_image_1 : decode cX6_image 1 = .ok (.getfield 16, 3) := by decide +kernel
theorem dX6_image_4 : decode cX6_image 4 = .ok (.aload_n 0, 1) := by decide +kernel
theorem dX6_image_5 : decode cX6_image 5 = .ok (.getfield 10, 3) := by decide +kernel
theorem dX6_image_8 : decode cX6_image 8 = .ok (.invokevirtual 225, 3) := by decide +kernel
theorem dX6_image_11 : decode cX6_image 11 = .ok (.aload_n 0, 1) := by decide +kernel
theorem dX6_image_12 : decode cX6_image 12 = .ok (.iconst 1, 1) := by decide +kernel
theorem dX6_image_13 : decode cX6_image 13 = .ok (.putfield 19, 3) := by decide +kernel
theorem dX6_image_16 : decode cX6_image 16 = .ok (.aload_n 0, 1) := by decide +kernel
theorem dX6_image_17 : decode cX6_image 17 = .ok (.getfield 10, 3) := by decide +kernel
theorem dX6_image_20 : decode cX6_image 20 = .ok (.getfield 95, 3) := by decide +kernel
theorem dX6_image_23 : decode cX6_image 23 = .ok (.ireturn, 1) := by decide +kernel
theorem dX6_back_0 : decode cX6_back 0 = .ok (.aload_n 0, 1) := by decide +kernel
theorem dX6_back_1 : decode cX6_back 1 = .ok (.getfield 19, 3) := by decide +kernel
theorem dX6_back_4 : decode cX6_back 4 = .ok (.ifCond .ne 6, 3) := by decide +kernel
theorem dX6_back_7 : decode cX6_back 7 = .ok (.bipush (-3), 2) := by decide +kernel
theorem dX6_back_9 : decode cX6_back 9 = .ok (.ireturn, 1) := by decide +kernel
theorem dX6_back_10 : decode cX6_back 10 = .ok (.aload_n 0, 1) := by decide +kernel
theorem dX6_back_11 : decode cX6_back 11 = .ok (.getfield 10, 3) := by decide +kernel
theorem dX6_back_14 : decode cX6_back 14 = .ok (.aload_n 0, 1) := by decide +kernel
theorem dX6_back_15 : decode cX6_back 15 = .ok (.getfield 16, 3) := by decide +kernel
theorem dX6_back_18 : decode cX6_back 18 = .ok (.invokevirtual 225, 3) := by decide +kernel
theorem dX6_back_21 : decode cX6_back 21 = .ok (.aload_n 0, 1) := by decide +kernel
theorem dX6_back_22 : decode cX6_back 22 = .ok (.getfield 10, 3) := by decide +kernel
theorem dX6_back_25 : decode cX6_back 25 = .ok (.getfield 95, 3) := by decide +kernel
theorem dX6_back_28 : decode cX6_back 28 = .ok (.ireturn, 1) := by decide +kernel
theorem dX6_sheet_0 : decode cX6_sheet 0 = .ok (.iload_n 1, 1) := by decide +kernel
theorem dX6_sheet_1 : decode cX6_sheet 1 = .ok (.invokestatic 203, 3) := by decide +kernel
theorem dX6_sheet_4 : decode cX6_sheet 4 = .ok (.ifCond .eq 15, 3) := by decide +kernel
theorem dX6_sheet_7 : decode cX6_sheet 7 = .ok (.iload_n 2, 1) := by decide +kernel
theorem dX6_sheet_8 : decode cX6_sheet 8 = .ok (.iconst (-1), 1) := by decide +kernel
theorem dX6_sheet_9 : decode cX6_sheet 9 = .ok (.if_icmp .eq 13, 3) := by decide +kernel
theorem dX6_sheet_12 : decode cX6_sheet 12 = .ok (.iload_n 2, 1) := by decide +kernel
theorem dX6_sheet_13 : decode cX6_sheet 13 = .ok (.invokestatic 228, 3) := by decide +kernel
theorem dX6_sheet_16 : decode cX6_sheet 16 = .ok (.ifCond .ne 6, 3) := by decide +kernel
theorem dX6_sheet_19 : decode cX6_sheet 19 = .ok (.bipush (-2), 2) := by decide +kernel
theorem dX6_sheet_21 : decode cX6_sheet 21 = .ok (.ireturn, 1) := by decide +kernel
theorem dX6_sheet_22 : decode cX6_sheet 22 = .ok (.iload_n 2, 1) := by decide +kernel
theorem dX6_sheet_23 : decode cX6_sheet 23 = .ok (.iconst (-1), 1) := by decide +kernel
theorem dX6_sheet_24 : decode cX6_sheet 24 = .ok (.if_icmp .ne 16, 3) := by decide +kernel
theorem dX6_sheet_27 : decode cX6_sheet 27 = .ok (.aload_n 0, 1) := by decide +kernel
theorem dX6_sheet_28 : decode cX6_sheet 28 = .ok (.getfield 46, 3) := by decide +kernel
theorem dX6_sheet_31 : decode cX6_sheet 31 = .ok (.iload_n 1, 1) := by decide +kernel
theorem dX6_sheet_32 : decode cX6_sheet 32 = .ok (.aaload, 1) := by decide +kernel
theorem dX6_sheet_33 : decode cX6_sheet 33 = .ok (.iconst (-1), 1) := by decide +kernel
theorem dX6_sheet_34 : decode cX6_sheet 34 = .ok (.iconst 0, 1) := by decide +kernel
theorem dX6_sheet_35 : decode cX6_sheet 35 = .ok (.invokevirtual 218, 3) := by decide +kernel
theorem dX6_sheet_38 : decode cX6_sheet 38 = .ok (.iconst 1, 1) := by decide +kernel
theorem dX6_sheet_39 : decode cX6_sheet 39 = .ok (.ireturn, 1) := by decide +kernel
theorem dX6_sheet_40 : decode cX6_sheet 40 = .ok (.iload_n 3, 1) := by decide +kernel
theorem dX6_sheet_41 : decode cX6_sheet 41 = .ok (.bipush 40, 2) := by decide +kernel
theorem dX6_sheet_43 : decode cX6_sheet 43 = .ok (.if_icmp .le 6, 3) := by decide +kernel
theorem dX6_sheet_46 : decode cX6_sheet 46 = .ok (.bipush (-2), 2) := by decide +kernel
theorem dX6_sheet_48 : decode cX6_sheet 48 = .ok (.ireturn, 1) := by decide +kernel
theorem dX6_sheet_49 : decode cX6_sheet 49 = .ok (.iload_n 3, 1) := by decide +kernel
theorem dX6_sheet_50 : decode cX6_sheet 50 = .ok (.ifCond .ge 6, 3) := by decide +kernel
theorem dX6_sheet_53 : decode cX6_sheet 53 = .ok (.bipush (-14), 2) := by decide +kernel
theorem dX6_sheet_55 : decode cX6_sheet 55 = .ok (.ireturn, 1) := by decide +kernel
theorem dX6_sheet_56 : decode cX6_sheet 56 = .ok (.aload_n 0, 1) := by decide +kernel
theorem dX6_sheet_57 : decode cX6_sheet 57 = .ok (.getfield 46, 3) := by decide +kernel
theorem dX6_sheet_60 : decode cX6_sheet 60 = .ok (.iload_n 1, 1) := by decide +kernel
theorem dX6_sheet_61 : decode cX6_sheet 61 = .ok (.aaload, 1) := by decide +kernel
theorem dX6_sheet_62 : decode cX6_sheet 62 = .ok (.iload_n 2, 1) := by decide +kernel
theorem dX6_sheet_63 : decode cX6_sheet 63 = .ok (.iload_n 3, 1) := by decide +kernel
theorem dX6_sheet_64 : decode cX6_sheet 64 = .ok (.invokevirtual 218, 3) := by decide +kernel
theorem dX6_sheet_67 : decode cX6_sheet 67 = .ok (.iconst 1, 1) := by decide +kernel
theorem dX6_sheet_68 : decode cX6_sheet 68 = .ok (.ireturn, 1) := by decide +kernel
theorem dX6_put_0 : decode cX6_put 0 = .ok (.iload_n 1, 1) := by decide +kernel
theorem dX6_put_1 : decode cX6_put 1 = .ok (.invokestatic 203, 3) := by decide +kernel
theorem dX6_put_4 : decode cX6_put 4 = .ok (.ifCond .ne 6, 3) := by decide +kernel
theorem dX6_put_7 : decode cX6_put 7 = .ok (.bipush (-2), 2) := by decide +kernel
theorem dX6_put_9 : decode cX6_put 9 = .ok (.ireturn, 1) := by decide +kernel
theorem dX6_put_10 : decode cX6_put 10 = .ok (.aload_n 0, 1) := by decide +kernel
theorem dX6_put_11 : decode cX6_put 11 = .ok (.getfield 46, 3) := by decide +kernel
theorem dX6_put_14 : decode cX6_put 14 = .ok (.iload_n 1, 1) := by decide +kernel
theorem dX6_put_15 : decode cX6_put 15 = .ok (.aaload, 1) := by decide +kernel
theorem dX6_put_16 : decode cX6_put 16 = .ok (.invokevirtual 206, 3) := by decide +kernel
theorem dX6_put_19 : decode cX6_put 19 = .ok (.ifCond .eq 6, 3) := by decide +kernel
theorem dX6_put_22 : decode cX6_put 22 = .ok (.bipush (-11), 2) := by decide +kernel
theorem dX6_put_24 : decode cX6_put 24 = .ok (.ireturn, 1) := by decide +kernel
theorem dX6_put_25 : decode cX6_put 25 = .ok (.aload_n 0, 1) := by decide +kernel
theorem dX6_put_26 : decode cX6_put 26 = .ok (.getfield 46, 3) := by decide +kernel
theorem dX6_put_29 : decode cX6_put 29 = .ok (.iload_n 1, 1) := by decide +kernel
theorem dX6_put_30 : decode cX6_put 30 = .ok (.aaload, 1) := by decide +kernel
theorem dX6_put_31 : decode cX6_put 31 = .ok (.iload_n 2, 1) := by decide +kernel
theorem dX6_put_32 : decode cX6_put 32 = .ok (.invokevirtual 231, 3) := by decide +kernel
theorem dX6_put_35 : decode cX6_put 35 = .ok (.ifCond .ne 6, 3) := by decide +kernel
theorem dX6_put_38 : decode cX6_put 38 = .ok (.bipush (-12), 2) := by decide +kernel
theorem dX6_put_40 : decode cX6_put 40 = .ok (.ireturn, 1) := by decide +kernel
theorem dX6_put_41 : decode cX6_put 41 = .ok (.aload_n 0, 1) := by decide +kernel
theorem dX6_put_42 : decode cX6_put 42 = .ok (.getfield 46, 3) := by decide +kernel
theorem dX6_put_45 : decode cX6_put 45 = .ok (.iload_n 1, 1) := by decide +kernel
theorem dX6_put_46 : decode cX6_put 46 = .ok (.aaload, 1) := by decide +kernel
theorem dX6_put_47 : decode cX6_put 47 = .ok (.iload_n 2, 1) := by decide +kernel
theorem dX6_put_48 : decode cX6_put 48 = .ok (.iload_n 3, 1) := by decide +kernel
theorem dX6_put_49 : decode cX6_put 49 = .ok (.invokevirtual 222, 3) := by decide +kernel
theorem dX6_put_52 : decode cX6_put 52 = .ok (.iconst 1, 1) := by decide +kernel
theorem dX6_put_53 : decode cX6_put 53 = .ok (.ireturn, 1) := by decide +kernel
theorem dX6_copy_0 : decode cX6_copy 0 = .ok (.iload_n 1, 1) := by decide +kernel
theorem dX6_copy_1 : decode cX6_copy 1 = .ok (.invokestatic 203, 3) := by decide +kernel
theorem dX6_copy_4 : decode cX6_copy 4 = .ok (.ifCond .eq 10, 3) := by decide +kernel
theorem dX6_copy_7 : decode cX6_copy 7 = .ok (.iload_n 3, 1) := by decide +kernel
theorem dX6_copy_8 : decode cX6_copy 8 = .ok (.invokestatic 203, 3) := by decide +kernel
theorem dX6_copy_11 : decode cX6_copy 11 = .ok (.ifCond .ne 6, 3) := by decide +kernel
theorem dX6_copy_14 : decode cX6_copy 14 = .ok (.bipush (-2), 2) := by decide +kernel
theorem dX6_copy_16 : decode cX6_copy 16 = .ok (.ireturn, 1) := by decide +kernel
theorem dX6_copy_17 : decode cX6_copy 17 = .ok (.aload_n 0, 1) := by decide +kernel
theorem dX6_copy_18 : decode cX6_copy 18 = .ok (.getfield 46, 3) := by decide +kernel
theorem dX6_copy_21 : decode cX6_copy 21 = .ok (.iload_n 1, 1) := by decide +kernel
theorem dX6_copy_22 : decode cX6_copy 22 = .ok (.aaload, 1) := by decide +kernel
theorem dX6_copy_23 : decode cX6_copy 23 = .ok (.astore 6, 2) := by decide +kernel
theorem dX6_copy_25 : decode cX6_copy 25 = .ok (.aload_n 0, 1) := by decide +kernel
theorem dX6_copy_26 : decode cX6_copy 26 = .ok (.getfield 46, 3) := by decide +kernel
theorem dX6_copy_29 : decode cX6_copy 29 = .ok (.iload_n 3, 1) := by decide +kernel
theorem dX6_copy_30 : decode cX6_copy 30 = .ok (.aaload, 1) := by decide +kernel
theorem dX6_copy_31 : decode cX6_copy 31 = .ok (.astore 7, 2) := by decide +kernel
theorem dX6_copy_33 : decode cX6_copy 33 = .ok (.aload 6, 2) := by decide +kernel
theorem dX6_copy_35 : decode cX6_copy 35 = .ok (.invokevirtual 206, 3) := by decide +kernel
theorem dX6_copy_38 : decode cX6_copy 38 = .ok (.ifCond .ne 11, 3) := by decide +kernel
theorem dX6_copy_41 : decode cX6_copy 41 = .ok (.aload 7, 2) := by decide +kernel
theorem dX6_copy_43 : decode cX6_copy 43 = .ok (.invokevirtual 206, 3) := by decide +kernel
theorem dX6_copy_46 : decode cX6_copy 46 = .ok (.ifCond .eq 6, 3) := by decide +kernel
theorem dX6_copy_49 : decode cX6_copy 49 = .ok (.bipush (-11), 2) := by decide +kernel
theorem dX6_copy_51 : decode cX6_copy 51 = .ok (.ireturn, 1) := by decide +kernel
theorem dX6_copy_52 : decode cX6_copy 52 = .ok (.aload 6, 2) := by decide +kernel
theorem dX6_copy_54 : decode cX6_copy 54 = .ok (.getfield 234, 3) := by decide +kernel
theorem dX6_copy_57 : decode cX6_copy 57 = .ok (.aload 7, 2) := by decide +kernel
theorem dX6_copy_59 : decode cX6_copy 59 = .ok (.getfield 234, 3) := by decide +kernel
theorem dX6_copy_62 : decode cX6_copy 62 = .ok (.if_icmp .eq 6, 3) := by decide +kernel
theorem dX6_copy_65 : decode cX6_copy 65 = .ok (.bipush (-13), 2) := by decide +kernel
theorem dX6_copy_67 : decode cX6_copy 67 = .ok (.ireturn, 1) := by decide +kernel
theorem dX6_copy_68 : decode cX6_copy 68 = .ok (.aload 6, 2) := by decide +kernel
theorem dX6_copy_70 : decode cX6_copy 70 = .ok (.iload_n 2, 1) := by decide +kernel
theorem dX6_copy_71 : decode cX6_copy 71 = .ok (.iload 5, 2) := by decide +kernel
theorem dX6_copy_73 : decode cX6_copy 73 = .ok (.invokevirtual 237, 3) := by decide +kernel
theorem dX6_copy_76 : decode cX6_copy 76 = .ok (.ifCond .eq 15, 3) := by decide +kernel
theorem dX6_copy_79 : decode cX6_copy 79 = .ok (.aload 7, 2) := by decide +kernel
theorem dX6_copy_81 : decode cX6_copy 81 = .ok (.iload 4, 2) := by decide +kernel
theorem dX6_copy_83 : decode cX6_copy 83 = .ok (.iload 5, 2) := by decide +kernel
theorem dX6_copy_85 : decode cX6_copy 85 = .ok (.invokevirtual 237, 3) := by decide +kernel
theorem dX6_copy_88 : decode cX6_copy 88 = .ok (.ifCond .ne 6, 3) := by decide +kernel
theorem dX6_copy_91 : decode cX6_copy 91 = .ok (.bipush (-12), 2) := by decide +kernel
theorem dX6_copy_93 : decode cX6_copy 93 = .ok (.ireturn, 1) := by decide +kernel
theorem dX6_copy_94 : decode cX6_copy 94 = .ok (.aload 6, 2) := by decide +kernel
theorem dX6_copy_96 : decode cX6_copy 96 = .ok (.getfield 240, 3) := by decide +kernel
theorem dX6_copy_99 : decode cX6_copy 99 = .ok (.iload_n 2, 1) := by decide +kernel
theorem dX6_copy_100 : decode cX6_copy 100 = .ok (.aload 7, 2) := by decide +kernel
theorem dX6_copy_102 : decode cX6_copy 102 = .ok (.getfield 240, 3) := by decide +kernel
theorem dX6_copy_105 : decode cX6_copy 105 = .ok (.iload 4, 2) := by decide +kernel
theorem dX6_copy_107 : decode cX6_copy 107 = .ok (.iload 5, 2) := by decide +kernel
theorem dX6_copy_109 : decode cX6_copy 109 = .ok (.invokestatic 243, 3) := by decide +kernel
theorem dX6_copy_112 : decode cX6_copy 112 = .ok (.iload 5, 2) := by decide +kernel
theorem dX6_copy_114 : decode cX6_copy 114 = .ok (.ireturn, 1) := by decide +kernel
theorem dX6_load_0 : decode cX6_load 0 = .ok (.iload_n 1, 1) := by decide +kernel
theorem dX6_load_1 : decode cX6_load 1 = .ok (.invokestatic 203, 3) := by decide +kernel
theorem dX6_load_4 : decode cX6_load 4 = .ok (.ifCond .eq 22, 3) := by decide +kernel
theorem dX6_load_7 : decode cX6_load 7 = .ok (.iload_n 2, 1) := by decide +kernel
theorem dX6_load_8 : decode cX6_load 8 = .ok (.invokestatic 228, 3) := by decide +kernel
theorem dX6_load_11 : decode cX6_load 11 = .ok (.ifCond .eq 15, 3) := by decide +kernel
theorem dX6_load_14 : decode cX6_load 14 = .ok (.iload 4, 2) := by decide +kernel
theorem dX6_load_16 : decode cX6_load 16 = .ok (.ifCond .lt 10, 3) := by decide +kernel
theorem dX6_load_19 : decode cX6_load 19 = .ok (.iload 4, 2) := by decide +kernel
theorem dX6_load_21 : decode cX6_load 21 = .ok (.bipush 24, 2) := by decide +kernel
theorem dX6_load_23 : decode cX6_load 23 = .ok (.if_icmp .le 6, 3) := by decide +kernel
theorem dX6_load_26 : decode cX6_load 26 = .ok (.bipush (-2), 2) := by decide +kernel
theorem dX6_load_28 : decode cX6_load 28 = .ok (.ireturn, 1) := by decide +kernel
theorem dX6_load_29 : decode cX6_load 29 = .ok (.aload_n 0, 1) := by decide +kernel
theorem dX6_load_30 : decode cX6_load 30 = .ok (.getfield 46, 3) := by decide +kernel
theorem dX6_load_33 : decode cX6_load 33 = .ok (.iload_n 1, 1) := by decide +kernel
theorem dX6_load_34 : decode cX6_load 34 = .ok (.aaload, 1) := by decide +kernel
theorem dX6_load_35 : decode cX6_load 35 = .ok (.astore 5, 2) := by decide +kernel
theorem dX6_load_37 : decode cX6_load 37 = .ok (.aload 5, 2) := by decide +kernel
theorem dX6_load_39 : decode cX6_load 39 = .ok (.invokevirtual 206, 3) := by decide +kernel
theorem dX6_load_42 : decode cX6_load 42 = .ok (.ifCond .eq 6, 3) := by decide +kernel
theorem dX6_load_45 : decode cX6_load 45 = .ok (.bipush (-11), 2) := by decide +kernel
theorem dX6_load_47 : decode cX6_load 47 = .ok (.ireturn, 1) := by decide +kernel
theorem dX6_load_48 : decode cX6_load 48 = .ok (.aload 5, 2) := by decide +kernel
theorem dX6_load_50 : decode cX6_load 50 = .ok (.getfield 234, 3) := by decide +kernel
theorem dX6_load_53 : decode cX6_load 53 = .ok (.iload_n 2, 1) := by decide +kernel
theorem dX6_load_54 : decode cX6_load 54 = .ok (.if_icmp .eq 6, 3) := by decide +kernel
theorem dX6_load_57 : decode cX6_load 57 = .ok (.bipush (-13), 2) := by decide +kernel
theorem dX6_load_59 : decode cX6_load 59 = .ok (.ireturn, 1) := by decide +kernel
theorem dX6_load_60 : decode cX6_load 60 = .ok (.iconst 0, 1) := by decide +kernel
theorem dX6_load_61 : decode cX6_load 61 = .ok (.istore 6, 2) := by decide +kernel
theorem dX6_load_63 : decode cX6_load 63 = .ok (.iconst 0, 1) := by decide +kernel
theorem dX6_load_64 : decode cX6_load 64 = .ok (.istore 7, 2) := by decide +kernel
theorem dX6_load_66 : decode cX6_load 66 = .ok (.iload 7, 2) := by decide +kernel
theorem dX6_load_68 : decode cX6_load 68 = .ok (.iload 4, 2) := by decide +kernel
theorem dX6_load_70 : decode cX6_load 70 = .ok (.if_icmp .ge 59, 3) := by decide +kernel
theorem dX6_load_73 : decode cX6_load 73 = .ok (.iload_n 3, 1) := by decide +kernel
theorem dX6_load_74 : decode cX6_load 74 = .ok (.iconst 2, 1) := by decide +kernel
theorem dX6_load_75 : decode cX6_load 75 = .ok (.iload 7, 2) := by decide +kernel
theorem dX6_load_77 : decode cX6_load 77 = .ok (.imul, 1) := by decide +kernel
theorem dX6_load_78 : decode cX6_load 78 = .ok (.iadd, 1) := by decide +kernel
theorem dX6_load_79 : decode cX6_load 79 = .ok (.istore 8, 2) := by decide +kernel
theorem dX6_load_81 : decode cX6_load 81 = .ok (.aload 5, 2) := by decide +kernel
theorem dX6_load_83 : decode cX6_load 83 = .ok (.iload 8, 2) := by decide +kernel
theorem dX6_load_85 : decode cX6_load 85 = .ok (.iconst 2, 1) := by decide +kernel
theorem dX6_load_86 : decode cX6_load 86 = .ok (.invokevirtual 237, 3) := by decide +kernel
theorem dX6_load_89 : decode cX6_load 89 = .ok (.ifCond .ne 6, 3) := by decide +kernel
theorem dX6_load_92 : decode cX6_load 92 = .ok (.bipush (-12), 2) := by decide +kernel
theorem dX6_load_94 : decode cX6_load 94 = .ok (.ireturn, 1) := by decide +kernel
theorem dX6_load_95 : decode cX6_load 95 = .ok (.aload_n 0, 1) := by decide +kernel
theorem dX6_load_96 : decode cX6_load 96 = .ok (.aload 5, 2) := by decide +kernel
theorem dX6_load_98 : decode cX6_load 98 = .ok (.getfield 240, 3) := by decide +kernel
theorem dX6_load_101 : decode cX6_load 101 = .ok (.iload 8, 2) := by decide +kernel
theorem dX6_load_103 : decode cX6_load 103 = .ok (.iaload, 1) := by decide +kernel
theorem dX6_load_104 : decode cX6_load 104 = .ok (.aload 5, 2) := by decide +kernel
theorem dX6_load_106 : decode cX6_load 106 = .ok (.getfield 240, 3) := by decide +kernel
theorem dX6_load_109 : decode cX6_load 109 = .ok (.iload 8, 2) := by decide +kernel
theorem dX6_load_111 : decode cX6_load 111 = .ok (.iconst 1, 1) := by decide +kernel
theorem dX6_load_112 : decode cX6_load 112 = .ok (.iadd, 1) := by decide +kernel
theorem dX6_load_113 : decode cX6_load 113 = .ok (.iaload, 1) := by decide +kernel
theorem dX6_load_114 : decode cX6_load 114 = .ok (.invokevirtual 249, 3) := by decide +kernel
theorem dX6_load_117 : decode cX6_load 117 = .ok (.ifCond .lt 6, 3) := by decide +kernel
theorem dX6_load_120 : decode cX6_load 120 = .ok (.iinc 6 1, 3) := by decide +kernel
theorem dX6_load_123 : decode cX6_load 123 = .ok (.iinc 7 1, 3) := by decide +kernel
theorem dX6_load_126 : decode cX6_load 126 = .ok (.goto (-60), 3) := by decide +kernel
theorem dX6_load_129 : decode cX6_load 129 = .ok (.iload 6, 2) := by decide +kernel
theorem dX6_load_131 : decode cX6_load 131 = .ok (.ireturn, 1) := by decide +kernel
theorem dX6_isByte_0 : decode cX6_isByte 0 = .ok (.iload_n 0, 1) := by decide +kernel
theorem dX6_isByte_1 : decode cX6_isByte 1 = .ok (.ifCond .lt 14, 3) := by decide +kernel
theorem dX6_isByte_4 : decode cX6_isByte 4 = .ok (.iload_n 0, 1) := by decide +kernel
theorem dX6_isByte_5 : decode cX6_isByte 5 = .ok (.sipush 255, 3) := by decide +kernel
theorem dX6_isByte_8 : decode cX6_isByte 8 = .ok (.if_icmp .gt 7, 3) := by decide +kernel
theorem dX6_isByte_11 : decode cX6_isByte 11 = .ok (.iconst 1, 1) := by decide +kernel
theorem dX6_isByte_12 : decode cX6_isByte 12 = .ok (.goto 4, 3) := by decide +kernel
theorem dX6_isByte_15 : decode cX6_isByte 15 = .ok (.iconst 0, 1) := by decide +kernel
theorem dX6_isByte_16 : decode cX6_isByte 16 = .ok (.ireturn, 1) := by decide +kernel
theorem dX6_isSort_0 : decode cX6_isSort 0 = .ok (.iload_n 0, 1) := by decide +kernel
theorem dX6_isSort_1 : decode cX6_isSort 1 = .ok (.ifCond .eq 8, 3) := by decide +kernel
theorem dX6_isSort_4 : decode cX6_isSort 4 = .ok (.iload_n 0, 1) := by decide +kernel
theorem dX6_isSort_5 : decode cX6_isSort 5 = .ok (.iconst 1, 1) := by decide +kernel
theorem dX6_isSort_6 : decode cX6_isSort 6 = .ok (.if_icmp .ne 7, 3) := by decide +kernel
theorem dX6_isSort_9 : decode cX6_isSort 9 = .ok (.iconst 1, 1) := by decide +kernel
theorem dX6_isSort_10 : decode cX6_isSort 10 = .ok (.goto 4, 3) := by decide +kernel
theorem dX6_isSort_13 : decode cX6_isSort 13 = .ok (.iconst 0, 1) := by decide +kernel
theorem dX6_isSort_14 : decode cX6_isSort 14 = .ok (.ireturn, 1) := by decide +kernel
theorem dX6_isSheet_0 : decode cX6_isSheet 0 = .ok (.iload_n 0, 1) := by decide +kernel
theorem dX6_isSheet_1 : decode cX6_isSheet 1 = .ok (.ifCond .lt 12, 3) := by decide +kernel
theorem dX6_isSheet_4 : decode cX6_isSheet 4 = .ok (.iload_n 0, 1) := by decide +kernel
theorem dX6_isSheet_5 : decode cX6_isSheet 5 = .ok (.iconst 4, 1) := by decide +kernel
theorem dX6_isSheet_6 : decode cX6_isSheet 6 = .ok (.if_icmp .ge 7, 3) := by decide +kernel
theorem dX6_isSheet_9 : decode cX6_isSheet 9 = .ok (.iconst 1, 1) := by decide +kernel
theorem dX6_isSheet_10 : decode cX6_isSheet 10 = .ok (.goto 4, 3) := by decide +kernel
theorem dX6_isSheet_13 : decode cX6_isSheet 13 = .ok (.iconst 0, 1) := by decide +kernel
theorem dX6_isSheet_14 : decode cX6_isSheet 14 = .ok (.ireturn, 1) := by decide +kernel
theorem dX6_isPin_0 : decode cX6_isPin 0 = .ok (.iload_n 1, 1) := by decide +kernel
theorem dX6_isPin_1 : decode cX6_isPin 1 = .ok (.ifCond .lt 18, 3) := by decide +kernel
theorem dX6_isPin_4 : decode cX6_isPin 4 = .ok (.iload_n 1, 1) := by decide +kernel
theorem dX6_isPin_5 : decode cX6_isPin 5 = .ok (.aload_n 0, 1) := by decide +kernel
theorem dX6_isPin_6 : decode cX6_isPin 6 = .ok (.getfield 10, 3) := by decide +kernel
theorem dX6_isPin_9 : decode cX6_isPin 9 = .ok (.getfield 95, 3) := by decide +kernel
theorem dX6_isPin_12 : decode cX6_isPin 12 = .ok (.if_icmp .ge 7, 3) := by decide +kernel
theorem dX6_isPin_15 : decode cX6_isPin 15 = .ok (.iconst 1, 1) := by decide +kernel
theorem dX6_isPin_16 : decode cX6_isPin 16 = .ok (.goto 4, 3) := by decide +kernel
theorem dX6_isPin_19 : decode cX6_isPin 19 = .ok (.iconst 0, 1) := by decide +kernel
theorem dX6_isPin_20 : decode cX6_isPin 20 = .ok (.ireturn, 1) := by decide +kernel
theorem dX6_areUnlikePins_0 : decode cX6_areUnlikePins 0 = .ok (.aload_n 0, 1) := by decide +kernel
theorem dX6_areUnlikePins_1 : decode cX6_areUnlikePins 1 = .ok (.iload_n 1, 1) := by decide +kernel
theorem dX6_areUnlikePins_2 : decode cX6_areUnlikePins 2 = .ok (.invokevirtual 137, 3) := by decide +kernel
theorem dX6_areUnlikePins_5 : decode cX6_areUnlikePins 5 = .ok (.ifCond .eq 20, 3) := by decide +kernel
theorem dX6_areUnlikePins_8 : decode cX6_areUnlikePins 8 = .ok (.aload_n 0, 1) := by decide +kernel
theorem dX6_areUnlikePins_9 : decode cX6_areUnlikePins 9 = .ok (.iload_n 2, 1) := by decide +kernel
theorem dX6_areUnlikePins_10 : decode cX6_areUnlikePins 10 = .ok (.invokevirtual 137, 3) := by decide +kernel
theorem dX6_areUnlikePins_13 : decode cX6_areUnlikePins 13 = .ok (.ifCond .eq 12, 3) := by decide +kernel
theorem dX6_areUnlikePins_16 : decode cX6_areUnlikePins 16 = .ok (.iload_n 1, 1) := by decide +kernel
theorem dX6_areUnlikePins_17 : decode cX6_areUnlikePins 17 = .ok (.iload_n 2, 1) := by decide +kernel
theorem dX6_areUnlikePins_18 : decode cX6_areUnlikePins 18 = .ok (.if_icmp .eq 7, 3) := by decide +kernel
theorem dX6_areUnlikePins_21 : decode cX6_areUnlikePins 21 = .ok (.iconst 1, 1) := by decide +kernel
theorem dX6_areUnlikePins_22 : decode cX6_areUnlikePins 22 = .ok (.goto 4, 3) := by decide +kernel
theorem dX6_areUnlikePins_25 : decode cX6_areUnlikePins 25 = .ok (.iconst 0, 1) := by decide +kernel
theorem dX6_areUnlikePins_26 : decode cX6_areUnlikePins 26 = .ok (.ireturn, 1) := by decide +kernel
theorem dX6_isPlace_0 : decode cX6_isPlace 0 = .ok (.iload_n 1, 1) := by decide +kernel
theorem dX6_isPlace_1 : decode cX6_isPlace 1 = .ok (.ifCond .lt 18, 3) := by decide +kernel
theorem dX6_isPlace_4 : decode cX6_isPlace 4 = .ok (.iload_n 1, 1) := by decide +kernel
theorem dX6_isPlace_5 : decode cX6_isPlace 5 = .ok (.aload_n 0, 1) := by decide +kernel
theorem dX6_isPlace_6 : decode cX6_isPlace 6 = .ok (.getfield 10, 3) := by decide +kernel
theorem dX6_isPlace_9 : decode cX6_isPlace 9 = .ok (.getfield 98, 3) := by decide +kernel
theorem dX6_isPlace_12 : decode cX6_isPlace 12 = .ok (.if_icmp .ge 7, 3) := by decide +kernel
theorem dX6_isPlace_15 : decode cX6_isPlace 15 = .ok (.iconst 1, 1) := by decide +kernel
theorem dX6_isPlace_16 : decode cX6_isPlace 16 = .ok (.goto 4, 3) := by decide +kernel
theorem dX6_isPlace_19 : decode cX6_isPlace 19 = .ok (.iconst 0, 1) := by decide +kernel
theorem dX6_isPlace_20 : decode cX6_isPlace 20 = .ok (.ireturn, 1) := by decide +kernel
theorem dX6_doneAsText_0 : decode cX6_doneAsText 0 = .ok (.aload_n 0, 1) := by decide +kernel
theorem dX6_doneAsText_1 : decode cX6_doneAsText 1 = .ok (.getfield 26, 3) := by decide +kernel
theorem dX6_doneAsText_4 : decode cX6_doneAsText 4 = .ok (.invokevirtual 252, 3) := by decide +kernel
theorem dX6_doneAsText_7 : decode cX6_doneAsText 7 = .ok (.istore_n 1, 1) := by decide +kernel
theorem dX6_doneAsText_8 : decode cX6_doneAsText 8 = .ok (.iload_n 1, 1) := by decide +kernel
theorem dX6_doneAsText_9 : decode cX6_doneAsText 9 = .ok (.ldc 255, 2) := by decide +kernel
theorem dX6_doneAsText_11 : decode cX6_doneAsText 11 = .ok (.if_icmp .ne 8, 3) := by decide +kernel
theorem dX6_doneAsText_14 : decode cX6_doneAsText 14 = .ok (.aload_n 0, 1) := by decide +kernel
theorem dX6_doneAsText_15 : decode cX6_doneAsText 15 = .ok (.invokevirtual 256, 3) := by decide +kernel
theorem dX6_doneAsText_18 : decode cX6_doneAsText 18 = .ok (.ireturn, 1) := by decide +kernel
theorem dX6_doneAsText_19 : decode cX6_doneAsText 19 = .ok (.iload_n 1, 1) := by decide +kernel
theorem dX6_doneAsText_20 : decode cX6_doneAsText 20 = .ok (.ldc_w 259, 3) := by decide +kernel
theorem dX6_doneAsText_23 : decode cX6_doneAsText 23 = .ok (.if_icmp .eq 10, 3) := by decide +kernel
theorem dX6_doneAsText_26 : decode cX6_doneAsText 26 = .ok (.iload_n 1, 1) := by decide +kernel
theorem dX6_doneAsText_27 : decode cX6_doneAsText 27 = .ok (.ldc_w 260, 3) := by decide +kernel
theorem dX6_doneAsText_30 : decode cX6_doneAsText 30 = .ok (.if_icmp .ne 20, 3) := by decide +kernel
theorem dX6_doneAsText_33 : decode cX6_doneAsText 33 = .ok (.aload_n 0, 1) := by decide +kernel
theorem dX6_doneAsText_34 : decode cX6_doneAsText 34 = .ok (.iload_n 1, 1) := by decide +kernel
theorem dX6_doneAsText_35 : decode cX6_doneAsText 35 = .ok (.ldc_w 259, 3) := by decide +kernel
theorem dX6_doneAsText_38 : decode cX6_doneAsText 38 = .ok (.if_icmp .ne 7, 3) := by decide +kernel
theorem dX6_doneAsText_41 : decode cX6_doneAsText 41 = .ok (.iconst 1, 1) := by decide +kernel
theorem dX6_doneAsText_42 : decode cX6_doneAsText 42 = .ok (.goto 4, 3) := by decide +kernel
theorem dX6_doneAsText_45 : decode cX6_doneAsText 45 = .ok (.iconst 0, 1) := by decide +kernel
theorem dX6_doneAsText_46 : decode cX6_doneAsText 46 = .ok (.invokevirtual 261, 3) := by decide +kernel
theorem dX6_doneAsText_49 : decode cX6_doneAsText 49 = .ok (.ireturn, 1) := by decide +kernel
theorem dX6_doneAsText_50 : decode cX6_doneAsText 50 = .ok (.aload_n 0, 1) := by decide +kernel
theorem dX6_doneAsText_51 : decode cX6_doneAsText 51 = .ok (.invokevirtual 265, 3) := by decide +kernel
theorem dX6_doneAsText_54 : decode cX6_doneAsText 54 = .ok (.ireturn, 1) := by decide +kernel
theorem dX6_doneAsPin_0 : decode cX6_doneAsPin 0 = .ok (.aload_n 0, 1) := by decide +kernel
theorem dX6_doneAsPin_1 : decode cX6_doneAsPin 1 = .ok (.getfield 26, 3) := by decide +kernel
theorem dX6_doneAsPin_4 : decode cX6_doneAsPin 4 = .ok (.invokevirtual 268, 3) := by decide +kernel
theorem dX6_doneAsPin_7 : decode cX6_doneAsPin 7 = .ok (.istore_n 1, 1) := by decide +kernel
theorem dX6_doneAsPin_8 : decode cX6_doneAsPin 8 = .ok (.iload_n 1, 1) := by decide +kernel
theorem dX6_doneAsPin_9 : decode cX6_doneAsPin 9 = .ok (.invokestatic 271, 3) := by decide +kernel
theorem dX6_doneAsPin_12 : decode cX6_doneAsPin 12 = .ok (.ifCond .eq 15, 3) := by decide +kernel
theorem dX6_doneAsPin_15 : decode cX6_doneAsPin 15 = .ok (.aload_n 0, 1) := by decide +kernel
theorem dX6_doneAsPin_16 : decode cX6_doneAsPin 16 = .ok (.getfield 10, 3) := by decide +kernel
theorem dX6_doneAsPin_19 : decode cX6_doneAsPin 19 = .ok (.iload_n 1, 1) := by decide +kernel
theorem dX6_doneAsPin_20 : decode cX6_doneAsPin 20 = .ok (.invokevirtual 73, 3) := by decide +kernel
theorem dX6_doneAsPin_23 : decode cX6_doneAsPin 23 = .ok (.iconst (-1), 1) := by decide +kernel
theorem dX6_doneAsPin_24 : decode cX6_doneAsPin 24 = .ok (.if_icmp .eq 8, 3) := by decide +kernel
theorem dX6_doneAsPin_27 : decode cX6_doneAsPin 27 = .ok (.aload_n 0, 1) := by decide +kernel
theorem dX6_doneAsPin_28 : decode cX6_doneAsPin 28 = .ok (.invokevirtual 265, 3) := by decide +kernel
theorem dX6_doneAsPin_31 : decode cX6_doneAsPin 31 = .ok (.ireturn, 1) := by decide +kernel
theorem dX6_doneAsPin_32 : decode cX6_doneAsPin 32 = .ok (.aload_n 0, 1) := by decide +kernel
theorem dX6_doneAsPin_33 : decode cX6_doneAsPin 33 = .ok (.getfield 26, 3) := by decide +kernel
theorem dX6_doneAsPin_36 : decode cX6_doneAsPin 36 = .ok (.invokevirtual 274, 3) := by decide +kernel
theorem dX6_doneAsPin_39 : decode cX6_doneAsPin 39 = .ok (.ifCond .ne 8, 3) := by decide +kernel
theorem dX6_doneAsPin_42 : decode cX6_doneAsPin 42 = .ok (.aload_n 0, 1) := by decide +kernel
theorem dX6_doneAsPin_43 : decode cX6_doneAsPin 43 = .ok (.invokevirtual 265, 3) := by decide +kernel
theorem dX6_doneAsPin_46 : decode cX6_doneAsPin 46 = .ok (.ireturn, 1) := by decide +kernel
theorem dX6_doneAsPin_47 : decode cX6_doneAsPin 47 = .ok (.aload_n 0, 1) := by decide +kernel
theorem dX6_doneAsPin_48 : decode cX6_doneAsPin 48 = .ok (.getfield 10, 3) := by decide +kernel
theorem dX6_doneAsPin_51 : decode cX6_doneAsPin 51 = .ok (.iload_n 1, 1) := by decide +kernel
theorem dX6_doneAsPin_52 : decode cX6_doneAsPin 52 = .ok (.invokevirtual 277, 3) := by decide +kernel
theorem dX6_doneAsPin_55 : decode cX6_doneAsPin 55 = .ok (.ireturn, 1) := by decide +kernel
theorem dX6_doneAsBar_0 : decode cX6_doneAsBar 0 = .ok (.aload_n 0, 1) := by decide +kernel
theorem dX6_doneAsBar_1 : decode cX6_doneAsBar 1 = .ok (.getfield 10, 3) := by decide +kernel
theorem dX6_doneAsBar_4 : decode cX6_doneAsBar 4 = .ok (.aload_n 0, 1) := by decide +kernel
theorem dX6_doneAsBar_5 : decode cX6_doneAsBar 5 = .ok (.getfield 26, 3) := by decide +kernel
theorem dX6_doneAsBar_8 : decode cX6_doneAsBar 8 = .ok (.invokevirtual 268, 3) := by decide +kernel
theorem dX6_doneAsBar_11 : decode cX6_doneAsBar 11 = .ok (.invokevirtual 73, 3) := by decide +kernel
theorem dX6_doneAsBar_14 : decode cX6_doneAsBar 14 = .ok (.istore_n 2, 1) := by decide +kernel
theorem dX6_doneAsBar_15 : decode cX6_doneAsBar 15 = .ok (.iload_n 2, 1) := by decide +kernel
theorem dX6_doneAsBar_16 : decode cX6_doneAsBar 16 = .ok (.iconst (-1), 1) := by decide +kernel
theorem dX6_doneAsBar_17 : decode cX6_doneAsBar 17 = .ok (.if_icmp .ne 8, 3) := by decide +kernel
theorem dX6_doneAsBar_20 : decode cX6_doneAsBar 20 = .ok (.aload_n 0, 1) := by decide +kernel
theorem dX6_doneAsBar_21 : decode cX6_doneAsBar 21 = .ok (.invokevirtual 265, 3) := by decide +kernel
theorem dX6_doneAsBar_24 : decode cX6_doneAsBar 24 = .ok (.ireturn, 1) := by decide +kernel
theorem dX6_doneAsBar_25 : decode cX6_doneAsBar 25 = .ok (.aload_n 0, 1) := by decide +kernel
theorem dX6_doneAsBar_26 : decode cX6_doneAsBar 26 = .ok (.getfield 10, 3) := by decide +kernel
theorem dX6_doneAsBar_29 : decode cX6_doneAsBar 29 = .ok (.aload_n 0, 1) := by decide +kernel
theorem dX6_doneAsBar_30 : decode cX6_doneAsBar 30 = .ok (.getfield 26, 3) := by decide +kernel
theorem dX6_doneAsBar_33 : decode cX6_doneAsBar 33 = .ok (.invokevirtual 268, 3) := by decide +kernel
theorem dX6_doneAsBar_36 : decode cX6_doneAsBar 36 = .ok (.invokevirtual 73, 3) := by decide +kernel
theorem dX6_doneAsBar_39 : decode cX6_doneAsBar 39 = .ok (.istore_n 3, 1) := by decide +kernel
theorem dX6_doneAsBar_40 : decode cX6_doneAsBar 40 = .ok (.iload_n 3, 1) := by decide +kernel
theorem dX6_doneAsBar_41 : decode cX6_doneAsBar 41 = .ok (.iconst (-1), 1) := by decide +kernel
theorem dX6_doneAsBar_42 : decode cX6_doneAsBar 42 = .ok (.if_icmp .eq 8, 3) := by decide +kernel
theorem dX6_doneAsBar_45 : decode cX6_doneAsBar 45 = .ok (.iload_n 3, 1) := by decide +kernel
theorem dX6_doneAsBar_46 : decode cX6_doneAsBar 46 = .ok (.iload_n 2, 1) := by decide +kernel
theorem dX6_doneAsBar_47 : decode cX6_doneAsBar 47 = .ok (.if_icmp .ne 8, 3) := by decide +kernel
theorem dX6_doneAsBar_50 : decode cX6_doneAsBar 50 = .ok (.aload_n 0, 1) := by decide +kernel
theorem dX6_doneAsBar_51 : decode cX6_doneAsBar 51 = .ok (.invokevirtual 265, 3) := by decide +kernel
theorem dX6_doneAsBar_54 : decode cX6_doneAsBar 54 = .ok (.ireturn, 1) := by decide +kernel
theorem dX6_doneAsBar_55 : decode cX6_doneAsBar 55 = .ok (.aload_n 0, 1) := by decide +kernel
theorem dX6_doneAsBar_56 : decode cX6_doneAsBar 56 = .ok (.getfield 26, 3) := by decide +kernel
theorem dX6_doneAsBar_59 : decode cX6_doneAsBar 59 = .ok (.invokevirtual 274, 3) := by decide +kernel
theorem dX6_doneAsBar_62 : decode cX6_doneAsBar 62 = .ok (.ifCond .ne 8, 3) := by decide +kernel
theorem dX6_doneAsBar_65 : decode cX6_doneAsBar 65 = .ok (.aload_n 0, 1) := by decide +kernel
theorem dX6_doneAsBar_66 : decode cX6_doneAsBar 66 = .ok (.invokevirtual 265, 3) := by decide +kernel
theorem dX6_doneAsBar_69 : decode cX6_doneAsBar 69 = .ok (.ireturn, 1) := by decide +kernel
theorem dX6_doneAsBar_70 : decode cX6_doneAsBar 70 = .ok (.iload_n 1, 1) := by decide +kernel
theorem dX6_doneAsBar_71 : decode cX6_doneAsBar 71 = .ok (.ifCond .eq 12, 3) := by decide +kernel
theorem dX6_doneAsBar_74 : decode cX6_doneAsBar 74 = .ok (.aload_n 0, 1) := by decide +kernel
theorem dX6_doneAsBar_75 : decode cX6_doneAsBar 75 = .ok (.iload_n 2, 1) := by decide +kernel
theorem dX6_doneAsBar_76 : decode cX6_doneAsBar 76 = .ok (.iload_n 3, 1) := by decide +kernel
theorem dX6_doneAsBar_77 : decode cX6_doneAsBar 77 = .ok (.invokevirtual 249, 3) := by decide +kernel
theorem dX6_doneAsBar_80 : decode cX6_doneAsBar 80 = .ok (.goto 9, 3) := by decide +kernel
theorem dX6_doneAsBar_83 : decode cX6_doneAsBar 83 = .ok (.aload_n 0, 1) := by decide +kernel
theorem dX6_doneAsBar_84 : decode cX6_doneAsBar 84 = .ok (.iload_n 2, 1) := by decide +kernel
theorem dX6_doneAsBar_85 : decode cX6_doneAsBar 85 = .ok (.iload_n 3, 1) := by decide +kernel
theorem dX6_doneAsBar_86 : decode cX6_doneAsBar 86 = .ok (.invokevirtual 280, 3) := by decide +kernel
theorem dX6_doneAsBar_89 : decode cX6_doneAsBar 89 = .ok (.ireturn, 1) := by decide +kernel
theorem dX6_faultHere_0 : decode cX6_faultHere 0 = .ok (.bipush (-100), 2) := by decide +kernel
theorem dX6_faultHere_2 : decode cX6_faultHere 2 = .ok (.aload_n 0, 1) := by decide +kernel
theorem dX6_faultHere_3 : decode cX6_faultHere 3 = .ok (.getfield 26, 3) := by decide +kernel
theorem dX6_faultHere_6 : decode cX6_faultHere 6 = .ok (.getfield 283, 3) := by decide +kernel
theorem dX6_faultHere_9 : decode cX6_faultHere 9 = .ok (.isub, 1) := by decide +kernel
theorem dX6_faultHere_10 : decode cX6_faultHere 10 = .ok (.ireturn, 1) := by decide +kernel
theorem dX6_isName_0 : decode cX6_isName 0 = .ok (.iload_n 0, 1) := by decide +kernel
theorem dX6_isName_1 : decode cX6_isName 1 = .ok (.iconst (-1), 1) := by decide +kernel
theorem dX6_isName_2 : decode cX6_isName 2 = .ok (.if_icmp .eq 27, 3) := by decide +kernel
theorem dX6_isName_5 : decode cX6_isName 5 = .ok (.iload_n 0, 1) := by decide +kernel
theorem dX6_isName_6 : decode cX6_isName 6 = .ok (.ldc 255, 2) := by decide +kernel
theorem dX6_isName_8 : decode cX6_isName 8 = .ok (.if_icmp .eq 21, 3) := by decide +kernel
theorem dX6_isName_11 : decode cX6_isName 11 = .ok (.iload_n 0, 1) := by decide +kernel
theorem dX6_isName_12 : decode cX6_isName 12 = .ok (.ldc_w 259, 3) := by decide +kernel
theorem dX6_isName_15 : decode cX6_isName 15 = .ok (.if_icmp .eq 14, 3) := by decide +kernel
theorem dX6_isName_18 : decode cX6_isName 18 = .ok (.iload_n 0, 1) := by decide +kernel
theorem dX6_isName_19 : decode cX6_isName 19 = .ok (.ldc_w 260, 3) := by decide +kernel
theorem dX6_isName_22 : decode cX6_isName 22 = .ok (.if_icmp .eq 7, 3) := by decide +kernel
theorem dX6_isName_25 : decode cX6_isName 25 = .ok (.iconst 1, 1) := by decide +kernel
theorem dX6_isName_26 : decode cX6_isName 26 = .ok (.goto 4, 3) := by decide +kernel
theorem dX6_isName_29 : decode cX6_isName 29 = .ok (.iconst 0, 1) := by decide +kernel
theorem dX6_isName_30 : decode cX6_isName 30 = .ok (.ireturn, 1) := by decide +kernel
theorem dX6_firstOtherwise_0 : decode cX6_firstOtherwise 0 = .ok (.aload_n 0, 1) := by decide +kernel
theorem dX6_firstOtherwise_1 : decode cX6_firstOtherwise 1 = .ok (.getfield 33, 3) := by decide +kernel
theorem dX6_firstOtherwise_4 : decode cX6_firstOtherwise 4 = .ok (.aload_n 0, 1) := by decide +kernel
theorem dX6_firstOtherwise_5 : decode cX6_firstOtherwise 5 = .ok (.getfield 10, 3) := by decide +kernel
theorem dX6_firstOtherwise_8 : decode cX6_firstOtherwise 8 = .ok (.invokevirtual 91, 3) := by decide +kernel
theorem dX6_firstOtherwise_11 : decode cX6_firstOtherwise 11 = .ok (.iconst 0, 1) := by decide +kernel
theorem dX6_firstOtherwise_12 : decode cX6_firstOtherwise 12 = .ok (.istore_n 2, 1) := by decide +kernel
theorem dX6_firstOtherwise_13 : decode cX6_firstOtherwise 13 = .ok (.iload_n 2, 1) := by decide +kernel
theorem dX6_firstOtherwise_14 : decode cX6_firstOtherwise 14 = .ok (.aload_n 1, 1) := by decide +kernel
theorem dX6_firstOtherwise_15 : decode cX6_firstOtherwise 15 = .ok (.getfield 210, 3) := by decide +kernel
theorem dX6_firstOtherwise_18 : decode cX6_firstOtherwise 18 = .ok (.if_icmp .ge 41, 3) := by decide +kernel
theorem dX6_firstOtherwise_21 : decode cX6_firstOtherwise 21 = .ok (.iload_n 2, 1) := by decide +kernel
theorem dX6_firstOtherwise_22 : decode cX6_firstOtherwise 22 = .ok (.aload_n 0, 1) := by decide +kernel
theorem dX6_firstOtherwise_23 : decode cX6_firstOtherwise 23 = .ok (.getfield 10, 3) := by decide +kernel
theorem dX6_firstOtherwise_26 : decode cX6_firstOtherwise 26 = .ok (.getfield 98, 3) := by decide +kernel
theorem dX6_firstOtherwise_29 : decode cX6_firstOtherwise 29 = .ok (.if_icmp .ge 22, 3) := by decide +kernel
theorem dX6_firstOtherwise_32 : decode cX6_firstOtherwise 32 = .ok (.aload_n 1, 1) := by decide +kernel
theorem dX6_firstOtherwise_33 : decode cX6_firstOtherwise 33 = .ok (.iload_n 2, 1) := by decide +kernel
theorem dX6_firstOtherwise_34 : decode cX6_firstOtherwise 34 = .ok (.invokevirtual 286, 3) := by decide +kernel
theorem dX6_firstOtherwise_37 : decode cX6_firstOtherwise 37 = .ok (.aload_n 0, 1) := by decide +kernel
theorem dX6_firstOtherwise_38 : decode cX6_firstOtherwise 38 = .ok (.getfield 33, 3) := by decide +kernel
theorem dX6_firstOtherwise_41 : decode cX6_firstOtherwise 41 = .ok (.getfield 130, 3) := by decide +kernel
theorem dX6_firstOtherwise_44 : decode cX6_firstOtherwise 44 = .ok (.iload_n 2, 1) := by decide +kernel
theorem dX6_firstOtherwise_45 : decode cX6_firstOtherwise 45 = .ok (.ishr, 1) := by decide +kernel
theorem dX6_firstOtherwise_46 : decode cX6_firstOtherwise 46 = .ok (.iconst 1, 1) := by decide +kernel
theorem dX6_firstOtherwise_47 : decode cX6_firstOtherwise 47 = .ok (.iand, 1) := by decide +kernel
theorem dX6_firstOtherwise_48 : decode cX6_firstOtherwise 48 = .ok (.if_icmp .eq 5, 3) := by decide +kernel
theorem dX6_firstOtherwise_51 : decode cX6_firstOtherwise 51 = .ok (.iload_n 2, 1) := by decide +kernel
theorem dX6_firstOtherwise_52 : decode cX6_firstOtherwise 52 = .ok (.ireturn, 1) := by decide +kernel
theorem dX6_firstOtherwise_53 : decode cX6_firstOtherwise 53 = .ok (.iinc 2 1, 3) := by decide +kernel
theorem dX6_firstOtherwise_56 : decode cX6_firstOtherwise 56 = .ok (.goto (-43), 3) := by decide +kernel
theorem dX6_firstOtherwise_59 : decode cX6_firstOtherwise 59 = .ok (.aload_n 1, 1) := by decide +kernel
theorem dX6_firstOtherwise_60 : decode cX6_firstOtherwise 60 = .ok (.getfield 210, 3) := by decide +kernel
theorem dX6_firstOtherwise_63 : decode cX6_firstOtherwise 63 = .ok (.aload_n 0, 1) := by decide +kernel
theorem dX6_firstOtherwise_64 : decode cX6_firstOtherwise 64 = .ok (.getfield 10, 3) := by decide +kernel
theorem dX6_firstOtherwise_67 : decode cX6_firstOtherwise 67 = .ok (.getfield 98, 3) := by decide +kernel
theorem dX6_firstOtherwise_70 : decode cX6_firstOtherwise 70 = .ok (.if_icmp .ge 10, 3) := by decide +kernel
theorem dX6_firstOtherwise_73 : decode cX6_firstOtherwise 73 = .ok (.aload_n 1, 1) := by decide +kernel
theorem dX6_firstOtherwise_74 : decode cX6_firstOtherwise 74 = .ok (.getfield 210, 3) := by decide +kernel
theorem dX6_firstOtherwise_77 : decode cX6_firstOtherwise 77 = .ok (.goto 4, 3) := by decide +kernel
theorem dX6_firstOtherwise_80 : decode cX6_firstOtherwise 80 = .ok (.iconst (-1), 1) := by decide +kernel
theorem dX6_firstOtherwise_81 : decode cX6_firstOtherwise 81 = .ok (.ireturn, 1) := by decide +kernel
theorem dX6_lastOnesAsTold_0 : decode cX6_lastOnesAsTold 0 = .ok (.aload_n 1, 1) := by decide +kernel
theorem dX6_lastOnesAsTold_1 : decode cX6_lastOnesAsTold 1 = .ok (.getfield 210, 3) := by decide +kernel
theorem dX6_lastOnesAsTold_4 : decode cX6_lastOnesAsTold 4 = .ok (.aload_n 0, 1) := by decide +kernel
theorem dX6_lastOnesAsTold_5 : decode cX6_lastOnesAsTold 5 = .ok (.getfield 10, 3) := by decide +kernel
theorem dX6_lastOnesAsTold_8 : decode cX6_lastOnesAsTold 8 = .ok (.getfield 98, 3) := by decide +kernel
theorem dX6_lastOnesAsTold_11 : decode cX6_lastOnesAsTold 11 = .ok (.if_icmp .eq 5, 3) := by decide +kernel
theorem dX6_lastOnesAsTold_14 : decode cX6_lastOnesAsTold 14 = .ok (.iconst 0, 1) := by decide +kernel
theorem dX6_lastOnesAsTold_15 : decode cX6_lastOnesAsTold 15 = .ok (.ireturn, 1) := by decide +kernel
theorem dX6_lastOnesAsTold_16 : decode cX6_lastOnesAsTold 16 = .ok (.iconst 0, 1) := by decide +kernel
theorem dX6_lastOnesAsTold_17 : decode cX6_lastOnesAsTold 17 = .ok (.istore_n 2, 1) := by decide +kernel
theorem dX6_lastOnesAsTold_18 : decode cX6_lastOnesAsTold 18 = .ok (.iconst 0, 1) := by decide +kernel
theorem dX6_lastOnesAsTold_19 : decode cX6_lastOnesAsTold 19 = .ok (.istore_n 3, 1) := by decide +kernel
theorem dX6_lastOnesAsTold_20 : decode cX6_lastOnesAsTold 20 = .ok (.iload_n 3, 1) := by decide +kernel
theorem dX6_lastOnesAsTold_21 : decode cX6_lastOnesAsTold 21 = .ok (.aload_n 1, 1) := by decide +kernel
theorem dX6_lastOnesAsTold_22 : decode cX6_lastOnesAsTold 22 = .ok (.getfield 210, 3) := by decide +kernel
theorem dX6_lastOnesAsTold_25 : decode cX6_lastOnesAsTold 25 = .ok (.if_icmp .ge 19, 3) := by decide +kernel
theorem dX6_lastOnesAsTold_28 : decode cX6_lastOnesAsTold 28 = .ok (.iload_n 2, 1) := by decide +kernel
theorem dX6_lastOnesAsTold_29 : decode cX6_lastOnesAsTold 29 = .ok (.aload_n 1, 1) := by decide +kernel
theorem dX6_lastOnesAsTold_30 : decode cX6_lastOnesAsTold 30 = .ok (.iload_n 3, 1) := by decide +kernel
theorem dX6_lastOnesAsTold_31 : decode cX6_lastOnesAsTold 31 = .ok (.invokevirtual 286, 3) := by decide +kernel
theorem dX6_lastOnesAsTold_34 : decode cX6_lastOnesAsTold 34 = .ok (.iload_n 3, 1) := by decide +kernel
theorem dX6_lastOnesAsTold_35 : decode cX6_lastOnesAsTold 35 = .ok (.ishl, 1) := by decide +kernel
theorem dX6_lastOnesAsTold_36 : decode cX6_lastOnesAsTold 36 = .ok (.ior, 1) := by decide +kernel
theorem dX6_lastOnesAsTold_37 : decode cX6_lastOnesAsTold 37 = .ok (.istore_n 2, 1) := by decide +kernel
theorem dX6_lastOnesAsTold_38 : decode cX6_lastOnesAsTold 38 = .ok (.iinc 3 1, 3) := by decide +kernel
theorem dX6_lastOnesAsTold_41 : decode cX6_lastOnesAsTold 41 = .ok (.goto (-21), 3) := by decide +kernel
theorem dX6_lastOnesAsTold_44 : decode cX6_lastOnesAsTold 44 = .ok (.iconst 0, 1) := by decide +kernel
theorem dX6_lastOnesAsTold_45 : decode cX6_lastOnesAsTold 45 = .ok (.istore_n 3, 1) := by decide +kernel
theorem dX6_lastOnesAsTold_46 : decode cX6_lastOnesAsTold 46 = .ok (.iconst 0, 1) := by decide +kernel
theorem dX6_lastOnesAsTold_47 : decode cX6_lastOnesAsTold 47 = .ok (.istore 4, 2) := by decide +kernel
theorem dX6_lastOnesAsTold_49 : decode cX6_lastOnesAsTold 49 = .ok (.iload 4, 2) := by decide +kernel
theorem dX6_lastOnesAsTold_51 : decode cX6_lastOnesAsTold 51 = .ok (.aload_n 0, 1) := by decide +kernel
theorem dX6_lastOnesAsTold_52 : decode cX6_lastOnesAsTold 52 = .ok (.getfield 10, 3) := by decide +kernel
theorem dX6_lastOnesAsTold_55 : decode cX6_lastOnesAsTold 55 = .ok (.getfield 98, 3) := by decide +kernel
theorem dX6_lastOnesAsTold_58 : decode cX6_lastOnesAsTold 58 = .ok (.if_icmp .ge 33, 3) := by decide +kernel
theorem dX6_lastOnesAsTold_61 : decode cX6_lastOnesAsTold 61 = .ok (.aload_n 0, 1) := by decide +kernel
theorem dX6_lastOnesAsTold_62 : decode cX6_lastOnesAsTold 62 = .ok (.getfield 33, 3) := by decide +kernel
theorem dX6_lastOnesAsTold_65 : decode cX6_lastOnesAsTold 65 = .ok (.aload_n 0, 1) := by decide +kernel
theorem dX6_lastOnesAsTold_66 : decode cX6_lastOnesAsTold 66 = .ok (.getfield 10, 3) := by decide +kernel
theorem dX6_lastOnesAsTold_69 : decode cX6_lastOnesAsTold 69 = .ok (.iload 4, 2) := by decide +kernel
theorem dX6_lastOnesAsTold_71 : decode cX6_lastOnesAsTold 71 = .ok (.invokevirtual 289, 3) := by decide +kernel
theorem dX6_lastOnesAsTold_74 : decode cX6_lastOnesAsTold 74 = .ok (.iload_n 2, 1) := by decide +kernel
theorem dX6_lastOnesAsTold_75 : decode cX6_lastOnesAsTold 75 = .ok (.if_icmp .ne 10, 3) := by decide +kernel
theorem dX6_lastOnesAsTold_78 : decode cX6_lastOnesAsTold 78 = .ok (.iload_n 3, 1) := by decide +kernel
theorem dX6_lastOnesAsTold_79 : decode cX6_lastOnesAsTold 79 = .ok (.iconst 1, 1) := by decide +kernel
theorem dX6_lastOnesAsTold_80 : decode cX6_lastOnesAsTold 80 = .ok (.iload 4, 2) := by decide +kernel
theorem dX6_lastOnesAsTold_82 : decode cX6_lastOnesAsTold 82 = .ok (.ishl, 1) := by decide +kernel
theorem dX6_lastOnesAsTold_83 : decode cX6_lastOnesAsTold 83 = .ok (.ior, 1) := by decide +kernel
theorem dX6_lastOnesAsTold_84 : decode cX6_lastOnesAsTold 84 = .ok (.istore_n 3, 1) := by decide +kernel
theorem dX6_lastOnesAsTold_85 : decode cX6_lastOnesAsTold 85 = .ok (.iinc 4 1, 3) := by decide +kernel
theorem dX6_lastOnesAsTold_88 : decode cX6_lastOnesAsTold 88 = .ok (.goto (-39), 3) := by decide +kernel
theorem dX6_lastOnesAsTold_91 : decode cX6_lastOnesAsTold 91 = .ok (.iload_n 3, 1) := by decide +kernel
theorem dX6_lastOnesAsTold_92 : decode cX6_lastOnesAsTold 92 = .ok (.ireturn, 1) := by decide +kernel
