theorem dX0_init_0 : decode cX0_init 0 = .ok (.aload_n 0, 1) := by decide +kernel
theorem dX0_init_1 : decode cX0_init 1 = .ok (.invokespecial 3, 3) := by decide +kernel
theorem dX0_init_4 : decode cX0_init 4 = .ok (.aload_n 0, 1) := by decide +kernel
theorem dX0_init_5 : decode cX0_init 5 = .ok (.iconst 0, 1) := by decide +kernel
theorem dX0_init_6 : decode cX0_init 6 = .ok (.putfield 9, 3) := by decide +kernel
theorem dX0_init_9 : decode cX0_init 9 = .ok (.aload_n 0, 1) := by decide +kernel
theorem dX0_init_10 : decode cX0_init 10 = .ok (.iconst 0, 1) := by decide +kernel
theorem dX0_init_11 : decode cX0_init 11 = .ok (.putfield 15, 3) := by decide +kernel
theorem dX0_init_14 : decode cX0_init 14 = .ok (.aload_n 0, 1) := by decide +kernel
theorem dX0_init_15 : decode cX0_init 15 = .ok (.bipush 12, 2) := by decide +kernel
theorem dX0_init_17 : decode cX0_init 17 = .ok (.newarray .int, 2) := by decide +kernel
theorem dX0_init_19 : decode cX0_init 19 = .ok (.putfield 18, 3) := by decide +kernel
theorem dX0_init_22 : decode cX0_init 22 = .ok (.aload_n 0, 1) := by decide +kernel
theorem dX0_init_23 : decode cX0_init 23 = .ok (.bipush 24, 2) := by decide +kernel
theorem dX0_init_25 : decode cX0_init 25 = .ok (.newarray .int, 2) := by decide +kernel
theorem dX0_init_27 : decode cX0_init 27 = .ok (.putfield 22, 3) := by decide +kernel
theorem dX0_init_30 : decode cX0_init 30 = .ok (.aload_n 0, 1) := by decide +kernel
theorem dX0_init_31 : decode cX0_init 31 = .ok (.bipush 24, 2) := by decide +kernel
theorem dX0_init_33 : decode cX0_init 33 = .ok (.newarray .int, 2) := by decide +kernel
theorem dX0_init_35 : decode cX0_init 35 = .ok (.putfield 25, 3) := by decide +kernel
theorem dX0_init_38 : decode cX0_init 38 = .ok (.return_, 1) := by decide +kernel
theorem dX0_addPin_0 : decode cX0_addPin 0 = .ok (.aload_n 0, 1) := by decide +kernel
theorem dX0_addPin_1 : decode cX0_addPin 1 = .ok (.getfield 9, 3) := by decide +kernel
theorem dX0_addPin_4 : decode cX0_addPin 4 = .ok (.bipush 12, 2) := by decide +kernel
theorem dX0_addPin_6 : decode cX0_addPin 6 = .ok (.if_icmp .lt 6, 3) := by decide +kernel
theorem dX0_addPin_9 : decode cX0_addPin 9 = .ok (.bipush (-4), 2) := by decide +kernel
theorem dX0_addPin_11 : decode cX0_addPin 11 = .ok (.ireturn, 1) := by decide +kernel
theorem dX0_addPin_12 : decode cX0_addPin 12 = .ok (.aload_n 0, 1) := by decide +kernel
theorem dX0_addPin_13 : decode cX0_addPin 13 = .ok (.getfield 18, 3) := by decide +kernel
theorem dX0_addPin_16 : decode cX0_addPin 16 = .ok (.aload_n 0, 1) := by decide +kernel
theorem dX0_addPin_17 : decode cX0_addPin 17 = .ok (.getfield 9, 3) := by decide +kernel
theorem dX0_addPin_20 : decode cX0_addPin 20 = .ok (.iload_n 1, 1) := by decide +kernel
theorem dX0_addPin_21 : decode cX0_addPin 21 = .ok (.iastore, 1) := by decide +kernel
theorem dX0_addPin_22 : decode cX0_addPin 22 = .ok (.aload_n 0, 1) := by decide +kernel
theorem dX0_addPin_23 : decode cX0_addPin 23 = .ok (.dup, 1) := by decide +kernel
theorem dX0_addPin_24 : decode cX0_addPin 24 = .ok (.getfield 9, 3) := by decide +kernel
theorem dX0_addPin_27 : decode cX0_addPin 27 = .ok (.iconst 1, 1) := by decide +kernel
theorem dX0_addPin_28 : decode cX0_addPin 28 = .ok (.iadd, 1) := by decide +kernel
theorem dX0_addPin_29 : decode cX0_addPin 29 = .ok (.putfield 9, 3) := by decide +kernel
theorem dX0_addPin_32 : decode cX0_addPin 32 = .ok (.aload_n 0, 1) := by decide +kernel
theorem dX0_addPin_33 : decode cX0_addPin 33 = .ok (.getfield 9, 3) := by decide +kernel
theorem dX0_addPin_36 : decode cX0_addPin 36 = .ok (.iconst 1, 1) := by decide +kernel
theorem dX0_addPin_37 : decode cX0_addPin 37 = .ok (.isub, 1) := by decide +kernel
theorem dX0_addPin_38 : decode cX0_addPin 38 = .ok (.ireturn, 1) := by decide +kernel
theorem dX0_pinOfName_0 : decode cX0_pinOfName 0 = .ok (.iconst 0, 1) := by decide +kernel
theorem dX0_pinOfName_1 : decode cX0_pinOfName 1 = .ok (.istore_n 2, 1) := by decide +kernel
theorem dX0_pinOfName_2 : decode cX0_pinOfName 2 = .ok (.iload_n 2, 1) := by decide +kernel
theorem dX0_pinOfName_3 : decode cX0_pinOfName 3 = .ok (.aload_n 0, 1) := by decide +kernel
theorem dX0_pinOfName_4 : decode cX0_pinOfName 4 = .ok (.getfield 9, 3) := by decide +kernel
theorem dX0_pinOfName_7 : decode cX0_pinOfName 7 = .ok (.if_icmp .ge 21, 3) := by decide +kernel
theorem dX0_pinOfName_10 : decode cX0_pinOfName 10 = .ok (.aload_n 0, 1) := by decide +kernel
theorem dX0_pinOfName_11 : decode cX0_pinOfName 11 = .ok (.getfield 18, 3) := by decide +kernel
theorem dX0_pinOfName_14 : decode cX0_pinOfName 14 = .ok (.iload_n 2, 1) := by decide +kernel
theorem dX0_pinOfName_15 : decode cX0_pinOfName 15 = .ok (.iaload, 1) := by decide +kernel
theorem dX0_pinOfName_16 : decode cX0_pinOfName 16 = .ok (.iload_n 1, 1) := by decide +kernel
theorem dX0_pinOfName_17 : decode cX0_pinOfName 17 = .ok (.if_icmp .ne 5, 3) := by decide +kernel
theorem dX0_pinOfName_20 : decode cX0_pinOfName 20 = .ok (.iload_n 2, 1) := by decide +kernel
theorem dX0_pinOfName_21 : decode cX0_pinOfName 21 = .ok (.ireturn, 1) := by decide +kernel
theorem dX0_pinOfName_22 : decode cX0_pinOfName 22 = .ok (.iinc 2 1, 3) := by decide +kernel
theorem dX0_pinOfName_25 : decode cX0_pinOfName 25 = .ok (.goto (-23), 3) := by decide +kernel
theorem dX0_pinOfName_28 : decode cX0_pinOfName 28 = .ok (.iconst (-1), 1) := by decide +kernel
theorem dX0_pinOfName_29 : decode cX0_pinOfName 29 = .ok (.ireturn, 1) := by decide +kernel
theorem dX0_letters_0 : decode cX0_letters 0 = .ok (.iconst 0, 1) := by decide +kernel
theorem dX0_letters_1 : decode cX0_letters 1 = .ok (.istore_n 2, 1) := by decide +kernel
theorem dX0_letters_2 : decode cX0_letters 2 = .ok (.aload_n 0, 1) := by decide +kernel
theorem dX0_letters_3 : decode cX0_letters 3 = .ok (.getfield 18, 3) := by decide +kernel
theorem dX0_letters_6 : decode cX0_letters 6 = .ok (.iload_n 1, 1) := by decide +kernel
theorem dX0_letters_7 : decode cX0_letters 7 = .ok (.iaload, 1) := by decide +kernel
theorem dX0_letters_8 : decode cX0_letters 8 = .ok (.istore_n 3, 1) := by decide +kernel
theorem dX0_letters_9 : decode cX0_letters 9 = .ok (.iload_n 3, 1) := by decide +kernel
theorem dX0_letters_10 : decode cX0_letters 10 = .ok (.ifCond .eq 19, 3) := by decide +kernel
theorem dX0_letters_13 : decode cX0_letters 13 = .ok (.iload_n 2, 1) := by decide +kernel
theorem dX0_letters_14 : decode cX0_letters 14 = .ok (.iconst 4, 1) := by decide +kernel
theorem dX0_letters_15 : decode cX0_letters 15 = .ok (.if_icmp .ge 14, 3) := by decide +kernel
theorem dX0_letters_18 : decode cX0_letters 18 = .ok (.iinc 2 1, 3) := by decide +kernel
theorem dX0_letters_21 : decode cX0_letters 21 = .ok (.iload_n 3, 1) := by decide +kernel
theorem dX0_letters_22 : decode cX0_letters 22 = .ok (.bipush 8, 2) := by decide +kernel
theorem dX0_letters_24 : decode cX0_letters 24 = .ok (.ishr, 1) := by decide +kernel
theorem dX0_letters_25 : decode cX0_letters 25 = .ok (.istore_n 3, 1) := by decide +kernel
theorem dX0_letters_26 : decode cX0_letters 26 = .ok (.goto (-17), 3) := by decide +kernel
theorem dX0_letters_29 : decode cX0_letters 29 = .ok (.iload_n 2, 1) := by decide +kernel
theorem dX0_letters_30 : decode cX0_letters 30 = .ok (.ireturn, 1) := by decide +kernel
theorem dX0_letter_0 : decode cX0_letter 0 = .ok (.aload_n 0, 1) := by decide +kernel
theorem dX0_letter_1 : decode cX0_letter 1 = .ok (.iload_n 1, 1) := by decide +kernel
theorem dX0_letter_2 : decode cX0_letter 2 = .ok (.invokevirtual 28, 3) := by decide +kernel
theorem dX0_letter_5 : decode cX0_letter 5 = .ok (.iconst 1, 1) := by decide +kernel
theorem dX0_letter_6 : decode cX0_letter 6 = .ok (.isub, 1) := by decide +kernel
theorem dX0_letter_7 : decode cX0_letter 7 = .ok (.iload_n 2, 1) := by decide +kernel
theorem dX0_letter_8 : decode cX0_letter 8 = .ok (.isub, 1) := by decide +kernel
theorem dX0_letter_9 : decode cX0_letter 9 = .ok (.istore_n 3, 1) := by decide +kernel
theorem dX0_letter_10 : decode cX0_letter 10 = .ok (.iload_n 3, 1) := by decide +kernel
theorem dX0_letter_11 : decode cX0_letter 11 = .ok (.ifCond .ge 7, 3) := by decide +kernel
theorem dX0_letter_14 : decode cX0_letter 14 = .ok (.iconst (-1), 1) := by decide +kernel
theorem dX0_letter_15 : decode cX0_letter 15 = .ok (.goto 18, 3) := by decide +kernel
theorem dX0_letter_18 : decode cX0_letter 18 = .ok (.aload_n 0, 1) := by decide +kernel
theorem dX0_letter_19 : decode cX0_letter 19 = .ok (.getfield 18, 3) := by decide +kernel
theorem dX0_letter_22 : decode cX0_letter 22 = .ok (.iload_n 1, 1) := by decide +kernel
theorem dX0_letter_23 : decode cX0_letter 23 = .ok (.iaload, 1) := by decide +kernel
theorem dX0_letter_24 : decode cX0_letter 24 = .ok (.bipush 8, 2) := by decide +kernel
theorem dX0_letter_26 : decode cX0_letter 26 = .ok (.iload_n 3, 1) := by decide +kernel
theorem dX0_letter_27 : decode cX0_letter 27 = .ok (.imul, 1) := by decide +kernel
theorem dX0_letter_28 : decode cX0_letter 28 = .ok (.ishr, 1) := by decide +kernel
theorem dX0_letter_29 : decode cX0_letter 29 = .ok (.sipush 255, 3) := by decide +kernel
theorem dX0_letter_32 : decode cX0_letter 32 = .ok (.iand, 1) := by decide +kernel
theorem dX0_letter_33 : decode cX0_letter 33 = .ok (.ireturn, 1) := by decide +kernel
theorem dX0_addBar_0 : decode cX0_addBar 0 = .ok (.aload_n 0, 1) := by decide +kernel
theorem dX0_addBar_1 : decode cX0_addBar 1 = .ok (.getfield 15, 3) := by decide +kernel
theorem dX0_addBar_4 : decode cX0_addBar 4 = .ok (.bipush 24, 2) := by decide +kernel
theorem dX0_addBar_6 : decode cX0_addBar 6 = .ok (.if_icmp .lt 6, 3) := by decide +kernel
theorem dX0_addBar_9 : decode cX0_addBar 9 = .ok (.bipush (-4), 2) := by decide +kernel
theorem dX0_addBar_11 : decode cX0_addBar 11 = .ok (.ireturn, 1) := by decide +kernel
theorem dX0_addBar_12 : decode cX0_addBar 12 = .ok (.aload_n 0, 1) := by decide +kernel
theorem dX0_addBar_13 : decode cX0_addBar 13 = .ok (.getfield 22, 3) := by decide +kernel
theorem dX0_addBar_16 : decode cX0_addBar 16 = .ok (.aload_n 0, 1) := by decide +kernel
theorem dX0_addBar_17 : decode cX0_addBar 17 = .ok (.getfield 15, 3) := by decide +kernel
theorem dX0_addBar_20 : decode cX0_addBar 20 = .ok (.iload_n 1, 1) := by decide +kernel
theorem dX0_addBar_21 : decode cX0_addBar 21 = .ok (.iload_n 2, 1) := by decide +kernel
theorem dX0_addBar_22 : decode cX0_addBar 22 = .ok (.invokestatic 32, 3) := by decide +kernel
theorem dX0_addBar_25 : decode cX0_addBar 25 = .ok (.iastore, 1) := by decide +kernel
theorem dX0_addBar_26 : decode cX0_addBar 26 = .ok (.aload_n 0, 1) := by decide +kernel
theorem dX0_addBar_27 : decode cX0_addBar 27 = .ok (.getfield 25, 3) := by decide +kernel
theorem dX0_addBar_30 : decode cX0_addBar 30 = .ok (.aload_n 0, 1) := by decide +kernel
theorem dX0_addBar_31 : decode cX0_addBar 31 = .ok (.getfield 15, 3) := by decide +kernel
theorem dX0_addBar_34 : decode cX0_addBar 34 = .ok (.iload_n 1, 1) := by decide +kernel
theorem dX0_addBar_35 : decode cX0_addBar 35 = .ok (.iload_n 2, 1) := by decide +kernel
theorem dX0_addBar_36 : decode cX0_addBar 36 = .ok (.invokestatic 38, 3) := by decide +kernel
theorem dX0_addBar_39 : decode cX0_addBar 39 = .ok (.iastore, 1) := by decide +kernel
theorem dX0_addBar_40 : decode cX0_addBar 40 = .ok (.aload_n 0, 1) := by decide +kernel
theorem dX0_addBar_41 : decode cX0_addBar 41 = .ok (.dup, 1) := by decide +kernel
theorem dX0_addBar_42 : decode cX0_addBar 42 = .ok (.getfield 15, 3) := by decide +kernel
theorem dX0_addBar_45 : decode cX0_addBar 45 = .ok (.iconst 1, 1) := by decide +kernel
theorem dX0_addBar_46 : decode cX0_addBar 46 = .ok (.iadd, 1) := by decide +kernel
theorem dX0_addBar_47 : decode cX0_addBar 47 = .ok (.putfield 15, 3) := by decide +kernel
theorem dX0_addBar_50 : decode cX0_addBar 50 = .ok (.aload_n 0, 1) := by decide +kernel
theorem dX0_addBar_51 : decode cX0_addBar 51 = .ok (.getfield 15, 3) := by decide +kernel
theorem dX0_addBar_54 : decode cX0_addBar 54 = .ok (.iconst 1, 1) := by decide +kernel
theorem dX0_addBar_55 : decode cX0_addBar 55 = .ok (.isub, 1) := by decide +kernel
theorem dX0_addBar_56 : decode cX0_addBar 56 = .ok (.ireturn, 1) := by decide +kernel
theorem dX0_dropBar_0 : decode cX0_dropBar 0 = .ok (.iload_n 1, 1) := by decide +kernel
theorem dX0_dropBar_1 : decode cX0_dropBar 1 = .ok (.istore_n 2, 1) := by decide +kernel
theorem dX0_dropBar_2 : decode cX0_dropBar 2 = .ok (.iload_n 2, 1) := by decide +kernel
theorem dX0_dropBar_3 : decode cX0_dropBar 3 = .ok (.iconst 1, 1) := by decide +kernel
theorem dX0_dropBar_4 : decode cX0_dropBar 4 = .ok (.iadd, 1) := by decide +kernel
theorem dX0_dropBar_5 : decode cX0_dropBar 5 = .ok (.aload_n 0, 1) := by decide +kernel
theorem dX0_dropBar_6 : decode cX0_dropBar 6 = .ok (.getfield 15, 3) := by decide +kernel
theorem dX0_dropBar_9 : decode cX0_dropBar 9 = .ok (.if_icmp .ge 37, 3) := by decide +kernel
theorem dX0_dropBar_12 : decode cX0_dropBar 12 = .ok (.aload_n 0, 1) := by decide +kernel
theorem dX0_dropBar_13 : decode cX0_dropBar 13 = .ok (.getfield 22, 3) := by decide +kernel
theorem dX0_dropBar_16 : decode cX0_dropBar 16 = .ok (.iload_n 2, 1) := by decide +kernel
theorem dX0_dropBar_17 : decode cX0_dropBar 17 = .ok (.aload_n 0, 1) := by decide +kernel
theorem dX0_dropBar_18 : decode cX0_dropBar 18 = .ok (.getfield 22, 3) := by decide +kernel
theorem dX0_dropBar_21 : decode cX0_dropBar 21 = .ok (.iload_n 2, 1) := by decide +kernel
theorem dX0_dropBar_22 : decode cX0_dropBar 22 = .ok (.iconst 1, 1) := by decide +kernel
theorem dX0_dropBar_23 : decode cX0_dropBar 23 = .ok (.iadd, 1) := by decide +kernel
theorem dX0_dropBar_24 : decode cX0_dropBar 24 = .ok (.iaload, 1) := by decide +kernel
theorem dX0_dropBar_25 : decode cX0_dropBar 25 = .ok (.iastore, 1) := by decide +kernel
theorem dX0_dropBar_26 : decode cX0_dropBar 26 = .ok (.aload_n 0, 1) := by decide +kernel
theorem dX0_dropBar_27 : decode cX0_dropBar 27 = .ok (.getfield 25, 3) := by decide +kernel
theorem dX0_dropBar_30 : decode cX0_dropBar 30 = .ok (.iload_n 2, 1) := by decide +kernel
theorem dX0_dropBar_31 : decode cX0_dropBar 31 = .ok (.aload_n 0, 1) := by decide +kernel
theorem dX0_dropBar_32 : decode cX0_dropBar 32 = .ok (.getfield 25, 3) := by decide +kernel
theorem dX0_dropBar_35 : decode cX0_dropBar 35 = .ok (.iload_n 2, 1) := by decide +kernel
theorem dX0_dropBar_36 : decode cX0_dropBar 36 = .ok (.iconst 1, 1) := by decide +kernel
theorem dX0_dropBar_37 : decode cX0_dropBar 37 = .ok (.iadd, 1) := by decide +kernel
theorem dX0_dropBar_38 : decode cX0_dropBar 38 = .ok (.iaload, 1) := by decide +kernel
theorem dX0_dropBar_39 : decode cX0_dropBar 39 = .ok (.iastore, 1) := by decide +kernel
theorem dX0_dropBar_40 : decode cX0_dropBar 40 = .ok (.iinc 2 1, 3) := by decide +kernel
theorem dX0_dropBar_43 : decode cX0_dropBar 43 = .ok (.goto (-41), 3) := by decide +kernel
theorem dX0_dropBar_46 : decode cX0_dropBar 46 = .ok (.aload_n 0, 1) := by decide +kernel
theorem dX0_dropBar_47 : decode cX0_dropBar 47 = .ok (.dup, 1) := by decide +kernel
theorem dX0_dropBar_48 : decode cX0_dropBar 48 = .ok (.getfield 15, 3) := by decide +kernel
theorem dX0_dropBar_51 : decode cX0_dropBar 51 = .ok (.iconst 1, 1) := by decide +kernel
theorem dX0_dropBar_52 : decode cX0_dropBar 52 = .ok (.isub, 1) := by decide +kernel
theorem dX0_dropBar_53 : decode cX0_dropBar 53 = .ok (.putfield 15, 3) := by decide +kernel
theorem dX0_dropBar_56 : decode cX0_dropBar 56 = .ok (.return_, 1) := by decide +kernel
theorem dX0_placeOf_0 : decode cX0_placeOf 0 = .ok (.iload_n 1, 1) := by decide +kernel
theorem dX0_placeOf_1 : decode cX0_placeOf 1 = .ok (.iload_n 2, 1) := by decide +kernel
theorem dX0_placeOf_2 : decode cX0_placeOf 2 = .ok (.invokestatic 32, 3) := by decide +kernel
theorem dX0_placeOf_5 : decode cX0_placeOf 5 = .ok (.istore_n 3, 1) := by decide +kernel
theorem dX0_placeOf_6 : decode cX0_placeOf 6 = .ok (.iload_n 1, 1) := by decide +kernel
theorem dX0_placeOf_7 : decode cX0_placeOf 7 = .ok (.iload_n 2, 1) := by decide +kernel
theorem dX0_placeOf_8 : decode cX0_placeOf 8 = .ok (.invokestatic 38, 3) := by decide +kernel
theorem dX0_placeOf_11 : decode cX0_placeOf 11 = .ok (.istore 4, 2) := by decide +kernel
theorem dX0_placeOf_13 : decode cX0_placeOf 13 = .ok (.iconst 0, 1) := by decide +kernel
theorem dX0_placeOf_14 : decode cX0_placeOf 14 = .ok (.istore 5, 2) := by decide +kernel
theorem dX0_placeOf_16 : decode cX0_placeOf 16 = .ok (.iload 5, 2) := by decide +kernel
theorem dX0_placeOf_18 : decode cX0_placeOf 18 = .ok (.aload_n 0, 1) := by decide +kernel
theorem dX0_placeOf_19 : decode cX0_placeOf 19 = .ok (.getfield 15, 3) := by decide +kernel
theorem dX0_placeOf_22 : decode cX0_placeOf 22 = .ok (.if_icmp .ge 35, 3) := by decide +kernel
theorem dX0_placeOf_25 : decode cX0_placeOf 25 = .ok (.aload_n 0, 1) := by decide +kernel
theorem dX0_placeOf_26 : decode cX0_placeOf 26 = .ok (.getfield 22, 3) := by decide +kernel
theorem dX0_placeOf_29 : decode cX0_placeOf 29 = .ok (.iload 5, 2) := by decide +kernel
theorem dX0_placeOf_31 : decode cX0_placeOf 31 = .ok (.iaload, 1) := by decide +kernel
theorem dX0_placeOf_32 : decode cX0_placeOf 32 = .ok (.iload_n 3, 1) := by decide +kernel
theorem dX0_placeOf_33 : decode cX0_placeOf 33 = .ok (.if_icmp .ne 18, 3) := by decide +kernel
theorem dX0_placeOf_36 : decode cX0_placeOf 36 = .ok (.aload_n 0, 1) := by decide +kernel
theorem dX0_placeOf_37 : decode cX0_placeOf 37 = .ok (.getfield 25, 3) := by decide +kernel
theorem dX0_placeOf_40 : decode cX0_placeOf 40 = .ok (.iload 5, 2) := by decide +kernel
theorem dX0_placeOf_42 : decode cX0_placeOf 42 = .ok (.iaload, 1) := by decide +kernel
theorem dX0_placeOf_43 : decode cX0_placeOf 43 = .ok (.iload 4, 2) := by decide +kernel
theorem dX0_placeOf_45 : decode cX0_placeOf 45 = .ok (.if_icmp .ne 6, 3) := by decide +kernel
theorem dX0_placeOf_48 : decode cX0_placeOf 48 = .ok (.iload 5, 2) := by decide +kernel
theorem dX0_placeOf_50 : decode cX0_placeOf 50 = .ok (.ireturn, 1) := by decide +kernel
theorem dX0_placeOf_51 : decode cX0_placeOf 51 = .ok (.iinc 5 1, 3) := by decide +kernel
theorem dX0_placeOf_54 : decode cX0_placeOf 54 = .ok (.goto (-38), 3) := by decide +kernel
theorem dX0_placeOf_57 : decode cX0_placeOf 57 = .ok (.iconst (-1), 1) := by decide +kernel
theorem dX0_placeOf_58 : decode cX0_placeOf 58 = .ok (.ireturn, 1) := by decide +kernel
theorem dX0_neighbours_0 : decode cX0_neighbours 0 = .ok (.iconst 0, 1) := by decide +kernel
theorem dX0_neighbours_1 : decode cX0_neighbours 1 = .ok (.istore_n 2, 1) := by decide +kernel
theorem dX0_neighbours_2 : decode cX0_neighbours 2 = .ok (.iconst 0, 1) := by decide +kernel
theorem dX0_neighbours_3 : decode cX0_neighbours 3 = .ok (.istore_n 3, 1) := by decide +kernel
theorem dX0_neighbours_4 : decode cX0_neighbours 4 = .ok (.iload_n 3, 1) := by decide +kernel
theorem dX0_neighbours_5 : decode cX0_neighbours 5 = .ok (.aload_n 0, 1) := by decide +kernel
theorem dX0_neighbours_6 : decode cX0_neighbours 6 = .ok (.getfield 15, 3) := by decide +kernel
theorem dX0_neighbours_9 : decode cX0_neighbours 9 = .ok (.if_icmp .ge 54, 3) := by decide +kernel
theorem dX0_neighbours_12 : decode cX0_neighbours 12 = .ok (.aload_n 0, 1) := by decide +kernel
theorem dX0_neighbours_13 : decode cX0_neighbours 13 = .ok (.getfield 22, 3) := by decide +kernel
theorem dX0_neighbours_16 : decode cX0_neighbours 16 = .ok (.iload_n 3, 1) := by decide +kernel
theorem dX0_neighbours_17 : decode cX0_neighbours 17 = .ok (.iaload, 1) := by decide +kernel
theorem dX0_neighbours_18 : decode cX0_neighbours 18 = .ok (.iload_n 1, 1) := by decide +kernel
theorem dX0_neighbours_19 : decode cX0_neighbours 19 = .ok (.if_icmp .ne 17, 3) := by decide +kernel
theorem dX0_neighbours_22 : decode cX0_neighbours 22 = .ok (.iload_n 2, 1) := by decide +kernel
theorem dX0_neighbours_23 : decode cX0_neighbours 23 = .ok (.iconst 1, 1) := by decide +kernel
theorem dX0_neighbours_24 : decode cX0_neighbours 24 = .ok (.aload_n 0, 1) := by decide +kernel
theorem dX0_neighbours_25 : decode cX0_neighbours 25 = .ok (.getfield 25, 3) := by decide +kernel
theorem dX0_neighbours_28 : decode cX0_neighbours 28 = .ok (.iload_n 3, 1) := by decide +kernel
theorem dX0_neighbours_29 : decode cX0_neighbours 29 = .ok (.iaload, 1) := by decide +kernel
theorem dX0_neighbours_30 : decode cX0_neighbours 30 = .ok (.ishl, 1) := by decide +kernel
theorem dX0_neighbours_31 : decode cX0_neighbours 31 = .ok (.ior, 1) := by decide +kernel
theorem dX0_neighbours_32 : decode cX0_neighbours 32 = .ok (.istore_n 2, 1) := by decide +kernel
theorem dX0_neighbours_33 : decode cX0_neighbours 33 = .ok (.goto 24, 3) := by decide +kernel
theorem dX0_neighbours_36 : decode cX0_neighbours 36 = .ok (.aload_n 0, 1) := by decide +kernel
theorem dX0_neighbours_37 : decode cX0_neighbours 37 = .ok (.getfield 25, 3) := by decide +kernel
theorem dX0_neighbours_40 : decode cX0_neighbours 40 = .ok (.iload_n 3, 1) := by decide +kernel
theorem dX0_neighbours_41 : decode cX0_neighbours 41 = .ok (.iaload, 1) := by decide +kernel
theorem dX0_neighbours_42 : decode cX0_neighbours 42 = .ok (.iload_n 1, 1) := by decide +kernel
theorem dX0_neighbours_43 : decode cX0_neighbours 43 = .ok (.if_icmp .ne 14, 3) := by decide +kernel
theorem dX0_neighbours_46 : decode cX0_neighbours 46 = .ok (.iload_n 2, 1) := by decide +kernel
theorem dX0_neighbours_47 : decode cX0_neighbours 47 = .ok (.iconst 1, 1) := by decide +kernel
theorem dX0_neighbours_48 : decode cX0_neighbours 48 = .ok (.aload_n 0, 1) := by decide +kernel
theorem dX0_neighbours_49 : decode cX0_neighbours 49 = .ok (.getfield 22, 3) := by decide +kernel
theorem dX0_neighbours_52 : decode cX0_neighbours 52 = .ok (.iload_n 3, 1) := by decide +kernel
theorem dX0_neighbours_53 : decode cX0_neighbours 53 = .ok (.iaload, 1) := by decide +kernel
theorem dX0_neighbours_54 : decode cX0_neighbours 54 = .ok (.ishl, 1) := by decide +kernel
theorem dX0_neighbours_55 : decode cX0_neighbours 55 = .ok (.ior, 1) := by decide +kernel
theorem dX0_neighbours_56 : decode cX0_neighbours 56 = .ok (.istore_n 2, 1) := by decide +kernel
theorem dX0_neighbours_57 : decode cX0_neighbours 57 = .ok (.iinc 3 1, 3) := by decide +kernel
theorem dX0_neighbours_60 : decode cX0_neighbours 60 = .ok (.goto (-56), 3) := by decide +kernel
theorem dX0_neighbours_63 : decode cX0_neighbours 63 = .ok (.iload_n 2, 1) := by decide +kernel
theorem dX0_neighbours_64 : decode cX0_neighbours 64 = .ok (.ireturn, 1) := by decide +kernel
theorem dX0_barSize_0 : decode cX0_barSize 0 = .ok (.aload_n 0, 1) := by decide +kernel
theorem dX0_barSize_1 : decode cX0_barSize 1 = .ok (.aload_n 0, 1) := by decide +kernel
theorem dX0_barSize_2 : decode cX0_barSize 2 = .ok (.getfield 22, 3) := by decide +kernel
theorem dX0_barSize_5 : decode cX0_barSize 5 = .ok (.iload_n 1, 1) := by decide +kernel
theorem dX0_barSize_6 : decode cX0_barSize 6 = .ok (.iaload, 1) := by decide +kernel
theorem dX0_barSize_7 : decode cX0_barSize 7 = .ok (.invokevirtual 28, 3) := by decide +kernel
theorem dX0_barSize_10 : decode cX0_barSize 10 = .ok (.iconst 1, 1) := by decide +kernel
theorem dX0_barSize_11 : decode cX0_barSize 11 = .ok (.iadd, 1) := by decide +kernel
theorem dX0_barSize_12 : decode cX0_barSize 12 = .ok (.aload_n 0, 1) := by decide +kernel
theorem dX0_barSize_13 : decode cX0_barSize 13 = .ok (.aload_n 0, 1) := by decide +kernel
theorem dX0_barSize_14 : decode cX0_barSize 14 = .ok (.getfield 25, 3) := by decide +kernel
theorem dX0_barSize_17 : decode cX0_barSize 17 = .ok (.iload_n 1, 1) := by decide +kernel
theorem dX0_barSize_18 : decode cX0_barSize 18 = .ok (.iaload, 1) := by decide +kernel
theorem dX0_barSize_19 : decode cX0_barSize 19 = .ok (.invokevirtual 28, 3) := by decide +kernel
theorem dX0_barSize_22 : decode cX0_barSize 22 = .ok (.iadd, 1) := by decide +kernel
theorem dX0_barSize_23 : decode cX0_barSize 23 = .ok (.ireturn, 1) := by decide +kernel
theorem dX0_barLetter_0 : decode cX0_barLetter 0 = .ok (.aload_n 0, 1) := by decide +kernel
theorem dX0_barLetter_1 : decode cX0_barLetter 1 = .ok (.aload_n 0, 1) := by decide +kernel
theorem dX0_barLetter_2 : decode cX0_barLetter 2 = .ok (.getfield 22, 3) := by decide +kernel
theorem dX0_barLetter_5 : decode cX0_barLetter 5 = .ok (.iload_n 1, 1) := by decide +kernel
theorem dX0_barLetter_6 : decode cX0_barLetter 6 = .ok (.iaload, 1) := by decide +kernel
theorem dX0_barLetter_7 : decode cX0_barLetter 7 = .ok (.invokevirtual 28, 3) := by decide +kernel
theorem dX0_barLetter_10 : decode cX0_barLetter 10 = .ok (.istore_n 3, 1) := by decide +kernel
theorem dX0_barLetter_11 : decode cX0_barLetter 11 = .ok (.iload_n 2, 1) := by decide +kernel
theorem dX0_barLetter_12 : decode cX0_barLetter 12 = .ok (.iload_n 3, 1) := by decide +kernel
theorem dX0_barLetter_13 : decode cX0_barLetter 13 = .ok (.if_icmp .ge 15, 3) := by decide +kernel
theorem dX0_barLetter_16 : decode cX0_barLetter 16 = .ok (.aload_n 0, 1) := by decide +kernel
theorem dX0_barLetter_17 : decode cX0_barLetter 17 = .ok (.aload_n 0, 1) := by decide +kernel
theorem dX0_barLetter_18 : decode cX0_barLetter 18 = .ok (.getfield 22, 3) := by decide +kernel
theorem dX0_barLetter_21 : decode cX0_barLetter 21 = .ok (.iload_n 1, 1) := by decide +kernel
theorem dX0_barLetter_22 : decode cX0_barLetter 22 = .ok (.iaload, 1) := by decide +kernel
theorem dX0_barLetter_23 : decode cX0_barLetter 23 = .ok (.iload_n 2, 1) := by decide +kernel
theorem dX0_barLetter_24 : decode cX0_barLetter 24 = .ok (.invokevirtual 41, 3) := by decide +kernel
theorem dX0_barLetter_27 : decode cX0_barLetter 27 = .ok (.ireturn, 1) := by decide +kernel
theorem dX0_barLetter_28 : decode cX0_barLetter 28 = .ok (.iload_n 2, 1) := by decide +kernel
theorem dX0_barLetter_29 : decode cX0_barLetter 29 = .ok (.iload_n 3, 1) := by decide +kernel
theorem dX0_barLetter_30 : decode cX0_barLetter 30 = .ok (.if_icmp .ne 8, 3) := by decide +kernel
theorem dX0_barLetter_33 : decode cX0_barLetter 33 = .ok (.bipush 45, 2) := by decide +kernel
theorem dX0_barLetter_35 : decode cX0_barLetter 35 = .ok (.goto 18, 3) := by decide +kernel
theorem dX0_barLetter_38 : decode cX0_barLetter 38 = .ok (.aload_n 0, 1) := by decide +kernel
theorem dX0_barLetter_39 : decode cX0_barLetter 39 = .ok (.aload_n 0, 1) := by decide +kernel
theorem dX0_barLetter_40 : decode cX0_barLetter 40 = .ok (.getfield 25, 3) := by decide +kernel
theorem dX0_barLetter_43 : decode cX0_barLetter 43 = .ok (.iload_n 1, 1) := by decide +kernel
theorem dX0_barLetter_44 : decode cX0_barLetter 44 = .ok (.iaload, 1) := by decide +kernel
theorem dX0_barLetter_45 : decode cX0_barLetter 45 = .ok (.iload_n 2, 1) := by decide +kernel
theorem dX0_barLetter_46 : decode cX0_barLetter 46 = .ok (.iload_n 3, 1) := by decide +kernel
theorem dX0_barLetter_47 : decode cX0_barLetter 47 = .ok (.isub, 1) := by decide +kernel
theorem dX0_barLetter_48 : decode cX0_barLetter 48 = .ok (.iconst 1, 1) := by decide +kernel
theorem dX0_barLetter_49 : decode cX0_barLetter 49 = .ok (.isub, 1) := by decide +kernel
theorem dX0_barLetter_50 : decode cX0_barLetter 50 = .ok (.invokevirtual 41, 3) := by decide +kernel
theorem dX0_barLetter_53 : decode cX0_barLetter 53 = .ok (.ireturn, 1) := by decide +kernel
theorem dX0_takeFrom_0 : decode cX0_takeFrom 0 = .ok (.aload_n 0, 1) := by decide +kernel
theorem dX0_takeFrom_1 : decode cX0_takeFrom 1 = .ok (.aload_n 1, 1) := by decide +kernel
theorem dX0_takeFrom_2 : decode cX0_takeFrom 2 = .ok (.getfield 9, 3) := by decide +kernel
theorem dX0_takeFrom_5 : decode cX0_takeFrom 5 = .ok (.putfield 9, 3) := by decide +kernel
theorem dX0_takeFrom_8 : decode cX0_takeFrom 8 = .ok (.aload_n 0, 1) := by decide +kernel
theorem dX0_takeFrom_9 : decode cX0_takeFrom 9 = .ok (.aload_n 1, 1) := by decide +kernel
theorem dX0_takeFrom_10 : decode cX0_takeFrom 10 = .ok (.getfield 15, 3) := by decide +kernel
theorem dX0_takeFrom_13 : decode cX0_takeFrom 13 = .ok (.putfield 15, 3) := by decide +kernel
theorem dX0_takeFrom_16 : decode cX0_takeFrom 16 = .ok (.aload_n 1, 1) := by decide +kernel
theorem dX0_takeFrom_17 : decode cX0_takeFrom 17 = .ok (.getfield 18, 3) := by decide +kernel
theorem dX0_takeFrom_20 : decode cX0_takeFrom 20 = .ok (.iconst 0, 1) := by decide +kernel
theorem dX0_takeFrom_21 : decode cX0_takeFrom 21 = .ok (.aload_n 0, 1) := by decide +kernel
theorem dX0_takeFrom_22 : decode cX0_takeFrom 22 = .ok (.getfield 18, 3) := by decide +kernel
theorem dX0_takeFrom_25 : decode cX0_takeFrom 25 = .ok (.iconst 0, 1) := by decide +kernel
theorem dX0_takeFrom_26 : decode cX0_takeFrom 26 = .ok (.bipush 12, 2) := by decide +kernel
theorem dX0_takeFrom_28 : decode cX0_takeFrom 28 = .ok (.invokestatic 44, 3) := by decide +kernel
theorem dX0_takeFrom_31 : decode cX0_takeFrom 31 = .ok (.aload_n 1, 1) := by decide +kernel
theorem dX0_takeFrom_32 : decode cX0_takeFrom 32 = .ok (.getfield 22, 3) := by decide +kernel
theorem dX0_takeFrom_35 : decode cX0_takeFrom 35 = .ok (.iconst 0, 1) := by decide +kernel
theorem dX0_takeFrom_36 : decode cX0_takeFrom 36 = .ok (.aload_n 0, 1) := by decide +kernel
theorem dX0_takeFrom_37 : decode cX0_takeFrom 37 = .ok (.getfield 22, 3) := by decide +kernel
theorem dX0_takeFrom_40 : decode cX0_takeFrom 40 = .ok (.iconst 0, 1) := by decide +kernel
theorem dX0_takeFrom_41 : decode cX0_takeFrom 41 = .ok (.bipush 24, 2) := by decide +kernel
theorem dX0_takeFrom_43 : decode cX0_takeFrom 43 = .ok (.invokestatic 44, 3) := by decide +kernel
theorem dX0_takeFrom_46 : decode cX0_takeFrom 46 = .ok (.aload_n 1, 1) := by decide +kernel
theorem dX0_takeFrom_47 : decode cX0_takeFrom 47 = .ok (.getfield 25, 3) := by decide +kernel
theorem dX0_takeFrom_50 : decode cX0_takeFrom 50 = .ok (.iconst 0, 1) := by decide +kernel
theorem dX0_takeFrom_51 : decode cX0_takeFrom 51 = .ok (.aload_n 0, 1) := by decide +kernel
theorem dX0_takeFrom_52 : decode cX0_takeFrom 52 = .ok (.getfield 25, 3) := by decide +kernel
theorem dX0_takeFrom_55 : decode cX0_takeFrom 55 = .ok (.iconst 0, 1) := by decide +kernel
theorem dX0_takeFrom_56 : decode cX0_takeFrom 56 = .ok (.bipush 24, 2) := by decide +kernel
theorem dX0_takeFrom_58 : decode cX0_takeFrom 58 = .ok (.invokestatic 44, 3) := by decide +kernel
theorem dX0_takeFrom_61 : decode cX0_takeFrom 61 = .ok (.return_, 1) := by decide +kernel
theorem dX1_init_0 : decode cX1_init 0 = .ok (.aload_n 0, 1) := by decide +kernel
theorem dX1_init_1 : decode cX1_init 1 = .ok (.invokespecial 3, 3) := by decide +kernel
theorem dX1_init_4 : decode cX1_init 4 = .ok (.aload_n 0, 1) := by decide +kernel
theorem dX1_init_5 : decode cX1_init 5 = .ok (.bipush 24, 2) := by decide +kernel
theorem dX1_init_7 : decode cX1_init 7 = .ok (.newarray .int, 2) := by decide +kernel
theorem dX1_init_9 : decode cX1_init 9 = .ok (.putfield 9, 3) := by decide +kernel
theorem dX1_init_12 : decode cX1_init 12 = .ok (.aload_n 0, 1) := by decide +kernel
theorem dX1_init_13 : decode cX1_init 13 = .ok (.bipush 12, 2) := by decide +kernel
theorem dX1_init_15 : decode cX1_init 15 = .ok (.newarray .int, 2) := by decide +kernel
theorem dX1_init_17 : decode cX1_init 17 = .ok (.putfield 15, 3) := by decide +kernel
theorem dX1_init_20 : decode cX1_init 20 = .ok (.aload_n 0, 1) := by decide +kernel
theorem dX1_init_21 : decode cX1_init 21 = .ok (.bipush 12, 2) := by decide +kernel
theorem dX1_init_23 : decode cX1_init 23 = .ok (.newarray .int, 2) := by decide +kernel
theorem dX1_init_25 : decode cX1_init 25 = .ok (.putfield 18, 3) := by decide +kernel
theorem dX1_init_28 : decode cX1_init 28 = .ok (.return_, 1) := by decide +kernel
theorem dX1_freeAll_0 : decode cX1_freeAll 0 = .ok (.iconst 0, 1) := by decide +kernel
theorem dX1_freeAll_1 : decode cX1_freeAll 1 = .ok (.istore_n 1, 1) := by decide +kernel
theorem dX1_freeAll_2 : decode cX1_freeAll 2 = .ok (.iload_n 1, 1) := by decide +kernel
theorem dX1_freeAll_3 : decode cX1_freeAll 3 = .ok (.aload_n 0, 1) := by decide +kernel
theorem dX1_freeAll_4 : decode cX1_freeAll 4 = .ok (.getfield 9, 3) := by decide +kernel
theorem dX1_freeAll_7 : decode cX1_freeAll 7 = .ok (.arraylength, 1) := by decide +kernel
theorem dX1_freeAll_8 : decode cX1_freeAll 8 = .ok (.if_icmp .ge 16, 3) := by decide +kernel
theorem dX1_freeAll_11 : decode cX1_freeAll 11 = .ok (.aload_n 0, 1) := by decide +kernel
theorem dX1_freeAll_12 : decode cX1_freeAll 12 = .ok (.getfield 9, 3) := by decide +kernel
theorem dX1_freeAll_15 : decode cX1_freeAll 15 = .ok (.iload_n 1, 1) := by decide +kernel
theorem dX1_freeAll_16 : decode cX1_freeAll 16 = .ok (.iconst (-1), 1) := by decide +kernel
theorem dX1_freeAll_17 : decode cX1_freeAll 17 = .ok (.iastore, 1) := by decide +kernel
theorem dX1_freeAll_18 : decode cX1_freeAll 18 = .ok (.iinc 1 1, 3) := by decide +kernel
theorem dX1_freeAll_21 : decode cX1_freeAll 21 = .ok (.goto (-19), 3) := by decide +kernel
theorem dX1_freeAll_24 : decode cX1_freeAll 24 = .ok (.return_, 1) := by decide +kernel
theorem dX1_lay_0 : decode cX1_lay 0 = .ok (.aload_n 0, 1) := by decide +kernel
theorem dX1_lay_1 : decode cX1_lay 1 = .ok (.getfield 9, 3) := by decide +kernel
theorem dX1_lay_4 : decode cX1_lay 4 = .ok (.iconst 2, 1) := by decide +kernel
theorem dX1_lay_5 : decode cX1_lay 5 = .ok (.iload_n 1, 1) := by decide +kernel
theorem dX1_lay_6 : decode cX1_lay 6 = .ok (.imul, 1) := by decide +kernel
theorem dX1_lay_7 : decode cX1_lay 7 = .ok (.iload_n 2, 1) := by decide +kernel
theorem dX1_lay_8 : decode cX1_lay 8 = .ok (.iastore, 1) := by decide +kernel
theorem dX1_lay_9 : decode cX1_lay 9 = .ok (.return_, 1) := by decide +kernel
theorem dX1_wouldCarry_0 : decode cX1_wouldCarry 0 = .ok (.iconst 0, 1) := by decide +kernel
theorem dX1_wouldCarry_1 : decode cX1_wouldCarry 1 = .ok (.istore_n 3, 1) := by decide +kernel
theorem dX1_wouldCarry_2 : decode cX1_wouldCarry 2 = .ok (.iload_n 3, 1) := by decide +kernel
theorem dX1_wouldCarry_3 : decode cX1_wouldCarry 3 = .ok (.iconst 4, 1) := by decide +kernel
theorem dX1_wouldCarry_4 : decode cX1_wouldCarry 4 = .ok (.if_icmp .ge 44, 3) := by decide +kernel
theorem dX1_wouldCarry_7 : decode cX1_wouldCarry 7 = .ok (.aload_n 0, 1) := by decide +kernel
theorem dX1_wouldCarry_8 : decode cX1_wouldCarry 8 = .ok (.iload_n 1, 1) := by decide +kernel
theorem dX1_wouldCarry_9 : decode cX1_wouldCarry 9 = .ok (.invokevirtual 21, 3) := by decide +kernel
theorem dX1_wouldCarry_12 : decode cX1_wouldCarry 12 = .ok (.aload_n 0, 1) := by decide +kernel
theorem dX1_wouldCarry_13 : decode cX1_wouldCarry 13 = .ok (.iload_n 2, 1) := by decide +kernel
theorem dX1_wouldCarry_14 : decode cX1_wouldCarry 14 = .ok (.invokevirtual 21, 3) := by decide +kernel
theorem dX1_wouldCarry_17 : decode cX1_wouldCarry 17 = .ok (.iadd, 1) := by decide +kernel
theorem dX1_wouldCarry_18 : decode cX1_wouldCarry 18 = .ok (.iconst 4, 1) := by decide +kernel
theorem dX1_wouldCarry_19 : decode cX1_wouldCarry 19 = .ok (.if_icmp .ge 29, 3) := by decide +kernel
theorem dX1_wouldCarry_22 : decode cX1_wouldCarry 22 = .ok (.aload_n 0, 1) := by decide +kernel
theorem dX1_wouldCarry_23 : decode cX1_wouldCarry 23 = .ok (.iload_n 1, 1) := by decide +kernel
theorem dX1_wouldCarry_24 : decode cX1_wouldCarry 24 = .ok (.iload_n 2, 1) := by decide +kernel
theorem dX1_wouldCarry_25 : decode cX1_wouldCarry 25 = .ok (.invokevirtual 25, 3) := by decide +kernel
theorem dX1_wouldCarry_28 : decode cX1_wouldCarry 28 = .ok (.ifCond .ne 14, 3) := by decide +kernel
theorem dX1_wouldCarry_31 : decode cX1_wouldCarry 31 = .ok (.aload_n 0, 1) := by decide +kernel
theorem dX1_wouldCarry_32 : decode cX1_wouldCarry 32 = .ok (.iload_n 2, 1) := by decide +kernel
theorem dX1_wouldCarry_33 : decode cX1_wouldCarry 33 = .ok (.iload_n 1, 1) := by decide +kernel
theorem dX1_wouldCarry_34 : decode cX1_wouldCarry 34 = .ok (.invokevirtual 25, 3) := by decide +kernel
theorem dX1_wouldCarry_37 : decode cX1_wouldCarry 37 = .ok (.ifCond .ne 5, 3) := by decide +kernel
theorem dX1_wouldCarry_40 : decode cX1_wouldCarry 40 = .ok (.iconst 0, 1) := by decide +kernel
theorem dX1_wouldCarry_41 : decode cX1_wouldCarry 41 = .ok (.ireturn, 1) := by decide +kernel
theorem dX1_wouldCarry_42 : decode cX1_wouldCarry 42 = .ok (.iinc 3 1, 3) := by decide +kernel
theorem dX1_wouldCarry_45 : decode cX1_wouldCarry 45 = .ok (.goto (-43), 3) := by decide +kernel
theorem dX1_wouldCarry_48 : decode cX1_wouldCarry 48 = .ok (.aload_n 0, 1) := by decide +kernel
theorem dX1_wouldCarry_49 : decode cX1_wouldCarry 49 = .ok (.iload_n 1, 1) := by decide +kernel
theorem dX1_wouldCarry_50 : decode cX1_wouldCarry 50 = .ok (.invokevirtual 21, 3) := by decide +kernel
theorem dX1_wouldCarry_53 : decode cX1_wouldCarry 53 = .ok (.aload_n 0, 1) := by decide +kernel
theorem dX1_wouldCarry_54 : decode cX1_wouldCarry 54 = .ok (.iload_n 2, 1) := by decide +kernel
theorem dX1_wouldCarry_55 : decode cX1_wouldCarry 55 = .ok (.invokevirtual 21, 3) := by decide +kernel
theorem dX1_wouldCarry_58 : decode cX1_wouldCarry 58 = .ok (.iadd, 1) := by decide +kernel
theorem dX1_wouldCarry_59 : decode cX1_wouldCarry 59 = .ok (.iconst 4, 1) := by decide +kernel
theorem dX1_wouldCarry_60 : decode cX1_wouldCarry 60 = .ok (.if_icmp .ne 7, 3) := by decide +kernel
theorem dX1_wouldCarry_63 : decode cX1_wouldCarry 63 = .ok (.iconst 1, 1) := by decide +kernel
theorem dX1_wouldCarry_64 : decode cX1_wouldCarry 64 = .ok (.goto 4, 3) := by decide +kernel
theorem dX1_wouldCarry_67 : decode cX1_wouldCarry 67 = .ok (.iconst 0, 1) := by decide +kernel
theorem dX1_wouldCarry_68 : decode cX1_wouldCarry 68 = .ok (.ireturn, 1) := by decide +kernel
theorem dX1_countFree_0 : decode cX1_countFree 0 = .ok (.aload_n 0, 1) := by decide +kernel
theorem dX1_countFree_1 : decode cX1_countFree 1 = .ok (.getfield 9, 3) := by decide +kernel
theorem dX1_countFree_4 : decode cX1_countFree 4 = .ok (.iconst 2, 1) := by decide +kernel
theorem dX1_countFree_5 : decode cX1_countFree 5 = .ok (.iload_n 1, 1) := by decide +kernel
theorem dX1_countFree_6 : decode cX1_countFree 6 = .ok (.imul, 1) := by decide +kernel
theorem dX1_countFree_7 : decode cX1_countFree 7 = .ok (.iaload, 1) := by decide +kernel
theorem dX1_countFree_8 : decode cX1_countFree 8 = .ok (.iconst (-1), 1) := by decide +kernel
theorem dX1_countFree_9 : decode cX1_countFree 9 = .ok (.if_icmp .ne 7, 3) := by decide +kernel
theorem dX1_countFree_12 : decode cX1_countFree 12 = .ok (.iconst 1, 1) := by decide +kernel
theorem dX1_countFree_13 : decode cX1_countFree 13 = .ok (.goto 4, 3) := by decide +kernel
theorem dX1_countFree_16 : decode cX1_countFree 16 = .ok (.iconst 0, 1) := by decide +kernel
theorem dX1_countFree_17 : decode cX1_countFree 17 = .ok (.aload_n 0, 1) := by decide +kernel
theorem dX1_countFree_18 : decode cX1_countFree 18 = .ok (.getfield 9, 3) := by decide +kernel
theorem dX1_countFree_21 : decode cX1_countFree 21 = .ok (.iconst 2, 1) := by decide +kernel
theorem dX1_countFree_22 : decode cX1_countFree 22 = .ok (.iload_n 1, 1) := by decide +kernel
theorem dX1_countFree_23 : decode cX1_countFree 23 = .ok (.imul, 1) := by decide +kernel
theorem dX1_countFree_24 : decode cX1_countFree 24 = .ok (.iconst 1, 1) := by decide +kernel
theorem dX1_countFree_25 : decode cX1_countFree 25 = .ok (.iadd, 1) := by decide +kernel
theorem dX1_countFree_26 : decode cX1_countFree 26 = .ok (.iaload, 1) := by decide +kernel
theorem dX1_countFree_27 : decode cX1_countFree 27 = .ok (.iconst (-1), 1) := by decide +kernel
theorem dX1_countFree_28 : decode cX1_countFree 28 = .ok (.if_icmp .ne 7, 3) := by decide +kernel
theorem dX1_countFree_31 : decode cX1_countFree 31 = .ok (.iconst 1, 1) := by decide +kernel
theorem dX1_countFree_32 : decode cX1_countFree 32 = .ok (.goto 4, 3) := by decide +kernel
theorem dX1_countFree_35 : decode cX1_countFree 35 = .ok (.iconst 0, 1) := by decide +kernel
theorem dX1_countFree_36 : decode cX1_countFree 36 = .ok (.iadd, 1) := by decide +kernel
theorem dX1_countFree_37 : decode cX1_countFree 37 = .ok (.ireturn, 1) := by decide +kernel
theorem dX1_freePebble_0 : decode cX1_freePebble 0 = .ok (.aload_n 0, 1) := by decide +kernel
theorem dX1_freePebble_1 : decode cX1_freePebble 1 = .ok (.getfield 9, 3) := by decide +kernel
theorem dX1_freePebble_4 : decode cX1_freePebble 4 = .ok (.iconst 2, 1) := by decide +kernel
theorem dX1_freePebble_5 : decode cX1_freePebble 5 = .ok (.iload_n 1, 1) := by decide +kernel
theorem dX1_freePebble_6 : decode cX1_freePebble 6 = .ok (.imul, 1) := by decide +kernel
theorem dX1_freePebble_7 : decode cX1_freePebble 7 = .ok (.iaload, 1) := by decide +kernel
theorem dX1_freePebble_8 : decode cX1_freePebble 8 = .ok (.iconst (-1), 1) := by decide +kernel
theorem dX1_freePebble_9 : decode cX1_freePebble 9 = .ok (.if_icmp .ne 9, 3) := by decide +kernel
theorem dX1_freePebble_12 : decode cX1_freePebble 12 = .ok (.iconst 2, 1) := by decide +kernel
theorem dX1_freePebble_13 : decode cX1_freePebble 13 = .ok (.iload_n 1, 1) := by decide +kernel
theorem dX1_freePebble_14 : decode cX1_freePebble 14 = .ok (.imul, 1) := by decide +kernel
theorem dX1_freePebble_15 : decode cX1_freePebble 15 = .ok (.goto 26, 3) := by decide +kernel
theorem dX1_freePebble_18 : decode cX1_freePebble 18 = .ok (.aload_n 0, 1) := by decide +kernel
theorem dX1_freePebble_19 : decode cX1_freePebble 19 = .ok (.getfield 9, 3) := by decide +kernel
theorem dX1_freePebble_22 : decode cX1_freePebble 22 = .ok (.iconst 2, 1) := by decide +kernel
theorem dX1_freePebble_23 : decode cX1_freePebble 23 = .ok (.iload_n 1, 1) := by decide +kernel
theorem dX1_freePebble_24 : decode cX1_freePebble 24 = .ok (.imul, 1) := by decide +kernel
theorem dX1_freePebble_25 : decode cX1_freePebble 25 = .ok (.iconst 1, 1) := by decide +kernel
theorem dX1_freePebble_26 : decode cX1_freePebble 26 = .ok (.iadd, 1) := by decide +kernel
theorem dX1_freePebble_27 : decode cX1_freePebble 27 = .ok (.iaload, 1) := by decide +kernel
theorem dX1_freePebble_28 : decode cX1_freePebble 28 = .ok (.iconst (-1), 1) := by decide +kernel
theorem dX1_freePebble_29 : decode cX1_freePebble 29 = .ok (.if_icmp .ne 11, 3) := by decide +kernel
theorem dX1_freePebble_32 : decode cX1_freePebble 32 = .ok (.iconst 2, 1) := by decide +kernel
theorem dX1_freePebble_33 : decode cX1_freePebble 33 = .ok (.iload_n 1, 1) := by decide +kernel
theorem dX1_freePebble_34 : decode cX1_freePebble 34 = .ok (.imul, 1) := by decide +kernel
theorem dX1_freePebble_35 : decode cX1_freePebble 35 = .ok (.iconst 1, 1) := by decide +kernel
theorem dX1_freePebble_36 : decode cX1_freePebble 36 = .ok (.iadd, 1) := by decide +kernel
theorem dX1_freePebble_37 : decode cX1_freePebble 37 = .ok (.goto 4, 3) := by decide +kernel
theorem dX1_freePebble_40 : decode cX1_freePebble 40 = .ok (.iconst (-1), 1) := by decide +kernel
theorem dX1_freePebble_41 : decode cX1_freePebble 41 = .ok (.ireturn, 1) := by decide +kernel
theorem dX1_bring_0 : decode cX1_bring 0 = .ok (.iconst 1, 1) := by decide +kernel
theorem dX1_bring_1 : decode cX1_bring 1 = .ok (.iload_n 1, 1) := by decide +kernel
theorem dX1_bring_2 : decode cX1_bring 2 = .ok (.ishl, 1) := by decide +kernel
theorem dX1_bring_3 : decode cX1_bring 3 = .ok (.iconst 1, 1) := by decide +kernel
theorem dX1_bring_4 : decode cX1_bring 4 = .ok (.iload_n 2, 1) := by decide +kernel
theorem dX1_bring_5 : decode cX1_bring 5 = .ok (.ishl, 1) := by decide +kernel
theorem dX1_bring_6 : decode cX1_bring 6 = .ok (.ior, 1) := by decide +kernel
theorem dX1_bring_7 : decode cX1_bring 7 = .ok (.istore_n 3, 1) := by decide +kernel
theorem dX1_bring_8 : decode cX1_bring 8 = .ok (.iconst 1, 1) := by decide +kernel
theorem dX1_bring_9 : decode cX1_bring 9 = .ok (.istore 4, 2) := by decide +kernel
theorem dX1_bring_11 : decode cX1_bring 11 = .ok (.aload_n 0, 1) := by decide +kernel
theorem dX1_bring_12 : decode cX1_bring 12 = .ok (.getfield 15, 3) := by decide +kernel
theorem dX1_bring_15 : decode cX1_bring 15 = .ok (.iconst 0, 1) := by decide +kernel
theorem dX1_bring_16 : decode cX1_bring 16 = .ok (.iload_n 1, 1) := by decide +kernel
theorem dX1_bring_17 : decode cX1_bring 17 = .ok (.iastore, 1) := by decide +kernel
theorem dX1_bring_18 : decode cX1_bring 18 = .ok (.iconst 0, 1) := by decide +kernel
theorem dX1_bring_19 : decode cX1_bring 19 = .ok (.istore 5, 2) := by decide +kernel
theorem dX1_bring_21 : decode cX1_bring 21 = .ok (.iload 5, 2) := by decide +kernel
theorem dX1_bring_23 : decode cX1_bring 23 = .ok (.iload 4, 2) := by decide +kernel
theorem dX1_bring_25 : decode cX1_bring 25 = .ok (.if_icmp .ge 137, 3) := by decide +kernel
theorem dX1_bring_28 : decode cX1_bring 28 = .ok (.iload 5, 2) := by decide +kernel
theorem dX1_bring_30 : decode cX1_bring 30 = .ok (.bipush 12, 2) := by decide +kernel
theorem dX1_bring_32 : decode cX1_bring 32 = .ok (.if_icmp .ge 130, 3) := by decide +kernel
theorem dX1_bring_35 : decode cX1_bring 35 = .ok (.iconst 2, 1) := by decide +kernel
theorem dX1_bring_36 : decode cX1_bring 36 = .ok (.aload_n 0, 1) := by decide +kernel
theorem dX1_bring_37 : decode cX1_bring 37 = .ok (.getfield 15, 3) := by decide +kernel
theorem dX1_bring_40 : decode cX1_bring 40 = .ok (.iload 5, 2) := by decide +kernel
theorem dX1_bring_42 : decode cX1_bring 42 = .ok (.iaload, 1) := by decide +kernel
theorem dX1_bring_43 : decode cX1_bring 43 = .ok (.imul, 1) := by decide +kernel
theorem dX1_bring_44 : decode cX1_bring 44 = .ok (.istore 6, 2) := by decide +kernel
theorem dX1_bring_46 : decode cX1_bring 46 = .ok (.iload 6, 2) := by decide +kernel
theorem dX1_bring_48 : decode cX1_bring 48 = .ok (.iconst 2, 1) := by decide +kernel
theorem dX1_bring_49 : decode cX1_bring 49 = .ok (.aload_n 0, 1) := by decide +kernel
theorem dX1_bring_50 : decode cX1_bring 50 = .ok (.getfield 15, 3) := by decide +kernel
theorem dX1_bring_53 : decode cX1_bring 53 = .ok (.iload 5, 2) := by decide +kernel
theorem dX1_bring_55 : decode cX1_bring 55 = .ok (.iaload, 1) := by decide +kernel
theorem dX1_bring_56 : decode cX1_bring 56 = .ok (.imul, 1) := by decide +kernel
theorem dX1_bring_57 : decode cX1_bring 57 = .ok (.iconst 1, 1) := by decide +kernel
theorem dX1_bring_58 : decode cX1_bring 58 = .ok (.iadd, 1) := by decide +kernel
theorem dX1_bring_59 : decode cX1_bring 59 = .ok (.if_icmp .gt 97, 3) := by decide +kernel
theorem dX1_bring_62 : decode cX1_bring 62 = .ok (.aload_n 0, 1) := by decide +kernel
theorem dX1_bring_63 : decode cX1_bring 63 = .ok (.getfield 9, 3) := by decide +kernel
theorem dX1_bring_66 : decode cX1_bring 66 = .ok (.iload 6, 2) := by decide +kernel
theorem dX1_bring_68 : decode cX1_bring 68 = .ok (.iaload, 1) := by decide +kernel
theorem dX1_bring_69 : decode cX1_bring 69 = .ok (.istore 7, 2) := by decide +kernel
theorem dX1_bring_71 : decode cX1_bring 71 = .ok (.iload 7, 2) := by decide +kernel
theorem dX1_bring_73 : decode cX1_bring 73 = .ok (.iconst (-1), 1) := by decide +kernel
theorem dX1_bring_74 : decode cX1_bring 74 = .ok (.if_icmp .eq 76, 3) := by decide +kernel
theorem dX1_bring_77 : decode cX1_bring 77 = .ok (.iload_n 3, 1) := by decide +kernel
theorem dX1_bring_78 : decode cX1_bring 78 = .ok (.iload 7, 2) := by decide +kernel
theorem dX1_bring_80 : decode cX1_bring 80 = .ok (.ishr, 1) := by decide +kernel
theorem dX1_bring_81 : decode cX1_bring 81 = .ok (.iconst 1, 1) := by decide +kernel
theorem dX1_bring_82 : decode cX1_bring 82 = .ok (.iand, 1) := by decide +kernel
theorem dX1_bring_83 : decode cX1_bring 83 = .ok (.iconst 1, 1) := by decide +kernel
theorem dX1_bring_84 : decode cX1_bring 84 = .ok (.if_icmp .ne 6, 3) := by decide +kernel
theorem dX1_bring_87 : decode cX1_bring 87 = .ok (.goto 63, 3) := by decide +kernel
theorem dX1_bring_90 : decode cX1_bring 90 = .ok (.aload_n 0, 1) := by decide +kernel
theorem dX1_bring_91 : decode cX1_bring 91 = .ok (.getfield 18, 3) := by decide +kernel
theorem dX1_bring_94 : decode cX1_bring 94 = .ok (.iload 7, 2) := by decide +kernel
theorem dX1_bring_96 : decode cX1_bring 96 = .ok (.iload 6, 2) := by decide +kernel
theorem dX1_bring_98 : decode cX1_bring 98 = .ok (.iastore, 1) := by decide +kernel
theorem dX1_bring_99 : decode cX1_bring 99 = .ok (.aload_n 0, 1) := by decide +kernel
theorem dX1_bring_100 : decode cX1_bring 100 = .ok (.iload 7, 2) := by decide +kernel
theorem dX1_bring_102 : decode cX1_bring 102 = .ok (.invokevirtual 29, 3) := by decide +kernel
theorem dX1_bring_105 : decode cX1_bring 105 = .ok (.istore 8, 2) := by decide +kernel
theorem dX1_bring_107 : decode cX1_bring 107 = .ok (.iload 8, 2) := by decide +kernel
theorem dX1_bring_109 : decode cX1_bring 109 = .ok (.iconst (-1), 1) := by decide +kernel
theorem dX1_bring_110 : decode cX1_bring 110 = .ok (.if_icmp .eq 14, 3) := by decide +kernel
theorem dX1_bring_113 : decode cX1_bring 113 = .ok (.aload_n 0, 1) := by decide +kernel
theorem dX1_bring_114 : decode cX1_bring 114 = .ok (.iload_n 1, 1) := by decide +kernel
theorem dX1_bring_115 : decode cX1_bring 115 = .ok (.iload 7, 2) := by decide +kernel
theorem dX1_bring_117 : decode cX1_bring 117 = .ok (.iload 8, 2) := by decide +kernel
theorem dX1_bring_119 : decode cX1_bring 119 = .ok (.invokevirtual 32, 3) := by decide +kernel
theorem dX1_bring_122 : decode cX1_bring 122 = .ok (.iconst 1, 1) := by decide +kernel
theorem dX1_bring_123 : decode cX1_bring 123 = .ok (.ireturn, 1) := by decide +kernel
theorem dX1_bring_124 : decode cX1_bring 124 = .ok (.iload_n 3, 1) := by decide +kernel
theorem dX1_bring_125 : decode cX1_bring 125 = .ok (.iconst 1, 1) := by decide +kernel
theorem dX1_bring_126 : decode cX1_bring 126 = .ok (.iload 7, 2) := by decide +kernel
theorem dX1_bring_128 : decode cX1_bring 128 = .ok (.ishl, 1) := by decide +kernel
theorem dX1_bring_129 : decode cX1_bring 129 = .ok (.ior, 1) := by decide +kernel
theorem dX1_bring_130 : decode cX1_bring 130 = .ok (.istore_n 3, 1) := by decide +kernel
theorem dX1_bring_131 : decode cX1_bring 131 = .ok (.iload 4, 2) := by decide +kernel
theorem dX1_bring_133 : decode cX1_bring 133 = .ok (.bipush 12, 2) := by decide +kernel
theorem dX1_bring_135 : decode cX1_bring 135 = .ok (.if_icmp .ge 15, 3) := by decide +kernel
theorem dX1_bring_138 : decode cX1_bring 138 = .ok (.aload_n 0, 1) := by decide +kernel
theorem dX1_bring_139 : decode cX1_bring 139 = .ok (.getfield 15, 3) := by decide +kernel
theorem dX1_bring_142 : decode cX1_bring 142 = .ok (.iload 4, 2) := by decide +kernel
theorem dX1_bring_144 : decode cX1_bring 144 = .ok (.iload 7, 2) := by decide +kernel
theorem dX1_bring_146 : decode cX1_bring 146 = .ok (.iastore, 1) := by decide +kernel
theorem dX1_bring_147 : decode cX1_bring 147 = .ok (.iinc 4 1, 3) := by decide +kernel
theorem dX1_bring_150 : decode cX1_bring 150 = .ok (.iinc 6 1, 3) := by decide +kernel
theorem dX1_bring_153 : decode cX1_bring 153 = .ok (.goto (-107), 3) := by decide +kernel
theorem dX1_bring_156 : decode cX1_bring 156 = .ok (.iinc 5 1, 3) := by decide +kernel
theorem dX1_bring_159 : decode cX1_bring 159 = .ok (.goto (-138), 3) := by decide +kernel
theorem dX1_bring_162 : decode cX1_bring 162 = .ok (.iconst 0, 1) := by decide +kernel
theorem dX1_bring_163 : decode cX1_bring 163 = .ok (.ireturn, 1) := by decide +kernel
theorem dX1_turnRound_0 : decode cX1_turnRound 0 = .ok (.iload_n 2, 1) := by decide +kernel
theorem dX1_turnRound_1 : decode cX1_turnRound 1 = .ok (.istore 4, 2) := by decide +kernel
theorem dX1_turnRound_3 : decode cX1_turnRound 3 = .ok (.iload_n 3, 1) := by decide +kernel
theorem dX1_turnRound_4 : decode cX1_turnRound 4 = .ok (.istore 5, 2) := by decide +kernel
theorem dX1_turnRound_6 : decode cX1_turnRound 6 = .ok (.iconst 0, 1) := by decide +kernel
theorem dX1_turnRound_7 : decode cX1_turnRound 7 = .ok (.istore 6, 2) := by decide +kernel
theorem dX1_turnRound_9 : decode cX1_turnRound 9 = .ok (.iload 6, 2) := by decide +kernel
theorem dX1_turnRound_11 : decode cX1_turnRound 11 = .ok (.bipush 12, 2) := by decide +kernel
theorem dX1_turnRound_13 : decode cX1_turnRound 13 = .ok (.if_icmp .ge 51, 3) := by decide +kernel
theorem dX1_turnRound_16 : decode cX1_turnRound 16 = .ok (.iload 4, 2) := by decide +kernel
theorem dX1_turnRound_18 : decode cX1_turnRound 18 = .ok (.iload_n 1, 1) := by decide +kernel
theorem dX1_turnRound_19 : decode cX1_turnRound 19 = .ok (.if_icmp .eq 45, 3) := by decide +kernel
theorem dX1_turnRound_22 : decode cX1_turnRound 22 = .ok (.aload_n 0, 1) := by decide +kernel
theorem dX1_turnRound_23 : decode cX1_turnRound 23 = .ok (.getfield 18, 3) := by decide +kernel
theorem dX1_turnRound_26 : decode cX1_turnRound 26 = .ok (.iload 4, 2) := by decide +kernel
theorem dX1_turnRound_28 : decode cX1_turnRound 28 = .ok (.iaload, 1) := by decide +kernel
theorem dX1_turnRound_29 : decode cX1_turnRound 29 = .ok (.istore 7, 2) := by decide +kernel
theorem dX1_turnRound_31 : decode cX1_turnRound 31 = .ok (.iload 7, 2) := by decide +kernel
theorem dX1_turnRound_33 : decode cX1_turnRound 33 = .ok (.iconst 2, 1) := by decide +kernel
theorem dX1_turnRound_34 : decode cX1_turnRound 34 = .ok (.idiv, 1) := by decide +kernel
theorem dX1_turnRound_35 : decode cX1_turnRound 35 = .ok (.istore 4, 2) := by decide +kernel
theorem dX1_turnRound_37 : decode cX1_turnRound 37 = .ok (.aload_n 0, 1) := by decide +kernel
theorem dX1_turnRound_38 : decode cX1_turnRound 38 = .ok (.getfield 9, 3) := by decide +kernel
theorem dX1_turnRound_41 : decode cX1_turnRound 41 = .ok (.iload 5, 2) := by decide +kernel
theorem dX1_turnRound_43 : decode cX1_turnRound 43 = .ok (.iload 4, 2) := by decide +kernel
theorem dX1_turnRound_45 : decode cX1_turnRound 45 = .ok (.iastore, 1) := by decide +kernel
theorem dX1_turnRound_46 : decode cX1_turnRound 46 = .ok (.aload_n 0, 1) := by decide +kernel
theorem dX1_turnRound_47 : decode cX1_turnRound 47 = .ok (.getfield 9, 3) := by decide +kernel
theorem dX1_turnRound_50 : decode cX1_turnRound 50 = .ok (.iload 7, 2) := by decide +kernel
theorem dX1_turnRound_52 : decode cX1_turnRound 52 = .ok (.iconst (-1), 1) := by decide +kernel
theorem dX1_turnRound_53 : decode cX1_turnRound 53 = .ok (.iastore, 1) := by decide +kernel
theorem dX1_turnRound_54 : decode cX1_turnRound 54 = .ok (.iload 7, 2) := by decide +kernel
theorem dX1_turnRound_56 : decode cX1_turnRound 56 = .ok (.istore 5, 2) := by decide +kernel
theorem dX1_turnRound_58 : decode cX1_turnRound 58 = .ok (.iinc 6 1, 3) := by decide +kernel
theorem dX1_turnRound_61 : decode cX1_turnRound 61 = .ok (.goto (-52), 3) := by decide +kernel
theorem dX1_turnRound_64 : decode cX1_turnRound 64 = .ok (.return_, 1) := by decide +kernel
theorem dX2_init_0 : decode cX2_init 0 = .ok (.aload_n 0, 1) := by decide +kernel
theorem dX2_init_1 : decode cX2_init 1 = .ok (.invokespecial 3, 3) := by decide +kernel
theorem dX2_init_4 : decode cX2_init 4 = .ok (.aload_n 0, 1) := by decide +kernel
theorem dX2_init_5 : decode cX2_init 5 = .ok (.iconst (-1), 1) := by decide +kernel
theorem dX2_init_6 : decode cX2_init 6 = .ok (.putfield 9, 3) := by decide +kernel
theorem dX2_init_9 : decode cX2_init 9 = .ok (.aload_n 0, 1) := by decide +kernel
theorem dX2_init_10 : decode cX2_init 10 = .ok (.iconst 0, 1) := by decide +kernel
theorem dX2_init_11 : decode cX2_init 11 = .ok (.putfield 15, 3) := by decide +kernel
theorem dX2_init_14 : decode cX2_init 14 = .ok (.aload_n 0, 1) := by decide +kernel
theorem dX2_init_15 : decode cX2_init 15 = .ok (.bipush 40, 2) := by decide +kernel
theorem dX2_init_17 : decode cX2_init 17 = .ok (.newarray .int, 2) := by decide +kernel
theorem dX2_init_19 : decode cX2_init 19 = .ok (.putfield 18, 3) := by decide +kernel
theorem dX2_init_22 : decode cX2_init 22 = .ok (.return_, 1) := by decide +kernel
theorem dX2_isMissing_0 : decode cX2_isMissing 0 = .ok (.aload_n 0, 1) := by decide +kernel
theorem dX2_isMissing_1 : decode cX2_isMissing 1 = .ok (.getfield 9, 3) := by decide +kernel
theorem dX2_isMissing_4 : decode cX2_isMissing 4 = .ok (.iconst (-1), 1) := by decide +kernel
theorem dX2_isMissing_5 : decode cX2_isMissing 5 = .ok (.if_icmp .ne 7, 3) := by decide +kernel
theorem dX2_isMissing_8 : decode cX2_isMissing 8 = .ok (.iconst 1, 1) := by decide +kernel
theorem dX2_isMissing_9 : decode cX2_isMissing 9 = .ok (.goto 4, 3) := by decide +kernel
theorem dX2_isMissing_12 : decode cX2_isMissing 12 = .ok (.iconst 0, 1) := by decide +kernel
theorem dX2_isMissing_13 : decode cX2_isMissing 13 = .ok (.ireturn, 1) := by decide +kernel
theorem dX2_become_0 : decode cX2_become 0 = .ok (.aload_n 0, 1) := by decide +kernel
theorem dX2_become_1 : decode cX2_become 1 = .ok (.iload_n 1, 1) := by decide +kernel
theorem dX2_become_2 : decode cX2_become 2 = .ok (.putfield 9, 3) := by decide +kernel
theorem dX2_become_5 : decode cX2_become 5 = .ok (.aload_n 0, 1) := by decide +kernel
theorem dX2_become_6 : decode cX2_become 6 = .ok (.iload_n 2, 1) := by decide +kernel
theorem dX2_become_7 : decode cX2_become 7 = .ok (.putfield 15, 3) := by decide +kernel
theorem dX2_become_10 : decode cX2_become 10 = .ok (.iconst 0, 1) := by decide +kernel
theorem dX2_become_11 : decode cX2_become 11 = .ok (.istore_n 3, 1) := by decide +kernel
theorem dX2_become_12 : decode cX2_become 12 = .ok (.iload_n 3, 1) := by decide +kernel
theorem dX2_become_13 : decode cX2_become 13 = .ok (.bipush 40, 2) := by decide +kernel
theorem dX2_become_15 : decode cX2_become 15 = .ok (.if_icmp .ge 16, 3) := by decide +kernel
theorem dX2_become_18 : decode cX2_become 18 = .ok (.aload_n 0, 1) := by decide +kernel
theorem dX2_become_19 : decode cX2_become 19 = .ok (.getfield 18, 3) := by decide +kernel
theorem dX2_become_22 : decode cX2_become 22 = .ok (.iload_n 3, 1) := by decide +kernel
theorem dX2_become_23 : decode cX2_become 23 = .ok (.iconst 0, 1) := by decide +kernel
theorem dX2_become_24 : decode cX2_become 24 = .ok (.iastore, 1) := by decide +kernel
theorem dX2_become_25 : decode cX2_become 25 = .ok (.iinc 3 1, 3) := by decide +kernel
theorem dX2_become_28 : decode cX2_become 28 = .ok (.goto (-16), 3) := by decide +kernel
theorem dX2_become_31 : decode cX2_become 31 = .ok (.return_, 1) := by decide +kernel
theorem dX2_has_0 : decode cX2_has 0 = .ok (.iload_n 1, 1) := by decide +kernel
theorem dX2_has_1 : decode cX2_has 1 = .ok (.ifCond .lt 15, 3) := by decide +kernel
theorem dX2_has_4 : decode cX2_has 4 = .ok (.iload_n 1, 1) := by decide +kernel
theorem dX2_has_5 : decode cX2_has 5 = .ok (.aload_n 0, 1) := by decide +kernel
theorem dX2_has_6 : decode cX2_has 6 = .ok (.getfield 15, 3) := by decide +kernel
theorem dX2_has_9 : decode cX2_has 9 = .ok (.if_icmp .ge 7, 3) := by decide +kernel
theorem dX2_has_12 : decode cX2_has 12 = .ok (.iconst 1, 1) := by decide +kernel
theorem dX2_has_13 : decode cX2_has 13 = .ok (.goto 4, 3) := by decide +kernel
theorem dX2_has_16 : decode cX2_has 16 = .ok (.iconst 0, 1) := by decide +kernel
theorem dX2_has_17 : decode cX2_has 17 = .ok (.ireturn, 1) := by decide +kernel
theorem dX2_hasRun_0 : decode cX2_hasRun 0 = .ok (.iload_n 1, 1) := by decide +kernel
theorem dX2_hasRun_1 : decode cX2_hasRun 1 = .ok (.ifCond .lt 29, 3) := by decide +kernel
theorem dX2_hasRun_4 : decode cX2_hasRun 4 = .ok (.iload_n 2, 1) := by decide +kernel
theorem dX2_hasRun_5 : decode cX2_hasRun 5 = .ok (.ifCond .lt 25, 3) := by decide +kernel
theorem dX2_hasRun_8 : decode cX2_hasRun 8 = .ok (.iload_n 1, 1) := by decide +kernel
theorem dX2_hasRun_9 : decode cX2_hasRun 9 = .ok (.aload_n 0, 1) := by decide +kernel
theorem dX2_hasRun_10 : decode cX2_hasRun 10 = .ok (.getfield 15, 3) := by decide +kernel
theorem dX2_hasRun_13 : decode cX2_hasRun 13 = .ok (.if_icmp .gt 17, 3) := by decide +kernel
theorem dX2_hasRun_16 : decode cX2_hasRun 16 = .ok (.iload_n 2, 1) := by decide +kernel
theorem dX2_hasRun_17 : decode cX2_hasRun 17 = .ok (.aload_n 0, 1) := by decide +kernel
theorem dX2_hasRun_18 : decode cX2_hasRun 18 = .ok (.getfield 15, 3) := by decide +kernel
theorem dX2_hasRun_21 : decode cX2_hasRun 21 = .ok (.iload_n 1, 1) := by decide +kernel
theorem dX2_hasRun_22 : decode cX2_hasRun 22 = .ok (.isub, 1) := by decide +kernel
theorem dX2_hasRun_23 : decode cX2_hasRun 23 = .ok (.if_icmp .gt 7, 3) := by decide +kernel
theorem dX2_hasRun_26 : decode cX2_hasRun 26 = .ok (.iconst 1, 1) := by decide +kernel
theorem dX2_hasRun_27 : decode cX2_hasRun 27 = .ok (.goto 4, 3) := by decide +kernel
theorem dX2_hasRun_30 : decode cX2_hasRun 30 = .ok (.iconst 0, 1) := by decide +kernel
theorem dX2_hasRun_31 : decode cX2_hasRun 31 = .ok (.ireturn, 1) := by decide +kernel
theorem dX2_write_0 : decode cX2_write 0 = .ok (.aload_n 0, 1) := by decide +kernel
theorem dX2_write_1 : decode cX2_write 1 = .ok (.iload_n 1, 1) := by decide +kernel
theorem dX2_write_2 : decode cX2_write 2 = .ok (.invokevirtual 22, 3) := by decide +kernel
theorem dX2_write_5 : decode cX2_write 5 = .ok (.ifCond .eq 25, 3) := by decide +kernel
theorem dX2_write_8 : decode cX2_write 8 = .ok (.aload_n 0, 1) := by decide +kernel
theorem dX2_write_9 : decode cX2_write 9 = .ok (.getfield 18, 3) := by decide +kernel
theorem dX2_write_12 : decode cX2_write 12 = .ok (.iload_n 1, 1) := by decide +kernel
theorem dX2_write_13 : decode cX2_write 13 = .ok (.aload_n 0, 1) := by decide +kernel
theorem dX2_write_14 : decode cX2_write 14 = .ok (.getfield 9, 3) := by decide +kernel
theorem dX2_write_17 : decode cX2_write 17 = .ok (.ifCond .ne 11, 3) := by decide +kernel
theorem dX2_write_20 : decode cX2_write 20 = .ok (.iload_n 2, 1) := by decide +kernel
theorem dX2_write_21 : decode cX2_write 21 = .ok (.sipush 255, 3) := by decide +kernel
theorem dX2_write_24 : decode cX2_write 24 = .ok (.iand, 1) := by decide +kernel
theorem dX2_write_25 : decode cX2_write 25 = .ok (.goto 4, 3) := by decide +kernel
theorem dX2_write_28 : decode cX2_write 28 = .ok (.iload_n 2, 1) := by decide +kernel
theorem dX2_write_29 : decode cX2_write 29 = .ok (.iastore, 1) := by decide +kernel
theorem dX2_write_30 : decode cX2_write 30 = .ok (.return_, 1) := by decide +kernel
theorem dX2_tellsCarrying_0 : decode cX2_tellsCarrying 0 = .ok (.aload_n 0, 1) := by decide +kernel
theorem dX2_tellsCarrying_1 : decode cX2_tellsCarrying 1 = .ok (.iload_n 1, 1) := by decide +kernel
theorem dX2_tellsCarrying_2 : decode cX2_tellsCarrying 2 = .ok (.invokevirtual 22, 3) := by decide +kernel
theorem dX2_tellsCarrying_5 : decode cX2_tellsCarrying 5 = .ok (.ifCond .eq 17, 3) := by decide +kernel
theorem dX2_tellsCarrying_8 : decode cX2_tellsCarrying 8 = .ok (.aload_n 0, 1) := by decide +kernel
theorem dX2_tellsCarrying_9 : decode cX2_tellsCarrying 9 = .ok (.getfield 18, 3) := by decide +kernel
theorem dX2_tellsCarrying_12 : decode cX2_tellsCarrying 12 = .ok (.iload_n 1, 1) := by decide +kernel
theorem dX2_tellsCarrying_13 : decode cX2_tellsCarrying 13 = .ok (.iaload, 1) := by decide +kernel
theorem dX2_tellsCarrying_14 : decode cX2_tellsCarrying 14 = .ok (.iconst 1, 1) := by decide +kernel
theorem dX2_tellsCarrying_15 : decode cX2_tellsCarrying 15 = .ok (.if_icmp .ne 7, 3) := by decide +kernel
theorem dX2_tellsCarrying_18 : decode cX2_tellsCarrying 18 = .ok (.iconst 1, 1) := by decide +kernel
theorem dX2_tellsCarrying_19 : decode cX2_tellsCarrying 19 = .ok (.goto 4, 3) := by decide +kernel
theorem dX2_tellsCarrying_22 : decode cX2_tellsCarrying 22 = .ok (.iconst 0, 1) := by decide +kernel
theorem dX2_tellsCarrying_23 : decode cX2_tellsCarrying 23 = .ok (.ireturn, 1) := by decide +kernel
theorem dX5_init_0 : decode cX5_init 0 = .ok (.aload_n 0, 1) := by decide +kernel
theorem dX5_init_1 : decode cX5_init 1 = .ok (.invokespecial 3, 3) := by decide +kernel
theorem dX5_init_4 : decode cX5_init 4 = .ok (.aload_n 0, 1) := by decide +kernel
theorem dX5_init_5 : decode cX5_init 5 = .ok (.bipush 30, 2) := by decide +kernel
theorem dX5_init_7 : decode cX5_init 7 = .ok (.newarray .int, 2) := by decide +kernel
theorem dX5_init_9 : decode cX5_init 9 = .ok (.putfield 9, 3) := by decide +kernel
theorem dX5_init_12 : decode cX5_init 12 = .ok (.aload_n 0, 1) := by decide +kernel
theorem dX5_init_13 : decode cX5_init 13 = .ok (.iconst 0, 1) := by decide +kernel
theorem dX5_init_14 : decode cX5_init 14 = .ok (.putfield 15, 3) := by decide +kernel
theorem dX5_init_17 : decode cX5_init 17 = .ok (.aload_n 0, 1) := by decide +kernel
theorem dX5_init_18 : decode cX5_init 18 = .ok (.iconst 0, 1) := by decide +kernel
theorem dX5_init_19 : decode cX5_init 19 = .ok (.putfield 19, 3) := by decide +kernel
theorem dX5_init_22 : decode cX5_init 22 = .ok (.aload_n 0, 1) := by decide +kernel
theorem dX5_init_23 : decode cX5_init 23 = .ok (.iconst 0, 1) := by decide +kernel
theorem dX5_init_24 : decode cX5_init 24 = .ok (.putfield 22, 3) := by decide +kernel
theorem dX5_init_27 : decode cX5_init 27 = .ok (.return_, 1) := by decide +kernel
theorem dX5_add_0 : decode cX5_add 0 = .ok (.aload_n 0, 1) := by decide +kernel
theorem dX5_add_1 : decode cX5_add 1 = .ok (.getfield 15, 3) := by decide +kernel
theorem dX5_add_4 : decode cX5_add 4 = .ok (.bipush 30, 2) := by decide +kernel
theorem dX5_add_6 : decode cX5_add 6 = .ok (.if_icmp .ge 23, 3) := by decide +kernel
theorem dX5_add_9 : decode cX5_add 9 = .ok (.aload_n 0, 1) := by decide +kernel
theorem dX5_add_10 : decode cX5_add 10 = .ok (.getfield 9, 3) := by decide +kernel
theorem dX5_add_13 : decode cX5_add 13 = .ok (.aload_n 0, 1) := by decide +kernel
theorem dX5_add_14 : decode cX5_add 14 = .ok (.getfield 15, 3) := by decide +kernel
theorem dX5_add_17 : decode cX5_add 17 = .ok (.iload_n 1, 1) := by decide +kernel
theorem dX5_add_18 : decode cX5_add 18 = .ok (.iastore, 1) := by decide +kernel
theorem dX5_add_19 : decode cX5_add 19 = .ok (.aload_n 0, 1) := by decide +kernel
theorem dX5_add_20 : decode cX5_add 20 = .ok (.dup, 1) := by decide +kernel
theorem dX5_add_21 : decode cX5_add 21 = .ok (.getfield 15, 3) := by decide +kernel
theorem dX5_add_24 : decode cX5_add 24 = .ok (.iconst 1, 1) := by decide +kernel
theorem dX5_add_25 : decode cX5_add 25 = .ok (.iadd, 1) := by decide +kernel
theorem dX5_add_26 : decode cX5_add 26 = .ok (.putfield 15, 3) := by decide +kernel
theorem dX5_add_29 : decode cX5_add 29 = .ok (.return_, 1) := by decide +kernel
theorem dX5_empty_0 : decode cX5_empty 0 = .ok (.aload_n 0, 1) := by decide +kernel
theorem dX5_empty_1 : decode cX5_empty 1 = .ok (.iconst 0, 1) := by decide +kernel
theorem dX5_empty_2 : decode cX5_empty 2 = .ok (.putfield 15, 3) := by decide +kernel
theorem dX5_empty_5 : decode cX5_empty 5 = .ok (.return_, 1) := by decide +kernel
theorem dX5_firstWord_0 : decode cX5_firstWord 0 = .ok (.aload_n 0, 1) := by decide +kernel
theorem dX5_firstWord_1 : decode cX5_firstWord 1 = .ok (.iconst 0, 1) := by decide +kernel
theorem dX5_firstWord_2 : decode cX5_firstWord 2 = .ok (.putfield 22, 3) := by decide +kernel
theorem dX5_firstWord_5 : decode cX5_firstWord 5 = .ok (.aload_n 0, 1) := by decide +kernel
theorem dX5_firstWord_6 : decode cX5_firstWord 6 = .ok (.invokevirtual 25, 3) := by decide +kernel
theorem dX5_firstWord_9 : decode cX5_firstWord 9 = .ok (.ireturn, 1) := by decide +kernel
theorem dX5_nextWord_0 : decode cX5_nextWord 0 = .ok (.aload_n 0, 1) := by decide +kernel
theorem dX5_nextWord_1 : decode cX5_nextWord 1 = .ok (.aload_n 0, 1) := by decide +kernel
theorem dX5_nextWord_2 : decode cX5_nextWord 2 = .ok (.getfield 22, 3) := by decide +kernel
theorem dX5_nextWord_5 : decode cX5_nextWord 5 = .ok (.putfield 19, 3) := by decide +kernel
theorem dX5_nextWord_8 : decode cX5_nextWord 8 = .ok (.aload_n 0, 1) := by decide +kernel
theorem dX5_nextWord_9 : decode cX5_nextWord 9 = .ok (.getfield 19, 3) := by decide +kernel
theorem dX5_nextWord_12 : decode cX5_nextWord 12 = .ok (.aload_n 0, 1) := by decide +kernel
theorem dX5_nextWord_13 : decode cX5_nextWord 13 = .ok (.getfield 15, 3) := by decide +kernel
theorem dX5_nextWord_16 : decode cX5_nextWord 16 = .ok (.if_icmp .ge 30, 3) := by decide +kernel
theorem dX5_nextWord_19 : decode cX5_nextWord 19 = .ok (.aload_n 0, 1) := by decide +kernel
theorem dX5_nextWord_20 : decode cX5_nextWord 20 = .ok (.getfield 9, 3) := by decide +kernel
theorem dX5_nextWord_23 : decode cX5_nextWord 23 = .ok (.aload_n 0, 1) := by decide +kernel
theorem dX5_nextWord_24 : decode cX5_nextWord 24 = .ok (.getfield 19, 3) := by decide +kernel
theorem dX5_nextWord_27 : decode cX5_nextWord 27 = .ok (.iaload, 1) := by decide +kernel
theorem dX5_nextWord_28 : decode cX5_nextWord 28 = .ok (.bipush 32, 2) := by decide +kernel
theorem dX5_nextWord_30 : decode cX5_nextWord 30 = .ok (.if_icmp .ne 16, 3) := by decide +kernel
theorem dX5_nextWord_33 : decode cX5_nextWord 33 = .ok (.aload_n 0, 1) := by decide +kernel
theorem dX5_nextWord_34 : decode cX5_nextWord 34 = .ok (.dup, 1) := by decide +kernel
theorem dX5_nextWord_35 : decode cX5_nextWord 35 = .ok (.getfield 19, 3) := by decide +kernel
theorem dX5_nextWord_38 : decode cX5_nextWord 38 = .ok (.iconst 1, 1) := by decide +kernel
theorem dX5_nextWord_39 : decode cX5_nextWord 39 = .ok (.iadd, 1) := by decide +kernel
theorem dX5_nextWord_40 : decode cX5_nextWord 40 = .ok (.putfield 19, 3) := by decide +kernel
theorem dX5_nextWord_43 : decode cX5_nextWord 43 = .ok (.goto (-35), 3) := by decide +kernel
theorem dX5_nextWord_46 : decode cX5_nextWord 46 = .ok (.aload_n 0, 1) := by decide +kernel
theorem dX5_nextWord_47 : decode cX5_nextWord 47 = .ok (.aload_n 0, 1) := by decide +kernel
theorem dX5_nextWord_48 : decode cX5_nextWord 48 = .ok (.getfield 19, 3) := by decide +kernel
theorem dX5_nextWord_51 : decode cX5_nextWord 51 = .ok (.putfield 22, 3) := by decide +kernel
theorem dX5_nextWord_54 : decode cX5_nextWord 54 = .ok (.aload_n 0, 1) := by decide +kernel
theorem dX5_nextWord_55 : decode cX5_nextWord 55 = .ok (.getfield 22, 3) := by decide +kernel
theorem dX5_nextWord_58 : decode cX5_nextWord 58 = .ok (.aload_n 0, 1) := by decide +kernel
theorem dX5_nextWord_59 : decode cX5_nextWord 59 = .ok (.getfield 15, 3) := by decide +kernel
theorem dX5_nextWord_62 : decode cX5_nextWord 62 = .ok (.if_icmp .ge 44, 3) := by decide +kernel
theorem dX5_nextWord_65 : decode cX5_nextWord 65 = .ok (.aload_n 0, 1) := by decide +kernel
theorem dX5_nextWord_66 : decode cX5_nextWord 66 = .ok (.getfield 9, 3) := by decide +kernel
theorem dX5_nextWord_69 : decode cX5_nextWord 69 = .ok (.aload_n 0, 1) := by decide +kernel
theorem dX5_nextWord_70 : decode cX5_nextWord 70 = .ok (.getfield 22, 3) := by decide +kernel
theorem dX5_nextWord_73 : decode cX5_nextWord 73 = .ok (.iaload, 1) := by decide +kernel
theorem dX5_nextWord_74 : decode cX5_nextWord 74 = .ok (.bipush 97, 2) := by decide +kernel
theorem dX5_nextWord_76 : decode cX5_nextWord 76 = .ok (.if_icmp .lt 30, 3) := by decide +kernel
theorem dX5_nextWord_79 : decode cX5_nextWord 79 = .ok (.aload_n 0, 1) := by decide +kernel
theorem dX5_nextWord_80 : decode cX5_nextWord 80 = .ok (.getfield 9, 3) := by decide +kernel
theorem dX5_nextWord_83 : decode cX5_nextWord 83 = .ok (.aload_n 0, 1) := by decide +kernel
theorem dX5_nextWord_84 : decode cX5_nextWord 84 = .ok (.getfield 22, 3) := by decide +kernel
theorem dX5_nextWord_87 : decode cX5_nextWord 87 = .ok (.iaload, 1) := by decide +kernel
theorem dX5_nextWord_88 : decode cX5_nextWord 88 = .ok (.bipush 122, 2) := by decide +kernel
theorem dX5_nextWord_90 : decode cX5_nextWord 90 = .ok (.if_icmp .gt 16, 3) := by decide +kernel
theorem dX5_nextWord_93 : decode cX5_nextWord 93 = .ok (.aload_n 0, 1) := by decide +kernel
theorem dX5_nextWord_94 : decode cX5_nextWord 94 = .ok (.dup, 1) := by decide +kernel
theorem dX5_nextWord_95 : decode cX5_nextWord 95 = .ok (.getfield 22, 3) := by decide +kernel
theorem dX5_nextWord_98 : decode cX5_nextWord 98 = .ok (.iconst 1, 1) := by decide +kernel
theorem dX5_nextWord_99 : decode cX5_nextWord 99 = .ok (.iadd, 1) := by decide +kernel
theorem dX5_nextWord_100 : decode cX5_nextWord 100 = .ok (.putfield 22, 3) := by decide +kernel
theorem dX5_nextWord_103 : decode cX5_nextWord 103 = .ok (.goto (-49), 3) := by decide +kernel
theorem dX5_nextWord_106 : decode cX5_nextWord 106 = .ok (.aload_n 0, 1) := by decide +kernel
theorem dX5_nextWord_107 : decode cX5_nextWord 107 = .ok (.getfield 22, 3) := by decide +kernel
theorem dX5_nextWord_110 : decode cX5_nextWord 110 = .ok (.aload_n 0, 1) := by decide +kernel
theorem dX5_nextWord_111 : decode cX5_nextWord 111 = .ok (.getfield 19, 3) := by decide +kernel
theorem dX5_nextWord_114 : decode cX5_nextWord 114 = .ok (.if_icmp .eq 16, 3) := by decide +kernel
theorem dX5_nextWord_117 : decode cX5_nextWord 117 = .ok (.aload_n 0, 1) := by decide +kernel
theorem dX5_nextWord_118 : decode cX5_nextWord 118 = .ok (.getfield 22, 3) := by decide +kernel
theorem dX5_nextWord_121 : decode cX5_nextWord 121 = .ok (.aload_n 0, 1) := by decide +kernel
theorem dX5_nextWord_122 : decode cX5_nextWord 122 = .ok (.getfield 19, 3) := by decide +kernel
theorem dX5_nextWord_125 : decode cX5_nextWord 125 = .ok (.isub, 1) := by decide +kernel
theorem dX5_nextWord_126 : decode cX5_nextWord 126 = .ok (.iconst 4, 1) := by decide +kernel
theorem dX5_nextWord_127 : decode cX5_nextWord 127 = .ok (.if_icmp .le 5, 3) := by decide +kernel
theorem dX5_nextWord_130 : decode cX5_nextWord 130 = .ok (.iconst (-1), 1) := by decide +kernel
theorem dX5_nextWord_131 : decode cX5_nextWord 131 = .ok (.ireturn, 1) := by decide +kernel
theorem dX5_nextWord_132 : decode cX5_nextWord 132 = .ok (.iconst 0, 1) := by decide +kernel
theorem dX5_nextWord_133 : decode cX5_nextWord 133 = .ok (.istore_n 1, 1) := by decide +kernel
theorem dX5_nextWord_134 : decode cX5_nextWord 134 = .ok (.aload_n 0, 1) := by decide +kernel
theorem dX5_nextWord_135 : decode cX5_nextWord 135 = .ok (.getfield 19, 3) := by decide +kernel
theorem dX5_nextWord_138 : decode cX5_nextWord 138 = .ok (.istore_n 2, 1) := by decide +kernel
theorem dX5_nextWord_139 : decode cX5_nextWord 139 = .ok (.iload_n 2, 1) := by decide +kernel
theorem dX5_nextWord_140 : decode cX5_nextWord 140 = .ok (.aload_n 0, 1) := by decide +kernel
theorem dX5_nextWord_141 : decode cX5_nextWord 141 = .ok (.getfield 22, 3) := by decide +kernel
theorem dX5_nextWord_144 : decode cX5_nextWord 144 = .ok (.if_icmp .ge 21, 3) := by decide +kernel
theorem dX5_nextWord_147 : decode cX5_nextWord 147 = .ok (.iload_n 1, 1) := by decide +kernel
theorem dX5_nextWord_148 : decode cX5_nextWord 148 = .ok (.bipush 8, 2) := by decide +kernel
theorem dX5_nextWord_150 : decode cX5_nextWord 150 = .ok (.ishl, 1) := by decide +kernel
theorem dX5_nextWord_151 : decode cX5_nextWord 151 = .ok (.aload_n 0, 1) := by decide +kernel
theorem dX5_nextWord_152 : decode cX5_nextWord 152 = .ok (.getfield 9, 3) := by decide +kernel
theorem dX5_nextWord_155 : decode cX5_nextWord 155 = .ok (.iload_n 2, 1) := by decide +kernel
theorem dX5_nextWord_156 : decode cX5_nextWord 156 = .ok (.iaload, 1) := by decide +kernel
theorem dX5_nextWord_157 : decode cX5_nextWord 157 = .ok (.ior, 1) := by decide +kernel
theorem dX5_nextWord_158 : decode cX5_nextWord 158 = .ok (.istore_n 1, 1) := by decide +kernel
theorem dX5_nextWord_159 : decode cX5_nextWord 159 = .ok (.iinc 2 1, 3) := by decide +kernel
theorem dX5_nextWord_162 : decode cX5_nextWord 162 = .ok (.goto (-23), 3) := by decide +kernel
theorem dX5_nextWord_165 : decode cX5_nextWord 165 = .ok (.iload_n 1, 1) := by decide +kernel
theorem dX5_nextWord_166 : decode cX5_nextWord 166 = .ok (.ireturn, 1) := by decide +kernel
theorem dX5_endsNext_0 : decode cX5_endsNext 0 = .ok (.aload_n 0, 1) := by decide +kernel
theorem dX5_endsNext_1 : decode cX5_endsNext 1 = .ok (.invokevirtual 25, 3) := by decide +kernel
theorem dX5_endsNext_4 : decode cX5_endsNext 4 = .ok (.pop, 1) := by decide +kernel
theorem dX5_endsNext_5 : decode cX5_endsNext 5 = .ok (.aload_n 0, 1) := by decide +kernel
theorem dX5_endsNext_6 : decode cX5_endsNext 6 = .ok (.getfield 19, 3) := by decide +kernel
theorem dX5_endsNext_9 : decode cX5_endsNext 9 = .ok (.aload_n 0, 1) := by decide +kernel
theorem dX5_endsNext_10 : decode cX5_endsNext 10 = .ok (.getfield 15, 3) := by decide +kernel
theorem dX5_endsNext_13 : decode cX5_endsNext 13 = .ok (.if_icmp .ne 7, 3) := by decide +kernel
theorem dX5_endsNext_16 : decode cX5_endsNext 16 = .ok (.iconst 1, 1) := by decide +kernel
theorem dX5_endsNext_17 : decode cX5_endsNext 17 = .ok (.goto 4, 3) := by decide +kernel
theorem dX5_endsNext_20 : decode cX5_endsNext 20 = .ok (.iconst 0, 1) := by decide +kernel
theorem dX5_endsNext_21 : decode cX5_endsNext 21 = .ok (.ireturn, 1) := by decide +kernel
theorem dX5_wholeWord_0 : decode cX5_wholeWord 0 = .ok (.aload_n 0, 1) := by decide +kernel
theorem dX5_wholeWord_1 : decode cX5_wholeWord 1 = .ok (.invokevirtual 29, 3) := by decide +kernel
theorem dX5_wholeWord_4 : decode cX5_wholeWord 4 = .ok (.istore_n 1, 1) := by decide +kernel
theorem dX5_wholeWord_5 : decode cX5_wholeWord 5 = .ok (.aload_n 0, 1) := by decide +kernel
theorem dX5_wholeWord_6 : decode cX5_wholeWord 6 = .ok (.getfield 19, 3) := by decide +kernel
theorem dX5_wholeWord_9 : decode cX5_wholeWord 9 = .ok (.ifCond .ne 18, 3) := by decide +kernel
theorem dX5_wholeWord_12 : decode cX5_wholeWord 12 = .ok (.aload_n 0, 1) := by decide +kernel
theorem dX5_wholeWord_13 : decode cX5_wholeWord 13 = .ok (.getfield 22, 3) := by decide +kernel
theorem dX5_wholeWord_16 : decode cX5_wholeWord 16 = .ok (.aload_n 0, 1) := by decide +kernel
theorem dX5_wholeWord_17 : decode cX5_wholeWord 17 = .ok (.getfield 15, 3) := by decide +kernel
theorem dX5_wholeWord_20 : decode cX5_wholeWord 20 = .ok (.if_icmp .ne 7, 3) := by decide +kernel
theorem dX5_wholeWord_23 : decode cX5_wholeWord 23 = .ok (.iload_n 1, 1) := by decide +kernel
theorem dX5_wholeWord_24 : decode cX5_wholeWord 24 = .ok (.goto 4, 3) := by decide +kernel
theorem dX5_wholeWord_27 : decode cX5_wholeWord 27 = .ok (.iconst (-1), 1) := by decide +kernel
theorem dX5_wholeWord_28 : decode cX5_wholeWord 28 = .ok (.ireturn, 1) := by decide +kernel
theorem dJ6_bitCount_0f7a4_0 : decode cJ6_bitCount_0f7a4 0 = .ok (.iload_n 0, 1) := by decide +kernel
theorem dJ6_bitCount_0f7a4_1 : decode cJ6_bitCount_0f7a4 1 = .ok (.iload_n 0, 1) := by decide +kernel
theorem dJ6_bitCount_0f7a4_2 : decode cJ6_bitCount_0f7a4 2 = .ok (.iconst 1, 1) := by decide +kernel
theorem dJ6_bitCount_0f7a4_3 : decode cJ6_bitCount_0f7a4 3 = .ok (.iushr, 1) := by decide +kernel
theorem dJ6_bitCount_0f7a4_4 : decode cJ6_bitCount_0f7a4 4 = .ok (.ldc_w 265, 3) := by decide +kernel
theorem dJ6_bitCount_0f7a4_7 : decode cJ6_bitCount_0f7a4 7 = .ok (.iand, 1) := by decide +kernel
theorem dJ6_bitCount_0f7a4_8 : decode cJ6_bitCount_0f7a4 8 = .ok (.isub, 1) := by decide +kernel
theorem dJ6_bitCount_0f7a4_9 : decode cJ6_bitCount_0f7a4 9 = .ok (.istore_n 0, 1) := by decide +kernel
theorem dJ6_bitCount_0f7a4_10 : decode cJ6_bitCount_0f7a4 10 = .ok (.iload_n 0, 1) := by decide +kernel
theorem dJ6_bitCount_0f7a4_11 : decode cJ6_bitCount_0f7a4 11 = .ok (.ldc_w 266, 3) := by decide +kernel
theorem dJ6_bitCount_0f7a4_14 : decode cJ6_bitCount_0f7a4 14 = .ok (.iand, 1) := by decide +kernel
theorem dJ6_bitCount_0f7a4_15 : decode cJ6_bitCount_0f7a4 15 = .ok (.iload_n 0, 1) := by decide +kernel
theorem dJ6_bitCount_0f7a4_16 : decode cJ6_bitCount_0f7a4 16 = .ok (.iconst 2, 1) := by decide +kernel
theorem dJ6_bitCount_0f7a4_17 : decode cJ6_bitCount_0f7a4 17 = .ok (.iushr, 1) := by decide +kernel
theorem dJ6_bitCount_0f7a4_18 : decode cJ6_bitCount_0f7a4 18 = .ok (.ldc_w 266, 3) := by decide +kernel
theorem dJ6_bitCount_0f7a4_21 : decode cJ6_bitCount_0f7a4 21 = .ok (.iand, 1) := by decide +kernel
theorem dJ6_bitCount_0f7a4_22 : decode cJ6_bitCount_0f7a4 22 = .ok (.iadd, 1) := by decide +kernel
theorem dJ6_bitCount_0f7a4_23 : decode cJ6_bitCount_0f7a4 23 = .ok (.istore_n 0, 1) := by decide +kernel
theorem dJ6_bitCount_0f7a4_24 : decode cJ6_bitCount_0f7a4 24 = .ok (.iload_n 0, 1) := by decide +kernel
theorem dJ6_bitCount_0f7a4_25 : decode cJ6_bitCount_0f7a4 25 = .ok (.iload_n 0, 1) := by decide +kernel
theorem dJ6_bitCount_0f7a4_26 : decode cJ6_bitCount_0f7a4 26 = .ok (.iconst 4, 1) := by decide +kernel
theorem dJ6_bitCount_0f7a4_27 : decode cJ6_bitCount_0f7a4 27 = .ok (.iushr, 1) := by decide +kernel
theorem dJ6_bitCount_0f7a4_28 : decode cJ6_bitCount_0f7a4 28 = .ok (.iadd, 1) := by decide +kernel
theorem dJ6_bitCount_0f7a4_29 : decode cJ6_bitCount_0f7a4 29 = .ok (.ldc_w 267, 3) := by decide +kernel
theorem dJ6_bitCount_0f7a4_32 : decode cJ6_bitCount_0f7a4 32 = .ok (.iand, 1) := by decide +kernel
theorem dJ6_bitCount_0f7a4_33 : decode cJ6_bitCount_0f7a4 33 = .ok (.istore_n 0, 1) := by decide +kernel
theorem dJ6_bitCount_0f7a4_34 : decode cJ6_bitCount_0f7a4 34 = .ok (.iload_n 0, 1) := by decide +kernel
theorem dJ6_bitCount_0f7a4_35 : decode cJ6_bitCount_0f7a4 35 = .ok (.iload_n 0, 1) := by decide +kernel
theorem dJ6_bitCount_0f7a4_36 : decode cJ6_bitCount_0f7a4 36 = .ok (.bipush 8, 2) := by decide +kernel
theorem dJ6_bitCount_0f7a4_38 : decode cJ6_bitCount_0f7a4 38 = .ok (.iushr, 1) := by decide +kernel
theorem dJ6_bitCount_0f7a4_39 : decode cJ6_bitCount_0f7a4 39 = .ok (.iadd, 1) := by decide +kernel
theorem dJ6_bitCount_0f7a4_40 : decode cJ6_bitCount_0f7a4 40 = .ok (.istore_n 0, 1) := by decide +kernel
theorem dJ6_bitCount_0f7a4_41 : decode cJ6_bitCount_0f7a4 41 = .ok (.iload_n 0, 1) := by decide +kernel
theorem dJ6_bitCount_0f7a4_42 : decode cJ6_bitCount_0f7a4 42 = .ok (.iload_n 0, 1) := by decide +kernel
theorem dJ6_bitCount_0f7a4_43 : decode cJ6_bitCount_0f7a4 43 = .ok (.bipush 16, 2) := by decide +kernel
theorem dJ6_bitCount_0f7a4_45 : decode cJ6_bitCount_0f7a4 45 = .ok (.iushr, 1) := by decide +kernel
theorem dJ6_bitCount_0f7a4_46 : decode cJ6_bitCount_0f7a4 46 = .ok (.iadd, 1) := by decide +kernel
theorem dJ6_bitCount_0f7a4_47 : decode cJ6_bitCount_0f7a4 47 = .ok (.istore_n 0, 1) := by decide +kernel
theorem dJ6_bitCount_0f7a4_48 : decode cJ6_bitCount_0f7a4 48 = .ok (.iload_n 0, 1) := by decide +kernel
theorem dJ6_bitCount_0f7a4_49 : decode cJ6_bitCount_0f7a4 49 = .ok (.bipush 63, 2) := by decide +kernel
theorem dJ6_bitCount_0f7a4_51 : decode cJ6_bitCount_0f7a4 51 = .ok (.iand, 1) := by decide +kernel
theorem dJ6_bitCount_0f7a4_52 : decode cJ6_bitCount_0f7a4 52 = .ok (.ireturn, 1) := by decide +kernel
