theorem dX0_init_0 : decode cX0_init 0 = .ok (.aload_n 0, 1) := by decide +kernel
theorem dX0_init_1 : decode cX0_init 1 = .ok (.invokespecial 3, 3) := by decide +kernel
theorem dX0_init_4 : decode cX0_init 4 = .ok (.aload_n 0, 1) := by decide +kernel
theorem dX0_init_5 : decode cX0_init 5 = .ok (.bipush 20, 2) := by decide +kernel
theorem dX0_init_7 : decode cX0_init 7 = .ok (.newarray .int, 2) := by decide +kernel
theorem dX0_init_9 : decode cX0_init 9 = .ok (.putfield 9, 3) := by decide +kernel
theorem dX0_init_12 : decode cX0_init 12 = .ok (.aload_n 0, 1) := by decide +kernel
theorem dX0_init_13 : decode cX0_init 13 = .ok (.bipush 20, 2) := by decide +kernel
theorem dX0_init_15 : decode cX0_init 15 = .ok (.newarray .int, 2) := by decide +kernel
theorem dX0_init_17 : decode cX0_init 17 = .ok (.putfield 15, 3) := by decide +kernel
theorem dX0_init_20 : decode cX0_init 20 = .ok (.aload_n 0, 1) := by decide +kernel
theorem dX0_init_21 : decode cX0_init 21 = .ok (.iconst 0, 1) := by decide +kernel
theorem dX0_init_22 : decode cX0_init 22 = .ok (.putfield 18, 3) := by decide +kernel
theorem dX0_init_25 : decode cX0_init 25 = .ok (.return_, 1) := by decide +kernel
theorem dX0_put_0 : decode cX0_put 0 = .ok (.aload_n 0, 1) := by decide +kernel
theorem dX0_put_1 : decode cX0_put 1 = .ok (.getfield 18, 3) := by decide +kernel
theorem dX0_put_4 : decode cX0_put 4 = .ok (.bipush 20, 2) := by decide +kernel
theorem dX0_put_6 : decode cX0_put 6 = .ok (.if_icmp .lt 5, 3) := by decide +kernel
theorem dX0_put_9 : decode cX0_put 9 = .ok (.iconst 0, 1) := by decide +kernel
theorem dX0_put_10 : decode cX0_put 10 = .ok (.ireturn, 1) := by decide +kernel
theorem dX0_put_11 : decode cX0_put 11 = .ok (.aload_n 0, 1) := by decide +kernel
theorem dX0_put_12 : decode cX0_put 12 = .ok (.getfield 9, 3) := by decide +kernel
theorem dX0_put_15 : decode cX0_put 15 = .ok (.aload_n 0, 1) := by decide +kernel
theorem dX0_put_16 : decode cX0_put 16 = .ok (.getfield 18, 3) := by decide +kernel
theorem dX0_put_19 : decode cX0_put 19 = .ok (.iload_n 1, 1) := by decide +kernel
theorem dX0_put_20 : decode cX0_put 20 = .ok (.iastore, 1) := by decide +kernel
theorem dX0_put_21 : decode cX0_put 21 = .ok (.aload_n 0, 1) := by decide +kernel
theorem dX0_put_22 : decode cX0_put 22 = .ok (.getfield 15, 3) := by decide +kernel
theorem dX0_put_25 : decode cX0_put 25 = .ok (.aload_n 0, 1) := by decide +kernel
theorem dX0_put_26 : decode cX0_put 26 = .ok (.getfield 18, 3) := by decide +kernel
theorem dX0_put_29 : decode cX0_put 29 = .ok (.iload_n 2, 1) := by decide +kernel
theorem dX0_put_30 : decode cX0_put 30 = .ok (.iastore, 1) := by decide +kernel
theorem dX0_put_31 : decode cX0_put 31 = .ok (.aload_n 0, 1) := by decide +kernel
theorem dX0_put_32 : decode cX0_put 32 = .ok (.dup, 1) := by decide +kernel
theorem dX0_put_33 : decode cX0_put 33 = .ok (.getfield 18, 3) := by decide +kernel
theorem dX0_put_36 : decode cX0_put 36 = .ok (.iconst 1, 1) := by decide +kernel
theorem dX0_put_37 : decode cX0_put 37 = .ok (.iadd, 1) := by decide +kernel
theorem dX0_put_38 : decode cX0_put 38 = .ok (.putfield 18, 3) := by decide +kernel
theorem dX0_put_41 : decode cX0_put 41 = .ok (.iconst 1, 1) := by decide +kernel
theorem dX0_put_42 : decode cX0_put 42 = .ok (.ireturn, 1) := by decide +kernel
theorem dX0_count_0 : decode cX0_count 0 = .ok (.aload_n 0, 1) := by decide +kernel
theorem dX0_count_1 : decode cX0_count 1 = .ok (.getfield 18, 3) := by decide +kernel
theorem dX0_count_4 : decode cX0_count 4 = .ok (.ireturn, 1) := by decide +kernel
theorem dX0_clear_0 : decode cX0_clear 0 = .ok (.aload_n 0, 1) := by decide +kernel
theorem dX0_clear_1 : decode cX0_clear 1 = .ok (.getfield 18, 3) := by decide +kernel
theorem dX0_clear_4 : decode cX0_clear 4 = .ok (.istore_n 1, 1) := by decide +kernel
theorem dX0_clear_5 : decode cX0_clear 5 = .ok (.aload_n 0, 1) := by decide +kernel
theorem dX0_clear_6 : decode cX0_clear 6 = .ok (.iconst 0, 1) := by decide +kernel
theorem dX0_clear_7 : decode cX0_clear 7 = .ok (.putfield 18, 3) := by decide +kernel
theorem dX0_clear_10 : decode cX0_clear 10 = .ok (.iload_n 1, 1) := by decide +kernel
theorem dX0_clear_11 : decode cX0_clear 11 = .ok (.ireturn, 1) := by decide +kernel
theorem dX0_firstWrong_0 : decode cX0_firstWrong 0 = .ok (.iconst 0, 1) := by decide +kernel
theorem dX0_firstWrong_1 : decode cX0_firstWrong 1 = .ok (.istore_n 3, 1) := by decide +kernel
theorem dX0_firstWrong_2 : decode cX0_firstWrong 2 = .ok (.iload_n 3, 1) := by decide +kernel
theorem dX0_firstWrong_3 : decode cX0_firstWrong 3 = .ok (.aload_n 0, 1) := by decide +kernel
theorem dX0_firstWrong_4 : decode cX0_firstWrong 4 = .ok (.getfield 18, 3) := by decide +kernel
theorem dX0_firstWrong_7 : decode cX0_firstWrong 7 = .ok (.if_icmp .ge 47, 3) := by decide +kernel
theorem dX0_firstWrong_10 : decode cX0_firstWrong 10 = .ok (.aload_n 1, 1) := by decide +kernel
theorem dX0_firstWrong_11 : decode cX0_firstWrong 11 = .ok (.aload_n 0, 1) := by decide +kernel
theorem dX0_firstWrong_12 : decode cX0_firstWrong 12 = .ok (.getfield 9, 3) := by decide +kernel
theorem dX0_firstWrong_15 : decode cX0_firstWrong 15 = .ok (.iload_n 3, 1) := by decide +kernel
theorem dX0_firstWrong_16 : decode cX0_firstWrong 16 = .ok (.iaload, 1) := by decide +kernel
theorem dX0_firstWrong_17 : decode cX0_firstWrong 17 = .ok (.invokevirtual 22, 3) := by decide +kernel
theorem dX0_firstWrong_20 : decode cX0_firstWrong 20 = .ok (.astore 4, 2) := by decide +kernel
theorem dX0_firstWrong_22 : decode cX0_firstWrong 22 = .ok (.aload 4, 2) := by decide +kernel
theorem dX0_firstWrong_24 : decode cX0_firstWrong 24 = .ok (.ifnull 22, 3) := by decide +kernel
theorem dX0_firstWrong_27 : decode cX0_firstWrong 27 = .ok (.aload 4, 2) := by decide +kernel
theorem dX0_firstWrong_29 : decode cX0_firstWrong 29 = .ok (.invokevirtual 28, 3) := by decide +kernel
theorem dX0_firstWrong_32 : decode cX0_firstWrong 32 = .ok (.iconst 1, 1) := by decide +kernel
theorem dX0_firstWrong_33 : decode cX0_firstWrong 33 = .ok (.aload_n 2, 1) := by decide +kernel
theorem dX0_firstWrong_34 : decode cX0_firstWrong 34 = .ok (.invokevirtual 34, 3) := by decide +kernel
theorem dX0_firstWrong_37 : decode cX0_firstWrong 37 = .ok (.aload_n 0, 1) := by decide +kernel
theorem dX0_firstWrong_38 : decode cX0_firstWrong 38 = .ok (.getfield 15, 3) := by decide +kernel
theorem dX0_firstWrong_41 : decode cX0_firstWrong 41 = .ok (.iload_n 3, 1) := by decide +kernel
theorem dX0_firstWrong_42 : decode cX0_firstWrong 42 = .ok (.iaload, 1) := by decide +kernel
theorem dX0_firstWrong_43 : decode cX0_firstWrong 43 = .ok (.if_icmp .eq 5, 3) := by decide +kernel
theorem dX0_firstWrong_46 : decode cX0_firstWrong 46 = .ok (.iload_n 3, 1) := by decide +kernel
theorem dX0_firstWrong_47 : decode cX0_firstWrong 47 = .ok (.ireturn, 1) := by decide +kernel
theorem dX0_firstWrong_48 : decode cX0_firstWrong 48 = .ok (.iinc 3 1, 3) := by decide +kernel
theorem dX0_firstWrong_51 : decode cX0_firstWrong 51 = .ok (.goto (-49), 3) := by decide +kernel
theorem dX0_firstWrong_54 : decode cX0_firstWrong 54 = .ok (.iconst (-1), 1) := by decide +kernel
theorem dX0_firstWrong_55 : decode cX0_firstWrong 55 = .ok (.ireturn, 1) := by decide +kernel
theorem dX1_init_0 : decode cX1_init 0 = .ok (.aload_n 0, 1) := by decide +kernel
theorem dX1_init_1 : decode cX1_init 1 = .ok (.invokespecial 3, 3) := by decide +kernel
theorem dX1_init_4 : decode cX1_init 4 = .ok (.aload_n 0, 1) := by decide +kernel
theorem dX1_init_5 : decode cX1_init 5 = .ok (.bipush 16, 2) := by decide +kernel
theorem dX1_init_7 : decode cX1_init 7 = .ok (.newarray .int, 2) := by decide +kernel
theorem dX1_init_9 : decode cX1_init 9 = .ok (.putfield 9, 3) := by decide +kernel
theorem dX1_init_12 : decode cX1_init 12 = .ok (.aload_n 0, 1) := by decide +kernel
theorem dX1_init_13 : decode cX1_init 13 = .ok (.iconst 0, 1) := by decide +kernel
theorem dX1_init_14 : decode cX1_init 14 = .ok (.putfield 15, 3) := by decide +kernel
theorem dX1_init_17 : decode cX1_init 17 = .ok (.return_, 1) := by decide +kernel
theorem dX1_clear_0 : decode cX1_clear 0 = .ok (.aload_n 0, 1) := by decide +kernel
theorem dX1_clear_1 : decode cX1_clear 1 = .ok (.iconst 0, 1) := by decide +kernel
theorem dX1_clear_2 : decode cX1_clear 2 = .ok (.putfield 15, 3) := by decide +kernel
theorem dX1_clear_5 : decode cX1_clear 5 = .ok (.return_, 1) := by decide +kernel
theorem dX1_put_0 : decode cX1_put 0 = .ok (.aload_n 0, 1) := by decide +kernel
theorem dX1_put_1 : decode cX1_put 1 = .ok (.getfield 15, 3) := by decide +kernel
theorem dX1_put_4 : decode cX1_put 4 = .ok (.aload_n 0, 1) := by decide +kernel
theorem dX1_put_5 : decode cX1_put 5 = .ok (.getfield 9, 3) := by decide +kernel
theorem dX1_put_8 : decode cX1_put 8 = .ok (.arraylength, 1) := by decide +kernel
theorem dX1_put_9 : decode cX1_put 9 = .ok (.if_icmp .ge 23, 3) := by decide +kernel
theorem dX1_put_12 : decode cX1_put 12 = .ok (.aload_n 0, 1) := by decide +kernel
theorem dX1_put_13 : decode cX1_put 13 = .ok (.getfield 9, 3) := by decide +kernel
theorem dX1_put_16 : decode cX1_put 16 = .ok (.aload_n 0, 1) := by decide +kernel
theorem dX1_put_17 : decode cX1_put 17 = .ok (.getfield 15, 3) := by decide +kernel
theorem dX1_put_20 : decode cX1_put 20 = .ok (.iload_n 1, 1) := by decide +kernel
theorem dX1_put_21 : decode cX1_put 21 = .ok (.iastore, 1) := by decide +kernel
theorem dX1_put_22 : decode cX1_put 22 = .ok (.aload_n 0, 1) := by decide +kernel
theorem dX1_put_23 : decode cX1_put 23 = .ok (.dup, 1) := by decide +kernel
theorem dX1_put_24 : decode cX1_put 24 = .ok (.getfield 15, 3) := by decide +kernel
theorem dX1_put_27 : decode cX1_put 27 = .ok (.iconst 1, 1) := by decide +kernel
theorem dX1_put_28 : decode cX1_put 28 = .ok (.iadd, 1) := by decide +kernel
theorem dX1_put_29 : decode cX1_put 29 = .ok (.putfield 15, 3) := by decide +kernel
theorem dX1_put_32 : decode cX1_put 32 = .ok (.return_, 1) := by decide +kernel
theorem dX1_length_0 : decode cX1_length 0 = .ok (.aload_n 0, 1) := by decide +kernel
theorem dX1_length_1 : decode cX1_length 1 = .ok (.getfield 15, 3) := by decide +kernel
theorem dX1_length_4 : decode cX1_length 4 = .ok (.ireturn, 1) := by decide +kernel
theorem dX1_earlierTwin_0 : decode cX1_earlierTwin 0 = .ok (.iload_n 1, 1) := by decide +kernel
theorem dX1_earlierTwin_1 : decode cX1_earlierTwin 1 = .ok (.aload_n 0, 1) := by decide +kernel
theorem dX1_earlierTwin_2 : decode cX1_earlierTwin 2 = .ok (.getfield 15, 3) := by decide +kernel
theorem dX1_earlierTwin_5 : decode cX1_earlierTwin 5 = .ok (.if_icmp .lt 5, 3) := by decide +kernel
theorem dX1_earlierTwin_8 : decode cX1_earlierTwin 8 = .ok (.iconst (-1), 1) := by decide +kernel
theorem dX1_earlierTwin_9 : decode cX1_earlierTwin 9 = .ok (.ireturn, 1) := by decide +kernel
theorem dX1_earlierTwin_10 : decode cX1_earlierTwin 10 = .ok (.iconst 0, 1) := by decide +kernel
theorem dX1_earlierTwin_11 : decode cX1_earlierTwin 11 = .ok (.istore_n 2, 1) := by decide +kernel
theorem dX1_earlierTwin_12 : decode cX1_earlierTwin 12 = .ok (.iload_n 2, 1) := by decide +kernel
theorem dX1_earlierTwin_13 : decode cX1_earlierTwin 13 = .ok (.iload_n 1, 1) := by decide +kernel
theorem dX1_earlierTwin_14 : decode cX1_earlierTwin 14 = .ok (.if_icmp .ge 26, 3) := by decide +kernel
theorem dX1_earlierTwin_17 : decode cX1_earlierTwin 17 = .ok (.aload_n 0, 1) := by decide +kernel
theorem dX1_earlierTwin_18 : decode cX1_earlierTwin 18 = .ok (.getfield 9, 3) := by decide +kernel
theorem dX1_earlierTwin_21 : decode cX1_earlierTwin 21 = .ok (.iload_n 2, 1) := by decide +kernel
theorem dX1_earlierTwin_22 : decode cX1_earlierTwin 22 = .ok (.iaload, 1) := by decide +kernel
theorem dX1_earlierTwin_23 : decode cX1_earlierTwin 23 = .ok (.aload_n 0, 1) := by decide +kernel
theorem dX1_earlierTwin_24 : decode cX1_earlierTwin 24 = .ok (.getfield 9, 3) := by decide +kernel
theorem dX1_earlierTwin_27 : decode cX1_earlierTwin 27 = .ok (.iload_n 1, 1) := by decide +kernel
theorem dX1_earlierTwin_28 : decode cX1_earlierTwin 28 = .ok (.iaload, 1) := by decide +kernel
theorem dX1_earlierTwin_29 : decode cX1_earlierTwin 29 = .ok (.if_icmp .ne 5, 3) := by decide +kernel
theorem dX1_earlierTwin_32 : decode cX1_earlierTwin 32 = .ok (.iload_n 2, 1) := by decide +kernel
theorem dX1_earlierTwin_33 : decode cX1_earlierTwin 33 = .ok (.ireturn, 1) := by decide +kernel
theorem dX1_earlierTwin_34 : decode cX1_earlierTwin 34 = .ok (.iinc 2 1, 3) := by decide +kernel
theorem dX1_earlierTwin_37 : decode cX1_earlierTwin 37 = .ok (.goto (-25), 3) := by decide +kernel
theorem dX1_earlierTwin_40 : decode cX1_earlierTwin 40 = .ok (.iconst (-1), 1) := by decide +kernel
theorem dX1_earlierTwin_41 : decode cX1_earlierTwin 41 = .ok (.ireturn, 1) := by decide +kernel
theorem dX1_makeEmptyPlaces_0 : decode cX1_makeEmptyPlaces 0 = .ok (.aload_n 0, 1) := by decide +kernel
theorem dX1_makeEmptyPlaces_1 : decode cX1_makeEmptyPlaces 1 = .ok (.iconst 0, 1) := by decide +kernel
theorem dX1_makeEmptyPlaces_2 : decode cX1_makeEmptyPlaces 2 = .ok (.iload_n 1, 1) := by decide +kernel
theorem dX1_makeEmptyPlaces_3 : decode cX1_makeEmptyPlaces 3 = .ok (.aload_n 0, 1) := by decide +kernel
theorem dX1_makeEmptyPlaces_4 : decode cX1_makeEmptyPlaces 4 = .ok (.getfield 9, 3) := by decide +kernel
theorem dX1_makeEmptyPlaces_7 : decode cX1_makeEmptyPlaces 7 = .ok (.arraylength, 1) := by decide +kernel
theorem dX1_makeEmptyPlaces_8 : decode cX1_makeEmptyPlaces 8 = .ok (.invokestatic 19, 3) := by decide +kernel
theorem dX1_makeEmptyPlaces_11 : decode cX1_makeEmptyPlaces 11 = .ok (.invokestatic 25, 3) := by decide +kernel
theorem dX1_makeEmptyPlaces_14 : decode cX1_makeEmptyPlaces 14 = .ok (.putfield 15, 3) := by decide +kernel
theorem dX1_makeEmptyPlaces_17 : decode cX1_makeEmptyPlaces 17 = .ok (.iconst 0, 1) := by decide +kernel
theorem dX1_makeEmptyPlaces_18 : decode cX1_makeEmptyPlaces 18 = .ok (.istore_n 2, 1) := by decide +kernel
theorem dX1_makeEmptyPlaces_19 : decode cX1_makeEmptyPlaces 19 = .ok (.iload_n 2, 1) := by decide +kernel
theorem dX1_makeEmptyPlaces_20 : decode cX1_makeEmptyPlaces 20 = .ok (.aload_n 0, 1) := by decide +kernel
theorem dX1_makeEmptyPlaces_21 : decode cX1_makeEmptyPlaces 21 = .ok (.getfield 15, 3) := by decide +kernel
theorem dX1_makeEmptyPlaces_24 : decode cX1_makeEmptyPlaces 24 = .ok (.if_icmp .ge 16, 3) := by decide +kernel
theorem dX1_makeEmptyPlaces_27 : decode cX1_makeEmptyPlaces 27 = .ok (.aload_n 0, 1) := by decide +kernel
theorem dX1_makeEmptyPlaces_28 : decode cX1_makeEmptyPlaces 28 = .ok (.getfield 9, 3) := by decide +kernel
theorem dX1_makeEmptyPlaces_31 : decode cX1_makeEmptyPlaces 31 = .ok (.iload_n 2, 1) := by decide +kernel
theorem dX1_makeEmptyPlaces_32 : decode cX1_makeEmptyPlaces 32 = .ok (.iconst (-1), 1) := by decide +kernel
theorem dX1_makeEmptyPlaces_33 : decode cX1_makeEmptyPlaces 33 = .ok (.iastore, 1) := by decide +kernel
theorem dX1_makeEmptyPlaces_34 : decode cX1_makeEmptyPlaces 34 = .ok (.iinc 2 1, 3) := by decide +kernel
theorem dX1_makeEmptyPlaces_37 : decode cX1_makeEmptyPlaces 37 = .ok (.goto (-18), 3) := by decide +kernel
theorem dX1_makeEmptyPlaces_40 : decode cX1_makeEmptyPlaces 40 = .ok (.return_, 1) := by decide +kernel
theorem dX1_putInEmpty_0 : decode cX1_putInEmpty 0 = .ok (.iload_n 1, 1) := by decide +kernel
theorem dX1_putInEmpty_1 : decode cX1_putInEmpty 1 = .ok (.istore_n 3, 1) := by decide +kernel
theorem dX1_putInEmpty_2 : decode cX1_putInEmpty 2 = .ok (.iconst 0, 1) := by decide +kernel
theorem dX1_putInEmpty_3 : decode cX1_putInEmpty 3 = .ok (.istore 4, 2) := by decide +kernel
theorem dX1_putInEmpty_5 : decode cX1_putInEmpty 5 = .ok (.iload 4, 2) := by decide +kernel
theorem dX1_putInEmpty_7 : decode cX1_putInEmpty 7 = .ok (.aload_n 0, 1) := by decide +kernel
theorem dX1_putInEmpty_8 : decode cX1_putInEmpty 8 = .ok (.getfield 15, 3) := by decide +kernel
theorem dX1_putInEmpty_11 : decode cX1_putInEmpty 11 = .ok (.if_icmp .ge 36, 3) := by decide +kernel
theorem dX1_putInEmpty_14 : decode cX1_putInEmpty 14 = .ok (.aload_n 0, 1) := by decide +kernel
theorem dX1_putInEmpty_15 : decode cX1_putInEmpty 15 = .ok (.getfield 9, 3) := by decide +kernel
theorem dX1_putInEmpty_18 : decode cX1_putInEmpty 18 = .ok (.iload 4, 2) := by decide +kernel
theorem dX1_putInEmpty_20 : decode cX1_putInEmpty 20 = .ok (.iaload, 1) := by decide +kernel
theorem dX1_putInEmpty_21 : decode cX1_putInEmpty 21 = .ok (.iconst (-1), 1) := by decide +kernel
theorem dX1_putInEmpty_22 : decode cX1_putInEmpty 22 = .ok (.if_icmp .ne 19, 3) := by decide +kernel
theorem dX1_putInEmpty_25 : decode cX1_putInEmpty 25 = .ok (.iload_n 3, 1) := by decide +kernel
theorem dX1_putInEmpty_26 : decode cX1_putInEmpty 26 = .ok (.ifCond .ne 12, 3) := by decide +kernel
theorem dX1_putInEmpty_29 : decode cX1_putInEmpty 29 = .ok (.aload_n 0, 1) := by decide +kernel
theorem dX1_putInEmpty_30 : decode cX1_putInEmpty 30 = .ok (.getfield 9, 3) := by decide +kernel
theorem dX1_putInEmpty_33 : decode cX1_putInEmpty 33 = .ok (.iload 4, 2) := by decide +kernel
theorem dX1_putInEmpty_35 : decode cX1_putInEmpty 35 = .ok (.iload_n 2, 1) := by decide +kernel
theorem dX1_putInEmpty_36 : decode cX1_putInEmpty 36 = .ok (.iastore, 1) := by decide +kernel
theorem dX1_putInEmpty_37 : decode cX1_putInEmpty 37 = .ok (.return_, 1) := by decide +kernel
theorem dX1_putInEmpty_38 : decode cX1_putInEmpty 38 = .ok (.iinc 3 (-1), 3) := by decide +kernel
theorem dX1_putInEmpty_41 : decode cX1_putInEmpty 41 = .ok (.iinc 4 1, 3) := by decide +kernel
theorem dX1_putInEmpty_44 : decode cX1_putInEmpty 44 = .ok (.goto (-39), 3) := by decide +kernel
theorem dX1_putInEmpty_47 : decode cX1_putInEmpty 47 = .ok (.return_, 1) := by decide +kernel
theorem dX1_writeTurned_0 : decode cX1_writeTurned 0 = .ok (.aload_n 0, 1) := by decide +kernel
theorem dX1_writeTurned_1 : decode cX1_writeTurned 1 = .ok (.invokevirtual 28, 3) := by decide +kernel
theorem dX1_writeTurned_4 : decode cX1_writeTurned 4 = .ok (.iload_n 2, 1) := by decide +kernel
theorem dX1_writeTurned_5 : decode cX1_writeTurned 5 = .ok (.istore 4, 2) := by decide +kernel
theorem dX1_writeTurned_7 : decode cX1_writeTurned 7 = .ok (.iconst 0, 1) := by decide +kernel
theorem dX1_writeTurned_8 : decode cX1_writeTurned 8 = .ok (.istore 5, 2) := by decide +kernel
theorem dX1_writeTurned_10 : decode cX1_writeTurned 10 = .ok (.iload 5, 2) := by decide +kernel
theorem dX1_writeTurned_12 : decode cX1_writeTurned 12 = .ok (.aload_n 1, 1) := by decide +kernel
theorem dX1_writeTurned_13 : decode cX1_writeTurned 13 = .ok (.invokevirtual 31, 3) := by decide +kernel
theorem dX1_writeTurned_16 : decode cX1_writeTurned 16 = .ok (.if_icmp .ge 40, 3) := by decide +kernel
theorem dX1_writeTurned_19 : decode cX1_writeTurned 19 = .ok (.aload_n 0, 1) := by decide +kernel
theorem dX1_writeTurned_20 : decode cX1_writeTurned 20 = .ok (.aload_n 1, 1) := by decide +kernel
theorem dX1_writeTurned_21 : decode cX1_writeTurned 21 = .ok (.iload 4, 2) := by decide +kernel
theorem dX1_writeTurned_23 : decode cX1_writeTurned 23 = .ok (.invokevirtual 37, 3) := by decide +kernel
theorem dX1_writeTurned_26 : decode cX1_writeTurned 26 = .ok (.invokevirtual 41, 3) := by decide +kernel
theorem dX1_writeTurned_29 : decode cX1_writeTurned 29 = .ok (.iload_n 3, 1) := by decide +kernel
theorem dX1_writeTurned_30 : decode cX1_writeTurned 30 = .ok (.ifCond .eq 12, 3) := by decide +kernel
theorem dX1_writeTurned_33 : decode cX1_writeTurned 33 = .ok (.aload_n 1, 1) := by decide +kernel
theorem dX1_writeTurned_34 : decode cX1_writeTurned 34 = .ok (.iload 4, 2) := by decide +kernel
theorem dX1_writeTurned_36 : decode cX1_writeTurned 36 = .ok (.invokevirtual 45, 3) := by decide +kernel
theorem dX1_writeTurned_39 : decode cX1_writeTurned 39 = .ok (.goto 9, 3) := by decide +kernel
theorem dX1_writeTurned_42 : decode cX1_writeTurned 42 = .ok (.aload_n 1, 1) := by decide +kernel
theorem dX1_writeTurned_43 : decode cX1_writeTurned 43 = .ok (.iload 4, 2) := by decide +kernel
theorem dX1_writeTurned_45 : decode cX1_writeTurned 45 = .ok (.invokevirtual 48, 3) := by decide +kernel
theorem dX1_writeTurned_48 : decode cX1_writeTurned 48 = .ok (.istore 4, 2) := by decide +kernel
theorem dX1_writeTurned_50 : decode cX1_writeTurned 50 = .ok (.iinc 5 1, 3) := by decide +kernel
theorem dX1_writeTurned_53 : decode cX1_writeTurned 53 = .ok (.goto (-43), 3) := by decide +kernel
theorem dX1_writeTurned_56 : decode cX1_writeTurned 56 = .ok (.return_, 1) := by decide +kernel
theorem dX1_writeWithLoop_0 : decode cX1_writeWithLoop 0 = .ok (.aload_n 0, 1) := by decide +kernel
theorem dX1_writeWithLoop_1 : decode cX1_writeWithLoop 1 = .ok (.invokevirtual 28, 3) := by decide +kernel
theorem dX1_writeWithLoop_4 : decode cX1_writeWithLoop 4 = .ok (.aload_n 1, 1) := by decide +kernel
theorem dX1_writeWithLoop_5 : decode cX1_writeWithLoop 5 = .ok (.invokevirtual 51, 3) := by decide +kernel
theorem dX1_writeWithLoop_8 : decode cX1_writeWithLoop 8 = .ok (.istore_n 3, 1) := by decide +kernel
theorem dX1_writeWithLoop_9 : decode cX1_writeWithLoop 9 = .ok (.aload_n 1, 1) := by decide +kernel
theorem dX1_writeWithLoop_10 : decode cX1_writeWithLoop 10 = .ok (.invokevirtual 31, 3) := by decide +kernel
theorem dX1_writeWithLoop_13 : decode cX1_writeWithLoop 13 = .ok (.ifCond .ne 9, 3) := by decide +kernel
theorem dX1_writeWithLoop_16 : decode cX1_writeWithLoop 16 = .ok (.aload_n 0, 1) := by decide +kernel
theorem dX1_writeWithLoop_17 : decode cX1_writeWithLoop 17 = .ok (.iload_n 3, 1) := by decide +kernel
theorem dX1_writeWithLoop_18 : decode cX1_writeWithLoop 18 = .ok (.iload_n 3, 1) := by decide +kernel
theorem dX1_writeWithLoop_19 : decode cX1_writeWithLoop 19 = .ok (.invokevirtual 54, 3) := by decide +kernel
theorem dX1_writeWithLoop_22 : decode cX1_writeWithLoop 22 = .ok (.iconst 0, 1) := by decide +kernel
theorem dX1_writeWithLoop_23 : decode cX1_writeWithLoop 23 = .ok (.istore 4, 2) := by decide +kernel
theorem dX1_writeWithLoop_25 : decode cX1_writeWithLoop 25 = .ok (.iload 4, 2) := by decide +kernel
theorem dX1_writeWithLoop_27 : decode cX1_writeWithLoop 27 = .ok (.aload_n 1, 1) := by decide +kernel
theorem dX1_writeWithLoop_28 : decode cX1_writeWithLoop 28 = .ok (.invokevirtual 31, 3) := by decide +kernel
theorem dX1_writeWithLoop_31 : decode cX1_writeWithLoop 31 = .ok (.if_icmp .ge 31, 3) := by decide +kernel
theorem dX1_writeWithLoop_34 : decode cX1_writeWithLoop 34 = .ok (.aload_n 0, 1) := by decide +kernel
theorem dX1_writeWithLoop_35 : decode cX1_writeWithLoop 35 = .ok (.aload_n 1, 1) := by decide +kernel
theorem dX1_writeWithLoop_36 : decode cX1_writeWithLoop 36 = .ok (.iload 4, 2) := by decide +kernel
theorem dX1_writeWithLoop_38 : decode cX1_writeWithLoop 38 = .ok (.invokevirtual 37, 3) := by decide +kernel
theorem dX1_writeWithLoop_41 : decode cX1_writeWithLoop 41 = .ok (.invokevirtual 41, 3) := by decide +kernel
theorem dX1_writeWithLoop_44 : decode cX1_writeWithLoop 44 = .ok (.iload 4, 2) := by decide +kernel
theorem dX1_writeWithLoop_46 : decode cX1_writeWithLoop 46 = .ok (.iload_n 2, 1) := by decide +kernel
theorem dX1_writeWithLoop_47 : decode cX1_writeWithLoop 47 = .ok (.if_icmp .ne 9, 3) := by decide +kernel
theorem dX1_writeWithLoop_50 : decode cX1_writeWithLoop 50 = .ok (.aload_n 0, 1) := by decide +kernel
theorem dX1_writeWithLoop_51 : decode cX1_writeWithLoop 51 = .ok (.iload_n 3, 1) := by decide +kernel
theorem dX1_writeWithLoop_52 : decode cX1_writeWithLoop 52 = .ok (.iload_n 3, 1) := by decide +kernel
theorem dX1_writeWithLoop_53 : decode cX1_writeWithLoop 53 = .ok (.invokevirtual 54, 3) := by decide +kernel
theorem dX1_writeWithLoop_56 : decode cX1_writeWithLoop 56 = .ok (.iinc 4 1, 3) := by decide +kernel
theorem dX1_writeWithLoop_59 : decode cX1_writeWithLoop 59 = .ok (.goto (-34), 3) := by decide +kernel
theorem dX1_writeWithLoop_62 : decode cX1_writeWithLoop 62 = .ok (.return_, 1) := by decide +kernel
theorem dX1_writeWithPoke_0 : decode cX1_writeWithPoke 0 = .ok (.aload_n 0, 1) := by decide +kernel
theorem dX1_writeWithPoke_1 : decode cX1_writeWithPoke 1 = .ok (.invokevirtual 28, 3) := by decide +kernel
theorem dX1_writeWithPoke_4 : decode cX1_writeWithPoke 4 = .ok (.aload_n 1, 1) := by decide +kernel
theorem dX1_writeWithPoke_5 : decode cX1_writeWithPoke 5 = .ok (.invokevirtual 51, 3) := by decide +kernel
theorem dX1_writeWithPoke_8 : decode cX1_writeWithPoke 8 = .ok (.istore 5, 2) := by decide +kernel
theorem dX1_writeWithPoke_10 : decode cX1_writeWithPoke 10 = .ok (.iload 5, 2) := by decide +kernel
theorem dX1_writeWithPoke_12 : decode cX1_writeWithPoke 12 = .ok (.iconst 1, 1) := by decide +kernel
theorem dX1_writeWithPoke_13 : decode cX1_writeWithPoke 13 = .ok (.iadd, 1) := by decide +kernel
theorem dX1_writeWithPoke_14 : decode cX1_writeWithPoke 14 = .ok (.istore 6, 2) := by decide +kernel
theorem dX1_writeWithPoke_16 : decode cX1_writeWithPoke 16 = .ok (.iconst 0, 1) := by decide +kernel
theorem dX1_writeWithPoke_17 : decode cX1_writeWithPoke 17 = .ok (.istore 7, 2) := by decide +kernel
theorem dX1_writeWithPoke_19 : decode cX1_writeWithPoke 19 = .ok (.iload 7, 2) := by decide +kernel
theorem dX1_writeWithPoke_21 : decode cX1_writeWithPoke 21 = .ok (.aload_n 1, 1) := by decide +kernel
theorem dX1_writeWithPoke_22 : decode cX1_writeWithPoke 22 = .ok (.invokevirtual 31, 3) := by decide +kernel
theorem dX1_writeWithPoke_25 : decode cX1_writeWithPoke 25 = .ok (.if_icmp .ge 61, 3) := by decide +kernel
theorem dX1_writeWithPoke_28 : decode cX1_writeWithPoke 28 = .ok (.aload_n 0, 1) := by decide +kernel
theorem dX1_writeWithPoke_29 : decode cX1_writeWithPoke 29 = .ok (.aload_n 1, 1) := by decide +kernel
theorem dX1_writeWithPoke_30 : decode cX1_writeWithPoke 30 = .ok (.iload 7, 2) := by decide +kernel
theorem dX1_writeWithPoke_32 : decode cX1_writeWithPoke 32 = .ok (.invokevirtual 37, 3) := by decide +kernel
theorem dX1_writeWithPoke_35 : decode cX1_writeWithPoke 35 = .ok (.invokevirtual 41, 3) := by decide +kernel
theorem dX1_writeWithPoke_38 : decode cX1_writeWithPoke 38 = .ok (.iload 7, 2) := by decide +kernel
theorem dX1_writeWithPoke_40 : decode cX1_writeWithPoke 40 = .ok (.iload_n 2, 1) := by decide +kernel
theorem dX1_writeWithPoke_41 : decode cX1_writeWithPoke 41 = .ok (.if_icmp .eq 14, 3) := by decide +kernel
theorem dX1_writeWithPoke_44 : decode cX1_writeWithPoke 44 = .ok (.iload 7, 2) := by decide +kernel
theorem dX1_writeWithPoke_46 : decode cX1_writeWithPoke 46 = .ok (.iload_n 3, 1) := by decide +kernel
theorem dX1_writeWithPoke_47 : decode cX1_writeWithPoke 47 = .ok (.if_icmp .ne 19, 3) := by decide +kernel
theorem dX1_writeWithPoke_50 : decode cX1_writeWithPoke 50 = .ok (.iload 4, 2) := by decide +kernel
theorem dX1_writeWithPoke_52 : decode cX1_writeWithPoke 52 = .ok (.ifCond .ne 14, 3) := by decide +kernel
theorem dX1_writeWithPoke_55 : decode cX1_writeWithPoke 55 = .ok (.aload_n 0, 1) := by decide +kernel
theorem dX1_writeWithPoke_56 : decode cX1_writeWithPoke 56 = .ok (.iload 5, 2) := by decide +kernel
theorem dX1_writeWithPoke_58 : decode cX1_writeWithPoke 58 = .ok (.iload 6, 2) := by decide +kernel
theorem dX1_writeWithPoke_60 : decode cX1_writeWithPoke 60 = .ok (.invokevirtual 54, 3) := by decide +kernel
theorem dX1_writeWithPoke_63 : decode cX1_writeWithPoke 63 = .ok (.goto 17, 3) := by decide +kernel
theorem dX1_writeWithPoke_66 : decode cX1_writeWithPoke 66 = .ok (.iload 7, 2) := by decide +kernel
theorem dX1_writeWithPoke_68 : decode cX1_writeWithPoke 68 = .ok (.iload_n 3, 1) := by decide +kernel
theorem dX1_writeWithPoke_69 : decode cX1_writeWithPoke 69 = .ok (.if_icmp .ne 11, 3) := by decide +kernel
theorem dX1_writeWithPoke_72 : decode cX1_writeWithPoke 72 = .ok (.aload_n 0, 1) := by decide +kernel
theorem dX1_writeWithPoke_73 : decode cX1_writeWithPoke 73 = .ok (.iload 6, 2) := by decide +kernel
theorem dX1_writeWithPoke_75 : decode cX1_writeWithPoke 75 = .ok (.iload 5, 2) := by decide +kernel
theorem dX1_writeWithPoke_77 : decode cX1_writeWithPoke 77 = .ok (.invokevirtual 54, 3) := by decide +kernel
theorem dX1_writeWithPoke_80 : decode cX1_writeWithPoke 80 = .ok (.iinc 7 1, 3) := by decide +kernel
theorem dX1_writeWithPoke_83 : decode cX1_writeWithPoke 83 = .ok (.goto (-64), 3) := by decide +kernel
theorem dX1_writeWithPoke_86 : decode cX1_writeWithPoke 86 = .ok (.return_, 1) := by decide +kernel
theorem dX1_putTwo_0 : decode cX1_putTwo 0 = .ok (.aload_n 0, 1) := by decide +kernel
theorem dX1_putTwo_1 : decode cX1_putTwo 1 = .ok (.iload_n 1, 1) := by decide +kernel
theorem dX1_putTwo_2 : decode cX1_putTwo 2 = .ok (.invokevirtual 41, 3) := by decide +kernel
theorem dX1_putTwo_5 : decode cX1_putTwo 5 = .ok (.aload_n 0, 1) := by decide +kernel
theorem dX1_putTwo_6 : decode cX1_putTwo 6 = .ok (.iload_n 2, 1) := by decide +kernel
theorem dX1_putTwo_7 : decode cX1_putTwo 7 = .ok (.invokevirtual 41, 3) := by decide +kernel
theorem dX1_putTwo_10 : decode cX1_putTwo 10 = .ok (.return_, 1) := by decide +kernel
theorem dX1_writeWithout_0 : decode cX1_writeWithout 0 = .ok (.aload_n 0, 1) := by decide +kernel
theorem dX1_writeWithout_1 : decode cX1_writeWithout 1 = .ok (.invokevirtual 28, 3) := by decide +kernel
theorem dX1_writeWithout_4 : decode cX1_writeWithout 4 = .ok (.iconst 0, 1) := by decide +kernel
theorem dX1_writeWithout_5 : decode cX1_writeWithout 5 = .ok (.istore_n 3, 1) := by decide +kernel
theorem dX1_writeWithout_6 : decode cX1_writeWithout 6 = .ok (.iload_n 3, 1) := by decide +kernel
theorem dX1_writeWithout_7 : decode cX1_writeWithout 7 = .ok (.aload_n 1, 1) := by decide +kernel
theorem dX1_writeWithout_8 : decode cX1_writeWithout 8 = .ok (.invokevirtual 31, 3) := by decide +kernel
theorem dX1_writeWithout_11 : decode cX1_writeWithout 11 = .ok (.if_icmp .ge 30, 3) := by decide +kernel
theorem dX1_writeWithout_14 : decode cX1_writeWithout 14 = .ok (.iload_n 2, 1) := by decide +kernel
theorem dX1_writeWithout_15 : decode cX1_writeWithout 15 = .ok (.aload_n 1, 1) := by decide +kernel
theorem dX1_writeWithout_16 : decode cX1_writeWithout 16 = .ok (.iload_n 3, 1) := by decide +kernel
theorem dX1_writeWithout_17 : decode cX1_writeWithout 17 = .ok (.invokevirtual 37, 3) := by decide +kernel
theorem dX1_writeWithout_20 : decode cX1_writeWithout 20 = .ok (.invokestatic 58, 3) := by decide +kernel
theorem dX1_writeWithout_23 : decode cX1_writeWithout 23 = .ok (.ifCond .ne 12, 3) := by decide +kernel
theorem dX1_writeWithout_26 : decode cX1_writeWithout 26 = .ok (.aload_n 0, 1) := by decide +kernel
theorem dX1_writeWithout_27 : decode cX1_writeWithout 27 = .ok (.aload_n 1, 1) := by decide +kernel
theorem dX1_writeWithout_28 : decode cX1_writeWithout 28 = .ok (.iload_n 3, 1) := by decide +kernel
theorem dX1_writeWithout_29 : decode cX1_writeWithout 29 = .ok (.invokevirtual 37, 3) := by decide +kernel
theorem dX1_writeWithout_32 : decode cX1_writeWithout 32 = .ok (.invokevirtual 41, 3) := by decide +kernel
theorem dX1_writeWithout_35 : decode cX1_writeWithout 35 = .ok (.iinc 3 1, 3) := by decide +kernel
theorem dX1_writeWithout_38 : decode cX1_writeWithout 38 = .ok (.goto (-32), 3) := by decide +kernel
theorem dX1_writeWithout_41 : decode cX1_writeWithout 41 = .ok (.return_, 1) := by decide +kernel
theorem dX1_writeSlid_0 : decode cX1_writeSlid 0 = .ok (.aload_n 0, 1) := by decide +kernel
theorem dX1_writeSlid_1 : decode cX1_writeSlid 1 = .ok (.invokevirtual 28, 3) := by decide +kernel
theorem dX1_writeSlid_4 : decode cX1_writeSlid 4 = .ok (.aload_n 0, 1) := by decide +kernel
theorem dX1_writeSlid_5 : decode cX1_writeSlid 5 = .ok (.aload_n 1, 1) := by decide +kernel
theorem dX1_writeSlid_6 : decode cX1_writeSlid 6 = .ok (.iconst 0, 1) := by decide +kernel
theorem dX1_writeSlid_7 : decode cX1_writeSlid 7 = .ok (.aload_n 1, 1) := by decide +kernel
theorem dX1_writeSlid_8 : decode cX1_writeSlid 8 = .ok (.invokevirtual 31, 3) := by decide +kernel
theorem dX1_writeSlid_11 : decode cX1_writeSlid 11 = .ok (.invokevirtual 62, 3) := by decide +kernel
theorem dX1_writeSlid_14 : decode cX1_writeSlid 14 = .ok (.iload 5, 2) := by decide +kernel
theorem dX1_writeSlid_16 : decode cX1_writeSlid 16 = .ok (.iconst 2, 1) := by decide +kernel
theorem dX1_writeSlid_17 : decode cX1_writeSlid 17 = .ok (.ishr, 1) := by decide +kernel
theorem dX1_writeSlid_18 : decode cX1_writeSlid 18 = .ok (.iconst 1, 1) := by decide +kernel
theorem dX1_writeSlid_19 : decode cX1_writeSlid 19 = .ok (.iand, 1) := by decide +kernel
theorem dX1_writeSlid_20 : decode cX1_writeSlid 20 = .ok (.istore 6, 2) := by decide +kernel
theorem dX1_writeSlid_22 : decode cX1_writeSlid 22 = .ok (.iload 5, 2) := by decide +kernel
theorem dX1_writeSlid_24 : decode cX1_writeSlid 24 = .ok (.iconst 1, 1) := by decide +kernel
theorem dX1_writeSlid_25 : decode cX1_writeSlid 25 = .ok (.ishr, 1) := by decide +kernel
theorem dX1_writeSlid_26 : decode cX1_writeSlid 26 = .ok (.iconst 1, 1) := by decide +kernel
theorem dX1_writeSlid_27 : decode cX1_writeSlid 27 = .ok (.iand, 1) := by decide +kernel
theorem dX1_writeSlid_28 : decode cX1_writeSlid 28 = .ok (.istore 7, 2) := by decide +kernel
theorem dX1_writeSlid_30 : decode cX1_writeSlid 30 = .ok (.iload 5, 2) := by decide +kernel
theorem dX1_writeSlid_32 : decode cX1_writeSlid 32 = .ok (.iconst 1, 1) := by decide +kernel
theorem dX1_writeSlid_33 : decode cX1_writeSlid 33 = .ok (.iand, 1) := by decide +kernel
theorem dX1_writeSlid_34 : decode cX1_writeSlid 34 = .ok (.istore 8, 2) := by decide +kernel
theorem dX1_writeSlid_36 : decode cX1_writeSlid 36 = .ok (.aload_n 0, 1) := by decide +kernel
theorem dX1_writeSlid_37 : decode cX1_writeSlid 37 = .ok (.aload_n 1, 1) := by decide +kernel
theorem dX1_writeSlid_38 : decode cX1_writeSlid 38 = .ok (.iload_n 2, 1) := by decide +kernel
theorem dX1_writeSlid_39 : decode cX1_writeSlid 39 = .ok (.iload 6, 2) := by decide +kernel
theorem dX1_writeSlid_41 : decode cX1_writeSlid 41 = .ok (.invokevirtual 66, 3) := by decide +kernel
theorem dX1_writeSlid_44 : decode cX1_writeSlid 44 = .ok (.aload_n 1, 1) := by decide +kernel
theorem dX1_writeSlid_45 : decode cX1_writeSlid 45 = .ok (.iload_n 3, 1) := by decide +kernel
theorem dX1_writeSlid_46 : decode cX1_writeSlid 46 = .ok (.iload 7, 2) := by decide +kernel
theorem dX1_writeSlid_48 : decode cX1_writeSlid 48 = .ok (.invokevirtual 66, 3) := by decide +kernel
theorem dX1_writeSlid_51 : decode cX1_writeSlid 51 = .ok (.invokevirtual 69, 3) := by decide +kernel
theorem dX1_writeSlid_54 : decode cX1_writeSlid 54 = .ok (.aload_n 0, 1) := by decide +kernel
theorem dX1_writeSlid_55 : decode cX1_writeSlid 55 = .ok (.aload_n 1, 1) := by decide +kernel
theorem dX1_writeSlid_56 : decode cX1_writeSlid 56 = .ok (.iload_n 3, 1) := by decide +kernel
theorem dX1_writeSlid_57 : decode cX1_writeSlid 57 = .ok (.iconst 1, 1) := by decide +kernel
theorem dX1_writeSlid_58 : decode cX1_writeSlid 58 = .ok (.iload 7, 2) := by decide +kernel
theorem dX1_writeSlid_60 : decode cX1_writeSlid 60 = .ok (.isub, 1) := by decide +kernel
theorem dX1_writeSlid_61 : decode cX1_writeSlid 61 = .ok (.invokevirtual 66, 3) := by decide +kernel
theorem dX1_writeSlid_64 : decode cX1_writeSlid 64 = .ok (.aload_n 1, 1) := by decide +kernel
theorem dX1_writeSlid_65 : decode cX1_writeSlid 65 = .ok (.iload 4, 2) := by decide +kernel
theorem dX1_writeSlid_67 : decode cX1_writeSlid 67 = .ok (.iload 8, 2) := by decide +kernel
theorem dX1_writeSlid_69 : decode cX1_writeSlid 69 = .ok (.invokevirtual 66, 3) := by decide +kernel
theorem dX1_writeSlid_72 : decode cX1_writeSlid 72 = .ok (.invokevirtual 69, 3) := by decide +kernel
theorem dX1_writeSlid_75 : decode cX1_writeSlid 75 = .ok (.aload_n 0, 1) := by decide +kernel
theorem dX1_writeSlid_76 : decode cX1_writeSlid 76 = .ok (.aload_n 1, 1) := by decide +kernel
theorem dX1_writeSlid_77 : decode cX1_writeSlid 77 = .ok (.iload 4, 2) := by decide +kernel
theorem dX1_writeSlid_79 : decode cX1_writeSlid 79 = .ok (.iconst 1, 1) := by decide +kernel
theorem dX1_writeSlid_80 : decode cX1_writeSlid 80 = .ok (.iload 8, 2) := by decide +kernel
theorem dX1_writeSlid_82 : decode cX1_writeSlid 82 = .ok (.isub, 1) := by decide +kernel
theorem dX1_writeSlid_83 : decode cX1_writeSlid 83 = .ok (.invokevirtual 66, 3) := by decide +kernel
theorem dX1_writeSlid_86 : decode cX1_writeSlid 86 = .ok (.aload_n 1, 1) := by decide +kernel
theorem dX1_writeSlid_87 : decode cX1_writeSlid 87 = .ok (.iload_n 2, 1) := by decide +kernel
theorem dX1_writeSlid_88 : decode cX1_writeSlid 88 = .ok (.iconst 1, 1) := by decide +kernel
theorem dX1_writeSlid_89 : decode cX1_writeSlid 89 = .ok (.iload 6, 2) := by decide +kernel
theorem dX1_writeSlid_91 : decode cX1_writeSlid 91 = .ok (.isub, 1) := by decide +kernel
theorem dX1_writeSlid_92 : decode cX1_writeSlid 92 = .ok (.invokevirtual 66, 3) := by decide +kernel
theorem dX1_writeSlid_95 : decode cX1_writeSlid 95 = .ok (.invokevirtual 69, 3) := by decide +kernel
theorem dX1_writeSlid_98 : decode cX1_writeSlid 98 = .ok (.return_, 1) := by decide +kernel
theorem dX1_swap_0 : decode cX1_swap 0 = .ok (.iload_n 1, 1) := by decide +kernel
theorem dX1_swap_1 : decode cX1_swap 1 = .ok (.ifCond .lt 49, 3) := by decide +kernel
theorem dX1_swap_4 : decode cX1_swap 4 = .ok (.iload_n 1, 1) := by decide +kernel
theorem dX1_swap_5 : decode cX1_swap 5 = .ok (.aload_n 0, 1) := by decide +kernel
theorem dX1_swap_6 : decode cX1_swap 6 = .ok (.getfield 15, 3) := by decide +kernel
theorem dX1_swap_9 : decode cX1_swap 9 = .ok (.if_icmp .ge 41, 3) := by decide +kernel
theorem dX1_swap_12 : decode cX1_swap 12 = .ok (.iload_n 2, 1) := by decide +kernel
theorem dX1_swap_13 : decode cX1_swap 13 = .ok (.ifCond .lt 37, 3) := by decide +kernel
theorem dX1_swap_16 : decode cX1_swap 16 = .ok (.iload_n 2, 1) := by decide +kernel
theorem dX1_swap_17 : decode cX1_swap 17 = .ok (.aload_n 0, 1) := by decide +kernel
theorem dX1_swap_18 : decode cX1_swap 18 = .ok (.getfield 15, 3) := by decide +kernel
theorem dX1_swap_21 : decode cX1_swap 21 = .ok (.if_icmp .ge 29, 3) := by decide +kernel
theorem dX1_swap_24 : decode cX1_swap 24 = .ok (.aload_n 0, 1) := by decide +kernel
theorem dX1_swap_25 : decode cX1_swap 25 = .ok (.getfield 9, 3) := by decide +kernel
theorem dX1_swap_28 : decode cX1_swap 28 = .ok (.iload_n 1, 1) := by decide +kernel
theorem dX1_swap_29 : decode cX1_swap 29 = .ok (.iaload, 1) := by decide +kernel
theorem dX1_swap_30 : decode cX1_swap 30 = .ok (.istore_n 3, 1) := by decide +kernel
theorem dX1_swap_31 : decode cX1_swap 31 = .ok (.aload_n 0, 1) := by decide +kernel
theorem dX1_swap_32 : decode cX1_swap 32 = .ok (.getfield 9, 3) := by decide +kernel
theorem dX1_swap_35 : decode cX1_swap 35 = .ok (.iload_n 1, 1) := by decide +kernel
theorem dX1_swap_36 : decode cX1_swap 36 = .ok (.aload_n 0, 1) := by decide +kernel
theorem dX1_swap_37 : decode cX1_swap 37 = .ok (.getfield 9, 3) := by decide +kernel
theorem dX1_swap_40 : decode cX1_swap 40 = .ok (.iload_n 2, 1) := by decide +kernel
theorem dX1_swap_41 : decode cX1_swap 41 = .ok (.iaload, 1) := by decide +kernel
theorem dX1_swap_42 : decode cX1_swap 42 = .ok (.iastore, 1) := by decide +kernel
theorem dX1_swap_43 : decode cX1_swap 43 = .ok (.aload_n 0, 1) := by decide +kernel
theorem dX1_swap_44 : decode cX1_swap 44 = .ok (.getfield 9, 3) := by decide +kernel
theorem dX1_swap_47 : decode cX1_swap 47 = .ok (.iload_n 2, 1) := by decide +kernel
theorem dX1_swap_48 : decode cX1_swap 48 = .ok (.iload_n 3, 1) := by decide +kernel
theorem dX1_swap_49 : decode cX1_swap 49 = .ok (.iastore, 1) := by decide +kernel
theorem dX1_swap_50 : decode cX1_swap 50 = .ok (.return_, 1) := by decide +kernel
theorem dX1_writeSmoothed_0 : decode cX1_writeSmoothed 0 = .ok (.aload_n 1, 1) := by decide +kernel
theorem dX1_writeSmoothed_1 : decode cX1_writeSmoothed 1 = .ok (.iload_n 2, 1) := by decide +kernel
theorem dX1_writeSmoothed_2 : decode cX1_writeSmoothed 2 = .ok (.iconst 0, 1) := by decide +kernel
theorem dX1_writeSmoothed_3 : decode cX1_writeSmoothed 3 = .ok (.invokevirtual 66, 3) := by decide +kernel
theorem dX1_writeSmoothed_6 : decode cX1_writeSmoothed 6 = .ok (.istore_n 3, 1) := by decide +kernel
theorem dX1_writeSmoothed_7 : decode cX1_writeSmoothed 7 = .ok (.aload_n 1, 1) := by decide +kernel
theorem dX1_writeSmoothed_8 : decode cX1_writeSmoothed 8 = .ok (.iload_n 2, 1) := by decide +kernel
theorem dX1_writeSmoothed_9 : decode cX1_writeSmoothed 9 = .ok (.iconst 1, 1) := by decide +kernel
theorem dX1_writeSmoothed_10 : decode cX1_writeSmoothed 10 = .ok (.invokevirtual 66, 3) := by decide +kernel
theorem dX1_writeSmoothed_13 : decode cX1_writeSmoothed 13 = .ok (.istore 4, 2) := by decide +kernel
theorem dX1_writeSmoothed_15 : decode cX1_writeSmoothed 15 = .ok (.aload_n 0, 1) := by decide +kernel
theorem dX1_writeSmoothed_16 : decode cX1_writeSmoothed 16 = .ok (.invokevirtual 28, 3) := by decide +kernel
theorem dX1_writeSmoothed_19 : decode cX1_writeSmoothed 19 = .ok (.aload_n 0, 1) := by decide +kernel
theorem dX1_writeSmoothed_20 : decode cX1_writeSmoothed 20 = .ok (.aload_n 1, 1) := by decide +kernel
theorem dX1_writeSmoothed_21 : decode cX1_writeSmoothed 21 = .ok (.iconst 0, 1) := by decide +kernel
theorem dX1_writeSmoothed_22 : decode cX1_writeSmoothed 22 = .ok (.iload_n 3, 1) := by decide +kernel
theorem dX1_writeSmoothed_23 : decode cX1_writeSmoothed 23 = .ok (.invokevirtual 62, 3) := by decide +kernel
theorem dX1_writeSmoothed_26 : decode cX1_writeSmoothed 26 = .ok (.iload 4, 2) := by decide +kernel
theorem dX1_writeSmoothed_28 : decode cX1_writeSmoothed 28 = .ok (.iconst 1, 1) := by decide +kernel
theorem dX1_writeSmoothed_29 : decode cX1_writeSmoothed 29 = .ok (.isub, 1) := by decide +kernel
theorem dX1_writeSmoothed_30 : decode cX1_writeSmoothed 30 = .ok (.istore 5, 2) := by decide +kernel
theorem dX1_writeSmoothed_32 : decode cX1_writeSmoothed 32 = .ok (.iload 5, 2) := by decide +kernel
theorem dX1_writeSmoothed_34 : decode cX1_writeSmoothed 34 = .ok (.iload_n 3, 1) := by decide +kernel
theorem dX1_writeSmoothed_35 : decode cX1_writeSmoothed 35 = .ok (.if_icmp .le 19, 3) := by decide +kernel
theorem dX1_writeSmoothed_38 : decode cX1_writeSmoothed 38 = .ok (.aload_n 0, 1) := by decide +kernel
theorem dX1_writeSmoothed_39 : decode cX1_writeSmoothed 39 = .ok (.aload_n 1, 1) := by decide +kernel
theorem dX1_writeSmoothed_40 : decode cX1_writeSmoothed 40 = .ok (.iload 5, 2) := by decide +kernel
theorem dX1_writeSmoothed_42 : decode cX1_writeSmoothed 42 = .ok (.invokevirtual 37, 3) := by decide +kernel
theorem dX1_writeSmoothed_45 : decode cX1_writeSmoothed 45 = .ok (.invokevirtual 41, 3) := by decide +kernel
theorem dX1_writeSmoothed_48 : decode cX1_writeSmoothed 48 = .ok (.iinc 5 (-1), 3) := by decide +kernel
theorem dX1_writeSmoothed_51 : decode cX1_writeSmoothed 51 = .ok (.goto (-19), 3) := by decide +kernel
theorem dX1_writeSmoothed_54 : decode cX1_writeSmoothed 54 = .ok (.aload_n 0, 1) := by decide +kernel
theorem dX1_writeSmoothed_55 : decode cX1_writeSmoothed 55 = .ok (.aload_n 1, 1) := by decide +kernel
theorem dX1_writeSmoothed_56 : decode cX1_writeSmoothed 56 = .ok (.iload 4, 2) := by decide +kernel
theorem dX1_writeSmoothed_58 : decode cX1_writeSmoothed 58 = .ok (.iconst 1, 1) := by decide +kernel
theorem dX1_writeSmoothed_59 : decode cX1_writeSmoothed 59 = .ok (.iadd, 1) := by decide +kernel
theorem dX1_writeSmoothed_60 : decode cX1_writeSmoothed 60 = .ok (.aload_n 1, 1) := by decide +kernel
theorem dX1_writeSmoothed_61 : decode cX1_writeSmoothed 61 = .ok (.invokevirtual 31, 3) := by decide +kernel
theorem dX1_writeSmoothed_64 : decode cX1_writeSmoothed 64 = .ok (.invokevirtual 62, 3) := by decide +kernel
theorem dX1_writeSmoothed_67 : decode cX1_writeSmoothed 67 = .ok (.return_, 1) := by decide +kernel
theorem dX1_putPlaces_0 : decode cX1_putPlaces 0 = .ok (.iload_n 2, 1) := by decide +kernel
theorem dX1_putPlaces_1 : decode cX1_putPlaces 1 = .ok (.istore 4, 2) := by decide +kernel
theorem dX1_putPlaces_3 : decode cX1_putPlaces 3 = .ok (.iload 4, 2) := by decide +kernel
theorem dX1_putPlaces_5 : decode cX1_putPlaces 5 = .ok (.iload_n 3, 1) := by decide +kernel
theorem dX1_putPlaces_6 : decode cX1_putPlaces 6 = .ok (.if_icmp .ge 19, 3) := by decide +kernel
theorem dX1_putPlaces_9 : decode cX1_putPlaces 9 = .ok (.aload_n 0, 1) := by decide +kernel
theorem dX1_putPlaces_10 : decode cX1_putPlaces 10 = .ok (.aload_n 1, 1) := by decide +kernel
theorem dX1_putPlaces_11 : decode cX1_putPlaces 11 = .ok (.iload 4, 2) := by decide +kernel
theorem dX1_putPlaces_13 : decode cX1_putPlaces 13 = .ok (.invokevirtual 37, 3) := by decide +kernel
theorem dX1_putPlaces_16 : decode cX1_putPlaces 16 = .ok (.invokevirtual 41, 3) := by decide +kernel
theorem dX1_putPlaces_19 : decode cX1_putPlaces 19 = .ok (.iinc 4 1, 3) := by decide +kernel
theorem dX1_putPlaces_22 : decode cX1_putPlaces 22 = .ok (.goto (-19), 3) := by decide +kernel
theorem dX1_putPlaces_25 : decode cX1_putPlaces 25 = .ok (.return_, 1) := by decide +kernel
theorem dX1_writeSum_0 : decode cX1_writeSum 0 = .ok (.aload_n 0, 1) := by decide +kernel
theorem dX1_writeSum_1 : decode cX1_writeSum 1 = .ok (.invokevirtual 28, 3) := by decide +kernel
theorem dX1_writeSum_4 : decode cX1_writeSum 4 = .ok (.aload_n 0, 1) := by decide +kernel
theorem dX1_writeSum_5 : decode cX1_writeSum 5 = .ok (.aload_n 1, 1) := by decide +kernel
theorem dX1_writeSum_6 : decode cX1_writeSum 6 = .ok (.iconst 0, 1) := by decide +kernel
theorem dX1_writeSum_7 : decode cX1_writeSum 7 = .ok (.aload_n 1, 1) := by decide +kernel
theorem dX1_writeSum_8 : decode cX1_writeSum 8 = .ok (.invokevirtual 31, 3) := by decide +kernel
theorem dX1_writeSum_11 : decode cX1_writeSum 11 = .ok (.invokevirtual 62, 3) := by decide +kernel
theorem dX1_writeSum_14 : decode cX1_writeSum 14 = .ok (.iconst 0, 1) := by decide +kernel
theorem dX1_writeSum_15 : decode cX1_writeSum 15 = .ok (.istore_n 3, 1) := by decide +kernel
theorem dX1_writeSum_16 : decode cX1_writeSum 16 = .ok (.iload_n 3, 1) := by decide +kernel
theorem dX1_writeSum_17 : decode cX1_writeSum 17 = .ok (.aload_n 2, 1) := by decide +kernel
theorem dX1_writeSum_18 : decode cX1_writeSum 18 = .ok (.invokevirtual 31, 3) := by decide +kernel
theorem dX1_writeSum_21 : decode cX1_writeSum 21 = .ok (.if_icmp .ge 21, 3) := by decide +kernel
theorem dX1_writeSum_24 : decode cX1_writeSum 24 = .ok (.aload_n 0, 1) := by decide +kernel
theorem dX1_writeSum_25 : decode cX1_writeSum 25 = .ok (.aload_n 2, 1) := by decide +kernel
theorem dX1_writeSum_26 : decode cX1_writeSum 26 = .ok (.iload_n 3, 1) := by decide +kernel
theorem dX1_writeSum_27 : decode cX1_writeSum 27 = .ok (.invokevirtual 37, 3) := by decide +kernel
theorem dX1_writeSum_30 : decode cX1_writeSum 30 = .ok (.bipush 8, 2) := by decide +kernel
theorem dX1_writeSum_32 : decode cX1_writeSum 32 = .ok (.iadd, 1) := by decide +kernel
theorem dX1_writeSum_33 : decode cX1_writeSum 33 = .ok (.invokevirtual 41, 3) := by decide +kernel
theorem dX1_writeSum_36 : decode cX1_writeSum 36 = .ok (.iinc 3 1, 3) := by decide +kernel
theorem dX1_writeSum_39 : decode cX1_writeSum 39 = .ok (.goto (-23), 3) := by decide +kernel
theorem dX1_writeSum_42 : decode cX1_writeSum 42 = .ok (.return_, 1) := by decide +kernel
theorem dX2_init_0 : decode cX2_init 0 = .ok (.aload_n 0, 1) := by decide +kernel
theorem dX2_init_1 : decode cX2_init 1 = .ok (.invokespecial 1, 3) := by decide +kernel
theorem dX2_init_4 : decode cX2_init 4 = .ok (.aload_n 0, 1) := by decide +kernel
theorem dX2_init_5 : decode cX2_init 5 = .ok (.iconst 0, 1) := by decide +kernel
theorem dX2_init_6 : decode cX2_init 6 = .ok (.putfield 7, 3) := by decide +kernel
theorem dX2_init_9 : decode cX2_init 9 = .ok (.return_, 1) := by decide +kernel
theorem dX2_current_0 : decode cX2_current 0 = .ok (.aload_n 0, 1) := by decide +kernel
theorem dX2_current_1 : decode cX2_current 1 = .ok (.getfield 7, 3) := by decide +kernel
theorem dX2_current_4 : decode cX2_current 4 = .ok (.ireturn, 1) := by decide +kernel
theorem dX2_restart_0 : decode cX2_restart 0 = .ok (.aload_n 0, 1) := by decide +kernel
theorem dX2_restart_1 : decode cX2_restart 1 = .ok (.iload_n 1, 1) := by decide +kernel
theorem dX2_restart_2 : decode cX2_restart 2 = .ok (.putfield 7, 3) := by decide +kernel
theorem dX2_restart_5 : decode cX2_restart 5 = .ok (.return_, 1) := by decide +kernel
theorem dX2_below_0 : decode cX2_below 0 = .ok (.aload_n 0, 1) := by decide +kernel
theorem dX2_below_1 : decode cX2_below 1 = .ok (.aload_n 0, 1) := by decide +kernel
theorem dX2_below_2 : decode cX2_below 2 = .ok (.getfield 7, 3) := by decide +kernel
theorem dX2_below_5 : decode cX2_below 5 = .ok (.i2l, 1) := by decide +kernel
theorem dX2_below_6 : decode cX2_below 6 = .ok (.ldc2_w 13, 3) := by decide +kernel
theorem dX2_below_9 : decode cX2_below 9 = .ok (.lmul, 1) := by decide +kernel
theorem dX2_below_10 : decode cX2_below 10 = .ok (.ldc2_w 15, 3) := by decide +kernel
theorem dX2_below_13 : decode cX2_below 13 = .ok (.ladd, 1) := by decide +kernel
theorem dX2_below_14 : decode cX2_below 14 = .ok (.ldc2_w 17, 3) := by decide +kernel
theorem dX2_below_17 : decode cX2_below 17 = .ok (.land, 1) := by decide +kernel
theorem dX2_below_18 : decode cX2_below 18 = .ok (.l2i, 1) := by decide +kernel
theorem dX2_below_19 : decode cX2_below 19 = .ok (.putfield 7, 3) := by decide +kernel
theorem dX2_below_22 : decode cX2_below 22 = .ok (.iload_n 1, 1) := by decide +kernel
theorem dX2_below_23 : decode cX2_below 23 = .ok (.ifCond .le 15, 3) := by decide +kernel
theorem dX2_below_26 : decode cX2_below 26 = .ok (.aload_n 0, 1) := by decide +kernel
theorem dX2_below_27 : decode cX2_below 27 = .ok (.getfield 7, 3) := by decide +kernel
theorem dX2_below_30 : decode cX2_below 30 = .ok (.ldc 19, 2) := by decide +kernel
theorem dX2_below_32 : decode cX2_below 32 = .ok (.idiv, 1) := by decide +kernel
theorem dX2_below_33 : decode cX2_below 33 = .ok (.iload_n 1, 1) := by decide +kernel
theorem dX2_below_34 : decode cX2_below 34 = .ok (.irem, 1) := by decide +kernel
theorem dX2_below_35 : decode cX2_below 35 = .ok (.goto 4, 3) := by decide +kernel
theorem dX2_below_38 : decode cX2_below 38 = .ok (.iconst 0, 1) := by decide +kernel
theorem dX2_below_39 : decode cX2_below 39 = .ok (.ireturn, 1) := by decide +kernel
theorem dX2_writeRow_0 : decode cX2_writeRow 0 = .ok (.aload_n 0, 1) := by decide +kernel
theorem dX2_writeRow_1 : decode cX2_writeRow 1 = .ok (.bipush 7, 2) := by decide +kernel
theorem dX2_writeRow_3 : decode cX2_writeRow 3 = .ok (.invokevirtual 20, 3) := by decide +kernel
theorem dX2_writeRow_6 : decode cX2_writeRow 6 = .ok (.iconst 2, 1) := by decide +kernel
theorem dX2_writeRow_7 : decode cX2_writeRow 7 = .ok (.iadd, 1) := by decide +kernel
theorem dX2_writeRow_8 : decode cX2_writeRow 8 = .ok (.istore_n 2, 1) := by decide +kernel
theorem dX2_writeRow_9 : decode cX2_writeRow 9 = .ok (.aload_n 1, 1) := by decide +kernel
theorem dX2_writeRow_10 : decode cX2_writeRow 10 = .ok (.iconst 2, 1) := by decide +kernel
theorem dX2_writeRow_11 : decode cX2_writeRow 11 = .ok (.iload_n 2, 1) := by decide +kernel
theorem dX2_writeRow_12 : decode cX2_writeRow 12 = .ok (.imul, 1) := by decide +kernel
theorem dX2_writeRow_13 : decode cX2_writeRow 13 = .ok (.invokevirtual 24, 3) := by decide +kernel
theorem dX2_writeRow_16 : decode cX2_writeRow 16 = .ok (.iconst 0, 1) := by decide +kernel
theorem dX2_writeRow_17 : decode cX2_writeRow 17 = .ok (.istore_n 3, 1) := by decide +kernel
theorem dX2_writeRow_18 : decode cX2_writeRow 18 = .ok (.iload_n 3, 1) := by decide +kernel
theorem dX2_writeRow_19 : decode cX2_writeRow 19 = .ok (.iconst 2, 1) := by decide +kernel
theorem dX2_writeRow_20 : decode cX2_writeRow 20 = .ok (.iload_n 2, 1) := by decide +kernel
theorem dX2_writeRow_21 : decode cX2_writeRow 21 = .ok (.imul, 1) := by decide +kernel
theorem dX2_writeRow_22 : decode cX2_writeRow 22 = .ok (.if_icmp .ge 25, 3) := by decide +kernel
theorem dX2_writeRow_25 : decode cX2_writeRow 25 = .ok (.aload_n 1, 1) := by decide +kernel
theorem dX2_writeRow_26 : decode cX2_writeRow 26 = .ok (.aload_n 0, 1) := by decide +kernel
theorem dX2_writeRow_27 : decode cX2_writeRow 27 = .ok (.iconst 2, 1) := by decide +kernel
theorem dX2_writeRow_28 : decode cX2_writeRow 28 = .ok (.iload_n 2, 1) := by decide +kernel
theorem dX2_writeRow_29 : decode cX2_writeRow 29 = .ok (.imul, 1) := by decide +kernel
theorem dX2_writeRow_30 : decode cX2_writeRow 30 = .ok (.iload_n 3, 1) := by decide +kernel
theorem dX2_writeRow_31 : decode cX2_writeRow 31 = .ok (.isub, 1) := by decide +kernel
theorem dX2_writeRow_32 : decode cX2_writeRow 32 = .ok (.invokevirtual 20, 3) := by decide +kernel
theorem dX2_writeRow_35 : decode cX2_writeRow 35 = .ok (.iload_n 3, 1) := by decide +kernel
theorem dX2_writeRow_36 : decode cX2_writeRow 36 = .ok (.iconst 2, 1) := by decide +kernel
theorem dX2_writeRow_37 : decode cX2_writeRow 37 = .ok (.idiv, 1) := by decide +kernel
theorem dX2_writeRow_38 : decode cX2_writeRow 38 = .ok (.invokevirtual 30, 3) := by decide +kernel
theorem dX2_writeRow_41 : decode cX2_writeRow 41 = .ok (.iinc 3 1, 3) := by decide +kernel
theorem dX2_writeRow_44 : decode cX2_writeRow 44 = .ok (.goto (-26), 3) := by decide +kernel
theorem dX2_writeRow_47 : decode cX2_writeRow 47 = .ok (.return_, 1) := by decide +kernel
theorem dX3_init_0 : decode cX3_init 0 = .ok (.aload_n 0, 1) := by decide +kernel
theorem dX3_init_1 : decode cX3_init 1 = .ok (.invokespecial 3, 3) := by decide +kernel
theorem dX3_init_4 : decode cX3_init 4 = .ok (.aload_n 0, 1) := by decide +kernel
theorem dX3_init_5 : decode cX3_init 5 = .ok (.aload_n 1, 1) := by decide +kernel
theorem dX3_init_6 : decode cX3_init 6 = .ok (.putfield 9, 3) := by decide +kernel
theorem dX3_init_9 : decode cX3_init 9 = .ok (.aload_n 0, 1) := by decide +kernel
theorem dX3_init_10 : decode cX3_init 10 = .ok (.aload_n 1, 1) := by decide +kernel
theorem dX3_init_11 : decode cX3_init 11 = .ok (.iload_n 2, 1) := by decide +kernel
theorem dX3_init_12 : decode cX3_init 12 = .ok (.aload_n 3, 1) := by decide +kernel
theorem dX3_init_13 : decode cX3_init 13 = .ok (.invokestatic 15, 3) := by decide +kernel
theorem dX3_init_16 : decode cX3_init 16 = .ok (.putfield 19, 3) := by decide +kernel
theorem dX3_init_19 : decode cX3_init 19 = .ok (.aload_n 0, 1) := by decide +kernel
theorem dX3_init_20 : decode cX3_init 20 = .ok (.iconst 4, 1) := by decide +kernel
theorem dX3_init_21 : decode cX3_init 21 = .ok (.aload_n 1, 1) := by decide +kernel
theorem dX3_init_22 : decode cX3_init 22 = .ok (.invokevirtual 23, 3) := by decide +kernel
theorem dX3_init_25 : decode cX3_init 25 = .ok (.imul, 1) := by decide +kernel
theorem dX3_init_26 : decode cX3_init 26 = .ok (.newarray .int, 2) := by decide +kernel
theorem dX3_init_28 : decode cX3_init 28 = .ok (.putfield 29, 3) := by decide +kernel
theorem dX3_init_31 : decode cX3_init 31 = .ok (.aload_n 0, 1) := by decide +kernel
theorem dX3_init_32 : decode cX3_init 32 = .ok (.aload_n 0, 1) := by decide +kernel
theorem dX3_init_33 : decode cX3_init 33 = .ok (.getfield 19, 3) := by decide +kernel
theorem dX3_init_36 : decode cX3_init 36 = .ok (.newarray .int, 2) := by decide +kernel
theorem dX3_init_38 : decode cX3_init 38 = .ok (.putfield 33, 3) := by decide +kernel
theorem dX3_init_41 : decode cX3_init 41 = .ok (.aload_n 0, 1) := by decide +kernel
theorem dX3_init_42 : decode cX3_init 42 = .ok (.aload_n 1, 1) := by decide +kernel
theorem dX3_init_43 : decode cX3_init 43 = .ok (.invokevirtual 36, 3) := by decide +kernel
theorem dX3_init_46 : decode cX3_init 46 = .ok (.newarray .int, 2) := by decide +kernel
theorem dX3_init_48 : decode cX3_init 48 = .ok (.putfield 39, 3) := by decide +kernel
theorem dX3_init_51 : decode cX3_init 51 = .ok (.aload_n 0, 1) := by decide +kernel
theorem dX3_init_52 : decode cX3_init 52 = .ok (.aload_n 1, 1) := by decide +kernel
theorem dX3_init_53 : decode cX3_init 53 = .ok (.invokevirtual 36, 3) := by decide +kernel
theorem dX3_init_56 : decode cX3_init 56 = .ok (.newarray .int, 2) := by decide +kernel
theorem dX3_init_58 : decode cX3_init 58 = .ok (.putfield 42, 3) := by decide +kernel
theorem dX3_init_61 : decode cX3_init 61 = .ok (.aload_n 0, 1) := by decide +kernel
theorem dX3_init_62 : decode cX3_init 62 = .ok (.aload_n 0, 1) := by decide +kernel
theorem dX3_init_63 : decode cX3_init 63 = .ok (.getfield 19, 3) := by decide +kernel
theorem dX3_init_66 : decode cX3_init 66 = .ok (.newarray .int, 2) := by decide +kernel
theorem dX3_init_68 : decode cX3_init 68 = .ok (.putfield 45, 3) := by decide +kernel
theorem dX3_init_71 : decode cX3_init 71 = .ok (.aload_n 0, 1) := by decide +kernel
theorem dX3_init_72 : decode cX3_init 72 = .ok (.aload_n 0, 1) := by decide +kernel
theorem dX3_init_73 : decode cX3_init 73 = .ok (.getfield 19, 3) := by decide +kernel
theorem dX3_init_76 : decode cX3_init 76 = .ok (.aload_n 1, 1) := by decide +kernel
theorem dX3_init_77 : decode cX3_init 77 = .ok (.invokevirtual 23, 3) := by decide +kernel
theorem dX3_init_80 : decode cX3_init 80 = .ok (.iconst 2, 1) := by decide +kernel
theorem dX3_init_81 : decode cX3_init 81 = .ok (.iadd, 1) := by decide +kernel
theorem dX3_init_82 : decode cX3_init 82 = .ok (.if_icmp .ne 7, 3) := by decide +kernel
theorem dX3_init_85 : decode cX3_init 85 = .ok (.iconst 1, 1) := by decide +kernel
theorem dX3_init_86 : decode cX3_init 86 = .ok (.goto 4, 3) := by decide +kernel
theorem dX3_init_89 : decode cX3_init 89 = .ok (.iconst 0, 1) := by decide +kernel
theorem dX3_init_90 : decode cX3_init 90 = .ok (.putfield 48, 3) := by decide +kernel
theorem dX3_init_93 : decode cX3_init 93 = .ok (.aload_n 0, 1) := by decide +kernel
theorem dX3_init_94 : decode cX3_init 94 = .ok (.aload_n 3, 1) := by decide +kernel
theorem dX3_init_95 : decode cX3_init 95 = .ok (.invokevirtual 52, 3) := by decide +kernel
theorem dX3_init_98 : decode cX3_init 98 = .ok (.aload_n 0, 1) := by decide +kernel
theorem dX3_init_99 : decode cX3_init 99 = .ok (.iload_n 2, 1) := by decide +kernel
theorem dX3_init_100 : decode cX3_init 100 = .ok (.invokevirtual 56, 3) := by decide +kernel
theorem dX3_init_103 : decode cX3_init 103 = .ok (.aload_n 0, 1) := by decide +kernel
theorem dX3_init_104 : decode cX3_init 104 = .ok (.getfield 48, 3) := by decide +kernel
theorem dX3_init_107 : decode cX3_init 107 = .ok (.ifCond .eq 7, 3) := by decide +kernel
theorem dX3_init_110 : decode cX3_init 110 = .ok (.aload_n 0, 1) := by decide +kernel
theorem dX3_init_111 : decode cX3_init 111 = .ok (.invokevirtual 60, 3) := by decide +kernel
theorem dX3_init_114 : decode cX3_init 114 = .ok (.return_, 1) := by decide +kernel
theorem dX3_countIn_0 : decode cX3_countIn 0 = .ok (.aload_n 2, 1) := by decide +kernel
theorem dX3_countIn_1 : decode cX3_countIn 1 = .ok (.iconst 4, 1) := by decide +kernel
theorem dX3_countIn_2 : decode cX3_countIn 2 = .ok (.aload_n 0, 1) := by decide +kernel
theorem dX3_countIn_3 : decode cX3_countIn 3 = .ok (.invokevirtual 23, 3) := by decide +kernel
theorem dX3_countIn_6 : decode cX3_countIn 6 = .ok (.imul, 1) := by decide +kernel
theorem dX3_countIn_7 : decode cX3_countIn 7 = .ok (.invokevirtual 63, 3) := by decide +kernel
theorem dX3_countIn_10 : decode cX3_countIn 10 = .ok (.iconst 0, 1) := by decide +kernel
theorem dX3_countIn_11 : decode cX3_countIn 11 = .ok (.istore_n 3, 1) := by decide +kernel
theorem dX3_countIn_12 : decode cX3_countIn 12 = .ok (.iload_n 3, 1) := by decide +kernel
theorem dX3_countIn_13 : decode cX3_countIn 13 = .ok (.aload_n 0, 1) := by decide +kernel
theorem dX3_countIn_14 : decode cX3_countIn 14 = .ok (.invokevirtual 68, 3) := by decide +kernel
theorem dX3_countIn_17 : decode cX3_countIn 17 = .ok (.if_icmp .ge 89, 3) := by decide +kernel
theorem dX3_countIn_20 : decode cX3_countIn 20 = .ok (.aload_n 0, 1) := by decide +kernel
theorem dX3_countIn_21 : decode cX3_countIn 21 = .ok (.iload_n 3, 1) := by decide +kernel
theorem dX3_countIn_22 : decode cX3_countIn 22 = .ok (.invokevirtual 71, 3) := by decide +kernel
theorem dX3_countIn_25 : decode cX3_countIn 25 = .ok (.istore 4, 2) := by decide +kernel
theorem dX3_countIn_27 : decode cX3_countIn 27 = .ok (.aload_n 0, 1) := by decide +kernel
theorem dX3_countIn_28 : decode cX3_countIn 28 = .ok (.iload_n 3, 1) := by decide +kernel
theorem dX3_countIn_29 : decode cX3_countIn 29 = .ok (.iload_n 1, 1) := by decide +kernel
theorem dX3_countIn_30 : decode cX3_countIn 30 = .ok (.invokestatic 75, 3) := by decide +kernel
theorem dX3_countIn_33 : decode cX3_countIn 33 = .ok (.istore 5, 2) := by decide +kernel
theorem dX3_countIn_35 : decode cX3_countIn 35 = .ok (.aload_n 0, 1) := by decide +kernel
theorem dX3_countIn_36 : decode cX3_countIn 36 = .ok (.iload 4, 2) := by decide +kernel
theorem dX3_countIn_38 : decode cX3_countIn 38 = .ok (.iload_n 1, 1) := by decide +kernel
theorem dX3_countIn_39 : decode cX3_countIn 39 = .ok (.invokestatic 75, 3) := by decide +kernel
theorem dX3_countIn_42 : decode cX3_countIn 42 = .ok (.iconst 2, 1) := by decide +kernel
theorem dX3_countIn_43 : decode cX3_countIn 43 = .ok (.iadd, 1) := by decide +kernel
theorem dX3_countIn_44 : decode cX3_countIn 44 = .ok (.istore 6, 2) := by decide +kernel
theorem dX3_countIn_46 : decode cX3_countIn 46 = .ok (.aload_n 2, 1) := by decide +kernel
theorem dX3_countIn_47 : decode cX3_countIn 47 = .ok (.aload_n 0, 1) := by decide +kernel
theorem dX3_countIn_48 : decode cX3_countIn 48 = .ok (.iload_n 3, 1) := by decide +kernel
theorem dX3_countIn_49 : decode cX3_countIn 49 = .ok (.invokevirtual 79, 3) := by decide +kernel
theorem dX3_countIn_52 : decode cX3_countIn 52 = .ok (.iload 5, 2) := by decide +kernel
theorem dX3_countIn_54 : decode cX3_countIn 54 = .ok (.invokestatic 82, 3) := by decide +kernel
theorem dX3_countIn_57 : decode cX3_countIn 57 = .ok (.aload_n 0, 1) := by decide +kernel
theorem dX3_countIn_58 : decode cX3_countIn 58 = .ok (.iload 4, 2) := by decide +kernel
theorem dX3_countIn_60 : decode cX3_countIn 60 = .ok (.invokevirtual 79, 3) := by decide +kernel
theorem dX3_countIn_63 : decode cX3_countIn 63 = .ok (.iload 6, 2) := by decide +kernel
theorem dX3_countIn_65 : decode cX3_countIn 65 = .ok (.iconst 1, 1) := by decide +kernel
theorem dX3_countIn_66 : decode cX3_countIn 66 = .ok (.isub, 1) := by decide +kernel
theorem dX3_countIn_67 : decode cX3_countIn 67 = .ok (.invokestatic 82, 3) := by decide +kernel
theorem dX3_countIn_70 : decode cX3_countIn 70 = .ok (.invokevirtual 86, 3) := by decide +kernel
theorem dX3_countIn_73 : decode cX3_countIn 73 = .ok (.aload_n 2, 1) := by decide +kernel
theorem dX3_countIn_74 : decode cX3_countIn 74 = .ok (.aload_n 0, 1) := by decide +kernel
theorem dX3_countIn_75 : decode cX3_countIn 75 = .ok (.iload_n 3, 1) := by decide +kernel
theorem dX3_countIn_76 : decode cX3_countIn 76 = .ok (.invokevirtual 79, 3) := by decide +kernel
theorem dX3_countIn_79 : decode cX3_countIn 79 = .ok (.iload 5, 2) := by decide +kernel
theorem dX3_countIn_81 : decode cX3_countIn 81 = .ok (.iconst 1, 1) := by decide +kernel
theorem dX3_countIn_82 : decode cX3_countIn 82 = .ok (.isub, 1) := by decide +kernel
theorem dX3_countIn_83 : decode cX3_countIn 83 = .ok (.invokestatic 82, 3) := by decide +kernel
theorem dX3_countIn_86 : decode cX3_countIn 86 = .ok (.aload_n 0, 1) := by decide +kernel
theorem dX3_countIn_87 : decode cX3_countIn 87 = .ok (.iload 4, 2) := by decide +kernel
theorem dX3_countIn_89 : decode cX3_countIn 89 = .ok (.invokevirtual 79, 3) := by decide +kernel
theorem dX3_countIn_92 : decode cX3_countIn 92 = .ok (.iload 6, 2) := by decide +kernel
theorem dX3_countIn_94 : decode cX3_countIn 94 = .ok (.invokestatic 82, 3) := by decide +kernel
theorem dX3_countIn_97 : decode cX3_countIn 97 = .ok (.invokevirtual 86, 3) := by decide +kernel
theorem dX3_countIn_100 : decode cX3_countIn 100 = .ok (.iinc 3 1, 3) := by decide +kernel
theorem dX3_countIn_103 : decode cX3_countIn 103 = .ok (.goto (-91), 3) := by decide +kernel
theorem dX3_countIn_106 : decode cX3_countIn 106 = .ok (.aload_n 0, 1) := by decide +kernel
theorem dX3_countIn_107 : decode cX3_countIn 107 = .ok (.invokevirtual 23, 3) := by decide +kernel
theorem dX3_countIn_110 : decode cX3_countIn 110 = .ok (.ifCond .ne 7, 3) := by decide +kernel
theorem dX3_countIn_113 : decode cX3_countIn 113 = .ok (.iconst 2, 1) := by decide +kernel
theorem dX3_countIn_114 : decode cX3_countIn 114 = .ok (.goto 7, 3) := by decide +kernel
theorem dX3_countIn_117 : decode cX3_countIn 117 = .ok (.aload_n 2, 1) := by decide +kernel
theorem dX3_countIn_118 : decode cX3_countIn 118 = .ok (.invokevirtual 90, 3) := by decide +kernel
theorem dX3_countIn_121 : decode cX3_countIn 121 = .ok (.ireturn, 1) := by decide +kernel
theorem dX3_endLeaving_0 : decode cX3_endLeaving 0 = .ok (.aload_n 0, 1) := by decide +kernel
theorem dX3_endLeaving_1 : decode cX3_endLeaving 1 = .ok (.iload_n 1, 1) := by decide +kernel
theorem dX3_endLeaving_2 : decode cX3_endLeaving 2 = .ok (.invokevirtual 92, 3) := by decide +kernel
theorem dX3_endLeaving_5 : decode cX3_endLeaving 5 = .ok (.ifCond .eq 5, 3) := by decide +kernel
theorem dX3_endLeaving_8 : decode cX3_endLeaving 8 = .ok (.iconst 0, 1) := by decide +kernel
theorem dX3_endLeaving_9 : decode cX3_endLeaving 9 = .ok (.ireturn, 1) := by decide +kernel
theorem dX3_endLeaving_10 : decode cX3_endLeaving 10 = .ok (.iload_n 2, 1) := by decide +kernel
theorem dX3_endLeaving_11 : decode cX3_endLeaving 11 = .ok (.aload_n 0, 1) := by decide +kernel
theorem dX3_endLeaving_12 : decode cX3_endLeaving 12 = .ok (.iload_n 1, 1) := by decide +kernel
theorem dX3_endLeaving_13 : decode cX3_endLeaving 13 = .ok (.invokevirtual 79, 3) := by decide +kernel
theorem dX3_endLeaving_16 : decode cX3_endLeaving 16 = .ok (.invokestatic 96, 3) := by decide +kernel
theorem dX3_endLeaving_19 : decode cX3_endLeaving 19 = .ok (.ifCond .eq 7, 3) := by decide +kernel
theorem dX3_endLeaving_22 : decode cX3_endLeaving 22 = .ok (.iconst 3, 1) := by decide +kernel
theorem dX3_endLeaving_23 : decode cX3_endLeaving 23 = .ok (.goto 4, 3) := by decide +kernel
theorem dX3_endLeaving_26 : decode cX3_endLeaving 26 = .ok (.iconst 1, 1) := by decide +kernel
theorem dX3_endLeaving_27 : decode cX3_endLeaving 27 = .ok (.ireturn, 1) := by decide +kernel
theorem dX3_corner_0 : decode cX3_corner 0 = .ok (.iconst 4, 1) := by decide +kernel
theorem dX3_corner_1 : decode cX3_corner 1 = .ok (.iload_n 0, 1) := by decide +kernel
theorem dX3_corner_2 : decode cX3_corner 2 = .ok (.imul, 1) := by decide +kernel
theorem dX3_corner_3 : decode cX3_corner 3 = .ok (.iload_n 1, 1) := by decide +kernel
theorem dX3_corner_4 : decode cX3_corner 4 = .ok (.iconst 3, 1) := by decide +kernel
theorem dX3_corner_5 : decode cX3_corner 5 = .ok (.iand, 1) := by decide +kernel
theorem dX3_corner_6 : decode cX3_corner 6 = .ok (.iadd, 1) := by decide +kernel
theorem dX3_corner_7 : decode cX3_corner 7 = .ok (.ireturn, 1) := by decide +kernel
theorem dX3_numberCorners_0 : decode cX3_numberCorners 0 = .ok (.iconst 0, 1) := by decide +kernel
theorem dX3_numberCorners_1 : decode cX3_numberCorners 1 = .ok (.istore_n 2, 1) := by decide +kernel
theorem dX3_numberCorners_2 : decode cX3_numberCorners 2 = .ok (.iconst 0, 1) := by decide +kernel
theorem dX3_numberCorners_3 : decode cX3_numberCorners 3 = .ok (.istore_n 3, 1) := by decide +kernel
theorem dX3_numberCorners_4 : decode cX3_numberCorners 4 = .ok (.iload_n 3, 1) := by decide +kernel
theorem dX3_numberCorners_5 : decode cX3_numberCorners 5 = .ok (.aload_n 0, 1) := by decide +kernel
theorem dX3_numberCorners_6 : decode cX3_numberCorners 6 = .ok (.getfield 29, 3) := by decide +kernel
theorem dX3_numberCorners_9 : decode cX3_numberCorners 9 = .ok (.arraylength, 1) := by decide +kernel
theorem dX3_numberCorners_10 : decode cX3_numberCorners 10 = .ok (.if_icmp .ge 81, 3) := by decide +kernel
theorem dX3_numberCorners_13 : decode cX3_numberCorners 13 = .ok (.aload_n 1, 1) := by decide +kernel
theorem dX3_numberCorners_14 : decode cX3_numberCorners 14 = .ok (.iload_n 3, 1) := by decide +kernel
theorem dX3_numberCorners_15 : decode cX3_numberCorners 15 = .ok (.invokevirtual 100, 3) := by decide +kernel
theorem dX3_numberCorners_18 : decode cX3_numberCorners 18 = .ok (.istore 4, 2) := by decide +kernel
theorem dX3_numberCorners_20 : decode cX3_numberCorners 20 = .ok (.iload 4, 2) := by decide +kernel
theorem dX3_numberCorners_22 : decode cX3_numberCorners 22 = .ok (.ifCond .lt 25, 3) := by decide +kernel
theorem dX3_numberCorners_25 : decode cX3_numberCorners 25 = .ok (.iload 4, 2) := by decide +kernel
theorem dX3_numberCorners_27 : decode cX3_numberCorners 27 = .ok (.iload_n 3, 1) := by decide +kernel
theorem dX3_numberCorners_28 : decode cX3_numberCorners 28 = .ok (.if_icmp .ge 19, 3) := by decide +kernel
theorem dX3_numberCorners_31 : decode cX3_numberCorners 31 = .ok (.aload_n 0, 1) := by decide +kernel
theorem dX3_numberCorners_32 : decode cX3_numberCorners 32 = .ok (.getfield 29, 3) := by decide +kernel
theorem dX3_numberCorners_35 : decode cX3_numberCorners 35 = .ok (.iload_n 3, 1) := by decide +kernel
theorem dX3_numberCorners_36 : decode cX3_numberCorners 36 = .ok (.aload_n 0, 1) := by decide +kernel
theorem dX3_numberCorners_37 : decode cX3_numberCorners 37 = .ok (.getfield 29, 3) := by decide +kernel
theorem dX3_numberCorners_40 : decode cX3_numberCorners 40 = .ok (.iload 4, 2) := by decide +kernel
theorem dX3_numberCorners_42 : decode cX3_numberCorners 42 = .ok (.iaload, 1) := by decide +kernel
theorem dX3_numberCorners_43 : decode cX3_numberCorners 43 = .ok (.iastore, 1) := by decide +kernel
theorem dX3_numberCorners_44 : decode cX3_numberCorners 44 = .ok (.goto 13, 3) := by decide +kernel
theorem dX3_numberCorners_47 : decode cX3_numberCorners 47 = .ok (.aload_n 0, 1) := by decide +kernel
theorem dX3_numberCorners_48 : decode cX3_numberCorners 48 = .ok (.getfield 29, 3) := by decide +kernel
theorem dX3_numberCorners_51 : decode cX3_numberCorners 51 = .ok (.iload_n 3, 1) := by decide +kernel
theorem dX3_numberCorners_52 : decode cX3_numberCorners 52 = .ok (.iload_n 2, 1) := by decide +kernel
theorem dX3_numberCorners_53 : decode cX3_numberCorners 53 = .ok (.iastore, 1) := by decide +kernel
theorem dX3_numberCorners_54 : decode cX3_numberCorners 54 = .ok (.iinc 2 1, 3) := by decide +kernel
theorem dX3_numberCorners_57 : decode cX3_numberCorners 57 = .ok (.aload_n 0, 1) := by decide +kernel
theorem dX3_numberCorners_58 : decode cX3_numberCorners 58 = .ok (.getfield 29, 3) := by decide +kernel
theorem dX3_numberCorners_61 : decode cX3_numberCorners 61 = .ok (.iload_n 3, 1) := by decide +kernel
theorem dX3_numberCorners_62 : decode cX3_numberCorners 62 = .ok (.iaload, 1) := by decide +kernel
theorem dX3_numberCorners_63 : decode cX3_numberCorners 63 = .ok (.aload_n 0, 1) := by decide +kernel
theorem dX3_numberCorners_64 : decode cX3_numberCorners 64 = .ok (.getfield 19, 3) := by decide +kernel
theorem dX3_numberCorners_67 : decode cX3_numberCorners 67 = .ok (.if_icmp .ge 18, 3) := by decide +kernel
theorem dX3_numberCorners_70 : decode cX3_numberCorners 70 = .ok (.aload_n 0, 1) := by decide +kernel
theorem dX3_numberCorners_71 : decode cX3_numberCorners 71 = .ok (.getfield 33, 3) := by decide +kernel
theorem dX3_numberCorners_74 : decode cX3_numberCorners 74 = .ok (.aload_n 0, 1) := by decide +kernel
theorem dX3_numberCorners_75 : decode cX3_numberCorners 75 = .ok (.getfield 29, 3) := by decide +kernel
theorem dX3_numberCorners_78 : decode cX3_numberCorners 78 = .ok (.iload_n 3, 1) := by decide +kernel
theorem dX3_numberCorners_79 : decode cX3_numberCorners 79 = .ok (.iaload, 1) := by decide +kernel
theorem dX3_numberCorners_80 : decode cX3_numberCorners 80 = .ok (.dup2, 1) := by decide +kernel
theorem dX3_numberCorners_81 : decode cX3_numberCorners 81 = .ok (.iaload, 1) := by decide +kernel
theorem dX3_numberCorners_82 : decode cX3_numberCorners 82 = .ok (.iconst 1, 1) := by decide +kernel
theorem dX3_numberCorners_83 : decode cX3_numberCorners 83 = .ok (.iadd, 1) := by decide +kernel
theorem dX3_numberCorners_84 : decode cX3_numberCorners 84 = .ok (.iastore, 1) := by decide +kernel
theorem dX3_numberCorners_85 : decode cX3_numberCorners 85 = .ok (.iinc 3 1, 3) := by decide +kernel
theorem dX3_numberCorners_88 : decode cX3_numberCorners 88 = .ok (.goto (-84), 3) := by decide +kernel
theorem dX3_numberCorners_91 : decode cX3_numberCorners 91 = .ok (.return_, 1) := by decide +kernel
theorem dX3_findSidesOfSteps_0 : decode cX3_findSidesOfSteps 0 = .ok (.aload_n 0, 1) := by decide +kernel
theorem dX3_findSidesOfSteps_1 : decode cX3_findSidesOfSteps 1 = .ok (.getfield 9, 3) := by decide +kernel
theorem dX3_findSidesOfSteps_4 : decode cX3_findSidesOfSteps 4 = .ok (.invokevirtual 23, 3) := by decide +kernel
theorem dX3_findSidesOfSteps_7 : decode cX3_findSidesOfSteps 7 = .ok (.ifCond .ne 10, 3) := by decide +kernel
theorem dX3_findSidesOfSteps_10 : decode cX3_findSidesOfSteps 10 = .ok (.aload_n 0, 1) := by decide +kernel
theorem dX3_findSidesOfSteps_11 : decode cX3_findSidesOfSteps 11 = .ok (.getfield 42, 3) := by decide +kernel
theorem dX3_findSidesOfSteps_14 : decode cX3_findSidesOfSteps 14 = .ok (.iconst 0, 1) := by decide +kernel
theorem dX3_findSidesOfSteps_15 : decode cX3_findSidesOfSteps 15 = .ok (.iconst 1, 1) := by decide +kernel
theorem dX3_findSidesOfSteps_16 : decode cX3_findSidesOfSteps 16 = .ok (.iastore, 1) := by decide +kernel
theorem dX3_findSidesOfSteps_17 : decode cX3_findSidesOfSteps 17 = .ok (.iconst 0, 1) := by decide +kernel
theorem dX3_findSidesOfSteps_18 : decode cX3_findSidesOfSteps 18 = .ok (.istore_n 2, 1) := by decide +kernel
theorem dX3_findSidesOfSteps_19 : decode cX3_findSidesOfSteps 19 = .ok (.iload_n 2, 1) := by decide +kernel
theorem dX3_findSidesOfSteps_20 : decode cX3_findSidesOfSteps 20 = .ok (.aload_n 0, 1) := by decide +kernel
theorem dX3_findSidesOfSteps_21 : decode cX3_findSidesOfSteps 21 = .ok (.getfield 9, 3) := by decide +kernel
theorem dX3_findSidesOfSteps_24 : decode cX3_findSidesOfSteps 24 = .ok (.invokevirtual 68, 3) := by decide +kernel
theorem dX3_findSidesOfSteps_27 : decode cX3_findSidesOfSteps 27 = .ok (.if_icmp .ge 59, 3) := by decide +kernel
theorem dX3_findSidesOfSteps_30 : decode cX3_findSidesOfSteps 30 = .ok (.aload_n 0, 1) := by decide +kernel
theorem dX3_findSidesOfSteps_31 : decode cX3_findSidesOfSteps 31 = .ok (.getfield 9, 3) := by decide +kernel
theorem dX3_findSidesOfSteps_34 : decode cX3_findSidesOfSteps 34 = .ok (.iload_n 2, 1) := by decide +kernel
theorem dX3_findSidesOfSteps_35 : decode cX3_findSidesOfSteps 35 = .ok (.iload_n 1, 1) := by decide +kernel
theorem dX3_findSidesOfSteps_36 : decode cX3_findSidesOfSteps 36 = .ok (.invokestatic 75, 3) := by decide +kernel
theorem dX3_findSidesOfSteps_39 : decode cX3_findSidesOfSteps 39 = .ok (.istore_n 3, 1) := by decide +kernel
theorem dX3_findSidesOfSteps_40 : decode cX3_findSidesOfSteps 40 = .ok (.aload_n 0, 1) := by decide +kernel
theorem dX3_findSidesOfSteps_41 : decode cX3_findSidesOfSteps 41 = .ok (.getfield 39, 3) := by decide +kernel
theorem dX3_findSidesOfSteps_44 : decode cX3_findSidesOfSteps 44 = .ok (.iload_n 2, 1) := by decide +kernel
theorem dX3_findSidesOfSteps_45 : decode cX3_findSidesOfSteps 45 = .ok (.aload_n 0, 1) := by decide +kernel
theorem dX3_findSidesOfSteps_46 : decode cX3_findSidesOfSteps 46 = .ok (.aload_n 0, 1) := by decide +kernel
theorem dX3_findSidesOfSteps_47 : decode cX3_findSidesOfSteps 47 = .ok (.getfield 9, 3) := by decide +kernel
theorem dX3_findSidesOfSteps_50 : decode cX3_findSidesOfSteps 50 = .ok (.iload_n 2, 1) := by decide +kernel
theorem dX3_findSidesOfSteps_51 : decode cX3_findSidesOfSteps 51 = .ok (.invokevirtual 79, 3) := by decide +kernel
theorem dX3_findSidesOfSteps_54 : decode cX3_findSidesOfSteps 54 = .ok (.iload_n 3, 1) := by decide +kernel
theorem dX3_findSidesOfSteps_55 : decode cX3_findSidesOfSteps 55 = .ok (.invokevirtual 103, 3) := by decide +kernel
theorem dX3_findSidesOfSteps_58 : decode cX3_findSidesOfSteps 58 = .ok (.iastore, 1) := by decide +kernel
theorem dX3_findSidesOfSteps_59 : decode cX3_findSidesOfSteps 59 = .ok (.aload_n 0, 1) := by decide +kernel
theorem dX3_findSidesOfSteps_60 : decode cX3_findSidesOfSteps 60 = .ok (.getfield 42, 3) := by decide +kernel
theorem dX3_findSidesOfSteps_63 : decode cX3_findSidesOfSteps 63 = .ok (.iload_n 2, 1) := by decide +kernel
theorem dX3_findSidesOfSteps_64 : decode cX3_findSidesOfSteps 64 = .ok (.aload_n 0, 1) := by decide +kernel
theorem dX3_findSidesOfSteps_65 : decode cX3_findSidesOfSteps 65 = .ok (.aload_n 0, 1) := by decide +kernel
theorem dX3_findSidesOfSteps_66 : decode cX3_findSidesOfSteps 66 = .ok (.getfield 9, 3) := by decide +kernel
theorem dX3_findSidesOfSteps_69 : decode cX3_findSidesOfSteps 69 = .ok (.iload_n 2, 1) := by decide +kernel
theorem dX3_findSidesOfSteps_70 : decode cX3_findSidesOfSteps 70 = .ok (.invokevirtual 79, 3) := by decide +kernel
theorem dX3_findSidesOfSteps_73 : decode cX3_findSidesOfSteps 73 = .ok (.iload_n 3, 1) := by decide +kernel
theorem dX3_findSidesOfSteps_74 : decode cX3_findSidesOfSteps 74 = .ok (.iconst 1, 1) := by decide +kernel
theorem dX3_findSidesOfSteps_75 : decode cX3_findSidesOfSteps 75 = .ok (.isub, 1) := by decide +kernel
theorem dX3_findSidesOfSteps_76 : decode cX3_findSidesOfSteps 76 = .ok (.invokevirtual 103, 3) := by decide +kernel
theorem dX3_findSidesOfSteps_79 : decode cX3_findSidesOfSteps 79 = .ok (.iastore, 1) := by decide +kernel
theorem dX3_findSidesOfSteps_80 : decode cX3_findSidesOfSteps 80 = .ok (.iinc 2 1, 3) := by decide +kernel
theorem dX3_findSidesOfSteps_83 : decode cX3_findSidesOfSteps 83 = .ok (.goto (-64), 3) := by decide +kernel
theorem dX3_findSidesOfSteps_86 : decode cX3_findSidesOfSteps 86 = .ok (.return_, 1) := by decide +kernel
theorem dX3_findIndexes_0 : decode cX3_findIndexes 0 = .ok (.aload_n 0, 1) := by decide +kernel
theorem dX3_findIndexes_1 : decode cX3_findIndexes 1 = .ok (.getfield 19, 3) := by decide +kernel
theorem dX3_findIndexes_4 : decode cX3_findIndexes 4 = .ok (.newarray .boolean, 2) := by decide +kernel
theorem dX3_findIndexes_6 : decode cX3_findIndexes 6 = .ok (.astore_n 1, 1) := by decide +kernel
theorem dX3_findIndexes_7 : decode cX3_findIndexes 7 = .ok (.aload_n 0, 1) := by decide +kernel
theorem dX3_findIndexes_8 : decode cX3_findIndexes 8 = .ok (.iconst 0, 1) := by decide +kernel
theorem dX3_findIndexes_9 : decode cX3_findIndexes 9 = .ok (.invokevirtual 106, 3) := by decide +kernel
theorem dX3_findIndexes_12 : decode cX3_findIndexes 12 = .ok (.ifCond .eq 7, 3) := by decide +kernel
theorem dX3_findIndexes_15 : decode cX3_findIndexes 15 = .ok (.aload_n 1, 1) := by decide +kernel
theorem dX3_findIndexes_16 : decode cX3_findIndexes 16 = .ok (.iconst 0, 1) := by decide +kernel
theorem dX3_findIndexes_17 : decode cX3_findIndexes 17 = .ok (.iconst 1, 1) := by decide +kernel
theorem dX3_findIndexes_18 : decode cX3_findIndexes 18 = .ok (.bastore, 1) := by decide +kernel
theorem dX3_findIndexes_19 : decode cX3_findIndexes 19 = .ok (.iconst 0, 1) := by decide +kernel
theorem dX3_findIndexes_20 : decode cX3_findIndexes 20 = .ok (.istore_n 2, 1) := by decide +kernel
theorem dX3_findIndexes_21 : decode cX3_findIndexes 21 = .ok (.iload_n 2, 1) := by decide +kernel
theorem dX3_findIndexes_22 : decode cX3_findIndexes 22 = .ok (.aload_n 0, 1) := by decide +kernel
theorem dX3_findIndexes_23 : decode cX3_findIndexes 23 = .ok (.getfield 19, 3) := by decide +kernel
theorem dX3_findIndexes_26 : decode cX3_findIndexes 26 = .ok (.if_icmp .ge 43, 3) := by decide +kernel
theorem dX3_findIndexes_29 : decode cX3_findIndexes 29 = .ok (.iconst 0, 1) := by decide +kernel
theorem dX3_findIndexes_30 : decode cX3_findIndexes 30 = .ok (.istore_n 3, 1) := by decide +kernel
theorem dX3_findIndexes_31 : decode cX3_findIndexes 31 = .ok (.iload_n 3, 1) := by decide +kernel
theorem dX3_findIndexes_32 : decode cX3_findIndexes 32 = .ok (.aload_n 0, 1) := by decide +kernel
theorem dX3_findIndexes_33 : decode cX3_findIndexes 33 = .ok (.getfield 39, 3) := by decide +kernel
theorem dX3_findIndexes_36 : decode cX3_findIndexes 36 = .ok (.arraylength, 1) := by decide +kernel
theorem dX3_findIndexes_37 : decode cX3_findIndexes 37 = .ok (.if_icmp .ge 26, 3) := by decide +kernel
theorem dX3_findIndexes_40 : decode cX3_findIndexes 40 = .ok (.aload_n 0, 1) := by decide +kernel
theorem dX3_findIndexes_41 : decode cX3_findIndexes 41 = .ok (.aload_n 0, 1) := by decide +kernel
theorem dX3_findIndexes_42 : decode cX3_findIndexes 42 = .ok (.getfield 39, 3) := by decide +kernel
theorem dX3_findIndexes_45 : decode cX3_findIndexes 45 = .ok (.iload_n 3, 1) := by decide +kernel
theorem dX3_findIndexes_46 : decode cX3_findIndexes 46 = .ok (.iaload, 1) := by decide +kernel
theorem dX3_findIndexes_47 : decode cX3_findIndexes 47 = .ok (.aload_n 0, 1) := by decide +kernel
theorem dX3_findIndexes_48 : decode cX3_findIndexes 48 = .ok (.getfield 42, 3) := by decide +kernel
theorem dX3_findIndexes_51 : decode cX3_findIndexes 51 = .ok (.iload_n 3, 1) := by decide +kernel
theorem dX3_findIndexes_52 : decode cX3_findIndexes 52 = .ok (.iaload, 1) := by decide +kernel
theorem dX3_findIndexes_53 : decode cX3_findIndexes 53 = .ok (.aload_n 1, 1) := by decide +kernel
theorem dX3_findIndexes_54 : decode cX3_findIndexes 54 = .ok (.invokevirtual 109, 3) := by decide +kernel
theorem dX3_findIndexes_57 : decode cX3_findIndexes 57 = .ok (.iinc 3 1, 3) := by decide +kernel
theorem dX3_findIndexes_60 : decode cX3_findIndexes 60 = .ok (.goto (-29), 3) := by decide +kernel
theorem dX3_findIndexes_63 : decode cX3_findIndexes 63 = .ok (.iinc 2 1, 3) := by decide +kernel
theorem dX3_findIndexes_66 : decode cX3_findIndexes 66 = .ok (.goto (-45), 3) := by decide +kernel
theorem dX3_findIndexes_69 : decode cX3_findIndexes 69 = .ok (.return_, 1) := by decide +kernel
theorem dX3_findIndexAcross_0 : decode cX3_findIndexAcross 0 = .ok (.aload_n 0, 1) := by decide +kernel
theorem dX3_findIndexAcross_1 : decode cX3_findIndexAcross 1 = .ok (.iload_n 1, 1) := by decide +kernel
theorem dX3_findIndexAcross_2 : decode cX3_findIndexAcross 2 = .ok (.invokevirtual 106, 3) := by decide +kernel
theorem dX3_findIndexAcross_5 : decode cX3_findIndexAcross 5 = .ok (.ifCond .eq 11, 3) := by decide +kernel
theorem dX3_findIndexAcross_8 : decode cX3_findIndexAcross 8 = .ok (.aload_n 0, 1) := by decide +kernel
theorem dX3_findIndexAcross_9 : decode cX3_findIndexAcross 9 = .ok (.iload_n 2, 1) := by decide +kernel
theorem dX3_findIndexAcross_10 : decode cX3_findIndexAcross 10 = .ok (.invokevirtual 106, 3) := by decide +kernel
theorem dX3_findIndexAcross_13 : decode cX3_findIndexAcross 13 = .ok (.ifCond .ne 4, 3) := by decide +kernel
theorem dX3_findIndexAcross_16 : decode cX3_findIndexAcross 16 = .ok (.return_, 1) := by decide +kernel
theorem dX3_findIndexAcross_17 : decode cX3_findIndexAcross 17 = .ok (.aload_n 3, 1) := by decide +kernel
theorem dX3_findIndexAcross_18 : decode cX3_findIndexAcross 18 = .ok (.iload_n 1, 1) := by decide +kernel
theorem dX3_findIndexAcross_19 : decode cX3_findIndexAcross 19 = .ok (.baload, 1) := by decide +kernel
theorem dX3_findIndexAcross_20 : decode cX3_findIndexAcross 20 = .ok (.ifCond .eq 30, 3) := by decide +kernel
theorem dX3_findIndexAcross_23 : decode cX3_findIndexAcross 23 = .ok (.aload_n 3, 1) := by decide +kernel
theorem dX3_findIndexAcross_24 : decode cX3_findIndexAcross 24 = .ok (.iload_n 2, 1) := by decide +kernel
theorem dX3_findIndexAcross_25 : decode cX3_findIndexAcross 25 = .ok (.baload, 1) := by decide +kernel
theorem dX3_findIndexAcross_26 : decode cX3_findIndexAcross 26 = .ok (.ifCond .ne 24, 3) := by decide +kernel
theorem dX3_findIndexAcross_29 : decode cX3_findIndexAcross 29 = .ok (.aload_n 0, 1) := by decide +kernel
theorem dX3_findIndexAcross_30 : decode cX3_findIndexAcross 30 = .ok (.getfield 45, 3) := by decide +kernel
theorem dX3_findIndexAcross_33 : decode cX3_findIndexAcross 33 = .ok (.iload_n 2, 1) := by decide +kernel
theorem dX3_findIndexAcross_34 : decode cX3_findIndexAcross 34 = .ok (.aload_n 0, 1) := by decide +kernel
theorem dX3_findIndexAcross_35 : decode cX3_findIndexAcross 35 = .ok (.getfield 45, 3) := by decide +kernel
theorem dX3_findIndexAcross_38 : decode cX3_findIndexAcross 38 = .ok (.iload_n 1, 1) := by decide +kernel
theorem dX3_findIndexAcross_39 : decode cX3_findIndexAcross 39 = .ok (.iaload, 1) := by decide +kernel
theorem dX3_findIndexAcross_40 : decode cX3_findIndexAcross 40 = .ok (.iconst 1, 1) := by decide +kernel
theorem dX3_findIndexAcross_41 : decode cX3_findIndexAcross 41 = .ok (.isub, 1) := by decide +kernel
theorem dX3_findIndexAcross_42 : decode cX3_findIndexAcross 42 = .ok (.iastore, 1) := by decide +kernel
theorem dX3_findIndexAcross_43 : decode cX3_findIndexAcross 43 = .ok (.aload_n 3, 1) := by decide +kernel
theorem dX3_findIndexAcross_44 : decode cX3_findIndexAcross 44 = .ok (.iload_n 2, 1) := by decide +kernel
theorem dX3_findIndexAcross_45 : decode cX3_findIndexAcross 45 = .ok (.iconst 1, 1) := by decide +kernel
theorem dX3_findIndexAcross_46 : decode cX3_findIndexAcross 46 = .ok (.bastore, 1) := by decide +kernel
theorem dX3_findIndexAcross_47 : decode cX3_findIndexAcross 47 = .ok (.goto 33, 3) := by decide +kernel
theorem dX3_findIndexAcross_50 : decode cX3_findIndexAcross 50 = .ok (.aload_n 3, 1) := by decide +kernel
theorem dX3_findIndexAcross_51 : decode cX3_findIndexAcross 51 = .ok (.iload_n 2, 1) := by decide +kernel
theorem dX3_findIndexAcross_52 : decode cX3_findIndexAcross 52 = .ok (.baload, 1) := by decide +kernel
theorem dX3_findIndexAcross_53 : decode cX3_findIndexAcross 53 = .ok (.ifCond .eq 27, 3) := by decide +kernel
theorem dX3_findIndexAcross_56 : decode cX3_findIndexAcross 56 = .ok (.aload_n 3, 1) := by decide +kernel
theorem dX3_findIndexAcross_57 : decode cX3_findIndexAcross 57 = .ok (.iload_n 1, 1) := by decide +kernel
theorem dX3_findIndexAcross_58 : decode cX3_findIndexAcross 58 = .ok (.baload, 1) := by decide +kernel
theorem dX3_findIndexAcross_59 : decode cX3_findIndexAcross 59 = .ok (.ifCond .ne 21, 3) := by decide +kernel
theorem dX3_findIndexAcross_62 : decode cX3_findIndexAcross 62 = .ok (.aload_n 0, 1) := by decide +kernel
theorem dX3_findIndexAcross_63 : decode cX3_findIndexAcross 63 = .ok (.getfield 45, 3) := by decide +kernel
theorem dX3_findIndexAcross_66 : decode cX3_findIndexAcross 66 = .ok (.iload_n 1, 1) := by decide +kernel
theorem dX3_findIndexAcross_67 : decode cX3_findIndexAcross 67 = .ok (.aload_n 0, 1) := by decide +kernel
theorem dX3_findIndexAcross_68 : decode cX3_findIndexAcross 68 = .ok (.getfield 45, 3) := by decide +kernel
theorem dX3_findIndexAcross_71 : decode cX3_findIndexAcross 71 = .ok (.iload_n 2, 1) := by decide +kernel
theorem dX3_findIndexAcross_72 : decode cX3_findIndexAcross 72 = .ok (.iaload, 1) := by decide +kernel
theorem dX3_findIndexAcross_73 : decode cX3_findIndexAcross 73 = .ok (.iconst 1, 1) := by decide +kernel
theorem dX3_findIndexAcross_74 : decode cX3_findIndexAcross 74 = .ok (.iadd, 1) := by decide +kernel
theorem dX3_findIndexAcross_75 : decode cX3_findIndexAcross 75 = .ok (.iastore, 1) := by decide +kernel
theorem dX3_findIndexAcross_76 : decode cX3_findIndexAcross 76 = .ok (.aload_n 3, 1) := by decide +kernel
theorem dX3_findIndexAcross_77 : decode cX3_findIndexAcross 77 = .ok (.iload_n 1, 1) := by decide +kernel
theorem dX3_findIndexAcross_78 : decode cX3_findIndexAcross 78 = .ok (.iconst 1, 1) := by decide +kernel
theorem dX3_findIndexAcross_79 : decode cX3_findIndexAcross 79 = .ok (.bastore, 1) := by decide +kernel
theorem dX3_findIndexAcross_80 : decode cX3_findIndexAcross 80 = .ok (.return_, 1) := by decide +kernel
theorem dX3_count_0 : decode cX3_count 0 = .ok (.aload_n 0, 1) := by decide +kernel
theorem dX3_count_1 : decode cX3_count 1 = .ok (.getfield 19, 3) := by decide +kernel
theorem dX3_count_4 : decode cX3_count 4 = .ok (.ireturn, 1) := by decide +kernel
theorem dX3_handles_0 : decode cX3_handles 0 = .ok (.aload_n 0, 1) := by decide +kernel
theorem dX3_handles_1 : decode cX3_handles 1 = .ok (.getfield 9, 3) := by decide +kernel
theorem dX3_handles_4 : decode cX3_handles 4 = .ok (.invokevirtual 23, 3) := by decide +kernel
theorem dX3_handles_7 : decode cX3_handles 7 = .ok (.iconst 2, 1) := by decide +kernel
theorem dX3_handles_8 : decode cX3_handles 8 = .ok (.iadd, 1) := by decide +kernel
theorem dX3_handles_9 : decode cX3_handles 9 = .ok (.aload_n 0, 1) := by decide +kernel
theorem dX3_handles_10 : decode cX3_handles 10 = .ok (.getfield 19, 3) := by decide +kernel
theorem dX3_handles_13 : decode cX3_handles 13 = .ok (.isub, 1) := by decide +kernel
theorem dX3_handles_14 : decode cX3_handles 14 = .ok (.iconst 2, 1) := by decide +kernel
theorem dX3_handles_15 : decode cX3_handles 15 = .ok (.idiv, 1) := by decide +kernel
theorem dX3_handles_16 : decode cX3_handles 16 = .ok (.ireturn, 1) := by decide +kernel
theorem dX3_isPlane_0 : decode cX3_isPlane 0 = .ok (.aload_n 0, 1) := by decide +kernel
theorem dX3_isPlane_1 : decode cX3_isPlane 1 = .ok (.getfield 48, 3) := by decide +kernel
theorem dX3_isPlane_4 : decode cX3_isPlane 4 = .ok (.ireturn, 1) := by decide +kernel
theorem dX3_hasFace_0 : decode cX3_hasFace 0 = .ok (.iload_n 1, 1) := by decide +kernel
theorem dX3_hasFace_1 : decode cX3_hasFace 1 = .ok (.ifCond .lt 15, 3) := by decide +kernel
theorem dX3_hasFace_4 : decode cX3_hasFace 4 = .ok (.iload_n 1, 1) := by decide +kernel
theorem dX3_hasFace_5 : decode cX3_hasFace 5 = .ok (.aload_n 0, 1) := by decide +kernel
theorem dX3_hasFace_6 : decode cX3_hasFace 6 = .ok (.getfield 19, 3) := by decide +kernel
theorem dX3_hasFace_9 : decode cX3_hasFace 9 = .ok (.if_icmp .ge 7, 3) := by decide +kernel
theorem dX3_hasFace_12 : decode cX3_hasFace 12 = .ok (.iconst 1, 1) := by decide +kernel
theorem dX3_hasFace_13 : decode cX3_hasFace 13 = .ok (.goto 4, 3) := by decide +kernel
theorem dX3_hasFace_16 : decode cX3_hasFace 16 = .ok (.iconst 0, 1) := by decide +kernel
theorem dX3_hasFace_17 : decode cX3_hasFace 17 = .ok (.ireturn, 1) := by decide +kernel
theorem dX3_faceOf_0 : decode cX3_faceOf 0 = .ok (.iload_n 1, 1) := by decide +kernel
theorem dX3_faceOf_1 : decode cX3_faceOf 1 = .ok (.iload_n 2, 1) := by decide +kernel
theorem dX3_faceOf_2 : decode cX3_faceOf 2 = .ok (.invokestatic 82, 3) := by decide +kernel
theorem dX3_faceOf_5 : decode cX3_faceOf 5 = .ok (.istore_n 3, 1) := by decide +kernel
theorem dX3_faceOf_6 : decode cX3_faceOf 6 = .ok (.iload_n 3, 1) := by decide +kernel
theorem dX3_faceOf_7 : decode cX3_faceOf 7 = .ok (.ifCond .lt 21, 3) := by decide +kernel
theorem dX3_faceOf_10 : decode cX3_faceOf 10 = .ok (.iload_n 3, 1) := by decide +kernel
theorem dX3_faceOf_11 : decode cX3_faceOf 11 = .ok (.aload_n 0, 1) := by decide +kernel
theorem dX3_faceOf_12 : decode cX3_faceOf 12 = .ok (.getfield 29, 3) := by decide +kernel
theorem dX3_faceOf_15 : decode cX3_faceOf 15 = .ok (.arraylength, 1) := by decide +kernel
theorem dX3_faceOf_16 : decode cX3_faceOf 16 = .ok (.if_icmp .ge 12, 3) := by decide +kernel
theorem dX3_faceOf_19 : decode cX3_faceOf 19 = .ok (.aload_n 0, 1) := by decide +kernel
theorem dX3_faceOf_20 : decode cX3_faceOf 20 = .ok (.getfield 29, 3) := by decide +kernel
theorem dX3_faceOf_23 : decode cX3_faceOf 23 = .ok (.iload_n 3, 1) := by decide +kernel
theorem dX3_faceOf_24 : decode cX3_faceOf 24 = .ok (.iaload, 1) := by decide +kernel
theorem dX3_faceOf_25 : decode cX3_faceOf 25 = .ok (.goto 4, 3) := by decide +kernel
theorem dX3_faceOf_28 : decode cX3_faceOf 28 = .ok (.iconst 0, 1) := by decide +kernel
theorem dX3_faceOf_29 : decode cX3_faceOf 29 = .ok (.ireturn, 1) := by decide +kernel
theorem dX3_sizeOf_0 : decode cX3_sizeOf 0 = .ok (.aload_n 0, 1) := by decide +kernel
theorem dX3_sizeOf_1 : decode cX3_sizeOf 1 = .ok (.iload_n 1, 1) := by decide +kernel
theorem dX3_sizeOf_2 : decode cX3_sizeOf 2 = .ok (.invokevirtual 106, 3) := by decide +kernel
theorem dX3_sizeOf_5 : decode cX3_sizeOf 5 = .ok (.ifCond .eq 12, 3) := by decide +kernel
theorem dX3_sizeOf_8 : decode cX3_sizeOf 8 = .ok (.aload_n 0, 1) := by decide +kernel
theorem dX3_sizeOf_9 : decode cX3_sizeOf 9 = .ok (.getfield 33, 3) := by decide +kernel
theorem dX3_sizeOf_12 : decode cX3_sizeOf 12 = .ok (.iload_n 1, 1) := by decide +kernel
theorem dX3_sizeOf_13 : decode cX3_sizeOf 13 = .ok (.iaload, 1) := by decide +kernel
theorem dX3_sizeOf_14 : decode cX3_sizeOf 14 = .ok (.goto 4, 3) := by decide +kernel
theorem dX3_sizeOf_17 : decode cX3_sizeOf 17 = .ok (.iconst 0, 1) := by decide +kernel
theorem dX3_sizeOf_18 : decode cX3_sizeOf 18 = .ok (.ireturn, 1) := by decide +kernel
theorem dX3_countOfSize_0 : decode cX3_countOfSize 0 = .ok (.iconst 0, 1) := by decide +kernel
theorem dX3_countOfSize_1 : decode cX3_countOfSize 1 = .ok (.istore_n 2, 1) := by decide +kernel
theorem dX3_countOfSize_2 : decode cX3_countOfSize 2 = .ok (.iconst 0, 1) := by decide +kernel
theorem dX3_countOfSize_3 : decode cX3_countOfSize 3 = .ok (.istore_n 3, 1) := by decide +kernel
theorem dX3_countOfSize_4 : decode cX3_countOfSize 4 = .ok (.iload_n 3, 1) := by decide +kernel
theorem dX3_countOfSize_5 : decode cX3_countOfSize 5 = .ok (.aload_n 0, 1) := by decide +kernel
theorem dX3_countOfSize_6 : decode cX3_countOfSize 6 = .ok (.getfield 19, 3) := by decide +kernel
theorem dX3_countOfSize_9 : decode cX3_countOfSize 9 = .ok (.if_icmp .ge 22, 3) := by decide +kernel
theorem dX3_countOfSize_12 : decode cX3_countOfSize 12 = .ok (.aload_n 0, 1) := by decide +kernel
theorem dX3_countOfSize_13 : decode cX3_countOfSize 13 = .ok (.getfield 33, 3) := by decide +kernel
theorem dX3_countOfSize_16 : decode cX3_countOfSize 16 = .ok (.iload_n 3, 1) := by decide +kernel
theorem dX3_countOfSize_17 : decode cX3_countOfSize 17 = .ok (.iaload, 1) := by decide +kernel
theorem dX3_countOfSize_18 : decode cX3_countOfSize 18 = .ok (.iload_n 1, 1) := by decide +kernel
theorem dX3_countOfSize_19 : decode cX3_countOfSize 19 = .ok (.if_icmp .ne 6, 3) := by decide +kernel
theorem dX3_countOfSize_22 : decode cX3_countOfSize 22 = .ok (.iinc 2 1, 3) := by decide +kernel
theorem dX3_countOfSize_25 : decode cX3_countOfSize 25 = .ok (.iinc 3 1, 3) := by decide +kernel
theorem dX3_countOfSize_28 : decode cX3_countOfSize 28 = .ok (.goto (-24), 3) := by decide +kernel
theorem dX3_countOfSize_31 : decode cX3_countOfSize 31 = .ok (.iload_n 2, 1) := by decide +kernel
theorem dX3_countOfSize_32 : decode cX3_countOfSize 32 = .ok (.ireturn, 1) := by decide +kernel
theorem dX3_indexOf_0 : decode cX3_indexOf 0 = .ok (.aload_n 0, 1) := by decide +kernel
theorem dX3_indexOf_1 : decode cX3_indexOf 1 = .ok (.iload_n 1, 1) := by decide +kernel
theorem dX3_indexOf_2 : decode cX3_indexOf 2 = .ok (.invokevirtual 106, 3) := by decide +kernel
theorem dX3_indexOf_5 : decode cX3_indexOf 5 = .ok (.ifCond .eq 12, 3) := by decide +kernel
theorem dX3_indexOf_8 : decode cX3_indexOf 8 = .ok (.aload_n 0, 1) := by decide +kernel
theorem dX3_indexOf_9 : decode cX3_indexOf 9 = .ok (.getfield 45, 3) := by decide +kernel
theorem dX3_indexOf_12 : decode cX3_indexOf 12 = .ok (.iload_n 1, 1) := by decide +kernel
theorem dX3_indexOf_13 : decode cX3_indexOf 13 = .ok (.iaload, 1) := by decide +kernel
theorem dX3_indexOf_14 : decode cX3_indexOf 14 = .ok (.goto 4, 3) := by decide +kernel
theorem dX3_indexOf_17 : decode cX3_indexOf 17 = .ok (.iconst 0, 1) := by decide +kernel
theorem dX3_indexOf_18 : decode cX3_indexOf 18 = .ok (.ireturn, 1) := by decide +kernel
theorem dX3_isDark_0 : decode cX3_isDark 0 = .ok (.aload_n 0, 1) := by decide +kernel
theorem dX3_isDark_1 : decode cX3_isDark 1 = .ok (.iload_n 1, 1) := by decide +kernel
theorem dX3_isDark_2 : decode cX3_isDark 2 = .ok (.invokevirtual 113, 3) := by decide +kernel
theorem dX3_isDark_5 : decode cX3_isDark 5 = .ok (.aload_n 0, 1) := by decide +kernel
theorem dX3_isDark_6 : decode cX3_isDark 6 = .ok (.aload_n 0, 1) := by decide +kernel
theorem dX3_isDark_7 : decode cX3_isDark 7 = .ok (.getfield 39, 3) := by decide +kernel
theorem dX3_isDark_10 : decode cX3_isDark 10 = .ok (.iconst 0, 1) := by decide +kernel
theorem dX3_isDark_11 : decode cX3_isDark 11 = .ok (.iaload, 1) := by decide +kernel
theorem dX3_isDark_12 : decode cX3_isDark 12 = .ok (.invokevirtual 113, 3) := by decide +kernel
theorem dX3_isDark_15 : decode cX3_isDark 15 = .ok (.isub, 1) := by decide +kernel
theorem dX3_isDark_16 : decode cX3_isDark 16 = .ok (.invokestatic 116, 3) := by decide +kernel
theorem dX3_isDark_19 : decode cX3_isDark 19 = .ok (.ireturn, 1) := by decide +kernel
theorem dX3_middle_0 : decode cX3_middle 0 = .ok (.iconst 0, 1) := by decide +kernel
theorem dX3_middle_1 : decode cX3_middle 1 = .ok (.istore_n 2, 1) := by decide +kernel
theorem dX3_middle_2 : decode cX3_middle 2 = .ok (.iconst 0, 1) := by decide +kernel
theorem dX3_middle_3 : decode cX3_middle 3 = .ok (.istore_n 3, 1) := by decide +kernel
theorem dX3_middle_4 : decode cX3_middle 4 = .ok (.iload_n 3, 1) := by decide +kernel
theorem dX3_middle_5 : decode cX3_middle 5 = .ok (.iconst 4, 1) := by decide +kernel
theorem dX3_middle_6 : decode cX3_middle 6 = .ok (.if_icmp .ge 22, 3) := by decide +kernel
theorem dX3_middle_9 : decode cX3_middle 9 = .ok (.iload_n 2, 1) := by decide +kernel
theorem dX3_middle_10 : decode cX3_middle 10 = .ok (.aload_n 0, 1) := by decide +kernel
theorem dX3_middle_11 : decode cX3_middle 11 = .ok (.aload_n 0, 1) := by decide +kernel
theorem dX3_middle_12 : decode cX3_middle 12 = .ok (.iload_n 1, 1) := by decide +kernel
theorem dX3_middle_13 : decode cX3_middle 13 = .ok (.iload_n 3, 1) := by decide +kernel
theorem dX3_middle_14 : decode cX3_middle 14 = .ok (.invokevirtual 103, 3) := by decide +kernel
theorem dX3_middle_17 : decode cX3_middle 17 = .ok (.invokevirtual 113, 3) := by decide +kernel
theorem dX3_middle_20 : decode cX3_middle 20 = .ok (.iadd, 1) := by decide +kernel
theorem dX3_middle_21 : decode cX3_middle 21 = .ok (.istore_n 2, 1) := by decide +kernel
theorem dX3_middle_22 : decode cX3_middle 22 = .ok (.iinc 3 1, 3) := by decide +kernel
theorem dX3_middle_25 : decode cX3_middle 25 = .ok (.goto (-21), 3) := by decide +kernel
theorem dX3_middle_28 : decode cX3_middle 28 = .ok (.iload_n 2, 1) := by decide +kernel
theorem dX3_middle_29 : decode cX3_middle 29 = .ok (.iconst 4, 1) := by decide +kernel
theorem dX3_middle_30 : decode cX3_middle 30 = .ok (.idiv, 1) := by decide +kernel
theorem dX3_middle_31 : decode cX3_middle 31 = .ok (.ireturn, 1) := by decide +kernel
theorem dX3_turnsAround_0 : decode cX3_turnsAround 0 = .ok (.bipush (-2), 2) := by decide +kernel
theorem dX3_turnsAround_2 : decode cX3_turnsAround 2 = .ok (.aload_n 0, 1) := by decide +kernel
theorem dX3_turnsAround_3 : decode cX3_turnsAround 3 = .ok (.iload_n 1, 1) := by decide +kernel
theorem dX3_turnsAround_4 : decode cX3_turnsAround 4 = .ok (.invokevirtual 113, 3) := by decide +kernel
theorem dX3_turnsAround_7 : decode cX3_turnsAround 7 = .ok (.imul, 1) := by decide +kernel
theorem dX3_turnsAround_8 : decode cX3_turnsAround 8 = .ok (.istore_n 2, 1) := by decide +kernel
theorem dX3_turnsAround_9 : decode cX3_turnsAround 9 = .ok (.iconst 0, 1) := by decide +kernel
theorem dX3_turnsAround_10 : decode cX3_turnsAround 10 = .ok (.istore_n 3, 1) := by decide +kernel
theorem dX3_turnsAround_11 : decode cX3_turnsAround 11 = .ok (.iload_n 3, 1) := by decide +kernel
theorem dX3_turnsAround_12 : decode cX3_turnsAround 12 = .ok (.aload_n 0, 1) := by decide +kernel
theorem dX3_turnsAround_13 : decode cX3_turnsAround 13 = .ok (.getfield 19, 3) := by decide +kernel
theorem dX3_turnsAround_16 : decode cX3_turnsAround 16 = .ok (.if_icmp .ge 18, 3) := by decide +kernel
theorem dX3_turnsAround_19 : decode cX3_turnsAround 19 = .ok (.iload_n 2, 1) := by decide +kernel
theorem dX3_turnsAround_20 : decode cX3_turnsAround 20 = .ok (.aload_n 0, 1) := by decide +kernel
theorem dX3_turnsAround_21 : decode cX3_turnsAround 21 = .ok (.getfield 45, 3) := by decide +kernel
theorem dX3_turnsAround_24 : decode cX3_turnsAround 24 = .ok (.iload_n 3, 1) := by decide +kernel
theorem dX3_turnsAround_25 : decode cX3_turnsAround 25 = .ok (.iaload, 1) := by decide +kernel
theorem dX3_turnsAround_26 : decode cX3_turnsAround 26 = .ok (.iadd, 1) := by decide +kernel
theorem dX3_turnsAround_27 : decode cX3_turnsAround 27 = .ok (.istore_n 2, 1) := by decide +kernel
theorem dX3_turnsAround_28 : decode cX3_turnsAround 28 = .ok (.iinc 3 1, 3) := by decide +kernel
theorem dX3_turnsAround_31 : decode cX3_turnsAround 31 = .ok (.goto (-20), 3) := by decide +kernel
theorem dX3_turnsAround_34 : decode cX3_turnsAround 34 = .ok (.iconst 0, 1) := by decide +kernel
theorem dX3_turnsAround_35 : decode cX3_turnsAround 35 = .ok (.istore_n 3, 1) := by decide +kernel
theorem dX3_turnsAround_36 : decode cX3_turnsAround 36 = .ok (.iload_n 3, 1) := by decide +kernel
theorem dX3_turnsAround_37 : decode cX3_turnsAround 37 = .ok (.aload_n 0, 1) := by decide +kernel
theorem dX3_turnsAround_38 : decode cX3_turnsAround 38 = .ok (.getfield 9, 3) := by decide +kernel
theorem dX3_turnsAround_41 : decode cX3_turnsAround 41 = .ok (.invokevirtual 23, 3) := by decide +kernel
theorem dX3_turnsAround_44 : decode cX3_turnsAround 44 = .ok (.if_icmp .ge 17, 3) := by decide +kernel
theorem dX3_turnsAround_47 : decode cX3_turnsAround 47 = .ok (.iload_n 2, 1) := by decide +kernel
theorem dX3_turnsAround_48 : decode cX3_turnsAround 48 = .ok (.aload_n 0, 1) := by decide +kernel
theorem dX3_turnsAround_49 : decode cX3_turnsAround 49 = .ok (.iload_n 3, 1) := by decide +kernel
theorem dX3_turnsAround_50 : decode cX3_turnsAround 50 = .ok (.invokevirtual 119, 3) := by decide +kernel
theorem dX3_turnsAround_53 : decode cX3_turnsAround 53 = .ok (.isub, 1) := by decide +kernel
theorem dX3_turnsAround_54 : decode cX3_turnsAround 54 = .ok (.istore_n 2, 1) := by decide +kernel
theorem dX3_turnsAround_55 : decode cX3_turnsAround 55 = .ok (.iinc 3 1, 3) := by decide +kernel
theorem dX3_turnsAround_58 : decode cX3_turnsAround 58 = .ok (.goto (-22), 3) := by decide +kernel
theorem dX3_turnsAround_61 : decode cX3_turnsAround 61 = .ok (.iload_n 2, 1) := by decide +kernel
theorem dX3_turnsAround_62 : decode cX3_turnsAround 62 = .ok (.ireturn, 1) := by decide +kernel
theorem dX3_trees_0 : decode cX3_trees 0 = .ok (.aload_n 0, 1) := by decide +kernel
theorem dX3_trees_1 : decode cX3_trees 1 = .ok (.getfield 48, 3) := by decide +kernel
theorem dX3_trees_4 : decode cX3_trees 4 = .ok (.ifCond .ne 5, 3) := by decide +kernel
theorem dX3_trees_7 : decode cX3_trees 7 = .ok (.iconst (-1), 1) := by decide +kernel
theorem dX3_trees_8 : decode cX3_trees 8 = .ok (.ireturn, 1) := by decide +kernel
theorem dX3_trees_9 : decode cX3_trees 9 = .ok (.aload_n 0, 1) := by decide +kernel
theorem dX3_trees_10 : decode cX3_trees 10 = .ok (.iload_n 1, 1) := by decide +kernel
theorem dX3_trees_11 : decode cX3_trees 11 = .ok (.invokevirtual 122, 3) := by decide +kernel
theorem dX3_trees_14 : decode cX3_trees 14 = .ok (.iconst 1, 1) := by decide +kernel
theorem dX3_trees_15 : decode cX3_trees 15 = .ok (.isub, 1) := by decide +kernel
theorem dX3_trees_16 : decode cX3_trees 16 = .ok (.istore_n 3, 1) := by decide +kernel
theorem dX3_trees_17 : decode cX3_trees 17 = .ok (.iconst 0, 1) := by decide +kernel
theorem dX3_trees_18 : decode cX3_trees 18 = .ok (.istore 4, 2) := by decide +kernel
theorem dX3_trees_20 : decode cX3_trees 20 = .ok (.iconst 0, 1) := by decide +kernel
theorem dX3_trees_21 : decode cX3_trees 21 = .ok (.istore 5, 2) := by decide +kernel
theorem dX3_trees_23 : decode cX3_trees 23 = .ok (.iload 5, 2) := by decide +kernel
theorem dX3_trees_25 : decode cX3_trees 25 = .ok (.iconst 1, 1) := by decide +kernel
theorem dX3_trees_26 : decode cX3_trees 26 = .ok (.aload_n 0, 1) := by decide +kernel
theorem dX3_trees_27 : decode cX3_trees 27 = .ok (.getfield 9, 3) := by decide +kernel
theorem dX3_trees_30 : decode cX3_trees 30 = .ok (.invokevirtual 23, 3) := by decide +kernel
theorem dX3_trees_33 : decode cX3_trees 33 = .ok (.ishl, 1) := by decide +kernel
theorem dX3_trees_34 : decode cX3_trees 34 = .ok (.if_icmp .ge 38, 3) := by decide +kernel
theorem dX3_trees_37 : decode cX3_trees 37 = .ok (.iload 5, 2) := by decide +kernel
theorem dX3_trees_39 : decode cX3_trees 39 = .ok (.invokestatic 126, 3) := by decide +kernel
theorem dX3_trees_42 : decode cX3_trees 42 = .ok (.iload_n 3, 1) := by decide +kernel
theorem dX3_trees_43 : decode cX3_trees 43 = .ok (.if_icmp .ne 23, 3) := by decide +kernel
theorem dX3_trees_46 : decode cX3_trees 46 = .ok (.aload_n 0, 1) := by decide +kernel
theorem dX3_trees_47 : decode cX3_trees 47 = .ok (.iload 5, 2) := by decide +kernel
theorem dX3_trees_49 : decode cX3_trees 49 = .ok (.iload_n 1, 1) := by decide +kernel
theorem dX3_trees_50 : decode cX3_trees 50 = .ok (.aload_n 2, 1) := by decide +kernel
theorem dX3_trees_51 : decode cX3_trees 51 = .ok (.invokevirtual 131, 3) := by decide +kernel
theorem dX3_trees_54 : decode cX3_trees 54 = .ok (.aload_n 0, 1) := by decide +kernel
theorem dX3_trees_55 : decode cX3_trees 55 = .ok (.getfield 19, 3) := by decide +kernel
theorem dX3_trees_58 : decode cX3_trees 58 = .ok (.iload_n 3, 1) := by decide +kernel
theorem dX3_trees_59 : decode cX3_trees 59 = .ok (.isub, 1) := by decide +kernel
theorem dX3_trees_60 : decode cX3_trees 60 = .ok (.if_icmp .ne 6, 3) := by decide +kernel
theorem dX3_trees_63 : decode cX3_trees 63 = .ok (.iinc 4 1, 3) := by decide +kernel
theorem dX3_trees_66 : decode cX3_trees 66 = .ok (.iinc 5 1, 3) := by decide +kernel
theorem dX3_trees_69 : decode cX3_trees 69 = .ok (.goto (-46), 3) := by decide +kernel
theorem dX3_trees_72 : decode cX3_trees 72 = .ok (.iload 4, 2) := by decide +kernel
theorem dX3_trees_74 : decode cX3_trees 74 = .ok (.ireturn, 1) := by decide +kernel
theorem dX3_countOfKind_0 : decode cX3_countOfKind 0 = .ok (.iconst 0, 1) := by decide +kernel
theorem dX3_countOfKind_1 : decode cX3_countOfKind 1 = .ok (.istore_n 2, 1) := by decide +kernel
theorem dX3_countOfKind_2 : decode cX3_countOfKind 2 = .ok (.iconst 0, 1) := by decide +kernel
theorem dX3_countOfKind_3 : decode cX3_countOfKind 3 = .ok (.istore_n 3, 1) := by decide +kernel
theorem dX3_countOfKind_4 : decode cX3_countOfKind 4 = .ok (.iload_n 3, 1) := by decide +kernel
theorem dX3_countOfKind_5 : decode cX3_countOfKind 5 = .ok (.aload_n 0, 1) := by decide +kernel
theorem dX3_countOfKind_6 : decode cX3_countOfKind 6 = .ok (.getfield 19, 3) := by decide +kernel
theorem dX3_countOfKind_9 : decode cX3_countOfKind 9 = .ok (.if_icmp .ge 21, 3) := by decide +kernel
theorem dX3_countOfKind_12 : decode cX3_countOfKind 12 = .ok (.aload_n 0, 1) := by decide +kernel
theorem dX3_countOfKind_13 : decode cX3_countOfKind 13 = .ok (.iload_n 3, 1) := by decide +kernel
theorem dX3_countOfKind_14 : decode cX3_countOfKind 14 = .ok (.invokevirtual 135, 3) := by decide +kernel
theorem dX3_countOfKind_17 : decode cX3_countOfKind 17 = .ok (.iload_n 1, 1) := by decide +kernel
theorem dX3_countOfKind_18 : decode cX3_countOfKind 18 = .ok (.if_icmp .ne 6, 3) := by decide +kernel
theorem dX3_countOfKind_21 : decode cX3_countOfKind 21 = .ok (.iinc 2 1, 3) := by decide +kernel
theorem dX3_countOfKind_24 : decode cX3_countOfKind 24 = .ok (.iinc 3 1, 3) := by decide +kernel
theorem dX3_countOfKind_27 : decode cX3_countOfKind 27 = .ok (.goto (-23), 3) := by decide +kernel
theorem dX3_countOfKind_30 : decode cX3_countOfKind 30 = .ok (.iload_n 2, 1) := by decide +kernel
theorem dX3_countOfKind_31 : decode cX3_countOfKind 31 = .ok (.ireturn, 1) := by decide +kernel
theorem dX3_heapsJoinedBy_0 : decode cX3_heapsJoinedBy 0 = .ok (.aload_n 3, 1) := by decide +kernel
theorem dX3_heapsJoinedBy_1 : decode cX3_heapsJoinedBy 1 = .ok (.aload_n 0, 1) := by decide +kernel
theorem dX3_heapsJoinedBy_2 : decode cX3_heapsJoinedBy 2 = .ok (.getfield 19, 3) := by decide +kernel
theorem dX3_heapsJoinedBy_5 : decode cX3_heapsJoinedBy 5 = .ok (.invokevirtual 63, 3) := by decide +kernel
theorem dX3_heapsJoinedBy_8 : decode cX3_heapsJoinedBy 8 = .ok (.iconst 0, 1) := by decide +kernel
theorem dX3_heapsJoinedBy_9 : decode cX3_heapsJoinedBy 9 = .ok (.istore 4, 2) := by decide +kernel
theorem dX3_heapsJoinedBy_11 : decode cX3_heapsJoinedBy 11 = .ok (.iload 4, 2) := by decide +kernel
theorem dX3_heapsJoinedBy_13 : decode cX3_heapsJoinedBy 13 = .ok (.aload_n 0, 1) := by decide +kernel
theorem dX3_heapsJoinedBy_14 : decode cX3_heapsJoinedBy 14 = .ok (.getfield 9, 3) := by decide +kernel
theorem dX3_heapsJoinedBy_17 : decode cX3_heapsJoinedBy 17 = .ok (.invokevirtual 23, 3) := by decide +kernel
theorem dX3_heapsJoinedBy_20 : decode cX3_heapsJoinedBy 20 = .ok (.if_icmp .ge 62, 3) := by decide +kernel
theorem dX3_heapsJoinedBy_23 : decode cX3_heapsJoinedBy 23 = .ok (.iload_n 1, 1) := by decide +kernel
theorem dX3_heapsJoinedBy_24 : decode cX3_heapsJoinedBy 24 = .ok (.iload 4, 2) := by decide +kernel
theorem dX3_heapsJoinedBy_26 : decode cX3_heapsJoinedBy 26 = .ok (.invokestatic 96, 3) := by decide +kernel
theorem dX3_heapsJoinedBy_29 : decode cX3_heapsJoinedBy 29 = .ok (.ifCond .eq 47, 3) := by decide +kernel
theorem dX3_heapsJoinedBy_32 : decode cX3_heapsJoinedBy 32 = .ok (.aload_n 0, 1) := by decide +kernel
theorem dX3_heapsJoinedBy_33 : decode cX3_heapsJoinedBy 33 = .ok (.aload_n 0, 1) := by decide +kernel
theorem dX3_heapsJoinedBy_34 : decode cX3_heapsJoinedBy 34 = .ok (.iload 4, 2) := by decide +kernel
theorem dX3_heapsJoinedBy_36 : decode cX3_heapsJoinedBy 36 = .ok (.iconst 0, 1) := by decide +kernel
theorem dX3_heapsJoinedBy_37 : decode cX3_heapsJoinedBy 37 = .ok (.invokevirtual 103, 3) := by decide +kernel
theorem dX3_heapsJoinedBy_40 : decode cX3_heapsJoinedBy 40 = .ok (.invokevirtual 135, 3) := by decide +kernel
theorem dX3_heapsJoinedBy_43 : decode cX3_heapsJoinedBy 43 = .ok (.iload_n 2, 1) := by decide +kernel
theorem dX3_heapsJoinedBy_44 : decode cX3_heapsJoinedBy 44 = .ok (.if_icmp .ne 7, 3) := by decide +kernel
theorem dX3_heapsJoinedBy_47 : decode cX3_heapsJoinedBy 47 = .ok (.iconst 0, 1) := by decide +kernel
theorem dX3_heapsJoinedBy_48 : decode cX3_heapsJoinedBy 48 = .ok (.goto 4, 3) := by decide +kernel
theorem dX3_heapsJoinedBy_51 : decode cX3_heapsJoinedBy 51 = .ok (.iconst 1, 1) := by decide +kernel
theorem dX3_heapsJoinedBy_52 : decode cX3_heapsJoinedBy 52 = .ok (.istore 5, 2) := by decide +kernel
theorem dX3_heapsJoinedBy_54 : decode cX3_heapsJoinedBy 54 = .ok (.aload_n 3, 1) := by decide +kernel
theorem dX3_heapsJoinedBy_55 : decode cX3_heapsJoinedBy 55 = .ok (.aload_n 0, 1) := by decide +kernel
theorem dX3_heapsJoinedBy_56 : decode cX3_heapsJoinedBy 56 = .ok (.iload 4, 2) := by decide +kernel
theorem dX3_heapsJoinedBy_58 : decode cX3_heapsJoinedBy 58 = .ok (.iload 5, 2) := by decide +kernel
theorem dX3_heapsJoinedBy_60 : decode cX3_heapsJoinedBy 60 = .ok (.invokevirtual 103, 3) := by decide +kernel
theorem dX3_heapsJoinedBy_63 : decode cX3_heapsJoinedBy 63 = .ok (.aload_n 0, 1) := by decide +kernel
theorem dX3_heapsJoinedBy_64 : decode cX3_heapsJoinedBy 64 = .ok (.iload 4, 2) := by decide +kernel
theorem dX3_heapsJoinedBy_66 : decode cX3_heapsJoinedBy 66 = .ok (.iload 5, 2) := by decide +kernel
theorem dX3_heapsJoinedBy_68 : decode cX3_heapsJoinedBy 68 = .ok (.iconst 2, 1) := by decide +kernel
theorem dX3_heapsJoinedBy_69 : decode cX3_heapsJoinedBy 69 = .ok (.iadd, 1) := by decide +kernel
theorem dX3_heapsJoinedBy_70 : decode cX3_heapsJoinedBy 70 = .ok (.invokevirtual 103, 3) := by decide +kernel
theorem dX3_heapsJoinedBy_73 : decode cX3_heapsJoinedBy 73 = .ok (.invokevirtual 86, 3) := by decide +kernel
theorem dX3_heapsJoinedBy_76 : decode cX3_heapsJoinedBy 76 = .ok (.iinc 4 1, 3) := by decide +kernel
theorem dX3_heapsJoinedBy_79 : decode cX3_heapsJoinedBy 79 = .ok (.goto (-68), 3) := by decide +kernel
theorem dX3_heapsJoinedBy_82 : decode cX3_heapsJoinedBy 82 = .ok (.aload_n 3, 1) := by decide +kernel
theorem dX3_heapsJoinedBy_83 : decode cX3_heapsJoinedBy 83 = .ok (.invokevirtual 90, 3) := by decide +kernel
theorem dX3_heapsJoinedBy_86 : decode cX3_heapsJoinedBy 86 = .ok (.ireturn, 1) := by decide +kernel
theorem dX4_init_0 : decode cX4_init 0 = .ok (.aload_n 0, 1) := by decide +kernel
theorem dX4_init_1 : decode cX4_init 1 = .ok (.invokespecial 3, 3) := by decide +kernel
theorem dX4_init_4 : decode cX4_init 4 = .ok (.aload_n 0, 1) := by decide +kernel
theorem dX4_init_5 : decode cX4_init 5 = .ok (.bipush 32, 2) := by decide +kernel
theorem dX4_init_7 : decode cX4_init 7 = .ok (.newarray .int, 2) := by decide +kernel
theorem dX4_init_9 : decode cX4_init 9 = .ok (.putfield 9, 3) := by decide +kernel
theorem dX4_init_12 : decode cX4_init 12 = .ok (.aload_n 0, 1) := by decide +kernel
theorem dX4_init_13 : decode cX4_init 13 = .ok (.iconst 0, 1) := by decide +kernel
theorem dX4_init_14 : decode cX4_init 14 = .ok (.putfield 15, 3) := by decide +kernel
theorem dX4_init_17 : decode cX4_init 17 = .ok (.aload_n 0, 1) := by decide +kernel
theorem dX4_init_18 : decode cX4_init 18 = .ok (.iconst 0, 1) := by decide +kernel
theorem dX4_init_19 : decode cX4_init 19 = .ok (.putfield 19, 3) := by decide +kernel
theorem dX4_init_22 : decode cX4_init 22 = .ok (.return_, 1) := by decide +kernel
theorem dX4_scatter_0 : decode cX4_scatter 0 = .ok (.aload_n 0, 1) := by decide +kernel
theorem dX4_scatter_1 : decode cX4_scatter 1 = .ok (.iconst 0, 1) := by decide +kernel
theorem dX4_scatter_2 : decode cX4_scatter 2 = .ok (.iload_n 1, 1) := by decide +kernel
theorem dX4_scatter_3 : decode cX4_scatter 3 = .ok (.aload_n 0, 1) := by decide +kernel
theorem dX4_scatter_4 : decode cX4_scatter 4 = .ok (.getfield 9, 3) := by decide +kernel
theorem dX4_scatter_7 : decode cX4_scatter 7 = .ok (.arraylength, 1) := by decide +kernel
theorem dX4_scatter_8 : decode cX4_scatter 8 = .ok (.invokestatic 22, 3) := by decide +kernel
theorem dX4_scatter_11 : decode cX4_scatter 11 = .ok (.invokestatic 28, 3) := by decide +kernel
theorem dX4_scatter_14 : decode cX4_scatter 14 = .ok (.putfield 15, 3) := by decide +kernel
theorem dX4_scatter_17 : decode cX4_scatter 17 = .ok (.aload_n 0, 1) := by decide +kernel
theorem dX4_scatter_18 : decode cX4_scatter 18 = .ok (.aload_n 0, 1) := by decide +kernel
theorem dX4_scatter_19 : decode cX4_scatter 19 = .ok (.getfield 15, 3) := by decide +kernel
theorem dX4_scatter_22 : decode cX4_scatter 22 = .ok (.putfield 19, 3) := by decide +kernel
theorem dX4_scatter_25 : decode cX4_scatter 25 = .ok (.iconst 0, 1) := by decide +kernel
theorem dX4_scatter_26 : decode cX4_scatter 26 = .ok (.istore_n 2, 1) := by decide +kernel
theorem dX4_scatter_27 : decode cX4_scatter 27 = .ok (.iload_n 2, 1) := by decide +kernel
theorem dX4_scatter_28 : decode cX4_scatter 28 = .ok (.aload_n 0, 1) := by decide +kernel
theorem dX4_scatter_29 : decode cX4_scatter 29 = .ok (.getfield 15, 3) := by decide +kernel
theorem dX4_scatter_32 : decode cX4_scatter 32 = .ok (.if_icmp .ge 16, 3) := by decide +kernel
theorem dX4_scatter_35 : decode cX4_scatter 35 = .ok (.aload_n 0, 1) := by decide +kernel
theorem dX4_scatter_36 : decode cX4_scatter 36 = .ok (.getfield 9, 3) := by decide +kernel
theorem dX4_scatter_39 : decode cX4_scatter 39 = .ok (.iload_n 2, 1) := by decide +kernel
theorem dX4_scatter_40 : decode cX4_scatter 40 = .ok (.iload_n 2, 1) := by decide +kernel
theorem dX4_scatter_41 : decode cX4_scatter 41 = .ok (.iastore, 1) := by decide +kernel
theorem dX4_scatter_42 : decode cX4_scatter 42 = .ok (.iinc 2 1, 3) := by decide +kernel
theorem dX4_scatter_45 : decode cX4_scatter 45 = .ok (.goto (-18), 3) := by decide +kernel
theorem dX4_scatter_48 : decode cX4_scatter 48 = .ok (.return_, 1) := by decide +kernel
theorem dX4_leastWith_0 : decode cX4_leastWith 0 = .ok (.iload_n 1, 1) := by decide +kernel
theorem dX4_leastWith_1 : decode cX4_leastWith 1 = .ok (.ifCond .lt 11, 3) := by decide +kernel
theorem dX4_leastWith_4 : decode cX4_leastWith 4 = .ok (.iload_n 1, 1) := by decide +kernel
theorem dX4_leastWith_5 : decode cX4_leastWith 5 = .ok (.aload_n 0, 1) := by decide +kernel
theorem dX4_leastWith_6 : decode cX4_leastWith 6 = .ok (.getfield 15, 3) := by decide +kernel
theorem dX4_leastWith_9 : decode cX4_leastWith 9 = .ok (.if_icmp .lt 5, 3) := by decide +kernel
theorem dX4_leastWith_12 : decode cX4_leastWith 12 = .ok (.iconst (-1), 1) := by decide +kernel
theorem dX4_leastWith_13 : decode cX4_leastWith 13 = .ok (.ireturn, 1) := by decide +kernel
theorem dX4_leastWith_14 : decode cX4_leastWith 14 = .ok (.iload_n 1, 1) := by decide +kernel
theorem dX4_leastWith_15 : decode cX4_leastWith 15 = .ok (.istore_n 2, 1) := by decide +kernel
theorem dX4_leastWith_16 : decode cX4_leastWith 16 = .ok (.iconst 0, 1) := by decide +kernel
theorem dX4_leastWith_17 : decode cX4_leastWith 17 = .ok (.istore_n 3, 1) := by decide +kernel
theorem dX4_leastWith_18 : decode cX4_leastWith 18 = .ok (.iload_n 3, 1) := by decide +kernel
theorem dX4_leastWith_19 : decode cX4_leastWith 19 = .ok (.aload_n 0, 1) := by decide +kernel
theorem dX4_leastWith_20 : decode cX4_leastWith 20 = .ok (.getfield 15, 3) := by decide +kernel
theorem dX4_leastWith_23 : decode cX4_leastWith 23 = .ok (.if_icmp .ge 26, 3) := by decide +kernel
theorem dX4_leastWith_26 : decode cX4_leastWith 26 = .ok (.aload_n 0, 1) := by decide +kernel
theorem dX4_leastWith_27 : decode cX4_leastWith 27 = .ok (.getfield 9, 3) := by decide +kernel
theorem dX4_leastWith_30 : decode cX4_leastWith 30 = .ok (.iload_n 2, 1) := by decide +kernel
theorem dX4_leastWith_31 : decode cX4_leastWith 31 = .ok (.iaload, 1) := by decide +kernel
theorem dX4_leastWith_32 : decode cX4_leastWith 32 = .ok (.iload_n 2, 1) := by decide +kernel
theorem dX4_leastWith_33 : decode cX4_leastWith 33 = .ok (.if_icmp .eq 16, 3) := by decide +kernel
theorem dX4_leastWith_36 : decode cX4_leastWith 36 = .ok (.aload_n 0, 1) := by decide +kernel
theorem dX4_leastWith_37 : decode cX4_leastWith 37 = .ok (.getfield 9, 3) := by decide +kernel
theorem dX4_leastWith_40 : decode cX4_leastWith 40 = .ok (.iload_n 2, 1) := by decide +kernel
theorem dX4_leastWith_41 : decode cX4_leastWith 41 = .ok (.iaload, 1) := by decide +kernel
theorem dX4_leastWith_42 : decode cX4_leastWith 42 = .ok (.istore_n 2, 1) := by decide +kernel
theorem dX4_leastWith_43 : decode cX4_leastWith 43 = .ok (.iinc 3 1, 3) := by decide +kernel
theorem dX4_leastWith_46 : decode cX4_leastWith 46 = .ok (.goto (-28), 3) := by decide +kernel
theorem dX4_leastWith_49 : decode cX4_leastWith 49 = .ok (.iload_n 2, 1) := by decide +kernel
theorem dX4_leastWith_50 : decode cX4_leastWith 50 = .ok (.ireturn, 1) := by decide +kernel
theorem dX4_join_0 : decode cX4_join 0 = .ok (.aload_n 0, 1) := by decide +kernel
theorem dX4_join_1 : decode cX4_join 1 = .ok (.iload_n 1, 1) := by decide +kernel
theorem dX4_join_2 : decode cX4_join 2 = .ok (.invokevirtual 31, 3) := by decide +kernel
theorem dX4_join_5 : decode cX4_join 5 = .ok (.istore_n 3, 1) := by decide +kernel
theorem dX4_join_6 : decode cX4_join 6 = .ok (.aload_n 0, 1) := by decide +kernel
theorem dX4_join_7 : decode cX4_join 7 = .ok (.iload_n 2, 1) := by decide +kernel
theorem dX4_join_8 : decode cX4_join 8 = .ok (.invokevirtual 31, 3) := by decide +kernel
theorem dX4_join_11 : decode cX4_join 11 = .ok (.istore 4, 2) := by decide +kernel
theorem dX4_join_13 : decode cX4_join 13 = .ok (.iload_n 3, 1) := by decide +kernel
theorem dX4_join_14 : decode cX4_join 14 = .ok (.iconst (-1), 1) := by decide +kernel
theorem dX4_join_15 : decode cX4_join 15 = .ok (.if_icmp .eq 42, 3) := by decide +kernel
theorem dX4_join_18 : decode cX4_join 18 = .ok (.iload 4, 2) := by decide +kernel
theorem dX4_join_20 : decode cX4_join 20 = .ok (.iconst (-1), 1) := by decide +kernel
theorem dX4_join_21 : decode cX4_join 21 = .ok (.if_icmp .eq 36, 3) := by decide +kernel
theorem dX4_join_24 : decode cX4_join 24 = .ok (.iload_n 3, 1) := by decide +kernel
theorem dX4_join_25 : decode cX4_join 25 = .ok (.iload 4, 2) := by decide +kernel
theorem dX4_join_27 : decode cX4_join 27 = .ok (.if_icmp .eq 30, 3) := by decide +kernel
theorem dX4_join_30 : decode cX4_join 30 = .ok (.aload_n 0, 1) := by decide +kernel
theorem dX4_join_31 : decode cX4_join 31 = .ok (.getfield 9, 3) := by decide +kernel
theorem dX4_join_34 : decode cX4_join 34 = .ok (.iload_n 3, 1) := by decide +kernel
theorem dX4_join_35 : decode cX4_join 35 = .ok (.iload 4, 2) := by decide +kernel
theorem dX4_join_37 : decode cX4_join 37 = .ok (.invokestatic 28, 3) := by decide +kernel
theorem dX4_join_40 : decode cX4_join 40 = .ok (.iload_n 3, 1) := by decide +kernel
theorem dX4_join_41 : decode cX4_join 41 = .ok (.iload 4, 2) := by decide +kernel
theorem dX4_join_43 : decode cX4_join 43 = .ok (.invokestatic 22, 3) := by decide +kernel
theorem dX4_join_46 : decode cX4_join 46 = .ok (.iastore, 1) := by decide +kernel
theorem dX4_join_47 : decode cX4_join 47 = .ok (.aload_n 0, 1) := by decide +kernel
theorem dX4_join_48 : decode cX4_join 48 = .ok (.dup, 1) := by decide +kernel
theorem dX4_join_49 : decode cX4_join 49 = .ok (.getfield 19, 3) := by decide +kernel
theorem dX4_join_52 : decode cX4_join 52 = .ok (.iconst 1, 1) := by decide +kernel
theorem dX4_join_53 : decode cX4_join 53 = .ok (.isub, 1) := by decide +kernel
theorem dX4_join_54 : decode cX4_join 54 = .ok (.putfield 19, 3) := by decide +kernel
theorem dX4_join_57 : decode cX4_join 57 = .ok (.return_, 1) := by decide +kernel
theorem dX4_count_0 : decode cX4_count 0 = .ok (.aload_n 0, 1) := by decide +kernel
theorem dX4_count_1 : decode cX4_count 1 = .ok (.getfield 19, 3) := by decide +kernel
theorem dX4_count_4 : decode cX4_count 4 = .ok (.ireturn, 1) := by decide +kernel
theorem dX5_init_0 : decode cX5_init 0 = .ok (.aload_n 0, 1) := by decide +kernel
theorem dX5_init_1 : decode cX5_init 1 = .ok (.invokespecial 3, 3) := by decide +kernel
theorem dX5_init_4 : decode cX5_init 4 = .ok (.aload_n 0, 1) := by decide +kernel
theorem dX5_init_5 : decode cX5_init 5 = .ok (.bipush 16, 2) := by decide +kernel
theorem dX5_init_7 : decode cX5_init 7 = .ok (.anewarray 9, 3) := by decide +kernel
theorem dX5_init_10 : decode cX5_init 10 = .ok (.putfield 11, 3) := by decide +kernel
theorem dX5_init_13 : decode cX5_init 13 = .ok (.aload_n 0, 1) := by decide +kernel
theorem dX5_init_14 : decode cX5_init 14 = .ok (.iconst 0, 1) := by decide +kernel
theorem dX5_init_15 : decode cX5_init 15 = .ok (.putfield 17, 3) := by decide +kernel
theorem dX5_init_18 : decode cX5_init 18 = .ok (.aload_n 0, 1) := by decide +kernel
theorem dX5_init_19 : decode cX5_init 19 = .ok (.iconst 0, 1) := by decide +kernel
theorem dX5_init_20 : decode cX5_init 20 = .ok (.putfield 21, 3) := by decide +kernel
theorem dX5_init_23 : decode cX5_init 23 = .ok (.return_, 1) := by decide +kernel
theorem dX5_remember_0 : decode cX5_remember 0 = .ok (.aload_n 0, 1) := by decide +kernel
theorem dX5_remember_1 : decode cX5_remember 1 = .ok (.aload_n 0, 1) := by decide +kernel
theorem dX5_remember_2 : decode cX5_remember 2 = .ok (.getfield 17, 3) := by decide +kernel
theorem dX5_remember_5 : decode cX5_remember 5 = .ok (.iconst 1, 1) := by decide +kernel
theorem dX5_remember_6 : decode cX5_remember 6 = .ok (.iadd, 1) := by decide +kernel
theorem dX5_remember_7 : decode cX5_remember 7 = .ok (.bipush 16, 2) := by decide +kernel
theorem dX5_remember_9 : decode cX5_remember 9 = .ok (.irem, 1) := by decide +kernel
theorem dX5_remember_10 : decode cX5_remember 10 = .ok (.putfield 17, 3) := by decide +kernel
theorem dX5_remember_13 : decode cX5_remember 13 = .ok (.aload_n 0, 1) := by decide +kernel
theorem dX5_remember_14 : decode cX5_remember 14 = .ok (.getfield 11, 3) := by decide +kernel
theorem dX5_remember_17 : decode cX5_remember 17 = .ok (.aload_n 0, 1) := by decide +kernel
theorem dX5_remember_18 : decode cX5_remember 18 = .ok (.getfield 17, 3) := by decide +kernel
theorem dX5_remember_21 : decode cX5_remember 21 = .ok (.aaload, 1) := by decide +kernel
theorem dX5_remember_22 : decode cX5_remember 22 = .ok (.ifnonnull 19, 3) := by decide +kernel
theorem dX5_remember_25 : decode cX5_remember 25 = .ok (.aload_n 0, 1) := by decide +kernel
theorem dX5_remember_26 : decode cX5_remember 26 = .ok (.getfield 11, 3) := by decide +kernel
theorem dX5_remember_29 : decode cX5_remember 29 = .ok (.aload_n 0, 1) := by decide +kernel
theorem dX5_remember_30 : decode cX5_remember 30 = .ok (.getfield 17, 3) := by decide +kernel
theorem dX5_remember_33 : decode cX5_remember 33 = .ok (.new 9, 3) := by decide +kernel
theorem dX5_remember_36 : decode cX5_remember 36 = .ok (.dup, 1) := by decide +kernel
theorem dX5_remember_37 : decode cX5_remember 37 = .ok (.invokespecial 24, 3) := by decide +kernel
theorem dX5_remember_40 : decode cX5_remember 40 = .ok (.aastore, 1) := by decide +kernel
theorem dX5_remember_41 : decode cX5_remember 41 = .ok (.aload_n 0, 1) := by decide +kernel
theorem dX5_remember_42 : decode cX5_remember 42 = .ok (.getfield 11, 3) := by decide +kernel
theorem dX5_remember_45 : decode cX5_remember 45 = .ok (.aload_n 0, 1) := by decide +kernel
theorem dX5_remember_46 : decode cX5_remember 46 = .ok (.getfield 17, 3) := by decide +kernel
theorem dX5_remember_49 : decode cX5_remember 49 = .ok (.aaload, 1) := by decide +kernel
theorem dX5_remember_50 : decode cX5_remember 50 = .ok (.aload_n 1, 1) := by decide +kernel
theorem dX5_remember_51 : decode cX5_remember 51 = .ok (.invokevirtual 25, 3) := by decide +kernel
theorem dX5_remember_54 : decode cX5_remember 54 = .ok (.aload_n 0, 1) := by decide +kernel
theorem dX5_remember_55 : decode cX5_remember 55 = .ok (.aload_n 0, 1) := by decide +kernel
theorem dX5_remember_56 : decode cX5_remember 56 = .ok (.getfield 21, 3) := by decide +kernel
theorem dX5_remember_59 : decode cX5_remember 59 = .ok (.iconst 1, 1) := by decide +kernel
theorem dX5_remember_60 : decode cX5_remember 60 = .ok (.iadd, 1) := by decide +kernel
theorem dX5_remember_61 : decode cX5_remember 61 = .ok (.bipush 16, 2) := by decide +kernel
theorem dX5_remember_63 : decode cX5_remember 63 = .ok (.invokestatic 29, 3) := by decide +kernel
theorem dX5_remember_66 : decode cX5_remember 66 = .ok (.putfield 21, 3) := by decide +kernel
theorem dX5_remember_69 : decode cX5_remember 69 = .ok (.return_, 1) := by decide +kernel
theorem dX5_restore_0 : decode cX5_restore 0 = .ok (.iload_n 1, 1) := by decide +kernel
theorem dX5_restore_1 : decode cX5_restore 1 = .ok (.iconst 1, 1) := by decide +kernel
theorem dX5_restore_2 : decode cX5_restore 2 = .ok (.if_icmp .lt 11, 3) := by decide +kernel
theorem dX5_restore_5 : decode cX5_restore 5 = .ok (.iload_n 1, 1) := by decide +kernel
theorem dX5_restore_6 : decode cX5_restore 6 = .ok (.aload_n 0, 1) := by decide +kernel
theorem dX5_restore_7 : decode cX5_restore 7 = .ok (.getfield 21, 3) := by decide +kernel
theorem dX5_restore_10 : decode cX5_restore 10 = .ok (.if_icmp .le 5, 3) := by decide +kernel
theorem dX5_restore_13 : decode cX5_restore 13 = .ok (.iconst 0, 1) := by decide +kernel
theorem dX5_restore_14 : decode cX5_restore 14 = .ok (.ireturn, 1) := by decide +kernel
theorem dX5_restore_15 : decode cX5_restore 15 = .ok (.aload_n 0, 1) := by decide +kernel
theorem dX5_restore_16 : decode cX5_restore 16 = .ok (.getfield 11, 3) := by decide +kernel
theorem dX5_restore_19 : decode cX5_restore 19 = .ok (.aload_n 0, 1) := by decide +kernel
theorem dX5_restore_20 : decode cX5_restore 20 = .ok (.getfield 17, 3) := by decide +kernel
theorem dX5_restore_23 : decode cX5_restore 23 = .ok (.iload_n 1, 1) := by decide +kernel
theorem dX5_restore_24 : decode cX5_restore 24 = .ok (.isub, 1) := by decide +kernel
theorem dX5_restore_25 : decode cX5_restore 25 = .ok (.iconst 1, 1) := by decide +kernel
theorem dX5_restore_26 : decode cX5_restore 26 = .ok (.iadd, 1) := by decide +kernel
theorem dX5_restore_27 : decode cX5_restore 27 = .ok (.bipush 16, 2) := by decide +kernel
theorem dX5_restore_29 : decode cX5_restore 29 = .ok (.invokestatic 35, 3) := by decide +kernel
theorem dX5_restore_32 : decode cX5_restore 32 = .ok (.aaload, 1) := by decide +kernel
theorem dX5_restore_33 : decode cX5_restore 33 = .ok (.astore_n 3, 1) := by decide +kernel
theorem dX5_restore_34 : decode cX5_restore 34 = .ok (.aload_n 3, 1) := by decide +kernel
theorem dX5_restore_35 : decode cX5_restore 35 = .ok (.ifnonnull 5, 3) := by decide +kernel
theorem dX5_restore_38 : decode cX5_restore 38 = .ok (.iconst 0, 1) := by decide +kernel
theorem dX5_restore_39 : decode cX5_restore 39 = .ok (.ireturn, 1) := by decide +kernel
theorem dX5_restore_40 : decode cX5_restore 40 = .ok (.aload_n 2, 1) := by decide +kernel
theorem dX5_restore_41 : decode cX5_restore 41 = .ok (.aload_n 3, 1) := by decide +kernel
theorem dX5_restore_42 : decode cX5_restore 42 = .ok (.invokevirtual 25, 3) := by decide +kernel
theorem dX5_restore_45 : decode cX5_restore 45 = .ok (.aload_n 0, 1) := by decide +kernel
theorem dX5_restore_46 : decode cX5_restore 46 = .ok (.aload_n 0, 1) := by decide +kernel
theorem dX5_restore_47 : decode cX5_restore 47 = .ok (.getfield 17, 3) := by decide +kernel
theorem dX5_restore_50 : decode cX5_restore 50 = .ok (.iload_n 1, 1) := by decide +kernel
theorem dX5_restore_51 : decode cX5_restore 51 = .ok (.isub, 1) := by decide +kernel
theorem dX5_restore_52 : decode cX5_restore 52 = .ok (.bipush 16, 2) := by decide +kernel
theorem dX5_restore_54 : decode cX5_restore 54 = .ok (.invokestatic 35, 3) := by decide +kernel
theorem dX5_restore_57 : decode cX5_restore 57 = .ok (.putfield 17, 3) := by decide +kernel
theorem dX5_restore_60 : decode cX5_restore 60 = .ok (.aload_n 0, 1) := by decide +kernel
theorem dX5_restore_61 : decode cX5_restore 61 = .ok (.dup, 1) := by decide +kernel
theorem dX5_restore_62 : decode cX5_restore 62 = .ok (.getfield 21, 3) := by decide +kernel
theorem dX5_restore_65 : decode cX5_restore 65 = .ok (.iload_n 1, 1) := by decide +kernel
theorem dX5_restore_66 : decode cX5_restore 66 = .ok (.isub, 1) := by decide +kernel
theorem dX5_restore_67 : decode cX5_restore 67 = .ok (.putfield 21, 3) := by decide +kernel
theorem dX5_restore_70 : decode cX5_restore 70 = .ok (.iconst 1, 1) := by decide +kernel
theorem dX5_restore_71 : decode cX5_restore 71 = .ok (.ireturn, 1) := by decide +kernel
theorem dX5_count_0 : decode cX5_count 0 = .ok (.aload_n 0, 1) := by decide +kernel
theorem dX5_count_1 : decode cX5_count 1 = .ok (.getfield 21, 3) := by decide +kernel
theorem dX5_count_4 : decode cX5_count 4 = .ok (.ireturn, 1) := by decide +kernel
theorem dX5_clear_0 : decode cX5_clear 0 = .ok (.aload_n 0, 1) := by decide +kernel
theorem dX5_clear_1 : decode cX5_clear 1 = .ok (.iconst 0, 1) := by decide +kernel
theorem dX5_clear_2 : decode cX5_clear 2 = .ok (.putfield 21, 3) := by decide +kernel
theorem dX5_clear_5 : decode cX5_clear 5 = .ok (.return_, 1) := by decide +kernel
theorem dX6_init_0 : decode cX6_init 0 = .ok (.aload_n 0, 1) := by decide +kernel
theorem dX6_init_1 : decode cX6_init 1 = .ok (.invokespecial 1, 3) := by decide +kernel
theorem dX6_init_4 : decode cX6_init 4 = .ok (.aload_n 0, 1) := by decide +kernel
theorem dX6_init_5 : decode cX6_init 5 = .ok (.new 7, 3) := by decide +kernel
theorem dX6_init_8 : decode cX6_init 8 = .ok (.dup, 1) := by decide +kernel
theorem dX6_init_9 : decode cX6_init 9 = .ok (.invokespecial 9, 3) := by decide +kernel
theorem dX6_init_12 : decode cX6_init 12 = .ok (.putfield 10, 3) := by decide +kernel
theorem dX6_init_15 : decode cX6_init 15 = .ok (.aload_n 0, 1) := by decide +kernel
theorem dX6_init_16 : decode cX6_init 16 = .ok (.iconst 0, 1) := by decide +kernel
theorem dX6_init_17 : decode cX6_init 17 = .ok (.putfield 16, 3) := by decide +kernel
theorem dX6_init_20 : decode cX6_init 20 = .ok (.aload_n 0, 1) := by decide +kernel
theorem dX6_init_21 : decode cX6_init 21 = .ok (.iconst 0, 1) := by decide +kernel
theorem dX6_init_22 : decode cX6_init 22 = .ok (.putfield 20, 3) := by decide +kernel
theorem dX6_init_25 : decode cX6_init 25 = .ok (.return_, 1) := by decide +kernel
theorem dX6_store_0 : decode cX6_store 0 = .ok (.aload_n 0, 1) := by decide +kernel
theorem dX6_store_1 : decode cX6_store 1 = .ok (.getfield 10, 3) := by decide +kernel
theorem dX6_store_4 : decode cX6_store 4 = .ok (.aload_n 1, 1) := by decide +kernel
theorem dX6_store_5 : decode cX6_store 5 = .ok (.invokevirtual 24, 3) := by decide +kernel
theorem dX6_store_8 : decode cX6_store 8 = .ok (.aload_n 0, 1) := by decide +kernel
theorem dX6_store_9 : decode cX6_store 9 = .ok (.iload_n 2, 1) := by decide +kernel
theorem dX6_store_10 : decode cX6_store 10 = .ok (.putfield 16, 3) := by decide +kernel
theorem dX6_store_13 : decode cX6_store 13 = .ok (.aload_n 0, 1) := by decide +kernel
theorem dX6_store_14 : decode cX6_store 14 = .ok (.iconst 1, 1) := by decide +kernel
theorem dX6_store_15 : decode cX6_store 15 = .ok (.putfield 20, 3) := by decide +kernel
theorem dX6_store_18 : decode cX6_store 18 = .ok (.return_, 1) := by decide +kernel
theorem dX6_isKept_0 : decode cX6_isKept 0 = .ok (.aload_n 0, 1) := by decide +kernel
theorem dX6_isKept_1 : decode cX6_isKept 1 = .ok (.getfield 20, 3) := by decide +kernel
theorem dX6_isKept_4 : decode cX6_isKept 4 = .ok (.ireturn, 1) := by decide +kernel
theorem dX6_shelf_0 : decode cX6_shelf 0 = .ok (.aload_n 0, 1) := by decide +kernel
theorem dX6_shelf_1 : decode cX6_shelf 1 = .ok (.getfield 10, 3) := by decide +kernel
theorem dX6_shelf_4 : decode cX6_shelf 4 = .ok (.areturn, 1) := by decide +kernel
theorem dX6_seedThen_0 : decode cX6_seedThen 0 = .ok (.aload_n 0, 1) := by decide +kernel
theorem dX6_seedThen_1 : decode cX6_seedThen 1 = .ok (.getfield 16, 3) := by decide +kernel
theorem dX6_seedThen_4 : decode cX6_seedThen 4 = .ok (.ireturn, 1) := by decide +kernel
theorem dX7_init_0 : decode cX7_init 0 = .ok (.aload_n 0, 1) := by decide +kernel
theorem dX7_init_1 : decode cX7_init 1 = .ok (.invokespecial 3, 3) := by decide +kernel
theorem dX7_init_4 : decode cX7_init 4 = .ok (.aload_n 0, 1) := by decide +kernel
theorem dX7_init_5 : decode cX7_init 5 = .ok (.iconst 0, 1) := by decide +kernel
theorem dX7_init_6 : decode cX7_init 6 = .ok (.putfield 9, 3) := by decide +kernel
theorem dX7_init_9 : decode cX7_init 9 = .ok (.aload_n 0, 1) := by decide +kernel
theorem dX7_init_10 : decode cX7_init 10 = .ok (.lconst 0, 1) := by decide +kernel
theorem dX7_init_11 : decode cX7_init 11 = .ok (.putfield 15, 3) := by decide +kernel
theorem dX7_init_14 : decode cX7_init 14 = .ok (.aload_n 0, 1) := by decide +kernel
theorem dX7_init_15 : decode cX7_init 15 = .ok (.iconst 1, 1) := by decide +kernel
theorem dX7_init_16 : decode cX7_init 16 = .ok (.putfield 19, 3) := by decide +kernel
theorem dX7_init_19 : decode cX7_init 19 = .ok (.aload_n 0, 1) := by decide +kernel
theorem dX7_init_20 : decode cX7_init 20 = .ok (.iconst 0, 1) := by decide +kernel
theorem dX7_init_21 : decode cX7_init 21 = .ok (.putfield 23, 3) := by decide +kernel
theorem dX7_init_24 : decode cX7_init 24 = .ok (.aload_n 0, 1) := by decide +kernel
theorem dX7_init_25 : decode cX7_init 25 = .ok (.iconst (-1), 1) := by decide +kernel
theorem dX7_init_26 : decode cX7_init 26 = .ok (.putfield 26, 3) := by decide +kernel
theorem dX7_init_29 : decode cX7_init 29 = .ok (.aload_n 0, 1) := by decide +kernel
theorem dX7_init_30 : decode cX7_init 30 = .ok (.iconst 0, 1) := by decide +kernel
theorem dX7_init_31 : decode cX7_init 31 = .ok (.putfield 29, 3) := by decide +kernel
theorem dX7_init_34 : decode cX7_init 34 = .ok (.aload_n 0, 1) := by decide +kernel
theorem dX7_init_35 : decode cX7_init 35 = .ok (.iconst 0, 1) := by decide +kernel
theorem dX7_init_36 : decode cX7_init 36 = .ok (.putfield 32, 3) := by decide +kernel
theorem dX7_init_39 : decode cX7_init 39 = .ok (.aload_n 0, 1) := by decide +kernel
theorem dX7_init_40 : decode cX7_init 40 = .ok (.bipush 10, 2) := by decide +kernel
theorem dX7_init_42 : decode cX7_init 42 = .ok (.newarray .int, 2) := by decide +kernel
theorem dX7_init_44 : decode cX7_init 44 = .ok (.putfield 35, 3) := by decide +kernel
theorem dX7_init_47 : decode cX7_init 47 = .ok (.aload_n 0, 1) := by decide +kernel
theorem dX7_init_48 : decode cX7_init 48 = .ok (.aload_n 1, 1) := by decide +kernel
theorem dX7_init_49 : decode cX7_init 49 = .ok (.invokevirtual 39, 3) := by decide +kernel
theorem dX7_init_52 : decode cX7_init 52 = .ok (.iconst 2, 1) := by decide +kernel
theorem dX7_init_53 : decode cX7_init 53 = .ok (.idiv, 1) := by decide +kernel
theorem dX7_init_54 : decode cX7_init 54 = .ok (.putfield 45, 3) := by decide +kernel
theorem dX7_init_57 : decode cX7_init 57 = .ok (.aload_n 0, 1) := by decide +kernel
theorem dX7_init_58 : decode cX7_init 58 = .ok (.iconst 2, 1) := by decide +kernel
theorem dX7_init_59 : decode cX7_init 59 = .ok (.aload_n 0, 1) := by decide +kernel
theorem dX7_init_60 : decode cX7_init 60 = .ok (.getfield 45, 3) := by decide +kernel
theorem dX7_init_63 : decode cX7_init 63 = .ok (.imul, 1) := by decide +kernel
theorem dX7_init_64 : decode cX7_init 64 = .ok (.putfield 48, 3) := by decide +kernel
theorem dX7_init_67 : decode cX7_init 67 = .ok (.aload_n 0, 1) := by decide +kernel
theorem dX7_init_68 : decode cX7_init 68 = .ok (.aload_n 0, 1) := by decide +kernel
theorem dX7_init_69 : decode cX7_init 69 = .ok (.getfield 48, 3) := by decide +kernel
theorem dX7_init_72 : decode cX7_init 72 = .ok (.newarray .int, 2) := by decide +kernel
theorem dX7_init_74 : decode cX7_init 74 = .ok (.putfield 51, 3) := by decide +kernel
theorem dX7_init_77 : decode cX7_init 77 = .ok (.aload_n 0, 1) := by decide +kernel
theorem dX7_init_78 : decode cX7_init 78 = .ok (.aload_n 0, 1) := by decide +kernel
theorem dX7_init_79 : decode cX7_init 79 = .ok (.getfield 45, 3) := by decide +kernel
theorem dX7_init_82 : decode cX7_init 82 = .ok (.newarray .int, 2) := by decide +kernel
theorem dX7_init_84 : decode cX7_init 84 = .ok (.putfield 54, 3) := by decide +kernel
theorem dX7_init_87 : decode cX7_init 87 = .ok (.aload_n 0, 1) := by decide +kernel
theorem dX7_init_88 : decode cX7_init 88 = .ok (.aload_n 0, 1) := by decide +kernel
theorem dX7_init_89 : decode cX7_init 89 = .ok (.getfield 45, 3) := by decide +kernel
theorem dX7_init_92 : decode cX7_init 92 = .ok (.newarray .int, 2) := by decide +kernel
theorem dX7_init_94 : decode cX7_init 94 = .ok (.putfield 57, 3) := by decide +kernel
theorem dX7_init_97 : decode cX7_init 97 = .ok (.aload_n 0, 1) := by decide +kernel
theorem dX7_init_98 : decode cX7_init 98 = .ok (.aload_n 0, 1) := by decide +kernel
theorem dX7_init_99 : decode cX7_init 99 = .ok (.getfield 45, 3) := by decide +kernel
theorem dX7_init_102 : decode cX7_init 102 = .ok (.newarray .int, 2) := by decide +kernel
theorem dX7_init_104 : decode cX7_init 104 = .ok (.putfield 60, 3) := by decide +kernel
theorem dX7_init_107 : decode cX7_init 107 = .ok (.iconst 0, 1) := by decide +kernel
theorem dX7_init_108 : decode cX7_init 108 = .ok (.istore_n 2, 1) := by decide +kernel
theorem dX7_init_109 : decode cX7_init 109 = .ok (.iconst 0, 1) := by decide +kernel
theorem dX7_init_110 : decode cX7_init 110 = .ok (.istore_n 3, 1) := by decide +kernel
theorem dX7_init_111 : decode cX7_init 111 = .ok (.iload_n 3, 1) := by decide +kernel
theorem dX7_init_112 : decode cX7_init 112 = .ok (.aload_n 0, 1) := by decide +kernel
theorem dX7_init_113 : decode cX7_init 113 = .ok (.getfield 48, 3) := by decide +kernel
theorem dX7_init_116 : decode cX7_init 116 = .ok (.if_icmp .ge 75, 3) := by decide +kernel
theorem dX7_init_119 : decode cX7_init 119 = .ok (.aload_n 1, 1) := by decide +kernel
theorem dX7_init_120 : decode cX7_init 120 = .ok (.iload_n 3, 1) := by decide +kernel
theorem dX7_init_121 : decode cX7_init 121 = .ok (.invokevirtual 63, 3) := by decide +kernel
theorem dX7_init_124 : decode cX7_init 124 = .ok (.istore 4, 2) := by decide +kernel
theorem dX7_init_126 : decode cX7_init 126 = .ok (.iload 4, 2) := by decide +kernel
theorem dX7_init_128 : decode cX7_init 128 = .ok (.iconst (-1), 1) := by decide +kernel
theorem dX7_init_129 : decode cX7_init 129 = .ok (.if_icmp .eq 31, 3) := by decide +kernel
theorem dX7_init_132 : decode cX7_init 132 = .ok (.aload_n 0, 1) := by decide +kernel
theorem dX7_init_133 : decode cX7_init 133 = .ok (.getfield 51, 3) := by decide +kernel
theorem dX7_init_136 : decode cX7_init 136 = .ok (.iload_n 3, 1) := by decide +kernel
theorem dX7_init_137 : decode cX7_init 137 = .ok (.aload_n 0, 1) := by decide +kernel
theorem dX7_init_138 : decode cX7_init 138 = .ok (.getfield 51, 3) := by decide +kernel
theorem dX7_init_141 : decode cX7_init 141 = .ok (.iload 4, 2) := by decide +kernel
theorem dX7_init_143 : decode cX7_init 143 = .ok (.iaload, 1) := by decide +kernel
theorem dX7_init_144 : decode cX7_init 144 = .ok (.iastore, 1) := by decide +kernel
theorem dX7_init_145 : decode cX7_init 145 = .ok (.aload_n 0, 1) := by decide +kernel
theorem dX7_init_146 : decode cX7_init 146 = .ok (.getfield 57, 3) := by decide +kernel
theorem dX7_init_149 : decode cX7_init 149 = .ok (.aload_n 0, 1) := by decide +kernel
theorem dX7_init_150 : decode cX7_init 150 = .ok (.getfield 51, 3) := by decide +kernel
theorem dX7_init_153 : decode cX7_init 153 = .ok (.iload_n 3, 1) := by decide +kernel
theorem dX7_init_154 : decode cX7_init 154 = .ok (.iaload, 1) := by decide +kernel
theorem dX7_init_155 : decode cX7_init 155 = .ok (.iload_n 3, 1) := by decide +kernel
theorem dX7_init_156 : decode cX7_init 156 = .ok (.iastore, 1) := by decide +kernel
theorem dX7_init_157 : decode cX7_init 157 = .ok (.goto 28, 3) := by decide +kernel
theorem dX7_init_160 : decode cX7_init 160 = .ok (.iload_n 2, 1) := by decide +kernel
theorem dX7_init_161 : decode cX7_init 161 = .ok (.aload_n 0, 1) := by decide +kernel
theorem dX7_init_162 : decode cX7_init 162 = .ok (.getfield 45, 3) := by decide +kernel
theorem dX7_init_165 : decode cX7_init 165 = .ok (.if_icmp .ge 20, 3) := by decide +kernel
theorem dX7_init_168 : decode cX7_init 168 = .ok (.aload_n 0, 1) := by decide +kernel
theorem dX7_init_169 : decode cX7_init 169 = .ok (.getfield 51, 3) := by decide +kernel
theorem dX7_init_172 : decode cX7_init 172 = .ok (.iload_n 3, 1) := by decide +kernel
theorem dX7_init_173 : decode cX7_init 173 = .ok (.iload_n 2, 1) := by decide +kernel
theorem dX7_init_174 : decode cX7_init 174 = .ok (.iastore, 1) := by decide +kernel
theorem dX7_init_175 : decode cX7_init 175 = .ok (.aload_n 0, 1) := by decide +kernel
theorem dX7_init_176 : decode cX7_init 176 = .ok (.getfield 54, 3) := by decide +kernel
theorem dX7_init_179 : decode cX7_init 179 = .ok (.iload_n 2, 1) := by decide +kernel
theorem dX7_init_180 : decode cX7_init 180 = .ok (.iload_n 3, 1) := by decide +kernel
theorem dX7_init_181 : decode cX7_init 181 = .ok (.iastore, 1) := by decide +kernel
theorem dX7_init_182 : decode cX7_init 182 = .ok (.iinc 2 1, 3) := by decide +kernel
theorem dX7_init_185 : decode cX7_init 185 = .ok (.iinc 3 1, 3) := by decide +kernel
theorem dX7_init_188 : decode cX7_init 188 = .ok (.goto (-77), 3) := by decide +kernel
theorem dX7_init_191 : decode cX7_init 191 = .ok (.iconst 0, 1) := by decide +kernel
theorem dX7_init_192 : decode cX7_init 192 = .ok (.istore_n 3, 1) := by decide +kernel
theorem dX7_init_193 : decode cX7_init 193 = .ok (.iload_n 3, 1) := by decide +kernel
theorem dX7_init_194 : decode cX7_init 194 = .ok (.aload_n 0, 1) := by decide +kernel
theorem dX7_init_195 : decode cX7_init 195 = .ok (.getfield 45, 3) := by decide +kernel
theorem dX7_init_198 : decode cX7_init 198 = .ok (.if_icmp .ge 50, 3) := by decide +kernel
theorem dX7_init_201 : decode cX7_init 201 = .ok (.iconst 0, 1) := by decide +kernel
theorem dX7_init_202 : decode cX7_init 202 = .ok (.istore 4, 2) := by decide +kernel
theorem dX7_init_204 : decode cX7_init 204 = .ok (.iload 4, 2) := by decide +kernel
theorem dX7_init_206 : decode cX7_init 206 = .ok (.aload_n 0, 1) := by decide +kernel
theorem dX7_init_207 : decode cX7_init 207 = .ok (.getfield 45, 3) := by decide +kernel
theorem dX7_init_210 : decode cX7_init 210 = .ok (.if_icmp .ge 32, 3) := by decide +kernel
theorem dX7_init_213 : decode cX7_init 213 = .ok (.aload_n 0, 1) := by decide +kernel
theorem dX7_init_214 : decode cX7_init 214 = .ok (.iload_n 3, 1) := by decide +kernel
theorem dX7_init_215 : decode cX7_init 215 = .ok (.iload 4, 2) := by decide +kernel
theorem dX7_init_217 : decode cX7_init 217 = .ok (.invokevirtual 67, 3) := by decide +kernel
theorem dX7_init_220 : decode cX7_init 220 = .ok (.ifCond .eq 16, 3) := by decide +kernel
theorem dX7_init_223 : decode cX7_init 223 = .ok (.aload_n 0, 1) := by decide +kernel
theorem dX7_init_224 : decode cX7_init 224 = .ok (.getfield 60, 3) := by decide +kernel
theorem dX7_init_227 : decode cX7_init 227 = .ok (.iload_n 3, 1) := by decide +kernel
theorem dX7_init_228 : decode cX7_init 228 = .ok (.dup2, 1) := by decide +kernel
theorem dX7_init_229 : decode cX7_init 229 = .ok (.iaload, 1) := by decide +kernel
theorem dX7_init_230 : decode cX7_init 230 = .ok (.iconst 1, 1) := by decide +kernel
theorem dX7_init_231 : decode cX7_init 231 = .ok (.iload 4, 2) := by decide +kernel
theorem dX7_init_233 : decode cX7_init 233 = .ok (.ishl, 1) := by decide +kernel
theorem dX7_init_234 : decode cX7_init 234 = .ok (.ior, 1) := by decide +kernel
theorem dX7_init_235 : decode cX7_init 235 = .ok (.iastore, 1) := by decide +kernel
theorem dX7_init_236 : decode cX7_init 236 = .ok (.iinc 4 1, 3) := by decide +kernel
theorem dX7_init_239 : decode cX7_init 239 = .ok (.goto (-35), 3) := by decide +kernel
theorem dX7_init_242 : decode cX7_init 242 = .ok (.iinc 3 1, 3) := by decide +kernel
theorem dX7_init_245 : decode cX7_init 245 = .ok (.goto (-52), 3) := by decide +kernel
theorem dX7_init_248 : decode cX7_init 248 = .ok (.return_, 1) := by decide +kernel
theorem dX7_standsOnceBetween_0 : decode cX7_standsOnceBetween 0 = .ok (.aload_n 0, 1) := by decide +kernel
theorem dX7_standsOnceBetween_1 : decode cX7_standsOnceBetween 1 = .ok (.getfield 54, 3) := by decide +kernel
theorem dX7_standsOnceBetween_4 : decode cX7_standsOnceBetween 4 = .ok (.iload_n 1, 1) := by decide +kernel
theorem dX7_standsOnceBetween_5 : decode cX7_standsOnceBetween 5 = .ok (.iaload, 1) := by decide +kernel
theorem dX7_standsOnceBetween_6 : decode cX7_standsOnceBetween 6 = .ok (.aload_n 0, 1) := by decide +kernel
theorem dX7_standsOnceBetween_7 : decode cX7_standsOnceBetween 7 = .ok (.getfield 54, 3) := by decide +kernel
theorem dX7_standsOnceBetween_10 : decode cX7_standsOnceBetween 10 = .ok (.iload_n 2, 1) := by decide +kernel
theorem dX7_standsOnceBetween_11 : decode cX7_standsOnceBetween 11 = .ok (.iaload, 1) := by decide +kernel
theorem dX7_standsOnceBetween_12 : decode cX7_standsOnceBetween 12 = .ok (.if_icmp .ge 22, 3) := by decide +kernel
theorem dX7_standsOnceBetween_15 : decode cX7_standsOnceBetween 15 = .ok (.aload_n 0, 1) := by decide +kernel
theorem dX7_standsOnceBetween_16 : decode cX7_standsOnceBetween 16 = .ok (.getfield 54, 3) := by decide +kernel
theorem dX7_standsOnceBetween_19 : decode cX7_standsOnceBetween 19 = .ok (.iload_n 2, 1) := by decide +kernel
theorem dX7_standsOnceBetween_20 : decode cX7_standsOnceBetween 20 = .ok (.iaload, 1) := by decide +kernel
theorem dX7_standsOnceBetween_21 : decode cX7_standsOnceBetween 21 = .ok (.aload_n 0, 1) := by decide +kernel
theorem dX7_standsOnceBetween_22 : decode cX7_standsOnceBetween 22 = .ok (.getfield 57, 3) := by decide +kernel
theorem dX7_standsOnceBetween_25 : decode cX7_standsOnceBetween 25 = .ok (.iload_n 1, 1) := by decide +kernel
theorem dX7_standsOnceBetween_26 : decode cX7_standsOnceBetween 26 = .ok (.iaload, 1) := by decide +kernel
theorem dX7_standsOnceBetween_27 : decode cX7_standsOnceBetween 27 = .ok (.if_icmp .ge 7, 3) := by decide +kernel
theorem dX7_standsOnceBetween_30 : decode cX7_standsOnceBetween 30 = .ok (.iconst 1, 1) := by decide +kernel
theorem dX7_standsOnceBetween_31 : decode cX7_standsOnceBetween 31 = .ok (.goto 4, 3) := by decide +kernel
theorem dX7_standsOnceBetween_34 : decode cX7_standsOnceBetween 34 = .ok (.iconst 0, 1) := by decide +kernel
theorem dX7_standsOnceBetween_35 : decode cX7_standsOnceBetween 35 = .ok (.istore_n 3, 1) := by decide +kernel
theorem dX7_standsOnceBetween_36 : decode cX7_standsOnceBetween 36 = .ok (.aload_n 0, 1) := by decide +kernel
theorem dX7_standsOnceBetween_37 : decode cX7_standsOnceBetween 37 = .ok (.getfield 54, 3) := by decide +kernel
theorem dX7_standsOnceBetween_40 : decode cX7_standsOnceBetween 40 = .ok (.iload_n 1, 1) := by decide +kernel
theorem dX7_standsOnceBetween_41 : decode cX7_standsOnceBetween 41 = .ok (.iaload, 1) := by decide +kernel
theorem dX7_standsOnceBetween_42 : decode cX7_standsOnceBetween 42 = .ok (.aload_n 0, 1) := by decide +kernel
theorem dX7_standsOnceBetween_43 : decode cX7_standsOnceBetween 43 = .ok (.getfield 57, 3) := by decide +kernel
theorem dX7_standsOnceBetween_46 : decode cX7_standsOnceBetween 46 = .ok (.iload_n 2, 1) := by decide +kernel
theorem dX7_standsOnceBetween_47 : decode cX7_standsOnceBetween 47 = .ok (.iaload, 1) := by decide +kernel
theorem dX7_standsOnceBetween_48 : decode cX7_standsOnceBetween 48 = .ok (.if_icmp .ge 22, 3) := by decide +kernel
theorem dX7_standsOnceBetween_51 : decode cX7_standsOnceBetween 51 = .ok (.aload_n 0, 1) := by decide +kernel
theorem dX7_standsOnceBetween_52 : decode cX7_standsOnceBetween 52 = .ok (.getfield 57, 3) := by decide +kernel
theorem dX7_standsOnceBetween_55 : decode cX7_standsOnceBetween 55 = .ok (.iload_n 2, 1) := by decide +kernel
theorem dX7_standsOnceBetween_56 : decode cX7_standsOnceBetween 56 = .ok (.iaload, 1) := by decide +kernel
theorem dX7_standsOnceBetween_57 : decode cX7_standsOnceBetween 57 = .ok (.aload_n 0, 1) := by decide +kernel
theorem dX7_standsOnceBetween_58 : decode cX7_standsOnceBetween 58 = .ok (.getfield 57, 3) := by decide +kernel
theorem dX7_standsOnceBetween_61 : decode cX7_standsOnceBetween 61 = .ok (.iload_n 1, 1) := by decide +kernel
theorem dX7_standsOnceBetween_62 : decode cX7_standsOnceBetween 62 = .ok (.iaload, 1) := by decide +kernel
theorem dX7_standsOnceBetween_63 : decode cX7_standsOnceBetween 63 = .ok (.if_icmp .ge 7, 3) := by decide +kernel
theorem dX7_standsOnceBetween_66 : decode cX7_standsOnceBetween 66 = .ok (.iconst 1, 1) := by decide +kernel
theorem dX7_standsOnceBetween_67 : decode cX7_standsOnceBetween 67 = .ok (.goto 4, 3) := by decide +kernel
theorem dX7_standsOnceBetween_70 : decode cX7_standsOnceBetween 70 = .ok (.iconst 0, 1) := by decide +kernel
theorem dX7_standsOnceBetween_71 : decode cX7_standsOnceBetween 71 = .ok (.istore 4, 2) := by decide +kernel
theorem dX7_standsOnceBetween_73 : decode cX7_standsOnceBetween 73 = .ok (.iload_n 3, 1) := by decide +kernel
theorem dX7_standsOnceBetween_74 : decode cX7_standsOnceBetween 74 = .ok (.iload 4, 2) := by decide +kernel
theorem dX7_standsOnceBetween_76 : decode cX7_standsOnceBetween 76 = .ok (.if_icmp .eq 7, 3) := by decide +kernel
theorem dX7_standsOnceBetween_79 : decode cX7_standsOnceBetween 79 = .ok (.iconst 1, 1) := by decide +kernel
theorem dX7_standsOnceBetween_80 : decode cX7_standsOnceBetween 80 = .ok (.goto 4, 3) := by decide +kernel
theorem dX7_standsOnceBetween_83 : decode cX7_standsOnceBetween 83 = .ok (.iconst 0, 1) := by decide +kernel
theorem dX7_standsOnceBetween_84 : decode cX7_standsOnceBetween 84 = .ok (.ireturn, 1) := by decide +kernel
theorem dX7_letterCount_0 : decode cX7_letterCount 0 = .ok (.aload_n 0, 1) := by decide +kernel
theorem dX7_letterCount_1 : decode cX7_letterCount 1 = .ok (.getfield 45, 3) := by decide +kernel
theorem dX7_letterCount_4 : decode cX7_letterCount 4 = .ok (.ireturn, 1) := by decide +kernel
theorem dX7_placeCount_0 : decode cX7_placeCount 0 = .ok (.aload_n 0, 1) := by decide +kernel
theorem dX7_placeCount_1 : decode cX7_placeCount 1 = .ok (.getfield 48, 3) := by decide +kernel
theorem dX7_placeCount_4 : decode cX7_placeCount 4 = .ok (.ireturn, 1) := by decide +kernel
theorem dX7_hasLetter_0 : decode cX7_hasLetter 0 = .ok (.iload_n 1, 1) := by decide +kernel
theorem dX7_hasLetter_1 : decode cX7_hasLetter 1 = .ok (.ifCond .lt 15, 3) := by decide +kernel
theorem dX7_hasLetter_4 : decode cX7_hasLetter 4 = .ok (.iload_n 1, 1) := by decide +kernel
theorem dX7_hasLetter_5 : decode cX7_hasLetter 5 = .ok (.aload_n 0, 1) := by decide +kernel
theorem dX7_hasLetter_6 : decode cX7_hasLetter 6 = .ok (.getfield 45, 3) := by decide +kernel
theorem dX7_hasLetter_9 : decode cX7_hasLetter 9 = .ok (.if_icmp .ge 7, 3) := by decide +kernel
theorem dX7_hasLetter_12 : decode cX7_hasLetter 12 = .ok (.iconst 1, 1) := by decide +kernel
theorem dX7_hasLetter_13 : decode cX7_hasLetter 13 = .ok (.goto 4, 3) := by decide +kernel
theorem dX7_hasLetter_16 : decode cX7_hasLetter 16 = .ok (.iconst 0, 1) := by decide +kernel
theorem dX7_hasLetter_17 : decode cX7_hasLetter 17 = .ok (.ireturn, 1) := by decide +kernel
theorem dX7_hasThree_0 : decode cX7_hasThree 0 = .ok (.aload_n 0, 1) := by decide +kernel
theorem dX7_hasThree_1 : decode cX7_hasThree 1 = .ok (.iload_n 1, 1) := by decide +kernel
theorem dX7_hasThree_2 : decode cX7_hasThree 2 = .ok (.invokevirtual 71, 3) := by decide +kernel
theorem dX7_hasThree_5 : decode cX7_hasThree 5 = .ok (.ifCond .eq 38, 3) := by decide +kernel
theorem dX7_hasThree_8 : decode cX7_hasThree 8 = .ok (.aload_n 0, 1) := by decide +kernel
theorem dX7_hasThree_9 : decode cX7_hasThree 9 = .ok (.iload_n 2, 1) := by decide +kernel
theorem dX7_hasThree_10 : decode cX7_hasThree 10 = .ok (.invokevirtual 71, 3) := by decide +kernel
theorem dX7_hasThree_13 : decode cX7_hasThree 13 = .ok (.ifCond .eq 30, 3) := by decide +kernel
theorem dX7_hasThree_16 : decode cX7_hasThree 16 = .ok (.aload_n 0, 1) := by decide +kernel
theorem dX7_hasThree_17 : decode cX7_hasThree 17 = .ok (.iload_n 3, 1) := by decide +kernel
theorem dX7_hasThree_18 : decode cX7_hasThree 18 = .ok (.invokevirtual 71, 3) := by decide +kernel
theorem dX7_hasThree_21 : decode cX7_hasThree 21 = .ok (.ifCond .eq 22, 3) := by decide +kernel
theorem dX7_hasThree_24 : decode cX7_hasThree 24 = .ok (.iload_n 1, 1) := by decide +kernel
theorem dX7_hasThree_25 : decode cX7_hasThree 25 = .ok (.iload_n 2, 1) := by decide +kernel
theorem dX7_hasThree_26 : decode cX7_hasThree 26 = .ok (.if_icmp .eq 17, 3) := by decide +kernel
theorem dX7_hasThree_29 : decode cX7_hasThree 29 = .ok (.iload_n 2, 1) := by decide +kernel
theorem dX7_hasThree_30 : decode cX7_hasThree 30 = .ok (.iload_n 3, 1) := by decide +kernel
theorem dX7_hasThree_31 : decode cX7_hasThree 31 = .ok (.if_icmp .eq 12, 3) := by decide +kernel
theorem dX7_hasThree_34 : decode cX7_hasThree 34 = .ok (.iload_n 3, 1) := by decide +kernel
theorem dX7_hasThree_35 : decode cX7_hasThree 35 = .ok (.iload_n 1, 1) := by decide +kernel
theorem dX7_hasThree_36 : decode cX7_hasThree 36 = .ok (.if_icmp .eq 7, 3) := by decide +kernel
theorem dX7_hasThree_39 : decode cX7_hasThree 39 = .ok (.iconst 1, 1) := by decide +kernel
theorem dX7_hasThree_40 : decode cX7_hasThree 40 = .ok (.goto 4, 3) := by decide +kernel
theorem dX7_hasThree_43 : decode cX7_hasThree 43 = .ok (.iconst 0, 1) := by decide +kernel
theorem dX7_hasThree_44 : decode cX7_hasThree 44 = .ok (.ireturn, 1) := by decide +kernel
theorem dX7_hasLetters_0 : decode cX7_hasLetters 0 = .ok (.iload_n 1, 1) := by decide +kernel
theorem dX7_hasLetters_1 : decode cX7_hasLetters 1 = .ok (.ifCond .lt 17, 3) := by decide +kernel
theorem dX7_hasLetters_4 : decode cX7_hasLetters 4 = .ok (.iload_n 1, 1) := by decide +kernel
theorem dX7_hasLetters_5 : decode cX7_hasLetters 5 = .ok (.iconst 1, 1) := by decide +kernel
theorem dX7_hasLetters_6 : decode cX7_hasLetters 6 = .ok (.aload_n 0, 1) := by decide +kernel
theorem dX7_hasLetters_7 : decode cX7_hasLetters 7 = .ok (.getfield 45, 3) := by decide +kernel
theorem dX7_hasLetters_10 : decode cX7_hasLetters 10 = .ok (.ishl, 1) := by decide +kernel
theorem dX7_hasLetters_11 : decode cX7_hasLetters 11 = .ok (.if_icmp .ge 7, 3) := by decide +kernel
theorem dX7_hasLetters_14 : decode cX7_hasLetters 14 = .ok (.iconst 1, 1) := by decide +kernel
theorem dX7_hasLetters_15 : decode cX7_hasLetters 15 = .ok (.goto 4, 3) := by decide +kernel
theorem dX7_hasLetters_18 : decode cX7_hasLetters 18 = .ok (.iconst 0, 1) := by decide +kernel
theorem dX7_hasLetters_19 : decode cX7_hasLetters 19 = .ok (.ireturn, 1) := by decide +kernel
theorem dX7_hasPlace_0 : decode cX7_hasPlace 0 = .ok (.iload_n 1, 1) := by decide +kernel
theorem dX7_hasPlace_1 : decode cX7_hasPlace 1 = .ok (.ifCond .lt 15, 3) := by decide +kernel
theorem dX7_hasPlace_4 : decode cX7_hasPlace 4 = .ok (.iload_n 1, 1) := by decide +kernel
theorem dX7_hasPlace_5 : decode cX7_hasPlace 5 = .ok (.aload_n 0, 1) := by decide +kernel
theorem dX7_hasPlace_6 : decode cX7_hasPlace 6 = .ok (.getfield 48, 3) := by decide +kernel
theorem dX7_hasPlace_9 : decode cX7_hasPlace 9 = .ok (.if_icmp .ge 7, 3) := by decide +kernel
theorem dX7_hasPlace_12 : decode cX7_hasPlace 12 = .ok (.iconst 1, 1) := by decide +kernel
theorem dX7_hasPlace_13 : decode cX7_hasPlace 13 = .ok (.goto 4, 3) := by decide +kernel
theorem dX7_hasPlace_16 : decode cX7_hasPlace 16 = .ok (.iconst 0, 1) := by decide +kernel
theorem dX7_hasPlace_17 : decode cX7_hasPlace 17 = .ok (.ireturn, 1) := by decide +kernel
theorem dX7_stepCount_0 : decode cX7_stepCount 0 = .ok (.iconst 1, 1) := by decide +kernel
theorem dX7_stepCount_1 : decode cX7_stepCount 1 = .ok (.aload_n 0, 1) := by decide +kernel
theorem dX7_stepCount_2 : decode cX7_stepCount 2 = .ok (.getfield 48, 3) := by decide +kernel
theorem dX7_stepCount_5 : decode cX7_stepCount 5 = .ok (.invokestatic 75, 3) := by decide +kernel
theorem dX7_stepCount_8 : decode cX7_stepCount 8 = .ok (.ireturn, 1) := by decide +kernel
theorem dX7_hasStep_0 : decode cX7_hasStep 0 = .ok (.iload_n 1, 1) := by decide +kernel
theorem dX7_hasStep_1 : decode cX7_hasStep 1 = .ok (.ifCond .lt 15, 3) := by decide +kernel
theorem dX7_hasStep_4 : decode cX7_hasStep 4 = .ok (.iload_n 1, 1) := by decide +kernel
theorem dX7_hasStep_5 : decode cX7_hasStep 5 = .ok (.aload_n 0, 1) := by decide +kernel
theorem dX7_hasStep_6 : decode cX7_hasStep 6 = .ok (.invokevirtual 81, 3) := by decide +kernel
theorem dX7_hasStep_9 : decode cX7_hasStep 9 = .ok (.if_icmp .ge 7, 3) := by decide +kernel
theorem dX7_hasStep_12 : decode cX7_hasStep 12 = .ok (.iconst 1, 1) := by decide +kernel
theorem dX7_hasStep_13 : decode cX7_hasStep 13 = .ok (.goto 4, 3) := by decide +kernel
theorem dX7_hasStep_16 : decode cX7_hasStep 16 = .ok (.iconst 0, 1) := by decide +kernel
theorem dX7_hasStep_17 : decode cX7_hasStep 17 = .ok (.ireturn, 1) := by decide +kernel
theorem dX7_letterOn_0 : decode cX7_letterOn 0 = .ok (.aload_n 0, 1) := by decide +kernel
theorem dX7_letterOn_1 : decode cX7_letterOn 1 = .ok (.iload_n 1, 1) := by decide +kernel
theorem dX7_letterOn_2 : decode cX7_letterOn 2 = .ok (.invokevirtual 84, 3) := by decide +kernel
theorem dX7_letterOn_5 : decode cX7_letterOn 5 = .ok (.ifCond .eq 12, 3) := by decide +kernel
theorem dX7_letterOn_8 : decode cX7_letterOn 8 = .ok (.aload_n 0, 1) := by decide +kernel
theorem dX7_letterOn_9 : decode cX7_letterOn 9 = .ok (.getfield 51, 3) := by decide +kernel
theorem dX7_letterOn_12 : decode cX7_letterOn 12 = .ok (.iload_n 1, 1) := by decide +kernel
theorem dX7_letterOn_13 : decode cX7_letterOn 13 = .ok (.iaload, 1) := by decide +kernel
theorem dX7_letterOn_14 : decode cX7_letterOn 14 = .ok (.goto 4, 3) := by decide +kernel
theorem dX7_letterOn_17 : decode cX7_letterOn 17 = .ok (.iconst (-1), 1) := by decide +kernel
theorem dX7_letterOn_18 : decode cX7_letterOn 18 = .ok (.ireturn, 1) := by decide +kernel
theorem dX7_placeOf_0 : decode cX7_placeOf 0 = .ok (.aload_n 0, 1) := by decide +kernel
theorem dX7_placeOf_1 : decode cX7_placeOf 1 = .ok (.iload_n 1, 1) := by decide +kernel
theorem dX7_placeOf_2 : decode cX7_placeOf 2 = .ok (.invokevirtual 71, 3) := by decide +kernel
theorem dX7_placeOf_5 : decode cX7_placeOf 5 = .ok (.ifCond .ne 5, 3) := by decide +kernel
theorem dX7_placeOf_8 : decode cX7_placeOf 8 = .ok (.iconst (-1), 1) := by decide +kernel
theorem dX7_placeOf_9 : decode cX7_placeOf 9 = .ok (.ireturn, 1) := by decide +kernel
theorem dX7_placeOf_10 : decode cX7_placeOf 10 = .ok (.iload_n 2, 1) := by decide +kernel
theorem dX7_placeOf_11 : decode cX7_placeOf 11 = .ok (.ifCond .ne 12, 3) := by decide +kernel
theorem dX7_placeOf_14 : decode cX7_placeOf 14 = .ok (.aload_n 0, 1) := by decide +kernel
theorem dX7_placeOf_15 : decode cX7_placeOf 15 = .ok (.getfield 54, 3) := by decide +kernel
theorem dX7_placeOf_18 : decode cX7_placeOf 18 = .ok (.iload_n 1, 1) := by decide +kernel
theorem dX7_placeOf_19 : decode cX7_placeOf 19 = .ok (.iaload, 1) := by decide +kernel
theorem dX7_placeOf_20 : decode cX7_placeOf 20 = .ok (.goto 9, 3) := by decide +kernel
theorem dX7_placeOf_23 : decode cX7_placeOf 23 = .ok (.aload_n 0, 1) := by decide +kernel
theorem dX7_placeOf_24 : decode cX7_placeOf 24 = .ok (.getfield 57, 3) := by decide +kernel
theorem dX7_placeOf_27 : decode cX7_placeOf 27 = .ok (.iload_n 1, 1) := by decide +kernel
theorem dX7_placeOf_28 : decode cX7_placeOf 28 = .ok (.iaload, 1) := by decide +kernel
theorem dX7_placeOf_29 : decode cX7_placeOf 29 = .ok (.ireturn, 1) := by decide +kernel
theorem dX7_isFirstOfLetter_0 : decode cX7_isFirstOfLetter 0 = .ok (.aload_n 0, 1) := by decide +kernel
theorem dX7_isFirstOfLetter_1 : decode cX7_isFirstOfLetter 1 = .ok (.iload_n 1, 1) := by decide +kernel
theorem dX7_isFirstOfLetter_2 : decode cX7_isFirstOfLetter 2 = .ok (.invokevirtual 84, 3) := by decide +kernel
theorem dX7_isFirstOfLetter_5 : decode cX7_isFirstOfLetter 5 = .ok (.ifCond .eq 22, 3) := by decide +kernel
theorem dX7_isFirstOfLetter_8 : decode cX7_isFirstOfLetter 8 = .ok (.aload_n 0, 1) := by decide +kernel
theorem dX7_isFirstOfLetter_9 : decode cX7_isFirstOfLetter 9 = .ok (.getfield 54, 3) := by decide +kernel
theorem dX7_isFirstOfLetter_12 : decode cX7_isFirstOfLetter 12 = .ok (.aload_n 0, 1) := by decide +kernel
theorem dX7_isFirstOfLetter_13 : decode cX7_isFirstOfLetter 13 = .ok (.getfield 51, 3) := by decide +kernel
theorem dX7_isFirstOfLetter_16 : decode cX7_isFirstOfLetter 16 = .ok (.iload_n 1, 1) := by decide +kernel
theorem dX7_isFirstOfLetter_17 : decode cX7_isFirstOfLetter 17 = .ok (.iaload, 1) := by decide +kernel
theorem dX7_isFirstOfLetter_18 : decode cX7_isFirstOfLetter 18 = .ok (.iaload, 1) := by decide +kernel
theorem dX7_isFirstOfLetter_19 : decode cX7_isFirstOfLetter 19 = .ok (.iload_n 1, 1) := by decide +kernel
theorem dX7_isFirstOfLetter_20 : decode cX7_isFirstOfLetter 20 = .ok (.if_icmp .ne 7, 3) := by decide +kernel
theorem dX7_isFirstOfLetter_23 : decode cX7_isFirstOfLetter 23 = .ok (.iconst 1, 1) := by decide +kernel
theorem dX7_isFirstOfLetter_24 : decode cX7_isFirstOfLetter 24 = .ok (.goto 4, 3) := by decide +kernel
theorem dX7_isFirstOfLetter_27 : decode cX7_isFirstOfLetter 27 = .ok (.iconst 0, 1) := by decide +kernel
theorem dX7_isFirstOfLetter_28 : decode cX7_isFirstOfLetter 28 = .ok (.ireturn, 1) := by decide +kernel
theorem dX7_placeBehind_0 : decode cX7_placeBehind 0 = .ok (.iload_n 1, 1) := by decide +kernel
theorem dX7_placeBehind_1 : decode cX7_placeBehind 1 = .ok (.iconst 1, 1) := by decide +kernel
theorem dX7_placeBehind_2 : decode cX7_placeBehind 2 = .ok (.iadd, 1) := by decide +kernel
theorem dX7_placeBehind_3 : decode cX7_placeBehind 3 = .ok (.aload_n 0, 1) := by decide +kernel
theorem dX7_placeBehind_4 : decode cX7_placeBehind 4 = .ok (.getfield 48, 3) := by decide +kernel
theorem dX7_placeBehind_7 : decode cX7_placeBehind 7 = .ok (.if_icmp .ge 9, 3) := by decide +kernel
theorem dX7_placeBehind_10 : decode cX7_placeBehind 10 = .ok (.iload_n 1, 1) := by decide +kernel
theorem dX7_placeBehind_11 : decode cX7_placeBehind 11 = .ok (.iconst 1, 1) := by decide +kernel
theorem dX7_placeBehind_12 : decode cX7_placeBehind 12 = .ok (.iadd, 1) := by decide +kernel
theorem dX7_placeBehind_13 : decode cX7_placeBehind 13 = .ok (.goto 4, 3) := by decide +kernel
theorem dX7_placeBehind_16 : decode cX7_placeBehind 16 = .ok (.iconst 0, 1) := by decide +kernel
theorem dX7_placeBehind_17 : decode cX7_placeBehind 17 = .ok (.ireturn, 1) := by decide +kernel
theorem dX7_placeAhead_0 : decode cX7_placeAhead 0 = .ok (.iload_n 1, 1) := by decide +kernel
theorem dX7_placeAhead_1 : decode cX7_placeAhead 1 = .ok (.ifCond .le 9, 3) := by decide +kernel
theorem dX7_placeAhead_4 : decode cX7_placeAhead 4 = .ok (.iload_n 1, 1) := by decide +kernel
theorem dX7_placeAhead_5 : decode cX7_placeAhead 5 = .ok (.iconst 1, 1) := by decide +kernel
theorem dX7_placeAhead_6 : decode cX7_placeAhead 6 = .ok (.isub, 1) := by decide +kernel
theorem dX7_placeAhead_7 : decode cX7_placeAhead 7 = .ok (.goto 9, 3) := by decide +kernel
theorem dX7_placeAhead_10 : decode cX7_placeAhead 10 = .ok (.aload_n 0, 1) := by decide +kernel
theorem dX7_placeAhead_11 : decode cX7_placeAhead 11 = .ok (.getfield 48, 3) := by decide +kernel
theorem dX7_placeAhead_14 : decode cX7_placeAhead 14 = .ok (.iconst 1, 1) := by decide +kernel
theorem dX7_placeAhead_15 : decode cX7_placeAhead 15 = .ok (.isub, 1) := by decide +kernel
theorem dX7_placeAhead_16 : decode cX7_placeAhead 16 = .ok (.ireturn, 1) := by decide +kernel
theorem dX7_areBeside_0 : decode cX7_areBeside 0 = .ok (.aload_n 0, 1) := by decide +kernel
theorem dX7_areBeside_1 : decode cX7_areBeside 1 = .ok (.iload_n 1, 1) := by decide +kernel
theorem dX7_areBeside_2 : decode cX7_areBeside 2 = .ok (.invokevirtual 87, 3) := by decide +kernel
theorem dX7_areBeside_5 : decode cX7_areBeside 5 = .ok (.iload_n 2, 1) := by decide +kernel
theorem dX7_areBeside_6 : decode cX7_areBeside 6 = .ok (.if_icmp .eq 12, 3) := by decide +kernel
theorem dX7_areBeside_9 : decode cX7_areBeside 9 = .ok (.aload_n 0, 1) := by decide +kernel
theorem dX7_areBeside_10 : decode cX7_areBeside 10 = .ok (.iload_n 2, 1) := by decide +kernel
theorem dX7_areBeside_11 : decode cX7_areBeside 11 = .ok (.invokevirtual 87, 3) := by decide +kernel
theorem dX7_areBeside_14 : decode cX7_areBeside 14 = .ok (.iload_n 1, 1) := by decide +kernel
theorem dX7_areBeside_15 : decode cX7_areBeside 15 = .ok (.if_icmp .ne 7, 3) := by decide +kernel
theorem dX7_areBeside_18 : decode cX7_areBeside 18 = .ok (.iconst 1, 1) := by decide +kernel
theorem dX7_areBeside_19 : decode cX7_areBeside 19 = .ok (.goto 4, 3) := by decide +kernel
theorem dX7_areBeside_22 : decode cX7_areBeside 22 = .ok (.iconst 0, 1) := by decide +kernel
theorem dX7_areBeside_23 : decode cX7_areBeside 23 = .ok (.ireturn, 1) := by decide +kernel
theorem dX7_betweenSet_0 : decode cX7_betweenSet 0 = .ok (.aload_n 0, 1) := by decide +kernel
theorem dX7_betweenSet_1 : decode cX7_betweenSet 1 = .ok (.iload_n 1, 1) := by decide +kernel
theorem dX7_betweenSet_2 : decode cX7_betweenSet 2 = .ok (.invokevirtual 71, 3) := by decide +kernel
theorem dX7_betweenSet_5 : decode cX7_betweenSet 5 = .ok (.ifCond .eq 12, 3) := by decide +kernel
theorem dX7_betweenSet_8 : decode cX7_betweenSet 8 = .ok (.aload_n 0, 1) := by decide +kernel
theorem dX7_betweenSet_9 : decode cX7_betweenSet 9 = .ok (.getfield 60, 3) := by decide +kernel
theorem dX7_betweenSet_12 : decode cX7_betweenSet 12 = .ok (.iload_n 1, 1) := by decide +kernel
theorem dX7_betweenSet_13 : decode cX7_betweenSet 13 = .ok (.iaload, 1) := by decide +kernel
theorem dX7_betweenSet_14 : decode cX7_betweenSet 14 = .ok (.goto 4, 3) := by decide +kernel
theorem dX7_betweenSet_17 : decode cX7_betweenSet 17 = .ok (.iconst 0, 1) := by decide +kernel
theorem dX7_betweenSet_18 : decode cX7_betweenSet 18 = .ok (.ireturn, 1) := by decide +kernel
theorem dX7_sharedBetween_0 : decode cX7_sharedBetween 0 = .ok (.aload_n 0, 1) := by decide +kernel
theorem dX7_sharedBetween_1 : decode cX7_sharedBetween 1 = .ok (.iload_n 1, 1) := by decide +kernel
theorem dX7_sharedBetween_2 : decode cX7_sharedBetween 2 = .ok (.invokevirtual 90, 3) := by decide +kernel
theorem dX7_sharedBetween_5 : decode cX7_sharedBetween 5 = .ok (.aload_n 0, 1) := by decide +kernel
theorem dX7_sharedBetween_6 : decode cX7_sharedBetween 6 = .ok (.iload_n 2, 1) := by decide +kernel
theorem dX7_sharedBetween_7 : decode cX7_sharedBetween 7 = .ok (.invokevirtual 90, 3) := by decide +kernel
theorem dX7_sharedBetween_10 : decode cX7_sharedBetween 10 = .ok (.iand, 1) := by decide +kernel
theorem dX7_sharedBetween_11 : decode cX7_sharedBetween 11 = .ok (.invokestatic 93, 3) := by decide +kernel
theorem dX7_sharedBetween_14 : decode cX7_sharedBetween 14 = .ok (.ireturn, 1) := by decide +kernel
theorem dX7_parts_0 : decode cX7_parts 0 = .ok (.aload_n 1, 1) := by decide +kernel
theorem dX7_parts_1 : decode cX7_parts 1 = .ok (.aload_n 0, 1) := by decide +kernel
theorem dX7_parts_2 : decode cX7_parts 2 = .ok (.getfield 45, 3) := by decide +kernel
theorem dX7_parts_5 : decode cX7_parts 5 = .ok (.invokevirtual 98, 3) := by decide +kernel
theorem dX7_parts_8 : decode cX7_parts 8 = .ok (.iconst 0, 1) := by decide +kernel
theorem dX7_parts_9 : decode cX7_parts 9 = .ok (.istore_n 2, 1) := by decide +kernel
theorem dX7_parts_10 : decode cX7_parts 10 = .ok (.iload_n 2, 1) := by decide +kernel
theorem dX7_parts_11 : decode cX7_parts 11 = .ok (.aload_n 0, 1) := by decide +kernel
theorem dX7_parts_12 : decode cX7_parts 12 = .ok (.getfield 45, 3) := by decide +kernel
theorem dX7_parts_15 : decode cX7_parts 15 = .ok (.if_icmp .ge 41, 3) := by decide +kernel
theorem dX7_parts_18 : decode cX7_parts 18 = .ok (.iconst 0, 1) := by decide +kernel
theorem dX7_parts_19 : decode cX7_parts 19 = .ok (.istore_n 3, 1) := by decide +kernel
theorem dX7_parts_20 : decode cX7_parts 20 = .ok (.iload_n 3, 1) := by decide +kernel
theorem dX7_parts_21 : decode cX7_parts 21 = .ok (.iload_n 2, 1) := by decide +kernel
theorem dX7_parts_22 : decode cX7_parts 22 = .ok (.if_icmp .ge 28, 3) := by decide +kernel
theorem dX7_parts_25 : decode cX7_parts 25 = .ok (.aload_n 0, 1) := by decide +kernel
theorem dX7_parts_26 : decode cX7_parts 26 = .ok (.getfield 60, 3) := by decide +kernel
theorem dX7_parts_29 : decode cX7_parts 29 = .ok (.iload_n 2, 1) := by decide +kernel
theorem dX7_parts_30 : decode cX7_parts 30 = .ok (.iaload, 1) := by decide +kernel
theorem dX7_parts_31 : decode cX7_parts 31 = .ok (.iload_n 3, 1) := by decide +kernel
theorem dX7_parts_32 : decode cX7_parts 32 = .ok (.invokestatic 104, 3) := by decide +kernel
theorem dX7_parts_35 : decode cX7_parts 35 = .ok (.ifCond .eq 9, 3) := by decide +kernel
theorem dX7_parts_38 : decode cX7_parts 38 = .ok (.aload_n 1, 1) := by decide +kernel
theorem dX7_parts_39 : decode cX7_parts 39 = .ok (.iload_n 2, 1) := by decide +kernel
theorem dX7_parts_40 : decode cX7_parts 40 = .ok (.iload_n 3, 1) := by decide +kernel
theorem dX7_parts_41 : decode cX7_parts 41 = .ok (.invokevirtual 107, 3) := by decide +kernel
theorem dX7_parts_44 : decode cX7_parts 44 = .ok (.iinc 3 1, 3) := by decide +kernel
theorem dX7_parts_47 : decode cX7_parts 47 = .ok (.goto (-27), 3) := by decide +kernel
theorem dX7_parts_50 : decode cX7_parts 50 = .ok (.iinc 2 1, 3) := by decide +kernel
theorem dX7_parts_53 : decode cX7_parts 53 = .ok (.goto (-43), 3) := by decide +kernel
theorem dX7_parts_56 : decode cX7_parts 56 = .ok (.aload_n 1, 1) := by decide +kernel
theorem dX7_parts_57 : decode cX7_parts 57 = .ok (.invokevirtual 111, 3) := by decide +kernel
theorem dX7_parts_60 : decode cX7_parts 60 = .ok (.ireturn, 1) := by decide +kernel
theorem dX7_brokenLaw_0 : decode cX7_brokenLaw 0 = .ok (.aload_n 0, 1) := by decide +kernel
theorem dX7_brokenLaw_1 : decode cX7_brokenLaw 1 = .ok (.invokevirtual 114, 3) := by decide +kernel
theorem dX7_brokenLaw_4 : decode cX7_brokenLaw 4 = .ok (.ifCond .ne 5, 3) := by decide +kernel
theorem dX7_brokenLaw_7 : decode cX7_brokenLaw 7 = .ok (.iconst 1, 1) := by decide +kernel
theorem dX7_brokenLaw_8 : decode cX7_brokenLaw 8 = .ok (.ireturn, 1) := by decide +kernel
theorem dX7_brokenLaw_9 : decode cX7_brokenLaw 9 = .ok (.aload_n 0, 1) := by decide +kernel
theorem dX7_brokenLaw_10 : decode cX7_brokenLaw 10 = .ok (.invokevirtual 118, 3) := by decide +kernel
theorem dX7_brokenLaw_13 : decode cX7_brokenLaw 13 = .ok (.ifCond .ne 5, 3) := by decide +kernel
theorem dX7_brokenLaw_16 : decode cX7_brokenLaw 16 = .ok (.iconst 2, 1) := by decide +kernel
theorem dX7_brokenLaw_17 : decode cX7_brokenLaw 17 = .ok (.ireturn, 1) := by decide +kernel
theorem dX7_brokenLaw_18 : decode cX7_brokenLaw 18 = .ok (.aload_n 0, 1) := by decide +kernel
theorem dX7_brokenLaw_19 : decode cX7_brokenLaw 19 = .ok (.aload_n 1, 1) := by decide +kernel
theorem dX7_brokenLaw_20 : decode cX7_brokenLaw 20 = .ok (.invokevirtual 121, 3) := by decide +kernel
theorem dX7_brokenLaw_23 : decode cX7_brokenLaw 23 = .ok (.ifCond .eq 7, 3) := by decide +kernel
theorem dX7_brokenLaw_26 : decode cX7_brokenLaw 26 = .ok (.iconst 0, 1) := by decide +kernel
theorem dX7_brokenLaw_27 : decode cX7_brokenLaw 27 = .ok (.goto 4, 3) := by decide +kernel
theorem dX7_brokenLaw_30 : decode cX7_brokenLaw 30 = .ok (.iconst 3, 1) := by decide +kernel
theorem dX7_brokenLaw_31 : decode cX7_brokenLaw 31 = .ok (.ireturn, 1) := by decide +kernel
theorem dX7_eachIsBetweenEvenly_0 : decode cX7_eachIsBetweenEvenly 0 = .ok (.iconst 0, 1) := by decide +kernel
theorem dX7_eachIsBetweenEvenly_1 : decode cX7_eachIsBetweenEvenly 1 = .ok (.istore_n 1, 1) := by decide +kernel
theorem dX7_eachIsBetweenEvenly_2 : decode cX7_eachIsBetweenEvenly 2 = .ok (.iload_n 1, 1) := by decide +kernel
theorem dX7_eachIsBetweenEvenly_3 : decode cX7_eachIsBetweenEvenly 3 = .ok (.aload_n 0, 1) := by decide +kernel
theorem dX7_eachIsBetweenEvenly_4 : decode cX7_eachIsBetweenEvenly 4 = .ok (.getfield 45, 3) := by decide +kernel
theorem dX7_eachIsBetweenEvenly_7 : decode cX7_eachIsBetweenEvenly 7 = .ok (.if_icmp .ge 26, 3) := by decide +kernel
theorem dX7_eachIsBetweenEvenly_10 : decode cX7_eachIsBetweenEvenly 10 = .ok (.aload_n 0, 1) := by decide +kernel
theorem dX7_eachIsBetweenEvenly_11 : decode cX7_eachIsBetweenEvenly 11 = .ok (.getfield 60, 3) := by decide +kernel
theorem dX7_eachIsBetweenEvenly_14 : decode cX7_eachIsBetweenEvenly 14 = .ok (.iload_n 1, 1) := by decide +kernel
theorem dX7_eachIsBetweenEvenly_15 : decode cX7_eachIsBetweenEvenly 15 = .ok (.iaload, 1) := by decide +kernel
theorem dX7_eachIsBetweenEvenly_16 : decode cX7_eachIsBetweenEvenly 16 = .ok (.invokestatic 93, 3) := by decide +kernel
theorem dX7_eachIsBetweenEvenly_19 : decode cX7_eachIsBetweenEvenly 19 = .ok (.invokestatic 125, 3) := by decide +kernel
theorem dX7_eachIsBetweenEvenly_22 : decode cX7_eachIsBetweenEvenly 22 = .ok (.ifCond .ne 5, 3) := by decide +kernel
theorem dX7_eachIsBetweenEvenly_25 : decode cX7_eachIsBetweenEvenly 25 = .ok (.iconst 0, 1) := by decide +kernel
theorem dX7_eachIsBetweenEvenly_26 : decode cX7_eachIsBetweenEvenly 26 = .ok (.ireturn, 1) := by decide +kernel
theorem dX7_eachIsBetweenEvenly_27 : decode cX7_eachIsBetweenEvenly 27 = .ok (.iinc 1 1, 3) := by decide +kernel
theorem dX7_eachIsBetweenEvenly_30 : decode cX7_eachIsBetweenEvenly 30 = .ok (.goto (-28), 3) := by decide +kernel
theorem dX7_eachIsBetweenEvenly_33 : decode cX7_eachIsBetweenEvenly 33 = .ok (.iconst 1, 1) := by decide +kernel
theorem dX7_eachIsBetweenEvenly_34 : decode cX7_eachIsBetweenEvenly 34 = .ok (.ireturn, 1) := by decide +kernel
theorem dX7_eachTwoApartShareEvenly_0 : decode cX7_eachTwoApartShareEvenly 0 = .ok (.iconst 0, 1) := by decide +kernel
theorem dX7_eachTwoApartShareEvenly_1 : decode cX7_eachTwoApartShareEvenly 1 = .ok (.istore_n 1, 1) := by decide +kernel
theorem dX7_eachTwoApartShareEvenly_2 : decode cX7_eachTwoApartShareEvenly 2 = .ok (.iload_n 1, 1) := by decide +kernel
theorem dX7_eachTwoApartShareEvenly_3 : decode cX7_eachTwoApartShareEvenly 3 = .ok (.aload_n 0, 1) := by decide +kernel
theorem dX7_eachTwoApartShareEvenly_4 : decode cX7_eachTwoApartShareEvenly 4 = .ok (.getfield 45, 3) := by decide +kernel
theorem dX7_eachTwoApartShareEvenly_7 : decode cX7_eachTwoApartShareEvenly 7 = .ok (.if_icmp .ge 49, 3) := by decide +kernel
theorem dX7_eachTwoApartShareEvenly_10 : decode cX7_eachTwoApartShareEvenly 10 = .ok (.iconst 0, 1) := by decide +kernel
theorem dX7_eachTwoApartShareEvenly_11 : decode cX7_eachTwoApartShareEvenly 11 = .ok (.istore_n 2, 1) := by decide +kernel
theorem dX7_eachTwoApartShareEvenly_12 : decode cX7_eachTwoApartShareEvenly 12 = .ok (.iload_n 2, 1) := by decide +kernel
theorem dX7_eachTwoApartShareEvenly_13 : decode cX7_eachTwoApartShareEvenly 13 = .ok (.iload_n 1, 1) := by decide +kernel
theorem dX7_eachTwoApartShareEvenly_14 : decode cX7_eachTwoApartShareEvenly 14 = .ok (.if_icmp .ge 36, 3) := by decide +kernel
theorem dX7_eachTwoApartShareEvenly_17 : decode cX7_eachTwoApartShareEvenly 17 = .ok (.aload_n 0, 1) := by decide +kernel
theorem dX7_eachTwoApartShareEvenly_18 : decode cX7_eachTwoApartShareEvenly 18 = .ok (.getfield 60, 3) := by decide +kernel
theorem dX7_eachTwoApartShareEvenly_21 : decode cX7_eachTwoApartShareEvenly 21 = .ok (.iload_n 1, 1) := by decide +kernel
theorem dX7_eachTwoApartShareEvenly_22 : decode cX7_eachTwoApartShareEvenly 22 = .ok (.iaload, 1) := by decide +kernel
theorem dX7_eachTwoApartShareEvenly_23 : decode cX7_eachTwoApartShareEvenly 23 = .ok (.iload_n 2, 1) := by decide +kernel
theorem dX7_eachTwoApartShareEvenly_24 : decode cX7_eachTwoApartShareEvenly 24 = .ok (.invokestatic 104, 3) := by decide +kernel
theorem dX7_eachTwoApartShareEvenly_27 : decode cX7_eachTwoApartShareEvenly 27 = .ok (.ifCond .ne 17, 3) := by decide +kernel
theorem dX7_eachTwoApartShareEvenly_30 : decode cX7_eachTwoApartShareEvenly 30 = .ok (.aload_n 0, 1) := by decide +kernel
theorem dX7_eachTwoApartShareEvenly_31 : decode cX7_eachTwoApartShareEvenly 31 = .ok (.iload_n 1, 1) := by decide +kernel
theorem dX7_eachTwoApartShareEvenly_32 : decode cX7_eachTwoApartShareEvenly 32 = .ok (.iload_n 2, 1) := by decide +kernel
theorem dX7_eachTwoApartShareEvenly_33 : decode cX7_eachTwoApartShareEvenly 33 = .ok (.invokevirtual 128, 3) := by decide +kernel
theorem dX7_eachTwoApartShareEvenly_36 : decode cX7_eachTwoApartShareEvenly 36 = .ok (.invokestatic 125, 3) := by decide +kernel
theorem dX7_eachTwoApartShareEvenly_39 : decode cX7_eachTwoApartShareEvenly 39 = .ok (.ifCond .ne 5, 3) := by decide +kernel
theorem dX7_eachTwoApartShareEvenly_42 : decode cX7_eachTwoApartShareEvenly 42 = .ok (.iconst 0, 1) := by decide +kernel
theorem dX7_eachTwoApartShareEvenly_43 : decode cX7_eachTwoApartShareEvenly 43 = .ok (.ireturn, 1) := by decide +kernel
theorem dX7_eachTwoApartShareEvenly_44 : decode cX7_eachTwoApartShareEvenly 44 = .ok (.iinc 2 1, 3) := by decide +kernel
theorem dX7_eachTwoApartShareEvenly_47 : decode cX7_eachTwoApartShareEvenly 47 = .ok (.goto (-35), 3) := by decide +kernel
theorem dX7_eachTwoApartShareEvenly_50 : decode cX7_eachTwoApartShareEvenly 50 = .ok (.iinc 1 1, 3) := by decide +kernel
theorem dX7_eachTwoApartShareEvenly_53 : decode cX7_eachTwoApartShareEvenly 53 = .ok (.goto (-51), 3) := by decide +kernel
theorem dX7_eachTwoApartShareEvenly_56 : decode cX7_eachTwoApartShareEvenly 56 = .ok (.iconst 1, 1) := by decide +kernel
theorem dX7_eachTwoApartShareEvenly_57 : decode cX7_eachTwoApartShareEvenly 57 = .ok (.ireturn, 1) := by decide +kernel
theorem dX7_sidesCanBeChosen_0 : decode cX7_sidesCanBeChosen 0 = .ok (.aload_n 1, 1) := by decide +kernel
theorem dX7_sidesCanBeChosen_1 : decode cX7_sidesCanBeChosen 1 = .ok (.iconst 2, 1) := by decide +kernel
theorem dX7_sidesCanBeChosen_2 : decode cX7_sidesCanBeChosen 2 = .ok (.aload_n 0, 1) := by decide +kernel
theorem dX7_sidesCanBeChosen_3 : decode cX7_sidesCanBeChosen 3 = .ok (.getfield 45, 3) := by decide +kernel
theorem dX7_sidesCanBeChosen_6 : decode cX7_sidesCanBeChosen 6 = .ok (.imul, 1) := by decide +kernel
theorem dX7_sidesCanBeChosen_7 : decode cX7_sidesCanBeChosen 7 = .ok (.invokevirtual 98, 3) := by decide +kernel
theorem dX7_sidesCanBeChosen_10 : decode cX7_sidesCanBeChosen 10 = .ok (.iconst 0, 1) := by decide +kernel
theorem dX7_sidesCanBeChosen_11 : decode cX7_sidesCanBeChosen 11 = .ok (.istore_n 2, 1) := by decide +kernel
theorem dX7_sidesCanBeChosen_12 : decode cX7_sidesCanBeChosen 12 = .ok (.iload_n 2, 1) := by decide +kernel
theorem dX7_sidesCanBeChosen_13 : decode cX7_sidesCanBeChosen 13 = .ok (.aload_n 0, 1) := by decide +kernel
theorem dX7_sidesCanBeChosen_14 : decode cX7_sidesCanBeChosen 14 = .ok (.getfield 45, 3) := by decide +kernel
theorem dX7_sidesCanBeChosen_17 : decode cX7_sidesCanBeChosen 17 = .ok (.if_icmp .ge 94, 3) := by decide +kernel
theorem dX7_sidesCanBeChosen_20 : decode cX7_sidesCanBeChosen 20 = .ok (.iconst 0, 1) := by decide +kernel
theorem dX7_sidesCanBeChosen_21 : decode cX7_sidesCanBeChosen 21 = .ok (.istore_n 3, 1) := by decide +kernel
theorem dX7_sidesCanBeChosen_22 : decode cX7_sidesCanBeChosen 22 = .ok (.iload_n 3, 1) := by decide +kernel
theorem dX7_sidesCanBeChosen_23 : decode cX7_sidesCanBeChosen 23 = .ok (.iload_n 2, 1) := by decide +kernel
theorem dX7_sidesCanBeChosen_24 : decode cX7_sidesCanBeChosen 24 = .ok (.if_icmp .ge 81, 3) := by decide +kernel
theorem dX7_sidesCanBeChosen_27 : decode cX7_sidesCanBeChosen 27 = .ok (.aload_n 0, 1) := by decide +kernel
theorem dX7_sidesCanBeChosen_28 : decode cX7_sidesCanBeChosen 28 = .ok (.getfield 60, 3) := by decide +kernel
theorem dX7_sidesCanBeChosen_31 : decode cX7_sidesCanBeChosen 31 = .ok (.iload_n 2, 1) := by decide +kernel
theorem dX7_sidesCanBeChosen_32 : decode cX7_sidesCanBeChosen 32 = .ok (.iaload, 1) := by decide +kernel
theorem dX7_sidesCanBeChosen_33 : decode cX7_sidesCanBeChosen 33 = .ok (.iload_n 3, 1) := by decide +kernel
theorem dX7_sidesCanBeChosen_34 : decode cX7_sidesCanBeChosen 34 = .ok (.invokestatic 104, 3) := by decide +kernel
theorem dX7_sidesCanBeChosen_37 : decode cX7_sidesCanBeChosen 37 = .ok (.ifCond .eq 62, 3) := by decide +kernel
theorem dX7_sidesCanBeChosen_40 : decode cX7_sidesCanBeChosen 40 = .ok (.aload_n 0, 1) := by decide +kernel
theorem dX7_sidesCanBeChosen_41 : decode cX7_sidesCanBeChosen 41 = .ok (.iload_n 2, 1) := by decide +kernel
theorem dX7_sidesCanBeChosen_42 : decode cX7_sidesCanBeChosen 42 = .ok (.iload_n 3, 1) := by decide +kernel
theorem dX7_sidesCanBeChosen_43 : decode cX7_sidesCanBeChosen 43 = .ok (.invokevirtual 128, 3) := by decide +kernel
theorem dX7_sidesCanBeChosen_46 : decode cX7_sidesCanBeChosen 46 = .ok (.invokestatic 125, 3) := by decide +kernel
theorem dX7_sidesCanBeChosen_49 : decode cX7_sidesCanBeChosen 49 = .ok (.istore 4, 2) := by decide +kernel
theorem dX7_sidesCanBeChosen_51 : decode cX7_sidesCanBeChosen 51 = .ok (.aload_n 1, 1) := by decide +kernel
theorem dX7_sidesCanBeChosen_52 : decode cX7_sidesCanBeChosen 52 = .ok (.iconst 2, 1) := by decide +kernel
theorem dX7_sidesCanBeChosen_53 : decode cX7_sidesCanBeChosen 53 = .ok (.iload_n 2, 1) := by decide +kernel
theorem dX7_sidesCanBeChosen_54 : decode cX7_sidesCanBeChosen 54 = .ok (.imul, 1) := by decide +kernel
theorem dX7_sidesCanBeChosen_55 : decode cX7_sidesCanBeChosen 55 = .ok (.iload 4, 2) := by decide +kernel
theorem dX7_sidesCanBeChosen_57 : decode cX7_sidesCanBeChosen 57 = .ok (.ifCond .eq 11, 3) := by decide +kernel
theorem dX7_sidesCanBeChosen_60 : decode cX7_sidesCanBeChosen 60 = .ok (.iconst 2, 1) := by decide +kernel
theorem dX7_sidesCanBeChosen_61 : decode cX7_sidesCanBeChosen 61 = .ok (.iload_n 3, 1) := by decide +kernel
theorem dX7_sidesCanBeChosen_62 : decode cX7_sidesCanBeChosen 62 = .ok (.imul, 1) := by decide +kernel
theorem dX7_sidesCanBeChosen_63 : decode cX7_sidesCanBeChosen 63 = .ok (.iconst 1, 1) := by decide +kernel
theorem dX7_sidesCanBeChosen_64 : decode cX7_sidesCanBeChosen 64 = .ok (.iadd, 1) := by decide +kernel
theorem dX7_sidesCanBeChosen_65 : decode cX7_sidesCanBeChosen 65 = .ok (.goto 6, 3) := by decide +kernel
theorem dX7_sidesCanBeChosen_68 : decode cX7_sidesCanBeChosen 68 = .ok (.iconst 2, 1) := by decide +kernel
theorem dX7_sidesCanBeChosen_69 : decode cX7_sidesCanBeChosen 69 = .ok (.iload_n 3, 1) := by decide +kernel
theorem dX7_sidesCanBeChosen_70 : decode cX7_sidesCanBeChosen 70 = .ok (.imul, 1) := by decide +kernel
theorem dX7_sidesCanBeChosen_71 : decode cX7_sidesCanBeChosen 71 = .ok (.invokevirtual 107, 3) := by decide +kernel
theorem dX7_sidesCanBeChosen_74 : decode cX7_sidesCanBeChosen 74 = .ok (.aload_n 1, 1) := by decide +kernel
theorem dX7_sidesCanBeChosen_75 : decode cX7_sidesCanBeChosen 75 = .ok (.iconst 2, 1) := by decide +kernel
theorem dX7_sidesCanBeChosen_76 : decode cX7_sidesCanBeChosen 76 = .ok (.iload_n 2, 1) := by decide +kernel
theorem dX7_sidesCanBeChosen_77 : decode cX7_sidesCanBeChosen 77 = .ok (.imul, 1) := by decide +kernel
theorem dX7_sidesCanBeChosen_78 : decode cX7_sidesCanBeChosen 78 = .ok (.iconst 1, 1) := by decide +kernel
theorem dX7_sidesCanBeChosen_79 : decode cX7_sidesCanBeChosen 79 = .ok (.iadd, 1) := by decide +kernel
theorem dX7_sidesCanBeChosen_80 : decode cX7_sidesCanBeChosen 80 = .ok (.iload 4, 2) := by decide +kernel
theorem dX7_sidesCanBeChosen_82 : decode cX7_sidesCanBeChosen 82 = .ok (.ifCond .eq 9, 3) := by decide +kernel
theorem dX7_sidesCanBeChosen_85 : decode cX7_sidesCanBeChosen 85 = .ok (.iconst 2, 1) := by decide +kernel
theorem dX7_sidesCanBeChosen_86 : decode cX7_sidesCanBeChosen 86 = .ok (.iload_n 3, 1) := by decide +kernel
theorem dX7_sidesCanBeChosen_87 : decode cX7_sidesCanBeChosen 87 = .ok (.imul, 1) := by decide +kernel
theorem dX7_sidesCanBeChosen_88 : decode cX7_sidesCanBeChosen 88 = .ok (.goto 8, 3) := by decide +kernel
theorem dX7_sidesCanBeChosen_91 : decode cX7_sidesCanBeChosen 91 = .ok (.iconst 2, 1) := by decide +kernel
theorem dX7_sidesCanBeChosen_92 : decode cX7_sidesCanBeChosen 92 = .ok (.iload_n 3, 1) := by decide +kernel
theorem dX7_sidesCanBeChosen_93 : decode cX7_sidesCanBeChosen 93 = .ok (.imul, 1) := by decide +kernel
theorem dX7_sidesCanBeChosen_94 : decode cX7_sidesCanBeChosen 94 = .ok (.iconst 1, 1) := by decide +kernel
theorem dX7_sidesCanBeChosen_95 : decode cX7_sidesCanBeChosen 95 = .ok (.iadd, 1) := by decide +kernel
theorem dX7_sidesCanBeChosen_96 : decode cX7_sidesCanBeChosen 96 = .ok (.invokevirtual 107, 3) := by decide +kernel
theorem dX7_sidesCanBeChosen_99 : decode cX7_sidesCanBeChosen 99 = .ok (.iinc 3 1, 3) := by decide +kernel
theorem dX7_sidesCanBeChosen_102 : decode cX7_sidesCanBeChosen 102 = .ok (.goto (-80), 3) := by decide +kernel
theorem dX7_sidesCanBeChosen_105 : decode cX7_sidesCanBeChosen 105 = .ok (.iinc 2 1, 3) := by decide +kernel
theorem dX7_sidesCanBeChosen_108 : decode cX7_sidesCanBeChosen 108 = .ok (.goto (-96), 3) := by decide +kernel
theorem dX7_sidesCanBeChosen_111 : decode cX7_sidesCanBeChosen 111 = .ok (.iconst 0, 1) := by decide +kernel
theorem dX7_sidesCanBeChosen_112 : decode cX7_sidesCanBeChosen 112 = .ok (.istore_n 2, 1) := by decide +kernel
theorem dX7_sidesCanBeChosen_113 : decode cX7_sidesCanBeChosen 113 = .ok (.iload_n 2, 1) := by decide +kernel
theorem dX7_sidesCanBeChosen_114 : decode cX7_sidesCanBeChosen 114 = .ok (.aload_n 0, 1) := by decide +kernel
theorem dX7_sidesCanBeChosen_115 : decode cX7_sidesCanBeChosen 115 = .ok (.getfield 45, 3) := by decide +kernel
theorem dX7_sidesCanBeChosen_118 : decode cX7_sidesCanBeChosen 118 = .ok (.if_icmp .ge 30, 3) := by decide +kernel
theorem dX7_sidesCanBeChosen_121 : decode cX7_sidesCanBeChosen 121 = .ok (.aload_n 1, 1) := by decide +kernel
theorem dX7_sidesCanBeChosen_122 : decode cX7_sidesCanBeChosen 122 = .ok (.iconst 2, 1) := by decide +kernel
theorem dX7_sidesCanBeChosen_123 : decode cX7_sidesCanBeChosen 123 = .ok (.iload_n 2, 1) := by decide +kernel
theorem dX7_sidesCanBeChosen_124 : decode cX7_sidesCanBeChosen 124 = .ok (.imul, 1) := by decide +kernel
theorem dX7_sidesCanBeChosen_125 : decode cX7_sidesCanBeChosen 125 = .ok (.invokevirtual 131, 3) := by decide +kernel
theorem dX7_sidesCanBeChosen_128 : decode cX7_sidesCanBeChosen 128 = .ok (.aload_n 1, 1) := by decide +kernel
theorem dX7_sidesCanBeChosen_129 : decode cX7_sidesCanBeChosen 129 = .ok (.iconst 2, 1) := by decide +kernel
theorem dX7_sidesCanBeChosen_130 : decode cX7_sidesCanBeChosen 130 = .ok (.iload_n 2, 1) := by decide +kernel
theorem dX7_sidesCanBeChosen_131 : decode cX7_sidesCanBeChosen 131 = .ok (.imul, 1) := by decide +kernel
theorem dX7_sidesCanBeChosen_132 : decode cX7_sidesCanBeChosen 132 = .ok (.iconst 1, 1) := by decide +kernel
theorem dX7_sidesCanBeChosen_133 : decode cX7_sidesCanBeChosen 133 = .ok (.iadd, 1) := by decide +kernel
theorem dX7_sidesCanBeChosen_134 : decode cX7_sidesCanBeChosen 134 = .ok (.invokevirtual 131, 3) := by decide +kernel
theorem dX7_sidesCanBeChosen_137 : decode cX7_sidesCanBeChosen 137 = .ok (.if_icmp .ne 5, 3) := by decide +kernel
theorem dX7_sidesCanBeChosen_140 : decode cX7_sidesCanBeChosen 140 = .ok (.iconst 0, 1) := by decide +kernel
theorem dX7_sidesCanBeChosen_141 : decode cX7_sidesCanBeChosen 141 = .ok (.ireturn, 1) := by decide +kernel
theorem dX7_sidesCanBeChosen_142 : decode cX7_sidesCanBeChosen 142 = .ok (.iinc 2 1, 3) := by decide +kernel
theorem dX7_sidesCanBeChosen_145 : decode cX7_sidesCanBeChosen 145 = .ok (.goto (-32), 3) := by decide +kernel
theorem dX7_sidesCanBeChosen_148 : decode cX7_sidesCanBeChosen 148 = .ok (.iconst 1, 1) := by decide +kernel
theorem dX7_sidesCanBeChosen_149 : decode cX7_sidesCanBeChosen 149 = .ok (.ireturn, 1) := by decide +kernel
theorem dX7_leastCode_0 : decode cX7_leastCode 0 = .ok (.aload_n 0, 1) := by decide +kernel
theorem dX7_leastCode_1 : decode cX7_leastCode 1 = .ok (.invokevirtual 134, 3) := by decide +kernel
theorem dX7_leastCode_4 : decode cX7_leastCode 4 = .ok (.aload_n 0, 1) := by decide +kernel
theorem dX7_leastCode_5 : decode cX7_leastCode 5 = .ok (.getfield 15, 3) := by decide +kernel
theorem dX7_leastCode_8 : decode cX7_leastCode 8 = .ok (.lreturn, 1) := by decide +kernel
theorem dX7_kin_0 : decode cX7_kin 0 = .ok (.aload_n 0, 1) := by decide +kernel
theorem dX7_kin_1 : decode cX7_kin 1 = .ok (.invokevirtual 134, 3) := by decide +kernel
theorem dX7_kin_4 : decode cX7_kin 4 = .ok (.aload_n 0, 1) := by decide +kernel
theorem dX7_kin_5 : decode cX7_kin 5 = .ok (.getfield 19, 3) := by decide +kernel
theorem dX7_kin_8 : decode cX7_kin 8 = .ok (.ireturn, 1) := by decide +kernel
theorem dX7_isLike_0 : decode cX7_isLike 0 = .ok (.aload_n 0, 1) := by decide +kernel
theorem dX7_isLike_1 : decode cX7_isLike 1 = .ok (.invokevirtual 134, 3) := by decide +kernel
theorem dX7_isLike_4 : decode cX7_isLike 4 = .ok (.aload_n 1, 1) := by decide +kernel
theorem dX7_isLike_5 : decode cX7_isLike 5 = .ok (.invokevirtual 134, 3) := by decide +kernel
theorem dX7_isLike_8 : decode cX7_isLike 8 = .ok (.aload_n 0, 1) := by decide +kernel
theorem dX7_isLike_9 : decode cX7_isLike 9 = .ok (.getfield 45, 3) := by decide +kernel
theorem dX7_isLike_12 : decode cX7_isLike 12 = .ok (.aload_n 1, 1) := by decide +kernel
theorem dX7_isLike_13 : decode cX7_isLike 13 = .ok (.getfield 45, 3) := by decide +kernel
theorem dX7_isLike_16 : decode cX7_isLike 16 = .ok (.if_icmp .ne 19, 3) := by decide +kernel
theorem dX7_isLike_19 : decode cX7_isLike 19 = .ok (.aload_n 0, 1) := by decide +kernel
theorem dX7_isLike_20 : decode cX7_isLike 20 = .ok (.getfield 15, 3) := by decide +kernel
theorem dX7_isLike_23 : decode cX7_isLike 23 = .ok (.aload_n 1, 1) := by decide +kernel
theorem dX7_isLike_24 : decode cX7_isLike 24 = .ok (.getfield 15, 3) := by decide +kernel
theorem dX7_isLike_27 : decode cX7_isLike 27 = .ok (.lcmp, 1) := by decide +kernel
theorem dX7_isLike_28 : decode cX7_isLike 28 = .ok (.ifCond .ne 7, 3) := by decide +kernel
theorem dX7_isLike_31 : decode cX7_isLike 31 = .ok (.iconst 1, 1) := by decide +kernel
theorem dX7_isLike_32 : decode cX7_isLike 32 = .ok (.goto 4, 3) := by decide +kernel
theorem dX7_isLike_35 : decode cX7_isLike 35 = .ok (.iconst 0, 1) := by decide +kernel
theorem dX7_isLike_36 : decode cX7_isLike 36 = .ok (.ireturn, 1) := by decide +kernel
theorem dX7_tryTurns_0 : decode cX7_tryTurns 0 = .ok (.aload_n 0, 1) := by decide +kernel
theorem dX7_tryTurns_1 : decode cX7_tryTurns 1 = .ok (.getfield 9, 3) := by decide +kernel
theorem dX7_tryTurns_4 : decode cX7_tryTurns 4 = .ok (.ifCond .ne 10, 3) := by decide +kernel
theorem dX7_tryTurns_7 : decode cX7_tryTurns 7 = .ok (.aload_n 0, 1) := by decide +kernel
theorem dX7_tryTurns_8 : decode cX7_tryTurns 8 = .ok (.getfield 48, 3) := by decide +kernel
theorem dX7_tryTurns_11 : decode cX7_tryTurns 11 = .ok (.ifCond .ne 4, 3) := by decide +kernel
theorem dX7_tryTurns_14 : decode cX7_tryTurns 14 = .ok (.return_, 1) := by decide +kernel
theorem dX7_tryTurns_15 : decode cX7_tryTurns 15 = .ok (.aload_n 0, 1) := by decide +kernel
theorem dX7_tryTurns_16 : decode cX7_tryTurns 16 = .ok (.getfield 45, 3) := by decide +kernel
theorem dX7_tryTurns_19 : decode cX7_tryTurns 19 = .ok (.newarray .int, 2) := by decide +kernel
theorem dX7_tryTurns_21 : decode cX7_tryTurns 21 = .ok (.astore_n 1, 1) := by decide +kernel
theorem dX7_tryTurns_22 : decode cX7_tryTurns 22 = .ok (.aload_n 0, 1) := by decide +kernel
theorem dX7_tryTurns_23 : decode cX7_tryTurns 23 = .ok (.iconst 0, 1) := by decide +kernel
theorem dX7_tryTurns_24 : decode cX7_tryTurns 24 = .ok (.iconst 0, 1) := by decide +kernel
theorem dX7_tryTurns_25 : decode cX7_tryTurns 25 = .ok (.aload_n 1, 1) := by decide +kernel
theorem dX7_tryTurns_26 : decode cX7_tryTurns 26 = .ok (.invokevirtual 137, 3) := by decide +kernel
theorem dX7_tryTurns_29 : decode cX7_tryTurns 29 = .ok (.lstore_n 2, 1) := by decide +kernel
theorem dX7_tryTurns_30 : decode cX7_tryTurns 30 = .ok (.aload_n 0, 1) := by decide +kernel
theorem dX7_tryTurns_31 : decode cX7_tryTurns 31 = .ok (.lload_n 2, 1) := by decide +kernel
theorem dX7_tryTurns_32 : decode cX7_tryTurns 32 = .ok (.putfield 15, 3) := by decide +kernel
theorem dX7_tryTurns_35 : decode cX7_tryTurns 35 = .ok (.aload_n 0, 1) := by decide +kernel
theorem dX7_tryTurns_36 : decode cX7_tryTurns 36 = .ok (.iconst 0, 1) := by decide +kernel
theorem dX7_tryTurns_37 : decode cX7_tryTurns 37 = .ok (.putfield 19, 3) := by decide +kernel
theorem dX7_tryTurns_40 : decode cX7_tryTurns 40 = .ok (.iconst 0, 1) := by decide +kernel
theorem dX7_tryTurns_41 : decode cX7_tryTurns 41 = .ok (.istore 4, 2) := by decide +kernel
theorem dX7_tryTurns_43 : decode cX7_tryTurns 43 = .ok (.iload 4, 2) := by decide +kernel
theorem dX7_tryTurns_45 : decode cX7_tryTurns 45 = .ok (.aload_n 0, 1) := by decide +kernel
theorem dX7_tryTurns_46 : decode cX7_tryTurns 46 = .ok (.getfield 48, 3) := by decide +kernel
theorem dX7_tryTurns_49 : decode cX7_tryTurns 49 = .ok (.if_icmp .ge 74, 3) := by decide +kernel
theorem dX7_tryTurns_52 : decode cX7_tryTurns 52 = .ok (.iconst 0, 1) := by decide +kernel
theorem dX7_tryTurns_53 : decode cX7_tryTurns 53 = .ok (.istore 5, 2) := by decide +kernel
theorem dX7_tryTurns_55 : decode cX7_tryTurns 55 = .ok (.iload 5, 2) := by decide +kernel
theorem dX7_tryTurns_57 : decode cX7_tryTurns 57 = .ok (.iconst 2, 1) := by decide +kernel
theorem dX7_tryTurns_58 : decode cX7_tryTurns 58 = .ok (.if_icmp .ge 59, 3) := by decide +kernel
theorem dX7_tryTurns_61 : decode cX7_tryTurns 61 = .ok (.aload_n 0, 1) := by decide +kernel
theorem dX7_tryTurns_62 : decode cX7_tryTurns 62 = .ok (.iload 4, 2) := by decide +kernel
theorem dX7_tryTurns_64 : decode cX7_tryTurns 64 = .ok (.iload 5, 2) := by decide +kernel
theorem dX7_tryTurns_66 : decode cX7_tryTurns 66 = .ok (.iconst 1, 1) := by decide +kernel
theorem dX7_tryTurns_67 : decode cX7_tryTurns 67 = .ok (.if_icmp .ne 7, 3) := by decide +kernel
theorem dX7_tryTurns_70 : decode cX7_tryTurns 70 = .ok (.iconst 1, 1) := by decide +kernel
theorem dX7_tryTurns_71 : decode cX7_tryTurns 71 = .ok (.goto 4, 3) := by decide +kernel
theorem dX7_tryTurns_74 : decode cX7_tryTurns 74 = .ok (.iconst 0, 1) := by decide +kernel
theorem dX7_tryTurns_75 : decode cX7_tryTurns 75 = .ok (.aload_n 1, 1) := by decide +kernel
theorem dX7_tryTurns_76 : decode cX7_tryTurns 76 = .ok (.invokevirtual 137, 3) := by decide +kernel
theorem dX7_tryTurns_79 : decode cX7_tryTurns 79 = .ok (.lstore 6, 2) := by decide +kernel
theorem dX7_tryTurns_81 : decode cX7_tryTurns 81 = .ok (.aload_n 0, 1) := by decide +kernel
theorem dX7_tryTurns_82 : decode cX7_tryTurns 82 = .ok (.aload_n 0, 1) := by decide +kernel
theorem dX7_tryTurns_83 : decode cX7_tryTurns 83 = .ok (.getfield 15, 3) := by decide +kernel
theorem dX7_tryTurns_86 : decode cX7_tryTurns 86 = .ok (.lload 6, 2) := by decide +kernel
theorem dX7_tryTurns_88 : decode cX7_tryTurns 88 = .ok (.invokestatic 141, 3) := by decide +kernel
theorem dX7_tryTurns_91 : decode cX7_tryTurns 91 = .ok (.putfield 15, 3) := by decide +kernel
theorem dX7_tryTurns_94 : decode cX7_tryTurns 94 = .ok (.lload 6, 2) := by decide +kernel
theorem dX7_tryTurns_96 : decode cX7_tryTurns 96 = .ok (.lload_n 2, 1) := by decide +kernel
theorem dX7_tryTurns_97 : decode cX7_tryTurns 97 = .ok (.lcmp, 1) := by decide +kernel
theorem dX7_tryTurns_98 : decode cX7_tryTurns 98 = .ok (.ifCond .ne 13, 3) := by decide +kernel
theorem dX7_tryTurns_101 : decode cX7_tryTurns 101 = .ok (.aload_n 0, 1) := by decide +kernel
theorem dX7_tryTurns_102 : decode cX7_tryTurns 102 = .ok (.dup, 1) := by decide +kernel
theorem dX7_tryTurns_103 : decode cX7_tryTurns 103 = .ok (.getfield 19, 3) := by decide +kernel
theorem dX7_tryTurns_106 : decode cX7_tryTurns 106 = .ok (.iconst 1, 1) := by decide +kernel
theorem dX7_tryTurns_107 : decode cX7_tryTurns 107 = .ok (.iadd, 1) := by decide +kernel
theorem dX7_tryTurns_108 : decode cX7_tryTurns 108 = .ok (.putfield 19, 3) := by decide +kernel
theorem dX7_tryTurns_111 : decode cX7_tryTurns 111 = .ok (.iinc 5 1, 3) := by decide +kernel
theorem dX7_tryTurns_114 : decode cX7_tryTurns 114 = .ok (.goto (-59), 3) := by decide +kernel
theorem dX7_tryTurns_117 : decode cX7_tryTurns 117 = .ok (.iinc 4 1, 3) := by decide +kernel
theorem dX7_tryTurns_120 : decode cX7_tryTurns 120 = .ok (.goto (-77), 3) := by decide +kernel
theorem dX7_tryTurns_123 : decode cX7_tryTurns 123 = .ok (.aload_n 0, 1) := by decide +kernel
theorem dX7_tryTurns_124 : decode cX7_tryTurns 124 = .ok (.iconst 1, 1) := by decide +kernel
theorem dX7_tryTurns_125 : decode cX7_tryTurns 125 = .ok (.putfield 9, 3) := by decide +kernel
theorem dX7_tryTurns_128 : decode cX7_tryTurns 128 = .ok (.return_, 1) := by decide +kernel
theorem dX7_codeFrom_0 : decode cX7_codeFrom 0 = .ok (.iconst 0, 1) := by decide +kernel
theorem dX7_codeFrom_1 : decode cX7_codeFrom 1 = .ok (.istore 4, 2) := by decide +kernel
theorem dX7_codeFrom_3 : decode cX7_codeFrom 3 = .ok (.iload 4, 2) := by decide +kernel
theorem dX7_codeFrom_5 : decode cX7_codeFrom 5 = .ok (.aload_n 0, 1) := by decide +kernel
theorem dX7_codeFrom_6 : decode cX7_codeFrom 6 = .ok (.getfield 45, 3) := by decide +kernel
theorem dX7_codeFrom_9 : decode cX7_codeFrom 9 = .ok (.if_icmp .ge 14, 3) := by decide +kernel
theorem dX7_codeFrom_12 : decode cX7_codeFrom 12 = .ok (.aload_n 3, 1) := by decide +kernel
theorem dX7_codeFrom_13 : decode cX7_codeFrom 13 = .ok (.iload 4, 2) := by decide +kernel
theorem dX7_codeFrom_15 : decode cX7_codeFrom 15 = .ok (.iconst (-1), 1) := by decide +kernel
theorem dX7_codeFrom_16 : decode cX7_codeFrom 16 = .ok (.iastore, 1) := by decide +kernel
theorem dX7_codeFrom_17 : decode cX7_codeFrom 17 = .ok (.iinc 4 1, 3) := by decide +kernel
theorem dX7_codeFrom_20 : decode cX7_codeFrom 20 = .ok (.goto (-17), 3) := by decide +kernel
theorem dX7_codeFrom_23 : decode cX7_codeFrom 23 = .ok (.iconst 0, 1) := by decide +kernel
theorem dX7_codeFrom_24 : decode cX7_codeFrom 24 = .ok (.istore 4, 2) := by decide +kernel
theorem dX7_codeFrom_26 : decode cX7_codeFrom 26 = .ok (.iload_n 1, 1) := by decide +kernel
theorem dX7_codeFrom_27 : decode cX7_codeFrom 27 = .ok (.istore 5, 2) := by decide +kernel
theorem dX7_codeFrom_29 : decode cX7_codeFrom 29 = .ok (.lconst 0, 1) := by decide +kernel
theorem dX7_codeFrom_30 : decode cX7_codeFrom 30 = .ok (.lstore 6, 2) := by decide +kernel
theorem dX7_codeFrom_32 : decode cX7_codeFrom 32 = .ok (.iconst 0, 1) := by decide +kernel
theorem dX7_codeFrom_33 : decode cX7_codeFrom 33 = .ok (.istore 8, 2) := by decide +kernel
theorem dX7_codeFrom_35 : decode cX7_codeFrom 35 = .ok (.iload 8, 2) := by decide +kernel
theorem dX7_codeFrom_37 : decode cX7_codeFrom 37 = .ok (.aload_n 0, 1) := by decide +kernel
theorem dX7_codeFrom_38 : decode cX7_codeFrom 38 = .ok (.getfield 48, 3) := by decide +kernel
theorem dX7_codeFrom_41 : decode cX7_codeFrom 41 = .ok (.if_icmp .ge 70, 3) := by decide +kernel
theorem dX7_codeFrom_44 : decode cX7_codeFrom 44 = .ok (.aload_n 0, 1) := by decide +kernel
theorem dX7_codeFrom_45 : decode cX7_codeFrom 45 = .ok (.getfield 51, 3) := by decide +kernel
theorem dX7_codeFrom_48 : decode cX7_codeFrom 48 = .ok (.iload 5, 2) := by decide +kernel
theorem dX7_codeFrom_50 : decode cX7_codeFrom 50 = .ok (.iaload, 1) := by decide +kernel
theorem dX7_codeFrom_51 : decode cX7_codeFrom 51 = .ok (.istore 9, 2) := by decide +kernel
theorem dX7_codeFrom_53 : decode cX7_codeFrom 53 = .ok (.aload_n 3, 1) := by decide +kernel
theorem dX7_codeFrom_54 : decode cX7_codeFrom 54 = .ok (.iload 9, 2) := by decide +kernel
theorem dX7_codeFrom_56 : decode cX7_codeFrom 56 = .ok (.iaload, 1) := by decide +kernel
theorem dX7_codeFrom_57 : decode cX7_codeFrom 57 = .ok (.iconst (-1), 1) := by decide +kernel
theorem dX7_codeFrom_58 : decode cX7_codeFrom 58 = .ok (.if_icmp .ne 12, 3) := by decide +kernel
theorem dX7_codeFrom_61 : decode cX7_codeFrom 61 = .ok (.aload_n 3, 1) := by decide +kernel
theorem dX7_codeFrom_62 : decode cX7_codeFrom 62 = .ok (.iload 9, 2) := by decide +kernel
theorem dX7_codeFrom_64 : decode cX7_codeFrom 64 = .ok (.iload 4, 2) := by decide +kernel
theorem dX7_codeFrom_66 : decode cX7_codeFrom 66 = .ok (.iastore, 1) := by decide +kernel
theorem dX7_codeFrom_67 : decode cX7_codeFrom 67 = .ok (.iinc 4 1, 3) := by decide +kernel
theorem dX7_codeFrom_70 : decode cX7_codeFrom 70 = .ok (.lload 6, 2) := by decide +kernel
theorem dX7_codeFrom_72 : decode cX7_codeFrom 72 = .ok (.ldc2_w 145, 3) := by decide +kernel
theorem dX7_codeFrom_75 : decode cX7_codeFrom 75 = .ok (.lmul, 1) := by decide +kernel
theorem dX7_codeFrom_76 : decode cX7_codeFrom 76 = .ok (.aload_n 3, 1) := by decide +kernel
theorem dX7_codeFrom_77 : decode cX7_codeFrom 77 = .ok (.iload 9, 2) := by decide +kernel
theorem dX7_codeFrom_79 : decode cX7_codeFrom 79 = .ok (.iaload, 1) := by decide +kernel
theorem dX7_codeFrom_80 : decode cX7_codeFrom 80 = .ok (.i2l, 1) := by decide +kernel
theorem dX7_codeFrom_81 : decode cX7_codeFrom 81 = .ok (.ladd, 1) := by decide +kernel
theorem dX7_codeFrom_82 : decode cX7_codeFrom 82 = .ok (.lstore 6, 2) := by decide +kernel
theorem dX7_codeFrom_84 : decode cX7_codeFrom 84 = .ok (.iload_n 2, 1) := by decide +kernel
theorem dX7_codeFrom_85 : decode cX7_codeFrom 85 = .ok (.ifCond .eq 12, 3) := by decide +kernel
theorem dX7_codeFrom_88 : decode cX7_codeFrom 88 = .ok (.aload_n 0, 1) := by decide +kernel
theorem dX7_codeFrom_89 : decode cX7_codeFrom 89 = .ok (.iload 5, 2) := by decide +kernel
theorem dX7_codeFrom_91 : decode cX7_codeFrom 91 = .ok (.invokevirtual 147, 3) := by decide +kernel
theorem dX7_codeFrom_94 : decode cX7_codeFrom 94 = .ok (.goto 9, 3) := by decide +kernel
theorem dX7_codeFrom_97 : decode cX7_codeFrom 97 = .ok (.aload_n 0, 1) := by decide +kernel
theorem dX7_codeFrom_98 : decode cX7_codeFrom 98 = .ok (.iload 5, 2) := by decide +kernel
theorem dX7_codeFrom_100 : decode cX7_codeFrom 100 = .ok (.invokevirtual 87, 3) := by decide +kernel
theorem dX7_codeFrom_103 : decode cX7_codeFrom 103 = .ok (.istore 5, 2) := by decide +kernel
theorem dX7_codeFrom_105 : decode cX7_codeFrom 105 = .ok (.iinc 8 1, 3) := by decide +kernel
theorem dX7_codeFrom_108 : decode cX7_codeFrom 108 = .ok (.goto (-73), 3) := by decide +kernel
theorem dX7_codeFrom_111 : decode cX7_codeFrom 111 = .ok (.lload 6, 2) := by decide +kernel
theorem dX7_codeFrom_113 : decode cX7_codeFrom 113 = .ok (.lreturn, 1) := by decide +kernel
theorem dX7_drawnSigns_0 : decode cX7_drawnSigns 0 = .ok (.aload_n 0, 1) := by decide +kernel
theorem dX7_drawnSigns_1 : decode cX7_drawnSigns 1 = .ok (.aload_n 1, 1) := by decide +kernel
theorem dX7_drawnSigns_2 : decode cX7_drawnSigns 2 = .ok (.invokevirtual 150, 3) := by decide +kernel
theorem dX7_drawnSigns_5 : decode cX7_drawnSigns 5 = .ok (.aload_n 0, 1) := by decide +kernel
theorem dX7_drawnSigns_6 : decode cX7_drawnSigns 6 = .ok (.getfield 26, 3) := by decide +kernel
theorem dX7_drawnSigns_9 : decode cX7_drawnSigns 9 = .ok (.ireturn, 1) := by decide +kernel
theorem dX7_drawings_0 : decode cX7_drawings 0 = .ok (.aload_n 0, 1) := by decide +kernel
theorem dX7_drawings_1 : decode cX7_drawings 1 = .ok (.aload_n 1, 1) := by decide +kernel
theorem dX7_drawings_2 : decode cX7_drawings 2 = .ok (.invokevirtual 150, 3) := by decide +kernel
theorem dX7_drawings_5 : decode cX7_drawings 5 = .ok (.aload_n 0, 1) := by decide +kernel
theorem dX7_drawings_6 : decode cX7_drawings 6 = .ok (.getfield 29, 3) := by decide +kernel
theorem dX7_drawings_9 : decode cX7_drawings 9 = .ok (.ireturn, 1) := by decide +kernel
theorem dX7_trySigns_0 : decode cX7_trySigns 0 = .ok (.aload_n 0, 1) := by decide +kernel
theorem dX7_trySigns_1 : decode cX7_trySigns 1 = .ok (.getfield 23, 3) := by decide +kernel
theorem dX7_trySigns_4 : decode cX7_trySigns 4 = .ok (.ifCond .eq 4, 3) := by decide +kernel
theorem dX7_trySigns_7 : decode cX7_trySigns 7 = .ok (.return_, 1) := by decide +kernel
theorem dX7_trySigns_8 : decode cX7_trySigns 8 = .ok (.iconst 0, 1) := by decide +kernel
theorem dX7_trySigns_9 : decode cX7_trySigns 9 = .ok (.istore_n 2, 1) := by decide +kernel
theorem dX7_trySigns_10 : decode cX7_trySigns 10 = .ok (.iload_n 2, 1) := by decide +kernel
theorem dX7_trySigns_11 : decode cX7_trySigns 11 = .ok (.iconst 1, 1) := by decide +kernel
theorem dX7_trySigns_12 : decode cX7_trySigns 12 = .ok (.aload_n 0, 1) := by decide +kernel
theorem dX7_trySigns_13 : decode cX7_trySigns 13 = .ok (.getfield 45, 3) := by decide +kernel
theorem dX7_trySigns_16 : decode cX7_trySigns 16 = .ok (.ishl, 1) := by decide +kernel
theorem dX7_trySigns_17 : decode cX7_trySigns 17 = .ok (.if_icmp .ge 46, 3) := by decide +kernel
theorem dX7_trySigns_20 : decode cX7_trySigns 20 = .ok (.aload_n 0, 1) := by decide +kernel
theorem dX7_trySigns_21 : decode cX7_trySigns 21 = .ok (.iload_n 2, 1) := by decide +kernel
theorem dX7_trySigns_22 : decode cX7_trySigns 22 = .ok (.aload_n 1, 1) := by decide +kernel
theorem dX7_trySigns_23 : decode cX7_trySigns 23 = .ok (.invokestatic 154, 3) := by decide +kernel
theorem dX7_trySigns_26 : decode cX7_trySigns 26 = .ok (.aload_n 0, 1) := by decide +kernel
theorem dX7_trySigns_27 : decode cX7_trySigns 27 = .ok (.getfield 45, 3) := by decide +kernel
theorem dX7_trySigns_30 : decode cX7_trySigns 30 = .ok (.iconst 2, 1) := by decide +kernel
theorem dX7_trySigns_31 : decode cX7_trySigns 31 = .ok (.iadd, 1) := by decide +kernel
theorem dX7_trySigns_32 : decode cX7_trySigns 32 = .ok (.if_icmp .ne 25, 3) := by decide +kernel
theorem dX7_trySigns_35 : decode cX7_trySigns 35 = .ok (.aload_n 0, 1) := by decide +kernel
theorem dX7_trySigns_36 : decode cX7_trySigns 36 = .ok (.getfield 29, 3) := by decide +kernel
theorem dX7_trySigns_39 : decode cX7_trySigns 39 = .ok (.ifCond .ne 8, 3) := by decide +kernel
theorem dX7_trySigns_42 : decode cX7_trySigns 42 = .ok (.aload_n 0, 1) := by decide +kernel
theorem dX7_trySigns_43 : decode cX7_trySigns 43 = .ok (.iload_n 2, 1) := by decide +kernel
theorem dX7_trySigns_44 : decode cX7_trySigns 44 = .ok (.putfield 26, 3) := by decide +kernel
theorem dX7_trySigns_47 : decode cX7_trySigns 47 = .ok (.aload_n 0, 1) := by decide +kernel
theorem dX7_trySigns_48 : decode cX7_trySigns 48 = .ok (.dup, 1) := by decide +kernel
theorem dX7_trySigns_49 : decode cX7_trySigns 49 = .ok (.getfield 29, 3) := by decide +kernel
theorem dX7_trySigns_52 : decode cX7_trySigns 52 = .ok (.iconst 1, 1) := by decide +kernel
theorem dX7_trySigns_53 : decode cX7_trySigns 53 = .ok (.iadd, 1) := by decide +kernel
theorem dX7_trySigns_54 : decode cX7_trySigns 54 = .ok (.putfield 29, 3) := by decide +kernel
theorem dX7_trySigns_57 : decode cX7_trySigns 57 = .ok (.iinc 2 1, 3) := by decide +kernel
theorem dX7_trySigns_60 : decode cX7_trySigns 60 = .ok (.goto (-50), 3) := by decide +kernel
theorem dX7_trySigns_63 : decode cX7_trySigns 63 = .ok (.aload_n 0, 1) := by decide +kernel
theorem dX7_trySigns_64 : decode cX7_trySigns 64 = .ok (.iconst 1, 1) := by decide +kernel
theorem dX7_trySigns_65 : decode cX7_trySigns 65 = .ok (.putfield 23, 3) := by decide +kernel
theorem dX7_trySigns_68 : decode cX7_trySigns 68 = .ok (.return_, 1) := by decide +kernel
theorem dX7_ringsOf_0 : decode cX7_ringsOf 0 = .ok (.aload_n 0, 1) := by decide +kernel
theorem dX7_ringsOf_1 : decode cX7_ringsOf 1 = .ok (.getfield 45, 3) := by decide +kernel
theorem dX7_ringsOf_4 : decode cX7_ringsOf 4 = .ok (.ifCond .ne 5, 3) := by decide +kernel
theorem dX7_ringsOf_7 : decode cX7_ringsOf 7 = .ok (.iconst 1, 1) := by decide +kernel
theorem dX7_ringsOf_8 : decode cX7_ringsOf 8 = .ok (.ireturn, 1) := by decide +kernel
theorem dX7_ringsOf_9 : decode cX7_ringsOf 9 = .ok (.aload_n 2, 1) := by decide +kernel
theorem dX7_ringsOf_10 : decode cX7_ringsOf 10 = .ok (.aload_n 0, 1) := by decide +kernel
theorem dX7_ringsOf_11 : decode cX7_ringsOf 11 = .ok (.getfield 48, 3) := by decide +kernel
theorem dX7_ringsOf_14 : decode cX7_ringsOf 14 = .ok (.invokevirtual 98, 3) := by decide +kernel
theorem dX7_ringsOf_17 : decode cX7_ringsOf 17 = .ok (.iconst 0, 1) := by decide +kernel
theorem dX7_ringsOf_18 : decode cX7_ringsOf 18 = .ok (.istore_n 3, 1) := by decide +kernel
theorem dX7_ringsOf_19 : decode cX7_ringsOf 19 = .ok (.iload_n 3, 1) := by decide +kernel
theorem dX7_ringsOf_20 : decode cX7_ringsOf 20 = .ok (.aload_n 0, 1) := by decide +kernel
theorem dX7_ringsOf_21 : decode cX7_ringsOf 21 = .ok (.getfield 45, 3) := by decide +kernel
theorem dX7_ringsOf_24 : decode cX7_ringsOf 24 = .ok (.if_icmp .ge 84, 3) := by decide +kernel
theorem dX7_ringsOf_27 : decode cX7_ringsOf 27 = .ok (.aload_n 0, 1) := by decide +kernel
theorem dX7_ringsOf_28 : decode cX7_ringsOf 28 = .ok (.getfield 54, 3) := by decide +kernel
theorem dX7_ringsOf_31 : decode cX7_ringsOf 31 = .ok (.iload_n 3, 1) := by decide +kernel
theorem dX7_ringsOf_32 : decode cX7_ringsOf 32 = .ok (.iaload, 1) := by decide +kernel
theorem dX7_ringsOf_33 : decode cX7_ringsOf 33 = .ok (.istore 4, 2) := by decide +kernel
theorem dX7_ringsOf_35 : decode cX7_ringsOf 35 = .ok (.aload_n 0, 1) := by decide +kernel
theorem dX7_ringsOf_36 : decode cX7_ringsOf 36 = .ok (.getfield 57, 3) := by decide +kernel
theorem dX7_ringsOf_39 : decode cX7_ringsOf 39 = .ok (.iload_n 3, 1) := by decide +kernel
theorem dX7_ringsOf_40 : decode cX7_ringsOf 40 = .ok (.iaload, 1) := by decide +kernel
theorem dX7_ringsOf_41 : decode cX7_ringsOf 41 = .ok (.istore 5, 2) := by decide +kernel
theorem dX7_ringsOf_43 : decode cX7_ringsOf 43 = .ok (.aload_n 0, 1) := by decide +kernel
theorem dX7_ringsOf_44 : decode cX7_ringsOf 44 = .ok (.iload 4, 2) := by decide +kernel
theorem dX7_ringsOf_46 : decode cX7_ringsOf 46 = .ok (.invokevirtual 147, 3) := by decide +kernel
theorem dX7_ringsOf_49 : decode cX7_ringsOf 49 = .ok (.istore 6, 2) := by decide +kernel
theorem dX7_ringsOf_51 : decode cX7_ringsOf 51 = .ok (.aload_n 0, 1) := by decide +kernel
theorem dX7_ringsOf_52 : decode cX7_ringsOf 52 = .ok (.iload 5, 2) := by decide +kernel
theorem dX7_ringsOf_54 : decode cX7_ringsOf 54 = .ok (.invokevirtual 147, 3) := by decide +kernel
theorem dX7_ringsOf_57 : decode cX7_ringsOf 57 = .ok (.istore 7, 2) := by decide +kernel
theorem dX7_ringsOf_59 : decode cX7_ringsOf 59 = .ok (.iload_n 1, 1) := by decide +kernel
theorem dX7_ringsOf_60 : decode cX7_ringsOf 60 = .ok (.iload_n 3, 1) := by decide +kernel
theorem dX7_ringsOf_61 : decode cX7_ringsOf 61 = .ok (.invokestatic 104, 3) := by decide +kernel
theorem dX7_ringsOf_64 : decode cX7_ringsOf 64 = .ok (.istore 8, 2) := by decide +kernel
theorem dX7_ringsOf_66 : decode cX7_ringsOf 66 = .ok (.aload_n 2, 1) := by decide +kernel
theorem dX7_ringsOf_67 : decode cX7_ringsOf 67 = .ok (.iload 6, 2) := by decide +kernel
theorem dX7_ringsOf_69 : decode cX7_ringsOf 69 = .ok (.iload 8, 2) := by decide +kernel
theorem dX7_ringsOf_71 : decode cX7_ringsOf 71 = .ok (.ifCond .eq 8, 3) := by decide +kernel
theorem dX7_ringsOf_74 : decode cX7_ringsOf 74 = .ok (.iload 7, 2) := by decide +kernel
theorem dX7_ringsOf_76 : decode cX7_ringsOf 76 = .ok (.goto 5, 3) := by decide +kernel
theorem dX7_ringsOf_79 : decode cX7_ringsOf 79 = .ok (.iload 5, 2) := by decide +kernel
theorem dX7_ringsOf_81 : decode cX7_ringsOf 81 = .ok (.invokevirtual 107, 3) := by decide +kernel
theorem dX7_ringsOf_84 : decode cX7_ringsOf 84 = .ok (.aload_n 2, 1) := by decide +kernel
theorem dX7_ringsOf_85 : decode cX7_ringsOf 85 = .ok (.iload 4, 2) := by decide +kernel
theorem dX7_ringsOf_87 : decode cX7_ringsOf 87 = .ok (.iload 8, 2) := by decide +kernel
theorem dX7_ringsOf_89 : decode cX7_ringsOf 89 = .ok (.ifCond .eq 8, 3) := by decide +kernel
theorem dX7_ringsOf_92 : decode cX7_ringsOf 92 = .ok (.iload 5, 2) := by decide +kernel
theorem dX7_ringsOf_94 : decode cX7_ringsOf 94 = .ok (.goto 5, 3) := by decide +kernel
theorem dX7_ringsOf_97 : decode cX7_ringsOf 97 = .ok (.iload 7, 2) := by decide +kernel
theorem dX7_ringsOf_99 : decode cX7_ringsOf 99 = .ok (.invokevirtual 107, 3) := by decide +kernel
theorem dX7_ringsOf_102 : decode cX7_ringsOf 102 = .ok (.iinc 3 1, 3) := by decide +kernel
theorem dX7_ringsOf_105 : decode cX7_ringsOf 105 = .ok (.goto (-86), 3) := by decide +kernel
theorem dX7_ringsOf_108 : decode cX7_ringsOf 108 = .ok (.aload_n 2, 1) := by decide +kernel
theorem dX7_ringsOf_109 : decode cX7_ringsOf 109 = .ok (.invokevirtual 111, 3) := by decide +kernel
theorem dX7_ringsOf_112 : decode cX7_ringsOf 112 = .ok (.ireturn, 1) := by decide +kernel
theorem dX7_setsWithRings_0 : decode cX7_setsWithRings 0 = .ok (.aload_n 0, 1) := by decide +kernel
theorem dX7_setsWithRings_1 : decode cX7_setsWithRings 1 = .ok (.getfield 32, 3) := by decide +kernel
theorem dX7_setsWithRings_4 : decode cX7_setsWithRings 4 = .ok (.ifCond .ne 60, 3) := by decide +kernel
theorem dX7_setsWithRings_7 : decode cX7_setsWithRings 7 = .ok (.iconst 0, 1) := by decide +kernel
theorem dX7_setsWithRings_8 : decode cX7_setsWithRings 8 = .ok (.istore_n 3, 1) := by decide +kernel
theorem dX7_setsWithRings_9 : decode cX7_setsWithRings 9 = .ok (.iload_n 3, 1) := by decide +kernel
theorem dX7_setsWithRings_10 : decode cX7_setsWithRings 10 = .ok (.iconst 1, 1) := by decide +kernel
theorem dX7_setsWithRings_11 : decode cX7_setsWithRings 11 = .ok (.aload_n 0, 1) := by decide +kernel
theorem dX7_setsWithRings_12 : decode cX7_setsWithRings 12 = .ok (.getfield 45, 3) := by decide +kernel
theorem dX7_setsWithRings_15 : decode cX7_setsWithRings 15 = .ok (.ishl, 1) := by decide +kernel
theorem dX7_setsWithRings_16 : decode cX7_setsWithRings 16 = .ok (.if_icmp .ge 43, 3) := by decide +kernel
theorem dX7_setsWithRings_19 : decode cX7_setsWithRings 19 = .ok (.aload_n 0, 1) := by decide +kernel
theorem dX7_setsWithRings_20 : decode cX7_setsWithRings 20 = .ok (.iload_n 3, 1) := by decide +kernel
theorem dX7_setsWithRings_21 : decode cX7_setsWithRings 21 = .ok (.aload_n 2, 1) := by decide +kernel
theorem dX7_setsWithRings_22 : decode cX7_setsWithRings 22 = .ok (.invokevirtual 160, 3) := by decide +kernel
theorem dX7_setsWithRings_25 : decode cX7_setsWithRings 25 = .ok (.istore 4, 2) := by decide +kernel
theorem dX7_setsWithRings_27 : decode cX7_setsWithRings 27 = .ok (.iload 4, 2) := by decide +kernel
theorem dX7_setsWithRings_29 : decode cX7_setsWithRings 29 = .ok (.ifCond .lt 24, 3) := by decide +kernel
theorem dX7_setsWithRings_32 : decode cX7_setsWithRings 32 = .ok (.iload 4, 2) := by decide +kernel
theorem dX7_setsWithRings_34 : decode cX7_setsWithRings 34 = .ok (.aload_n 0, 1) := by decide +kernel
theorem dX7_setsWithRings_35 : decode cX7_setsWithRings 35 = .ok (.getfield 35, 3) := by decide +kernel
theorem dX7_setsWithRings_38 : decode cX7_setsWithRings 38 = .ok (.arraylength, 1) := by decide +kernel
theorem dX7_setsWithRings_39 : decode cX7_setsWithRings 39 = .ok (.if_icmp .ge 14, 3) := by decide +kernel
theorem dX7_setsWithRings_42 : decode cX7_setsWithRings 42 = .ok (.aload_n 0, 1) := by decide +kernel
theorem dX7_setsWithRings_43 : decode cX7_setsWithRings 43 = .ok (.getfield 35, 3) := by decide +kernel
theorem dX7_setsWithRings_46 : decode cX7_setsWithRings 46 = .ok (.iload 4, 2) := by decide +kernel
theorem dX7_setsWithRings_48 : decode cX7_setsWithRings 48 = .ok (.dup2, 1) := by decide +kernel
theorem dX7_setsWithRings_49 : decode cX7_setsWithRings 49 = .ok (.iaload, 1) := by decide +kernel
theorem dX7_setsWithRings_50 : decode cX7_setsWithRings 50 = .ok (.iconst 1, 1) := by decide +kernel
theorem dX7_setsWithRings_51 : decode cX7_setsWithRings 51 = .ok (.iadd, 1) := by decide +kernel
theorem dX7_setsWithRings_52 : decode cX7_setsWithRings 52 = .ok (.iastore, 1) := by decide +kernel
theorem dX7_setsWithRings_53 : decode cX7_setsWithRings 53 = .ok (.iinc 3 1, 3) := by decide +kernel
theorem dX7_setsWithRings_56 : decode cX7_setsWithRings 56 = .ok (.goto (-47), 3) := by decide +kernel
theorem dX7_setsWithRings_59 : decode cX7_setsWithRings 59 = .ok (.aload_n 0, 1) := by decide +kernel
theorem dX7_setsWithRings_60 : decode cX7_setsWithRings 60 = .ok (.iconst 1, 1) := by decide +kernel
theorem dX7_setsWithRings_61 : decode cX7_setsWithRings 61 = .ok (.putfield 32, 3) := by decide +kernel
theorem dX7_setsWithRings_64 : decode cX7_setsWithRings 64 = .ok (.iload_n 1, 1) := by decide +kernel
theorem dX7_setsWithRings_65 : decode cX7_setsWithRings 65 = .ok (.ifCond .lt 21, 3) := by decide +kernel
theorem dX7_setsWithRings_68 : decode cX7_setsWithRings 68 = .ok (.iload_n 1, 1) := by decide +kernel
theorem dX7_setsWithRings_69 : decode cX7_setsWithRings 69 = .ok (.aload_n 0, 1) := by decide +kernel
theorem dX7_setsWithRings_70 : decode cX7_setsWithRings 70 = .ok (.getfield 35, 3) := by decide +kernel
theorem dX7_setsWithRings_73 : decode cX7_setsWithRings 73 = .ok (.arraylength, 1) := by decide +kernel
theorem dX7_setsWithRings_74 : decode cX7_setsWithRings 74 = .ok (.if_icmp .ge 12, 3) := by decide +kernel
theorem dX7_setsWithRings_77 : decode cX7_setsWithRings 77 = .ok (.aload_n 0, 1) := by decide +kernel
theorem dX7_setsWithRings_78 : decode cX7_setsWithRings 78 = .ok (.getfield 35, 3) := by decide +kernel
theorem dX7_setsWithRings_81 : decode cX7_setsWithRings 81 = .ok (.iload_n 1, 1) := by decide +kernel
theorem dX7_setsWithRings_82 : decode cX7_setsWithRings 82 = .ok (.iaload, 1) := by decide +kernel
theorem dX7_setsWithRings_83 : decode cX7_setsWithRings 83 = .ok (.goto 4, 3) := by decide +kernel
theorem dX7_setsWithRings_86 : decode cX7_setsWithRings 86 = .ok (.iconst 0, 1) := by decide +kernel
theorem dX7_setsWithRings_87 : decode cX7_setsWithRings 87 = .ok (.ireturn, 1) := by decide +kernel
theorem dX7_isLoop_0 : decode cX7_isLoop 0 = .ok (.aload_n 0, 1) := by decide +kernel
theorem dX7_isLoop_1 : decode cX7_isLoop 1 = .ok (.aload_n 0, 1) := by decide +kernel
theorem dX7_isLoop_2 : decode cX7_isLoop 2 = .ok (.iload_n 1, 1) := by decide +kernel
theorem dX7_isLoop_3 : decode cX7_isLoop 3 = .ok (.iconst 0, 1) := by decide +kernel
theorem dX7_isLoop_4 : decode cX7_isLoop 4 = .ok (.invokevirtual 164, 3) := by decide +kernel
theorem dX7_isLoop_7 : decode cX7_isLoop 7 = .ok (.aload_n 0, 1) := by decide +kernel
theorem dX7_isLoop_8 : decode cX7_isLoop 8 = .ok (.iload_n 1, 1) := by decide +kernel
theorem dX7_isLoop_9 : decode cX7_isLoop 9 = .ok (.iconst 1, 1) := by decide +kernel
theorem dX7_isLoop_10 : decode cX7_isLoop 10 = .ok (.invokevirtual 164, 3) := by decide +kernel
theorem dX7_isLoop_13 : decode cX7_isLoop 13 = .ok (.invokevirtual 167, 3) := by decide +kernel
theorem dX7_isLoop_16 : decode cX7_isLoop 16 = .ok (.ireturn, 1) := by decide +kernel
theorem dX7_loops_0 : decode cX7_loops 0 = .ok (.iconst 0, 1) := by decide +kernel
theorem dX7_loops_1 : decode cX7_loops 1 = .ok (.istore_n 1, 1) := by decide +kernel
theorem dX7_loops_2 : decode cX7_loops 2 = .ok (.iconst 0, 1) := by decide +kernel
theorem dX7_loops_3 : decode cX7_loops 3 = .ok (.istore_n 2, 1) := by decide +kernel
theorem dX7_loops_4 : decode cX7_loops 4 = .ok (.iload_n 2, 1) := by decide +kernel
theorem dX7_loops_5 : decode cX7_loops 5 = .ok (.aload_n 0, 1) := by decide +kernel
theorem dX7_loops_6 : decode cX7_loops 6 = .ok (.getfield 45, 3) := by decide +kernel
theorem dX7_loops_9 : decode cX7_loops 9 = .ok (.if_icmp .ge 23, 3) := by decide +kernel
theorem dX7_loops_12 : decode cX7_loops 12 = .ok (.aload_n 0, 1) := by decide +kernel
theorem dX7_loops_13 : decode cX7_loops 13 = .ok (.iload_n 2, 1) := by decide +kernel
theorem dX7_loops_14 : decode cX7_loops 14 = .ok (.invokevirtual 170, 3) := by decide +kernel
theorem dX7_loops_17 : decode cX7_loops 17 = .ok (.ifCond .eq 9, 3) := by decide +kernel
theorem dX7_loops_20 : decode cX7_loops 20 = .ok (.iload_n 1, 1) := by decide +kernel
theorem dX7_loops_21 : decode cX7_loops 21 = .ok (.iconst 1, 1) := by decide +kernel
theorem dX7_loops_22 : decode cX7_loops 22 = .ok (.iload_n 2, 1) := by decide +kernel
theorem dX7_loops_23 : decode cX7_loops 23 = .ok (.ishl, 1) := by decide +kernel
theorem dX7_loops_24 : decode cX7_loops 24 = .ok (.ior, 1) := by decide +kernel
theorem dX7_loops_25 : decode cX7_loops 25 = .ok (.istore_n 1, 1) := by decide +kernel
theorem dX7_loops_26 : decode cX7_loops 26 = .ok (.iinc 2 1, 3) := by decide +kernel
theorem dX7_loops_29 : decode cX7_loops 29 = .ok (.goto (-25), 3) := by decide +kernel
theorem dX7_loops_32 : decode cX7_loops 32 = .ok (.iload_n 1, 1) := by decide +kernel
theorem dX7_loops_33 : decode cX7_loops 33 = .ok (.ireturn, 1) := by decide +kernel
theorem dX7_isPoke_0 : decode cX7_isPoke 0 = .ok (.iconst 0, 1) := by decide +kernel
theorem dX7_isPoke_1 : decode cX7_isPoke 1 = .ok (.istore_n 3, 1) := by decide +kernel
theorem dX7_isPoke_2 : decode cX7_isPoke 2 = .ok (.iload_n 3, 1) := by decide +kernel
theorem dX7_isPoke_3 : decode cX7_isPoke 3 = .ok (.iconst 2, 1) := by decide +kernel
theorem dX7_isPoke_4 : decode cX7_isPoke 4 = .ok (.if_icmp .ge 51, 3) := by decide +kernel
theorem dX7_isPoke_7 : decode cX7_isPoke 7 = .ok (.aload_n 0, 1) := by decide +kernel
theorem dX7_isPoke_8 : decode cX7_isPoke 8 = .ok (.aload_n 0, 1) := by decide +kernel
theorem dX7_isPoke_9 : decode cX7_isPoke 9 = .ok (.iload_n 1, 1) := by decide +kernel
theorem dX7_isPoke_10 : decode cX7_isPoke 10 = .ok (.iconst 0, 1) := by decide +kernel
theorem dX7_isPoke_11 : decode cX7_isPoke 11 = .ok (.invokevirtual 164, 3) := by decide +kernel
theorem dX7_isPoke_14 : decode cX7_isPoke 14 = .ok (.aload_n 0, 1) := by decide +kernel
theorem dX7_isPoke_15 : decode cX7_isPoke 15 = .ok (.iload_n 2, 1) := by decide +kernel
theorem dX7_isPoke_16 : decode cX7_isPoke 16 = .ok (.iload_n 3, 1) := by decide +kernel
theorem dX7_isPoke_17 : decode cX7_isPoke 17 = .ok (.invokevirtual 164, 3) := by decide +kernel
theorem dX7_isPoke_20 : decode cX7_isPoke 20 = .ok (.invokevirtual 167, 3) := by decide +kernel
theorem dX7_isPoke_23 : decode cX7_isPoke 23 = .ok (.ifCond .eq 26, 3) := by decide +kernel
theorem dX7_isPoke_26 : decode cX7_isPoke 26 = .ok (.aload_n 0, 1) := by decide +kernel
theorem dX7_isPoke_27 : decode cX7_isPoke 27 = .ok (.aload_n 0, 1) := by decide +kernel
theorem dX7_isPoke_28 : decode cX7_isPoke 28 = .ok (.iload_n 1, 1) := by decide +kernel
theorem dX7_isPoke_29 : decode cX7_isPoke 29 = .ok (.iconst 1, 1) := by decide +kernel
theorem dX7_isPoke_30 : decode cX7_isPoke 30 = .ok (.invokevirtual 164, 3) := by decide +kernel
theorem dX7_isPoke_33 : decode cX7_isPoke 33 = .ok (.aload_n 0, 1) := by decide +kernel
theorem dX7_isPoke_34 : decode cX7_isPoke 34 = .ok (.iload_n 2, 1) := by decide +kernel
theorem dX7_isPoke_35 : decode cX7_isPoke 35 = .ok (.iconst 1, 1) := by decide +kernel
theorem dX7_isPoke_36 : decode cX7_isPoke 36 = .ok (.iload_n 3, 1) := by decide +kernel
theorem dX7_isPoke_37 : decode cX7_isPoke 37 = .ok (.isub, 1) := by decide +kernel
theorem dX7_isPoke_38 : decode cX7_isPoke 38 = .ok (.invokevirtual 164, 3) := by decide +kernel
theorem dX7_isPoke_41 : decode cX7_isPoke 41 = .ok (.invokevirtual 167, 3) := by decide +kernel
theorem dX7_isPoke_44 : decode cX7_isPoke 44 = .ok (.ifCond .eq 5, 3) := by decide +kernel
theorem dX7_isPoke_47 : decode cX7_isPoke 47 = .ok (.iconst 1, 1) := by decide +kernel
theorem dX7_isPoke_48 : decode cX7_isPoke 48 = .ok (.ireturn, 1) := by decide +kernel
theorem dX7_isPoke_49 : decode cX7_isPoke 49 = .ok (.iinc 3 1, 3) := by decide +kernel
theorem dX7_isPoke_52 : decode cX7_isPoke 52 = .ok (.goto (-50), 3) := by decide +kernel
theorem dX7_isPoke_55 : decode cX7_isPoke 55 = .ok (.iconst 0, 1) := by decide +kernel
theorem dX7_isPoke_56 : decode cX7_isPoke 56 = .ok (.ireturn, 1) := by decide +kernel
theorem dX7_slideChoice_0 : decode cX7_slideChoice 0 = .ok (.iconst 0, 1) := by decide +kernel
theorem dX7_slideChoice_1 : decode cX7_slideChoice 1 = .ok (.istore 4, 2) := by decide +kernel
theorem dX7_slideChoice_3 : decode cX7_slideChoice 3 = .ok (.iload 4, 2) := by decide +kernel
theorem dX7_slideChoice_5 : decode cX7_slideChoice 5 = .ok (.bipush 8, 2) := by decide +kernel
theorem dX7_slideChoice_7 : decode cX7_slideChoice 7 = .ok (.if_icmp .ge 103, 3) := by decide +kernel
theorem dX7_slideChoice_10 : decode cX7_slideChoice 10 = .ok (.iload 4, 2) := by decide +kernel
theorem dX7_slideChoice_12 : decode cX7_slideChoice 12 = .ok (.iconst 2, 1) := by decide +kernel
theorem dX7_slideChoice_13 : decode cX7_slideChoice 13 = .ok (.ishr, 1) := by decide +kernel
theorem dX7_slideChoice_14 : decode cX7_slideChoice 14 = .ok (.iconst 1, 1) := by decide +kernel
theorem dX7_slideChoice_15 : decode cX7_slideChoice 15 = .ok (.iand, 1) := by decide +kernel
theorem dX7_slideChoice_16 : decode cX7_slideChoice 16 = .ok (.istore 5, 2) := by decide +kernel
theorem dX7_slideChoice_18 : decode cX7_slideChoice 18 = .ok (.iload 4, 2) := by decide +kernel
theorem dX7_slideChoice_20 : decode cX7_slideChoice 20 = .ok (.iconst 1, 1) := by decide +kernel
theorem dX7_slideChoice_21 : decode cX7_slideChoice 21 = .ok (.ishr, 1) := by decide +kernel
theorem dX7_slideChoice_22 : decode cX7_slideChoice 22 = .ok (.iconst 1, 1) := by decide +kernel
theorem dX7_slideChoice_23 : decode cX7_slideChoice 23 = .ok (.iand, 1) := by decide +kernel
theorem dX7_slideChoice_24 : decode cX7_slideChoice 24 = .ok (.istore 6, 2) := by decide +kernel
theorem dX7_slideChoice_26 : decode cX7_slideChoice 26 = .ok (.iload 4, 2) := by decide +kernel
theorem dX7_slideChoice_28 : decode cX7_slideChoice 28 = .ok (.iconst 1, 1) := by decide +kernel
theorem dX7_slideChoice_29 : decode cX7_slideChoice 29 = .ok (.iand, 1) := by decide +kernel
theorem dX7_slideChoice_30 : decode cX7_slideChoice 30 = .ok (.istore 7, 2) := by decide +kernel
theorem dX7_slideChoice_32 : decode cX7_slideChoice 32 = .ok (.aload_n 0, 1) := by decide +kernel
theorem dX7_slideChoice_33 : decode cX7_slideChoice 33 = .ok (.aload_n 0, 1) := by decide +kernel
theorem dX7_slideChoice_34 : decode cX7_slideChoice 34 = .ok (.iload_n 1, 1) := by decide +kernel
theorem dX7_slideChoice_35 : decode cX7_slideChoice 35 = .ok (.iload 5, 2) := by decide +kernel
theorem dX7_slideChoice_37 : decode cX7_slideChoice 37 = .ok (.invokevirtual 164, 3) := by decide +kernel
theorem dX7_slideChoice_40 : decode cX7_slideChoice 40 = .ok (.aload_n 0, 1) := by decide +kernel
theorem dX7_slideChoice_41 : decode cX7_slideChoice 41 = .ok (.iload_n 2, 1) := by decide +kernel
theorem dX7_slideChoice_42 : decode cX7_slideChoice 42 = .ok (.iload 6, 2) := by decide +kernel
theorem dX7_slideChoice_44 : decode cX7_slideChoice 44 = .ok (.invokevirtual 164, 3) := by decide +kernel
theorem dX7_slideChoice_47 : decode cX7_slideChoice 47 = .ok (.invokevirtual 167, 3) := by decide +kernel
theorem dX7_slideChoice_50 : decode cX7_slideChoice 50 = .ok (.ifCond .eq 54, 3) := by decide +kernel
theorem dX7_slideChoice_53 : decode cX7_slideChoice 53 = .ok (.aload_n 0, 1) := by decide +kernel
theorem dX7_slideChoice_54 : decode cX7_slideChoice 54 = .ok (.aload_n 0, 1) := by decide +kernel
theorem dX7_slideChoice_55 : decode cX7_slideChoice 55 = .ok (.iload_n 2, 1) := by decide +kernel
theorem dX7_slideChoice_56 : decode cX7_slideChoice 56 = .ok (.iconst 1, 1) := by decide +kernel
theorem dX7_slideChoice_57 : decode cX7_slideChoice 57 = .ok (.iload 6, 2) := by decide +kernel
theorem dX7_slideChoice_59 : decode cX7_slideChoice 59 = .ok (.isub, 1) := by decide +kernel
theorem dX7_slideChoice_60 : decode cX7_slideChoice 60 = .ok (.invokevirtual 164, 3) := by decide +kernel
theorem dX7_slideChoice_63 : decode cX7_slideChoice 63 = .ok (.aload_n 0, 1) := by decide +kernel
theorem dX7_slideChoice_64 : decode cX7_slideChoice 64 = .ok (.iload_n 3, 1) := by decide +kernel
theorem dX7_slideChoice_65 : decode cX7_slideChoice 65 = .ok (.iload 7, 2) := by decide +kernel
theorem dX7_slideChoice_67 : decode cX7_slideChoice 67 = .ok (.invokevirtual 164, 3) := by decide +kernel
theorem dX7_slideChoice_70 : decode cX7_slideChoice 70 = .ok (.invokevirtual 167, 3) := by decide +kernel
theorem dX7_slideChoice_73 : decode cX7_slideChoice 73 = .ok (.ifCond .eq 31, 3) := by decide +kernel
theorem dX7_slideChoice_76 : decode cX7_slideChoice 76 = .ok (.aload_n 0, 1) := by decide +kernel
theorem dX7_slideChoice_77 : decode cX7_slideChoice 77 = .ok (.aload_n 0, 1) := by decide +kernel
theorem dX7_slideChoice_78 : decode cX7_slideChoice 78 = .ok (.iload_n 3, 1) := by decide +kernel
theorem dX7_slideChoice_79 : decode cX7_slideChoice 79 = .ok (.iconst 1, 1) := by decide +kernel
theorem dX7_slideChoice_80 : decode cX7_slideChoice 80 = .ok (.iload 7, 2) := by decide +kernel
theorem dX7_slideChoice_82 : decode cX7_slideChoice 82 = .ok (.isub, 1) := by decide +kernel
theorem dX7_slideChoice_83 : decode cX7_slideChoice 83 = .ok (.invokevirtual 164, 3) := by decide +kernel
theorem dX7_slideChoice_86 : decode cX7_slideChoice 86 = .ok (.aload_n 0, 1) := by decide +kernel
theorem dX7_slideChoice_87 : decode cX7_slideChoice 87 = .ok (.iload_n 1, 1) := by decide +kernel
theorem dX7_slideChoice_88 : decode cX7_slideChoice 88 = .ok (.iconst 1, 1) := by decide +kernel
theorem dX7_slideChoice_89 : decode cX7_slideChoice 89 = .ok (.iload 5, 2) := by decide +kernel
theorem dX7_slideChoice_91 : decode cX7_slideChoice 91 = .ok (.isub, 1) := by decide +kernel
theorem dX7_slideChoice_92 : decode cX7_slideChoice 92 = .ok (.invokevirtual 164, 3) := by decide +kernel
theorem dX7_slideChoice_95 : decode cX7_slideChoice 95 = .ok (.invokevirtual 167, 3) := by decide +kernel
theorem dX7_slideChoice_98 : decode cX7_slideChoice 98 = .ok (.ifCond .eq 6, 3) := by decide +kernel
theorem dX7_slideChoice_101 : decode cX7_slideChoice 101 = .ok (.iload 4, 2) := by decide +kernel
theorem dX7_slideChoice_103 : decode cX7_slideChoice 103 = .ok (.ireturn, 1) := by decide +kernel
theorem dX7_slideChoice_104 : decode cX7_slideChoice 104 = .ok (.iinc 4 1, 3) := by decide +kernel
theorem dX7_slideChoice_107 : decode cX7_slideChoice 107 = .ok (.goto (-104), 3) := by decide +kernel
theorem dX7_slideChoice_110 : decode cX7_slideChoice 110 = .ok (.iconst (-1), 1) := by decide +kernel
theorem dX7_slideChoice_111 : decode cX7_slideChoice 111 = .ok (.ireturn, 1) := by decide +kernel
theorem dX8_init_0 : decode cX8_init 0 = .ok (.aload_n 0, 1) := by decide +kernel
theorem dX8_init_1 : decode cX8_init 1 = .ok (.invokespecial 3, 3) := by decide +kernel
theorem dX8_init_4 : decode cX8_init 4 = .ok (.aload_n 0, 1) := by decide +kernel
theorem dX8_init_5 : decode cX8_init 5 = .ok (.bipush 6, 2) := by decide +kernel
theorem dX8_init_7 : decode cX8_init 7 = .ok (.anewarray 9, 3) := by decide +kernel
theorem dX8_init_10 : decode cX8_init 10 = .ok (.putfield 11, 3) := by decide +kernel
theorem dX8_init_13 : decode cX8_init 13 = .ok (.aload_n 0, 1) := by decide +kernel
theorem dX8_init_14 : decode cX8_init 14 = .ok (.iconst 0, 1) := by decide +kernel
theorem dX8_init_15 : decode cX8_init 15 = .ok (.putfield 17, 3) := by decide +kernel
theorem dX8_init_18 : decode cX8_init 18 = .ok (.return_, 1) := by decide +kernel
theorem dX8_count_0 : decode cX8_count 0 = .ok (.aload_n 0, 1) := by decide +kernel
theorem dX8_count_1 : decode cX8_count 1 = .ok (.getfield 17, 3) := by decide +kernel
theorem dX8_count_4 : decode cX8_count 4 = .ok (.ireturn, 1) := by decide +kernel
theorem dX8_isFull_0 : decode cX8_isFull 0 = .ok (.aload_n 0, 1) := by decide +kernel
theorem dX8_isFull_1 : decode cX8_isFull 1 = .ok (.getfield 17, 3) := by decide +kernel
theorem dX8_isFull_4 : decode cX8_isFull 4 = .ok (.aload_n 0, 1) := by decide +kernel
theorem dX8_isFull_5 : decode cX8_isFull 5 = .ok (.getfield 11, 3) := by decide +kernel
theorem dX8_isFull_8 : decode cX8_isFull 8 = .ok (.arraylength, 1) := by decide +kernel
theorem dX8_isFull_9 : decode cX8_isFull 9 = .ok (.if_icmp .lt 7, 3) := by decide +kernel
theorem dX8_isFull_12 : decode cX8_isFull 12 = .ok (.iconst 1, 1) := by decide +kernel
theorem dX8_isFull_13 : decode cX8_isFull 13 = .ok (.goto 4, 3) := by decide +kernel
theorem dX8_isFull_16 : decode cX8_isFull 16 = .ok (.iconst 0, 1) := by decide +kernel
theorem dX8_isFull_17 : decode cX8_isFull 17 = .ok (.ireturn, 1) := by decide +kernel
theorem dX8_get_0 : decode cX8_get 0 = .ok (.iload_n 1, 1) := by decide +kernel
theorem dX8_get_1 : decode cX8_get 1 = .ok (.ifCond .lt 29, 3) := by decide +kernel
theorem dX8_get_4 : decode cX8_get 4 = .ok (.iload_n 1, 1) := by decide +kernel
theorem dX8_get_5 : decode cX8_get 5 = .ok (.aload_n 0, 1) := by decide +kernel
theorem dX8_get_6 : decode cX8_get 6 = .ok (.getfield 17, 3) := by decide +kernel
theorem dX8_get_9 : decode cX8_get 9 = .ok (.if_icmp .ge 21, 3) := by decide +kernel
theorem dX8_get_12 : decode cX8_get 12 = .ok (.iload_n 1, 1) := by decide +kernel
theorem dX8_get_13 : decode cX8_get 13 = .ok (.aload_n 0, 1) := by decide +kernel
theorem dX8_get_14 : decode cX8_get 14 = .ok (.getfield 11, 3) := by decide +kernel
theorem dX8_get_17 : decode cX8_get 17 = .ok (.arraylength, 1) := by decide +kernel
theorem dX8_get_18 : decode cX8_get 18 = .ok (.if_icmp .ge 12, 3) := by decide +kernel
theorem dX8_get_21 : decode cX8_get 21 = .ok (.aload_n 0, 1) := by decide +kernel
theorem dX8_get_22 : decode cX8_get 22 = .ok (.getfield 11, 3) := by decide +kernel
theorem dX8_get_25 : decode cX8_get 25 = .ok (.iload_n 1, 1) := by decide +kernel
theorem dX8_get_26 : decode cX8_get 26 = .ok (.aaload, 1) := by decide +kernel
theorem dX8_get_27 : decode cX8_get 27 = .ok (.goto 4, 3) := by decide +kernel
theorem dX8_get_30 : decode cX8_get 30 = .ok (.aconst_null, 1) := by decide +kernel
theorem dX8_get_31 : decode cX8_get 31 = .ok (.areturn, 1) := by decide +kernel
theorem dX8_add_0 : decode cX8_add 0 = .ok (.aload_n 0, 1) := by decide +kernel
theorem dX8_add_1 : decode cX8_add 1 = .ok (.invokevirtual 21, 3) := by decide +kernel
theorem dX8_add_4 : decode cX8_add 4 = .ok (.ifCond .ne 23, 3) := by decide +kernel
theorem dX8_add_7 : decode cX8_add 7 = .ok (.aload_n 0, 1) := by decide +kernel
theorem dX8_add_8 : decode cX8_add 8 = .ok (.getfield 11, 3) := by decide +kernel
theorem dX8_add_11 : decode cX8_add 11 = .ok (.aload_n 0, 1) := by decide +kernel
theorem dX8_add_12 : decode cX8_add 12 = .ok (.getfield 17, 3) := by decide +kernel
theorem dX8_add_15 : decode cX8_add 15 = .ok (.aload_n 1, 1) := by decide +kernel
theorem dX8_add_16 : decode cX8_add 16 = .ok (.aastore, 1) := by decide +kernel
theorem dX8_add_17 : decode cX8_add 17 = .ok (.aload_n 0, 1) := by decide +kernel
theorem dX8_add_18 : decode cX8_add 18 = .ok (.dup, 1) := by decide +kernel
theorem dX8_add_19 : decode cX8_add 19 = .ok (.getfield 17, 3) := by decide +kernel
theorem dX8_add_22 : decode cX8_add 22 = .ok (.iconst 1, 1) := by decide +kernel
theorem dX8_add_23 : decode cX8_add 23 = .ok (.iadd, 1) := by decide +kernel
theorem dX8_add_24 : decode cX8_add 24 = .ok (.putfield 17, 3) := by decide +kernel
theorem dX8_add_27 : decode cX8_add 27 = .ok (.return_, 1) := by decide +kernel
theorem dX8_replace_0 : decode cX8_replace 0 = .ok (.iload_n 1, 1) := by decide +kernel
theorem dX8_replace_1 : decode cX8_replace 1 = .ok (.ifCond .lt 18, 3) := by decide +kernel
theorem dX8_replace_4 : decode cX8_replace 4 = .ok (.iload_n 1, 1) := by decide +kernel
theorem dX8_replace_5 : decode cX8_replace 5 = .ok (.aload_n 0, 1) := by decide +kernel
theorem dX8_replace_6 : decode cX8_replace 6 = .ok (.getfield 17, 3) := by decide +kernel
theorem dX8_replace_9 : decode cX8_replace 9 = .ok (.if_icmp .ge 10, 3) := by decide +kernel
theorem dX8_replace_12 : decode cX8_replace 12 = .ok (.aload_n 0, 1) := by decide +kernel
theorem dX8_replace_13 : decode cX8_replace 13 = .ok (.getfield 11, 3) := by decide +kernel
theorem dX8_replace_16 : decode cX8_replace 16 = .ok (.iload_n 1, 1) := by decide +kernel
theorem dX8_replace_17 : decode cX8_replace 17 = .ok (.aload_n 2, 1) := by decide +kernel
theorem dX8_replace_18 : decode cX8_replace 18 = .ok (.aastore, 1) := by decide +kernel
theorem dX8_replace_19 : decode cX8_replace 19 = .ok (.return_, 1) := by decide +kernel
theorem dX8_remove_0 : decode cX8_remove 0 = .ok (.iload_n 1, 1) := by decide +kernel
theorem dX8_remove_1 : decode cX8_remove 1 = .ok (.ifCond .lt 53, 3) := by decide +kernel
theorem dX8_remove_4 : decode cX8_remove 4 = .ok (.iload_n 1, 1) := by decide +kernel
theorem dX8_remove_5 : decode cX8_remove 5 = .ok (.aload_n 0, 1) := by decide +kernel
theorem dX8_remove_6 : decode cX8_remove 6 = .ok (.getfield 17, 3) := by decide +kernel
theorem dX8_remove_9 : decode cX8_remove 9 = .ok (.if_icmp .ge 45, 3) := by decide +kernel
theorem dX8_remove_12 : decode cX8_remove 12 = .ok (.iload_n 1, 1) := by decide +kernel
theorem dX8_remove_13 : decode cX8_remove 13 = .ok (.istore_n 2, 1) := by decide +kernel
theorem dX8_remove_14 : decode cX8_remove 14 = .ok (.iload_n 2, 1) := by decide +kernel
theorem dX8_remove_15 : decode cX8_remove 15 = .ok (.iconst 1, 1) := by decide +kernel
theorem dX8_remove_16 : decode cX8_remove 16 = .ok (.iadd, 1) := by decide +kernel
theorem dX8_remove_17 : decode cX8_remove 17 = .ok (.aload_n 0, 1) := by decide +kernel
theorem dX8_remove_18 : decode cX8_remove 18 = .ok (.getfield 17, 3) := by decide +kernel
theorem dX8_remove_21 : decode cX8_remove 21 = .ok (.if_icmp .ge 23, 3) := by decide +kernel
theorem dX8_remove_24 : decode cX8_remove 24 = .ok (.aload_n 0, 1) := by decide +kernel
theorem dX8_remove_25 : decode cX8_remove 25 = .ok (.getfield 11, 3) := by decide +kernel
theorem dX8_remove_28 : decode cX8_remove 28 = .ok (.iload_n 2, 1) := by decide +kernel
theorem dX8_remove_29 : decode cX8_remove 29 = .ok (.aload_n 0, 1) := by decide +kernel
theorem dX8_remove_30 : decode cX8_remove 30 = .ok (.getfield 11, 3) := by decide +kernel
theorem dX8_remove_33 : decode cX8_remove 33 = .ok (.iload_n 2, 1) := by decide +kernel
theorem dX8_remove_34 : decode cX8_remove 34 = .ok (.iconst 1, 1) := by decide +kernel
theorem dX8_remove_35 : decode cX8_remove 35 = .ok (.iadd, 1) := by decide +kernel
theorem dX8_remove_36 : decode cX8_remove 36 = .ok (.aaload, 1) := by decide +kernel
theorem dX8_remove_37 : decode cX8_remove 37 = .ok (.aastore, 1) := by decide +kernel
theorem dX8_remove_38 : decode cX8_remove 38 = .ok (.iinc 2 1, 3) := by decide +kernel
theorem dX8_remove_41 : decode cX8_remove 41 = .ok (.goto (-27), 3) := by decide +kernel
theorem dX8_remove_44 : decode cX8_remove 44 = .ok (.aload_n 0, 1) := by decide +kernel
theorem dX8_remove_45 : decode cX8_remove 45 = .ok (.dup, 1) := by decide +kernel
theorem dX8_remove_46 : decode cX8_remove 46 = .ok (.getfield 17, 3) := by decide +kernel
theorem dX8_remove_49 : decode cX8_remove 49 = .ok (.iconst 1, 1) := by decide +kernel
theorem dX8_remove_50 : decode cX8_remove 50 = .ok (.isub, 1) := by decide +kernel
theorem dX8_remove_51 : decode cX8_remove 51 = .ok (.putfield 17, 3) := by decide +kernel
theorem dX8_remove_54 : decode cX8_remove 54 = .ok (.return_, 1) := by decide +kernel
theorem dX8_copyFrom_0 : decode cX8_copyFrom 0 = .ok (.aload_n 0, 1) := by decide +kernel
theorem dX8_copyFrom_1 : decode cX8_copyFrom 1 = .ok (.aload_n 1, 1) := by decide +kernel
theorem dX8_copyFrom_2 : decode cX8_copyFrom 2 = .ok (.invokevirtual 25, 3) := by decide +kernel
theorem dX8_copyFrom_5 : decode cX8_copyFrom 5 = .ok (.putfield 17, 3) := by decide +kernel
theorem dX8_copyFrom_8 : decode cX8_copyFrom 8 = .ok (.iconst 0, 1) := by decide +kernel
theorem dX8_copyFrom_9 : decode cX8_copyFrom 9 = .ok (.istore_n 2, 1) := by decide +kernel
theorem dX8_copyFrom_10 : decode cX8_copyFrom 10 = .ok (.iload_n 2, 1) := by decide +kernel
theorem dX8_copyFrom_11 : decode cX8_copyFrom 11 = .ok (.aload_n 0, 1) := by decide +kernel
theorem dX8_copyFrom_12 : decode cX8_copyFrom 12 = .ok (.getfield 17, 3) := by decide +kernel
theorem dX8_copyFrom_15 : decode cX8_copyFrom 15 = .ok (.if_icmp .ge 20, 3) := by decide +kernel
theorem dX8_copyFrom_18 : decode cX8_copyFrom 18 = .ok (.aload_n 0, 1) := by decide +kernel
theorem dX8_copyFrom_19 : decode cX8_copyFrom 19 = .ok (.getfield 11, 3) := by decide +kernel
theorem dX8_copyFrom_22 : decode cX8_copyFrom 22 = .ok (.iload_n 2, 1) := by decide +kernel
theorem dX8_copyFrom_23 : decode cX8_copyFrom 23 = .ok (.aload_n 1, 1) := by decide +kernel
theorem dX8_copyFrom_24 : decode cX8_copyFrom 24 = .ok (.iload_n 2, 1) := by decide +kernel
theorem dX8_copyFrom_25 : decode cX8_copyFrom 25 = .ok (.invokevirtual 28, 3) := by decide +kernel
theorem dX8_copyFrom_28 : decode cX8_copyFrom 28 = .ok (.aastore, 1) := by decide +kernel
theorem dX8_copyFrom_29 : decode cX8_copyFrom 29 = .ok (.iinc 2 1, 3) := by decide +kernel
theorem dX8_copyFrom_32 : decode cX8_copyFrom 32 = .ok (.goto (-22), 3) := by decide +kernel
theorem dX8_copyFrom_35 : decode cX8_copyFrom 35 = .ok (.return_, 1) := by decide +kernel
theorem dX8_unlike_0 : decode cX8_unlike 0 = .ok (.iconst 0, 1) := by decide +kernel
theorem dX8_unlike_1 : decode cX8_unlike 1 = .ok (.istore_n 1, 1) := by decide +kernel
theorem dX8_unlike_2 : decode cX8_unlike 2 = .ok (.iconst 0, 1) := by decide +kernel
theorem dX8_unlike_3 : decode cX8_unlike 3 = .ok (.istore_n 2, 1) := by decide +kernel
theorem dX8_unlike_4 : decode cX8_unlike 4 = .ok (.iload_n 2, 1) := by decide +kernel
theorem dX8_unlike_5 : decode cX8_unlike 5 = .ok (.aload_n 0, 1) := by decide +kernel
theorem dX8_unlike_6 : decode cX8_unlike 6 = .ok (.getfield 17, 3) := by decide +kernel
theorem dX8_unlike_9 : decode cX8_unlike 9 = .ok (.if_icmp .ge 20, 3) := by decide +kernel
theorem dX8_unlike_12 : decode cX8_unlike 12 = .ok (.aload_n 0, 1) := by decide +kernel
theorem dX8_unlike_13 : decode cX8_unlike 13 = .ok (.iload_n 2, 1) := by decide +kernel
theorem dX8_unlike_14 : decode cX8_unlike 14 = .ok (.invokevirtual 32, 3) := by decide +kernel
theorem dX8_unlike_17 : decode cX8_unlike 17 = .ok (.ifCond .ne 6, 3) := by decide +kernel
theorem dX8_unlike_20 : decode cX8_unlike 20 = .ok (.iinc 1 1, 3) := by decide +kernel
theorem dX8_unlike_23 : decode cX8_unlike 23 = .ok (.iinc 2 1, 3) := by decide +kernel
theorem dX8_unlike_26 : decode cX8_unlike 26 = .ok (.goto (-22), 3) := by decide +kernel
theorem dX8_unlike_29 : decode cX8_unlike 29 = .ok (.iload_n 1, 1) := by decide +kernel
theorem dX8_unlike_30 : decode cX8_unlike 30 = .ok (.ireturn, 1) := by decide +kernel
theorem dX8_hasLikeAhead_0 : decode cX8_hasLikeAhead 0 = .ok (.aload_n 0, 1) := by decide +kernel
theorem dX8_hasLikeAhead_1 : decode cX8_hasLikeAhead 1 = .ok (.iload_n 1, 1) := by decide +kernel
theorem dX8_hasLikeAhead_2 : decode cX8_hasLikeAhead 2 = .ok (.invokevirtual 28, 3) := by decide +kernel
theorem dX8_hasLikeAhead_5 : decode cX8_hasLikeAhead 5 = .ok (.astore_n 2, 1) := by decide +kernel
theorem dX8_hasLikeAhead_6 : decode cX8_hasLikeAhead 6 = .ok (.iconst 0, 1) := by decide +kernel
theorem dX8_hasLikeAhead_7 : decode cX8_hasLikeAhead 7 = .ok (.istore_n 3, 1) := by decide +kernel
theorem dX8_hasLikeAhead_8 : decode cX8_hasLikeAhead 8 = .ok (.iload_n 3, 1) := by decide +kernel
theorem dX8_hasLikeAhead_9 : decode cX8_hasLikeAhead 9 = .ok (.iload_n 1, 1) := by decide +kernel
theorem dX8_hasLikeAhead_10 : decode cX8_hasLikeAhead 10 = .ok (.if_icmp .ge 42, 3) := by decide +kernel
theorem dX8_hasLikeAhead_13 : decode cX8_hasLikeAhead 13 = .ok (.aload_n 0, 1) := by decide +kernel
theorem dX8_hasLikeAhead_14 : decode cX8_hasLikeAhead 14 = .ok (.iload_n 3, 1) := by decide +kernel
theorem dX8_hasLikeAhead_15 : decode cX8_hasLikeAhead 15 = .ok (.invokevirtual 28, 3) := by decide +kernel
theorem dX8_hasLikeAhead_18 : decode cX8_hasLikeAhead 18 = .ok (.astore 4, 2) := by decide +kernel
theorem dX8_hasLikeAhead_20 : decode cX8_hasLikeAhead 20 = .ok (.aload_n 2, 1) := by decide +kernel
theorem dX8_hasLikeAhead_21 : decode cX8_hasLikeAhead 21 = .ok (.ifnull 25, 3) := by decide +kernel
theorem dX8_hasLikeAhead_24 : decode cX8_hasLikeAhead 24 = .ok (.aload 4, 2) := by decide +kernel
theorem dX8_hasLikeAhead_26 : decode cX8_hasLikeAhead 26 = .ok (.ifnull 20, 3) := by decide +kernel
theorem dX8_hasLikeAhead_29 : decode cX8_hasLikeAhead 29 = .ok (.aload_n 2, 1) := by decide +kernel
theorem dX8_hasLikeAhead_30 : decode cX8_hasLikeAhead 30 = .ok (.invokevirtual 36, 3) := by decide +kernel
theorem dX8_hasLikeAhead_33 : decode cX8_hasLikeAhead 33 = .ok (.aload 4, 2) := by decide +kernel
theorem dX8_hasLikeAhead_35 : decode cX8_hasLikeAhead 35 = .ok (.invokevirtual 36, 3) := by decide +kernel
theorem dX8_hasLikeAhead_38 : decode cX8_hasLikeAhead 38 = .ok (.invokevirtual 40, 3) := by decide +kernel
theorem dX8_hasLikeAhead_41 : decode cX8_hasLikeAhead 41 = .ok (.ifCond .eq 5, 3) := by decide +kernel
theorem dX8_hasLikeAhead_44 : decode cX8_hasLikeAhead 44 = .ok (.iconst 1, 1) := by decide +kernel
theorem dX8_hasLikeAhead_45 : decode cX8_hasLikeAhead 45 = .ok (.ireturn, 1) := by decide +kernel
theorem dX8_hasLikeAhead_46 : decode cX8_hasLikeAhead 46 = .ok (.iinc 3 1, 3) := by decide +kernel
theorem dX8_hasLikeAhead_49 : decode cX8_hasLikeAhead 49 = .ok (.goto (-41), 3) := by decide +kernel
theorem dX8_hasLikeAhead_52 : decode cX8_hasLikeAhead 52 = .ok (.iconst 0, 1) := by decide +kernel
theorem dX8_hasLikeAhead_53 : decode cX8_hasLikeAhead 53 = .ok (.ireturn, 1) := by decide +kernel
theorem dX9_init_0 : decode cX9_init 0 = .ok (.aload_n 0, 1) := by decide +kernel
theorem dX9_init_1 : decode cX9_init 1 = .ok (.invokespecial 3, 3) := by decide +kernel
theorem dX9_init_4 : decode cX9_init 4 = .ok (.aload_n 0, 1) := by decide +kernel
theorem dX9_init_5 : decode cX9_init 5 = .ok (.bipush 20, 2) := by decide +kernel
theorem dX9_init_7 : decode cX9_init 7 = .ok (.newarray .int, 2) := by decide +kernel
theorem dX9_init_9 : decode cX9_init 9 = .ok (.putfield 9, 3) := by decide +kernel
theorem dX9_init_12 : decode cX9_init 12 = .ok (.aload_n 0, 1) := by decide +kernel
theorem dX9_init_13 : decode cX9_init 13 = .ok (.iconst 0, 1) := by decide +kernel
theorem dX9_init_14 : decode cX9_init 14 = .ok (.putfield 15, 3) := by decide +kernel
theorem dX9_init_17 : decode cX9_init 17 = .ok (.aload_n 0, 1) := by decide +kernel
theorem dX9_init_18 : decode cX9_init 18 = .ok (.iconst (-1), 1) := by decide +kernel
theorem dX9_init_19 : decode cX9_init 19 = .ok (.putfield 19, 3) := by decide +kernel
theorem dX9_init_22 : decode cX9_init 22 = .ok (.return_, 1) := by decide +kernel
theorem dX9_put_0 : decode cX9_put 0 = .ok (.aload_n 0, 1) := by decide +kernel
theorem dX9_put_1 : decode cX9_put 1 = .ok (.getfield 15, 3) := by decide +kernel
theorem dX9_put_4 : decode cX9_put 4 = .ok (.aload_n 0, 1) := by decide +kernel
theorem dX9_put_5 : decode cX9_put 5 = .ok (.getfield 9, 3) := by decide +kernel
theorem dX9_put_8 : decode cX9_put 8 = .ok (.arraylength, 1) := by decide +kernel
theorem dX9_put_9 : decode cX9_put 9 = .ok (.if_icmp .lt 5, 3) := by decide +kernel
theorem dX9_put_12 : decode cX9_put 12 = .ok (.iconst 0, 1) := by decide +kernel
theorem dX9_put_13 : decode cX9_put 13 = .ok (.ireturn, 1) := by decide +kernel
theorem dX9_put_14 : decode cX9_put 14 = .ok (.aload_n 0, 1) := by decide +kernel
theorem dX9_put_15 : decode cX9_put 15 = .ok (.getfield 9, 3) := by decide +kernel
theorem dX9_put_18 : decode cX9_put 18 = .ok (.aload_n 0, 1) := by decide +kernel
theorem dX9_put_19 : decode cX9_put 19 = .ok (.getfield 15, 3) := by decide +kernel
theorem dX9_put_22 : decode cX9_put 22 = .ok (.iload_n 1, 1) := by decide +kernel
theorem dX9_put_23 : decode cX9_put 23 = .ok (.iastore, 1) := by decide +kernel
theorem dX9_put_24 : decode cX9_put 24 = .ok (.aload_n 0, 1) := by decide +kernel
theorem dX9_put_25 : decode cX9_put 25 = .ok (.dup, 1) := by decide +kernel
theorem dX9_put_26 : decode cX9_put 26 = .ok (.getfield 15, 3) := by decide +kernel
theorem dX9_put_29 : decode cX9_put 29 = .ok (.iconst 1, 1) := by decide +kernel
theorem dX9_put_30 : decode cX9_put 30 = .ok (.iadd, 1) := by decide +kernel
theorem dX9_put_31 : decode cX9_put 31 = .ok (.putfield 15, 3) := by decide +kernel
theorem dX9_put_34 : decode cX9_put 34 = .ok (.iconst 1, 1) := by decide +kernel
theorem dX9_put_35 : decode cX9_put 35 = .ok (.ireturn, 1) := by decide +kernel
theorem dX9_length_0 : decode cX9_length 0 = .ok (.aload_n 0, 1) := by decide +kernel
theorem dX9_length_1 : decode cX9_length 1 = .ok (.getfield 15, 3) := by decide +kernel
theorem dX9_length_4 : decode cX9_length 4 = .ok (.ireturn, 1) := by decide +kernel
theorem dX9_faultPlace_0 : decode cX9_faultPlace 0 = .ok (.aload_n 0, 1) := by decide +kernel
theorem dX9_faultPlace_1 : decode cX9_faultPlace 1 = .ok (.getfield 19, 3) := by decide +kernel
theorem dX9_faultPlace_4 : decode cX9_faultPlace 4 = .ok (.ireturn, 1) := by decide +kernel
theorem dX9_clear_0 : decode cX9_clear 0 = .ok (.aload_n 0, 1) := by decide +kernel
theorem dX9_clear_1 : decode cX9_clear 1 = .ok (.iconst 0, 1) := by decide +kernel
theorem dX9_clear_2 : decode cX9_clear 2 = .ok (.putfield 15, 3) := by decide +kernel
theorem dX9_clear_5 : decode cX9_clear 5 = .ok (.return_, 1) := by decide +kernel
theorem dX9_copyTo_0 : decode cX9_copyTo 0 = .ok (.aload_n 1, 1) := by decide +kernel
theorem dX9_copyTo_1 : decode cX9_copyTo 1 = .ok (.invokevirtual 22, 3) := by decide +kernel
theorem dX9_copyTo_4 : decode cX9_copyTo 4 = .ok (.iconst 0, 1) := by decide +kernel
theorem dX9_copyTo_5 : decode cX9_copyTo 5 = .ok (.istore_n 2, 1) := by decide +kernel
theorem dX9_copyTo_6 : decode cX9_copyTo 6 = .ok (.iload_n 2, 1) := by decide +kernel
theorem dX9_copyTo_7 : decode cX9_copyTo 7 = .ok (.aload_n 0, 1) := by decide +kernel
theorem dX9_copyTo_8 : decode cX9_copyTo 8 = .ok (.getfield 15, 3) := by decide +kernel
theorem dX9_copyTo_11 : decode cX9_copyTo 11 = .ok (.if_icmp .ge 19, 3) := by decide +kernel
theorem dX9_copyTo_14 : decode cX9_copyTo 14 = .ok (.aload_n 1, 1) := by decide +kernel
theorem dX9_copyTo_15 : decode cX9_copyTo 15 = .ok (.aload_n 0, 1) := by decide +kernel
theorem dX9_copyTo_16 : decode cX9_copyTo 16 = .ok (.getfield 9, 3) := by decide +kernel
theorem dX9_copyTo_19 : decode cX9_copyTo 19 = .ok (.iload_n 2, 1) := by decide +kernel
theorem dX9_copyTo_20 : decode cX9_copyTo 20 = .ok (.iaload, 1) := by decide +kernel
theorem dX9_copyTo_21 : decode cX9_copyTo 21 = .ok (.invokevirtual 27, 3) := by decide +kernel
theorem dX9_copyTo_24 : decode cX9_copyTo 24 = .ok (.iinc 2 1, 3) := by decide +kernel
theorem dX9_copyTo_27 : decode cX9_copyTo 27 = .ok (.goto (-21), 3) := by decide +kernel
theorem dX9_copyTo_30 : decode cX9_copyTo 30 = .ok (.return_, 1) := by decide +kernel
theorem dX9_judge_0 : decode cX9_judge 0 = .ok (.iconst 0, 1) := by decide +kernel
theorem dX9_judge_1 : decode cX9_judge 1 = .ok (.istore_n 1, 1) := by decide +kernel
theorem dX9_judge_2 : decode cX9_judge 2 = .ok (.iconst 0, 1) := by decide +kernel
theorem dX9_judge_3 : decode cX9_judge 3 = .ok (.istore_n 2, 1) := by decide +kernel
theorem dX9_judge_4 : decode cX9_judge 4 = .ok (.iload_n 2, 1) := by decide +kernel
theorem dX9_judge_5 : decode cX9_judge 5 = .ok (.aload_n 0, 1) := by decide +kernel
theorem dX9_judge_6 : decode cX9_judge 6 = .ok (.getfield 15, 3) := by decide +kernel
theorem dX9_judge_9 : decode cX9_judge 9 = .ok (.if_icmp .ge 54, 3) := by decide +kernel
theorem dX9_judge_12 : decode cX9_judge 12 = .ok (.aload_n 0, 1) := by decide +kernel
theorem dX9_judge_13 : decode cX9_judge 13 = .ok (.aload_n 0, 1) := by decide +kernel
theorem dX9_judge_14 : decode cX9_judge 14 = .ok (.getfield 9, 3) := by decide +kernel
theorem dX9_judge_17 : decode cX9_judge 17 = .ok (.iload_n 2, 1) := by decide +kernel
theorem dX9_judge_18 : decode cX9_judge 18 = .ok (.iaload, 1) := by decide +kernel
theorem dX9_judge_19 : decode cX9_judge 19 = .ok (.iload_n 2, 1) := by decide +kernel
theorem dX9_judge_20 : decode cX9_judge 20 = .ok (.invokevirtual 31, 3) := by decide +kernel
theorem dX9_judge_23 : decode cX9_judge 23 = .ok (.istore_n 3, 1) := by decide +kernel
theorem dX9_judge_24 : decode cX9_judge 24 = .ok (.iload_n 3, 1) := by decide +kernel
theorem dX9_judge_25 : decode cX9_judge 25 = .ok (.ifCond .ne 6, 3) := by decide +kernel
theorem dX9_judge_28 : decode cX9_judge 28 = .ok (.iinc 1 1, 3) := by decide +kernel
theorem dX9_judge_31 : decode cX9_judge 31 = .ok (.aload_n 0, 1) := by decide +kernel
theorem dX9_judge_32 : decode cX9_judge 32 = .ok (.getfield 9, 3) := by decide +kernel
theorem dX9_judge_35 : decode cX9_judge 35 = .ok (.iload_n 2, 1) := by decide +kernel
theorem dX9_judge_36 : decode cX9_judge 36 = .ok (.iaload, 1) := by decide +kernel
theorem dX9_judge_37 : decode cX9_judge 37 = .ok (.iload_n 3, 1) := by decide +kernel
theorem dX9_judge_38 : decode cX9_judge 38 = .ok (.iload_n 1, 1) := by decide +kernel
theorem dX9_judge_39 : decode cX9_judge 39 = .ok (.invokestatic 35, 3) := by decide +kernel
theorem dX9_judge_42 : decode cX9_judge 42 = .ok (.istore 4, 2) := by decide +kernel
theorem dX9_judge_44 : decode cX9_judge 44 = .ok (.iload 4, 2) := by decide +kernel
theorem dX9_judge_46 : decode cX9_judge 46 = .ok (.ifCond .eq 11, 3) := by decide +kernel
theorem dX9_judge_49 : decode cX9_judge 49 = .ok (.aload_n 0, 1) := by decide +kernel
theorem dX9_judge_50 : decode cX9_judge 50 = .ok (.iload_n 2, 1) := by decide +kernel
theorem dX9_judge_51 : decode cX9_judge 51 = .ok (.putfield 19, 3) := by decide +kernel
theorem dX9_judge_54 : decode cX9_judge 54 = .ok (.iload 4, 2) := by decide +kernel
theorem dX9_judge_56 : decode cX9_judge 56 = .ok (.ireturn, 1) := by decide +kernel
theorem dX9_judge_57 : decode cX9_judge 57 = .ok (.iinc 2 1, 3) := by decide +kernel
theorem dX9_judge_60 : decode cX9_judge 60 = .ok (.goto (-56), 3) := by decide +kernel
theorem dX9_judge_63 : decode cX9_judge 63 = .ok (.iconst 2, 1) := by decide +kernel
theorem dX9_judge_64 : decode cX9_judge 64 = .ok (.iload_n 1, 1) := by decide +kernel
theorem dX9_judge_65 : decode cX9_judge 65 = .ok (.imul, 1) := by decide +kernel
theorem dX9_judge_66 : decode cX9_judge 66 = .ok (.aload_n 0, 1) := by decide +kernel
theorem dX9_judge_67 : decode cX9_judge 67 = .ok (.getfield 15, 3) := by decide +kernel
theorem dX9_judge_70 : decode cX9_judge 70 = .ok (.if_icmp .ne 7, 3) := by decide +kernel
theorem dX9_judge_73 : decode cX9_judge 73 = .ok (.iconst 1, 1) := by decide +kernel
theorem dX9_judge_74 : decode cX9_judge 74 = .ok (.goto 4, 3) := by decide +kernel
theorem dX9_judge_77 : decode cX9_judge 77 = .ok (.iconst 0, 1) := by decide +kernel
theorem dX9_judge_78 : decode cX9_judge 78 = .ok (.istore_n 2, 1) := by decide +kernel
theorem dX9_judge_79 : decode cX9_judge 79 = .ok (.aload_n 0, 1) := by decide +kernel
theorem dX9_judge_80 : decode cX9_judge 80 = .ok (.iload_n 2, 1) := by decide +kernel
theorem dX9_judge_81 : decode cX9_judge 81 = .ok (.ifCond .eq 7, 3) := by decide +kernel
theorem dX9_judge_84 : decode cX9_judge 84 = .ok (.iconst (-1), 1) := by decide +kernel
theorem dX9_judge_85 : decode cX9_judge 85 = .ok (.goto 7, 3) := by decide +kernel
theorem dX9_judge_88 : decode cX9_judge 88 = .ok (.aload_n 0, 1) := by decide +kernel
theorem dX9_judge_89 : decode cX9_judge 89 = .ok (.getfield 15, 3) := by decide +kernel
theorem dX9_judge_92 : decode cX9_judge 92 = .ok (.putfield 19, 3) := by decide +kernel
theorem dX9_judge_95 : decode cX9_judge 95 = .ok (.iload_n 2, 1) := by decide +kernel
theorem dX9_judge_96 : decode cX9_judge 96 = .ok (.ifCond .eq 7, 3) := by decide +kernel
theorem dX9_judge_99 : decode cX9_judge 99 = .ok (.iconst 0, 1) := by decide +kernel
theorem dX9_judge_100 : decode cX9_judge 100 = .ok (.goto 4, 3) := by decide +kernel
theorem dX9_judge_103 : decode cX9_judge 103 = .ok (.iconst 4, 1) := by decide +kernel
theorem dX9_judge_104 : decode cX9_judge 104 = .ok (.ireturn, 1) := by decide +kernel
theorem dX9_faultOfLetter_0 : decode cX9_faultOfLetter 0 = .ok (.iload_n 0, 1) := by decide +kernel
theorem dX9_faultOfLetter_1 : decode cX9_faultOfLetter 1 = .ok (.bipush 97, 2) := by decide +kernel
theorem dX9_faultOfLetter_3 : decode cX9_faultOfLetter 3 = .ok (.if_icmp .lt 9, 3) := by decide +kernel
theorem dX9_faultOfLetter_6 : decode cX9_faultOfLetter 6 = .ok (.iload_n 0, 1) := by decide +kernel
theorem dX9_faultOfLetter_7 : decode cX9_faultOfLetter 7 = .ok (.bipush 122, 2) := by decide +kernel
theorem dX9_faultOfLetter_9 : decode cX9_faultOfLetter 9 = .ok (.if_icmp .le 5, 3) := by decide +kernel
theorem dX9_faultOfLetter_12 : decode cX9_faultOfLetter 12 = .ok (.iconst 1, 1) := by decide +kernel
theorem dX9_faultOfLetter_13 : decode cX9_faultOfLetter 13 = .ok (.ireturn, 1) := by decide +kernel
theorem dX9_faultOfLetter_14 : decode cX9_faultOfLetter 14 = .ok (.iload_n 1, 1) := by decide +kernel
theorem dX9_faultOfLetter_15 : decode cX9_faultOfLetter 15 = .ok (.iconst 2, 1) := by decide +kernel
theorem dX9_faultOfLetter_16 : decode cX9_faultOfLetter 16 = .ok (.if_icmp .ne 5, 3) := by decide +kernel
theorem dX9_faultOfLetter_19 : decode cX9_faultOfLetter 19 = .ok (.iconst 2, 1) := by decide +kernel
theorem dX9_faultOfLetter_20 : decode cX9_faultOfLetter 20 = .ok (.ireturn, 1) := by decide +kernel
theorem dX9_faultOfLetter_21 : decode cX9_faultOfLetter 21 = .ok (.iload_n 2, 1) := by decide +kernel
theorem dX9_faultOfLetter_22 : decode cX9_faultOfLetter 22 = .ok (.bipush 8, 2) := by decide +kernel
theorem dX9_faultOfLetter_24 : decode cX9_faultOfLetter 24 = .ok (.if_icmp .le 7, 3) := by decide +kernel
theorem dX9_faultOfLetter_27 : decode cX9_faultOfLetter 27 = .ok (.iconst 3, 1) := by decide +kernel
theorem dX9_faultOfLetter_28 : decode cX9_faultOfLetter 28 = .ok (.goto 4, 3) := by decide +kernel
theorem dX9_faultOfLetter_31 : decode cX9_faultOfLetter 31 = .ok (.iconst 0, 1) := by decide +kernel
theorem dX9_faultOfLetter_32 : decode cX9_faultOfLetter 32 = .ok (.ireturn, 1) := by decide +kernel
theorem dX9_countOf_0 : decode cX9_countOf 0 = .ok (.iconst 0, 1) := by decide +kernel
theorem dX9_countOf_1 : decode cX9_countOf 1 = .ok (.istore_n 3, 1) := by decide +kernel
theorem dX9_countOf_2 : decode cX9_countOf 2 = .ok (.iconst 0, 1) := by decide +kernel
theorem dX9_countOf_3 : decode cX9_countOf 3 = .ok (.istore 4, 2) := by decide +kernel
theorem dX9_countOf_5 : decode cX9_countOf 5 = .ok (.iload 4, 2) := by decide +kernel
theorem dX9_countOf_7 : decode cX9_countOf 7 = .ok (.iload_n 2, 1) := by decide +kernel
theorem dX9_countOf_8 : decode cX9_countOf 8 = .ok (.if_icmp .ge 23, 3) := by decide +kernel
theorem dX9_countOf_11 : decode cX9_countOf 11 = .ok (.aload_n 0, 1) := by decide +kernel
theorem dX9_countOf_12 : decode cX9_countOf 12 = .ok (.getfield 9, 3) := by decide +kernel
theorem dX9_countOf_15 : decode cX9_countOf 15 = .ok (.iload 4, 2) := by decide +kernel
theorem dX9_countOf_17 : decode cX9_countOf 17 = .ok (.iaload, 1) := by decide +kernel
theorem dX9_countOf_18 : decode cX9_countOf 18 = .ok (.iload_n 1, 1) := by decide +kernel
theorem dX9_countOf_19 : decode cX9_countOf 19 = .ok (.if_icmp .ne 6, 3) := by decide +kernel
theorem dX9_countOf_22 : decode cX9_countOf 22 = .ok (.iinc 3 1, 3) := by decide +kernel
theorem dX9_countOf_25 : decode cX9_countOf 25 = .ok (.iinc 4 1, 3) := by decide +kernel
theorem dX9_countOf_28 : decode cX9_countOf 28 = .ok (.goto (-23), 3) := by decide +kernel
theorem dX9_countOf_31 : decode cX9_countOf 31 = .ok (.iload_n 3, 1) := by decide +kernel
theorem dX9_countOf_32 : decode cX9_countOf 32 = .ok (.ireturn, 1) := by decide +kernel
theorem dX10_init_0 : decode cX10_init 0 = .ok (.aload_n 0, 1) := by decide +kernel
theorem dX10_init_1 : decode cX10_init 1 = .ok (.invokespecial 1, 3) := by decide +kernel
theorem dX10_init_4 : decode cX10_init 4 = .ok (.aload_n 0, 1) := by decide +kernel
theorem dX10_init_5 : decode cX10_init 5 = .ok (.aconst_null, 1) := by decide +kernel
theorem dX10_init_6 : decode cX10_init 6 = .ok (.putfield 7, 3) := by decide +kernel
theorem dX10_init_9 : decode cX10_init 9 = .ok (.aload_n 0, 1) := by decide +kernel
theorem dX10_init_10 : decode cX10_init 10 = .ok (.aload_n 1, 1) := by decide +kernel
theorem dX10_init_11 : decode cX10_init 11 = .ok (.putfield 13, 3) := by decide +kernel
theorem dX10_init_14 : decode cX10_init 14 = .ok (.aload_n 0, 1) := by decide +kernel
theorem dX10_init_15 : decode cX10_init 15 = .ok (.iload_n 2, 1) := by decide +kernel
theorem dX10_init_16 : decode cX10_init 16 = .ok (.putfield 17, 3) := by decide +kernel
theorem dX10_init_19 : decode cX10_init 19 = .ok (.return_, 1) := by decide +kernel
theorem dX10_row_0 : decode cX10_row 0 = .ok (.aload_n 0, 1) := by decide +kernel
theorem dX10_row_1 : decode cX10_row 1 = .ok (.getfield 13, 3) := by decide +kernel
theorem dX10_row_4 : decode cX10_row 4 = .ok (.areturn, 1) := by decide +kernel
theorem dX10_signSet_0 : decode cX10_signSet 0 = .ok (.aload_n 0, 1) := by decide +kernel
theorem dX10_signSet_1 : decode cX10_signSet 1 = .ok (.getfield 17, 3) := by decide +kernel
theorem dX10_signSet_4 : decode cX10_signSet 4 = .ok (.ireturn, 1) := by decide +kernel
theorem dX10_faces_0 : decode cX10_faces 0 = .ok (.aload_n 0, 1) := by decide +kernel
theorem dX10_faces_1 : decode cX10_faces 1 = .ok (.getfield 7, 3) := by decide +kernel
theorem dX10_faces_4 : decode cX10_faces 4 = .ok (.ifnonnull 23, 3) := by decide +kernel
theorem dX10_faces_7 : decode cX10_faces 7 = .ok (.aload_n 0, 1) := by decide +kernel
theorem dX10_faces_8 : decode cX10_faces 8 = .ok (.new 21, 3) := by decide +kernel
theorem dX10_faces_11 : decode cX10_faces 11 = .ok (.dup, 1) := by decide +kernel
theorem dX10_faces_12 : decode cX10_faces 12 = .ok (.aload_n 0, 1) := by decide +kernel
theorem dX10_faces_13 : decode cX10_faces 13 = .ok (.getfield 13, 3) := by decide +kernel
theorem dX10_faces_16 : decode cX10_faces 16 = .ok (.aload_n 0, 1) := by decide +kernel
theorem dX10_faces_17 : decode cX10_faces 17 = .ok (.getfield 17, 3) := by decide +kernel
theorem dX10_faces_20 : decode cX10_faces 20 = .ok (.aload_n 1, 1) := by decide +kernel
theorem dX10_faces_21 : decode cX10_faces 21 = .ok (.invokespecial 23, 3) := by decide +kernel
theorem dX10_faces_24 : decode cX10_faces 24 = .ok (.putfield 7, 3) := by decide +kernel
theorem dX10_faces_27 : decode cX10_faces 27 = .ok (.aload_n 0, 1) := by decide +kernel
theorem dX10_faces_28 : decode cX10_faces 28 = .ok (.getfield 7, 3) := by decide +kernel
theorem dX10_faces_31 : decode cX10_faces 31 = .ok (.areturn, 1) := by decide +kernel
theorem dX11_init_0 : decode cX11_init 0 = .ok (.aload_n 0, 1) := by decide +kernel
theorem dX11_init_1 : decode cX11_init 1 = .ok (.invokespecial 1, 3) := by decide +kernel
theorem dX11_init_4 : decode cX11_init 4 = .ok (.aload_n 0, 1) := by decide +kernel
theorem dX11_init_5 : decode cX11_init 5 = .ok (.new 7, 3) := by decide +kernel
theorem dX11_init_8 : decode cX11_init 8 = .ok (.dup, 1) := by decide +kernel
theorem dX11_init_9 : decode cX11_init 9 = .ok (.invokespecial 9, 3) := by decide +kernel
theorem dX11_init_12 : decode cX11_init 12 = .ok (.putfield 10, 3) := by decide +kernel
theorem dX11_init_15 : decode cX11_init 15 = .ok (.aload_n 0, 1) := by decide +kernel
theorem dX11_init_16 : decode cX11_init 16 = .ok (.new 16, 3) := by decide +kernel
theorem dX11_init_19 : decode cX11_init 19 = .ok (.dup, 1) := by decide +kernel
theorem dX11_init_20 : decode cX11_init 20 = .ok (.invokespecial 18, 3) := by decide +kernel
theorem dX11_init_23 : decode cX11_init 23 = .ok (.putfield 19, 3) := by decide +kernel
theorem dX11_init_26 : decode cX11_init 26 = .ok (.aload_n 0, 1) := by decide +kernel
theorem dX11_init_27 : decode cX11_init 27 = .ok (.new 23, 3) := by decide +kernel
theorem dX11_init_30 : decode cX11_init 30 = .ok (.dup, 1) := by decide +kernel
theorem dX11_init_31 : decode cX11_init 31 = .ok (.invokespecial 25, 3) := by decide +kernel
theorem dX11_init_34 : decode cX11_init 34 = .ok (.putfield 26, 3) := by decide +kernel
theorem dX11_init_37 : decode cX11_init 37 = .ok (.aload_n 0, 1) := by decide +kernel
theorem dX11_init_38 : decode cX11_init 38 = .ok (.new 30, 3) := by decide +kernel
theorem dX11_init_41 : decode cX11_init 41 = .ok (.dup, 1) := by decide +kernel
theorem dX11_init_42 : decode cX11_init 42 = .ok (.invokespecial 32, 3) := by decide +kernel
theorem dX11_init_45 : decode cX11_init 45 = .ok (.putfield 33, 3) := by decide +kernel
theorem dX11_init_48 : decode cX11_init 48 = .ok (.aload_n 0, 1) := by decide +kernel
theorem dX11_init_49 : decode cX11_init 49 = .ok (.iconst 2, 1) := by decide +kernel
theorem dX11_init_50 : decode cX11_init 50 = .ok (.anewarray 37, 3) := by decide +kernel
theorem dX11_init_53 : decode cX11_init 53 = .ok (.dup, 1) := by decide +kernel
theorem dX11_init_54 : decode cX11_init 54 = .ok (.iconst 0, 1) := by decide +kernel
theorem dX11_init_55 : decode cX11_init 55 = .ok (.new 37, 3) := by decide +kernel
theorem dX11_init_58 : decode cX11_init 58 = .ok (.dup, 1) := by decide +kernel
theorem dX11_init_59 : decode cX11_init 59 = .ok (.invokespecial 39, 3) := by decide +kernel
theorem dX11_init_62 : decode cX11_init 62 = .ok (.aastore, 1) := by decide +kernel
theorem dX11_init_63 : decode cX11_init 63 = .ok (.dup, 1) := by decide +kernel
theorem dX11_init_64 : decode cX11_init 64 = .ok (.iconst 1, 1) := by decide +kernel
theorem dX11_init_65 : decode cX11_init 65 = .ok (.new 37, 3) := by decide +kernel
theorem dX11_init_68 : decode cX11_init 68 = .ok (.dup, 1) := by decide +kernel
theorem dX11_init_69 : decode cX11_init 69 = .ok (.invokespecial 39, 3) := by decide +kernel
theorem dX11_init_72 : decode cX11_init 72 = .ok (.aastore, 1) := by decide +kernel
theorem dX11_init_73 : decode cX11_init 73 = .ok (.putfield 40, 3) := by decide +kernel
theorem dX11_init_76 : decode cX11_init 76 = .ok (.aload_n 0, 1) := by decide +kernel
theorem dX11_init_77 : decode cX11_init 77 = .ok (.new 44, 3) := by decide +kernel
theorem dX11_init_80 : decode cX11_init 80 = .ok (.dup, 1) := by decide +kernel
theorem dX11_init_81 : decode cX11_init 81 = .ok (.invokespecial 46, 3) := by decide +kernel
theorem dX11_init_84 : decode cX11_init 84 = .ok (.putfield 47, 3) := by decide +kernel
theorem dX11_init_87 : decode cX11_init 87 = .ok (.aload_n 0, 1) := by decide +kernel
theorem dX11_init_88 : decode cX11_init 88 = .ok (.new 51, 3) := by decide +kernel
theorem dX11_init_91 : decode cX11_init 91 = .ok (.dup, 1) := by decide +kernel
theorem dX11_init_92 : decode cX11_init 92 = .ok (.invokespecial 53, 3) := by decide +kernel
theorem dX11_init_95 : decode cX11_init 95 = .ok (.putfield 54, 3) := by decide +kernel
theorem dX11_init_98 : decode cX11_init 98 = .ok (.aload_n 0, 1) := by decide +kernel
theorem dX11_init_99 : decode cX11_init 99 = .ok (.new 58, 3) := by decide +kernel
theorem dX11_init_102 : decode cX11_init 102 = .ok (.dup, 1) := by decide +kernel
theorem dX11_init_103 : decode cX11_init 103 = .ok (.invokespecial 60, 3) := by decide +kernel
theorem dX11_init_106 : decode cX11_init 106 = .ok (.putfield 61, 3) := by decide +kernel
theorem dX11_init_109 : decode cX11_init 109 = .ok (.return_, 1) := by decide +kernel
theorem dX11_feed_0 : decode cX11_feed 0 = .ok (.iload_n 1, 1) := by decide +kernel
theorem dX11_feed_1 : decode cX11_feed 1 = .ok (.ifCond .lt 10, 3) := by decide +kernel
theorem dX11_feed_4 : decode cX11_feed 4 = .ok (.iload_n 1, 1) := by decide +kernel
theorem dX11_feed_5 : decode cX11_feed 5 = .ok (.sipush 255, 3) := by decide +kernel
theorem dX11_feed_8 : decode cX11_feed 8 = .ok (.if_icmp .le 6, 3) := by decide +kernel
theorem dX11_feed_11 : decode cX11_feed 11 = .ok (.ldc 65, 2) := by decide +kernel
theorem dX11_feed_13 : decode cX11_feed 13 = .ok (.ireturn, 1) := by decide +kernel
theorem dX11_feed_14 : decode cX11_feed 14 = .ok (.aload_n 0, 1) := by decide +kernel
theorem dX11_feed_15 : decode cX11_feed 15 = .ok (.getfield 19, 3) := by decide +kernel
theorem dX11_feed_18 : decode cX11_feed 18 = .ok (.iload_n 1, 1) := by decide +kernel
theorem dX11_feed_19 : decode cX11_feed 19 = .ok (.invokevirtual 66, 3) := by decide +kernel
theorem dX11_feed_22 : decode cX11_feed 22 = .ok (.ifCond .eq 13, 3) := by decide +kernel
theorem dX11_feed_25 : decode cX11_feed 25 = .ok (.aload_n 0, 1) := by decide +kernel
theorem dX11_feed_26 : decode cX11_feed 26 = .ok (.getfield 19, 3) := by decide +kernel
theorem dX11_feed_29 : decode cX11_feed 29 = .ok (.invokevirtual 70, 3) := by decide +kernel
theorem dX11_feed_32 : decode cX11_feed 32 = .ok (.goto 5, 3) := by decide +kernel
theorem dX11_feed_35 : decode cX11_feed 35 = .ok (.ldc 74, 2) := by decide +kernel
theorem dX11_feed_37 : decode cX11_feed 37 = .ok (.ireturn, 1) := by decide +kernel
theorem dX11_tell_0 : decode cX11_tell 0 = .ok (.aload_n 0, 1) := by decide +kernel
theorem dX11_tell_1 : decode cX11_tell 1 = .ok (.getfield 10, 3) := by decide +kernel
theorem dX11_tell_4 : decode cX11_tell 4 = .ok (.invokevirtual 75, 3) := by decide +kernel
theorem dX11_tell_7 : decode cX11_tell 7 = .ok (.ifCond .eq 6, 3) := by decide +kernel
theorem dX11_tell_10 : decode cX11_tell 10 = .ok (.ldc 74, 2) := by decide +kernel
theorem dX11_tell_12 : decode cX11_tell 12 = .ok (.ireturn, 1) := by decide +kernel
theorem dX11_tell_13 : decode cX11_tell 13 = .ok (.aload_n 0, 1) := by decide +kernel
theorem dX11_tell_14 : decode cX11_tell 14 = .ok (.getfield 19, 3) := by decide +kernel
theorem dX11_tell_17 : decode cX11_tell 17 = .ok (.invokevirtual 79, 3) := by decide +kernel
theorem dX11_tell_20 : decode cX11_tell 20 = .ok (.istore_n 1, 1) := by decide +kernel
theorem dX11_tell_21 : decode cX11_tell 21 = .ok (.iload_n 1, 1) := by decide +kernel
theorem dX11_tell_22 : decode cX11_tell 22 = .ok (.ifCond .ne 14, 3) := by decide +kernel
theorem dX11_tell_25 : decode cX11_tell 25 = .ok (.aload_n 0, 1) := by decide +kernel
theorem dX11_tell_26 : decode cX11_tell 26 = .ok (.getfield 19, 3) := by decide +kernel
theorem dX11_tell_29 : decode cX11_tell 29 = .ok (.aload_n 0, 1) := by decide +kernel
theorem dX11_tell_30 : decode cX11_tell 30 = .ok (.getfield 54, 3) := by decide +kernel
theorem dX11_tell_33 : decode cX11_tell 33 = .ok (.invokevirtual 82, 3) := by decide +kernel
theorem dX11_tell_36 : decode cX11_tell 36 = .ok (.aload_n 0, 1) := by decide +kernel
theorem dX11_tell_37 : decode cX11_tell 37 = .ok (.getfield 19, 3) := by decide +kernel
theorem dX11_tell_40 : decode cX11_tell 40 = .ok (.invokevirtual 86, 3) := by decide +kernel
theorem dX11_tell_43 : decode cX11_tell 43 = .ok (.iload_n 1, 1) := by decide +kernel
theorem dX11_tell_44 : decode cX11_tell 44 = .ok (.ifCond .ne 10, 3) := by decide +kernel
theorem dX11_tell_47 : decode cX11_tell 47 = .ok (.aload_n 0, 1) := by decide +kernel
theorem dX11_tell_48 : decode cX11_tell 48 = .ok (.invokevirtual 89, 3) := by decide +kernel
theorem dX11_tell_51 : decode cX11_tell 51 = .ok (.goto 7, 3) := by decide +kernel
theorem dX11_tell_54 : decode cX11_tell 54 = .ok (.bipush (-10), 2) := by decide +kernel
theorem dX11_tell_56 : decode cX11_tell 56 = .ok (.iload_n 1, 1) := by decide +kernel
theorem dX11_tell_57 : decode cX11_tell 57 = .ok (.isub, 1) := by decide +kernel
theorem dX11_tell_58 : decode cX11_tell 58 = .ok (.ireturn, 1) := by decide +kernel
theorem dX11_fault_0 : decode cX11_fault 0 = .ok (.aload_n 0, 1) := by decide +kernel
theorem dX11_fault_1 : decode cX11_fault 1 = .ok (.getfield 19, 3) := by decide +kernel
theorem dX11_fault_4 : decode cX11_fault 4 = .ok (.invokevirtual 92, 3) := by decide +kernel
theorem dX11_fault_7 : decode cX11_fault 7 = .ok (.ireturn, 1) := by decide +kernel
theorem dX11_told_0 : decode cX11_told 0 = .ok (.iload_n 1, 1) := by decide +kernel
theorem dX11_told_1 : decode cX11_told 1 = .ok (.tableswitch 107 0 6 #[43, 51, 59, 67, 75, 91, 99], 43) := by decide +kernel
theorem dX11_told_44 : decode cX11_told 44 = .ok (.aload_n 0, 1) := by decide +kernel
theorem dX11_told_45 : decode cX11_told 45 = .ok (.getfield 10, 3) := by decide +kernel
theorem dX11_told_48 : decode cX11_told 48 = .ok (.invokevirtual 95, 3) := by decide +kernel
theorem dX11_told_51 : decode cX11_told 51 = .ok (.ireturn, 1) := by decide +kernel
theorem dX11_told_52 : decode cX11_told 52 = .ok (.aload_n 0, 1) := by decide +kernel
theorem dX11_told_53 : decode cX11_told 53 = .ok (.getfield 10, 3) := by decide +kernel
theorem dX11_told_56 : decode cX11_told 56 = .ok (.invokevirtual 98, 3) := by decide +kernel
theorem dX11_told_59 : decode cX11_told 59 = .ok (.ireturn, 1) := by decide +kernel
theorem dX11_told_60 : decode cX11_told 60 = .ok (.aload_n 0, 1) := by decide +kernel
theorem dX11_told_61 : decode cX11_told 61 = .ok (.getfield 19, 3) := by decide +kernel
theorem dX11_told_64 : decode cX11_told 64 = .ok (.invokevirtual 70, 3) := by decide +kernel
theorem dX11_told_67 : decode cX11_told 67 = .ok (.ireturn, 1) := by decide +kernel
theorem dX11_told_68 : decode cX11_told 68 = .ok (.aload_n 0, 1) := by decide +kernel
theorem dX11_told_69 : decode cX11_told 69 = .ok (.getfield 26, 3) := by decide +kernel
theorem dX11_told_72 : decode cX11_told 72 = .ok (.invokevirtual 101, 3) := by decide +kernel
theorem dX11_told_75 : decode cX11_told 75 = .ok (.ireturn, 1) := by decide +kernel
theorem dX11_told_76 : decode cX11_told 76 = .ok (.aload_n 0, 1) := by decide +kernel
theorem dX11_told_77 : decode cX11_told 77 = .ok (.getfield 26, 3) := by decide +kernel
theorem dX11_told_80 : decode cX11_told 80 = .ok (.aload_n 0, 1) := by decide +kernel
theorem dX11_told_81 : decode cX11_told 81 = .ok (.getfield 10, 3) := by decide +kernel
theorem dX11_told_84 : decode cX11_told 84 = .ok (.aload_n 0, 1) := by decide +kernel
theorem dX11_told_85 : decode cX11_told 85 = .ok (.getfield 61, 3) := by decide +kernel
theorem dX11_told_88 : decode cX11_told 88 = .ok (.invokevirtual 102, 3) := by decide +kernel
theorem dX11_told_91 : decode cX11_told 91 = .ok (.ireturn, 1) := by decide +kernel
theorem dX11_told_92 : decode cX11_told 92 = .ok (.aload_n 0, 1) := by decide +kernel
theorem dX11_told_93 : decode cX11_told 93 = .ok (.getfield 33, 3) := by decide +kernel
theorem dX11_told_96 : decode cX11_told 96 = .ok (.invokevirtual 106, 3) := by decide +kernel
theorem dX11_told_99 : decode cX11_told 99 = .ok (.ireturn, 1) := by decide +kernel
theorem dX11_told_100 : decode cX11_told 100 = .ok (.aload_n 0, 1) := by decide +kernel
theorem dX11_told_101 : decode cX11_told 101 = .ok (.getfield 47, 3) := by decide +kernel
theorem dX11_told_104 : decode cX11_told 104 = .ok (.invokevirtual 107, 3) := by decide +kernel
theorem dX11_told_107 : decode cX11_told 107 = .ok (.ireturn, 1) := by decide +kernel
theorem dX11_told_108 : decode cX11_told 108 = .ok (.ldc 65, 2) := by decide +kernel
theorem dX11_told_110 : decode cX11_told 110 = .ok (.ireturn, 1) := by decide +kernel
theorem dX11_word_0 : decode cX11_word 0 = .ok (.aload_n 0, 1) := by decide +kernel
theorem dX11_word_1 : decode cX11_word 1 = .ok (.getfield 10, 3) := by decide +kernel
theorem dX11_word_4 : decode cX11_word 4 = .ok (.iload_n 1, 1) := by decide +kernel
theorem dX11_word_5 : decode cX11_word 5 = .ok (.invokevirtual 110, 3) := by decide +kernel
theorem dX11_word_8 : decode cX11_word 8 = .ok (.astore_n 3, 1) := by decide +kernel
theorem dX11_word_9 : decode cX11_word 9 = .ok (.aload_n 3, 1) := by decide +kernel
theorem dX11_word_10 : decode cX11_word 10 = .ok (.ifnonnull 6, 3) := by decide +kernel
theorem dX11_word_13 : decode cX11_word 13 = .ok (.ldc 114, 2) := by decide +kernel
theorem dX11_word_15 : decode cX11_word 15 = .ok (.ireturn, 1) := by decide +kernel
theorem dX11_word_16 : decode cX11_word 16 = .ok (.aload_n 3, 1) := by decide +kernel
theorem dX11_word_17 : decode cX11_word 17 = .ok (.invokevirtual 115, 3) := by decide +kernel
theorem dX11_word_20 : decode cX11_word 20 = .ok (.astore 4, 2) := by decide +kernel
theorem dX11_word_22 : decode cX11_word 22 = .ok (.iload_n 2, 1) := by decide +kernel
theorem dX11_word_23 : decode cX11_word 23 = .ok (.tableswitch 231 0 14 #[73, 79, 89, 99, 104, 116, 128, 138, 148, 159, 176, 193, 199, 205, 218], 73) := by decide +kernel
theorem dX11_word_96 : decode cX11_word 96 = .ok (.aload 4, 2) := by decide +kernel
theorem dX11_word_98 : decode cX11_word 98 = .ok (.invokevirtual 121, 3) := by decide +kernel
theorem dX11_word_101 : decode cX11_word 101 = .ok (.ireturn, 1) := by decide +kernel
theorem dX11_word_102 : decode cX11_word 102 = .ok (.aload 4, 2) := by decide +kernel
theorem dX11_word_104 : decode cX11_word 104 = .ok (.aload_n 0, 1) := by decide +kernel
theorem dX11_word_105 : decode cX11_word 105 = .ok (.getfield 61, 3) := by decide +kernel
theorem dX11_word_108 : decode cX11_word 108 = .ok (.invokevirtual 126, 3) := by decide +kernel
theorem dX11_word_111 : decode cX11_word 111 = .ok (.ireturn, 1) := by decide +kernel
theorem dX11_word_112 : decode cX11_word 112 = .ok (.aload 4, 2) := by decide +kernel
theorem dX11_word_114 : decode cX11_word 114 = .ok (.aload_n 0, 1) := by decide +kernel
theorem dX11_word_115 : decode cX11_word 115 = .ok (.getfield 61, 3) := by decide +kernel
theorem dX11_word_118 : decode cX11_word 118 = .ok (.invokevirtual 130, 3) := by decide +kernel
theorem dX11_word_121 : decode cX11_word 121 = .ok (.ireturn, 1) := by decide +kernel
theorem dX11_word_122 : decode cX11_word 122 = .ok (.aload_n 3, 1) := by decide +kernel
theorem dX11_word_123 : decode cX11_word 123 = .ok (.invokevirtual 133, 3) := by decide +kernel
theorem dX11_word_126 : decode cX11_word 126 = .ok (.ireturn, 1) := by decide +kernel
theorem dX11_word_127 : decode cX11_word 127 = .ok (.aload_n 3, 1) := by decide +kernel
theorem dX11_word_128 : decode cX11_word 128 = .ok (.aload_n 0, 1) := by decide +kernel
theorem dX11_word_129 : decode cX11_word 129 = .ok (.getfield 61, 3) := by decide +kernel
theorem dX11_word_132 : decode cX11_word 132 = .ok (.invokevirtual 136, 3) := by decide +kernel
theorem dX11_word_135 : decode cX11_word 135 = .ok (.invokevirtual 140, 3) := by decide +kernel
theorem dX11_word_138 : decode cX11_word 138 = .ok (.ireturn, 1) := by decide +kernel
theorem dX11_word_139 : decode cX11_word 139 = .ok (.aload_n 3, 1) := by decide +kernel
theorem dX11_word_140 : decode cX11_word 140 = .ok (.aload_n 0, 1) := by decide +kernel
theorem dX11_word_141 : decode cX11_word 141 = .ok (.getfield 61, 3) := by decide +kernel
theorem dX11_word_144 : decode cX11_word 144 = .ok (.invokevirtual 136, 3) := by decide +kernel
theorem dX11_word_147 : decode cX11_word 147 = .ok (.invokevirtual 143, 3) := by decide +kernel
theorem dX11_word_150 : decode cX11_word 150 = .ok (.ireturn, 1) := by decide +kernel
theorem dX11_word_151 : decode cX11_word 151 = .ok (.aload 4, 2) := by decide +kernel
theorem dX11_word_153 : decode cX11_word 153 = .ok (.aload_n 0, 1) := by decide +kernel
theorem dX11_word_154 : decode cX11_word 154 = .ok (.getfield 61, 3) := by decide +kernel
theorem dX11_word_157 : decode cX11_word 157 = .ok (.invokevirtual 146, 3) := by decide +kernel
theorem dX11_word_160 : decode cX11_word 160 = .ok (.ireturn, 1) := by decide +kernel
theorem dX11_word_161 : decode cX11_word 161 = .ok (.aload 4, 2) := by decide +kernel
theorem dX11_word_163 : decode cX11_word 163 = .ok (.aload_n 0, 1) := by decide +kernel
theorem dX11_word_164 : decode cX11_word 164 = .ok (.getfield 61, 3) := by decide +kernel
theorem dX11_word_167 : decode cX11_word 167 = .ok (.invokevirtual 149, 3) := by decide +kernel
theorem dX11_word_170 : decode cX11_word 170 = .ok (.ireturn, 1) := by decide +kernel
theorem dX11_word_171 : decode cX11_word 171 = .ok (.aload 4, 2) := by decide +kernel
theorem dX11_word_173 : decode cX11_word 173 = .ok (.iconst 0, 1) := by decide +kernel
theorem dX11_word_174 : decode cX11_word 174 = .ok (.aload_n 0, 1) := by decide +kernel
theorem dX11_word_175 : decode cX11_word 175 = .ok (.getfield 61, 3) := by decide +kernel
theorem dX11_word_178 : decode cX11_word 178 = .ok (.invokevirtual 152, 3) := by decide +kernel
theorem dX11_word_181 : decode cX11_word 181 = .ok (.ireturn, 1) := by decide +kernel
theorem dX11_word_182 : decode cX11_word 182 = .ok (.aload_n 3, 1) := by decide +kernel
theorem dX11_word_183 : decode cX11_word 183 = .ok (.aload_n 0, 1) := by decide +kernel
theorem dX11_word_184 : decode cX11_word 184 = .ok (.getfield 61, 3) := by decide +kernel
theorem dX11_word_187 : decode cX11_word 187 = .ok (.invokevirtual 136, 3) := by decide +kernel
theorem dX11_word_190 : decode cX11_word 190 = .ok (.iconst 1, 1) := by decide +kernel
theorem dX11_word_191 : decode cX11_word 191 = .ok (.aload_n 0, 1) := by decide +kernel
theorem dX11_word_192 : decode cX11_word 192 = .ok (.getfield 61, 3) := by decide +kernel
theorem dX11_word_195 : decode cX11_word 195 = .ok (.invokevirtual 156, 3) := by decide +kernel
theorem dX11_word_198 : decode cX11_word 198 = .ok (.ireturn, 1) := by decide +kernel
theorem dX11_word_199 : decode cX11_word 199 = .ok (.aload_n 3, 1) := by decide +kernel
theorem dX11_word_200 : decode cX11_word 200 = .ok (.aload_n 0, 1) := by decide +kernel
theorem dX11_word_201 : decode cX11_word 201 = .ok (.getfield 61, 3) := by decide +kernel
theorem dX11_word_204 : decode cX11_word 204 = .ok (.invokevirtual 136, 3) := by decide +kernel
theorem dX11_word_207 : decode cX11_word 207 = .ok (.iconst 0, 1) := by decide +kernel
theorem dX11_word_208 : decode cX11_word 208 = .ok (.aload_n 0, 1) := by decide +kernel
theorem dX11_word_209 : decode cX11_word 209 = .ok (.getfield 61, 3) := by decide +kernel
theorem dX11_word_212 : decode cX11_word 212 = .ok (.invokevirtual 156, 3) := by decide +kernel
theorem dX11_word_215 : decode cX11_word 215 = .ok (.ireturn, 1) := by decide +kernel
theorem dX11_word_216 : decode cX11_word 216 = .ok (.aload 4, 2) := by decide +kernel
theorem dX11_word_218 : decode cX11_word 218 = .ok (.invokevirtual 160, 3) := by decide +kernel
theorem dX11_word_221 : decode cX11_word 221 = .ok (.ireturn, 1) := by decide +kernel
theorem dX11_word_222 : decode cX11_word 222 = .ok (.aload 4, 2) := by decide +kernel
theorem dX11_word_224 : decode cX11_word 224 = .ok (.invokevirtual 163, 3) := by decide +kernel
theorem dX11_word_227 : decode cX11_word 227 = .ok (.ireturn, 1) := by decide +kernel
theorem dX11_word_228 : decode cX11_word 228 = .ok (.aload_n 3, 1) := by decide +kernel
theorem dX11_word_229 : decode cX11_word 229 = .ok (.aload_n 0, 1) := by decide +kernel
theorem dX11_word_230 : decode cX11_word 230 = .ok (.getfield 61, 3) := by decide +kernel
theorem dX11_word_233 : decode cX11_word 233 = .ok (.invokevirtual 136, 3) := by decide +kernel
theorem dX11_word_236 : decode cX11_word 236 = .ok (.iconst 2, 1) := by decide +kernel
theorem dX11_word_237 : decode cX11_word 237 = .ok (.invokevirtual 166, 3) := by decide +kernel
theorem dX11_word_240 : decode cX11_word 240 = .ok (.ireturn, 1) := by decide +kernel
theorem dX11_word_241 : decode cX11_word 241 = .ok (.aload_n 3, 1) := by decide +kernel
theorem dX11_word_242 : decode cX11_word 242 = .ok (.aload_n 0, 1) := by decide +kernel
theorem dX11_word_243 : decode cX11_word 243 = .ok (.getfield 61, 3) := by decide +kernel
theorem dX11_word_246 : decode cX11_word 246 = .ok (.invokevirtual 136, 3) := by decide +kernel
theorem dX11_word_249 : decode cX11_word 249 = .ok (.iconst 3, 1) := by decide +kernel
theorem dX11_word_250 : decode cX11_word 250 = .ok (.invokevirtual 166, 3) := by decide +kernel
theorem dX11_word_253 : decode cX11_word 253 = .ok (.ireturn, 1) := by decide +kernel
theorem dX11_word_254 : decode cX11_word 254 = .ok (.ldc 65, 2) := by decide +kernel
theorem dX11_word_256 : decode cX11_word 256 = .ok (.ireturn, 1) := by decide +kernel
theorem dX11_code_0 : decode cX11_code 0 = .ok (.aload_n 0, 1) := by decide +kernel
theorem dX11_code_1 : decode cX11_code 1 = .ok (.getfield 10, 3) := by decide +kernel
theorem dX11_code_4 : decode cX11_code 4 = .ok (.iload_n 1, 1) := by decide +kernel
theorem dX11_code_5 : decode cX11_code 5 = .ok (.invokevirtual 110, 3) := by decide +kernel
theorem dX11_code_8 : decode cX11_code 8 = .ok (.astore_n 2, 1) := by decide +kernel
theorem dX11_code_9 : decode cX11_code 9 = .ok (.aload_n 2, 1) := by decide +kernel
theorem dX11_code_10 : decode cX11_code 10 = .ok (.ifnonnull 9, 3) := by decide +kernel
theorem dX11_code_13 : decode cX11_code 13 = .ok (.ldc2_w 170, 3) := by decide +kernel
theorem dX11_code_16 : decode cX11_code 16 = .ok (.goto 10, 3) := by decide +kernel
theorem dX11_code_19 : decode cX11_code 19 = .ok (.aload_n 2, 1) := by decide +kernel
theorem dX11_code_20 : decode cX11_code 20 = .ok (.invokevirtual 115, 3) := by decide +kernel
theorem dX11_code_23 : decode cX11_code 23 = .ok (.invokevirtual 172, 3) := by decide +kernel
theorem dX11_code_26 : decode cX11_code 26 = .ok (.lreturn, 1) := by decide +kernel
theorem dX11_at_0 : decode cX11_at 0 = .ok (.aload_n 0, 1) := by decide +kernel
theorem dX11_at_1 : decode cX11_at 1 = .ok (.getfield 10, 3) := by decide +kernel
theorem dX11_at_4 : decode cX11_at 4 = .ok (.iload_n 1, 1) := by decide +kernel
theorem dX11_at_5 : decode cX11_at 5 = .ok (.invokevirtual 110, 3) := by decide +kernel
theorem dX11_at_8 : decode cX11_at 8 = .ok (.astore_n 3, 1) := by decide +kernel
theorem dX11_at_9 : decode cX11_at 9 = .ok (.aload_n 3, 1) := by decide +kernel
theorem dX11_at_10 : decode cX11_at 10 = .ok (.ifnonnull 8, 3) := by decide +kernel
theorem dX11_at_13 : decode cX11_at 13 = .ok (.ldc 114, 2) := by decide +kernel
theorem dX11_at_15 : decode cX11_at 15 = .ok (.goto 11, 3) := by decide +kernel
theorem dX11_at_18 : decode cX11_at 18 = .ok (.aload_n 3, 1) := by decide +kernel
theorem dX11_at_19 : decode cX11_at 19 = .ok (.invokevirtual 115, 3) := by decide +kernel
theorem dX11_at_22 : decode cX11_at 22 = .ok (.iload_n 2, 1) := by decide +kernel
theorem dX11_at_23 : decode cX11_at 23 = .ok (.invokevirtual 176, 3) := by decide +kernel
theorem dX11_at_26 : decode cX11_at 26 = .ok (.ireturn, 1) := by decide +kernel
theorem dX11_letter_0 : decode cX11_letter 0 = .ok (.aload_n 0, 1) := by decide +kernel
theorem dX11_letter_1 : decode cX11_letter 1 = .ok (.getfield 10, 3) := by decide +kernel
theorem dX11_letter_4 : decode cX11_letter 4 = .ok (.iload_n 1, 1) := by decide +kernel
theorem dX11_letter_5 : decode cX11_letter 5 = .ok (.invokevirtual 110, 3) := by decide +kernel
theorem dX11_letter_8 : decode cX11_letter 8 = .ok (.astore 4, 2) := by decide +kernel
theorem dX11_letter_10 : decode cX11_letter 10 = .ok (.aload 4, 2) := by decide +kernel
theorem dX11_letter_12 : decode cX11_letter 12 = .ok (.ifnull 15, 3) := by decide +kernel
theorem dX11_letter_15 : decode cX11_letter 15 = .ok (.aload 4, 2) := by decide +kernel
theorem dX11_letter_17 : decode cX11_letter 17 = .ok (.invokevirtual 115, 3) := by decide +kernel
theorem dX11_letter_20 : decode cX11_letter 20 = .ok (.iload_n 2, 1) := by decide +kernel
theorem dX11_letter_21 : decode cX11_letter 21 = .ok (.invokevirtual 179, 3) := by decide +kernel
theorem dX11_letter_24 : decode cX11_letter 24 = .ok (.ifCond .ne 6, 3) := by decide +kernel
theorem dX11_letter_27 : decode cX11_letter 27 = .ok (.ldc 114, 2) := by decide +kernel
theorem dX11_letter_29 : decode cX11_letter 29 = .ok (.ireturn, 1) := by decide +kernel
theorem dX11_letter_30 : decode cX11_letter 30 = .ok (.iload_n 3, 1) := by decide +kernel
theorem dX11_letter_31 : decode cX11_letter 31 = .ok (.tableswitch 130 0 7 #[45, 56, 67, 77, 77, 77, 77, 94], 45) := by decide +kernel
theorem dX11_letter_76 : decode cX11_letter 76 = .ok (.aload 4, 2) := by decide +kernel
theorem dX11_letter_78 : decode cX11_letter 78 = .ok (.invokevirtual 115, 3) := by decide +kernel
theorem dX11_letter_81 : decode cX11_letter 81 = .ok (.iload_n 2, 1) := by decide +kernel
theorem dX11_letter_82 : decode cX11_letter 82 = .ok (.iconst 0, 1) := by decide +kernel
theorem dX11_letter_83 : decode cX11_letter 83 = .ok (.invokevirtual 182, 3) := by decide +kernel
theorem dX11_letter_86 : decode cX11_letter 86 = .ok (.ireturn, 1) := by decide +kernel
theorem dX11_letter_87 : decode cX11_letter 87 = .ok (.aload 4, 2) := by decide +kernel
theorem dX11_letter_89 : decode cX11_letter 89 = .ok (.invokevirtual 115, 3) := by decide +kernel
theorem dX11_letter_92 : decode cX11_letter 92 = .ok (.iload_n 2, 1) := by decide +kernel
theorem dX11_letter_93 : decode cX11_letter 93 = .ok (.iconst 1, 1) := by decide +kernel
theorem dX11_letter_94 : decode cX11_letter 94 = .ok (.invokevirtual 182, 3) := by decide +kernel
theorem dX11_letter_97 : decode cX11_letter 97 = .ok (.ireturn, 1) := by decide +kernel
theorem dX11_letter_98 : decode cX11_letter 98 = .ok (.aload 4, 2) := by decide +kernel
theorem dX11_letter_100 : decode cX11_letter 100 = .ok (.invokevirtual 115, 3) := by decide +kernel
theorem dX11_letter_103 : decode cX11_letter 103 = .ok (.iload_n 2, 1) := by decide +kernel
theorem dX11_letter_104 : decode cX11_letter 104 = .ok (.invokevirtual 186, 3) := by decide +kernel
theorem dX11_letter_107 : decode cX11_letter 107 = .ok (.ireturn, 1) := by decide +kernel
theorem dX11_letter_108 : decode cX11_letter 108 = .ok (.aload 4, 2) := by decide +kernel
theorem dX11_letter_110 : decode cX11_letter 110 = .ok (.aload_n 0, 1) := by decide +kernel
theorem dX11_letter_111 : decode cX11_letter 111 = .ok (.getfield 61, 3) := by decide +kernel
theorem dX11_letter_114 : decode cX11_letter 114 = .ok (.invokevirtual 136, 3) := by decide +kernel
theorem dX11_letter_117 : decode cX11_letter 117 = .ok (.iload_n 2, 1) := by decide +kernel
theorem dX11_letter_118 : decode cX11_letter 118 = .ok (.iload_n 3, 1) := by decide +kernel
theorem dX11_letter_119 : decode cX11_letter 119 = .ok (.iconst 3, 1) := by decide +kernel
theorem dX11_letter_120 : decode cX11_letter 120 = .ok (.isub, 1) := by decide +kernel
theorem dX11_letter_121 : decode cX11_letter 121 = .ok (.invokevirtual 189, 3) := by decide +kernel
theorem dX11_letter_124 : decode cX11_letter 124 = .ok (.ireturn, 1) := by decide +kernel
theorem dX11_letter_125 : decode cX11_letter 125 = .ok (.aload 4, 2) := by decide +kernel
theorem dX11_letter_127 : decode cX11_letter 127 = .ok (.aload_n 0, 1) := by decide +kernel
theorem dX11_letter_128 : decode cX11_letter 128 = .ok (.getfield 61, 3) := by decide +kernel
theorem dX11_letter_131 : decode cX11_letter 131 = .ok (.invokevirtual 136, 3) := by decide +kernel
theorem dX11_letter_134 : decode cX11_letter 134 = .ok (.invokevirtual 192, 3) := by decide +kernel
theorem dX11_letter_137 : decode cX11_letter 137 = .ok (.ifCond .eq 22, 3) := by decide +kernel
theorem dX11_letter_140 : decode cX11_letter 140 = .ok (.aload 4, 2) := by decide +kernel
theorem dX11_letter_142 : decode cX11_letter 142 = .ok (.aload_n 0, 1) := by decide +kernel
theorem dX11_letter_143 : decode cX11_letter 143 = .ok (.getfield 61, 3) := by decide +kernel
theorem dX11_letter_146 : decode cX11_letter 146 = .ok (.invokevirtual 136, 3) := by decide +kernel
theorem dX11_letter_149 : decode cX11_letter 149 = .ok (.iload_n 2, 1) := by decide +kernel
theorem dX11_letter_150 : decode cX11_letter 150 = .ok (.invokevirtual 195, 3) := by decide +kernel
theorem dX11_letter_153 : decode cX11_letter 153 = .ok (.bipush 100, 2) := by decide +kernel
theorem dX11_letter_155 : decode cX11_letter 155 = .ok (.iadd, 1) := by decide +kernel
theorem dX11_letter_156 : decode cX11_letter 156 = .ok (.goto 4, 3) := by decide +kernel
theorem dX11_letter_159 : decode cX11_letter 159 = .ok (.iconst (-1), 1) := by decide +kernel
theorem dX11_letter_160 : decode cX11_letter 160 = .ok (.ireturn, 1) := by decide +kernel
theorem dX11_letter_161 : decode cX11_letter 161 = .ok (.ldc 65, 2) := by decide +kernel
theorem dX11_letter_163 : decode cX11_letter 163 = .ok (.ireturn, 1) := by decide +kernel
theorem dX11_face_0 : decode cX11_face 0 = .ok (.aload_n 0, 1) := by decide +kernel
theorem dX11_face_1 : decode cX11_face 1 = .ok (.getfield 10, 3) := by decide +kernel
theorem dX11_face_4 : decode cX11_face 4 = .ok (.iload_n 1, 1) := by decide +kernel
theorem dX11_face_5 : decode cX11_face 5 = .ok (.invokevirtual 110, 3) := by decide +kernel
theorem dX11_face_8 : decode cX11_face 8 = .ok (.astore 4, 2) := by decide +kernel
theorem dX11_face_10 : decode cX11_face 10 = .ok (.aload 4, 2) := by decide +kernel
theorem dX11_face_12 : decode cX11_face 12 = .ok (.ifnull 19, 3) := by decide +kernel
theorem dX11_face_15 : decode cX11_face 15 = .ok (.aload 4, 2) := by decide +kernel
theorem dX11_face_17 : decode cX11_face 17 = .ok (.aload_n 0, 1) := by decide +kernel
theorem dX11_face_18 : decode cX11_face 18 = .ok (.getfield 61, 3) := by decide +kernel
theorem dX11_face_21 : decode cX11_face 21 = .ok (.invokevirtual 136, 3) := by decide +kernel
theorem dX11_face_24 : decode cX11_face 24 = .ok (.iload_n 2, 1) := by decide +kernel
theorem dX11_face_25 : decode cX11_face 25 = .ok (.invokevirtual 198, 3) := by decide +kernel
theorem dX11_face_28 : decode cX11_face 28 = .ok (.ifCond .ne 6, 3) := by decide +kernel
theorem dX11_face_31 : decode cX11_face 31 = .ok (.ldc 114, 2) := by decide +kernel
theorem dX11_face_33 : decode cX11_face 33 = .ok (.ireturn, 1) := by decide +kernel
theorem dX11_face_34 : decode cX11_face 34 = .ok (.iload_n 3, 1) := by decide +kernel
theorem dX11_face_35 : decode cX11_face 35 = .ok (.ifCond .lt 8, 3) := by decide +kernel
theorem dX11_face_38 : decode cX11_face 38 = .ok (.iload_n 3, 1) := by decide +kernel
theorem dX11_face_39 : decode cX11_face 39 = .ok (.iconst 3, 1) := by decide +kernel
theorem dX11_face_40 : decode cX11_face 40 = .ok (.if_icmp .le 6, 3) := by decide +kernel
theorem dX11_face_43 : decode cX11_face 43 = .ok (.ldc 65, 2) := by decide +kernel
theorem dX11_face_45 : decode cX11_face 45 = .ok (.ireturn, 1) := by decide +kernel
theorem dX11_face_46 : decode cX11_face 46 = .ok (.aload 4, 2) := by decide +kernel
theorem dX11_face_48 : decode cX11_face 48 = .ok (.aload_n 0, 1) := by decide +kernel
theorem dX11_face_49 : decode cX11_face 49 = .ok (.getfield 61, 3) := by decide +kernel
theorem dX11_face_52 : decode cX11_face 52 = .ok (.invokevirtual 136, 3) := by decide +kernel
theorem dX11_face_55 : decode cX11_face 55 = .ok (.astore 5, 2) := by decide +kernel
theorem dX11_face_57 : decode cX11_face 57 = .ok (.iload_n 3, 1) := by decide +kernel
theorem dX11_face_58 : decode cX11_face 58 = .ok (.ifCond .ne 10, 3) := by decide +kernel
theorem dX11_face_61 : decode cX11_face 61 = .ok (.aload 5, 2) := by decide +kernel
theorem dX11_face_63 : decode cX11_face 63 = .ok (.iload_n 2, 1) := by decide +kernel
theorem dX11_face_64 : decode cX11_face 64 = .ok (.invokevirtual 201, 3) := by decide +kernel
theorem dX11_face_67 : decode cX11_face 67 = .ok (.ireturn, 1) := by decide +kernel
theorem dX11_face_68 : decode cX11_face 68 = .ok (.aload 5, 2) := by decide +kernel
theorem dX11_face_70 : decode cX11_face 70 = .ok (.invokevirtual 192, 3) := by decide +kernel
theorem dX11_face_73 : decode cX11_face 73 = .ok (.ifCond .ne 5, 3) := by decide +kernel
theorem dX11_face_76 : decode cX11_face 76 = .ok (.iconst (-1), 1) := by decide +kernel
theorem dX11_face_77 : decode cX11_face 77 = .ok (.ireturn, 1) := by decide +kernel
theorem dX11_face_78 : decode cX11_face 78 = .ok (.iload_n 3, 1) := by decide +kernel
theorem dX11_face_79 : decode cX11_face 79 = .ok (.iconst 1, 1) := by decide +kernel
theorem dX11_face_80 : decode cX11_face 80 = .ok (.if_icmp .ne 18, 3) := by decide +kernel
theorem dX11_face_83 : decode cX11_face 83 = .ok (.aload 5, 2) := by decide +kernel
theorem dX11_face_85 : decode cX11_face 85 = .ok (.iload_n 2, 1) := by decide +kernel
theorem dX11_face_86 : decode cX11_face 86 = .ok (.invokevirtual 204, 3) := by decide +kernel
theorem dX11_face_89 : decode cX11_face 89 = .ok (.ifCond .eq 7, 3) := by decide +kernel
theorem dX11_face_92 : decode cX11_face 92 = .ok (.iconst 1, 1) := by decide +kernel
theorem dX11_face_93 : decode cX11_face 93 = .ok (.goto 4, 3) := by decide +kernel
theorem dX11_face_96 : decode cX11_face 96 = .ok (.iconst 0, 1) := by decide +kernel
theorem dX11_face_97 : decode cX11_face 97 = .ok (.ireturn, 1) := by decide +kernel
theorem dX11_face_98 : decode cX11_face 98 = .ok (.iload_n 3, 1) := by decide +kernel
theorem dX11_face_99 : decode cX11_face 99 = .ok (.iconst 2, 1) := by decide +kernel
theorem dX11_face_100 : decode cX11_face 100 = .ok (.if_icmp .ne 12, 3) := by decide +kernel
theorem dX11_face_103 : decode cX11_face 103 = .ok (.aload 5, 2) := by decide +kernel
theorem dX11_face_105 : decode cX11_face 105 = .ok (.iload_n 2, 1) := by decide +kernel
theorem dX11_face_106 : decode cX11_face 106 = .ok (.invokevirtual 207, 3) := by decide +kernel
theorem dX11_face_109 : decode cX11_face 109 = .ok (.goto 9, 3) := by decide +kernel
theorem dX11_face_112 : decode cX11_face 112 = .ok (.aload 5, 2) := by decide +kernel
theorem dX11_face_114 : decode cX11_face 114 = .ok (.iload_n 2, 1) := by decide +kernel
theorem dX11_face_115 : decode cX11_face 115 = .ok (.invokevirtual 210, 3) := by decide +kernel
theorem dX11_face_118 : decode cX11_face 118 = .ok (.bipush 100, 2) := by decide +kernel
theorem dX11_face_120 : decode cX11_face 120 = .ok (.iadd, 1) := by decide +kernel
theorem dX11_face_121 : decode cX11_face 121 = .ok (.ireturn, 1) := by decide +kernel
theorem dX11_rings_0 : decode cX11_rings 0 = .ok (.aload_n 0, 1) := by decide +kernel
theorem dX11_rings_1 : decode cX11_rings 1 = .ok (.getfield 10, 3) := by decide +kernel
theorem dX11_rings_4 : decode cX11_rings 4 = .ok (.iload_n 1, 1) := by decide +kernel
theorem dX11_rings_5 : decode cX11_rings 5 = .ok (.invokevirtual 110, 3) := by decide +kernel
theorem dX11_rings_8 : decode cX11_rings 8 = .ok (.astore_n 3, 1) := by decide +kernel
theorem dX11_rings_9 : decode cX11_rings 9 = .ok (.aload_n 3, 1) := by decide +kernel
theorem dX11_rings_10 : decode cX11_rings 10 = .ok (.ifnull 14, 3) := by decide +kernel
theorem dX11_rings_13 : decode cX11_rings 13 = .ok (.aload_n 3, 1) := by decide +kernel
theorem dX11_rings_14 : decode cX11_rings 14 = .ok (.invokevirtual 115, 3) := by decide +kernel
theorem dX11_rings_17 : decode cX11_rings 17 = .ok (.iload_n 2, 1) := by decide +kernel
theorem dX11_rings_18 : decode cX11_rings 18 = .ok (.invokevirtual 213, 3) := by decide +kernel
theorem dX11_rings_21 : decode cX11_rings 21 = .ok (.ifCond .ne 6, 3) := by decide +kernel
theorem dX11_rings_24 : decode cX11_rings 24 = .ok (.ldc 114, 2) := by decide +kernel
theorem dX11_rings_26 : decode cX11_rings 26 = .ok (.ireturn, 1) := by decide +kernel
theorem dX11_rings_27 : decode cX11_rings 27 = .ok (.aload_n 3, 1) := by decide +kernel
theorem dX11_rings_28 : decode cX11_rings 28 = .ok (.invokevirtual 115, 3) := by decide +kernel
theorem dX11_rings_31 : decode cX11_rings 31 = .ok (.iload_n 2, 1) := by decide +kernel
theorem dX11_rings_32 : decode cX11_rings 32 = .ok (.aload_n 0, 1) := by decide +kernel
theorem dX11_rings_33 : decode cX11_rings 33 = .ok (.getfield 61, 3) := by decide +kernel
theorem dX11_rings_36 : decode cX11_rings 36 = .ok (.invokevirtual 152, 3) := by decide +kernel
theorem dX11_rings_39 : decode cX11_rings 39 = .ok (.ireturn, 1) := by decide +kernel
theorem dX11_states_0 : decode cX11_states 0 = .ok (.aload_n 0, 1) := by decide +kernel
theorem dX11_states_1 : decode cX11_states 1 = .ok (.getfield 10, 3) := by decide +kernel
theorem dX11_states_4 : decode cX11_states 4 = .ok (.iload_n 1, 1) := by decide +kernel
theorem dX11_states_5 : decode cX11_states 5 = .ok (.invokevirtual 110, 3) := by decide +kernel
theorem dX11_states_8 : decode cX11_states 8 = .ok (.astore_n 3, 1) := by decide +kernel
theorem dX11_states_9 : decode cX11_states 9 = .ok (.aload_n 3, 1) := by decide +kernel
theorem dX11_states_10 : decode cX11_states 10 = .ok (.ifnonnull 6, 3) := by decide +kernel
theorem dX11_states_13 : decode cX11_states 13 = .ok (.ldc 114, 2) := by decide +kernel
theorem dX11_states_15 : decode cX11_states 15 = .ok (.ireturn, 1) := by decide +kernel
theorem dX11_states_16 : decode cX11_states 16 = .ok (.iload_n 2, 1) := by decide +kernel
theorem dX11_states_17 : decode cX11_states 17 = .ok (.iconst 1, 1) := by decide +kernel
theorem dX11_states_18 : decode cX11_states 18 = .ok (.if_icmp .lt 9, 3) := by decide +kernel
theorem dX11_states_21 : decode cX11_states 21 = .ok (.iload_n 2, 1) := by decide +kernel
theorem dX11_states_22 : decode cX11_states 22 = .ok (.bipush 9, 2) := by decide +kernel
theorem dX11_states_24 : decode cX11_states 24 = .ok (.if_icmp .le 6, 3) := by decide +kernel
theorem dX11_states_27 : decode cX11_states 27 = .ok (.ldc 65, 2) := by decide +kernel
theorem dX11_states_29 : decode cX11_states 29 = .ok (.ireturn, 1) := by decide +kernel
theorem dX11_states_30 : decode cX11_states 30 = .ok (.aload_n 3, 1) := by decide +kernel
theorem dX11_states_31 : decode cX11_states 31 = .ok (.invokevirtual 115, 3) := by decide +kernel
theorem dX11_states_34 : decode cX11_states 34 = .ok (.iload_n 2, 1) := by decide +kernel
theorem dX11_states_35 : decode cX11_states 35 = .ok (.aload_n 0, 1) := by decide +kernel
theorem dX11_states_36 : decode cX11_states 36 = .ok (.getfield 61, 3) := by decide +kernel
theorem dX11_states_39 : decode cX11_states 39 = .ok (.invokevirtual 216, 3) := by decide +kernel
theorem dX11_states_42 : decode cX11_states 42 = .ok (.ireturn, 1) := by decide +kernel
theorem dX11_same_0 : decode cX11_same 0 = .ok (.aload_n 0, 1) := by decide +kernel
theorem dX11_same_1 : decode cX11_same 1 = .ok (.getfield 10, 3) := by decide +kernel
theorem dX11_same_4 : decode cX11_same 4 = .ok (.iload_n 1, 1) := by decide +kernel
theorem dX11_same_5 : decode cX11_same 5 = .ok (.invokevirtual 110, 3) := by decide +kernel
theorem dX11_same_8 : decode cX11_same 8 = .ok (.astore_n 3, 1) := by decide +kernel
theorem dX11_same_9 : decode cX11_same 9 = .ok (.aload_n 0, 1) := by decide +kernel
theorem dX11_same_10 : decode cX11_same 10 = .ok (.getfield 10, 3) := by decide +kernel
theorem dX11_same_13 : decode cX11_same 13 = .ok (.iload_n 2, 1) := by decide +kernel
theorem dX11_same_14 : decode cX11_same 14 = .ok (.invokevirtual 110, 3) := by decide +kernel
theorem dX11_same_17 : decode cX11_same 17 = .ok (.astore 4, 2) := by decide +kernel
theorem dX11_same_19 : decode cX11_same 19 = .ok (.aload_n 3, 1) := by decide +kernel
theorem dX11_same_20 : decode cX11_same 20 = .ok (.ifnull 8, 3) := by decide +kernel
theorem dX11_same_23 : decode cX11_same 23 = .ok (.aload 4, 2) := by decide +kernel
theorem dX11_same_25 : decode cX11_same 25 = .ok (.ifnonnull 6, 3) := by decide +kernel
theorem dX11_same_28 : decode cX11_same 28 = .ok (.ldc 114, 2) := by decide +kernel
theorem dX11_same_30 : decode cX11_same 30 = .ok (.ireturn, 1) := by decide +kernel
theorem dX11_same_31 : decode cX11_same 31 = .ok (.aload_n 3, 1) := by decide +kernel
theorem dX11_same_32 : decode cX11_same 32 = .ok (.invokevirtual 115, 3) := by decide +kernel
theorem dX11_same_35 : decode cX11_same 35 = .ok (.aload 4, 2) := by decide +kernel
theorem dX11_same_37 : decode cX11_same 37 = .ok (.invokevirtual 115, 3) := by decide +kernel
theorem dX11_same_40 : decode cX11_same 40 = .ok (.invokevirtual 219, 3) := by decide +kernel
theorem dX11_same_43 : decode cX11_same 43 = .ok (.ifCond .eq 7, 3) := by decide +kernel
theorem dX11_same_46 : decode cX11_same 46 = .ok (.iconst 1, 1) := by decide +kernel
theorem dX11_same_47 : decode cX11_same 47 = .ok (.goto 4, 3) := by decide +kernel
theorem dX11_same_50 : decode cX11_same 50 = .ok (.iconst 0, 1) := by decide +kernel
theorem dX11_same_51 : decode cX11_same 51 = .ok (.ireturn, 1) := by decide +kernel
theorem dX11_signs_0 : decode cX11_signs 0 = .ok (.aload_n 0, 1) := by decide +kernel
theorem dX11_signs_1 : decode cX11_signs 1 = .ok (.getfield 10, 3) := by decide +kernel
theorem dX11_signs_4 : decode cX11_signs 4 = .ok (.iload_n 1, 1) := by decide +kernel
theorem dX11_signs_5 : decode cX11_signs 5 = .ok (.invokevirtual 110, 3) := by decide +kernel
theorem dX11_signs_8 : decode cX11_signs 8 = .ok (.astore_n 3, 1) := by decide +kernel
theorem dX11_signs_9 : decode cX11_signs 9 = .ok (.aload_n 3, 1) := by decide +kernel
theorem dX11_signs_10 : decode cX11_signs 10 = .ok (.ifnull 14, 3) := by decide +kernel
theorem dX11_signs_13 : decode cX11_signs 13 = .ok (.aload_n 3, 1) := by decide +kernel
theorem dX11_signs_14 : decode cX11_signs 14 = .ok (.invokevirtual 115, 3) := by decide +kernel
theorem dX11_signs_17 : decode cX11_signs 17 = .ok (.iload_n 2, 1) := by decide +kernel
theorem dX11_signs_18 : decode cX11_signs 18 = .ok (.invokevirtual 213, 3) := by decide +kernel
theorem dX11_signs_21 : decode cX11_signs 21 = .ok (.ifCond .ne 6, 3) := by decide +kernel
theorem dX11_signs_24 : decode cX11_signs 24 = .ok (.ldc 114, 2) := by decide +kernel
theorem dX11_signs_26 : decode cX11_signs 26 = .ok (.ireturn, 1) := by decide +kernel
theorem dX11_signs_27 : decode cX11_signs 27 = .ok (.new 116, 3) := by decide +kernel
theorem dX11_signs_30 : decode cX11_signs 30 = .ok (.dup, 1) := by decide +kernel
theorem dX11_signs_31 : decode cX11_signs 31 = .ok (.aload_n 3, 1) := by decide +kernel
theorem dX11_signs_32 : decode cX11_signs 32 = .ok (.invokevirtual 115, 3) := by decide +kernel
theorem dX11_signs_35 : decode cX11_signs 35 = .ok (.iload_n 2, 1) := by decide +kernel
theorem dX11_signs_36 : decode cX11_signs 36 = .ok (.invokespecial 223, 3) := by decide +kernel
theorem dX11_signs_39 : decode cX11_signs 39 = .ok (.astore 4, 2) := by decide +kernel
theorem dX11_signs_41 : decode cX11_signs 41 = .ok (.aload_n 0, 1) := by decide +kernel
theorem dX11_signs_42 : decode cX11_signs 42 = .ok (.iload_n 1, 1) := by decide +kernel
theorem dX11_signs_43 : decode cX11_signs 43 = .ok (.aload 4, 2) := by decide +kernel
theorem dX11_signs_45 : decode cX11_signs 45 = .ok (.invokevirtual 226, 3) := by decide +kernel
theorem dX11_signs_48 : decode cX11_signs 48 = .ok (.aload 4, 2) := by decide +kernel
theorem dX11_signs_50 : decode cX11_signs 50 = .ok (.aload_n 0, 1) := by decide +kernel
theorem dX11_signs_51 : decode cX11_signs 51 = .ok (.getfield 61, 3) := by decide +kernel
theorem dX11_signs_54 : decode cX11_signs 54 = .ok (.invokevirtual 136, 3) := by decide +kernel
theorem dX11_signs_57 : decode cX11_signs 57 = .ok (.invokevirtual 140, 3) := by decide +kernel
theorem dX11_signs_60 : decode cX11_signs 60 = .ok (.ireturn, 1) := by decide +kernel
theorem dX11_draw_0 : decode cX11_draw 0 = .ok (.aload_n 0, 1) := by decide +kernel
theorem dX11_draw_1 : decode cX11_draw 1 = .ok (.getfield 10, 3) := by decide +kernel
theorem dX11_draw_4 : decode cX11_draw 4 = .ok (.iload_n 1, 1) := by decide +kernel
theorem dX11_draw_5 : decode cX11_draw 5 = .ok (.invokevirtual 110, 3) := by decide +kernel
theorem dX11_draw_8 : decode cX11_draw 8 = .ok (.astore_n 2, 1) := by decide +kernel
theorem dX11_draw_9 : decode cX11_draw 9 = .ok (.aload_n 2, 1) := by decide +kernel
theorem dX11_draw_10 : decode cX11_draw 10 = .ok (.ifnonnull 6, 3) := by decide +kernel
theorem dX11_draw_13 : decode cX11_draw 13 = .ok (.ldc 114, 2) := by decide +kernel
theorem dX11_draw_15 : decode cX11_draw 15 = .ok (.ireturn, 1) := by decide +kernel
theorem dX11_draw_16 : decode cX11_draw 16 = .ok (.aload_n 2, 1) := by decide +kernel
theorem dX11_draw_17 : decode cX11_draw 17 = .ok (.invokevirtual 115, 3) := by decide +kernel
theorem dX11_draw_20 : decode cX11_draw 20 = .ok (.aload_n 0, 1) := by decide +kernel
theorem dX11_draw_21 : decode cX11_draw 21 = .ok (.getfield 61, 3) := by decide +kernel
theorem dX11_draw_24 : decode cX11_draw 24 = .ok (.invokevirtual 146, 3) := by decide +kernel
theorem dX11_draw_27 : decode cX11_draw 27 = .ok (.istore_n 3, 1) := by decide +kernel
theorem dX11_draw_28 : decode cX11_draw 28 = .ok (.iload_n 3, 1) := by decide +kernel
theorem dX11_draw_29 : decode cX11_draw 29 = .ok (.iconst (-1), 1) := by decide +kernel
theorem dX11_draw_30 : decode cX11_draw 30 = .ok (.if_icmp .ne 6, 3) := by decide +kernel
theorem dX11_draw_33 : decode cX11_draw 33 = .ok (.ldc 230, 2) := by decide +kernel
theorem dX11_draw_35 : decode cX11_draw 35 = .ok (.ireturn, 1) := by decide +kernel
theorem dX11_draw_36 : decode cX11_draw 36 = .ok (.aload_n 0, 1) := by decide +kernel
theorem dX11_draw_37 : decode cX11_draw 37 = .ok (.iload_n 1, 1) := by decide +kernel
theorem dX11_draw_38 : decode cX11_draw 38 = .ok (.new 116, 3) := by decide +kernel
theorem dX11_draw_41 : decode cX11_draw 41 = .ok (.dup, 1) := by decide +kernel
theorem dX11_draw_42 : decode cX11_draw 42 = .ok (.aload_n 2, 1) := by decide +kernel
theorem dX11_draw_43 : decode cX11_draw 43 = .ok (.invokevirtual 115, 3) := by decide +kernel
theorem dX11_draw_46 : decode cX11_draw 46 = .ok (.iload_n 3, 1) := by decide +kernel
theorem dX11_draw_47 : decode cX11_draw 47 = .ok (.invokespecial 223, 3) := by decide +kernel
theorem dX11_draw_50 : decode cX11_draw 50 = .ok (.invokevirtual 226, 3) := by decide +kernel
theorem dX11_draw_53 : decode cX11_draw 53 = .ok (.iload_n 3, 1) := by decide +kernel
theorem dX11_draw_54 : decode cX11_draw 54 = .ok (.ireturn, 1) := by decide +kernel
theorem dX11_turn_0 : decode cX11_turn 0 = .ok (.aload_n 0, 1) := by decide +kernel
theorem dX11_turn_1 : decode cX11_turn 1 = .ok (.getfield 10, 3) := by decide +kernel
theorem dX11_turn_4 : decode cX11_turn 4 = .ok (.iload_n 1, 1) := by decide +kernel
theorem dX11_turn_5 : decode cX11_turn 5 = .ok (.invokevirtual 110, 3) := by decide +kernel
theorem dX11_turn_8 : decode cX11_turn 8 = .ok (.astore 4, 2) := by decide +kernel
theorem dX11_turn_10 : decode cX11_turn 10 = .ok (.aload 4, 2) := by decide +kernel
theorem dX11_turn_12 : decode cX11_turn 12 = .ok (.ifnull 15, 3) := by decide +kernel
theorem dX11_turn_15 : decode cX11_turn 15 = .ok (.aload 4, 2) := by decide +kernel
theorem dX11_turn_17 : decode cX11_turn 17 = .ok (.invokevirtual 115, 3) := by decide +kernel
theorem dX11_turn_20 : decode cX11_turn 20 = .ok (.iload_n 2, 1) := by decide +kernel
theorem dX11_turn_21 : decode cX11_turn 21 = .ok (.invokevirtual 231, 3) := by decide +kernel
theorem dX11_turn_24 : decode cX11_turn 24 = .ok (.ifCond .ne 6, 3) := by decide +kernel
theorem dX11_turn_27 : decode cX11_turn 27 = .ok (.ldc 114, 2) := by decide +kernel
theorem dX11_turn_29 : decode cX11_turn 29 = .ok (.ireturn, 1) := by decide +kernel
theorem dX11_turn_30 : decode cX11_turn 30 = .ok (.aload_n 0, 1) := by decide +kernel
theorem dX11_turn_31 : decode cX11_turn 31 = .ok (.getfield 54, 3) := by decide +kernel
theorem dX11_turn_34 : decode cX11_turn 34 = .ok (.aload 4, 2) := by decide +kernel
theorem dX11_turn_36 : decode cX11_turn 36 = .ok (.invokevirtual 115, 3) := by decide +kernel
theorem dX11_turn_39 : decode cX11_turn 39 = .ok (.iload_n 2, 1) := by decide +kernel
theorem dX11_turn_40 : decode cX11_turn 40 = .ok (.iload_n 3, 1) := by decide +kernel
theorem dX11_turn_41 : decode cX11_turn 41 = .ok (.invokevirtual 234, 3) := by decide +kernel
theorem dX11_turn_44 : decode cX11_turn 44 = .ok (.aload_n 0, 1) := by decide +kernel
theorem dX11_turn_45 : decode cX11_turn 45 = .ok (.iload_n 1, 1) := by decide +kernel
theorem dX11_turn_46 : decode cX11_turn 46 = .ok (.invokevirtual 238, 3) := by decide +kernel
theorem dX11_turn_49 : decode cX11_turn 49 = .ok (.invokevirtual 160, 3) := by decide +kernel
theorem dX11_turn_52 : decode cX11_turn 52 = .ok (.ireturn, 1) := by decide +kernel
theorem dX11_twist_0 : decode cX11_twist 0 = .ok (.aload_n 0, 1) := by decide +kernel
theorem dX11_twist_1 : decode cX11_twist 1 = .ok (.getfield 10, 3) := by decide +kernel
theorem dX11_twist_4 : decode cX11_twist 4 = .ok (.iload_n 1, 1) := by decide +kernel
theorem dX11_twist_5 : decode cX11_twist 5 = .ok (.invokevirtual 110, 3) := by decide +kernel
theorem dX11_twist_8 : decode cX11_twist 8 = .ok (.astore_n 3, 1) := by decide +kernel
theorem dX11_twist_9 : decode cX11_twist 9 = .ok (.aload_n 3, 1) := by decide +kernel
theorem dX11_twist_10 : decode cX11_twist 10 = .ok (.ifnull 14, 3) := by decide +kernel
theorem dX11_twist_13 : decode cX11_twist 13 = .ok (.aload_n 3, 1) := by decide +kernel
theorem dX11_twist_14 : decode cX11_twist 14 = .ok (.invokevirtual 115, 3) := by decide +kernel
theorem dX11_twist_17 : decode cX11_twist 17 = .ok (.iload_n 2, 1) := by decide +kernel
theorem dX11_twist_18 : decode cX11_twist 18 = .ok (.invokevirtual 242, 3) := by decide +kernel
theorem dX11_twist_21 : decode cX11_twist 21 = .ok (.ifCond .ne 6, 3) := by decide +kernel
theorem dX11_twist_24 : decode cX11_twist 24 = .ok (.ldc 114, 2) := by decide +kernel
theorem dX11_twist_26 : decode cX11_twist 26 = .ok (.ireturn, 1) := by decide +kernel
theorem dX11_twist_27 : decode cX11_twist 27 = .ok (.aload_n 3, 1) := by decide +kernel
theorem dX11_twist_28 : decode cX11_twist 28 = .ok (.invokevirtual 115, 3) := by decide +kernel
theorem dX11_twist_31 : decode cX11_twist 31 = .ok (.invokevirtual 121, 3) := by decide +kernel
theorem dX11_twist_34 : decode cX11_twist 34 = .ok (.iconst 1, 1) := by decide +kernel
theorem dX11_twist_35 : decode cX11_twist 35 = .ok (.iadd, 1) := by decide +kernel
theorem dX11_twist_36 : decode cX11_twist 36 = .ok (.bipush 8, 2) := by decide +kernel
theorem dX11_twist_38 : decode cX11_twist 38 = .ok (.if_icmp .le 6, 3) := by decide +kernel
theorem dX11_twist_41 : decode cX11_twist 41 = .ok (.ldc 74, 2) := by decide +kernel
theorem dX11_twist_43 : decode cX11_twist 43 = .ok (.ireturn, 1) := by decide +kernel
theorem dX11_twist_44 : decode cX11_twist 44 = .ok (.aload_n 0, 1) := by decide +kernel
theorem dX11_twist_45 : decode cX11_twist 45 = .ok (.getfield 54, 3) := by decide +kernel
theorem dX11_twist_48 : decode cX11_twist 48 = .ok (.aload_n 3, 1) := by decide +kernel
theorem dX11_twist_49 : decode cX11_twist 49 = .ok (.invokevirtual 115, 3) := by decide +kernel
theorem dX11_twist_52 : decode cX11_twist 52 = .ok (.iload_n 2, 1) := by decide +kernel
theorem dX11_twist_53 : decode cX11_twist 53 = .ok (.invokevirtual 245, 3) := by decide +kernel
theorem dX11_twist_56 : decode cX11_twist 56 = .ok (.aload_n 0, 1) := by decide +kernel
theorem dX11_twist_57 : decode cX11_twist 57 = .ok (.iload_n 1, 1) := by decide +kernel
theorem dX11_twist_58 : decode cX11_twist 58 = .ok (.invokevirtual 238, 3) := by decide +kernel
theorem dX11_twist_61 : decode cX11_twist 61 = .ok (.invokevirtual 121, 3) := by decide +kernel
theorem dX11_twist_64 : decode cX11_twist 64 = .ok (.ireturn, 1) := by decide +kernel
theorem dX11_untwist_0 : decode cX11_untwist 0 = .ok (.aload_n 0, 1) := by decide +kernel
theorem dX11_untwist_1 : decode cX11_untwist 1 = .ok (.getfield 10, 3) := by decide +kernel
theorem dX11_untwist_4 : decode cX11_untwist 4 = .ok (.iload_n 1, 1) := by decide +kernel
theorem dX11_untwist_5 : decode cX11_untwist 5 = .ok (.invokevirtual 110, 3) := by decide +kernel
theorem dX11_untwist_8 : decode cX11_untwist 8 = .ok (.astore_n 3, 1) := by decide +kernel
theorem dX11_untwist_9 : decode cX11_untwist 9 = .ok (.aload_n 3, 1) := by decide +kernel
theorem dX11_untwist_10 : decode cX11_untwist 10 = .ok (.ifnull 14, 3) := by decide +kernel
theorem dX11_untwist_13 : decode cX11_untwist 13 = .ok (.aload_n 3, 1) := by decide +kernel
theorem dX11_untwist_14 : decode cX11_untwist 14 = .ok (.invokevirtual 115, 3) := by decide +kernel
theorem dX11_untwist_17 : decode cX11_untwist 17 = .ok (.iload_n 2, 1) := by decide +kernel
theorem dX11_untwist_18 : decode cX11_untwist 18 = .ok (.invokevirtual 179, 3) := by decide +kernel
theorem dX11_untwist_21 : decode cX11_untwist 21 = .ok (.ifCond .ne 6, 3) := by decide +kernel
theorem dX11_untwist_24 : decode cX11_untwist 24 = .ok (.ldc 114, 2) := by decide +kernel
theorem dX11_untwist_26 : decode cX11_untwist 26 = .ok (.ireturn, 1) := by decide +kernel
theorem dX11_untwist_27 : decode cX11_untwist 27 = .ok (.aload_n 3, 1) := by decide +kernel
theorem dX11_untwist_28 : decode cX11_untwist 28 = .ok (.invokevirtual 115, 3) := by decide +kernel
theorem dX11_untwist_31 : decode cX11_untwist 31 = .ok (.iload_n 2, 1) := by decide +kernel
theorem dX11_untwist_32 : decode cX11_untwist 32 = .ok (.invokevirtual 248, 3) := by decide +kernel
theorem dX11_untwist_35 : decode cX11_untwist 35 = .ok (.ifCond .ne 6, 3) := by decide +kernel
theorem dX11_untwist_38 : decode cX11_untwist 38 = .ok (.ldc 230, 2) := by decide +kernel
theorem dX11_untwist_40 : decode cX11_untwist 40 = .ok (.ireturn, 1) := by decide +kernel
theorem dX11_untwist_41 : decode cX11_untwist 41 = .ok (.aload_n 0, 1) := by decide +kernel
theorem dX11_untwist_42 : decode cX11_untwist 42 = .ok (.getfield 54, 3) := by decide +kernel
theorem dX11_untwist_45 : decode cX11_untwist 45 = .ok (.aload_n 3, 1) := by decide +kernel
theorem dX11_untwist_46 : decode cX11_untwist 46 = .ok (.invokevirtual 115, 3) := by decide +kernel
theorem dX11_untwist_49 : decode cX11_untwist 49 = .ok (.iconst 1, 1) := by decide +kernel
theorem dX11_untwist_50 : decode cX11_untwist 50 = .ok (.iload_n 2, 1) := by decide +kernel
theorem dX11_untwist_51 : decode cX11_untwist 51 = .ok (.ishl, 1) := by decide +kernel
theorem dX11_untwist_52 : decode cX11_untwist 52 = .ok (.invokevirtual 251, 3) := by decide +kernel
theorem dX11_untwist_55 : decode cX11_untwist 55 = .ok (.aload_n 0, 1) := by decide +kernel
theorem dX11_untwist_56 : decode cX11_untwist 56 = .ok (.iload_n 1, 1) := by decide +kernel
theorem dX11_untwist_57 : decode cX11_untwist 57 = .ok (.invokevirtual 238, 3) := by decide +kernel
theorem dX11_untwist_60 : decode cX11_untwist 60 = .ok (.invokevirtual 121, 3) := by decide +kernel
theorem dX11_untwist_63 : decode cX11_untwist 63 = .ok (.ireturn, 1) := by decide +kernel
theorem dX11_poke_0 : decode cX11_poke 0 = .ok (.aload_n 0, 1) := by decide +kernel
theorem dX11_poke_1 : decode cX11_poke 1 = .ok (.getfield 10, 3) := by decide +kernel
theorem dX11_poke_4 : decode cX11_poke 4 = .ok (.iload_n 1, 1) := by decide +kernel
theorem dX11_poke_5 : decode cX11_poke 5 = .ok (.invokevirtual 110, 3) := by decide +kernel
theorem dX11_poke_8 : decode cX11_poke 8 = .ok (.astore 5, 2) := by decide +kernel
theorem dX11_poke_10 : decode cX11_poke 10 = .ok (.aload 5, 2) := by decide +kernel
theorem dX11_poke_12 : decode cX11_poke 12 = .ok (.ifnull 32, 3) := by decide +kernel
theorem dX11_poke_15 : decode cX11_poke 15 = .ok (.aload 5, 2) := by decide +kernel
theorem dX11_poke_17 : decode cX11_poke 17 = .ok (.invokevirtual 115, 3) := by decide +kernel
theorem dX11_poke_20 : decode cX11_poke 20 = .ok (.iload_n 2, 1) := by decide +kernel
theorem dX11_poke_21 : decode cX11_poke 21 = .ok (.invokevirtual 242, 3) := by decide +kernel
theorem dX11_poke_24 : decode cX11_poke 24 = .ok (.ifCond .eq 20, 3) := by decide +kernel
theorem dX11_poke_27 : decode cX11_poke 27 = .ok (.aload 5, 2) := by decide +kernel
theorem dX11_poke_29 : decode cX11_poke 29 = .ok (.invokevirtual 115, 3) := by decide +kernel
theorem dX11_poke_32 : decode cX11_poke 32 = .ok (.iload_n 3, 1) := by decide +kernel
theorem dX11_poke_33 : decode cX11_poke 33 = .ok (.invokevirtual 242, 3) := by decide +kernel
theorem dX11_poke_36 : decode cX11_poke 36 = .ok (.ifCond .eq 8, 3) := by decide +kernel
theorem dX11_poke_39 : decode cX11_poke 39 = .ok (.iload_n 2, 1) := by decide +kernel
theorem dX11_poke_40 : decode cX11_poke 40 = .ok (.iload_n 3, 1) := by decide +kernel
theorem dX11_poke_41 : decode cX11_poke 41 = .ok (.if_icmp .ne 6, 3) := by decide +kernel
theorem dX11_poke_44 : decode cX11_poke 44 = .ok (.ldc 114, 2) := by decide +kernel
theorem dX11_poke_46 : decode cX11_poke 46 = .ok (.ireturn, 1) := by decide +kernel
theorem dX11_poke_47 : decode cX11_poke 47 = .ok (.iload 4, 2) := by decide +kernel
theorem dX11_poke_49 : decode cX11_poke 49 = .ok (.ifCond .lt 9, 3) := by decide +kernel
theorem dX11_poke_52 : decode cX11_poke 52 = .ok (.iload 4, 2) := by decide +kernel
theorem dX11_poke_54 : decode cX11_poke 54 = .ok (.iconst 1, 1) := by decide +kernel
theorem dX11_poke_55 : decode cX11_poke 55 = .ok (.if_icmp .le 6, 3) := by decide +kernel
theorem dX11_poke_58 : decode cX11_poke 58 = .ok (.ldc 65, 2) := by decide +kernel
theorem dX11_poke_60 : decode cX11_poke 60 = .ok (.ireturn, 1) := by decide +kernel
theorem dX11_poke_61 : decode cX11_poke 61 = .ok (.aload 5, 2) := by decide +kernel
theorem dX11_poke_63 : decode cX11_poke 63 = .ok (.invokevirtual 115, 3) := by decide +kernel
theorem dX11_poke_66 : decode cX11_poke 66 = .ok (.invokevirtual 121, 3) := by decide +kernel
theorem dX11_poke_69 : decode cX11_poke 69 = .ok (.iconst 2, 1) := by decide +kernel
theorem dX11_poke_70 : decode cX11_poke 70 = .ok (.iadd, 1) := by decide +kernel
theorem dX11_poke_71 : decode cX11_poke 71 = .ok (.bipush 8, 2) := by decide +kernel
theorem dX11_poke_73 : decode cX11_poke 73 = .ok (.if_icmp .le 6, 3) := by decide +kernel
theorem dX11_poke_76 : decode cX11_poke 76 = .ok (.ldc 74, 2) := by decide +kernel
theorem dX11_poke_78 : decode cX11_poke 78 = .ok (.ireturn, 1) := by decide +kernel
theorem dX11_poke_79 : decode cX11_poke 79 = .ok (.aload_n 0, 1) := by decide +kernel
theorem dX11_poke_80 : decode cX11_poke 80 = .ok (.getfield 54, 3) := by decide +kernel
theorem dX11_poke_83 : decode cX11_poke 83 = .ok (.aload 5, 2) := by decide +kernel
theorem dX11_poke_85 : decode cX11_poke 85 = .ok (.invokevirtual 115, 3) := by decide +kernel
theorem dX11_poke_88 : decode cX11_poke 88 = .ok (.iload_n 2, 1) := by decide +kernel
theorem dX11_poke_89 : decode cX11_poke 89 = .ok (.iload_n 3, 1) := by decide +kernel
theorem dX11_poke_90 : decode cX11_poke 90 = .ok (.iload 4, 2) := by decide +kernel
theorem dX11_poke_92 : decode cX11_poke 92 = .ok (.invokevirtual 254, 3) := by decide +kernel
theorem dX11_poke_95 : decode cX11_poke 95 = .ok (.aload_n 0, 1) := by decide +kernel
theorem dX11_poke_96 : decode cX11_poke 96 = .ok (.iload_n 1, 1) := by decide +kernel
theorem dX11_poke_97 : decode cX11_poke 97 = .ok (.invokevirtual 238, 3) := by decide +kernel
theorem dX11_poke_100 : decode cX11_poke 100 = .ok (.invokevirtual 121, 3) := by decide +kernel
theorem dX11_poke_103 : decode cX11_poke 103 = .ok (.ireturn, 1) := by decide +kernel
theorem dX11_unpoke_0 : decode cX11_unpoke 0 = .ok (.aload_n 0, 1) := by decide +kernel
theorem dX11_unpoke_1 : decode cX11_unpoke 1 = .ok (.getfield 10, 3) := by decide +kernel
theorem dX11_unpoke_4 : decode cX11_unpoke 4 = .ok (.iload_n 1, 1) := by decide +kernel
theorem dX11_unpoke_5 : decode cX11_unpoke 5 = .ok (.invokevirtual 110, 3) := by decide +kernel
theorem dX11_unpoke_8 : decode cX11_unpoke 8 = .ok (.astore 4, 2) := by decide +kernel
theorem dX11_unpoke_10 : decode cX11_unpoke 10 = .ok (.aload 4, 2) := by decide +kernel
theorem dX11_unpoke_12 : decode cX11_unpoke 12 = .ok (.ifnull 32, 3) := by decide +kernel
theorem dX11_unpoke_15 : decode cX11_unpoke 15 = .ok (.aload 4, 2) := by decide +kernel
theorem dX11_unpoke_17 : decode cX11_unpoke 17 = .ok (.invokevirtual 115, 3) := by decide +kernel
theorem dX11_unpoke_20 : decode cX11_unpoke 20 = .ok (.iload_n 2, 1) := by decide +kernel
theorem dX11_unpoke_21 : decode cX11_unpoke 21 = .ok (.invokevirtual 179, 3) := by decide +kernel
theorem dX11_unpoke_24 : decode cX11_unpoke 24 = .ok (.ifCond .eq 20, 3) := by decide +kernel
theorem dX11_unpoke_27 : decode cX11_unpoke 27 = .ok (.aload 4, 2) := by decide +kernel
theorem dX11_unpoke_29 : decode cX11_unpoke 29 = .ok (.invokevirtual 115, 3) := by decide +kernel
theorem dX11_unpoke_32 : decode cX11_unpoke 32 = .ok (.iload_n 3, 1) := by decide +kernel
theorem dX11_unpoke_33 : decode cX11_unpoke 33 = .ok (.invokevirtual 179, 3) := by decide +kernel
theorem dX11_unpoke_36 : decode cX11_unpoke 36 = .ok (.ifCond .eq 8, 3) := by decide +kernel
theorem dX11_unpoke_39 : decode cX11_unpoke 39 = .ok (.iload_n 2, 1) := by decide +kernel
theorem dX11_unpoke_40 : decode cX11_unpoke 40 = .ok (.iload_n 3, 1) := by decide +kernel
theorem dX11_unpoke_41 : decode cX11_unpoke 41 = .ok (.if_icmp .ne 6, 3) := by decide +kernel
theorem dX11_unpoke_44 : decode cX11_unpoke 44 = .ok (.ldc 114, 2) := by decide +kernel
theorem dX11_unpoke_46 : decode cX11_unpoke 46 = .ok (.ireturn, 1) := by decide +kernel
theorem dX11_unpoke_47 : decode cX11_unpoke 47 = .ok (.aload 4, 2) := by decide +kernel
theorem dX11_unpoke_49 : decode cX11_unpoke 49 = .ok (.invokevirtual 115, 3) := by decide +kernel
theorem dX11_unpoke_52 : decode cX11_unpoke 52 = .ok (.iload_n 2, 1) := by decide +kernel
theorem dX11_unpoke_53 : decode cX11_unpoke 53 = .ok (.iload_n 3, 1) := by decide +kernel
theorem dX11_unpoke_54 : decode cX11_unpoke 54 = .ok (.invokevirtual 258, 3) := by decide +kernel
theorem dX11_unpoke_57 : decode cX11_unpoke 57 = .ok (.ifCond .ne 6, 3) := by decide +kernel
theorem dX11_unpoke_60 : decode cX11_unpoke 60 = .ok (.ldc 230, 2) := by decide +kernel
theorem dX11_unpoke_62 : decode cX11_unpoke 62 = .ok (.ireturn, 1) := by decide +kernel
theorem dX11_unpoke_63 : decode cX11_unpoke 63 = .ok (.aload_n 0, 1) := by decide +kernel
theorem dX11_unpoke_64 : decode cX11_unpoke 64 = .ok (.getfield 54, 3) := by decide +kernel
theorem dX11_unpoke_67 : decode cX11_unpoke 67 = .ok (.aload 4, 2) := by decide +kernel
theorem dX11_unpoke_69 : decode cX11_unpoke 69 = .ok (.invokevirtual 115, 3) := by decide +kernel
theorem dX11_unpoke_72 : decode cX11_unpoke 72 = .ok (.iconst 1, 1) := by decide +kernel
theorem dX11_unpoke_73 : decode cX11_unpoke 73 = .ok (.iload_n 2, 1) := by decide +kernel
theorem dX11_unpoke_74 : decode cX11_unpoke 74 = .ok (.ishl, 1) := by decide +kernel
theorem dX11_unpoke_75 : decode cX11_unpoke 75 = .ok (.iconst 1, 1) := by decide +kernel
theorem dX11_unpoke_76 : decode cX11_unpoke 76 = .ok (.iload_n 3, 1) := by decide +kernel
theorem dX11_unpoke_77 : decode cX11_unpoke 77 = .ok (.ishl, 1) := by decide +kernel
theorem dX11_unpoke_78 : decode cX11_unpoke 78 = .ok (.ior, 1) := by decide +kernel
theorem dX11_unpoke_79 : decode cX11_unpoke 79 = .ok (.invokevirtual 251, 3) := by decide +kernel
theorem dX11_unpoke_82 : decode cX11_unpoke 82 = .ok (.aload_n 0, 1) := by decide +kernel
theorem dX11_unpoke_83 : decode cX11_unpoke 83 = .ok (.iload_n 1, 1) := by decide +kernel
theorem dX11_unpoke_84 : decode cX11_unpoke 84 = .ok (.invokevirtual 238, 3) := by decide +kernel
theorem dX11_unpoke_87 : decode cX11_unpoke 87 = .ok (.invokevirtual 121, 3) := by decide +kernel
theorem dX11_unpoke_90 : decode cX11_unpoke 90 = .ok (.ireturn, 1) := by decide +kernel
theorem dX11_slide_0 : decode cX11_slide 0 = .ok (.aload_n 0, 1) := by decide +kernel
theorem dX11_slide_1 : decode cX11_slide 1 = .ok (.getfield 10, 3) := by decide +kernel
theorem dX11_slide_4 : decode cX11_slide 4 = .ok (.iload_n 1, 1) := by decide +kernel
theorem dX11_slide_5 : decode cX11_slide 5 = .ok (.invokevirtual 110, 3) := by decide +kernel
theorem dX11_slide_8 : decode cX11_slide 8 = .ok (.astore 5, 2) := by decide +kernel
theorem dX11_slide_10 : decode cX11_slide 10 = .ok (.aload 5, 2) := by decide +kernel
theorem dX11_slide_12 : decode cX11_slide 12 = .ok (.ifnull 18, 3) := by decide +kernel
theorem dX11_slide_15 : decode cX11_slide 15 = .ok (.aload 5, 2) := by decide +kernel
theorem dX11_slide_17 : decode cX11_slide 17 = .ok (.invokevirtual 115, 3) := by decide +kernel
theorem dX11_slide_20 : decode cX11_slide 20 = .ok (.iload_n 2, 1) := by decide +kernel
theorem dX11_slide_21 : decode cX11_slide 21 = .ok (.iload_n 3, 1) := by decide +kernel
theorem dX11_slide_22 : decode cX11_slide 22 = .ok (.iload 4, 2) := by decide +kernel
theorem dX11_slide_24 : decode cX11_slide 24 = .ok (.invokevirtual 262, 3) := by decide +kernel
theorem dX11_slide_27 : decode cX11_slide 27 = .ok (.ifCond .ne 6, 3) := by decide +kernel
theorem dX11_slide_30 : decode cX11_slide 30 = .ok (.ldc 114, 2) := by decide +kernel
theorem dX11_slide_32 : decode cX11_slide 32 = .ok (.ireturn, 1) := by decide +kernel
theorem dX11_slide_33 : decode cX11_slide 33 = .ok (.aload 5, 2) := by decide +kernel
theorem dX11_slide_35 : decode cX11_slide 35 = .ok (.invokevirtual 115, 3) := by decide +kernel
theorem dX11_slide_38 : decode cX11_slide 38 = .ok (.iload_n 2, 1) := by decide +kernel
theorem dX11_slide_39 : decode cX11_slide 39 = .ok (.iload_n 3, 1) := by decide +kernel
theorem dX11_slide_40 : decode cX11_slide 40 = .ok (.iload 4, 2) := by decide +kernel
theorem dX11_slide_42 : decode cX11_slide 42 = .ok (.invokevirtual 266, 3) := by decide +kernel
theorem dX11_slide_45 : decode cX11_slide 45 = .ok (.istore 6, 2) := by decide +kernel
theorem dX11_slide_47 : decode cX11_slide 47 = .ok (.iload 6, 2) := by decide +kernel
theorem dX11_slide_49 : decode cX11_slide 49 = .ok (.iconst (-1), 1) := by decide +kernel
theorem dX11_slide_50 : decode cX11_slide 50 = .ok (.if_icmp .ne 6, 3) := by decide +kernel
theorem dX11_slide_53 : decode cX11_slide 53 = .ok (.ldc 230, 2) := by decide +kernel
theorem dX11_slide_55 : decode cX11_slide 55 = .ok (.ireturn, 1) := by decide +kernel
theorem dX11_slide_56 : decode cX11_slide 56 = .ok (.aload_n 0, 1) := by decide +kernel
theorem dX11_slide_57 : decode cX11_slide 57 = .ok (.getfield 54, 3) := by decide +kernel
theorem dX11_slide_60 : decode cX11_slide 60 = .ok (.aload 5, 2) := by decide +kernel
theorem dX11_slide_62 : decode cX11_slide 62 = .ok (.invokevirtual 115, 3) := by decide +kernel
theorem dX11_slide_65 : decode cX11_slide 65 = .ok (.iload_n 2, 1) := by decide +kernel
theorem dX11_slide_66 : decode cX11_slide 66 = .ok (.iload_n 3, 1) := by decide +kernel
theorem dX11_slide_67 : decode cX11_slide 67 = .ok (.iload 4, 2) := by decide +kernel
theorem dX11_slide_69 : decode cX11_slide 69 = .ok (.iload 6, 2) := by decide +kernel
theorem dX11_slide_71 : decode cX11_slide 71 = .ok (.invokevirtual 270, 3) := by decide +kernel
theorem dX11_slide_74 : decode cX11_slide 74 = .ok (.aload_n 0, 1) := by decide +kernel
theorem dX11_slide_75 : decode cX11_slide 75 = .ok (.iload_n 1, 1) := by decide +kernel
theorem dX11_slide_76 : decode cX11_slide 76 = .ok (.invokevirtual 238, 3) := by decide +kernel
theorem dX11_slide_79 : decode cX11_slide 79 = .ok (.pop, 1) := by decide +kernel
theorem dX11_slide_80 : decode cX11_slide 80 = .ok (.iload 6, 2) := by decide +kernel
theorem dX11_slide_82 : decode cX11_slide 82 = .ok (.ireturn, 1) := by decide +kernel
theorem dX11_smooth_0 : decode cX11_smooth 0 = .ok (.aload_n 0, 1) := by decide +kernel
theorem dX11_smooth_1 : decode cX11_smooth 1 = .ok (.getfield 10, 3) := by decide +kernel
theorem dX11_smooth_4 : decode cX11_smooth 4 = .ok (.iload_n 1, 1) := by decide +kernel
theorem dX11_smooth_5 : decode cX11_smooth 5 = .ok (.invokevirtual 110, 3) := by decide +kernel
theorem dX11_smooth_8 : decode cX11_smooth 8 = .ok (.astore_n 3, 1) := by decide +kernel
theorem dX11_smooth_9 : decode cX11_smooth 9 = .ok (.aload_n 3, 1) := by decide +kernel
theorem dX11_smooth_10 : decode cX11_smooth 10 = .ok (.ifnull 14, 3) := by decide +kernel
theorem dX11_smooth_13 : decode cX11_smooth 13 = .ok (.aload_n 3, 1) := by decide +kernel
theorem dX11_smooth_14 : decode cX11_smooth 14 = .ok (.invokevirtual 115, 3) := by decide +kernel
theorem dX11_smooth_17 : decode cX11_smooth 17 = .ok (.iload_n 2, 1) := by decide +kernel
theorem dX11_smooth_18 : decode cX11_smooth 18 = .ok (.invokevirtual 179, 3) := by decide +kernel
theorem dX11_smooth_21 : decode cX11_smooth 21 = .ok (.ifCond .ne 6, 3) := by decide +kernel
theorem dX11_smooth_24 : decode cX11_smooth 24 = .ok (.ldc 114, 2) := by decide +kernel
theorem dX11_smooth_26 : decode cX11_smooth 26 = .ok (.ireturn, 1) := by decide +kernel
theorem dX11_smooth_27 : decode cX11_smooth 27 = .ok (.aload_n 0, 1) := by decide +kernel
theorem dX11_smooth_28 : decode cX11_smooth 28 = .ok (.getfield 54, 3) := by decide +kernel
theorem dX11_smooth_31 : decode cX11_smooth 31 = .ok (.aload_n 3, 1) := by decide +kernel
theorem dX11_smooth_32 : decode cX11_smooth 32 = .ok (.invokevirtual 115, 3) := by decide +kernel
theorem dX11_smooth_35 : decode cX11_smooth 35 = .ok (.iload_n 2, 1) := by decide +kernel
theorem dX11_smooth_36 : decode cX11_smooth 36 = .ok (.invokevirtual 274, 3) := by decide +kernel
theorem dX11_smooth_39 : decode cX11_smooth 39 = .ok (.aload_n 0, 1) := by decide +kernel
theorem dX11_smooth_40 : decode cX11_smooth 40 = .ok (.iload_n 1, 1) := by decide +kernel
theorem dX11_smooth_41 : decode cX11_smooth 41 = .ok (.invokevirtual 238, 3) := by decide +kernel
theorem dX11_smooth_44 : decode cX11_smooth 44 = .ok (.invokevirtual 121, 3) := by decide +kernel
theorem dX11_smooth_47 : decode cX11_smooth 47 = .ok (.ireturn, 1) := by decide +kernel
theorem dX11_sum_0 : decode cX11_sum 0 = .ok (.aload_n 0, 1) := by decide +kernel
theorem dX11_sum_1 : decode cX11_sum 1 = .ok (.getfield 10, 3) := by decide +kernel
theorem dX11_sum_4 : decode cX11_sum 4 = .ok (.iload_n 1, 1) := by decide +kernel
theorem dX11_sum_5 : decode cX11_sum 5 = .ok (.invokevirtual 110, 3) := by decide +kernel
theorem dX11_sum_8 : decode cX11_sum 8 = .ok (.astore_n 3, 1) := by decide +kernel
theorem dX11_sum_9 : decode cX11_sum 9 = .ok (.aload_n 0, 1) := by decide +kernel
theorem dX11_sum_10 : decode cX11_sum 10 = .ok (.getfield 10, 3) := by decide +kernel
theorem dX11_sum_13 : decode cX11_sum 13 = .ok (.iload_n 2, 1) := by decide +kernel
theorem dX11_sum_14 : decode cX11_sum 14 = .ok (.invokevirtual 110, 3) := by decide +kernel
theorem dX11_sum_17 : decode cX11_sum 17 = .ok (.astore 4, 2) := by decide +kernel
theorem dX11_sum_19 : decode cX11_sum 19 = .ok (.aload_n 3, 1) := by decide +kernel
theorem dX11_sum_20 : decode cX11_sum 20 = .ok (.ifnull 8, 3) := by decide +kernel
theorem dX11_sum_23 : decode cX11_sum 23 = .ok (.aload 4, 2) := by decide +kernel
theorem dX11_sum_25 : decode cX11_sum 25 = .ok (.ifnonnull 6, 3) := by decide +kernel
theorem dX11_sum_28 : decode cX11_sum 28 = .ok (.ldc 114, 2) := by decide +kernel
theorem dX11_sum_30 : decode cX11_sum 30 = .ok (.ireturn, 1) := by decide +kernel
theorem dX11_sum_31 : decode cX11_sum 31 = .ok (.aload_n 0, 1) := by decide +kernel
theorem dX11_sum_32 : decode cX11_sum 32 = .ok (.getfield 10, 3) := by decide +kernel
theorem dX11_sum_35 : decode cX11_sum 35 = .ok (.invokevirtual 75, 3) := by decide +kernel
theorem dX11_sum_38 : decode cX11_sum 38 = .ok (.ifCond .ne 24, 3) := by decide +kernel
theorem dX11_sum_41 : decode cX11_sum 41 = .ok (.aload_n 3, 1) := by decide +kernel
theorem dX11_sum_42 : decode cX11_sum 42 = .ok (.invokevirtual 115, 3) := by decide +kernel
theorem dX11_sum_45 : decode cX11_sum 45 = .ok (.invokevirtual 121, 3) := by decide +kernel
theorem dX11_sum_48 : decode cX11_sum 48 = .ok (.aload 4, 2) := by decide +kernel
theorem dX11_sum_50 : decode cX11_sum 50 = .ok (.invokevirtual 115, 3) := by decide +kernel
theorem dX11_sum_53 : decode cX11_sum 53 = .ok (.invokevirtual 121, 3) := by decide +kernel
theorem dX11_sum_56 : decode cX11_sum 56 = .ok (.iadd, 1) := by decide +kernel
theorem dX11_sum_57 : decode cX11_sum 57 = .ok (.bipush 8, 2) := by decide +kernel
theorem dX11_sum_59 : decode cX11_sum 59 = .ok (.if_icmp .le 6, 3) := by decide +kernel
theorem dX11_sum_62 : decode cX11_sum 62 = .ok (.ldc 74, 2) := by decide +kernel
theorem dX11_sum_64 : decode cX11_sum 64 = .ok (.ireturn, 1) := by decide +kernel
theorem dX11_sum_65 : decode cX11_sum 65 = .ok (.aload_n 0, 1) := by decide +kernel
theorem dX11_sum_66 : decode cX11_sum 66 = .ok (.getfield 54, 3) := by decide +kernel
theorem dX11_sum_69 : decode cX11_sum 69 = .ok (.aload_n 3, 1) := by decide +kernel
theorem dX11_sum_70 : decode cX11_sum 70 = .ok (.invokevirtual 115, 3) := by decide +kernel
theorem dX11_sum_73 : decode cX11_sum 73 = .ok (.aload 4, 2) := by decide +kernel
theorem dX11_sum_75 : decode cX11_sum 75 = .ok (.invokevirtual 115, 3) := by decide +kernel
theorem dX11_sum_78 : decode cX11_sum 78 = .ok (.invokevirtual 277, 3) := by decide +kernel
theorem dX11_sum_81 : decode cX11_sum 81 = .ok (.aload_n 0, 1) := by decide +kernel
theorem dX11_sum_82 : decode cX11_sum 82 = .ok (.invokevirtual 89, 3) := by decide +kernel
theorem dX11_sum_85 : decode cX11_sum 85 = .ok (.ireturn, 1) := by decide +kernel
theorem dX11_take_0 : decode cX11_take 0 = .ok (.aload_n 0, 1) := by decide +kernel
theorem dX11_take_1 : decode cX11_take 1 = .ok (.getfield 10, 3) := by decide +kernel
theorem dX11_take_4 : decode cX11_take 4 = .ok (.iload_n 1, 1) := by decide +kernel
theorem dX11_take_5 : decode cX11_take 5 = .ok (.invokevirtual 110, 3) := by decide +kernel
theorem dX11_take_8 : decode cX11_take 8 = .ok (.ifnonnull 6, 3) := by decide +kernel
theorem dX11_take_11 : decode cX11_take 11 = .ok (.ldc 114, 2) := by decide +kernel
theorem dX11_take_13 : decode cX11_take 13 = .ok (.ireturn, 1) := by decide +kernel
theorem dX11_take_14 : decode cX11_take 14 = .ok (.aload_n 0, 1) := by decide +kernel
theorem dX11_take_15 : decode cX11_take 15 = .ok (.getfield 33, 3) := by decide +kernel
theorem dX11_take_18 : decode cX11_take 18 = .ok (.aload_n 0, 1) := by decide +kernel
theorem dX11_take_19 : decode cX11_take 19 = .ok (.getfield 10, 3) := by decide +kernel
theorem dX11_take_22 : decode cX11_take 22 = .ok (.invokevirtual 281, 3) := by decide +kernel
theorem dX11_take_25 : decode cX11_take 25 = .ok (.aload_n 0, 1) := by decide +kernel
theorem dX11_take_26 : decode cX11_take 26 = .ok (.getfield 10, 3) := by decide +kernel
theorem dX11_take_29 : decode cX11_take 29 = .ok (.iload_n 1, 1) := by decide +kernel
theorem dX11_take_30 : decode cX11_take 30 = .ok (.invokevirtual 285, 3) := by decide +kernel
theorem dX11_take_33 : decode cX11_take 33 = .ok (.aload_n 0, 1) := by decide +kernel
theorem dX11_take_34 : decode cX11_take 34 = .ok (.getfield 10, 3) := by decide +kernel
theorem dX11_take_37 : decode cX11_take 37 = .ok (.invokevirtual 95, 3) := by decide +kernel
theorem dX11_take_40 : decode cX11_take 40 = .ok (.ireturn, 1) := by decide +kernel
theorem dX11_drift_0 : decode cX11_drift 0 = .ok (.iload_n 1, 1) := by decide +kernel
theorem dX11_drift_1 : decode cX11_drift 1 = .ok (.iconst 1, 1) := by decide +kernel
theorem dX11_drift_2 : decode cX11_drift 2 = .ok (.if_icmp .lt 9, 3) := by decide +kernel
theorem dX11_drift_5 : decode cX11_drift 5 = .ok (.iload_n 1, 1) := by decide +kernel
theorem dX11_drift_6 : decode cX11_drift 6 = .ok (.bipush 6, 2) := by decide +kernel
theorem dX11_drift_8 : decode cX11_drift 8 = .ok (.if_icmp .le 6, 3) := by decide +kernel
theorem dX11_drift_11 : decode cX11_drift 11 = .ok (.ldc 65, 2) := by decide +kernel
theorem dX11_drift_13 : decode cX11_drift 13 = .ok (.ireturn, 1) := by decide +kernel
theorem dX11_drift_14 : decode cX11_drift 14 = .ok (.iconst 0, 1) := by decide +kernel
theorem dX11_drift_15 : decode cX11_drift 15 = .ok (.istore_n 2, 1) := by decide +kernel
theorem dX11_drift_16 : decode cX11_drift 16 = .ok (.iload_n 2, 1) := by decide +kernel
theorem dX11_drift_17 : decode cX11_drift 17 = .ok (.iload_n 1, 1) := by decide +kernel
theorem dX11_drift_18 : decode cX11_drift 18 = .ok (.if_icmp .ge 35, 3) := by decide +kernel
theorem dX11_drift_21 : decode cX11_drift 21 = .ok (.aload_n 0, 1) := by decide +kernel
theorem dX11_drift_22 : decode cX11_drift 22 = .ok (.getfield 10, 3) := by decide +kernel
theorem dX11_drift_25 : decode cX11_drift 25 = .ok (.invokevirtual 75, 3) := by decide +kernel
theorem dX11_drift_28 : decode cX11_drift 28 = .ok (.ifCond .ne 25, 3) := by decide +kernel
theorem dX11_drift_31 : decode cX11_drift 31 = .ok (.aload_n 0, 1) := by decide +kernel
theorem dX11_drift_32 : decode cX11_drift 32 = .ok (.getfield 47, 3) := by decide +kernel
theorem dX11_drift_35 : decode cX11_drift 35 = .ok (.aload_n 0, 1) := by decide +kernel
theorem dX11_drift_36 : decode cX11_drift 36 = .ok (.getfield 54, 3) := by decide +kernel
theorem dX11_drift_39 : decode cX11_drift 39 = .ok (.invokevirtual 289, 3) := by decide +kernel
theorem dX11_drift_42 : decode cX11_drift 42 = .ok (.aload_n 0, 1) := by decide +kernel
theorem dX11_drift_43 : decode cX11_drift 43 = .ok (.invokevirtual 89, 3) := by decide +kernel
theorem dX11_drift_46 : decode cX11_drift 46 = .ok (.pop, 1) := by decide +kernel
theorem dX11_drift_47 : decode cX11_drift 47 = .ok (.iinc 2 1, 3) := by decide +kernel
theorem dX11_drift_50 : decode cX11_drift 50 = .ok (.goto (-34), 3) := by decide +kernel
theorem dX11_drift_53 : decode cX11_drift 53 = .ok (.aload_n 0, 1) := by decide +kernel
theorem dX11_drift_54 : decode cX11_drift 54 = .ok (.getfield 10, 3) := by decide +kernel
theorem dX11_drift_57 : decode cX11_drift 57 = .ok (.invokevirtual 95, 3) := by decide +kernel
theorem dX11_drift_60 : decode cX11_drift 60 = .ok (.ireturn, 1) := by decide +kernel
theorem dX11_undo_0 : decode cX11_undo 0 = .ok (.iload_n 1, 1) := by decide +kernel
theorem dX11_undo_1 : decode cX11_undo 1 = .ok (.iconst 1, 1) := by decide +kernel
theorem dX11_undo_2 : decode cX11_undo 2 = .ok (.if_icmp .lt 9, 3) := by decide +kernel
theorem dX11_undo_5 : decode cX11_undo 5 = .ok (.iload_n 1, 1) := by decide +kernel
theorem dX11_undo_6 : decode cX11_undo 6 = .ok (.bipush 16, 2) := by decide +kernel
theorem dX11_undo_8 : decode cX11_undo 8 = .ok (.if_icmp .le 6, 3) := by decide +kernel
theorem dX11_undo_11 : decode cX11_undo 11 = .ok (.ldc 65, 2) := by decide +kernel
theorem dX11_undo_13 : decode cX11_undo 13 = .ok (.ireturn, 1) := by decide +kernel
theorem dX11_undo_14 : decode cX11_undo 14 = .ok (.aload_n 0, 1) := by decide +kernel
theorem dX11_undo_15 : decode cX11_undo 15 = .ok (.getfield 33, 3) := by decide +kernel
theorem dX11_undo_18 : decode cX11_undo 18 = .ok (.iload_n 1, 1) := by decide +kernel
theorem dX11_undo_19 : decode cX11_undo 19 = .ok (.aload_n 0, 1) := by decide +kernel
theorem dX11_undo_20 : decode cX11_undo 20 = .ok (.getfield 10, 3) := by decide +kernel
theorem dX11_undo_23 : decode cX11_undo 23 = .ok (.invokevirtual 292, 3) := by decide +kernel
theorem dX11_undo_26 : decode cX11_undo 26 = .ok (.ifCond .eq 13, 3) := by decide +kernel
theorem dX11_undo_29 : decode cX11_undo 29 = .ok (.aload_n 0, 1) := by decide +kernel
theorem dX11_undo_30 : decode cX11_undo 30 = .ok (.getfield 10, 3) := by decide +kernel
theorem dX11_undo_33 : decode cX11_undo 33 = .ok (.invokevirtual 95, 3) := by decide +kernel
theorem dX11_undo_36 : decode cX11_undo 36 = .ok (.goto 5, 3) := by decide +kernel
theorem dX11_undo_39 : decode cX11_undo 39 = .ok (.ldc 230, 2) := by decide +kernel
theorem dX11_undo_41 : decode cX11_undo 41 = .ok (.ireturn, 1) := by decide +kernel
theorem dX11_write_0 : decode cX11_write 0 = .ok (.aload_n 0, 1) := by decide +kernel
theorem dX11_write_1 : decode cX11_write 1 = .ok (.getfield 10, 3) := by decide +kernel
theorem dX11_write_4 : decode cX11_write 4 = .ok (.iload_n 1, 1) := by decide +kernel
theorem dX11_write_5 : decode cX11_write 5 = .ok (.invokevirtual 110, 3) := by decide +kernel
theorem dX11_write_8 : decode cX11_write 8 = .ok (.ifnonnull 6, 3) := by decide +kernel
theorem dX11_write_11 : decode cX11_write 11 = .ok (.ldc 114, 2) := by decide +kernel
theorem dX11_write_13 : decode cX11_write 13 = .ok (.ireturn, 1) := by decide +kernel
theorem dX11_write_14 : decode cX11_write 14 = .ok (.aload_n 0, 1) := by decide +kernel
theorem dX11_write_15 : decode cX11_write 15 = .ok (.getfield 26, 3) := by decide +kernel
theorem dX11_write_18 : decode cX11_write 18 = .ok (.iload_n 1, 1) := by decide +kernel
theorem dX11_write_19 : decode cX11_write 19 = .ok (.iload_n 2, 1) := by decide +kernel
theorem dX11_write_20 : decode cX11_write 20 = .ok (.invokevirtual 296, 3) := by decide +kernel
theorem dX11_write_23 : decode cX11_write 23 = .ok (.ifCond .eq 13, 3) := by decide +kernel
theorem dX11_write_26 : decode cX11_write 26 = .ok (.aload_n 0, 1) := by decide +kernel
theorem dX11_write_27 : decode cX11_write 27 = .ok (.getfield 26, 3) := by decide +kernel
theorem dX11_write_30 : decode cX11_write 30 = .ok (.invokevirtual 101, 3) := by decide +kernel
theorem dX11_write_33 : decode cX11_write 33 = .ok (.goto 5, 3) := by decide +kernel
theorem dX11_write_36 : decode cX11_write 36 = .ok (.ldc 74, 2) := by decide +kernel
theorem dX11_write_38 : decode cX11_write 38 = .ok (.ireturn, 1) := by decide +kernel
theorem dX11_tear_0 : decode cX11_tear 0 = .ok (.aload_n 0, 1) := by decide +kernel
theorem dX11_tear_1 : decode cX11_tear 1 = .ok (.getfield 26, 3) := by decide +kernel
theorem dX11_tear_4 : decode cX11_tear 4 = .ok (.invokevirtual 298, 3) := by decide +kernel
theorem dX11_tear_7 : decode cX11_tear 7 = .ok (.ireturn, 1) := by decide +kernel
theorem dX11_seed_0 : decode cX11_seed 0 = .ok (.iload_n 1, 1) := by decide +kernel
theorem dX11_seed_1 : decode cX11_seed 1 = .ok (.ifCond .ge 6, 3) := by decide +kernel
theorem dX11_seed_4 : decode cX11_seed 4 = .ok (.ldc 65, 2) := by decide +kernel
theorem dX11_seed_6 : decode cX11_seed 6 = .ok (.ireturn, 1) := by decide +kernel
theorem dX11_seed_7 : decode cX11_seed 7 = .ok (.aload_n 0, 1) := by decide +kernel
theorem dX11_seed_8 : decode cX11_seed 8 = .ok (.getfield 47, 3) := by decide +kernel
theorem dX11_seed_11 : decode cX11_seed 11 = .ok (.invokevirtual 107, 3) := by decide +kernel
theorem dX11_seed_14 : decode cX11_seed 14 = .ok (.istore_n 2, 1) := by decide +kernel
theorem dX11_seed_15 : decode cX11_seed 15 = .ok (.aload_n 0, 1) := by decide +kernel
theorem dX11_seed_16 : decode cX11_seed 16 = .ok (.getfield 47, 3) := by decide +kernel
theorem dX11_seed_19 : decode cX11_seed 19 = .ok (.iload_n 1, 1) := by decide +kernel
theorem dX11_seed_20 : decode cX11_seed 20 = .ok (.invokevirtual 300, 3) := by decide +kernel
theorem dX11_seed_23 : decode cX11_seed 23 = .ok (.iload_n 2, 1) := by decide +kernel
theorem dX11_seed_24 : decode cX11_seed 24 = .ok (.ireturn, 1) := by decide +kernel
theorem dX11_keep_0 : decode cX11_keep 0 = .ok (.iload_n 1, 1) := by decide +kernel
theorem dX11_keep_1 : decode cX11_keep 1 = .ok (.ifCond .lt 12, 3) := by decide +kernel
theorem dX11_keep_4 : decode cX11_keep 4 = .ok (.iload_n 1, 1) := by decide +kernel
theorem dX11_keep_5 : decode cX11_keep 5 = .ok (.aload_n 0, 1) := by decide +kernel
theorem dX11_keep_6 : decode cX11_keep 6 = .ok (.getfield 40, 3) := by decide +kernel
theorem dX11_keep_9 : decode cX11_keep 9 = .ok (.arraylength, 1) := by decide +kernel
theorem dX11_keep_10 : decode cX11_keep 10 = .ok (.if_icmp .lt 6, 3) := by decide +kernel
theorem dX11_keep_13 : decode cX11_keep 13 = .ok (.ldc 114, 2) := by decide +kernel
theorem dX11_keep_15 : decode cX11_keep 15 = .ok (.ireturn, 1) := by decide +kernel
theorem dX11_keep_16 : decode cX11_keep 16 = .ok (.aload_n 0, 1) := by decide +kernel
theorem dX11_keep_17 : decode cX11_keep 17 = .ok (.getfield 40, 3) := by decide +kernel
theorem dX11_keep_20 : decode cX11_keep 20 = .ok (.iload_n 1, 1) := by decide +kernel
theorem dX11_keep_21 : decode cX11_keep 21 = .ok (.aaload, 1) := by decide +kernel
theorem dX11_keep_22 : decode cX11_keep 22 = .ok (.aload_n 0, 1) := by decide +kernel
theorem dX11_keep_23 : decode cX11_keep 23 = .ok (.getfield 10, 3) := by decide +kernel
theorem dX11_keep_26 : decode cX11_keep 26 = .ok (.aload_n 0, 1) := by decide +kernel
theorem dX11_keep_27 : decode cX11_keep 27 = .ok (.getfield 47, 3) := by decide +kernel
theorem dX11_keep_30 : decode cX11_keep 30 = .ok (.invokevirtual 107, 3) := by decide +kernel
theorem dX11_keep_33 : decode cX11_keep 33 = .ok (.invokevirtual 303, 3) := by decide +kernel
theorem dX11_keep_36 : decode cX11_keep 36 = .ok (.aload_n 0, 1) := by decide +kernel
theorem dX11_keep_37 : decode cX11_keep 37 = .ok (.getfield 33, 3) := by decide +kernel
theorem dX11_keep_40 : decode cX11_keep 40 = .ok (.invokevirtual 307, 3) := by decide +kernel
theorem dX11_keep_43 : decode cX11_keep 43 = .ok (.iconst 1, 1) := by decide +kernel
theorem dX11_keep_44 : decode cX11_keep 44 = .ok (.ireturn, 1) := by decide +kernel
theorem dX11_goBack_0 : decode cX11_goBack 0 = .ok (.iload_n 1, 1) := by decide +kernel
theorem dX11_goBack_1 : decode cX11_goBack 1 = .ok (.ifCond .lt 12, 3) := by decide +kernel
theorem dX11_goBack_4 : decode cX11_goBack 4 = .ok (.iload_n 1, 1) := by decide +kernel
theorem dX11_goBack_5 : decode cX11_goBack 5 = .ok (.aload_n 0, 1) := by decide +kernel
theorem dX11_goBack_6 : decode cX11_goBack 6 = .ok (.getfield 40, 3) := by decide +kernel
theorem dX11_goBack_9 : decode cX11_goBack 9 = .ok (.arraylength, 1) := by decide +kernel
theorem dX11_goBack_10 : decode cX11_goBack 10 = .ok (.if_icmp .lt 6, 3) := by decide +kernel
theorem dX11_goBack_13 : decode cX11_goBack 13 = .ok (.ldc 114, 2) := by decide +kernel
theorem dX11_goBack_15 : decode cX11_goBack 15 = .ok (.ireturn, 1) := by decide +kernel
theorem dX11_goBack_16 : decode cX11_goBack 16 = .ok (.aload_n 0, 1) := by decide +kernel
theorem dX11_goBack_17 : decode cX11_goBack 17 = .ok (.getfield 40, 3) := by decide +kernel
theorem dX11_goBack_20 : decode cX11_goBack 20 = .ok (.iload_n 1, 1) := by decide +kernel
theorem dX11_goBack_21 : decode cX11_goBack 21 = .ok (.aaload, 1) := by decide +kernel
theorem dX11_goBack_22 : decode cX11_goBack 22 = .ok (.invokevirtual 308, 3) := by decide +kernel
theorem dX11_goBack_25 : decode cX11_goBack 25 = .ok (.ifCond .ne 6, 3) := by decide +kernel
theorem dX11_goBack_28 : decode cX11_goBack 28 = .ok (.ldc 230, 2) := by decide +kernel
theorem dX11_goBack_30 : decode cX11_goBack 30 = .ok (.ireturn, 1) := by decide +kernel
theorem dX11_goBack_31 : decode cX11_goBack 31 = .ok (.aload_n 0, 1) := by decide +kernel
theorem dX11_goBack_32 : decode cX11_goBack 32 = .ok (.getfield 10, 3) := by decide +kernel
theorem dX11_goBack_35 : decode cX11_goBack 35 = .ok (.aload_n 0, 1) := by decide +kernel
theorem dX11_goBack_36 : decode cX11_goBack 36 = .ok (.getfield 40, 3) := by decide +kernel
theorem dX11_goBack_39 : decode cX11_goBack 39 = .ok (.iload_n 1, 1) := by decide +kernel
theorem dX11_goBack_40 : decode cX11_goBack 40 = .ok (.aaload, 1) := by decide +kernel
theorem dX11_goBack_41 : decode cX11_goBack 41 = .ok (.invokevirtual 311, 3) := by decide +kernel
theorem dX11_goBack_44 : decode cX11_goBack 44 = .ok (.invokevirtual 314, 3) := by decide +kernel
theorem dX11_goBack_47 : decode cX11_goBack 47 = .ok (.aload_n 0, 1) := by decide +kernel
theorem dX11_goBack_48 : decode cX11_goBack 48 = .ok (.getfield 47, 3) := by decide +kernel
theorem dX11_goBack_51 : decode cX11_goBack 51 = .ok (.aload_n 0, 1) := by decide +kernel
theorem dX11_goBack_52 : decode cX11_goBack 52 = .ok (.getfield 40, 3) := by decide +kernel
theorem dX11_goBack_55 : decode cX11_goBack 55 = .ok (.iload_n 1, 1) := by decide +kernel
theorem dX11_goBack_56 : decode cX11_goBack 56 = .ok (.aaload, 1) := by decide +kernel
theorem dX11_goBack_57 : decode cX11_goBack 57 = .ok (.invokevirtual 317, 3) := by decide +kernel
theorem dX11_goBack_60 : decode cX11_goBack 60 = .ok (.invokevirtual 300, 3) := by decide +kernel
theorem dX11_goBack_63 : decode cX11_goBack 63 = .ok (.aload_n 0, 1) := by decide +kernel
theorem dX11_goBack_64 : decode cX11_goBack 64 = .ok (.getfield 33, 3) := by decide +kernel
theorem dX11_goBack_67 : decode cX11_goBack 67 = .ok (.invokevirtual 307, 3) := by decide +kernel
theorem dX11_goBack_70 : decode cX11_goBack 70 = .ok (.iconst 1, 1) := by decide +kernel
theorem dX11_goBack_71 : decode cX11_goBack 71 = .ok (.ireturn, 1) := by decide +kernel
theorem dX11_comesAsWord_0 : decode cX11_comesAsWord 0 = .ok (.aload_n 0, 1) := by decide +kernel
theorem dX11_comesAsWord_1 : decode cX11_comesAsWord 1 = .ok (.getfield 33, 3) := by decide +kernel
theorem dX11_comesAsWord_4 : decode cX11_comesAsWord 4 = .ok (.aload_n 0, 1) := by decide +kernel
theorem dX11_comesAsWord_5 : decode cX11_comesAsWord 5 = .ok (.getfield 10, 3) := by decide +kernel
theorem dX11_comesAsWord_8 : decode cX11_comesAsWord 8 = .ok (.invokevirtual 281, 3) := by decide +kernel
theorem dX11_comesAsWord_11 : decode cX11_comesAsWord 11 = .ok (.aload_n 0, 1) := by decide +kernel
theorem dX11_comesAsWord_12 : decode cX11_comesAsWord 12 = .ok (.getfield 10, 3) := by decide +kernel
theorem dX11_comesAsWord_15 : decode cX11_comesAsWord 15 = .ok (.new 116, 3) := by decide +kernel
theorem dX11_comesAsWord_18 : decode cX11_comesAsWord 18 = .ok (.dup, 1) := by decide +kernel
theorem dX11_comesAsWord_19 : decode cX11_comesAsWord 19 = .ok (.new 122, 3) := by decide +kernel
theorem dX11_comesAsWord_22 : decode cX11_comesAsWord 22 = .ok (.dup, 1) := by decide +kernel
theorem dX11_comesAsWord_23 : decode cX11_comesAsWord 23 = .ok (.aload_n 0, 1) := by decide +kernel
theorem dX11_comesAsWord_24 : decode cX11_comesAsWord 24 = .ok (.getfield 54, 3) := by decide +kernel
theorem dX11_comesAsWord_27 : decode cX11_comesAsWord 27 = .ok (.invokespecial 320, 3) := by decide +kernel
theorem dX11_comesAsWord_30 : decode cX11_comesAsWord 30 = .ok (.iconst 0, 1) := by decide +kernel
theorem dX11_comesAsWord_31 : decode cX11_comesAsWord 31 = .ok (.invokespecial 223, 3) := by decide +kernel
theorem dX11_comesAsWord_34 : decode cX11_comesAsWord 34 = .ok (.invokevirtual 322, 3) := by decide +kernel
theorem dX11_comesAsWord_37 : decode cX11_comesAsWord 37 = .ok (.aload_n 0, 1) := by decide +kernel
theorem dX11_comesAsWord_38 : decode cX11_comesAsWord 38 = .ok (.getfield 10, 3) := by decide +kernel
theorem dX11_comesAsWord_41 : decode cX11_comesAsWord 41 = .ok (.invokevirtual 95, 3) := by decide +kernel
theorem dX11_comesAsWord_44 : decode cX11_comesAsWord 44 = .ok (.iconst 1, 1) := by decide +kernel
theorem dX11_comesAsWord_45 : decode cX11_comesAsWord 45 = .ok (.isub, 1) := by decide +kernel
theorem dX11_comesAsWord_46 : decode cX11_comesAsWord 46 = .ok (.ireturn, 1) := by decide +kernel
theorem dX11_becomesDraft_0 : decode cX11_becomesDraft 0 = .ok (.new 122, 3) := by decide +kernel
theorem dX11_becomesDraft_3 : decode cX11_becomesDraft 3 = .ok (.dup, 1) := by decide +kernel
theorem dX11_becomesDraft_4 : decode cX11_becomesDraft 4 = .ok (.aload_n 0, 1) := by decide +kernel
theorem dX11_becomesDraft_5 : decode cX11_becomesDraft 5 = .ok (.getfield 54, 3) := by decide +kernel
theorem dX11_becomesDraft_8 : decode cX11_becomesDraft 8 = .ok (.invokespecial 320, 3) := by decide +kernel
theorem dX11_becomesDraft_11 : decode cX11_becomesDraft 11 = .ok (.astore_n 2, 1) := by decide +kernel
theorem dX11_becomesDraft_12 : decode cX11_becomesDraft 12 = .ok (.aload_n 0, 1) := by decide +kernel
theorem dX11_becomesDraft_13 : decode cX11_becomesDraft 13 = .ok (.iload_n 1, 1) := by decide +kernel
theorem dX11_becomesDraft_14 : decode cX11_becomesDraft 14 = .ok (.new 116, 3) := by decide +kernel
theorem dX11_becomesDraft_17 : decode cX11_becomesDraft 17 = .ok (.dup, 1) := by decide +kernel
theorem dX11_becomesDraft_18 : decode cX11_becomesDraft 18 = .ok (.aload_n 2, 1) := by decide +kernel
theorem dX11_becomesDraft_19 : decode cX11_becomesDraft 19 = .ok (.iconst 0, 1) := by decide +kernel
theorem dX11_becomesDraft_20 : decode cX11_becomesDraft 20 = .ok (.invokespecial 223, 3) := by decide +kernel
theorem dX11_becomesDraft_23 : decode cX11_becomesDraft 23 = .ok (.invokevirtual 226, 3) := by decide +kernel
theorem dX11_becomesDraft_26 : decode cX11_becomesDraft 26 = .ok (.aload_n 2, 1) := by decide +kernel
theorem dX11_becomesDraft_27 : decode cX11_becomesDraft 27 = .ok (.areturn, 1) := by decide +kernel
theorem dX11_becomes_0 : decode cX11_becomes 0 = .ok (.aload_n 0, 1) := by decide +kernel
theorem dX11_becomes_1 : decode cX11_becomes 1 = .ok (.getfield 33, 3) := by decide +kernel
theorem dX11_becomes_4 : decode cX11_becomes 4 = .ok (.aload_n 0, 1) := by decide +kernel
theorem dX11_becomes_5 : decode cX11_becomes 5 = .ok (.getfield 10, 3) := by decide +kernel
theorem dX11_becomes_8 : decode cX11_becomes 8 = .ok (.invokevirtual 281, 3) := by decide +kernel
theorem dX11_becomes_11 : decode cX11_becomes 11 = .ok (.aload_n 0, 1) := by decide +kernel
theorem dX11_becomes_12 : decode cX11_becomes 12 = .ok (.getfield 10, 3) := by decide +kernel
theorem dX11_becomes_15 : decode cX11_becomes 15 = .ok (.iload_n 1, 1) := by decide +kernel
theorem dX11_becomes_16 : decode cX11_becomes 16 = .ok (.aload_n 2, 1) := by decide +kernel
theorem dX11_becomes_17 : decode cX11_becomes 17 = .ok (.invokevirtual 326, 3) := by decide +kernel
theorem dX11_becomes_20 : decode cX11_becomes 20 = .ok (.return_, 1) := by decide +kernel
theorem dX11_isIn_0 : decode cX11_isIn 0 = .ok (.iload_n 0, 1) := by decide +kernel
theorem dX11_isIn_1 : decode cX11_isIn 1 = .ok (.iload_n 1, 1) := by decide +kernel
theorem dX11_isIn_2 : decode cX11_isIn 2 = .ok (.ishr, 1) := by decide +kernel
theorem dX11_isIn_3 : decode cX11_isIn 3 = .ok (.iconst 1, 1) := by decide +kernel
theorem dX11_isIn_4 : decode cX11_isIn 4 = .ok (.iand, 1) := by decide +kernel
theorem dX11_isIn_5 : decode cX11_isIn 5 = .ok (.iconst 1, 1) := by decide +kernel
theorem dX11_isIn_6 : decode cX11_isIn 6 = .ok (.if_icmp .ne 7, 3) := by decide +kernel
theorem dX11_isIn_9 : decode cX11_isIn 9 = .ok (.iconst 1, 1) := by decide +kernel
theorem dX11_isIn_10 : decode cX11_isIn 10 = .ok (.goto 4, 3) := by decide +kernel
theorem dX11_isIn_13 : decode cX11_isIn 13 = .ok (.iconst 0, 1) := by decide +kernel
theorem dX11_isIn_14 : decode cX11_isIn 14 = .ok (.ireturn, 1) := by decide +kernel
theorem dX11_isEven_0 : decode cX11_isEven 0 = .ok (.iload_n 0, 1) := by decide +kernel
theorem dX11_isEven_1 : decode cX11_isEven 1 = .ok (.iconst 1, 1) := by decide +kernel
theorem dX11_isEven_2 : decode cX11_isEven 2 = .ok (.iand, 1) := by decide +kernel
theorem dX11_isEven_3 : decode cX11_isEven 3 = .ok (.ifCond .ne 7, 3) := by decide +kernel
theorem dX11_isEven_6 : decode cX11_isEven 6 = .ok (.iconst 1, 1) := by decide +kernel
theorem dX11_isEven_7 : decode cX11_isEven 7 = .ok (.goto 4, 3) := by decide +kernel
theorem dX11_isEven_10 : decode cX11_isEven 10 = .ok (.iconst 0, 1) := by decide +kernel
theorem dX11_isEven_11 : decode cX11_isEven 11 = .ok (.ireturn, 1) := by decide +kernel
theorem dX12_init_0 : decode cX12_init 0 = .ok (.aload_n 0, 1) := by decide +kernel
theorem dX12_init_1 : decode cX12_init 1 = .ok (.invokespecial 1, 3) := by decide +kernel
theorem dX12_init_4 : decode cX12_init 4 = .ok (.aload_n 0, 1) := by decide +kernel
theorem dX12_init_5 : decode cX12_init 5 = .ok (.sipush 2071, 3) := by decide +kernel
theorem dX12_init_8 : decode cX12_init 8 = .ok (.newarray .int, 2) := by decide +kernel
theorem dX12_init_10 : decode cX12_init 10 = .ok (.putfield 7, 3) := by decide +kernel
theorem dX12_init_13 : decode cX12_init 13 = .ok (.aload_n 0, 1) := by decide +kernel
theorem dX12_init_14 : decode cX12_init 14 = .ok (.iconst 2, 1) := by decide +kernel
theorem dX12_init_15 : decode cX12_init 15 = .ok (.newarray .int, 2) := by decide +kernel
theorem dX12_init_17 : decode cX12_init 17 = .ok (.putfield 13, 3) := by decide +kernel
theorem dX12_init_20 : decode cX12_init 20 = .ok (.aload_n 0, 1) := by decide +kernel
theorem dX12_init_21 : decode cX12_init 21 = .ok (.iconst 2, 1) := by decide +kernel
theorem dX12_init_22 : decode cX12_init 22 = .ok (.newarray .boolean, 2) := by decide +kernel
theorem dX12_init_24 : decode cX12_init 24 = .ok (.putfield 16, 3) := by decide +kernel
theorem dX12_init_27 : decode cX12_init 27 = .ok (.aload_n 0, 1) := by decide +kernel
theorem dX12_init_28 : decode cX12_init 28 = .ok (.bipush 20, 2) := by decide +kernel
theorem dX12_init_30 : decode cX12_init 30 = .ok (.newarray .int, 2) := by decide +kernel
theorem dX12_init_32 : decode cX12_init 32 = .ok (.putfield 20, 3) := by decide +kernel
theorem dX12_init_35 : decode cX12_init 35 = .ok (.aload_n 0, 1) := by decide +kernel
theorem dX12_init_36 : decode cX12_init 36 = .ok (.iconst (-1), 1) := by decide +kernel
theorem dX12_init_37 : decode cX12_init 37 = .ok (.putfield 23, 3) := by decide +kernel
theorem dX12_init_40 : decode cX12_init 40 = .ok (.aload_n 0, 1) := by decide +kernel
theorem dX12_init_41 : decode cX12_init 41 = .ok (.bipush 20, 2) := by decide +kernel
theorem dX12_init_43 : decode cX12_init 43 = .ok (.newarray .int, 2) := by decide +kernel
theorem dX12_init_45 : decode cX12_init 45 = .ok (.putfield 27, 3) := by decide +kernel
theorem dX12_init_48 : decode cX12_init 48 = .ok (.aload_n 0, 1) := by decide +kernel
theorem dX12_init_49 : decode cX12_init 49 = .ok (.bipush 20, 2) := by decide +kernel
theorem dX12_init_51 : decode cX12_init 51 = .ok (.newarray .int, 2) := by decide +kernel
theorem dX12_init_53 : decode cX12_init 53 = .ok (.putfield 30, 3) := by decide +kernel
theorem dX12_init_56 : decode cX12_init 56 = .ok (.aload_n 0, 1) := by decide +kernel
theorem dX12_init_57 : decode cX12_init 57 = .ok (.bipush 32, 2) := by decide +kernel
theorem dX12_init_59 : decode cX12_init 59 = .ok (.newarray .int, 2) := by decide +kernel
theorem dX12_init_61 : decode cX12_init 61 = .ok (.putfield 33, 3) := by decide +kernel
theorem dX12_init_64 : decode cX12_init 64 = .ok (.aload_n 0, 1) := by decide +kernel
theorem dX12_init_65 : decode cX12_init 65 = .ok (.bipush 32, 2) := by decide +kernel
theorem dX12_init_67 : decode cX12_init 67 = .ok (.newarray .int, 2) := by decide +kernel
theorem dX12_init_69 : decode cX12_init 69 = .ok (.putfield 36, 3) := by decide +kernel
theorem dX12_init_72 : decode cX12_init 72 = .ok (.aload_n 0, 1) := by decide +kernel
theorem dX12_init_73 : decode cX12_init 73 = .ok (.bipush 10, 2) := by decide +kernel
theorem dX12_init_75 : decode cX12_init 75 = .ok (.newarray .int, 2) := by decide +kernel
theorem dX12_init_77 : decode cX12_init 77 = .ok (.putfield 39, 3) := by decide +kernel
theorem dX12_init_80 : decode cX12_init 80 = .ok (.aload_n 0, 1) := by decide +kernel
theorem dX12_init_81 : decode cX12_init 81 = .ok (.bipush 10, 2) := by decide +kernel
theorem dX12_init_83 : decode cX12_init 83 = .ok (.newarray .boolean, 2) := by decide +kernel
theorem dX12_init_85 : decode cX12_init 85 = .ok (.putfield 42, 3) := by decide +kernel
theorem dX12_init_88 : decode cX12_init 88 = .ok (.aload_n 0, 1) := by decide +kernel
theorem dX12_init_89 : decode cX12_init 89 = .ok (.bipush 10, 2) := by decide +kernel
theorem dX12_init_91 : decode cX12_init 91 = .ok (.newarray .int, 2) := by decide +kernel
theorem dX12_init_93 : decode cX12_init 93 = .ok (.putfield 45, 3) := by decide +kernel
theorem dX12_init_96 : decode cX12_init 96 = .ok (.return_, 1) := by decide +kernel
theorem dX12_in_0 : decode cX12_in 0 = .ok (.lload_n 0, 1) := by decide +kernel
theorem dX12_in_1 : decode cX12_in 1 = .ok (.lload_n 2, 1) := by decide +kernel
theorem dX12_in_2 : decode cX12_in 2 = .ok (.lcmp, 1) := by decide +kernel
theorem dX12_in_3 : decode cX12_in 3 = .ok (.ifCond .lt 14, 3) := by decide +kernel
theorem dX12_in_6 : decode cX12_in 6 = .ok (.lload_n 0, 1) := by decide +kernel
theorem dX12_in_7 : decode cX12_in 7 = .ok (.lload 4, 2) := by decide +kernel
theorem dX12_in_9 : decode cX12_in 9 = .ok (.lcmp, 1) := by decide +kernel
theorem dX12_in_10 : decode cX12_in 10 = .ok (.ifCond .gt 7, 3) := by decide +kernel
theorem dX12_in_13 : decode cX12_in 13 = .ok (.iconst 1, 1) := by decide +kernel
theorem dX12_in_14 : decode cX12_in 14 = .ok (.goto 4, 3) := by decide +kernel
theorem dX12_in_17 : decode cX12_in 17 = .ok (.iconst 0, 1) := by decide +kernel
theorem dX12_in_18 : decode cX12_in 18 = .ok (.ireturn, 1) := by decide +kernel
theorem dX12_has_0 : decode cX12_has 0 = .ok (.iload_n 0, 1) := by decide +kernel
theorem dX12_has_1 : decode cX12_has 1 = .ok (.iload_n 1, 1) := by decide +kernel
theorem dX12_has_2 : decode cX12_has 2 = .ok (.ishr, 1) := by decide +kernel
theorem dX12_has_3 : decode cX12_has 3 = .ok (.iconst 1, 1) := by decide +kernel
theorem dX12_has_4 : decode cX12_has 4 = .ok (.iand, 1) := by decide +kernel
theorem dX12_has_5 : decode cX12_has 5 = .ok (.iconst 1, 1) := by decide +kernel
theorem dX12_has_6 : decode cX12_has 6 = .ok (.if_icmp .ne 7, 3) := by decide +kernel
theorem dX12_has_9 : decode cX12_has 9 = .ok (.iconst 1, 1) := by decide +kernel
theorem dX12_has_10 : decode cX12_has 10 = .ok (.goto 4, 3) := by decide +kernel
theorem dX12_has_13 : decode cX12_has 13 = .ok (.iconst 0, 1) := by decide +kernel
theorem dX12_has_14 : decode cX12_has 14 = .ok (.ireturn, 1) := by decide +kernel
theorem dX12_ones_0 : decode cX12_ones 0 = .ok (.iconst 0, 1) := by decide +kernel
theorem dX12_ones_1 : decode cX12_ones 1 = .ok (.istore_n 1, 1) := by decide +kernel
theorem dX12_ones_2 : decode cX12_ones 2 = .ok (.iconst 0, 1) := by decide +kernel
theorem dX12_ones_3 : decode cX12_ones 3 = .ok (.istore_n 2, 1) := by decide +kernel
theorem dX12_ones_4 : decode cX12_ones 4 = .ok (.iload_n 2, 1) := by decide +kernel
theorem dX12_ones_5 : decode cX12_ones 5 = .ok (.bipush 16, 2) := by decide +kernel
theorem dX12_ones_7 : decode cX12_ones 7 = .ok (.if_icmp .ge 17, 3) := by decide +kernel
theorem dX12_ones_10 : decode cX12_ones 10 = .ok (.iload_n 1, 1) := by decide +kernel
theorem dX12_ones_11 : decode cX12_ones 11 = .ok (.iload_n 0, 1) := by decide +kernel
theorem dX12_ones_12 : decode cX12_ones 12 = .ok (.iload_n 2, 1) := by decide +kernel
theorem dX12_ones_13 : decode cX12_ones 13 = .ok (.ishr, 1) := by decide +kernel
theorem dX12_ones_14 : decode cX12_ones 14 = .ok (.iconst 1, 1) := by decide +kernel
theorem dX12_ones_15 : decode cX12_ones 15 = .ok (.iand, 1) := by decide +kernel
theorem dX12_ones_16 : decode cX12_ones 16 = .ok (.iadd, 1) := by decide +kernel
theorem dX12_ones_17 : decode cX12_ones 17 = .ok (.istore_n 1, 1) := by decide +kernel
theorem dX12_ones_18 : decode cX12_ones 18 = .ok (.iinc 2 1, 3) := by decide +kernel
theorem dX12_ones_21 : decode cX12_ones 21 = .ok (.goto (-17), 3) := by decide +kernel
theorem dX12_ones_24 : decode cX12_ones 24 = .ok (.iload_n 1, 1) := by decide +kernel
theorem dX12_ones_25 : decode cX12_ones 25 = .ok (.ireturn, 1) := by decide +kernel
theorem dX12_copy_0 : decode cX12_copy 0 = .ok (.iconst 0, 1) := by decide +kernel
theorem dX12_copy_1 : decode cX12_copy 1 = .ok (.istore_n 3, 1) := by decide +kernel
theorem dX12_copy_2 : decode cX12_copy 2 = .ok (.iload_n 3, 1) := by decide +kernel
theorem dX12_copy_3 : decode cX12_copy 3 = .ok (.bipush 109, 2) := by decide +kernel
theorem dX12_copy_5 : decode cX12_copy 5 = .ok (.if_icmp .ge 25, 3) := by decide +kernel
theorem dX12_copy_8 : decode cX12_copy 8 = .ok (.aload_n 0, 1) := by decide +kernel
theorem dX12_copy_9 : decode cX12_copy 9 = .ok (.getfield 7, 3) := by decide +kernel
theorem dX12_copy_12 : decode cX12_copy 12 = .ok (.iload_n 2, 1) := by decide +kernel
theorem dX12_copy_13 : decode cX12_copy 13 = .ok (.iload_n 3, 1) := by decide +kernel
theorem dX12_copy_14 : decode cX12_copy 14 = .ok (.iadd, 1) := by decide +kernel
theorem dX12_copy_15 : decode cX12_copy 15 = .ok (.aload_n 0, 1) := by decide +kernel
theorem dX12_copy_16 : decode cX12_copy 16 = .ok (.getfield 7, 3) := by decide +kernel
theorem dX12_copy_19 : decode cX12_copy 19 = .ok (.iload_n 1, 1) := by decide +kernel
theorem dX12_copy_20 : decode cX12_copy 20 = .ok (.iload_n 3, 1) := by decide +kernel
theorem dX12_copy_21 : decode cX12_copy 21 = .ok (.iadd, 1) := by decide +kernel
theorem dX12_copy_22 : decode cX12_copy 22 = .ok (.iaload, 1) := by decide +kernel
theorem dX12_copy_23 : decode cX12_copy 23 = .ok (.iastore, 1) := by decide +kernel
theorem dX12_copy_24 : decode cX12_copy 24 = .ok (.iinc 3 1, 3) := by decide +kernel
theorem dX12_copy_27 : decode cX12_copy 27 = .ok (.goto (-25), 3) := by decide +kernel
theorem dX12_copy_30 : decode cX12_copy 30 = .ok (.return_, 1) := by decide +kernel
theorem dX12_minds_0 : decode cX12_minds 0 = .ok (.aload_n 0, 1) := by decide +kernel
theorem dX12_minds_1 : decode cX12_minds 1 = .ok (.getfield 48, 3) := by decide +kernel
theorem dX12_minds_4 : decode cX12_minds 4 = .ok (.bipush 16, 2) := by decide +kernel
theorem dX12_minds_6 : decode cX12_minds 6 = .ok (.if_icmp .ne 48, 3) := by decide +kernel
theorem dX12_minds_9 : decode cX12_minds 9 = .ok (.iconst 0, 1) := by decide +kernel
theorem dX12_minds_10 : decode cX12_minds 10 = .ok (.istore_n 1, 1) := by decide +kernel
theorem dX12_minds_11 : decode cX12_minds 11 = .ok (.iload_n 1, 1) := by decide +kernel
theorem dX12_minds_12 : decode cX12_minds 12 = .ok (.sipush 1635, 3) := by decide +kernel
theorem dX12_minds_15 : decode cX12_minds 15 = .ok (.if_icmp .ge 29, 3) := by decide +kernel
theorem dX12_minds_18 : decode cX12_minds 18 = .ok (.aload_n 0, 1) := by decide +kernel
theorem dX12_minds_19 : decode cX12_minds 19 = .ok (.getfield 7, 3) := by decide +kernel
theorem dX12_minds_22 : decode cX12_minds 22 = .ok (.sipush 327, 3) := by decide +kernel
theorem dX12_minds_25 : decode cX12_minds 25 = .ok (.iload_n 1, 1) := by decide +kernel
theorem dX12_minds_26 : decode cX12_minds 26 = .ok (.iadd, 1) := by decide +kernel
theorem dX12_minds_27 : decode cX12_minds 27 = .ok (.aload_n 0, 1) := by decide +kernel
theorem dX12_minds_28 : decode cX12_minds 28 = .ok (.getfield 7, 3) := by decide +kernel
theorem dX12_minds_31 : decode cX12_minds 31 = .ok (.sipush 436, 3) := by decide +kernel
theorem dX12_minds_34 : decode cX12_minds 34 = .ok (.iload_n 1, 1) := by decide +kernel
theorem dX12_minds_35 : decode cX12_minds 35 = .ok (.iadd, 1) := by decide +kernel
theorem dX12_minds_36 : decode cX12_minds 36 = .ok (.iaload, 1) := by decide +kernel
theorem dX12_minds_37 : decode cX12_minds 37 = .ok (.iastore, 1) := by decide +kernel
theorem dX12_minds_38 : decode cX12_minds 38 = .ok (.iinc 1 1, 3) := by decide +kernel
theorem dX12_minds_41 : decode cX12_minds 41 = .ok (.goto (-30), 3) := by decide +kernel
theorem dX12_minds_44 : decode cX12_minds 44 = .ok (.aload_n 0, 1) := by decide +kernel
theorem dX12_minds_45 : decode cX12_minds 45 = .ok (.dup, 1) := by decide +kernel
theorem dX12_minds_46 : decode cX12_minds 46 = .ok (.getfield 48, 3) := by decide +kernel
theorem dX12_minds_49 : decode cX12_minds 49 = .ok (.iconst 1, 1) := by decide +kernel
theorem dX12_minds_50 : decode cX12_minds 50 = .ok (.isub, 1) := by decide +kernel
theorem dX12_minds_51 : decode cX12_minds 51 = .ok (.putfield 48, 3) := by decide +kernel
theorem dX12_minds_54 : decode cX12_minds 54 = .ok (.aload_n 0, 1) := by decide +kernel
theorem dX12_minds_55 : decode cX12_minds 55 = .ok (.iconst 0, 1) := by decide +kernel
theorem dX12_minds_56 : decode cX12_minds 56 = .ok (.sipush 327, 3) := by decide +kernel
theorem dX12_minds_59 : decode cX12_minds 59 = .ok (.bipush 109, 2) := by decide +kernel
theorem dX12_minds_61 : decode cX12_minds 61 = .ok (.aload_n 0, 1) := by decide +kernel
theorem dX12_minds_62 : decode cX12_minds 62 = .ok (.getfield 48, 3) := by decide +kernel
theorem dX12_minds_65 : decode cX12_minds 65 = .ok (.imul, 1) := by decide +kernel
theorem dX12_minds_66 : decode cX12_minds 66 = .ok (.iadd, 1) := by decide +kernel
theorem dX12_minds_67 : decode cX12_minds 67 = .ok (.invokevirtual 51, 3) := by decide +kernel
theorem dX12_minds_70 : decode cX12_minds 70 = .ok (.aload_n 0, 1) := by decide +kernel
theorem dX12_minds_71 : decode cX12_minds 71 = .ok (.dup, 1) := by decide +kernel
theorem dX12_minds_72 : decode cX12_minds 72 = .ok (.getfield 48, 3) := by decide +kernel
theorem dX12_minds_75 : decode cX12_minds 75 = .ok (.iconst 1, 1) := by decide +kernel
theorem dX12_minds_76 : decode cX12_minds 76 = .ok (.iadd, 1) := by decide +kernel
theorem dX12_minds_77 : decode cX12_minds 77 = .ok (.putfield 48, 3) := by decide +kernel
theorem dX12_minds_80 : decode cX12_minds 80 = .ok (.return_, 1) := by decide +kernel
theorem dX12_isWord_0 : decode cX12_isWord 0 = .ok (.iload_n 1, 1) := by decide +kernel
theorem dX12_isWord_1 : decode cX12_isWord 1 = .ok (.i2l, 1) := by decide +kernel
theorem dX12_isWord_2 : decode cX12_isWord 2 = .ok (.lconst 0, 1) := by decide +kernel
theorem dX12_isWord_3 : decode cX12_isWord 3 = .ok (.aload_n 0, 1) := by decide +kernel
theorem dX12_isWord_4 : decode cX12_isWord 4 = .ok (.getfield 7, 3) := by decide +kernel
theorem dX12_isWord_7 : decode cX12_isWord 7 = .ok (.iconst 0, 1) := by decide +kernel
theorem dX12_isWord_8 : decode cX12_isWord 8 = .ok (.iaload, 1) := by decide +kernel
theorem dX12_isWord_9 : decode cX12_isWord 9 = .ok (.iconst 1, 1) := by decide +kernel
theorem dX12_isWord_10 : decode cX12_isWord 10 = .ok (.isub, 1) := by decide +kernel
theorem dX12_isWord_11 : decode cX12_isWord 11 = .ok (.i2l, 1) := by decide +kernel
theorem dX12_isWord_12 : decode cX12_isWord 12 = .ok (.invokestatic 55, 3) := by decide +kernel
theorem dX12_isWord_15 : decode cX12_isWord 15 = .ok (.ireturn, 1) := by decide +kernel
theorem dX12_size_0 : decode cX12_size 0 = .ok (.aload_n 0, 1) := by decide +kernel
theorem dX12_size_1 : decode cX12_size 1 = .ok (.getfield 7, 3) := by decide +kernel
theorem dX12_size_4 : decode cX12_size 4 = .ok (.iconst 1, 1) := by decide +kernel
theorem dX12_size_5 : decode cX12_size 5 = .ok (.bipush 18, 2) := by decide +kernel
theorem dX12_size_7 : decode cX12_size 7 = .ok (.iload_n 1, 1) := by decide +kernel
theorem dX12_size_8 : decode cX12_size 8 = .ok (.imul, 1) := by decide +kernel
theorem dX12_size_9 : decode cX12_size 9 = .ok (.iadd, 1) := by decide +kernel
theorem dX12_size_10 : decode cX12_size 10 = .ok (.iaload, 1) := by decide +kernel
theorem dX12_size_11 : decode cX12_size 11 = .ok (.ireturn, 1) := by decide +kernel
theorem dX12_signsOf_0 : decode cX12_signsOf 0 = .ok (.aload_n 0, 1) := by decide +kernel
theorem dX12_signsOf_1 : decode cX12_signsOf 1 = .ok (.getfield 7, 3) := by decide +kernel
theorem dX12_signsOf_4 : decode cX12_signsOf 4 = .ok (.iconst 1, 1) := by decide +kernel
theorem dX12_signsOf_5 : decode cX12_signsOf 5 = .ok (.bipush 18, 2) := by decide +kernel
theorem dX12_signsOf_7 : decode cX12_signsOf 7 = .ok (.iload_n 1, 1) := by decide +kernel
theorem dX12_signsOf_8 : decode cX12_signsOf 8 = .ok (.imul, 1) := by decide +kernel
theorem dX12_signsOf_9 : decode cX12_signsOf 9 = .ok (.iadd, 1) := by decide +kernel
theorem dX12_signsOf_10 : decode cX12_signsOf 10 = .ok (.iconst 1, 1) := by decide +kernel
theorem dX12_signsOf_11 : decode cX12_signsOf 11 = .ok (.iadd, 1) := by decide +kernel
theorem dX12_signsOf_12 : decode cX12_signsOf 12 = .ok (.iaload, 1) := by decide +kernel
theorem dX12_signsOf_13 : decode cX12_signsOf 13 = .ok (.ireturn, 1) := by decide +kernel
theorem dX12_letterAt_0 : decode cX12_letterAt 0 = .ok (.aload_n 0, 1) := by decide +kernel
theorem dX12_letterAt_1 : decode cX12_letterAt 1 = .ok (.getfield 7, 3) := by decide +kernel
theorem dX12_letterAt_4 : decode cX12_letterAt 4 = .ok (.iconst 1, 1) := by decide +kernel
theorem dX12_letterAt_5 : decode cX12_letterAt 5 = .ok (.bipush 18, 2) := by decide +kernel
theorem dX12_letterAt_7 : decode cX12_letterAt 7 = .ok (.iload_n 1, 1) := by decide +kernel
theorem dX12_letterAt_8 : decode cX12_letterAt 8 = .ok (.imul, 1) := by decide +kernel
theorem dX12_letterAt_9 : decode cX12_letterAt 9 = .ok (.iadd, 1) := by decide +kernel
theorem dX12_letterAt_10 : decode cX12_letterAt 10 = .ok (.iconst 2, 1) := by decide +kernel
theorem dX12_letterAt_11 : decode cX12_letterAt 11 = .ok (.iadd, 1) := by decide +kernel
theorem dX12_letterAt_12 : decode cX12_letterAt 12 = .ok (.iload_n 2, 1) := by decide +kernel
theorem dX12_letterAt_13 : decode cX12_letterAt 13 = .ok (.iadd, 1) := by decide +kernel
theorem dX12_letterAt_14 : decode cX12_letterAt 14 = .ok (.iaload, 1) := by decide +kernel
theorem dX12_letterAt_15 : decode cX12_letterAt 15 = .ok (.ireturn, 1) := by decide +kernel
theorem dX12_isLetter_0 : decode cX12_isLetter 0 = .ok (.iload_n 2, 1) := by decide +kernel
theorem dX12_isLetter_1 : decode cX12_isLetter 1 = .ok (.i2l, 1) := by decide +kernel
theorem dX12_isLetter_2 : decode cX12_isLetter 2 = .ok (.lconst 0, 1) := by decide +kernel
theorem dX12_isLetter_3 : decode cX12_isLetter 3 = .ok (.aload_n 0, 1) := by decide +kernel
theorem dX12_isLetter_4 : decode cX12_isLetter 4 = .ok (.iload_n 1, 1) := by decide +kernel
theorem dX12_isLetter_5 : decode cX12_isLetter 5 = .ok (.invokevirtual 59, 3) := by decide +kernel
theorem dX12_isLetter_8 : decode cX12_isLetter 8 = .ok (.iconst 1, 1) := by decide +kernel
theorem dX12_isLetter_9 : decode cX12_isLetter 9 = .ok (.isub, 1) := by decide +kernel
theorem dX12_isLetter_10 : decode cX12_isLetter 10 = .ok (.i2l, 1) := by decide +kernel
theorem dX12_isLetter_11 : decode cX12_isLetter 11 = .ok (.invokestatic 55, 3) := by decide +kernel
theorem dX12_isLetter_14 : decode cX12_isLetter 14 = .ok (.ireturn, 1) := by decide +kernel
theorem dX12_isStep_0 : decode cX12_isStep 0 = .ok (.iload_n 2, 1) := by decide +kernel
theorem dX12_isStep_1 : decode cX12_isStep 1 = .ok (.i2l, 1) := by decide +kernel
theorem dX12_isStep_2 : decode cX12_isStep 2 = .ok (.lconst 0, 1) := by decide +kernel
theorem dX12_isStep_3 : decode cX12_isStep 3 = .ok (.aload_n 0, 1) := by decide +kernel
theorem dX12_isStep_4 : decode cX12_isStep 4 = .ok (.iload_n 1, 1) := by decide +kernel
theorem dX12_isStep_5 : decode cX12_isStep 5 = .ok (.invokevirtual 59, 3) := by decide +kernel
theorem dX12_isStep_8 : decode cX12_isStep 8 = .ok (.ifCond .ne 7, 3) := by decide +kernel
theorem dX12_isStep_11 : decode cX12_isStep 11 = .ok (.lconst 0, 1) := by decide +kernel
theorem dX12_isStep_12 : decode cX12_isStep 12 = .ok (.goto 13, 3) := by decide +kernel
theorem dX12_isStep_15 : decode cX12_isStep 15 = .ok (.iconst 2, 1) := by decide +kernel
theorem dX12_isStep_16 : decode cX12_isStep 16 = .ok (.aload_n 0, 1) := by decide +kernel
theorem dX12_isStep_17 : decode cX12_isStep 17 = .ok (.iload_n 1, 1) := by decide +kernel
theorem dX12_isStep_18 : decode cX12_isStep 18 = .ok (.invokevirtual 59, 3) := by decide +kernel
theorem dX12_isStep_21 : decode cX12_isStep 21 = .ok (.imul, 1) := by decide +kernel
theorem dX12_isStep_22 : decode cX12_isStep 22 = .ok (.iconst 1, 1) := by decide +kernel
theorem dX12_isStep_23 : decode cX12_isStep 23 = .ok (.isub, 1) := by decide +kernel
theorem dX12_isStep_24 : decode cX12_isStep 24 = .ok (.i2l, 1) := by decide +kernel
theorem dX12_isStep_25 : decode cX12_isStep 25 = .ok (.invokestatic 55, 3) := by decide +kernel
theorem dX12_isStep_28 : decode cX12_isStep 28 = .ok (.ireturn, 1) := by decide +kernel
theorem dX12_place_0 : decode cX12_place 0 = .ok (.iconst (-1), 1) := by decide +kernel
theorem dX12_place_1 : decode cX12_place 1 = .ok (.istore 4, 2) := by decide +kernel
