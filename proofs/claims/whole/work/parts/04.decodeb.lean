theorem dX12_place_3 : decode cX12_place 3 = .ok (.iconst 0, 1) := by decide +kernel
theorem dX12_place_4 : decode cX12_place 4 = .ok (.istore 5, 2) := by decide +kernel
theorem dX12_place_6 : decode cX12_place 6 = .ok (.iload 5, 2) := by decide +kernel
theorem dX12_place_8 : decode cX12_place 8 = .ok (.iconst 2, 1) := by decide +kernel
theorem dX12_place_9 : decode cX12_place 9 = .ok (.aload_n 0, 1) := by decide +kernel
theorem dX12_place_10 : decode cX12_place 10 = .ok (.iload_n 1, 1) := by decide +kernel
theorem dX12_place_11 : decode cX12_place 11 = .ok (.invokevirtual 59, 3) := by decide +kernel
theorem dX12_place_14 : decode cX12_place 14 = .ok (.imul, 1) := by decide +kernel
theorem dX12_place_15 : decode cX12_place 15 = .ok (.if_icmp .ge 52, 3) := by decide +kernel
theorem dX12_place_18 : decode cX12_place 18 = .ok (.aload_n 0, 1) := by decide +kernel
theorem dX12_place_19 : decode cX12_place 19 = .ok (.iload_n 1, 1) := by decide +kernel
theorem dX12_place_20 : decode cX12_place 20 = .ok (.iload 5, 2) := by decide +kernel
theorem dX12_place_22 : decode cX12_place 22 = .ok (.invokevirtual 63, 3) := by decide +kernel
theorem dX12_place_25 : decode cX12_place 25 = .ok (.iload_n 2, 1) := by decide +kernel
theorem dX12_place_26 : decode cX12_place 26 = .ok (.if_icmp .ne 18, 3) := by decide +kernel
theorem dX12_place_29 : decode cX12_place 29 = .ok (.iload_n 3, 1) := by decide +kernel
theorem dX12_place_30 : decode cX12_place 30 = .ok (.iconst 1, 1) := by decide +kernel
theorem dX12_place_31 : decode cX12_place 31 = .ok (.if_icmp .eq 9, 3) := by decide +kernel
theorem dX12_place_34 : decode cX12_place 34 = .ok (.iload 4, 2) := by decide +kernel
theorem dX12_place_36 : decode cX12_place 36 = .ok (.iconst (-1), 1) := by decide +kernel
theorem dX12_place_37 : decode cX12_place 37 = .ok (.if_icmp .ne 7, 3) := by decide +kernel
theorem dX12_place_40 : decode cX12_place 40 = .ok (.iconst 1, 1) := by decide +kernel
theorem dX12_place_41 : decode cX12_place 41 = .ok (.goto 4, 3) := by decide +kernel
theorem dX12_place_44 : decode cX12_place 44 = .ok (.iconst 0, 1) := by decide +kernel
theorem dX12_place_45 : decode cX12_place 45 = .ok (.istore 6, 2) := by decide +kernel
theorem dX12_place_47 : decode cX12_place 47 = .ok (.iload 6, 2) := by decide +kernel
theorem dX12_place_49 : decode cX12_place 49 = .ok (.ifCond .eq 8, 3) := by decide +kernel
theorem dX12_place_52 : decode cX12_place 52 = .ok (.iload 5, 2) := by decide +kernel
theorem dX12_place_54 : decode cX12_place 54 = .ok (.goto 5, 3) := by decide +kernel
theorem dX12_place_57 : decode cX12_place 57 = .ok (.iload 4, 2) := by decide +kernel
theorem dX12_place_59 : decode cX12_place 59 = .ok (.istore 4, 2) := by decide +kernel
theorem dX12_place_61 : decode cX12_place 61 = .ok (.iinc 5 1, 3) := by decide +kernel
theorem dX12_place_64 : decode cX12_place 64 = .ok (.goto (-58), 3) := by decide +kernel
theorem dX12_place_67 : decode cX12_place 67 = .ok (.iload 4, 2) := by decide +kernel
theorem dX12_place_69 : decode cX12_place 69 = .ok (.ireturn, 1) := by decide +kernel
theorem dX12_comes_0 : decode cX12_comes 0 = .ok (.aload_n 0, 1) := by decide +kernel
theorem dX12_comes_1 : decode cX12_comes 1 = .ok (.getfield 33, 3) := by decide +kernel
theorem dX12_comes_4 : decode cX12_comes 4 = .ok (.aload_n 0, 1) := by decide +kernel
theorem dX12_comes_5 : decode cX12_comes 5 = .ok (.getfield 67, 3) := by decide +kernel
theorem dX12_comes_8 : decode cX12_comes 8 = .ok (.iload_n 1, 1) := by decide +kernel
theorem dX12_comes_9 : decode cX12_comes 9 = .ok (.iastore, 1) := by decide +kernel
theorem dX12_comes_10 : decode cX12_comes 10 = .ok (.aload_n 0, 1) := by decide +kernel
theorem dX12_comes_11 : decode cX12_comes 11 = .ok (.dup, 1) := by decide +kernel
theorem dX12_comes_12 : decode cX12_comes 12 = .ok (.getfield 67, 3) := by decide +kernel
theorem dX12_comes_15 : decode cX12_comes 15 = .ok (.iconst 1, 1) := by decide +kernel
theorem dX12_comes_16 : decode cX12_comes 16 = .ok (.iadd, 1) := by decide +kernel
theorem dX12_comes_17 : decode cX12_comes 17 = .ok (.putfield 67, 3) := by decide +kernel
theorem dX12_comes_20 : decode cX12_comes 20 = .ok (.return_, 1) := by decide +kernel
theorem dX12_numberOf_0 : decode cX12_numberOf 0 = .ok (.iconst 0, 1) := by decide +kernel
theorem dX12_numberOf_1 : decode cX12_numberOf 1 = .ok (.istore_n 2, 1) := by decide +kernel
theorem dX12_numberOf_2 : decode cX12_numberOf 2 = .ok (.iconst 0, 1) := by decide +kernel
theorem dX12_numberOf_3 : decode cX12_numberOf 3 = .ok (.istore_n 3, 1) := by decide +kernel
theorem dX12_numberOf_4 : decode cX12_numberOf 4 = .ok (.aload_n 0, 1) := by decide +kernel
theorem dX12_numberOf_5 : decode cX12_numberOf 5 = .ok (.getfield 33, 3) := by decide +kernel
theorem dX12_numberOf_8 : decode cX12_numberOf 8 = .ok (.iload_n 3, 1) := by decide +kernel
theorem dX12_numberOf_9 : decode cX12_numberOf 9 = .ok (.iaload, 1) := by decide +kernel
theorem dX12_numberOf_10 : decode cX12_numberOf 10 = .ok (.aload_n 0, 1) := by decide +kernel
theorem dX12_numberOf_11 : decode cX12_numberOf 11 = .ok (.getfield 33, 3) := by decide +kernel
theorem dX12_numberOf_14 : decode cX12_numberOf 14 = .ok (.iload_n 1, 1) := by decide +kernel
theorem dX12_numberOf_15 : decode cX12_numberOf 15 = .ok (.iaload, 1) := by decide +kernel
theorem dX12_numberOf_16 : decode cX12_numberOf 16 = .ok (.if_icmp .eq 68, 3) := by decide +kernel
theorem dX12_numberOf_19 : decode cX12_numberOf 19 = .ok (.iconst 1, 1) := by decide +kernel
theorem dX12_numberOf_20 : decode cX12_numberOf 20 = .ok (.istore 4, 2) := by decide +kernel
theorem dX12_numberOf_22 : decode cX12_numberOf 22 = .ok (.iconst 0, 1) := by decide +kernel
theorem dX12_numberOf_23 : decode cX12_numberOf 23 = .ok (.istore 5, 2) := by decide +kernel
theorem dX12_numberOf_25 : decode cX12_numberOf 25 = .ok (.iload 5, 2) := by decide +kernel
theorem dX12_numberOf_27 : decode cX12_numberOf 27 = .ok (.iload_n 3, 1) := by decide +kernel
theorem dX12_numberOf_28 : decode cX12_numberOf 28 = .ok (.if_icmp .ge 37, 3) := by decide +kernel
theorem dX12_numberOf_31 : decode cX12_numberOf 31 = .ok (.iload 4, 2) := by decide +kernel
theorem dX12_numberOf_33 : decode cX12_numberOf 33 = .ok (.ifCond .eq 23, 3) := by decide +kernel
theorem dX12_numberOf_36 : decode cX12_numberOf 36 = .ok (.aload_n 0, 1) := by decide +kernel
theorem dX12_numberOf_37 : decode cX12_numberOf 37 = .ok (.getfield 33, 3) := by decide +kernel
theorem dX12_numberOf_40 : decode cX12_numberOf 40 = .ok (.iload 5, 2) := by decide +kernel
theorem dX12_numberOf_42 : decode cX12_numberOf 42 = .ok (.iaload, 1) := by decide +kernel
theorem dX12_numberOf_43 : decode cX12_numberOf 43 = .ok (.aload_n 0, 1) := by decide +kernel
theorem dX12_numberOf_44 : decode cX12_numberOf 44 = .ok (.getfield 33, 3) := by decide +kernel
theorem dX12_numberOf_47 : decode cX12_numberOf 47 = .ok (.iload_n 3, 1) := by decide +kernel
theorem dX12_numberOf_48 : decode cX12_numberOf 48 = .ok (.iaload, 1) := by decide +kernel
theorem dX12_numberOf_49 : decode cX12_numberOf 49 = .ok (.if_icmp .eq 7, 3) := by decide +kernel
theorem dX12_numberOf_52 : decode cX12_numberOf 52 = .ok (.iconst 1, 1) := by decide +kernel
theorem dX12_numberOf_53 : decode cX12_numberOf 53 = .ok (.goto 4, 3) := by decide +kernel
theorem dX12_numberOf_56 : decode cX12_numberOf 56 = .ok (.iconst 0, 1) := by decide +kernel
theorem dX12_numberOf_57 : decode cX12_numberOf 57 = .ok (.istore 4, 2) := by decide +kernel
theorem dX12_numberOf_59 : decode cX12_numberOf 59 = .ok (.iinc 5 1, 3) := by decide +kernel
theorem dX12_numberOf_62 : decode cX12_numberOf 62 = .ok (.goto (-37), 3) := by decide +kernel
theorem dX12_numberOf_65 : decode cX12_numberOf 65 = .ok (.iload_n 2, 1) := by decide +kernel
theorem dX12_numberOf_66 : decode cX12_numberOf 66 = .ok (.iload 4, 2) := by decide +kernel
theorem dX12_numberOf_68 : decode cX12_numberOf 68 = .ok (.ifCond .eq 7, 3) := by decide +kernel
theorem dX12_numberOf_71 : decode cX12_numberOf 71 = .ok (.iconst 1, 1) := by decide +kernel
theorem dX12_numberOf_72 : decode cX12_numberOf 72 = .ok (.goto 4, 3) := by decide +kernel
theorem dX12_numberOf_75 : decode cX12_numberOf 75 = .ok (.iconst 0, 1) := by decide +kernel
theorem dX12_numberOf_76 : decode cX12_numberOf 76 = .ok (.iadd, 1) := by decide +kernel
theorem dX12_numberOf_77 : decode cX12_numberOf 77 = .ok (.istore_n 2, 1) := by decide +kernel
theorem dX12_numberOf_78 : decode cX12_numberOf 78 = .ok (.iinc 3 1, 3) := by decide +kernel
theorem dX12_numberOf_81 : decode cX12_numberOf 81 = .ok (.goto (-77), 3) := by decide +kernel
theorem dX12_numberOf_84 : decode cX12_numberOf 84 = .ok (.iload_n 2, 1) := by decide +kernel
theorem dX12_numberOf_85 : decode cX12_numberOf 85 = .ok (.ireturn, 1) := by decide +kernel
theorem dX12_lays_0 : decode cX12_lays 0 = .ok (.aload_n 0, 1) := by decide +kernel
theorem dX12_lays_1 : decode cX12_lays 1 = .ok (.getfield 7, 3) := by decide +kernel
theorem dX12_lays_4 : decode cX12_lays 4 = .ok (.iconst 1, 1) := by decide +kernel
theorem dX12_lays_5 : decode cX12_lays 5 = .ok (.bipush 18, 2) := by decide +kernel
theorem dX12_lays_7 : decode cX12_lays 7 = .ok (.iload_n 1, 1) := by decide +kernel
theorem dX12_lays_8 : decode cX12_lays 8 = .ok (.imul, 1) := by decide +kernel
theorem dX12_lays_9 : decode cX12_lays 9 = .ok (.iadd, 1) := by decide +kernel
theorem dX12_lays_10 : decode cX12_lays 10 = .ok (.aload_n 0, 1) := by decide +kernel
theorem dX12_lays_11 : decode cX12_lays 11 = .ok (.getfield 67, 3) := by decide +kernel
theorem dX12_lays_14 : decode cX12_lays 14 = .ok (.iconst 2, 1) := by decide +kernel
theorem dX12_lays_15 : decode cX12_lays 15 = .ok (.idiv, 1) := by decide +kernel
theorem dX12_lays_16 : decode cX12_lays 16 = .ok (.iastore, 1) := by decide +kernel
theorem dX12_lays_17 : decode cX12_lays 17 = .ok (.aload_n 0, 1) := by decide +kernel
theorem dX12_lays_18 : decode cX12_lays 18 = .ok (.getfield 7, 3) := by decide +kernel
theorem dX12_lays_21 : decode cX12_lays 21 = .ok (.iconst 1, 1) := by decide +kernel
theorem dX12_lays_22 : decode cX12_lays 22 = .ok (.bipush 18, 2) := by decide +kernel
theorem dX12_lays_24 : decode cX12_lays 24 = .ok (.iload_n 1, 1) := by decide +kernel
theorem dX12_lays_25 : decode cX12_lays 25 = .ok (.imul, 1) := by decide +kernel
theorem dX12_lays_26 : decode cX12_lays 26 = .ok (.iadd, 1) := by decide +kernel
theorem dX12_lays_27 : decode cX12_lays 27 = .ok (.iconst 1, 1) := by decide +kernel
theorem dX12_lays_28 : decode cX12_lays 28 = .ok (.iadd, 1) := by decide +kernel
theorem dX12_lays_29 : decode cX12_lays 29 = .ok (.iconst 0, 1) := by decide +kernel
theorem dX12_lays_30 : decode cX12_lays 30 = .ok (.iastore, 1) := by decide +kernel
theorem dX12_lays_31 : decode cX12_lays 31 = .ok (.iconst 0, 1) := by decide +kernel
theorem dX12_lays_32 : decode cX12_lays 32 = .ok (.istore_n 2, 1) := by decide +kernel
theorem dX12_lays_33 : decode cX12_lays 33 = .ok (.iload_n 2, 1) := by decide +kernel
theorem dX12_lays_34 : decode cX12_lays 34 = .ok (.aload_n 0, 1) := by decide +kernel
theorem dX12_lays_35 : decode cX12_lays 35 = .ok (.getfield 67, 3) := by decide +kernel
theorem dX12_lays_38 : decode cX12_lays 38 = .ok (.if_icmp .ge 29, 3) := by decide +kernel
theorem dX12_lays_41 : decode cX12_lays 41 = .ok (.aload_n 0, 1) := by decide +kernel
theorem dX12_lays_42 : decode cX12_lays 42 = .ok (.getfield 7, 3) := by decide +kernel
theorem dX12_lays_45 : decode cX12_lays 45 = .ok (.iconst 1, 1) := by decide +kernel
theorem dX12_lays_46 : decode cX12_lays 46 = .ok (.bipush 18, 2) := by decide +kernel
theorem dX12_lays_48 : decode cX12_lays 48 = .ok (.iload_n 1, 1) := by decide +kernel
theorem dX12_lays_49 : decode cX12_lays 49 = .ok (.imul, 1) := by decide +kernel
theorem dX12_lays_50 : decode cX12_lays 50 = .ok (.iadd, 1) := by decide +kernel
theorem dX12_lays_51 : decode cX12_lays 51 = .ok (.iconst 2, 1) := by decide +kernel
theorem dX12_lays_52 : decode cX12_lays 52 = .ok (.iadd, 1) := by decide +kernel
theorem dX12_lays_53 : decode cX12_lays 53 = .ok (.iload_n 2, 1) := by decide +kernel
theorem dX12_lays_54 : decode cX12_lays 54 = .ok (.iadd, 1) := by decide +kernel
theorem dX12_lays_55 : decode cX12_lays 55 = .ok (.aload_n 0, 1) := by decide +kernel
theorem dX12_lays_56 : decode cX12_lays 56 = .ok (.iload_n 2, 1) := by decide +kernel
theorem dX12_lays_57 : decode cX12_lays 57 = .ok (.invokevirtual 70, 3) := by decide +kernel
theorem dX12_lays_60 : decode cX12_lays 60 = .ok (.iastore, 1) := by decide +kernel
theorem dX12_lays_61 : decode cX12_lays 61 = .ok (.iinc 2 1, 3) := by decide +kernel
theorem dX12_lays_64 : decode cX12_lays 64 = .ok (.goto (-31), 3) := by decide +kernel
theorem dX12_lays_67 : decode cX12_lays 67 = .ok (.aload_n 0, 1) := by decide +kernel
theorem dX12_lays_68 : decode cX12_lays 68 = .ok (.getfield 67, 3) := by decide +kernel
theorem dX12_lays_71 : decode cX12_lays 71 = .ok (.iconst 2, 1) := by decide +kernel
theorem dX12_lays_72 : decode cX12_lays 72 = .ok (.idiv, 1) := by decide +kernel
theorem dX12_lays_73 : decode cX12_lays 73 = .ok (.ireturn, 1) := by decide +kernel
theorem dX12_laysMore_0 : decode cX12_laysMore 0 = .ok (.aload_n 0, 1) := by decide +kernel
theorem dX12_laysMore_1 : decode cX12_laysMore 1 = .ok (.aload_n 0, 1) := by decide +kernel
theorem dX12_laysMore_2 : decode cX12_laysMore 2 = .ok (.getfield 7, 3) := by decide +kernel
theorem dX12_laysMore_5 : decode cX12_laysMore 5 = .ok (.iconst 0, 1) := by decide +kernel
theorem dX12_laysMore_6 : decode cX12_laysMore 6 = .ok (.iaload, 1) := by decide +kernel
theorem dX12_laysMore_7 : decode cX12_laysMore 7 = .ok (.invokevirtual 73, 3) := by decide +kernel
theorem dX12_laysMore_10 : decode cX12_laysMore 10 = .ok (.pop, 1) := by decide +kernel
theorem dX12_laysMore_11 : decode cX12_laysMore 11 = .ok (.aload_n 0, 1) := by decide +kernel
theorem dX12_laysMore_12 : decode cX12_laysMore 12 = .ok (.getfield 7, 3) := by decide +kernel
theorem dX12_laysMore_15 : decode cX12_laysMore 15 = .ok (.iconst 0, 1) := by decide +kernel
theorem dX12_laysMore_16 : decode cX12_laysMore 16 = .ok (.dup2, 1) := by decide +kernel
theorem dX12_laysMore_17 : decode cX12_laysMore 17 = .ok (.iaload, 1) := by decide +kernel
theorem dX12_laysMore_18 : decode cX12_laysMore 18 = .ok (.iconst 1, 1) := by decide +kernel
theorem dX12_laysMore_19 : decode cX12_laysMore 19 = .ok (.iadd, 1) := by decide +kernel
theorem dX12_laysMore_20 : decode cX12_laysMore 20 = .ok (.iastore, 1) := by decide +kernel
theorem dX12_laysMore_21 : decode cX12_laysMore 21 = .ok (.aload_n 0, 1) := by decide +kernel
theorem dX12_laysMore_22 : decode cX12_laysMore 22 = .ok (.getfield 7, 3) := by decide +kernel
theorem dX12_laysMore_25 : decode cX12_laysMore 25 = .ok (.iconst 0, 1) := by decide +kernel
theorem dX12_laysMore_26 : decode cX12_laysMore 26 = .ok (.iaload, 1) := by decide +kernel
theorem dX12_laysMore_27 : decode cX12_laysMore 27 = .ok (.iconst 1, 1) := by decide +kernel
theorem dX12_laysMore_28 : decode cX12_laysMore 28 = .ok (.isub, 1) := by decide +kernel
theorem dX12_laysMore_29 : decode cX12_laysMore 29 = .ok (.ireturn, 1) := by decide +kernel
theorem dX12_feed_0 : decode cX12_feed 0 = .ok (.iload_n 1, 1) := by decide +kernel
theorem dX12_feed_1 : decode cX12_feed 1 = .ok (.i2l, 1) := by decide +kernel
theorem dX12_feed_2 : decode cX12_feed 2 = .ok (.lconst 0, 1) := by decide +kernel
theorem dX12_feed_3 : decode cX12_feed 3 = .ok (.ldc2_w 76, 3) := by decide +kernel
theorem dX12_feed_6 : decode cX12_feed 6 = .ok (.invokestatic 55, 3) := by decide +kernel
theorem dX12_feed_9 : decode cX12_feed 9 = .ok (.ifCond .ne 6, 3) := by decide +kernel
theorem dX12_feed_12 : decode cX12_feed 12 = .ok (.ldc 78, 2) := by decide +kernel
theorem dX12_feed_14 : decode cX12_feed 14 = .ok (.ireturn, 1) := by decide +kernel
theorem dX12_feed_15 : decode cX12_feed 15 = .ok (.aload_n 0, 1) := by decide +kernel
theorem dX12_feed_16 : decode cX12_feed 16 = .ok (.getfield 79, 3) := by decide +kernel
theorem dX12_feed_19 : decode cX12_feed 19 = .ok (.bipush 20, 2) := by decide +kernel
theorem dX12_feed_21 : decode cX12_feed 21 = .ok (.if_icmp .ne 6, 3) := by decide +kernel
theorem dX12_feed_24 : decode cX12_feed 24 = .ok (.ldc 82, 2) := by decide +kernel
theorem dX12_feed_26 : decode cX12_feed 26 = .ok (.ireturn, 1) := by decide +kernel
theorem dX12_feed_27 : decode cX12_feed 27 = .ok (.aload_n 0, 1) := by decide +kernel
theorem dX12_feed_28 : decode cX12_feed 28 = .ok (.getfield 20, 3) := by decide +kernel
theorem dX12_feed_31 : decode cX12_feed 31 = .ok (.aload_n 0, 1) := by decide +kernel
theorem dX12_feed_32 : decode cX12_feed 32 = .ok (.getfield 79, 3) := by decide +kernel
theorem dX12_feed_35 : decode cX12_feed 35 = .ok (.iload_n 1, 1) := by decide +kernel
theorem dX12_feed_36 : decode cX12_feed 36 = .ok (.iastore, 1) := by decide +kernel
theorem dX12_feed_37 : decode cX12_feed 37 = .ok (.aload_n 0, 1) := by decide +kernel
theorem dX12_feed_38 : decode cX12_feed 38 = .ok (.dup, 1) := by decide +kernel
theorem dX12_feed_39 : decode cX12_feed 39 = .ok (.getfield 79, 3) := by decide +kernel
theorem dX12_feed_42 : decode cX12_feed 42 = .ok (.iconst 1, 1) := by decide +kernel
theorem dX12_feed_43 : decode cX12_feed 43 = .ok (.iadd, 1) := by decide +kernel
theorem dX12_feed_44 : decode cX12_feed 44 = .ok (.putfield 79, 3) := by decide +kernel
theorem dX12_feed_47 : decode cX12_feed 47 = .ok (.aload_n 0, 1) := by decide +kernel
theorem dX12_feed_48 : decode cX12_feed 48 = .ok (.getfield 79, 3) := by decide +kernel
theorem dX12_feed_51 : decode cX12_feed 51 = .ok (.ireturn, 1) := by decide +kernel
theorem dX12_timesAhead_0 : decode cX12_timesAhead 0 = .ok (.iconst 0, 1) := by decide +kernel
theorem dX12_timesAhead_1 : decode cX12_timesAhead 1 = .ok (.istore_n 2, 1) := by decide +kernel
theorem dX12_timesAhead_2 : decode cX12_timesAhead 2 = .ok (.iconst 0, 1) := by decide +kernel
theorem dX12_timesAhead_3 : decode cX12_timesAhead 3 = .ok (.istore_n 3, 1) := by decide +kernel
theorem dX12_timesAhead_4 : decode cX12_timesAhead 4 = .ok (.iload_n 3, 1) := by decide +kernel
theorem dX12_timesAhead_5 : decode cX12_timesAhead 5 = .ok (.iload_n 1, 1) := by decide +kernel
theorem dX12_timesAhead_6 : decode cX12_timesAhead 6 = .ok (.if_icmp .ge 32, 3) := by decide +kernel
theorem dX12_timesAhead_9 : decode cX12_timesAhead 9 = .ok (.iload_n 2, 1) := by decide +kernel
theorem dX12_timesAhead_10 : decode cX12_timesAhead 10 = .ok (.aload_n 0, 1) := by decide +kernel
theorem dX12_timesAhead_11 : decode cX12_timesAhead 11 = .ok (.getfield 20, 3) := by decide +kernel
theorem dX12_timesAhead_14 : decode cX12_timesAhead 14 = .ok (.iload_n 3, 1) := by decide +kernel
theorem dX12_timesAhead_15 : decode cX12_timesAhead 15 = .ok (.iaload, 1) := by decide +kernel
theorem dX12_timesAhead_16 : decode cX12_timesAhead 16 = .ok (.aload_n 0, 1) := by decide +kernel
theorem dX12_timesAhead_17 : decode cX12_timesAhead 17 = .ok (.getfield 20, 3) := by decide +kernel
theorem dX12_timesAhead_20 : decode cX12_timesAhead 20 = .ok (.iload_n 1, 1) := by decide +kernel
theorem dX12_timesAhead_21 : decode cX12_timesAhead 21 = .ok (.iaload, 1) := by decide +kernel
theorem dX12_timesAhead_22 : decode cX12_timesAhead 22 = .ok (.if_icmp .ne 7, 3) := by decide +kernel
theorem dX12_timesAhead_25 : decode cX12_timesAhead 25 = .ok (.iconst 1, 1) := by decide +kernel
theorem dX12_timesAhead_26 : decode cX12_timesAhead 26 = .ok (.goto 4, 3) := by decide +kernel
theorem dX12_timesAhead_29 : decode cX12_timesAhead 29 = .ok (.iconst 0, 1) := by decide +kernel
theorem dX12_timesAhead_30 : decode cX12_timesAhead 30 = .ok (.iadd, 1) := by decide +kernel
theorem dX12_timesAhead_31 : decode cX12_timesAhead 31 = .ok (.istore_n 2, 1) := by decide +kernel
theorem dX12_timesAhead_32 : decode cX12_timesAhead 32 = .ok (.iinc 3 1, 3) := by decide +kernel
theorem dX12_timesAhead_35 : decode cX12_timesAhead 35 = .ok (.goto (-31), 3) := by decide +kernel
theorem dX12_timesAhead_38 : decode cX12_timesAhead 38 = .ok (.iload_n 2, 1) := by decide +kernel
theorem dX12_timesAhead_39 : decode cX12_timesAhead 39 = .ok (.ireturn, 1) := by decide +kernel
theorem dX12_faultAt_0 : decode cX12_faultAt 0 = .ok (.aload_n 0, 1) := by decide +kernel
theorem dX12_faultAt_1 : decode cX12_faultAt 1 = .ok (.getfield 20, 3) := by decide +kernel
theorem dX12_faultAt_4 : decode cX12_faultAt 4 = .ok (.iload_n 1, 1) := by decide +kernel
theorem dX12_faultAt_5 : decode cX12_faultAt 5 = .ok (.iaload, 1) := by decide +kernel
theorem dX12_faultAt_6 : decode cX12_faultAt 6 = .ok (.i2l, 1) := by decide +kernel
theorem dX12_faultAt_7 : decode cX12_faultAt 7 = .ok (.ldc2_w 83, 3) := by decide +kernel
theorem dX12_faultAt_10 : decode cX12_faultAt 10 = .ok (.ldc2_w 85, 3) := by decide +kernel
theorem dX12_faultAt_13 : decode cX12_faultAt 13 = .ok (.invokestatic 55, 3) := by decide +kernel
theorem dX12_faultAt_16 : decode cX12_faultAt 16 = .ok (.ifCond .ne 5, 3) := by decide +kernel
theorem dX12_faultAt_19 : decode cX12_faultAt 19 = .ok (.iconst 1, 1) := by decide +kernel
theorem dX12_faultAt_20 : decode cX12_faultAt 20 = .ok (.ireturn, 1) := by decide +kernel
theorem dX12_faultAt_21 : decode cX12_faultAt 21 = .ok (.aload_n 0, 1) := by decide +kernel
theorem dX12_faultAt_22 : decode cX12_faultAt 22 = .ok (.iload_n 1, 1) := by decide +kernel
theorem dX12_faultAt_23 : decode cX12_faultAt 23 = .ok (.invokevirtual 87, 3) := by decide +kernel
theorem dX12_faultAt_26 : decode cX12_faultAt 26 = .ok (.iconst 1, 1) := by decide +kernel
theorem dX12_faultAt_27 : decode cX12_faultAt 27 = .ok (.if_icmp .le 5, 3) := by decide +kernel
theorem dX12_faultAt_30 : decode cX12_faultAt 30 = .ok (.iconst 2, 1) := by decide +kernel
theorem dX12_faultAt_31 : decode cX12_faultAt 31 = .ok (.ireturn, 1) := by decide +kernel
theorem dX12_faultAt_32 : decode cX12_faultAt 32 = .ok (.iconst 0, 1) := by decide +kernel
theorem dX12_faultAt_33 : decode cX12_faultAt 33 = .ok (.istore_n 2, 1) := by decide +kernel
theorem dX12_faultAt_34 : decode cX12_faultAt 34 = .ok (.iconst 0, 1) := by decide +kernel
theorem dX12_faultAt_35 : decode cX12_faultAt 35 = .ok (.istore_n 3, 1) := by decide +kernel
theorem dX12_faultAt_36 : decode cX12_faultAt 36 = .ok (.iload_n 3, 1) := by decide +kernel
theorem dX12_faultAt_37 : decode cX12_faultAt 37 = .ok (.iload_n 1, 1) := by decide +kernel
theorem dX12_faultAt_38 : decode cX12_faultAt 38 = .ok (.if_icmp .ge 25, 3) := by decide +kernel
theorem dX12_faultAt_41 : decode cX12_faultAt 41 = .ok (.iload_n 2, 1) := by decide +kernel
theorem dX12_faultAt_42 : decode cX12_faultAt 42 = .ok (.aload_n 0, 1) := by decide +kernel
theorem dX12_faultAt_43 : decode cX12_faultAt 43 = .ok (.iload_n 3, 1) := by decide +kernel
theorem dX12_faultAt_44 : decode cX12_faultAt 44 = .ok (.invokevirtual 87, 3) := by decide +kernel
theorem dX12_faultAt_47 : decode cX12_faultAt 47 = .ok (.ifCond .ne 7, 3) := by decide +kernel
theorem dX12_faultAt_50 : decode cX12_faultAt 50 = .ok (.iconst 1, 1) := by decide +kernel
theorem dX12_faultAt_51 : decode cX12_faultAt 51 = .ok (.goto 4, 3) := by decide +kernel
theorem dX12_faultAt_54 : decode cX12_faultAt 54 = .ok (.iconst 0, 1) := by decide +kernel
theorem dX12_faultAt_55 : decode cX12_faultAt 55 = .ok (.iadd, 1) := by decide +kernel
theorem dX12_faultAt_56 : decode cX12_faultAt 56 = .ok (.istore_n 2, 1) := by decide +kernel
theorem dX12_faultAt_57 : decode cX12_faultAt 57 = .ok (.iinc 3 1, 3) := by decide +kernel
theorem dX12_faultAt_60 : decode cX12_faultAt 60 = .ok (.goto (-24), 3) := by decide +kernel
theorem dX12_faultAt_63 : decode cX12_faultAt 63 = .ok (.aload_n 0, 1) := by decide +kernel
theorem dX12_faultAt_64 : decode cX12_faultAt 64 = .ok (.iload_n 1, 1) := by decide +kernel
theorem dX12_faultAt_65 : decode cX12_faultAt 65 = .ok (.invokevirtual 87, 3) := by decide +kernel
theorem dX12_faultAt_68 : decode cX12_faultAt 68 = .ok (.ifCond .ne 13, 3) := by decide +kernel
theorem dX12_faultAt_71 : decode cX12_faultAt 71 = .ok (.iload_n 2, 1) := by decide +kernel
theorem dX12_faultAt_72 : decode cX12_faultAt 72 = .ok (.bipush 8, 2) := by decide +kernel
theorem dX12_faultAt_74 : decode cX12_faultAt 74 = .ok (.if_icmp .ne 7, 3) := by decide +kernel
theorem dX12_faultAt_77 : decode cX12_faultAt 77 = .ok (.iconst 3, 1) := by decide +kernel
theorem dX12_faultAt_78 : decode cX12_faultAt 78 = .ok (.goto 4, 3) := by decide +kernel
theorem dX12_faultAt_81 : decode cX12_faultAt 81 = .ok (.iconst 0, 1) := by decide +kernel
theorem dX12_faultAt_82 : decode cX12_faultAt 82 = .ok (.ireturn, 1) := by decide +kernel
theorem dX12_tell_0 : decode cX12_tell 0 = .ok (.aload_n 0, 1) := by decide +kernel
theorem dX12_tell_1 : decode cX12_tell 1 = .ok (.getfield 7, 3) := by decide +kernel
theorem dX12_tell_4 : decode cX12_tell 4 = .ok (.iconst 0, 1) := by decide +kernel
theorem dX12_tell_5 : decode cX12_tell 5 = .ok (.iaload, 1) := by decide +kernel
theorem dX12_tell_6 : decode cX12_tell 6 = .ok (.bipush 6, 2) := by decide +kernel
theorem dX12_tell_8 : decode cX12_tell 8 = .ok (.if_icmp .ne 6, 3) := by decide +kernel
theorem dX12_tell_11 : decode cX12_tell 11 = .ok (.ldc 82, 2) := by decide +kernel
theorem dX12_tell_13 : decode cX12_tell 13 = .ok (.ireturn, 1) := by decide +kernel
theorem dX12_tell_14 : decode cX12_tell 14 = .ok (.aload_n 0, 1) := by decide +kernel
theorem dX12_tell_15 : decode cX12_tell 15 = .ok (.getfield 79, 3) := by decide +kernel
theorem dX12_tell_18 : decode cX12_tell 18 = .ok (.istore_n 1, 1) := by decide +kernel
theorem dX12_tell_19 : decode cX12_tell 19 = .ok (.aload_n 0, 1) := by decide +kernel
theorem dX12_tell_20 : decode cX12_tell 20 = .ok (.iconst 0, 1) := by decide +kernel
theorem dX12_tell_21 : decode cX12_tell 21 = .ok (.putfield 79, 3) := by decide +kernel
theorem dX12_tell_24 : decode cX12_tell 24 = .ok (.aload_n 0, 1) := by decide +kernel
theorem dX12_tell_25 : decode cX12_tell 25 = .ok (.iconst (-1), 1) := by decide +kernel
theorem dX12_tell_26 : decode cX12_tell 26 = .ok (.putfield 23, 3) := by decide +kernel
theorem dX12_tell_29 : decode cX12_tell 29 = .ok (.iconst 0, 1) := by decide +kernel
theorem dX12_tell_30 : decode cX12_tell 30 = .ok (.istore_n 2, 1) := by decide +kernel
theorem dX12_tell_31 : decode cX12_tell 31 = .ok (.iconst 0, 1) := by decide +kernel
theorem dX12_tell_32 : decode cX12_tell 32 = .ok (.istore_n 3, 1) := by decide +kernel
theorem dX12_tell_33 : decode cX12_tell 33 = .ok (.iload_n 3, 1) := by decide +kernel
theorem dX12_tell_34 : decode cX12_tell 34 = .ok (.iload_n 1, 1) := by decide +kernel
theorem dX12_tell_35 : decode cX12_tell 35 = .ok (.if_icmp .ge 48, 3) := by decide +kernel
theorem dX12_tell_38 : decode cX12_tell 38 = .ok (.aload_n 0, 1) := by decide +kernel
theorem dX12_tell_39 : decode cX12_tell 39 = .ok (.iload_n 3, 1) := by decide +kernel
theorem dX12_tell_40 : decode cX12_tell 40 = .ok (.invokevirtual 90, 3) := by decide +kernel
theorem dX12_tell_43 : decode cX12_tell 43 = .ok (.istore 4, 2) := by decide +kernel
theorem dX12_tell_45 : decode cX12_tell 45 = .ok (.iload 4, 2) := by decide +kernel
theorem dX12_tell_47 : decode cX12_tell 47 = .ok (.ifCond .le 14, 3) := by decide +kernel
theorem dX12_tell_50 : decode cX12_tell 50 = .ok (.aload_n 0, 1) := by decide +kernel
theorem dX12_tell_51 : decode cX12_tell 51 = .ok (.iload_n 3, 1) := by decide +kernel
theorem dX12_tell_52 : decode cX12_tell 52 = .ok (.putfield 23, 3) := by decide +kernel
theorem dX12_tell_55 : decode cX12_tell 55 = .ok (.bipush (-10), 2) := by decide +kernel
theorem dX12_tell_57 : decode cX12_tell 57 = .ok (.iload 4, 2) := by decide +kernel
theorem dX12_tell_59 : decode cX12_tell 59 = .ok (.isub, 1) := by decide +kernel
theorem dX12_tell_60 : decode cX12_tell 60 = .ok (.ireturn, 1) := by decide +kernel
theorem dX12_tell_61 : decode cX12_tell 61 = .ok (.iload_n 2, 1) := by decide +kernel
theorem dX12_tell_62 : decode cX12_tell 62 = .ok (.aload_n 0, 1) := by decide +kernel
theorem dX12_tell_63 : decode cX12_tell 63 = .ok (.iload_n 3, 1) := by decide +kernel
theorem dX12_tell_64 : decode cX12_tell 64 = .ok (.invokevirtual 87, 3) := by decide +kernel
theorem dX12_tell_67 : decode cX12_tell 67 = .ok (.ifCond .ne 7, 3) := by decide +kernel
theorem dX12_tell_70 : decode cX12_tell 70 = .ok (.iconst 1, 1) := by decide +kernel
theorem dX12_tell_71 : decode cX12_tell 71 = .ok (.goto 4, 3) := by decide +kernel
theorem dX12_tell_74 : decode cX12_tell 74 = .ok (.iconst (-1), 1) := by decide +kernel
theorem dX12_tell_75 : decode cX12_tell 75 = .ok (.iadd, 1) := by decide +kernel
theorem dX12_tell_76 : decode cX12_tell 76 = .ok (.istore_n 2, 1) := by decide +kernel
theorem dX12_tell_77 : decode cX12_tell 77 = .ok (.iinc 3 1, 3) := by decide +kernel
theorem dX12_tell_80 : decode cX12_tell 80 = .ok (.goto (-47), 3) := by decide +kernel
theorem dX12_tell_83 : decode cX12_tell 83 = .ok (.iload_n 2, 1) := by decide +kernel
theorem dX12_tell_84 : decode cX12_tell 84 = .ok (.ifCond .le 11, 3) := by decide +kernel
theorem dX12_tell_87 : decode cX12_tell 87 = .ok (.aload_n 0, 1) := by decide +kernel
theorem dX12_tell_88 : decode cX12_tell 88 = .ok (.iload_n 1, 1) := by decide +kernel
theorem dX12_tell_89 : decode cX12_tell 89 = .ok (.putfield 23, 3) := by decide +kernel
theorem dX12_tell_92 : decode cX12_tell 92 = .ok (.bipush (-14), 2) := by decide +kernel
theorem dX12_tell_94 : decode cX12_tell 94 = .ok (.ireturn, 1) := by decide +kernel
theorem dX12_tell_95 : decode cX12_tell 95 = .ok (.aload_n 0, 1) := by decide +kernel
theorem dX12_tell_96 : decode cX12_tell 96 = .ok (.invokevirtual 93, 3) := by decide +kernel
theorem dX12_tell_99 : decode cX12_tell 99 = .ok (.aload_n 0, 1) := by decide +kernel
theorem dX12_tell_100 : decode cX12_tell 100 = .ok (.iconst 0, 1) := by decide +kernel
theorem dX12_tell_101 : decode cX12_tell 101 = .ok (.putfield 67, 3) := by decide +kernel
theorem dX12_tell_104 : decode cX12_tell 104 = .ok (.iconst 0, 1) := by decide +kernel
theorem dX12_tell_105 : decode cX12_tell 105 = .ok (.istore_n 3, 1) := by decide +kernel
theorem dX12_tell_106 : decode cX12_tell 106 = .ok (.iload_n 3, 1) := by decide +kernel
theorem dX12_tell_107 : decode cX12_tell 107 = .ok (.iload_n 1, 1) := by decide +kernel
theorem dX12_tell_108 : decode cX12_tell 108 = .ok (.if_icmp .ge 19, 3) := by decide +kernel
theorem dX12_tell_111 : decode cX12_tell 111 = .ok (.aload_n 0, 1) := by decide +kernel
theorem dX12_tell_112 : decode cX12_tell 112 = .ok (.aload_n 0, 1) := by decide +kernel
theorem dX12_tell_113 : decode cX12_tell 113 = .ok (.getfield 20, 3) := by decide +kernel
theorem dX12_tell_116 : decode cX12_tell 116 = .ok (.iload_n 3, 1) := by decide +kernel
theorem dX12_tell_117 : decode cX12_tell 117 = .ok (.iaload, 1) := by decide +kernel
theorem dX12_tell_118 : decode cX12_tell 118 = .ok (.invokevirtual 96, 3) := by decide +kernel
theorem dX12_tell_121 : decode cX12_tell 121 = .ok (.iinc 3 1, 3) := by decide +kernel
theorem dX12_tell_124 : decode cX12_tell 124 = .ok (.goto (-18), 3) := by decide +kernel
theorem dX12_tell_127 : decode cX12_tell 127 = .ok (.aload_n 0, 1) := by decide +kernel
theorem dX12_tell_128 : decode cX12_tell 128 = .ok (.invokevirtual 100, 3) := by decide +kernel
theorem dX12_tell_131 : decode cX12_tell 131 = .ok (.ireturn, 1) := by decide +kernel
theorem dX12_fault_0 : decode cX12_fault 0 = .ok (.aload_n 0, 1) := by decide +kernel
theorem dX12_fault_1 : decode cX12_fault 1 = .ok (.getfield 23, 3) := by decide +kernel
theorem dX12_fault_4 : decode cX12_fault 4 = .ok (.ireturn, 1) := by decide +kernel
theorem dX12_isBetween_0 : decode cX12_isBetween 0 = .ok (.aload_n 0, 1) := by decide +kernel
theorem dX12_isBetween_1 : decode cX12_isBetween 1 = .ok (.iload_n 1, 1) := by decide +kernel
theorem dX12_isBetween_2 : decode cX12_isBetween 2 = .ok (.iload_n 2, 1) := by decide +kernel
theorem dX12_isBetween_3 : decode cX12_isBetween 3 = .ok (.iconst 0, 1) := by decide +kernel
theorem dX12_isBetween_4 : decode cX12_isBetween 4 = .ok (.invokevirtual 104, 3) := by decide +kernel
theorem dX12_isBetween_7 : decode cX12_isBetween 7 = .ok (.istore 4, 2) := by decide +kernel
theorem dX12_isBetween_9 : decode cX12_isBetween 9 = .ok (.aload_n 0, 1) := by decide +kernel
theorem dX12_isBetween_10 : decode cX12_isBetween 10 = .ok (.iload_n 1, 1) := by decide +kernel
theorem dX12_isBetween_11 : decode cX12_isBetween 11 = .ok (.iload_n 2, 1) := by decide +kernel
theorem dX12_isBetween_12 : decode cX12_isBetween 12 = .ok (.iconst 1, 1) := by decide +kernel
theorem dX12_isBetween_13 : decode cX12_isBetween 13 = .ok (.invokevirtual 104, 3) := by decide +kernel
theorem dX12_isBetween_16 : decode cX12_isBetween 16 = .ok (.istore 5, 2) := by decide +kernel
theorem dX12_isBetween_18 : decode cX12_isBetween 18 = .ok (.iload_n 2, 1) := by decide +kernel
theorem dX12_isBetween_19 : decode cX12_isBetween 19 = .ok (.iload_n 3, 1) := by decide +kernel
theorem dX12_isBetween_20 : decode cX12_isBetween 20 = .ok (.if_icmp .eq 44, 3) := by decide +kernel
theorem dX12_isBetween_23 : decode cX12_isBetween 23 = .ok (.aload_n 0, 1) := by decide +kernel
theorem dX12_isBetween_24 : decode cX12_isBetween 24 = .ok (.iload_n 1, 1) := by decide +kernel
theorem dX12_isBetween_25 : decode cX12_isBetween 25 = .ok (.iload_n 3, 1) := by decide +kernel
theorem dX12_isBetween_26 : decode cX12_isBetween 26 = .ok (.iconst 0, 1) := by decide +kernel
theorem dX12_isBetween_27 : decode cX12_isBetween 27 = .ok (.invokevirtual 104, 3) := by decide +kernel
theorem dX12_isBetween_30 : decode cX12_isBetween 30 = .ok (.i2l, 1) := by decide +kernel
theorem dX12_isBetween_31 : decode cX12_isBetween 31 = .ok (.iload 4, 2) := by decide +kernel
theorem dX12_isBetween_33 : decode cX12_isBetween 33 = .ok (.i2l, 1) := by decide +kernel
theorem dX12_isBetween_34 : decode cX12_isBetween 34 = .ok (.iload 5, 2) := by decide +kernel
theorem dX12_isBetween_36 : decode cX12_isBetween 36 = .ok (.i2l, 1) := by decide +kernel
theorem dX12_isBetween_37 : decode cX12_isBetween 37 = .ok (.invokestatic 55, 3) := by decide +kernel
theorem dX12_isBetween_40 : decode cX12_isBetween 40 = .ok (.aload_n 0, 1) := by decide +kernel
theorem dX12_isBetween_41 : decode cX12_isBetween 41 = .ok (.iload_n 1, 1) := by decide +kernel
theorem dX12_isBetween_42 : decode cX12_isBetween 42 = .ok (.iload_n 3, 1) := by decide +kernel
theorem dX12_isBetween_43 : decode cX12_isBetween 43 = .ok (.iconst 1, 1) := by decide +kernel
theorem dX12_isBetween_44 : decode cX12_isBetween 44 = .ok (.invokevirtual 104, 3) := by decide +kernel
theorem dX12_isBetween_47 : decode cX12_isBetween 47 = .ok (.i2l, 1) := by decide +kernel
theorem dX12_isBetween_48 : decode cX12_isBetween 48 = .ok (.iload 4, 2) := by decide +kernel
theorem dX12_isBetween_50 : decode cX12_isBetween 50 = .ok (.i2l, 1) := by decide +kernel
theorem dX12_isBetween_51 : decode cX12_isBetween 51 = .ok (.iload 5, 2) := by decide +kernel
theorem dX12_isBetween_53 : decode cX12_isBetween 53 = .ok (.i2l, 1) := by decide +kernel
theorem dX12_isBetween_54 : decode cX12_isBetween 54 = .ok (.invokestatic 55, 3) := by decide +kernel
theorem dX12_isBetween_57 : decode cX12_isBetween 57 = .ok (.if_icmp .eq 7, 3) := by decide +kernel
theorem dX12_isBetween_60 : decode cX12_isBetween 60 = .ok (.iconst 1, 1) := by decide +kernel
theorem dX12_isBetween_61 : decode cX12_isBetween 61 = .ok (.goto 4, 3) := by decide +kernel
theorem dX12_isBetween_64 : decode cX12_isBetween 64 = .ok (.iconst 0, 1) := by decide +kernel
theorem dX12_isBetween_65 : decode cX12_isBetween 65 = .ok (.ireturn, 1) := by decide +kernel
theorem dX12_betweenSet_0 : decode cX12_betweenSet 0 = .ok (.iconst 0, 1) := by decide +kernel
theorem dX12_betweenSet_1 : decode cX12_betweenSet 1 = .ok (.istore_n 3, 1) := by decide +kernel
theorem dX12_betweenSet_2 : decode cX12_betweenSet 2 = .ok (.iconst 0, 1) := by decide +kernel
theorem dX12_betweenSet_3 : decode cX12_betweenSet 3 = .ok (.istore 4, 2) := by decide +kernel
theorem dX12_betweenSet_5 : decode cX12_betweenSet 5 = .ok (.iload 4, 2) := by decide +kernel
theorem dX12_betweenSet_7 : decode cX12_betweenSet 7 = .ok (.aload_n 0, 1) := by decide +kernel
theorem dX12_betweenSet_8 : decode cX12_betweenSet 8 = .ok (.iload_n 1, 1) := by decide +kernel
theorem dX12_betweenSet_9 : decode cX12_betweenSet 9 = .ok (.invokevirtual 59, 3) := by decide +kernel
theorem dX12_betweenSet_12 : decode cX12_betweenSet 12 = .ok (.if_icmp .ge 31, 3) := by decide +kernel
theorem dX12_betweenSet_15 : decode cX12_betweenSet 15 = .ok (.iload_n 3, 1) := by decide +kernel
theorem dX12_betweenSet_16 : decode cX12_betweenSet 16 = .ok (.aload_n 0, 1) := by decide +kernel
theorem dX12_betweenSet_17 : decode cX12_betweenSet 17 = .ok (.iload_n 1, 1) := by decide +kernel
theorem dX12_betweenSet_18 : decode cX12_betweenSet 18 = .ok (.iload_n 2, 1) := by decide +kernel
theorem dX12_betweenSet_19 : decode cX12_betweenSet 19 = .ok (.iload 4, 2) := by decide +kernel
theorem dX12_betweenSet_21 : decode cX12_betweenSet 21 = .ok (.invokevirtual 108, 3) := by decide +kernel
theorem dX12_betweenSet_24 : decode cX12_betweenSet 24 = .ok (.ifCond .eq 10, 3) := by decide +kernel
theorem dX12_betweenSet_27 : decode cX12_betweenSet 27 = .ok (.iconst 1, 1) := by decide +kernel
theorem dX12_betweenSet_28 : decode cX12_betweenSet 28 = .ok (.iload 4, 2) := by decide +kernel
theorem dX12_betweenSet_30 : decode cX12_betweenSet 30 = .ok (.ishl, 1) := by decide +kernel
theorem dX12_betweenSet_31 : decode cX12_betweenSet 31 = .ok (.goto 4, 3) := by decide +kernel
theorem dX12_betweenSet_34 : decode cX12_betweenSet 34 = .ok (.iconst 0, 1) := by decide +kernel
theorem dX12_betweenSet_35 : decode cX12_betweenSet 35 = .ok (.ior, 1) := by decide +kernel
theorem dX12_betweenSet_36 : decode cX12_betweenSet 36 = .ok (.istore_n 3, 1) := by decide +kernel
theorem dX12_betweenSet_37 : decode cX12_betweenSet 37 = .ok (.iinc 4 1, 3) := by decide +kernel
theorem dX12_betweenSet_40 : decode cX12_betweenSet 40 = .ok (.goto (-35), 3) := by decide +kernel
theorem dX12_betweenSet_43 : decode cX12_betweenSet 43 = .ok (.iload_n 3, 1) := by decide +kernel
theorem dX12_betweenSet_44 : decode cX12_betweenSet 44 = .ok (.ireturn, 1) := by decide +kernel
theorem dX12_joins_0 : decode cX12_joins 0 = .ok (.aload_n 0, 1) := by decide +kernel
theorem dX12_joins_1 : decode cX12_joins 1 = .ok (.getfield 36, 3) := by decide +kernel
theorem dX12_joins_4 : decode cX12_joins 4 = .ok (.iload_n 1, 1) := by decide +kernel
theorem dX12_joins_5 : decode cX12_joins 5 = .ok (.iaload, 1) := by decide +kernel
theorem dX12_joins_6 : decode cX12_joins 6 = .ok (.aload_n 0, 1) := by decide +kernel
theorem dX12_joins_7 : decode cX12_joins 7 = .ok (.getfield 36, 3) := by decide +kernel
theorem dX12_joins_10 : decode cX12_joins 10 = .ok (.iload_n 2, 1) := by decide +kernel
theorem dX12_joins_11 : decode cX12_joins 11 = .ok (.iaload, 1) := by decide +kernel
theorem dX12_joins_12 : decode cX12_joins 12 = .ok (.if_icmp .ge 12, 3) := by decide +kernel
theorem dX12_joins_15 : decode cX12_joins 15 = .ok (.aload_n 0, 1) := by decide +kernel
theorem dX12_joins_16 : decode cX12_joins 16 = .ok (.getfield 36, 3) := by decide +kernel
theorem dX12_joins_19 : decode cX12_joins 19 = .ok (.iload_n 1, 1) := by decide +kernel
theorem dX12_joins_20 : decode cX12_joins 20 = .ok (.iaload, 1) := by decide +kernel
theorem dX12_joins_21 : decode cX12_joins 21 = .ok (.goto 9, 3) := by decide +kernel
theorem dX12_joins_24 : decode cX12_joins 24 = .ok (.aload_n 0, 1) := by decide +kernel
theorem dX12_joins_25 : decode cX12_joins 25 = .ok (.getfield 36, 3) := by decide +kernel
theorem dX12_joins_28 : decode cX12_joins 28 = .ok (.iload_n 2, 1) := by decide +kernel
theorem dX12_joins_29 : decode cX12_joins 29 = .ok (.iaload, 1) := by decide +kernel
theorem dX12_joins_30 : decode cX12_joins 30 = .ok (.istore_n 3, 1) := by decide +kernel
theorem dX12_joins_31 : decode cX12_joins 31 = .ok (.aload_n 0, 1) := by decide +kernel
theorem dX12_joins_32 : decode cX12_joins 32 = .ok (.aload_n 0, 1) := by decide +kernel
theorem dX12_joins_33 : decode cX12_joins 33 = .ok (.getfield 112, 3) := by decide +kernel
theorem dX12_joins_36 : decode cX12_joins 36 = .ok (.ifCond .ne 18, 3) := by decide +kernel
theorem dX12_joins_39 : decode cX12_joins 39 = .ok (.aload_n 0, 1) := by decide +kernel
theorem dX12_joins_40 : decode cX12_joins 40 = .ok (.getfield 36, 3) := by decide +kernel
theorem dX12_joins_43 : decode cX12_joins 43 = .ok (.iload_n 1, 1) := by decide +kernel
theorem dX12_joins_44 : decode cX12_joins 44 = .ok (.iaload, 1) := by decide +kernel
theorem dX12_joins_45 : decode cX12_joins 45 = .ok (.aload_n 0, 1) := by decide +kernel
theorem dX12_joins_46 : decode cX12_joins 46 = .ok (.getfield 36, 3) := by decide +kernel
theorem dX12_joins_49 : decode cX12_joins 49 = .ok (.iload_n 2, 1) := by decide +kernel
theorem dX12_joins_50 : decode cX12_joins 50 = .ok (.iaload, 1) := by decide +kernel
theorem dX12_joins_51 : decode cX12_joins 51 = .ok (.if_icmp .eq 7, 3) := by decide +kernel
theorem dX12_joins_54 : decode cX12_joins 54 = .ok (.iconst 1, 1) := by decide +kernel
theorem dX12_joins_55 : decode cX12_joins 55 = .ok (.goto 4, 3) := by decide +kernel
theorem dX12_joins_58 : decode cX12_joins 58 = .ok (.iconst 0, 1) := by decide +kernel
theorem dX12_joins_59 : decode cX12_joins 59 = .ok (.putfield 112, 3) := by decide +kernel
theorem dX12_joins_62 : decode cX12_joins 62 = .ok (.aload_n 0, 1) := by decide +kernel
theorem dX12_joins_63 : decode cX12_joins 63 = .ok (.getfield 36, 3) := by decide +kernel
theorem dX12_joins_66 : decode cX12_joins 66 = .ok (.iload_n 1, 1) := by decide +kernel
theorem dX12_joins_67 : decode cX12_joins 67 = .ok (.iload_n 3, 1) := by decide +kernel
theorem dX12_joins_68 : decode cX12_joins 68 = .ok (.iastore, 1) := by decide +kernel
theorem dX12_joins_69 : decode cX12_joins 69 = .ok (.aload_n 0, 1) := by decide +kernel
theorem dX12_joins_70 : decode cX12_joins 70 = .ok (.getfield 36, 3) := by decide +kernel
theorem dX12_joins_73 : decode cX12_joins 73 = .ok (.iload_n 2, 1) := by decide +kernel
theorem dX12_joins_74 : decode cX12_joins 74 = .ok (.iload_n 3, 1) := by decide +kernel
theorem dX12_joins_75 : decode cX12_joins 75 = .ok (.iastore, 1) := by decide +kernel
theorem dX12_joins_76 : decode cX12_joins 76 = .ok (.return_, 1) := by decide +kernel
theorem dX12_startsLabels_0 : decode cX12_startsLabels 0 = .ok (.iconst 0, 1) := by decide +kernel
theorem dX12_startsLabels_1 : decode cX12_startsLabels 1 = .ok (.istore_n 2, 1) := by decide +kernel
theorem dX12_startsLabels_2 : decode cX12_startsLabels 2 = .ok (.iload_n 2, 1) := by decide +kernel
theorem dX12_startsLabels_3 : decode cX12_startsLabels 3 = .ok (.iload_n 1, 1) := by decide +kernel
theorem dX12_startsLabels_4 : decode cX12_startsLabels 4 = .ok (.if_icmp .ge 16, 3) := by decide +kernel
theorem dX12_startsLabels_7 : decode cX12_startsLabels 7 = .ok (.aload_n 0, 1) := by decide +kernel
theorem dX12_startsLabels_8 : decode cX12_startsLabels 8 = .ok (.getfield 36, 3) := by decide +kernel
theorem dX12_startsLabels_11 : decode cX12_startsLabels 11 = .ok (.iload_n 2, 1) := by decide +kernel
theorem dX12_startsLabels_12 : decode cX12_startsLabels 12 = .ok (.iload_n 2, 1) := by decide +kernel
theorem dX12_startsLabels_13 : decode cX12_startsLabels 13 = .ok (.iastore, 1) := by decide +kernel
theorem dX12_startsLabels_14 : decode cX12_startsLabels 14 = .ok (.iinc 2 1, 3) := by decide +kernel
theorem dX12_startsLabels_17 : decode cX12_startsLabels 17 = .ok (.goto (-15), 3) := by decide +kernel
theorem dX12_startsLabels_20 : decode cX12_startsLabels 20 = .ok (.return_, 1) := by decide +kernel
theorem dX12_heaps_0 : decode cX12_heaps 0 = .ok (.iconst 0, 1) := by decide +kernel
theorem dX12_heaps_1 : decode cX12_heaps 1 = .ok (.istore_n 2, 1) := by decide +kernel
theorem dX12_heaps_2 : decode cX12_heaps 2 = .ok (.iconst 0, 1) := by decide +kernel
theorem dX12_heaps_3 : decode cX12_heaps 3 = .ok (.istore_n 3, 1) := by decide +kernel
theorem dX12_heaps_4 : decode cX12_heaps 4 = .ok (.iload_n 3, 1) := by decide +kernel
theorem dX12_heaps_5 : decode cX12_heaps 5 = .ok (.iload_n 1, 1) := by decide +kernel
theorem dX12_heaps_6 : decode cX12_heaps 6 = .ok (.if_icmp .ge 27, 3) := by decide +kernel
theorem dX12_heaps_9 : decode cX12_heaps 9 = .ok (.iload_n 2, 1) := by decide +kernel
theorem dX12_heaps_10 : decode cX12_heaps 10 = .ok (.aload_n 0, 1) := by decide +kernel
theorem dX12_heaps_11 : decode cX12_heaps 11 = .ok (.getfield 36, 3) := by decide +kernel
theorem dX12_heaps_14 : decode cX12_heaps 14 = .ok (.iload_n 3, 1) := by decide +kernel
theorem dX12_heaps_15 : decode cX12_heaps 15 = .ok (.iaload, 1) := by decide +kernel
theorem dX12_heaps_16 : decode cX12_heaps 16 = .ok (.iload_n 3, 1) := by decide +kernel
theorem dX12_heaps_17 : decode cX12_heaps 17 = .ok (.if_icmp .ne 7, 3) := by decide +kernel
theorem dX12_heaps_20 : decode cX12_heaps 20 = .ok (.iconst 1, 1) := by decide +kernel
theorem dX12_heaps_21 : decode cX12_heaps 21 = .ok (.goto 4, 3) := by decide +kernel
theorem dX12_heaps_24 : decode cX12_heaps 24 = .ok (.iconst 0, 1) := by decide +kernel
theorem dX12_heaps_25 : decode cX12_heaps 25 = .ok (.iadd, 1) := by decide +kernel
theorem dX12_heaps_26 : decode cX12_heaps 26 = .ok (.istore_n 2, 1) := by decide +kernel
theorem dX12_heaps_27 : decode cX12_heaps 27 = .ok (.iinc 3 1, 3) := by decide +kernel
theorem dX12_heaps_30 : decode cX12_heaps 30 = .ok (.goto (-26), 3) := by decide +kernel
theorem dX12_heaps_33 : decode cX12_heaps 33 = .ok (.iload_n 2, 1) := by decide +kernel
theorem dX12_heaps_34 : decode cX12_heaps 34 = .ok (.ireturn, 1) := by decide +kernel
theorem dX12_parts_0 : decode cX12_parts 0 = .ok (.aload_n 0, 1) := by decide +kernel
theorem dX12_parts_1 : decode cX12_parts 1 = .ok (.aload_n 0, 1) := by decide +kernel
theorem dX12_parts_2 : decode cX12_parts 2 = .ok (.iload_n 1, 1) := by decide +kernel
theorem dX12_parts_3 : decode cX12_parts 3 = .ok (.invokevirtual 59, 3) := by decide +kernel
theorem dX12_parts_6 : decode cX12_parts 6 = .ok (.invokevirtual 116, 3) := by decide +kernel
theorem dX12_parts_9 : decode cX12_parts 9 = .ok (.aload_n 0, 1) := by decide +kernel
theorem dX12_parts_10 : decode cX12_parts 10 = .ok (.iconst 1, 1) := by decide +kernel
theorem dX12_parts_11 : decode cX12_parts 11 = .ok (.putfield 112, 3) := by decide +kernel
theorem dX12_parts_14 : decode cX12_parts 14 = .ok (.aload_n 0, 1) := by decide +kernel
theorem dX12_parts_15 : decode cX12_parts 15 = .ok (.getfield 112, 3) := by decide +kernel
theorem dX12_parts_18 : decode cX12_parts 18 = .ok (.ifCond .eq 57, 3) := by decide +kernel
theorem dX12_parts_21 : decode cX12_parts 21 = .ok (.aload_n 0, 1) := by decide +kernel
theorem dX12_parts_22 : decode cX12_parts 22 = .ok (.iconst 0, 1) := by decide +kernel
theorem dX12_parts_23 : decode cX12_parts 23 = .ok (.putfield 112, 3) := by decide +kernel
theorem dX12_parts_26 : decode cX12_parts 26 = .ok (.iconst 0, 1) := by decide +kernel
theorem dX12_parts_27 : decode cX12_parts 27 = .ok (.istore_n 2, 1) := by decide +kernel
theorem dX12_parts_28 : decode cX12_parts 28 = .ok (.iload_n 2, 1) := by decide +kernel
theorem dX12_parts_29 : decode cX12_parts 29 = .ok (.aload_n 0, 1) := by decide +kernel
theorem dX12_parts_30 : decode cX12_parts 30 = .ok (.iload_n 1, 1) := by decide +kernel
theorem dX12_parts_31 : decode cX12_parts 31 = .ok (.invokevirtual 59, 3) := by decide +kernel
theorem dX12_parts_34 : decode cX12_parts 34 = .ok (.if_icmp .ge 38, 3) := by decide +kernel
theorem dX12_parts_37 : decode cX12_parts 37 = .ok (.iconst 0, 1) := by decide +kernel
theorem dX12_parts_38 : decode cX12_parts 38 = .ok (.istore_n 3, 1) := by decide +kernel
theorem dX12_parts_39 : decode cX12_parts 39 = .ok (.iload_n 3, 1) := by decide +kernel
theorem dX12_parts_40 : decode cX12_parts 40 = .ok (.iload_n 2, 1) := by decide +kernel
theorem dX12_parts_41 : decode cX12_parts 41 = .ok (.if_icmp .ge 25, 3) := by decide +kernel
theorem dX12_parts_44 : decode cX12_parts 44 = .ok (.aload_n 0, 1) := by decide +kernel
theorem dX12_parts_45 : decode cX12_parts 45 = .ok (.iload_n 1, 1) := by decide +kernel
theorem dX12_parts_46 : decode cX12_parts 46 = .ok (.iload_n 2, 1) := by decide +kernel
theorem dX12_parts_47 : decode cX12_parts 47 = .ok (.iload_n 3, 1) := by decide +kernel
theorem dX12_parts_48 : decode cX12_parts 48 = .ok (.invokevirtual 108, 3) := by decide +kernel
theorem dX12_parts_51 : decode cX12_parts 51 = .ok (.ifCond .eq 9, 3) := by decide +kernel
theorem dX12_parts_54 : decode cX12_parts 54 = .ok (.aload_n 0, 1) := by decide +kernel
theorem dX12_parts_55 : decode cX12_parts 55 = .ok (.iload_n 2, 1) := by decide +kernel
theorem dX12_parts_56 : decode cX12_parts 56 = .ok (.iload_n 3, 1) := by decide +kernel
theorem dX12_parts_57 : decode cX12_parts 57 = .ok (.invokevirtual 119, 3) := by decide +kernel
theorem dX12_parts_60 : decode cX12_parts 60 = .ok (.iinc 3 1, 3) := by decide +kernel
theorem dX12_parts_63 : decode cX12_parts 63 = .ok (.goto (-24), 3) := by decide +kernel
theorem dX12_parts_66 : decode cX12_parts 66 = .ok (.iinc 2 1, 3) := by decide +kernel
theorem dX12_parts_69 : decode cX12_parts 69 = .ok (.goto (-41), 3) := by decide +kernel
theorem dX12_parts_72 : decode cX12_parts 72 = .ok (.goto (-58), 3) := by decide +kernel
theorem dX12_parts_75 : decode cX12_parts 75 = .ok (.aload_n 0, 1) := by decide +kernel
theorem dX12_parts_76 : decode cX12_parts 76 = .ok (.aload_n 0, 1) := by decide +kernel
theorem dX12_parts_77 : decode cX12_parts 77 = .ok (.iload_n 1, 1) := by decide +kernel
theorem dX12_parts_78 : decode cX12_parts 78 = .ok (.invokevirtual 59, 3) := by decide +kernel
theorem dX12_parts_81 : decode cX12_parts 81 = .ok (.invokevirtual 122, 3) := by decide +kernel
theorem dX12_parts_84 : decode cX12_parts 84 = .ok (.ireturn, 1) := by decide +kernel
theorem dX12_areSides_0 : decode cX12_areSides 0 = .ok (.iconst 1, 1) := by decide +kernel
theorem dX12_areSides_1 : decode cX12_areSides 1 = .ok (.istore_n 3, 1) := by decide +kernel
theorem dX12_areSides_2 : decode cX12_areSides 2 = .ok (.iconst 0, 1) := by decide +kernel
theorem dX12_areSides_3 : decode cX12_areSides 3 = .ok (.istore 4, 2) := by decide +kernel
theorem dX12_areSides_5 : decode cX12_areSides 5 = .ok (.iload 4, 2) := by decide +kernel
theorem dX12_areSides_7 : decode cX12_areSides 7 = .ok (.aload_n 0, 1) := by decide +kernel
theorem dX12_areSides_8 : decode cX12_areSides 8 = .ok (.iload_n 1, 1) := by decide +kernel
theorem dX12_areSides_9 : decode cX12_areSides 9 = .ok (.invokevirtual 59, 3) := by decide +kernel
theorem dX12_areSides_12 : decode cX12_areSides 12 = .ok (.if_icmp .ge 102, 3) := by decide +kernel
theorem dX12_areSides_15 : decode cX12_areSides 15 = .ok (.iconst 0, 1) := by decide +kernel
theorem dX12_areSides_16 : decode cX12_areSides 16 = .ok (.istore 5, 2) := by decide +kernel
theorem dX12_areSides_18 : decode cX12_areSides 18 = .ok (.iload 5, 2) := by decide +kernel
theorem dX12_areSides_20 : decode cX12_areSides 20 = .ok (.iload 4, 2) := by decide +kernel
theorem dX12_areSides_22 : decode cX12_areSides 22 = .ok (.if_icmp .ge 86, 3) := by decide +kernel
theorem dX12_areSides_25 : decode cX12_areSides 25 = .ok (.iload_n 3, 1) := by decide +kernel
theorem dX12_areSides_26 : decode cX12_areSides 26 = .ok (.ifCond .eq 82, 3) := by decide +kernel
theorem dX12_areSides_29 : decode cX12_areSides 29 = .ok (.iload_n 2, 1) := by decide +kernel
theorem dX12_areSides_30 : decode cX12_areSides 30 = .ok (.iload 4, 2) := by decide +kernel
theorem dX12_areSides_32 : decode cX12_areSides 32 = .ok (.invokestatic 125, 3) := by decide +kernel
theorem dX12_areSides_35 : decode cX12_areSides 35 = .ok (.iload_n 2, 1) := by decide +kernel
theorem dX12_areSides_36 : decode cX12_areSides 36 = .ok (.iload 5, 2) := by decide +kernel
theorem dX12_areSides_38 : decode cX12_areSides 38 = .ok (.invokestatic 125, 3) := by decide +kernel
theorem dX12_areSides_41 : decode cX12_areSides 41 = .ok (.if_icmp .eq 7, 3) := by decide +kernel
theorem dX12_areSides_44 : decode cX12_areSides 44 = .ok (.iconst 1, 1) := by decide +kernel
theorem dX12_areSides_45 : decode cX12_areSides 45 = .ok (.goto 4, 3) := by decide +kernel
theorem dX12_areSides_48 : decode cX12_areSides 48 = .ok (.iconst 0, 1) := by decide +kernel
theorem dX12_areSides_49 : decode cX12_areSides 49 = .ok (.istore 6, 2) := by decide +kernel
theorem dX12_areSides_51 : decode cX12_areSides 51 = .ok (.aload_n 0, 1) := by decide +kernel
theorem dX12_areSides_52 : decode cX12_areSides 52 = .ok (.iload_n 1, 1) := by decide +kernel
theorem dX12_areSides_53 : decode cX12_areSides 53 = .ok (.iload 4, 2) := by decide +kernel
theorem dX12_areSides_55 : decode cX12_areSides 55 = .ok (.iload 5, 2) := by decide +kernel
theorem dX12_areSides_57 : decode cX12_areSides 57 = .ok (.invokevirtual 108, 3) := by decide +kernel
theorem dX12_areSides_60 : decode cX12_areSides 60 = .ok (.ifCond .eq 36, 3) := by decide +kernel
theorem dX12_areSides_63 : decode cX12_areSides 63 = .ok (.iload 6, 2) := by decide +kernel
theorem dX12_areSides_65 : decode cX12_areSides 65 = .ok (.aload_n 0, 1) := by decide +kernel
theorem dX12_areSides_66 : decode cX12_areSides 66 = .ok (.iload_n 1, 1) := by decide +kernel
theorem dX12_areSides_67 : decode cX12_areSides 67 = .ok (.iload 4, 2) := by decide +kernel
theorem dX12_areSides_69 : decode cX12_areSides 69 = .ok (.invokevirtual 129, 3) := by decide +kernel
theorem dX12_areSides_72 : decode cX12_areSides 72 = .ok (.aload_n 0, 1) := by decide +kernel
theorem dX12_areSides_73 : decode cX12_areSides 73 = .ok (.iload_n 1, 1) := by decide +kernel
theorem dX12_areSides_74 : decode cX12_areSides 74 = .ok (.iload 5, 2) := by decide +kernel
theorem dX12_areSides_76 : decode cX12_areSides 76 = .ok (.invokevirtual 129, 3) := by decide +kernel
theorem dX12_areSides_79 : decode cX12_areSides 79 = .ok (.iand, 1) := by decide +kernel
theorem dX12_areSides_80 : decode cX12_areSides 80 = .ok (.invokestatic 132, 3) := by decide +kernel
theorem dX12_areSides_83 : decode cX12_areSides 83 = .ok (.iconst 2, 1) := by decide +kernel
theorem dX12_areSides_84 : decode cX12_areSides 84 = .ok (.irem, 1) := by decide +kernel
theorem dX12_areSides_85 : decode cX12_areSides 85 = .ok (.ifCond .ne 7, 3) := by decide +kernel
theorem dX12_areSides_88 : decode cX12_areSides 88 = .ok (.iconst 1, 1) := by decide +kernel
theorem dX12_areSides_89 : decode cX12_areSides 89 = .ok (.goto 4, 3) := by decide +kernel
theorem dX12_areSides_92 : decode cX12_areSides 92 = .ok (.iconst 0, 1) := by decide +kernel
theorem dX12_areSides_93 : decode cX12_areSides 93 = .ok (.if_icmp .ne 7, 3) := by decide +kernel
theorem dX12_areSides_96 : decode cX12_areSides 96 = .ok (.iconst 1, 1) := by decide +kernel
theorem dX12_areSides_97 : decode cX12_areSides 97 = .ok (.goto 4, 3) := by decide +kernel
theorem dX12_areSides_100 : decode cX12_areSides 100 = .ok (.iconst 0, 1) := by decide +kernel
theorem dX12_areSides_101 : decode cX12_areSides 101 = .ok (.istore_n 3, 1) := by decide +kernel
theorem dX12_areSides_102 : decode cX12_areSides 102 = .ok (.iinc 5 1, 3) := by decide +kernel
theorem dX12_areSides_105 : decode cX12_areSides 105 = .ok (.goto (-87), 3) := by decide +kernel
theorem dX12_areSides_108 : decode cX12_areSides 108 = .ok (.iinc 4 1, 3) := by decide +kernel
theorem dX12_areSides_111 : decode cX12_areSides 111 = .ok (.goto (-106), 3) := by decide +kernel
theorem dX12_areSides_114 : decode cX12_areSides 114 = .ok (.iload_n 3, 1) := by decide +kernel
theorem dX12_areSides_115 : decode cX12_areSides 115 = .ok (.ireturn, 1) := by decide +kernel
theorem dX12_broken_0 : decode cX12_broken 0 = .ok (.iconst 0, 1) := by decide +kernel
theorem dX12_broken_1 : decode cX12_broken 1 = .ok (.istore_n 2, 1) := by decide +kernel
theorem dX12_broken_2 : decode cX12_broken 2 = .ok (.iload_n 2, 1) := by decide +kernel
theorem dX12_broken_3 : decode cX12_broken 3 = .ok (.aload_n 0, 1) := by decide +kernel
theorem dX12_broken_4 : decode cX12_broken 4 = .ok (.iload_n 1, 1) := by decide +kernel
theorem dX12_broken_5 : decode cX12_broken 5 = .ok (.invokevirtual 59, 3) := by decide +kernel
theorem dX12_broken_8 : decode cX12_broken 8 = .ok (.if_icmp .ge 26, 3) := by decide +kernel
theorem dX12_broken_11 : decode cX12_broken 11 = .ok (.aload_n 0, 1) := by decide +kernel
theorem dX12_broken_12 : decode cX12_broken 12 = .ok (.iload_n 1, 1) := by decide +kernel
theorem dX12_broken_13 : decode cX12_broken 13 = .ok (.iload_n 2, 1) := by decide +kernel
theorem dX12_broken_14 : decode cX12_broken 14 = .ok (.invokevirtual 129, 3) := by decide +kernel
theorem dX12_broken_17 : decode cX12_broken 17 = .ok (.invokestatic 132, 3) := by decide +kernel
theorem dX12_broken_20 : decode cX12_broken 20 = .ok (.iconst 2, 1) := by decide +kernel
theorem dX12_broken_21 : decode cX12_broken 21 = .ok (.irem, 1) := by decide +kernel
theorem dX12_broken_22 : decode cX12_broken 22 = .ok (.iconst 1, 1) := by decide +kernel
theorem dX12_broken_23 : decode cX12_broken 23 = .ok (.if_icmp .ne 5, 3) := by decide +kernel
theorem dX12_broken_26 : decode cX12_broken 26 = .ok (.iconst 1, 1) := by decide +kernel
theorem dX12_broken_27 : decode cX12_broken 27 = .ok (.ireturn, 1) := by decide +kernel
theorem dX12_broken_28 : decode cX12_broken 28 = .ok (.iinc 2 1, 3) := by decide +kernel
theorem dX12_broken_31 : decode cX12_broken 31 = .ok (.goto (-29), 3) := by decide +kernel
theorem dX12_broken_34 : decode cX12_broken 34 = .ok (.iconst 0, 1) := by decide +kernel
theorem dX12_broken_35 : decode cX12_broken 35 = .ok (.istore_n 2, 1) := by decide +kernel
theorem dX12_broken_36 : decode cX12_broken 36 = .ok (.iload_n 2, 1) := by decide +kernel
theorem dX12_broken_37 : decode cX12_broken 37 = .ok (.aload_n 0, 1) := by decide +kernel
theorem dX12_broken_38 : decode cX12_broken 38 = .ok (.iload_n 1, 1) := by decide +kernel
theorem dX12_broken_39 : decode cX12_broken 39 = .ok (.invokevirtual 59, 3) := by decide +kernel
theorem dX12_broken_42 : decode cX12_broken 42 = .ok (.if_icmp .ge 56, 3) := by decide +kernel
theorem dX12_broken_45 : decode cX12_broken 45 = .ok (.iconst 0, 1) := by decide +kernel
theorem dX12_broken_46 : decode cX12_broken 46 = .ok (.istore_n 3, 1) := by decide +kernel
theorem dX12_broken_47 : decode cX12_broken 47 = .ok (.iload_n 3, 1) := by decide +kernel
theorem dX12_broken_48 : decode cX12_broken 48 = .ok (.iload_n 2, 1) := by decide +kernel
theorem dX12_broken_49 : decode cX12_broken 49 = .ok (.if_icmp .ge 43, 3) := by decide +kernel
theorem dX12_broken_52 : decode cX12_broken 52 = .ok (.aload_n 0, 1) := by decide +kernel
theorem dX12_broken_53 : decode cX12_broken 53 = .ok (.iload_n 1, 1) := by decide +kernel
theorem dX12_broken_54 : decode cX12_broken 54 = .ok (.iload_n 2, 1) := by decide +kernel
theorem dX12_broken_55 : decode cX12_broken 55 = .ok (.iload_n 3, 1) := by decide +kernel
theorem dX12_broken_56 : decode cX12_broken 56 = .ok (.invokevirtual 108, 3) := by decide +kernel
theorem dX12_broken_59 : decode cX12_broken 59 = .ok (.ifCond .ne 27, 3) := by decide +kernel
theorem dX12_broken_62 : decode cX12_broken 62 = .ok (.aload_n 0, 1) := by decide +kernel
theorem dX12_broken_63 : decode cX12_broken 63 = .ok (.iload_n 1, 1) := by decide +kernel
theorem dX12_broken_64 : decode cX12_broken 64 = .ok (.iload_n 2, 1) := by decide +kernel
theorem dX12_broken_65 : decode cX12_broken 65 = .ok (.invokevirtual 129, 3) := by decide +kernel
theorem dX12_broken_68 : decode cX12_broken 68 = .ok (.aload_n 0, 1) := by decide +kernel
theorem dX12_broken_69 : decode cX12_broken 69 = .ok (.iload_n 1, 1) := by decide +kernel
theorem dX12_broken_70 : decode cX12_broken 70 = .ok (.iload_n 3, 1) := by decide +kernel
theorem dX12_broken_71 : decode cX12_broken 71 = .ok (.invokevirtual 129, 3) := by decide +kernel
theorem dX12_broken_74 : decode cX12_broken 74 = .ok (.iand, 1) := by decide +kernel
theorem dX12_broken_75 : decode cX12_broken 75 = .ok (.invokestatic 132, 3) := by decide +kernel
theorem dX12_broken_78 : decode cX12_broken 78 = .ok (.iconst 2, 1) := by decide +kernel
theorem dX12_broken_79 : decode cX12_broken 79 = .ok (.irem, 1) := by decide +kernel
theorem dX12_broken_80 : decode cX12_broken 80 = .ok (.iconst 1, 1) := by decide +kernel
theorem dX12_broken_81 : decode cX12_broken 81 = .ok (.if_icmp .ne 5, 3) := by decide +kernel
theorem dX12_broken_84 : decode cX12_broken 84 = .ok (.iconst 2, 1) := by decide +kernel
theorem dX12_broken_85 : decode cX12_broken 85 = .ok (.ireturn, 1) := by decide +kernel
theorem dX12_broken_86 : decode cX12_broken 86 = .ok (.iinc 3 1, 3) := by decide +kernel
theorem dX12_broken_89 : decode cX12_broken 89 = .ok (.goto (-42), 3) := by decide +kernel
theorem dX12_broken_92 : decode cX12_broken 92 = .ok (.iinc 2 1, 3) := by decide +kernel
theorem dX12_broken_95 : decode cX12_broken 95 = .ok (.goto (-59), 3) := by decide +kernel
theorem dX12_broken_98 : decode cX12_broken 98 = .ok (.iconst 0, 1) := by decide +kernel
theorem dX12_broken_99 : decode cX12_broken 99 = .ok (.istore_n 2, 1) := by decide +kernel
theorem dX12_broken_100 : decode cX12_broken 100 = .ok (.iload_n 2, 1) := by decide +kernel
theorem dX12_broken_101 : decode cX12_broken 101 = .ok (.iconst 1, 1) := by decide +kernel
theorem dX12_broken_102 : decode cX12_broken 102 = .ok (.aload_n 0, 1) := by decide +kernel
theorem dX12_broken_103 : decode cX12_broken 103 = .ok (.iload_n 1, 1) := by decide +kernel
theorem dX12_broken_104 : decode cX12_broken 104 = .ok (.invokevirtual 59, 3) := by decide +kernel
theorem dX12_broken_107 : decode cX12_broken 107 = .ok (.ishl, 1) := by decide +kernel
theorem dX12_broken_108 : decode cX12_broken 108 = .ok (.if_icmp .ge 20, 3) := by decide +kernel
theorem dX12_broken_111 : decode cX12_broken 111 = .ok (.aload_n 0, 1) := by decide +kernel
theorem dX12_broken_112 : decode cX12_broken 112 = .ok (.iload_n 1, 1) := by decide +kernel
theorem dX12_broken_113 : decode cX12_broken 113 = .ok (.iload_n 2, 1) := by decide +kernel
theorem dX12_broken_114 : decode cX12_broken 114 = .ok (.invokevirtual 135, 3) := by decide +kernel
theorem dX12_broken_117 : decode cX12_broken 117 = .ok (.ifCond .eq 5, 3) := by decide +kernel
theorem dX12_broken_120 : decode cX12_broken 120 = .ok (.iconst 0, 1) := by decide +kernel
theorem dX12_broken_121 : decode cX12_broken 121 = .ok (.ireturn, 1) := by decide +kernel
theorem dX12_broken_122 : decode cX12_broken 122 = .ok (.iinc 2 1, 3) := by decide +kernel
theorem dX12_broken_125 : decode cX12_broken 125 = .ok (.goto (-25), 3) := by decide +kernel
theorem dX12_broken_128 : decode cX12_broken 128 = .ok (.iconst 3, 1) := by decide +kernel
theorem dX12_broken_129 : decode cX12_broken 129 = .ok (.ireturn, 1) := by decide +kernel
theorem dX12_leavesAs_0 : decode cX12_leavesAs 0 = .ok (.aload_n 0, 1) := by decide +kernel
theorem dX12_leavesAs_1 : decode cX12_leavesAs 1 = .ok (.iload_n 1, 1) := by decide +kernel
theorem dX12_leavesAs_2 : decode cX12_leavesAs 2 = .ok (.iload_n 2, 1) := by decide +kernel
theorem dX12_leavesAs_3 : decode cX12_leavesAs 3 = .ok (.invokevirtual 63, 3) := by decide +kernel
theorem dX12_leavesAs_6 : decode cX12_leavesAs 6 = .ok (.istore_n 3, 1) := by decide +kernel
theorem dX12_leavesAs_7 : decode cX12_leavesAs 7 = .ok (.aload_n 0, 1) := by decide +kernel
theorem dX12_leavesAs_8 : decode cX12_leavesAs 8 = .ok (.iload_n 1, 1) := by decide +kernel
theorem dX12_leavesAs_9 : decode cX12_leavesAs 9 = .ok (.iload_n 3, 1) := by decide +kernel
theorem dX12_leavesAs_10 : decode cX12_leavesAs 10 = .ok (.iconst 0, 1) := by decide +kernel
theorem dX12_leavesAs_11 : decode cX12_leavesAs 11 = .ok (.invokevirtual 104, 3) := by decide +kernel
theorem dX12_leavesAs_14 : decode cX12_leavesAs 14 = .ok (.iload_n 2, 1) := by decide +kernel
theorem dX12_leavesAs_15 : decode cX12_leavesAs 15 = .ok (.if_icmp .ne 7, 3) := by decide +kernel
theorem dX12_leavesAs_18 : decode cX12_leavesAs 18 = .ok (.iconst 0, 1) := by decide +kernel
theorem dX12_leavesAs_19 : decode cX12_leavesAs 19 = .ok (.goto 19, 3) := by decide +kernel
theorem dX12_leavesAs_22 : decode cX12_leavesAs 22 = .ok (.aload_n 0, 1) := by decide +kernel
theorem dX12_leavesAs_23 : decode cX12_leavesAs 23 = .ok (.getfield 138, 3) := by decide +kernel
theorem dX12_leavesAs_26 : decode cX12_leavesAs 26 = .ok (.iload_n 3, 1) := by decide +kernel
theorem dX12_leavesAs_27 : decode cX12_leavesAs 27 = .ok (.invokestatic 125, 3) := by decide +kernel
theorem dX12_leavesAs_30 : decode cX12_leavesAs 30 = .ok (.ifCond .eq 7, 3) := by decide +kernel
theorem dX12_leavesAs_33 : decode cX12_leavesAs 33 = .ok (.iconst 3, 1) := by decide +kernel
theorem dX12_leavesAs_34 : decode cX12_leavesAs 34 = .ok (.goto 4, 3) := by decide +kernel
theorem dX12_leavesAs_37 : decode cX12_leavesAs 37 = .ok (.iconst 1, 1) := by decide +kernel
theorem dX12_leavesAs_38 : decode cX12_leavesAs 38 = .ok (.ireturn, 1) := by decide +kernel
theorem dX12_comesAs_0 : decode cX12_comesAs 0 = .ok (.iload_n 2, 1) := by decide +kernel
theorem dX12_comesAs_1 : decode cX12_comesAs 1 = .ok (.iconst 1, 1) := by decide +kernel
theorem dX12_comesAs_2 : decode cX12_comesAs 2 = .ok (.iadd, 1) := by decide +kernel
theorem dX12_comesAs_3 : decode cX12_comesAs 3 = .ok (.iconst 2, 1) := by decide +kernel
theorem dX12_comesAs_4 : decode cX12_comesAs 4 = .ok (.aload_n 0, 1) := by decide +kernel
theorem dX12_comesAs_5 : decode cX12_comesAs 5 = .ok (.iload_n 1, 1) := by decide +kernel
theorem dX12_comesAs_6 : decode cX12_comesAs 6 = .ok (.invokevirtual 59, 3) := by decide +kernel
theorem dX12_comesAs_9 : decode cX12_comesAs 9 = .ok (.imul, 1) := by decide +kernel
theorem dX12_comesAs_10 : decode cX12_comesAs 10 = .ok (.irem, 1) := by decide +kernel
theorem dX12_comesAs_11 : decode cX12_comesAs 11 = .ok (.istore_n 3, 1) := by decide +kernel
theorem dX12_comesAs_12 : decode cX12_comesAs 12 = .ok (.aload_n 0, 1) := by decide +kernel
theorem dX12_comesAs_13 : decode cX12_comesAs 13 = .ok (.iload_n 1, 1) := by decide +kernel
theorem dX12_comesAs_14 : decode cX12_comesAs 14 = .ok (.iload_n 3, 1) := by decide +kernel
theorem dX12_comesAs_15 : decode cX12_comesAs 15 = .ok (.invokevirtual 63, 3) := by decide +kernel
theorem dX12_comesAs_18 : decode cX12_comesAs 18 = .ok (.istore 4, 2) := by decide +kernel
theorem dX12_comesAs_20 : decode cX12_comesAs 20 = .ok (.aload_n 0, 1) := by decide +kernel
theorem dX12_comesAs_21 : decode cX12_comesAs 21 = .ok (.iload_n 1, 1) := by decide +kernel
theorem dX12_comesAs_22 : decode cX12_comesAs 22 = .ok (.iload 4, 2) := by decide +kernel
theorem dX12_comesAs_24 : decode cX12_comesAs 24 = .ok (.iconst 0, 1) := by decide +kernel
theorem dX12_comesAs_25 : decode cX12_comesAs 25 = .ok (.invokevirtual 104, 3) := by decide +kernel
theorem dX12_comesAs_28 : decode cX12_comesAs 28 = .ok (.iload_n 3, 1) := by decide +kernel
theorem dX12_comesAs_29 : decode cX12_comesAs 29 = .ok (.if_icmp .ne 7, 3) := by decide +kernel
theorem dX12_comesAs_32 : decode cX12_comesAs 32 = .ok (.iconst 2, 1) := by decide +kernel
theorem dX12_comesAs_33 : decode cX12_comesAs 33 = .ok (.goto 20, 3) := by decide +kernel
theorem dX12_comesAs_36 : decode cX12_comesAs 36 = .ok (.aload_n 0, 1) := by decide +kernel
theorem dX12_comesAs_37 : decode cX12_comesAs 37 = .ok (.getfield 138, 3) := by decide +kernel
theorem dX12_comesAs_40 : decode cX12_comesAs 40 = .ok (.iload 4, 2) := by decide +kernel
theorem dX12_comesAs_42 : decode cX12_comesAs 42 = .ok (.invokestatic 125, 3) := by decide +kernel
theorem dX12_comesAs_45 : decode cX12_comesAs 45 = .ok (.ifCond .eq 7, 3) := by decide +kernel
theorem dX12_comesAs_48 : decode cX12_comesAs 48 = .ok (.iconst 1, 1) := by decide +kernel
theorem dX12_comesAs_49 : decode cX12_comesAs 49 = .ok (.goto 4, 3) := by decide +kernel
theorem dX12_comesAs_52 : decode cX12_comesAs 52 = .ok (.iconst 3, 1) := by decide +kernel
theorem dX12_comesAs_53 : decode cX12_comesAs 53 = .ok (.ireturn, 1) := by decide +kernel
theorem dX12_leftCorner_0 : decode cX12_leftCorner 0 = .ok (.iconst 4, 1) := by decide +kernel
theorem dX12_leftCorner_1 : decode cX12_leftCorner 1 = .ok (.aload_n 0, 1) := by decide +kernel
theorem dX12_leftCorner_2 : decode cX12_leftCorner 2 = .ok (.iload_n 1, 1) := by decide +kernel
theorem dX12_leftCorner_3 : decode cX12_leftCorner 3 = .ok (.iload_n 2, 1) := by decide +kernel
theorem dX12_leftCorner_4 : decode cX12_leftCorner 4 = .ok (.invokevirtual 63, 3) := by decide +kernel
theorem dX12_leftCorner_7 : decode cX12_leftCorner 7 = .ok (.imul, 1) := by decide +kernel
theorem dX12_leftCorner_8 : decode cX12_leftCorner 8 = .ok (.aload_n 0, 1) := by decide +kernel
theorem dX12_leftCorner_9 : decode cX12_leftCorner 9 = .ok (.iload_n 1, 1) := by decide +kernel
theorem dX12_leftCorner_10 : decode cX12_leftCorner 10 = .ok (.iload_n 2, 1) := by decide +kernel
theorem dX12_leftCorner_11 : decode cX12_leftCorner 11 = .ok (.invokevirtual 141, 3) := by decide +kernel
theorem dX12_leftCorner_14 : decode cX12_leftCorner 14 = .ok (.iadd, 1) := by decide +kernel
theorem dX12_leftCorner_15 : decode cX12_leftCorner 15 = .ok (.ireturn, 1) := by decide +kernel
theorem dX12_rightCorner_0 : decode cX12_rightCorner 0 = .ok (.iconst 4, 1) := by decide +kernel
theorem dX12_rightCorner_1 : decode cX12_rightCorner 1 = .ok (.aload_n 0, 1) := by decide +kernel
theorem dX12_rightCorner_2 : decode cX12_rightCorner 2 = .ok (.iload_n 1, 1) := by decide +kernel
theorem dX12_rightCorner_3 : decode cX12_rightCorner 3 = .ok (.iload_n 2, 1) := by decide +kernel
theorem dX12_rightCorner_4 : decode cX12_rightCorner 4 = .ok (.invokevirtual 63, 3) := by decide +kernel
theorem dX12_rightCorner_7 : decode cX12_rightCorner 7 = .ok (.imul, 1) := by decide +kernel
theorem dX12_rightCorner_8 : decode cX12_rightCorner 8 = .ok (.aload_n 0, 1) := by decide +kernel
theorem dX12_rightCorner_9 : decode cX12_rightCorner 9 = .ok (.iload_n 1, 1) := by decide +kernel
theorem dX12_rightCorner_10 : decode cX12_rightCorner 10 = .ok (.iload_n 2, 1) := by decide +kernel
theorem dX12_rightCorner_11 : decode cX12_rightCorner 11 = .ok (.invokevirtual 141, 3) := by decide +kernel
theorem dX12_rightCorner_14 : decode cX12_rightCorner 14 = .ok (.iconst 3, 1) := by decide +kernel
theorem dX12_rightCorner_15 : decode cX12_rightCorner 15 = .ok (.iadd, 1) := by decide +kernel
theorem dX12_rightCorner_16 : decode cX12_rightCorner 16 = .ok (.iconst 4, 1) := by decide +kernel
theorem dX12_rightCorner_17 : decode cX12_rightCorner 17 = .ok (.irem, 1) := by decide +kernel
theorem dX12_rightCorner_18 : decode cX12_rightCorner 18 = .ok (.iadd, 1) := by decide +kernel
theorem dX12_rightCorner_19 : decode cX12_rightCorner 19 = .ok (.ireturn, 1) := by decide +kernel
theorem dX12_leftFar_0 : decode cX12_leftFar 0 = .ok (.iconst 4, 1) := by decide +kernel
theorem dX12_leftFar_1 : decode cX12_leftFar 1 = .ok (.aload_n 0, 1) := by decide +kernel
theorem dX12_leftFar_2 : decode cX12_leftFar 2 = .ok (.iload_n 1, 1) := by decide +kernel
theorem dX12_leftFar_3 : decode cX12_leftFar 3 = .ok (.iload_n 2, 1) := by decide +kernel
theorem dX12_leftFar_4 : decode cX12_leftFar 4 = .ok (.iconst 1, 1) := by decide +kernel
theorem dX12_leftFar_5 : decode cX12_leftFar 5 = .ok (.iadd, 1) := by decide +kernel
theorem dX12_leftFar_6 : decode cX12_leftFar 6 = .ok (.iconst 2, 1) := by decide +kernel
theorem dX12_leftFar_7 : decode cX12_leftFar 7 = .ok (.aload_n 0, 1) := by decide +kernel
theorem dX12_leftFar_8 : decode cX12_leftFar 8 = .ok (.iload_n 1, 1) := by decide +kernel
theorem dX12_leftFar_9 : decode cX12_leftFar 9 = .ok (.invokevirtual 59, 3) := by decide +kernel
theorem dX12_leftFar_12 : decode cX12_leftFar 12 = .ok (.imul, 1) := by decide +kernel
theorem dX12_leftFar_13 : decode cX12_leftFar 13 = .ok (.irem, 1) := by decide +kernel
theorem dX12_leftFar_14 : decode cX12_leftFar 14 = .ok (.invokevirtual 63, 3) := by decide +kernel
theorem dX12_leftFar_17 : decode cX12_leftFar 17 = .ok (.imul, 1) := by decide +kernel
theorem dX12_leftFar_18 : decode cX12_leftFar 18 = .ok (.aload_n 0, 1) := by decide +kernel
theorem dX12_leftFar_19 : decode cX12_leftFar 19 = .ok (.iload_n 1, 1) := by decide +kernel
theorem dX12_leftFar_20 : decode cX12_leftFar 20 = .ok (.iload_n 2, 1) := by decide +kernel
theorem dX12_leftFar_21 : decode cX12_leftFar 21 = .ok (.invokevirtual 144, 3) := by decide +kernel
theorem dX12_leftFar_24 : decode cX12_leftFar 24 = .ok (.iconst 3, 1) := by decide +kernel
theorem dX12_leftFar_25 : decode cX12_leftFar 25 = .ok (.iadd, 1) := by decide +kernel
theorem dX12_leftFar_26 : decode cX12_leftFar 26 = .ok (.iconst 4, 1) := by decide +kernel
theorem dX12_leftFar_27 : decode cX12_leftFar 27 = .ok (.irem, 1) := by decide +kernel
theorem dX12_leftFar_28 : decode cX12_leftFar 28 = .ok (.iadd, 1) := by decide +kernel
theorem dX12_leftFar_29 : decode cX12_leftFar 29 = .ok (.ireturn, 1) := by decide +kernel
theorem dX12_rightFar_0 : decode cX12_rightFar 0 = .ok (.iconst 4, 1) := by decide +kernel
theorem dX12_rightFar_1 : decode cX12_rightFar 1 = .ok (.aload_n 0, 1) := by decide +kernel
theorem dX12_rightFar_2 : decode cX12_rightFar 2 = .ok (.iload_n 1, 1) := by decide +kernel
theorem dX12_rightFar_3 : decode cX12_rightFar 3 = .ok (.iload_n 2, 1) := by decide +kernel
theorem dX12_rightFar_4 : decode cX12_rightFar 4 = .ok (.iconst 1, 1) := by decide +kernel
theorem dX12_rightFar_5 : decode cX12_rightFar 5 = .ok (.iadd, 1) := by decide +kernel
theorem dX12_rightFar_6 : decode cX12_rightFar 6 = .ok (.iconst 2, 1) := by decide +kernel
theorem dX12_rightFar_7 : decode cX12_rightFar 7 = .ok (.aload_n 0, 1) := by decide +kernel
theorem dX12_rightFar_8 : decode cX12_rightFar 8 = .ok (.iload_n 1, 1) := by decide +kernel
theorem dX12_rightFar_9 : decode cX12_rightFar 9 = .ok (.invokevirtual 59, 3) := by decide +kernel
theorem dX12_rightFar_12 : decode cX12_rightFar 12 = .ok (.imul, 1) := by decide +kernel
theorem dX12_rightFar_13 : decode cX12_rightFar 13 = .ok (.irem, 1) := by decide +kernel
theorem dX12_rightFar_14 : decode cX12_rightFar 14 = .ok (.invokevirtual 63, 3) := by decide +kernel
theorem dX12_rightFar_17 : decode cX12_rightFar 17 = .ok (.imul, 1) := by decide +kernel
theorem dX12_rightFar_18 : decode cX12_rightFar 18 = .ok (.aload_n 0, 1) := by decide +kernel
theorem dX12_rightFar_19 : decode cX12_rightFar 19 = .ok (.iload_n 1, 1) := by decide +kernel
theorem dX12_rightFar_20 : decode cX12_rightFar 20 = .ok (.iload_n 2, 1) := by decide +kernel
theorem dX12_rightFar_21 : decode cX12_rightFar 21 = .ok (.invokevirtual 144, 3) := by decide +kernel
theorem dX12_rightFar_24 : decode cX12_rightFar 24 = .ok (.iadd, 1) := by decide +kernel
theorem dX12_rightFar_25 : decode cX12_rightFar 25 = .ok (.ireturn, 1) := by decide +kernel
theorem dX12_laysFaces_0 : decode cX12_laysFaces 0 = .ok (.aload_n 0, 1) := by decide +kernel
theorem dX12_laysFaces_1 : decode cX12_laysFaces 1 = .ok (.iload_n 2, 1) := by decide +kernel
theorem dX12_laysFaces_2 : decode cX12_laysFaces 2 = .ok (.putfield 138, 3) := by decide +kernel
theorem dX12_laysFaces_5 : decode cX12_laysFaces 5 = .ok (.aload_n 0, 1) := by decide +kernel
theorem dX12_laysFaces_6 : decode cX12_laysFaces 6 = .ok (.iconst 4, 1) := by decide +kernel
theorem dX12_laysFaces_7 : decode cX12_laysFaces 7 = .ok (.aload_n 0, 1) := by decide +kernel
theorem dX12_laysFaces_8 : decode cX12_laysFaces 8 = .ok (.iload_n 1, 1) := by decide +kernel
theorem dX12_laysFaces_9 : decode cX12_laysFaces 9 = .ok (.invokevirtual 59, 3) := by decide +kernel
theorem dX12_laysFaces_12 : decode cX12_laysFaces 12 = .ok (.imul, 1) := by decide +kernel
theorem dX12_laysFaces_13 : decode cX12_laysFaces 13 = .ok (.invokevirtual 116, 3) := by decide +kernel
theorem dX12_laysFaces_16 : decode cX12_laysFaces 16 = .ok (.aload_n 0, 1) := by decide +kernel
theorem dX12_laysFaces_17 : decode cX12_laysFaces 17 = .ok (.iconst 1, 1) := by decide +kernel
theorem dX12_laysFaces_18 : decode cX12_laysFaces 18 = .ok (.putfield 112, 3) := by decide +kernel
theorem dX12_laysFaces_21 : decode cX12_laysFaces 21 = .ok (.aload_n 0, 1) := by decide +kernel
theorem dX12_laysFaces_22 : decode cX12_laysFaces 22 = .ok (.getfield 112, 3) := by decide +kernel
theorem dX12_laysFaces_25 : decode cX12_laysFaces 25 = .ok (.ifCond .eq 62, 3) := by decide +kernel
theorem dX12_laysFaces_28 : decode cX12_laysFaces 28 = .ok (.aload_n 0, 1) := by decide +kernel
theorem dX12_laysFaces_29 : decode cX12_laysFaces 29 = .ok (.iconst 0, 1) := by decide +kernel
theorem dX12_laysFaces_30 : decode cX12_laysFaces 30 = .ok (.putfield 112, 3) := by decide +kernel
theorem dX12_laysFaces_33 : decode cX12_laysFaces 33 = .ok (.iconst 0, 1) := by decide +kernel
theorem dX12_laysFaces_34 : decode cX12_laysFaces 34 = .ok (.istore_n 3, 1) := by decide +kernel
theorem dX12_laysFaces_35 : decode cX12_laysFaces 35 = .ok (.iload_n 3, 1) := by decide +kernel
theorem dX12_laysFaces_36 : decode cX12_laysFaces 36 = .ok (.iconst 2, 1) := by decide +kernel
theorem dX12_laysFaces_37 : decode cX12_laysFaces 37 = .ok (.aload_n 0, 1) := by decide +kernel
theorem dX12_laysFaces_38 : decode cX12_laysFaces 38 = .ok (.iload_n 1, 1) := by decide +kernel
theorem dX12_laysFaces_39 : decode cX12_laysFaces 39 = .ok (.invokevirtual 59, 3) := by decide +kernel
theorem dX12_laysFaces_42 : decode cX12_laysFaces 42 = .ok (.imul, 1) := by decide +kernel
theorem dX12_laysFaces_43 : decode cX12_laysFaces 43 = .ok (.if_icmp .ge 41, 3) := by decide +kernel
theorem dX12_laysFaces_46 : decode cX12_laysFaces 46 = .ok (.aload_n 0, 1) := by decide +kernel
theorem dX12_laysFaces_47 : decode cX12_laysFaces 47 = .ok (.aload_n 0, 1) := by decide +kernel
theorem dX12_laysFaces_48 : decode cX12_laysFaces 48 = .ok (.iload_n 1, 1) := by decide +kernel
theorem dX12_laysFaces_49 : decode cX12_laysFaces 49 = .ok (.iload_n 3, 1) := by decide +kernel
theorem dX12_laysFaces_50 : decode cX12_laysFaces 50 = .ok (.invokevirtual 147, 3) := by decide +kernel
theorem dX12_laysFaces_53 : decode cX12_laysFaces 53 = .ok (.aload_n 0, 1) := by decide +kernel
theorem dX12_laysFaces_54 : decode cX12_laysFaces 54 = .ok (.iload_n 1, 1) := by decide +kernel
theorem dX12_laysFaces_55 : decode cX12_laysFaces 55 = .ok (.iload_n 3, 1) := by decide +kernel
theorem dX12_laysFaces_56 : decode cX12_laysFaces 56 = .ok (.invokevirtual 150, 3) := by decide +kernel
theorem dX12_laysFaces_59 : decode cX12_laysFaces 59 = .ok (.invokevirtual 119, 3) := by decide +kernel
theorem dX12_laysFaces_62 : decode cX12_laysFaces 62 = .ok (.aload_n 0, 1) := by decide +kernel
theorem dX12_laysFaces_63 : decode cX12_laysFaces 63 = .ok (.aload_n 0, 1) := by decide +kernel
theorem dX12_laysFaces_64 : decode cX12_laysFaces 64 = .ok (.iload_n 1, 1) := by decide +kernel
theorem dX12_laysFaces_65 : decode cX12_laysFaces 65 = .ok (.iload_n 3, 1) := by decide +kernel
theorem dX12_laysFaces_66 : decode cX12_laysFaces 66 = .ok (.invokevirtual 153, 3) := by decide +kernel
theorem dX12_laysFaces_69 : decode cX12_laysFaces 69 = .ok (.aload_n 0, 1) := by decide +kernel
theorem dX12_laysFaces_70 : decode cX12_laysFaces 70 = .ok (.iload_n 1, 1) := by decide +kernel
theorem dX12_laysFaces_71 : decode cX12_laysFaces 71 = .ok (.iload_n 3, 1) := by decide +kernel
theorem dX12_laysFaces_72 : decode cX12_laysFaces 72 = .ok (.invokevirtual 156, 3) := by decide +kernel
theorem dX12_laysFaces_75 : decode cX12_laysFaces 75 = .ok (.invokevirtual 119, 3) := by decide +kernel
theorem dX12_laysFaces_78 : decode cX12_laysFaces 78 = .ok (.iinc 3 1, 3) := by decide +kernel
theorem dX12_laysFaces_81 : decode cX12_laysFaces 81 = .ok (.goto (-46), 3) := by decide +kernel
theorem dX12_laysFaces_84 : decode cX12_laysFaces 84 = .ok (.goto (-63), 3) := by decide +kernel
theorem dX12_laysFaces_87 : decode cX12_laysFaces 87 = .ok (.aload_n 0, 1) := by decide +kernel
theorem dX12_laysFaces_88 : decode cX12_laysFaces 88 = .ok (.iload_n 1, 1) := by decide +kernel
theorem dX12_laysFaces_89 : decode cX12_laysFaces 89 = .ok (.invokevirtual 59, 3) := by decide +kernel
theorem dX12_laysFaces_92 : decode cX12_laysFaces 92 = .ok (.ifCond .ne 7, 3) := by decide +kernel
theorem dX12_laysFaces_95 : decode cX12_laysFaces 95 = .ok (.iconst 2, 1) := by decide +kernel
theorem dX12_laysFaces_96 : decode cX12_laysFaces 96 = .ok (.goto 14, 3) := by decide +kernel
theorem dX12_laysFaces_99 : decode cX12_laysFaces 99 = .ok (.aload_n 0, 1) := by decide +kernel
theorem dX12_laysFaces_100 : decode cX12_laysFaces 100 = .ok (.iconst 4, 1) := by decide +kernel
theorem dX12_laysFaces_101 : decode cX12_laysFaces 101 = .ok (.aload_n 0, 1) := by decide +kernel
theorem dX12_laysFaces_102 : decode cX12_laysFaces 102 = .ok (.iload_n 1, 1) := by decide +kernel
theorem dX12_laysFaces_103 : decode cX12_laysFaces 103 = .ok (.invokevirtual 59, 3) := by decide +kernel
theorem dX12_laysFaces_106 : decode cX12_laysFaces 106 = .ok (.imul, 1) := by decide +kernel
theorem dX12_laysFaces_107 : decode cX12_laysFaces 107 = .ok (.invokevirtual 122, 3) := by decide +kernel
theorem dX12_laysFaces_110 : decode cX12_laysFaces 110 = .ok (.ireturn, 1) := by decide +kernel
theorem dX12_isPlane_0 : decode cX12_isPlane 0 = .ok (.aload_n 0, 1) := by decide +kernel
theorem dX12_isPlane_1 : decode cX12_isPlane 1 = .ok (.iload_n 1, 1) := by decide +kernel
theorem dX12_isPlane_2 : decode cX12_isPlane 2 = .ok (.iload_n 2, 1) := by decide +kernel
theorem dX12_isPlane_3 : decode cX12_isPlane 3 = .ok (.invokevirtual 159, 3) := by decide +kernel
theorem dX12_isPlane_6 : decode cX12_isPlane 6 = .ok (.aload_n 0, 1) := by decide +kernel
theorem dX12_isPlane_7 : decode cX12_isPlane 7 = .ok (.iload_n 1, 1) := by decide +kernel
theorem dX12_isPlane_8 : decode cX12_isPlane 8 = .ok (.invokevirtual 59, 3) := by decide +kernel
theorem dX12_isPlane_11 : decode cX12_isPlane 11 = .ok (.iconst 2, 1) := by decide +kernel
theorem dX12_isPlane_12 : decode cX12_isPlane 12 = .ok (.iadd, 1) := by decide +kernel
theorem dX12_isPlane_13 : decode cX12_isPlane 13 = .ok (.if_icmp .ne 7, 3) := by decide +kernel
theorem dX12_isPlane_16 : decode cX12_isPlane 16 = .ok (.iconst 1, 1) := by decide +kernel
theorem dX12_isPlane_17 : decode cX12_isPlane 17 = .ok (.goto 4, 3) := by decide +kernel
theorem dX12_isPlane_20 : decode cX12_isPlane 20 = .ok (.iconst 0, 1) := by decide +kernel
theorem dX12_isPlane_21 : decode cX12_isPlane 21 = .ok (.ireturn, 1) := by decide +kernel
theorem dX12_drawn_0 : decode cX12_drawn 0 = .ok (.iconst 0, 1) := by decide +kernel
theorem dX12_drawn_1 : decode cX12_drawn 1 = .ok (.istore_n 2, 1) := by decide +kernel
theorem dX12_drawn_2 : decode cX12_drawn 2 = .ok (.iload_n 2, 1) := by decide +kernel
theorem dX12_drawn_3 : decode cX12_drawn 3 = .ok (.iconst 1, 1) := by decide +kernel
theorem dX12_drawn_4 : decode cX12_drawn 4 = .ok (.aload_n 0, 1) := by decide +kernel
theorem dX12_drawn_5 : decode cX12_drawn 5 = .ok (.iload_n 1, 1) := by decide +kernel
theorem dX12_drawn_6 : decode cX12_drawn 6 = .ok (.invokevirtual 59, 3) := by decide +kernel
theorem dX12_drawn_9 : decode cX12_drawn 9 = .ok (.ishl, 1) := by decide +kernel
theorem dX12_drawn_10 : decode cX12_drawn 10 = .ok (.if_icmp .ge 20, 3) := by decide +kernel
theorem dX12_drawn_13 : decode cX12_drawn 13 = .ok (.aload_n 0, 1) := by decide +kernel
theorem dX12_drawn_14 : decode cX12_drawn 14 = .ok (.iload_n 1, 1) := by decide +kernel
theorem dX12_drawn_15 : decode cX12_drawn 15 = .ok (.iload_n 2, 1) := by decide +kernel
theorem dX12_drawn_16 : decode cX12_drawn 16 = .ok (.invokevirtual 162, 3) := by decide +kernel
theorem dX12_drawn_19 : decode cX12_drawn 19 = .ok (.ifCond .eq 5, 3) := by decide +kernel
theorem dX12_drawn_22 : decode cX12_drawn 22 = .ok (.iload_n 2, 1) := by decide +kernel
theorem dX12_drawn_23 : decode cX12_drawn 23 = .ok (.ireturn, 1) := by decide +kernel
theorem dX12_drawn_24 : decode cX12_drawn 24 = .ok (.iinc 2 1, 3) := by decide +kernel
theorem dX12_drawn_27 : decode cX12_drawn 27 = .ok (.goto (-25), 3) := by decide +kernel
theorem dX12_drawn_30 : decode cX12_drawn 30 = .ok (.iconst (-1), 1) := by decide +kernel
theorem dX12_drawn_31 : decode cX12_drawn 31 = .ok (.ireturn, 1) := by decide +kernel
theorem dX12_drawings_0 : decode cX12_drawings 0 = .ok (.iconst 0, 1) := by decide +kernel
theorem dX12_drawings_1 : decode cX12_drawings 1 = .ok (.istore_n 2, 1) := by decide +kernel
theorem dX12_drawings_2 : decode cX12_drawings 2 = .ok (.iconst 0, 1) := by decide +kernel
theorem dX12_drawings_3 : decode cX12_drawings 3 = .ok (.istore_n 3, 1) := by decide +kernel
theorem dX12_drawings_4 : decode cX12_drawings 4 = .ok (.iload_n 3, 1) := by decide +kernel
theorem dX12_drawings_5 : decode cX12_drawings 5 = .ok (.iconst 1, 1) := by decide +kernel
theorem dX12_drawings_6 : decode cX12_drawings 6 = .ok (.aload_n 0, 1) := by decide +kernel
theorem dX12_drawings_7 : decode cX12_drawings 7 = .ok (.iload_n 1, 1) := by decide +kernel
theorem dX12_drawings_8 : decode cX12_drawings 8 = .ok (.invokevirtual 59, 3) := by decide +kernel
theorem dX12_drawings_11 : decode cX12_drawings 11 = .ok (.ishl, 1) := by decide +kernel
theorem dX12_drawings_12 : decode cX12_drawings 12 = .ok (.if_icmp .ge 26, 3) := by decide +kernel
theorem dX12_drawings_15 : decode cX12_drawings 15 = .ok (.iload_n 2, 1) := by decide +kernel
theorem dX12_drawings_16 : decode cX12_drawings 16 = .ok (.aload_n 0, 1) := by decide +kernel
theorem dX12_drawings_17 : decode cX12_drawings 17 = .ok (.iload_n 1, 1) := by decide +kernel
theorem dX12_drawings_18 : decode cX12_drawings 18 = .ok (.iload_n 3, 1) := by decide +kernel
theorem dX12_drawings_19 : decode cX12_drawings 19 = .ok (.invokevirtual 162, 3) := by decide +kernel
theorem dX12_drawings_22 : decode cX12_drawings 22 = .ok (.ifCond .eq 7, 3) := by decide +kernel
theorem dX12_drawings_25 : decode cX12_drawings 25 = .ok (.iconst 1, 1) := by decide +kernel
theorem dX12_drawings_26 : decode cX12_drawings 26 = .ok (.goto 4, 3) := by decide +kernel
theorem dX12_drawings_29 : decode cX12_drawings 29 = .ok (.iconst 0, 1) := by decide +kernel
theorem dX12_drawings_30 : decode cX12_drawings 30 = .ok (.iadd, 1) := by decide +kernel
theorem dX12_drawings_31 : decode cX12_drawings 31 = .ok (.istore_n 2, 1) := by decide +kernel
theorem dX12_drawings_32 : decode cX12_drawings 32 = .ok (.iinc 3 1, 3) := by decide +kernel
theorem dX12_drawings_35 : decode cX12_drawings 35 = .ok (.goto (-31), 3) := by decide +kernel
theorem dX12_drawings_38 : decode cX12_drawings 38 = .ok (.iload_n 2, 1) := by decide +kernel
theorem dX12_drawings_39 : decode cX12_drawings 39 = .ok (.ireturn, 1) := by decide +kernel
theorem dX12_faceOf_0 : decode cX12_faceOf 0 = .ok (.iconst 0, 1) := by decide +kernel
theorem dX12_faceOf_1 : decode cX12_faceOf 1 = .ok (.istore_n 2, 1) := by decide +kernel
theorem dX12_faceOf_2 : decode cX12_faceOf 2 = .ok (.iconst 0, 1) := by decide +kernel
theorem dX12_faceOf_3 : decode cX12_faceOf 3 = .ok (.istore_n 3, 1) := by decide +kernel
theorem dX12_faceOf_4 : decode cX12_faceOf 4 = .ok (.iload_n 3, 1) := by decide +kernel
theorem dX12_faceOf_5 : decode cX12_faceOf 5 = .ok (.aload_n 0, 1) := by decide +kernel
theorem dX12_faceOf_6 : decode cX12_faceOf 6 = .ok (.getfield 36, 3) := by decide +kernel
theorem dX12_faceOf_9 : decode cX12_faceOf 9 = .ok (.iload_n 1, 1) := by decide +kernel
theorem dX12_faceOf_10 : decode cX12_faceOf 10 = .ok (.iaload, 1) := by decide +kernel
theorem dX12_faceOf_11 : decode cX12_faceOf 11 = .ok (.if_icmp .ge 27, 3) := by decide +kernel
theorem dX12_faceOf_14 : decode cX12_faceOf 14 = .ok (.iload_n 2, 1) := by decide +kernel
theorem dX12_faceOf_15 : decode cX12_faceOf 15 = .ok (.aload_n 0, 1) := by decide +kernel
theorem dX12_faceOf_16 : decode cX12_faceOf 16 = .ok (.getfield 36, 3) := by decide +kernel
theorem dX12_faceOf_19 : decode cX12_faceOf 19 = .ok (.iload_n 3, 1) := by decide +kernel
theorem dX12_faceOf_20 : decode cX12_faceOf 20 = .ok (.iaload, 1) := by decide +kernel
theorem dX12_faceOf_21 : decode cX12_faceOf 21 = .ok (.iload_n 3, 1) := by decide +kernel
theorem dX12_faceOf_22 : decode cX12_faceOf 22 = .ok (.if_icmp .ne 7, 3) := by decide +kernel
theorem dX12_faceOf_25 : decode cX12_faceOf 25 = .ok (.iconst 1, 1) := by decide +kernel
theorem dX12_faceOf_26 : decode cX12_faceOf 26 = .ok (.goto 4, 3) := by decide +kernel
theorem dX12_faceOf_29 : decode cX12_faceOf 29 = .ok (.iconst 0, 1) := by decide +kernel
theorem dX12_faceOf_30 : decode cX12_faceOf 30 = .ok (.iadd, 1) := by decide +kernel
theorem dX12_faceOf_31 : decode cX12_faceOf 31 = .ok (.istore_n 2, 1) := by decide +kernel
theorem dX12_faceOf_32 : decode cX12_faceOf 32 = .ok (.iinc 3 1, 3) := by decide +kernel
theorem dX12_faceOf_35 : decode cX12_faceOf 35 = .ok (.goto (-31), 3) := by decide +kernel
theorem dX12_faceOf_38 : decode cX12_faceOf 38 = .ok (.iload_n 2, 1) := by decide +kernel
theorem dX12_faceOf_39 : decode cX12_faceOf 39 = .ok (.ireturn, 1) := by decide +kernel
theorem dX12_sizeOfFace_0 : decode cX12_sizeOfFace 0 = .ok (.iconst 0, 1) := by decide +kernel
theorem dX12_sizeOfFace_1 : decode cX12_sizeOfFace 1 = .ok (.istore_n 3, 1) := by decide +kernel
theorem dX12_sizeOfFace_2 : decode cX12_sizeOfFace 2 = .ok (.iconst 0, 1) := by decide +kernel
theorem dX12_sizeOfFace_3 : decode cX12_sizeOfFace 3 = .ok (.istore 4, 2) := by decide +kernel
theorem dX12_sizeOfFace_5 : decode cX12_sizeOfFace 5 = .ok (.iload 4, 2) := by decide +kernel
theorem dX12_sizeOfFace_7 : decode cX12_sizeOfFace 7 = .ok (.iconst 4, 1) := by decide +kernel
theorem dX12_sizeOfFace_8 : decode cX12_sizeOfFace 8 = .ok (.aload_n 0, 1) := by decide +kernel
theorem dX12_sizeOfFace_9 : decode cX12_sizeOfFace 9 = .ok (.iload_n 1, 1) := by decide +kernel
theorem dX12_sizeOfFace_10 : decode cX12_sizeOfFace 10 = .ok (.invokevirtual 59, 3) := by decide +kernel
theorem dX12_sizeOfFace_13 : decode cX12_sizeOfFace 13 = .ok (.imul, 1) := by decide +kernel
theorem dX12_sizeOfFace_14 : decode cX12_sizeOfFace 14 = .ok (.if_icmp .ge 27, 3) := by decide +kernel
theorem dX12_sizeOfFace_17 : decode cX12_sizeOfFace 17 = .ok (.iload_n 3, 1) := by decide +kernel
theorem dX12_sizeOfFace_18 : decode cX12_sizeOfFace 18 = .ok (.aload_n 0, 1) := by decide +kernel
theorem dX12_sizeOfFace_19 : decode cX12_sizeOfFace 19 = .ok (.iload 4, 2) := by decide +kernel
theorem dX12_sizeOfFace_21 : decode cX12_sizeOfFace 21 = .ok (.invokevirtual 165, 3) := by decide +kernel
theorem dX12_sizeOfFace_24 : decode cX12_sizeOfFace 24 = .ok (.iload_n 2, 1) := by decide +kernel
theorem dX12_sizeOfFace_25 : decode cX12_sizeOfFace 25 = .ok (.if_icmp .ne 7, 3) := by decide +kernel
theorem dX12_sizeOfFace_28 : decode cX12_sizeOfFace 28 = .ok (.iconst 1, 1) := by decide +kernel
theorem dX12_sizeOfFace_29 : decode cX12_sizeOfFace 29 = .ok (.goto 4, 3) := by decide +kernel
theorem dX12_sizeOfFace_32 : decode cX12_sizeOfFace 32 = .ok (.iconst 0, 1) := by decide +kernel
theorem dX12_sizeOfFace_33 : decode cX12_sizeOfFace 33 = .ok (.iadd, 1) := by decide +kernel
theorem dX12_sizeOfFace_34 : decode cX12_sizeOfFace 34 = .ok (.istore_n 3, 1) := by decide +kernel
theorem dX12_sizeOfFace_35 : decode cX12_sizeOfFace 35 = .ok (.iinc 4 1, 3) := by decide +kernel
theorem dX12_sizeOfFace_38 : decode cX12_sizeOfFace 38 = .ok (.goto (-33), 3) := by decide +kernel
theorem dX12_sizeOfFace_41 : decode cX12_sizeOfFace 41 = .ok (.iload_n 3, 1) := by decide +kernel
theorem dX12_sizeOfFace_42 : decode cX12_sizeOfFace 42 = .ok (.ireturn, 1) := by decide +kernel
theorem dX12_facesOfSize_0 : decode cX12_facesOfSize 0 = .ok (.aload_n 0, 1) := by decide +kernel
theorem dX12_facesOfSize_1 : decode cX12_facesOfSize 1 = .ok (.iload_n 1, 1) := by decide +kernel
theorem dX12_facesOfSize_2 : decode cX12_facesOfSize 2 = .ok (.aload_n 0, 1) := by decide +kernel
theorem dX12_facesOfSize_3 : decode cX12_facesOfSize 3 = .ok (.iload_n 1, 1) := by decide +kernel
theorem dX12_facesOfSize_4 : decode cX12_facesOfSize 4 = .ok (.invokevirtual 168, 3) := by decide +kernel
theorem dX12_facesOfSize_7 : decode cX12_facesOfSize 7 = .ok (.invokevirtual 159, 3) := by decide +kernel
theorem dX12_facesOfSize_10 : decode cX12_facesOfSize 10 = .ok (.istore_n 3, 1) := by decide +kernel
theorem dX12_facesOfSize_11 : decode cX12_facesOfSize 11 = .ok (.iconst 0, 1) := by decide +kernel
theorem dX12_facesOfSize_12 : decode cX12_facesOfSize 12 = .ok (.istore 4, 2) := by decide +kernel
theorem dX12_facesOfSize_14 : decode cX12_facesOfSize 14 = .ok (.iconst 0, 1) := by decide +kernel
theorem dX12_facesOfSize_15 : decode cX12_facesOfSize 15 = .ok (.istore 5, 2) := by decide +kernel
theorem dX12_facesOfSize_17 : decode cX12_facesOfSize 17 = .ok (.iload 5, 2) := by decide +kernel
theorem dX12_facesOfSize_19 : decode cX12_facesOfSize 19 = .ok (.iload_n 3, 1) := by decide +kernel
theorem dX12_facesOfSize_20 : decode cX12_facesOfSize 20 = .ok (.if_icmp .ge 30, 3) := by decide +kernel
theorem dX12_facesOfSize_23 : decode cX12_facesOfSize 23 = .ok (.iload 4, 2) := by decide +kernel
theorem dX12_facesOfSize_25 : decode cX12_facesOfSize 25 = .ok (.aload_n 0, 1) := by decide +kernel
theorem dX12_facesOfSize_26 : decode cX12_facesOfSize 26 = .ok (.iload_n 1, 1) := by decide +kernel
theorem dX12_facesOfSize_27 : decode cX12_facesOfSize 27 = .ok (.iload 5, 2) := by decide +kernel
theorem dX12_facesOfSize_29 : decode cX12_facesOfSize 29 = .ok (.invokevirtual 171, 3) := by decide +kernel
theorem dX12_facesOfSize_32 : decode cX12_facesOfSize 32 = .ok (.iload_n 2, 1) := by decide +kernel
theorem dX12_facesOfSize_33 : decode cX12_facesOfSize 33 = .ok (.if_icmp .ne 7, 3) := by decide +kernel
theorem dX12_facesOfSize_36 : decode cX12_facesOfSize 36 = .ok (.iconst 1, 1) := by decide +kernel
theorem dX12_facesOfSize_37 : decode cX12_facesOfSize 37 = .ok (.goto 4, 3) := by decide +kernel
theorem dX12_facesOfSize_40 : decode cX12_facesOfSize 40 = .ok (.iconst 0, 1) := by decide +kernel
theorem dX12_facesOfSize_41 : decode cX12_facesOfSize 41 = .ok (.iadd, 1) := by decide +kernel
theorem dX12_facesOfSize_42 : decode cX12_facesOfSize 42 = .ok (.istore 4, 2) := by decide +kernel
theorem dX12_facesOfSize_44 : decode cX12_facesOfSize 44 = .ok (.iinc 5 1, 3) := by decide +kernel
theorem dX12_facesOfSize_47 : decode cX12_facesOfSize 47 = .ok (.goto (-30), 3) := by decide +kernel
theorem dX12_facesOfSize_50 : decode cX12_facesOfSize 50 = .ok (.iload 4, 2) := by decide +kernel
theorem dX12_facesOfSize_52 : decode cX12_facesOfSize 52 = .ok (.ireturn, 1) := by decide +kernel
theorem dX12_tellsIndex_0 : decode cX12_tellsIndex 0 = .ok (.aload_n 0, 1) := by decide +kernel
theorem dX12_tellsIndex_1 : decode cX12_tellsIndex 1 = .ok (.getfield 42, 3) := by decide +kernel
theorem dX12_tellsIndex_4 : decode cX12_tellsIndex 4 = .ok (.iload_n 1, 1) := by decide +kernel
theorem dX12_tellsIndex_5 : decode cX12_tellsIndex 5 = .ok (.baload, 1) := by decide +kernel
theorem dX12_tellsIndex_6 : decode cX12_tellsIndex 6 = .ok (.ifCond .eq 38, 3) := by decide +kernel
theorem dX12_tellsIndex_9 : decode cX12_tellsIndex 9 = .ok (.aload_n 0, 1) := by decide +kernel
theorem dX12_tellsIndex_10 : decode cX12_tellsIndex 10 = .ok (.getfield 42, 3) := by decide +kernel
theorem dX12_tellsIndex_13 : decode cX12_tellsIndex 13 = .ok (.iload_n 2, 1) := by decide +kernel
theorem dX12_tellsIndex_14 : decode cX12_tellsIndex 14 = .ok (.baload, 1) := by decide +kernel
theorem dX12_tellsIndex_15 : decode cX12_tellsIndex 15 = .ok (.ifCond .ne 29, 3) := by decide +kernel
theorem dX12_tellsIndex_18 : decode cX12_tellsIndex 18 = .ok (.aload_n 0, 1) := by decide +kernel
theorem dX12_tellsIndex_19 : decode cX12_tellsIndex 19 = .ok (.getfield 39, 3) := by decide +kernel
theorem dX12_tellsIndex_22 : decode cX12_tellsIndex 22 = .ok (.iload_n 2, 1) := by decide +kernel
theorem dX12_tellsIndex_23 : decode cX12_tellsIndex 23 = .ok (.aload_n 0, 1) := by decide +kernel
theorem dX12_tellsIndex_24 : decode cX12_tellsIndex 24 = .ok (.getfield 39, 3) := by decide +kernel
theorem dX12_tellsIndex_27 : decode cX12_tellsIndex 27 = .ok (.iload_n 1, 1) := by decide +kernel
theorem dX12_tellsIndex_28 : decode cX12_tellsIndex 28 = .ok (.iaload, 1) := by decide +kernel
theorem dX12_tellsIndex_29 : decode cX12_tellsIndex 29 = .ok (.iload_n 3, 1) := by decide +kernel
theorem dX12_tellsIndex_30 : decode cX12_tellsIndex 30 = .ok (.iadd, 1) := by decide +kernel
theorem dX12_tellsIndex_31 : decode cX12_tellsIndex 31 = .ok (.iastore, 1) := by decide +kernel
theorem dX12_tellsIndex_32 : decode cX12_tellsIndex 32 = .ok (.aload_n 0, 1) := by decide +kernel
theorem dX12_tellsIndex_33 : decode cX12_tellsIndex 33 = .ok (.getfield 42, 3) := by decide +kernel
theorem dX12_tellsIndex_36 : decode cX12_tellsIndex 36 = .ok (.iload_n 2, 1) := by decide +kernel
theorem dX12_tellsIndex_37 : decode cX12_tellsIndex 37 = .ok (.iconst 1, 1) := by decide +kernel
theorem dX12_tellsIndex_38 : decode cX12_tellsIndex 38 = .ok (.bastore, 1) := by decide +kernel
theorem dX12_tellsIndex_39 : decode cX12_tellsIndex 39 = .ok (.aload_n 0, 1) := by decide +kernel
theorem dX12_tellsIndex_40 : decode cX12_tellsIndex 40 = .ok (.iconst 1, 1) := by decide +kernel
theorem dX12_tellsIndex_41 : decode cX12_tellsIndex 41 = .ok (.putfield 112, 3) := by decide +kernel
theorem dX12_tellsIndex_44 : decode cX12_tellsIndex 44 = .ok (.return_, 1) := by decide +kernel
theorem dX12_laysIndices_0 : decode cX12_laysIndices 0 = .ok (.aload_n 0, 1) := by decide +kernel
theorem dX12_laysIndices_1 : decode cX12_laysIndices 1 = .ok (.iload_n 1, 1) := by decide +kernel
theorem dX12_laysIndices_2 : decode cX12_laysIndices 2 = .ok (.aload_n 0, 1) := by decide +kernel
theorem dX12_laysIndices_3 : decode cX12_laysIndices 3 = .ok (.iload_n 1, 1) := by decide +kernel
theorem dX12_laysIndices_4 : decode cX12_laysIndices 4 = .ok (.invokevirtual 168, 3) := by decide +kernel
theorem dX12_laysIndices_7 : decode cX12_laysIndices 7 = .ok (.invokevirtual 159, 3) := by decide +kernel
theorem dX12_laysIndices_10 : decode cX12_laysIndices 10 = .ok (.istore_n 2, 1) := by decide +kernel
theorem dX12_laysIndices_11 : decode cX12_laysIndices 11 = .ok (.iconst 0, 1) := by decide +kernel
theorem dX12_laysIndices_12 : decode cX12_laysIndices 12 = .ok (.istore_n 3, 1) := by decide +kernel
theorem dX12_laysIndices_13 : decode cX12_laysIndices 13 = .ok (.iload_n 3, 1) := by decide +kernel
theorem dX12_laysIndices_14 : decode cX12_laysIndices 14 = .ok (.iload_n 2, 1) := by decide +kernel
theorem dX12_laysIndices_15 : decode cX12_laysIndices 15 = .ok (.if_icmp .ge 31, 3) := by decide +kernel
theorem dX12_laysIndices_18 : decode cX12_laysIndices 18 = .ok (.aload_n 0, 1) := by decide +kernel
theorem dX12_laysIndices_19 : decode cX12_laysIndices 19 = .ok (.getfield 42, 3) := by decide +kernel
theorem dX12_laysIndices_22 : decode cX12_laysIndices 22 = .ok (.iload_n 3, 1) := by decide +kernel
theorem dX12_laysIndices_23 : decode cX12_laysIndices 23 = .ok (.iload_n 3, 1) := by decide +kernel
theorem dX12_laysIndices_24 : decode cX12_laysIndices 24 = .ok (.ifCond .ne 7, 3) := by decide +kernel
theorem dX12_laysIndices_27 : decode cX12_laysIndices 27 = .ok (.iconst 1, 1) := by decide +kernel
theorem dX12_laysIndices_28 : decode cX12_laysIndices 28 = .ok (.goto 4, 3) := by decide +kernel
theorem dX12_laysIndices_31 : decode cX12_laysIndices 31 = .ok (.iconst 0, 1) := by decide +kernel
theorem dX12_laysIndices_32 : decode cX12_laysIndices 32 = .ok (.bastore, 1) := by decide +kernel
theorem dX12_laysIndices_33 : decode cX12_laysIndices 33 = .ok (.aload_n 0, 1) := by decide +kernel
theorem dX12_laysIndices_34 : decode cX12_laysIndices 34 = .ok (.getfield 39, 3) := by decide +kernel
theorem dX12_laysIndices_37 : decode cX12_laysIndices 37 = .ok (.iload_n 3, 1) := by decide +kernel
theorem dX12_laysIndices_38 : decode cX12_laysIndices 38 = .ok (.iconst 0, 1) := by decide +kernel
theorem dX12_laysIndices_39 : decode cX12_laysIndices 39 = .ok (.iastore, 1) := by decide +kernel
theorem dX12_laysIndices_40 : decode cX12_laysIndices 40 = .ok (.iinc 3 1, 3) := by decide +kernel
theorem dX12_laysIndices_43 : decode cX12_laysIndices 43 = .ok (.goto (-30), 3) := by decide +kernel
theorem dX12_laysIndices_46 : decode cX12_laysIndices 46 = .ok (.aload_n 0, 1) := by decide +kernel
theorem dX12_laysIndices_47 : decode cX12_laysIndices 47 = .ok (.iload_n 1, 1) := by decide +kernel
theorem dX12_laysIndices_48 : decode cX12_laysIndices 48 = .ok (.invokevirtual 59, 3) := by decide +kernel
theorem dX12_laysIndices_51 : decode cX12_laysIndices 51 = .ok (.ifCond .ne 10, 3) := by decide +kernel
theorem dX12_laysIndices_54 : decode cX12_laysIndices 54 = .ok (.aload_n 0, 1) := by decide +kernel
theorem dX12_laysIndices_55 : decode cX12_laysIndices 55 = .ok (.getfield 39, 3) := by decide +kernel
theorem dX12_laysIndices_58 : decode cX12_laysIndices 58 = .ok (.iconst 1, 1) := by decide +kernel
theorem dX12_laysIndices_59 : decode cX12_laysIndices 59 = .ok (.iconst (-1), 1) := by decide +kernel
theorem dX12_laysIndices_60 : decode cX12_laysIndices 60 = .ok (.iastore, 1) := by decide +kernel
theorem dX12_laysIndices_61 : decode cX12_laysIndices 61 = .ok (.aload_n 0, 1) := by decide +kernel
theorem dX12_laysIndices_62 : decode cX12_laysIndices 62 = .ok (.iconst 1, 1) := by decide +kernel
theorem dX12_laysIndices_63 : decode cX12_laysIndices 63 = .ok (.putfield 112, 3) := by decide +kernel
theorem dX12_laysIndices_66 : decode cX12_laysIndices 66 = .ok (.aload_n 0, 1) := by decide +kernel
theorem dX12_laysIndices_67 : decode cX12_laysIndices 67 = .ok (.getfield 112, 3) := by decide +kernel
theorem dX12_laysIndices_70 : decode cX12_laysIndices 70 = .ok (.ifCond .eq 72, 3) := by decide +kernel
theorem dX12_laysIndices_73 : decode cX12_laysIndices 73 = .ok (.aload_n 0, 1) := by decide +kernel
theorem dX12_laysIndices_74 : decode cX12_laysIndices 74 = .ok (.iconst 0, 1) := by decide +kernel
theorem dX12_laysIndices_75 : decode cX12_laysIndices 75 = .ok (.putfield 112, 3) := by decide +kernel
theorem dX12_laysIndices_78 : decode cX12_laysIndices 78 = .ok (.iconst 0, 1) := by decide +kernel
theorem dX12_laysIndices_79 : decode cX12_laysIndices 79 = .ok (.istore_n 3, 1) := by decide +kernel
theorem dX12_laysIndices_80 : decode cX12_laysIndices 80 = .ok (.iload_n 3, 1) := by decide +kernel
theorem dX12_laysIndices_81 : decode cX12_laysIndices 81 = .ok (.iconst 2, 1) := by decide +kernel
theorem dX12_laysIndices_82 : decode cX12_laysIndices 82 = .ok (.aload_n 0, 1) := by decide +kernel
theorem dX12_laysIndices_83 : decode cX12_laysIndices 83 = .ok (.iload_n 1, 1) := by decide +kernel
theorem dX12_laysIndices_84 : decode cX12_laysIndices 84 = .ok (.invokevirtual 59, 3) := by decide +kernel
theorem dX12_laysIndices_87 : decode cX12_laysIndices 87 = .ok (.imul, 1) := by decide +kernel
theorem dX12_laysIndices_88 : decode cX12_laysIndices 88 = .ok (.if_icmp .ge 51, 3) := by decide +kernel
theorem dX12_laysIndices_91 : decode cX12_laysIndices 91 = .ok (.aload_n 0, 1) := by decide +kernel
theorem dX12_laysIndices_92 : decode cX12_laysIndices 92 = .ok (.aload_n 0, 1) := by decide +kernel
theorem dX12_laysIndices_93 : decode cX12_laysIndices 93 = .ok (.iload_n 1, 1) := by decide +kernel
theorem dX12_laysIndices_94 : decode cX12_laysIndices 94 = .ok (.iload_n 3, 1) := by decide +kernel
theorem dX12_laysIndices_95 : decode cX12_laysIndices 95 = .ok (.invokevirtual 147, 3) := by decide +kernel
theorem dX12_laysIndices_98 : decode cX12_laysIndices 98 = .ok (.invokevirtual 165, 3) := by decide +kernel
theorem dX12_laysIndices_101 : decode cX12_laysIndices 101 = .ok (.istore 4, 2) := by decide +kernel
theorem dX12_laysIndices_103 : decode cX12_laysIndices 103 = .ok (.aload_n 0, 1) := by decide +kernel
theorem dX12_laysIndices_104 : decode cX12_laysIndices 104 = .ok (.aload_n 0, 1) := by decide +kernel
theorem dX12_laysIndices_105 : decode cX12_laysIndices 105 = .ok (.iload_n 1, 1) := by decide +kernel
theorem dX12_laysIndices_106 : decode cX12_laysIndices 106 = .ok (.iload_n 3, 1) := by decide +kernel
theorem dX12_laysIndices_107 : decode cX12_laysIndices 107 = .ok (.invokevirtual 153, 3) := by decide +kernel
theorem dX12_laysIndices_110 : decode cX12_laysIndices 110 = .ok (.invokevirtual 165, 3) := by decide +kernel
theorem dX12_laysIndices_113 : decode cX12_laysIndices 113 = .ok (.istore 5, 2) := by decide +kernel
theorem dX12_laysIndices_115 : decode cX12_laysIndices 115 = .ok (.aload_n 0, 1) := by decide +kernel
theorem dX12_laysIndices_116 : decode cX12_laysIndices 116 = .ok (.iload 4, 2) := by decide +kernel
theorem dX12_laysIndices_118 : decode cX12_laysIndices 118 = .ok (.iload 5, 2) := by decide +kernel
theorem dX12_laysIndices_120 : decode cX12_laysIndices 120 = .ok (.iconst (-1), 1) := by decide +kernel
theorem dX12_laysIndices_121 : decode cX12_laysIndices 121 = .ok (.invokevirtual 174, 3) := by decide +kernel
theorem dX12_laysIndices_124 : decode cX12_laysIndices 124 = .ok (.aload_n 0, 1) := by decide +kernel
theorem dX12_laysIndices_125 : decode cX12_laysIndices 125 = .ok (.iload 5, 2) := by decide +kernel
theorem dX12_laysIndices_127 : decode cX12_laysIndices 127 = .ok (.iload 4, 2) := by decide +kernel
theorem dX12_laysIndices_129 : decode cX12_laysIndices 129 = .ok (.iconst 1, 1) := by decide +kernel
theorem dX12_laysIndices_130 : decode cX12_laysIndices 130 = .ok (.invokevirtual 174, 3) := by decide +kernel
theorem dX12_laysIndices_133 : decode cX12_laysIndices 133 = .ok (.iinc 3 1, 3) := by decide +kernel
theorem dX12_laysIndices_136 : decode cX12_laysIndices 136 = .ok (.goto (-56), 3) := by decide +kernel
theorem dX12_laysIndices_139 : decode cX12_laysIndices 139 = .ok (.goto (-73), 3) := by decide +kernel
theorem dX12_laysIndices_142 : decode cX12_laysIndices 142 = .ok (.return_, 1) := by decide +kernel
theorem dX12_isDark_0 : decode cX12_isDark 0 = .ok (.aload_n 0, 1) := by decide +kernel
theorem dX12_isDark_1 : decode cX12_isDark 1 = .ok (.iload_n 1, 1) := by decide +kernel
theorem dX12_isDark_2 : decode cX12_isDark 2 = .ok (.invokevirtual 59, 3) := by decide +kernel
theorem dX12_isDark_5 : decode cX12_isDark 5 = .ok (.ifCond .ne 7, 3) := by decide +kernel
theorem dX12_isDark_8 : decode cX12_isDark 8 = .ok (.iconst 0, 1) := by decide +kernel
theorem dX12_isDark_9 : decode cX12_isDark 9 = .ok (.goto 13, 3) := by decide +kernel
theorem dX12_isDark_12 : decode cX12_isDark 12 = .ok (.aload_n 0, 1) := by decide +kernel
theorem dX12_isDark_13 : decode cX12_isDark 13 = .ok (.aload_n 0, 1) := by decide +kernel
theorem dX12_isDark_14 : decode cX12_isDark 14 = .ok (.iload_n 1, 1) := by decide +kernel
theorem dX12_isDark_15 : decode cX12_isDark 15 = .ok (.iconst 0, 1) := by decide +kernel
theorem dX12_isDark_16 : decode cX12_isDark 16 = .ok (.invokevirtual 147, 3) := by decide +kernel
theorem dX12_isDark_19 : decode cX12_isDark 19 = .ok (.invokevirtual 165, 3) := by decide +kernel
theorem dX12_isDark_22 : decode cX12_isDark 22 = .ok (.istore_n 3, 1) := by decide +kernel
theorem dX12_isDark_23 : decode cX12_isDark 23 = .ok (.aload_n 0, 1) := by decide +kernel
theorem dX12_isDark_24 : decode cX12_isDark 24 = .ok (.getfield 39, 3) := by decide +kernel
theorem dX12_isDark_27 : decode cX12_isDark 27 = .ok (.iload_n 2, 1) := by decide +kernel
theorem dX12_isDark_28 : decode cX12_isDark 28 = .ok (.iaload, 1) := by decide +kernel
theorem dX12_isDark_29 : decode cX12_isDark 29 = .ok (.aload_n 0, 1) := by decide +kernel
theorem dX12_isDark_30 : decode cX12_isDark 30 = .ok (.getfield 39, 3) := by decide +kernel
theorem dX12_isDark_33 : decode cX12_isDark 33 = .ok (.iload_n 3, 1) := by decide +kernel
theorem dX12_isDark_34 : decode cX12_isDark 34 = .ok (.iaload, 1) := by decide +kernel
theorem dX12_isDark_35 : decode cX12_isDark 35 = .ok (.isub, 1) := by decide +kernel
theorem dX12_isDark_36 : decode cX12_isDark 36 = .ok (.iconst 2, 1) := by decide +kernel
theorem dX12_isDark_37 : decode cX12_isDark 37 = .ok (.irem, 1) := by decide +kernel
theorem dX12_isDark_38 : decode cX12_isDark 38 = .ok (.ifCond .ne 7, 3) := by decide +kernel
theorem dX12_isDark_41 : decode cX12_isDark 41 = .ok (.iconst 1, 1) := by decide +kernel
theorem dX12_isDark_42 : decode cX12_isDark 42 = .ok (.goto 4, 3) := by decide +kernel
theorem dX12_isDark_45 : decode cX12_isDark 45 = .ok (.iconst 0, 1) := by decide +kernel
theorem dX12_isDark_46 : decode cX12_isDark 46 = .ok (.ireturn, 1) := by decide +kernel
theorem dX12_middle_0 : decode cX12_middle 0 = .ok (.iconst 0, 1) := by decide +kernel
theorem dX12_middle_1 : decode cX12_middle 1 = .ok (.istore_n 2, 1) := by decide +kernel
theorem dX12_middle_2 : decode cX12_middle 2 = .ok (.iconst 0, 1) := by decide +kernel
theorem dX12_middle_3 : decode cX12_middle 3 = .ok (.istore_n 3, 1) := by decide +kernel
theorem dX12_middle_4 : decode cX12_middle 4 = .ok (.iload_n 3, 1) := by decide +kernel
theorem dX12_middle_5 : decode cX12_middle 5 = .ok (.iconst 4, 1) := by decide +kernel
theorem dX12_middle_6 : decode cX12_middle 6 = .ok (.if_icmp .ge 26, 3) := by decide +kernel
theorem dX12_middle_9 : decode cX12_middle 9 = .ok (.iload_n 2, 1) := by decide +kernel
theorem dX12_middle_10 : decode cX12_middle 10 = .ok (.aload_n 0, 1) := by decide +kernel
theorem dX12_middle_11 : decode cX12_middle 11 = .ok (.getfield 39, 3) := by decide +kernel
theorem dX12_middle_14 : decode cX12_middle 14 = .ok (.aload_n 0, 1) := by decide +kernel
theorem dX12_middle_15 : decode cX12_middle 15 = .ok (.iconst 4, 1) := by decide +kernel
theorem dX12_middle_16 : decode cX12_middle 16 = .ok (.iload_n 1, 1) := by decide +kernel
theorem dX12_middle_17 : decode cX12_middle 17 = .ok (.imul, 1) := by decide +kernel
theorem dX12_middle_18 : decode cX12_middle 18 = .ok (.iload_n 3, 1) := by decide +kernel
theorem dX12_middle_19 : decode cX12_middle 19 = .ok (.iadd, 1) := by decide +kernel
theorem dX12_middle_20 : decode cX12_middle 20 = .ok (.invokevirtual 165, 3) := by decide +kernel
theorem dX12_middle_23 : decode cX12_middle 23 = .ok (.iaload, 1) := by decide +kernel
theorem dX12_middle_24 : decode cX12_middle 24 = .ok (.iadd, 1) := by decide +kernel
theorem dX12_middle_25 : decode cX12_middle 25 = .ok (.istore_n 2, 1) := by decide +kernel
theorem dX12_middle_26 : decode cX12_middle 26 = .ok (.iinc 3 1, 3) := by decide +kernel
theorem dX12_middle_29 : decode cX12_middle 29 = .ok (.goto (-25), 3) := by decide +kernel
theorem dX12_middle_32 : decode cX12_middle 32 = .ok (.iload_n 2, 1) := by decide +kernel
theorem dX12_middle_33 : decode cX12_middle 33 = .ok (.iconst 4, 1) := by decide +kernel
theorem dX12_middle_34 : decode cX12_middle 34 = .ok (.idiv, 1) := by decide +kernel
theorem dX12_middle_35 : decode cX12_middle 35 = .ok (.ireturn, 1) := by decide +kernel
theorem dX12_turns_0 : decode cX12_turns 0 = .ok (.iconst 0, 1) := by decide +kernel
theorem dX12_turns_1 : decode cX12_turns 1 = .ok (.istore_n 3, 1) := by decide +kernel
theorem dX12_turns_2 : decode cX12_turns 2 = .ok (.iconst 0, 1) := by decide +kernel
theorem dX12_turns_3 : decode cX12_turns 3 = .ok (.istore 4, 2) := by decide +kernel
theorem dX12_turns_5 : decode cX12_turns 5 = .ok (.iload 4, 2) := by decide +kernel
theorem dX12_turns_7 : decode cX12_turns 7 = .ok (.aload_n 0, 1) := by decide +kernel
theorem dX12_turns_8 : decode cX12_turns 8 = .ok (.iload_n 1, 1) := by decide +kernel
theorem dX12_turns_9 : decode cX12_turns 9 = .ok (.invokevirtual 59, 3) := by decide +kernel
theorem dX12_turns_12 : decode cX12_turns 12 = .ok (.iconst 2, 1) := by decide +kernel
theorem dX12_turns_13 : decode cX12_turns 13 = .ok (.iadd, 1) := by decide +kernel
theorem dX12_turns_14 : decode cX12_turns 14 = .ok (.if_icmp .ge 19, 3) := by decide +kernel
theorem dX12_turns_17 : decode cX12_turns 17 = .ok (.iload_n 3, 1) := by decide +kernel
theorem dX12_turns_18 : decode cX12_turns 18 = .ok (.aload_n 0, 1) := by decide +kernel
theorem dX12_turns_19 : decode cX12_turns 19 = .ok (.getfield 39, 3) := by decide +kernel
theorem dX12_turns_22 : decode cX12_turns 22 = .ok (.iload 4, 2) := by decide +kernel
theorem dX12_turns_24 : decode cX12_turns 24 = .ok (.iaload, 1) := by decide +kernel
theorem dX12_turns_25 : decode cX12_turns 25 = .ok (.iadd, 1) := by decide +kernel
theorem dX12_turns_26 : decode cX12_turns 26 = .ok (.istore_n 3, 1) := by decide +kernel
theorem dX12_turns_27 : decode cX12_turns 27 = .ok (.iinc 4 1, 3) := by decide +kernel
theorem dX12_turns_30 : decode cX12_turns 30 = .ok (.goto (-25), 3) := by decide +kernel
theorem dX12_turns_33 : decode cX12_turns 33 = .ok (.iconst 0, 1) := by decide +kernel
theorem dX12_turns_34 : decode cX12_turns 34 = .ok (.istore 4, 2) := by decide +kernel
theorem dX12_turns_36 : decode cX12_turns 36 = .ok (.iload 4, 2) := by decide +kernel
theorem dX12_turns_38 : decode cX12_turns 38 = .ok (.aload_n 0, 1) := by decide +kernel
theorem dX12_turns_39 : decode cX12_turns 39 = .ok (.iload_n 1, 1) := by decide +kernel
theorem dX12_turns_40 : decode cX12_turns 40 = .ok (.invokevirtual 59, 3) := by decide +kernel
theorem dX12_turns_43 : decode cX12_turns 43 = .ok (.if_icmp .ge 18, 3) := by decide +kernel
theorem dX12_turns_46 : decode cX12_turns 46 = .ok (.iload_n 3, 1) := by decide +kernel
theorem dX12_turns_47 : decode cX12_turns 47 = .ok (.aload_n 0, 1) := by decide +kernel
theorem dX12_turns_48 : decode cX12_turns 48 = .ok (.iload 4, 2) := by decide +kernel
theorem dX12_turns_50 : decode cX12_turns 50 = .ok (.invokevirtual 178, 3) := by decide +kernel
theorem dX12_turns_53 : decode cX12_turns 53 = .ok (.isub, 1) := by decide +kernel
theorem dX12_turns_54 : decode cX12_turns 54 = .ok (.istore_n 3, 1) := by decide +kernel
theorem dX12_turns_55 : decode cX12_turns 55 = .ok (.iinc 4 1, 3) := by decide +kernel
theorem dX12_turns_58 : decode cX12_turns 58 = .ok (.goto (-22), 3) := by decide +kernel
theorem dX12_turns_61 : decode cX12_turns 61 = .ok (.iload_n 3, 1) := by decide +kernel
theorem dX12_turns_62 : decode cX12_turns 62 = .ok (.iconst 2, 1) := by decide +kernel
theorem dX12_turns_63 : decode cX12_turns 63 = .ok (.aload_n 0, 1) := by decide +kernel
theorem dX12_turns_64 : decode cX12_turns 64 = .ok (.getfield 39, 3) := by decide +kernel
theorem dX12_turns_67 : decode cX12_turns 67 = .ok (.iload_n 2, 1) := by decide +kernel
theorem dX12_turns_68 : decode cX12_turns 68 = .ok (.iaload, 1) := by decide +kernel
theorem dX12_turns_69 : decode cX12_turns 69 = .ok (.imul, 1) := by decide +kernel
theorem dX12_turns_70 : decode cX12_turns 70 = .ok (.isub, 1) := by decide +kernel
theorem dX12_turns_71 : decode cX12_turns 71 = .ok (.ireturn, 1) := by decide +kernel
theorem dX12_joinedBy_0 : decode cX12_joinedBy 0 = .ok (.iconst 0, 1) := by decide +kernel
theorem dX12_joinedBy_1 : decode cX12_joinedBy 1 = .ok (.istore 4, 2) := by decide +kernel
theorem dX12_joinedBy_3 : decode cX12_joinedBy 3 = .ok (.iconst 0, 1) := by decide +kernel
theorem dX12_joinedBy_4 : decode cX12_joinedBy 4 = .ok (.istore 5, 2) := by decide +kernel
theorem dX12_joinedBy_6 : decode cX12_joinedBy 6 = .ok (.iload 5, 2) := by decide +kernel
theorem dX12_joinedBy_8 : decode cX12_joinedBy 8 = .ok (.aload_n 0, 1) := by decide +kernel
theorem dX12_joinedBy_9 : decode cX12_joinedBy 9 = .ok (.iload_n 1, 1) := by decide +kernel
theorem dX12_joinedBy_10 : decode cX12_joinedBy 10 = .ok (.invokevirtual 59, 3) := by decide +kernel
theorem dX12_joinedBy_13 : decode cX12_joinedBy 13 = .ok (.iconst 2, 1) := by decide +kernel
theorem dX12_joinedBy_14 : decode cX12_joinedBy 14 = .ok (.iadd, 1) := by decide +kernel
theorem dX12_joinedBy_15 : decode cX12_joinedBy 15 = .ok (.if_icmp .ge 39, 3) := by decide +kernel
theorem dX12_joinedBy_18 : decode cX12_joinedBy 18 = .ok (.aload_n 0, 1) := by decide +kernel
theorem dX12_joinedBy_19 : decode cX12_joinedBy 19 = .ok (.getfield 45, 3) := by decide +kernel
theorem dX12_joinedBy_22 : decode cX12_joinedBy 22 = .ok (.iload 5, 2) := by decide +kernel
theorem dX12_joinedBy_24 : decode cX12_joinedBy 24 = .ok (.iload 5, 2) := by decide +kernel
theorem dX12_joinedBy_26 : decode cX12_joinedBy 26 = .ok (.iastore, 1) := by decide +kernel
theorem dX12_joinedBy_27 : decode cX12_joinedBy 27 = .ok (.iload 4, 2) := by decide +kernel
theorem dX12_joinedBy_29 : decode cX12_joinedBy 29 = .ok (.aload_n 0, 1) := by decide +kernel
theorem dX12_joinedBy_30 : decode cX12_joinedBy 30 = .ok (.iload_n 1, 1) := by decide +kernel
theorem dX12_joinedBy_31 : decode cX12_joinedBy 31 = .ok (.iload 5, 2) := by decide +kernel
theorem dX12_joinedBy_33 : decode cX12_joinedBy 33 = .ok (.invokevirtual 181, 3) := by decide +kernel
theorem dX12_joinedBy_36 : decode cX12_joinedBy 36 = .ok (.iload_n 3, 1) := by decide +kernel
theorem dX12_joinedBy_37 : decode cX12_joinedBy 37 = .ok (.if_icmp .ne 7, 3) := by decide +kernel
theorem dX12_joinedBy_40 : decode cX12_joinedBy 40 = .ok (.iconst 1, 1) := by decide +kernel
theorem dX12_joinedBy_41 : decode cX12_joinedBy 41 = .ok (.goto 4, 3) := by decide +kernel
theorem dX12_joinedBy_44 : decode cX12_joinedBy 44 = .ok (.iconst 0, 1) := by decide +kernel
theorem dX12_joinedBy_45 : decode cX12_joinedBy 45 = .ok (.iadd, 1) := by decide +kernel
theorem dX12_joinedBy_46 : decode cX12_joinedBy 46 = .ok (.istore 4, 2) := by decide +kernel
theorem dX12_joinedBy_48 : decode cX12_joinedBy 48 = .ok (.iinc 5 1, 3) := by decide +kernel
theorem dX12_joinedBy_51 : decode cX12_joinedBy 51 = .ok (.goto (-45), 3) := by decide +kernel
theorem dX12_joinedBy_54 : decode cX12_joinedBy 54 = .ok (.iconst 0, 1) := by decide +kernel
theorem dX12_joinedBy_55 : decode cX12_joinedBy 55 = .ok (.istore 5, 2) := by decide +kernel
theorem dX12_joinedBy_57 : decode cX12_joinedBy 57 = .ok (.iload 5, 2) := by decide +kernel
theorem dX12_joinedBy_59 : decode cX12_joinedBy 59 = .ok (.aload_n 0, 1) := by decide +kernel
theorem dX12_joinedBy_60 : decode cX12_joinedBy 60 = .ok (.iload_n 1, 1) := by decide +kernel
theorem dX12_joinedBy_61 : decode cX12_joinedBy 61 = .ok (.invokevirtual 59, 3) := by decide +kernel
theorem dX12_joinedBy_64 : decode cX12_joinedBy 64 = .ok (.if_icmp .ge 142, 3) := by decide +kernel
theorem dX12_joinedBy_67 : decode cX12_joinedBy 67 = .ok (.aload_n 0, 1) := by decide +kernel
theorem dX12_joinedBy_68 : decode cX12_joinedBy 68 = .ok (.iload_n 1, 1) := by decide +kernel
theorem dX12_joinedBy_69 : decode cX12_joinedBy 69 = .ok (.aload_n 0, 1) := by decide +kernel
theorem dX12_joinedBy_70 : decode cX12_joinedBy 70 = .ok (.iconst 4, 1) := by decide +kernel
theorem dX12_joinedBy_71 : decode cX12_joinedBy 71 = .ok (.iload 5, 2) := by decide +kernel
theorem dX12_joinedBy_73 : decode cX12_joinedBy 73 = .ok (.imul, 1) := by decide +kernel
theorem dX12_joinedBy_74 : decode cX12_joinedBy 74 = .ok (.invokevirtual 165, 3) := by decide +kernel
theorem dX12_joinedBy_77 : decode cX12_joinedBy 77 = .ok (.invokevirtual 181, 3) := by decide +kernel
theorem dX12_joinedBy_80 : decode cX12_joinedBy 80 = .ok (.iload_n 3, 1) := by decide +kernel
theorem dX12_joinedBy_81 : decode cX12_joinedBy 81 = .ok (.if_icmp .ne 7, 3) := by decide +kernel
theorem dX12_joinedBy_84 : decode cX12_joinedBy 84 = .ok (.iconst 0, 1) := by decide +kernel
theorem dX12_joinedBy_85 : decode cX12_joinedBy 85 = .ok (.goto 4, 3) := by decide +kernel
theorem dX12_joinedBy_88 : decode cX12_joinedBy 88 = .ok (.iconst 1, 1) := by decide +kernel
theorem dX12_joinedBy_89 : decode cX12_joinedBy 89 = .ok (.istore 6, 2) := by decide +kernel
theorem dX12_joinedBy_91 : decode cX12_joinedBy 91 = .ok (.aload_n 0, 1) := by decide +kernel
theorem dX12_joinedBy_92 : decode cX12_joinedBy 92 = .ok (.getfield 45, 3) := by decide +kernel
theorem dX12_joinedBy_95 : decode cX12_joinedBy 95 = .ok (.aload_n 0, 1) := by decide +kernel
theorem dX12_joinedBy_96 : decode cX12_joinedBy 96 = .ok (.iconst 4, 1) := by decide +kernel
theorem dX12_joinedBy_97 : decode cX12_joinedBy 97 = .ok (.iload 5, 2) := by decide +kernel
theorem dX12_joinedBy_99 : decode cX12_joinedBy 99 = .ok (.imul, 1) := by decide +kernel
theorem dX12_joinedBy_100 : decode cX12_joinedBy 100 = .ok (.iload 6, 2) := by decide +kernel
theorem dX12_joinedBy_102 : decode cX12_joinedBy 102 = .ok (.iadd, 1) := by decide +kernel
theorem dX12_joinedBy_103 : decode cX12_joinedBy 103 = .ok (.invokevirtual 165, 3) := by decide +kernel
theorem dX12_joinedBy_106 : decode cX12_joinedBy 106 = .ok (.iaload, 1) := by decide +kernel
theorem dX12_joinedBy_107 : decode cX12_joinedBy 107 = .ok (.istore 7, 2) := by decide +kernel
theorem dX12_joinedBy_109 : decode cX12_joinedBy 109 = .ok (.aload_n 0, 1) := by decide +kernel
theorem dX12_joinedBy_110 : decode cX12_joinedBy 110 = .ok (.getfield 45, 3) := by decide +kernel
theorem dX12_joinedBy_113 : decode cX12_joinedBy 113 = .ok (.aload_n 0, 1) := by decide +kernel
theorem dX12_joinedBy_114 : decode cX12_joinedBy 114 = .ok (.iconst 4, 1) := by decide +kernel
theorem dX12_joinedBy_115 : decode cX12_joinedBy 115 = .ok (.iload 5, 2) := by decide +kernel
theorem dX12_joinedBy_117 : decode cX12_joinedBy 117 = .ok (.imul, 1) := by decide +kernel
theorem dX12_joinedBy_118 : decode cX12_joinedBy 118 = .ok (.iload 6, 2) := by decide +kernel
theorem dX12_joinedBy_120 : decode cX12_joinedBy 120 = .ok (.iadd, 1) := by decide +kernel
theorem dX12_joinedBy_121 : decode cX12_joinedBy 121 = .ok (.iconst 2, 1) := by decide +kernel
theorem dX12_joinedBy_122 : decode cX12_joinedBy 122 = .ok (.iadd, 1) := by decide +kernel
theorem dX12_joinedBy_123 : decode cX12_joinedBy 123 = .ok (.invokevirtual 165, 3) := by decide +kernel
theorem dX12_joinedBy_126 : decode cX12_joinedBy 126 = .ok (.iaload, 1) := by decide +kernel
theorem dX12_joinedBy_127 : decode cX12_joinedBy 127 = .ok (.istore 8, 2) := by decide +kernel
theorem dX12_joinedBy_129 : decode cX12_joinedBy 129 = .ok (.iload_n 2, 1) := by decide +kernel
theorem dX12_joinedBy_130 : decode cX12_joinedBy 130 = .ok (.iload 5, 2) := by decide +kernel
theorem dX12_joinedBy_132 : decode cX12_joinedBy 132 = .ok (.invokestatic 125, 3) := by decide +kernel
theorem dX12_joinedBy_135 : decode cX12_joinedBy 135 = .ok (.ifCond .eq 65, 3) := by decide +kernel
theorem dX12_joinedBy_138 : decode cX12_joinedBy 138 = .ok (.iload 7, 2) := by decide +kernel
theorem dX12_joinedBy_140 : decode cX12_joinedBy 140 = .ok (.iload 8, 2) := by decide +kernel
theorem dX12_joinedBy_142 : decode cX12_joinedBy 142 = .ok (.if_icmp .eq 58, 3) := by decide +kernel
theorem dX12_joinedBy_145 : decode cX12_joinedBy 145 = .ok (.iinc 4 (-1), 3) := by decide +kernel
theorem dX12_joinedBy_148 : decode cX12_joinedBy 148 = .ok (.iconst 0, 1) := by decide +kernel
theorem dX12_joinedBy_149 : decode cX12_joinedBy 149 = .ok (.istore 9, 2) := by decide +kernel
theorem dX12_joinedBy_151 : decode cX12_joinedBy 151 = .ok (.iload 9, 2) := by decide +kernel
theorem dX12_joinedBy_153 : decode cX12_joinedBy 153 = .ok (.aload_n 0, 1) := by decide +kernel
theorem dX12_joinedBy_154 : decode cX12_joinedBy 154 = .ok (.iload_n 1, 1) := by decide +kernel
theorem dX12_joinedBy_155 : decode cX12_joinedBy 155 = .ok (.invokevirtual 59, 3) := by decide +kernel
theorem dX12_joinedBy_158 : decode cX12_joinedBy 158 = .ok (.iconst 2, 1) := by decide +kernel
theorem dX12_joinedBy_159 : decode cX12_joinedBy 159 = .ok (.iadd, 1) := by decide +kernel
theorem dX12_joinedBy_160 : decode cX12_joinedBy 160 = .ok (.if_icmp .ge 40, 3) := by decide +kernel
theorem dX12_joinedBy_163 : decode cX12_joinedBy 163 = .ok (.aload_n 0, 1) := by decide +kernel
theorem dX12_joinedBy_164 : decode cX12_joinedBy 164 = .ok (.getfield 45, 3) := by decide +kernel
theorem dX12_joinedBy_167 : decode cX12_joinedBy 167 = .ok (.iload 9, 2) := by decide +kernel
theorem dX12_joinedBy_169 : decode cX12_joinedBy 169 = .ok (.aload_n 0, 1) := by decide +kernel
theorem dX12_joinedBy_170 : decode cX12_joinedBy 170 = .ok (.getfield 45, 3) := by decide +kernel
theorem dX12_joinedBy_173 : decode cX12_joinedBy 173 = .ok (.iload 9, 2) := by decide +kernel
theorem dX12_joinedBy_175 : decode cX12_joinedBy 175 = .ok (.iaload, 1) := by decide +kernel
theorem dX12_joinedBy_176 : decode cX12_joinedBy 176 = .ok (.iload 8, 2) := by decide +kernel
theorem dX12_joinedBy_178 : decode cX12_joinedBy 178 = .ok (.if_icmp .ne 8, 3) := by decide +kernel
theorem dX12_joinedBy_181 : decode cX12_joinedBy 181 = .ok (.iload 7, 2) := by decide +kernel
theorem dX12_joinedBy_183 : decode cX12_joinedBy 183 = .ok (.goto 10, 3) := by decide +kernel
theorem dX12_joinedBy_186 : decode cX12_joinedBy 186 = .ok (.aload_n 0, 1) := by decide +kernel
theorem dX12_joinedBy_187 : decode cX12_joinedBy 187 = .ok (.getfield 45, 3) := by decide +kernel
theorem dX12_joinedBy_190 : decode cX12_joinedBy 190 = .ok (.iload 9, 2) := by decide +kernel
theorem dX12_joinedBy_192 : decode cX12_joinedBy 192 = .ok (.iaload, 1) := by decide +kernel
theorem dX12_joinedBy_193 : decode cX12_joinedBy 193 = .ok (.iastore, 1) := by decide +kernel
theorem dX12_joinedBy_194 : decode cX12_joinedBy 194 = .ok (.iinc 9 1, 3) := by decide +kernel
theorem dX12_joinedBy_197 : decode cX12_joinedBy 197 = .ok (.goto (-46), 3) := by decide +kernel
theorem dX12_joinedBy_200 : decode cX12_joinedBy 200 = .ok (.iinc 5 1, 3) := by decide +kernel
theorem dX12_joinedBy_203 : decode cX12_joinedBy 203 = .ok (.goto (-146), 3) := by decide +kernel
theorem dX12_joinedBy_206 : decode cX12_joinedBy 206 = .ok (.iload 4, 2) := by decide +kernel
theorem dX12_joinedBy_208 : decode cX12_joinedBy 208 = .ok (.ireturn, 1) := by decide +kernel
theorem dX12_trees_0 : decode cX12_trees 0 = .ok (.aload_n 0, 1) := by decide +kernel
theorem dX12_trees_1 : decode cX12_trees 1 = .ok (.iload_n 1, 1) := by decide +kernel
theorem dX12_trees_2 : decode cX12_trees 2 = .ok (.aload_n 0, 1) := by decide +kernel
theorem dX12_trees_3 : decode cX12_trees 3 = .ok (.iload_n 1, 1) := by decide +kernel
theorem dX12_trees_4 : decode cX12_trees 4 = .ok (.invokevirtual 168, 3) := by decide +kernel
theorem dX12_trees_7 : decode cX12_trees 7 = .ok (.invokevirtual 162, 3) := by decide +kernel
theorem dX12_trees_10 : decode cX12_trees 10 = .ok (.ifCond .ne 5, 3) := by decide +kernel
theorem dX12_trees_13 : decode cX12_trees 13 = .ok (.iconst (-1), 1) := by decide +kernel
theorem dX12_trees_14 : decode cX12_trees 14 = .ok (.ireturn, 1) := by decide +kernel
theorem dX12_trees_15 : decode cX12_trees 15 = .ok (.aload_n 0, 1) := by decide +kernel
theorem dX12_trees_16 : decode cX12_trees 16 = .ok (.iload_n 1, 1) := by decide +kernel
theorem dX12_trees_17 : decode cX12_trees 17 = .ok (.invokevirtual 184, 3) := by decide +kernel
theorem dX12_trees_20 : decode cX12_trees 20 = .ok (.aload_n 0, 1) := by decide +kernel
theorem dX12_trees_21 : decode cX12_trees 21 = .ok (.iload_n 1, 1) := by decide +kernel
theorem dX12_trees_22 : decode cX12_trees 22 = .ok (.iconst 0, 1) := by decide +kernel
theorem dX12_trees_23 : decode cX12_trees 23 = .ok (.iload_n 2, 1) := by decide +kernel
theorem dX12_trees_24 : decode cX12_trees 24 = .ok (.invokevirtual 187, 3) := by decide +kernel
theorem dX12_trees_27 : decode cX12_trees 27 = .ok (.istore_n 3, 1) := by decide +kernel
theorem dX12_trees_28 : decode cX12_trees 28 = .ok (.iconst 0, 1) := by decide +kernel
theorem dX12_trees_29 : decode cX12_trees 29 = .ok (.istore 4, 2) := by decide +kernel
theorem dX12_trees_31 : decode cX12_trees 31 = .ok (.iconst 0, 1) := by decide +kernel
theorem dX12_trees_32 : decode cX12_trees 32 = .ok (.istore 5, 2) := by decide +kernel
theorem dX12_trees_34 : decode cX12_trees 34 = .ok (.iload 5, 2) := by decide +kernel
theorem dX12_trees_36 : decode cX12_trees 36 = .ok (.iconst 1, 1) := by decide +kernel
theorem dX12_trees_37 : decode cX12_trees 37 = .ok (.aload_n 0, 1) := by decide +kernel
theorem dX12_trees_38 : decode cX12_trees 38 = .ok (.iload_n 1, 1) := by decide +kernel
theorem dX12_trees_39 : decode cX12_trees 39 = .ok (.invokevirtual 59, 3) := by decide +kernel
theorem dX12_trees_42 : decode cX12_trees 42 = .ok (.ishl, 1) := by decide +kernel
theorem dX12_trees_43 : decode cX12_trees 43 = .ok (.if_icmp .ge 42, 3) := by decide +kernel
theorem dX12_trees_46 : decode cX12_trees 46 = .ok (.iload 4, 2) := by decide +kernel
theorem dX12_trees_48 : decode cX12_trees 48 = .ok (.iload 5, 2) := by decide +kernel
theorem dX12_trees_50 : decode cX12_trees 50 = .ok (.invokestatic 132, 3) := by decide +kernel
theorem dX12_trees_53 : decode cX12_trees 53 = .ok (.iload_n 3, 1) := by decide +kernel
theorem dX12_trees_54 : decode cX12_trees 54 = .ok (.iconst 1, 1) := by decide +kernel
theorem dX12_trees_55 : decode cX12_trees 55 = .ok (.isub, 1) := by decide +kernel
theorem dX12_trees_56 : decode cX12_trees 56 = .ok (.if_icmp .ne 19, 3) := by decide +kernel
theorem dX12_trees_59 : decode cX12_trees 59 = .ok (.aload_n 0, 1) := by decide +kernel
theorem dX12_trees_60 : decode cX12_trees 60 = .ok (.iload_n 1, 1) := by decide +kernel
theorem dX12_trees_61 : decode cX12_trees 61 = .ok (.iload 5, 2) := by decide +kernel
theorem dX12_trees_63 : decode cX12_trees 63 = .ok (.iload_n 2, 1) := by decide +kernel
theorem dX12_trees_64 : decode cX12_trees 64 = .ok (.invokevirtual 187, 3) := by decide +kernel
theorem dX12_trees_67 : decode cX12_trees 67 = .ok (.iconst 1, 1) := by decide +kernel
theorem dX12_trees_68 : decode cX12_trees 68 = .ok (.if_icmp .ne 7, 3) := by decide +kernel
theorem dX12_trees_71 : decode cX12_trees 71 = .ok (.iconst 1, 1) := by decide +kernel
theorem dX12_trees_72 : decode cX12_trees 72 = .ok (.goto 4, 3) := by decide +kernel
theorem dX12_trees_75 : decode cX12_trees 75 = .ok (.iconst 0, 1) := by decide +kernel
theorem dX12_trees_76 : decode cX12_trees 76 = .ok (.iadd, 1) := by decide +kernel
theorem dX12_trees_77 : decode cX12_trees 77 = .ok (.istore 4, 2) := by decide +kernel
theorem dX12_trees_79 : decode cX12_trees 79 = .ok (.iinc 5 1, 3) := by decide +kernel
theorem dX12_trees_82 : decode cX12_trees 82 = .ok (.goto (-48), 3) := by decide +kernel
theorem dX12_trees_85 : decode cX12_trees 85 = .ok (.iload 4, 2) := by decide +kernel
theorem dX12_trees_87 : decode cX12_trees 87 = .ok (.ireturn, 1) := by decide +kernel
theorem dX12_ringsOf_0 : decode cX12_ringsOf 0 = .ok (.iconst 2, 1) := by decide +kernel
theorem dX12_ringsOf_1 : decode cX12_ringsOf 1 = .ok (.aload_n 0, 1) := by decide +kernel
theorem dX12_ringsOf_2 : decode cX12_ringsOf 2 = .ok (.iload_n 1, 1) := by decide +kernel
theorem dX12_ringsOf_3 : decode cX12_ringsOf 3 = .ok (.invokevirtual 59, 3) := by decide +kernel
theorem dX12_ringsOf_6 : decode cX12_ringsOf 6 = .ok (.imul, 1) := by decide +kernel
theorem dX12_ringsOf_7 : decode cX12_ringsOf 7 = .ok (.istore_n 3, 1) := by decide +kernel
theorem dX12_ringsOf_8 : decode cX12_ringsOf 8 = .ok (.iload_n 3, 1) := by decide +kernel
theorem dX12_ringsOf_9 : decode cX12_ringsOf 9 = .ok (.ifCond .ne 5, 3) := by decide +kernel
theorem dX12_ringsOf_12 : decode cX12_ringsOf 12 = .ok (.iconst 1, 1) := by decide +kernel
theorem dX12_ringsOf_13 : decode cX12_ringsOf 13 = .ok (.ireturn, 1) := by decide +kernel
theorem dX12_ringsOf_14 : decode cX12_ringsOf 14 = .ok (.aload_n 0, 1) := by decide +kernel
theorem dX12_ringsOf_15 : decode cX12_ringsOf 15 = .ok (.iload_n 3, 1) := by decide +kernel
theorem dX12_ringsOf_16 : decode cX12_ringsOf 16 = .ok (.invokevirtual 116, 3) := by decide +kernel
theorem dX12_ringsOf_19 : decode cX12_ringsOf 19 = .ok (.aload_n 0, 1) := by decide +kernel
theorem dX12_ringsOf_20 : decode cX12_ringsOf 20 = .ok (.iconst 1, 1) := by decide +kernel
theorem dX12_ringsOf_21 : decode cX12_ringsOf 21 = .ok (.putfield 112, 3) := by decide +kernel
theorem dX12_ringsOf_24 : decode cX12_ringsOf 24 = .ok (.aload_n 0, 1) := by decide +kernel
theorem dX12_ringsOf_25 : decode cX12_ringsOf 25 = .ok (.getfield 112, 3) := by decide +kernel
theorem dX12_ringsOf_28 : decode cX12_ringsOf 28 = .ok (.ifCond .eq 110, 3) := by decide +kernel
theorem dX12_ringsOf_31 : decode cX12_ringsOf 31 = .ok (.aload_n 0, 1) := by decide +kernel
theorem dX12_ringsOf_32 : decode cX12_ringsOf 32 = .ok (.iconst 0, 1) := by decide +kernel
theorem dX12_ringsOf_33 : decode cX12_ringsOf 33 = .ok (.putfield 112, 3) := by decide +kernel
theorem dX12_ringsOf_36 : decode cX12_ringsOf 36 = .ok (.iconst 0, 1) := by decide +kernel
theorem dX12_ringsOf_37 : decode cX12_ringsOf 37 = .ok (.istore 4, 2) := by decide +kernel
theorem dX12_ringsOf_39 : decode cX12_ringsOf 39 = .ok (.iload 4, 2) := by decide +kernel
theorem dX12_ringsOf_41 : decode cX12_ringsOf 41 = .ok (.aload_n 0, 1) := by decide +kernel
theorem dX12_ringsOf_42 : decode cX12_ringsOf 42 = .ok (.iload_n 1, 1) := by decide +kernel
theorem dX12_ringsOf_43 : decode cX12_ringsOf 43 = .ok (.invokevirtual 59, 3) := by decide +kernel
theorem dX12_ringsOf_46 : decode cX12_ringsOf 46 = .ok (.if_icmp .ge 89, 3) := by decide +kernel
theorem dX12_ringsOf_49 : decode cX12_ringsOf 49 = .ok (.aload_n 0, 1) := by decide +kernel
theorem dX12_ringsOf_50 : decode cX12_ringsOf 50 = .ok (.iload_n 1, 1) := by decide +kernel
theorem dX12_ringsOf_51 : decode cX12_ringsOf 51 = .ok (.iload 4, 2) := by decide +kernel
theorem dX12_ringsOf_53 : decode cX12_ringsOf 53 = .ok (.iconst 0, 1) := by decide +kernel
theorem dX12_ringsOf_54 : decode cX12_ringsOf 54 = .ok (.invokevirtual 104, 3) := by decide +kernel
theorem dX12_ringsOf_57 : decode cX12_ringsOf 57 = .ok (.istore 5, 2) := by decide +kernel
theorem dX12_ringsOf_59 : decode cX12_ringsOf 59 = .ok (.aload_n 0, 1) := by decide +kernel
theorem dX12_ringsOf_60 : decode cX12_ringsOf 60 = .ok (.iload_n 1, 1) := by decide +kernel
theorem dX12_ringsOf_61 : decode cX12_ringsOf 61 = .ok (.iload 4, 2) := by decide +kernel
theorem dX12_ringsOf_63 : decode cX12_ringsOf 63 = .ok (.iconst 1, 1) := by decide +kernel
theorem dX12_ringsOf_64 : decode cX12_ringsOf 64 = .ok (.invokevirtual 104, 3) := by decide +kernel
theorem dX12_ringsOf_67 : decode cX12_ringsOf 67 = .ok (.istore 6, 2) := by decide +kernel
theorem dX12_ringsOf_69 : decode cX12_ringsOf 69 = .ok (.iload 5, 2) := by decide +kernel
theorem dX12_ringsOf_71 : decode cX12_ringsOf 71 = .ok (.iload_n 3, 1) := by decide +kernel
theorem dX12_ringsOf_72 : decode cX12_ringsOf 72 = .ok (.iadd, 1) := by decide +kernel
theorem dX12_ringsOf_73 : decode cX12_ringsOf 73 = .ok (.iconst 1, 1) := by decide +kernel
theorem dX12_ringsOf_74 : decode cX12_ringsOf 74 = .ok (.isub, 1) := by decide +kernel
theorem dX12_ringsOf_75 : decode cX12_ringsOf 75 = .ok (.iload_n 3, 1) := by decide +kernel
theorem dX12_ringsOf_76 : decode cX12_ringsOf 76 = .ok (.irem, 1) := by decide +kernel
theorem dX12_ringsOf_77 : decode cX12_ringsOf 77 = .ok (.istore 7, 2) := by decide +kernel
theorem dX12_ringsOf_79 : decode cX12_ringsOf 79 = .ok (.iload 6, 2) := by decide +kernel
theorem dX12_ringsOf_81 : decode cX12_ringsOf 81 = .ok (.iconst 1, 1) := by decide +kernel
theorem dX12_ringsOf_82 : decode cX12_ringsOf 82 = .ok (.isub, 1) := by decide +kernel
theorem dX12_ringsOf_83 : decode cX12_ringsOf 83 = .ok (.istore 8, 2) := by decide +kernel
theorem dX12_ringsOf_85 : decode cX12_ringsOf 85 = .ok (.aload_n 0, 1) := by decide +kernel
theorem dX12_ringsOf_86 : decode cX12_ringsOf 86 = .ok (.iload 7, 2) := by decide +kernel
theorem dX12_ringsOf_88 : decode cX12_ringsOf 88 = .ok (.iload_n 2, 1) := by decide +kernel
theorem dX12_ringsOf_89 : decode cX12_ringsOf 89 = .ok (.iload 4, 2) := by decide +kernel
theorem dX12_ringsOf_91 : decode cX12_ringsOf 91 = .ok (.invokestatic 125, 3) := by decide +kernel
theorem dX12_ringsOf_94 : decode cX12_ringsOf 94 = .ok (.ifCond .eq 8, 3) := by decide +kernel
theorem dX12_ringsOf_97 : decode cX12_ringsOf 97 = .ok (.iload 8, 2) := by decide +kernel
theorem dX12_ringsOf_99 : decode cX12_ringsOf 99 = .ok (.goto 5, 3) := by decide +kernel
theorem dX12_ringsOf_102 : decode cX12_ringsOf 102 = .ok (.iload 6, 2) := by decide +kernel
theorem dX12_ringsOf_104 : decode cX12_ringsOf 104 = .ok (.invokevirtual 119, 3) := by decide +kernel
theorem dX12_ringsOf_107 : decode cX12_ringsOf 107 = .ok (.aload_n 0, 1) := by decide +kernel
theorem dX12_ringsOf_108 : decode cX12_ringsOf 108 = .ok (.iload 5, 2) := by decide +kernel
theorem dX12_ringsOf_110 : decode cX12_ringsOf 110 = .ok (.iload_n 2, 1) := by decide +kernel
theorem dX12_ringsOf_111 : decode cX12_ringsOf 111 = .ok (.iload 4, 2) := by decide +kernel
theorem dX12_ringsOf_113 : decode cX12_ringsOf 113 = .ok (.invokestatic 125, 3) := by decide +kernel
theorem dX12_ringsOf_116 : decode cX12_ringsOf 116 = .ok (.ifCond .eq 8, 3) := by decide +kernel
theorem dX12_ringsOf_119 : decode cX12_ringsOf 119 = .ok (.iload 6, 2) := by decide +kernel
theorem dX12_ringsOf_121 : decode cX12_ringsOf 121 = .ok (.goto 5, 3) := by decide +kernel
theorem dX12_ringsOf_124 : decode cX12_ringsOf 124 = .ok (.iload 8, 2) := by decide +kernel
theorem dX12_ringsOf_126 : decode cX12_ringsOf 126 = .ok (.invokevirtual 119, 3) := by decide +kernel
theorem dX12_ringsOf_129 : decode cX12_ringsOf 129 = .ok (.iinc 4 1, 3) := by decide +kernel
theorem dX12_ringsOf_132 : decode cX12_ringsOf 132 = .ok (.goto (-93), 3) := by decide +kernel
theorem dX12_ringsOf_135 : decode cX12_ringsOf 135 = .ok (.goto (-111), 3) := by decide +kernel
theorem dX12_ringsOf_138 : decode cX12_ringsOf 138 = .ok (.aload_n 0, 1) := by decide +kernel
theorem dX12_ringsOf_139 : decode cX12_ringsOf 139 = .ok (.iload_n 3, 1) := by decide +kernel
theorem dX12_ringsOf_140 : decode cX12_ringsOf 140 = .ok (.invokevirtual 122, 3) := by decide +kernel
theorem dX12_ringsOf_143 : decode cX12_ringsOf 143 = .ok (.ireturn, 1) := by decide +kernel
theorem dX12_statesOf_0 : decode cX12_statesOf 0 = .ok (.iconst 0, 1) := by decide +kernel
theorem dX12_statesOf_1 : decode cX12_statesOf 1 = .ok (.istore_n 3, 1) := by decide +kernel
theorem dX12_statesOf_2 : decode cX12_statesOf 2 = .ok (.iconst 0, 1) := by decide +kernel
theorem dX12_statesOf_3 : decode cX12_statesOf 3 = .ok (.istore 4, 2) := by decide +kernel
theorem dX12_statesOf_5 : decode cX12_statesOf 5 = .ok (.iload 4, 2) := by decide +kernel
theorem dX12_statesOf_7 : decode cX12_statesOf 7 = .ok (.iconst 1, 1) := by decide +kernel
theorem dX12_statesOf_8 : decode cX12_statesOf 8 = .ok (.aload_n 0, 1) := by decide +kernel
theorem dX12_statesOf_9 : decode cX12_statesOf 9 = .ok (.iload_n 1, 1) := by decide +kernel
theorem dX12_statesOf_10 : decode cX12_statesOf 10 = .ok (.invokevirtual 59, 3) := by decide +kernel
theorem dX12_statesOf_13 : decode cX12_statesOf 13 = .ok (.ishl, 1) := by decide +kernel
theorem dX12_statesOf_14 : decode cX12_statesOf 14 = .ok (.if_icmp .ge 28, 3) := by decide +kernel
theorem dX12_statesOf_17 : decode cX12_statesOf 17 = .ok (.iload_n 3, 1) := by decide +kernel
theorem dX12_statesOf_18 : decode cX12_statesOf 18 = .ok (.aload_n 0, 1) := by decide +kernel
theorem dX12_statesOf_19 : decode cX12_statesOf 19 = .ok (.iload_n 1, 1) := by decide +kernel
theorem dX12_statesOf_20 : decode cX12_statesOf 20 = .ok (.iload 4, 2) := by decide +kernel
theorem dX12_statesOf_22 : decode cX12_statesOf 22 = .ok (.invokevirtual 191, 3) := by decide +kernel
theorem dX12_statesOf_25 : decode cX12_statesOf 25 = .ok (.iload_n 2, 1) := by decide +kernel
theorem dX12_statesOf_26 : decode cX12_statesOf 26 = .ok (.if_icmp .ne 7, 3) := by decide +kernel
theorem dX12_statesOf_29 : decode cX12_statesOf 29 = .ok (.iconst 1, 1) := by decide +kernel
theorem dX12_statesOf_30 : decode cX12_statesOf 30 = .ok (.goto 4, 3) := by decide +kernel
theorem dX12_statesOf_33 : decode cX12_statesOf 33 = .ok (.iconst 0, 1) := by decide +kernel
theorem dX12_statesOf_34 : decode cX12_statesOf 34 = .ok (.iadd, 1) := by decide +kernel
theorem dX12_statesOf_35 : decode cX12_statesOf 35 = .ok (.istore_n 3, 1) := by decide +kernel
theorem dX12_statesOf_36 : decode cX12_statesOf 36 = .ok (.iinc 4 1, 3) := by decide +kernel
theorem dX12_statesOf_39 : decode cX12_statesOf 39 = .ok (.goto (-34), 3) := by decide +kernel
theorem dX12_statesOf_42 : decode cX12_statesOf 42 = .ok (.iload_n 3, 1) := by decide +kernel
theorem dX12_statesOf_43 : decode cX12_statesOf 43 = .ok (.ireturn, 1) := by decide +kernel
theorem dX12_turned_0 : decode cX12_turned 0 = .ok (.iconst 2, 1) := by decide +kernel
theorem dX12_turned_1 : decode cX12_turned 1 = .ok (.aload_n 0, 1) := by decide +kernel
theorem dX12_turned_2 : decode cX12_turned 2 = .ok (.iload_n 1, 1) := by decide +kernel
theorem dX12_turned_3 : decode cX12_turned 3 = .ok (.invokevirtual 59, 3) := by decide +kernel
theorem dX12_turned_6 : decode cX12_turned 6 = .ok (.imul, 1) := by decide +kernel
theorem dX12_turned_7 : decode cX12_turned 7 = .ok (.istore 4, 2) := by decide +kernel
theorem dX12_turned_9 : decode cX12_turned 9 = .ok (.aload_n 0, 1) := by decide +kernel
theorem dX12_turned_10 : decode cX12_turned 10 = .ok (.iconst 0, 1) := by decide +kernel
theorem dX12_turned_11 : decode cX12_turned 11 = .ok (.putfield 67, 3) := by decide +kernel
theorem dX12_turned_14 : decode cX12_turned 14 = .ok (.iconst 0, 1) := by decide +kernel
theorem dX12_turned_15 : decode cX12_turned 15 = .ok (.istore 5, 2) := by decide +kernel
theorem dX12_turned_17 : decode cX12_turned 17 = .ok (.iload 5, 2) := by decide +kernel
theorem dX12_turned_19 : decode cX12_turned 19 = .ok (.iload 4, 2) := by decide +kernel
theorem dX12_turned_21 : decode cX12_turned 21 = .ok (.if_icmp .ge 39, 3) := by decide +kernel
theorem dX12_turned_24 : decode cX12_turned 24 = .ok (.aload_n 0, 1) := by decide +kernel
theorem dX12_turned_25 : decode cX12_turned 25 = .ok (.aload_n 0, 1) := by decide +kernel
theorem dX12_turned_26 : decode cX12_turned 26 = .ok (.iload_n 1, 1) := by decide +kernel
theorem dX12_turned_27 : decode cX12_turned 27 = .ok (.iload_n 3, 1) := by decide +kernel
theorem dX12_turned_28 : decode cX12_turned 28 = .ok (.ifCond .eq 13, 3) := by decide +kernel
theorem dX12_turned_31 : decode cX12_turned 31 = .ok (.iload_n 2, 1) := by decide +kernel
theorem dX12_turned_32 : decode cX12_turned 32 = .ok (.iload 5, 2) := by decide +kernel
theorem dX12_turned_34 : decode cX12_turned 34 = .ok (.isub, 1) := by decide +kernel
theorem dX12_turned_35 : decode cX12_turned 35 = .ok (.iload 4, 2) := by decide +kernel
theorem dX12_turned_37 : decode cX12_turned 37 = .ok (.iadd, 1) := by decide +kernel
theorem dX12_turned_38 : decode cX12_turned 38 = .ok (.goto 7, 3) := by decide +kernel
theorem dX12_turned_41 : decode cX12_turned 41 = .ok (.iload_n 2, 1) := by decide +kernel
theorem dX12_turned_42 : decode cX12_turned 42 = .ok (.iload 5, 2) := by decide +kernel
theorem dX12_turned_44 : decode cX12_turned 44 = .ok (.iadd, 1) := by decide +kernel
theorem dX12_turned_45 : decode cX12_turned 45 = .ok (.iload 4, 2) := by decide +kernel
theorem dX12_turned_47 : decode cX12_turned 47 = .ok (.irem, 1) := by decide +kernel
theorem dX12_turned_48 : decode cX12_turned 48 = .ok (.invokevirtual 63, 3) := by decide +kernel
theorem dX12_turned_51 : decode cX12_turned 51 = .ok (.invokevirtual 96, 3) := by decide +kernel
theorem dX12_turned_54 : decode cX12_turned 54 = .ok (.iinc 5 1, 3) := by decide +kernel
theorem dX12_turned_57 : decode cX12_turned 57 = .ok (.goto (-40), 3) := by decide +kernel
theorem dX12_turned_60 : decode cX12_turned 60 = .ok (.return_, 1) := by decide +kernel
theorem dX12_codeOfMade_0 : decode cX12_codeOfMade 0 = .ok (.lconst 0, 1) := by decide +kernel
theorem dX12_codeOfMade_1 : decode cX12_codeOfMade 1 = .ok (.lstore_n 1, 1) := by decide +kernel
theorem dX12_codeOfMade_2 : decode cX12_codeOfMade 2 = .ok (.iconst 0, 1) := by decide +kernel
theorem dX12_codeOfMade_3 : decode cX12_codeOfMade 3 = .ok (.istore_n 3, 1) := by decide +kernel
theorem dX12_codeOfMade_4 : decode cX12_codeOfMade 4 = .ok (.iload_n 3, 1) := by decide +kernel
theorem dX12_codeOfMade_5 : decode cX12_codeOfMade 5 = .ok (.aload_n 0, 1) := by decide +kernel
theorem dX12_codeOfMade_6 : decode cX12_codeOfMade 6 = .ok (.getfield 67, 3) := by decide +kernel
theorem dX12_codeOfMade_9 : decode cX12_codeOfMade 9 = .ok (.if_icmp .ge 22, 3) := by decide +kernel
theorem dX12_codeOfMade_12 : decode cX12_codeOfMade 12 = .ok (.ldc2_w 194, 3) := by decide +kernel
theorem dX12_codeOfMade_15 : decode cX12_codeOfMade 15 = .ok (.lload_n 1, 1) := by decide +kernel
theorem dX12_codeOfMade_16 : decode cX12_codeOfMade 16 = .ok (.lmul, 1) := by decide +kernel
theorem dX12_codeOfMade_17 : decode cX12_codeOfMade 17 = .ok (.aload_n 0, 1) := by decide +kernel
theorem dX12_codeOfMade_18 : decode cX12_codeOfMade 18 = .ok (.iload_n 3, 1) := by decide +kernel
theorem dX12_codeOfMade_19 : decode cX12_codeOfMade 19 = .ok (.invokevirtual 70, 3) := by decide +kernel
theorem dX12_codeOfMade_22 : decode cX12_codeOfMade 22 = .ok (.i2l, 1) := by decide +kernel
theorem dX12_codeOfMade_23 : decode cX12_codeOfMade 23 = .ok (.ladd, 1) := by decide +kernel
theorem dX12_codeOfMade_24 : decode cX12_codeOfMade 24 = .ok (.lstore_n 1, 1) := by decide +kernel
theorem dX12_codeOfMade_25 : decode cX12_codeOfMade 25 = .ok (.iinc 3 1, 3) := by decide +kernel
theorem dX12_codeOfMade_28 : decode cX12_codeOfMade 28 = .ok (.goto (-24), 3) := by decide +kernel
theorem dX12_codeOfMade_31 : decode cX12_codeOfMade 31 = .ok (.lload_n 1, 1) := by decide +kernel
theorem dX12_codeOfMade_32 : decode cX12_codeOfMade 32 = .ok (.lreturn, 1) := by decide +kernel
theorem dX12_codeOf_0 : decode cX12_codeOf 0 = .ok (.lconst 0, 1) := by decide +kernel
theorem dX12_codeOf_1 : decode cX12_codeOf 1 = .ok (.lstore_n 2, 1) := by decide +kernel
theorem dX12_codeOf_2 : decode cX12_codeOf 2 = .ok (.aload_n 0, 1) := by decide +kernel
theorem dX12_codeOf_3 : decode cX12_codeOf 3 = .ok (.aload_n 0, 1) := by decide +kernel
theorem dX12_codeOf_4 : decode cX12_codeOf 4 = .ok (.iload_n 1, 1) := by decide +kernel
theorem dX12_codeOf_5 : decode cX12_codeOf 5 = .ok (.invokevirtual 59, 3) := by decide +kernel
theorem dX12_codeOf_8 : decode cX12_codeOf 8 = .ok (.ifCond .ne 7, 3) := by decide +kernel
theorem dX12_codeOf_11 : decode cX12_codeOf 11 = .ok (.iconst 1, 1) := by decide +kernel
theorem dX12_codeOf_12 : decode cX12_codeOf 12 = .ok (.goto 4, 3) := by decide +kernel
theorem dX12_codeOf_15 : decode cX12_codeOf 15 = .ok (.iconst 0, 1) := by decide +kernel
theorem dX12_codeOf_16 : decode cX12_codeOf 16 = .ok (.putfield 196, 3) := by decide +kernel
theorem dX12_codeOf_19 : decode cX12_codeOf 19 = .ok (.lconst 0, 1) := by decide +kernel
theorem dX12_codeOf_20 : decode cX12_codeOf 20 = .ok (.lstore 4, 2) := by decide +kernel
theorem dX12_codeOf_22 : decode cX12_codeOf 22 = .ok (.iconst 0, 1) := by decide +kernel
theorem dX12_codeOf_23 : decode cX12_codeOf 23 = .ok (.istore 6, 2) := by decide +kernel
theorem dX12_codeOf_25 : decode cX12_codeOf 25 = .ok (.iload 6, 2) := by decide +kernel
theorem dX12_codeOf_27 : decode cX12_codeOf 27 = .ok (.iconst 4, 1) := by decide +kernel
theorem dX12_codeOf_28 : decode cX12_codeOf 28 = .ok (.aload_n 0, 1) := by decide +kernel
theorem dX12_codeOf_29 : decode cX12_codeOf 29 = .ok (.iload_n 1, 1) := by decide +kernel
theorem dX12_codeOf_30 : decode cX12_codeOf 30 = .ok (.invokevirtual 59, 3) := by decide +kernel
theorem dX12_codeOf_33 : decode cX12_codeOf 33 = .ok (.imul, 1) := by decide +kernel
theorem dX12_codeOf_34 : decode cX12_codeOf 34 = .ok (.if_icmp .ge 92, 3) := by decide +kernel
theorem dX12_codeOf_37 : decode cX12_codeOf 37 = .ok (.aload_n 0, 1) := by decide +kernel
theorem dX12_codeOf_38 : decode cX12_codeOf 38 = .ok (.iload_n 1, 1) := by decide +kernel
theorem dX12_codeOf_39 : decode cX12_codeOf 39 = .ok (.iload 6, 2) := by decide +kernel
theorem dX12_codeOf_41 : decode cX12_codeOf 41 = .ok (.iconst 2, 1) := by decide +kernel
theorem dX12_codeOf_42 : decode cX12_codeOf 42 = .ok (.idiv, 1) := by decide +kernel
theorem dX12_codeOf_43 : decode cX12_codeOf 43 = .ok (.iload 6, 2) := by decide +kernel
theorem dX12_codeOf_45 : decode cX12_codeOf 45 = .ok (.iconst 2, 1) := by decide +kernel
theorem dX12_codeOf_46 : decode cX12_codeOf 46 = .ok (.irem, 1) := by decide +kernel
theorem dX12_codeOf_47 : decode cX12_codeOf 47 = .ok (.iconst 1, 1) := by decide +kernel
theorem dX12_codeOf_48 : decode cX12_codeOf 48 = .ok (.if_icmp .ne 7, 3) := by decide +kernel
theorem dX12_codeOf_51 : decode cX12_codeOf 51 = .ok (.iconst 1, 1) := by decide +kernel
theorem dX12_codeOf_52 : decode cX12_codeOf 52 = .ok (.goto 4, 3) := by decide +kernel
theorem dX12_codeOf_55 : decode cX12_codeOf 55 = .ok (.iconst 0, 1) := by decide +kernel
theorem dX12_codeOf_56 : decode cX12_codeOf 56 = .ok (.invokevirtual 199, 3) := by decide +kernel
theorem dX12_codeOf_59 : decode cX12_codeOf 59 = .ok (.aload_n 0, 1) := by decide +kernel
theorem dX12_codeOf_60 : decode cX12_codeOf 60 = .ok (.invokevirtual 203, 3) := by decide +kernel
theorem dX12_codeOf_63 : decode cX12_codeOf 63 = .ok (.lstore 7, 2) := by decide +kernel
theorem dX12_codeOf_65 : decode cX12_codeOf 65 = .ok (.iload 6, 2) := by decide +kernel
theorem dX12_codeOf_67 : decode cX12_codeOf 67 = .ok (.ifCond .ne 8, 3) := by decide +kernel
theorem dX12_codeOf_70 : decode cX12_codeOf 70 = .ok (.lload 7, 2) := by decide +kernel
theorem dX12_codeOf_72 : decode cX12_codeOf 72 = .ok (.goto 5, 3) := by decide +kernel
theorem dX12_codeOf_75 : decode cX12_codeOf 75 = .ok (.lload 4, 2) := by decide +kernel
theorem dX12_codeOf_77 : decode cX12_codeOf 77 = .ok (.lstore 4, 2) := by decide +kernel
theorem dX12_codeOf_79 : decode cX12_codeOf 79 = .ok (.iload 6, 2) := by decide +kernel
theorem dX12_codeOf_81 : decode cX12_codeOf 81 = .ok (.ifCond .eq 10, 3) := by decide +kernel
theorem dX12_codeOf_84 : decode cX12_codeOf 84 = .ok (.lload 7, 2) := by decide +kernel
theorem dX12_codeOf_86 : decode cX12_codeOf 86 = .ok (.lload_n 2, 1) := by decide +kernel
theorem dX12_codeOf_87 : decode cX12_codeOf 87 = .ok (.lcmp, 1) := by decide +kernel
theorem dX12_codeOf_88 : decode cX12_codeOf 88 = .ok (.ifCond .ge 8, 3) := by decide +kernel
theorem dX12_codeOf_91 : decode cX12_codeOf 91 = .ok (.lload 7, 2) := by decide +kernel
theorem dX12_codeOf_93 : decode cX12_codeOf 93 = .ok (.goto 4, 3) := by decide +kernel
theorem dX12_codeOf_96 : decode cX12_codeOf 96 = .ok (.lload_n 2, 1) := by decide +kernel
theorem dX12_codeOf_97 : decode cX12_codeOf 97 = .ok (.lstore_n 2, 1) := by decide +kernel
theorem dX12_codeOf_98 : decode cX12_codeOf 98 = .ok (.aload_n 0, 1) := by decide +kernel
theorem dX12_codeOf_99 : decode cX12_codeOf 99 = .ok (.dup, 1) := by decide +kernel
theorem dX12_codeOf_100 : decode cX12_codeOf 100 = .ok (.getfield 196, 3) := by decide +kernel
theorem dX12_codeOf_103 : decode cX12_codeOf 103 = .ok (.lload 7, 2) := by decide +kernel
theorem dX12_codeOf_105 : decode cX12_codeOf 105 = .ok (.lload 4, 2) := by decide +kernel
theorem dX12_codeOf_107 : decode cX12_codeOf 107 = .ok (.lcmp, 1) := by decide +kernel
theorem dX12_codeOf_108 : decode cX12_codeOf 108 = .ok (.ifCond .ne 7, 3) := by decide +kernel
theorem dX12_codeOf_111 : decode cX12_codeOf 111 = .ok (.iconst 1, 1) := by decide +kernel
theorem dX12_codeOf_112 : decode cX12_codeOf 112 = .ok (.goto 4, 3) := by decide +kernel
theorem dX12_codeOf_115 : decode cX12_codeOf 115 = .ok (.iconst 0, 1) := by decide +kernel
theorem dX12_codeOf_116 : decode cX12_codeOf 116 = .ok (.iadd, 1) := by decide +kernel
theorem dX12_codeOf_117 : decode cX12_codeOf 117 = .ok (.putfield 196, 3) := by decide +kernel
theorem dX12_codeOf_120 : decode cX12_codeOf 120 = .ok (.iinc 6 1, 3) := by decide +kernel
theorem dX12_codeOf_123 : decode cX12_codeOf 123 = .ok (.goto (-98), 3) := by decide +kernel
theorem dX12_codeOf_126 : decode cX12_codeOf 126 = .ok (.lload_n 2, 1) := by decide +kernel
theorem dX12_codeOf_127 : decode cX12_codeOf 127 = .ok (.lreturn, 1) := by decide +kernel
theorem dX12_kinOf_0 : decode cX12_kinOf 0 = .ok (.aload_n 0, 1) := by decide +kernel
theorem dX12_kinOf_1 : decode cX12_kinOf 1 = .ok (.iload_n 1, 1) := by decide +kernel
theorem dX12_kinOf_2 : decode cX12_kinOf 2 = .ok (.invokevirtual 207, 3) := by decide +kernel
theorem dX12_kinOf_5 : decode cX12_kinOf 5 = .ok (.pop2, 1) := by decide +kernel
theorem dX12_kinOf_6 : decode cX12_kinOf 6 = .ok (.aload_n 0, 1) := by decide +kernel
theorem dX12_kinOf_7 : decode cX12_kinOf 7 = .ok (.getfield 196, 3) := by decide +kernel
theorem dX12_kinOf_10 : decode cX12_kinOf 10 = .ok (.ireturn, 1) := by decide +kernel
theorem dX12_isSame_0 : decode cX12_isSame 0 = .ok (.aload_n 0, 1) := by decide +kernel
theorem dX12_isSame_1 : decode cX12_isSame 1 = .ok (.iload_n 1, 1) := by decide +kernel
theorem dX12_isSame_2 : decode cX12_isSame 2 = .ok (.invokevirtual 59, 3) := by decide +kernel
theorem dX12_isSame_5 : decode cX12_isSame 5 = .ok (.aload_n 0, 1) := by decide +kernel
theorem dX12_isSame_6 : decode cX12_isSame 6 = .ok (.iload_n 2, 1) := by decide +kernel
theorem dX12_isSame_7 : decode cX12_isSame 7 = .ok (.invokevirtual 59, 3) := by decide +kernel
theorem dX12_isSame_10 : decode cX12_isSame 10 = .ok (.if_icmp .ne 21, 3) := by decide +kernel
theorem dX12_isSame_13 : decode cX12_isSame 13 = .ok (.aload_n 0, 1) := by decide +kernel
theorem dX12_isSame_14 : decode cX12_isSame 14 = .ok (.iload_n 1, 1) := by decide +kernel
theorem dX12_isSame_15 : decode cX12_isSame 15 = .ok (.invokevirtual 207, 3) := by decide +kernel
theorem dX12_isSame_18 : decode cX12_isSame 18 = .ok (.aload_n 0, 1) := by decide +kernel
theorem dX12_isSame_19 : decode cX12_isSame 19 = .ok (.iload_n 2, 1) := by decide +kernel
theorem dX12_isSame_20 : decode cX12_isSame 20 = .ok (.invokevirtual 207, 3) := by decide +kernel
theorem dX12_isSame_23 : decode cX12_isSame 23 = .ok (.lcmp, 1) := by decide +kernel
theorem dX12_isSame_24 : decode cX12_isSame 24 = .ok (.ifCond .ne 7, 3) := by decide +kernel
theorem dX12_isSame_27 : decode cX12_isSame 27 = .ok (.iconst 1, 1) := by decide +kernel
theorem dX12_isSame_28 : decode cX12_isSame 28 = .ok (.goto 4, 3) := by decide +kernel
theorem dX12_isSame_31 : decode cX12_isSame 31 = .ok (.iconst 0, 1) := by decide +kernel
theorem dX12_isSame_32 : decode cX12_isSame 32 = .ok (.ireturn, 1) := by decide +kernel
theorem dX12_unlikeWords_0 : decode cX12_unlikeWords 0 = .ok (.iconst 0, 1) := by decide +kernel
theorem dX12_unlikeWords_1 : decode cX12_unlikeWords 1 = .ok (.istore_n 1, 1) := by decide +kernel
theorem dX12_unlikeWords_2 : decode cX12_unlikeWords 2 = .ok (.iconst 0, 1) := by decide +kernel
theorem dX12_unlikeWords_3 : decode cX12_unlikeWords 3 = .ok (.istore_n 2, 1) := by decide +kernel
theorem dX12_unlikeWords_4 : decode cX12_unlikeWords 4 = .ok (.iload_n 2, 1) := by decide +kernel
theorem dX12_unlikeWords_5 : decode cX12_unlikeWords 5 = .ok (.aload_n 0, 1) := by decide +kernel
theorem dX12_unlikeWords_6 : decode cX12_unlikeWords 6 = .ok (.getfield 7, 3) := by decide +kernel
theorem dX12_unlikeWords_9 : decode cX12_unlikeWords 9 = .ok (.iconst 0, 1) := by decide +kernel
theorem dX12_unlikeWords_10 : decode cX12_unlikeWords 10 = .ok (.iaload, 1) := by decide +kernel
theorem dX12_unlikeWords_11 : decode cX12_unlikeWords 11 = .ok (.if_icmp .ge 58, 3) := by decide +kernel
theorem dX12_unlikeWords_14 : decode cX12_unlikeWords 14 = .ok (.iconst 1, 1) := by decide +kernel
theorem dX12_unlikeWords_15 : decode cX12_unlikeWords 15 = .ok (.istore_n 3, 1) := by decide +kernel
theorem dX12_unlikeWords_16 : decode cX12_unlikeWords 16 = .ok (.iconst 0, 1) := by decide +kernel
theorem dX12_unlikeWords_17 : decode cX12_unlikeWords 17 = .ok (.istore 4, 2) := by decide +kernel
theorem dX12_unlikeWords_19 : decode cX12_unlikeWords 19 = .ok (.iload 4, 2) := by decide +kernel
theorem dX12_unlikeWords_21 : decode cX12_unlikeWords 21 = .ok (.iload_n 2, 1) := by decide +kernel
theorem dX12_unlikeWords_22 : decode cX12_unlikeWords 22 = .ok (.if_icmp .ge 29, 3) := by decide +kernel
theorem dX12_unlikeWords_25 : decode cX12_unlikeWords 25 = .ok (.iload_n 3, 1) := by decide +kernel
theorem dX12_unlikeWords_26 : decode cX12_unlikeWords 26 = .ok (.ifCond .eq 17, 3) := by decide +kernel
theorem dX12_unlikeWords_29 : decode cX12_unlikeWords 29 = .ok (.aload_n 0, 1) := by decide +kernel
theorem dX12_unlikeWords_30 : decode cX12_unlikeWords 30 = .ok (.iload_n 2, 1) := by decide +kernel
theorem dX12_unlikeWords_31 : decode cX12_unlikeWords 31 = .ok (.iload 4, 2) := by decide +kernel
theorem dX12_unlikeWords_33 : decode cX12_unlikeWords 33 = .ok (.invokevirtual 211, 3) := by decide +kernel
theorem dX12_unlikeWords_36 : decode cX12_unlikeWords 36 = .ok (.ifCond .ne 7, 3) := by decide +kernel
theorem dX12_unlikeWords_39 : decode cX12_unlikeWords 39 = .ok (.iconst 1, 1) := by decide +kernel
theorem dX12_unlikeWords_40 : decode cX12_unlikeWords 40 = .ok (.goto 4, 3) := by decide +kernel
theorem dX12_unlikeWords_43 : decode cX12_unlikeWords 43 = .ok (.iconst 0, 1) := by decide +kernel
theorem dX12_unlikeWords_44 : decode cX12_unlikeWords 44 = .ok (.istore_n 3, 1) := by decide +kernel
theorem dX12_unlikeWords_45 : decode cX12_unlikeWords 45 = .ok (.iinc 4 1, 3) := by decide +kernel
theorem dX12_unlikeWords_48 : decode cX12_unlikeWords 48 = .ok (.goto (-29), 3) := by decide +kernel
theorem dX12_unlikeWords_51 : decode cX12_unlikeWords 51 = .ok (.iload_n 1, 1) := by decide +kernel
theorem dX12_unlikeWords_52 : decode cX12_unlikeWords 52 = .ok (.iload_n 3, 1) := by decide +kernel
theorem dX12_unlikeWords_53 : decode cX12_unlikeWords 53 = .ok (.ifCond .eq 7, 3) := by decide +kernel
theorem dX12_unlikeWords_56 : decode cX12_unlikeWords 56 = .ok (.iconst 1, 1) := by decide +kernel
theorem dX12_unlikeWords_57 : decode cX12_unlikeWords 57 = .ok (.goto 4, 3) := by decide +kernel
theorem dX12_unlikeWords_60 : decode cX12_unlikeWords 60 = .ok (.iconst 0, 1) := by decide +kernel
theorem dX12_unlikeWords_61 : decode cX12_unlikeWords 61 = .ok (.iadd, 1) := by decide +kernel
theorem dX12_unlikeWords_62 : decode cX12_unlikeWords 62 = .ok (.istore_n 1, 1) := by decide +kernel
theorem dX12_unlikeWords_63 : decode cX12_unlikeWords 63 = .ok (.iinc 2 1, 3) := by decide +kernel
theorem dX12_unlikeWords_66 : decode cX12_unlikeWords 66 = .ok (.goto (-62), 3) := by decide +kernel
theorem dX12_unlikeWords_69 : decode cX12_unlikeWords 69 = .ok (.iload_n 1, 1) := by decide +kernel
theorem dX12_unlikeWords_70 : decode cX12_unlikeWords 70 = .ok (.ireturn, 1) := by decide +kernel
theorem dX12_areBeside_0 : decode cX12_areBeside 0 = .ok (.iconst 2, 1) := by decide +kernel
theorem dX12_areBeside_1 : decode cX12_areBeside 1 = .ok (.aload_n 0, 1) := by decide +kernel
theorem dX12_areBeside_2 : decode cX12_areBeside 2 = .ok (.iload_n 1, 1) := by decide +kernel
theorem dX12_areBeside_3 : decode cX12_areBeside 3 = .ok (.invokevirtual 59, 3) := by decide +kernel
theorem dX12_areBeside_6 : decode cX12_areBeside 6 = .ok (.imul, 1) := by decide +kernel
theorem dX12_areBeside_7 : decode cX12_areBeside 7 = .ok (.istore 4, 2) := by decide +kernel
theorem dX12_areBeside_9 : decode cX12_areBeside 9 = .ok (.iload_n 2, 1) := by decide +kernel
theorem dX12_areBeside_10 : decode cX12_areBeside 10 = .ok (.iconst 1, 1) := by decide +kernel
theorem dX12_areBeside_11 : decode cX12_areBeside 11 = .ok (.iadd, 1) := by decide +kernel
theorem dX12_areBeside_12 : decode cX12_areBeside 12 = .ok (.iload 4, 2) := by decide +kernel
theorem dX12_areBeside_14 : decode cX12_areBeside 14 = .ok (.irem, 1) := by decide +kernel
theorem dX12_areBeside_15 : decode cX12_areBeside 15 = .ok (.iload_n 3, 1) := by decide +kernel
theorem dX12_areBeside_16 : decode cX12_areBeside 16 = .ok (.if_icmp .eq 13, 3) := by decide +kernel
theorem dX12_areBeside_19 : decode cX12_areBeside 19 = .ok (.iload_n 3, 1) := by decide +kernel
theorem dX12_areBeside_20 : decode cX12_areBeside 20 = .ok (.iconst 1, 1) := by decide +kernel
theorem dX12_areBeside_21 : decode cX12_areBeside 21 = .ok (.iadd, 1) := by decide +kernel
theorem dX12_areBeside_22 : decode cX12_areBeside 22 = .ok (.iload 4, 2) := by decide +kernel
theorem dX12_areBeside_24 : decode cX12_areBeside 24 = .ok (.irem, 1) := by decide +kernel
theorem dX12_areBeside_25 : decode cX12_areBeside 25 = .ok (.iload_n 2, 1) := by decide +kernel
theorem dX12_areBeside_26 : decode cX12_areBeside 26 = .ok (.if_icmp .ne 7, 3) := by decide +kernel
theorem dX12_areBeside_29 : decode cX12_areBeside 29 = .ok (.iconst 1, 1) := by decide +kernel
theorem dX12_areBeside_30 : decode cX12_areBeside 30 = .ok (.goto 4, 3) := by decide +kernel
theorem dX12_areBeside_33 : decode cX12_areBeside 33 = .ok (.iconst 0, 1) := by decide +kernel
theorem dX12_areBeside_34 : decode cX12_areBeside 34 = .ok (.ireturn, 1) := by decide +kernel
theorem dX12_isLoop_0 : decode cX12_isLoop 0 = .ok (.aload_n 0, 1) := by decide +kernel
theorem dX12_isLoop_1 : decode cX12_isLoop 1 = .ok (.iload_n 1, 1) := by decide +kernel
theorem dX12_isLoop_2 : decode cX12_isLoop 2 = .ok (.aload_n 0, 1) := by decide +kernel
theorem dX12_isLoop_3 : decode cX12_isLoop 3 = .ok (.iload_n 1, 1) := by decide +kernel
theorem dX12_isLoop_4 : decode cX12_isLoop 4 = .ok (.iload_n 2, 1) := by decide +kernel
theorem dX12_isLoop_5 : decode cX12_isLoop 5 = .ok (.iconst 0, 1) := by decide +kernel
theorem dX12_isLoop_6 : decode cX12_isLoop 6 = .ok (.invokevirtual 104, 3) := by decide +kernel
theorem dX12_isLoop_9 : decode cX12_isLoop 9 = .ok (.aload_n 0, 1) := by decide +kernel
theorem dX12_isLoop_10 : decode cX12_isLoop 10 = .ok (.iload_n 1, 1) := by decide +kernel
theorem dX12_isLoop_11 : decode cX12_isLoop 11 = .ok (.iload_n 2, 1) := by decide +kernel
theorem dX12_isLoop_12 : decode cX12_isLoop 12 = .ok (.iconst 1, 1) := by decide +kernel
theorem dX12_isLoop_13 : decode cX12_isLoop 13 = .ok (.invokevirtual 104, 3) := by decide +kernel
theorem dX12_isLoop_16 : decode cX12_isLoop 16 = .ok (.invokevirtual 214, 3) := by decide +kernel
theorem dX12_isLoop_19 : decode cX12_isLoop 19 = .ok (.ireturn, 1) := by decide +kernel
theorem dX12_loops_0 : decode cX12_loops 0 = .ok (.iconst 0, 1) := by decide +kernel
theorem dX12_loops_1 : decode cX12_loops 1 = .ok (.istore_n 2, 1) := by decide +kernel
theorem dX12_loops_2 : decode cX12_loops 2 = .ok (.iconst 0, 1) := by decide +kernel
theorem dX12_loops_3 : decode cX12_loops 3 = .ok (.istore_n 3, 1) := by decide +kernel
theorem dX12_loops_4 : decode cX12_loops 4 = .ok (.iload_n 3, 1) := by decide +kernel
theorem dX12_loops_5 : decode cX12_loops 5 = .ok (.aload_n 0, 1) := by decide +kernel
theorem dX12_loops_6 : decode cX12_loops 6 = .ok (.iload_n 1, 1) := by decide +kernel
theorem dX12_loops_7 : decode cX12_loops 7 = .ok (.invokevirtual 59, 3) := by decide +kernel
theorem dX12_loops_10 : decode cX12_loops 10 = .ok (.if_icmp .ge 28, 3) := by decide +kernel
theorem dX12_loops_13 : decode cX12_loops 13 = .ok (.iload_n 2, 1) := by decide +kernel
theorem dX12_loops_14 : decode cX12_loops 14 = .ok (.aload_n 0, 1) := by decide +kernel
theorem dX12_loops_15 : decode cX12_loops 15 = .ok (.iload_n 1, 1) := by decide +kernel
theorem dX12_loops_16 : decode cX12_loops 16 = .ok (.iload_n 3, 1) := by decide +kernel
theorem dX12_loops_17 : decode cX12_loops 17 = .ok (.invokevirtual 217, 3) := by decide +kernel
theorem dX12_loops_20 : decode cX12_loops 20 = .ok (.ifCond .eq 9, 3) := by decide +kernel
theorem dX12_loops_23 : decode cX12_loops 23 = .ok (.iconst 1, 1) := by decide +kernel
theorem dX12_loops_24 : decode cX12_loops 24 = .ok (.iload_n 3, 1) := by decide +kernel
theorem dX12_loops_25 : decode cX12_loops 25 = .ok (.ishl, 1) := by decide +kernel
theorem dX12_loops_26 : decode cX12_loops 26 = .ok (.goto 4, 3) := by decide +kernel
theorem dX12_loops_29 : decode cX12_loops 29 = .ok (.iconst 0, 1) := by decide +kernel
theorem dX12_loops_30 : decode cX12_loops 30 = .ok (.ior, 1) := by decide +kernel
theorem dX12_loops_31 : decode cX12_loops 31 = .ok (.istore_n 2, 1) := by decide +kernel
theorem dX12_loops_32 : decode cX12_loops 32 = .ok (.iinc 3 1, 3) := by decide +kernel
theorem dX12_loops_35 : decode cX12_loops 35 = .ok (.goto (-31), 3) := by decide +kernel
theorem dX12_loops_38 : decode cX12_loops 38 = .ok (.iload_n 2, 1) := by decide +kernel
theorem dX12_loops_39 : decode cX12_loops 39 = .ok (.ireturn, 1) := by decide +kernel
theorem dX12_wrong_0 : decode cX12_wrong 0 = .ok (.iconst 0, 1) := by decide +kernel
theorem dX12_wrong_1 : decode cX12_wrong 1 = .ok (.istore_n 1, 1) := by decide +kernel
theorem dX12_wrong_2 : decode cX12_wrong 2 = .ok (.iload_n 1, 1) := by decide +kernel
theorem dX12_wrong_3 : decode cX12_wrong 3 = .ok (.aload_n 0, 1) := by decide +kernel
theorem dX12_wrong_4 : decode cX12_wrong 4 = .ok (.getfield 220, 3) := by decide +kernel
theorem dX12_wrong_7 : decode cX12_wrong 7 = .ok (.if_icmp .ge 44, 3) := by decide +kernel
theorem dX12_wrong_10 : decode cX12_wrong 10 = .ok (.aload_n 0, 1) := by decide +kernel
theorem dX12_wrong_11 : decode cX12_wrong 11 = .ok (.aload_n 0, 1) := by decide +kernel
theorem dX12_wrong_12 : decode cX12_wrong 12 = .ok (.getfield 27, 3) := by decide +kernel
theorem dX12_wrong_15 : decode cX12_wrong 15 = .ok (.iload_n 1, 1) := by decide +kernel
theorem dX12_wrong_16 : decode cX12_wrong 16 = .ok (.iaload, 1) := by decide +kernel
theorem dX12_wrong_17 : decode cX12_wrong 17 = .ok (.invokevirtual 223, 3) := by decide +kernel
theorem dX12_wrong_20 : decode cX12_wrong 20 = .ok (.ifCond .eq 23, 3) := by decide +kernel
theorem dX12_wrong_23 : decode cX12_wrong 23 = .ok (.aload_n 0, 1) := by decide +kernel
theorem dX12_wrong_24 : decode cX12_wrong 24 = .ok (.aload_n 0, 1) := by decide +kernel
theorem dX12_wrong_25 : decode cX12_wrong 25 = .ok (.getfield 27, 3) := by decide +kernel
theorem dX12_wrong_28 : decode cX12_wrong 28 = .ok (.iload_n 1, 1) := by decide +kernel
theorem dX12_wrong_29 : decode cX12_wrong 29 = .ok (.iaload, 1) := by decide +kernel
theorem dX12_wrong_30 : decode cX12_wrong 30 = .ok (.iconst 1, 1) := by decide +kernel
theorem dX12_wrong_31 : decode cX12_wrong 31 = .ok (.invokevirtual 227, 3) := by decide +kernel
theorem dX12_wrong_34 : decode cX12_wrong 34 = .ok (.aload_n 0, 1) := by decide +kernel
theorem dX12_wrong_35 : decode cX12_wrong 35 = .ok (.getfield 30, 3) := by decide +kernel
theorem dX12_wrong_38 : decode cX12_wrong 38 = .ok (.iload_n 1, 1) := by decide +kernel
theorem dX12_wrong_39 : decode cX12_wrong 39 = .ok (.iaload, 1) := by decide +kernel
theorem dX12_wrong_40 : decode cX12_wrong 40 = .ok (.if_icmp .eq 5, 3) := by decide +kernel
theorem dX12_wrong_43 : decode cX12_wrong 43 = .ok (.iload_n 1, 1) := by decide +kernel
theorem dX12_wrong_44 : decode cX12_wrong 44 = .ok (.ireturn, 1) := by decide +kernel
theorem dX12_wrong_45 : decode cX12_wrong 45 = .ok (.iinc 1 1, 3) := by decide +kernel
theorem dX12_wrong_48 : decode cX12_wrong 48 = .ok (.goto (-46), 3) := by decide +kernel
theorem dX12_wrong_51 : decode cX12_wrong 51 = .ok (.iconst (-1), 1) := by decide +kernel
theorem dX12_wrong_52 : decode cX12_wrong 52 = .ok (.ireturn, 1) := by decide +kernel
theorem dX12_told_0 : decode cX12_told 0 = .ok (.iload_n 1, 1) := by decide +kernel
theorem dX12_told_1 : decode cX12_told 1 = .ok (.tableswitch 80 0 6 #[43, 50, 55, 60, 65, 70, 75], 43) := by decide +kernel
theorem dX12_told_44 : decode cX12_told 44 = .ok (.aload_n 0, 1) := by decide +kernel
theorem dX12_told_45 : decode cX12_told 45 = .ok (.getfield 7, 3) := by decide +kernel
theorem dX12_told_48 : decode cX12_told 48 = .ok (.iconst 0, 1) := by decide +kernel
theorem dX12_told_49 : decode cX12_told 49 = .ok (.iaload, 1) := by decide +kernel
theorem dX12_told_50 : decode cX12_told 50 = .ok (.ireturn, 1) := by decide +kernel
theorem dX12_told_51 : decode cX12_told 51 = .ok (.aload_n 0, 1) := by decide +kernel
theorem dX12_told_52 : decode cX12_told 52 = .ok (.invokevirtual 230, 3) := by decide +kernel
theorem dX12_told_55 : decode cX12_told 55 = .ok (.ireturn, 1) := by decide +kernel
theorem dX12_told_56 : decode cX12_told 56 = .ok (.aload_n 0, 1) := by decide +kernel
theorem dX12_told_57 : decode cX12_told 57 = .ok (.getfield 79, 3) := by decide +kernel
theorem dX12_told_60 : decode cX12_told 60 = .ok (.ireturn, 1) := by decide +kernel
theorem dX12_told_61 : decode cX12_told 61 = .ok (.aload_n 0, 1) := by decide +kernel
theorem dX12_told_62 : decode cX12_told 62 = .ok (.getfield 220, 3) := by decide +kernel
theorem dX12_told_65 : decode cX12_told 65 = .ok (.ireturn, 1) := by decide +kernel
theorem dX12_told_66 : decode cX12_told 66 = .ok (.aload_n 0, 1) := by decide +kernel
theorem dX12_told_67 : decode cX12_told 67 = .ok (.invokevirtual 233, 3) := by decide +kernel
theorem dX12_told_70 : decode cX12_told 70 = .ok (.ireturn, 1) := by decide +kernel
theorem dX12_told_71 : decode cX12_told 71 = .ok (.aload_n 0, 1) := by decide +kernel
theorem dX12_told_72 : decode cX12_told 72 = .ok (.getfield 48, 3) := by decide +kernel
theorem dX12_told_75 : decode cX12_told 75 = .ok (.ireturn, 1) := by decide +kernel
theorem dX12_told_76 : decode cX12_told 76 = .ok (.aload_n 0, 1) := by decide +kernel
theorem dX12_told_77 : decode cX12_told 77 = .ok (.getfield 236, 3) := by decide +kernel
theorem dX12_told_80 : decode cX12_told 80 = .ok (.ireturn, 1) := by decide +kernel
theorem dX12_told_81 : decode cX12_told 81 = .ok (.ldc 78, 2) := by decide +kernel
theorem dX12_told_83 : decode cX12_told 83 = .ok (.ireturn, 1) := by decide +kernel
theorem dX12_ofFaces_0 : decode cX12_ofFaces 0 = .ok (.iload_n 2, 1) := by decide +kernel
theorem dX12_ofFaces_1 : decode cX12_ofFaces 1 = .ok (.tableswitch 101 4 10 #[43, 54, 75, 81, 101, 87, 94], 43) := by decide +kernel
theorem dX12_ofFaces_44 : decode cX12_ofFaces 44 = .ok (.aload_n 0, 1) := by decide +kernel
theorem dX12_ofFaces_45 : decode cX12_ofFaces 45 = .ok (.iload_n 1, 1) := by decide +kernel
theorem dX12_ofFaces_46 : decode cX12_ofFaces 46 = .ok (.aload_n 0, 1) := by decide +kernel
theorem dX12_ofFaces_47 : decode cX12_ofFaces 47 = .ok (.iload_n 1, 1) := by decide +kernel
theorem dX12_ofFaces_48 : decode cX12_ofFaces 48 = .ok (.invokevirtual 168, 3) := by decide +kernel
theorem dX12_ofFaces_51 : decode cX12_ofFaces 51 = .ok (.invokevirtual 159, 3) := by decide +kernel
theorem dX12_ofFaces_54 : decode cX12_ofFaces 54 = .ok (.ireturn, 1) := by decide +kernel
theorem dX12_ofFaces_55 : decode cX12_ofFaces 55 = .ok (.aload_n 0, 1) := by decide +kernel
theorem dX12_ofFaces_56 : decode cX12_ofFaces 56 = .ok (.iload_n 1, 1) := by decide +kernel
theorem dX12_ofFaces_57 : decode cX12_ofFaces 57 = .ok (.invokevirtual 59, 3) := by decide +kernel
theorem dX12_ofFaces_60 : decode cX12_ofFaces 60 = .ok (.iconst 2, 1) := by decide +kernel
theorem dX12_ofFaces_61 : decode cX12_ofFaces 61 = .ok (.iadd, 1) := by decide +kernel
theorem dX12_ofFaces_62 : decode cX12_ofFaces 62 = .ok (.aload_n 0, 1) := by decide +kernel
theorem dX12_ofFaces_63 : decode cX12_ofFaces 63 = .ok (.iload_n 1, 1) := by decide +kernel
theorem dX12_ofFaces_64 : decode cX12_ofFaces 64 = .ok (.aload_n 0, 1) := by decide +kernel
theorem dX12_ofFaces_65 : decode cX12_ofFaces 65 = .ok (.iload_n 1, 1) := by decide +kernel
theorem dX12_ofFaces_66 : decode cX12_ofFaces 66 = .ok (.invokevirtual 168, 3) := by decide +kernel
theorem dX12_ofFaces_69 : decode cX12_ofFaces 69 = .ok (.invokevirtual 159, 3) := by decide +kernel
theorem dX12_ofFaces_72 : decode cX12_ofFaces 72 = .ok (.isub, 1) := by decide +kernel
theorem dX12_ofFaces_73 : decode cX12_ofFaces 73 = .ok (.iconst 2, 1) := by decide +kernel
theorem dX12_ofFaces_74 : decode cX12_ofFaces 74 = .ok (.idiv, 1) := by decide +kernel
theorem dX12_ofFaces_75 : decode cX12_ofFaces 75 = .ok (.ireturn, 1) := by decide +kernel
theorem dX12_ofFaces_76 : decode cX12_ofFaces 76 = .ok (.aload_n 0, 1) := by decide +kernel
theorem dX12_ofFaces_77 : decode cX12_ofFaces 77 = .ok (.iload_n 1, 1) := by decide +kernel
theorem dX12_ofFaces_78 : decode cX12_ofFaces 78 = .ok (.invokevirtual 239, 3) := by decide +kernel
theorem dX12_ofFaces_81 : decode cX12_ofFaces 81 = .ok (.ireturn, 1) := by decide +kernel
theorem dX12_ofFaces_82 : decode cX12_ofFaces 82 = .ok (.aload_n 0, 1) := by decide +kernel
theorem dX12_ofFaces_83 : decode cX12_ofFaces 83 = .ok (.iload_n 1, 1) := by decide +kernel
theorem dX12_ofFaces_84 : decode cX12_ofFaces 84 = .ok (.invokevirtual 242, 3) := by decide +kernel
theorem dX12_ofFaces_87 : decode cX12_ofFaces 87 = .ok (.ireturn, 1) := by decide +kernel
theorem dX12_ofFaces_88 : decode cX12_ofFaces 88 = .ok (.aload_n 0, 1) := by decide +kernel
theorem dX12_ofFaces_89 : decode cX12_ofFaces 89 = .ok (.iload_n 1, 1) := by decide +kernel
theorem dX12_ofFaces_90 : decode cX12_ofFaces 90 = .ok (.iconst 1, 1) := by decide +kernel
theorem dX12_ofFaces_91 : decode cX12_ofFaces 91 = .ok (.invokevirtual 245, 3) := by decide +kernel
theorem dX12_ofFaces_94 : decode cX12_ofFaces 94 = .ok (.ireturn, 1) := by decide +kernel
theorem dX12_ofFaces_95 : decode cX12_ofFaces 95 = .ok (.aload_n 0, 1) := by decide +kernel
theorem dX12_ofFaces_96 : decode cX12_ofFaces 96 = .ok (.iload_n 1, 1) := by decide +kernel
theorem dX12_ofFaces_97 : decode cX12_ofFaces 97 = .ok (.iconst 0, 1) := by decide +kernel
theorem dX12_ofFaces_98 : decode cX12_ofFaces 98 = .ok (.invokevirtual 245, 3) := by decide +kernel
theorem dX12_ofFaces_101 : decode cX12_ofFaces 101 = .ok (.ireturn, 1) := by decide +kernel
theorem dX12_ofFaces_102 : decode cX12_ofFaces 102 = .ok (.aload_n 0, 1) := by decide +kernel
theorem dX12_ofFaces_103 : decode cX12_ofFaces 103 = .ok (.iload_n 1, 1) := by decide +kernel
theorem dX12_ofFaces_104 : decode cX12_ofFaces 104 = .ok (.iload_n 2, 1) := by decide +kernel
theorem dX12_ofFaces_105 : decode cX12_ofFaces 105 = .ok (.bipush 11, 2) := by decide +kernel
theorem dX12_ofFaces_107 : decode cX12_ofFaces 107 = .ok (.isub, 1) := by decide +kernel
theorem dX12_ofFaces_108 : decode cX12_ofFaces 108 = .ok (.invokevirtual 249, 3) := by decide +kernel
theorem dX12_ofFaces_111 : decode cX12_ofFaces 111 = .ok (.ireturn, 1) := by decide +kernel
theorem dX12_word_0 : decode cX12_word 0 = .ok (.aload_n 0, 1) := by decide +kernel
theorem dX12_word_1 : decode cX12_word 1 = .ok (.iload_n 1, 1) := by decide +kernel
theorem dX12_word_2 : decode cX12_word 2 = .ok (.invokevirtual 223, 3) := by decide +kernel
theorem dX12_word_5 : decode cX12_word 5 = .ok (.ifCond .ne 6, 3) := by decide +kernel
theorem dX12_word_8 : decode cX12_word 8 = .ok (.ldc 252, 2) := by decide +kernel
theorem dX12_word_10 : decode cX12_word 10 = .ok (.ireturn, 1) := by decide +kernel
theorem dX12_word_11 : decode cX12_word 11 = .ok (.iload_n 2, 1) := by decide +kernel
theorem dX12_word_12 : decode cX12_word 12 = .ok (.tableswitch 111 0 12 #[68, 74, 80, 86, 111, 111, 111, 111, 92, 111, 111, 99, 105], 68) := by decide +kernel
theorem dX12_word_80 : decode cX12_word 80 = .ok (.aload_n 0, 1) := by decide +kernel
theorem dX12_word_81 : decode cX12_word 81 = .ok (.iload_n 1, 1) := by decide +kernel
theorem dX12_word_82 : decode cX12_word 82 = .ok (.invokevirtual 59, 3) := by decide +kernel
theorem dX12_word_85 : decode cX12_word 85 = .ok (.ireturn, 1) := by decide +kernel
theorem dX12_word_86 : decode cX12_word 86 = .ok (.aload_n 0, 1) := by decide +kernel
theorem dX12_word_87 : decode cX12_word 87 = .ok (.iload_n 1, 1) := by decide +kernel
theorem dX12_word_88 : decode cX12_word 88 = .ok (.invokevirtual 253, 3) := by decide +kernel
theorem dX12_word_91 : decode cX12_word 91 = .ok (.ireturn, 1) := by decide +kernel
theorem dX12_word_92 : decode cX12_word 92 = .ok (.aload_n 0, 1) := by decide +kernel
theorem dX12_word_93 : decode cX12_word 93 = .ok (.iload_n 1, 1) := by decide +kernel
theorem dX12_word_94 : decode cX12_word 94 = .ok (.invokevirtual 256, 3) := by decide +kernel
theorem dX12_word_97 : decode cX12_word 97 = .ok (.ireturn, 1) := by decide +kernel
theorem dX12_word_98 : decode cX12_word 98 = .ok (.aload_n 0, 1) := by decide +kernel
theorem dX12_word_99 : decode cX12_word 99 = .ok (.iload_n 1, 1) := by decide +kernel
theorem dX12_word_100 : decode cX12_word 100 = .ok (.invokevirtual 168, 3) := by decide +kernel
theorem dX12_word_103 : decode cX12_word 103 = .ok (.ireturn, 1) := by decide +kernel
theorem dX12_word_104 : decode cX12_word 104 = .ok (.aload_n 0, 1) := by decide +kernel
theorem dX12_word_105 : decode cX12_word 105 = .ok (.iload_n 1, 1) := by decide +kernel
theorem dX12_word_106 : decode cX12_word 106 = .ok (.iconst 0, 1) := by decide +kernel
theorem dX12_word_107 : decode cX12_word 107 = .ok (.invokevirtual 191, 3) := by decide +kernel
theorem dX12_word_110 : decode cX12_word 110 = .ok (.ireturn, 1) := by decide +kernel
theorem dX12_word_111 : decode cX12_word 111 = .ok (.aload_n 0, 1) := by decide +kernel
theorem dX12_word_112 : decode cX12_word 112 = .ok (.iload_n 1, 1) := by decide +kernel
theorem dX12_word_113 : decode cX12_word 113 = .ok (.invokevirtual 259, 3) := by decide +kernel
theorem dX12_word_116 : decode cX12_word 116 = .ok (.ireturn, 1) := by decide +kernel
theorem dX12_word_117 : decode cX12_word 117 = .ok (.aload_n 0, 1) := by decide +kernel
theorem dX12_word_118 : decode cX12_word 118 = .ok (.iload_n 1, 1) := by decide +kernel
theorem dX12_word_119 : decode cX12_word 119 = .ok (.invokevirtual 262, 3) := by decide +kernel
theorem dX12_word_122 : decode cX12_word 122 = .ok (.ireturn, 1) := by decide +kernel
theorem dX12_word_123 : decode cX12_word 123 = .ok (.iload_n 2, 1) := by decide +kernel
theorem dX12_word_124 : decode cX12_word 124 = .ok (.i2l, 1) := by decide +kernel
theorem dX12_word_125 : decode cX12_word 125 = .ok (.ldc2_w 265, 3) := by decide +kernel
theorem dX12_word_128 : decode cX12_word 128 = .ok (.ldc2_w 267, 3) := by decide +kernel
theorem dX12_word_131 : decode cX12_word 131 = .ok (.invokestatic 55, 3) := by decide +kernel
theorem dX12_word_134 : decode cX12_word 134 = .ok (.ifCond .eq 12, 3) := by decide +kernel
theorem dX12_word_137 : decode cX12_word 137 = .ok (.aload_n 0, 1) := by decide +kernel
theorem dX12_word_138 : decode cX12_word 138 = .ok (.iload_n 1, 1) := by decide +kernel
theorem dX12_word_139 : decode cX12_word 139 = .ok (.iload_n 2, 1) := by decide +kernel
theorem dX12_word_140 : decode cX12_word 140 = .ok (.invokevirtual 269, 3) := by decide +kernel
theorem dX12_word_143 : decode cX12_word 143 = .ok (.goto 5, 3) := by decide +kernel
theorem dX12_word_146 : decode cX12_word 146 = .ok (.ldc 78, 2) := by decide +kernel
theorem dX12_word_148 : decode cX12_word 148 = .ok (.ireturn, 1) := by decide +kernel
theorem dX12_code_0 : decode cX12_code 0 = .ok (.aload_n 0, 1) := by decide +kernel
theorem dX12_code_1 : decode cX12_code 1 = .ok (.iload_n 1, 1) := by decide +kernel
theorem dX12_code_2 : decode cX12_code 2 = .ok (.invokevirtual 223, 3) := by decide +kernel
theorem dX12_code_5 : decode cX12_code 5 = .ok (.ifCond .eq 11, 3) := by decide +kernel
theorem dX12_code_8 : decode cX12_code 8 = .ok (.aload_n 0, 1) := by decide +kernel
theorem dX12_code_9 : decode cX12_code 9 = .ok (.iload_n 1, 1) := by decide +kernel
theorem dX12_code_10 : decode cX12_code 10 = .ok (.invokevirtual 207, 3) := by decide +kernel
theorem dX12_code_13 : decode cX12_code 13 = .ok (.goto 6, 3) := by decide +kernel
theorem dX12_code_16 : decode cX12_code 16 = .ok (.ldc2_w 272, 3) := by decide +kernel
theorem dX12_code_19 : decode cX12_code 19 = .ok (.lreturn, 1) := by decide +kernel
theorem dX12_at_0 : decode cX12_at 0 = .ok (.aload_n 0, 1) := by decide +kernel
theorem dX12_at_1 : decode cX12_at 1 = .ok (.iload_n 1, 1) := by decide +kernel
theorem dX12_at_2 : decode cX12_at 2 = .ok (.invokevirtual 223, 3) := by decide +kernel
theorem dX12_at_5 : decode cX12_at 5 = .ok (.ifCond .ne 6, 3) := by decide +kernel
theorem dX12_at_8 : decode cX12_at 8 = .ok (.ldc 252, 2) := by decide +kernel
theorem dX12_at_10 : decode cX12_at 10 = .ok (.ireturn, 1) := by decide +kernel
theorem dX12_at_11 : decode cX12_at 11 = .ok (.iload_n 2, 1) := by decide +kernel
theorem dX12_at_12 : decode cX12_at 12 = .ok (.i2l, 1) := by decide +kernel
theorem dX12_at_13 : decode cX12_at 13 = .ok (.lconst 0, 1) := by decide +kernel
theorem dX12_at_14 : decode cX12_at 14 = .ok (.iconst 2, 1) := by decide +kernel
theorem dX12_at_15 : decode cX12_at 15 = .ok (.aload_n 0, 1) := by decide +kernel
theorem dX12_at_16 : decode cX12_at 16 = .ok (.iload_n 1, 1) := by decide +kernel
theorem dX12_at_17 : decode cX12_at 17 = .ok (.invokevirtual 59, 3) := by decide +kernel
theorem dX12_at_20 : decode cX12_at 20 = .ok (.imul, 1) := by decide +kernel
theorem dX12_at_21 : decode cX12_at 21 = .ok (.iconst 1, 1) := by decide +kernel
theorem dX12_at_22 : decode cX12_at 22 = .ok (.isub, 1) := by decide +kernel
theorem dX12_at_23 : decode cX12_at 23 = .ok (.i2l, 1) := by decide +kernel
theorem dX12_at_24 : decode cX12_at 24 = .ok (.invokestatic 55, 3) := by decide +kernel
theorem dX12_at_27 : decode cX12_at 27 = .ok (.ifCond .eq 12, 3) := by decide +kernel
theorem dX12_at_30 : decode cX12_at 30 = .ok (.aload_n 0, 1) := by decide +kernel
theorem dX12_at_31 : decode cX12_at 31 = .ok (.iload_n 1, 1) := by decide +kernel
theorem dX12_at_32 : decode cX12_at 32 = .ok (.iload_n 2, 1) := by decide +kernel
theorem dX12_at_33 : decode cX12_at 33 = .ok (.invokevirtual 63, 3) := by decide +kernel
theorem dX12_at_36 : decode cX12_at 36 = .ok (.goto 4, 3) := by decide +kernel
theorem dX12_at_39 : decode cX12_at 39 = .ok (.iconst (-1), 1) := by decide +kernel
theorem dX12_at_40 : decode cX12_at 40 = .ok (.ireturn, 1) := by decide +kernel
theorem dX12_letter_0 : decode cX12_letter 0 = .ok (.aload_n 0, 1) := by decide +kernel
theorem dX12_letter_1 : decode cX12_letter 1 = .ok (.iload_n 1, 1) := by decide +kernel
theorem dX12_letter_2 : decode cX12_letter 2 = .ok (.invokevirtual 223, 3) := by decide +kernel
theorem dX12_letter_5 : decode cX12_letter 5 = .ok (.ifCond .eq 12, 3) := by decide +kernel
theorem dX12_letter_8 : decode cX12_letter 8 = .ok (.aload_n 0, 1) := by decide +kernel
theorem dX12_letter_9 : decode cX12_letter 9 = .ok (.iload_n 1, 1) := by decide +kernel
theorem dX12_letter_10 : decode cX12_letter 10 = .ok (.iload_n 2, 1) := by decide +kernel
theorem dX12_letter_11 : decode cX12_letter 11 = .ok (.invokevirtual 274, 3) := by decide +kernel
theorem dX12_letter_14 : decode cX12_letter 14 = .ok (.ifCond .ne 6, 3) := by decide +kernel
theorem dX12_letter_17 : decode cX12_letter 17 = .ok (.ldc 252, 2) := by decide +kernel
theorem dX12_letter_19 : decode cX12_letter 19 = .ok (.ireturn, 1) := by decide +kernel
theorem dX12_letter_20 : decode cX12_letter 20 = .ok (.iload_n 3, 1) := by decide +kernel
theorem dX12_letter_21 : decode cX12_letter 21 = .ok (.i2l, 1) := by decide +kernel
theorem dX12_letter_22 : decode cX12_letter 22 = .ok (.lconst 0, 1) := by decide +kernel
theorem dX12_letter_23 : decode cX12_letter 23 = .ok (.ldc2_w 277, 3) := by decide +kernel
theorem dX12_letter_26 : decode cX12_letter 26 = .ok (.invokestatic 55, 3) := by decide +kernel
theorem dX12_letter_29 : decode cX12_letter 29 = .ok (.ifCond .ne 6, 3) := by decide +kernel
theorem dX12_letter_32 : decode cX12_letter 32 = .ok (.ldc 78, 2) := by decide +kernel
theorem dX12_letter_34 : decode cX12_letter 34 = .ok (.ireturn, 1) := by decide +kernel
theorem dX12_letter_35 : decode cX12_letter 35 = .ok (.iload_n 3, 1) := by decide +kernel
theorem dX12_letter_36 : decode cX12_letter 36 = .ok (.iconst 3, 1) := by decide +kernel
theorem dX12_letter_37 : decode cX12_letter 37 = .ok (.if_icmp .ge 25, 3) := by decide +kernel
theorem dX12_letter_40 : decode cX12_letter 40 = .ok (.iload_n 3, 1) := by decide +kernel
theorem dX12_letter_41 : decode cX12_letter 41 = .ok (.iconst 2, 1) := by decide +kernel
theorem dX12_letter_42 : decode cX12_letter 42 = .ok (.if_icmp .ne 12, 3) := by decide +kernel
theorem dX12_letter_45 : decode cX12_letter 45 = .ok (.aload_n 0, 1) := by decide +kernel
theorem dX12_letter_46 : decode cX12_letter 46 = .ok (.iload_n 1, 1) := by decide +kernel
theorem dX12_letter_47 : decode cX12_letter 47 = .ok (.iload_n 2, 1) := by decide +kernel
theorem dX12_letter_48 : decode cX12_letter 48 = .ok (.invokevirtual 129, 3) := by decide +kernel
theorem dX12_letter_51 : decode cX12_letter 51 = .ok (.goto 10, 3) := by decide +kernel
theorem dX12_letter_54 : decode cX12_letter 54 = .ok (.aload_n 0, 1) := by decide +kernel
theorem dX12_letter_55 : decode cX12_letter 55 = .ok (.iload_n 1, 1) := by decide +kernel
theorem dX12_letter_56 : decode cX12_letter 56 = .ok (.iload_n 2, 1) := by decide +kernel
theorem dX12_letter_57 : decode cX12_letter 57 = .ok (.iload_n 3, 1) := by decide +kernel
theorem dX12_letter_58 : decode cX12_letter 58 = .ok (.invokevirtual 104, 3) := by decide +kernel
theorem dX12_letter_61 : decode cX12_letter 61 = .ok (.ireturn, 1) := by decide +kernel
theorem dX12_letter_62 : decode cX12_letter 62 = .ok (.aload_n 0, 1) := by decide +kernel
theorem dX12_letter_63 : decode cX12_letter 63 = .ok (.iload_n 1, 1) := by decide +kernel
theorem dX12_letter_64 : decode cX12_letter 64 = .ok (.aload_n 0, 1) := by decide +kernel
theorem dX12_letter_65 : decode cX12_letter 65 = .ok (.iload_n 1, 1) := by decide +kernel
theorem dX12_letter_66 : decode cX12_letter 66 = .ok (.invokevirtual 168, 3) := by decide +kernel
theorem dX12_letter_69 : decode cX12_letter 69 = .ok (.invokevirtual 162, 3) := by decide +kernel
theorem dX12_letter_72 : decode cX12_letter 72 = .ok (.istore 4, 2) := by decide +kernel
theorem dX12_letter_74 : decode cX12_letter 74 = .ok (.iload_n 3, 1) := by decide +kernel
theorem dX12_letter_75 : decode cX12_letter 75 = .ok (.bipush 7, 2) := by decide +kernel
theorem dX12_letter_77 : decode cX12_letter 77 = .ok (.if_icmp .ge 15, 3) := by decide +kernel
theorem dX12_letter_80 : decode cX12_letter 80 = .ok (.aload_n 0, 1) := by decide +kernel
theorem dX12_letter_81 : decode cX12_letter 81 = .ok (.iconst 4, 1) := by decide +kernel
theorem dX12_letter_82 : decode cX12_letter 82 = .ok (.iload_n 2, 1) := by decide +kernel
theorem dX12_letter_83 : decode cX12_letter 83 = .ok (.imul, 1) := by decide +kernel
theorem dX12_letter_84 : decode cX12_letter 84 = .ok (.iload_n 3, 1) := by decide +kernel
theorem dX12_letter_85 : decode cX12_letter 85 = .ok (.iadd, 1) := by decide +kernel
theorem dX12_letter_86 : decode cX12_letter 86 = .ok (.iconst 3, 1) := by decide +kernel
theorem dX12_letter_87 : decode cX12_letter 87 = .ok (.isub, 1) := by decide +kernel
theorem dX12_letter_88 : decode cX12_letter 88 = .ok (.invokevirtual 165, 3) := by decide +kernel
theorem dX12_letter_91 : decode cX12_letter 91 = .ok (.ireturn, 1) := by decide +kernel
theorem dX12_letter_92 : decode cX12_letter 92 = .ok (.aload_n 0, 1) := by decide +kernel
theorem dX12_letter_93 : decode cX12_letter 93 = .ok (.iload_n 1, 1) := by decide +kernel
theorem dX12_letter_94 : decode cX12_letter 94 = .ok (.invokevirtual 184, 3) := by decide +kernel
theorem dX12_letter_97 : decode cX12_letter 97 = .ok (.iload 4, 2) := by decide +kernel
theorem dX12_letter_99 : decode cX12_letter 99 = .ok (.ifCond .eq 14, 3) := by decide +kernel
theorem dX12_letter_102 : decode cX12_letter 102 = .ok (.aload_n 0, 1) := by decide +kernel
theorem dX12_letter_103 : decode cX12_letter 103 = .ok (.iload_n 2, 1) := by decide +kernel
theorem dX12_letter_104 : decode cX12_letter 104 = .ok (.invokevirtual 178, 3) := by decide +kernel
theorem dX12_letter_107 : decode cX12_letter 107 = .ok (.bipush 100, 2) := by decide +kernel
theorem dX12_letter_109 : decode cX12_letter 109 = .ok (.iadd, 1) := by decide +kernel
theorem dX12_letter_110 : decode cX12_letter 110 = .ok (.goto 4, 3) := by decide +kernel
theorem dX12_letter_113 : decode cX12_letter 113 = .ok (.iconst (-1), 1) := by decide +kernel
theorem dX12_letter_114 : decode cX12_letter 114 = .ok (.ireturn, 1) := by decide +kernel
theorem dX12_face_0 : decode cX12_face 0 = .ok (.aload_n 0, 1) := by decide +kernel
theorem dX12_face_1 : decode cX12_face 1 = .ok (.iload_n 1, 1) := by decide +kernel
theorem dX12_face_2 : decode cX12_face 2 = .ok (.invokevirtual 223, 3) := by decide +kernel
theorem dX12_face_5 : decode cX12_face 5 = .ok (.ifCond .eq 25, 3) := by decide +kernel
theorem dX12_face_8 : decode cX12_face 8 = .ok (.iload_n 2, 1) := by decide +kernel
theorem dX12_face_9 : decode cX12_face 9 = .ok (.i2l, 1) := by decide +kernel
theorem dX12_face_10 : decode cX12_face 10 = .ok (.lconst 0, 1) := by decide +kernel
theorem dX12_face_11 : decode cX12_face 11 = .ok (.aload_n 0, 1) := by decide +kernel
theorem dX12_face_12 : decode cX12_face 12 = .ok (.iload_n 1, 1) := by decide +kernel
theorem dX12_face_13 : decode cX12_face 13 = .ok (.aload_n 0, 1) := by decide +kernel
theorem dX12_face_14 : decode cX12_face 14 = .ok (.iload_n 1, 1) := by decide +kernel
theorem dX12_face_15 : decode cX12_face 15 = .ok (.invokevirtual 168, 3) := by decide +kernel
theorem dX12_face_18 : decode cX12_face 18 = .ok (.invokevirtual 159, 3) := by decide +kernel
theorem dX12_face_21 : decode cX12_face 21 = .ok (.iconst 1, 1) := by decide +kernel
theorem dX12_face_22 : decode cX12_face 22 = .ok (.isub, 1) := by decide +kernel
theorem dX12_face_23 : decode cX12_face 23 = .ok (.i2l, 1) := by decide +kernel
theorem dX12_face_24 : decode cX12_face 24 = .ok (.invokestatic 55, 3) := by decide +kernel
theorem dX12_face_27 : decode cX12_face 27 = .ok (.ifCond .ne 6, 3) := by decide +kernel
theorem dX12_face_30 : decode cX12_face 30 = .ok (.ldc 252, 2) := by decide +kernel
theorem dX12_face_32 : decode cX12_face 32 = .ok (.ireturn, 1) := by decide +kernel
theorem dX12_face_33 : decode cX12_face 33 = .ok (.iload_n 3, 1) := by decide +kernel
theorem dX12_face_34 : decode cX12_face 34 = .ok (.i2l, 1) := by decide +kernel
theorem dX12_face_35 : decode cX12_face 35 = .ok (.lconst 0, 1) := by decide +kernel
theorem dX12_face_36 : decode cX12_face 36 = .ok (.ldc2_w 279, 3) := by decide +kernel
theorem dX12_face_39 : decode cX12_face 39 = .ok (.invokestatic 55, 3) := by decide +kernel
theorem dX12_face_42 : decode cX12_face 42 = .ok (.ifCond .ne 6, 3) := by decide +kernel
theorem dX12_face_45 : decode cX12_face 45 = .ok (.ldc 78, 2) := by decide +kernel
theorem dX12_face_47 : decode cX12_face 47 = .ok (.ireturn, 1) := by decide +kernel
theorem dX12_face_48 : decode cX12_face 48 = .ok (.iload_n 3, 1) := by decide +kernel
theorem dX12_face_49 : decode cX12_face 49 = .ok (.ifCond .ne 10, 3) := by decide +kernel
theorem dX12_face_52 : decode cX12_face 52 = .ok (.aload_n 0, 1) := by decide +kernel
theorem dX12_face_53 : decode cX12_face 53 = .ok (.iload_n 1, 1) := by decide +kernel
theorem dX12_face_54 : decode cX12_face 54 = .ok (.iload_n 2, 1) := by decide +kernel
theorem dX12_face_55 : decode cX12_face 55 = .ok (.invokevirtual 171, 3) := by decide +kernel
theorem dX12_face_58 : decode cX12_face 58 = .ok (.ireturn, 1) := by decide +kernel
theorem dX12_face_59 : decode cX12_face 59 = .ok (.aload_n 0, 1) := by decide +kernel
theorem dX12_face_60 : decode cX12_face 60 = .ok (.iload_n 1, 1) := by decide +kernel
theorem dX12_face_61 : decode cX12_face 61 = .ok (.aload_n 0, 1) := by decide +kernel
theorem dX12_face_62 : decode cX12_face 62 = .ok (.iload_n 1, 1) := by decide +kernel
theorem dX12_face_63 : decode cX12_face 63 = .ok (.invokevirtual 168, 3) := by decide +kernel
theorem dX12_face_66 : decode cX12_face 66 = .ok (.invokevirtual 162, 3) := by decide +kernel
theorem dX12_face_69 : decode cX12_face 69 = .ok (.ifCond .ne 5, 3) := by decide +kernel
theorem dX12_face_72 : decode cX12_face 72 = .ok (.iconst (-1), 1) := by decide +kernel
theorem dX12_face_73 : decode cX12_face 73 = .ok (.ireturn, 1) := by decide +kernel
theorem dX12_face_74 : decode cX12_face 74 = .ok (.aload_n 0, 1) := by decide +kernel
theorem dX12_face_75 : decode cX12_face 75 = .ok (.iload_n 1, 1) := by decide +kernel
theorem dX12_face_76 : decode cX12_face 76 = .ok (.invokevirtual 184, 3) := by decide +kernel
theorem dX12_face_79 : decode cX12_face 79 = .ok (.iload_n 3, 1) := by decide +kernel
theorem dX12_face_80 : decode cX12_face 80 = .ok (.iconst 1, 1) := by decide +kernel
theorem dX12_face_81 : decode cX12_face 81 = .ok (.if_icmp .ne 20, 3) := by decide +kernel
theorem dX12_face_84 : decode cX12_face 84 = .ok (.aload_n 0, 1) := by decide +kernel
theorem dX12_face_85 : decode cX12_face 85 = .ok (.iload_n 1, 1) := by decide +kernel
theorem dX12_face_86 : decode cX12_face 86 = .ok (.iload_n 2, 1) := by decide +kernel
theorem dX12_face_87 : decode cX12_face 87 = .ok (.invokevirtual 181, 3) := by decide +kernel
theorem dX12_face_90 : decode cX12_face 90 = .ok (.ifCond .eq 7, 3) := by decide +kernel
theorem dX12_face_93 : decode cX12_face 93 = .ok (.iconst 1, 1) := by decide +kernel
theorem dX12_face_94 : decode cX12_face 94 = .ok (.goto 33, 3) := by decide +kernel
theorem dX12_face_97 : decode cX12_face 97 = .ok (.iconst 0, 1) := by decide +kernel
theorem dX12_face_98 : decode cX12_face 98 = .ok (.goto 29, 3) := by decide +kernel
theorem dX12_face_101 : decode cX12_face 101 = .ok (.iload_n 3, 1) := by decide +kernel
theorem dX12_face_102 : decode cX12_face 102 = .ok (.iconst 2, 1) := by decide +kernel
theorem dX12_face_103 : decode cX12_face 103 = .ok (.if_icmp .ne 15, 3) := by decide +kernel
theorem dX12_face_106 : decode cX12_face 106 = .ok (.aload_n 0, 1) := by decide +kernel
theorem dX12_face_107 : decode cX12_face 107 = .ok (.getfield 39, 3) := by decide +kernel
theorem dX12_face_110 : decode cX12_face 110 = .ok (.iload_n 2, 1) := by decide +kernel
theorem dX12_face_111 : decode cX12_face 111 = .ok (.iaload, 1) := by decide +kernel
theorem dX12_face_112 : decode cX12_face 112 = .ok (.bipush 100, 2) := by decide +kernel
theorem dX12_face_114 : decode cX12_face 114 = .ok (.iadd, 1) := by decide +kernel
theorem dX12_face_115 : decode cX12_face 115 = .ok (.goto 12, 3) := by decide +kernel
theorem dX12_face_118 : decode cX12_face 118 = .ok (.aload_n 0, 1) := by decide +kernel
theorem dX12_face_119 : decode cX12_face 119 = .ok (.iload_n 1, 1) := by decide +kernel
theorem dX12_face_120 : decode cX12_face 120 = .ok (.iload_n 2, 1) := by decide +kernel
theorem dX12_face_121 : decode cX12_face 121 = .ok (.invokevirtual 281, 3) := by decide +kernel
theorem dX12_face_124 : decode cX12_face 124 = .ok (.bipush 100, 2) := by decide +kernel
theorem dX12_face_126 : decode cX12_face 126 = .ok (.iadd, 1) := by decide +kernel
theorem dX12_face_127 : decode cX12_face 127 = .ok (.ireturn, 1) := by decide +kernel
theorem dX12_isSet_0 : decode cX12_isSet 0 = .ok (.aload_n 0, 1) := by decide +kernel
theorem dX12_isSet_1 : decode cX12_isSet 1 = .ok (.iload_n 1, 1) := by decide +kernel
theorem dX12_isSet_2 : decode cX12_isSet 2 = .ok (.invokevirtual 223, 3) := by decide +kernel
theorem dX12_isSet_5 : decode cX12_isSet 5 = .ok (.ifCond .eq 26, 3) := by decide +kernel
theorem dX12_isSet_8 : decode cX12_isSet 8 = .ok (.iload_n 2, 1) := by decide +kernel
theorem dX12_isSet_9 : decode cX12_isSet 9 = .ok (.i2l, 1) := by decide +kernel
theorem dX12_isSet_10 : decode cX12_isSet 10 = .ok (.lconst 0, 1) := by decide +kernel
theorem dX12_isSet_11 : decode cX12_isSet 11 = .ok (.iconst 1, 1) := by decide +kernel
theorem dX12_isSet_12 : decode cX12_isSet 12 = .ok (.aload_n 0, 1) := by decide +kernel
theorem dX12_isSet_13 : decode cX12_isSet 13 = .ok (.iload_n 1, 1) := by decide +kernel
theorem dX12_isSet_14 : decode cX12_isSet 14 = .ok (.invokevirtual 59, 3) := by decide +kernel
theorem dX12_isSet_17 : decode cX12_isSet 17 = .ok (.ishl, 1) := by decide +kernel
theorem dX12_isSet_18 : decode cX12_isSet 18 = .ok (.iconst 1, 1) := by decide +kernel
theorem dX12_isSet_19 : decode cX12_isSet 19 = .ok (.isub, 1) := by decide +kernel
theorem dX12_isSet_20 : decode cX12_isSet 20 = .ok (.i2l, 1) := by decide +kernel
theorem dX12_isSet_21 : decode cX12_isSet 21 = .ok (.invokestatic 55, 3) := by decide +kernel
theorem dX12_isSet_24 : decode cX12_isSet 24 = .ok (.ifCond .eq 7, 3) := by decide +kernel
theorem dX12_isSet_27 : decode cX12_isSet 27 = .ok (.iconst 1, 1) := by decide +kernel
theorem dX12_isSet_28 : decode cX12_isSet 28 = .ok (.goto 4, 3) := by decide +kernel
theorem dX12_isSet_31 : decode cX12_isSet 31 = .ok (.iconst 0, 1) := by decide +kernel
theorem dX12_isSet_32 : decode cX12_isSet 32 = .ok (.ireturn, 1) := by decide +kernel
theorem dX12_rings_0 : decode cX12_rings 0 = .ok (.aload_n 0, 1) := by decide +kernel
theorem dX12_rings_1 : decode cX12_rings 1 = .ok (.iload_n 1, 1) := by decide +kernel
theorem dX12_rings_2 : decode cX12_rings 2 = .ok (.iload_n 2, 1) := by decide +kernel
theorem dX12_rings_3 : decode cX12_rings 3 = .ok (.invokevirtual 284, 3) := by decide +kernel
theorem dX12_rings_6 : decode cX12_rings 6 = .ok (.ifCond .eq 12, 3) := by decide +kernel
theorem dX12_rings_9 : decode cX12_rings 9 = .ok (.aload_n 0, 1) := by decide +kernel
theorem dX12_rings_10 : decode cX12_rings 10 = .ok (.iload_n 1, 1) := by decide +kernel
theorem dX12_rings_11 : decode cX12_rings 11 = .ok (.iload_n 2, 1) := by decide +kernel
theorem dX12_rings_12 : decode cX12_rings 12 = .ok (.invokevirtual 191, 3) := by decide +kernel
theorem dX12_rings_15 : decode cX12_rings 15 = .ok (.goto 5, 3) := by decide +kernel
theorem dX12_rings_18 : decode cX12_rings 18 = .ok (.ldc 252, 2) := by decide +kernel
theorem dX12_rings_20 : decode cX12_rings 20 = .ok (.ireturn, 1) := by decide +kernel
theorem dX12_states_0 : decode cX12_states 0 = .ok (.aload_n 0, 1) := by decide +kernel
theorem dX12_states_1 : decode cX12_states 1 = .ok (.iload_n 1, 1) := by decide +kernel
theorem dX12_states_2 : decode cX12_states 2 = .ok (.invokevirtual 223, 3) := by decide +kernel
theorem dX12_states_5 : decode cX12_states 5 = .ok (.ifCond .ne 8, 3) := by decide +kernel
theorem dX12_states_8 : decode cX12_states 8 = .ok (.ldc 252, 2) := by decide +kernel
theorem dX12_states_10 : decode cX12_states 10 = .ok (.goto 26, 3) := by decide +kernel
theorem dX12_states_13 : decode cX12_states 13 = .ok (.iload_n 2, 1) := by decide +kernel
theorem dX12_states_14 : decode cX12_states 14 = .ok (.i2l, 1) := by decide +kernel
theorem dX12_states_15 : decode cX12_states 15 = .ok (.lconst 1, 1) := by decide +kernel
theorem dX12_states_16 : decode cX12_states 16 = .ok (.ldc2_w 287, 3) := by decide +kernel
theorem dX12_states_19 : decode cX12_states 19 = .ok (.invokestatic 55, 3) := by decide +kernel
theorem dX12_states_22 : decode cX12_states 22 = .ok (.ifCond .eq 12, 3) := by decide +kernel
theorem dX12_states_25 : decode cX12_states 25 = .ok (.aload_n 0, 1) := by decide +kernel
theorem dX12_states_26 : decode cX12_states 26 = .ok (.iload_n 1, 1) := by decide +kernel
theorem dX12_states_27 : decode cX12_states 27 = .ok (.iload_n 2, 1) := by decide +kernel
theorem dX12_states_28 : decode cX12_states 28 = .ok (.invokevirtual 227, 3) := by decide +kernel
theorem dX12_states_31 : decode cX12_states 31 = .ok (.goto 5, 3) := by decide +kernel
theorem dX12_states_34 : decode cX12_states 34 = .ok (.ldc 78, 2) := by decide +kernel
theorem dX12_states_36 : decode cX12_states 36 = .ok (.ireturn, 1) := by decide +kernel
theorem dX12_same_0 : decode cX12_same 0 = .ok (.aload_n 0, 1) := by decide +kernel
theorem dX12_same_1 : decode cX12_same 1 = .ok (.iload_n 1, 1) := by decide +kernel
theorem dX12_same_2 : decode cX12_same 2 = .ok (.invokevirtual 223, 3) := by decide +kernel
theorem dX12_same_5 : decode cX12_same 5 = .ok (.ifCond .eq 11, 3) := by decide +kernel
theorem dX12_same_8 : decode cX12_same 8 = .ok (.aload_n 0, 1) := by decide +kernel
theorem dX12_same_9 : decode cX12_same 9 = .ok (.iload_n 2, 1) := by decide +kernel
theorem dX12_same_10 : decode cX12_same 10 = .ok (.invokevirtual 223, 3) := by decide +kernel
theorem dX12_same_13 : decode cX12_same 13 = .ok (.ifCond .ne 8, 3) := by decide +kernel
theorem dX12_same_16 : decode cX12_same 16 = .ok (.ldc 252, 2) := by decide +kernel
theorem dX12_same_18 : decode cX12_same 18 = .ok (.goto 17, 3) := by decide +kernel
theorem dX12_same_21 : decode cX12_same 21 = .ok (.aload_n 0, 1) := by decide +kernel
theorem dX12_same_22 : decode cX12_same 22 = .ok (.iload_n 1, 1) := by decide +kernel
theorem dX12_same_23 : decode cX12_same 23 = .ok (.iload_n 2, 1) := by decide +kernel
theorem dX12_same_24 : decode cX12_same 24 = .ok (.invokevirtual 211, 3) := by decide +kernel
theorem dX12_same_27 : decode cX12_same 27 = .ok (.ifCond .eq 7, 3) := by decide +kernel
theorem dX12_same_30 : decode cX12_same 30 = .ok (.iconst 1, 1) := by decide +kernel
theorem dX12_same_31 : decode cX12_same 31 = .ok (.goto 4, 3) := by decide +kernel
theorem dX12_same_34 : decode cX12_same 34 = .ok (.iconst 0, 1) := by decide +kernel
theorem dX12_same_35 : decode cX12_same 35 = .ok (.ireturn, 1) := by decide +kernel
theorem dX12_signs_0 : decode cX12_signs 0 = .ok (.aload_n 0, 1) := by decide +kernel
theorem dX12_signs_1 : decode cX12_signs 1 = .ok (.iload_n 1, 1) := by decide +kernel
theorem dX12_signs_2 : decode cX12_signs 2 = .ok (.iload_n 2, 1) := by decide +kernel
theorem dX12_signs_3 : decode cX12_signs 3 = .ok (.invokevirtual 284, 3) := by decide +kernel
theorem dX12_signs_6 : decode cX12_signs 6 = .ok (.ifCond .ne 6, 3) := by decide +kernel
theorem dX12_signs_9 : decode cX12_signs 9 = .ok (.ldc 252, 2) := by decide +kernel
theorem dX12_signs_11 : decode cX12_signs 11 = .ok (.ireturn, 1) := by decide +kernel
theorem dX12_signs_12 : decode cX12_signs 12 = .ok (.aload_n 0, 1) := by decide +kernel
theorem dX12_signs_13 : decode cX12_signs 13 = .ok (.invokevirtual 93, 3) := by decide +kernel
theorem dX12_signs_16 : decode cX12_signs 16 = .ok (.aload_n 0, 1) := by decide +kernel
theorem dX12_signs_17 : decode cX12_signs 17 = .ok (.getfield 7, 3) := by decide +kernel
theorem dX12_signs_20 : decode cX12_signs 20 = .ok (.iconst 1, 1) := by decide +kernel
theorem dX12_signs_21 : decode cX12_signs 21 = .ok (.bipush 18, 2) := by decide +kernel
theorem dX12_signs_23 : decode cX12_signs 23 = .ok (.iload_n 1, 1) := by decide +kernel
theorem dX12_signs_24 : decode cX12_signs 24 = .ok (.imul, 1) := by decide +kernel
theorem dX12_signs_25 : decode cX12_signs 25 = .ok (.iadd, 1) := by decide +kernel
theorem dX12_signs_26 : decode cX12_signs 26 = .ok (.iconst 1, 1) := by decide +kernel
theorem dX12_signs_27 : decode cX12_signs 27 = .ok (.iadd, 1) := by decide +kernel
theorem dX12_signs_28 : decode cX12_signs 28 = .ok (.iload_n 2, 1) := by decide +kernel
theorem dX12_signs_29 : decode cX12_signs 29 = .ok (.iastore, 1) := by decide +kernel
theorem dX12_signs_30 : decode cX12_signs 30 = .ok (.aload_n 0, 1) := by decide +kernel
theorem dX12_signs_31 : decode cX12_signs 31 = .ok (.iload_n 1, 1) := by decide +kernel
theorem dX12_signs_32 : decode cX12_signs 32 = .ok (.iload_n 2, 1) := by decide +kernel
theorem dX12_signs_33 : decode cX12_signs 33 = .ok (.invokevirtual 159, 3) := by decide +kernel
theorem dX12_signs_36 : decode cX12_signs 36 = .ok (.ireturn, 1) := by decide +kernel
theorem dX12_draw_0 : decode cX12_draw 0 = .ok (.aload_n 0, 1) := by decide +kernel
theorem dX12_draw_1 : decode cX12_draw 1 = .ok (.iload_n 1, 1) := by decide +kernel
theorem dX12_draw_2 : decode cX12_draw 2 = .ok (.invokevirtual 223, 3) := by decide +kernel
theorem dX12_draw_5 : decode cX12_draw 5 = .ok (.ifCond .ne 6, 3) := by decide +kernel
theorem dX12_draw_8 : decode cX12_draw 8 = .ok (.ldc 252, 2) := by decide +kernel
theorem dX12_draw_10 : decode cX12_draw 10 = .ok (.ireturn, 1) := by decide +kernel
theorem dX12_draw_11 : decode cX12_draw 11 = .ok (.aload_n 0, 1) := by decide +kernel
theorem dX12_draw_12 : decode cX12_draw 12 = .ok (.iload_n 1, 1) := by decide +kernel
theorem dX12_draw_13 : decode cX12_draw 13 = .ok (.invokevirtual 239, 3) := by decide +kernel
theorem dX12_draw_16 : decode cX12_draw 16 = .ok (.istore_n 2, 1) := by decide +kernel
theorem dX12_draw_17 : decode cX12_draw 17 = .ok (.iload_n 2, 1) := by decide +kernel
theorem dX12_draw_18 : decode cX12_draw 18 = .ok (.iconst (-1), 1) := by decide +kernel
theorem dX12_draw_19 : decode cX12_draw 19 = .ok (.if_icmp .ne 7, 3) := by decide +kernel
theorem dX12_draw_22 : decode cX12_draw 22 = .ok (.ldc_w 289, 3) := by decide +kernel
theorem dX12_draw_25 : decode cX12_draw 25 = .ok (.ireturn, 1) := by decide +kernel
theorem dX12_draw_26 : decode cX12_draw 26 = .ok (.aload_n 0, 1) := by decide +kernel
theorem dX12_draw_27 : decode cX12_draw 27 = .ok (.invokevirtual 93, 3) := by decide +kernel
theorem dX12_draw_30 : decode cX12_draw 30 = .ok (.aload_n 0, 1) := by decide +kernel
theorem dX12_draw_31 : decode cX12_draw 31 = .ok (.getfield 7, 3) := by decide +kernel
theorem dX12_draw_34 : decode cX12_draw 34 = .ok (.iconst 1, 1) := by decide +kernel
theorem dX12_draw_35 : decode cX12_draw 35 = .ok (.bipush 18, 2) := by decide +kernel
theorem dX12_draw_37 : decode cX12_draw 37 = .ok (.iload_n 1, 1) := by decide +kernel
theorem dX12_draw_38 : decode cX12_draw 38 = .ok (.imul, 1) := by decide +kernel
theorem dX12_draw_39 : decode cX12_draw 39 = .ok (.iadd, 1) := by decide +kernel
theorem dX12_draw_40 : decode cX12_draw 40 = .ok (.iconst 1, 1) := by decide +kernel
theorem dX12_draw_41 : decode cX12_draw 41 = .ok (.iadd, 1) := by decide +kernel
theorem dX12_draw_42 : decode cX12_draw 42 = .ok (.iload_n 2, 1) := by decide +kernel
theorem dX12_draw_43 : decode cX12_draw 43 = .ok (.iastore, 1) := by decide +kernel
theorem dX12_draw_44 : decode cX12_draw 44 = .ok (.iload_n 2, 1) := by decide +kernel
theorem dX12_draw_45 : decode cX12_draw 45 = .ok (.ireturn, 1) := by decide +kernel
theorem dX12_turn_0 : decode cX12_turn 0 = .ok (.aload_n 0, 1) := by decide +kernel
theorem dX12_turn_1 : decode cX12_turn 1 = .ok (.iload_n 1, 1) := by decide +kernel
theorem dX12_turn_2 : decode cX12_turn 2 = .ok (.invokevirtual 223, 3) := by decide +kernel
theorem dX12_turn_5 : decode cX12_turn 5 = .ok (.ifCond .eq 22, 3) := by decide +kernel
theorem dX12_turn_8 : decode cX12_turn 8 = .ok (.iload_n 2, 1) := by decide +kernel
theorem dX12_turn_9 : decode cX12_turn 9 = .ok (.i2l, 1) := by decide +kernel
theorem dX12_turn_10 : decode cX12_turn 10 = .ok (.lconst 0, 1) := by decide +kernel
theorem dX12_turn_11 : decode cX12_turn 11 = .ok (.iconst 2, 1) := by decide +kernel
theorem dX12_turn_12 : decode cX12_turn 12 = .ok (.aload_n 0, 1) := by decide +kernel
theorem dX12_turn_13 : decode cX12_turn 13 = .ok (.iload_n 1, 1) := by decide +kernel
theorem dX12_turn_14 : decode cX12_turn 14 = .ok (.invokevirtual 59, 3) := by decide +kernel
theorem dX12_turn_17 : decode cX12_turn 17 = .ok (.imul, 1) := by decide +kernel
theorem dX12_turn_18 : decode cX12_turn 18 = .ok (.iconst 1, 1) := by decide +kernel
theorem dX12_turn_19 : decode cX12_turn 19 = .ok (.isub, 1) := by decide +kernel
theorem dX12_turn_20 : decode cX12_turn 20 = .ok (.i2l, 1) := by decide +kernel
theorem dX12_turn_21 : decode cX12_turn 21 = .ok (.invokestatic 55, 3) := by decide +kernel
theorem dX12_turn_24 : decode cX12_turn 24 = .ok (.ifCond .ne 6, 3) := by decide +kernel
theorem dX12_turn_27 : decode cX12_turn 27 = .ok (.ldc 252, 2) := by decide +kernel
theorem dX12_turn_29 : decode cX12_turn 29 = .ok (.ireturn, 1) := by decide +kernel
theorem dX12_turn_30 : decode cX12_turn 30 = .ok (.aload_n 0, 1) := by decide +kernel
theorem dX12_turn_31 : decode cX12_turn 31 = .ok (.invokevirtual 93, 3) := by decide +kernel
theorem dX12_turn_34 : decode cX12_turn 34 = .ok (.aload_n 0, 1) := by decide +kernel
theorem dX12_turn_35 : decode cX12_turn 35 = .ok (.iload_n 1, 1) := by decide +kernel
theorem dX12_turn_36 : decode cX12_turn 36 = .ok (.iload_n 2, 1) := by decide +kernel
theorem dX12_turn_37 : decode cX12_turn 37 = .ok (.iload_n 3, 1) := by decide +kernel
theorem dX12_turn_38 : decode cX12_turn 38 = .ok (.invokevirtual 199, 3) := by decide +kernel
theorem dX12_turn_41 : decode cX12_turn 41 = .ok (.aload_n 0, 1) := by decide +kernel
theorem dX12_turn_42 : decode cX12_turn 42 = .ok (.iload_n 1, 1) := by decide +kernel
theorem dX12_turn_43 : decode cX12_turn 43 = .ok (.invokevirtual 73, 3) := by decide +kernel
theorem dX12_turn_46 : decode cX12_turn 46 = .ok (.pop, 1) := by decide +kernel
theorem dX12_turn_47 : decode cX12_turn 47 = .ok (.aload_n 0, 1) := by decide +kernel
theorem dX12_turn_48 : decode cX12_turn 48 = .ok (.iload_n 1, 1) := by decide +kernel
theorem dX12_turn_49 : decode cX12_turn 49 = .ok (.invokevirtual 259, 3) := by decide +kernel
theorem dX12_turn_52 : decode cX12_turn 52 = .ok (.ireturn, 1) := by decide +kernel
theorem dX12_twist_0 : decode cX12_twist 0 = .ok (.aload_n 0, 1) := by decide +kernel
theorem dX12_twist_1 : decode cX12_twist 1 = .ok (.iload_n 1, 1) := by decide +kernel
theorem dX12_twist_2 : decode cX12_twist 2 = .ok (.invokevirtual 223, 3) := by decide +kernel
theorem dX12_twist_5 : decode cX12_twist 5 = .ok (.ifCond .eq 12, 3) := by decide +kernel
theorem dX12_twist_8 : decode cX12_twist 8 = .ok (.aload_n 0, 1) := by decide +kernel
theorem dX12_twist_9 : decode cX12_twist 9 = .ok (.iload_n 1, 1) := by decide +kernel
theorem dX12_twist_10 : decode cX12_twist 10 = .ok (.iload_n 2, 1) := by decide +kernel
theorem dX12_twist_11 : decode cX12_twist 11 = .ok (.invokevirtual 290, 3) := by decide +kernel
theorem dX12_twist_14 : decode cX12_twist 14 = .ok (.ifCond .ne 6, 3) := by decide +kernel
theorem dX12_twist_17 : decode cX12_twist 17 = .ok (.ldc 252, 2) := by decide +kernel
theorem dX12_twist_19 : decode cX12_twist 19 = .ok (.ireturn, 1) := by decide +kernel
theorem dX12_twist_20 : decode cX12_twist 20 = .ok (.aload_n 0, 1) := by decide +kernel
theorem dX12_twist_21 : decode cX12_twist 21 = .ok (.iload_n 1, 1) := by decide +kernel
theorem dX12_twist_22 : decode cX12_twist 22 = .ok (.invokevirtual 59, 3) := by decide +kernel
theorem dX12_twist_25 : decode cX12_twist 25 = .ok (.bipush 8, 2) := by decide +kernel
theorem dX12_twist_27 : decode cX12_twist 27 = .ok (.if_icmp .ne 6, 3) := by decide +kernel
theorem dX12_twist_30 : decode cX12_twist 30 = .ok (.ldc 82, 2) := by decide +kernel
theorem dX12_twist_32 : decode cX12_twist 32 = .ok (.ireturn, 1) := by decide +kernel
theorem dX12_twist_33 : decode cX12_twist 33 = .ok (.aload_n 0, 1) := by decide +kernel
theorem dX12_twist_34 : decode cX12_twist 34 = .ok (.invokevirtual 93, 3) := by decide +kernel
theorem dX12_twist_37 : decode cX12_twist 37 = .ok (.iconst 2, 1) := by decide +kernel
theorem dX12_twist_38 : decode cX12_twist 38 = .ok (.aload_n 0, 1) := by decide +kernel
theorem dX12_twist_39 : decode cX12_twist 39 = .ok (.iload_n 1, 1) := by decide +kernel
theorem dX12_twist_40 : decode cX12_twist 40 = .ok (.invokevirtual 59, 3) := by decide +kernel
theorem dX12_twist_43 : decode cX12_twist 43 = .ok (.imul, 1) := by decide +kernel
theorem dX12_twist_44 : decode cX12_twist 44 = .ok (.istore_n 3, 1) := by decide +kernel
theorem dX12_twist_45 : decode cX12_twist 45 = .ok (.aload_n 0, 1) := by decide +kernel
theorem dX12_twist_46 : decode cX12_twist 46 = .ok (.iconst 0, 1) := by decide +kernel
theorem dX12_twist_47 : decode cX12_twist 47 = .ok (.putfield 67, 3) := by decide +kernel
theorem dX12_twist_50 : decode cX12_twist 50 = .ok (.iconst 0, 1) := by decide +kernel
theorem dX12_twist_51 : decode cX12_twist 51 = .ok (.istore 4, 2) := by decide +kernel
theorem dX12_twist_53 : decode cX12_twist 53 = .ok (.iload 4, 2) := by decide +kernel
theorem dX12_twist_55 : decode cX12_twist 55 = .ok (.iload_n 3, 1) := by decide +kernel
theorem dX12_twist_56 : decode cX12_twist 56 = .ok (.if_icmp .lt 8, 3) := by decide +kernel
theorem dX12_twist_59 : decode cX12_twist 59 = .ok (.iload 4, 2) := by decide +kernel
theorem dX12_twist_61 : decode cX12_twist 61 = .ok (.ifCond .ne 44, 3) := by decide +kernel
theorem dX12_twist_64 : decode cX12_twist 64 = .ok (.iload 4, 2) := by decide +kernel
theorem dX12_twist_66 : decode cX12_twist 66 = .ok (.iload_n 3, 1) := by decide +kernel
theorem dX12_twist_67 : decode cX12_twist 67 = .ok (.if_icmp .ge 14, 3) := by decide +kernel
theorem dX12_twist_70 : decode cX12_twist 70 = .ok (.aload_n 0, 1) := by decide +kernel
theorem dX12_twist_71 : decode cX12_twist 71 = .ok (.aload_n 0, 1) := by decide +kernel
theorem dX12_twist_72 : decode cX12_twist 72 = .ok (.iload_n 1, 1) := by decide +kernel
theorem dX12_twist_73 : decode cX12_twist 73 = .ok (.iload 4, 2) := by decide +kernel
theorem dX12_twist_75 : decode cX12_twist 75 = .ok (.invokevirtual 63, 3) := by decide +kernel
theorem dX12_twist_78 : decode cX12_twist 78 = .ok (.invokevirtual 96, 3) := by decide +kernel
theorem dX12_twist_81 : decode cX12_twist 81 = .ok (.iload 4, 2) := by decide +kernel
theorem dX12_twist_83 : decode cX12_twist 83 = .ok (.iload_n 2, 1) := by decide +kernel
theorem dX12_twist_84 : decode cX12_twist 84 = .ok (.if_icmp .ne 15, 3) := by decide +kernel
theorem dX12_twist_87 : decode cX12_twist 87 = .ok (.aload_n 0, 1) := by decide +kernel
theorem dX12_twist_88 : decode cX12_twist 88 = .ok (.bipush 10, 2) := by decide +kernel
theorem dX12_twist_90 : decode cX12_twist 90 = .ok (.invokevirtual 96, 3) := by decide +kernel
theorem dX12_twist_93 : decode cX12_twist 93 = .ok (.aload_n 0, 1) := by decide +kernel
theorem dX12_twist_94 : decode cX12_twist 94 = .ok (.bipush 10, 2) := by decide +kernel
theorem dX12_twist_96 : decode cX12_twist 96 = .ok (.invokevirtual 96, 3) := by decide +kernel
theorem dX12_twist_99 : decode cX12_twist 99 = .ok (.iinc 4 1, 3) := by decide +kernel
theorem dX12_twist_102 : decode cX12_twist 102 = .ok (.goto (-49), 3) := by decide +kernel
theorem dX12_twist_105 : decode cX12_twist 105 = .ok (.aload_n 0, 1) := by decide +kernel
theorem dX12_twist_106 : decode cX12_twist 106 = .ok (.iload_n 1, 1) := by decide +kernel
theorem dX12_twist_107 : decode cX12_twist 107 = .ok (.invokevirtual 73, 3) := by decide +kernel
theorem dX12_twist_110 : decode cX12_twist 110 = .ok (.ireturn, 1) := by decide +kernel
theorem dX12_without_0 : decode cX12_without 0 = .ok (.aload_n 0, 1) := by decide +kernel
theorem dX12_without_1 : decode cX12_without 1 = .ok (.iconst 0, 1) := by decide +kernel
theorem dX12_without_2 : decode cX12_without 2 = .ok (.putfield 67, 3) := by decide +kernel
theorem dX12_without_5 : decode cX12_without 5 = .ok (.iconst 0, 1) := by decide +kernel
theorem dX12_without_6 : decode cX12_without 6 = .ok (.istore 4, 2) := by decide +kernel
theorem dX12_without_8 : decode cX12_without 8 = .ok (.iload 4, 2) := by decide +kernel
theorem dX12_without_10 : decode cX12_without 10 = .ok (.iconst 2, 1) := by decide +kernel
theorem dX12_without_11 : decode cX12_without 11 = .ok (.aload_n 0, 1) := by decide +kernel
theorem dX12_without_12 : decode cX12_without 12 = .ok (.iload_n 1, 1) := by decide +kernel
theorem dX12_without_13 : decode cX12_without 13 = .ok (.invokevirtual 59, 3) := by decide +kernel
theorem dX12_without_16 : decode cX12_without 16 = .ok (.imul, 1) := by decide +kernel
theorem dX12_without_17 : decode cX12_without 17 = .ok (.if_icmp .ge 42, 3) := by decide +kernel
theorem dX12_without_20 : decode cX12_without 20 = .ok (.aload_n 0, 1) := by decide +kernel
theorem dX12_without_21 : decode cX12_without 21 = .ok (.iload_n 1, 1) := by decide +kernel
theorem dX12_without_22 : decode cX12_without 22 = .ok (.iload 4, 2) := by decide +kernel
theorem dX12_without_24 : decode cX12_without 24 = .ok (.invokevirtual 63, 3) := by decide +kernel
theorem dX12_without_27 : decode cX12_without 27 = .ok (.iload_n 2, 1) := by decide +kernel
theorem dX12_without_28 : decode cX12_without 28 = .ok (.if_icmp .eq 25, 3) := by decide +kernel
theorem dX12_without_31 : decode cX12_without 31 = .ok (.aload_n 0, 1) := by decide +kernel
theorem dX12_without_32 : decode cX12_without 32 = .ok (.iload_n 1, 1) := by decide +kernel
theorem dX12_without_33 : decode cX12_without 33 = .ok (.iload 4, 2) := by decide +kernel
theorem dX12_without_35 : decode cX12_without 35 = .ok (.invokevirtual 63, 3) := by decide +kernel
theorem dX12_without_38 : decode cX12_without 38 = .ok (.iload_n 3, 1) := by decide +kernel
theorem dX12_without_39 : decode cX12_without 39 = .ok (.if_icmp .eq 14, 3) := by decide +kernel
theorem dX12_without_42 : decode cX12_without 42 = .ok (.aload_n 0, 1) := by decide +kernel
theorem dX12_without_43 : decode cX12_without 43 = .ok (.aload_n 0, 1) := by decide +kernel
theorem dX12_without_44 : decode cX12_without 44 = .ok (.iload_n 1, 1) := by decide +kernel
theorem dX12_without_45 : decode cX12_without 45 = .ok (.iload 4, 2) := by decide +kernel
theorem dX12_without_47 : decode cX12_without 47 = .ok (.invokevirtual 63, 3) := by decide +kernel
theorem dX12_without_50 : decode cX12_without 50 = .ok (.invokevirtual 96, 3) := by decide +kernel
theorem dX12_without_53 : decode cX12_without 53 = .ok (.iinc 4 1, 3) := by decide +kernel
theorem dX12_without_56 : decode cX12_without 56 = .ok (.goto (-48), 3) := by decide +kernel
theorem dX12_without_59 : decode cX12_without 59 = .ok (.aload_n 0, 1) := by decide +kernel
theorem dX12_without_60 : decode cX12_without 60 = .ok (.iload_n 1, 1) := by decide +kernel
theorem dX12_without_61 : decode cX12_without 61 = .ok (.invokevirtual 73, 3) := by decide +kernel
theorem dX12_without_64 : decode cX12_without 64 = .ok (.ireturn, 1) := by decide +kernel
theorem dX12_untwist_0 : decode cX12_untwist 0 = .ok (.aload_n 0, 1) := by decide +kernel
theorem dX12_untwist_1 : decode cX12_untwist 1 = .ok (.iload_n 1, 1) := by decide +kernel
theorem dX12_untwist_2 : decode cX12_untwist 2 = .ok (.invokevirtual 223, 3) := by decide +kernel
theorem dX12_untwist_5 : decode cX12_untwist 5 = .ok (.ifCond .eq 12, 3) := by decide +kernel
theorem dX12_untwist_8 : decode cX12_untwist 8 = .ok (.aload_n 0, 1) := by decide +kernel
theorem dX12_untwist_9 : decode cX12_untwist 9 = .ok (.iload_n 1, 1) := by decide +kernel
theorem dX12_untwist_10 : decode cX12_untwist 10 = .ok (.iload_n 2, 1) := by decide +kernel
theorem dX12_untwist_11 : decode cX12_untwist 11 = .ok (.invokevirtual 274, 3) := by decide +kernel
theorem dX12_untwist_14 : decode cX12_untwist 14 = .ok (.ifCond .ne 6, 3) := by decide +kernel
theorem dX12_untwist_17 : decode cX12_untwist 17 = .ok (.ldc 252, 2) := by decide +kernel
theorem dX12_untwist_19 : decode cX12_untwist 19 = .ok (.ireturn, 1) := by decide +kernel
theorem dX12_untwist_20 : decode cX12_untwist 20 = .ok (.aload_n 0, 1) := by decide +kernel
theorem dX12_untwist_21 : decode cX12_untwist 21 = .ok (.iload_n 1, 1) := by decide +kernel
theorem dX12_untwist_22 : decode cX12_untwist 22 = .ok (.iload_n 2, 1) := by decide +kernel
theorem dX12_untwist_23 : decode cX12_untwist 23 = .ok (.invokevirtual 217, 3) := by decide +kernel
theorem dX12_untwist_26 : decode cX12_untwist 26 = .ok (.ifCond .ne 7, 3) := by decide +kernel
theorem dX12_untwist_29 : decode cX12_untwist 29 = .ok (.ldc_w 289, 3) := by decide +kernel
theorem dX12_untwist_32 : decode cX12_untwist 32 = .ok (.ireturn, 1) := by decide +kernel
theorem dX12_untwist_33 : decode cX12_untwist 33 = .ok (.aload_n 0, 1) := by decide +kernel
theorem dX12_untwist_34 : decode cX12_untwist 34 = .ok (.invokevirtual 93, 3) := by decide +kernel
theorem dX12_untwist_37 : decode cX12_untwist 37 = .ok (.aload_n 0, 1) := by decide +kernel
theorem dX12_untwist_38 : decode cX12_untwist 38 = .ok (.iload_n 1, 1) := by decide +kernel
theorem dX12_untwist_39 : decode cX12_untwist 39 = .ok (.iload_n 2, 1) := by decide +kernel
theorem dX12_untwist_40 : decode cX12_untwist 40 = .ok (.iload_n 2, 1) := by decide +kernel
theorem dX12_untwist_41 : decode cX12_untwist 41 = .ok (.invokevirtual 293, 3) := by decide +kernel
theorem dX12_untwist_44 : decode cX12_untwist 44 = .ok (.ireturn, 1) := by decide +kernel
theorem dX12_poke_0 : decode cX12_poke 0 = .ok (.aload_n 0, 1) := by decide +kernel
theorem dX12_poke_1 : decode cX12_poke 1 = .ok (.iload_n 1, 1) := by decide +kernel
theorem dX12_poke_2 : decode cX12_poke 2 = .ok (.invokevirtual 223, 3) := by decide +kernel
theorem dX12_poke_5 : decode cX12_poke 5 = .ok (.ifCond .eq 26, 3) := by decide +kernel
theorem dX12_poke_8 : decode cX12_poke 8 = .ok (.aload_n 0, 1) := by decide +kernel
theorem dX12_poke_9 : decode cX12_poke 9 = .ok (.iload_n 1, 1) := by decide +kernel
theorem dX12_poke_10 : decode cX12_poke 10 = .ok (.iload_n 2, 1) := by decide +kernel
theorem dX12_poke_11 : decode cX12_poke 11 = .ok (.invokevirtual 290, 3) := by decide +kernel
theorem dX12_poke_14 : decode cX12_poke 14 = .ok (.ifCond .eq 17, 3) := by decide +kernel
theorem dX12_poke_17 : decode cX12_poke 17 = .ok (.aload_n 0, 1) := by decide +kernel
theorem dX12_poke_18 : decode cX12_poke 18 = .ok (.iload_n 1, 1) := by decide +kernel
theorem dX12_poke_19 : decode cX12_poke 19 = .ok (.iload_n 3, 1) := by decide +kernel
theorem dX12_poke_20 : decode cX12_poke 20 = .ok (.invokevirtual 290, 3) := by decide +kernel
theorem dX12_poke_23 : decode cX12_poke 23 = .ok (.ifCond .eq 8, 3) := by decide +kernel
theorem dX12_poke_26 : decode cX12_poke 26 = .ok (.iload_n 2, 1) := by decide +kernel
theorem dX12_poke_27 : decode cX12_poke 27 = .ok (.iload_n 3, 1) := by decide +kernel
theorem dX12_poke_28 : decode cX12_poke 28 = .ok (.if_icmp .ne 6, 3) := by decide +kernel
theorem dX12_poke_31 : decode cX12_poke 31 = .ok (.ldc 252, 2) := by decide +kernel
theorem dX12_poke_33 : decode cX12_poke 33 = .ok (.ireturn, 1) := by decide +kernel
theorem dX12_poke_34 : decode cX12_poke 34 = .ok (.iload 4, 2) := by decide +kernel
theorem dX12_poke_36 : decode cX12_poke 36 = .ok (.i2l, 1) := by decide +kernel
theorem dX12_poke_37 : decode cX12_poke 37 = .ok (.lconst 0, 1) := by decide +kernel
theorem dX12_poke_38 : decode cX12_poke 38 = .ok (.lconst 1, 1) := by decide +kernel
theorem dX12_poke_39 : decode cX12_poke 39 = .ok (.invokestatic 55, 3) := by decide +kernel
theorem dX12_poke_42 : decode cX12_poke 42 = .ok (.ifCond .ne 6, 3) := by decide +kernel
theorem dX12_poke_45 : decode cX12_poke 45 = .ok (.ldc 78, 2) := by decide +kernel
theorem dX12_poke_47 : decode cX12_poke 47 = .ok (.ireturn, 1) := by decide +kernel
theorem dX12_poke_48 : decode cX12_poke 48 = .ok (.aload_n 0, 1) := by decide +kernel
theorem dX12_poke_49 : decode cX12_poke 49 = .ok (.iload_n 1, 1) := by decide +kernel
theorem dX12_poke_50 : decode cX12_poke 50 = .ok (.invokevirtual 59, 3) := by decide +kernel
theorem dX12_poke_53 : decode cX12_poke 53 = .ok (.iconst 2, 1) := by decide +kernel
theorem dX12_poke_54 : decode cX12_poke 54 = .ok (.iadd, 1) := by decide +kernel
theorem dX12_poke_55 : decode cX12_poke 55 = .ok (.bipush 8, 2) := by decide +kernel
theorem dX12_poke_57 : decode cX12_poke 57 = .ok (.if_icmp .le 6, 3) := by decide +kernel
theorem dX12_poke_60 : decode cX12_poke 60 = .ok (.ldc 82, 2) := by decide +kernel
theorem dX12_poke_62 : decode cX12_poke 62 = .ok (.ireturn, 1) := by decide +kernel
theorem dX12_poke_63 : decode cX12_poke 63 = .ok (.aload_n 0, 1) := by decide +kernel
theorem dX12_poke_64 : decode cX12_poke 64 = .ok (.invokevirtual 93, 3) := by decide +kernel
theorem dX12_poke_67 : decode cX12_poke 67 = .ok (.aload_n 0, 1) := by decide +kernel
theorem dX12_poke_68 : decode cX12_poke 68 = .ok (.iconst 0, 1) := by decide +kernel
theorem dX12_poke_69 : decode cX12_poke 69 = .ok (.putfield 67, 3) := by decide +kernel
theorem dX12_poke_72 : decode cX12_poke 72 = .ok (.iconst 0, 1) := by decide +kernel
theorem dX12_poke_73 : decode cX12_poke 73 = .ok (.istore 5, 2) := by decide +kernel
theorem dX12_poke_75 : decode cX12_poke 75 = .ok (.iload 5, 2) := by decide +kernel
theorem dX12_poke_77 : decode cX12_poke 77 = .ok (.iconst 2, 1) := by decide +kernel
theorem dX12_poke_78 : decode cX12_poke 78 = .ok (.aload_n 0, 1) := by decide +kernel
theorem dX12_poke_79 : decode cX12_poke 79 = .ok (.iload_n 1, 1) := by decide +kernel
theorem dX12_poke_80 : decode cX12_poke 80 = .ok (.invokevirtual 59, 3) := by decide +kernel
theorem dX12_poke_83 : decode cX12_poke 83 = .ok (.imul, 1) := by decide +kernel
theorem dX12_poke_84 : decode cX12_poke 84 = .ok (.if_icmp .ge 83, 3) := by decide +kernel
theorem dX12_poke_87 : decode cX12_poke 87 = .ok (.aload_n 0, 1) := by decide +kernel
theorem dX12_poke_88 : decode cX12_poke 88 = .ok (.aload_n 0, 1) := by decide +kernel
theorem dX12_poke_89 : decode cX12_poke 89 = .ok (.iload_n 1, 1) := by decide +kernel
theorem dX12_poke_90 : decode cX12_poke 90 = .ok (.iload 5, 2) := by decide +kernel
theorem dX12_poke_92 : decode cX12_poke 92 = .ok (.invokevirtual 63, 3) := by decide +kernel
theorem dX12_poke_95 : decode cX12_poke 95 = .ok (.invokevirtual 96, 3) := by decide +kernel
theorem dX12_poke_98 : decode cX12_poke 98 = .ok (.iload 5, 2) := by decide +kernel
theorem dX12_poke_100 : decode cX12_poke 100 = .ok (.iload_n 2, 1) := by decide +kernel
theorem dX12_poke_101 : decode cX12_poke 101 = .ok (.if_icmp .eq 9, 3) := by decide +kernel
theorem dX12_poke_104 : decode cX12_poke 104 = .ok (.iload 5, 2) := by decide +kernel
theorem dX12_poke_106 : decode cX12_poke 106 = .ok (.iload_n 3, 1) := by decide +kernel
theorem dX12_poke_107 : decode cX12_poke 107 = .ok (.if_icmp .ne 54, 3) := by decide +kernel
theorem dX12_poke_110 : decode cX12_poke 110 = .ok (.iload 5, 2) := by decide +kernel
theorem dX12_poke_112 : decode cX12_poke 112 = .ok (.iload_n 3, 1) := by decide +kernel
theorem dX12_poke_113 : decode cX12_poke 113 = .ok (.if_icmp .ne 13, 3) := by decide +kernel
theorem dX12_poke_116 : decode cX12_poke 116 = .ok (.iload 4, 2) := by decide +kernel
theorem dX12_poke_118 : decode cX12_poke 118 = .ok (.iconst 1, 1) := by decide +kernel
theorem dX12_poke_119 : decode cX12_poke 119 = .ok (.if_icmp .ne 7, 3) := by decide +kernel
theorem dX12_poke_122 : decode cX12_poke 122 = .ok (.iconst 1, 1) := by decide +kernel
theorem dX12_poke_123 : decode cX12_poke 123 = .ok (.goto 4, 3) := by decide +kernel
theorem dX12_poke_126 : decode cX12_poke 126 = .ok (.iconst 0, 1) := by decide +kernel
theorem dX12_poke_127 : decode cX12_poke 127 = .ok (.istore 6, 2) := by decide +kernel
theorem dX12_poke_129 : decode cX12_poke 129 = .ok (.aload_n 0, 1) := by decide +kernel
theorem dX12_poke_130 : decode cX12_poke 130 = .ok (.iload 6, 2) := by decide +kernel
theorem dX12_poke_132 : decode cX12_poke 132 = .ok (.ifCond .eq 8, 3) := by decide +kernel
theorem dX12_poke_135 : decode cX12_poke 135 = .ok (.bipush 11, 2) := by decide +kernel
theorem dX12_poke_137 : decode cX12_poke 137 = .ok (.goto 5, 3) := by decide +kernel
theorem dX12_poke_140 : decode cX12_poke 140 = .ok (.bipush 10, 2) := by decide +kernel
theorem dX12_poke_142 : decode cX12_poke 142 = .ok (.invokevirtual 96, 3) := by decide +kernel
theorem dX12_poke_145 : decode cX12_poke 145 = .ok (.aload_n 0, 1) := by decide +kernel
theorem dX12_poke_146 : decode cX12_poke 146 = .ok (.iload 6, 2) := by decide +kernel
theorem dX12_poke_148 : decode cX12_poke 148 = .ok (.ifCond .eq 8, 3) := by decide +kernel
theorem dX12_poke_151 : decode cX12_poke 151 = .ok (.bipush 10, 2) := by decide +kernel
theorem dX12_poke_153 : decode cX12_poke 153 = .ok (.goto 5, 3) := by decide +kernel
theorem dX12_poke_156 : decode cX12_poke 156 = .ok (.bipush 11, 2) := by decide +kernel
theorem dX12_poke_158 : decode cX12_poke 158 = .ok (.invokevirtual 96, 3) := by decide +kernel
theorem dX12_poke_161 : decode cX12_poke 161 = .ok (.iinc 5 1, 3) := by decide +kernel
theorem dX12_poke_164 : decode cX12_poke 164 = .ok (.goto (-89), 3) := by decide +kernel
theorem dX12_poke_167 : decode cX12_poke 167 = .ok (.aload_n 0, 1) := by decide +kernel
theorem dX12_poke_168 : decode cX12_poke 168 = .ok (.iload_n 1, 1) := by decide +kernel
theorem dX12_poke_169 : decode cX12_poke 169 = .ok (.invokevirtual 73, 3) := by decide +kernel
theorem dX12_poke_172 : decode cX12_poke 172 = .ok (.ireturn, 1) := by decide +kernel
theorem dX12_unpoke_0 : decode cX12_unpoke 0 = .ok (.aload_n 0, 1) := by decide +kernel
theorem dX12_unpoke_1 : decode cX12_unpoke 1 = .ok (.iload_n 1, 1) := by decide +kernel
theorem dX12_unpoke_2 : decode cX12_unpoke 2 = .ok (.invokevirtual 223, 3) := by decide +kernel
theorem dX12_unpoke_5 : decode cX12_unpoke 5 = .ok (.ifCond .eq 26, 3) := by decide +kernel
theorem dX12_unpoke_8 : decode cX12_unpoke 8 = .ok (.aload_n 0, 1) := by decide +kernel
theorem dX12_unpoke_9 : decode cX12_unpoke 9 = .ok (.iload_n 1, 1) := by decide +kernel
theorem dX12_unpoke_10 : decode cX12_unpoke 10 = .ok (.iload_n 2, 1) := by decide +kernel
theorem dX12_unpoke_11 : decode cX12_unpoke 11 = .ok (.invokevirtual 274, 3) := by decide +kernel
theorem dX12_unpoke_14 : decode cX12_unpoke 14 = .ok (.ifCond .eq 17, 3) := by decide +kernel
theorem dX12_unpoke_17 : decode cX12_unpoke 17 = .ok (.aload_n 0, 1) := by decide +kernel
theorem dX12_unpoke_18 : decode cX12_unpoke 18 = .ok (.iload_n 1, 1) := by decide +kernel
theorem dX12_unpoke_19 : decode cX12_unpoke 19 = .ok (.iload_n 3, 1) := by decide +kernel
theorem dX12_unpoke_20 : decode cX12_unpoke 20 = .ok (.invokevirtual 274, 3) := by decide +kernel
theorem dX12_unpoke_23 : decode cX12_unpoke 23 = .ok (.ifCond .eq 8, 3) := by decide +kernel
theorem dX12_unpoke_26 : decode cX12_unpoke 26 = .ok (.iload_n 2, 1) := by decide +kernel
theorem dX12_unpoke_27 : decode cX12_unpoke 27 = .ok (.iload_n 3, 1) := by decide +kernel
theorem dX12_unpoke_28 : decode cX12_unpoke 28 = .ok (.if_icmp .ne 6, 3) := by decide +kernel
theorem dX12_unpoke_31 : decode cX12_unpoke 31 = .ok (.ldc 252, 2) := by decide +kernel
theorem dX12_unpoke_33 : decode cX12_unpoke 33 = .ok (.ireturn, 1) := by decide +kernel
theorem dX12_unpoke_34 : decode cX12_unpoke 34 = .ok (.aload_n 0, 1) := by decide +kernel
theorem dX12_unpoke_35 : decode cX12_unpoke 35 = .ok (.iload_n 1, 1) := by decide +kernel
theorem dX12_unpoke_36 : decode cX12_unpoke 36 = .ok (.iload_n 2, 1) := by decide +kernel
theorem dX12_unpoke_37 : decode cX12_unpoke 37 = .ok (.iconst 0, 1) := by decide +kernel
theorem dX12_unpoke_38 : decode cX12_unpoke 38 = .ok (.invokevirtual 104, 3) := by decide +kernel
theorem dX12_unpoke_41 : decode cX12_unpoke 41 = .ok (.istore 4, 2) := by decide +kernel
theorem dX12_unpoke_43 : decode cX12_unpoke 43 = .ok (.aload_n 0, 1) := by decide +kernel
theorem dX12_unpoke_44 : decode cX12_unpoke 44 = .ok (.iload_n 1, 1) := by decide +kernel
theorem dX12_unpoke_45 : decode cX12_unpoke 45 = .ok (.iload_n 2, 1) := by decide +kernel
theorem dX12_unpoke_46 : decode cX12_unpoke 46 = .ok (.iconst 1, 1) := by decide +kernel
theorem dX12_unpoke_47 : decode cX12_unpoke 47 = .ok (.invokevirtual 104, 3) := by decide +kernel
theorem dX12_unpoke_50 : decode cX12_unpoke 50 = .ok (.istore 5, 2) := by decide +kernel
theorem dX12_unpoke_52 : decode cX12_unpoke 52 = .ok (.aload_n 0, 1) := by decide +kernel
theorem dX12_unpoke_53 : decode cX12_unpoke 53 = .ok (.iload_n 1, 1) := by decide +kernel
theorem dX12_unpoke_54 : decode cX12_unpoke 54 = .ok (.iload_n 3, 1) := by decide +kernel
theorem dX12_unpoke_55 : decode cX12_unpoke 55 = .ok (.iconst 0, 1) := by decide +kernel
theorem dX12_unpoke_56 : decode cX12_unpoke 56 = .ok (.invokevirtual 104, 3) := by decide +kernel
theorem dX12_unpoke_59 : decode cX12_unpoke 59 = .ok (.istore 6, 2) := by decide +kernel
theorem dX12_unpoke_61 : decode cX12_unpoke 61 = .ok (.aload_n 0, 1) := by decide +kernel
theorem dX12_unpoke_62 : decode cX12_unpoke 62 = .ok (.iload_n 1, 1) := by decide +kernel
theorem dX12_unpoke_63 : decode cX12_unpoke 63 = .ok (.iload_n 3, 1) := by decide +kernel
theorem dX12_unpoke_64 : decode cX12_unpoke 64 = .ok (.iconst 1, 1) := by decide +kernel
theorem dX12_unpoke_65 : decode cX12_unpoke 65 = .ok (.invokevirtual 104, 3) := by decide +kernel
theorem dX12_unpoke_68 : decode cX12_unpoke 68 = .ok (.istore 7, 2) := by decide +kernel
theorem dX12_unpoke_70 : decode cX12_unpoke 70 = .ok (.aload_n 0, 1) := by decide +kernel
theorem dX12_unpoke_71 : decode cX12_unpoke 71 = .ok (.iload_n 1, 1) := by decide +kernel
theorem dX12_unpoke_72 : decode cX12_unpoke 72 = .ok (.iload 4, 2) := by decide +kernel
theorem dX12_unpoke_74 : decode cX12_unpoke 74 = .ok (.iload 6, 2) := by decide +kernel
theorem dX12_unpoke_76 : decode cX12_unpoke 76 = .ok (.invokevirtual 214, 3) := by decide +kernel
theorem dX12_unpoke_79 : decode cX12_unpoke 79 = .ok (.ifCond .eq 15, 3) := by decide +kernel
theorem dX12_unpoke_82 : decode cX12_unpoke 82 = .ok (.aload_n 0, 1) := by decide +kernel
theorem dX12_unpoke_83 : decode cX12_unpoke 83 = .ok (.iload_n 1, 1) := by decide +kernel
theorem dX12_unpoke_84 : decode cX12_unpoke 84 = .ok (.iload 5, 2) := by decide +kernel
theorem dX12_unpoke_86 : decode cX12_unpoke 86 = .ok (.iload 7, 2) := by decide +kernel
theorem dX12_unpoke_88 : decode cX12_unpoke 88 = .ok (.invokevirtual 214, 3) := by decide +kernel
theorem dX12_unpoke_91 : decode cX12_unpoke 91 = .ok (.ifCond .ne 27, 3) := by decide +kernel
theorem dX12_unpoke_94 : decode cX12_unpoke 94 = .ok (.aload_n 0, 1) := by decide +kernel
theorem dX12_unpoke_95 : decode cX12_unpoke 95 = .ok (.iload_n 1, 1) := by decide +kernel
theorem dX12_unpoke_96 : decode cX12_unpoke 96 = .ok (.iload 4, 2) := by decide +kernel
theorem dX12_unpoke_98 : decode cX12_unpoke 98 = .ok (.iload 7, 2) := by decide +kernel
theorem dX12_unpoke_100 : decode cX12_unpoke 100 = .ok (.invokevirtual 214, 3) := by decide +kernel
theorem dX12_unpoke_103 : decode cX12_unpoke 103 = .ok (.ifCond .eq 19, 3) := by decide +kernel
theorem dX12_unpoke_106 : decode cX12_unpoke 106 = .ok (.aload_n 0, 1) := by decide +kernel
theorem dX12_unpoke_107 : decode cX12_unpoke 107 = .ok (.iload_n 1, 1) := by decide +kernel
theorem dX12_unpoke_108 : decode cX12_unpoke 108 = .ok (.iload 5, 2) := by decide +kernel
theorem dX12_unpoke_110 : decode cX12_unpoke 110 = .ok (.iload 6, 2) := by decide +kernel
theorem dX12_unpoke_112 : decode cX12_unpoke 112 = .ok (.invokevirtual 214, 3) := by decide +kernel
theorem dX12_unpoke_115 : decode cX12_unpoke 115 = .ok (.ifCond .eq 7, 3) := by decide +kernel
theorem dX12_unpoke_118 : decode cX12_unpoke 118 = .ok (.iconst 1, 1) := by decide +kernel
theorem dX12_unpoke_119 : decode cX12_unpoke 119 = .ok (.goto 4, 3) := by decide +kernel
theorem dX12_unpoke_122 : decode cX12_unpoke 122 = .ok (.iconst 0, 1) := by decide +kernel
theorem dX12_unpoke_123 : decode cX12_unpoke 123 = .ok (.istore 8, 2) := by decide +kernel
theorem dX12_unpoke_125 : decode cX12_unpoke 125 = .ok (.iload 8, 2) := by decide +kernel
theorem dX12_unpoke_127 : decode cX12_unpoke 127 = .ok (.ifCond .ne 7, 3) := by decide +kernel
theorem dX12_unpoke_130 : decode cX12_unpoke 130 = .ok (.ldc_w 289, 3) := by decide +kernel
theorem dX12_unpoke_133 : decode cX12_unpoke 133 = .ok (.ireturn, 1) := by decide +kernel
theorem dX12_unpoke_134 : decode cX12_unpoke 134 = .ok (.aload_n 0, 1) := by decide +kernel
theorem dX12_unpoke_135 : decode cX12_unpoke 135 = .ok (.invokevirtual 93, 3) := by decide +kernel
theorem dX12_unpoke_138 : decode cX12_unpoke 138 = .ok (.aload_n 0, 1) := by decide +kernel
theorem dX12_unpoke_139 : decode cX12_unpoke 139 = .ok (.iload_n 1, 1) := by decide +kernel
theorem dX12_unpoke_140 : decode cX12_unpoke 140 = .ok (.iload_n 2, 1) := by decide +kernel
theorem dX12_unpoke_141 : decode cX12_unpoke 141 = .ok (.iload_n 3, 1) := by decide +kernel
theorem dX12_unpoke_142 : decode cX12_unpoke 142 = .ok (.invokevirtual 293, 3) := by decide +kernel
theorem dX12_unpoke_145 : decode cX12_unpoke 145 = .ok (.ireturn, 1) := by decide +kernel
theorem dX12_swaps_0 : decode cX12_swaps 0 = .ok (.iconst 1, 1) := by decide +kernel
theorem dX12_swaps_1 : decode cX12_swaps 1 = .ok (.bipush 18, 2) := by decide +kernel
theorem dX12_swaps_3 : decode cX12_swaps 3 = .ok (.iload_n 1, 1) := by decide +kernel
theorem dX12_swaps_4 : decode cX12_swaps 4 = .ok (.imul, 1) := by decide +kernel
theorem dX12_swaps_5 : decode cX12_swaps 5 = .ok (.iadd, 1) := by decide +kernel
theorem dX12_swaps_6 : decode cX12_swaps 6 = .ok (.iconst 2, 1) := by decide +kernel
theorem dX12_swaps_7 : decode cX12_swaps 7 = .ok (.iadd, 1) := by decide +kernel
theorem dX12_swaps_8 : decode cX12_swaps 8 = .ok (.istore 4, 2) := by decide +kernel
theorem dX12_swaps_10 : decode cX12_swaps 10 = .ok (.aload_n 0, 1) := by decide +kernel
theorem dX12_swaps_11 : decode cX12_swaps 11 = .ok (.getfield 7, 3) := by decide +kernel
theorem dX12_swaps_14 : decode cX12_swaps 14 = .ok (.iload 4, 2) := by decide +kernel
theorem dX12_swaps_16 : decode cX12_swaps 16 = .ok (.iload_n 2, 1) := by decide +kernel
theorem dX12_swaps_17 : decode cX12_swaps 17 = .ok (.iadd, 1) := by decide +kernel
theorem dX12_swaps_18 : decode cX12_swaps 18 = .ok (.iaload, 1) := by decide +kernel
theorem dX12_swaps_19 : decode cX12_swaps 19 = .ok (.istore 5, 2) := by decide +kernel
theorem dX12_swaps_21 : decode cX12_swaps 21 = .ok (.aload_n 0, 1) := by decide +kernel
theorem dX12_swaps_22 : decode cX12_swaps 22 = .ok (.getfield 7, 3) := by decide +kernel
theorem dX12_swaps_25 : decode cX12_swaps 25 = .ok (.iload 4, 2) := by decide +kernel
theorem dX12_swaps_27 : decode cX12_swaps 27 = .ok (.iload_n 2, 1) := by decide +kernel
theorem dX12_swaps_28 : decode cX12_swaps 28 = .ok (.iadd, 1) := by decide +kernel
theorem dX12_swaps_29 : decode cX12_swaps 29 = .ok (.aload_n 0, 1) := by decide +kernel
theorem dX12_swaps_30 : decode cX12_swaps 30 = .ok (.getfield 7, 3) := by decide +kernel
theorem dX12_swaps_33 : decode cX12_swaps 33 = .ok (.iload 4, 2) := by decide +kernel
theorem dX12_swaps_35 : decode cX12_swaps 35 = .ok (.iload_n 3, 1) := by decide +kernel
theorem dX12_swaps_36 : decode cX12_swaps 36 = .ok (.iadd, 1) := by decide +kernel
theorem dX12_swaps_37 : decode cX12_swaps 37 = .ok (.iaload, 1) := by decide +kernel
theorem dX12_swaps_38 : decode cX12_swaps 38 = .ok (.iastore, 1) := by decide +kernel
theorem dX12_swaps_39 : decode cX12_swaps 39 = .ok (.aload_n 0, 1) := by decide +kernel
theorem dX12_swaps_40 : decode cX12_swaps 40 = .ok (.getfield 7, 3) := by decide +kernel
theorem dX12_swaps_43 : decode cX12_swaps 43 = .ok (.iload 4, 2) := by decide +kernel
theorem dX12_swaps_45 : decode cX12_swaps 45 = .ok (.iload_n 3, 1) := by decide +kernel
theorem dX12_swaps_46 : decode cX12_swaps 46 = .ok (.iadd, 1) := by decide +kernel
theorem dX12_swaps_47 : decode cX12_swaps 47 = .ok (.iload 5, 2) := by decide +kernel
theorem dX12_swaps_49 : decode cX12_swaps 49 = .ok (.iastore, 1) := by decide +kernel
theorem dX12_swaps_50 : decode cX12_swaps 50 = .ok (.return_, 1) := by decide +kernel
theorem dX12_slide_0 : decode cX12_slide 0 = .ok (.aload_n 0, 1) := by decide +kernel
theorem dX12_slide_1 : decode cX12_slide 1 = .ok (.iload_n 1, 1) := by decide +kernel
theorem dX12_slide_2 : decode cX12_slide 2 = .ok (.invokevirtual 223, 3) := by decide +kernel
theorem dX12_slide_5 : decode cX12_slide 5 = .ok (.ifCond .eq 48, 3) := by decide +kernel
theorem dX12_slide_8 : decode cX12_slide 8 = .ok (.aload_n 0, 1) := by decide +kernel
theorem dX12_slide_9 : decode cX12_slide 9 = .ok (.iload_n 1, 1) := by decide +kernel
theorem dX12_slide_10 : decode cX12_slide 10 = .ok (.iload_n 2, 1) := by decide +kernel
theorem dX12_slide_11 : decode cX12_slide 11 = .ok (.invokevirtual 274, 3) := by decide +kernel
theorem dX12_slide_14 : decode cX12_slide 14 = .ok (.ifCond .eq 39, 3) := by decide +kernel
theorem dX12_slide_17 : decode cX12_slide 17 = .ok (.aload_n 0, 1) := by decide +kernel
theorem dX12_slide_18 : decode cX12_slide 18 = .ok (.iload_n 1, 1) := by decide +kernel
theorem dX12_slide_19 : decode cX12_slide 19 = .ok (.iload_n 3, 1) := by decide +kernel
theorem dX12_slide_20 : decode cX12_slide 20 = .ok (.invokevirtual 274, 3) := by decide +kernel
theorem dX12_slide_23 : decode cX12_slide 23 = .ok (.ifCond .eq 30, 3) := by decide +kernel
theorem dX12_slide_26 : decode cX12_slide 26 = .ok (.aload_n 0, 1) := by decide +kernel
theorem dX12_slide_27 : decode cX12_slide 27 = .ok (.iload_n 1, 1) := by decide +kernel
theorem dX12_slide_28 : decode cX12_slide 28 = .ok (.iload 4, 2) := by decide +kernel
theorem dX12_slide_30 : decode cX12_slide 30 = .ok (.invokevirtual 274, 3) := by decide +kernel
theorem dX12_slide_33 : decode cX12_slide 33 = .ok (.ifCond .eq 20, 3) := by decide +kernel
theorem dX12_slide_36 : decode cX12_slide 36 = .ok (.iload_n 2, 1) := by decide +kernel
theorem dX12_slide_37 : decode cX12_slide 37 = .ok (.iload_n 3, 1) := by decide +kernel
theorem dX12_slide_38 : decode cX12_slide 38 = .ok (.if_icmp .eq 15, 3) := by decide +kernel
theorem dX12_slide_41 : decode cX12_slide 41 = .ok (.iload_n 2, 1) := by decide +kernel
theorem dX12_slide_42 : decode cX12_slide 42 = .ok (.iload 4, 2) := by decide +kernel
theorem dX12_slide_44 : decode cX12_slide 44 = .ok (.if_icmp .eq 9, 3) := by decide +kernel
theorem dX12_slide_47 : decode cX12_slide 47 = .ok (.iload_n 3, 1) := by decide +kernel
theorem dX12_slide_48 : decode cX12_slide 48 = .ok (.iload 4, 2) := by decide +kernel
theorem dX12_slide_50 : decode cX12_slide 50 = .ok (.if_icmp .ne 6, 3) := by decide +kernel
theorem dX12_slide_53 : decode cX12_slide 53 = .ok (.ldc 252, 2) := by decide +kernel
theorem dX12_slide_55 : decode cX12_slide 55 = .ok (.ireturn, 1) := by decide +kernel
theorem dX12_slide_56 : decode cX12_slide 56 = .ok (.iconst 0, 1) := by decide +kernel
theorem dX12_slide_57 : decode cX12_slide 57 = .ok (.istore 5, 2) := by decide +kernel
theorem dX12_slide_59 : decode cX12_slide 59 = .ok (.iload 5, 2) := by decide +kernel
theorem dX12_slide_61 : decode cX12_slide 61 = .ok (.bipush 8, 2) := by decide +kernel
theorem dX12_slide_63 : decode cX12_slide 63 = .ok (.if_icmp .ge 180, 3) := by decide +kernel
theorem dX12_slide_66 : decode cX12_slide 66 = .ok (.iload 5, 2) := by decide +kernel
theorem dX12_slide_68 : decode cX12_slide 68 = .ok (.iconst 4, 1) := by decide +kernel
theorem dX12_slide_69 : decode cX12_slide 69 = .ok (.idiv, 1) := by decide +kernel
theorem dX12_slide_70 : decode cX12_slide 70 = .ok (.istore 6, 2) := by decide +kernel
theorem dX12_slide_72 : decode cX12_slide 72 = .ok (.iload 5, 2) := by decide +kernel
theorem dX12_slide_74 : decode cX12_slide 74 = .ok (.iconst 2, 1) := by decide +kernel
theorem dX12_slide_75 : decode cX12_slide 75 = .ok (.idiv, 1) := by decide +kernel
theorem dX12_slide_76 : decode cX12_slide 76 = .ok (.iconst 2, 1) := by decide +kernel
theorem dX12_slide_77 : decode cX12_slide 77 = .ok (.irem, 1) := by decide +kernel
theorem dX12_slide_78 : decode cX12_slide 78 = .ok (.istore 7, 2) := by decide +kernel
theorem dX12_slide_80 : decode cX12_slide 80 = .ok (.iload 5, 2) := by decide +kernel
theorem dX12_slide_82 : decode cX12_slide 82 = .ok (.iconst 2, 1) := by decide +kernel
theorem dX12_slide_83 : decode cX12_slide 83 = .ok (.irem, 1) := by decide +kernel
theorem dX12_slide_84 : decode cX12_slide 84 = .ok (.istore 8, 2) := by decide +kernel
theorem dX12_slide_86 : decode cX12_slide 86 = .ok (.aload_n 0, 1) := by decide +kernel
theorem dX12_slide_87 : decode cX12_slide 87 = .ok (.iload_n 1, 1) := by decide +kernel
theorem dX12_slide_88 : decode cX12_slide 88 = .ok (.iload_n 2, 1) := by decide +kernel
theorem dX12_slide_89 : decode cX12_slide 89 = .ok (.iload 6, 2) := by decide +kernel
theorem dX12_slide_91 : decode cX12_slide 91 = .ok (.invokevirtual 104, 3) := by decide +kernel
theorem dX12_slide_94 : decode cX12_slide 94 = .ok (.istore 9, 2) := by decide +kernel
theorem dX12_slide_96 : decode cX12_slide 96 = .ok (.aload_n 0, 1) := by decide +kernel
theorem dX12_slide_97 : decode cX12_slide 97 = .ok (.iload_n 1, 1) := by decide +kernel
theorem dX12_slide_98 : decode cX12_slide 98 = .ok (.iload_n 3, 1) := by decide +kernel
theorem dX12_slide_99 : decode cX12_slide 99 = .ok (.iload 7, 2) := by decide +kernel
theorem dX12_slide_101 : decode cX12_slide 101 = .ok (.invokevirtual 104, 3) := by decide +kernel
theorem dX12_slide_104 : decode cX12_slide 104 = .ok (.istore 10, 2) := by decide +kernel
theorem dX12_slide_106 : decode cX12_slide 106 = .ok (.aload_n 0, 1) := by decide +kernel
theorem dX12_slide_107 : decode cX12_slide 107 = .ok (.iload_n 1, 1) := by decide +kernel
theorem dX12_slide_108 : decode cX12_slide 108 = .ok (.iload_n 3, 1) := by decide +kernel
theorem dX12_slide_109 : decode cX12_slide 109 = .ok (.iconst 1, 1) := by decide +kernel
theorem dX12_slide_110 : decode cX12_slide 110 = .ok (.iload 7, 2) := by decide +kernel
theorem dX12_slide_112 : decode cX12_slide 112 = .ok (.isub, 1) := by decide +kernel
theorem dX12_slide_113 : decode cX12_slide 113 = .ok (.invokevirtual 104, 3) := by decide +kernel
theorem dX12_slide_116 : decode cX12_slide 116 = .ok (.istore 11, 2) := by decide +kernel
theorem dX12_slide_118 : decode cX12_slide 118 = .ok (.aload_n 0, 1) := by decide +kernel
theorem dX12_slide_119 : decode cX12_slide 119 = .ok (.iload_n 1, 1) := by decide +kernel
theorem dX12_slide_120 : decode cX12_slide 120 = .ok (.iload 4, 2) := by decide +kernel
theorem dX12_slide_122 : decode cX12_slide 122 = .ok (.iload 8, 2) := by decide +kernel
theorem dX12_slide_124 : decode cX12_slide 124 = .ok (.invokevirtual 104, 3) := by decide +kernel
theorem dX12_slide_127 : decode cX12_slide 127 = .ok (.istore 12, 2) := by decide +kernel
theorem dX12_slide_129 : decode cX12_slide 129 = .ok (.aload_n 0, 1) := by decide +kernel
theorem dX12_slide_130 : decode cX12_slide 130 = .ok (.iload_n 1, 1) := by decide +kernel
theorem dX12_slide_131 : decode cX12_slide 131 = .ok (.iload 4, 2) := by decide +kernel
theorem dX12_slide_133 : decode cX12_slide 133 = .ok (.iconst 1, 1) := by decide +kernel
theorem dX12_slide_134 : decode cX12_slide 134 = .ok (.iload 8, 2) := by decide +kernel
theorem dX12_slide_136 : decode cX12_slide 136 = .ok (.isub, 1) := by decide +kernel
theorem dX12_slide_137 : decode cX12_slide 137 = .ok (.invokevirtual 104, 3) := by decide +kernel
theorem dX12_slide_140 : decode cX12_slide 140 = .ok (.istore 13, 2) := by decide +kernel
theorem dX12_slide_142 : decode cX12_slide 142 = .ok (.aload_n 0, 1) := by decide +kernel
theorem dX12_slide_143 : decode cX12_slide 143 = .ok (.iload_n 1, 1) := by decide +kernel
theorem dX12_slide_144 : decode cX12_slide 144 = .ok (.iload_n 2, 1) := by decide +kernel
theorem dX12_slide_145 : decode cX12_slide 145 = .ok (.iconst 1, 1) := by decide +kernel
theorem dX12_slide_146 : decode cX12_slide 146 = .ok (.iload 6, 2) := by decide +kernel
theorem dX12_slide_148 : decode cX12_slide 148 = .ok (.isub, 1) := by decide +kernel
theorem dX12_slide_149 : decode cX12_slide 149 = .ok (.invokevirtual 104, 3) := by decide +kernel
theorem dX12_slide_152 : decode cX12_slide 152 = .ok (.istore 14, 2) := by decide +kernel
theorem dX12_slide_154 : decode cX12_slide 154 = .ok (.aload_n 0, 1) := by decide +kernel
theorem dX12_slide_155 : decode cX12_slide 155 = .ok (.iload_n 1, 1) := by decide +kernel
theorem dX12_slide_156 : decode cX12_slide 156 = .ok (.iload 9, 2) := by decide +kernel
theorem dX12_slide_158 : decode cX12_slide 158 = .ok (.iload 10, 2) := by decide +kernel
theorem dX12_slide_160 : decode cX12_slide 160 = .ok (.invokevirtual 214, 3) := by decide +kernel
theorem dX12_slide_163 : decode cX12_slide 163 = .ok (.ifCond .eq 74, 3) := by decide +kernel
theorem dX12_slide_166 : decode cX12_slide 166 = .ok (.aload_n 0, 1) := by decide +kernel
theorem dX12_slide_167 : decode cX12_slide 167 = .ok (.iload_n 1, 1) := by decide +kernel
theorem dX12_slide_168 : decode cX12_slide 168 = .ok (.iload 11, 2) := by decide +kernel
theorem dX12_slide_170 : decode cX12_slide 170 = .ok (.iload 12, 2) := by decide +kernel
theorem dX12_slide_172 : decode cX12_slide 172 = .ok (.invokevirtual 214, 3) := by decide +kernel
theorem dX12_slide_175 : decode cX12_slide 175 = .ok (.ifCond .eq 62, 3) := by decide +kernel
theorem dX12_slide_178 : decode cX12_slide 178 = .ok (.aload_n 0, 1) := by decide +kernel
theorem dX12_slide_179 : decode cX12_slide 179 = .ok (.iload_n 1, 1) := by decide +kernel
theorem dX12_slide_180 : decode cX12_slide 180 = .ok (.iload 13, 2) := by decide +kernel
theorem dX12_slide_182 : decode cX12_slide 182 = .ok (.iload 14, 2) := by decide +kernel
theorem dX12_slide_184 : decode cX12_slide 184 = .ok (.invokevirtual 214, 3) := by decide +kernel
theorem dX12_slide_187 : decode cX12_slide 187 = .ok (.ifCond .eq 50, 3) := by decide +kernel
theorem dX12_slide_190 : decode cX12_slide 190 = .ok (.aload_n 0, 1) := by decide +kernel
theorem dX12_slide_191 : decode cX12_slide 191 = .ok (.invokevirtual 93, 3) := by decide +kernel
theorem dX12_slide_194 : decode cX12_slide 194 = .ok (.aload_n 0, 1) := by decide +kernel
theorem dX12_slide_195 : decode cX12_slide 195 = .ok (.iload_n 1, 1) := by decide +kernel
theorem dX12_slide_196 : decode cX12_slide 196 = .ok (.iload 9, 2) := by decide +kernel
theorem dX12_slide_198 : decode cX12_slide 198 = .ok (.iload 10, 2) := by decide +kernel
theorem dX12_slide_200 : decode cX12_slide 200 = .ok (.invokevirtual 296, 3) := by decide +kernel
theorem dX12_slide_203 : decode cX12_slide 203 = .ok (.aload_n 0, 1) := by decide +kernel
theorem dX12_slide_204 : decode cX12_slide 204 = .ok (.iload_n 1, 1) := by decide +kernel
theorem dX12_slide_205 : decode cX12_slide 205 = .ok (.iload 11, 2) := by decide +kernel
theorem dX12_slide_207 : decode cX12_slide 207 = .ok (.iload 12, 2) := by decide +kernel
theorem dX12_slide_209 : decode cX12_slide 209 = .ok (.invokevirtual 296, 3) := by decide +kernel
theorem dX12_slide_212 : decode cX12_slide 212 = .ok (.aload_n 0, 1) := by decide +kernel
theorem dX12_slide_213 : decode cX12_slide 213 = .ok (.iload_n 1, 1) := by decide +kernel
theorem dX12_slide_214 : decode cX12_slide 214 = .ok (.iload 13, 2) := by decide +kernel
theorem dX12_slide_216 : decode cX12_slide 216 = .ok (.iload 14, 2) := by decide +kernel
theorem dX12_slide_218 : decode cX12_slide 218 = .ok (.invokevirtual 296, 3) := by decide +kernel
theorem dX12_slide_221 : decode cX12_slide 221 = .ok (.aload_n 0, 1) := by decide +kernel
theorem dX12_slide_222 : decode cX12_slide 222 = .ok (.iload_n 1, 1) := by decide +kernel
theorem dX12_slide_223 : decode cX12_slide 223 = .ok (.iconst 0, 1) := by decide +kernel
theorem dX12_slide_224 : decode cX12_slide 224 = .ok (.iconst 0, 1) := by decide +kernel
theorem dX12_slide_225 : decode cX12_slide 225 = .ok (.invokevirtual 199, 3) := by decide +kernel
theorem dX12_slide_228 : decode cX12_slide 228 = .ok (.aload_n 0, 1) := by decide +kernel
theorem dX12_slide_229 : decode cX12_slide 229 = .ok (.iload_n 1, 1) := by decide +kernel
theorem dX12_slide_230 : decode cX12_slide 230 = .ok (.invokevirtual 73, 3) := by decide +kernel
theorem dX12_slide_233 : decode cX12_slide 233 = .ok (.pop, 1) := by decide +kernel
theorem dX12_slide_234 : decode cX12_slide 234 = .ok (.iload 5, 2) := by decide +kernel
theorem dX12_slide_236 : decode cX12_slide 236 = .ok (.ireturn, 1) := by decide +kernel
theorem dX12_slide_237 : decode cX12_slide 237 = .ok (.iinc 5 1, 3) := by decide +kernel
theorem dX12_slide_240 : decode cX12_slide 240 = .ok (.goto (-181), 3) := by decide +kernel
theorem dX12_slide_243 : decode cX12_slide 243 = .ok (.ldc_w 289, 3) := by decide +kernel
theorem dX12_slide_246 : decode cX12_slide 246 = .ok (.ireturn, 1) := by decide +kernel
theorem dX12_smooth_0 : decode cX12_smooth 0 = .ok (.aload_n 0, 1) := by decide +kernel
theorem dX12_smooth_1 : decode cX12_smooth 1 = .ok (.iload_n 1, 1) := by decide +kernel
theorem dX12_smooth_2 : decode cX12_smooth 2 = .ok (.invokevirtual 223, 3) := by decide +kernel
theorem dX12_smooth_5 : decode cX12_smooth 5 = .ok (.ifCond .eq 12, 3) := by decide +kernel
theorem dX12_smooth_8 : decode cX12_smooth 8 = .ok (.aload_n 0, 1) := by decide +kernel
theorem dX12_smooth_9 : decode cX12_smooth 9 = .ok (.iload_n 1, 1) := by decide +kernel
theorem dX12_smooth_10 : decode cX12_smooth 10 = .ok (.iload_n 2, 1) := by decide +kernel
theorem dX12_smooth_11 : decode cX12_smooth 11 = .ok (.invokevirtual 274, 3) := by decide +kernel
theorem dX12_smooth_14 : decode cX12_smooth 14 = .ok (.ifCond .ne 6, 3) := by decide +kernel
theorem dX12_smooth_17 : decode cX12_smooth 17 = .ok (.ldc 252, 2) := by decide +kernel
theorem dX12_smooth_19 : decode cX12_smooth 19 = .ok (.ireturn, 1) := by decide +kernel
theorem dX12_smooth_20 : decode cX12_smooth 20 = .ok (.aload_n 0, 1) := by decide +kernel
theorem dX12_smooth_21 : decode cX12_smooth 21 = .ok (.invokevirtual 93, 3) := by decide +kernel
theorem dX12_smooth_24 : decode cX12_smooth 24 = .ok (.aload_n 0, 1) := by decide +kernel
theorem dX12_smooth_25 : decode cX12_smooth 25 = .ok (.iload_n 1, 1) := by decide +kernel
theorem dX12_smooth_26 : decode cX12_smooth 26 = .ok (.iload_n 2, 1) := by decide +kernel
theorem dX12_smooth_27 : decode cX12_smooth 27 = .ok (.iconst 0, 1) := by decide +kernel
theorem dX12_smooth_28 : decode cX12_smooth 28 = .ok (.invokevirtual 104, 3) := by decide +kernel
theorem dX12_smooth_31 : decode cX12_smooth 31 = .ok (.istore_n 3, 1) := by decide +kernel
theorem dX12_smooth_32 : decode cX12_smooth 32 = .ok (.aload_n 0, 1) := by decide +kernel
theorem dX12_smooth_33 : decode cX12_smooth 33 = .ok (.iload_n 1, 1) := by decide +kernel
theorem dX12_smooth_34 : decode cX12_smooth 34 = .ok (.iload_n 2, 1) := by decide +kernel
theorem dX12_smooth_35 : decode cX12_smooth 35 = .ok (.iconst 1, 1) := by decide +kernel
theorem dX12_smooth_36 : decode cX12_smooth 36 = .ok (.invokevirtual 104, 3) := by decide +kernel
theorem dX12_smooth_39 : decode cX12_smooth 39 = .ok (.istore 4, 2) := by decide +kernel
theorem dX12_smooth_41 : decode cX12_smooth 41 = .ok (.aload_n 0, 1) := by decide +kernel
theorem dX12_smooth_42 : decode cX12_smooth 42 = .ok (.iconst 0, 1) := by decide +kernel
theorem dX12_smooth_43 : decode cX12_smooth 43 = .ok (.putfield 67, 3) := by decide +kernel
theorem dX12_smooth_46 : decode cX12_smooth 46 = .ok (.iconst 0, 1) := by decide +kernel
theorem dX12_smooth_47 : decode cX12_smooth 47 = .ok (.istore 5, 2) := by decide +kernel
theorem dX12_smooth_49 : decode cX12_smooth 49 = .ok (.iload 5, 2) := by decide +kernel
theorem dX12_smooth_51 : decode cX12_smooth 51 = .ok (.iconst 2, 1) := by decide +kernel
theorem dX12_smooth_52 : decode cX12_smooth 52 = .ok (.aload_n 0, 1) := by decide +kernel
theorem dX12_smooth_53 : decode cX12_smooth 53 = .ok (.iload_n 1, 1) := by decide +kernel
theorem dX12_smooth_54 : decode cX12_smooth 54 = .ok (.invokevirtual 59, 3) := by decide +kernel
theorem dX12_smooth_57 : decode cX12_smooth 57 = .ok (.imul, 1) := by decide +kernel
theorem dX12_smooth_58 : decode cX12_smooth 58 = .ok (.if_icmp .ge 57, 3) := by decide +kernel
theorem dX12_smooth_61 : decode cX12_smooth 61 = .ok (.iload 5, 2) := by decide +kernel
theorem dX12_smooth_63 : decode cX12_smooth 63 = .ok (.iload_n 3, 1) := by decide +kernel
theorem dX12_smooth_64 : decode cX12_smooth 64 = .ok (.if_icmp .eq 45, 3) := by decide +kernel
theorem dX12_smooth_67 : decode cX12_smooth 67 = .ok (.iload 5, 2) := by decide +kernel
theorem dX12_smooth_69 : decode cX12_smooth 69 = .ok (.iload 4, 2) := by decide +kernel
theorem dX12_smooth_71 : decode cX12_smooth 71 = .ok (.if_icmp .eq 38, 3) := by decide +kernel
theorem dX12_smooth_74 : decode cX12_smooth 74 = .ok (.aload_n 0, 1) := by decide +kernel
theorem dX12_smooth_75 : decode cX12_smooth 75 = .ok (.aload_n 0, 1) := by decide +kernel
theorem dX12_smooth_76 : decode cX12_smooth 76 = .ok (.iload_n 1, 1) := by decide +kernel
theorem dX12_smooth_77 : decode cX12_smooth 77 = .ok (.iload 5, 2) := by decide +kernel
theorem dX12_smooth_79 : decode cX12_smooth 79 = .ok (.i2l, 1) := by decide +kernel
theorem dX12_smooth_80 : decode cX12_smooth 80 = .ok (.iload_n 3, 1) := by decide +kernel
theorem dX12_smooth_81 : decode cX12_smooth 81 = .ok (.i2l, 1) := by decide +kernel
theorem dX12_smooth_82 : decode cX12_smooth 82 = .ok (.iload 4, 2) := by decide +kernel
theorem dX12_smooth_84 : decode cX12_smooth 84 = .ok (.i2l, 1) := by decide +kernel
theorem dX12_smooth_85 : decode cX12_smooth 85 = .ok (.invokestatic 55, 3) := by decide +kernel
theorem dX12_smooth_88 : decode cX12_smooth 88 = .ok (.ifCond .eq 13, 3) := by decide +kernel
theorem dX12_smooth_91 : decode cX12_smooth 91 = .ok (.iload_n 3, 1) := by decide +kernel
theorem dX12_smooth_92 : decode cX12_smooth 92 = .ok (.iload 4, 2) := by decide +kernel
theorem dX12_smooth_94 : decode cX12_smooth 94 = .ok (.iadd, 1) := by decide +kernel
theorem dX12_smooth_95 : decode cX12_smooth 95 = .ok (.iload 5, 2) := by decide +kernel
theorem dX12_smooth_97 : decode cX12_smooth 97 = .ok (.isub, 1) := by decide +kernel
theorem dX12_smooth_98 : decode cX12_smooth 98 = .ok (.goto 5, 3) := by decide +kernel
theorem dX12_smooth_101 : decode cX12_smooth 101 = .ok (.iload 5, 2) := by decide +kernel
theorem dX12_smooth_103 : decode cX12_smooth 103 = .ok (.invokevirtual 63, 3) := by decide +kernel
theorem dX12_smooth_106 : decode cX12_smooth 106 = .ok (.invokevirtual 96, 3) := by decide +kernel
theorem dX12_smooth_109 : decode cX12_smooth 109 = .ok (.iinc 5 1, 3) := by decide +kernel
theorem dX12_smooth_112 : decode cX12_smooth 112 = .ok (.goto (-63), 3) := by decide +kernel
theorem dX12_smooth_115 : decode cX12_smooth 115 = .ok (.aload_n 0, 1) := by decide +kernel
theorem dX12_smooth_116 : decode cX12_smooth 116 = .ok (.iload_n 1, 1) := by decide +kernel
theorem dX12_smooth_117 : decode cX12_smooth 117 = .ok (.invokevirtual 73, 3) := by decide +kernel
theorem dX12_smooth_120 : decode cX12_smooth 120 = .ok (.ireturn, 1) := by decide +kernel
theorem dX12_sum_0 : decode cX12_sum 0 = .ok (.aload_n 0, 1) := by decide +kernel
theorem dX12_sum_1 : decode cX12_sum 1 = .ok (.iload_n 1, 1) := by decide +kernel
theorem dX12_sum_2 : decode cX12_sum 2 = .ok (.invokevirtual 223, 3) := by decide +kernel
theorem dX12_sum_5 : decode cX12_sum 5 = .ok (.ifCond .eq 11, 3) := by decide +kernel
theorem dX12_sum_8 : decode cX12_sum 8 = .ok (.aload_n 0, 1) := by decide +kernel
theorem dX12_sum_9 : decode cX12_sum 9 = .ok (.iload_n 2, 1) := by decide +kernel
theorem dX12_sum_10 : decode cX12_sum 10 = .ok (.invokevirtual 223, 3) := by decide +kernel
theorem dX12_sum_13 : decode cX12_sum 13 = .ok (.ifCond .ne 6, 3) := by decide +kernel
theorem dX12_sum_16 : decode cX12_sum 16 = .ok (.ldc 252, 2) := by decide +kernel
theorem dX12_sum_18 : decode cX12_sum 18 = .ok (.ireturn, 1) := by decide +kernel
theorem dX12_sum_19 : decode cX12_sum 19 = .ok (.aload_n 0, 1) := by decide +kernel
theorem dX12_sum_20 : decode cX12_sum 20 = .ok (.iload_n 1, 1) := by decide +kernel
theorem dX12_sum_21 : decode cX12_sum 21 = .ok (.invokevirtual 59, 3) := by decide +kernel
theorem dX12_sum_24 : decode cX12_sum 24 = .ok (.aload_n 0, 1) := by decide +kernel
theorem dX12_sum_25 : decode cX12_sum 25 = .ok (.iload_n 2, 1) := by decide +kernel
theorem dX12_sum_26 : decode cX12_sum 26 = .ok (.invokevirtual 59, 3) := by decide +kernel
theorem dX12_sum_29 : decode cX12_sum 29 = .ok (.iadd, 1) := by decide +kernel
theorem dX12_sum_30 : decode cX12_sum 30 = .ok (.bipush 8, 2) := by decide +kernel
theorem dX12_sum_32 : decode cX12_sum 32 = .ok (.if_icmp .gt 14, 3) := by decide +kernel
theorem dX12_sum_35 : decode cX12_sum 35 = .ok (.aload_n 0, 1) := by decide +kernel
theorem dX12_sum_36 : decode cX12_sum 36 = .ok (.getfield 7, 3) := by decide +kernel
theorem dX12_sum_39 : decode cX12_sum 39 = .ok (.iconst 0, 1) := by decide +kernel
theorem dX12_sum_40 : decode cX12_sum 40 = .ok (.iaload, 1) := by decide +kernel
theorem dX12_sum_41 : decode cX12_sum 41 = .ok (.bipush 6, 2) := by decide +kernel
theorem dX12_sum_43 : decode cX12_sum 43 = .ok (.if_icmp .ne 6, 3) := by decide +kernel
theorem dX12_sum_46 : decode cX12_sum 46 = .ok (.ldc 82, 2) := by decide +kernel
theorem dX12_sum_48 : decode cX12_sum 48 = .ok (.ireturn, 1) := by decide +kernel
theorem dX12_sum_49 : decode cX12_sum 49 = .ok (.aload_n 0, 1) := by decide +kernel
theorem dX12_sum_50 : decode cX12_sum 50 = .ok (.invokevirtual 93, 3) := by decide +kernel
theorem dX12_sum_53 : decode cX12_sum 53 = .ok (.aload_n 0, 1) := by decide +kernel
theorem dX12_sum_54 : decode cX12_sum 54 = .ok (.iconst 0, 1) := by decide +kernel
theorem dX12_sum_55 : decode cX12_sum 55 = .ok (.putfield 67, 3) := by decide +kernel
theorem dX12_sum_58 : decode cX12_sum 58 = .ok (.iconst 0, 1) := by decide +kernel
theorem dX12_sum_59 : decode cX12_sum 59 = .ok (.istore_n 3, 1) := by decide +kernel
theorem dX12_sum_60 : decode cX12_sum 60 = .ok (.iload_n 3, 1) := by decide +kernel
theorem dX12_sum_61 : decode cX12_sum 61 = .ok (.iconst 2, 1) := by decide +kernel
theorem dX12_sum_62 : decode cX12_sum 62 = .ok (.aload_n 0, 1) := by decide +kernel
theorem dX12_sum_63 : decode cX12_sum 63 = .ok (.iload_n 1, 1) := by decide +kernel
theorem dX12_sum_64 : decode cX12_sum 64 = .ok (.invokevirtual 59, 3) := by decide +kernel
theorem dX12_sum_67 : decode cX12_sum 67 = .ok (.imul, 1) := by decide +kernel
theorem dX12_sum_68 : decode cX12_sum 68 = .ok (.if_icmp .ge 19, 3) := by decide +kernel
theorem dX12_sum_71 : decode cX12_sum 71 = .ok (.aload_n 0, 1) := by decide +kernel
theorem dX12_sum_72 : decode cX12_sum 72 = .ok (.aload_n 0, 1) := by decide +kernel
theorem dX12_sum_73 : decode cX12_sum 73 = .ok (.iload_n 1, 1) := by decide +kernel
theorem dX12_sum_74 : decode cX12_sum 74 = .ok (.iload_n 3, 1) := by decide +kernel
theorem dX12_sum_75 : decode cX12_sum 75 = .ok (.invokevirtual 63, 3) := by decide +kernel
theorem dX12_sum_78 : decode cX12_sum 78 = .ok (.invokevirtual 96, 3) := by decide +kernel
theorem dX12_sum_81 : decode cX12_sum 81 = .ok (.iinc 3 1, 3) := by decide +kernel
theorem dX12_sum_84 : decode cX12_sum 84 = .ok (.goto (-24), 3) := by decide +kernel
theorem dX12_sum_87 : decode cX12_sum 87 = .ok (.iconst 0, 1) := by decide +kernel
theorem dX12_sum_88 : decode cX12_sum 88 = .ok (.istore_n 3, 1) := by decide +kernel
theorem dX12_sum_89 : decode cX12_sum 89 = .ok (.iload_n 3, 1) := by decide +kernel
theorem dX12_sum_90 : decode cX12_sum 90 = .ok (.iconst 2, 1) := by decide +kernel
theorem dX12_sum_91 : decode cX12_sum 91 = .ok (.aload_n 0, 1) := by decide +kernel
theorem dX12_sum_92 : decode cX12_sum 92 = .ok (.iload_n 2, 1) := by decide +kernel
theorem dX12_sum_93 : decode cX12_sum 93 = .ok (.invokevirtual 59, 3) := by decide +kernel
theorem dX12_sum_96 : decode cX12_sum 96 = .ok (.imul, 1) := by decide +kernel
theorem dX12_sum_97 : decode cX12_sum 97 = .ok (.if_icmp .ge 22, 3) := by decide +kernel
theorem dX12_sum_100 : decode cX12_sum 100 = .ok (.aload_n 0, 1) := by decide +kernel
theorem dX12_sum_101 : decode cX12_sum 101 = .ok (.bipush 20, 2) := by decide +kernel
theorem dX12_sum_103 : decode cX12_sum 103 = .ok (.aload_n 0, 1) := by decide +kernel
theorem dX12_sum_104 : decode cX12_sum 104 = .ok (.iload_n 2, 1) := by decide +kernel
theorem dX12_sum_105 : decode cX12_sum 105 = .ok (.iload_n 3, 1) := by decide +kernel
theorem dX12_sum_106 : decode cX12_sum 106 = .ok (.invokevirtual 63, 3) := by decide +kernel
theorem dX12_sum_109 : decode cX12_sum 109 = .ok (.iadd, 1) := by decide +kernel
theorem dX12_sum_110 : decode cX12_sum 110 = .ok (.invokevirtual 96, 3) := by decide +kernel
theorem dX12_sum_113 : decode cX12_sum 113 = .ok (.iinc 3 1, 3) := by decide +kernel
theorem dX12_sum_116 : decode cX12_sum 116 = .ok (.goto (-27), 3) := by decide +kernel
theorem dX12_sum_119 : decode cX12_sum 119 = .ok (.aload_n 0, 1) := by decide +kernel
theorem dX12_sum_120 : decode cX12_sum 120 = .ok (.invokevirtual 100, 3) := by decide +kernel
theorem dX12_sum_123 : decode cX12_sum 123 = .ok (.ireturn, 1) := by decide +kernel
theorem dX12_take_0 : decode cX12_take 0 = .ok (.aload_n 0, 1) := by decide +kernel
theorem dX12_take_1 : decode cX12_take 1 = .ok (.iload_n 1, 1) := by decide +kernel
theorem dX12_take_2 : decode cX12_take 2 = .ok (.invokevirtual 223, 3) := by decide +kernel
theorem dX12_take_5 : decode cX12_take 5 = .ok (.ifCond .ne 6, 3) := by decide +kernel
theorem dX12_take_8 : decode cX12_take 8 = .ok (.ldc 252, 2) := by decide +kernel
theorem dX12_take_10 : decode cX12_take 10 = .ok (.ireturn, 1) := by decide +kernel
theorem dX12_take_11 : decode cX12_take 11 = .ok (.aload_n 0, 1) := by decide +kernel
theorem dX12_take_12 : decode cX12_take 12 = .ok (.invokevirtual 93, 3) := by decide +kernel
theorem dX12_take_15 : decode cX12_take 15 = .ok (.aload_n 0, 1) := by decide +kernel
theorem dX12_take_16 : decode cX12_take 16 = .ok (.getfield 7, 3) := by decide +kernel
theorem dX12_take_19 : decode cX12_take 19 = .ok (.iconst 0, 1) := by decide +kernel
theorem dX12_take_20 : decode cX12_take 20 = .ok (.dup2, 1) := by decide +kernel
theorem dX12_take_21 : decode cX12_take 21 = .ok (.iaload, 1) := by decide +kernel
theorem dX12_take_22 : decode cX12_take 22 = .ok (.iconst 1, 1) := by decide +kernel
theorem dX12_take_23 : decode cX12_take 23 = .ok (.isub, 1) := by decide +kernel
theorem dX12_take_24 : decode cX12_take 24 = .ok (.iastore, 1) := by decide +kernel
theorem dX12_take_25 : decode cX12_take 25 = .ok (.bipush 18, 2) := by decide +kernel
theorem dX12_take_27 : decode cX12_take 27 = .ok (.iload_n 1, 1) := by decide +kernel
theorem dX12_take_28 : decode cX12_take 28 = .ok (.imul, 1) := by decide +kernel
theorem dX12_take_29 : decode cX12_take 29 = .ok (.istore_n 2, 1) := by decide +kernel
theorem dX12_take_30 : decode cX12_take 30 = .ok (.iload_n 2, 1) := by decide +kernel
theorem dX12_take_31 : decode cX12_take 31 = .ok (.bipush 18, 2) := by decide +kernel
theorem dX12_take_33 : decode cX12_take 33 = .ok (.aload_n 0, 1) := by decide +kernel
theorem dX12_take_34 : decode cX12_take 34 = .ok (.getfield 7, 3) := by decide +kernel
theorem dX12_take_37 : decode cX12_take 37 = .ok (.iconst 0, 1) := by decide +kernel
theorem dX12_take_38 : decode cX12_take 38 = .ok (.iaload, 1) := by decide +kernel
theorem dX12_take_39 : decode cX12_take 39 = .ok (.imul, 1) := by decide +kernel
theorem dX12_take_40 : decode cX12_take 40 = .ok (.if_icmp .ge 26, 3) := by decide +kernel
theorem dX12_take_43 : decode cX12_take 43 = .ok (.aload_n 0, 1) := by decide +kernel
theorem dX12_take_44 : decode cX12_take 44 = .ok (.getfield 7, 3) := by decide +kernel
theorem dX12_take_47 : decode cX12_take 47 = .ok (.iconst 1, 1) := by decide +kernel
theorem dX12_take_48 : decode cX12_take 48 = .ok (.iload_n 2, 1) := by decide +kernel
theorem dX12_take_49 : decode cX12_take 49 = .ok (.iadd, 1) := by decide +kernel
theorem dX12_take_50 : decode cX12_take 50 = .ok (.aload_n 0, 1) := by decide +kernel
theorem dX12_take_51 : decode cX12_take 51 = .ok (.getfield 7, 3) := by decide +kernel
theorem dX12_take_54 : decode cX12_take 54 = .ok (.bipush 19, 2) := by decide +kernel
theorem dX12_take_56 : decode cX12_take 56 = .ok (.iload_n 2, 1) := by decide +kernel
theorem dX12_take_57 : decode cX12_take 57 = .ok (.iadd, 1) := by decide +kernel
theorem dX12_take_58 : decode cX12_take 58 = .ok (.iaload, 1) := by decide +kernel
theorem dX12_take_59 : decode cX12_take 59 = .ok (.iastore, 1) := by decide +kernel
theorem dX12_take_60 : decode cX12_take 60 = .ok (.iinc 2 1, 3) := by decide +kernel
theorem dX12_take_63 : decode cX12_take 63 = .ok (.goto (-33), 3) := by decide +kernel
theorem dX12_take_66 : decode cX12_take 66 = .ok (.aload_n 0, 1) := by decide +kernel
theorem dX12_take_67 : decode cX12_take 67 = .ok (.getfield 7, 3) := by decide +kernel
theorem dX12_take_70 : decode cX12_take 70 = .ok (.iconst 0, 1) := by decide +kernel
theorem dX12_take_71 : decode cX12_take 71 = .ok (.iaload, 1) := by decide +kernel
theorem dX12_take_72 : decode cX12_take 72 = .ok (.ireturn, 1) := by decide +kernel
theorem dX12_draws_0 : decode cX12_draws 0 = .ok (.aload_n 0, 1) := by decide +kernel
theorem dX12_draws_1 : decode cX12_draws 1 = .ok (.aload_n 0, 1) := by decide +kernel
theorem dX12_draws_2 : decode cX12_draws 2 = .ok (.getfield 236, 3) := by decide +kernel
theorem dX12_draws_5 : decode cX12_draws 5 = .ok (.i2l, 1) := by decide +kernel
theorem dX12_draws_6 : decode cX12_draws 6 = .ok (.ldc2_w 299, 3) := by decide +kernel
theorem dX12_draws_9 : decode cX12_draws 9 = .ok (.lmul, 1) := by decide +kernel
theorem dX12_draws_10 : decode cX12_draws 10 = .ok (.ldc2_w 301, 3) := by decide +kernel
theorem dX12_draws_13 : decode cX12_draws 13 = .ok (.ladd, 1) := by decide +kernel
theorem dX12_draws_14 : decode cX12_draws 14 = .ok (.ldc2_w 303, 3) := by decide +kernel
theorem dX12_draws_17 : decode cX12_draws 17 = .ok (.lrem, 1) := by decide +kernel
theorem dX12_draws_18 : decode cX12_draws 18 = .ok (.l2i, 1) := by decide +kernel
theorem dX12_draws_19 : decode cX12_draws 19 = .ok (.putfield 236, 3) := by decide +kernel
theorem dX12_draws_22 : decode cX12_draws 22 = .ok (.aload_n 0, 1) := by decide +kernel
theorem dX12_draws_23 : decode cX12_draws 23 = .ok (.getfield 236, 3) := by decide +kernel
theorem dX12_draws_26 : decode cX12_draws 26 = .ok (.ldc_w 305, 3) := by decide +kernel
theorem dX12_draws_29 : decode cX12_draws 29 = .ok (.idiv, 1) := by decide +kernel
theorem dX12_draws_30 : decode cX12_draws 30 = .ok (.iload_n 1, 1) := by decide +kernel
theorem dX12_draws_31 : decode cX12_draws 31 = .ok (.irem, 1) := by decide +kernel
theorem dX12_draws_32 : decode cX12_draws 32 = .ok (.ireturn, 1) := by decide +kernel
theorem dX12_drawsRow_0 : decode cX12_drawsRow 0 = .ok (.iconst 2, 1) := by decide +kernel
theorem dX12_drawsRow_1 : decode cX12_drawsRow 1 = .ok (.aload_n 0, 1) := by decide +kernel
theorem dX12_drawsRow_2 : decode cX12_drawsRow 2 = .ok (.bipush 7, 2) := by decide +kernel
theorem dX12_drawsRow_4 : decode cX12_drawsRow 4 = .ok (.invokevirtual 306, 3) := by decide +kernel
theorem dX12_drawsRow_7 : decode cX12_drawsRow 7 = .ok (.iconst 2, 1) := by decide +kernel
theorem dX12_drawsRow_8 : decode cX12_drawsRow 8 = .ok (.iadd, 1) := by decide +kernel
theorem dX12_drawsRow_9 : decode cX12_drawsRow 9 = .ok (.imul, 1) := by decide +kernel
theorem dX12_drawsRow_10 : decode cX12_drawsRow 10 = .ok (.istore_n 1, 1) := by decide +kernel
theorem dX12_drawsRow_11 : decode cX12_drawsRow 11 = .ok (.iconst 0, 1) := by decide +kernel
theorem dX12_drawsRow_12 : decode cX12_drawsRow 12 = .ok (.istore_n 2, 1) := by decide +kernel
theorem dX12_drawsRow_13 : decode cX12_drawsRow 13 = .ok (.iload_n 2, 1) := by decide +kernel
theorem dX12_drawsRow_14 : decode cX12_drawsRow 14 = .ok (.iload_n 1, 1) := by decide +kernel
theorem dX12_drawsRow_15 : decode cX12_drawsRow 15 = .ok (.if_icmp .ge 16, 3) := by decide +kernel
theorem dX12_drawsRow_18 : decode cX12_drawsRow 18 = .ok (.aload_n 0, 1) := by decide +kernel
theorem dX12_drawsRow_19 : decode cX12_drawsRow 19 = .ok (.getfield 33, 3) := by decide +kernel
theorem dX12_drawsRow_22 : decode cX12_drawsRow 22 = .ok (.iload_n 2, 1) := by decide +kernel
theorem dX12_drawsRow_23 : decode cX12_drawsRow 23 = .ok (.iconst (-1), 1) := by decide +kernel
theorem dX12_drawsRow_24 : decode cX12_drawsRow 24 = .ok (.iastore, 1) := by decide +kernel
theorem dX12_drawsRow_25 : decode cX12_drawsRow 25 = .ok (.iinc 2 1, 3) := by decide +kernel
theorem dX12_drawsRow_28 : decode cX12_drawsRow 28 = .ok (.goto (-15), 3) := by decide +kernel
theorem dX12_drawsRow_31 : decode cX12_drawsRow 31 = .ok (.iconst 0, 1) := by decide +kernel
theorem dX12_drawsRow_32 : decode cX12_drawsRow 32 = .ok (.istore_n 2, 1) := by decide +kernel
theorem dX12_drawsRow_33 : decode cX12_drawsRow 33 = .ok (.iload_n 2, 1) := by decide +kernel
theorem dX12_drawsRow_34 : decode cX12_drawsRow 34 = .ok (.iload_n 1, 1) := by decide +kernel
theorem dX12_drawsRow_35 : decode cX12_drawsRow 35 = .ok (.if_icmp .ge 70, 3) := by decide +kernel
theorem dX12_drawsRow_38 : decode cX12_drawsRow 38 = .ok (.aload_n 0, 1) := by decide +kernel
theorem dX12_drawsRow_39 : decode cX12_drawsRow 39 = .ok (.iload_n 1, 1) := by decide +kernel
theorem dX12_drawsRow_40 : decode cX12_drawsRow 40 = .ok (.iload_n 2, 1) := by decide +kernel
theorem dX12_drawsRow_41 : decode cX12_drawsRow 41 = .ok (.isub, 1) := by decide +kernel
theorem dX12_drawsRow_42 : decode cX12_drawsRow 42 = .ok (.invokevirtual 306, 3) := by decide +kernel
theorem dX12_drawsRow_45 : decode cX12_drawsRow 45 = .ok (.istore_n 3, 1) := by decide +kernel
theorem dX12_drawsRow_46 : decode cX12_drawsRow 46 = .ok (.iconst 0, 1) := by decide +kernel
theorem dX12_drawsRow_47 : decode cX12_drawsRow 47 = .ok (.istore 4, 2) := by decide +kernel
theorem dX12_drawsRow_49 : decode cX12_drawsRow 49 = .ok (.aload_n 0, 1) := by decide +kernel
theorem dX12_drawsRow_50 : decode cX12_drawsRow 50 = .ok (.getfield 33, 3) := by decide +kernel
theorem dX12_drawsRow_53 : decode cX12_drawsRow 53 = .ok (.iload 4, 2) := by decide +kernel
theorem dX12_drawsRow_55 : decode cX12_drawsRow 55 = .ok (.iaload, 1) := by decide +kernel
theorem dX12_drawsRow_56 : decode cX12_drawsRow 56 = .ok (.iconst (-1), 1) := by decide +kernel
theorem dX12_drawsRow_57 : decode cX12_drawsRow 57 = .ok (.if_icmp .ne 7, 3) := by decide +kernel
theorem dX12_drawsRow_60 : decode cX12_drawsRow 60 = .ok (.iload_n 3, 1) := by decide +kernel
theorem dX12_drawsRow_61 : decode cX12_drawsRow 61 = .ok (.ifCond .le 28, 3) := by decide +kernel
theorem dX12_drawsRow_64 : decode cX12_drawsRow 64 = .ok (.iload_n 3, 1) := by decide +kernel
theorem dX12_drawsRow_65 : decode cX12_drawsRow 65 = .ok (.aload_n 0, 1) := by decide +kernel
theorem dX12_drawsRow_66 : decode cX12_drawsRow 66 = .ok (.getfield 33, 3) := by decide +kernel
theorem dX12_drawsRow_69 : decode cX12_drawsRow 69 = .ok (.iload 4, 2) := by decide +kernel
theorem dX12_drawsRow_71 : decode cX12_drawsRow 71 = .ok (.iaload, 1) := by decide +kernel
theorem dX12_drawsRow_72 : decode cX12_drawsRow 72 = .ok (.iconst (-1), 1) := by decide +kernel
theorem dX12_drawsRow_73 : decode cX12_drawsRow 73 = .ok (.if_icmp .ne 7, 3) := by decide +kernel
theorem dX12_drawsRow_76 : decode cX12_drawsRow 76 = .ok (.iconst 1, 1) := by decide +kernel
theorem dX12_drawsRow_77 : decode cX12_drawsRow 77 = .ok (.goto 4, 3) := by decide +kernel
theorem dX12_drawsRow_80 : decode cX12_drawsRow 80 = .ok (.iconst 0, 1) := by decide +kernel
theorem dX12_drawsRow_81 : decode cX12_drawsRow 81 = .ok (.isub, 1) := by decide +kernel
theorem dX12_drawsRow_82 : decode cX12_drawsRow 82 = .ok (.istore_n 3, 1) := by decide +kernel
theorem dX12_drawsRow_83 : decode cX12_drawsRow 83 = .ok (.iinc 4 1, 3) := by decide +kernel
theorem dX12_drawsRow_86 : decode cX12_drawsRow 86 = .ok (.goto (-37), 3) := by decide +kernel
theorem dX12_drawsRow_89 : decode cX12_drawsRow 89 = .ok (.aload_n 0, 1) := by decide +kernel
theorem dX12_drawsRow_90 : decode cX12_drawsRow 90 = .ok (.getfield 33, 3) := by decide +kernel
theorem dX12_drawsRow_93 : decode cX12_drawsRow 93 = .ok (.iload 4, 2) := by decide +kernel
theorem dX12_drawsRow_95 : decode cX12_drawsRow 95 = .ok (.iload_n 2, 1) := by decide +kernel
theorem dX12_drawsRow_96 : decode cX12_drawsRow 96 = .ok (.iconst 2, 1) := by decide +kernel
theorem dX12_drawsRow_97 : decode cX12_drawsRow 97 = .ok (.idiv, 1) := by decide +kernel
theorem dX12_drawsRow_98 : decode cX12_drawsRow 98 = .ok (.iastore, 1) := by decide +kernel
theorem dX12_drawsRow_99 : decode cX12_drawsRow 99 = .ok (.iinc 2 1, 3) := by decide +kernel
theorem dX12_drawsRow_102 : decode cX12_drawsRow 102 = .ok (.goto (-69), 3) := by decide +kernel
theorem dX12_drawsRow_105 : decode cX12_drawsRow 105 = .ok (.aload_n 0, 1) := by decide +kernel
theorem dX12_drawsRow_106 : decode cX12_drawsRow 106 = .ok (.iload_n 1, 1) := by decide +kernel
theorem dX12_drawsRow_107 : decode cX12_drawsRow 107 = .ok (.putfield 67, 3) := by decide +kernel
theorem dX12_drawsRow_110 : decode cX12_drawsRow 110 = .ok (.return_, 1) := by decide +kernel
theorem dX12_drift_0 : decode cX12_drift 0 = .ok (.iload_n 1, 1) := by decide +kernel
theorem dX12_drift_1 : decode cX12_drift 1 = .ok (.i2l, 1) := by decide +kernel
theorem dX12_drift_2 : decode cX12_drift 2 = .ok (.lconst 1, 1) := by decide +kernel
theorem dX12_drift_3 : decode cX12_drift 3 = .ok (.ldc2_w 309, 3) := by decide +kernel
theorem dX12_drift_6 : decode cX12_drift 6 = .ok (.invokestatic 55, 3) := by decide +kernel
theorem dX12_drift_9 : decode cX12_drift 9 = .ok (.ifCond .ne 6, 3) := by decide +kernel
theorem dX12_drift_12 : decode cX12_drift 12 = .ok (.ldc 78, 2) := by decide +kernel
theorem dX12_drift_14 : decode cX12_drift 14 = .ok (.ireturn, 1) := by decide +kernel
theorem dX12_drift_15 : decode cX12_drift 15 = .ok (.iconst 0, 1) := by decide +kernel
theorem dX12_drift_16 : decode cX12_drift 16 = .ok (.istore_n 2, 1) := by decide +kernel
theorem dX12_drift_17 : decode cX12_drift 17 = .ok (.iload_n 2, 1) := by decide +kernel
theorem dX12_drift_18 : decode cX12_drift 18 = .ok (.iload_n 1, 1) := by decide +kernel
theorem dX12_drift_19 : decode cX12_drift 19 = .ok (.if_icmp .ge 33, 3) := by decide +kernel
theorem dX12_drift_22 : decode cX12_drift 22 = .ok (.aload_n 0, 1) := by decide +kernel
theorem dX12_drift_23 : decode cX12_drift 23 = .ok (.getfield 7, 3) := by decide +kernel
theorem dX12_drift_26 : decode cX12_drift 26 = .ok (.iconst 0, 1) := by decide +kernel
theorem dX12_drift_27 : decode cX12_drift 27 = .ok (.iaload, 1) := by decide +kernel
theorem dX12_drift_28 : decode cX12_drift 28 = .ok (.bipush 6, 2) := by decide +kernel
theorem dX12_drift_30 : decode cX12_drift 30 = .ok (.if_icmp .ge 22, 3) := by decide +kernel
theorem dX12_drift_33 : decode cX12_drift 33 = .ok (.aload_n 0, 1) := by decide +kernel
theorem dX12_drift_34 : decode cX12_drift 34 = .ok (.invokevirtual 93, 3) := by decide +kernel
theorem dX12_drift_37 : decode cX12_drift 37 = .ok (.aload_n 0, 1) := by decide +kernel
theorem dX12_drift_38 : decode cX12_drift 38 = .ok (.invokevirtual 311, 3) := by decide +kernel
theorem dX12_drift_41 : decode cX12_drift 41 = .ok (.aload_n 0, 1) := by decide +kernel
theorem dX12_drift_42 : decode cX12_drift 42 = .ok (.invokevirtual 100, 3) := by decide +kernel
theorem dX12_drift_45 : decode cX12_drift 45 = .ok (.pop, 1) := by decide +kernel
theorem dX12_drift_46 : decode cX12_drift 46 = .ok (.iinc 2 1, 3) := by decide +kernel
theorem dX12_drift_49 : decode cX12_drift 49 = .ok (.goto (-32), 3) := by decide +kernel
theorem dX12_drift_52 : decode cX12_drift 52 = .ok (.aload_n 0, 1) := by decide +kernel
theorem dX12_drift_53 : decode cX12_drift 53 = .ok (.getfield 7, 3) := by decide +kernel
theorem dX12_drift_56 : decode cX12_drift 56 = .ok (.iconst 0, 1) := by decide +kernel
theorem dX12_drift_57 : decode cX12_drift 57 = .ok (.iaload, 1) := by decide +kernel
theorem dX12_drift_58 : decode cX12_drift 58 = .ok (.ireturn, 1) := by decide +kernel
theorem dX12_undo_0 : decode cX12_undo 0 = .ok (.iload_n 1, 1) := by decide +kernel
theorem dX12_undo_1 : decode cX12_undo 1 = .ok (.i2l, 1) := by decide +kernel
theorem dX12_undo_2 : decode cX12_undo 2 = .ok (.lconst 1, 1) := by decide +kernel
theorem dX12_undo_3 : decode cX12_undo 3 = .ok (.ldc2_w 314, 3) := by decide +kernel
theorem dX12_undo_6 : decode cX12_undo 6 = .ok (.invokestatic 55, 3) := by decide +kernel
theorem dX12_undo_9 : decode cX12_undo 9 = .ok (.ifCond .ne 6, 3) := by decide +kernel
theorem dX12_undo_12 : decode cX12_undo 12 = .ok (.ldc 78, 2) := by decide +kernel
theorem dX12_undo_14 : decode cX12_undo 14 = .ok (.ireturn, 1) := by decide +kernel
theorem dX12_undo_15 : decode cX12_undo 15 = .ok (.iload_n 1, 1) := by decide +kernel
theorem dX12_undo_16 : decode cX12_undo 16 = .ok (.aload_n 0, 1) := by decide +kernel
theorem dX12_undo_17 : decode cX12_undo 17 = .ok (.getfield 48, 3) := by decide +kernel
theorem dX12_undo_20 : decode cX12_undo 20 = .ok (.if_icmp .le 7, 3) := by decide +kernel
theorem dX12_undo_23 : decode cX12_undo 23 = .ok (.ldc_w 289, 3) := by decide +kernel
theorem dX12_undo_26 : decode cX12_undo 26 = .ok (.ireturn, 1) := by decide +kernel
theorem dX12_undo_27 : decode cX12_undo 27 = .ok (.aload_n 0, 1) := by decide +kernel
theorem dX12_undo_28 : decode cX12_undo 28 = .ok (.dup, 1) := by decide +kernel
theorem dX12_undo_29 : decode cX12_undo 29 = .ok (.getfield 48, 3) := by decide +kernel
theorem dX12_undo_32 : decode cX12_undo 32 = .ok (.iload_n 1, 1) := by decide +kernel
theorem dX12_undo_33 : decode cX12_undo 33 = .ok (.isub, 1) := by decide +kernel
theorem dX12_undo_34 : decode cX12_undo 34 = .ok (.putfield 48, 3) := by decide +kernel
theorem dX12_undo_37 : decode cX12_undo 37 = .ok (.aload_n 0, 1) := by decide +kernel
theorem dX12_undo_38 : decode cX12_undo 38 = .ok (.sipush 327, 3) := by decide +kernel
theorem dX12_undo_41 : decode cX12_undo 41 = .ok (.bipush 109, 2) := by decide +kernel
theorem dX12_undo_43 : decode cX12_undo 43 = .ok (.aload_n 0, 1) := by decide +kernel
theorem dX12_undo_44 : decode cX12_undo 44 = .ok (.getfield 48, 3) := by decide +kernel
theorem dX12_undo_47 : decode cX12_undo 47 = .ok (.imul, 1) := by decide +kernel
theorem dX12_undo_48 : decode cX12_undo 48 = .ok (.iadd, 1) := by decide +kernel
theorem dX12_undo_49 : decode cX12_undo 49 = .ok (.iconst 0, 1) := by decide +kernel
theorem dX12_undo_50 : decode cX12_undo 50 = .ok (.invokevirtual 51, 3) := by decide +kernel
theorem dX12_undo_53 : decode cX12_undo 53 = .ok (.aload_n 0, 1) := by decide +kernel
theorem dX12_undo_54 : decode cX12_undo 54 = .ok (.getfield 7, 3) := by decide +kernel
theorem dX12_undo_57 : decode cX12_undo 57 = .ok (.iconst 0, 1) := by decide +kernel
theorem dX12_undo_58 : decode cX12_undo 58 = .ok (.iaload, 1) := by decide +kernel
theorem dX12_undo_59 : decode cX12_undo 59 = .ok (.ireturn, 1) := by decide +kernel
theorem dX12_write_0 : decode cX12_write 0 = .ok (.aload_n 0, 1) := by decide +kernel
theorem dX12_write_1 : decode cX12_write 1 = .ok (.iload_n 1, 1) := by decide +kernel
theorem dX12_write_2 : decode cX12_write 2 = .ok (.invokevirtual 223, 3) := by decide +kernel
theorem dX12_write_5 : decode cX12_write 5 = .ok (.ifCond .ne 6, 3) := by decide +kernel
theorem dX12_write_8 : decode cX12_write 8 = .ok (.ldc 252, 2) := by decide +kernel
theorem dX12_write_10 : decode cX12_write 10 = .ok (.ireturn, 1) := by decide +kernel
theorem dX12_write_11 : decode cX12_write 11 = .ok (.aload_n 0, 1) := by decide +kernel
theorem dX12_write_12 : decode cX12_write 12 = .ok (.getfield 220, 3) := by decide +kernel
theorem dX12_write_15 : decode cX12_write 15 = .ok (.bipush 20, 2) := by decide +kernel
theorem dX12_write_17 : decode cX12_write 17 = .ok (.if_icmp .ne 6, 3) := by decide +kernel
theorem dX12_write_20 : decode cX12_write 20 = .ok (.ldc 82, 2) := by decide +kernel
theorem dX12_write_22 : decode cX12_write 22 = .ok (.ireturn, 1) := by decide +kernel
theorem dX12_write_23 : decode cX12_write 23 = .ok (.aload_n 0, 1) := by decide +kernel
theorem dX12_write_24 : decode cX12_write 24 = .ok (.getfield 27, 3) := by decide +kernel
theorem dX12_write_27 : decode cX12_write 27 = .ok (.aload_n 0, 1) := by decide +kernel
theorem dX12_write_28 : decode cX12_write 28 = .ok (.getfield 220, 3) := by decide +kernel
theorem dX12_write_31 : decode cX12_write 31 = .ok (.iload_n 1, 1) := by decide +kernel
theorem dX12_write_32 : decode cX12_write 32 = .ok (.iastore, 1) := by decide +kernel
theorem dX12_write_33 : decode cX12_write 33 = .ok (.aload_n 0, 1) := by decide +kernel
theorem dX12_write_34 : decode cX12_write 34 = .ok (.getfield 30, 3) := by decide +kernel
theorem dX12_write_37 : decode cX12_write 37 = .ok (.aload_n 0, 1) := by decide +kernel
theorem dX12_write_38 : decode cX12_write 38 = .ok (.getfield 220, 3) := by decide +kernel
theorem dX12_write_41 : decode cX12_write 41 = .ok (.iload_n 2, 1) := by decide +kernel
theorem dX12_write_42 : decode cX12_write 42 = .ok (.iastore, 1) := by decide +kernel
theorem dX12_write_43 : decode cX12_write 43 = .ok (.aload_n 0, 1) := by decide +kernel
theorem dX12_write_44 : decode cX12_write 44 = .ok (.dup, 1) := by decide +kernel
theorem dX12_write_45 : decode cX12_write 45 = .ok (.getfield 220, 3) := by decide +kernel
theorem dX12_write_48 : decode cX12_write 48 = .ok (.iconst 1, 1) := by decide +kernel
theorem dX12_write_49 : decode cX12_write 49 = .ok (.iadd, 1) := by decide +kernel
theorem dX12_write_50 : decode cX12_write 50 = .ok (.putfield 220, 3) := by decide +kernel
theorem dX12_write_53 : decode cX12_write 53 = .ok (.aload_n 0, 1) := by decide +kernel
theorem dX12_write_54 : decode cX12_write 54 = .ok (.getfield 220, 3) := by decide +kernel
theorem dX12_write_57 : decode cX12_write 57 = .ok (.ireturn, 1) := by decide +kernel
theorem dX12_tear_0 : decode cX12_tear 0 = .ok (.aload_n 0, 1) := by decide +kernel
theorem dX12_tear_1 : decode cX12_tear 1 = .ok (.getfield 220, 3) := by decide +kernel
theorem dX12_tear_4 : decode cX12_tear 4 = .ok (.istore_n 1, 1) := by decide +kernel
theorem dX12_tear_5 : decode cX12_tear 5 = .ok (.aload_n 0, 1) := by decide +kernel
theorem dX12_tear_6 : decode cX12_tear 6 = .ok (.iconst 0, 1) := by decide +kernel
theorem dX12_tear_7 : decode cX12_tear 7 = .ok (.putfield 220, 3) := by decide +kernel
theorem dX12_tear_10 : decode cX12_tear 10 = .ok (.iload_n 1, 1) := by decide +kernel
theorem dX12_tear_11 : decode cX12_tear 11 = .ok (.ireturn, 1) := by decide +kernel
theorem dX12_seed_0 : decode cX12_seed 0 = .ok (.iload_n 1, 1) := by decide +kernel
theorem dX12_seed_1 : decode cX12_seed 1 = .ok (.ifCond .ge 6, 3) := by decide +kernel
theorem dX12_seed_4 : decode cX12_seed 4 = .ok (.ldc 78, 2) := by decide +kernel
theorem dX12_seed_6 : decode cX12_seed 6 = .ok (.ireturn, 1) := by decide +kernel
theorem dX12_seed_7 : decode cX12_seed 7 = .ok (.aload_n 0, 1) := by decide +kernel
theorem dX12_seed_8 : decode cX12_seed 8 = .ok (.getfield 236, 3) := by decide +kernel
theorem dX12_seed_11 : decode cX12_seed 11 = .ok (.istore_n 2, 1) := by decide +kernel
theorem dX12_seed_12 : decode cX12_seed 12 = .ok (.aload_n 0, 1) := by decide +kernel
theorem dX12_seed_13 : decode cX12_seed 13 = .ok (.iload_n 1, 1) := by decide +kernel
theorem dX12_seed_14 : decode cX12_seed 14 = .ok (.putfield 236, 3) := by decide +kernel
theorem dX12_seed_17 : decode cX12_seed 17 = .ok (.iload_n 2, 1) := by decide +kernel
theorem dX12_seed_18 : decode cX12_seed 18 = .ok (.ireturn, 1) := by decide +kernel
theorem dX12_keep_0 : decode cX12_keep 0 = .ok (.iload_n 1, 1) := by decide +kernel
theorem dX12_keep_1 : decode cX12_keep 1 = .ok (.i2l, 1) := by decide +kernel
theorem dX12_keep_2 : decode cX12_keep 2 = .ok (.lconst 0, 1) := by decide +kernel
theorem dX12_keep_3 : decode cX12_keep 3 = .ok (.lconst 1, 1) := by decide +kernel
theorem dX12_keep_4 : decode cX12_keep 4 = .ok (.invokestatic 55, 3) := by decide +kernel
theorem dX12_keep_7 : decode cX12_keep 7 = .ok (.ifCond .ne 6, 3) := by decide +kernel
theorem dX12_keep_10 : decode cX12_keep 10 = .ok (.ldc 252, 2) := by decide +kernel
theorem dX12_keep_12 : decode cX12_keep 12 = .ok (.ireturn, 1) := by decide +kernel
theorem dX12_keep_13 : decode cX12_keep 13 = .ok (.aload_n 0, 1) := by decide +kernel
theorem dX12_keep_14 : decode cX12_keep 14 = .ok (.iconst 0, 1) := by decide +kernel
theorem dX12_keep_15 : decode cX12_keep 15 = .ok (.bipush 109, 2) := by decide +kernel
theorem dX12_keep_17 : decode cX12_keep 17 = .ok (.bipush 109, 2) := by decide +kernel
theorem dX12_keep_19 : decode cX12_keep 19 = .ok (.iload_n 1, 1) := by decide +kernel
theorem dX12_keep_20 : decode cX12_keep 20 = .ok (.imul, 1) := by decide +kernel
theorem dX12_keep_21 : decode cX12_keep 21 = .ok (.iadd, 1) := by decide +kernel
theorem dX12_keep_22 : decode cX12_keep 22 = .ok (.invokevirtual 51, 3) := by decide +kernel
theorem dX12_keep_25 : decode cX12_keep 25 = .ok (.aload_n 0, 1) := by decide +kernel
theorem dX12_keep_26 : decode cX12_keep 26 = .ok (.getfield 13, 3) := by decide +kernel
theorem dX12_keep_29 : decode cX12_keep 29 = .ok (.iload_n 1, 1) := by decide +kernel
theorem dX12_keep_30 : decode cX12_keep 30 = .ok (.aload_n 0, 1) := by decide +kernel
theorem dX12_keep_31 : decode cX12_keep 31 = .ok (.getfield 236, 3) := by decide +kernel
theorem dX12_keep_34 : decode cX12_keep 34 = .ok (.iastore, 1) := by decide +kernel
theorem dX12_keep_35 : decode cX12_keep 35 = .ok (.aload_n 0, 1) := by decide +kernel
theorem dX12_keep_36 : decode cX12_keep 36 = .ok (.getfield 16, 3) := by decide +kernel
theorem dX12_keep_39 : decode cX12_keep 39 = .ok (.iload_n 1, 1) := by decide +kernel
theorem dX12_keep_40 : decode cX12_keep 40 = .ok (.iconst 1, 1) := by decide +kernel
theorem dX12_keep_41 : decode cX12_keep 41 = .ok (.bastore, 1) := by decide +kernel
theorem dX12_keep_42 : decode cX12_keep 42 = .ok (.aload_n 0, 1) := by decide +kernel
theorem dX12_keep_43 : decode cX12_keep 43 = .ok (.iconst 0, 1) := by decide +kernel
theorem dX12_keep_44 : decode cX12_keep 44 = .ok (.putfield 48, 3) := by decide +kernel
theorem dX12_keep_47 : decode cX12_keep 47 = .ok (.iconst 1, 1) := by decide +kernel
theorem dX12_keep_48 : decode cX12_keep 48 = .ok (.ireturn, 1) := by decide +kernel
theorem dX12_goBack_0 : decode cX12_goBack 0 = .ok (.iload_n 1, 1) := by decide +kernel
theorem dX12_goBack_1 : decode cX12_goBack 1 = .ok (.i2l, 1) := by decide +kernel
theorem dX12_goBack_2 : decode cX12_goBack 2 = .ok (.lconst 0, 1) := by decide +kernel
theorem dX12_goBack_3 : decode cX12_goBack 3 = .ok (.lconst 1, 1) := by decide +kernel
theorem dX12_goBack_4 : decode cX12_goBack 4 = .ok (.invokestatic 55, 3) := by decide +kernel
theorem dX12_goBack_7 : decode cX12_goBack 7 = .ok (.ifCond .ne 6, 3) := by decide +kernel
theorem dX12_goBack_10 : decode cX12_goBack 10 = .ok (.ldc 252, 2) := by decide +kernel
theorem dX12_goBack_12 : decode cX12_goBack 12 = .ok (.ireturn, 1) := by decide +kernel
theorem dX12_goBack_13 : decode cX12_goBack 13 = .ok (.aload_n 0, 1) := by decide +kernel
theorem dX12_goBack_14 : decode cX12_goBack 14 = .ok (.getfield 16, 3) := by decide +kernel
theorem dX12_goBack_17 : decode cX12_goBack 17 = .ok (.iload_n 1, 1) := by decide +kernel
theorem dX12_goBack_18 : decode cX12_goBack 18 = .ok (.baload, 1) := by decide +kernel
theorem dX12_goBack_19 : decode cX12_goBack 19 = .ok (.ifCond .ne 7, 3) := by decide +kernel
theorem dX12_goBack_22 : decode cX12_goBack 22 = .ok (.ldc_w 289, 3) := by decide +kernel
theorem dX12_goBack_25 : decode cX12_goBack 25 = .ok (.ireturn, 1) := by decide +kernel
theorem dX12_goBack_26 : decode cX12_goBack 26 = .ok (.aload_n 0, 1) := by decide +kernel
theorem dX12_goBack_27 : decode cX12_goBack 27 = .ok (.bipush 109, 2) := by decide +kernel
theorem dX12_goBack_29 : decode cX12_goBack 29 = .ok (.bipush 109, 2) := by decide +kernel
theorem dX12_goBack_31 : decode cX12_goBack 31 = .ok (.iload_n 1, 1) := by decide +kernel
theorem dX12_goBack_32 : decode cX12_goBack 32 = .ok (.imul, 1) := by decide +kernel
theorem dX12_goBack_33 : decode cX12_goBack 33 = .ok (.iadd, 1) := by decide +kernel
theorem dX12_goBack_34 : decode cX12_goBack 34 = .ok (.iconst 0, 1) := by decide +kernel
theorem dX12_goBack_35 : decode cX12_goBack 35 = .ok (.invokevirtual 51, 3) := by decide +kernel
theorem dX12_goBack_38 : decode cX12_goBack 38 = .ok (.aload_n 0, 1) := by decide +kernel
theorem dX12_goBack_39 : decode cX12_goBack 39 = .ok (.aload_n 0, 1) := by decide +kernel
theorem dX12_goBack_40 : decode cX12_goBack 40 = .ok (.getfield 13, 3) := by decide +kernel
theorem dX12_goBack_43 : decode cX12_goBack 43 = .ok (.iload_n 1, 1) := by decide +kernel
theorem dX12_goBack_44 : decode cX12_goBack 44 = .ok (.iaload, 1) := by decide +kernel
theorem dX12_goBack_45 : decode cX12_goBack 45 = .ok (.putfield 236, 3) := by decide +kernel
theorem dX12_goBack_48 : decode cX12_goBack 48 = .ok (.aload_n 0, 1) := by decide +kernel
theorem dX12_goBack_49 : decode cX12_goBack 49 = .ok (.iconst 0, 1) := by decide +kernel
theorem dX12_goBack_50 : decode cX12_goBack 50 = .ok (.putfield 48, 3) := by decide +kernel
theorem dX12_goBack_53 : decode cX12_goBack 53 = .ok (.iconst 1, 1) := by decide +kernel
theorem dX12_goBack_54 : decode cX12_goBack 54 = .ok (.ireturn, 1) := by decide +kernel
theorem dJ6_bitCount_0f7a4_0 : decode cJ6_bitCount_0f7a4 0 = .ok (.iload_n 0, 1) := by decide +kernel
theorem dJ6_bitCount_0f7a4_1 : decode cJ6_bitCount_0f7a4 1 = .ok (.iload_n 0, 1) := by decide +kernel
theorem dJ6_bitCount_0f7a4_2 : decode cJ6_bitCount_0f7a4 2 = .ok (.iconst 1, 1) := by decide +kernel
theorem dJ6_bitCount_0f7a4_3 : decode cJ6_bitCount_0f7a4 3 = .ok (.iushr, 1) := by decide +kernel
theorem dJ6_bitCount_0f7a4_4 : decode cJ6_bitCount_0f7a4 4 = .ok (.ldc_w 265, 3) := by decide +kernel
theorem dJ6_bitCount_0f7a4_7 : decode cJ6_bitCount_0f7a4 7 = .ok (.iand, 1) := by decide +kernel
theorem dJ6_bitCount_0f7a4_8 : decode cJ6_bitCount_0f7a4 8 = .ok (.isub, 1) := by decide +kernel
theorem dJ6_bitCount_0f7a4_9 : decode cJ6_bitCount_0f7a4 9 = .ok (.istore_n 0, 1) := by decide +kernel
theorem dJ6_bitCount_0f7a4_10 : decode cJ6_bitCount_0f7a4 10 = .ok (.iload_n 0, 1) := by decide +kernel
theorem dJ6_bitCount_0f7a4_11 : decode cJ6_bitCount_0f7a4 11 = .ok (.ldc_w 266, 3) := by decide +kernel
theorem dJ6_bitCount_0f7a4_14 : decode cJ6_bitCount_0f7a4 14 = .ok (.iand, 1) := by decide +kernel
theorem dJ6_bitCount_0f7a4_15 : decode cJ6_bitCount_0f7a4 15 = .ok (.iload_n 0, 1) := by decide +kernel
theorem dJ6_bitCount_0f7a4_16 : decode cJ6_bitCount_0f7a4 16 = .ok (.iconst 2, 1) := by decide +kernel
theorem dJ6_bitCount_0f7a4_17 : decode cJ6_bitCount_0f7a4 17 = .ok (.iushr, 1) := by decide +kernel
theorem dJ6_bitCount_0f7a4_18 : decode cJ6_bitCount_0f7a4 18 = .ok (.ldc_w 266, 3) := by decide +kernel
theorem dJ6_bitCount_0f7a4_21 : decode cJ6_bitCount_0f7a4 21 = .ok (.iand, 1) := by decide +kernel
theorem dJ6_bitCount_0f7a4_22 : decode cJ6_bitCount_0f7a4 22 = .ok (.iadd, 1) := by decide +kernel
theorem dJ6_bitCount_0f7a4_23 : decode cJ6_bitCount_0f7a4 23 = .ok (.istore_n 0, 1) := by decide +kernel
theorem dJ6_bitCount_0f7a4_24 : decode cJ6_bitCount_0f7a4 24 = .ok (.iload_n 0, 1) := by decide +kernel
theorem dJ6_bitCount_0f7a4_25 : decode cJ6_bitCount_0f7a4 25 = .ok (.iload_n 0, 1) := by decide +kernel
theorem dJ6_bitCount_0f7a4_26 : decode cJ6_bitCount_0f7a4 26 = .ok (.iconst 4, 1) := by decide +kernel
theorem dJ6_bitCount_0f7a4_27 : decode cJ6_bitCount_0f7a4 27 = .ok (.iushr, 1) := by decide +kernel
theorem dJ6_bitCount_0f7a4_28 : decode cJ6_bitCount_0f7a4 28 = .ok (.iadd, 1) := by decide +kernel
theorem dJ6_bitCount_0f7a4_29 : decode cJ6_bitCount_0f7a4 29 = .ok (.ldc_w 267, 3) := by decide +kernel
theorem dJ6_bitCount_0f7a4_32 : decode cJ6_bitCount_0f7a4 32 = .ok (.iand, 1) := by decide +kernel
theorem dJ6_bitCount_0f7a4_33 : decode cJ6_bitCount_0f7a4 33 = .ok (.istore_n 0, 1) := by decide +kernel
theorem dJ6_bitCount_0f7a4_34 : decode cJ6_bitCount_0f7a4 34 = .ok (.iload_n 0, 1) := by decide +kernel
theorem dJ6_bitCount_0f7a4_35 : decode cJ6_bitCount_0f7a4 35 = .ok (.iload_n 0, 1) := by decide +kernel
theorem dJ6_bitCount_0f7a4_36 : decode cJ6_bitCount_0f7a4 36 = .ok (.bipush 8, 2) := by decide +kernel
theorem dJ6_bitCount_0f7a4_38 : decode cJ6_bitCount_0f7a4 38 = .ok (.iushr, 1) := by decide +kernel
theorem dJ6_bitCount_0f7a4_39 : decode cJ6_bitCount_0f7a4 39 = .ok (.iadd, 1) := by decide +kernel
theorem dJ6_bitCount_0f7a4_40 : decode cJ6_bitCount_0f7a4 40 = .ok (.istore_n 0, 1) := by decide +kernel
theorem dJ6_bitCount_0f7a4_41 : decode cJ6_bitCount_0f7a4 41 = .ok (.iload_n 0, 1) := by decide +kernel
theorem dJ6_bitCount_0f7a4_42 : decode cJ6_bitCount_0f7a4 42 = .ok (.iload_n 0, 1) := by decide +kernel
theorem dJ6_bitCount_0f7a4_43 : decode cJ6_bitCount_0f7a4 43 = .ok (.bipush 16, 2) := by decide +kernel
theorem dJ6_bitCount_0f7a4_45 : decode cJ6_bitCount_0f7a4 45 = .ok (.iushr, 1) := by decide +kernel
theorem dJ6_bitCount_0f7a4_46 : decode cJ6_bitCount_0f7a4 46 = .ok (.iadd, 1) := by decide +kernel
theorem dJ6_bitCount_0f7a4_47 : decode cJ6_bitCount_0f7a4 47 = .ok (.istore_n 0, 1) := by decide +kernel
theorem dJ6_bitCount_0f7a4_48 : decode cJ6_bitCount_0f7a4 48 = .ok (.iload_n 0, 1) := by decide +kernel
theorem dJ6_bitCount_0f7a4_49 : decode cJ6_bitCount_0f7a4 49 = .ok (.bipush 63, 2) := by decide +kernel
theorem dJ6_bitCount_0f7a4_51 : decode cJ6_bitCount_0f7a4 51 = .ok (.iand, 1) := by decide +kernel
theorem dJ6_bitCount_0f7a4_52 : decode cJ6_bitCount_0f7a4 52 = .ok (.ireturn, 1) := by decide +kernel
theorem dJ9_floorMod_7cf53_0 : decode cJ9_floorMod_7cf53 0 = .ok (.iload_n 0, 1) := by decide +kernel
theorem dJ9_floorMod_7cf53_1 : decode cJ9_floorMod_7cf53 1 = .ok (.iload_n 1, 1) := by decide +kernel
theorem dJ9_floorMod_7cf53_2 : decode cJ9_floorMod_7cf53 2 = .ok (.irem, 1) := by decide +kernel
theorem dJ9_floorMod_7cf53_3 : decode cJ9_floorMod_7cf53 3 = .ok (.istore_n 2, 1) := by decide +kernel
theorem dJ9_floorMod_7cf53_4 : decode cJ9_floorMod_7cf53 4 = .ok (.iload_n 0, 1) := by decide +kernel
theorem dJ9_floorMod_7cf53_5 : decode cJ9_floorMod_7cf53 5 = .ok (.iload_n 1, 1) := by decide +kernel
theorem dJ9_floorMod_7cf53_6 : decode cJ9_floorMod_7cf53 6 = .ok (.ixor, 1) := by decide +kernel
theorem dJ9_floorMod_7cf53_7 : decode cJ9_floorMod_7cf53 7 = .ok (.ifCond .ge 11, 3) := by decide +kernel
theorem dJ9_floorMod_7cf53_10 : decode cJ9_floorMod_7cf53 10 = .ok (.iload_n 2, 1) := by decide +kernel
theorem dJ9_floorMod_7cf53_11 : decode cJ9_floorMod_7cf53 11 = .ok (.ifCond .eq 7, 3) := by decide +kernel
theorem dJ9_floorMod_7cf53_14 : decode cJ9_floorMod_7cf53 14 = .ok (.iload_n 2, 1) := by decide +kernel
theorem dJ9_floorMod_7cf53_15 : decode cJ9_floorMod_7cf53 15 = .ok (.iload_n 1, 1) := by decide +kernel
theorem dJ9_floorMod_7cf53_16 : decode cJ9_floorMod_7cf53 16 = .ok (.iadd, 1) := by decide +kernel
theorem dJ9_floorMod_7cf53_17 : decode cJ9_floorMod_7cf53 17 = .ok (.ireturn, 1) := by decide +kernel
theorem dJ9_floorMod_7cf53_18 : decode cJ9_floorMod_7cf53 18 = .ok (.iload_n 2, 1) := by decide +kernel
theorem dJ9_floorMod_7cf53_19 : decode cJ9_floorMod_7cf53 19 = .ok (.ireturn, 1) := by decide +kernel
theorem dJ9_max_7cf53_0 : decode cJ9_max_7cf53 0 = .ok (.iload_n 0, 1) := by decide +kernel
theorem dJ9_max_7cf53_1 : decode cJ9_max_7cf53 1 = .ok (.iload_n 1, 1) := by decide +kernel
theorem dJ9_max_7cf53_2 : decode cJ9_max_7cf53 2 = .ok (.if_icmp .lt 7, 3) := by decide +kernel
theorem dJ9_max_7cf53_5 : decode cJ9_max_7cf53 5 = .ok (.iload_n 0, 1) := by decide +kernel
theorem dJ9_max_7cf53_6 : decode cJ9_max_7cf53 6 = .ok (.goto 4, 3) := by decide +kernel
theorem dJ9_max_7cf53_9 : decode cJ9_max_7cf53 9 = .ok (.iload_n 1, 1) := by decide +kernel
theorem dJ9_max_7cf53_10 : decode cJ9_max_7cf53 10 = .ok (.ireturn, 1) := by decide +kernel
theorem dJ9_min_7cf53_0 : decode cJ9_min_7cf53 0 = .ok (.iload_n 0, 1) := by decide +kernel
theorem dJ9_min_7cf53_1 : decode cJ9_min_7cf53 1 = .ok (.iload_n 1, 1) := by decide +kernel
theorem dJ9_min_7cf53_2 : decode cJ9_min_7cf53 2 = .ok (.if_icmp .gt 7, 3) := by decide +kernel
theorem dJ9_min_7cf53_5 : decode cJ9_min_7cf53 5 = .ok (.iload_n 0, 1) := by decide +kernel
theorem dJ9_min_7cf53_6 : decode cJ9_min_7cf53 6 = .ok (.goto 4, 3) := by decide +kernel
theorem dJ9_min_7cf53_9 : decode cJ9_min_7cf53 9 = .ok (.iload_n 1, 1) := by decide +kernel
theorem dJ9_min_7cf53_10 : decode cJ9_min_7cf53 10 = .ok (.ireturn, 1) := by decide +kernel
theorem dJ9_min_f86c9_0 : decode cJ9_min_f86c9 0 = .ok (.lload_n 0, 1) := by decide +kernel
theorem dJ9_min_f86c9_1 : decode cJ9_min_f86c9 1 = .ok (.lload_n 2, 1) := by decide +kernel
theorem dJ9_min_f86c9_2 : decode cJ9_min_f86c9 2 = .ok (.lcmp, 1) := by decide +kernel
theorem dJ9_min_f86c9_3 : decode cJ9_min_f86c9 3 = .ok (.ifCond .gt 7, 3) := by decide +kernel
theorem dJ9_min_f86c9_6 : decode cJ9_min_f86c9 6 = .ok (.lload_n 0, 1) := by decide +kernel
theorem dJ9_min_f86c9_7 : decode cJ9_min_f86c9 7 = .ok (.goto 4, 3) := by decide +kernel
theorem dJ9_min_f86c9_10 : decode cJ9_min_f86c9 10 = .ok (.lload_n 2, 1) := by decide +kernel
theorem dJ9_min_f86c9_11 : decode cJ9_min_f86c9 11 = .ok (.lreturn, 1) := by decide +kernel
theorem dL_law_0 : decode cL_law 0 = .ok (.new 7, 3) := by decide +kernel
theorem dL_law_3 : decode cL_law 3 = .ok (.dup, 1) := by decide +kernel
theorem dL_law_4 : decode cL_law 4 = .ok (.invokespecial 9, 3) := by decide +kernel
theorem dL_law_7 : decode cL_law 7 = .ok (.astore_n 1, 1) := by decide +kernel
theorem dL_law_8 : decode cL_law 8 = .ok (.new 10, 3) := by decide +kernel
theorem dL_law_11 : decode cL_law 11 = .ok (.dup, 1) := by decide +kernel
theorem dL_law_12 : decode cL_law 12 = .ok (.invokespecial 12, 3) := by decide +kernel
theorem dL_law_15 : decode cL_law 15 = .ok (.astore_n 2, 1) := by decide +kernel
theorem dL_law_16 : decode cL_law 16 = .ok (.iconst 0, 1) := by decide +kernel
theorem dL_law_17 : decode cL_law 17 = .ok (.istore_n 3, 1) := by decide +kernel
theorem dL_law_18 : decode cL_law 18 = .ok (.iload_n 3, 1) := by decide +kernel
theorem dL_law_19 : decode cL_law 19 = .ok (.aload_n 0, 1) := by decide +kernel
theorem dL_law_20 : decode cL_law 20 = .ok (.arraylength, 1) := by decide +kernel
theorem dL_law_21 : decode cL_law 21 = .ok (.iconst 5, 1) := by decide +kernel
theorem dL_law_22 : decode cL_law 22 = .ok (.isub, 1) := by decide +kernel
theorem dL_law_23 : decode cL_law 23 = .ok (.if_icmp .gt 1078, 3) := by decide +kernel
theorem dL_law_26 : decode cL_law 26 = .ok (.aload_n 0, 1) := by decide +kernel
theorem dL_law_27 : decode cL_law 27 = .ok (.iload_n 3, 1) := by decide +kernel
theorem dL_law_28 : decode cL_law 28 = .ok (.iaload, 1) := by decide +kernel
theorem dL_law_29 : decode cL_law 29 = .ok (.bipush 31, 2) := by decide +kernel
theorem dL_law_31 : decode cL_law 31 = .ok (.iand, 1) := by decide +kernel
theorem dL_law_32 : decode cL_law 32 = .ok (.tableswitch 1063 0 29 #[136, 159, 172, 185, 208, 241, 265, 298, 341, 384, 417, 450, 483, 516, 539, 598, 631, 664, 717, 760, 813, 846, 879, 902, 925, 948, 981, 994, 1017, 1040], 136) := by decide +kernel
theorem dL_law_168 : decode cL_law 168 = .ok (.aload_n 1, 1) := by decide +kernel
theorem dL_law_169 : decode cL_law 169 = .ok (.aload_n 0, 1) := by decide +kernel
theorem dL_law_170 : decode cL_law 170 = .ok (.iload_n 3, 1) := by decide +kernel
theorem dL_law_171 : decode cL_law 171 = .ok (.iconst 1, 1) := by decide +kernel
theorem dL_law_172 : decode cL_law 172 = .ok (.iadd, 1) := by decide +kernel
theorem dL_law_173 : decode cL_law 173 = .ok (.iaload, 1) := by decide +kernel
theorem dL_law_174 : decode cL_law 174 = .ok (.invokevirtual 13, 3) := by decide +kernel
theorem dL_law_177 : decode cL_law 177 = .ok (.aload_n 2, 1) := by decide +kernel
theorem dL_law_178 : decode cL_law 178 = .ok (.aload_n 0, 1) := by decide +kernel
theorem dL_law_179 : decode cL_law 179 = .ok (.iload_n 3, 1) := by decide +kernel
theorem dL_law_180 : decode cL_law 180 = .ok (.iconst 1, 1) := by decide +kernel
theorem dL_law_181 : decode cL_law 181 = .ok (.iadd, 1) := by decide +kernel
theorem dL_law_182 : decode cL_law 182 = .ok (.iaload, 1) := by decide +kernel
theorem dL_law_183 : decode cL_law 183 = .ok (.invokevirtual 17, 3) := by decide +kernel
theorem dL_law_186 : decode cL_law 186 = .ok (.if_icmp .eq 909, 3) := by decide +kernel
theorem dL_law_189 : decode cL_law 189 = .ok (.iconst 0, 1) := by decide +kernel
theorem dL_law_190 : decode cL_law 190 = .ok (.ireturn, 1) := by decide +kernel
theorem dL_law_191 : decode cL_law 191 = .ok (.aload_n 1, 1) := by decide +kernel
theorem dL_law_192 : decode cL_law 192 = .ok (.invokevirtual 18, 3) := by decide +kernel
theorem dL_law_195 : decode cL_law 195 = .ok (.aload_n 2, 1) := by decide +kernel
theorem dL_law_196 : decode cL_law 196 = .ok (.invokevirtual 22, 3) := by decide +kernel
theorem dL_law_199 : decode cL_law 199 = .ok (.if_icmp .eq 896, 3) := by decide +kernel
theorem dL_law_202 : decode cL_law 202 = .ok (.iconst 0, 1) := by decide +kernel
theorem dL_law_203 : decode cL_law 203 = .ok (.ireturn, 1) := by decide +kernel
theorem dL_law_204 : decode cL_law 204 = .ok (.aload_n 1, 1) := by decide +kernel
theorem dL_law_205 : decode cL_law 205 = .ok (.invokevirtual 23, 3) := by decide +kernel
theorem dL_law_208 : decode cL_law 208 = .ok (.aload_n 2, 1) := by decide +kernel
theorem dL_law_209 : decode cL_law 209 = .ok (.invokevirtual 26, 3) := by decide +kernel
theorem dL_law_212 : decode cL_law 212 = .ok (.if_icmp .eq 883, 3) := by decide +kernel
theorem dL_law_215 : decode cL_law 215 = .ok (.iconst 0, 1) := by decide +kernel
theorem dL_law_216 : decode cL_law 216 = .ok (.ireturn, 1) := by decide +kernel
theorem dL_law_217 : decode cL_law 217 = .ok (.aload_n 1, 1) := by decide +kernel
theorem dL_law_218 : decode cL_law 218 = .ok (.aload_n 0, 1) := by decide +kernel
theorem dL_law_219 : decode cL_law 219 = .ok (.iload_n 3, 1) := by decide +kernel
theorem dL_law_220 : decode cL_law 220 = .ok (.iconst 1, 1) := by decide +kernel
theorem dL_law_221 : decode cL_law 221 = .ok (.iadd, 1) := by decide +kernel
theorem dL_law_222 : decode cL_law 222 = .ok (.iaload, 1) := by decide +kernel
theorem dL_law_223 : decode cL_law 223 = .ok (.invokevirtual 27, 3) := by decide +kernel
theorem dL_law_226 : decode cL_law 226 = .ok (.aload_n 2, 1) := by decide +kernel
theorem dL_law_227 : decode cL_law 227 = .ok (.aload_n 0, 1) := by decide +kernel
theorem dL_law_228 : decode cL_law 228 = .ok (.iload_n 3, 1) := by decide +kernel
theorem dL_law_229 : decode cL_law 229 = .ok (.iconst 1, 1) := by decide +kernel
theorem dL_law_230 : decode cL_law 230 = .ok (.iadd, 1) := by decide +kernel
theorem dL_law_231 : decode cL_law 231 = .ok (.iaload, 1) := by decide +kernel
theorem dL_law_232 : decode cL_law 232 = .ok (.invokevirtual 30, 3) := by decide +kernel
theorem dL_law_235 : decode cL_law 235 = .ok (.if_icmp .eq 860, 3) := by decide +kernel
theorem dL_law_238 : decode cL_law 238 = .ok (.iconst 0, 1) := by decide +kernel
theorem dL_law_239 : decode cL_law 239 = .ok (.ireturn, 1) := by decide +kernel
theorem dL_law_240 : decode cL_law 240 = .ok (.aload_n 1, 1) := by decide +kernel
theorem dL_law_241 : decode cL_law 241 = .ok (.aload_n 0, 1) := by decide +kernel
theorem dL_law_242 : decode cL_law 242 = .ok (.iload_n 3, 1) := by decide +kernel
theorem dL_law_243 : decode cL_law 243 = .ok (.iconst 1, 1) := by decide +kernel
theorem dL_law_244 : decode cL_law 244 = .ok (.iadd, 1) := by decide +kernel
theorem dL_law_245 : decode cL_law 245 = .ok (.iaload, 1) := by decide +kernel
theorem dL_law_246 : decode cL_law 246 = .ok (.aload_n 0, 1) := by decide +kernel
theorem dL_law_247 : decode cL_law 247 = .ok (.iload_n 3, 1) := by decide +kernel
theorem dL_law_248 : decode cL_law 248 = .ok (.iconst 2, 1) := by decide +kernel
theorem dL_law_249 : decode cL_law 249 = .ok (.iadd, 1) := by decide +kernel
theorem dL_law_250 : decode cL_law 250 = .ok (.iaload, 1) := by decide +kernel
theorem dL_law_251 : decode cL_law 251 = .ok (.invokevirtual 31, 3) := by decide +kernel
theorem dL_law_254 : decode cL_law 254 = .ok (.aload_n 2, 1) := by decide +kernel
theorem dL_law_255 : decode cL_law 255 = .ok (.aload_n 0, 1) := by decide +kernel
theorem dL_law_256 : decode cL_law 256 = .ok (.iload_n 3, 1) := by decide +kernel
theorem dL_law_257 : decode cL_law 257 = .ok (.iconst 1, 1) := by decide +kernel
theorem dL_law_258 : decode cL_law 258 = .ok (.iadd, 1) := by decide +kernel
theorem dL_law_259 : decode cL_law 259 = .ok (.iaload, 1) := by decide +kernel
theorem dL_law_260 : decode cL_law 260 = .ok (.aload_n 0, 1) := by decide +kernel
theorem dL_law_261 : decode cL_law 261 = .ok (.iload_n 3, 1) := by decide +kernel
theorem dL_law_262 : decode cL_law 262 = .ok (.iconst 2, 1) := by decide +kernel
theorem dL_law_263 : decode cL_law 263 = .ok (.iadd, 1) := by decide +kernel
theorem dL_law_264 : decode cL_law 264 = .ok (.iaload, 1) := by decide +kernel
theorem dL_law_265 : decode cL_law 265 = .ok (.invokevirtual 35, 3) := by decide +kernel
theorem dL_law_268 : decode cL_law 268 = .ok (.if_icmp .eq 827, 3) := by decide +kernel
theorem dL_law_271 : decode cL_law 271 = .ok (.iconst 0, 1) := by decide +kernel
theorem dL_law_272 : decode cL_law 272 = .ok (.ireturn, 1) := by decide +kernel
theorem dL_law_273 : decode cL_law 273 = .ok (.aload_n 1, 1) := by decide +kernel
theorem dL_law_274 : decode cL_law 274 = .ok (.aload_n 0, 1) := by decide +kernel
theorem dL_law_275 : decode cL_law 275 = .ok (.iload_n 3, 1) := by decide +kernel
theorem dL_law_276 : decode cL_law 276 = .ok (.iconst 1, 1) := by decide +kernel
theorem dL_law_277 : decode cL_law 277 = .ok (.iadd, 1) := by decide +kernel
theorem dL_law_278 : decode cL_law 278 = .ok (.iaload, 1) := by decide +kernel
theorem dL_law_279 : decode cL_law 279 = .ok (.invokevirtual 36, 3) := by decide +kernel
theorem dL_law_282 : decode cL_law 282 = .ok (.aload_n 2, 1) := by decide +kernel
theorem dL_law_283 : decode cL_law 283 = .ok (.aload_n 0, 1) := by decide +kernel
theorem dL_law_284 : decode cL_law 284 = .ok (.iload_n 3, 1) := by decide +kernel
theorem dL_law_285 : decode cL_law 285 = .ok (.iconst 1, 1) := by decide +kernel
theorem dL_law_286 : decode cL_law 286 = .ok (.iadd, 1) := by decide +kernel
theorem dL_law_287 : decode cL_law 287 = .ok (.iaload, 1) := by decide +kernel
theorem dL_law_288 : decode cL_law 288 = .ok (.invokevirtual 40, 3) := by decide +kernel
theorem dL_law_291 : decode cL_law 291 = .ok (.lcmp, 1) := by decide +kernel
theorem dL_law_292 : decode cL_law 292 = .ok (.ifCond .eq 803, 3) := by decide +kernel
theorem dL_law_295 : decode cL_law 295 = .ok (.iconst 0, 1) := by decide +kernel
theorem dL_law_296 : decode cL_law 296 = .ok (.ireturn, 1) := by decide +kernel
theorem dL_law_297 : decode cL_law 297 = .ok (.aload_n 1, 1) := by decide +kernel
theorem dL_law_298 : decode cL_law 298 = .ok (.aload_n 0, 1) := by decide +kernel
theorem dL_law_299 : decode cL_law 299 = .ok (.iload_n 3, 1) := by decide +kernel
theorem dL_law_300 : decode cL_law 300 = .ok (.iconst 1, 1) := by decide +kernel
theorem dL_law_301 : decode cL_law 301 = .ok (.iadd, 1) := by decide +kernel
theorem dL_law_302 : decode cL_law 302 = .ok (.iaload, 1) := by decide +kernel
theorem dL_law_303 : decode cL_law 303 = .ok (.aload_n 0, 1) := by decide +kernel
theorem dL_law_304 : decode cL_law 304 = .ok (.iload_n 3, 1) := by decide +kernel
theorem dL_law_305 : decode cL_law 305 = .ok (.iconst 2, 1) := by decide +kernel
theorem dL_law_306 : decode cL_law 306 = .ok (.iadd, 1) := by decide +kernel
theorem dL_law_307 : decode cL_law 307 = .ok (.iaload, 1) := by decide +kernel
theorem dL_law_308 : decode cL_law 308 = .ok (.invokevirtual 41, 3) := by decide +kernel
theorem dL_law_311 : decode cL_law 311 = .ok (.aload_n 2, 1) := by decide +kernel
theorem dL_law_312 : decode cL_law 312 = .ok (.aload_n 0, 1) := by decide +kernel
theorem dL_law_313 : decode cL_law 313 = .ok (.iload_n 3, 1) := by decide +kernel
theorem dL_law_314 : decode cL_law 314 = .ok (.iconst 1, 1) := by decide +kernel
theorem dL_law_315 : decode cL_law 315 = .ok (.iadd, 1) := by decide +kernel
theorem dL_law_316 : decode cL_law 316 = .ok (.iaload, 1) := by decide +kernel
theorem dL_law_317 : decode cL_law 317 = .ok (.aload_n 0, 1) := by decide +kernel
theorem dL_law_318 : decode cL_law 318 = .ok (.iload_n 3, 1) := by decide +kernel
theorem dL_law_319 : decode cL_law 319 = .ok (.iconst 2, 1) := by decide +kernel
theorem dL_law_320 : decode cL_law 320 = .ok (.iadd, 1) := by decide +kernel
theorem dL_law_321 : decode cL_law 321 = .ok (.iaload, 1) := by decide +kernel
theorem dL_law_322 : decode cL_law 322 = .ok (.invokevirtual 44, 3) := by decide +kernel
theorem dL_law_325 : decode cL_law 325 = .ok (.if_icmp .eq 770, 3) := by decide +kernel
theorem dL_law_328 : decode cL_law 328 = .ok (.iconst 0, 1) := by decide +kernel
theorem dL_law_329 : decode cL_law 329 = .ok (.ireturn, 1) := by decide +kernel
theorem dL_law_330 : decode cL_law 330 = .ok (.aload_n 1, 1) := by decide +kernel
theorem dL_law_331 : decode cL_law 331 = .ok (.aload_n 0, 1) := by decide +kernel
theorem dL_law_332 : decode cL_law 332 = .ok (.iload_n 3, 1) := by decide +kernel
theorem dL_law_333 : decode cL_law 333 = .ok (.iconst 1, 1) := by decide +kernel
theorem dL_law_334 : decode cL_law 334 = .ok (.iadd, 1) := by decide +kernel
theorem dL_law_335 : decode cL_law 335 = .ok (.iaload, 1) := by decide +kernel
theorem dL_law_336 : decode cL_law 336 = .ok (.aload_n 0, 1) := by decide +kernel
theorem dL_law_337 : decode cL_law 337 = .ok (.iload_n 3, 1) := by decide +kernel
theorem dL_law_338 : decode cL_law 338 = .ok (.iconst 2, 1) := by decide +kernel
theorem dL_law_339 : decode cL_law 339 = .ok (.iadd, 1) := by decide +kernel
theorem dL_law_340 : decode cL_law 340 = .ok (.iaload, 1) := by decide +kernel
theorem dL_law_341 : decode cL_law 341 = .ok (.aload_n 0, 1) := by decide +kernel
theorem dL_law_342 : decode cL_law 342 = .ok (.iload_n 3, 1) := by decide +kernel
theorem dL_law_343 : decode cL_law 343 = .ok (.iconst 3, 1) := by decide +kernel
theorem dL_law_344 : decode cL_law 344 = .ok (.iadd, 1) := by decide +kernel
theorem dL_law_345 : decode cL_law 345 = .ok (.iaload, 1) := by decide +kernel
theorem dL_law_346 : decode cL_law 346 = .ok (.invokevirtual 45, 3) := by decide +kernel
theorem dL_law_349 : decode cL_law 349 = .ok (.aload_n 2, 1) := by decide +kernel
theorem dL_law_350 : decode cL_law 350 = .ok (.aload_n 0, 1) := by decide +kernel
theorem dL_law_351 : decode cL_law 351 = .ok (.iload_n 3, 1) := by decide +kernel
theorem dL_law_352 : decode cL_law 352 = .ok (.iconst 1, 1) := by decide +kernel
theorem dL_law_353 : decode cL_law 353 = .ok (.iadd, 1) := by decide +kernel
theorem dL_law_354 : decode cL_law 354 = .ok (.iaload, 1) := by decide +kernel
theorem dL_law_355 : decode cL_law 355 = .ok (.aload_n 0, 1) := by decide +kernel
theorem dL_law_356 : decode cL_law 356 = .ok (.iload_n 3, 1) := by decide +kernel
theorem dL_law_357 : decode cL_law 357 = .ok (.iconst 2, 1) := by decide +kernel
theorem dL_law_358 : decode cL_law 358 = .ok (.iadd, 1) := by decide +kernel
theorem dL_law_359 : decode cL_law 359 = .ok (.iaload, 1) := by decide +kernel
theorem dL_law_360 : decode cL_law 360 = .ok (.aload_n 0, 1) := by decide +kernel
theorem dL_law_361 : decode cL_law 361 = .ok (.iload_n 3, 1) := by decide +kernel
theorem dL_law_362 : decode cL_law 362 = .ok (.iconst 3, 1) := by decide +kernel
theorem dL_law_363 : decode cL_law 363 = .ok (.iadd, 1) := by decide +kernel
theorem dL_law_364 : decode cL_law 364 = .ok (.iaload, 1) := by decide +kernel
theorem dL_law_365 : decode cL_law 365 = .ok (.invokevirtual 49, 3) := by decide +kernel
theorem dL_law_368 : decode cL_law 368 = .ok (.if_icmp .eq 727, 3) := by decide +kernel
theorem dL_law_371 : decode cL_law 371 = .ok (.iconst 0, 1) := by decide +kernel
theorem dL_law_372 : decode cL_law 372 = .ok (.ireturn, 1) := by decide +kernel
theorem dL_law_373 : decode cL_law 373 = .ok (.aload_n 1, 1) := by decide +kernel
theorem dL_law_374 : decode cL_law 374 = .ok (.aload_n 0, 1) := by decide +kernel
theorem dL_law_375 : decode cL_law 375 = .ok (.iload_n 3, 1) := by decide +kernel
theorem dL_law_376 : decode cL_law 376 = .ok (.iconst 1, 1) := by decide +kernel
theorem dL_law_377 : decode cL_law 377 = .ok (.iadd, 1) := by decide +kernel
theorem dL_law_378 : decode cL_law 378 = .ok (.iaload, 1) := by decide +kernel
theorem dL_law_379 : decode cL_law 379 = .ok (.aload_n 0, 1) := by decide +kernel
theorem dL_law_380 : decode cL_law 380 = .ok (.iload_n 3, 1) := by decide +kernel
theorem dL_law_381 : decode cL_law 381 = .ok (.iconst 2, 1) := by decide +kernel
theorem dL_law_382 : decode cL_law 382 = .ok (.iadd, 1) := by decide +kernel
theorem dL_law_383 : decode cL_law 383 = .ok (.iaload, 1) := by decide +kernel
theorem dL_law_384 : decode cL_law 384 = .ok (.aload_n 0, 1) := by decide +kernel
theorem dL_law_385 : decode cL_law 385 = .ok (.iload_n 3, 1) := by decide +kernel
theorem dL_law_386 : decode cL_law 386 = .ok (.iconst 3, 1) := by decide +kernel
theorem dL_law_387 : decode cL_law 387 = .ok (.iadd, 1) := by decide +kernel
theorem dL_law_388 : decode cL_law 388 = .ok (.iaload, 1) := by decide +kernel
theorem dL_law_389 : decode cL_law 389 = .ok (.invokevirtual 50, 3) := by decide +kernel
theorem dL_law_392 : decode cL_law 392 = .ok (.aload_n 2, 1) := by decide +kernel
theorem dL_law_393 : decode cL_law 393 = .ok (.aload_n 0, 1) := by decide +kernel
theorem dL_law_394 : decode cL_law 394 = .ok (.iload_n 3, 1) := by decide +kernel
theorem dL_law_395 : decode cL_law 395 = .ok (.iconst 1, 1) := by decide +kernel
theorem dL_law_396 : decode cL_law 396 = .ok (.iadd, 1) := by decide +kernel
theorem dL_law_397 : decode cL_law 397 = .ok (.iaload, 1) := by decide +kernel
theorem dL_law_398 : decode cL_law 398 = .ok (.aload_n 0, 1) := by decide +kernel
theorem dL_law_399 : decode cL_law 399 = .ok (.iload_n 3, 1) := by decide +kernel
theorem dL_law_400 : decode cL_law 400 = .ok (.iconst 2, 1) := by decide +kernel
theorem dL_law_401 : decode cL_law 401 = .ok (.iadd, 1) := by decide +kernel
theorem dL_law_402 : decode cL_law 402 = .ok (.iaload, 1) := by decide +kernel
theorem dL_law_403 : decode cL_law 403 = .ok (.aload_n 0, 1) := by decide +kernel
theorem dL_law_404 : decode cL_law 404 = .ok (.iload_n 3, 1) := by decide +kernel
theorem dL_law_405 : decode cL_law 405 = .ok (.iconst 3, 1) := by decide +kernel
theorem dL_law_406 : decode cL_law 406 = .ok (.iadd, 1) := by decide +kernel
theorem dL_law_407 : decode cL_law 407 = .ok (.iaload, 1) := by decide +kernel
theorem dL_law_408 : decode cL_law 408 = .ok (.invokevirtual 53, 3) := by decide +kernel
theorem dL_law_411 : decode cL_law 411 = .ok (.if_icmp .eq 684, 3) := by decide +kernel
theorem dL_law_414 : decode cL_law 414 = .ok (.iconst 0, 1) := by decide +kernel
theorem dL_law_415 : decode cL_law 415 = .ok (.ireturn, 1) := by decide +kernel
theorem dL_law_416 : decode cL_law 416 = .ok (.aload_n 1, 1) := by decide +kernel
theorem dL_law_417 : decode cL_law 417 = .ok (.aload_n 0, 1) := by decide +kernel
theorem dL_law_418 : decode cL_law 418 = .ok (.iload_n 3, 1) := by decide +kernel
theorem dL_law_419 : decode cL_law 419 = .ok (.iconst 1, 1) := by decide +kernel
theorem dL_law_420 : decode cL_law 420 = .ok (.iadd, 1) := by decide +kernel
theorem dL_law_421 : decode cL_law 421 = .ok (.iaload, 1) := by decide +kernel
theorem dL_law_422 : decode cL_law 422 = .ok (.aload_n 0, 1) := by decide +kernel
theorem dL_law_423 : decode cL_law 423 = .ok (.iload_n 3, 1) := by decide +kernel
theorem dL_law_424 : decode cL_law 424 = .ok (.iconst 2, 1) := by decide +kernel
theorem dL_law_425 : decode cL_law 425 = .ok (.iadd, 1) := by decide +kernel
theorem dL_law_426 : decode cL_law 426 = .ok (.iaload, 1) := by decide +kernel
theorem dL_law_427 : decode cL_law 427 = .ok (.invokevirtual 54, 3) := by decide +kernel
theorem dL_law_430 : decode cL_law 430 = .ok (.aload_n 2, 1) := by decide +kernel
theorem dL_law_431 : decode cL_law 431 = .ok (.aload_n 0, 1) := by decide +kernel
theorem dL_law_432 : decode cL_law 432 = .ok (.iload_n 3, 1) := by decide +kernel
theorem dL_law_433 : decode cL_law 433 = .ok (.iconst 1, 1) := by decide +kernel
theorem dL_law_434 : decode cL_law 434 = .ok (.iadd, 1) := by decide +kernel
theorem dL_law_435 : decode cL_law 435 = .ok (.iaload, 1) := by decide +kernel
theorem dL_law_436 : decode cL_law 436 = .ok (.aload_n 0, 1) := by decide +kernel
theorem dL_law_437 : decode cL_law 437 = .ok (.iload_n 3, 1) := by decide +kernel
theorem dL_law_438 : decode cL_law 438 = .ok (.iconst 2, 1) := by decide +kernel
theorem dL_law_439 : decode cL_law 439 = .ok (.iadd, 1) := by decide +kernel
theorem dL_law_440 : decode cL_law 440 = .ok (.iaload, 1) := by decide +kernel
theorem dL_law_441 : decode cL_law 441 = .ok (.invokevirtual 57, 3) := by decide +kernel
theorem dL_law_444 : decode cL_law 444 = .ok (.if_icmp .eq 651, 3) := by decide +kernel
theorem dL_law_447 : decode cL_law 447 = .ok (.iconst 0, 1) := by decide +kernel
theorem dL_law_448 : decode cL_law 448 = .ok (.ireturn, 1) := by decide +kernel
theorem dL_law_449 : decode cL_law 449 = .ok (.aload_n 1, 1) := by decide +kernel
theorem dL_law_450 : decode cL_law 450 = .ok (.aload_n 0, 1) := by decide +kernel
theorem dL_law_451 : decode cL_law 451 = .ok (.iload_n 3, 1) := by decide +kernel
theorem dL_law_452 : decode cL_law 452 = .ok (.iconst 1, 1) := by decide +kernel
theorem dL_law_453 : decode cL_law 453 = .ok (.iadd, 1) := by decide +kernel
theorem dL_law_454 : decode cL_law 454 = .ok (.iaload, 1) := by decide +kernel
theorem dL_law_455 : decode cL_law 455 = .ok (.aload_n 0, 1) := by decide +kernel
theorem dL_law_456 : decode cL_law 456 = .ok (.iload_n 3, 1) := by decide +kernel
theorem dL_law_457 : decode cL_law 457 = .ok (.iconst 2, 1) := by decide +kernel
theorem dL_law_458 : decode cL_law 458 = .ok (.iadd, 1) := by decide +kernel
theorem dL_law_459 : decode cL_law 459 = .ok (.iaload, 1) := by decide +kernel
theorem dL_law_460 : decode cL_law 460 = .ok (.invokevirtual 58, 3) := by decide +kernel
theorem dL_law_463 : decode cL_law 463 = .ok (.aload_n 2, 1) := by decide +kernel
theorem dL_law_464 : decode cL_law 464 = .ok (.aload_n 0, 1) := by decide +kernel
theorem dL_law_465 : decode cL_law 465 = .ok (.iload_n 3, 1) := by decide +kernel
theorem dL_law_466 : decode cL_law 466 = .ok (.iconst 1, 1) := by decide +kernel
theorem dL_law_467 : decode cL_law 467 = .ok (.iadd, 1) := by decide +kernel
theorem dL_law_468 : decode cL_law 468 = .ok (.iaload, 1) := by decide +kernel
theorem dL_law_469 : decode cL_law 469 = .ok (.aload_n 0, 1) := by decide +kernel
theorem dL_law_470 : decode cL_law 470 = .ok (.iload_n 3, 1) := by decide +kernel
theorem dL_law_471 : decode cL_law 471 = .ok (.iconst 2, 1) := by decide +kernel
theorem dL_law_472 : decode cL_law 472 = .ok (.iadd, 1) := by decide +kernel
theorem dL_law_473 : decode cL_law 473 = .ok (.iaload, 1) := by decide +kernel
theorem dL_law_474 : decode cL_law 474 = .ok (.invokevirtual 61, 3) := by decide +kernel
theorem dL_law_477 : decode cL_law 477 = .ok (.if_icmp .eq 618, 3) := by decide +kernel
theorem dL_law_480 : decode cL_law 480 = .ok (.iconst 0, 1) := by decide +kernel
theorem dL_law_481 : decode cL_law 481 = .ok (.ireturn, 1) := by decide +kernel
theorem dL_law_482 : decode cL_law 482 = .ok (.aload_n 1, 1) := by decide +kernel
theorem dL_law_483 : decode cL_law 483 = .ok (.aload_n 0, 1) := by decide +kernel
theorem dL_law_484 : decode cL_law 484 = .ok (.iload_n 3, 1) := by decide +kernel
theorem dL_law_485 : decode cL_law 485 = .ok (.iconst 1, 1) := by decide +kernel
theorem dL_law_486 : decode cL_law 486 = .ok (.iadd, 1) := by decide +kernel
theorem dL_law_487 : decode cL_law 487 = .ok (.iaload, 1) := by decide +kernel
theorem dL_law_488 : decode cL_law 488 = .ok (.aload_n 0, 1) := by decide +kernel
theorem dL_law_489 : decode cL_law 489 = .ok (.iload_n 3, 1) := by decide +kernel
theorem dL_law_490 : decode cL_law 490 = .ok (.iconst 2, 1) := by decide +kernel
theorem dL_law_491 : decode cL_law 491 = .ok (.iadd, 1) := by decide +kernel
theorem dL_law_492 : decode cL_law 492 = .ok (.iaload, 1) := by decide +kernel
theorem dL_law_493 : decode cL_law 493 = .ok (.invokevirtual 62, 3) := by decide +kernel
theorem dL_law_496 : decode cL_law 496 = .ok (.aload_n 2, 1) := by decide +kernel
theorem dL_law_497 : decode cL_law 497 = .ok (.aload_n 0, 1) := by decide +kernel
theorem dL_law_498 : decode cL_law 498 = .ok (.iload_n 3, 1) := by decide +kernel
theorem dL_law_499 : decode cL_law 499 = .ok (.iconst 1, 1) := by decide +kernel
theorem dL_law_500 : decode cL_law 500 = .ok (.iadd, 1) := by decide +kernel
theorem dL_law_501 : decode cL_law 501 = .ok (.iaload, 1) := by decide +kernel
theorem dL_law_502 : decode cL_law 502 = .ok (.aload_n 0, 1) := by decide +kernel
theorem dL_law_503 : decode cL_law 503 = .ok (.iload_n 3, 1) := by decide +kernel
theorem dL_law_504 : decode cL_law 504 = .ok (.iconst 2, 1) := by decide +kernel
theorem dL_law_505 : decode cL_law 505 = .ok (.iadd, 1) := by decide +kernel
theorem dL_law_506 : decode cL_law 506 = .ok (.iaload, 1) := by decide +kernel
theorem dL_law_507 : decode cL_law 507 = .ok (.invokevirtual 65, 3) := by decide +kernel
theorem dL_law_510 : decode cL_law 510 = .ok (.if_icmp .eq 585, 3) := by decide +kernel
theorem dL_law_513 : decode cL_law 513 = .ok (.iconst 0, 1) := by decide +kernel
theorem dL_law_514 : decode cL_law 514 = .ok (.ireturn, 1) := by decide +kernel
theorem dL_law_515 : decode cL_law 515 = .ok (.aload_n 1, 1) := by decide +kernel
theorem dL_law_516 : decode cL_law 516 = .ok (.aload_n 0, 1) := by decide +kernel
theorem dL_law_517 : decode cL_law 517 = .ok (.iload_n 3, 1) := by decide +kernel
theorem dL_law_518 : decode cL_law 518 = .ok (.iconst 1, 1) := by decide +kernel
theorem dL_law_519 : decode cL_law 519 = .ok (.iadd, 1) := by decide +kernel
theorem dL_law_520 : decode cL_law 520 = .ok (.iaload, 1) := by decide +kernel
theorem dL_law_521 : decode cL_law 521 = .ok (.aload_n 0, 1) := by decide +kernel
theorem dL_law_522 : decode cL_law 522 = .ok (.iload_n 3, 1) := by decide +kernel
theorem dL_law_523 : decode cL_law 523 = .ok (.iconst 2, 1) := by decide +kernel
theorem dL_law_524 : decode cL_law 524 = .ok (.iadd, 1) := by decide +kernel
theorem dL_law_525 : decode cL_law 525 = .ok (.iaload, 1) := by decide +kernel
theorem dL_law_526 : decode cL_law 526 = .ok (.invokevirtual 66, 3) := by decide +kernel
theorem dL_law_529 : decode cL_law 529 = .ok (.aload_n 2, 1) := by decide +kernel
theorem dL_law_530 : decode cL_law 530 = .ok (.aload_n 0, 1) := by decide +kernel
theorem dL_law_531 : decode cL_law 531 = .ok (.iload_n 3, 1) := by decide +kernel
theorem dL_law_532 : decode cL_law 532 = .ok (.iconst 1, 1) := by decide +kernel
theorem dL_law_533 : decode cL_law 533 = .ok (.iadd, 1) := by decide +kernel
theorem dL_law_534 : decode cL_law 534 = .ok (.iaload, 1) := by decide +kernel
theorem dL_law_535 : decode cL_law 535 = .ok (.aload_n 0, 1) := by decide +kernel
theorem dL_law_536 : decode cL_law 536 = .ok (.iload_n 3, 1) := by decide +kernel
theorem dL_law_537 : decode cL_law 537 = .ok (.iconst 2, 1) := by decide +kernel
theorem dL_law_538 : decode cL_law 538 = .ok (.iadd, 1) := by decide +kernel
theorem dL_law_539 : decode cL_law 539 = .ok (.iaload, 1) := by decide +kernel
theorem dL_law_540 : decode cL_law 540 = .ok (.invokevirtual 69, 3) := by decide +kernel
theorem dL_law_543 : decode cL_law 543 = .ok (.if_icmp .eq 552, 3) := by decide +kernel
theorem dL_law_546 : decode cL_law 546 = .ok (.iconst 0, 1) := by decide +kernel
theorem dL_law_547 : decode cL_law 547 = .ok (.ireturn, 1) := by decide +kernel
theorem dL_law_548 : decode cL_law 548 = .ok (.aload_n 1, 1) := by decide +kernel
theorem dL_law_549 : decode cL_law 549 = .ok (.aload_n 0, 1) := by decide +kernel
theorem dL_law_550 : decode cL_law 550 = .ok (.iload_n 3, 1) := by decide +kernel
theorem dL_law_551 : decode cL_law 551 = .ok (.iconst 1, 1) := by decide +kernel
theorem dL_law_552 : decode cL_law 552 = .ok (.iadd, 1) := by decide +kernel
theorem dL_law_553 : decode cL_law 553 = .ok (.iaload, 1) := by decide +kernel
theorem dL_law_554 : decode cL_law 554 = .ok (.invokevirtual 70, 3) := by decide +kernel
theorem dL_law_557 : decode cL_law 557 = .ok (.aload_n 2, 1) := by decide +kernel
theorem dL_law_558 : decode cL_law 558 = .ok (.aload_n 0, 1) := by decide +kernel
theorem dL_law_559 : decode cL_law 559 = .ok (.iload_n 3, 1) := by decide +kernel
theorem dL_law_560 : decode cL_law 560 = .ok (.iconst 1, 1) := by decide +kernel
theorem dL_law_561 : decode cL_law 561 = .ok (.iadd, 1) := by decide +kernel
theorem dL_law_562 : decode cL_law 562 = .ok (.iaload, 1) := by decide +kernel
theorem dL_law_563 : decode cL_law 563 = .ok (.invokevirtual 73, 3) := by decide +kernel
theorem dL_law_566 : decode cL_law 566 = .ok (.if_icmp .eq 529, 3) := by decide +kernel
theorem dL_law_569 : decode cL_law 569 = .ok (.iconst 0, 1) := by decide +kernel
theorem dL_law_570 : decode cL_law 570 = .ok (.ireturn, 1) := by decide +kernel
theorem dL_law_571 : decode cL_law 571 = .ok (.aload_n 1, 1) := by decide +kernel
theorem dL_law_572 : decode cL_law 572 = .ok (.aload_n 0, 1) := by decide +kernel
theorem dL_law_573 : decode cL_law 573 = .ok (.iload_n 3, 1) := by decide +kernel
theorem dL_law_574 : decode cL_law 574 = .ok (.iconst 1, 1) := by decide +kernel
theorem dL_law_575 : decode cL_law 575 = .ok (.iadd, 1) := by decide +kernel
theorem dL_law_576 : decode cL_law 576 = .ok (.iaload, 1) := by decide +kernel
theorem dL_law_577 : decode cL_law 577 = .ok (.aload_n 0, 1) := by decide +kernel
theorem dL_law_578 : decode cL_law 578 = .ok (.iload_n 3, 1) := by decide +kernel
theorem dL_law_579 : decode cL_law 579 = .ok (.iconst 2, 1) := by decide +kernel
theorem dL_law_580 : decode cL_law 580 = .ok (.iadd, 1) := by decide +kernel
theorem dL_law_581 : decode cL_law 581 = .ok (.iaload, 1) := by decide +kernel
theorem dL_law_582 : decode cL_law 582 = .ok (.aload_n 0, 1) := by decide +kernel
theorem dL_law_583 : decode cL_law 583 = .ok (.iload_n 3, 1) := by decide +kernel
theorem dL_law_584 : decode cL_law 584 = .ok (.iconst 3, 1) := by decide +kernel
theorem dL_law_585 : decode cL_law 585 = .ok (.iadd, 1) := by decide +kernel
theorem dL_law_586 : decode cL_law 586 = .ok (.iaload, 1) := by decide +kernel
theorem dL_law_587 : decode cL_law 587 = .ok (.ifCond .eq 7, 3) := by decide +kernel
theorem dL_law_590 : decode cL_law 590 = .ok (.iconst 1, 1) := by decide +kernel
theorem dL_law_591 : decode cL_law 591 = .ok (.goto 4, 3) := by decide +kernel
theorem dL_law_594 : decode cL_law 594 = .ok (.iconst 0, 1) := by decide +kernel
theorem dL_law_595 : decode cL_law 595 = .ok (.invokevirtual 74, 3) := by decide +kernel
theorem dL_law_598 : decode cL_law 598 = .ok (.aload_n 2, 1) := by decide +kernel
theorem dL_law_599 : decode cL_law 599 = .ok (.aload_n 0, 1) := by decide +kernel
theorem dL_law_600 : decode cL_law 600 = .ok (.iload_n 3, 1) := by decide +kernel
theorem dL_law_601 : decode cL_law 601 = .ok (.iconst 1, 1) := by decide +kernel
theorem dL_law_602 : decode cL_law 602 = .ok (.iadd, 1) := by decide +kernel
theorem dL_law_603 : decode cL_law 603 = .ok (.iaload, 1) := by decide +kernel
theorem dL_law_604 : decode cL_law 604 = .ok (.aload_n 0, 1) := by decide +kernel
theorem dL_law_605 : decode cL_law 605 = .ok (.iload_n 3, 1) := by decide +kernel
theorem dL_law_606 : decode cL_law 606 = .ok (.iconst 2, 1) := by decide +kernel
theorem dL_law_607 : decode cL_law 607 = .ok (.iadd, 1) := by decide +kernel
theorem dL_law_608 : decode cL_law 608 = .ok (.iaload, 1) := by decide +kernel
theorem dL_law_609 : decode cL_law 609 = .ok (.aload_n 0, 1) := by decide +kernel
theorem dL_law_610 : decode cL_law 610 = .ok (.iload_n 3, 1) := by decide +kernel
theorem dL_law_611 : decode cL_law 611 = .ok (.iconst 3, 1) := by decide +kernel
theorem dL_law_612 : decode cL_law 612 = .ok (.iadd, 1) := by decide +kernel
theorem dL_law_613 : decode cL_law 613 = .ok (.iaload, 1) := by decide +kernel
theorem dL_law_614 : decode cL_law 614 = .ok (.ifCond .eq 7, 3) := by decide +kernel
theorem dL_law_617 : decode cL_law 617 = .ok (.iconst 1, 1) := by decide +kernel
theorem dL_law_618 : decode cL_law 618 = .ok (.goto 4, 3) := by decide +kernel
theorem dL_law_621 : decode cL_law 621 = .ok (.iconst 0, 1) := by decide +kernel
theorem dL_law_622 : decode cL_law 622 = .ok (.invokevirtual 78, 3) := by decide +kernel
theorem dL_law_625 : decode cL_law 625 = .ok (.if_icmp .eq 470, 3) := by decide +kernel
theorem dL_law_628 : decode cL_law 628 = .ok (.iconst 0, 1) := by decide +kernel
theorem dL_law_629 : decode cL_law 629 = .ok (.ireturn, 1) := by decide +kernel
theorem dL_law_630 : decode cL_law 630 = .ok (.aload_n 1, 1) := by decide +kernel
theorem dL_law_631 : decode cL_law 631 = .ok (.aload_n 0, 1) := by decide +kernel
theorem dL_law_632 : decode cL_law 632 = .ok (.iload_n 3, 1) := by decide +kernel
theorem dL_law_633 : decode cL_law 633 = .ok (.iconst 1, 1) := by decide +kernel
theorem dL_law_634 : decode cL_law 634 = .ok (.iadd, 1) := by decide +kernel
theorem dL_law_635 : decode cL_law 635 = .ok (.iaload, 1) := by decide +kernel
theorem dL_law_636 : decode cL_law 636 = .ok (.aload_n 0, 1) := by decide +kernel
theorem dL_law_637 : decode cL_law 637 = .ok (.iload_n 3, 1) := by decide +kernel
theorem dL_law_638 : decode cL_law 638 = .ok (.iconst 2, 1) := by decide +kernel
theorem dL_law_639 : decode cL_law 639 = .ok (.iadd, 1) := by decide +kernel
theorem dL_law_640 : decode cL_law 640 = .ok (.iaload, 1) := by decide +kernel
theorem dL_law_641 : decode cL_law 641 = .ok (.invokevirtual 79, 3) := by decide +kernel
theorem dL_law_644 : decode cL_law 644 = .ok (.aload_n 2, 1) := by decide +kernel
theorem dL_law_645 : decode cL_law 645 = .ok (.aload_n 0, 1) := by decide +kernel
theorem dL_law_646 : decode cL_law 646 = .ok (.iload_n 3, 1) := by decide +kernel
theorem dL_law_647 : decode cL_law 647 = .ok (.iconst 1, 1) := by decide +kernel
theorem dL_law_648 : decode cL_law 648 = .ok (.iadd, 1) := by decide +kernel
theorem dL_law_649 : decode cL_law 649 = .ok (.iaload, 1) := by decide +kernel
theorem dL_law_650 : decode cL_law 650 = .ok (.aload_n 0, 1) := by decide +kernel
theorem dL_law_651 : decode cL_law 651 = .ok (.iload_n 3, 1) := by decide +kernel
theorem dL_law_652 : decode cL_law 652 = .ok (.iconst 2, 1) := by decide +kernel
theorem dL_law_653 : decode cL_law 653 = .ok (.iadd, 1) := by decide +kernel
theorem dL_law_654 : decode cL_law 654 = .ok (.iaload, 1) := by decide +kernel
theorem dL_law_655 : decode cL_law 655 = .ok (.invokevirtual 82, 3) := by decide +kernel
theorem dL_law_658 : decode cL_law 658 = .ok (.if_icmp .eq 437, 3) := by decide +kernel
theorem dL_law_661 : decode cL_law 661 = .ok (.iconst 0, 1) := by decide +kernel
theorem dL_law_662 : decode cL_law 662 = .ok (.ireturn, 1) := by decide +kernel
theorem dL_law_663 : decode cL_law 663 = .ok (.aload_n 1, 1) := by decide +kernel
theorem dL_law_664 : decode cL_law 664 = .ok (.aload_n 0, 1) := by decide +kernel
theorem dL_law_665 : decode cL_law 665 = .ok (.iload_n 3, 1) := by decide +kernel
theorem dL_law_666 : decode cL_law 666 = .ok (.iconst 1, 1) := by decide +kernel
theorem dL_law_667 : decode cL_law 667 = .ok (.iadd, 1) := by decide +kernel
theorem dL_law_668 : decode cL_law 668 = .ok (.iaload, 1) := by decide +kernel
theorem dL_law_669 : decode cL_law 669 = .ok (.aload_n 0, 1) := by decide +kernel
theorem dL_law_670 : decode cL_law 670 = .ok (.iload_n 3, 1) := by decide +kernel
theorem dL_law_671 : decode cL_law 671 = .ok (.iconst 2, 1) := by decide +kernel
theorem dL_law_672 : decode cL_law 672 = .ok (.iadd, 1) := by decide +kernel
theorem dL_law_673 : decode cL_law 673 = .ok (.iaload, 1) := by decide +kernel
theorem dL_law_674 : decode cL_law 674 = .ok (.invokevirtual 83, 3) := by decide +kernel
theorem dL_law_677 : decode cL_law 677 = .ok (.aload_n 2, 1) := by decide +kernel
theorem dL_law_678 : decode cL_law 678 = .ok (.aload_n 0, 1) := by decide +kernel
theorem dL_law_679 : decode cL_law 679 = .ok (.iload_n 3, 1) := by decide +kernel
theorem dL_law_680 : decode cL_law 680 = .ok (.iconst 1, 1) := by decide +kernel
theorem dL_law_681 : decode cL_law 681 = .ok (.iadd, 1) := by decide +kernel
theorem dL_law_682 : decode cL_law 682 = .ok (.iaload, 1) := by decide +kernel
theorem dL_law_683 : decode cL_law 683 = .ok (.aload_n 0, 1) := by decide +kernel
theorem dL_law_684 : decode cL_law 684 = .ok (.iload_n 3, 1) := by decide +kernel
theorem dL_law_685 : decode cL_law 685 = .ok (.iconst 2, 1) := by decide +kernel
theorem dL_law_686 : decode cL_law 686 = .ok (.iadd, 1) := by decide +kernel
theorem dL_law_687 : decode cL_law 687 = .ok (.iaload, 1) := by decide +kernel
theorem dL_law_688 : decode cL_law 688 = .ok (.invokevirtual 86, 3) := by decide +kernel
theorem dL_law_691 : decode cL_law 691 = .ok (.if_icmp .eq 404, 3) := by decide +kernel
theorem dL_law_694 : decode cL_law 694 = .ok (.iconst 0, 1) := by decide +kernel
theorem dL_law_695 : decode cL_law 695 = .ok (.ireturn, 1) := by decide +kernel
theorem dL_law_696 : decode cL_law 696 = .ok (.aload_n 1, 1) := by decide +kernel
theorem dL_law_697 : decode cL_law 697 = .ok (.aload_n 0, 1) := by decide +kernel
theorem dL_law_698 : decode cL_law 698 = .ok (.iload_n 3, 1) := by decide +kernel
theorem dL_law_699 : decode cL_law 699 = .ok (.iconst 1, 1) := by decide +kernel
theorem dL_law_700 : decode cL_law 700 = .ok (.iadd, 1) := by decide +kernel
theorem dL_law_701 : decode cL_law 701 = .ok (.iaload, 1) := by decide +kernel
theorem dL_law_702 : decode cL_law 702 = .ok (.aload_n 0, 1) := by decide +kernel
theorem dL_law_703 : decode cL_law 703 = .ok (.iload_n 3, 1) := by decide +kernel
theorem dL_law_704 : decode cL_law 704 = .ok (.iconst 2, 1) := by decide +kernel
theorem dL_law_705 : decode cL_law 705 = .ok (.iadd, 1) := by decide +kernel
theorem dL_law_706 : decode cL_law 706 = .ok (.iaload, 1) := by decide +kernel
theorem dL_law_707 : decode cL_law 707 = .ok (.aload_n 0, 1) := by decide +kernel
theorem dL_law_708 : decode cL_law 708 = .ok (.iload_n 3, 1) := by decide +kernel
theorem dL_law_709 : decode cL_law 709 = .ok (.iconst 3, 1) := by decide +kernel
theorem dL_law_710 : decode cL_law 710 = .ok (.iadd, 1) := by decide +kernel
theorem dL_law_711 : decode cL_law 711 = .ok (.iaload, 1) := by decide +kernel
theorem dL_law_712 : decode cL_law 712 = .ok (.aload_n 0, 1) := by decide +kernel
theorem dL_law_713 : decode cL_law 713 = .ok (.iload_n 3, 1) := by decide +kernel
theorem dL_law_714 : decode cL_law 714 = .ok (.iconst 4, 1) := by decide +kernel
theorem dL_law_715 : decode cL_law 715 = .ok (.iadd, 1) := by decide +kernel
theorem dL_law_716 : decode cL_law 716 = .ok (.iaload, 1) := by decide +kernel
theorem dL_law_717 : decode cL_law 717 = .ok (.invokevirtual 87, 3) := by decide +kernel
theorem dL_law_720 : decode cL_law 720 = .ok (.aload_n 2, 1) := by decide +kernel
theorem dL_law_721 : decode cL_law 721 = .ok (.aload_n 0, 1) := by decide +kernel
theorem dL_law_722 : decode cL_law 722 = .ok (.iload_n 3, 1) := by decide +kernel
theorem dL_law_723 : decode cL_law 723 = .ok (.iconst 1, 1) := by decide +kernel
theorem dL_law_724 : decode cL_law 724 = .ok (.iadd, 1) := by decide +kernel
theorem dL_law_725 : decode cL_law 725 = .ok (.iaload, 1) := by decide +kernel
theorem dL_law_726 : decode cL_law 726 = .ok (.aload_n 0, 1) := by decide +kernel
theorem dL_law_727 : decode cL_law 727 = .ok (.iload_n 3, 1) := by decide +kernel
theorem dL_law_728 : decode cL_law 728 = .ok (.iconst 2, 1) := by decide +kernel
theorem dL_law_729 : decode cL_law 729 = .ok (.iadd, 1) := by decide +kernel
theorem dL_law_730 : decode cL_law 730 = .ok (.iaload, 1) := by decide +kernel
theorem dL_law_731 : decode cL_law 731 = .ok (.aload_n 0, 1) := by decide +kernel
theorem dL_law_732 : decode cL_law 732 = .ok (.iload_n 3, 1) := by decide +kernel
theorem dL_law_733 : decode cL_law 733 = .ok (.iconst 3, 1) := by decide +kernel
theorem dL_law_734 : decode cL_law 734 = .ok (.iadd, 1) := by decide +kernel
theorem dL_law_735 : decode cL_law 735 = .ok (.iaload, 1) := by decide +kernel
theorem dL_law_736 : decode cL_law 736 = .ok (.aload_n 0, 1) := by decide +kernel
theorem dL_law_737 : decode cL_law 737 = .ok (.iload_n 3, 1) := by decide +kernel
theorem dL_law_738 : decode cL_law 738 = .ok (.iconst 4, 1) := by decide +kernel
theorem dL_law_739 : decode cL_law 739 = .ok (.iadd, 1) := by decide +kernel
theorem dL_law_740 : decode cL_law 740 = .ok (.iaload, 1) := by decide +kernel
theorem dL_law_741 : decode cL_law 741 = .ok (.invokevirtual 91, 3) := by decide +kernel
theorem dL_law_744 : decode cL_law 744 = .ok (.if_icmp .eq 351, 3) := by decide +kernel
theorem dL_law_747 : decode cL_law 747 = .ok (.iconst 0, 1) := by decide +kernel
theorem dL_law_748 : decode cL_law 748 = .ok (.ireturn, 1) := by decide +kernel
theorem dL_law_749 : decode cL_law 749 = .ok (.aload_n 1, 1) := by decide +kernel
theorem dL_law_750 : decode cL_law 750 = .ok (.aload_n 0, 1) := by decide +kernel
theorem dL_law_751 : decode cL_law 751 = .ok (.iload_n 3, 1) := by decide +kernel
theorem dL_law_752 : decode cL_law 752 = .ok (.iconst 1, 1) := by decide +kernel
theorem dL_law_753 : decode cL_law 753 = .ok (.iadd, 1) := by decide +kernel
theorem dL_law_754 : decode cL_law 754 = .ok (.iaload, 1) := by decide +kernel
theorem dL_law_755 : decode cL_law 755 = .ok (.aload_n 0, 1) := by decide +kernel
theorem dL_law_756 : decode cL_law 756 = .ok (.iload_n 3, 1) := by decide +kernel
theorem dL_law_757 : decode cL_law 757 = .ok (.iconst 2, 1) := by decide +kernel
theorem dL_law_758 : decode cL_law 758 = .ok (.iadd, 1) := by decide +kernel
theorem dL_law_759 : decode cL_law 759 = .ok (.iaload, 1) := by decide +kernel
theorem dL_law_760 : decode cL_law 760 = .ok (.aload_n 0, 1) := by decide +kernel
theorem dL_law_761 : decode cL_law 761 = .ok (.iload_n 3, 1) := by decide +kernel
theorem dL_law_762 : decode cL_law 762 = .ok (.iconst 3, 1) := by decide +kernel
theorem dL_law_763 : decode cL_law 763 = .ok (.iadd, 1) := by decide +kernel
theorem dL_law_764 : decode cL_law 764 = .ok (.iaload, 1) := by decide +kernel
theorem dL_law_765 : decode cL_law 765 = .ok (.invokevirtual 92, 3) := by decide +kernel
theorem dL_law_768 : decode cL_law 768 = .ok (.aload_n 2, 1) := by decide +kernel
theorem dL_law_769 : decode cL_law 769 = .ok (.aload_n 0, 1) := by decide +kernel
theorem dL_law_770 : decode cL_law 770 = .ok (.iload_n 3, 1) := by decide +kernel
theorem dL_law_771 : decode cL_law 771 = .ok (.iconst 1, 1) := by decide +kernel
theorem dL_law_772 : decode cL_law 772 = .ok (.iadd, 1) := by decide +kernel
theorem dL_law_773 : decode cL_law 773 = .ok (.iaload, 1) := by decide +kernel
theorem dL_law_774 : decode cL_law 774 = .ok (.aload_n 0, 1) := by decide +kernel
theorem dL_law_775 : decode cL_law 775 = .ok (.iload_n 3, 1) := by decide +kernel
theorem dL_law_776 : decode cL_law 776 = .ok (.iconst 2, 1) := by decide +kernel
theorem dL_law_777 : decode cL_law 777 = .ok (.iadd, 1) := by decide +kernel
theorem dL_law_778 : decode cL_law 778 = .ok (.iaload, 1) := by decide +kernel
theorem dL_law_779 : decode cL_law 779 = .ok (.aload_n 0, 1) := by decide +kernel
theorem dL_law_780 : decode cL_law 780 = .ok (.iload_n 3, 1) := by decide +kernel
theorem dL_law_781 : decode cL_law 781 = .ok (.iconst 3, 1) := by decide +kernel
theorem dL_law_782 : decode cL_law 782 = .ok (.iadd, 1) := by decide +kernel
theorem dL_law_783 : decode cL_law 783 = .ok (.iaload, 1) := by decide +kernel
theorem dL_law_784 : decode cL_law 784 = .ok (.invokevirtual 95, 3) := by decide +kernel
theorem dL_law_787 : decode cL_law 787 = .ok (.if_icmp .eq 308, 3) := by decide +kernel
theorem dL_law_790 : decode cL_law 790 = .ok (.iconst 0, 1) := by decide +kernel
theorem dL_law_791 : decode cL_law 791 = .ok (.ireturn, 1) := by decide +kernel
theorem dL_law_792 : decode cL_law 792 = .ok (.aload_n 1, 1) := by decide +kernel
theorem dL_law_793 : decode cL_law 793 = .ok (.aload_n 0, 1) := by decide +kernel
theorem dL_law_794 : decode cL_law 794 = .ok (.iload_n 3, 1) := by decide +kernel
theorem dL_law_795 : decode cL_law 795 = .ok (.iconst 1, 1) := by decide +kernel
theorem dL_law_796 : decode cL_law 796 = .ok (.iadd, 1) := by decide +kernel
theorem dL_law_797 : decode cL_law 797 = .ok (.iaload, 1) := by decide +kernel
theorem dL_law_798 : decode cL_law 798 = .ok (.aload_n 0, 1) := by decide +kernel
theorem dL_law_799 : decode cL_law 799 = .ok (.iload_n 3, 1) := by decide +kernel
theorem dL_law_800 : decode cL_law 800 = .ok (.iconst 2, 1) := by decide +kernel
theorem dL_law_801 : decode cL_law 801 = .ok (.iadd, 1) := by decide +kernel
theorem dL_law_802 : decode cL_law 802 = .ok (.iaload, 1) := by decide +kernel
theorem dL_law_803 : decode cL_law 803 = .ok (.aload_n 0, 1) := by decide +kernel
theorem dL_law_804 : decode cL_law 804 = .ok (.iload_n 3, 1) := by decide +kernel
theorem dL_law_805 : decode cL_law 805 = .ok (.iconst 3, 1) := by decide +kernel
theorem dL_law_806 : decode cL_law 806 = .ok (.iadd, 1) := by decide +kernel
theorem dL_law_807 : decode cL_law 807 = .ok (.iaload, 1) := by decide +kernel
theorem dL_law_808 : decode cL_law 808 = .ok (.aload_n 0, 1) := by decide +kernel
theorem dL_law_809 : decode cL_law 809 = .ok (.iload_n 3, 1) := by decide +kernel
theorem dL_law_810 : decode cL_law 810 = .ok (.iconst 4, 1) := by decide +kernel
theorem dL_law_811 : decode cL_law 811 = .ok (.iadd, 1) := by decide +kernel
theorem dL_law_812 : decode cL_law 812 = .ok (.iaload, 1) := by decide +kernel
theorem dL_law_813 : decode cL_law 813 = .ok (.invokevirtual 96, 3) := by decide +kernel
theorem dL_law_816 : decode cL_law 816 = .ok (.aload_n 2, 1) := by decide +kernel
theorem dL_law_817 : decode cL_law 817 = .ok (.aload_n 0, 1) := by decide +kernel
theorem dL_law_818 : decode cL_law 818 = .ok (.iload_n 3, 1) := by decide +kernel
theorem dL_law_819 : decode cL_law 819 = .ok (.iconst 1, 1) := by decide +kernel
theorem dL_law_820 : decode cL_law 820 = .ok (.iadd, 1) := by decide +kernel
theorem dL_law_821 : decode cL_law 821 = .ok (.iaload, 1) := by decide +kernel
theorem dL_law_822 : decode cL_law 822 = .ok (.aload_n 0, 1) := by decide +kernel
theorem dL_law_823 : decode cL_law 823 = .ok (.iload_n 3, 1) := by decide +kernel
theorem dL_law_824 : decode cL_law 824 = .ok (.iconst 2, 1) := by decide +kernel
theorem dL_law_825 : decode cL_law 825 = .ok (.iadd, 1) := by decide +kernel
theorem dL_law_826 : decode cL_law 826 = .ok (.iaload, 1) := by decide +kernel
theorem dL_law_827 : decode cL_law 827 = .ok (.aload_n 0, 1) := by decide +kernel
theorem dL_law_828 : decode cL_law 828 = .ok (.iload_n 3, 1) := by decide +kernel
theorem dL_law_829 : decode cL_law 829 = .ok (.iconst 3, 1) := by decide +kernel
theorem dL_law_830 : decode cL_law 830 = .ok (.iadd, 1) := by decide +kernel
theorem dL_law_831 : decode cL_law 831 = .ok (.iaload, 1) := by decide +kernel
theorem dL_law_832 : decode cL_law 832 = .ok (.aload_n 0, 1) := by decide +kernel
theorem dL_law_833 : decode cL_law 833 = .ok (.iload_n 3, 1) := by decide +kernel
theorem dL_law_834 : decode cL_law 834 = .ok (.iconst 4, 1) := by decide +kernel
theorem dL_law_835 : decode cL_law 835 = .ok (.iadd, 1) := by decide +kernel
theorem dL_law_836 : decode cL_law 836 = .ok (.iaload, 1) := by decide +kernel
theorem dL_law_837 : decode cL_law 837 = .ok (.invokevirtual 99, 3) := by decide +kernel
theorem dL_law_840 : decode cL_law 840 = .ok (.if_icmp .eq 255, 3) := by decide +kernel
theorem dL_law_843 : decode cL_law 843 = .ok (.iconst 0, 1) := by decide +kernel
theorem dL_law_844 : decode cL_law 844 = .ok (.ireturn, 1) := by decide +kernel
theorem dL_law_845 : decode cL_law 845 = .ok (.aload_n 1, 1) := by decide +kernel
theorem dL_law_846 : decode cL_law 846 = .ok (.aload_n 0, 1) := by decide +kernel
theorem dL_law_847 : decode cL_law 847 = .ok (.iload_n 3, 1) := by decide +kernel
theorem dL_law_848 : decode cL_law 848 = .ok (.iconst 1, 1) := by decide +kernel
theorem dL_law_849 : decode cL_law 849 = .ok (.iadd, 1) := by decide +kernel
theorem dL_law_850 : decode cL_law 850 = .ok (.iaload, 1) := by decide +kernel
theorem dL_law_851 : decode cL_law 851 = .ok (.aload_n 0, 1) := by decide +kernel
theorem dL_law_852 : decode cL_law 852 = .ok (.iload_n 3, 1) := by decide +kernel
theorem dL_law_853 : decode cL_law 853 = .ok (.iconst 2, 1) := by decide +kernel
theorem dL_law_854 : decode cL_law 854 = .ok (.iadd, 1) := by decide +kernel
theorem dL_law_855 : decode cL_law 855 = .ok (.iaload, 1) := by decide +kernel
theorem dL_law_856 : decode cL_law 856 = .ok (.invokevirtual 100, 3) := by decide +kernel
theorem dL_law_859 : decode cL_law 859 = .ok (.aload_n 2, 1) := by decide +kernel
theorem dL_law_860 : decode cL_law 860 = .ok (.aload_n 0, 1) := by decide +kernel
theorem dL_law_861 : decode cL_law 861 = .ok (.iload_n 3, 1) := by decide +kernel
theorem dL_law_862 : decode cL_law 862 = .ok (.iconst 1, 1) := by decide +kernel
theorem dL_law_863 : decode cL_law 863 = .ok (.iadd, 1) := by decide +kernel
theorem dL_law_864 : decode cL_law 864 = .ok (.iaload, 1) := by decide +kernel
theorem dL_law_865 : decode cL_law 865 = .ok (.aload_n 0, 1) := by decide +kernel
theorem dL_law_866 : decode cL_law 866 = .ok (.iload_n 3, 1) := by decide +kernel
theorem dL_law_867 : decode cL_law 867 = .ok (.iconst 2, 1) := by decide +kernel
theorem dL_law_868 : decode cL_law 868 = .ok (.iadd, 1) := by decide +kernel
theorem dL_law_869 : decode cL_law 869 = .ok (.iaload, 1) := by decide +kernel
theorem dL_law_870 : decode cL_law 870 = .ok (.invokevirtual 103, 3) := by decide +kernel
theorem dL_law_873 : decode cL_law 873 = .ok (.if_icmp .eq 222, 3) := by decide +kernel
theorem dL_law_876 : decode cL_law 876 = .ok (.iconst 0, 1) := by decide +kernel
theorem dL_law_877 : decode cL_law 877 = .ok (.ireturn, 1) := by decide +kernel
theorem dL_law_878 : decode cL_law 878 = .ok (.aload_n 1, 1) := by decide +kernel
theorem dL_law_879 : decode cL_law 879 = .ok (.aload_n 0, 1) := by decide +kernel
theorem dL_law_880 : decode cL_law 880 = .ok (.iload_n 3, 1) := by decide +kernel
theorem dL_law_881 : decode cL_law 881 = .ok (.iconst 1, 1) := by decide +kernel
theorem dL_law_882 : decode cL_law 882 = .ok (.iadd, 1) := by decide +kernel
theorem dL_law_883 : decode cL_law 883 = .ok (.iaload, 1) := by decide +kernel
theorem dL_law_884 : decode cL_law 884 = .ok (.aload_n 0, 1) := by decide +kernel
theorem dL_law_885 : decode cL_law 885 = .ok (.iload_n 3, 1) := by decide +kernel
theorem dL_law_886 : decode cL_law 886 = .ok (.iconst 2, 1) := by decide +kernel
theorem dL_law_887 : decode cL_law 887 = .ok (.iadd, 1) := by decide +kernel
theorem dL_law_888 : decode cL_law 888 = .ok (.iaload, 1) := by decide +kernel
theorem dL_law_889 : decode cL_law 889 = .ok (.invokevirtual 104, 3) := by decide +kernel
theorem dL_law_892 : decode cL_law 892 = .ok (.aload_n 2, 1) := by decide +kernel
theorem dL_law_893 : decode cL_law 893 = .ok (.aload_n 0, 1) := by decide +kernel
theorem dL_law_894 : decode cL_law 894 = .ok (.iload_n 3, 1) := by decide +kernel
theorem dL_law_895 : decode cL_law 895 = .ok (.iconst 1, 1) := by decide +kernel
theorem dL_law_896 : decode cL_law 896 = .ok (.iadd, 1) := by decide +kernel
theorem dL_law_897 : decode cL_law 897 = .ok (.iaload, 1) := by decide +kernel
theorem dL_law_898 : decode cL_law 898 = .ok (.aload_n 0, 1) := by decide +kernel
theorem dL_law_899 : decode cL_law 899 = .ok (.iload_n 3, 1) := by decide +kernel
theorem dL_law_900 : decode cL_law 900 = .ok (.iconst 2, 1) := by decide +kernel
theorem dL_law_901 : decode cL_law 901 = .ok (.iadd, 1) := by decide +kernel
theorem dL_law_902 : decode cL_law 902 = .ok (.iaload, 1) := by decide +kernel
theorem dL_law_903 : decode cL_law 903 = .ok (.invokevirtual 107, 3) := by decide +kernel
theorem dL_law_906 : decode cL_law 906 = .ok (.if_icmp .eq 189, 3) := by decide +kernel
theorem dL_law_909 : decode cL_law 909 = .ok (.iconst 0, 1) := by decide +kernel
theorem dL_law_910 : decode cL_law 910 = .ok (.ireturn, 1) := by decide +kernel
theorem dL_law_911 : decode cL_law 911 = .ok (.aload_n 1, 1) := by decide +kernel
theorem dL_law_912 : decode cL_law 912 = .ok (.aload_n 0, 1) := by decide +kernel
theorem dL_law_913 : decode cL_law 913 = .ok (.iload_n 3, 1) := by decide +kernel
theorem dL_law_914 : decode cL_law 914 = .ok (.iconst 1, 1) := by decide +kernel
theorem dL_law_915 : decode cL_law 915 = .ok (.iadd, 1) := by decide +kernel
theorem dL_law_916 : decode cL_law 916 = .ok (.iaload, 1) := by decide +kernel
theorem dL_law_917 : decode cL_law 917 = .ok (.invokevirtual 108, 3) := by decide +kernel
theorem dL_law_920 : decode cL_law 920 = .ok (.aload_n 2, 1) := by decide +kernel
theorem dL_law_921 : decode cL_law 921 = .ok (.aload_n 0, 1) := by decide +kernel
theorem dL_law_922 : decode cL_law 922 = .ok (.iload_n 3, 1) := by decide +kernel
theorem dL_law_923 : decode cL_law 923 = .ok (.iconst 1, 1) := by decide +kernel
theorem dL_law_924 : decode cL_law 924 = .ok (.iadd, 1) := by decide +kernel
theorem dL_law_925 : decode cL_law 925 = .ok (.iaload, 1) := by decide +kernel
theorem dL_law_926 : decode cL_law 926 = .ok (.invokevirtual 111, 3) := by decide +kernel
theorem dL_law_929 : decode cL_law 929 = .ok (.if_icmp .eq 166, 3) := by decide +kernel
theorem dL_law_932 : decode cL_law 932 = .ok (.iconst 0, 1) := by decide +kernel
theorem dL_law_933 : decode cL_law 933 = .ok (.ireturn, 1) := by decide +kernel
theorem dL_law_934 : decode cL_law 934 = .ok (.aload_n 1, 1) := by decide +kernel
theorem dL_law_935 : decode cL_law 935 = .ok (.aload_n 0, 1) := by decide +kernel
theorem dL_law_936 : decode cL_law 936 = .ok (.iload_n 3, 1) := by decide +kernel
theorem dL_law_937 : decode cL_law 937 = .ok (.iconst 1, 1) := by decide +kernel
theorem dL_law_938 : decode cL_law 938 = .ok (.iadd, 1) := by decide +kernel
theorem dL_law_939 : decode cL_law 939 = .ok (.iaload, 1) := by decide +kernel
theorem dL_law_940 : decode cL_law 940 = .ok (.invokevirtual 112, 3) := by decide +kernel
theorem dL_law_943 : decode cL_law 943 = .ok (.aload_n 2, 1) := by decide +kernel
theorem dL_law_944 : decode cL_law 944 = .ok (.aload_n 0, 1) := by decide +kernel
theorem dL_law_945 : decode cL_law 945 = .ok (.iload_n 3, 1) := by decide +kernel
theorem dL_law_946 : decode cL_law 946 = .ok (.iconst 1, 1) := by decide +kernel
theorem dL_law_947 : decode cL_law 947 = .ok (.iadd, 1) := by decide +kernel
theorem dL_law_948 : decode cL_law 948 = .ok (.iaload, 1) := by decide +kernel
theorem dL_law_949 : decode cL_law 949 = .ok (.invokevirtual 115, 3) := by decide +kernel
theorem dL_law_952 : decode cL_law 952 = .ok (.if_icmp .eq 143, 3) := by decide +kernel
theorem dL_law_955 : decode cL_law 955 = .ok (.iconst 0, 1) := by decide +kernel
theorem dL_law_956 : decode cL_law 956 = .ok (.ireturn, 1) := by decide +kernel
theorem dL_law_957 : decode cL_law 957 = .ok (.aload_n 1, 1) := by decide +kernel
theorem dL_law_958 : decode cL_law 958 = .ok (.aload_n 0, 1) := by decide +kernel
theorem dL_law_959 : decode cL_law 959 = .ok (.iload_n 3, 1) := by decide +kernel
theorem dL_law_960 : decode cL_law 960 = .ok (.iconst 1, 1) := by decide +kernel
theorem dL_law_961 : decode cL_law 961 = .ok (.iadd, 1) := by decide +kernel
theorem dL_law_962 : decode cL_law 962 = .ok (.iaload, 1) := by decide +kernel
theorem dL_law_963 : decode cL_law 963 = .ok (.invokevirtual 116, 3) := by decide +kernel
theorem dL_law_966 : decode cL_law 966 = .ok (.aload_n 2, 1) := by decide +kernel
theorem dL_law_967 : decode cL_law 967 = .ok (.aload_n 0, 1) := by decide +kernel
theorem dL_law_968 : decode cL_law 968 = .ok (.iload_n 3, 1) := by decide +kernel
theorem dL_law_969 : decode cL_law 969 = .ok (.iconst 1, 1) := by decide +kernel
theorem dL_law_970 : decode cL_law 970 = .ok (.iadd, 1) := by decide +kernel
theorem dL_law_971 : decode cL_law 971 = .ok (.iaload, 1) := by decide +kernel
theorem dL_law_972 : decode cL_law 972 = .ok (.invokevirtual 119, 3) := by decide +kernel
theorem dL_law_975 : decode cL_law 975 = .ok (.if_icmp .eq 120, 3) := by decide +kernel
theorem dL_law_978 : decode cL_law 978 = .ok (.iconst 0, 1) := by decide +kernel
theorem dL_law_979 : decode cL_law 979 = .ok (.ireturn, 1) := by decide +kernel
theorem dL_law_980 : decode cL_law 980 = .ok (.aload_n 1, 1) := by decide +kernel
theorem dL_law_981 : decode cL_law 981 = .ok (.aload_n 0, 1) := by decide +kernel
theorem dL_law_982 : decode cL_law 982 = .ok (.iload_n 3, 1) := by decide +kernel
theorem dL_law_983 : decode cL_law 983 = .ok (.iconst 1, 1) := by decide +kernel
theorem dL_law_984 : decode cL_law 984 = .ok (.iadd, 1) := by decide +kernel
theorem dL_law_985 : decode cL_law 985 = .ok (.iaload, 1) := by decide +kernel
theorem dL_law_986 : decode cL_law 986 = .ok (.aload_n 0, 1) := by decide +kernel
theorem dL_law_987 : decode cL_law 987 = .ok (.iload_n 3, 1) := by decide +kernel
theorem dL_law_988 : decode cL_law 988 = .ok (.iconst 2, 1) := by decide +kernel
theorem dL_law_989 : decode cL_law 989 = .ok (.iadd, 1) := by decide +kernel
theorem dL_law_990 : decode cL_law 990 = .ok (.iaload, 1) := by decide +kernel
theorem dL_law_991 : decode cL_law 991 = .ok (.invokevirtual 120, 3) := by decide +kernel
theorem dL_law_994 : decode cL_law 994 = .ok (.aload_n 2, 1) := by decide +kernel
theorem dL_law_995 : decode cL_law 995 = .ok (.aload_n 0, 1) := by decide +kernel
theorem dL_law_996 : decode cL_law 996 = .ok (.iload_n 3, 1) := by decide +kernel
theorem dL_law_997 : decode cL_law 997 = .ok (.iconst 1, 1) := by decide +kernel
theorem dL_law_998 : decode cL_law 998 = .ok (.iadd, 1) := by decide +kernel
theorem dL_law_999 : decode cL_law 999 = .ok (.iaload, 1) := by decide +kernel
theorem dL_law_1000 : decode cL_law 1000 = .ok (.aload_n 0, 1) := by decide +kernel
theorem dL_law_1001 : decode cL_law 1001 = .ok (.iload_n 3, 1) := by decide +kernel
theorem dL_law_1002 : decode cL_law 1002 = .ok (.iconst 2, 1) := by decide +kernel
theorem dL_law_1003 : decode cL_law 1003 = .ok (.iadd, 1) := by decide +kernel
theorem dL_law_1004 : decode cL_law 1004 = .ok (.iaload, 1) := by decide +kernel
theorem dL_law_1005 : decode cL_law 1005 = .ok (.invokevirtual 123, 3) := by decide +kernel
theorem dL_law_1008 : decode cL_law 1008 = .ok (.if_icmp .eq 87, 3) := by decide +kernel
theorem dL_law_1011 : decode cL_law 1011 = .ok (.iconst 0, 1) := by decide +kernel
theorem dL_law_1012 : decode cL_law 1012 = .ok (.ireturn, 1) := by decide +kernel
theorem dL_law_1013 : decode cL_law 1013 = .ok (.aload_n 1, 1) := by decide +kernel
theorem dL_law_1014 : decode cL_law 1014 = .ok (.invokevirtual 124, 3) := by decide +kernel
theorem dL_law_1017 : decode cL_law 1017 = .ok (.aload_n 2, 1) := by decide +kernel
theorem dL_law_1018 : decode cL_law 1018 = .ok (.invokevirtual 127, 3) := by decide +kernel
theorem dL_law_1021 : decode cL_law 1021 = .ok (.if_icmp .eq 74, 3) := by decide +kernel
theorem dL_law_1024 : decode cL_law 1024 = .ok (.iconst 0, 1) := by decide +kernel
theorem dL_law_1025 : decode cL_law 1025 = .ok (.ireturn, 1) := by decide +kernel
theorem dL_law_1026 : decode cL_law 1026 = .ok (.aload_n 1, 1) := by decide +kernel
theorem dL_law_1027 : decode cL_law 1027 = .ok (.aload_n 0, 1) := by decide +kernel
theorem dL_law_1028 : decode cL_law 1028 = .ok (.iload_n 3, 1) := by decide +kernel
theorem dL_law_1029 : decode cL_law 1029 = .ok (.iconst 1, 1) := by decide +kernel
theorem dL_law_1030 : decode cL_law 1030 = .ok (.iadd, 1) := by decide +kernel
theorem dL_law_1031 : decode cL_law 1031 = .ok (.iaload, 1) := by decide +kernel
theorem dL_law_1032 : decode cL_law 1032 = .ok (.invokevirtual 128, 3) := by decide +kernel
theorem dL_law_1035 : decode cL_law 1035 = .ok (.aload_n 2, 1) := by decide +kernel
theorem dL_law_1036 : decode cL_law 1036 = .ok (.aload_n 0, 1) := by decide +kernel
theorem dL_law_1037 : decode cL_law 1037 = .ok (.iload_n 3, 1) := by decide +kernel
theorem dL_law_1038 : decode cL_law 1038 = .ok (.iconst 1, 1) := by decide +kernel
theorem dL_law_1039 : decode cL_law 1039 = .ok (.iadd, 1) := by decide +kernel
theorem dL_law_1040 : decode cL_law 1040 = .ok (.iaload, 1) := by decide +kernel
theorem dL_law_1041 : decode cL_law 1041 = .ok (.invokevirtual 131, 3) := by decide +kernel
theorem dL_law_1044 : decode cL_law 1044 = .ok (.if_icmp .eq 51, 3) := by decide +kernel
theorem dL_law_1047 : decode cL_law 1047 = .ok (.iconst 0, 1) := by decide +kernel
theorem dL_law_1048 : decode cL_law 1048 = .ok (.ireturn, 1) := by decide +kernel
theorem dL_law_1049 : decode cL_law 1049 = .ok (.aload_n 1, 1) := by decide +kernel
theorem dL_law_1050 : decode cL_law 1050 = .ok (.aload_n 0, 1) := by decide +kernel
theorem dL_law_1051 : decode cL_law 1051 = .ok (.iload_n 3, 1) := by decide +kernel
theorem dL_law_1052 : decode cL_law 1052 = .ok (.iconst 1, 1) := by decide +kernel
theorem dL_law_1053 : decode cL_law 1053 = .ok (.iadd, 1) := by decide +kernel
theorem dL_law_1054 : decode cL_law 1054 = .ok (.iaload, 1) := by decide +kernel
theorem dL_law_1055 : decode cL_law 1055 = .ok (.invokevirtual 132, 3) := by decide +kernel
theorem dL_law_1058 : decode cL_law 1058 = .ok (.aload_n 2, 1) := by decide +kernel
theorem dL_law_1059 : decode cL_law 1059 = .ok (.aload_n 0, 1) := by decide +kernel
theorem dL_law_1060 : decode cL_law 1060 = .ok (.iload_n 3, 1) := by decide +kernel
theorem dL_law_1061 : decode cL_law 1061 = .ok (.iconst 1, 1) := by decide +kernel
theorem dL_law_1062 : decode cL_law 1062 = .ok (.iadd, 1) := by decide +kernel
theorem dL_law_1063 : decode cL_law 1063 = .ok (.iaload, 1) := by decide +kernel
theorem dL_law_1064 : decode cL_law 1064 = .ok (.invokevirtual 135, 3) := by decide +kernel
theorem dL_law_1067 : decode cL_law 1067 = .ok (.if_icmp .eq 28, 3) := by decide +kernel
theorem dL_law_1070 : decode cL_law 1070 = .ok (.iconst 0, 1) := by decide +kernel
theorem dL_law_1071 : decode cL_law 1071 = .ok (.ireturn, 1) := by decide +kernel
theorem dL_law_1072 : decode cL_law 1072 = .ok (.aload_n 1, 1) := by decide +kernel
theorem dL_law_1073 : decode cL_law 1073 = .ok (.aload_n 0, 1) := by decide +kernel
theorem dL_law_1074 : decode cL_law 1074 = .ok (.iload_n 3, 1) := by decide +kernel
theorem dL_law_1075 : decode cL_law 1075 = .ok (.iconst 1, 1) := by decide +kernel
theorem dL_law_1076 : decode cL_law 1076 = .ok (.iadd, 1) := by decide +kernel
theorem dL_law_1077 : decode cL_law 1077 = .ok (.iaload, 1) := by decide +kernel
theorem dL_law_1078 : decode cL_law 1078 = .ok (.invokevirtual 136, 3) := by decide +kernel
theorem dL_law_1081 : decode cL_law 1081 = .ok (.aload_n 2, 1) := by decide +kernel
theorem dL_law_1082 : decode cL_law 1082 = .ok (.aload_n 0, 1) := by decide +kernel
theorem dL_law_1083 : decode cL_law 1083 = .ok (.iload_n 3, 1) := by decide +kernel
theorem dL_law_1084 : decode cL_law 1084 = .ok (.iconst 1, 1) := by decide +kernel
theorem dL_law_1085 : decode cL_law 1085 = .ok (.iadd, 1) := by decide +kernel
theorem dL_law_1086 : decode cL_law 1086 = .ok (.iaload, 1) := by decide +kernel
theorem dL_law_1087 : decode cL_law 1087 = .ok (.invokevirtual 139, 3) := by decide +kernel
theorem dL_law_1090 : decode cL_law 1090 = .ok (.if_icmp .eq 5, 3) := by decide +kernel
theorem dL_law_1093 : decode cL_law 1093 = .ok (.iconst 0, 1) := by decide +kernel
theorem dL_law_1094 : decode cL_law 1094 = .ok (.ireturn, 1) := by decide +kernel
theorem dL_law_1095 : decode cL_law 1095 = .ok (.iinc 3 5, 3) := by decide +kernel
theorem dL_law_1098 : decode cL_law 1098 = .ok (.goto (-1080), 3) := by decide +kernel
theorem dL_law_1101 : decode cL_law 1101 = .ok (.iconst 1, 1) := by decide +kernel
theorem dL_law_1102 : decode cL_law 1102 = .ok (.ireturn, 1) := by decide +kernel
