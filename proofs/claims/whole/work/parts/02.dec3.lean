theorem dX7_size_79 : decode cX7_size 79 = .ok (.goto 4, 3) := by decide +kernel
theorem dX7_size_82 : decode cX7_size 82 = .ok (.iconst 0, 1) := by decide +kernel
theorem dX7_size_83 : decode cX7_size 83 = .ok (.ireturn, 1) := by decide +kernel
theorem dX7_size_84 : decode cX7_size 84 = .ok (.iconst (-1), 1) := by decide +kernel
theorem dX7_size_85 : decode cX7_size 85 = .ok (.ireturn, 1) := by decide +kernel
theorem dX7_trouble_0 : decode cX7_trouble 0 = .ok (.aload_n 0, 1) := by decide +kernel
theorem dX7_trouble_1 : decode cX7_trouble 1 = .ok (.getfield 47, 3) := by decide +kernel
theorem dX7_trouble_4 : decode cX7_trouble 4 = .ok (.ireturn, 1) := by decide +kernel
theorem dX7_refuse_0 : decode cX7_refuse 0 = .ok (.aload_n 0, 1) := by decide +kernel
theorem dX7_refuse_1 : decode cX7_refuse 1 = .ok (.iload_n 1, 1) := by decide +kernel
theorem dX7_refuse_2 : decode cX7_refuse 2 = .ok (.putfield 47, 3) := by decide +kernel
theorem dX7_refuse_5 : decode cX7_refuse 5 = .ok (.iconst (-1), 1) := by decide +kernel
theorem dX7_refuse_6 : decode cX7_refuse 6 = .ok (.ireturn, 1) := by decide +kernel
theorem dX7_answer_0 : decode cX7_answer 0 = .ok (.aload_n 0, 1) := by decide +kernel
theorem dX7_answer_1 : decode cX7_answer 1 = .ok (.iconst 0, 1) := by decide +kernel
theorem dX7_answer_2 : decode cX7_answer 2 = .ok (.putfield 47, 3) := by decide +kernel
theorem dX7_answer_5 : decode cX7_answer 5 = .ok (.iload_n 1, 1) := by decide +kernel
theorem dX7_answer_6 : decode cX7_answer 6 = .ok (.ireturn, 1) := by decide +kernel
theorem dX7_part_0 : decode cX7_part 0 = .ok (.aload_n 0, 1) := by decide +kernel
theorem dX7_part_1 : decode cX7_part 1 = .ok (.iconst 0, 1) := by decide +kernel
theorem dX7_part_2 : decode cX7_part 2 = .ok (.putfield 47, 3) := by decide +kernel
theorem dX7_part_5 : decode cX7_part 5 = .ok (.bipush 24, 2) := by decide +kernel
theorem dX7_part_7 : decode cX7_part 7 = .ok (.lload_n 1, 1) := by decide +kernel
theorem dX7_part_8 : decode cX7_part 8 = .ok (.invokestatic 338, 3) := by decide +kernel
theorem dX7_part_11 : decode cX7_part 11 = .ok (.invokestatic 343, 3) := by decide +kernel
theorem dX7_part_14 : decode cX7_part 14 = .ok (.istore 4, 2) := by decide +kernel
theorem dX7_part_16 : decode cX7_part 16 = .ok (.iload_n 3, 1) := by decide +kernel
theorem dX7_part_17 : decode cX7_part 17 = .ok (.ifCond .eq 12, 3) := by decide +kernel
theorem dX7_part_20 : decode cX7_part 20 = .ok (.ldc2_w 281, 3) := by decide +kernel
theorem dX7_part_23 : decode cX7_part 23 = .ok (.iload 4, 2) := by decide +kernel
theorem dX7_part_25 : decode cX7_part 25 = .ok (.lshr, 1) := by decide +kernel
theorem dX7_part_26 : decode cX7_part 26 = .ok (.goto 7, 3) := by decide +kernel
theorem dX7_part_29 : decode cX7_part 29 = .ok (.lload_n 1, 1) := by decide +kernel
theorem dX7_part_30 : decode cX7_part 30 = .ok (.iload 4, 2) := by decide +kernel
theorem dX7_part_32 : decode cX7_part 32 = .ok (.lshr, 1) := by decide +kernel
theorem dX7_part_33 : decode cX7_part 33 = .ok (.lreturn, 1) := by decide +kernel
theorem dX7_noBus_0 : decode cX7_noBus 0 = .ok (.aload_n 0, 1) := by decide +kernel
theorem dX7_noBus_1 : decode cX7_noBus 1 = .ok (.getfield 19, 3) := by decide +kernel
theorem dX7_noBus_4 : decode cX7_noBus 4 = .ok (.getfield 97, 3) := by decide +kernel
theorem dX7_noBus_7 : decode cX7_noBus 7 = .ok (.ifCond .ne 7, 3) := by decide +kernel
theorem dX7_noBus_10 : decode cX7_noBus 10 = .ok (.iconst 1, 1) := by decide +kernel
theorem dX7_noBus_11 : decode cX7_noBus 11 = .ok (.goto 4, 3) := by decide +kernel
theorem dX7_noBus_14 : decode cX7_noBus 14 = .ok (.iconst 0, 1) := by decide +kernel
theorem dX7_noBus_15 : decode cX7_noBus 15 = .ok (.ireturn, 1) := by decide +kernel
theorem dX7_hasPortOnWay_0 : decode cX7_hasPortOnWay 0 = .ok (.aload_n 0, 1) := by decide +kernel
theorem dX7_hasPortOnWay_1 : decode cX7_hasPortOnWay 1 = .ok (.getfield 19, 3) := by decide +kernel
theorem dX7_hasPortOnWay_4 : decode cX7_hasPortOnWay 4 = .ok (.iload_n 1, 1) := by decide +kernel
theorem dX7_hasPortOnWay_5 : decode cX7_hasPortOnWay 5 = .ok (.iload_n 2, 1) := by decide +kernel
theorem dX7_hasPortOnWay_6 : decode cX7_hasPortOnWay 6 = .ok (.invokevirtual 151, 3) := by decide +kernel
theorem dX7_hasPortOnWay_9 : decode cX7_hasPortOnWay 9 = .ok (.ifCond .eq 31, 3) := by decide +kernel
theorem dX7_hasPortOnWay_12 : decode cX7_hasPortOnWay 12 = .ok (.iload_n 3, 1) := by decide +kernel
theorem dX7_hasPortOnWay_13 : decode cX7_hasPortOnWay 13 = .ok (.ifCond .lt 27, 3) := by decide +kernel
theorem dX7_hasPortOnWay_16 : decode cX7_hasPortOnWay 16 = .ok (.iload_n 3, 1) := by decide +kernel
theorem dX7_hasPortOnWay_17 : decode cX7_hasPortOnWay 17 = .ok (.aload_n 0, 1) := by decide +kernel
theorem dX7_hasPortOnWay_18 : decode cX7_hasPortOnWay 18 = .ok (.getfield 19, 3) := by decide +kernel
theorem dX7_hasPortOnWay_21 : decode cX7_hasPortOnWay 21 = .ok (.getfield 81, 3) := by decide +kernel
theorem dX7_hasPortOnWay_24 : decode cX7_hasPortOnWay 24 = .ok (.getfield 348, 3) := by decide +kernel
theorem dX7_hasPortOnWay_27 : decode cX7_hasPortOnWay 27 = .ok (.iload_n 1, 1) := by decide +kernel
theorem dX7_hasPortOnWay_28 : decode cX7_hasPortOnWay 28 = .ok (.iload_n 2, 1) := by decide +kernel
theorem dX7_hasPortOnWay_29 : decode cX7_hasPortOnWay 29 = .ok (.invokestatic 158, 3) := by decide +kernel
theorem dX7_hasPortOnWay_32 : decode cX7_hasPortOnWay 32 = .ok (.iaload, 1) := by decide +kernel
theorem dX7_hasPortOnWay_33 : decode cX7_hasPortOnWay 33 = .ok (.if_icmp .ge 7, 3) := by decide +kernel
theorem dX7_hasPortOnWay_36 : decode cX7_hasPortOnWay 36 = .ok (.iconst 1, 1) := by decide +kernel
theorem dX7_hasPortOnWay_37 : decode cX7_hasPortOnWay 37 = .ok (.goto 4, 3) := by decide +kernel
theorem dX7_hasPortOnWay_40 : decode cX7_hasPortOnWay 40 = .ok (.iconst 0, 1) := by decide +kernel
theorem dX7_hasPortOnWay_41 : decode cX7_hasPortOnWay 41 = .ok (.ireturn, 1) := by decide +kernel
theorem dX7_hasNet_0 : decode cX7_hasNet 0 = .ok (.iload_n 0, 1) := by decide +kernel
theorem dX7_hasNet_1 : decode cX7_hasNet 1 = .ok (.ifCond .lt 12, 3) := by decide +kernel
theorem dX7_hasNet_4 : decode cX7_hasNet 4 = .ok (.iload_n 0, 1) := by decide +kernel
theorem dX7_hasNet_5 : decode cX7_hasNet 5 = .ok (.iconst 2, 1) := by decide +kernel
theorem dX7_hasNet_6 : decode cX7_hasNet 6 = .ok (.if_icmp .ge 7, 3) := by decide +kernel
theorem dX7_hasNet_9 : decode cX7_hasNet 9 = .ok (.iconst 1, 1) := by decide +kernel
theorem dX7_hasNet_10 : decode cX7_hasNet 10 = .ok (.goto 4, 3) := by decide +kernel
theorem dX7_hasNet_13 : decode cX7_hasNet 13 = .ok (.iconst 0, 1) := by decide +kernel
theorem dX7_hasNet_14 : decode cX7_hasNet 14 = .ok (.ireturn, 1) := by decide +kernel
theorem dX7_isLostSort_0 : decode cX7_isLostSort 0 = .ok (.iload_n 0, 1) := by decide +kernel
theorem dX7_isLostSort_1 : decode cX7_isLostSort 1 = .ok (.ifCond .lt 12, 3) := by decide +kernel
theorem dX7_isLostSort_4 : decode cX7_isLostSort 4 = .ok (.iload_n 0, 1) := by decide +kernel
theorem dX7_isLostSort_5 : decode cX7_isLostSort 5 = .ok (.iconst 3, 1) := by decide +kernel
theorem dX7_isLostSort_6 : decode cX7_isLostSort 6 = .ok (.if_icmp .ge 7, 3) := by decide +kernel
theorem dX7_isLostSort_9 : decode cX7_isLostSort 9 = .ok (.iconst 1, 1) := by decide +kernel
theorem dX7_isLostSort_10 : decode cX7_isLostSort 10 = .ok (.goto 4, 3) := by decide +kernel
theorem dX7_isLostSort_13 : decode cX7_isLostSort 13 = .ok (.iconst 0, 1) := by decide +kernel
theorem dX7_isLostSort_14 : decode cX7_isLostSort 14 = .ok (.ireturn, 1) := by decide +kernel
theorem dX7_isTicks_0 : decode cX7_isTicks 0 = .ok (.iload_n 0, 1) := by decide +kernel
theorem dX7_isTicks_1 : decode cX7_isTicks 1 = .ok (.iconst 1, 1) := by decide +kernel
theorem dX7_isTicks_2 : decode cX7_isTicks 2 = .ok (.if_icmp .lt 14, 3) := by decide +kernel
theorem dX7_isTicks_5 : decode cX7_isTicks 5 = .ok (.iload_n 0, 1) := by decide +kernel
theorem dX7_isTicks_6 : decode cX7_isTicks 6 = .ok (.sipush 600, 3) := by decide +kernel
theorem dX7_isTicks_9 : decode cX7_isTicks 9 = .ok (.if_icmp .gt 7, 3) := by decide +kernel
theorem dX7_isTicks_12 : decode cX7_isTicks 12 = .ok (.iconst 1, 1) := by decide +kernel
theorem dX7_isTicks_13 : decode cX7_isTicks 13 = .ok (.goto 4, 3) := by decide +kernel
theorem dX7_isTicks_16 : decode cX7_isTicks 16 = .ok (.iconst 0, 1) := by decide +kernel
theorem dX7_isTicks_17 : decode cX7_isTicks 17 = .ok (.ireturn, 1) := by decide +kernel
theorem dX7_earOf_0 : decode cX7_earOf 0 = .ok (.iload_n 0, 1) := by decide +kernel
theorem dX7_earOf_1 : decode cX7_earOf 1 = .ok (.iconst 3, 1) := by decide +kernel
theorem dX7_earOf_2 : decode cX7_earOf 2 = .ok (.imul, 1) := by decide +kernel
theorem dX7_earOf_3 : decode cX7_earOf 3 = .ok (.iload_n 1, 1) := by decide +kernel
theorem dX7_earOf_4 : decode cX7_earOf 4 = .ok (.iadd, 1) := by decide +kernel
theorem dX7_earOf_5 : decode cX7_earOf 5 = .ok (.ireturn, 1) := by decide +kernel
theorem dX7_numberBehind_0 : decode cX7_numberBehind 0 = .ok (.iload_n 0, 1) := by decide +kernel
theorem dX7_numberBehind_1 : decode cX7_numberBehind 1 = .ok (.sipush 255, 3) := by decide +kernel
theorem dX7_numberBehind_4 : decode cX7_numberBehind 4 = .ok (.if_icmp .ne 7, 3) := by decide +kernel
theorem dX7_numberBehind_7 : decode cX7_numberBehind 7 = .ok (.iconst 1, 1) := by decide +kernel
theorem dX7_numberBehind_8 : decode cX7_numberBehind 8 = .ok (.goto 6, 3) := by decide +kernel
theorem dX7_numberBehind_11 : decode cX7_numberBehind 11 = .ok (.iload_n 0, 1) := by decide +kernel
theorem dX7_numberBehind_12 : decode cX7_numberBehind 12 = .ok (.iconst 1, 1) := by decide +kernel
theorem dX7_numberBehind_13 : decode cX7_numberBehind 13 = .ok (.iadd, 1) := by decide +kernel
theorem dX7_numberBehind_14 : decode cX7_numberBehind 14 = .ok (.ireturn, 1) := by decide +kernel
theorem dX7_copyAll_0 : decode cX7_copyAll 0 = .ok (.aload_n 0, 1) := by decide +kernel
theorem dX7_copyAll_1 : decode cX7_copyAll 1 = .ok (.iconst 0, 1) := by decide +kernel
theorem dX7_copyAll_2 : decode cX7_copyAll 2 = .ok (.aload_n 1, 1) := by decide +kernel
theorem dX7_copyAll_3 : decode cX7_copyAll 3 = .ok (.iconst 0, 1) := by decide +kernel
theorem dX7_copyAll_4 : decode cX7_copyAll 4 = .ok (.aload_n 0, 1) := by decide +kernel
theorem dX7_copyAll_5 : decode cX7_copyAll 5 = .ok (.arraylength, 1) := by decide +kernel
theorem dX7_copyAll_6 : decode cX7_copyAll 6 = .ok (.aload_n 1, 1) := by decide +kernel
theorem dX7_copyAll_7 : decode cX7_copyAll 7 = .ok (.arraylength, 1) := by decide +kernel
theorem dX7_copyAll_8 : decode cX7_copyAll 8 = .ok (.invokestatic 343, 3) := by decide +kernel
theorem dX7_copyAll_11 : decode cX7_copyAll 11 = .ok (.invokestatic 351, 3) := by decide +kernel
theorem dX7_copyAll_14 : decode cX7_copyAll 14 = .ok (.return_, 1) := by decide +kernel
theorem dX8_init_0 : decode cX8_init 0 = .ok (.aload_n 0, 1) := by decide +kernel
theorem dX8_init_1 : decode cX8_init 1 = .ok (.invokespecial 3, 3) := by decide +kernel
theorem dX8_init_4 : decode cX8_init 4 = .ok (.aload_n 0, 1) := by decide +kernel
theorem dX8_init_5 : decode cX8_init 5 = .ok (.iconst (-1), 1) := by decide +kernel
theorem dX8_init_6 : decode cX8_init 6 = .ok (.putfield 9, 3) := by decide +kernel
theorem dX8_init_9 : decode cX8_init 9 = .ok (.aload_n 0, 1) := by decide +kernel
theorem dX8_init_10 : decode cX8_init 10 = .ok (.sipush 900, 3) := by decide +kernel
theorem dX8_init_13 : decode cX8_init 13 = .ok (.newarray .int, 2) := by decide +kernel
theorem dX8_init_15 : decode cX8_init 15 = .ok (.putfield 13, 3) := by decide +kernel
theorem dX8_init_18 : decode cX8_init 18 = .ok (.aload_n 0, 1) := by decide +kernel
theorem dX8_init_19 : decode cX8_init 19 = .ok (.bipush 7, 2) := by decide +kernel
theorem dX8_init_21 : decode cX8_init 21 = .ok (.newarray .int, 2) := by decide +kernel
theorem dX8_init_23 : decode cX8_init 23 = .ok (.putfield 17, 3) := by decide +kernel
theorem dX8_init_26 : decode cX8_init 26 = .ok (.aload_n 0, 1) := by decide +kernel
theorem dX8_init_27 : decode cX8_init 27 = .ok (.bipush 7, 2) := by decide +kernel
theorem dX8_init_29 : decode cX8_init 29 = .ok (.newarray .int, 2) := by decide +kernel
theorem dX8_init_31 : decode cX8_init 31 = .ok (.putfield 20, 3) := by decide +kernel
theorem dX8_init_34 : decode cX8_init 34 = .ok (.aload_n 0, 1) := by decide +kernel
theorem dX8_init_35 : decode cX8_init 35 = .ok (.bipush 6, 2) := by decide +kernel
theorem dX8_init_37 : decode cX8_init 37 = .ok (.newarray .int, 2) := by decide +kernel
theorem dX8_init_39 : decode cX8_init 39 = .ok (.putfield 23, 3) := by decide +kernel
theorem dX8_init_42 : decode cX8_init 42 = .ok (.aload_n 0, 1) := by decide +kernel
theorem dX8_init_43 : decode cX8_init 43 = .ok (.bipush 6, 2) := by decide +kernel
theorem dX8_init_45 : decode cX8_init 45 = .ok (.newarray .int, 2) := by decide +kernel
theorem dX8_init_47 : decode cX8_init 47 = .ok (.putfield 26, 3) := by decide +kernel
theorem dX8_init_50 : decode cX8_init 50 = .ok (.aload_n 0, 1) := by decide +kernel
theorem dX8_init_51 : decode cX8_init 51 = .ok (.bipush 56, 2) := by decide +kernel
theorem dX8_init_53 : decode cX8_init 53 = .ok (.newarray .int, 2) := by decide +kernel
theorem dX8_init_55 : decode cX8_init 55 = .ok (.putfield 29, 3) := by decide +kernel
theorem dX8_init_58 : decode cX8_init 58 = .ok (.aload_n 0, 1) := by decide +kernel
theorem dX8_init_59 : decode cX8_init 59 = .ok (.bipush 56, 2) := by decide +kernel
theorem dX8_init_61 : decode cX8_init 61 = .ok (.newarray .int, 2) := by decide +kernel
theorem dX8_init_63 : decode cX8_init 63 = .ok (.putfield 32, 3) := by decide +kernel
theorem dX8_init_66 : decode cX8_init 66 = .ok (.aload_n 0, 1) := by decide +kernel
theorem dX8_init_67 : decode cX8_init 67 = .ok (.bipush 14, 2) := by decide +kernel
theorem dX8_init_69 : decode cX8_init 69 = .ok (.newarray .long, 2) := by decide +kernel
theorem dX8_init_71 : decode cX8_init 71 = .ok (.putfield 35, 3) := by decide +kernel
theorem dX8_init_74 : decode cX8_init 74 = .ok (.aload_n 0, 1) := by decide +kernel
theorem dX8_init_75 : decode cX8_init 75 = .ok (.bipush 14, 2) := by decide +kernel
theorem dX8_init_77 : decode cX8_init 77 = .ok (.newarray .long, 2) := by decide +kernel
theorem dX8_init_79 : decode cX8_init 79 = .ok (.putfield 39, 3) := by decide +kernel
theorem dX8_init_82 : decode cX8_init 82 = .ok (.aload_n 0, 1) := by decide +kernel
theorem dX8_init_83 : decode cX8_init 83 = .ok (.sipush 1809, 3) := by decide +kernel
theorem dX8_init_86 : decode cX8_init 86 = .ok (.newarray .int, 2) := by decide +kernel
theorem dX8_init_88 : decode cX8_init 88 = .ok (.putfield 42, 3) := by decide +kernel
theorem dX8_init_91 : decode cX8_init 91 = .ok (.aload_n 0, 1) := by decide +kernel
theorem dX8_init_92 : decode cX8_init 92 = .ok (.sipush 1809, 3) := by decide +kernel
theorem dX8_init_95 : decode cX8_init 95 = .ok (.newarray .int, 2) := by decide +kernel
theorem dX8_init_97 : decode cX8_init 97 = .ok (.putfield 45, 3) := by decide +kernel
theorem dX8_init_100 : decode cX8_init 100 = .ok (.aload_n 0, 1) := by decide +kernel
theorem dX8_init_101 : decode cX8_init 101 = .ok (.sipush 1809, 3) := by decide +kernel
theorem dX8_init_104 : decode cX8_init 104 = .ok (.newarray .int, 2) := by decide +kernel
theorem dX8_init_106 : decode cX8_init 106 = .ok (.putfield 48, 3) := by decide +kernel
theorem dX8_init_109 : decode cX8_init 109 = .ok (.return_, 1) := by decide +kernel
theorem dX8_thrown_0 : decode cX8_thrown 0 = .ok (.aload_n 0, 1) := by decide +kernel
theorem dX8_thrown_1 : decode cX8_thrown 1 = .ok (.getfield 51, 3) := by decide +kernel
theorem dX8_thrown_4 : decode cX8_thrown 4 = .ok (.ireturn, 1) := by decide +kernel
theorem dX8_in_0 : decode cX8_in 0 = .ok (.iload_n 0, 1) := by decide +kernel
theorem dX8_in_1 : decode cX8_in 1 = .ok (.iload_n 1, 1) := by decide +kernel
theorem dX8_in_2 : decode cX8_in 2 = .ok (.if_icmp .lt 12, 3) := by decide +kernel
theorem dX8_in_5 : decode cX8_in 5 = .ok (.iload_n 0, 1) := by decide +kernel
theorem dX8_in_6 : decode cX8_in 6 = .ok (.iload_n 2, 1) := by decide +kernel
theorem dX8_in_7 : decode cX8_in 7 = .ok (.if_icmp .gt 7, 3) := by decide +kernel
theorem dX8_in_10 : decode cX8_in 10 = .ok (.iconst 1, 1) := by decide +kernel
theorem dX8_in_11 : decode cX8_in 11 = .ok (.goto 4, 3) := by decide +kernel
theorem dX8_in_14 : decode cX8_in 14 = .ok (.iconst 0, 1) := by decide +kernel
theorem dX8_in_15 : decode cX8_in 15 = .ok (.ireturn, 1) := by decide +kernel
theorem dX8_fresh_0 : decode cX8_fresh 0 = .ok (.aload_n 0, 1) := by decide +kernel
theorem dX8_fresh_1 : decode cX8_fresh 1 = .ok (.iconst 0, 1) := by decide +kernel
theorem dX8_fresh_2 : decode cX8_fresh 2 = .ok (.putfield 51, 3) := by decide +kernel
theorem dX8_fresh_5 : decode cX8_fresh 5 = .ok (.aload_n 0, 1) := by decide +kernel
theorem dX8_fresh_6 : decode cX8_fresh 6 = .ok (.iconst 0, 1) := by decide +kernel
theorem dX8_fresh_7 : decode cX8_fresh 7 = .ok (.putfield 54, 3) := by decide +kernel
theorem dX8_fresh_10 : decode cX8_fresh 10 = .ok (.aload_n 0, 1) := by decide +kernel
theorem dX8_fresh_11 : decode cX8_fresh 11 = .ok (.iconst (-1), 1) := by decide +kernel
theorem dX8_fresh_12 : decode cX8_fresh 12 = .ok (.putfield 9, 3) := by decide +kernel
theorem dX8_fresh_15 : decode cX8_fresh 15 = .ok (.return_, 1) := by decide +kernel
theorem dX8_no_0 : decode cX8_no 0 = .ok (.aload_n 0, 1) := by decide +kernel
theorem dX8_no_1 : decode cX8_no 1 = .ok (.iload_n 1, 1) := by decide +kernel
theorem dX8_no_2 : decode cX8_no 2 = .ok (.putfield 54, 3) := by decide +kernel
theorem dX8_no_5 : decode cX8_no 5 = .ok (.iconst (-1), 1) := by decide +kernel
theorem dX8_no_6 : decode cX8_no 6 = .ok (.ireturn, 1) := by decide +kernel
theorem dX8_feed_0 : decode cX8_feed 0 = .ok (.aload_n 0, 1) := by decide +kernel
theorem dX8_feed_1 : decode cX8_feed 1 = .ok (.iconst 0, 1) := by decide +kernel
theorem dX8_feed_2 : decode cX8_feed 2 = .ok (.putfield 51, 3) := by decide +kernel
theorem dX8_feed_5 : decode cX8_feed 5 = .ok (.aload_n 0, 1) := by decide +kernel
theorem dX8_feed_6 : decode cX8_feed 6 = .ok (.getfield 57, 3) := by decide +kernel
theorem dX8_feed_9 : decode cX8_feed 9 = .ok (.sipush 880, 3) := by decide +kernel
theorem dX8_feed_12 : decode cX8_feed 12 = .ok (.if_icmp .le 5, 3) := by decide +kernel
theorem dX8_feed_15 : decode cX8_feed 15 = .ok (.iconst (-1), 1) := by decide +kernel
theorem dX8_feed_16 : decode cX8_feed 16 = .ok (.ireturn, 1) := by decide +kernel
theorem dX8_feed_17 : decode cX8_feed 17 = .ok (.aload_n 0, 1) := by decide +kernel
theorem dX8_feed_18 : decode cX8_feed 18 = .ok (.iload_n 1, 1) := by decide +kernel
theorem dX8_feed_19 : decode cX8_feed 19 = .ok (.invokevirtual 60, 3) := by decide +kernel
theorem dX8_feed_22 : decode cX8_feed 22 = .ok (.aload_n 0, 1) := by decide +kernel
theorem dX8_feed_23 : decode cX8_feed 23 = .ok (.iload_n 2, 1) := by decide +kernel
theorem dX8_feed_24 : decode cX8_feed 24 = .ok (.invokevirtual 60, 3) := by decide +kernel
theorem dX8_feed_27 : decode cX8_feed 27 = .ok (.aload_n 0, 1) := by decide +kernel
theorem dX8_feed_28 : decode cX8_feed 28 = .ok (.iload_n 3, 1) := by decide +kernel
theorem dX8_feed_29 : decode cX8_feed 29 = .ok (.invokevirtual 60, 3) := by decide +kernel
theorem dX8_feed_32 : decode cX8_feed 32 = .ok (.aload_n 0, 1) := by decide +kernel
theorem dX8_feed_33 : decode cX8_feed 33 = .ok (.iload 4, 2) := by decide +kernel
theorem dX8_feed_35 : decode cX8_feed 35 = .ok (.invokevirtual 60, 3) := by decide +kernel
theorem dX8_feed_38 : decode cX8_feed 38 = .ok (.aload_n 0, 1) := by decide +kernel
theorem dX8_feed_39 : decode cX8_feed 39 = .ok (.iload 5, 2) := by decide +kernel
theorem dX8_feed_41 : decode cX8_feed 41 = .ok (.invokevirtual 60, 3) := by decide +kernel
theorem dX8_feed_44 : decode cX8_feed 44 = .ok (.aload_n 0, 1) := by decide +kernel
theorem dX8_feed_45 : decode cX8_feed 45 = .ok (.getfield 57, 3) := by decide +kernel
theorem dX8_feed_48 : decode cX8_feed 48 = .ok (.ireturn, 1) := by decide +kernel
theorem dX8_laysWord_0 : decode cX8_laysWord 0 = .ok (.iconst 0, 1) := by decide +kernel
theorem dX8_laysWord_1 : decode cX8_laysWord 1 = .ok (.istore_n 2, 1) := by decide +kernel
theorem dX8_laysWord_2 : decode cX8_laysWord 2 = .ok (.iload_n 2, 1) := by decide +kernel
theorem dX8_laysWord_3 : decode cX8_laysWord 3 = .ok (.iconst 4, 1) := by decide +kernel
theorem dX8_laysWord_4 : decode cX8_laysWord 4 = .ok (.if_icmp .ge 33, 3) := by decide +kernel
theorem dX8_laysWord_7 : decode cX8_laysWord 7 = .ok (.aload_n 0, 1) := by decide +kernel
theorem dX8_laysWord_8 : decode cX8_laysWord 8 = .ok (.getfield 13, 3) := by decide +kernel
theorem dX8_laysWord_11 : decode cX8_laysWord 11 = .ok (.aload_n 0, 1) := by decide +kernel
theorem dX8_laysWord_12 : decode cX8_laysWord 12 = .ok (.getfield 57, 3) := by decide +kernel
theorem dX8_laysWord_15 : decode cX8_laysWord 15 = .ok (.iload_n 2, 1) := by decide +kernel
theorem dX8_laysWord_16 : decode cX8_laysWord 16 = .ok (.iadd, 1) := by decide +kernel
theorem dX8_laysWord_17 : decode cX8_laysWord 17 = .ok (.iload_n 1, 1) := by decide +kernel
theorem dX8_laysWord_18 : decode cX8_laysWord 18 = .ok (.bipush 24, 2) := by decide +kernel
theorem dX8_laysWord_20 : decode cX8_laysWord 20 = .ok (.bipush 8, 2) := by decide +kernel
theorem dX8_laysWord_22 : decode cX8_laysWord 22 = .ok (.iload_n 2, 1) := by decide +kernel
theorem dX8_laysWord_23 : decode cX8_laysWord 23 = .ok (.imul, 1) := by decide +kernel
theorem dX8_laysWord_24 : decode cX8_laysWord 24 = .ok (.isub, 1) := by decide +kernel
theorem dX8_laysWord_25 : decode cX8_laysWord 25 = .ok (.ishr, 1) := by decide +kernel
theorem dX8_laysWord_26 : decode cX8_laysWord 26 = .ok (.sipush 255, 3) := by decide +kernel
theorem dX8_laysWord_29 : decode cX8_laysWord 29 = .ok (.iand, 1) := by decide +kernel
theorem dX8_laysWord_30 : decode cX8_laysWord 30 = .ok (.iastore, 1) := by decide +kernel
theorem dX8_laysWord_31 : decode cX8_laysWord 31 = .ok (.iinc 2 1, 3) := by decide +kernel
theorem dX8_laysWord_34 : decode cX8_laysWord 34 = .ok (.goto (-32), 3) := by decide +kernel
theorem dX8_laysWord_37 : decode cX8_laysWord 37 = .ok (.aload_n 0, 1) := by decide +kernel
theorem dX8_laysWord_38 : decode cX8_laysWord 38 = .ok (.dup, 1) := by decide +kernel
theorem dX8_laysWord_39 : decode cX8_laysWord 39 = .ok (.getfield 57, 3) := by decide +kernel
theorem dX8_laysWord_42 : decode cX8_laysWord 42 = .ok (.iconst 4, 1) := by decide +kernel
theorem dX8_laysWord_43 : decode cX8_laysWord 43 = .ok (.iadd, 1) := by decide +kernel
theorem dX8_laysWord_44 : decode cX8_laysWord 44 = .ok (.putfield 57, 3) := by decide +kernel
theorem dX8_laysWord_47 : decode cX8_laysWord 47 = .ok (.return_, 1) := by decide +kernel
theorem dX8_see_0 : decode cX8_see 0 = .ok (.iload_n 1, 1) := by decide +kernel
theorem dX8_see_1 : decode cX8_see 1 = .ok (.aload_n 0, 1) := by decide +kernel
theorem dX8_see_2 : decode cX8_see 2 = .ok (.getfield 64, 3) := by decide +kernel
theorem dX8_see_5 : decode cX8_see 5 = .ok (.if_icmp .ge 12, 3) := by decide +kernel
theorem dX8_see_8 : decode cX8_see 8 = .ok (.aload_n 0, 1) := by decide +kernel
theorem dX8_see_9 : decode cX8_see 9 = .ok (.getfield 13, 3) := by decide +kernel
theorem dX8_see_12 : decode cX8_see 12 = .ok (.iload_n 1, 1) := by decide +kernel
theorem dX8_see_13 : decode cX8_see 13 = .ok (.iaload, 1) := by decide +kernel
theorem dX8_see_14 : decode cX8_see 14 = .ok (.goto 4, 3) := by decide +kernel
theorem dX8_see_17 : decode cX8_see 17 = .ok (.iconst (-1), 1) := by decide +kernel
theorem dX8_see_18 : decode cX8_see 18 = .ok (.ireturn, 1) := by decide +kernel
theorem dX8_goesOn_0 : decode cX8_goesOn 0 = .ok (.aload_n 0, 1) := by decide +kernel
theorem dX8_goesOn_1 : decode cX8_goesOn 1 = .ok (.aload_n 0, 1) := by decide +kernel
theorem dX8_goesOn_2 : decode cX8_goesOn 2 = .ok (.getfield 67, 3) := by decide +kernel
theorem dX8_goesOn_5 : decode cX8_goesOn 5 = .ok (.invokevirtual 70, 3) := by decide +kernel
theorem dX8_goesOn_8 : decode cX8_goesOn 8 = .ok (.bipush 32, 2) := by decide +kernel
theorem dX8_goesOn_10 : decode cX8_goesOn 10 = .ok (.if_icmp .ne 16, 3) := by decide +kernel
theorem dX8_goesOn_13 : decode cX8_goesOn 13 = .ok (.aload_n 0, 1) := by decide +kernel
theorem dX8_goesOn_14 : decode cX8_goesOn 14 = .ok (.dup, 1) := by decide +kernel
theorem dX8_goesOn_15 : decode cX8_goesOn 15 = .ok (.getfield 67, 3) := by decide +kernel
theorem dX8_goesOn_18 : decode cX8_goesOn 18 = .ok (.iconst 1, 1) := by decide +kernel
theorem dX8_goesOn_19 : decode cX8_goesOn 19 = .ok (.iadd, 1) := by decide +kernel
theorem dX8_goesOn_20 : decode cX8_goesOn 20 = .ok (.putfield 67, 3) := by decide +kernel
theorem dX8_goesOn_23 : decode cX8_goesOn 23 = .ok (.goto (-23), 3) := by decide +kernel
theorem dX8_goesOn_26 : decode cX8_goesOn 26 = .ok (.aload_n 0, 1) := by decide +kernel
theorem dX8_goesOn_27 : decode cX8_goesOn 27 = .ok (.aload_n 0, 1) := by decide +kernel
theorem dX8_goesOn_28 : decode cX8_goesOn 28 = .ok (.getfield 67, 3) := by decide +kernel
theorem dX8_goesOn_31 : decode cX8_goesOn 31 = .ok (.putfield 74, 3) := by decide +kernel
theorem dX8_goesOn_34 : decode cX8_goesOn 34 = .ok (.aload_n 0, 1) := by decide +kernel
theorem dX8_goesOn_35 : decode cX8_goesOn 35 = .ok (.aload_n 0, 1) := by decide +kernel
theorem dX8_goesOn_36 : decode cX8_goesOn 36 = .ok (.getfield 67, 3) := by decide +kernel
theorem dX8_goesOn_39 : decode cX8_goesOn 39 = .ok (.invokevirtual 70, 3) := by decide +kernel
theorem dX8_goesOn_42 : decode cX8_goesOn 42 = .ok (.istore_n 1, 1) := by decide +kernel
theorem dX8_goesOn_43 : decode cX8_goesOn 43 = .ok (.iload_n 1, 1) := by decide +kernel
theorem dX8_goesOn_44 : decode cX8_goesOn 44 = .ok (.iconst (-1), 1) := by decide +kernel
theorem dX8_goesOn_45 : decode cX8_goesOn 45 = .ok (.if_icmp .ne 9, 3) := by decide +kernel
theorem dX8_goesOn_48 : decode cX8_goesOn 48 = .ok (.aload_n 0, 1) := by decide +kernel
theorem dX8_goesOn_49 : decode cX8_goesOn 49 = .ok (.iconst 0, 1) := by decide +kernel
theorem dX8_goesOn_50 : decode cX8_goesOn 50 = .ok (.putfield 77, 3) := by decide +kernel
theorem dX8_goesOn_53 : decode cX8_goesOn 53 = .ok (.return_, 1) := by decide +kernel
theorem dX8_goesOn_54 : decode cX8_goesOn 54 = .ok (.iload_n 1, 1) := by decide +kernel
theorem dX8_goesOn_55 : decode cX8_goesOn 55 = .ok (.bipush 97, 2) := by decide +kernel
theorem dX8_goesOn_57 : decode cX8_goesOn 57 = .ok (.bipush 122, 2) := by decide +kernel
theorem dX8_goesOn_59 : decode cX8_goesOn 59 = .ok (.invokestatic 80, 3) := by decide +kernel
theorem dX8_goesOn_62 : decode cX8_goesOn 62 = .ok (.ifCond .eq 8, 3) := by decide +kernel
theorem dX8_goesOn_65 : decode cX8_goesOn 65 = .ok (.aload_n 0, 1) := by decide +kernel
theorem dX8_goesOn_66 : decode cX8_goesOn 66 = .ok (.invokevirtual 84, 3) := by decide +kernel
theorem dX8_goesOn_69 : decode cX8_goesOn 69 = .ok (.return_, 1) := by decide +kernel
theorem dX8_goesOn_70 : decode cX8_goesOn 70 = .ok (.iload_n 1, 1) := by decide +kernel
theorem dX8_goesOn_71 : decode cX8_goesOn 71 = .ok (.bipush 48, 2) := by decide +kernel
theorem dX8_goesOn_73 : decode cX8_goesOn 73 = .ok (.bipush 57, 2) := by decide +kernel
theorem dX8_goesOn_75 : decode cX8_goesOn 75 = .ok (.invokestatic 80, 3) := by decide +kernel
theorem dX8_goesOn_78 : decode cX8_goesOn 78 = .ok (.ifCond .eq 105, 3) := by decide +kernel
theorem dX8_goesOn_81 : decode cX8_goesOn 81 = .ok (.aload_n 0, 1) := by decide +kernel
theorem dX8_goesOn_82 : decode cX8_goesOn 82 = .ok (.iconst 0, 1) := by decide +kernel
theorem dX8_goesOn_83 : decode cX8_goesOn 83 = .ok (.putfield 87, 3) := by decide +kernel
theorem dX8_goesOn_86 : decode cX8_goesOn 86 = .ok (.aload_n 0, 1) := by decide +kernel
theorem dX8_goesOn_87 : decode cX8_goesOn 87 = .ok (.aload_n 0, 1) := by decide +kernel
theorem dX8_goesOn_88 : decode cX8_goesOn 88 = .ok (.getfield 67, 3) := by decide +kernel
theorem dX8_goesOn_91 : decode cX8_goesOn 91 = .ok (.invokevirtual 70, 3) := by decide +kernel
theorem dX8_goesOn_94 : decode cX8_goesOn 94 = .ok (.bipush 48, 2) := by decide +kernel
theorem dX8_goesOn_96 : decode cX8_goesOn 96 = .ok (.bipush 57, 2) := by decide +kernel
theorem dX8_goesOn_98 : decode cX8_goesOn 98 = .ok (.invokestatic 80, 3) := by decide +kernel
theorem dX8_goesOn_101 : decode cX8_goesOn 101 = .ok (.ifCond .eq 59, 3) := by decide +kernel
theorem dX8_goesOn_104 : decode cX8_goesOn 104 = .ok (.aload_n 0, 1) := by decide +kernel
theorem dX8_goesOn_105 : decode cX8_goesOn 105 = .ok (.aload_n 0, 1) := by decide +kernel
theorem dX8_goesOn_106 : decode cX8_goesOn 106 = .ok (.getfield 67, 3) := by decide +kernel
theorem dX8_goesOn_109 : decode cX8_goesOn 109 = .ok (.aload_n 0, 1) := by decide +kernel
theorem dX8_goesOn_110 : decode cX8_goesOn 110 = .ok (.getfield 74, 3) := by decide +kernel
theorem dX8_goesOn_113 : decode cX8_goesOn 113 = .ok (.isub, 1) := by decide +kernel
theorem dX8_goesOn_114 : decode cX8_goesOn 114 = .ok (.iconst 3, 1) := by decide +kernel
theorem dX8_goesOn_115 : decode cX8_goesOn 115 = .ok (.if_icmp .ge 25, 3) := by decide +kernel
theorem dX8_goesOn_118 : decode cX8_goesOn 118 = .ok (.bipush 10, 2) := by decide +kernel
theorem dX8_goesOn_120 : decode cX8_goesOn 120 = .ok (.aload_n 0, 1) := by decide +kernel
theorem dX8_goesOn_121 : decode cX8_goesOn 121 = .ok (.getfield 87, 3) := by decide +kernel
theorem dX8_goesOn_124 : decode cX8_goesOn 124 = .ok (.imul, 1) := by decide +kernel
theorem dX8_goesOn_125 : decode cX8_goesOn 125 = .ok (.aload_n 0, 1) := by decide +kernel
theorem dX8_goesOn_126 : decode cX8_goesOn 126 = .ok (.aload_n 0, 1) := by decide +kernel
theorem dX8_goesOn_127 : decode cX8_goesOn 127 = .ok (.getfield 67, 3) := by decide +kernel
theorem dX8_goesOn_130 : decode cX8_goesOn 130 = .ok (.invokevirtual 70, 3) := by decide +kernel
theorem dX8_goesOn_133 : decode cX8_goesOn 133 = .ok (.iadd, 1) := by decide +kernel
theorem dX8_goesOn_134 : decode cX8_goesOn 134 = .ok (.bipush 48, 2) := by decide +kernel
theorem dX8_goesOn_136 : decode cX8_goesOn 136 = .ok (.isub, 1) := by decide +kernel
theorem dX8_goesOn_137 : decode cX8_goesOn 137 = .ok (.goto 7, 3) := by decide +kernel
theorem dX8_goesOn_140 : decode cX8_goesOn 140 = .ok (.aload_n 0, 1) := by decide +kernel
theorem dX8_goesOn_141 : decode cX8_goesOn 141 = .ok (.getfield 87, 3) := by decide +kernel
theorem dX8_goesOn_144 : decode cX8_goesOn 144 = .ok (.putfield 87, 3) := by decide +kernel
theorem dX8_goesOn_147 : decode cX8_goesOn 147 = .ok (.aload_n 0, 1) := by decide +kernel
theorem dX8_goesOn_148 : decode cX8_goesOn 148 = .ok (.dup, 1) := by decide +kernel
theorem dX8_goesOn_149 : decode cX8_goesOn 149 = .ok (.getfield 67, 3) := by decide +kernel
theorem dX8_goesOn_152 : decode cX8_goesOn 152 = .ok (.iconst 1, 1) := by decide +kernel
theorem dX8_goesOn_153 : decode cX8_goesOn 153 = .ok (.iadd, 1) := by decide +kernel
theorem dX8_goesOn_154 : decode cX8_goesOn 154 = .ok (.putfield 67, 3) := by decide +kernel
theorem dX8_goesOn_157 : decode cX8_goesOn 157 = .ok (.goto (-71), 3) := by decide +kernel
theorem dX8_goesOn_160 : decode cX8_goesOn 160 = .ok (.aload_n 0, 1) := by decide +kernel
theorem dX8_goesOn_161 : decode cX8_goesOn 161 = .ok (.aload_n 0, 1) := by decide +kernel
theorem dX8_goesOn_162 : decode cX8_goesOn 162 = .ok (.getfield 67, 3) := by decide +kernel
theorem dX8_goesOn_165 : decode cX8_goesOn 165 = .ok (.aload_n 0, 1) := by decide +kernel
theorem dX8_goesOn_166 : decode cX8_goesOn 166 = .ok (.getfield 74, 3) := by decide +kernel
theorem dX8_goesOn_169 : decode cX8_goesOn 169 = .ok (.isub, 1) := by decide +kernel
theorem dX8_goesOn_170 : decode cX8_goesOn 170 = .ok (.iconst 3, 1) := by decide +kernel
theorem dX8_goesOn_171 : decode cX8_goesOn 171 = .ok (.if_icmp .le 7, 3) := by decide +kernel
theorem dX8_goesOn_174 : decode cX8_goesOn 174 = .ok (.iconst 1, 1) := by decide +kernel
theorem dX8_goesOn_175 : decode cX8_goesOn 175 = .ok (.goto 4, 3) := by decide +kernel
theorem dX8_goesOn_178 : decode cX8_goesOn 178 = .ok (.iconst 3, 1) := by decide +kernel
theorem dX8_goesOn_179 : decode cX8_goesOn 179 = .ok (.putfield 77, 3) := by decide +kernel
theorem dX8_goesOn_182 : decode cX8_goesOn 182 = .ok (.return_, 1) := by decide +kernel
theorem dX8_goesOn_183 : decode cX8_goesOn 183 = .ok (.aload_n 0, 1) := by decide +kernel
theorem dX8_goesOn_184 : decode cX8_goesOn 184 = .ok (.dup, 1) := by decide +kernel
theorem dX8_goesOn_185 : decode cX8_goesOn 185 = .ok (.getfield 67, 3) := by decide +kernel
theorem dX8_goesOn_188 : decode cX8_goesOn 188 = .ok (.iconst 1, 1) := by decide +kernel
theorem dX8_goesOn_189 : decode cX8_goesOn 189 = .ok (.iadd, 1) := by decide +kernel
theorem dX8_goesOn_190 : decode cX8_goesOn 190 = .ok (.putfield 67, 3) := by decide +kernel
theorem dX8_goesOn_193 : decode cX8_goesOn 193 = .ok (.aload_n 0, 1) := by decide +kernel
theorem dX8_goesOn_194 : decode cX8_goesOn 194 = .ok (.iload_n 1, 1) := by decide +kernel
theorem dX8_goesOn_195 : decode cX8_goesOn 195 = .ok (.bipush 59, 2) := by decide +kernel
theorem dX8_goesOn_197 : decode cX8_goesOn 197 = .ok (.if_icmp .ne 7, 3) := by decide +kernel
theorem dX8_goesOn_200 : decode cX8_goesOn 200 = .ok (.iload_n 1, 1) := by decide +kernel
theorem dX8_goesOn_201 : decode cX8_goesOn 201 = .ok (.goto 4, 3) := by decide +kernel
theorem dX8_goesOn_204 : decode cX8_goesOn 204 = .ok (.iconst 1, 1) := by decide +kernel
theorem dX8_goesOn_205 : decode cX8_goesOn 205 = .ok (.putfield 77, 3) := by decide +kernel
theorem dX8_goesOn_208 : decode cX8_goesOn 208 = .ok (.return_, 1) := by decide +kernel
theorem dX8_readsWord_0 : decode cX8_readsWord 0 = .ok (.aload_n 0, 1) := by decide +kernel
theorem dX8_readsWord_1 : decode cX8_readsWord 1 = .ok (.lconst 0, 1) := by decide +kernel
theorem dX8_readsWord_2 : decode cX8_readsWord 2 = .ok (.putfield 90, 3) := by decide +kernel
theorem dX8_readsWord_5 : decode cX8_readsWord 5 = .ok (.aload_n 0, 1) := by decide +kernel
theorem dX8_readsWord_6 : decode cX8_readsWord 6 = .ok (.aload_n 0, 1) := by decide +kernel
theorem dX8_readsWord_7 : decode cX8_readsWord 7 = .ok (.getfield 67, 3) := by decide +kernel
theorem dX8_readsWord_10 : decode cX8_readsWord 10 = .ok (.invokevirtual 70, 3) := by decide +kernel
theorem dX8_readsWord_13 : decode cX8_readsWord 13 = .ok (.bipush 97, 2) := by decide +kernel
theorem dX8_readsWord_15 : decode cX8_readsWord 15 = .ok (.bipush 122, 2) := by decide +kernel
theorem dX8_readsWord_17 : decode cX8_readsWord 17 = .ok (.invokestatic 80, 3) := by decide +kernel
theorem dX8_readsWord_20 : decode cX8_readsWord 20 = .ok (.ifCond .eq 59, 3) := by decide +kernel
theorem dX8_readsWord_23 : decode cX8_readsWord 23 = .ok (.aload_n 0, 1) := by decide +kernel
theorem dX8_readsWord_24 : decode cX8_readsWord 24 = .ok (.aload_n 0, 1) := by decide +kernel
theorem dX8_readsWord_25 : decode cX8_readsWord 25 = .ok (.getfield 67, 3) := by decide +kernel
theorem dX8_readsWord_28 : decode cX8_readsWord 28 = .ok (.aload_n 0, 1) := by decide +kernel
theorem dX8_readsWord_29 : decode cX8_readsWord 29 = .ok (.getfield 74, 3) := by decide +kernel
theorem dX8_readsWord_32 : decode cX8_readsWord 32 = .ok (.isub, 1) := by decide +kernel
theorem dX8_readsWord_33 : decode cX8_readsWord 33 = .ok (.bipush 8, 2) := by decide +kernel
theorem dX8_readsWord_35 : decode cX8_readsWord 35 = .ok (.if_icmp .ge 24, 3) := by decide +kernel
theorem dX8_readsWord_38 : decode cX8_readsWord 38 = .ok (.ldc2_w 94, 3) := by decide +kernel
theorem dX8_readsWord_41 : decode cX8_readsWord 41 = .ok (.aload_n 0, 1) := by decide +kernel
theorem dX8_readsWord_42 : decode cX8_readsWord 42 = .ok (.getfield 90, 3) := by decide +kernel
theorem dX8_readsWord_45 : decode cX8_readsWord 45 = .ok (.lmul, 1) := by decide +kernel
theorem dX8_readsWord_46 : decode cX8_readsWord 46 = .ok (.aload_n 0, 1) := by decide +kernel
theorem dX8_readsWord_47 : decode cX8_readsWord 47 = .ok (.aload_n 0, 1) := by decide +kernel
theorem dX8_readsWord_48 : decode cX8_readsWord 48 = .ok (.getfield 67, 3) := by decide +kernel
theorem dX8_readsWord_51 : decode cX8_readsWord 51 = .ok (.invokevirtual 70, 3) := by decide +kernel
theorem dX8_readsWord_54 : decode cX8_readsWord 54 = .ok (.i2l, 1) := by decide +kernel
theorem dX8_readsWord_55 : decode cX8_readsWord 55 = .ok (.ladd, 1) := by decide +kernel
theorem dX8_readsWord_56 : decode cX8_readsWord 56 = .ok (.goto 7, 3) := by decide +kernel
theorem dX8_readsWord_59 : decode cX8_readsWord 59 = .ok (.aload_n 0, 1) := by decide +kernel
theorem dX8_readsWord_60 : decode cX8_readsWord 60 = .ok (.getfield 90, 3) := by decide +kernel
theorem dX8_readsWord_63 : decode cX8_readsWord 63 = .ok (.putfield 90, 3) := by decide +kernel
theorem dX8_readsWord_66 : decode cX8_readsWord 66 = .ok (.aload_n 0, 1) := by decide +kernel
theorem dX8_readsWord_67 : decode cX8_readsWord 67 = .ok (.dup, 1) := by decide +kernel
theorem dX8_readsWord_68 : decode cX8_readsWord 68 = .ok (.getfield 67, 3) := by decide +kernel
theorem dX8_readsWord_71 : decode cX8_readsWord 71 = .ok (.iconst 1, 1) := by decide +kernel
theorem dX8_readsWord_72 : decode cX8_readsWord 72 = .ok (.iadd, 1) := by decide +kernel
theorem dX8_readsWord_73 : decode cX8_readsWord 73 = .ok (.putfield 67, 3) := by decide +kernel
theorem dX8_readsWord_76 : decode cX8_readsWord 76 = .ok (.goto (-71), 3) := by decide +kernel
theorem dX8_readsWord_79 : decode cX8_readsWord 79 = .ok (.aload_n 0, 1) := by decide +kernel
theorem dX8_readsWord_80 : decode cX8_readsWord 80 = .ok (.aload_n 0, 1) := by decide +kernel
theorem dX8_readsWord_81 : decode cX8_readsWord 81 = .ok (.getfield 67, 3) := by decide +kernel
theorem dX8_readsWord_84 : decode cX8_readsWord 84 = .ok (.aload_n 0, 1) := by decide +kernel
theorem dX8_readsWord_85 : decode cX8_readsWord 85 = .ok (.getfield 74, 3) := by decide +kernel
theorem dX8_readsWord_88 : decode cX8_readsWord 88 = .ok (.isub, 1) := by decide +kernel
theorem dX8_readsWord_89 : decode cX8_readsWord 89 = .ok (.bipush 8, 2) := by decide +kernel
theorem dX8_readsWord_91 : decode cX8_readsWord 91 = .ok (.if_icmp .le 7, 3) := by decide +kernel
theorem dX8_readsWord_94 : decode cX8_readsWord 94 = .ok (.iconst 1, 1) := by decide +kernel
theorem dX8_readsWord_95 : decode cX8_readsWord 95 = .ok (.goto 4, 3) := by decide +kernel
theorem dX8_readsWord_98 : decode cX8_readsWord 98 = .ok (.iconst 2, 1) := by decide +kernel
theorem dX8_readsWord_99 : decode cX8_readsWord 99 = .ok (.putfield 77, 3) := by decide +kernel
theorem dX8_readsWord_102 : decode cX8_readsWord 102 = .ok (.aload_n 0, 1) := by decide +kernel
theorem dX8_readsWord_103 : decode cX8_readsWord 103 = .ok (.getfield 67, 3) := by decide +kernel
theorem dX8_readsWord_106 : decode cX8_readsWord 106 = .ok (.aload_n 0, 1) := by decide +kernel
theorem dX8_readsWord_107 : decode cX8_readsWord 107 = .ok (.getfield 74, 3) := by decide +kernel
theorem dX8_readsWord_110 : decode cX8_readsWord 110 = .ok (.isub, 1) := by decide +kernel
theorem dX8_readsWord_111 : decode cX8_readsWord 111 = .ok (.istore_n 1, 1) := by decide +kernel
theorem dX8_readsWord_112 : decode cX8_readsWord 112 = .ok (.iload_n 1, 1) := by decide +kernel
theorem dX8_readsWord_113 : decode cX8_readsWord 113 = .ok (.bipush 8, 2) := by decide +kernel
theorem dX8_readsWord_115 : decode cX8_readsWord 115 = .ok (.if_icmp .ge 25, 3) := by decide +kernel
theorem dX8_readsWord_118 : decode cX8_readsWord 118 = .ok (.aload_n 0, 1) := by decide +kernel
theorem dX8_readsWord_119 : decode cX8_readsWord 119 = .ok (.ldc2_w 94, 3) := by decide +kernel
theorem dX8_readsWord_122 : decode cX8_readsWord 122 = .ok (.aload_n 0, 1) := by decide +kernel
theorem dX8_readsWord_123 : decode cX8_readsWord 123 = .ok (.getfield 90, 3) := by decide +kernel
theorem dX8_readsWord_126 : decode cX8_readsWord 126 = .ok (.lmul, 1) := by decide +kernel
theorem dX8_readsWord_127 : decode cX8_readsWord 127 = .ok (.ldc2_w 96, 3) := by decide +kernel
theorem dX8_readsWord_130 : decode cX8_readsWord 130 = .ok (.ladd, 1) := by decide +kernel
theorem dX8_readsWord_131 : decode cX8_readsWord 131 = .ok (.putfield 90, 3) := by decide +kernel
theorem dX8_readsWord_134 : decode cX8_readsWord 134 = .ok (.iinc 1 1, 3) := by decide +kernel
theorem dX8_readsWord_137 : decode cX8_readsWord 137 = .ok (.goto (-25), 3) := by decide +kernel
theorem dX8_readsWord_140 : decode cX8_readsWord 140 = .ok (.return_, 1) := by decide +kernel
theorem dX8_isWord_0 : decode cX8_isWord 0 = .ok (.aload_n 0, 1) := by decide +kernel
theorem dX8_isWord_1 : decode cX8_isWord 1 = .ok (.getfield 77, 3) := by decide +kernel
theorem dX8_isWord_4 : decode cX8_isWord 4 = .ok (.iconst 2, 1) := by decide +kernel
theorem dX8_isWord_5 : decode cX8_isWord 5 = .ok (.if_icmp .ne 19, 3) := by decide +kernel
theorem dX8_isWord_8 : decode cX8_isWord 8 = .ok (.aload_n 0, 1) := by decide +kernel
theorem dX8_isWord_9 : decode cX8_isWord 9 = .ok (.getfield 67, 3) := by decide +kernel
theorem dX8_isWord_12 : decode cX8_isWord 12 = .ok (.aload_n 0, 1) := by decide +kernel
theorem dX8_isWord_13 : decode cX8_isWord 13 = .ok (.getfield 74, 3) := by decide +kernel
theorem dX8_isWord_16 : decode cX8_isWord 16 = .ok (.isub, 1) := by decide +kernel
theorem dX8_isWord_17 : decode cX8_isWord 17 = .ok (.aload_n 1, 1) := by decide +kernel
theorem dX8_isWord_18 : decode cX8_isWord 18 = .ok (.invokevirtual 98, 3) := by decide +kernel
theorem dX8_isWord_21 : decode cX8_isWord 21 = .ok (.if_icmp .eq 5, 3) := by decide +kernel
theorem dX8_isWord_24 : decode cX8_isWord 24 = .ok (.iconst 0, 1) := by decide +kernel
theorem dX8_isWord_25 : decode cX8_isWord 25 = .ok (.ireturn, 1) := by decide +kernel
theorem dX8_isWord_26 : decode cX8_isWord 26 = .ok (.iconst 0, 1) := by decide +kernel
theorem dX8_isWord_27 : decode cX8_isWord 27 = .ok (.istore_n 2, 1) := by decide +kernel
theorem dX8_isWord_28 : decode cX8_isWord 28 = .ok (.iload_n 2, 1) := by decide +kernel
theorem dX8_isWord_29 : decode cX8_isWord 29 = .ok (.aload_n 1, 1) := by decide +kernel
theorem dX8_isWord_30 : decode cX8_isWord 30 = .ok (.invokevirtual 98, 3) := by decide +kernel
theorem dX8_isWord_33 : decode cX8_isWord 33 = .ok (.if_icmp .ge 30, 3) := by decide +kernel
theorem dX8_isWord_36 : decode cX8_isWord 36 = .ok (.aload_n 0, 1) := by decide +kernel
theorem dX8_isWord_37 : decode cX8_isWord 37 = .ok (.getfield 13, 3) := by decide +kernel
theorem dX8_isWord_40 : decode cX8_isWord 40 = .ok (.aload_n 0, 1) := by decide +kernel
theorem dX8_isWord_41 : decode cX8_isWord 41 = .ok (.getfield 74, 3) := by decide +kernel
theorem dX8_isWord_44 : decode cX8_isWord 44 = .ok (.iload_n 2, 1) := by decide +kernel
theorem dX8_isWord_45 : decode cX8_isWord 45 = .ok (.iadd, 1) := by decide +kernel
theorem dX8_isWord_46 : decode cX8_isWord 46 = .ok (.iaload, 1) := by decide +kernel
theorem dX8_isWord_47 : decode cX8_isWord 47 = .ok (.aload_n 1, 1) := by decide +kernel
theorem dX8_isWord_48 : decode cX8_isWord 48 = .ok (.iload_n 2, 1) := by decide +kernel
theorem dX8_isWord_49 : decode cX8_isWord 49 = .ok (.invokevirtual 104, 3) := by decide +kernel
theorem dX8_isWord_52 : decode cX8_isWord 52 = .ok (.if_icmp .eq 5, 3) := by decide +kernel
theorem dX8_isWord_55 : decode cX8_isWord 55 = .ok (.iconst 0, 1) := by decide +kernel
theorem dX8_isWord_56 : decode cX8_isWord 56 = .ok (.ireturn, 1) := by decide +kernel
theorem dX8_isWord_57 : decode cX8_isWord 57 = .ok (.iinc 2 1, 3) := by decide +kernel
theorem dX8_isWord_60 : decode cX8_isWord 60 = .ok (.goto (-32), 3) := by decide +kernel
theorem dX8_isWord_63 : decode cX8_isWord 63 = .ok (.iconst 1, 1) := by decide +kernel
theorem dX8_isWord_64 : decode cX8_isWord 64 = .ok (.ireturn, 1) := by decide +kernel
theorem dX8_errs_0 : decode cX8_errs 0 = .ok (.aload_n 0, 1) := by decide +kernel
theorem dX8_errs_1 : decode cX8_errs 1 = .ok (.iload_n 1, 1) := by decide +kernel
theorem dX8_errs_2 : decode cX8_errs 2 = .ok (.putfield 108, 3) := by decide +kernel
theorem dX8_errs_5 : decode cX8_errs 5 = .ok (.aload_n 0, 1) := by decide +kernel
theorem dX8_errs_6 : decode cX8_errs 6 = .ok (.aload_n 0, 1) := by decide +kernel
theorem dX8_errs_7 : decode cX8_errs 7 = .ok (.getfield 74, 3) := by decide +kernel
theorem dX8_errs_10 : decode cX8_errs 10 = .ok (.putfield 111, 3) := by decide +kernel
theorem dX8_errs_13 : decode cX8_errs 13 = .ok (.iconst (-1), 1) := by decide +kernel
theorem dX8_errs_14 : decode cX8_errs 14 = .ok (.ireturn, 1) := by decide +kernel
theorem dX8_passes_0 : decode cX8_passes 0 = .ok (.aload_n 0, 1) := by decide +kernel
theorem dX8_passes_1 : decode cX8_passes 1 = .ok (.getfield 77, 3) := by decide +kernel
theorem dX8_passes_4 : decode cX8_passes 4 = .ok (.iconst 3, 1) := by decide +kernel
theorem dX8_passes_5 : decode cX8_passes 5 = .ok (.if_icmp .eq 9, 3) := by decide +kernel
theorem dX8_passes_8 : decode cX8_passes 8 = .ok (.aload_n 0, 1) := by decide +kernel
theorem dX8_passes_9 : decode cX8_passes 9 = .ok (.iconst 1, 1) := by decide +kernel
theorem dX8_passes_10 : decode cX8_passes 10 = .ok (.invokevirtual 114, 3) := by decide +kernel
theorem dX8_passes_13 : decode cX8_passes 13 = .ok (.ireturn, 1) := by decide +kernel
theorem dX8_passes_14 : decode cX8_passes 14 = .ok (.aload_n 0, 1) := by decide +kernel
theorem dX8_passes_15 : decode cX8_passes 15 = .ok (.getfield 87, 3) := by decide +kernel
theorem dX8_passes_18 : decode cX8_passes 18 = .ok (.istore_n 3, 1) := by decide +kernel
theorem dX8_passes_19 : decode cX8_passes 19 = .ok (.iload_n 3, 1) := by decide +kernel
theorem dX8_passes_20 : decode cX8_passes 20 = .ok (.iload_n 1, 1) := by decide +kernel
theorem dX8_passes_21 : decode cX8_passes 21 = .ok (.iload_n 2, 1) := by decide +kernel
theorem dX8_passes_22 : decode cX8_passes 22 = .ok (.invokestatic 80, 3) := by decide +kernel
theorem dX8_passes_25 : decode cX8_passes 25 = .ok (.ifCond .ne 9, 3) := by decide +kernel
theorem dX8_passes_28 : decode cX8_passes 28 = .ok (.aload_n 0, 1) := by decide +kernel
theorem dX8_passes_29 : decode cX8_passes 29 = .ok (.iconst 4, 1) := by decide +kernel
theorem dX8_passes_30 : decode cX8_passes 30 = .ok (.invokevirtual 114, 3) := by decide +kernel
theorem dX8_passes_33 : decode cX8_passes 33 = .ok (.ireturn, 1) := by decide +kernel
theorem dX8_passes_34 : decode cX8_passes 34 = .ok (.aload_n 0, 1) := by decide +kernel
theorem dX8_passes_35 : decode cX8_passes 35 = .ok (.invokevirtual 117, 3) := by decide +kernel
theorem dX8_passes_38 : decode cX8_passes 38 = .ok (.iload_n 3, 1) := by decide +kernel
theorem dX8_passes_39 : decode cX8_passes 39 = .ok (.ireturn, 1) := by decide +kernel
theorem dX8_after_0 : decode cX8_after 0 = .ok (.aload_n 0, 1) := by decide +kernel
theorem dX8_after_1 : decode cX8_after 1 = .ok (.aload_n 1, 1) := by decide +kernel
theorem dX8_after_2 : decode cX8_after 2 = .ok (.invokevirtual 120, 3) := by decide +kernel
theorem dX8_after_5 : decode cX8_after 5 = .ok (.ifCond .ne 9, 3) := by decide +kernel
theorem dX8_after_8 : decode cX8_after 8 = .ok (.aload_n 0, 1) := by decide +kernel
theorem dX8_after_9 : decode cX8_after 9 = .ok (.iconst 1, 1) := by decide +kernel
theorem dX8_after_10 : decode cX8_after 10 = .ok (.invokevirtual 114, 3) := by decide +kernel
theorem dX8_after_13 : decode cX8_after 13 = .ok (.ireturn, 1) := by decide +kernel
theorem dX8_after_14 : decode cX8_after 14 = .ok (.aload_n 0, 1) := by decide +kernel
theorem dX8_after_15 : decode cX8_after 15 = .ok (.invokevirtual 117, 3) := by decide +kernel
theorem dX8_after_18 : decode cX8_after 18 = .ok (.aload_n 0, 1) := by decide +kernel
theorem dX8_after_19 : decode cX8_after 19 = .ok (.iload_n 2, 1) := by decide +kernel
theorem dX8_after_20 : decode cX8_after 20 = .ok (.iload_n 3, 1) := by decide +kernel
theorem dX8_after_21 : decode cX8_after 21 = .ok (.invokevirtual 124, 3) := by decide +kernel
theorem dX8_after_24 : decode cX8_after 24 = .ok (.ireturn, 1) := by decide +kernel
theorem dX8_isName_0 : decode cX8_isName 0 = .ok (.aload_n 0, 1) := by decide +kernel
theorem dX8_isName_1 : decode cX8_isName 1 = .ok (.getfield 77, 3) := by decide +kernel
theorem dX8_isName_4 : decode cX8_isName 4 = .ok (.iconst 2, 1) := by decide +kernel
theorem dX8_isName_5 : decode cX8_isName 5 = .ok (.if_icmp .ne 34, 3) := by decide +kernel
theorem dX8_isName_8 : decode cX8_isName 8 = .ok (.aload_n 0, 1) := by decide +kernel
theorem dX8_isName_9 : decode cX8_isName 9 = .ok (.ldc 128, 2) := by decide +kernel
theorem dX8_isName_11 : decode cX8_isName 11 = .ok (.invokevirtual 120, 3) := by decide +kernel
theorem dX8_isName_14 : decode cX8_isName 14 = .ok (.ifCond .ne 25, 3) := by decide +kernel
theorem dX8_isName_17 : decode cX8_isName 17 = .ok (.aload_n 0, 1) := by decide +kernel
theorem dX8_isName_18 : decode cX8_isName 18 = .ok (.ldc 130, 2) := by decide +kernel
theorem dX8_isName_20 : decode cX8_isName 20 = .ok (.invokevirtual 120, 3) := by decide +kernel
theorem dX8_isName_23 : decode cX8_isName 23 = .ok (.ifCond .ne 16, 3) := by decide +kernel
theorem dX8_isName_26 : decode cX8_isName 26 = .ok (.aload_n 0, 1) := by decide +kernel
theorem dX8_isName_27 : decode cX8_isName 27 = .ok (.ldc 132, 2) := by decide +kernel
theorem dX8_isName_29 : decode cX8_isName 29 = .ok (.invokevirtual 120, 3) := by decide +kernel
theorem dX8_isName_32 : decode cX8_isName 32 = .ok (.ifCond .ne 7, 3) := by decide +kernel
theorem dX8_isName_35 : decode cX8_isName 35 = .ok (.iconst 1, 1) := by decide +kernel
theorem dX8_isName_36 : decode cX8_isName 36 = .ok (.goto 4, 3) := by decide +kernel
theorem dX8_isName_39 : decode cX8_isName 39 = .ok (.iconst 0, 1) := by decide +kernel
theorem dX8_isName_40 : decode cX8_isName 40 = .ok (.ireturn, 1) := by decide +kernel
theorem dX8_told_0 : decode cX8_told 0 = .ok (.iconst 0, 1) := by decide +kernel
theorem dX8_told_1 : decode cX8_told 1 = .ok (.istore_n 1, 1) := by decide +kernel
theorem dX8_told_2 : decode cX8_told 2 = .ok (.iload_n 1, 1) := by decide +kernel
theorem dX8_told_3 : decode cX8_told 3 = .ok (.aload_n 0, 1) := by decide +kernel
theorem dX8_told_4 : decode cX8_told 4 = .ok (.getfield 20, 3) := by decide +kernel
theorem dX8_told_7 : decode cX8_told 7 = .ok (.iconst 5, 1) := by decide +kernel
theorem dX8_told_8 : decode cX8_told 8 = .ok (.iaload, 1) := by decide +kernel
theorem dX8_told_9 : decode cX8_told 9 = .ok (.if_icmp .ge 25, 3) := by decide +kernel
theorem dX8_told_12 : decode cX8_told 12 = .ok (.aload_n 0, 1) := by decide +kernel
theorem dX8_told_13 : decode cX8_told 13 = .ok (.getfield 39, 3) := by decide +kernel
theorem dX8_told_16 : decode cX8_told 16 = .ok (.iload_n 1, 1) := by decide +kernel
theorem dX8_told_17 : decode cX8_told 17 = .ok (.laload, 1) := by decide +kernel
theorem dX8_told_18 : decode cX8_told 18 = .ok (.aload_n 0, 1) := by decide +kernel
theorem dX8_told_19 : decode cX8_told 19 = .ok (.getfield 90, 3) := by decide +kernel
theorem dX8_told_22 : decode cX8_told 22 = .ok (.lcmp, 1) := by decide +kernel
theorem dX8_told_23 : decode cX8_told 23 = .ok (.ifCond .ne 5, 3) := by decide +kernel
theorem dX8_told_26 : decode cX8_told 26 = .ok (.iload_n 1, 1) := by decide +kernel
theorem dX8_told_27 : decode cX8_told 27 = .ok (.ireturn, 1) := by decide +kernel
theorem dX8_told_28 : decode cX8_told 28 = .ok (.iinc 1 1, 3) := by decide +kernel
theorem dX8_told_31 : decode cX8_told 31 = .ok (.goto (-29), 3) := by decide +kernel
theorem dX8_told_34 : decode cX8_told 34 = .ok (.iconst 0, 1) := by decide +kernel
theorem dX8_told_35 : decode cX8_told 35 = .ok (.istore_n 1, 1) := by decide +kernel
theorem dX8_told_36 : decode cX8_told 36 = .ok (.iload_n 1, 1) := by decide +kernel
theorem dX8_told_37 : decode cX8_told 37 = .ok (.aload_n 0, 1) := by decide +kernel
theorem dX8_told_38 : decode cX8_told 38 = .ok (.getfield 20, 3) := by decide +kernel
theorem dX8_told_41 : decode cX8_told 41 = .ok (.bipush 6, 2) := by decide +kernel
theorem dX8_told_43 : decode cX8_told 43 = .ok (.iaload, 1) := by decide +kernel
theorem dX8_told_44 : decode cX8_told 44 = .ok (.if_icmp .ge 31, 3) := by decide +kernel
theorem dX8_told_47 : decode cX8_told 47 = .ok (.aload_n 0, 1) := by decide +kernel
theorem dX8_told_48 : decode cX8_told 48 = .ok (.getfield 39, 3) := by decide +kernel
theorem dX8_told_51 : decode cX8_told 51 = .ok (.bipush 6, 2) := by decide +kernel
theorem dX8_told_53 : decode cX8_told 53 = .ok (.iload_n 1, 1) := by decide +kernel
theorem dX8_told_54 : decode cX8_told 54 = .ok (.iadd, 1) := by decide +kernel
theorem dX8_told_55 : decode cX8_told 55 = .ok (.laload, 1) := by decide +kernel
theorem dX8_told_56 : decode cX8_told 56 = .ok (.aload_n 0, 1) := by decide +kernel
theorem dX8_told_57 : decode cX8_told 57 = .ok (.getfield 90, 3) := by decide +kernel
theorem dX8_told_60 : decode cX8_told 60 = .ok (.lcmp, 1) := by decide +kernel
theorem dX8_told_61 : decode cX8_told 61 = .ok (.ifCond .ne 8, 3) := by decide +kernel
theorem dX8_told_64 : decode cX8_told 64 = .ok (.bipush 6, 2) := by decide +kernel
theorem dX8_told_66 : decode cX8_told 66 = .ok (.iload_n 1, 1) := by decide +kernel
theorem dX8_told_67 : decode cX8_told 67 = .ok (.iadd, 1) := by decide +kernel
theorem dX8_told_68 : decode cX8_told 68 = .ok (.ireturn, 1) := by decide +kernel
theorem dX8_told_69 : decode cX8_told 69 = .ok (.iinc 1 1, 3) := by decide +kernel
theorem dX8_told_72 : decode cX8_told 72 = .ok (.goto (-36), 3) := by decide +kernel
theorem dX8_told_75 : decode cX8_told 75 = .ok (.iconst (-1), 1) := by decide +kernel
theorem dX8_told_76 : decode cX8_told 76 = .ok (.ireturn, 1) := by decide +kernel
theorem dX8_newName_0 : decode cX8_newName 0 = .ok (.aload_n 0, 1) := by decide +kernel
theorem dX8_newName_1 : decode cX8_newName 1 = .ok (.invokevirtual 134, 3) := by decide +kernel
theorem dX8_newName_4 : decode cX8_newName 4 = .ok (.ifCond .ne 9, 3) := by decide +kernel
theorem dX8_newName_7 : decode cX8_newName 7 = .ok (.aload_n 0, 1) := by decide +kernel
theorem dX8_newName_8 : decode cX8_newName 8 = .ok (.iconst 1, 1) := by decide +kernel
theorem dX8_newName_9 : decode cX8_newName 9 = .ok (.invokevirtual 114, 3) := by decide +kernel
theorem dX8_newName_12 : decode cX8_newName 12 = .ok (.ireturn, 1) := by decide +kernel
theorem dX8_newName_13 : decode cX8_newName 13 = .ok (.aload_n 0, 1) := by decide +kernel
theorem dX8_newName_14 : decode cX8_newName 14 = .ok (.invokevirtual 138, 3) := by decide +kernel
theorem dX8_newName_17 : decode cX8_newName 17 = .ok (.iconst (-1), 1) := by decide +kernel
theorem dX8_newName_18 : decode cX8_newName 18 = .ok (.if_icmp .eq 9, 3) := by decide +kernel
theorem dX8_newName_21 : decode cX8_newName 21 = .ok (.aload_n 0, 1) := by decide +kernel
theorem dX8_newName_22 : decode cX8_newName 22 = .ok (.iconst 3, 1) := by decide +kernel
theorem dX8_newName_23 : decode cX8_newName 23 = .ok (.invokevirtual 114, 3) := by decide +kernel
theorem dX8_newName_26 : decode cX8_newName 26 = .ok (.ireturn, 1) := by decide +kernel
theorem dX8_newName_27 : decode cX8_newName 27 = .ok (.aload_n 0, 1) := by decide +kernel
theorem dX8_newName_28 : decode cX8_newName 28 = .ok (.getfield 39, 3) := by decide +kernel
theorem dX8_newName_31 : decode cX8_newName 31 = .ok (.iload_n 1, 1) := by decide +kernel
theorem dX8_newName_32 : decode cX8_newName 32 = .ok (.aload_n 0, 1) := by decide +kernel
theorem dX8_newName_33 : decode cX8_newName 33 = .ok (.getfield 90, 3) := by decide +kernel
theorem dX8_newName_36 : decode cX8_newName 36 = .ok (.lastore, 1) := by decide +kernel
theorem dX8_newName_37 : decode cX8_newName 37 = .ok (.aload_n 0, 1) := by decide +kernel
theorem dX8_newName_38 : decode cX8_newName 38 = .ok (.invokevirtual 117, 3) := by decide +kernel
theorem dX8_newName_41 : decode cX8_newName 41 = .ok (.iconst 0, 1) := by decide +kernel
theorem dX8_newName_42 : decode cX8_newName 42 = .ok (.ireturn, 1) := by decide +kernel
theorem dX8_endHere_0 : decode cX8_endHere 0 = .ok (.aload_n 0, 1) := by decide +kernel
theorem dX8_endHere_1 : decode cX8_endHere 1 = .ok (.invokevirtual 134, 3) := by decide +kernel
theorem dX8_endHere_4 : decode cX8_endHere 4 = .ok (.ifCond .ne 9, 3) := by decide +kernel
theorem dX8_endHere_7 : decode cX8_endHere 7 = .ok (.aload_n 0, 1) := by decide +kernel
theorem dX8_endHere_8 : decode cX8_endHere 8 = .ok (.iconst 1, 1) := by decide +kernel
theorem dX8_endHere_9 : decode cX8_endHere 9 = .ok (.invokevirtual 114, 3) := by decide +kernel
theorem dX8_endHere_12 : decode cX8_endHere 12 = .ok (.ireturn, 1) := by decide +kernel
theorem dX8_endHere_13 : decode cX8_endHere 13 = .ok (.aload_n 0, 1) := by decide +kernel
theorem dX8_endHere_14 : decode cX8_endHere 14 = .ok (.invokevirtual 138, 3) := by decide +kernel
theorem dX8_endHere_17 : decode cX8_endHere 17 = .ok (.istore_n 1, 1) := by decide +kernel
theorem dX8_endHere_18 : decode cX8_endHere 18 = .ok (.iload_n 1, 1) := by decide +kernel
theorem dX8_endHere_19 : decode cX8_endHere 19 = .ok (.iconst (-1), 1) := by decide +kernel
theorem dX8_endHere_20 : decode cX8_endHere 20 = .ok (.if_icmp .eq 9, 3) := by decide +kernel
theorem dX8_endHere_23 : decode cX8_endHere 23 = .ok (.iload_n 1, 1) := by decide +kernel
theorem dX8_endHere_24 : decode cX8_endHere 24 = .ok (.bipush 6, 2) := by decide +kernel
theorem dX8_endHere_26 : decode cX8_endHere 26 = .ok (.if_icmp .lt 11, 3) := by decide +kernel
theorem dX8_endHere_29 : decode cX8_endHere 29 = .ok (.aload_n 0, 1) := by decide +kernel
theorem dX8_endHere_30 : decode cX8_endHere 30 = .ok (.iconst 2, 1) := by decide +kernel
theorem dX8_endHere_31 : decode cX8_endHere 31 = .ok (.invokevirtual 114, 3) := by decide +kernel
theorem dX8_endHere_34 : decode cX8_endHere 34 = .ok (.goto 4, 3) := by decide +kernel
theorem dX8_endHere_37 : decode cX8_endHere 37 = .ok (.iload_n 1, 1) := by decide +kernel
theorem dX8_endHere_38 : decode cX8_endHere 38 = .ok (.ireturn, 1) := by decide +kernel
theorem dX8_readBus_0 : decode cX8_readBus 0 = .ok (.aload_n 0, 1) := by decide +kernel
theorem dX8_readBus_1 : decode cX8_readBus 1 = .ok (.getfield 141, 3) := by decide +kernel
theorem dX8_readBus_4 : decode cX8_readBus 4 = .ok (.ifCond .eq 9, 3) := by decide +kernel
theorem dX8_readBus_7 : decode cX8_readBus 7 = .ok (.aload_n 0, 1) := by decide +kernel
theorem dX8_readBus_8 : decode cX8_readBus 8 = .ok (.iconst 3, 1) := by decide +kernel
theorem dX8_readBus_9 : decode cX8_readBus 9 = .ok (.invokevirtual 114, 3) := by decide +kernel
theorem dX8_readBus_12 : decode cX8_readBus 12 = .ok (.ireturn, 1) := by decide +kernel
theorem dX8_readBus_13 : decode cX8_readBus 13 = .ok (.aload_n 0, 1) := by decide +kernel
theorem dX8_readBus_14 : decode cX8_readBus 14 = .ok (.invokevirtual 117, 3) := by decide +kernel
theorem dX8_readBus_17 : decode cX8_readBus 17 = .ok (.aload_n 0, 1) := by decide +kernel
theorem dX8_readBus_18 : decode cX8_readBus 18 = .ok (.getfield 20, 3) := by decide +kernel
theorem dX8_readBus_21 : decode cX8_readBus 21 = .ok (.iconst 0, 1) := by decide +kernel
theorem dX8_readBus_22 : decode cX8_readBus 22 = .ok (.aload_n 0, 1) := by decide +kernel
theorem dX8_readBus_23 : decode cX8_readBus 23 = .ok (.ldc 145, 2) := by decide +kernel
theorem dX8_readBus_25 : decode cX8_readBus 25 = .ok (.iconst 1, 1) := by decide +kernel
theorem dX8_readBus_26 : decode cX8_readBus 26 = .ok (.iconst 3, 1) := by decide +kernel
theorem dX8_readBus_27 : decode cX8_readBus 27 = .ok (.invokevirtual 147, 3) := by decide +kernel
theorem dX8_readBus_30 : decode cX8_readBus 30 = .ok (.iastore, 1) := by decide +kernel
theorem dX8_readBus_31 : decode cX8_readBus 31 = .ok (.aload_n 0, 1) := by decide +kernel
theorem dX8_readBus_32 : decode cX8_readBus 32 = .ok (.getfield 20, 3) := by decide +kernel
theorem dX8_readBus_35 : decode cX8_readBus 35 = .ok (.iconst 0, 1) := by decide +kernel
theorem dX8_readBus_36 : decode cX8_readBus 36 = .ok (.iaload, 1) := by decide +kernel
theorem dX8_readBus_37 : decode cX8_readBus 37 = .ok (.iconst (-1), 1) := by decide +kernel
theorem dX8_readBus_38 : decode cX8_readBus 38 = .ok (.if_icmp .ne 5, 3) := by decide +kernel
theorem dX8_readBus_41 : decode cX8_readBus 41 = .ok (.iconst (-1), 1) := by decide +kernel
theorem dX8_readBus_42 : decode cX8_readBus 42 = .ok (.ireturn, 1) := by decide +kernel
theorem dX8_readBus_43 : decode cX8_readBus 43 = .ok (.aload_n 0, 1) := by decide +kernel
theorem dX8_readBus_44 : decode cX8_readBus 44 = .ok (.getfield 20, 3) := by decide +kernel
theorem dX8_readBus_47 : decode cX8_readBus 47 = .ok (.iconst 1, 1) := by decide +kernel
theorem dX8_readBus_48 : decode cX8_readBus 48 = .ok (.aload_n 0, 1) := by decide +kernel
theorem dX8_readBus_49 : decode cX8_readBus 49 = .ok (.ldc 151, 2) := by decide +kernel
theorem dX8_readBus_51 : decode cX8_readBus 51 = .ok (.iconst 1, 1) := by decide +kernel
theorem dX8_readBus_52 : decode cX8_readBus 52 = .ok (.bipush 12, 2) := by decide +kernel
theorem dX8_readBus_54 : decode cX8_readBus 54 = .ok (.invokevirtual 147, 3) := by decide +kernel
theorem dX8_readBus_57 : decode cX8_readBus 57 = .ok (.iastore, 1) := by decide +kernel
theorem dX8_readBus_58 : decode cX8_readBus 58 = .ok (.aload_n 0, 1) := by decide +kernel
theorem dX8_readBus_59 : decode cX8_readBus 59 = .ok (.getfield 20, 3) := by decide +kernel
theorem dX8_readBus_62 : decode cX8_readBus 62 = .ok (.iconst 1, 1) := by decide +kernel
theorem dX8_readBus_63 : decode cX8_readBus 63 = .ok (.iaload, 1) := by decide +kernel
theorem dX8_readBus_64 : decode cX8_readBus 64 = .ok (.iconst (-1), 1) := by decide +kernel
theorem dX8_readBus_65 : decode cX8_readBus 65 = .ok (.if_icmp .ne 5, 3) := by decide +kernel
theorem dX8_readBus_68 : decode cX8_readBus 68 = .ok (.iconst (-1), 1) := by decide +kernel
theorem dX8_readBus_69 : decode cX8_readBus 69 = .ok (.ireturn, 1) := by decide +kernel
theorem dX8_readBus_70 : decode cX8_readBus 70 = .ok (.aload_n 0, 1) := by decide +kernel
theorem dX8_readBus_71 : decode cX8_readBus 71 = .ok (.getfield 20, 3) := by decide +kernel
theorem dX8_readBus_74 : decode cX8_readBus 74 = .ok (.iconst 2, 1) := by decide +kernel
theorem dX8_readBus_75 : decode cX8_readBus 75 = .ok (.aload_n 0, 1) := by decide +kernel
theorem dX8_readBus_76 : decode cX8_readBus 76 = .ok (.ldc 153, 2) := by decide +kernel
theorem dX8_readBus_78 : decode cX8_readBus 78 = .ok (.iconst 0, 1) := by decide +kernel
theorem dX8_readBus_79 : decode cX8_readBus 79 = .ok (.sipush 400, 3) := by decide +kernel
theorem dX8_readBus_82 : decode cX8_readBus 82 = .ok (.invokevirtual 147, 3) := by decide +kernel
theorem dX8_readBus_85 : decode cX8_readBus 85 = .ok (.iastore, 1) := by decide +kernel
theorem dX8_readBus_86 : decode cX8_readBus 86 = .ok (.aload_n 0, 1) := by decide +kernel
theorem dX8_readBus_87 : decode cX8_readBus 87 = .ok (.getfield 20, 3) := by decide +kernel
theorem dX8_readBus_90 : decode cX8_readBus 90 = .ok (.iconst 2, 1) := by decide +kernel
theorem dX8_readBus_91 : decode cX8_readBus 91 = .ok (.iaload, 1) := by decide +kernel
theorem dX8_readBus_92 : decode cX8_readBus 92 = .ok (.iconst (-1), 1) := by decide +kernel
theorem dX8_readBus_93 : decode cX8_readBus 93 = .ok (.if_icmp .ne 5, 3) := by decide +kernel
theorem dX8_readBus_96 : decode cX8_readBus 96 = .ok (.iconst (-1), 1) := by decide +kernel
theorem dX8_readBus_97 : decode cX8_readBus 97 = .ok (.ireturn, 1) := by decide +kernel
theorem dX8_readBus_98 : decode cX8_readBus 98 = .ok (.aload_n 0, 1) := by decide +kernel
theorem dX8_readBus_99 : decode cX8_readBus 99 = .ok (.getfield 20, 3) := by decide +kernel
theorem dX8_readBus_102 : decode cX8_readBus 102 = .ok (.iconst 3, 1) := by decide +kernel
theorem dX8_readBus_103 : decode cX8_readBus 103 = .ok (.aload_n 0, 1) := by decide +kernel
theorem dX8_readBus_104 : decode cX8_readBus 104 = .ok (.ldc 155, 2) := by decide +kernel
theorem dX8_readBus_106 : decode cX8_readBus 106 = .ok (.iconst 1, 1) := by decide +kernel
theorem dX8_readBus_107 : decode cX8_readBus 107 = .ok (.bipush 100, 2) := by decide +kernel
theorem dX8_readBus_109 : decode cX8_readBus 109 = .ok (.invokevirtual 147, 3) := by decide +kernel
theorem dX8_readBus_112 : decode cX8_readBus 112 = .ok (.iastore, 1) := by decide +kernel
theorem dX8_readBus_113 : decode cX8_readBus 113 = .ok (.aload_n 0, 1) := by decide +kernel
theorem dX8_readBus_114 : decode cX8_readBus 114 = .ok (.getfield 20, 3) := by decide +kernel
theorem dX8_readBus_117 : decode cX8_readBus 117 = .ok (.iconst 3, 1) := by decide +kernel
theorem dX8_readBus_118 : decode cX8_readBus 118 = .ok (.iaload, 1) := by decide +kernel
theorem dX8_readBus_119 : decode cX8_readBus 119 = .ok (.iconst (-1), 1) := by decide +kernel
theorem dX8_readBus_120 : decode cX8_readBus 120 = .ok (.if_icmp .ne 5, 3) := by decide +kernel
theorem dX8_readBus_123 : decode cX8_readBus 123 = .ok (.iconst (-1), 1) := by decide +kernel
theorem dX8_readBus_124 : decode cX8_readBus 124 = .ok (.ireturn, 1) := by decide +kernel
theorem dX8_readBus_125 : decode cX8_readBus 125 = .ok (.aload_n 0, 1) := by decide +kernel
theorem dX8_readBus_126 : decode cX8_readBus 126 = .ok (.getfield 20, 3) := by decide +kernel
theorem dX8_readBus_129 : decode cX8_readBus 129 = .ok (.iconst 4, 1) := by decide +kernel
theorem dX8_readBus_130 : decode cX8_readBus 130 = .ok (.aload_n 0, 1) := by decide +kernel
theorem dX8_readBus_131 : decode cX8_readBus 131 = .ok (.ldc 157, 2) := by decide +kernel
theorem dX8_readBus_133 : decode cX8_readBus 133 = .ok (.iconst 1, 1) := by decide +kernel
theorem dX8_readBus_134 : decode cX8_readBus 134 = .ok (.sipush 999, 3) := by decide +kernel
theorem dX8_readBus_137 : decode cX8_readBus 137 = .ok (.invokevirtual 147, 3) := by decide +kernel
theorem dX8_readBus_140 : decode cX8_readBus 140 = .ok (.iastore, 1) := by decide +kernel
theorem dX8_readBus_141 : decode cX8_readBus 141 = .ok (.aload_n 0, 1) := by decide +kernel
theorem dX8_readBus_142 : decode cX8_readBus 142 = .ok (.aload_n 0, 1) := by decide +kernel
theorem dX8_readBus_143 : decode cX8_readBus 143 = .ok (.getfield 20, 3) := by decide +kernel
theorem dX8_readBus_146 : decode cX8_readBus 146 = .ok (.iconst 4, 1) := by decide +kernel
theorem dX8_readBus_147 : decode cX8_readBus 147 = .ok (.iaload, 1) := by decide +kernel
theorem dX8_readBus_148 : decode cX8_readBus 148 = .ok (.iconst (-1), 1) := by decide +kernel
theorem dX8_readBus_149 : decode cX8_readBus 149 = .ok (.if_icmp .eq 7, 3) := by decide +kernel
theorem dX8_readBus_152 : decode cX8_readBus 152 = .ok (.iconst 1, 1) := by decide +kernel
theorem dX8_readBus_153 : decode cX8_readBus 153 = .ok (.goto 4, 3) := by decide +kernel
theorem dX8_readBus_156 : decode cX8_readBus 156 = .ok (.iconst 0, 1) := by decide +kernel
theorem dX8_readBus_157 : decode cX8_readBus 157 = .ok (.putfield 141, 3) := by decide +kernel
theorem dX8_readBus_160 : decode cX8_readBus 160 = .ok (.aload_n 0, 1) := by decide +kernel
theorem dX8_readBus_161 : decode cX8_readBus 161 = .ok (.getfield 20, 3) := by decide +kernel
theorem dX8_readBus_164 : decode cX8_readBus 164 = .ok (.iconst 4, 1) := by decide +kernel
theorem dX8_readBus_165 : decode cX8_readBus 165 = .ok (.iaload, 1) := by decide +kernel
theorem dX8_readBus_166 : decode cX8_readBus 166 = .ok (.ireturn, 1) := by decide +kernel
theorem dX8_readEnd_0 : decode cX8_readEnd 0 = .ok (.aload_n 0, 1) := by decide +kernel
theorem dX8_readEnd_1 : decode cX8_readEnd 1 = .ok (.getfield 20, 3) := by decide +kernel
theorem dX8_readEnd_4 : decode cX8_readEnd 4 = .ok (.iconst 5, 1) := by decide +kernel
theorem dX8_readEnd_5 : decode cX8_readEnd 5 = .ok (.iaload, 1) := by decide +kernel
theorem dX8_readEnd_6 : decode cX8_readEnd 6 = .ok (.istore_n 1, 1) := by decide +kernel
theorem dX8_readEnd_7 : decode cX8_readEnd 7 = .ok (.iload_n 1, 1) := by decide +kernel
theorem dX8_readEnd_8 : decode cX8_readEnd 8 = .ok (.bipush 6, 2) := by decide +kernel
theorem dX8_readEnd_10 : decode cX8_readEnd 10 = .ok (.if_icmp .ne 9, 3) := by decide +kernel
theorem dX8_readEnd_13 : decode cX8_readEnd 13 = .ok (.aload_n 0, 1) := by decide +kernel
theorem dX8_readEnd_14 : decode cX8_readEnd 14 = .ok (.iconst 5, 1) := by decide +kernel
theorem dX8_readEnd_15 : decode cX8_readEnd 15 = .ok (.invokevirtual 114, 3) := by decide +kernel
theorem dX8_readEnd_18 : decode cX8_readEnd 18 = .ok (.ireturn, 1) := by decide +kernel
theorem dX8_readEnd_19 : decode cX8_readEnd 19 = .ok (.aload_n 0, 1) := by decide +kernel
theorem dX8_readEnd_20 : decode cX8_readEnd 20 = .ok (.getfield 141, 3) := by decide +kernel
theorem dX8_readEnd_23 : decode cX8_readEnd 23 = .ok (.ifCond .ne 10, 3) := by decide +kernel
theorem dX8_readEnd_26 : decode cX8_readEnd 26 = .ok (.aload_n 0, 1) := by decide +kernel
theorem dX8_readEnd_27 : decode cX8_readEnd 27 = .ok (.bipush 6, 2) := by decide +kernel
theorem dX8_readEnd_29 : decode cX8_readEnd 29 = .ok (.invokevirtual 114, 3) := by decide +kernel
theorem dX8_readEnd_32 : decode cX8_readEnd 32 = .ok (.ireturn, 1) := by decide +kernel
theorem dX8_readEnd_33 : decode cX8_readEnd 33 = .ok (.aload_n 0, 1) := by decide +kernel
theorem dX8_readEnd_34 : decode cX8_readEnd 34 = .ok (.invokevirtual 117, 3) := by decide +kernel
theorem dX8_readEnd_37 : decode cX8_readEnd 37 = .ok (.aload_n 0, 1) := by decide +kernel
theorem dX8_readEnd_38 : decode cX8_readEnd 38 = .ok (.iload_n 1, 1) := by decide +kernel
theorem dX8_readEnd_39 : decode cX8_readEnd 39 = .ok (.invokevirtual 159, 3) := by decide +kernel
theorem dX8_readEnd_42 : decode cX8_readEnd 42 = .ok (.iconst (-1), 1) := by decide +kernel
theorem dX8_readEnd_43 : decode cX8_readEnd 43 = .ok (.if_icmp .ne 5, 3) := by decide +kernel
theorem dX8_readEnd_46 : decode cX8_readEnd 46 = .ok (.iconst (-1), 1) := by decide +kernel
theorem dX8_readEnd_47 : decode cX8_readEnd 47 = .ok (.ireturn, 1) := by decide +kernel
theorem dX8_readEnd_48 : decode cX8_readEnd 48 = .ok (.aload_n 0, 1) := by decide +kernel
theorem dX8_readEnd_49 : decode cX8_readEnd 49 = .ok (.getfield 26, 3) := by decide +kernel
theorem dX8_readEnd_52 : decode cX8_readEnd 52 = .ok (.iload_n 1, 1) := by decide +kernel
theorem dX8_readEnd_53 : decode cX8_readEnd 53 = .ok (.aload_n 0, 1) := by decide +kernel
theorem dX8_readEnd_54 : decode cX8_readEnd 54 = .ok (.ldc 162, 2) := by decide +kernel
theorem dX8_readEnd_56 : decode cX8_readEnd 56 = .ok (.iconst 0, 1) := by decide +kernel
theorem dX8_readEnd_57 : decode cX8_readEnd 57 = .ok (.aload_n 0, 1) := by decide +kernel
theorem dX8_readEnd_58 : decode cX8_readEnd 58 = .ok (.getfield 20, 3) := by decide +kernel
theorem dX8_readEnd_61 : decode cX8_readEnd 61 = .ok (.iconst 0, 1) := by decide +kernel
theorem dX8_readEnd_62 : decode cX8_readEnd 62 = .ok (.iaload, 1) := by decide +kernel
theorem dX8_readEnd_63 : decode cX8_readEnd 63 = .ok (.iconst 1, 1) := by decide +kernel
theorem dX8_readEnd_64 : decode cX8_readEnd 64 = .ok (.isub, 1) := by decide +kernel
theorem dX8_readEnd_65 : decode cX8_readEnd 65 = .ok (.invokevirtual 147, 3) := by decide +kernel
theorem dX8_readEnd_68 : decode cX8_readEnd 68 = .ok (.iastore, 1) := by decide +kernel
theorem dX8_readEnd_69 : decode cX8_readEnd 69 = .ok (.aload_n 0, 1) := by decide +kernel
theorem dX8_readEnd_70 : decode cX8_readEnd 70 = .ok (.getfield 20, 3) := by decide +kernel
theorem dX8_readEnd_73 : decode cX8_readEnd 73 = .ok (.iconst 5, 1) := by decide +kernel
theorem dX8_readEnd_74 : decode cX8_readEnd 74 = .ok (.dup2, 1) := by decide +kernel
theorem dX8_readEnd_75 : decode cX8_readEnd 75 = .ok (.iaload, 1) := by decide +kernel
theorem dX8_readEnd_76 : decode cX8_readEnd 76 = .ok (.aload_n 0, 1) := by decide +kernel
theorem dX8_readEnd_77 : decode cX8_readEnd 77 = .ok (.getfield 26, 3) := by decide +kernel
theorem dX8_readEnd_80 : decode cX8_readEnd 80 = .ok (.iload_n 1, 1) := by decide +kernel
theorem dX8_readEnd_81 : decode cX8_readEnd 81 = .ok (.iaload, 1) := by decide +kernel
theorem dX8_readEnd_82 : decode cX8_readEnd 82 = .ok (.iconst (-1), 1) := by decide +kernel
theorem dX8_readEnd_83 : decode cX8_readEnd 83 = .ok (.if_icmp .ne 7, 3) := by decide +kernel
theorem dX8_readEnd_86 : decode cX8_readEnd 86 = .ok (.iconst 0, 1) := by decide +kernel
theorem dX8_readEnd_87 : decode cX8_readEnd 87 = .ok (.goto 4, 3) := by decide +kernel
theorem dX8_readEnd_90 : decode cX8_readEnd 90 = .ok (.iconst 1, 1) := by decide +kernel
theorem dX8_readEnd_91 : decode cX8_readEnd 91 = .ok (.iadd, 1) := by decide +kernel
theorem dX8_readEnd_92 : decode cX8_readEnd 92 = .ok (.iastore, 1) := by decide +kernel
theorem dX8_readEnd_93 : decode cX8_readEnd 93 = .ok (.aload_n 0, 1) := by decide +kernel
theorem dX8_readEnd_94 : decode cX8_readEnd 94 = .ok (.getfield 26, 3) := by decide +kernel
theorem dX8_readEnd_97 : decode cX8_readEnd 97 = .ok (.iload_n 1, 1) := by decide +kernel
theorem dX8_readEnd_98 : decode cX8_readEnd 98 = .ok (.iaload, 1) := by decide +kernel
theorem dX8_readEnd_99 : decode cX8_readEnd 99 = .ok (.ireturn, 1) := by decide +kernel
theorem dX8_isGap_0 : decode cX8_isGap 0 = .ok (.iload_n 0, 1) := by decide +kernel
theorem dX8_isGap_1 : decode cX8_isGap 1 = .ok (.bipush 8, 2) := by decide +kernel
theorem dX8_isGap_3 : decode cX8_isGap 3 = .ok (.if_icmp .eq 35, 3) := by decide +kernel
theorem dX8_isGap_6 : decode cX8_isGap 6 = .ok (.iload_n 0, 1) := by decide +kernel
theorem dX8_isGap_7 : decode cX8_isGap 7 = .ok (.bipush 16, 2) := by decide +kernel
theorem dX8_isGap_9 : decode cX8_isGap 9 = .ok (.if_icmp .eq 29, 3) := by decide +kernel
theorem dX8_isGap_12 : decode cX8_isGap 12 = .ok (.iload_n 0, 1) := by decide +kernel
theorem dX8_isGap_13 : decode cX8_isGap 13 = .ok (.bipush 32, 2) := by decide +kernel
theorem dX8_isGap_15 : decode cX8_isGap 15 = .ok (.if_icmp .eq 23, 3) := by decide +kernel
theorem dX8_isGap_18 : decode cX8_isGap 18 = .ok (.iload_n 0, 1) := by decide +kernel
theorem dX8_isGap_19 : decode cX8_isGap 19 = .ok (.bipush 64, 2) := by decide +kernel
theorem dX8_isGap_21 : decode cX8_isGap 21 = .ok (.if_icmp .eq 17, 3) := by decide +kernel
theorem dX8_isGap_24 : decode cX8_isGap 24 = .ok (.iload_n 0, 1) := by decide +kernel
theorem dX8_isGap_25 : decode cX8_isGap 25 = .ok (.sipush 128, 3) := by decide +kernel
theorem dX8_isGap_28 : decode cX8_isGap 28 = .ok (.if_icmp .eq 10, 3) := by decide +kernel
theorem dX8_isGap_31 : decode cX8_isGap 31 = .ok (.iload_n 0, 1) := by decide +kernel
theorem dX8_isGap_32 : decode cX8_isGap 32 = .ok (.sipush 256, 3) := by decide +kernel
theorem dX8_isGap_35 : decode cX8_isGap 35 = .ok (.if_icmp .ne 7, 3) := by decide +kernel
theorem dX8_isGap_38 : decode cX8_isGap 38 = .ok (.iconst 1, 1) := by decide +kernel
theorem dX8_isGap_39 : decode cX8_isGap 39 = .ok (.goto 4, 3) := by decide +kernel
theorem dX8_isGap_42 : decode cX8_isGap 42 = .ok (.iconst 0, 1) := by decide +kernel
theorem dX8_isGap_43 : decode cX8_isGap 43 = .ok (.ireturn, 1) := by decide +kernel
theorem dX8_readGap_0 : decode cX8_readGap 0 = .ok (.aload_n 0, 1) := by decide +kernel
theorem dX8_readGap_1 : decode cX8_readGap 1 = .ok (.ldc 164, 2) := by decide +kernel
theorem dX8_readGap_3 : decode cX8_readGap 3 = .ok (.invokevirtual 120, 3) := by decide +kernel
theorem dX8_readGap_6 : decode cX8_readGap 6 = .ok (.ifCond .ne 9, 3) := by decide +kernel
theorem dX8_readGap_9 : decode cX8_readGap 9 = .ok (.aload_n 0, 1) := by decide +kernel
theorem dX8_readGap_10 : decode cX8_readGap 10 = .ok (.iconst 1, 1) := by decide +kernel
theorem dX8_readGap_11 : decode cX8_readGap 11 = .ok (.invokevirtual 114, 3) := by decide +kernel
theorem dX8_readGap_14 : decode cX8_readGap 14 = .ok (.ireturn, 1) := by decide +kernel
theorem dX8_readGap_15 : decode cX8_readGap 15 = .ok (.aload_n 0, 1) := by decide +kernel
theorem dX8_readGap_16 : decode cX8_readGap 16 = .ok (.invokevirtual 117, 3) := by decide +kernel
theorem dX8_readGap_19 : decode cX8_readGap 19 = .ok (.aload_n 0, 1) := by decide +kernel
theorem dX8_readGap_20 : decode cX8_readGap 20 = .ok (.getfield 77, 3) := by decide +kernel
theorem dX8_readGap_23 : decode cX8_readGap 23 = .ok (.iconst 3, 1) := by decide +kernel
theorem dX8_readGap_24 : decode cX8_readGap 24 = .ok (.if_icmp .eq 9, 3) := by decide +kernel
theorem dX8_readGap_27 : decode cX8_readGap 27 = .ok (.aload_n 0, 1) := by decide +kernel
theorem dX8_readGap_28 : decode cX8_readGap 28 = .ok (.iconst 1, 1) := by decide +kernel
theorem dX8_readGap_29 : decode cX8_readGap 29 = .ok (.invokevirtual 114, 3) := by decide +kernel
theorem dX8_readGap_32 : decode cX8_readGap 32 = .ok (.ireturn, 1) := by decide +kernel
theorem dX8_readGap_33 : decode cX8_readGap 33 = .ok (.aload_n 0, 1) := by decide +kernel
theorem dX8_readGap_34 : decode cX8_readGap 34 = .ok (.getfield 87, 3) := by decide +kernel
theorem dX8_readGap_37 : decode cX8_readGap 37 = .ok (.invokestatic 166, 3) := by decide +kernel
theorem dX8_readGap_40 : decode cX8_readGap 40 = .ok (.ifCond .eq 15, 3) := by decide +kernel
theorem dX8_readGap_43 : decode cX8_readGap 43 = .ok (.aload_n 0, 1) := by decide +kernel
theorem dX8_readGap_44 : decode cX8_readGap 44 = .ok (.bipush 8, 2) := by decide +kernel
theorem dX8_readGap_46 : decode cX8_readGap 46 = .ok (.sipush 256, 3) := by decide +kernel
theorem dX8_readGap_49 : decode cX8_readGap 49 = .ok (.invokevirtual 124, 3) := by decide +kernel
theorem dX8_readGap_52 : decode cX8_readGap 52 = .ok (.goto 8, 3) := by decide +kernel
theorem dX8_readGap_55 : decode cX8_readGap 55 = .ok (.aload_n 0, 1) := by decide +kernel
theorem dX8_readGap_56 : decode cX8_readGap 56 = .ok (.iconst 4, 1) := by decide +kernel
theorem dX8_readGap_57 : decode cX8_readGap 57 = .ok (.invokevirtual 114, 3) := by decide +kernel
theorem dX8_readGap_60 : decode cX8_readGap 60 = .ok (.ireturn, 1) := by decide +kernel
theorem dX8_isHeard_0 : decode cX8_isHeard 0 = .ok (.iconst 0, 1) := by decide +kernel
theorem dX8_isHeard_1 : decode cX8_isHeard 1 = .ok (.istore_n 3, 1) := by decide +kernel
theorem dX8_isHeard_2 : decode cX8_isHeard 2 = .ok (.iload_n 3, 1) := by decide +kernel
theorem dX8_isHeard_3 : decode cX8_isHeard 3 = .ok (.aload_n 0, 1) := by decide +kernel
theorem dX8_isHeard_4 : decode cX8_isHeard 4 = .ok (.getfield 32, 3) := by decide +kernel
theorem dX8_isHeard_7 : decode cX8_isHeard 7 = .ok (.iload_n 1, 1) := by decide +kernel
theorem dX8_isHeard_8 : decode cX8_isHeard 8 = .ok (.iconst 3, 1) := by decide +kernel
theorem dX8_isHeard_9 : decode cX8_isHeard 9 = .ok (.iadd, 1) := by decide +kernel
theorem dX8_isHeard_10 : decode cX8_isHeard 10 = .ok (.iaload, 1) := by decide +kernel
theorem dX8_isHeard_11 : decode cX8_isHeard 11 = .ok (.if_icmp .ge 25, 3) := by decide +kernel
theorem dX8_isHeard_14 : decode cX8_isHeard 14 = .ok (.aload_n 0, 1) := by decide +kernel
theorem dX8_isHeard_15 : decode cX8_isHeard 15 = .ok (.getfield 32, 3) := by decide +kernel
theorem dX8_isHeard_18 : decode cX8_isHeard 18 = .ok (.iload_n 1, 1) := by decide +kernel
theorem dX8_isHeard_19 : decode cX8_isHeard 19 = .ok (.iconst 4, 1) := by decide +kernel
theorem dX8_isHeard_20 : decode cX8_isHeard 20 = .ok (.iadd, 1) := by decide +kernel
theorem dX8_isHeard_21 : decode cX8_isHeard 21 = .ok (.iload_n 3, 1) := by decide +kernel
theorem dX8_isHeard_22 : decode cX8_isHeard 22 = .ok (.iadd, 1) := by decide +kernel
theorem dX8_isHeard_23 : decode cX8_isHeard 23 = .ok (.iaload, 1) := by decide +kernel
theorem dX8_isHeard_24 : decode cX8_isHeard 24 = .ok (.iload_n 2, 1) := by decide +kernel
theorem dX8_isHeard_25 : decode cX8_isHeard 25 = .ok (.if_icmp .ne 5, 3) := by decide +kernel
theorem dX8_isHeard_28 : decode cX8_isHeard 28 = .ok (.iconst 1, 1) := by decide +kernel
theorem dX8_isHeard_29 : decode cX8_isHeard 29 = .ok (.ireturn, 1) := by decide +kernel
theorem dX8_isHeard_30 : decode cX8_isHeard 30 = .ok (.iinc 3 1, 3) := by decide +kernel
theorem dX8_isHeard_33 : decode cX8_isHeard 33 = .ok (.goto (-31), 3) := by decide +kernel
theorem dX8_isHeard_36 : decode cX8_isHeard 36 = .ok (.aload_n 0, 1) := by decide +kernel
theorem dX8_isHeard_37 : decode cX8_isHeard 37 = .ok (.getfield 32, 3) := by decide +kernel
theorem dX8_isHeard_40 : decode cX8_isHeard 40 = .ok (.iload_n 1, 1) := by decide +kernel
theorem dX8_isHeard_41 : decode cX8_isHeard 41 = .ok (.iconst 0, 1) := by decide +kernel
theorem dX8_isHeard_42 : decode cX8_isHeard 42 = .ok (.iadd, 1) := by decide +kernel
theorem dX8_isHeard_43 : decode cX8_isHeard 43 = .ok (.iaload, 1) := by decide +kernel
theorem dX8_isHeard_44 : decode cX8_isHeard 44 = .ok (.iload_n 2, 1) := by decide +kernel
theorem dX8_isHeard_45 : decode cX8_isHeard 45 = .ok (.if_icmp .ne 7, 3) := by decide +kernel
theorem dX8_isHeard_48 : decode cX8_isHeard 48 = .ok (.iconst 1, 1) := by decide +kernel
theorem dX8_isHeard_49 : decode cX8_isHeard 49 = .ok (.goto 4, 3) := by decide +kernel
theorem dX8_isHeard_52 : decode cX8_isHeard 52 = .ok (.iconst 0, 1) := by decide +kernel
theorem dX8_isHeard_53 : decode cX8_isHeard 53 = .ok (.ireturn, 1) := by decide +kernel
theorem dX8_readReceiver_0 : decode cX8_readReceiver 0 = .ok (.aload_n 0, 1) := by decide +kernel
theorem dX8_readReceiver_1 : decode cX8_readReceiver 1 = .ok (.invokevirtual 170, 3) := by decide +kernel
theorem dX8_readReceiver_4 : decode cX8_readReceiver 4 = .ok (.istore_n 2, 1) := by decide +kernel
theorem dX8_readReceiver_5 : decode cX8_readReceiver 5 = .ok (.iload_n 2, 1) := by decide +kernel
theorem dX8_readReceiver_6 : decode cX8_readReceiver 6 = .ok (.iconst (-1), 1) := by decide +kernel
theorem dX8_readReceiver_7 : decode cX8_readReceiver 7 = .ok (.if_icmp .ne 5, 3) := by decide +kernel
theorem dX8_readReceiver_10 : decode cX8_readReceiver 10 = .ok (.iconst (-1), 1) := by decide +kernel
theorem dX8_readReceiver_11 : decode cX8_readReceiver 11 = .ok (.ireturn, 1) := by decide +kernel
theorem dX8_readReceiver_12 : decode cX8_readReceiver 12 = .ok (.aload_n 0, 1) := by decide +kernel
theorem dX8_readReceiver_13 : decode cX8_readReceiver 13 = .ok (.iload_n 1, 1) := by decide +kernel
theorem dX8_readReceiver_14 : decode cX8_readReceiver 14 = .ok (.iload_n 2, 1) := by decide +kernel
theorem dX8_readReceiver_15 : decode cX8_readReceiver 15 = .ok (.invokevirtual 173, 3) := by decide +kernel
theorem dX8_readReceiver_18 : decode cX8_readReceiver 18 = .ok (.ifCond .eq 9, 3) := by decide +kernel
theorem dX8_readReceiver_21 : decode cX8_readReceiver 21 = .ok (.aload_n 0, 1) := by decide +kernel
theorem dX8_readReceiver_22 : decode cX8_readReceiver 22 = .ok (.iconst 3, 1) := by decide +kernel
theorem dX8_readReceiver_23 : decode cX8_readReceiver 23 = .ok (.invokevirtual 114, 3) := by decide +kernel
theorem dX8_readReceiver_26 : decode cX8_readReceiver 26 = .ok (.ireturn, 1) := by decide +kernel
theorem dX8_readReceiver_27 : decode cX8_readReceiver 27 = .ok (.aload_n 0, 1) := by decide +kernel
theorem dX8_readReceiver_28 : decode cX8_readReceiver 28 = .ok (.getfield 32, 3) := by decide +kernel
theorem dX8_readReceiver_31 : decode cX8_readReceiver 31 = .ok (.iload_n 1, 1) := by decide +kernel
theorem dX8_readReceiver_32 : decode cX8_readReceiver 32 = .ok (.iconst 4, 1) := by decide +kernel
theorem dX8_readReceiver_33 : decode cX8_readReceiver 33 = .ok (.iadd, 1) := by decide +kernel
theorem dX8_readReceiver_34 : decode cX8_readReceiver 34 = .ok (.aload_n 0, 1) := by decide +kernel
theorem dX8_readReceiver_35 : decode cX8_readReceiver 35 = .ok (.getfield 32, 3) := by decide +kernel
theorem dX8_readReceiver_38 : decode cX8_readReceiver 38 = .ok (.iload_n 1, 1) := by decide +kernel
theorem dX8_readReceiver_39 : decode cX8_readReceiver 39 = .ok (.iconst 3, 1) := by decide +kernel
theorem dX8_readReceiver_40 : decode cX8_readReceiver 40 = .ok (.iadd, 1) := by decide +kernel
theorem dX8_readReceiver_41 : decode cX8_readReceiver 41 = .ok (.iaload, 1) := by decide +kernel
theorem dX8_readReceiver_42 : decode cX8_readReceiver 42 = .ok (.iadd, 1) := by decide +kernel
theorem dX8_readReceiver_43 : decode cX8_readReceiver 43 = .ok (.iload_n 2, 1) := by decide +kernel
theorem dX8_readReceiver_44 : decode cX8_readReceiver 44 = .ok (.iastore, 1) := by decide +kernel
theorem dX8_readReceiver_45 : decode cX8_readReceiver 45 = .ok (.aload_n 0, 1) := by decide +kernel
theorem dX8_readReceiver_46 : decode cX8_readReceiver 46 = .ok (.getfield 32, 3) := by decide +kernel
theorem dX8_readReceiver_49 : decode cX8_readReceiver 49 = .ok (.iload_n 1, 1) := by decide +kernel
theorem dX8_readReceiver_50 : decode cX8_readReceiver 50 = .ok (.iconst 3, 1) := by decide +kernel
theorem dX8_readReceiver_51 : decode cX8_readReceiver 51 = .ok (.iadd, 1) := by decide +kernel
theorem dX8_readReceiver_52 : decode cX8_readReceiver 52 = .ok (.dup2, 1) := by decide +kernel
theorem dX8_readReceiver_53 : decode cX8_readReceiver 53 = .ok (.iaload, 1) := by decide +kernel
theorem dX8_readReceiver_54 : decode cX8_readReceiver 54 = .ok (.iconst 1, 1) := by decide +kernel
theorem dX8_readReceiver_55 : decode cX8_readReceiver 55 = .ok (.iadd, 1) := by decide +kernel
theorem dX8_readReceiver_56 : decode cX8_readReceiver 56 = .ok (.iastore, 1) := by decide +kernel
theorem dX8_readReceiver_57 : decode cX8_readReceiver 57 = .ok (.aload_n 0, 1) := by decide +kernel
theorem dX8_readReceiver_58 : decode cX8_readReceiver 58 = .ok (.invokevirtual 117, 3) := by decide +kernel
theorem dX8_readReceiver_61 : decode cX8_readReceiver 61 = .ok (.iload_n 2, 1) := by decide +kernel
theorem dX8_readReceiver_62 : decode cX8_readReceiver 62 = .ok (.ireturn, 1) := by decide +kernel
theorem dX8_readLink_0 : decode cX8_readLink 0 = .ok (.aload_n 0, 1) := by decide +kernel
theorem dX8_readLink_1 : decode cX8_readLink 1 = .ok (.getfield 20, 3) := by decide +kernel
theorem dX8_readLink_4 : decode cX8_readLink 4 = .ok (.bipush 6, 2) := by decide +kernel
theorem dX8_readLink_6 : decode cX8_readLink 6 = .ok (.iaload, 1) := by decide +kernel
theorem dX8_readLink_7 : decode cX8_readLink 7 = .ok (.istore_n 1, 1) := by decide +kernel
theorem dX8_readLink_8 : decode cX8_readLink 8 = .ok (.iload_n 1, 1) := by decide +kernel
theorem dX8_readLink_9 : decode cX8_readLink 9 = .ok (.bipush 8, 2) := by decide +kernel
theorem dX8_readLink_11 : decode cX8_readLink 11 = .ok (.if_icmp .ne 9, 3) := by decide +kernel
theorem dX8_readLink_14 : decode cX8_readLink 14 = .ok (.aload_n 0, 1) := by decide +kernel
theorem dX8_readLink_15 : decode cX8_readLink 15 = .ok (.iconst 5, 1) := by decide +kernel
theorem dX8_readLink_16 : decode cX8_readLink 16 = .ok (.invokevirtual 114, 3) := by decide +kernel
theorem dX8_readLink_19 : decode cX8_readLink 19 = .ok (.ireturn, 1) := by decide +kernel
theorem dX8_readLink_20 : decode cX8_readLink 20 = .ok (.aload_n 0, 1) := by decide +kernel
theorem dX8_readLink_21 : decode cX8_readLink 21 = .ok (.getfield 141, 3) := by decide +kernel
theorem dX8_readLink_24 : decode cX8_readLink 24 = .ok (.ifCond .ne 10, 3) := by decide +kernel
theorem dX8_readLink_27 : decode cX8_readLink 27 = .ok (.aload_n 0, 1) := by decide +kernel
theorem dX8_readLink_28 : decode cX8_readLink 28 = .ok (.bipush 6, 2) := by decide +kernel
theorem dX8_readLink_30 : decode cX8_readLink 30 = .ok (.invokevirtual 114, 3) := by decide +kernel
theorem dX8_readLink_33 : decode cX8_readLink 33 = .ok (.ireturn, 1) := by decide +kernel
theorem dX8_readLink_34 : decode cX8_readLink 34 = .ok (.aload_n 0, 1) := by decide +kernel
theorem dX8_readLink_35 : decode cX8_readLink 35 = .ok (.invokevirtual 117, 3) := by decide +kernel
theorem dX8_readLink_38 : decode cX8_readLink 38 = .ok (.aload_n 0, 1) := by decide +kernel
theorem dX8_readLink_39 : decode cX8_readLink 39 = .ok (.bipush 6, 2) := by decide +kernel
theorem dX8_readLink_41 : decode cX8_readLink 41 = .ok (.iload_n 1, 1) := by decide +kernel
theorem dX8_readLink_42 : decode cX8_readLink 42 = .ok (.iadd, 1) := by decide +kernel
theorem dX8_readLink_43 : decode cX8_readLink 43 = .ok (.invokevirtual 159, 3) := by decide +kernel
theorem dX8_readLink_46 : decode cX8_readLink 46 = .ok (.iconst (-1), 1) := by decide +kernel
theorem dX8_readLink_47 : decode cX8_readLink 47 = .ok (.if_icmp .ne 5, 3) := by decide +kernel
theorem dX8_readLink_50 : decode cX8_readLink 50 = .ok (.iconst (-1), 1) := by decide +kernel
theorem dX8_readLink_51 : decode cX8_readLink 51 = .ok (.ireturn, 1) := by decide +kernel
theorem dX8_readLink_52 : decode cX8_readLink 52 = .ok (.aload_n 0, 1) := by decide +kernel
theorem dX8_readLink_53 : decode cX8_readLink 53 = .ok (.ldc 177, 2) := by decide +kernel
theorem dX8_readLink_55 : decode cX8_readLink 55 = .ok (.invokevirtual 120, 3) := by decide +kernel
theorem dX8_readLink_58 : decode cX8_readLink 58 = .ok (.ifCond .ne 9, 3) := by decide +kernel
theorem dX8_readLink_61 : decode cX8_readLink 61 = .ok (.aload_n 0, 1) := by decide +kernel
theorem dX8_readLink_62 : decode cX8_readLink 62 = .ok (.iconst 1, 1) := by decide +kernel
theorem dX8_readLink_63 : decode cX8_readLink 63 = .ok (.invokevirtual 114, 3) := by decide +kernel
theorem dX8_readLink_66 : decode cX8_readLink 66 = .ok (.ireturn, 1) := by decide +kernel
theorem dX8_readLink_67 : decode cX8_readLink 67 = .ok (.aload_n 0, 1) := by decide +kernel
theorem dX8_readLink_68 : decode cX8_readLink 68 = .ok (.invokevirtual 117, 3) := by decide +kernel
theorem dX8_readLink_71 : decode cX8_readLink 71 = .ok (.bipush 7, 2) := by decide +kernel
theorem dX8_readLink_73 : decode cX8_readLink 73 = .ok (.iload_n 1, 1) := by decide +kernel
theorem dX8_readLink_74 : decode cX8_readLink 74 = .ok (.imul, 1) := by decide +kernel
theorem dX8_readLink_75 : decode cX8_readLink 75 = .ok (.istore_n 2, 1) := by decide +kernel
theorem dX8_readLink_76 : decode cX8_readLink 76 = .ok (.aload_n 0, 1) := by decide +kernel
theorem dX8_readLink_77 : decode cX8_readLink 77 = .ok (.getfield 32, 3) := by decide +kernel
theorem dX8_readLink_80 : decode cX8_readLink 80 = .ok (.iload_n 2, 1) := by decide +kernel
theorem dX8_readLink_81 : decode cX8_readLink 81 = .ok (.iconst 0, 1) := by decide +kernel
theorem dX8_readLink_82 : decode cX8_readLink 82 = .ok (.iadd, 1) := by decide +kernel
theorem dX8_readLink_83 : decode cX8_readLink 83 = .ok (.aload_n 0, 1) := by decide +kernel
theorem dX8_readLink_84 : decode cX8_readLink 84 = .ok (.invokevirtual 170, 3) := by decide +kernel
theorem dX8_readLink_87 : decode cX8_readLink 87 = .ok (.iastore, 1) := by decide +kernel
theorem dX8_readLink_88 : decode cX8_readLink 88 = .ok (.aload_n 0, 1) := by decide +kernel
theorem dX8_readLink_89 : decode cX8_readLink 89 = .ok (.getfield 32, 3) := by decide +kernel
theorem dX8_readLink_92 : decode cX8_readLink 92 = .ok (.iload_n 2, 1) := by decide +kernel
theorem dX8_readLink_93 : decode cX8_readLink 93 = .ok (.iconst 0, 1) := by decide +kernel
theorem dX8_readLink_94 : decode cX8_readLink 94 = .ok (.iadd, 1) := by decide +kernel
theorem dX8_readLink_95 : decode cX8_readLink 95 = .ok (.iaload, 1) := by decide +kernel
theorem dX8_readLink_96 : decode cX8_readLink 96 = .ok (.iconst (-1), 1) := by decide +kernel
theorem dX8_readLink_97 : decode cX8_readLink 97 = .ok (.if_icmp .ne 5, 3) := by decide +kernel
theorem dX8_readLink_100 : decode cX8_readLink 100 = .ok (.iconst (-1), 1) := by decide +kernel
theorem dX8_readLink_101 : decode cX8_readLink 101 = .ok (.ireturn, 1) := by decide +kernel
theorem dX8_readLink_102 : decode cX8_readLink 102 = .ok (.aload_n 0, 1) := by decide +kernel
theorem dX8_readLink_103 : decode cX8_readLink 103 = .ok (.invokevirtual 117, 3) := by decide +kernel
theorem dX8_readLink_106 : decode cX8_readLink 106 = .ok (.aload_n 0, 1) := by decide +kernel
theorem dX8_readLink_107 : decode cX8_readLink 107 = .ok (.getfield 32, 3) := by decide +kernel
theorem dX8_readLink_110 : decode cX8_readLink 110 = .ok (.iload_n 2, 1) := by decide +kernel
theorem dX8_readLink_111 : decode cX8_readLink 111 = .ok (.iconst 1, 1) := by decide +kernel
theorem dX8_readLink_112 : decode cX8_readLink 112 = .ok (.iadd, 1) := by decide +kernel
theorem dX8_readLink_113 : decode cX8_readLink 113 = .ok (.aload_n 0, 1) := by decide +kernel
theorem dX8_readLink_114 : decode cX8_readLink 114 = .ok (.invokevirtual 179, 3) := by decide +kernel
theorem dX8_readLink_117 : decode cX8_readLink 117 = .ok (.iastore, 1) := by decide +kernel
theorem dX8_readLink_118 : decode cX8_readLink 118 = .ok (.aload_n 0, 1) := by decide +kernel
theorem dX8_readLink_119 : decode cX8_readLink 119 = .ok (.getfield 32, 3) := by decide +kernel
theorem dX8_readLink_122 : decode cX8_readLink 122 = .ok (.iload_n 2, 1) := by decide +kernel
theorem dX8_readLink_123 : decode cX8_readLink 123 = .ok (.iconst 1, 1) := by decide +kernel
theorem dX8_readLink_124 : decode cX8_readLink 124 = .ok (.iadd, 1) := by decide +kernel
theorem dX8_readLink_125 : decode cX8_readLink 125 = .ok (.iaload, 1) := by decide +kernel
theorem dX8_readLink_126 : decode cX8_readLink 126 = .ok (.iconst (-1), 1) := by decide +kernel
theorem dX8_readLink_127 : decode cX8_readLink 127 = .ok (.if_icmp .ne 5, 3) := by decide +kernel
theorem dX8_readLink_130 : decode cX8_readLink 130 = .ok (.iconst (-1), 1) := by decide +kernel
theorem dX8_readLink_131 : decode cX8_readLink 131 = .ok (.ireturn, 1) := by decide +kernel
theorem dX8_readLink_132 : decode cX8_readLink 132 = .ok (.aload_n 0, 1) := by decide +kernel
theorem dX8_readLink_133 : decode cX8_readLink 133 = .ok (.getfield 32, 3) := by decide +kernel
theorem dX8_readLink_136 : decode cX8_readLink 136 = .ok (.iload_n 2, 1) := by decide +kernel
theorem dX8_readLink_137 : decode cX8_readLink 137 = .ok (.iconst 2, 1) := by decide +kernel
theorem dX8_readLink_138 : decode cX8_readLink 138 = .ok (.iadd, 1) := by decide +kernel
theorem dX8_readLink_139 : decode cX8_readLink 139 = .ok (.aload_n 0, 1) := by decide +kernel
theorem dX8_readLink_140 : decode cX8_readLink 140 = .ok (.ldc 182, 2) := by decide +kernel
theorem dX8_readLink_142 : decode cX8_readLink 142 = .ok (.iconst 1, 1) := by decide +kernel
theorem dX8_readLink_143 : decode cX8_readLink 143 = .ok (.aload_n 0, 1) := by decide +kernel
theorem dX8_readLink_144 : decode cX8_readLink 144 = .ok (.getfield 32, 3) := by decide +kernel
theorem dX8_readLink_147 : decode cX8_readLink 147 = .ok (.iload_n 2, 1) := by decide +kernel
theorem dX8_readLink_148 : decode cX8_readLink 148 = .ok (.iconst 1, 1) := by decide +kernel
theorem dX8_readLink_149 : decode cX8_readLink 149 = .ok (.iadd, 1) := by decide +kernel
theorem dX8_readLink_150 : decode cX8_readLink 150 = .ok (.iaload, 1) := by decide +kernel
theorem dX8_readLink_151 : decode cX8_readLink 151 = .ok (.bipush 40, 2) := by decide +kernel
theorem dX8_readLink_153 : decode cX8_readLink 153 = .ok (.if_icmp .ge 14, 3) := by decide +kernel
theorem dX8_readLink_156 : decode cX8_readLink 156 = .ok (.aload_n 0, 1) := by decide +kernel
theorem dX8_readLink_157 : decode cX8_readLink 157 = .ok (.getfield 32, 3) := by decide +kernel
theorem dX8_readLink_160 : decode cX8_readLink 160 = .ok (.iload_n 2, 1) := by decide +kernel
theorem dX8_readLink_161 : decode cX8_readLink 161 = .ok (.iconst 1, 1) := by decide +kernel
theorem dX8_readLink_162 : decode cX8_readLink 162 = .ok (.iadd, 1) := by decide +kernel
theorem dX8_readLink_163 : decode cX8_readLink 163 = .ok (.iaload, 1) := by decide +kernel
theorem dX8_readLink_164 : decode cX8_readLink 164 = .ok (.goto 5, 3) := by decide +kernel
theorem dX8_readLink_167 : decode cX8_readLink 167 = .ok (.bipush 40, 2) := by decide +kernel
theorem dX8_readLink_169 : decode cX8_readLink 169 = .ok (.invokevirtual 147, 3) := by decide +kernel
theorem dX8_readLink_172 : decode cX8_readLink 172 = .ok (.iastore, 1) := by decide +kernel
theorem dX8_readLink_173 : decode cX8_readLink 173 = .ok (.aload_n 0, 1) := by decide +kernel
theorem dX8_readLink_174 : decode cX8_readLink 174 = .ok (.getfield 32, 3) := by decide +kernel
theorem dX8_readLink_177 : decode cX8_readLink 177 = .ok (.iload_n 2, 1) := by decide +kernel
theorem dX8_readLink_178 : decode cX8_readLink 178 = .ok (.iconst 2, 1) := by decide +kernel
theorem dX8_readLink_179 : decode cX8_readLink 179 = .ok (.iadd, 1) := by decide +kernel
theorem dX8_readLink_180 : decode cX8_readLink 180 = .ok (.iaload, 1) := by decide +kernel
theorem dX8_readLink_181 : decode cX8_readLink 181 = .ok (.iconst (-1), 1) := by decide +kernel
theorem dX8_readLink_182 : decode cX8_readLink 182 = .ok (.if_icmp .ne 5, 3) := by decide +kernel
theorem dX8_readLink_185 : decode cX8_readLink 185 = .ok (.iconst (-1), 1) := by decide +kernel
theorem dX8_readLink_186 : decode cX8_readLink 186 = .ok (.ireturn, 1) := by decide +kernel
theorem dX8_readLink_187 : decode cX8_readLink 187 = .ok (.aload_n 0, 1) := by decide +kernel
theorem dX8_readLink_188 : decode cX8_readLink 188 = .ok (.ldc 183, 2) := by decide +kernel
theorem dX8_readLink_190 : decode cX8_readLink 190 = .ok (.invokevirtual 120, 3) := by decide +kernel
theorem dX8_readLink_193 : decode cX8_readLink 193 = .ok (.ifCond .ne 9, 3) := by decide +kernel
theorem dX8_readLink_196 : decode cX8_readLink 196 = .ok (.aload_n 0, 1) := by decide +kernel
theorem dX8_readLink_197 : decode cX8_readLink 197 = .ok (.iconst 1, 1) := by decide +kernel
theorem dX8_readLink_198 : decode cX8_readLink 198 = .ok (.invokevirtual 114, 3) := by decide +kernel
theorem dX8_readLink_201 : decode cX8_readLink 201 = .ok (.ireturn, 1) := by decide +kernel
theorem dX8_readLink_202 : decode cX8_readLink 202 = .ok (.aload_n 0, 1) := by decide +kernel
theorem dX8_readLink_203 : decode cX8_readLink 203 = .ok (.invokevirtual 117, 3) := by decide +kernel
theorem dX8_readLink_206 : decode cX8_readLink 206 = .ok (.aload_n 0, 1) := by decide +kernel
theorem dX8_readLink_207 : decode cX8_readLink 207 = .ok (.getfield 32, 3) := by decide +kernel
theorem dX8_readLink_210 : decode cX8_readLink 210 = .ok (.iload_n 2, 1) := by decide +kernel
theorem dX8_readLink_211 : decode cX8_readLink 211 = .ok (.iconst 3, 1) := by decide +kernel
theorem dX8_readLink_212 : decode cX8_readLink 212 = .ok (.iadd, 1) := by decide +kernel
theorem dX8_readLink_213 : decode cX8_readLink 213 = .ok (.iconst 0, 1) := by decide +kernel
theorem dX8_readLink_214 : decode cX8_readLink 214 = .ok (.iastore, 1) := by decide +kernel
theorem dX8_readLink_215 : decode cX8_readLink 215 = .ok (.aload_n 0, 1) := by decide +kernel
theorem dX8_readLink_216 : decode cX8_readLink 216 = .ok (.iload_n 2, 1) := by decide +kernel
theorem dX8_readLink_217 : decode cX8_readLink 217 = .ok (.invokevirtual 185, 3) := by decide +kernel
theorem dX8_readLink_220 : decode cX8_readLink 220 = .ok (.iconst (-1), 1) := by decide +kernel
theorem dX8_readLink_221 : decode cX8_readLink 221 = .ok (.if_icmp .ne 5, 3) := by decide +kernel
theorem dX8_readLink_224 : decode cX8_readLink 224 = .ok (.iconst (-1), 1) := by decide +kernel
theorem dX8_readLink_225 : decode cX8_readLink 225 = .ok (.ireturn, 1) := by decide +kernel
theorem dX8_readLink_226 : decode cX8_readLink 226 = .ok (.aload_n 0, 1) := by decide +kernel
theorem dX8_readLink_227 : decode cX8_readLink 227 = .ok (.getfield 77, 3) := by decide +kernel
theorem dX8_readLink_230 : decode cX8_readLink 230 = .ok (.bipush 59, 2) := by decide +kernel
theorem dX8_readLink_232 : decode cX8_readLink 232 = .ok (.if_icmp .eq 39, 3) := by decide +kernel
theorem dX8_readLink_235 : decode cX8_readLink 235 = .ok (.aload_n 0, 1) := by decide +kernel
theorem dX8_readLink_236 : decode cX8_readLink 236 = .ok (.getfield 77, 3) := by decide +kernel
theorem dX8_readLink_239 : decode cX8_readLink 239 = .ok (.ifCond .eq 32, 3) := by decide +kernel
theorem dX8_readLink_242 : decode cX8_readLink 242 = .ok (.aload_n 0, 1) := by decide +kernel
theorem dX8_readLink_243 : decode cX8_readLink 243 = .ok (.getfield 32, 3) := by decide +kernel
theorem dX8_readLink_246 : decode cX8_readLink 246 = .ok (.iload_n 2, 1) := by decide +kernel
theorem dX8_readLink_247 : decode cX8_readLink 247 = .ok (.iconst 3, 1) := by decide +kernel
theorem dX8_readLink_248 : decode cX8_readLink 248 = .ok (.iadd, 1) := by decide +kernel
theorem dX8_readLink_249 : decode cX8_readLink 249 = .ok (.iaload, 1) := by decide +kernel
theorem dX8_readLink_250 : decode cX8_readLink 250 = .ok (.iconst 3, 1) := by decide +kernel
theorem dX8_readLink_251 : decode cX8_readLink 251 = .ok (.if_icmp .ne 9, 3) := by decide +kernel
theorem dX8_readLink_254 : decode cX8_readLink 254 = .ok (.aload_n 0, 1) := by decide +kernel
theorem dX8_readLink_255 : decode cX8_readLink 255 = .ok (.iconst 1, 1) := by decide +kernel
theorem dX8_readLink_256 : decode cX8_readLink 256 = .ok (.invokevirtual 114, 3) := by decide +kernel
theorem dX8_readLink_259 : decode cX8_readLink 259 = .ok (.ireturn, 1) := by decide +kernel
theorem dX8_readLink_260 : decode cX8_readLink 260 = .ok (.aload_n 0, 1) := by decide +kernel
theorem dX8_readLink_261 : decode cX8_readLink 261 = .ok (.iload_n 2, 1) := by decide +kernel
theorem dX8_readLink_262 : decode cX8_readLink 262 = .ok (.invokevirtual 185, 3) := by decide +kernel
theorem dX8_readLink_265 : decode cX8_readLink 265 = .ok (.iconst (-1), 1) := by decide +kernel
theorem dX8_readLink_266 : decode cX8_readLink 266 = .ok (.if_icmp .ne (-40), 3) := by decide +kernel
theorem dX8_readLink_269 : decode cX8_readLink 269 = .ok (.iconst (-1), 1) := by decide +kernel
theorem dX8_readLink_270 : decode cX8_readLink 270 = .ok (.ireturn, 1) := by decide +kernel
theorem dX8_readLink_271 : decode cX8_readLink 271 = .ok (.aload_n 0, 1) := by decide +kernel
theorem dX8_readLink_272 : decode cX8_readLink 272 = .ok (.getfield 20, 3) := by decide +kernel
theorem dX8_readLink_275 : decode cX8_readLink 275 = .ok (.bipush 6, 2) := by decide +kernel
theorem dX8_readLink_277 : decode cX8_readLink 277 = .ok (.dup2, 1) := by decide +kernel
theorem dX8_readLink_278 : decode cX8_readLink 278 = .ok (.iaload, 1) := by decide +kernel
theorem dX8_readLink_279 : decode cX8_readLink 279 = .ok (.iconst 1, 1) := by decide +kernel
theorem dX8_readLink_280 : decode cX8_readLink 280 = .ok (.iadd, 1) := by decide +kernel
theorem dX8_readLink_281 : decode cX8_readLink 281 = .ok (.iastore, 1) := by decide +kernel
theorem dX8_readLink_282 : decode cX8_readLink 282 = .ok (.iload_n 1, 1) := by decide +kernel
theorem dX8_readLink_283 : decode cX8_readLink 283 = .ok (.ireturn, 1) := by decide +kernel
theorem dX8_readLine_0 : decode cX8_readLine 0 = .ok (.aload_n 0, 1) := by decide +kernel
theorem dX8_readLine_1 : decode cX8_readLine 1 = .ok (.ldc 128, 2) := by decide +kernel
theorem dX8_readLine_3 : decode cX8_readLine 3 = .ok (.invokevirtual 120, 3) := by decide +kernel
theorem dX8_readLine_6 : decode cX8_readLine 6 = .ok (.ifCond .eq 8, 3) := by decide +kernel
theorem dX8_readLine_9 : decode cX8_readLine 9 = .ok (.aload_n 0, 1) := by decide +kernel
theorem dX8_readLine_10 : decode cX8_readLine 10 = .ok (.invokevirtual 188, 3) := by decide +kernel
theorem dX8_readLine_13 : decode cX8_readLine 13 = .ok (.ireturn, 1) := by decide +kernel
theorem dX8_readLine_14 : decode cX8_readLine 14 = .ok (.aload_n 0, 1) := by decide +kernel
theorem dX8_readLine_15 : decode cX8_readLine 15 = .ok (.ldc 130, 2) := by decide +kernel
theorem dX8_readLine_17 : decode cX8_readLine 17 = .ok (.invokevirtual 120, 3) := by decide +kernel
theorem dX8_readLine_20 : decode cX8_readLine 20 = .ok (.ifCond .eq 8, 3) := by decide +kernel
theorem dX8_readLine_23 : decode cX8_readLine 23 = .ok (.aload_n 0, 1) := by decide +kernel
theorem dX8_readLine_24 : decode cX8_readLine 24 = .ok (.invokevirtual 191, 3) := by decide +kernel
theorem dX8_readLine_27 : decode cX8_readLine 27 = .ok (.ireturn, 1) := by decide +kernel
theorem dX8_readLine_28 : decode cX8_readLine 28 = .ok (.aload_n 0, 1) := by decide +kernel
theorem dX8_readLine_29 : decode cX8_readLine 29 = .ok (.ldc 132, 2) := by decide +kernel
theorem dX8_readLine_31 : decode cX8_readLine 31 = .ok (.invokevirtual 120, 3) := by decide +kernel
theorem dX8_readLine_34 : decode cX8_readLine 34 = .ok (.ifCond .eq 10, 3) := by decide +kernel
theorem dX8_readLine_37 : decode cX8_readLine 37 = .ok (.aload_n 0, 1) := by decide +kernel
theorem dX8_readLine_38 : decode cX8_readLine 38 = .ok (.invokevirtual 194, 3) := by decide +kernel
theorem dX8_readLine_41 : decode cX8_readLine 41 = .ok (.goto 8, 3) := by decide +kernel
theorem dX8_readLine_44 : decode cX8_readLine 44 = .ok (.aload_n 0, 1) := by decide +kernel
theorem dX8_readLine_45 : decode cX8_readLine 45 = .ok (.iconst 1, 1) := by decide +kernel
theorem dX8_readLine_46 : decode cX8_readLine 46 = .ok (.invokevirtual 114, 3) := by decide +kernel
theorem dX8_readLine_49 : decode cX8_readLine 49 = .ok (.ireturn, 1) := by decide +kernel
theorem dX8_readAll_0 : decode cX8_readAll 0 = .ok (.aload_n 0, 1) := by decide +kernel
theorem dX8_readAll_1 : decode cX8_readAll 1 = .ok (.iload_n 1, 1) := by decide +kernel
theorem dX8_readAll_2 : decode cX8_readAll 2 = .ok (.putfield 64, 3) := by decide +kernel
theorem dX8_readAll_5 : decode cX8_readAll 5 = .ok (.aload_n 0, 1) := by decide +kernel
theorem dX8_readAll_6 : decode cX8_readAll 6 = .ok (.iconst 0, 1) := by decide +kernel
theorem dX8_readAll_7 : decode cX8_readAll 7 = .ok (.putfield 67, 3) := by decide +kernel
theorem dX8_readAll_10 : decode cX8_readAll 10 = .ok (.aload_n 0, 1) := by decide +kernel
theorem dX8_readAll_11 : decode cX8_readAll 11 = .ok (.iconst 0, 1) := by decide +kernel
theorem dX8_readAll_12 : decode cX8_readAll 12 = .ok (.putfield 141, 3) := by decide +kernel
theorem dX8_readAll_15 : decode cX8_readAll 15 = .ok (.aload_n 0, 1) := by decide +kernel
theorem dX8_readAll_16 : decode cX8_readAll 16 = .ok (.getfield 20, 3) := by decide +kernel
theorem dX8_readAll_19 : decode cX8_readAll 19 = .ok (.iconst 5, 1) := by decide +kernel
theorem dX8_readAll_20 : decode cX8_readAll 20 = .ok (.iconst 0, 1) := by decide +kernel
theorem dX8_readAll_21 : decode cX8_readAll 21 = .ok (.iastore, 1) := by decide +kernel
theorem dX8_readAll_22 : decode cX8_readAll 22 = .ok (.aload_n 0, 1) := by decide +kernel
theorem dX8_readAll_23 : decode cX8_readAll 23 = .ok (.getfield 20, 3) := by decide +kernel
theorem dX8_readAll_26 : decode cX8_readAll 26 = .ok (.bipush 6, 2) := by decide +kernel
theorem dX8_readAll_28 : decode cX8_readAll 28 = .ok (.iconst 0, 1) := by decide +kernel
theorem dX8_readAll_29 : decode cX8_readAll 29 = .ok (.iastore, 1) := by decide +kernel
theorem dX8_readAll_30 : decode cX8_readAll 30 = .ok (.aload_n 0, 1) := by decide +kernel
theorem dX8_readAll_31 : decode cX8_readAll 31 = .ok (.invokevirtual 117, 3) := by decide +kernel
theorem dX8_readAll_34 : decode cX8_readAll 34 = .ok (.aload_n 0, 1) := by decide +kernel
theorem dX8_readAll_35 : decode cX8_readAll 35 = .ok (.invokevirtual 197, 3) := by decide +kernel
theorem dX8_readAll_38 : decode cX8_readAll 38 = .ok (.iconst (-1), 1) := by decide +kernel
theorem dX8_readAll_39 : decode cX8_readAll 39 = .ok (.if_icmp .ne 5, 3) := by decide +kernel
theorem dX8_readAll_42 : decode cX8_readAll 42 = .ok (.iconst (-1), 1) := by decide +kernel
theorem dX8_readAll_43 : decode cX8_readAll 43 = .ok (.ireturn, 1) := by decide +kernel
theorem dX8_readAll_44 : decode cX8_readAll 44 = .ok (.aload_n 0, 1) := by decide +kernel
theorem dX8_readAll_45 : decode cX8_readAll 45 = .ok (.getfield 77, 3) := by decide +kernel
theorem dX8_readAll_48 : decode cX8_readAll 48 = .ok (.bipush 59, 2) := by decide +kernel
theorem dX8_readAll_50 : decode cX8_readAll 50 = .ok (.if_icmp .ne 17, 3) := by decide +kernel
theorem dX8_readAll_53 : decode cX8_readAll 53 = .ok (.aload_n 0, 1) := by decide +kernel
theorem dX8_readAll_54 : decode cX8_readAll 54 = .ok (.invokevirtual 117, 3) := by decide +kernel
theorem dX8_readAll_57 : decode cX8_readAll 57 = .ok (.aload_n 0, 1) := by decide +kernel
theorem dX8_readAll_58 : decode cX8_readAll 58 = .ok (.invokevirtual 197, 3) := by decide +kernel
theorem dX8_readAll_61 : decode cX8_readAll 61 = .ok (.iconst (-1), 1) := by decide +kernel
theorem dX8_readAll_62 : decode cX8_readAll 62 = .ok (.if_icmp .ne (-18), 3) := by decide +kernel
theorem dX8_readAll_65 : decode cX8_readAll 65 = .ok (.iconst (-1), 1) := by decide +kernel
theorem dX8_readAll_66 : decode cX8_readAll 66 = .ok (.ireturn, 1) := by decide +kernel
theorem dX8_readAll_67 : decode cX8_readAll 67 = .ok (.aload_n 0, 1) := by decide +kernel
theorem dX8_readAll_68 : decode cX8_readAll 68 = .ok (.getfield 77, 3) := by decide +kernel
theorem dX8_readAll_71 : decode cX8_readAll 71 = .ok (.ifCond .eq 9, 3) := by decide +kernel
theorem dX8_readAll_74 : decode cX8_readAll 74 = .ok (.aload_n 0, 1) := by decide +kernel
theorem dX8_readAll_75 : decode cX8_readAll 75 = .ok (.iconst 1, 1) := by decide +kernel
theorem dX8_readAll_76 : decode cX8_readAll 76 = .ok (.invokevirtual 114, 3) := by decide +kernel
theorem dX8_readAll_79 : decode cX8_readAll 79 = .ok (.ireturn, 1) := by decide +kernel
theorem dX8_readAll_80 : decode cX8_readAll 80 = .ok (.aload_n 0, 1) := by decide +kernel
theorem dX8_readAll_81 : decode cX8_readAll 81 = .ok (.getfield 20, 3) := by decide +kernel
theorem dX8_readAll_84 : decode cX8_readAll 84 = .ok (.bipush 6, 2) := by decide +kernel
theorem dX8_readAll_86 : decode cX8_readAll 86 = .ok (.iaload, 1) := by decide +kernel
theorem dX8_readAll_87 : decode cX8_readAll 87 = .ok (.ifCond .ne 12, 3) := by decide +kernel
theorem dX8_readAll_90 : decode cX8_readAll 90 = .ok (.aload_n 0, 1) := by decide +kernel
theorem dX8_readAll_91 : decode cX8_readAll 91 = .ok (.bipush 6, 2) := by decide +kernel
theorem dX8_readAll_93 : decode cX8_readAll 93 = .ok (.invokevirtual 114, 3) := by decide +kernel
theorem dX8_readAll_96 : decode cX8_readAll 96 = .ok (.goto 10, 3) := by decide +kernel
theorem dX8_readAll_99 : decode cX8_readAll 99 = .ok (.aload_n 0, 1) := by decide +kernel
theorem dX8_readAll_100 : decode cX8_readAll 100 = .ok (.getfield 20, 3) := by decide +kernel
theorem dX8_readAll_103 : decode cX8_readAll 103 = .ok (.bipush 6, 2) := by decide +kernel
theorem dX8_readAll_105 : decode cX8_readAll 105 = .ok (.iaload, 1) := by decide +kernel
theorem dX8_readAll_106 : decode cX8_readAll 106 = .ok (.ireturn, 1) := by decide +kernel
theorem dX8_bus_0 : decode cX8_bus 0 = .ok (.aload_n 0, 1) := by decide +kernel
theorem dX8_bus_1 : decode cX8_bus 1 = .ok (.invokevirtual 200, 3) := by decide +kernel
theorem dX8_bus_4 : decode cX8_bus 4 = .ok (.iload_n 1, 1) := by decide +kernel
theorem dX8_bus_5 : decode cX8_bus 5 = .ok (.iconst 0, 1) := by decide +kernel
theorem dX8_bus_6 : decode cX8_bus 6 = .ok (.aload_n 0, 1) := by decide +kernel
theorem dX8_bus_7 : decode cX8_bus 7 = .ok (.getfield 57, 3) := by decide +kernel
theorem dX8_bus_10 : decode cX8_bus 10 = .ok (.invokestatic 80, 3) := by decide +kernel
theorem dX8_bus_13 : decode cX8_bus 13 = .ok (.ifCond .ne 9, 3) := by decide +kernel
theorem dX8_bus_16 : decode cX8_bus 16 = .ok (.aload_n 0, 1) := by decide +kernel
theorem dX8_bus_17 : decode cX8_bus 17 = .ok (.iconst 2, 1) := by decide +kernel
theorem dX8_bus_18 : decode cX8_bus 18 = .ok (.invokevirtual 203, 3) := by decide +kernel
theorem dX8_bus_21 : decode cX8_bus 21 = .ok (.ireturn, 1) := by decide +kernel
theorem dX8_bus_22 : decode cX8_bus 22 = .ok (.aload_n 0, 1) := by decide +kernel
theorem dX8_bus_23 : decode cX8_bus 23 = .ok (.iconst 0, 1) := by decide +kernel
theorem dX8_bus_24 : decode cX8_bus 24 = .ok (.putfield 57, 3) := by decide +kernel
theorem dX8_bus_27 : decode cX8_bus 27 = .ok (.aload_n 0, 1) := by decide +kernel
theorem dX8_bus_28 : decode cX8_bus 28 = .ok (.iconst 0, 1) := by decide +kernel
theorem dX8_bus_29 : decode cX8_bus 29 = .ok (.putfield 206, 3) := by decide +kernel
theorem dX8_bus_32 : decode cX8_bus 32 = .ok (.aload_n 0, 1) := by decide +kernel
theorem dX8_bus_33 : decode cX8_bus 33 = .ok (.iload_n 1, 1) := by decide +kernel
theorem dX8_bus_34 : decode cX8_bus 34 = .ok (.invokevirtual 209, 3) := by decide +kernel
theorem dX8_bus_37 : decode cX8_bus 37 = .ok (.iconst (-1), 1) := by decide +kernel
theorem dX8_bus_38 : decode cX8_bus 38 = .ok (.if_icmp .ne 25, 3) := by decide +kernel
theorem dX8_bus_41 : decode cX8_bus 41 = .ok (.aload_n 0, 1) := by decide +kernel
theorem dX8_bus_42 : decode cX8_bus 42 = .ok (.aload_n 0, 1) := by decide +kernel
theorem dX8_bus_43 : decode cX8_bus 43 = .ok (.getfield 108, 3) := by decide +kernel
theorem dX8_bus_46 : decode cX8_bus 46 = .ok (.putfield 206, 3) := by decide +kernel
theorem dX8_bus_49 : decode cX8_bus 49 = .ok (.aload_n 0, 1) := by decide +kernel
theorem dX8_bus_50 : decode cX8_bus 50 = .ok (.aload_n 0, 1) := by decide +kernel
theorem dX8_bus_51 : decode cX8_bus 51 = .ok (.getfield 111, 3) := by decide +kernel
theorem dX8_bus_54 : decode cX8_bus 54 = .ok (.putfield 9, 3) := by decide +kernel
theorem dX8_bus_57 : decode cX8_bus 57 = .ok (.aload_n 0, 1) := by decide +kernel
theorem dX8_bus_58 : decode cX8_bus 58 = .ok (.iconst 4, 1) := by decide +kernel
theorem dX8_bus_59 : decode cX8_bus 59 = .ok (.invokevirtual 203, 3) := by decide +kernel
theorem dX8_bus_62 : decode cX8_bus 62 = .ok (.ireturn, 1) := by decide +kernel
theorem dX8_bus_63 : decode cX8_bus 63 = .ok (.iconst 0, 1) := by decide +kernel
theorem dX8_bus_64 : decode cX8_bus 64 = .ok (.istore_n 2, 1) := by decide +kernel
theorem dX8_bus_65 : decode cX8_bus 65 = .ok (.iload_n 2, 1) := by decide +kernel
theorem dX8_bus_66 : decode cX8_bus 66 = .ok (.bipush 7, 2) := by decide +kernel
theorem dX8_bus_68 : decode cX8_bus 68 = .ok (.if_icmp .ge 21, 3) := by decide +kernel
theorem dX8_bus_71 : decode cX8_bus 71 = .ok (.aload_n 0, 1) := by decide +kernel
theorem dX8_bus_72 : decode cX8_bus 72 = .ok (.getfield 17, 3) := by decide +kernel
theorem dX8_bus_75 : decode cX8_bus 75 = .ok (.iload_n 2, 1) := by decide +kernel
theorem dX8_bus_76 : decode cX8_bus 76 = .ok (.aload_n 0, 1) := by decide +kernel
theorem dX8_bus_77 : decode cX8_bus 77 = .ok (.getfield 20, 3) := by decide +kernel
theorem dX8_bus_80 : decode cX8_bus 80 = .ok (.iload_n 2, 1) := by decide +kernel
theorem dX8_bus_81 : decode cX8_bus 81 = .ok (.iaload, 1) := by decide +kernel
theorem dX8_bus_82 : decode cX8_bus 82 = .ok (.iastore, 1) := by decide +kernel
theorem dX8_bus_83 : decode cX8_bus 83 = .ok (.iinc 2 1, 3) := by decide +kernel
theorem dX8_bus_86 : decode cX8_bus 86 = .ok (.goto (-21), 3) := by decide +kernel
theorem dX8_bus_89 : decode cX8_bus 89 = .ok (.iconst 0, 1) := by decide +kernel
theorem dX8_bus_90 : decode cX8_bus 90 = .ok (.istore_n 2, 1) := by decide +kernel
theorem dX8_bus_91 : decode cX8_bus 91 = .ok (.iload_n 2, 1) := by decide +kernel
theorem dX8_bus_92 : decode cX8_bus 92 = .ok (.bipush 6, 2) := by decide +kernel
theorem dX8_bus_94 : decode cX8_bus 94 = .ok (.if_icmp .ge 21, 3) := by decide +kernel
theorem dX8_bus_97 : decode cX8_bus 97 = .ok (.aload_n 0, 1) := by decide +kernel
theorem dX8_bus_98 : decode cX8_bus 98 = .ok (.getfield 23, 3) := by decide +kernel
theorem dX8_bus_101 : decode cX8_bus 101 = .ok (.iload_n 2, 1) := by decide +kernel
theorem dX8_bus_102 : decode cX8_bus 102 = .ok (.aload_n 0, 1) := by decide +kernel
theorem dX8_bus_103 : decode cX8_bus 103 = .ok (.getfield 26, 3) := by decide +kernel
theorem dX8_bus_106 : decode cX8_bus 106 = .ok (.iload_n 2, 1) := by decide +kernel
theorem dX8_bus_107 : decode cX8_bus 107 = .ok (.iaload, 1) := by decide +kernel
theorem dX8_bus_108 : decode cX8_bus 108 = .ok (.iastore, 1) := by decide +kernel
theorem dX8_bus_109 : decode cX8_bus 109 = .ok (.iinc 2 1, 3) := by decide +kernel
theorem dX8_bus_112 : decode cX8_bus 112 = .ok (.goto (-21), 3) := by decide +kernel
theorem dX8_bus_115 : decode cX8_bus 115 = .ok (.iconst 0, 1) := by decide +kernel
theorem dX8_bus_116 : decode cX8_bus 116 = .ok (.istore_n 2, 1) := by decide +kernel
theorem dX8_bus_117 : decode cX8_bus 117 = .ok (.iload_n 2, 1) := by decide +kernel
theorem dX8_bus_118 : decode cX8_bus 118 = .ok (.bipush 56, 2) := by decide +kernel
theorem dX8_bus_120 : decode cX8_bus 120 = .ok (.if_icmp .ge 21, 3) := by decide +kernel
theorem dX8_bus_123 : decode cX8_bus 123 = .ok (.aload_n 0, 1) := by decide +kernel
theorem dX8_bus_124 : decode cX8_bus 124 = .ok (.getfield 29, 3) := by decide +kernel
theorem dX8_bus_127 : decode cX8_bus 127 = .ok (.iload_n 2, 1) := by decide +kernel
theorem dX8_bus_128 : decode cX8_bus 128 = .ok (.aload_n 0, 1) := by decide +kernel
theorem dX8_bus_129 : decode cX8_bus 129 = .ok (.getfield 32, 3) := by decide +kernel
theorem dX8_bus_132 : decode cX8_bus 132 = .ok (.iload_n 2, 1) := by decide +kernel
theorem dX8_bus_133 : decode cX8_bus 133 = .ok (.iaload, 1) := by decide +kernel
theorem dX8_bus_134 : decode cX8_bus 134 = .ok (.iastore, 1) := by decide +kernel
theorem dX8_bus_135 : decode cX8_bus 135 = .ok (.iinc 2 1, 3) := by decide +kernel
theorem dX8_bus_138 : decode cX8_bus 138 = .ok (.goto (-21), 3) := by decide +kernel
theorem dX8_bus_141 : decode cX8_bus 141 = .ok (.iconst 0, 1) := by decide +kernel
theorem dX8_bus_142 : decode cX8_bus 142 = .ok (.istore_n 2, 1) := by decide +kernel
theorem dX8_bus_143 : decode cX8_bus 143 = .ok (.iload_n 2, 1) := by decide +kernel
theorem dX8_bus_144 : decode cX8_bus 144 = .ok (.bipush 14, 2) := by decide +kernel
theorem dX8_bus_146 : decode cX8_bus 146 = .ok (.if_icmp .ge 21, 3) := by decide +kernel
theorem dX8_bus_149 : decode cX8_bus 149 = .ok (.aload_n 0, 1) := by decide +kernel
theorem dX8_bus_150 : decode cX8_bus 150 = .ok (.getfield 35, 3) := by decide +kernel
theorem dX8_bus_153 : decode cX8_bus 153 = .ok (.iload_n 2, 1) := by decide +kernel
theorem dX8_bus_154 : decode cX8_bus 154 = .ok (.aload_n 0, 1) := by decide +kernel
theorem dX8_bus_155 : decode cX8_bus 155 = .ok (.getfield 39, 3) := by decide +kernel
theorem dX8_bus_158 : decode cX8_bus 158 = .ok (.iload_n 2, 1) := by decide +kernel
theorem dX8_bus_159 : decode cX8_bus 159 = .ok (.laload, 1) := by decide +kernel
theorem dX8_bus_160 : decode cX8_bus 160 = .ok (.lastore, 1) := by decide +kernel
theorem dX8_bus_161 : decode cX8_bus 161 = .ok (.iinc 2 1, 3) := by decide +kernel
theorem dX8_bus_164 : decode cX8_bus 164 = .ok (.goto (-21), 3) := by decide +kernel
theorem dX8_bus_167 : decode cX8_bus 167 = .ok (.aload_n 0, 1) := by decide +kernel
theorem dX8_bus_168 : decode cX8_bus 168 = .ok (.iconst 1, 1) := by decide +kernel
theorem dX8_bus_169 : decode cX8_bus 169 = .ok (.putfield 212, 3) := by decide +kernel
theorem dX8_bus_172 : decode cX8_bus 172 = .ok (.aload_n 0, 1) := by decide +kernel
theorem dX8_bus_173 : decode cX8_bus 173 = .ok (.iconst 0, 1) := by decide +kernel
theorem dX8_bus_174 : decode cX8_bus 174 = .ok (.putfield 215, 3) := by decide +kernel
theorem dX8_bus_177 : decode cX8_bus 177 = .ok (.aload_n 0, 1) := by decide +kernel
theorem dX8_bus_178 : decode cX8_bus 178 = .ok (.invokevirtual 218, 3) := by decide +kernel
theorem dX8_bus_181 : decode cX8_bus 181 = .ok (.aload_n 0, 1) := by decide +kernel
theorem dX8_bus_182 : decode cX8_bus 182 = .ok (.getfield 17, 3) := by decide +kernel
theorem dX8_bus_185 : decode cX8_bus 185 = .ok (.bipush 6, 2) := by decide +kernel
theorem dX8_bus_187 : decode cX8_bus 187 = .ok (.iaload, 1) := by decide +kernel
theorem dX8_bus_188 : decode cX8_bus 188 = .ok (.ireturn, 1) := by decide +kernel
theorem dX8_fault_0 : decode cX8_fault 0 = .ok (.aload_n 0, 1) := by decide +kernel
theorem dX8_fault_1 : decode cX8_fault 1 = .ok (.iconst 0, 1) := by decide +kernel
theorem dX8_fault_2 : decode cX8_fault 2 = .ok (.putfield 51, 3) := by decide +kernel
theorem dX8_fault_5 : decode cX8_fault 5 = .ok (.aload_n 0, 1) := by decide +kernel
theorem dX8_fault_6 : decode cX8_fault 6 = .ok (.getfield 206, 3) := by decide +kernel
theorem dX8_fault_9 : decode cX8_fault 9 = .ok (.ireturn, 1) := by decide +kernel
theorem dX8_where_0 : decode cX8_where 0 = .ok (.aload_n 0, 1) := by decide +kernel
theorem dX8_where_1 : decode cX8_where 1 = .ok (.iconst 0, 1) := by decide +kernel
theorem dX8_where_2 : decode cX8_where 2 = .ok (.putfield 51, 3) := by decide +kernel
theorem dX8_where_5 : decode cX8_where 5 = .ok (.aload_n 0, 1) := by decide +kernel
theorem dX8_where_6 : decode cX8_where 6 = .ok (.getfield 54, 3) := by decide +kernel
theorem dX8_where_9 : decode cX8_where 9 = .ok (.iconst 4, 1) := by decide +kernel
theorem dX8_where_10 : decode cX8_where 10 = .ok (.if_icmp .ne 10, 3) := by decide +kernel
theorem dX8_where_13 : decode cX8_where 13 = .ok (.aload_n 0, 1) := by decide +kernel
theorem dX8_where_14 : decode cX8_where 14 = .ok (.getfield 9, 3) := by decide +kernel
theorem dX8_where_17 : decode cX8_where 17 = .ok (.goto 4, 3) := by decide +kernel
theorem dX8_where_20 : decode cX8_where 20 = .ok (.iconst (-1), 1) := by decide +kernel
theorem dX8_where_21 : decode cX8_where 21 = .ok (.ireturn, 1) := by decide +kernel
theorem dX8_linkOf_0 : decode cX8_linkOf 0 = .ok (.aload_n 0, 1) := by decide +kernel
theorem dX8_linkOf_1 : decode cX8_linkOf 1 = .ok (.getfield 29, 3) := by decide +kernel
theorem dX8_linkOf_4 : decode cX8_linkOf 4 = .ok (.bipush 7, 2) := by decide +kernel
theorem dX8_linkOf_6 : decode cX8_linkOf 6 = .ok (.iload_n 1, 1) := by decide +kernel
theorem dX8_linkOf_7 : decode cX8_linkOf 7 = .ok (.imul, 1) := by decide +kernel
theorem dX8_linkOf_8 : decode cX8_linkOf 8 = .ok (.iload_n 2, 1) := by decide +kernel
theorem dX8_linkOf_9 : decode cX8_linkOf 9 = .ok (.iadd, 1) := by decide +kernel
theorem dX8_linkOf_10 : decode cX8_linkOf 10 = .ok (.iaload, 1) := by decide +kernel
theorem dX8_linkOf_11 : decode cX8_linkOf 11 = .ok (.ireturn, 1) := by decide +kernel
theorem dX8_receiverOf_0 : decode cX8_receiverOf 0 = .ok (.aload_n 0, 1) := by decide +kernel
theorem dX8_receiverOf_1 : decode cX8_receiverOf 1 = .ok (.iload_n 1, 1) := by decide +kernel
theorem dX8_receiverOf_2 : decode cX8_receiverOf 2 = .ok (.iconst 4, 1) := by decide +kernel
theorem dX8_receiverOf_3 : decode cX8_receiverOf 3 = .ok (.iload_n 2, 1) := by decide +kernel
theorem dX8_receiverOf_4 : decode cX8_receiverOf 4 = .ok (.iadd, 1) := by decide +kernel
theorem dX8_receiverOf_5 : decode cX8_receiverOf 5 = .ok (.invokevirtual 221, 3) := by decide +kernel
theorem dX8_receiverOf_8 : decode cX8_receiverOf 8 = .ok (.ireturn, 1) := by decide +kernel
theorem dX8_isLink_0 : decode cX8_isLink 0 = .ok (.aload_n 0, 1) := by decide +kernel
theorem dX8_isLink_1 : decode cX8_isLink 1 = .ok (.getfield 212, 3) := by decide +kernel
theorem dX8_isLink_4 : decode cX8_isLink 4 = .ok (.ifCond .eq 24, 3) := by decide +kernel
theorem dX8_isLink_7 : decode cX8_isLink 7 = .ok (.iload_n 1, 1) := by decide +kernel
theorem dX8_isLink_8 : decode cX8_isLink 8 = .ok (.iconst 0, 1) := by decide +kernel
theorem dX8_isLink_9 : decode cX8_isLink 9 = .ok (.aload_n 0, 1) := by decide +kernel
theorem dX8_isLink_10 : decode cX8_isLink 10 = .ok (.getfield 17, 3) := by decide +kernel
theorem dX8_isLink_13 : decode cX8_isLink 13 = .ok (.bipush 6, 2) := by decide +kernel
theorem dX8_isLink_15 : decode cX8_isLink 15 = .ok (.iaload, 1) := by decide +kernel
theorem dX8_isLink_16 : decode cX8_isLink 16 = .ok (.iconst 1, 1) := by decide +kernel
theorem dX8_isLink_17 : decode cX8_isLink 17 = .ok (.isub, 1) := by decide +kernel
theorem dX8_isLink_18 : decode cX8_isLink 18 = .ok (.invokestatic 80, 3) := by decide +kernel
theorem dX8_isLink_21 : decode cX8_isLink 21 = .ok (.ifCond .eq 7, 3) := by decide +kernel
theorem dX8_isLink_24 : decode cX8_isLink 24 = .ok (.iconst 1, 1) := by decide +kernel
theorem dX8_isLink_25 : decode cX8_isLink 25 = .ok (.goto 4, 3) := by decide +kernel
theorem dX8_isLink_28 : decode cX8_isLink 28 = .ok (.iconst 0, 1) := by decide +kernel
theorem dX8_isLink_29 : decode cX8_isLink 29 = .ok (.ireturn, 1) := by decide +kernel
theorem dX8_isReceiver_0 : decode cX8_isReceiver 0 = .ok (.aload_n 0, 1) := by decide +kernel
theorem dX8_isReceiver_1 : decode cX8_isReceiver 1 = .ok (.iload_n 1, 1) := by decide +kernel
theorem dX8_isReceiver_2 : decode cX8_isReceiver 2 = .ok (.invokevirtual 224, 3) := by decide +kernel
theorem dX8_isReceiver_5 : decode cX8_isReceiver 5 = .ok (.ifCond .eq 27, 3) := by decide +kernel
theorem dX8_isReceiver_8 : decode cX8_isReceiver 8 = .ok (.iload_n 2, 1) := by decide +kernel
theorem dX8_isReceiver_9 : decode cX8_isReceiver 9 = .ok (.iconst 0, 1) := by decide +kernel
theorem dX8_isReceiver_10 : decode cX8_isReceiver 10 = .ok (.aload_n 0, 1) := by decide +kernel
theorem dX8_isReceiver_11 : decode cX8_isReceiver 11 = .ok (.iload_n 1, 1) := by decide +kernel
theorem dX8_isReceiver_12 : decode cX8_isReceiver 12 = .ok (.iconst 3, 1) := by decide +kernel
theorem dX8_isReceiver_13 : decode cX8_isReceiver 13 = .ok (.invokevirtual 221, 3) := by decide +kernel
theorem dX8_isReceiver_16 : decode cX8_isReceiver 16 = .ok (.iconst 1, 1) := by decide +kernel
theorem dX8_isReceiver_17 : decode cX8_isReceiver 17 = .ok (.isub, 1) := by decide +kernel
theorem dX8_isReceiver_18 : decode cX8_isReceiver 18 = .ok (.invokestatic 80, 3) := by decide +kernel
theorem dX8_isReceiver_21 : decode cX8_isReceiver 21 = .ok (.ifCond .eq 11, 3) := by decide +kernel
theorem dX8_isReceiver_24 : decode cX8_isReceiver 24 = .ok (.iload_n 3, 1) := by decide +kernel
theorem dX8_isReceiver_25 : decode cX8_isReceiver 25 = .ok (.ifCond .lt 7, 3) := by decide +kernel
theorem dX8_isReceiver_28 : decode cX8_isReceiver 28 = .ok (.iconst 1, 1) := by decide +kernel
theorem dX8_isReceiver_29 : decode cX8_isReceiver 29 = .ok (.goto 4, 3) := by decide +kernel
theorem dX8_isReceiver_32 : decode cX8_isReceiver 32 = .ok (.iconst 0, 1) := by decide +kernel
theorem dX8_isReceiver_33 : decode cX8_isReceiver 33 = .ok (.ireturn, 1) := by decide +kernel
theorem dX8_isEnd_0 : decode cX8_isEnd 0 = .ok (.aload_n 0, 1) := by decide +kernel
theorem dX8_isEnd_1 : decode cX8_isEnd 1 = .ok (.getfield 212, 3) := by decide +kernel
theorem dX8_isEnd_4 : decode cX8_isEnd 4 = .ok (.ifCond .eq 23, 3) := by decide +kernel
theorem dX8_isEnd_7 : decode cX8_isEnd 7 = .ok (.iload_n 1, 1) := by decide +kernel
theorem dX8_isEnd_8 : decode cX8_isEnd 8 = .ok (.iconst 0, 1) := by decide +kernel
theorem dX8_isEnd_9 : decode cX8_isEnd 9 = .ok (.aload_n 0, 1) := by decide +kernel
theorem dX8_isEnd_10 : decode cX8_isEnd 10 = .ok (.getfield 17, 3) := by decide +kernel
theorem dX8_isEnd_13 : decode cX8_isEnd 13 = .ok (.iconst 5, 1) := by decide +kernel
theorem dX8_isEnd_14 : decode cX8_isEnd 14 = .ok (.iaload, 1) := by decide +kernel
theorem dX8_isEnd_15 : decode cX8_isEnd 15 = .ok (.iconst 1, 1) := by decide +kernel
theorem dX8_isEnd_16 : decode cX8_isEnd 16 = .ok (.isub, 1) := by decide +kernel
theorem dX8_isEnd_17 : decode cX8_isEnd 17 = .ok (.invokestatic 80, 3) := by decide +kernel
theorem dX8_isEnd_20 : decode cX8_isEnd 20 = .ok (.ifCond .eq 7, 3) := by decide +kernel
theorem dX8_isEnd_23 : decode cX8_isEnd 23 = .ok (.iconst 1, 1) := by decide +kernel
theorem dX8_isEnd_24 : decode cX8_isEnd 24 = .ok (.goto 4, 3) := by decide +kernel
theorem dX8_isEnd_27 : decode cX8_isEnd 27 = .ok (.iconst 0, 1) := by decide +kernel
theorem dX8_isEnd_28 : decode cX8_isEnd 28 = .ok (.ireturn, 1) := by decide +kernel
theorem dX8_isPort_0 : decode cX8_isPort 0 = .ok (.iload_n 1, 1) := by decide +kernel
theorem dX8_isPort_1 : decode cX8_isPort 1 = .ok (.iconst 0, 1) := by decide +kernel
theorem dX8_isPort_2 : decode cX8_isPort 2 = .ok (.bipush 15, 2) := by decide +kernel
theorem dX8_isPort_4 : decode cX8_isPort 4 = .ok (.invokestatic 80, 3) := by decide +kernel
theorem dX8_isPort_7 : decode cX8_isPort 7 = .ok (.ifCond .ne 5, 3) := by decide +kernel
theorem dX8_isPort_10 : decode cX8_isPort 10 = .ok (.iconst 0, 1) := by decide +kernel
theorem dX8_isPort_11 : decode cX8_isPort 11 = .ok (.ireturn, 1) := by decide +kernel
theorem dX8_isPort_12 : decode cX8_isPort 12 = .ok (.iload_n 1, 1) := by decide +kernel
theorem dX8_isPort_13 : decode cX8_isPort 13 = .ok (.bipush 12, 2) := by decide +kernel
theorem dX8_isPort_15 : decode cX8_isPort 15 = .ok (.if_icmp .ge 14, 3) := by decide +kernel
theorem dX8_isPort_18 : decode cX8_isPort 18 = .ok (.aload_n 0, 1) := by decide +kernel
theorem dX8_isPort_19 : decode cX8_isPort 19 = .ok (.iload_n 1, 1) := by decide +kernel
theorem dX8_isPort_20 : decode cX8_isPort 20 = .ok (.bipush 6, 2) := by decide +kernel
theorem dX8_isPort_22 : decode cX8_isPort 22 = .ok (.irem, 1) := by decide +kernel
theorem dX8_isPort_23 : decode cX8_isPort 23 = .ok (.invokevirtual 227, 3) := by decide +kernel
theorem dX8_isPort_26 : decode cX8_isPort 26 = .ok (.goto 32, 3) := by decide +kernel
theorem dX8_isPort_29 : decode cX8_isPort 29 = .ok (.aload_n 0, 1) := by decide +kernel
theorem dX8_isPort_30 : decode cX8_isPort 30 = .ok (.getfield 212, 3) := by decide +kernel
theorem dX8_isPort_33 : decode cX8_isPort 33 = .ok (.ifCond .eq 24, 3) := by decide +kernel
theorem dX8_isPort_36 : decode cX8_isPort 36 = .ok (.iload_n 1, 1) := by decide +kernel
theorem dX8_isPort_37 : decode cX8_isPort 37 = .ok (.bipush 12, 2) := by decide +kernel
theorem dX8_isPort_39 : decode cX8_isPort 39 = .ok (.isub, 1) := by decide +kernel
theorem dX8_isPort_40 : decode cX8_isPort 40 = .ok (.iconst 2, 1) := by decide +kernel
theorem dX8_isPort_41 : decode cX8_isPort 41 = .ok (.irem, 1) := by decide +kernel
theorem dX8_isPort_42 : decode cX8_isPort 42 = .ok (.iconst 1, 1) := by decide +kernel
theorem dX8_isPort_43 : decode cX8_isPort 43 = .ok (.iadd, 1) := by decide +kernel
theorem dX8_isPort_44 : decode cX8_isPort 44 = .ok (.aload_n 0, 1) := by decide +kernel
theorem dX8_isPort_45 : decode cX8_isPort 45 = .ok (.getfield 17, 3) := by decide +kernel
theorem dX8_isPort_48 : decode cX8_isPort 48 = .ok (.iconst 0, 1) := by decide +kernel
theorem dX8_isPort_49 : decode cX8_isPort 49 = .ok (.iaload, 1) := by decide +kernel
theorem dX8_isPort_50 : decode cX8_isPort 50 = .ok (.if_icmp .ge 7, 3) := by decide +kernel
theorem dX8_isPort_53 : decode cX8_isPort 53 = .ok (.iconst 1, 1) := by decide +kernel
theorem dX8_isPort_54 : decode cX8_isPort 54 = .ok (.goto 4, 3) := by decide +kernel
theorem dX8_isPort_57 : decode cX8_isPort 57 = .ok (.iconst 0, 1) := by decide +kernel
theorem dX8_isPort_58 : decode cX8_isPort 58 = .ok (.ireturn, 1) := by decide +kernel
theorem dX8_apart_0 : decode cX8_apart 0 = .ok (.iload_n 0, 1) := by decide +kernel
theorem dX8_apart_1 : decode cX8_apart 1 = .ok (.iload_n 1, 1) := by decide +kernel
theorem dX8_apart_2 : decode cX8_apart 2 = .ok (.if_icmp .ge 9, 3) := by decide +kernel
theorem dX8_apart_5 : decode cX8_apart 5 = .ok (.iload_n 1, 1) := by decide +kernel
theorem dX8_apart_6 : decode cX8_apart 6 = .ok (.iload_n 0, 1) := by decide +kernel
theorem dX8_apart_7 : decode cX8_apart 7 = .ok (.isub, 1) := by decide +kernel
theorem dX8_apart_8 : decode cX8_apart 8 = .ok (.goto 6, 3) := by decide +kernel
theorem dX8_apart_11 : decode cX8_apart 11 = .ok (.iload_n 0, 1) := by decide +kernel
theorem dX8_apart_12 : decode cX8_apart 12 = .ok (.iload_n 1, 1) := by decide +kernel
theorem dX8_apart_13 : decode cX8_apart 13 = .ok (.isub, 1) := by decide +kernel
theorem dX8_apart_14 : decode cX8_apart 14 = .ok (.ireturn, 1) := by decide +kernel
theorem dX8_wayLong_0 : decode cX8_wayLong 0 = .ok (.iconst 2, 1) := by decide +kernel
theorem dX8_wayLong_1 : decode cX8_wayLong 1 = .ok (.aload_n 0, 1) := by decide +kernel
theorem dX8_wayLong_2 : decode cX8_wayLong 2 = .ok (.getfield 23, 3) := by decide +kernel
theorem dX8_wayLong_5 : decode cX8_wayLong 5 = .ok (.aload_n 0, 1) := by decide +kernel
theorem dX8_wayLong_6 : decode cX8_wayLong 6 = .ok (.iload_n 1, 1) := by decide +kernel
theorem dX8_wayLong_7 : decode cX8_wayLong 7 = .ok (.iconst 0, 1) := by decide +kernel
theorem dX8_wayLong_8 : decode cX8_wayLong 8 = .ok (.invokevirtual 221, 3) := by decide +kernel
theorem dX8_wayLong_11 : decode cX8_wayLong 11 = .ok (.iaload, 1) := by decide +kernel
theorem dX8_wayLong_12 : decode cX8_wayLong 12 = .ok (.aload_n 0, 1) := by decide +kernel
theorem dX8_wayLong_13 : decode cX8_wayLong 13 = .ok (.getfield 23, 3) := by decide +kernel
theorem dX8_wayLong_16 : decode cX8_wayLong 16 = .ok (.aload_n 0, 1) := by decide +kernel
theorem dX8_wayLong_17 : decode cX8_wayLong 17 = .ok (.iload_n 1, 1) := by decide +kernel
theorem dX8_wayLong_18 : decode cX8_wayLong 18 = .ok (.iload_n 2, 1) := by decide +kernel
theorem dX8_wayLong_19 : decode cX8_wayLong 19 = .ok (.invokevirtual 230, 3) := by decide +kernel
theorem dX8_wayLong_22 : decode cX8_wayLong 22 = .ok (.iaload, 1) := by decide +kernel
theorem dX8_wayLong_23 : decode cX8_wayLong 23 = .ok (.invokestatic 233, 3) := by decide +kernel
theorem dX8_wayLong_26 : decode cX8_wayLong 26 = .ok (.iadd, 1) := by decide +kernel
theorem dX8_wayLong_27 : decode cX8_wayLong 27 = .ok (.ireturn, 1) := by decide +kernel
theorem dX8_wayOf_0 : decode cX8_wayOf 0 = .ok (.aload_n 0, 1) := by decide +kernel
theorem dX8_wayOf_1 : decode cX8_wayOf 1 = .ok (.getfield 23, 3) := by decide +kernel
theorem dX8_wayOf_4 : decode cX8_wayOf 4 = .ok (.aload_n 0, 1) := by decide +kernel
theorem dX8_wayOf_5 : decode cX8_wayOf 5 = .ok (.iload_n 1, 1) := by decide +kernel
theorem dX8_wayOf_6 : decode cX8_wayOf 6 = .ok (.iconst 0, 1) := by decide +kernel
theorem dX8_wayOf_7 : decode cX8_wayOf 7 = .ok (.invokevirtual 221, 3) := by decide +kernel
theorem dX8_wayOf_10 : decode cX8_wayOf 10 = .ok (.iaload, 1) := by decide +kernel
theorem dX8_wayOf_11 : decode cX8_wayOf 11 = .ok (.istore 4, 2) := by decide +kernel
theorem dX8_wayOf_13 : decode cX8_wayOf 13 = .ok (.aload_n 0, 1) := by decide +kernel
theorem dX8_wayOf_14 : decode cX8_wayOf 14 = .ok (.getfield 23, 3) := by decide +kernel
theorem dX8_wayOf_17 : decode cX8_wayOf 17 = .ok (.aload_n 0, 1) := by decide +kernel
theorem dX8_wayOf_18 : decode cX8_wayOf 18 = .ok (.iload_n 1, 1) := by decide +kernel
theorem dX8_wayOf_19 : decode cX8_wayOf 19 = .ok (.iload_n 2, 1) := by decide +kernel
theorem dX8_wayOf_20 : decode cX8_wayOf 20 = .ok (.invokevirtual 230, 3) := by decide +kernel
theorem dX8_wayOf_23 : decode cX8_wayOf 23 = .ok (.iaload, 1) := by decide +kernel
theorem dX8_wayOf_24 : decode cX8_wayOf 24 = .ok (.istore 5, 2) := by decide +kernel
theorem dX8_wayOf_26 : decode cX8_wayOf 26 = .ok (.iload_n 3, 1) := by decide +kernel
theorem dX8_wayOf_27 : decode cX8_wayOf 27 = .ok (.ifCond .ne 10, 3) := by decide +kernel
theorem dX8_wayOf_30 : decode cX8_wayOf 30 = .ok (.aload_n 0, 1) := by decide +kernel
theorem dX8_wayOf_31 : decode cX8_wayOf 31 = .ok (.iload_n 1, 1) := by decide +kernel
theorem dX8_wayOf_32 : decode cX8_wayOf 32 = .ok (.iconst 0, 1) := by decide +kernel
theorem dX8_wayOf_33 : decode cX8_wayOf 33 = .ok (.invokevirtual 221, 3) := by decide +kernel
theorem dX8_wayOf_36 : decode cX8_wayOf 36 = .ok (.ireturn, 1) := by decide +kernel
theorem dX8_wayOf_37 : decode cX8_wayOf 37 = .ok (.iload_n 3, 1) := by decide +kernel
theorem dX8_wayOf_38 : decode cX8_wayOf 38 = .ok (.aload_n 0, 1) := by decide +kernel
theorem dX8_wayOf_39 : decode cX8_wayOf 39 = .ok (.iload_n 1, 1) := by decide +kernel
theorem dX8_wayOf_40 : decode cX8_wayOf 40 = .ok (.iload_n 2, 1) := by decide +kernel
