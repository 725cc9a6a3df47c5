theorem dX8_wayOf_41 : decode cX8_wayOf 41 = .ok (.invokevirtual 236, 3) := by decide +kernel
theorem dX8_wayOf_44 : decode cX8_wayOf 44 = .ok (.iconst 1, 1) := by decide +kernel
theorem dX8_wayOf_45 : decode cX8_wayOf 45 = .ok (.isub, 1) := by decide +kernel
theorem dX8_wayOf_46 : decode cX8_wayOf 46 = .ok (.if_icmp .ne 13, 3) := by decide +kernel
theorem dX8_wayOf_49 : decode cX8_wayOf 49 = .ok (.bipush 6, 2) := by decide +kernel
theorem dX8_wayOf_51 : decode cX8_wayOf 51 = .ok (.aload_n 0, 1) := by decide +kernel
theorem dX8_wayOf_52 : decode cX8_wayOf 52 = .ok (.iload_n 1, 1) := by decide +kernel
theorem dX8_wayOf_53 : decode cX8_wayOf 53 = .ok (.iload_n 2, 1) := by decide +kernel
theorem dX8_wayOf_54 : decode cX8_wayOf 54 = .ok (.invokevirtual 230, 3) := by decide +kernel
theorem dX8_wayOf_57 : decode cX8_wayOf 57 = .ok (.iadd, 1) := by decide +kernel
theorem dX8_wayOf_58 : decode cX8_wayOf 58 = .ok (.ireturn, 1) := by decide +kernel
theorem dX8_wayOf_59 : decode cX8_wayOf 59 = .ok (.iload 4, 2) := by decide +kernel
theorem dX8_wayOf_61 : decode cX8_wayOf 61 = .ok (.iload 5, 2) := by decide +kernel
theorem dX8_wayOf_63 : decode cX8_wayOf 63 = .ok (.if_icmp .ge 15, 3) := by decide +kernel
theorem dX8_wayOf_66 : decode cX8_wayOf 66 = .ok (.bipush 12, 2) := by decide +kernel
theorem dX8_wayOf_68 : decode cX8_wayOf 68 = .ok (.iload 4, 2) := by decide +kernel
theorem dX8_wayOf_70 : decode cX8_wayOf 70 = .ok (.iadd, 1) := by decide +kernel
theorem dX8_wayOf_71 : decode cX8_wayOf 71 = .ok (.iload_n 3, 1) := by decide +kernel
theorem dX8_wayOf_72 : decode cX8_wayOf 72 = .ok (.iadd, 1) := by decide +kernel
theorem dX8_wayOf_73 : decode cX8_wayOf 73 = .ok (.iconst 1, 1) := by decide +kernel
theorem dX8_wayOf_74 : decode cX8_wayOf 74 = .ok (.isub, 1) := by decide +kernel
theorem dX8_wayOf_75 : decode cX8_wayOf 75 = .ok (.goto 10, 3) := by decide +kernel
theorem dX8_wayOf_78 : decode cX8_wayOf 78 = .ok (.bipush 14, 2) := by decide +kernel
theorem dX8_wayOf_80 : decode cX8_wayOf 80 = .ok (.iload 4, 2) := by decide +kernel
theorem dX8_wayOf_82 : decode cX8_wayOf 82 = .ok (.iadd, 1) := by decide +kernel
theorem dX8_wayOf_83 : decode cX8_wayOf 83 = .ok (.iload_n 3, 1) := by decide +kernel
theorem dX8_wayOf_84 : decode cX8_wayOf 84 = .ok (.isub, 1) := by decide +kernel
theorem dX8_wayOf_85 : decode cX8_wayOf 85 = .ok (.ireturn, 1) := by decide +kernel
theorem dX8_goesThrough_0 : decode cX8_goesThrough 0 = .ok (.iconst 0, 1) := by decide +kernel
theorem dX8_goesThrough_1 : decode cX8_goesThrough 1 = .ok (.istore_n 3, 1) := by decide +kernel
theorem dX8_goesThrough_2 : decode cX8_goesThrough 2 = .ok (.iload_n 3, 1) := by decide +kernel
theorem dX8_goesThrough_3 : decode cX8_goesThrough 3 = .ok (.aload_n 0, 1) := by decide +kernel
theorem dX8_goesThrough_4 : decode cX8_goesThrough 4 = .ok (.iload_n 1, 1) := by decide +kernel
theorem dX8_goesThrough_5 : decode cX8_goesThrough 5 = .ok (.iconst 3, 1) := by decide +kernel
theorem dX8_goesThrough_6 : decode cX8_goesThrough 6 = .ok (.invokevirtual 221, 3) := by decide +kernel
theorem dX8_goesThrough_9 : decode cX8_goesThrough 9 = .ok (.if_icmp .ge 43, 3) := by decide +kernel
theorem dX8_goesThrough_12 : decode cX8_goesThrough 12 = .ok (.iconst 0, 1) := by decide +kernel
theorem dX8_goesThrough_13 : decode cX8_goesThrough 13 = .ok (.istore 4, 2) := by decide +kernel
theorem dX8_goesThrough_15 : decode cX8_goesThrough 15 = .ok (.iload 4, 2) := by decide +kernel
theorem dX8_goesThrough_17 : decode cX8_goesThrough 17 = .ok (.aload_n 0, 1) := by decide +kernel
theorem dX8_goesThrough_18 : decode cX8_goesThrough 18 = .ok (.iload_n 1, 1) := by decide +kernel
theorem dX8_goesThrough_19 : decode cX8_goesThrough 19 = .ok (.iload_n 3, 1) := by decide +kernel
theorem dX8_goesThrough_20 : decode cX8_goesThrough 20 = .ok (.invokevirtual 236, 3) := by decide +kernel
theorem dX8_goesThrough_23 : decode cX8_goesThrough 23 = .ok (.if_icmp .ge 23, 3) := by decide +kernel
theorem dX8_goesThrough_26 : decode cX8_goesThrough 26 = .ok (.aload_n 0, 1) := by decide +kernel
theorem dX8_goesThrough_27 : decode cX8_goesThrough 27 = .ok (.iload_n 1, 1) := by decide +kernel
theorem dX8_goesThrough_28 : decode cX8_goesThrough 28 = .ok (.iload_n 3, 1) := by decide +kernel
theorem dX8_goesThrough_29 : decode cX8_goesThrough 29 = .ok (.iload 4, 2) := by decide +kernel
theorem dX8_goesThrough_31 : decode cX8_goesThrough 31 = .ok (.invokevirtual 239, 3) := by decide +kernel
theorem dX8_goesThrough_34 : decode cX8_goesThrough 34 = .ok (.iload_n 2, 1) := by decide +kernel
theorem dX8_goesThrough_35 : decode cX8_goesThrough 35 = .ok (.if_icmp .ne 5, 3) := by decide +kernel
theorem dX8_goesThrough_38 : decode cX8_goesThrough 38 = .ok (.iconst 1, 1) := by decide +kernel
theorem dX8_goesThrough_39 : decode cX8_goesThrough 39 = .ok (.ireturn, 1) := by decide +kernel
theorem dX8_goesThrough_40 : decode cX8_goesThrough 40 = .ok (.iinc 4 1, 3) := by decide +kernel
theorem dX8_goesThrough_43 : decode cX8_goesThrough 43 = .ok (.goto (-28), 3) := by decide +kernel
theorem dX8_goesThrough_46 : decode cX8_goesThrough 46 = .ok (.iinc 3 1, 3) := by decide +kernel
theorem dX8_goesThrough_49 : decode cX8_goesThrough 49 = .ok (.goto (-47), 3) := by decide +kernel
theorem dX8_goesThrough_52 : decode cX8_goesThrough 52 = .ok (.iconst 0, 1) := by decide +kernel
theorem dX8_goesThrough_53 : decode cX8_goesThrough 53 = .ok (.ireturn, 1) := by decide +kernel
theorem dX8_about_0 : decode cX8_about 0 = .ok (.aload_n 0, 1) := by decide +kernel
theorem dX8_about_1 : decode cX8_about 1 = .ok (.invokevirtual 200, 3) := by decide +kernel
theorem dX8_about_4 : decode cX8_about 4 = .ok (.aload_n 0, 1) := by decide +kernel
theorem dX8_about_5 : decode cX8_about 5 = .ok (.getfield 212, 3) := by decide +kernel
theorem dX8_about_8 : decode cX8_about 8 = .ok (.ifCond .eq 13, 3) := by decide +kernel
theorem dX8_about_11 : decode cX8_about 11 = .ok (.iload_n 1, 1) := by decide +kernel
theorem dX8_about_12 : decode cX8_about 12 = .ok (.iconst 0, 1) := by decide +kernel
theorem dX8_about_13 : decode cX8_about 13 = .ok (.bipush 7, 2) := by decide +kernel
theorem dX8_about_15 : decode cX8_about 15 = .ok (.invokestatic 80, 3) := by decide +kernel
theorem dX8_about_18 : decode cX8_about 18 = .ok (.ifCond .ne 9, 3) := by decide +kernel
theorem dX8_about_21 : decode cX8_about 21 = .ok (.aload_n 0, 1) := by decide +kernel
theorem dX8_about_22 : decode cX8_about 22 = .ok (.iconst 1, 1) := by decide +kernel
theorem dX8_about_23 : decode cX8_about 23 = .ok (.invokevirtual 203, 3) := by decide +kernel
theorem dX8_about_26 : decode cX8_about 26 = .ok (.ireturn, 1) := by decide +kernel
theorem dX8_about_27 : decode cX8_about 27 = .ok (.iload_n 1, 1) := by decide +kernel
theorem dX8_about_28 : decode cX8_about 28 = .ok (.bipush 7, 2) := by decide +kernel
theorem dX8_about_30 : decode cX8_about 30 = .ok (.if_icmp .ne 12, 3) := by decide +kernel
theorem dX8_about_33 : decode cX8_about 33 = .ok (.aload_n 0, 1) := by decide +kernel
theorem dX8_about_34 : decode cX8_about 34 = .ok (.getfield 42, 3) := by decide +kernel
theorem dX8_about_37 : decode cX8_about 37 = .ok (.iconst 0, 1) := by decide +kernel
theorem dX8_about_38 : decode cX8_about 38 = .ok (.iaload, 1) := by decide +kernel
theorem dX8_about_39 : decode cX8_about 39 = .ok (.goto 9, 3) := by decide +kernel
theorem dX8_about_42 : decode cX8_about 42 = .ok (.aload_n 0, 1) := by decide +kernel
theorem dX8_about_43 : decode cX8_about 43 = .ok (.getfield 17, 3) := by decide +kernel
theorem dX8_about_46 : decode cX8_about 46 = .ok (.iload_n 1, 1) := by decide +kernel
theorem dX8_about_47 : decode cX8_about 47 = .ok (.iaload, 1) := by decide +kernel
theorem dX8_about_48 : decode cX8_about 48 = .ok (.ireturn, 1) := by decide +kernel
theorem dX8_at_0 : decode cX8_at 0 = .ok (.aload_n 0, 1) := by decide +kernel
theorem dX8_at_1 : decode cX8_at 1 = .ok (.invokevirtual 200, 3) := by decide +kernel
theorem dX8_at_4 : decode cX8_at 4 = .ok (.aload_n 0, 1) := by decide +kernel
theorem dX8_at_5 : decode cX8_at 5 = .ok (.iload_n 1, 1) := by decide +kernel
theorem dX8_at_6 : decode cX8_at 6 = .ok (.invokevirtual 227, 3) := by decide +kernel
theorem dX8_at_9 : decode cX8_at 9 = .ok (.ifCond .eq 12, 3) := by decide +kernel
theorem dX8_at_12 : decode cX8_at 12 = .ok (.aload_n 0, 1) := by decide +kernel
theorem dX8_at_13 : decode cX8_at 13 = .ok (.getfield 23, 3) := by decide +kernel
theorem dX8_at_16 : decode cX8_at 16 = .ok (.iload_n 1, 1) := by decide +kernel
theorem dX8_at_17 : decode cX8_at 17 = .ok (.iaload, 1) := by decide +kernel
theorem dX8_at_18 : decode cX8_at 18 = .ok (.goto 8, 3) := by decide +kernel
theorem dX8_at_21 : decode cX8_at 21 = .ok (.aload_n 0, 1) := by decide +kernel
theorem dX8_at_22 : decode cX8_at 22 = .ok (.iconst 1, 1) := by decide +kernel
theorem dX8_at_23 : decode cX8_at 23 = .ok (.invokevirtual 203, 3) := by decide +kernel
theorem dX8_at_26 : decode cX8_at 26 = .ok (.ireturn, 1) := by decide +kernel
theorem dX8_link_0 : decode cX8_link 0 = .ok (.aload_n 0, 1) := by decide +kernel
theorem dX8_link_1 : decode cX8_link 1 = .ok (.invokevirtual 200, 3) := by decide +kernel
theorem dX8_link_4 : decode cX8_link 4 = .ok (.aload_n 0, 1) := by decide +kernel
theorem dX8_link_5 : decode cX8_link 5 = .ok (.iload_n 1, 1) := by decide +kernel
theorem dX8_link_6 : decode cX8_link 6 = .ok (.invokevirtual 224, 3) := by decide +kernel
theorem dX8_link_9 : decode cX8_link 9 = .ok (.ifCond .eq 21, 3) := by decide +kernel
theorem dX8_link_12 : decode cX8_link 12 = .ok (.iload_n 2, 1) := by decide +kernel
theorem dX8_link_13 : decode cX8_link 13 = .ok (.iconst 0, 1) := by decide +kernel
theorem dX8_link_14 : decode cX8_link 14 = .ok (.iconst 3, 1) := by decide +kernel
theorem dX8_link_15 : decode cX8_link 15 = .ok (.invokestatic 80, 3) := by decide +kernel
theorem dX8_link_18 : decode cX8_link 18 = .ok (.ifCond .eq 12, 3) := by decide +kernel
theorem dX8_link_21 : decode cX8_link 21 = .ok (.aload_n 0, 1) := by decide +kernel
theorem dX8_link_22 : decode cX8_link 22 = .ok (.iload_n 1, 1) := by decide +kernel
theorem dX8_link_23 : decode cX8_link 23 = .ok (.iload_n 2, 1) := by decide +kernel
theorem dX8_link_24 : decode cX8_link 24 = .ok (.invokevirtual 221, 3) := by decide +kernel
theorem dX8_link_27 : decode cX8_link 27 = .ok (.goto 8, 3) := by decide +kernel
theorem dX8_link_30 : decode cX8_link 30 = .ok (.aload_n 0, 1) := by decide +kernel
theorem dX8_link_31 : decode cX8_link 31 = .ok (.iconst 1, 1) := by decide +kernel
theorem dX8_link_32 : decode cX8_link 32 = .ok (.invokevirtual 203, 3) := by decide +kernel
theorem dX8_link_35 : decode cX8_link 35 = .ok (.ireturn, 1) := by decide +kernel
theorem dX8_receiver_0 : decode cX8_receiver 0 = .ok (.aload_n 0, 1) := by decide +kernel
theorem dX8_receiver_1 : decode cX8_receiver 1 = .ok (.invokevirtual 200, 3) := by decide +kernel
theorem dX8_receiver_4 : decode cX8_receiver 4 = .ok (.aload_n 0, 1) := by decide +kernel
theorem dX8_receiver_5 : decode cX8_receiver 5 = .ok (.iload_n 1, 1) := by decide +kernel
theorem dX8_receiver_6 : decode cX8_receiver 6 = .ok (.iload_n 2, 1) := by decide +kernel
theorem dX8_receiver_7 : decode cX8_receiver 7 = .ok (.iconst 0, 1) := by decide +kernel
theorem dX8_receiver_8 : decode cX8_receiver 8 = .ok (.invokevirtual 243, 3) := by decide +kernel
theorem dX8_receiver_11 : decode cX8_receiver 11 = .ok (.ifCond .eq 12, 3) := by decide +kernel
theorem dX8_receiver_14 : decode cX8_receiver 14 = .ok (.aload_n 0, 1) := by decide +kernel
theorem dX8_receiver_15 : decode cX8_receiver 15 = .ok (.iload_n 1, 1) := by decide +kernel
theorem dX8_receiver_16 : decode cX8_receiver 16 = .ok (.iload_n 2, 1) := by decide +kernel
theorem dX8_receiver_17 : decode cX8_receiver 17 = .ok (.invokevirtual 230, 3) := by decide +kernel
theorem dX8_receiver_20 : decode cX8_receiver 20 = .ok (.goto 8, 3) := by decide +kernel
theorem dX8_receiver_23 : decode cX8_receiver 23 = .ok (.aload_n 0, 1) := by decide +kernel
theorem dX8_receiver_24 : decode cX8_receiver 24 = .ok (.iconst 1, 1) := by decide +kernel
theorem dX8_receiver_25 : decode cX8_receiver 25 = .ok (.invokevirtual 203, 3) := by decide +kernel
theorem dX8_receiver_28 : decode cX8_receiver 28 = .ok (.ireturn, 1) := by decide +kernel
theorem dX8_named_0 : decode cX8_named 0 = .ok (.aload_n 0, 1) := by decide +kernel
theorem dX8_named_1 : decode cX8_named 1 = .ok (.invokevirtual 200, 3) := by decide +kernel
theorem dX8_named_4 : decode cX8_named 4 = .ok (.iconst 0, 1) := by decide +kernel
theorem dX8_named_5 : decode cX8_named 5 = .ok (.istore_n 3, 1) := by decide +kernel
theorem dX8_named_6 : decode cX8_named 6 = .ok (.aload_n 0, 1) := by decide +kernel
theorem dX8_named_7 : decode cX8_named 7 = .ok (.getfield 212, 3) := by decide +kernel
theorem dX8_named_10 : decode cX8_named 10 = .ok (.ifCond .eq 32, 3) := by decide +kernel
theorem dX8_named_13 : decode cX8_named 13 = .ok (.iload_n 3, 1) := by decide +kernel
theorem dX8_named_14 : decode cX8_named 14 = .ok (.aload_n 0, 1) := by decide +kernel
theorem dX8_named_15 : decode cX8_named 15 = .ok (.getfield 17, 3) := by decide +kernel
theorem dX8_named_18 : decode cX8_named 18 = .ok (.iconst 5, 1) := by decide +kernel
theorem dX8_named_19 : decode cX8_named 19 = .ok (.iaload, 1) := by decide +kernel
theorem dX8_named_20 : decode cX8_named 20 = .ok (.if_icmp .ge 22, 3) := by decide +kernel
theorem dX8_named_23 : decode cX8_named 23 = .ok (.aload_n 0, 1) := by decide +kernel
theorem dX8_named_24 : decode cX8_named 24 = .ok (.getfield 35, 3) := by decide +kernel
theorem dX8_named_27 : decode cX8_named 27 = .ok (.iload_n 3, 1) := by decide +kernel
theorem dX8_named_28 : decode cX8_named 28 = .ok (.laload, 1) := by decide +kernel
theorem dX8_named_29 : decode cX8_named 29 = .ok (.lload_n 1, 1) := by decide +kernel
theorem dX8_named_30 : decode cX8_named 30 = .ok (.lcmp, 1) := by decide +kernel
theorem dX8_named_31 : decode cX8_named 31 = .ok (.ifCond .ne 5, 3) := by decide +kernel
theorem dX8_named_34 : decode cX8_named 34 = .ok (.iload_n 3, 1) := by decide +kernel
theorem dX8_named_35 : decode cX8_named 35 = .ok (.ireturn, 1) := by decide +kernel
theorem dX8_named_36 : decode cX8_named 36 = .ok (.iinc 3 1, 3) := by decide +kernel
theorem dX8_named_39 : decode cX8_named 39 = .ok (.goto (-33), 3) := by decide +kernel
theorem dX8_named_42 : decode cX8_named 42 = .ok (.iconst 0, 1) := by decide +kernel
theorem dX8_named_43 : decode cX8_named 43 = .ok (.istore_n 3, 1) := by decide +kernel
theorem dX8_named_44 : decode cX8_named 44 = .ok (.aload_n 0, 1) := by decide +kernel
theorem dX8_named_45 : decode cX8_named 45 = .ok (.getfield 212, 3) := by decide +kernel
theorem dX8_named_48 : decode cX8_named 48 = .ok (.ifCond .eq 39, 3) := by decide +kernel
theorem dX8_named_51 : decode cX8_named 51 = .ok (.iload_n 3, 1) := by decide +kernel
theorem dX8_named_52 : decode cX8_named 52 = .ok (.aload_n 0, 1) := by decide +kernel
theorem dX8_named_53 : decode cX8_named 53 = .ok (.getfield 17, 3) := by decide +kernel
theorem dX8_named_56 : decode cX8_named 56 = .ok (.bipush 6, 2) := by decide +kernel
theorem dX8_named_58 : decode cX8_named 58 = .ok (.iaload, 1) := by decide +kernel
theorem dX8_named_59 : decode cX8_named 59 = .ok (.if_icmp .ge 28, 3) := by decide +kernel
theorem dX8_named_62 : decode cX8_named 62 = .ok (.aload_n 0, 1) := by decide +kernel
theorem dX8_named_63 : decode cX8_named 63 = .ok (.getfield 35, 3) := by decide +kernel
theorem dX8_named_66 : decode cX8_named 66 = .ok (.bipush 6, 2) := by decide +kernel
theorem dX8_named_68 : decode cX8_named 68 = .ok (.iload_n 3, 1) := by decide +kernel
theorem dX8_named_69 : decode cX8_named 69 = .ok (.iadd, 1) := by decide +kernel
theorem dX8_named_70 : decode cX8_named 70 = .ok (.laload, 1) := by decide +kernel
theorem dX8_named_71 : decode cX8_named 71 = .ok (.lload_n 1, 1) := by decide +kernel
theorem dX8_named_72 : decode cX8_named 72 = .ok (.lcmp, 1) := by decide +kernel
theorem dX8_named_73 : decode cX8_named 73 = .ok (.ifCond .ne 8, 3) := by decide +kernel
theorem dX8_named_76 : decode cX8_named 76 = .ok (.bipush 10, 2) := by decide +kernel
theorem dX8_named_78 : decode cX8_named 78 = .ok (.iload_n 3, 1) := by decide +kernel
theorem dX8_named_79 : decode cX8_named 79 = .ok (.iadd, 1) := by decide +kernel
theorem dX8_named_80 : decode cX8_named 80 = .ok (.ireturn, 1) := by decide +kernel
theorem dX8_named_81 : decode cX8_named 81 = .ok (.iinc 3 1, 3) := by decide +kernel
theorem dX8_named_84 : decode cX8_named 84 = .ok (.goto (-40), 3) := by decide +kernel
theorem dX8_named_87 : decode cX8_named 87 = .ok (.aload_n 0, 1) := by decide +kernel
theorem dX8_named_88 : decode cX8_named 88 = .ok (.iconst 1, 1) := by decide +kernel
theorem dX8_named_89 : decode cX8_named 89 = .ok (.invokevirtual 203, 3) := by decide +kernel
theorem dX8_named_92 : decode cX8_named 92 = .ok (.ireturn, 1) := by decide +kernel
theorem dX8_way_0 : decode cX8_way 0 = .ok (.aload_n 0, 1) := by decide +kernel
theorem dX8_way_1 : decode cX8_way 1 = .ok (.invokevirtual 200, 3) := by decide +kernel
theorem dX8_way_4 : decode cX8_way 4 = .ok (.aload_n 0, 1) := by decide +kernel
theorem dX8_way_5 : decode cX8_way 5 = .ok (.iload_n 1, 1) := by decide +kernel
theorem dX8_way_6 : decode cX8_way 6 = .ok (.iload_n 2, 1) := by decide +kernel
theorem dX8_way_7 : decode cX8_way 7 = .ok (.iconst 0, 1) := by decide +kernel
theorem dX8_way_8 : decode cX8_way 8 = .ok (.invokevirtual 243, 3) := by decide +kernel
theorem dX8_way_11 : decode cX8_way 11 = .ok (.ifCond .eq 29, 3) := by decide +kernel
theorem dX8_way_14 : decode cX8_way 14 = .ok (.iload_n 3, 1) := by decide +kernel
theorem dX8_way_15 : decode cX8_way 15 = .ok (.iconst 0, 1) := by decide +kernel
theorem dX8_way_16 : decode cX8_way 16 = .ok (.aload_n 0, 1) := by decide +kernel
theorem dX8_way_17 : decode cX8_way 17 = .ok (.iload_n 1, 1) := by decide +kernel
theorem dX8_way_18 : decode cX8_way 18 = .ok (.iload_n 2, 1) := by decide +kernel
theorem dX8_way_19 : decode cX8_way 19 = .ok (.invokevirtual 236, 3) := by decide +kernel
theorem dX8_way_22 : decode cX8_way 22 = .ok (.iconst 1, 1) := by decide +kernel
theorem dX8_way_23 : decode cX8_way 23 = .ok (.isub, 1) := by decide +kernel
theorem dX8_way_24 : decode cX8_way 24 = .ok (.invokestatic 80, 3) := by decide +kernel
theorem dX8_way_27 : decode cX8_way 27 = .ok (.ifCond .eq 13, 3) := by decide +kernel
theorem dX8_way_30 : decode cX8_way 30 = .ok (.aload_n 0, 1) := by decide +kernel
theorem dX8_way_31 : decode cX8_way 31 = .ok (.iload_n 1, 1) := by decide +kernel
theorem dX8_way_32 : decode cX8_way 32 = .ok (.iload_n 2, 1) := by decide +kernel
theorem dX8_way_33 : decode cX8_way 33 = .ok (.iload_n 3, 1) := by decide +kernel
theorem dX8_way_34 : decode cX8_way 34 = .ok (.invokevirtual 239, 3) := by decide +kernel
theorem dX8_way_37 : decode cX8_way 37 = .ok (.goto 8, 3) := by decide +kernel
theorem dX8_way_40 : decode cX8_way 40 = .ok (.aload_n 0, 1) := by decide +kernel
theorem dX8_way_41 : decode cX8_way 41 = .ok (.iconst 1, 1) := by decide +kernel
theorem dX8_way_42 : decode cX8_way 42 = .ok (.invokevirtual 203, 3) := by decide +kernel
theorem dX8_way_45 : decode cX8_way 45 = .ok (.ireturn, 1) := by decide +kernel
theorem dX8_linkAt_0 : decode cX8_linkAt 0 = .ok (.iconst 1, 1) := by decide +kernel
theorem dX8_linkAt_1 : decode cX8_linkAt 1 = .ok (.iconst 5, 1) := by decide +kernel
theorem dX8_linkAt_2 : decode cX8_linkAt 2 = .ok (.iload_n 0, 1) := by decide +kernel
theorem dX8_linkAt_3 : decode cX8_linkAt 3 = .ok (.imul, 1) := by decide +kernel
theorem dX8_linkAt_4 : decode cX8_linkAt 4 = .ok (.iadd, 1) := by decide +kernel
theorem dX8_linkAt_5 : decode cX8_linkAt 5 = .ok (.iload_n 1, 1) := by decide +kernel
theorem dX8_linkAt_6 : decode cX8_linkAt 6 = .ok (.iadd, 1) := by decide +kernel
theorem dX8_linkAt_7 : decode cX8_linkAt 7 = .ok (.ireturn, 1) := by decide +kernel
theorem dX8_portAt_0 : decode cX8_portAt 0 = .ok (.bipush 81, 2) := by decide +kernel
theorem dX8_portAt_2 : decode cX8_portAt 2 = .ok (.bipush 39, 2) := by decide +kernel
theorem dX8_portAt_4 : decode cX8_portAt 4 = .ok (.bipush 16, 2) := by decide +kernel
theorem dX8_portAt_6 : decode cX8_portAt 6 = .ok (.iload_n 0, 1) := by decide +kernel
theorem dX8_portAt_7 : decode cX8_portAt 7 = .ok (.imul, 1) := by decide +kernel
theorem dX8_portAt_8 : decode cX8_portAt 8 = .ok (.iload_n 1, 1) := by decide +kernel
theorem dX8_portAt_9 : decode cX8_portAt 9 = .ok (.iadd, 1) := by decide +kernel
theorem dX8_portAt_10 : decode cX8_portAt 10 = .ok (.imul, 1) := by decide +kernel
theorem dX8_portAt_11 : decode cX8_portAt 11 = .ok (.iadd, 1) := by decide +kernel
theorem dX8_portAt_12 : decode cX8_portAt 12 = .ok (.ireturn, 1) := by decide +kernel
theorem dX8_hearAt_0 : decode cX8_hearAt 0 = .ok (.sipush 1329, 3) := by decide +kernel
theorem dX8_hearAt_3 : decode cX8_hearAt 3 = .ok (.bipush 20, 2) := by decide +kernel
theorem dX8_hearAt_5 : decode cX8_hearAt 5 = .ok (.iconst 3, 1) := by decide +kernel
theorem dX8_hearAt_6 : decode cX8_hearAt 6 = .ok (.iload_n 0, 1) := by decide +kernel
theorem dX8_hearAt_7 : decode cX8_hearAt 7 = .ok (.imul, 1) := by decide +kernel
theorem dX8_hearAt_8 : decode cX8_hearAt 8 = .ok (.iload_n 1, 1) := by decide +kernel
theorem dX8_hearAt_9 : decode cX8_hearAt 9 = .ok (.iadd, 1) := by decide +kernel
theorem dX8_hearAt_10 : decode cX8_hearAt 10 = .ok (.imul, 1) := by decide +kernel
theorem dX8_hearAt_11 : decode cX8_hearAt 11 = .ok (.iadd, 1) := by decide +kernel
theorem dX8_hearAt_12 : decode cX8_hearAt 12 = .ok (.ireturn, 1) := by decide +kernel
theorem dX8_mostCredit_0 : decode cX8_mostCredit 0 = .ok (.aload_n 0, 1) := by decide +kernel
theorem dX8_mostCredit_1 : decode cX8_mostCredit 1 = .ok (.iload_n 1, 1) := by decide +kernel
theorem dX8_mostCredit_2 : decode cX8_mostCredit 2 = .ok (.iconst 2, 1) := by decide +kernel
theorem dX8_mostCredit_3 : decode cX8_mostCredit 3 = .ok (.invokevirtual 221, 3) := by decide +kernel
theorem dX8_mostCredit_6 : decode cX8_mostCredit 6 = .ok (.aload_n 0, 1) := by decide +kernel
theorem dX8_mostCredit_7 : decode cX8_mostCredit 7 = .ok (.iload_n 1, 1) := by decide +kernel
theorem dX8_mostCredit_8 : decode cX8_mostCredit 8 = .ok (.iconst 1, 1) := by decide +kernel
theorem dX8_mostCredit_9 : decode cX8_mostCredit 9 = .ok (.invokevirtual 221, 3) := by decide +kernel
theorem dX8_mostCredit_12 : decode cX8_mostCredit 12 = .ok (.aload_n 0, 1) := by decide +kernel
theorem dX8_mostCredit_13 : decode cX8_mostCredit 13 = .ok (.getfield 17, 3) := by decide +kernel
theorem dX8_mostCredit_16 : decode cX8_mostCredit 16 = .ok (.iconst 2, 1) := by decide +kernel
theorem dX8_mostCredit_17 : decode cX8_mostCredit 17 = .ok (.iaload, 1) := by decide +kernel
theorem dX8_mostCredit_18 : decode cX8_mostCredit 18 = .ok (.iadd, 1) := by decide +kernel
theorem dX8_mostCredit_19 : decode cX8_mostCredit 19 = .ok (.imul, 1) := by decide +kernel
theorem dX8_mostCredit_20 : decode cX8_mostCredit 20 = .ok (.ireturn, 1) := by decide +kernel
theorem dX8_begins_0 : decode cX8_begins 0 = .ok (.iconst 0, 1) := by decide +kernel
theorem dX8_begins_1 : decode cX8_begins 1 = .ok (.istore_n 1, 1) := by decide +kernel
theorem dX8_begins_2 : decode cX8_begins 2 = .ok (.iload_n 1, 1) := by decide +kernel
theorem dX8_begins_3 : decode cX8_begins 3 = .ok (.sipush 1809, 3) := by decide +kernel
theorem dX8_begins_6 : decode cX8_begins 6 = .ok (.if_icmp .ge 16, 3) := by decide +kernel
theorem dX8_begins_9 : decode cX8_begins 9 = .ok (.aload_n 0, 1) := by decide +kernel
theorem dX8_begins_10 : decode cX8_begins 10 = .ok (.getfield 42, 3) := by decide +kernel
theorem dX8_begins_13 : decode cX8_begins 13 = .ok (.iload_n 1, 1) := by decide +kernel
theorem dX8_begins_14 : decode cX8_begins 14 = .ok (.iconst 0, 1) := by decide +kernel
theorem dX8_begins_15 : decode cX8_begins 15 = .ok (.iastore, 1) := by decide +kernel
theorem dX8_begins_16 : decode cX8_begins 16 = .ok (.iinc 1 1, 3) := by decide +kernel
theorem dX8_begins_19 : decode cX8_begins 19 = .ok (.goto (-17), 3) := by decide +kernel
theorem dX8_begins_22 : decode cX8_begins 22 = .ok (.iconst 0, 1) := by decide +kernel
theorem dX8_begins_23 : decode cX8_begins 23 = .ok (.istore_n 1, 1) := by decide +kernel
theorem dX8_begins_24 : decode cX8_begins 24 = .ok (.iload_n 1, 1) := by decide +kernel
theorem dX8_begins_25 : decode cX8_begins 25 = .ok (.aload_n 0, 1) := by decide +kernel
theorem dX8_begins_26 : decode cX8_begins 26 = .ok (.getfield 17, 3) := by decide +kernel
theorem dX8_begins_29 : decode cX8_begins 29 = .ok (.bipush 6, 2) := by decide +kernel
theorem dX8_begins_31 : decode cX8_begins 31 = .ok (.iaload, 1) := by decide +kernel
theorem dX8_begins_32 : decode cX8_begins 32 = .ok (.if_icmp .ge 90, 3) := by decide +kernel
theorem dX8_begins_35 : decode cX8_begins 35 = .ok (.aload_n 0, 1) := by decide +kernel
theorem dX8_begins_36 : decode cX8_begins 36 = .ok (.getfield 42, 3) := by decide +kernel
theorem dX8_begins_39 : decode cX8_begins 39 = .ok (.iload_n 1, 1) := by decide +kernel
theorem dX8_begins_40 : decode cX8_begins 40 = .ok (.iconst 4, 1) := by decide +kernel
theorem dX8_begins_41 : decode cX8_begins 41 = .ok (.invokestatic 246, 3) := by decide +kernel
theorem dX8_begins_44 : decode cX8_begins 44 = .ok (.bipush (-2), 2) := by decide +kernel
theorem dX8_begins_46 : decode cX8_begins 46 = .ok (.iastore, 1) := by decide +kernel
theorem dX8_begins_47 : decode cX8_begins 47 = .ok (.aload_n 0, 1) := by decide +kernel
theorem dX8_begins_48 : decode cX8_begins 48 = .ok (.getfield 42, 3) := by decide +kernel
theorem dX8_begins_51 : decode cX8_begins 51 = .ok (.bipush 41, 2) := by decide +kernel
theorem dX8_begins_53 : decode cX8_begins 53 = .ok (.iload_n 1, 1) := by decide +kernel
theorem dX8_begins_54 : decode cX8_begins 54 = .ok (.iadd, 1) := by decide +kernel
theorem dX8_begins_55 : decode cX8_begins 55 = .ok (.aload_n 0, 1) := by decide +kernel
theorem dX8_begins_56 : decode cX8_begins 56 = .ok (.iload_n 1, 1) := by decide +kernel
theorem dX8_begins_57 : decode cX8_begins 57 = .ok (.invokevirtual 249, 3) := by decide +kernel
theorem dX8_begins_60 : decode cX8_begins 60 = .ok (.iastore, 1) := by decide +kernel
theorem dX8_begins_61 : decode cX8_begins 61 = .ok (.aload_n 0, 1) := by decide +kernel
theorem dX8_begins_62 : decode cX8_begins 62 = .ok (.getfield 42, 3) := by decide +kernel
theorem dX8_begins_65 : decode cX8_begins 65 = .ok (.bipush 49, 2) := by decide +kernel
theorem dX8_begins_67 : decode cX8_begins 67 = .ok (.iload_n 1, 1) := by decide +kernel
theorem dX8_begins_68 : decode cX8_begins 68 = .ok (.iadd, 1) := by decide +kernel
theorem dX8_begins_69 : decode cX8_begins 69 = .ok (.aload_n 0, 1) := by decide +kernel
theorem dX8_begins_70 : decode cX8_begins 70 = .ok (.iload_n 1, 1) := by decide +kernel
theorem dX8_begins_71 : decode cX8_begins 71 = .ok (.invokevirtual 249, 3) := by decide +kernel
theorem dX8_begins_74 : decode cX8_begins 74 = .ok (.iastore, 1) := by decide +kernel
theorem dX8_begins_75 : decode cX8_begins 75 = .ok (.iconst 0, 1) := by decide +kernel
theorem dX8_begins_76 : decode cX8_begins 76 = .ok (.istore_n 2, 1) := by decide +kernel
theorem dX8_begins_77 : decode cX8_begins 77 = .ok (.iload_n 2, 1) := by decide +kernel
theorem dX8_begins_78 : decode cX8_begins 78 = .ok (.iconst 3, 1) := by decide +kernel
theorem dX8_begins_79 : decode cX8_begins 79 = .ok (.if_icmp .ge 37, 3) := by decide +kernel
theorem dX8_begins_82 : decode cX8_begins 82 = .ok (.iconst 3, 1) := by decide +kernel
theorem dX8_begins_83 : decode cX8_begins 83 = .ok (.istore_n 3, 1) := by decide +kernel
theorem dX8_begins_84 : decode cX8_begins 84 = .ok (.iload_n 3, 1) := by decide +kernel
theorem dX8_begins_85 : decode cX8_begins 85 = .ok (.bipush 10, 2) := by decide +kernel
theorem dX8_begins_87 : decode cX8_begins 87 = .ok (.if_icmp .ge 23, 3) := by decide +kernel
theorem dX8_begins_90 : decode cX8_begins 90 = .ok (.aload_n 0, 1) := by decide +kernel
theorem dX8_begins_91 : decode cX8_begins 91 = .ok (.getfield 42, 3) := by decide +kernel
theorem dX8_begins_94 : decode cX8_begins 94 = .ok (.iload_n 1, 1) := by decide +kernel
theorem dX8_begins_95 : decode cX8_begins 95 = .ok (.iload_n 2, 1) := by decide +kernel
theorem dX8_begins_96 : decode cX8_begins 96 = .ok (.invokestatic 252, 3) := by decide +kernel
theorem dX8_begins_99 : decode cX8_begins 99 = .ok (.iload_n 3, 1) := by decide +kernel
theorem dX8_begins_100 : decode cX8_begins 100 = .ok (.iadd, 1) := by decide +kernel
theorem dX8_begins_101 : decode cX8_begins 101 = .ok (.bipush (-2), 2) := by decide +kernel
theorem dX8_begins_103 : decode cX8_begins 103 = .ok (.iastore, 1) := by decide +kernel
theorem dX8_begins_104 : decode cX8_begins 104 = .ok (.iinc 3 1, 3) := by decide +kernel
theorem dX8_begins_107 : decode cX8_begins 107 = .ok (.goto (-23), 3) := by decide +kernel
theorem dX8_begins_110 : decode cX8_begins 110 = .ok (.iinc 2 1, 3) := by decide +kernel
theorem dX8_begins_113 : decode cX8_begins 113 = .ok (.goto (-36), 3) := by decide +kernel
theorem dX8_begins_116 : decode cX8_begins 116 = .ok (.iinc 1 1, 3) := by decide +kernel
theorem dX8_begins_119 : decode cX8_begins 119 = .ok (.goto (-95), 3) := by decide +kernel
theorem dX8_begins_122 : decode cX8_begins 122 = .ok (.iconst 0, 1) := by decide +kernel
theorem dX8_begins_123 : decode cX8_begins 123 = .ok (.istore_n 1, 1) := by decide +kernel
theorem dX8_begins_124 : decode cX8_begins 124 = .ok (.iload_n 1, 1) := by decide +kernel
theorem dX8_begins_125 : decode cX8_begins 125 = .ok (.bipush 32, 2) := by decide +kernel
theorem dX8_begins_127 : decode cX8_begins 127 = .ok (.if_icmp .ge 25, 3) := by decide +kernel
theorem dX8_begins_130 : decode cX8_begins 130 = .ok (.aload_n 0, 1) := by decide +kernel
theorem dX8_begins_131 : decode cX8_begins 131 = .ok (.getfield 42, 3) := by decide +kernel
theorem dX8_begins_134 : decode cX8_begins 134 = .ok (.bipush 81, 2) := by decide +kernel
theorem dX8_begins_136 : decode cX8_begins 136 = .ok (.bipush 39, 2) := by decide +kernel
theorem dX8_begins_138 : decode cX8_begins 138 = .ok (.iload_n 1, 1) := by decide +kernel
theorem dX8_begins_139 : decode cX8_begins 139 = .ok (.imul, 1) := by decide +kernel
theorem dX8_begins_140 : decode cX8_begins 140 = .ok (.iadd, 1) := by decide +kernel
theorem dX8_begins_141 : decode cX8_begins 141 = .ok (.iconst 1, 1) := by decide +kernel
theorem dX8_begins_142 : decode cX8_begins 142 = .ok (.iadd, 1) := by decide +kernel
theorem dX8_begins_143 : decode cX8_begins 143 = .ok (.bipush (-2), 2) := by decide +kernel
theorem dX8_begins_145 : decode cX8_begins 145 = .ok (.iastore, 1) := by decide +kernel
theorem dX8_begins_146 : decode cX8_begins 146 = .ok (.iinc 1 1, 3) := by decide +kernel
theorem dX8_begins_149 : decode cX8_begins 149 = .ok (.goto (-25), 3) := by decide +kernel
theorem dX8_begins_152 : decode cX8_begins 152 = .ok (.return_, 1) := by decide +kernel
theorem dX8_laysAside_0 : decode cX8_laysAside 0 = .ok (.iconst 0, 1) := by decide +kernel
theorem dX8_laysAside_1 : decode cX8_laysAside 1 = .ok (.istore_n 1, 1) := by decide +kernel
theorem dX8_laysAside_2 : decode cX8_laysAside 2 = .ok (.iload_n 1, 1) := by decide +kernel
theorem dX8_laysAside_3 : decode cX8_laysAside 3 = .ok (.sipush 1809, 3) := by decide +kernel
theorem dX8_laysAside_6 : decode cX8_laysAside 6 = .ok (.if_icmp .ge 21, 3) := by decide +kernel
theorem dX8_laysAside_9 : decode cX8_laysAside 9 = .ok (.aload_n 0, 1) := by decide +kernel
theorem dX8_laysAside_10 : decode cX8_laysAside 10 = .ok (.getfield 45, 3) := by decide +kernel
theorem dX8_laysAside_13 : decode cX8_laysAside 13 = .ok (.iload_n 1, 1) := by decide +kernel
theorem dX8_laysAside_14 : decode cX8_laysAside 14 = .ok (.aload_n 0, 1) := by decide +kernel
theorem dX8_laysAside_15 : decode cX8_laysAside 15 = .ok (.getfield 42, 3) := by decide +kernel
theorem dX8_laysAside_18 : decode cX8_laysAside 18 = .ok (.iload_n 1, 1) := by decide +kernel
theorem dX8_laysAside_19 : decode cX8_laysAside 19 = .ok (.iaload, 1) := by decide +kernel
theorem dX8_laysAside_20 : decode cX8_laysAside 20 = .ok (.iastore, 1) := by decide +kernel
theorem dX8_laysAside_21 : decode cX8_laysAside 21 = .ok (.iinc 1 1, 3) := by decide +kernel
theorem dX8_laysAside_24 : decode cX8_laysAside 24 = .ok (.goto (-22), 3) := by decide +kernel
theorem dX8_laysAside_27 : decode cX8_laysAside 27 = .ok (.return_, 1) := by decide +kernel
theorem dX8_takesBack_0 : decode cX8_takesBack 0 = .ok (.iconst 0, 1) := by decide +kernel
theorem dX8_takesBack_1 : decode cX8_takesBack 1 = .ok (.istore_n 1, 1) := by decide +kernel
theorem dX8_takesBack_2 : decode cX8_takesBack 2 = .ok (.iload_n 1, 1) := by decide +kernel
theorem dX8_takesBack_3 : decode cX8_takesBack 3 = .ok (.sipush 1809, 3) := by decide +kernel
theorem dX8_takesBack_6 : decode cX8_takesBack 6 = .ok (.if_icmp .ge 21, 3) := by decide +kernel
theorem dX8_takesBack_9 : decode cX8_takesBack 9 = .ok (.aload_n 0, 1) := by decide +kernel
theorem dX8_takesBack_10 : decode cX8_takesBack 10 = .ok (.getfield 42, 3) := by decide +kernel
theorem dX8_takesBack_13 : decode cX8_takesBack 13 = .ok (.iload_n 1, 1) := by decide +kernel
theorem dX8_takesBack_14 : decode cX8_takesBack 14 = .ok (.aload_n 0, 1) := by decide +kernel
theorem dX8_takesBack_15 : decode cX8_takesBack 15 = .ok (.getfield 45, 3) := by decide +kernel
theorem dX8_takesBack_18 : decode cX8_takesBack 18 = .ok (.iload_n 1, 1) := by decide +kernel
theorem dX8_takesBack_19 : decode cX8_takesBack 19 = .ok (.iaload, 1) := by decide +kernel
theorem dX8_takesBack_20 : decode cX8_takesBack 20 = .ok (.iastore, 1) := by decide +kernel
theorem dX8_takesBack_21 : decode cX8_takesBack 21 = .ok (.iinc 1 1, 3) := by decide +kernel
theorem dX8_takesBack_24 : decode cX8_takesBack 24 = .ok (.goto (-22), 3) := by decide +kernel
theorem dX8_takesBack_27 : decode cX8_takesBack 27 = .ok (.return_, 1) := by decide +kernel
theorem dX8_comes_0 : decode cX8_comes 0 = .ok (.iload_n 1, 1) := by decide +kernel
theorem dX8_comes_1 : decode cX8_comes 1 = .ok (.iload_n 2, 1) := by decide +kernel
theorem dX8_comes_2 : decode cX8_comes 2 = .ok (.invokestatic 255, 3) := by decide +kernel
theorem dX8_comes_5 : decode cX8_comes 5 = .ok (.istore 6, 2) := by decide +kernel
theorem dX8_comes_7 : decode cX8_comes 7 = .ok (.aload_n 0, 1) := by decide +kernel
theorem dX8_comes_8 : decode cX8_comes 8 = .ok (.getfield 42, 3) := by decide +kernel
theorem dX8_comes_11 : decode cX8_comes 11 = .ok (.iload 6, 2) := by decide +kernel
theorem dX8_comes_13 : decode cX8_comes 13 = .ok (.iconst 0, 1) := by decide +kernel
theorem dX8_comes_14 : decode cX8_comes 14 = .ok (.iadd, 1) := by decide +kernel
theorem dX8_comes_15 : decode cX8_comes 15 = .ok (.iaload, 1) := by decide +kernel
theorem dX8_comes_16 : decode cX8_comes 16 = .ok (.aload_n 0, 1) := by decide +kernel
theorem dX8_comes_17 : decode cX8_comes 17 = .ok (.getfield 17, 3) := by decide +kernel
theorem dX8_comes_20 : decode cX8_comes 20 = .ok (.iconst 1, 1) := by decide +kernel
theorem dX8_comes_21 : decode cX8_comes 21 = .ok (.iaload, 1) := by decide +kernel
theorem dX8_comes_22 : decode cX8_comes 22 = .ok (.if_icmp .ne 22, 3) := by decide +kernel
theorem dX8_comes_25 : decode cX8_comes 25 = .ok (.aload_n 0, 1) := by decide +kernel
theorem dX8_comes_26 : decode cX8_comes 26 = .ok (.getfield 42, 3) := by decide +kernel
theorem dX8_comes_29 : decode cX8_comes 29 = .ok (.bipush 73, 2) := by decide +kernel
theorem dX8_comes_31 : decode cX8_comes 31 = .ok (.iconst 3, 1) := by decide +kernel
theorem dX8_comes_32 : decode cX8_comes 32 = .ok (.iload_n 1, 1) := by decide +kernel
theorem dX8_comes_33 : decode cX8_comes 33 = .ok (.imul, 1) := by decide +kernel
theorem dX8_comes_34 : decode cX8_comes 34 = .ok (.iadd, 1) := by decide +kernel
theorem dX8_comes_35 : decode cX8_comes 35 = .ok (.iconst 0, 1) := by decide +kernel
theorem dX8_comes_36 : decode cX8_comes 36 = .ok (.iadd, 1) := by decide +kernel
theorem dX8_comes_37 : decode cX8_comes 37 = .ok (.dup2, 1) := by decide +kernel
theorem dX8_comes_38 : decode cX8_comes 38 = .ok (.iaload, 1) := by decide +kernel
theorem dX8_comes_39 : decode cX8_comes 39 = .ok (.iconst 1, 1) := by decide +kernel
theorem dX8_comes_40 : decode cX8_comes 40 = .ok (.iadd, 1) := by decide +kernel
theorem dX8_comes_41 : decode cX8_comes 41 = .ok (.iastore, 1) := by decide +kernel
theorem dX8_comes_42 : decode cX8_comes 42 = .ok (.iconst 0, 1) := by decide +kernel
theorem dX8_comes_43 : decode cX8_comes 43 = .ok (.ireturn, 1) := by decide +kernel
theorem dX8_comes_44 : decode cX8_comes 44 = .ok (.iload 6, 2) := by decide +kernel
theorem dX8_comes_46 : decode cX8_comes 46 = .ok (.iconst 3, 1) := by decide +kernel
theorem dX8_comes_47 : decode cX8_comes 47 = .ok (.iadd, 1) := by decide +kernel
theorem dX8_comes_48 : decode cX8_comes 48 = .ok (.iconst 3, 1) := by decide +kernel
theorem dX8_comes_49 : decode cX8_comes 49 = .ok (.aload_n 0, 1) := by decide +kernel
theorem dX8_comes_50 : decode cX8_comes 50 = .ok (.getfield 42, 3) := by decide +kernel
theorem dX8_comes_53 : decode cX8_comes 53 = .ok (.iload 6, 2) := by decide +kernel
theorem dX8_comes_55 : decode cX8_comes 55 = .ok (.iconst 0, 1) := by decide +kernel
theorem dX8_comes_56 : decode cX8_comes 56 = .ok (.iadd, 1) := by decide +kernel
theorem dX8_comes_57 : decode cX8_comes 57 = .ok (.iaload, 1) := by decide +kernel
theorem dX8_comes_58 : decode cX8_comes 58 = .ok (.imul, 1) := by decide +kernel
theorem dX8_comes_59 : decode cX8_comes 59 = .ok (.iadd, 1) := by decide +kernel
theorem dX8_comes_60 : decode cX8_comes 60 = .ok (.istore 7, 2) := by decide +kernel
theorem dX8_comes_62 : decode cX8_comes 62 = .ok (.aload_n 0, 1) := by decide +kernel
theorem dX8_comes_63 : decode cX8_comes 63 = .ok (.getfield 42, 3) := by decide +kernel
theorem dX8_comes_66 : decode cX8_comes 66 = .ok (.iload 7, 2) := by decide +kernel
theorem dX8_comes_68 : decode cX8_comes 68 = .ok (.iload_n 3, 1) := by decide +kernel
theorem dX8_comes_69 : decode cX8_comes 69 = .ok (.iastore, 1) := by decide +kernel
theorem dX8_comes_70 : decode cX8_comes 70 = .ok (.aload_n 0, 1) := by decide +kernel
theorem dX8_comes_71 : decode cX8_comes 71 = .ok (.getfield 42, 3) := by decide +kernel
theorem dX8_comes_74 : decode cX8_comes 74 = .ok (.iload 7, 2) := by decide +kernel
theorem dX8_comes_76 : decode cX8_comes 76 = .ok (.iconst 1, 1) := by decide +kernel
theorem dX8_comes_77 : decode cX8_comes 77 = .ok (.iadd, 1) := by decide +kernel
theorem dX8_comes_78 : decode cX8_comes 78 = .ok (.iload 4, 2) := by decide +kernel
theorem dX8_comes_80 : decode cX8_comes 80 = .ok (.iastore, 1) := by decide +kernel
theorem dX8_comes_81 : decode cX8_comes 81 = .ok (.aload_n 0, 1) := by decide +kernel
theorem dX8_comes_82 : decode cX8_comes 82 = .ok (.getfield 42, 3) := by decide +kernel
theorem dX8_comes_85 : decode cX8_comes 85 = .ok (.iload 7, 2) := by decide +kernel
theorem dX8_comes_87 : decode cX8_comes 87 = .ok (.iconst 2, 1) := by decide +kernel
theorem dX8_comes_88 : decode cX8_comes 88 = .ok (.iadd, 1) := by decide +kernel
theorem dX8_comes_89 : decode cX8_comes 89 = .ok (.iload 5, 2) := by decide +kernel
theorem dX8_comes_91 : decode cX8_comes 91 = .ok (.iastore, 1) := by decide +kernel
theorem dX8_comes_92 : decode cX8_comes 92 = .ok (.aload_n 0, 1) := by decide +kernel
theorem dX8_comes_93 : decode cX8_comes 93 = .ok (.getfield 42, 3) := by decide +kernel
theorem dX8_comes_96 : decode cX8_comes 96 = .ok (.iload 6, 2) := by decide +kernel
theorem dX8_comes_98 : decode cX8_comes 98 = .ok (.iconst 0, 1) := by decide +kernel
theorem dX8_comes_99 : decode cX8_comes 99 = .ok (.iadd, 1) := by decide +kernel
theorem dX8_comes_100 : decode cX8_comes 100 = .ok (.dup2, 1) := by decide +kernel
theorem dX8_comes_101 : decode cX8_comes 101 = .ok (.iaload, 1) := by decide +kernel
theorem dX8_comes_102 : decode cX8_comes 102 = .ok (.iconst 1, 1) := by decide +kernel
theorem dX8_comes_103 : decode cX8_comes 103 = .ok (.iadd, 1) := by decide +kernel
theorem dX8_comes_104 : decode cX8_comes 104 = .ok (.iastore, 1) := by decide +kernel
theorem dX8_comes_105 : decode cX8_comes 105 = .ok (.iconst 1, 1) := by decide +kernel
theorem dX8_comes_106 : decode cX8_comes 106 = .ok (.ireturn, 1) := by decide +kernel
theorem dX8_behind_0 : decode cX8_behind 0 = .ok (.iload_n 0, 1) := by decide +kernel
theorem dX8_behind_1 : decode cX8_behind 1 = .ok (.sipush 255, 3) := by decide +kernel
theorem dX8_behind_4 : decode cX8_behind 4 = .ok (.if_icmp .ne 7, 3) := by decide +kernel
theorem dX8_behind_7 : decode cX8_behind 7 = .ok (.iconst 1, 1) := by decide +kernel
theorem dX8_behind_8 : decode cX8_behind 8 = .ok (.goto 6, 3) := by decide +kernel
theorem dX8_behind_11 : decode cX8_behind 11 = .ok (.iload_n 0, 1) := by decide +kernel
theorem dX8_behind_12 : decode cX8_behind 12 = .ok (.iconst 1, 1) := by decide +kernel
theorem dX8_behind_13 : decode cX8_behind 13 = .ok (.iadd, 1) := by decide +kernel
theorem dX8_behind_14 : decode cX8_behind 14 = .ok (.ireturn, 1) := by decide +kernel
theorem dX8_isBorn_0 : decode cX8_isBorn 0 = .ok (.aload_n 0, 1) := by decide +kernel
theorem dX8_isBorn_1 : decode cX8_isBorn 1 = .ok (.getfield 42, 3) := by decide +kernel
theorem dX8_isBorn_4 : decode cX8_isBorn 4 = .ok (.iload_n 1, 1) := by decide +kernel
theorem dX8_isBorn_5 : decode cX8_isBorn 5 = .ok (.iconst 2, 1) := by decide +kernel
theorem dX8_isBorn_6 : decode cX8_isBorn 6 = .ok (.invokestatic 246, 3) := by decide +kernel
theorem dX8_isBorn_9 : decode cX8_isBorn 9 = .ok (.iaload, 1) := by decide +kernel
theorem dX8_isBorn_10 : decode cX8_isBorn 10 = .ok (.istore_n 2, 1) := by decide +kernel
theorem dX8_isBorn_11 : decode cX8_isBorn 11 = .ok (.iconst 0, 1) := by decide +kernel
theorem dX8_isBorn_12 : decode cX8_isBorn 12 = .ok (.istore_n 3, 1) := by decide +kernel
theorem dX8_isBorn_13 : decode cX8_isBorn 13 = .ok (.iconst 0, 1) := by decide +kernel
theorem dX8_isBorn_14 : decode cX8_isBorn 14 = .ok (.istore 4, 2) := by decide +kernel
theorem dX8_isBorn_16 : decode cX8_isBorn 16 = .ok (.iload 4, 2) := by decide +kernel
theorem dX8_isBorn_18 : decode cX8_isBorn 18 = .ok (.iconst 2, 1) := by decide +kernel
theorem dX8_isBorn_19 : decode cX8_isBorn 19 = .ok (.if_icmp .ge 40, 3) := by decide +kernel
theorem dX8_isBorn_22 : decode cX8_isBorn 22 = .ok (.iload_n 3, 1) := by decide +kernel
theorem dX8_isBorn_23 : decode cX8_isBorn 23 = .ok (.aload_n 0, 1) := by decide +kernel
theorem dX8_isBorn_24 : decode cX8_isBorn 24 = .ok (.iload 4, 2) := by decide +kernel
theorem dX8_isBorn_26 : decode cX8_isBorn 26 = .ok (.aload_n 0, 1) := by decide +kernel
theorem dX8_isBorn_27 : decode cX8_isBorn 27 = .ok (.iload_n 1, 1) := by decide +kernel
theorem dX8_isBorn_28 : decode cX8_isBorn 28 = .ok (.iconst 0, 1) := by decide +kernel
theorem dX8_isBorn_29 : decode cX8_isBorn 29 = .ok (.invokevirtual 221, 3) := by decide +kernel
theorem dX8_isBorn_32 : decode cX8_isBorn 32 = .ok (.iload_n 1, 1) := by decide +kernel
theorem dX8_isBorn_33 : decode cX8_isBorn 33 = .ok (.iload_n 2, 1) := by decide +kernel
theorem dX8_isBorn_34 : decode cX8_isBorn 34 = .ok (.aload_n 0, 1) := by decide +kernel
theorem dX8_isBorn_35 : decode cX8_isBorn 35 = .ok (.getfield 42, 3) := by decide +kernel
theorem dX8_isBorn_38 : decode cX8_isBorn 38 = .ok (.iconst 0, 1) := by decide +kernel
theorem dX8_isBorn_39 : decode cX8_isBorn 39 = .ok (.iaload, 1) := by decide +kernel
theorem dX8_isBorn_40 : decode cX8_isBorn 40 = .ok (.invokevirtual 258, 3) := by decide +kernel
theorem dX8_isBorn_43 : decode cX8_isBorn 43 = .ok (.ifCond .eq 7, 3) := by decide +kernel
theorem dX8_isBorn_46 : decode cX8_isBorn 46 = .ok (.iconst 0, 1) := by decide +kernel
theorem dX8_isBorn_47 : decode cX8_isBorn 47 = .ok (.goto 4, 3) := by decide +kernel
theorem dX8_isBorn_50 : decode cX8_isBorn 50 = .ok (.iconst 1, 1) := by decide +kernel
theorem dX8_isBorn_51 : decode cX8_isBorn 51 = .ok (.iadd, 1) := by decide +kernel
theorem dX8_isBorn_52 : decode cX8_isBorn 52 = .ok (.istore_n 3, 1) := by decide +kernel
theorem dX8_isBorn_53 : decode cX8_isBorn 53 = .ok (.iinc 4 1, 3) := by decide +kernel
theorem dX8_isBorn_56 : decode cX8_isBorn 56 = .ok (.goto (-40), 3) := by decide +kernel
theorem dX8_isBorn_59 : decode cX8_isBorn 59 = .ok (.aload_n 0, 1) := by decide +kernel
theorem dX8_isBorn_60 : decode cX8_isBorn 60 = .ok (.getfield 42, 3) := by decide +kernel
theorem dX8_isBorn_63 : decode cX8_isBorn 63 = .ok (.iload_n 1, 1) := by decide +kernel
theorem dX8_isBorn_64 : decode cX8_isBorn 64 = .ok (.iconst 2, 1) := by decide +kernel
theorem dX8_isBorn_65 : decode cX8_isBorn 65 = .ok (.invokestatic 246, 3) := by decide +kernel
theorem dX8_isBorn_68 : decode cX8_isBorn 68 = .ok (.iload_n 2, 1) := by decide +kernel
theorem dX8_isBorn_69 : decode cX8_isBorn 69 = .ok (.invokestatic 262, 3) := by decide +kernel
theorem dX8_isBorn_72 : decode cX8_isBorn 72 = .ok (.iastore, 1) := by decide +kernel
theorem dX8_isBorn_73 : decode cX8_isBorn 73 = .ok (.aload_n 0, 1) := by decide +kernel
theorem dX8_isBorn_74 : decode cX8_isBorn 74 = .ok (.getfield 42, 3) := by decide +kernel
theorem dX8_isBorn_77 : decode cX8_isBorn 77 = .ok (.iload_n 1, 1) := by decide +kernel
theorem dX8_isBorn_78 : decode cX8_isBorn 78 = .ok (.iconst 3, 1) := by decide +kernel
theorem dX8_isBorn_79 : decode cX8_isBorn 79 = .ok (.invokestatic 246, 3) := by decide +kernel
theorem dX8_isBorn_82 : decode cX8_isBorn 82 = .ok (.dup2, 1) := by decide +kernel
theorem dX8_isBorn_83 : decode cX8_isBorn 83 = .ok (.iaload, 1) := by decide +kernel
theorem dX8_isBorn_84 : decode cX8_isBorn 84 = .ok (.iconst 1, 1) := by decide +kernel
theorem dX8_isBorn_85 : decode cX8_isBorn 85 = .ok (.iadd, 1) := by decide +kernel
theorem dX8_isBorn_86 : decode cX8_isBorn 86 = .ok (.iastore, 1) := by decide +kernel
theorem dX8_isBorn_87 : decode cX8_isBorn 87 = .ok (.iload_n 3, 1) := by decide +kernel
theorem dX8_isBorn_88 : decode cX8_isBorn 88 = .ok (.ireturn, 1) := by decide +kernel
theorem dX8_liesBehind_0 : decode cX8_liesBehind 0 = .ok (.iconst 0, 1) := by decide +kernel
theorem dX8_liesBehind_1 : decode cX8_liesBehind 1 = .ok (.istore 4, 2) := by decide +kernel
theorem dX8_liesBehind_3 : decode cX8_liesBehind 3 = .ok (.iload 4, 2) := by decide +kernel
theorem dX8_liesBehind_5 : decode cX8_liesBehind 5 = .ok (.aload_n 0, 1) := by decide +kernel
theorem dX8_liesBehind_6 : decode cX8_liesBehind 6 = .ok (.iload_n 1, 1) := by decide +kernel
theorem dX8_liesBehind_7 : decode cX8_liesBehind 7 = .ok (.iconst 3, 1) := by decide +kernel
theorem dX8_liesBehind_8 : decode cX8_liesBehind 8 = .ok (.invokevirtual 221, 3) := by decide +kernel
theorem dX8_liesBehind_11 : decode cX8_liesBehind 11 = .ok (.if_icmp .ge 113, 3) := by decide +kernel
theorem dX8_liesBehind_14 : decode cX8_liesBehind 14 = .ok (.aload_n 0, 1) := by decide +kernel
theorem dX8_liesBehind_15 : decode cX8_liesBehind 15 = .ok (.getfield 23, 3) := by decide +kernel
theorem dX8_liesBehind_18 : decode cX8_liesBehind 18 = .ok (.aload_n 0, 1) := by decide +kernel
theorem dX8_liesBehind_19 : decode cX8_liesBehind 19 = .ok (.iload_n 1, 1) := by decide +kernel
theorem dX8_liesBehind_20 : decode cX8_liesBehind 20 = .ok (.iload 4, 2) := by decide +kernel
theorem dX8_liesBehind_22 : decode cX8_liesBehind 22 = .ok (.invokevirtual 230, 3) := by decide +kernel
theorem dX8_liesBehind_25 : decode cX8_liesBehind 25 = .ok (.iaload, 1) := by decide +kernel
theorem dX8_liesBehind_26 : decode cX8_liesBehind 26 = .ok (.istore 5, 2) := by decide +kernel
theorem dX8_liesBehind_28 : decode cX8_liesBehind 28 = .ok (.iload_n 3, 1) := by decide +kernel
theorem dX8_liesBehind_29 : decode cX8_liesBehind 29 = .ok (.bipush 12, 2) := by decide +kernel
theorem dX8_liesBehind_31 : decode cX8_liesBehind 31 = .ok (.if_icmp .ge 31, 3) := by decide +kernel
theorem dX8_liesBehind_34 : decode cX8_liesBehind 34 = .ok (.iload 5, 2) := by decide +kernel
theorem dX8_liesBehind_36 : decode cX8_liesBehind 36 = .ok (.iload_n 2, 1) := by decide +kernel
theorem dX8_liesBehind_37 : decode cX8_liesBehind 37 = .ok (.if_icmp .ne 21, 3) := by decide +kernel
theorem dX8_liesBehind_40 : decode cX8_liesBehind 40 = .ok (.aload_n 0, 1) := by decide +kernel
theorem dX8_liesBehind_41 : decode cX8_liesBehind 41 = .ok (.iload_n 1, 1) := by decide +kernel
theorem dX8_liesBehind_42 : decode cX8_liesBehind 42 = .ok (.iload 4, 2) := by decide +kernel
theorem dX8_liesBehind_44 : decode cX8_liesBehind 44 = .ok (.invokevirtual 230, 3) := by decide +kernel
theorem dX8_liesBehind_47 : decode cX8_liesBehind 47 = .ok (.iload_n 3, 1) := by decide +kernel
theorem dX8_liesBehind_48 : decode cX8_liesBehind 48 = .ok (.bipush 6, 2) := by decide +kernel
theorem dX8_liesBehind_50 : decode cX8_liesBehind 50 = .ok (.isub, 1) := by decide +kernel
theorem dX8_liesBehind_51 : decode cX8_liesBehind 51 = .ok (.if_icmp .ne 7, 3) := by decide +kernel
theorem dX8_liesBehind_54 : decode cX8_liesBehind 54 = .ok (.iconst 1, 1) := by decide +kernel
theorem dX8_liesBehind_55 : decode cX8_liesBehind 55 = .ok (.goto 54, 3) := by decide +kernel
theorem dX8_liesBehind_58 : decode cX8_liesBehind 58 = .ok (.iconst 0, 1) := by decide +kernel
theorem dX8_liesBehind_59 : decode cX8_liesBehind 59 = .ok (.goto 50, 3) := by decide +kernel
theorem dX8_liesBehind_62 : decode cX8_liesBehind 62 = .ok (.iload_n 3, 1) := by decide +kernel
theorem dX8_liesBehind_63 : decode cX8_liesBehind 63 = .ok (.bipush 14, 2) := by decide +kernel
theorem dX8_liesBehind_65 : decode cX8_liesBehind 65 = .ok (.if_icmp .ge 25, 3) := by decide +kernel
theorem dX8_liesBehind_68 : decode cX8_liesBehind 68 = .ok (.iload_n 2, 1) := by decide +kernel
theorem dX8_liesBehind_69 : decode cX8_liesBehind 69 = .ok (.iload_n 3, 1) := by decide +kernel
theorem dX8_liesBehind_70 : decode cX8_liesBehind 70 = .ok (.bipush 12, 2) := by decide +kernel
theorem dX8_liesBehind_72 : decode cX8_liesBehind 72 = .ok (.isub, 1) := by decide +kernel
theorem dX8_liesBehind_73 : decode cX8_liesBehind 73 = .ok (.if_icmp .ne 13, 3) := by decide +kernel
theorem dX8_liesBehind_76 : decode cX8_liesBehind 76 = .ok (.iload 5, 2) := by decide +kernel
theorem dX8_liesBehind_78 : decode cX8_liesBehind 78 = .ok (.iload_n 2, 1) := by decide +kernel
theorem dX8_liesBehind_79 : decode cX8_liesBehind 79 = .ok (.if_icmp .le 7, 3) := by decide +kernel
theorem dX8_liesBehind_82 : decode cX8_liesBehind 82 = .ok (.iconst 1, 1) := by decide +kernel
theorem dX8_liesBehind_83 : decode cX8_liesBehind 83 = .ok (.goto 26, 3) := by decide +kernel
theorem dX8_liesBehind_86 : decode cX8_liesBehind 86 = .ok (.iconst 0, 1) := by decide +kernel
theorem dX8_liesBehind_87 : decode cX8_liesBehind 87 = .ok (.goto 22, 3) := by decide +kernel
theorem dX8_liesBehind_90 : decode cX8_liesBehind 90 = .ok (.iload_n 2, 1) := by decide +kernel
theorem dX8_liesBehind_91 : decode cX8_liesBehind 91 = .ok (.iload_n 3, 1) := by decide +kernel
theorem dX8_liesBehind_92 : decode cX8_liesBehind 92 = .ok (.bipush 13, 2) := by decide +kernel
theorem dX8_liesBehind_94 : decode cX8_liesBehind 94 = .ok (.isub, 1) := by decide +kernel
theorem dX8_liesBehind_95 : decode cX8_liesBehind 95 = .ok (.if_icmp .ne 13, 3) := by decide +kernel
theorem dX8_liesBehind_98 : decode cX8_liesBehind 98 = .ok (.iload 5, 2) := by decide +kernel
theorem dX8_liesBehind_100 : decode cX8_liesBehind 100 = .ok (.iload_n 2, 1) := by decide +kernel
theorem dX8_liesBehind_101 : decode cX8_liesBehind 101 = .ok (.if_icmp .ge 7, 3) := by decide +kernel
theorem dX8_liesBehind_104 : decode cX8_liesBehind 104 = .ok (.iconst 1, 1) := by decide +kernel
theorem dX8_liesBehind_105 : decode cX8_liesBehind 105 = .ok (.goto 4, 3) := by decide +kernel
theorem dX8_liesBehind_108 : decode cX8_liesBehind 108 = .ok (.iconst 0, 1) := by decide +kernel
theorem dX8_liesBehind_109 : decode cX8_liesBehind 109 = .ok (.istore 6, 2) := by decide +kernel
theorem dX8_liesBehind_111 : decode cX8_liesBehind 111 = .ok (.iload 6, 2) := by decide +kernel
theorem dX8_liesBehind_113 : decode cX8_liesBehind 113 = .ok (.ifCond .eq 5, 3) := by decide +kernel
theorem dX8_liesBehind_116 : decode cX8_liesBehind 116 = .ok (.iconst 1, 1) := by decide +kernel
theorem dX8_liesBehind_117 : decode cX8_liesBehind 117 = .ok (.ireturn, 1) := by decide +kernel
theorem dX8_liesBehind_118 : decode cX8_liesBehind 118 = .ok (.iinc 4 1, 3) := by decide +kernel
theorem dX8_liesBehind_121 : decode cX8_liesBehind 121 = .ok (.goto (-118), 3) := by decide +kernel
theorem dX8_liesBehind_124 : decode cX8_liesBehind 124 = .ok (.iconst 0, 1) := by decide +kernel
theorem dX8_liesBehind_125 : decode cX8_liesBehind 125 = .ok (.ireturn, 1) := by decide +kernel
theorem dX8_switchBehind_0 : decode cX8_switchBehind 0 = .ok (.iload_n 1, 1) := by decide +kernel
theorem dX8_switchBehind_1 : decode cX8_switchBehind 1 = .ok (.bipush 6, 2) := by decide +kernel
theorem dX8_switchBehind_3 : decode cX8_switchBehind 3 = .ok (.if_icmp .ge 12, 3) := by decide +kernel
theorem dX8_switchBehind_6 : decode cX8_switchBehind 6 = .ok (.aload_n 0, 1) := by decide +kernel
theorem dX8_switchBehind_7 : decode cX8_switchBehind 7 = .ok (.getfield 23, 3) := by decide +kernel
theorem dX8_switchBehind_10 : decode cX8_switchBehind 10 = .ok (.iload_n 1, 1) := by decide +kernel
theorem dX8_switchBehind_11 : decode cX8_switchBehind 11 = .ok (.iaload, 1) := by decide +kernel
theorem dX8_switchBehind_12 : decode cX8_switchBehind 12 = .ok (.goto 20, 3) := by decide +kernel
theorem dX8_switchBehind_15 : decode cX8_switchBehind 15 = .ok (.iload_n 1, 1) := by decide +kernel
theorem dX8_switchBehind_16 : decode cX8_switchBehind 16 = .ok (.bipush 14, 2) := by decide +kernel
theorem dX8_switchBehind_18 : decode cX8_switchBehind 18 = .ok (.if_icmp .ge 10, 3) := by decide +kernel
theorem dX8_switchBehind_21 : decode cX8_switchBehind 21 = .ok (.iload_n 1, 1) := by decide +kernel
theorem dX8_switchBehind_22 : decode cX8_switchBehind 22 = .ok (.bipush 11, 2) := by decide +kernel
theorem dX8_switchBehind_24 : decode cX8_switchBehind 24 = .ok (.isub, 1) := by decide +kernel
theorem dX8_switchBehind_25 : decode cX8_switchBehind 25 = .ok (.goto 7, 3) := by decide +kernel
theorem dX8_switchBehind_28 : decode cX8_switchBehind 28 = .ok (.iload_n 1, 1) := by decide +kernel
theorem dX8_switchBehind_29 : decode cX8_switchBehind 29 = .ok (.bipush 14, 2) := by decide +kernel
theorem dX8_switchBehind_31 : decode cX8_switchBehind 31 = .ok (.isub, 1) := by decide +kernel
theorem dX8_switchBehind_32 : decode cX8_switchBehind 32 = .ok (.ireturn, 1) := by decide +kernel
theorem dX8_arrivesAtSwitch_0 : decode cX8_arrivesAtSwitch 0 = .ok (.aload_n 0, 1) := by decide +kernel
theorem dX8_arrivesAtSwitch_1 : decode cX8_arrivesAtSwitch 1 = .ok (.getfield 42, 3) := by decide +kernel
theorem dX8_arrivesAtSwitch_4 : decode cX8_arrivesAtSwitch 4 = .ok (.bipush 79, 2) := by decide +kernel
theorem dX8_arrivesAtSwitch_6 : decode cX8_arrivesAtSwitch 6 = .ok (.iload_n 1, 1) := by decide +kernel
theorem dX8_arrivesAtSwitch_7 : decode cX8_arrivesAtSwitch 7 = .ok (.iadd, 1) := by decide +kernel
theorem dX8_arrivesAtSwitch_8 : decode cX8_arrivesAtSwitch 8 = .ok (.iaload, 1) := by decide +kernel
theorem dX8_arrivesAtSwitch_9 : decode cX8_arrivesAtSwitch 9 = .ok (.iconst 1, 1) := by decide +kernel
theorem dX8_arrivesAtSwitch_10 : decode cX8_arrivesAtSwitch 10 = .ok (.if_icmp .ne 21, 3) := by decide +kernel
theorem dX8_arrivesAtSwitch_13 : decode cX8_arrivesAtSwitch 13 = .ok (.aload_n 0, 1) := by decide +kernel
theorem dX8_arrivesAtSwitch_14 : decode cX8_arrivesAtSwitch 14 = .ok (.getfield 42, 3) := by decide +kernel
theorem dX8_arrivesAtSwitch_17 : decode cX8_arrivesAtSwitch 17 = .ok (.bipush 73, 2) := by decide +kernel
theorem dX8_arrivesAtSwitch_19 : decode cX8_arrivesAtSwitch 19 = .ok (.iconst 3, 1) := by decide +kernel
theorem dX8_arrivesAtSwitch_20 : decode cX8_arrivesAtSwitch 20 = .ok (.iload_n 1, 1) := by decide +kernel
theorem dX8_arrivesAtSwitch_21 : decode cX8_arrivesAtSwitch 21 = .ok (.imul, 1) := by decide +kernel
theorem dX8_arrivesAtSwitch_22 : decode cX8_arrivesAtSwitch 22 = .ok (.iadd, 1) := by decide +kernel
theorem dX8_arrivesAtSwitch_23 : decode cX8_arrivesAtSwitch 23 = .ok (.iconst 1, 1) := by decide +kernel
theorem dX8_arrivesAtSwitch_24 : decode cX8_arrivesAtSwitch 24 = .ok (.iadd, 1) := by decide +kernel
theorem dX8_arrivesAtSwitch_25 : decode cX8_arrivesAtSwitch 25 = .ok (.dup2, 1) := by decide +kernel
theorem dX8_arrivesAtSwitch_26 : decode cX8_arrivesAtSwitch 26 = .ok (.iaload, 1) := by decide +kernel
theorem dX8_arrivesAtSwitch_27 : decode cX8_arrivesAtSwitch 27 = .ok (.iconst 1, 1) := by decide +kernel
theorem dX8_arrivesAtSwitch_28 : decode cX8_arrivesAtSwitch 28 = .ok (.iadd, 1) := by decide +kernel
theorem dX8_arrivesAtSwitch_29 : decode cX8_arrivesAtSwitch 29 = .ok (.iastore, 1) := by decide +kernel
theorem dX8_arrivesAtSwitch_30 : decode cX8_arrivesAtSwitch 30 = .ok (.return_, 1) := by decide +kernel
theorem dX8_arrivesAtSwitch_31 : decode cX8_arrivesAtSwitch 31 = .ok (.iload_n 2, 1) := by decide +kernel
theorem dX8_arrivesAtSwitch_32 : decode cX8_arrivesAtSwitch 32 = .ok (.bipush 6, 2) := by decide +kernel
theorem dX8_arrivesAtSwitch_34 : decode cX8_arrivesAtSwitch 34 = .ok (.if_icmp .ge 89, 3) := by decide +kernel
theorem dX8_arrivesAtSwitch_37 : decode cX8_arrivesAtSwitch 37 = .ok (.aload_n 0, 1) := by decide +kernel
theorem dX8_arrivesAtSwitch_38 : decode cX8_arrivesAtSwitch 38 = .ok (.iload_n 3, 1) := by decide +kernel
theorem dX8_arrivesAtSwitch_39 : decode cX8_arrivesAtSwitch 39 = .ok (.iconst 2, 1) := by decide +kernel
theorem dX8_arrivesAtSwitch_40 : decode cX8_arrivesAtSwitch 40 = .ok (.invokevirtual 221, 3) := by decide +kernel
theorem dX8_arrivesAtSwitch_43 : decode cX8_arrivesAtSwitch 43 = .ok (.aload_n 0, 1) := by decide +kernel
theorem dX8_arrivesAtSwitch_44 : decode cX8_arrivesAtSwitch 44 = .ok (.iload_n 3, 1) := by decide +kernel
theorem dX8_arrivesAtSwitch_45 : decode cX8_arrivesAtSwitch 45 = .ok (.iconst 1, 1) := by decide +kernel
theorem dX8_arrivesAtSwitch_46 : decode cX8_arrivesAtSwitch 46 = .ok (.invokevirtual 221, 3) := by decide +kernel
theorem dX8_arrivesAtSwitch_49 : decode cX8_arrivesAtSwitch 49 = .ok (.imul, 1) := by decide +kernel
theorem dX8_arrivesAtSwitch_50 : decode cX8_arrivesAtSwitch 50 = .ok (.istore 6, 2) := by decide +kernel
theorem dX8_arrivesAtSwitch_52 : decode cX8_arrivesAtSwitch 52 = .ok (.bipush 41, 2) := by decide +kernel
theorem dX8_arrivesAtSwitch_54 : decode cX8_arrivesAtSwitch 54 = .ok (.bipush 8, 2) := by decide +kernel
theorem dX8_arrivesAtSwitch_56 : decode cX8_arrivesAtSwitch 56 = .ok (.iload_n 1, 1) := by decide +kernel
theorem dX8_arrivesAtSwitch_57 : decode cX8_arrivesAtSwitch 57 = .ok (.imul, 1) := by decide +kernel
theorem dX8_arrivesAtSwitch_58 : decode cX8_arrivesAtSwitch 58 = .ok (.iadd, 1) := by decide +kernel
theorem dX8_arrivesAtSwitch_59 : decode cX8_arrivesAtSwitch 59 = .ok (.iload_n 3, 1) := by decide +kernel
theorem dX8_arrivesAtSwitch_60 : decode cX8_arrivesAtSwitch 60 = .ok (.iadd, 1) := by decide +kernel
theorem dX8_arrivesAtSwitch_61 : decode cX8_arrivesAtSwitch 61 = .ok (.istore 7, 2) := by decide +kernel
theorem dX8_arrivesAtSwitch_63 : decode cX8_arrivesAtSwitch 63 = .ok (.iload 6, 2) := by decide +kernel
theorem dX8_arrivesAtSwitch_65 : decode cX8_arrivesAtSwitch 65 = .ok (.aload_n 0, 1) := by decide +kernel
theorem dX8_arrivesAtSwitch_66 : decode cX8_arrivesAtSwitch 66 = .ok (.getfield 42, 3) := by decide +kernel
theorem dX8_arrivesAtSwitch_69 : decode cX8_arrivesAtSwitch 69 = .ok (.iload 7, 2) := by decide +kernel
theorem dX8_arrivesAtSwitch_71 : decode cX8_arrivesAtSwitch 71 = .ok (.iaload, 1) := by decide +kernel
theorem dX8_arrivesAtSwitch_72 : decode cX8_arrivesAtSwitch 72 = .ok (.if_icmp .le 39, 3) := by decide +kernel
theorem dX8_arrivesAtSwitch_75 : decode cX8_arrivesAtSwitch 75 = .ok (.aload_n 0, 1) := by decide +kernel
theorem dX8_arrivesAtSwitch_76 : decode cX8_arrivesAtSwitch 76 = .ok (.getfield 42, 3) := by decide +kernel
theorem dX8_arrivesAtSwitch_79 : decode cX8_arrivesAtSwitch 79 = .ok (.bipush 73, 2) := by decide +kernel
theorem dX8_arrivesAtSwitch_81 : decode cX8_arrivesAtSwitch 81 = .ok (.iconst 3, 1) := by decide +kernel
theorem dX8_arrivesAtSwitch_82 : decode cX8_arrivesAtSwitch 82 = .ok (.iload_n 1, 1) := by decide +kernel
theorem dX8_arrivesAtSwitch_83 : decode cX8_arrivesAtSwitch 83 = .ok (.imul, 1) := by decide +kernel
theorem dX8_arrivesAtSwitch_84 : decode cX8_arrivesAtSwitch 84 = .ok (.iadd, 1) := by decide +kernel
theorem dX8_arrivesAtSwitch_85 : decode cX8_arrivesAtSwitch 85 = .ok (.iconst 2, 1) := by decide +kernel
theorem dX8_arrivesAtSwitch_86 : decode cX8_arrivesAtSwitch 86 = .ok (.iadd, 1) := by decide +kernel
theorem dX8_arrivesAtSwitch_87 : decode cX8_arrivesAtSwitch 87 = .ok (.dup2, 1) := by decide +kernel
theorem dX8_arrivesAtSwitch_88 : decode cX8_arrivesAtSwitch 88 = .ok (.iaload, 1) := by decide +kernel
theorem dX8_arrivesAtSwitch_89 : decode cX8_arrivesAtSwitch 89 = .ok (.iconst 1, 1) := by decide +kernel
theorem dX8_arrivesAtSwitch_90 : decode cX8_arrivesAtSwitch 90 = .ok (.iadd, 1) := by decide +kernel
theorem dX8_arrivesAtSwitch_91 : decode cX8_arrivesAtSwitch 91 = .ok (.iastore, 1) := by decide +kernel
theorem dX8_arrivesAtSwitch_92 : decode cX8_arrivesAtSwitch 92 = .ok (.aload_n 0, 1) := by decide +kernel
theorem dX8_arrivesAtSwitch_93 : decode cX8_arrivesAtSwitch 93 = .ok (.getfield 42, 3) := by decide +kernel
theorem dX8_arrivesAtSwitch_96 : decode cX8_arrivesAtSwitch 96 = .ok (.bipush 57, 2) := by decide +kernel
theorem dX8_arrivesAtSwitch_98 : decode cX8_arrivesAtSwitch 98 = .ok (.bipush 8, 2) := by decide +kernel
theorem dX8_arrivesAtSwitch_100 : decode cX8_arrivesAtSwitch 100 = .ok (.iload_n 1, 1) := by decide +kernel
theorem dX8_arrivesAtSwitch_101 : decode cX8_arrivesAtSwitch 101 = .ok (.imul, 1) := by decide +kernel
theorem dX8_arrivesAtSwitch_102 : decode cX8_arrivesAtSwitch 102 = .ok (.iadd, 1) := by decide +kernel
theorem dX8_arrivesAtSwitch_103 : decode cX8_arrivesAtSwitch 103 = .ok (.iload_n 3, 1) := by decide +kernel
theorem dX8_arrivesAtSwitch_104 : decode cX8_arrivesAtSwitch 104 = .ok (.iadd, 1) := by decide +kernel
theorem dX8_arrivesAtSwitch_105 : decode cX8_arrivesAtSwitch 105 = .ok (.dup2, 1) := by decide +kernel
theorem dX8_arrivesAtSwitch_106 : decode cX8_arrivesAtSwitch 106 = .ok (.iaload, 1) := by decide +kernel
theorem dX8_arrivesAtSwitch_107 : decode cX8_arrivesAtSwitch 107 = .ok (.iconst 1, 1) := by decide +kernel
theorem dX8_arrivesAtSwitch_108 : decode cX8_arrivesAtSwitch 108 = .ok (.iadd, 1) := by decide +kernel
theorem dX8_arrivesAtSwitch_109 : decode cX8_arrivesAtSwitch 109 = .ok (.iastore, 1) := by decide +kernel
theorem dX8_arrivesAtSwitch_110 : decode cX8_arrivesAtSwitch 110 = .ok (.return_, 1) := by decide +kernel
theorem dX8_arrivesAtSwitch_111 : decode cX8_arrivesAtSwitch 111 = .ok (.aload_n 0, 1) := by decide +kernel
theorem dX8_arrivesAtSwitch_112 : decode cX8_arrivesAtSwitch 112 = .ok (.getfield 42, 3) := by decide +kernel
theorem dX8_arrivesAtSwitch_115 : decode cX8_arrivesAtSwitch 115 = .ok (.iload 7, 2) := by decide +kernel
theorem dX8_arrivesAtSwitch_117 : decode cX8_arrivesAtSwitch 117 = .ok (.dup2, 1) := by decide +kernel
theorem dX8_arrivesAtSwitch_118 : decode cX8_arrivesAtSwitch 118 = .ok (.iaload, 1) := by decide +kernel
theorem dX8_arrivesAtSwitch_119 : decode cX8_arrivesAtSwitch 119 = .ok (.iload 6, 2) := by decide +kernel
theorem dX8_arrivesAtSwitch_121 : decode cX8_arrivesAtSwitch 121 = .ok (.isub, 1) := by decide +kernel
theorem dX8_arrivesAtSwitch_122 : decode cX8_arrivesAtSwitch 122 = .ok (.iastore, 1) := by decide +kernel
theorem dX8_arrivesAtSwitch_123 : decode cX8_arrivesAtSwitch 123 = .ok (.aload_n 0, 1) := by decide +kernel
theorem dX8_arrivesAtSwitch_124 : decode cX8_arrivesAtSwitch 124 = .ok (.iload_n 2, 1) := by decide +kernel
theorem dX8_arrivesAtSwitch_125 : decode cX8_arrivesAtSwitch 125 = .ok (.invokevirtual 265, 3) := by decide +kernel
theorem dX8_arrivesAtSwitch_128 : decode cX8_arrivesAtSwitch 128 = .ok (.istore 6, 2) := by decide +kernel
theorem dX8_arrivesAtSwitch_130 : decode cX8_arrivesAtSwitch 130 = .ok (.bipush 6, 2) := by decide +kernel
theorem dX8_arrivesAtSwitch_132 : decode cX8_arrivesAtSwitch 132 = .ok (.istore 7, 2) := by decide +kernel
theorem dX8_arrivesAtSwitch_134 : decode cX8_arrivesAtSwitch 134 = .ok (.iload 7, 2) := by decide +kernel
theorem dX8_arrivesAtSwitch_136 : decode cX8_arrivesAtSwitch 136 = .ok (.bipush 16, 2) := by decide +kernel
theorem dX8_arrivesAtSwitch_138 : decode cX8_arrivesAtSwitch 138 = .ok (.if_icmp .ge 85, 3) := by decide +kernel
theorem dX8_arrivesAtSwitch_141 : decode cX8_arrivesAtSwitch 141 = .ok (.iload_n 2, 1) := by decide +kernel
theorem dX8_arrivesAtSwitch_142 : decode cX8_arrivesAtSwitch 142 = .ok (.bipush 12, 2) := by decide +kernel
theorem dX8_arrivesAtSwitch_144 : decode cX8_arrivesAtSwitch 144 = .ok (.if_icmp .lt 40, 3) := by decide +kernel
theorem dX8_arrivesAtSwitch_147 : decode cX8_arrivesAtSwitch 147 = .ok (.iload 7, 2) := by decide +kernel
theorem dX8_arrivesAtSwitch_149 : decode cX8_arrivesAtSwitch 149 = .ok (.bipush 12, 2) := by decide +kernel
theorem dX8_arrivesAtSwitch_151 : decode cX8_arrivesAtSwitch 151 = .ok (.if_icmp .lt 33, 3) := by decide +kernel
theorem dX8_arrivesAtSwitch_154 : decode cX8_arrivesAtSwitch 154 = .ok (.iload 7, 2) := by decide +kernel
theorem dX8_arrivesAtSwitch_156 : decode cX8_arrivesAtSwitch 156 = .ok (.bipush 14, 2) := by decide +kernel
theorem dX8_arrivesAtSwitch_158 : decode cX8_arrivesAtSwitch 158 = .ok (.if_icmp .ge 7, 3) := by decide +kernel
theorem dX8_arrivesAtSwitch_161 : decode cX8_arrivesAtSwitch 161 = .ok (.iconst 1, 1) := by decide +kernel
theorem dX8_arrivesAtSwitch_162 : decode cX8_arrivesAtSwitch 162 = .ok (.goto 4, 3) := by decide +kernel
theorem dX8_arrivesAtSwitch_165 : decode cX8_arrivesAtSwitch 165 = .ok (.iconst 0, 1) := by decide +kernel
theorem dX8_arrivesAtSwitch_166 : decode cX8_arrivesAtSwitch 166 = .ok (.iload_n 2, 1) := by decide +kernel
theorem dX8_arrivesAtSwitch_167 : decode cX8_arrivesAtSwitch 167 = .ok (.bipush 14, 2) := by decide +kernel
theorem dX8_arrivesAtSwitch_169 : decode cX8_arrivesAtSwitch 169 = .ok (.if_icmp .ge 7, 3) := by decide +kernel
theorem dX8_arrivesAtSwitch_172 : decode cX8_arrivesAtSwitch 172 = .ok (.iconst 1, 1) := by decide +kernel
theorem dX8_arrivesAtSwitch_173 : decode cX8_arrivesAtSwitch 173 = .ok (.goto 4, 3) := by decide +kernel
theorem dX8_arrivesAtSwitch_176 : decode cX8_arrivesAtSwitch 176 = .ok (.iconst 0, 1) := by decide +kernel
theorem dX8_arrivesAtSwitch_177 : decode cX8_arrivesAtSwitch 177 = .ok (.if_icmp .eq 7, 3) := by decide +kernel
theorem dX8_arrivesAtSwitch_180 : decode cX8_arrivesAtSwitch 180 = .ok (.iconst 1, 1) := by decide +kernel
theorem dX8_arrivesAtSwitch_181 : decode cX8_arrivesAtSwitch 181 = .ok (.goto 4, 3) := by decide +kernel
theorem dX8_arrivesAtSwitch_184 : decode cX8_arrivesAtSwitch 184 = .ok (.iconst 0, 1) := by decide +kernel
theorem dX8_arrivesAtSwitch_185 : decode cX8_arrivesAtSwitch 185 = .ok (.istore 8, 2) := by decide +kernel
theorem dX8_arrivesAtSwitch_187 : decode cX8_arrivesAtSwitch 187 = .ok (.iload 8, 2) := by decide +kernel
theorem dX8_arrivesAtSwitch_189 : decode cX8_arrivesAtSwitch 189 = .ok (.ifCond .ne 28, 3) := by decide +kernel
theorem dX8_arrivesAtSwitch_192 : decode cX8_arrivesAtSwitch 192 = .ok (.aload_n 0, 1) := by decide +kernel
theorem dX8_arrivesAtSwitch_193 : decode cX8_arrivesAtSwitch 193 = .ok (.iload_n 3, 1) := by decide +kernel
theorem dX8_arrivesAtSwitch_194 : decode cX8_arrivesAtSwitch 194 = .ok (.iload 6, 2) := by decide +kernel
theorem dX8_arrivesAtSwitch_196 : decode cX8_arrivesAtSwitch 196 = .ok (.iload 7, 2) := by decide +kernel
theorem dX8_arrivesAtSwitch_198 : decode cX8_arrivesAtSwitch 198 = .ok (.invokevirtual 268, 3) := by decide +kernel
theorem dX8_arrivesAtSwitch_201 : decode cX8_arrivesAtSwitch 201 = .ok (.ifCond .eq 16, 3) := by decide +kernel
theorem dX8_arrivesAtSwitch_204 : decode cX8_arrivesAtSwitch 204 = .ok (.aload_n 0, 1) := by decide +kernel
theorem dX8_arrivesAtSwitch_205 : decode cX8_arrivesAtSwitch 205 = .ok (.iload_n 1, 1) := by decide +kernel
theorem dX8_arrivesAtSwitch_206 : decode cX8_arrivesAtSwitch 206 = .ok (.iload 7, 2) := by decide +kernel
theorem dX8_arrivesAtSwitch_208 : decode cX8_arrivesAtSwitch 208 = .ok (.iload_n 3, 1) := by decide +kernel
theorem dX8_arrivesAtSwitch_209 : decode cX8_arrivesAtSwitch 209 = .ok (.iload 4, 2) := by decide +kernel
theorem dX8_arrivesAtSwitch_211 : decode cX8_arrivesAtSwitch 211 = .ok (.iload 5, 2) := by decide +kernel
theorem dX8_arrivesAtSwitch_213 : decode cX8_arrivesAtSwitch 213 = .ok (.invokevirtual 258, 3) := by decide +kernel
theorem dX8_arrivesAtSwitch_216 : decode cX8_arrivesAtSwitch 216 = .ok (.pop, 1) := by decide +kernel
theorem dX8_arrivesAtSwitch_217 : decode cX8_arrivesAtSwitch 217 = .ok (.iinc 7 1, 3) := by decide +kernel
theorem dX8_arrivesAtSwitch_220 : decode cX8_arrivesAtSwitch 220 = .ok (.goto (-86), 3) := by decide +kernel
theorem dX8_arrivesAtSwitch_223 : decode cX8_arrivesAtSwitch 223 = .ok (.return_, 1) := by decide +kernel
theorem dX8_isWhole_0 : decode cX8_isWhole 0 = .ok (.aload_n 0, 1) := by decide +kernel
theorem dX8_isWhole_1 : decode cX8_isWhole 1 = .ok (.getfield 42, 3) := by decide +kernel
theorem dX8_isWhole_4 : decode cX8_isWhole 4 = .ok (.iload_n 1, 1) := by decide +kernel
theorem dX8_isWhole_5 : decode cX8_isWhole 5 = .ok (.bipush 8, 2) := by decide +kernel
theorem dX8_isWhole_7 : decode cX8_isWhole 7 = .ok (.iadd, 1) := by decide +kernel
theorem dX8_isWhole_8 : decode cX8_isWhole 8 = .ok (.iload_n 2, 1) := by decide +kernel
theorem dX8_isWhole_9 : decode cX8_isWhole 9 = .ok (.iadd, 1) := by decide +kernel
theorem dX8_isWhole_10 : decode cX8_isWhole 10 = .ok (.iaload, 1) := by decide +kernel
theorem dX8_isWhole_11 : decode cX8_isWhole 11 = .ok (.istore 4, 2) := by decide +kernel
theorem dX8_isWhole_13 : decode cX8_isWhole 13 = .ok (.iload 4, 2) := by decide +kernel
theorem dX8_isWhole_15 : decode cX8_isWhole 15 = .ok (.bipush (-2), 2) := by decide +kernel
theorem dX8_isWhole_17 : decode cX8_isWhole 17 = .ok (.if_icmp .eq 28, 3) := by decide +kernel
theorem dX8_isWhole_20 : decode cX8_isWhole 20 = .ok (.iload_n 3, 1) := by decide +kernel
theorem dX8_isWhole_21 : decode cX8_isWhole 21 = .ok (.ifCond .eq 24, 3) := by decide +kernel
theorem dX8_isWhole_24 : decode cX8_isWhole 24 = .ok (.iload_n 3, 1) := by decide +kernel
theorem dX8_isWhole_25 : decode cX8_isWhole 25 = .ok (.iload 4, 2) := by decide +kernel
theorem dX8_isWhole_27 : decode cX8_isWhole 27 = .ok (.invokestatic 262, 3) := by decide +kernel
theorem dX8_isWhole_30 : decode cX8_isWhole 30 = .ok (.if_icmp .eq 15, 3) := by decide +kernel
theorem dX8_isWhole_33 : decode cX8_isWhole 33 = .ok (.iload_n 3, 1) := by decide +kernel
theorem dX8_isWhole_34 : decode cX8_isWhole 34 = .ok (.iload 4, 2) := by decide +kernel
theorem dX8_isWhole_36 : decode cX8_isWhole 36 = .ok (.invokestatic 262, 3) := by decide +kernel
theorem dX8_isWhole_39 : decode cX8_isWhole 39 = .ok (.invokestatic 262, 3) := by decide +kernel
theorem dX8_isWhole_42 : decode cX8_isWhole 42 = .ok (.if_icmp .ne 7, 3) := by decide +kernel
theorem dX8_isWhole_45 : decode cX8_isWhole 45 = .ok (.iconst 1, 1) := by decide +kernel
theorem dX8_isWhole_46 : decode cX8_isWhole 46 = .ok (.goto 4, 3) := by decide +kernel
theorem dX8_isWhole_49 : decode cX8_isWhole 49 = .ok (.iconst 0, 1) := by decide +kernel
theorem dX8_isWhole_50 : decode cX8_isWhole 50 = .ok (.ireturn, 1) := by decide +kernel
theorem dX8_ahead_0 : decode cX8_ahead 0 = .ok (.iload_n 1, 1) := by decide +kernel
theorem dX8_ahead_1 : decode cX8_ahead 1 = .ok (.ifCond .ne 7, 3) := by decide +kernel
theorem dX8_ahead_4 : decode cX8_ahead 4 = .ok (.iconst 0, 1) := by decide +kernel
theorem dX8_ahead_5 : decode cX8_ahead 5 = .ok (.goto 22, 3) := by decide +kernel
theorem dX8_ahead_8 : decode cX8_ahead 8 = .ok (.iload_n 0, 1) := by decide +kernel
theorem dX8_ahead_9 : decode cX8_ahead 9 = .ok (.ifCond .ne 7, 3) := by decide +kernel
theorem dX8_ahead_12 : decode cX8_ahead 12 = .ok (.iload_n 1, 1) := by decide +kernel
theorem dX8_ahead_13 : decode cX8_ahead 13 = .ok (.goto 14, 3) := by decide +kernel
theorem dX8_ahead_16 : decode cX8_ahead 16 = .ok (.iload_n 1, 1) := by decide +kernel
theorem dX8_ahead_17 : decode cX8_ahead 17 = .ok (.iload_n 0, 1) := by decide +kernel
theorem dX8_ahead_18 : decode cX8_ahead 18 = .ok (.isub, 1) := by decide +kernel
theorem dX8_ahead_19 : decode cX8_ahead 19 = .ok (.sipush 255, 3) := by decide +kernel
theorem dX8_ahead_22 : decode cX8_ahead 22 = .ok (.iadd, 1) := by decide +kernel
theorem dX8_ahead_23 : decode cX8_ahead 23 = .ok (.sipush 255, 3) := by decide +kernel
theorem dX8_ahead_26 : decode cX8_ahead 26 = .ok (.irem, 1) := by decide +kernel
theorem dX8_ahead_27 : decode cX8_ahead 27 = .ok (.ireturn, 1) := by decide +kernel
theorem dX8_isTaken_0 : decode cX8_isTaken 0 = .ok (.aload_n 0, 1) := by decide +kernel
theorem dX8_isTaken_1 : decode cX8_isTaken 1 = .ok (.getfield 42, 3) := by decide +kernel
theorem dX8_isTaken_4 : decode cX8_isTaken 4 = .ok (.iload_n 1, 1) := by decide +kernel
theorem dX8_isTaken_5 : decode cX8_isTaken 5 = .ok (.iconst 3, 1) := by decide +kernel
theorem dX8_isTaken_6 : decode cX8_isTaken 6 = .ok (.iadd, 1) := by decide +kernel
theorem dX8_isTaken_7 : decode cX8_isTaken 7 = .ok (.iaload, 1) := by decide +kernel
theorem dX8_isTaken_8 : decode cX8_isTaken 8 = .ok (.istore_n 3, 1) := by decide +kernel
theorem dX8_isTaken_9 : decode cX8_isTaken 9 = .ok (.aload_n 0, 1) := by decide +kernel
theorem dX8_isTaken_10 : decode cX8_isTaken 10 = .ok (.getfield 42, 3) := by decide +kernel
theorem dX8_isTaken_13 : decode cX8_isTaken 13 = .ok (.iload_n 1, 1) := by decide +kernel
theorem dX8_isTaken_14 : decode cX8_isTaken 14 = .ok (.iconst 0, 1) := by decide +kernel
theorem dX8_isTaken_15 : decode cX8_isTaken 15 = .ok (.iadd, 1) := by decide +kernel
theorem dX8_isTaken_16 : decode cX8_isTaken 16 = .ok (.iaload, 1) := by decide +kernel
theorem dX8_isTaken_17 : decode cX8_isTaken 17 = .ok (.ifCond .eq 35, 3) := by decide +kernel
theorem dX8_isTaken_20 : decode cX8_isTaken 20 = .ok (.aload_n 0, 1) := by decide +kernel
theorem dX8_isTaken_21 : decode cX8_isTaken 21 = .ok (.getfield 42, 3) := by decide +kernel
theorem dX8_isTaken_24 : decode cX8_isTaken 24 = .ok (.iconst 0, 1) := by decide +kernel
theorem dX8_isTaken_25 : decode cX8_isTaken 25 = .ok (.iaload, 1) := by decide +kernel
theorem dX8_isTaken_26 : decode cX8_isTaken 26 = .ok (.aload_n 0, 1) := by decide +kernel
theorem dX8_isTaken_27 : decode cX8_isTaken 27 = .ok (.getfield 42, 3) := by decide +kernel
theorem dX8_isTaken_30 : decode cX8_isTaken 30 = .ok (.iload_n 1, 1) := by decide +kernel
theorem dX8_isTaken_31 : decode cX8_isTaken 31 = .ok (.iconst 4, 1) := by decide +kernel
theorem dX8_isTaken_32 : decode cX8_isTaken 32 = .ok (.iadd, 1) := by decide +kernel
theorem dX8_isTaken_33 : decode cX8_isTaken 33 = .ok (.iaload, 1) := by decide +kernel
theorem dX8_isTaken_34 : decode cX8_isTaken 34 = .ok (.isub, 1) := by decide +kernel
theorem dX8_isTaken_35 : decode cX8_isTaken 35 = .ok (.aload_n 0, 1) := by decide +kernel
theorem dX8_isTaken_36 : decode cX8_isTaken 36 = .ok (.getfield 17, 3) := by decide +kernel
theorem dX8_isTaken_39 : decode cX8_isTaken 39 = .ok (.iconst 4, 1) := by decide +kernel
theorem dX8_isTaken_40 : decode cX8_isTaken 40 = .ok (.iaload, 1) := by decide +kernel
theorem dX8_isTaken_41 : decode cX8_isTaken 41 = .ok (.if_icmp .gt 11, 3) := by decide +kernel
theorem dX8_isTaken_44 : decode cX8_isTaken 44 = .ok (.iload_n 2, 1) := by decide +kernel
theorem dX8_isTaken_45 : decode cX8_isTaken 45 = .ok (.ifCond .ne 9, 3) := by decide +kernel
theorem dX8_isTaken_48 : decode cX8_isTaken 48 = .ok (.iload_n 3, 1) := by decide +kernel
theorem dX8_isTaken_49 : decode cX8_isTaken 49 = .ok (.ifCond .eq 5, 3) := by decide +kernel
theorem dX8_isTaken_52 : decode cX8_isTaken 52 = .ok (.iconst 1, 1) := by decide +kernel
theorem dX8_isTaken_53 : decode cX8_isTaken 53 = .ok (.ireturn, 1) := by decide +kernel
theorem dX8_isTaken_54 : decode cX8_isTaken 54 = .ok (.iload_n 3, 1) := by decide +kernel
theorem dX8_isTaken_55 : decode cX8_isTaken 55 = .ok (.iload_n 2, 1) := by decide +kernel
theorem dX8_isTaken_56 : decode cX8_isTaken 56 = .ok (.invokestatic 271, 3) := by decide +kernel
theorem dX8_isTaken_59 : decode cX8_isTaken 59 = .ok (.iconst 1, 1) := by decide +kernel
theorem dX8_isTaken_60 : decode cX8_isTaken 60 = .ok (.aload_n 0, 1) := by decide +kernel
theorem dX8_isTaken_61 : decode cX8_isTaken 61 = .ok (.getfield 17, 3) := by decide +kernel
theorem dX8_isTaken_64 : decode cX8_isTaken 64 = .ok (.iconst 3, 1) := by decide +kernel
theorem dX8_isTaken_65 : decode cX8_isTaken 65 = .ok (.iaload, 1) := by decide +kernel
theorem dX8_isTaken_66 : decode cX8_isTaken 66 = .ok (.invokestatic 80, 3) := by decide +kernel
theorem dX8_isTaken_69 : decode cX8_isTaken 69 = .ok (.ireturn, 1) := by decide +kernel
theorem dX8_takes_0 : decode cX8_takes 0 = .ok (.aload_n 0, 1) := by decide +kernel
theorem dX8_takes_1 : decode cX8_takes 1 = .ok (.getfield 42, 3) := by decide +kernel
theorem dX8_takes_4 : decode cX8_takes 4 = .ok (.iconst 0, 1) := by decide +kernel
theorem dX8_takes_5 : decode cX8_takes 5 = .ok (.iaload, 1) := by decide +kernel
theorem dX8_takes_6 : decode cX8_takes 6 = .ok (.iload 4, 2) := by decide +kernel
theorem dX8_takes_8 : decode cX8_takes 8 = .ok (.isub, 1) := by decide +kernel
theorem dX8_takes_9 : decode cX8_takes 9 = .ok (.istore 5, 2) := by decide +kernel
theorem dX8_takes_11 : decode cX8_takes 11 = .ok (.aload_n 0, 1) := by decide +kernel
theorem dX8_takes_12 : decode cX8_takes 12 = .ok (.getfield 42, 3) := by decide +kernel
theorem dX8_takes_15 : decode cX8_takes 15 = .ok (.iload_n 1, 1) := by decide +kernel
theorem dX8_takes_16 : decode cX8_takes 16 = .ok (.iconst 0, 1) := by decide +kernel
theorem dX8_takes_17 : decode cX8_takes 17 = .ok (.iadd, 1) := by decide +kernel
theorem dX8_takes_18 : decode cX8_takes 18 = .ok (.dup2, 1) := by decide +kernel
theorem dX8_takes_19 : decode cX8_takes 19 = .ok (.iaload, 1) := by decide +kernel
theorem dX8_takes_20 : decode cX8_takes 20 = .ok (.iconst 1, 1) := by decide +kernel
theorem dX8_takes_21 : decode cX8_takes 21 = .ok (.iadd, 1) := by decide +kernel
theorem dX8_takes_22 : decode cX8_takes 22 = .ok (.iastore, 1) := by decide +kernel
theorem dX8_takes_23 : decode cX8_takes 23 = .ok (.aload_n 0, 1) := by decide +kernel
theorem dX8_takes_24 : decode cX8_takes 24 = .ok (.getfield 42, 3) := by decide +kernel
theorem dX8_takes_27 : decode cX8_takes 27 = .ok (.iload_n 1, 1) := by decide +kernel
theorem dX8_takes_28 : decode cX8_takes 28 = .ok (.iconst 3, 1) := by decide +kernel
theorem dX8_takes_29 : decode cX8_takes 29 = .ok (.iadd, 1) := by decide +kernel
theorem dX8_takes_30 : decode cX8_takes 30 = .ok (.iload_n 3, 1) := by decide +kernel
theorem dX8_takes_31 : decode cX8_takes 31 = .ok (.iastore, 1) := by decide +kernel
theorem dX8_takes_32 : decode cX8_takes 32 = .ok (.aload_n 0, 1) := by decide +kernel
theorem dX8_takes_33 : decode cX8_takes 33 = .ok (.getfield 42, 3) := by decide +kernel
theorem dX8_takes_36 : decode cX8_takes 36 = .ok (.iload_n 1, 1) := by decide +kernel
theorem dX8_takes_37 : decode cX8_takes 37 = .ok (.iconst 4, 1) := by decide +kernel
theorem dX8_takes_38 : decode cX8_takes 38 = .ok (.iadd, 1) := by decide +kernel
theorem dX8_takes_39 : decode cX8_takes 39 = .ok (.aload_n 0, 1) := by decide +kernel
theorem dX8_takes_40 : decode cX8_takes 40 = .ok (.getfield 42, 3) := by decide +kernel
theorem dX8_takes_43 : decode cX8_takes 43 = .ok (.iconst 0, 1) := by decide +kernel
theorem dX8_takes_44 : decode cX8_takes 44 = .ok (.iaload, 1) := by decide +kernel
theorem dX8_takes_45 : decode cX8_takes 45 = .ok (.iastore, 1) := by decide +kernel
theorem dX8_takes_46 : decode cX8_takes 46 = .ok (.aload_n 0, 1) := by decide +kernel
theorem dX8_takes_47 : decode cX8_takes 47 = .ok (.getfield 42, 3) := by decide +kernel
theorem dX8_takes_50 : decode cX8_takes 50 = .ok (.iload_n 1, 1) := by decide +kernel
theorem dX8_takes_51 : decode cX8_takes 51 = .ok (.iconst 5, 1) := by decide +kernel
theorem dX8_takes_52 : decode cX8_takes 52 = .ok (.iadd, 1) := by decide +kernel
theorem dX8_takes_53 : decode cX8_takes 53 = .ok (.iload_n 2, 1) := by decide +kernel
theorem dX8_takes_54 : decode cX8_takes 54 = .ok (.iastore, 1) := by decide +kernel
theorem dX8_takes_55 : decode cX8_takes 55 = .ok (.aload_n 0, 1) := by decide +kernel
theorem dX8_takes_56 : decode cX8_takes 56 = .ok (.getfield 42, 3) := by decide +kernel
theorem dX8_takes_59 : decode cX8_takes 59 = .ok (.iload_n 1, 1) := by decide +kernel
theorem dX8_takes_60 : decode cX8_takes 60 = .ok (.bipush 6, 2) := by decide +kernel
theorem dX8_takes_62 : decode cX8_takes 62 = .ok (.iadd, 1) := by decide +kernel
theorem dX8_takes_63 : decode cX8_takes 63 = .ok (.aload_n 0, 1) := by decide +kernel
theorem dX8_takes_64 : decode cX8_takes 64 = .ok (.getfield 42, 3) := by decide +kernel
theorem dX8_takes_67 : decode cX8_takes 67 = .ok (.iload_n 1, 1) := by decide +kernel
theorem dX8_takes_68 : decode cX8_takes 68 = .ok (.bipush 6, 2) := by decide +kernel
theorem dX8_takes_70 : decode cX8_takes 70 = .ok (.iadd, 1) := by decide +kernel
theorem dX8_takes_71 : decode cX8_takes 71 = .ok (.iaload, 1) := by decide +kernel
theorem dX8_takes_72 : decode cX8_takes 72 = .ok (.bipush (-2), 2) := by decide +kernel
theorem dX8_takes_74 : decode cX8_takes 74 = .ok (.if_icmp .eq 17, 3) := by decide +kernel
theorem dX8_takes_77 : decode cX8_takes 77 = .ok (.iload 5, 2) := by decide +kernel
theorem dX8_takes_79 : decode cX8_takes 79 = .ok (.aload_n 0, 1) := by decide +kernel
theorem dX8_takes_80 : decode cX8_takes 80 = .ok (.getfield 42, 3) := by decide +kernel
theorem dX8_takes_83 : decode cX8_takes 83 = .ok (.iload_n 1, 1) := by decide +kernel
theorem dX8_takes_84 : decode cX8_takes 84 = .ok (.bipush 6, 2) := by decide +kernel
theorem dX8_takes_86 : decode cX8_takes 86 = .ok (.iadd, 1) := by decide +kernel
theorem dX8_takes_87 : decode cX8_takes 87 = .ok (.iaload, 1) := by decide +kernel
theorem dX8_takes_88 : decode cX8_takes 88 = .ok (.if_icmp .le 8, 3) := by decide +kernel
theorem dX8_takes_91 : decode cX8_takes 91 = .ok (.iload 5, 2) := by decide +kernel
theorem dX8_takes_93 : decode cX8_takes 93 = .ok (.goto 12, 3) := by decide +kernel
theorem dX8_takes_96 : decode cX8_takes 96 = .ok (.aload_n 0, 1) := by decide +kernel
theorem dX8_takes_97 : decode cX8_takes 97 = .ok (.getfield 42, 3) := by decide +kernel
theorem dX8_takes_100 : decode cX8_takes 100 = .ok (.iload_n 1, 1) := by decide +kernel
theorem dX8_takes_101 : decode cX8_takes 101 = .ok (.bipush 6, 2) := by decide +kernel
theorem dX8_takes_103 : decode cX8_takes 103 = .ok (.iadd, 1) := by decide +kernel
theorem dX8_takes_104 : decode cX8_takes 104 = .ok (.iaload, 1) := by decide +kernel
theorem dX8_takes_105 : decode cX8_takes 105 = .ok (.iastore, 1) := by decide +kernel
theorem dX8_takes_106 : decode cX8_takes 106 = .ok (.aload_n 0, 1) := by decide +kernel
theorem dX8_takes_107 : decode cX8_takes 107 = .ok (.getfield 42, 3) := by decide +kernel
theorem dX8_takes_110 : decode cX8_takes 110 = .ok (.iload_n 1, 1) := by decide +kernel
theorem dX8_takes_111 : decode cX8_takes 111 = .ok (.bipush 7, 2) := by decide +kernel
theorem dX8_takes_113 : decode cX8_takes 113 = .ok (.iadd, 1) := by decide +kernel
theorem dX8_takes_114 : decode cX8_takes 114 = .ok (.aload_n 0, 1) := by decide +kernel
theorem dX8_takes_115 : decode cX8_takes 115 = .ok (.getfield 42, 3) := by decide +kernel
theorem dX8_takes_118 : decode cX8_takes 118 = .ok (.iload_n 1, 1) := by decide +kernel
theorem dX8_takes_119 : decode cX8_takes 119 = .ok (.bipush 7, 2) := by decide +kernel
theorem dX8_takes_121 : decode cX8_takes 121 = .ok (.iadd, 1) := by decide +kernel
theorem dX8_takes_122 : decode cX8_takes 122 = .ok (.iaload, 1) := by decide +kernel
theorem dX8_takes_123 : decode cX8_takes 123 = .ok (.bipush (-2), 2) := by decide +kernel
theorem dX8_takes_125 : decode cX8_takes 125 = .ok (.if_icmp .eq 17, 3) := by decide +kernel
theorem dX8_takes_128 : decode cX8_takes 128 = .ok (.iload 5, 2) := by decide +kernel
theorem dX8_takes_130 : decode cX8_takes 130 = .ok (.aload_n 0, 1) := by decide +kernel
theorem dX8_takes_131 : decode cX8_takes 131 = .ok (.getfield 42, 3) := by decide +kernel
theorem dX8_takes_134 : decode cX8_takes 134 = .ok (.iload_n 1, 1) := by decide +kernel
theorem dX8_takes_135 : decode cX8_takes 135 = .ok (.bipush 7, 2) := by decide +kernel
theorem dX8_takes_137 : decode cX8_takes 137 = .ok (.iadd, 1) := by decide +kernel
theorem dX8_takes_138 : decode cX8_takes 138 = .ok (.iaload, 1) := by decide +kernel
theorem dX8_takes_139 : decode cX8_takes 139 = .ok (.if_icmp .ge 8, 3) := by decide +kernel
theorem dX8_takes_142 : decode cX8_takes 142 = .ok (.iload 5, 2) := by decide +kernel
theorem dX8_takes_144 : decode cX8_takes 144 = .ok (.goto 12, 3) := by decide +kernel
theorem dX8_takes_147 : decode cX8_takes 147 = .ok (.aload_n 0, 1) := by decide +kernel
theorem dX8_takes_148 : decode cX8_takes 148 = .ok (.getfield 42, 3) := by decide +kernel
theorem dX8_takes_151 : decode cX8_takes 151 = .ok (.iload_n 1, 1) := by decide +kernel
theorem dX8_takes_152 : decode cX8_takes 152 = .ok (.bipush 7, 2) := by decide +kernel
theorem dX8_takes_154 : decode cX8_takes 154 = .ok (.iadd, 1) := by decide +kernel
theorem dX8_takes_155 : decode cX8_takes 155 = .ok (.iaload, 1) := by decide +kernel
theorem dX8_takes_156 : decode cX8_takes 156 = .ok (.iastore, 1) := by decide +kernel
theorem dX8_takes_157 : decode cX8_takes 157 = .ok (.bipush 9, 2) := by decide +kernel
theorem dX8_takes_159 : decode cX8_takes 159 = .ok (.istore 6, 2) := by decide +kernel
theorem dX8_takes_161 : decode cX8_takes 161 = .ok (.iload 6, 2) := by decide +kernel
theorem dX8_takes_163 : decode cX8_takes 163 = .ok (.ifCond .le 35, 3) := by decide +kernel
theorem dX8_takes_166 : decode cX8_takes 166 = .ok (.aload_n 0, 1) := by decide +kernel
theorem dX8_takes_167 : decode cX8_takes 167 = .ok (.getfield 42, 3) := by decide +kernel
theorem dX8_takes_170 : decode cX8_takes 170 = .ok (.iload_n 1, 1) := by decide +kernel
theorem dX8_takes_171 : decode cX8_takes 171 = .ok (.bipush 10, 2) := by decide +kernel
theorem dX8_takes_173 : decode cX8_takes 173 = .ok (.iadd, 1) := by decide +kernel
theorem dX8_takes_174 : decode cX8_takes 174 = .ok (.iload 6, 2) := by decide +kernel
theorem dX8_takes_176 : decode cX8_takes 176 = .ok (.iadd, 1) := by decide +kernel
theorem dX8_takes_177 : decode cX8_takes 177 = .ok (.aload_n 0, 1) := by decide +kernel
theorem dX8_takes_178 : decode cX8_takes 178 = .ok (.getfield 42, 3) := by decide +kernel
theorem dX8_takes_181 : decode cX8_takes 181 = .ok (.iload_n 1, 1) := by decide +kernel
theorem dX8_takes_182 : decode cX8_takes 182 = .ok (.bipush 10, 2) := by decide +kernel
theorem dX8_takes_184 : decode cX8_takes 184 = .ok (.iadd, 1) := by decide +kernel
theorem dX8_takes_185 : decode cX8_takes 185 = .ok (.iload 6, 2) := by decide +kernel
theorem dX8_takes_187 : decode cX8_takes 187 = .ok (.iadd, 1) := by decide +kernel
theorem dX8_takes_188 : decode cX8_takes 188 = .ok (.iconst 1, 1) := by decide +kernel
theorem dX8_takes_189 : decode cX8_takes 189 = .ok (.isub, 1) := by decide +kernel
theorem dX8_takes_190 : decode cX8_takes 190 = .ok (.iaload, 1) := by decide +kernel
theorem dX8_takes_191 : decode cX8_takes 191 = .ok (.iastore, 1) := by decide +kernel
theorem dX8_takes_192 : decode cX8_takes 192 = .ok (.iinc 6 (-1), 3) := by decide +kernel
theorem dX8_takes_195 : decode cX8_takes 195 = .ok (.goto (-34), 3) := by decide +kernel
theorem dX8_takes_198 : decode cX8_takes 198 = .ok (.aload_n 0, 1) := by decide +kernel
theorem dX8_takes_199 : decode cX8_takes 199 = .ok (.getfield 42, 3) := by decide +kernel
theorem dX8_takes_202 : decode cX8_takes 202 = .ok (.iload_n 1, 1) := by decide +kernel
theorem dX8_takes_203 : decode cX8_takes 203 = .ok (.bipush 10, 2) := by decide +kernel
theorem dX8_takes_205 : decode cX8_takes 205 = .ok (.iadd, 1) := by decide +kernel
theorem dX8_takes_206 : decode cX8_takes 206 = .ok (.iload_n 3, 1) := by decide +kernel
theorem dX8_takes_207 : decode cX8_takes 207 = .ok (.iastore, 1) := by decide +kernel
theorem dX8_takes_208 : decode cX8_takes 208 = .ok (.aload_n 0, 1) := by decide +kernel
theorem dX8_takes_209 : decode cX8_takes 209 = .ok (.dup, 1) := by decide +kernel
theorem dX8_takes_210 : decode cX8_takes 210 = .ok (.getfield 274, 3) := by decide +kernel
theorem dX8_takes_213 : decode cX8_takes 213 = .ok (.iconst 1, 1) := by decide +kernel
theorem dX8_takes_214 : decode cX8_takes 214 = .ok (.iadd, 1) := by decide +kernel
theorem dX8_takes_215 : decode cX8_takes 215 = .ok (.putfield 274, 3) := by decide +kernel
theorem dX8_takes_218 : decode cX8_takes 218 = .ok (.return_, 1) := by decide +kernel
theorem dX8_arrivesAtEnd_0 : decode cX8_arrivesAtEnd 0 = .ok (.iconst 0, 1) := by decide +kernel
theorem dX8_arrivesAtEnd_1 : decode cX8_arrivesAtEnd 1 = .ok (.istore 6, 2) := by decide +kernel
theorem dX8_arrivesAtEnd_3 : decode cX8_arrivesAtEnd 3 = .ok (.aload_n 0, 1) := by decide +kernel
theorem dX8_arrivesAtEnd_4 : decode cX8_arrivesAtEnd 4 = .ok (.iload_n 3, 1) := by decide +kernel
theorem dX8_arrivesAtEnd_5 : decode cX8_arrivesAtEnd 5 = .ok (.iload 6, 2) := by decide +kernel
theorem dX8_arrivesAtEnd_7 : decode cX8_arrivesAtEnd 7 = .ok (.invokevirtual 230, 3) := by decide +kernel
theorem dX8_arrivesAtEnd_10 : decode cX8_arrivesAtEnd 10 = .ok (.iload_n 2, 1) := by decide +kernel
theorem dX8_arrivesAtEnd_11 : decode cX8_arrivesAtEnd 11 = .ok (.if_icmp .eq 9, 3) := by decide +kernel
theorem dX8_arrivesAtEnd_14 : decode cX8_arrivesAtEnd 14 = .ok (.iinc 6 1, 3) := by decide +kernel
theorem dX8_arrivesAtEnd_17 : decode cX8_arrivesAtEnd 17 = .ok (.goto (-14), 3) := by decide +kernel
theorem dX8_arrivesAtEnd_20 : decode cX8_arrivesAtEnd 20 = .ok (.iload_n 3, 1) := by decide +kernel
theorem dX8_arrivesAtEnd_21 : decode cX8_arrivesAtEnd 21 = .ok (.iload 6, 2) := by decide +kernel
theorem dX8_arrivesAtEnd_23 : decode cX8_arrivesAtEnd 23 = .ok (.invokestatic 252, 3) := by decide +kernel
theorem dX8_arrivesAtEnd_26 : decode cX8_arrivesAtEnd 26 = .ok (.istore 7, 2) := by decide +kernel
theorem dX8_arrivesAtEnd_28 : decode cX8_arrivesAtEnd 28 = .ok (.aload_n 0, 1) := by decide +kernel
theorem dX8_arrivesAtEnd_29 : decode cX8_arrivesAtEnd 29 = .ok (.iload 7, 2) := by decide +kernel
theorem dX8_arrivesAtEnd_31 : decode cX8_arrivesAtEnd 31 = .ok (.iload_n 1, 1) := by decide +kernel
theorem dX8_arrivesAtEnd_32 : decode cX8_arrivesAtEnd 32 = .ok (.iload 4, 2) := by decide +kernel
theorem dX8_arrivesAtEnd_34 : decode cX8_arrivesAtEnd 34 = .ok (.invokevirtual 277, 3) := by decide +kernel
theorem dX8_arrivesAtEnd_37 : decode cX8_arrivesAtEnd 37 = .ok (.istore 8, 2) := by decide +kernel
theorem dX8_arrivesAtEnd_39 : decode cX8_arrivesAtEnd 39 = .ok (.aload_n 0, 1) := by decide +kernel
theorem dX8_arrivesAtEnd_40 : decode cX8_arrivesAtEnd 40 = .ok (.getfield 42, 3) := by decide +kernel
theorem dX8_arrivesAtEnd_43 : decode cX8_arrivesAtEnd 43 = .ok (.iload 7, 2) := by decide +kernel
theorem dX8_arrivesAtEnd_45 : decode cX8_arrivesAtEnd 45 = .ok (.bipush 8, 2) := by decide +kernel
theorem dX8_arrivesAtEnd_47 : decode cX8_arrivesAtEnd 47 = .ok (.iadd, 1) := by decide +kernel
theorem dX8_arrivesAtEnd_48 : decode cX8_arrivesAtEnd 48 = .ok (.iload_n 1, 1) := by decide +kernel
theorem dX8_arrivesAtEnd_49 : decode cX8_arrivesAtEnd 49 = .ok (.iadd, 1) := by decide +kernel
theorem dX8_arrivesAtEnd_50 : decode cX8_arrivesAtEnd 50 = .ok (.iload 4, 2) := by decide +kernel
theorem dX8_arrivesAtEnd_52 : decode cX8_arrivesAtEnd 52 = .ok (.iastore, 1) := by decide +kernel
theorem dX8_arrivesAtEnd_53 : decode cX8_arrivesAtEnd 53 = .ok (.iload 8, 2) := by decide +kernel
theorem dX8_arrivesAtEnd_55 : decode cX8_arrivesAtEnd 55 = .ok (.ifCond .ne 19, 3) := by decide +kernel
theorem dX8_arrivesAtEnd_58 : decode cX8_arrivesAtEnd 58 = .ok (.aload_n 0, 1) := by decide +kernel
theorem dX8_arrivesAtEnd_59 : decode cX8_arrivesAtEnd 59 = .ok (.getfield 42, 3) := by decide +kernel
theorem dX8_arrivesAtEnd_62 : decode cX8_arrivesAtEnd 62 = .ok (.iload 7, 2) := by decide +kernel
theorem dX8_arrivesAtEnd_64 : decode cX8_arrivesAtEnd 64 = .ok (.iconst 1, 1) := by decide +kernel
theorem dX8_arrivesAtEnd_65 : decode cX8_arrivesAtEnd 65 = .ok (.iadd, 1) := by decide +kernel
theorem dX8_arrivesAtEnd_66 : decode cX8_arrivesAtEnd 66 = .ok (.dup2, 1) := by decide +kernel
theorem dX8_arrivesAtEnd_67 : decode cX8_arrivesAtEnd 67 = .ok (.iaload, 1) := by decide +kernel
theorem dX8_arrivesAtEnd_68 : decode cX8_arrivesAtEnd 68 = .ok (.iconst 1, 1) := by decide +kernel
theorem dX8_arrivesAtEnd_69 : decode cX8_arrivesAtEnd 69 = .ok (.iadd, 1) := by decide +kernel
theorem dX8_arrivesAtEnd_70 : decode cX8_arrivesAtEnd 70 = .ok (.iastore, 1) := by decide +kernel
theorem dX8_arrivesAtEnd_71 : decode cX8_arrivesAtEnd 71 = .ok (.goto 41, 3) := by decide +kernel
theorem dX8_arrivesAtEnd_74 : decode cX8_arrivesAtEnd 74 = .ok (.aload_n 0, 1) := by decide +kernel
theorem dX8_arrivesAtEnd_75 : decode cX8_arrivesAtEnd 75 = .ok (.iload 7, 2) := by decide +kernel
theorem dX8_arrivesAtEnd_77 : decode cX8_arrivesAtEnd 77 = .ok (.iload 4, 2) := by decide +kernel
theorem dX8_arrivesAtEnd_79 : decode cX8_arrivesAtEnd 79 = .ok (.invokevirtual 280, 3) := by decide +kernel
theorem dX8_arrivesAtEnd_82 : decode cX8_arrivesAtEnd 82 = .ok (.ifCond .eq 17, 3) := by decide +kernel
theorem dX8_arrivesAtEnd_85 : decode cX8_arrivesAtEnd 85 = .ok (.aload_n 0, 1) := by decide +kernel
theorem dX8_arrivesAtEnd_86 : decode cX8_arrivesAtEnd 86 = .ok (.iload 7, 2) := by decide +kernel
theorem dX8_arrivesAtEnd_88 : decode cX8_arrivesAtEnd 88 = .ok (.iload_n 1, 1) := by decide +kernel
theorem dX8_arrivesAtEnd_89 : decode cX8_arrivesAtEnd 89 = .ok (.iload 4, 2) := by decide +kernel
theorem dX8_arrivesAtEnd_91 : decode cX8_arrivesAtEnd 91 = .ok (.iload 5, 2) := by decide +kernel
theorem dX8_arrivesAtEnd_93 : decode cX8_arrivesAtEnd 93 = .ok (.invokevirtual 283, 3) := by decide +kernel
theorem dX8_arrivesAtEnd_96 : decode cX8_arrivesAtEnd 96 = .ok (.goto 16, 3) := by decide +kernel
theorem dX8_arrivesAtEnd_99 : decode cX8_arrivesAtEnd 99 = .ok (.aload_n 0, 1) := by decide +kernel
theorem dX8_arrivesAtEnd_100 : decode cX8_arrivesAtEnd 100 = .ok (.getfield 42, 3) := by decide +kernel
theorem dX8_arrivesAtEnd_103 : decode cX8_arrivesAtEnd 103 = .ok (.iload 7, 2) := by decide +kernel
theorem dX8_arrivesAtEnd_105 : decode cX8_arrivesAtEnd 105 = .ok (.iconst 2, 1) := by decide +kernel
theorem dX8_arrivesAtEnd_106 : decode cX8_arrivesAtEnd 106 = .ok (.iadd, 1) := by decide +kernel
theorem dX8_arrivesAtEnd_107 : decode cX8_arrivesAtEnd 107 = .ok (.dup2, 1) := by decide +kernel
theorem dX8_arrivesAtEnd_108 : decode cX8_arrivesAtEnd 108 = .ok (.iaload, 1) := by decide +kernel
theorem dX8_arrivesAtEnd_109 : decode cX8_arrivesAtEnd 109 = .ok (.iconst 1, 1) := by decide +kernel
theorem dX8_arrivesAtEnd_110 : decode cX8_arrivesAtEnd 110 = .ok (.iadd, 1) := by decide +kernel
theorem dX8_arrivesAtEnd_111 : decode cX8_arrivesAtEnd 111 = .ok (.iastore, 1) := by decide +kernel
theorem dX8_arrivesAtEnd_112 : decode cX8_arrivesAtEnd 112 = .ok (.return_, 1) := by decide +kernel
theorem dX8_leaves_0 : decode cX8_leaves 0 = .ok (.iload_n 1, 1) := by decide +kernel
theorem dX8_leaves_1 : decode cX8_leaves 1 = .ok (.iload_n 2, 1) := by decide +kernel
theorem dX8_leaves_2 : decode cX8_leaves 2 = .ok (.invokestatic 255, 3) := by decide +kernel
theorem dX8_leaves_5 : decode cX8_leaves 5 = .ok (.istore_n 3, 1) := by decide +kernel
theorem dX8_leaves_6 : decode cX8_leaves 6 = .ok (.aload_n 0, 1) := by decide +kernel
theorem dX8_leaves_7 : decode cX8_leaves 7 = .ok (.getfield 42, 3) := by decide +kernel
theorem dX8_leaves_10 : decode cX8_leaves 10 = .ok (.iload_n 3, 1) := by decide +kernel
theorem dX8_leaves_11 : decode cX8_leaves 11 = .ok (.iconst 3, 1) := by decide +kernel
theorem dX8_leaves_12 : decode cX8_leaves 12 = .ok (.iadd, 1) := by decide +kernel
theorem dX8_leaves_13 : decode cX8_leaves 13 = .ok (.iaload, 1) := by decide +kernel
theorem dX8_leaves_14 : decode cX8_leaves 14 = .ok (.istore 4, 2) := by decide +kernel
theorem dX8_leaves_16 : decode cX8_leaves 16 = .ok (.aload_n 0, 1) := by decide +kernel
theorem dX8_leaves_17 : decode cX8_leaves 17 = .ok (.getfield 42, 3) := by decide +kernel
theorem dX8_leaves_20 : decode cX8_leaves 20 = .ok (.iload_n 3, 1) := by decide +kernel
theorem dX8_leaves_21 : decode cX8_leaves 21 = .ok (.iconst 3, 1) := by decide +kernel
theorem dX8_leaves_22 : decode cX8_leaves 22 = .ok (.iadd, 1) := by decide +kernel
theorem dX8_leaves_23 : decode cX8_leaves 23 = .ok (.iconst 1, 1) := by decide +kernel
theorem dX8_leaves_24 : decode cX8_leaves 24 = .ok (.iadd, 1) := by decide +kernel
theorem dX8_leaves_25 : decode cX8_leaves 25 = .ok (.iaload, 1) := by decide +kernel
theorem dX8_leaves_26 : decode cX8_leaves 26 = .ok (.istore 5, 2) := by decide +kernel
theorem dX8_leaves_28 : decode cX8_leaves 28 = .ok (.aload_n 0, 1) := by decide +kernel
theorem dX8_leaves_29 : decode cX8_leaves 29 = .ok (.getfield 42, 3) := by decide +kernel
theorem dX8_leaves_32 : decode cX8_leaves 32 = .ok (.iload_n 3, 1) := by decide +kernel
theorem dX8_leaves_33 : decode cX8_leaves 33 = .ok (.iconst 3, 1) := by decide +kernel
theorem dX8_leaves_34 : decode cX8_leaves 34 = .ok (.iadd, 1) := by decide +kernel
theorem dX8_leaves_35 : decode cX8_leaves 35 = .ok (.iconst 2, 1) := by decide +kernel
theorem dX8_leaves_36 : decode cX8_leaves 36 = .ok (.iadd, 1) := by decide +kernel
theorem dX8_leaves_37 : decode cX8_leaves 37 = .ok (.iaload, 1) := by decide +kernel
theorem dX8_leaves_38 : decode cX8_leaves 38 = .ok (.istore 6, 2) := by decide +kernel
theorem dX8_leaves_40 : decode cX8_leaves 40 = .ok (.aload_n 0, 1) := by decide +kernel
theorem dX8_leaves_41 : decode cX8_leaves 41 = .ok (.getfield 42, 3) := by decide +kernel
theorem dX8_leaves_44 : decode cX8_leaves 44 = .ok (.iload_n 3, 1) := by decide +kernel
theorem dX8_leaves_45 : decode cX8_leaves 45 = .ok (.iconst 0, 1) := by decide +kernel
theorem dX8_leaves_46 : decode cX8_leaves 46 = .ok (.iadd, 1) := by decide +kernel
theorem dX8_leaves_47 : decode cX8_leaves 47 = .ok (.dup2, 1) := by decide +kernel
theorem dX8_leaves_48 : decode cX8_leaves 48 = .ok (.iaload, 1) := by decide +kernel
theorem dX8_leaves_49 : decode cX8_leaves 49 = .ok (.iconst 1, 1) := by decide +kernel
theorem dX8_leaves_50 : decode cX8_leaves 50 = .ok (.isub, 1) := by decide +kernel
theorem dX8_leaves_51 : decode cX8_leaves 51 = .ok (.iastore, 1) := by decide +kernel
theorem dX8_leaves_52 : decode cX8_leaves 52 = .ok (.aload_n 0, 1) := by decide +kernel
theorem dX8_leaves_53 : decode cX8_leaves 53 = .ok (.getfield 42, 3) := by decide +kernel
theorem dX8_leaves_56 : decode cX8_leaves 56 = .ok (.iload_n 3, 1) := by decide +kernel
theorem dX8_leaves_57 : decode cX8_leaves 57 = .ok (.iconst 1, 1) := by decide +kernel
theorem dX8_leaves_58 : decode cX8_leaves 58 = .ok (.iadd, 1) := by decide +kernel
theorem dX8_leaves_59 : decode cX8_leaves 59 = .ok (.bipush (-2), 2) := by decide +kernel
theorem dX8_leaves_61 : decode cX8_leaves 61 = .ok (.iastore, 1) := by decide +kernel
theorem dX8_leaves_62 : decode cX8_leaves 62 = .ok (.iconst 0, 1) := by decide +kernel
theorem dX8_leaves_63 : decode cX8_leaves 63 = .ok (.istore 7, 2) := by decide +kernel
theorem dX8_leaves_65 : decode cX8_leaves 65 = .ok (.iload 7, 2) := by decide +kernel
theorem dX8_leaves_67 : decode cX8_leaves 67 = .ok (.iconst 3, 1) := by decide +kernel
theorem dX8_leaves_68 : decode cX8_leaves 68 = .ok (.aload_n 0, 1) := by decide +kernel
theorem dX8_leaves_69 : decode cX8_leaves 69 = .ok (.getfield 42, 3) := by decide +kernel
theorem dX8_leaves_72 : decode cX8_leaves 72 = .ok (.iload_n 3, 1) := by decide +kernel
theorem dX8_leaves_73 : decode cX8_leaves 73 = .ok (.iconst 0, 1) := by decide +kernel
theorem dX8_leaves_74 : decode cX8_leaves 74 = .ok (.iadd, 1) := by decide +kernel
theorem dX8_leaves_75 : decode cX8_leaves 75 = .ok (.iaload, 1) := by decide +kernel
theorem dX8_leaves_76 : decode cX8_leaves 76 = .ok (.imul, 1) := by decide +kernel
theorem dX8_leaves_77 : decode cX8_leaves 77 = .ok (.if_icmp .ge 33, 3) := by decide +kernel
theorem dX8_leaves_80 : decode cX8_leaves 80 = .ok (.aload_n 0, 1) := by decide +kernel
theorem dX8_leaves_81 : decode cX8_leaves 81 = .ok (.getfield 42, 3) := by decide +kernel
theorem dX8_leaves_84 : decode cX8_leaves 84 = .ok (.iload_n 3, 1) := by decide +kernel
theorem dX8_leaves_85 : decode cX8_leaves 85 = .ok (.iconst 3, 1) := by decide +kernel
theorem dX8_leaves_86 : decode cX8_leaves 86 = .ok (.iadd, 1) := by decide +kernel
theorem dX8_leaves_87 : decode cX8_leaves 87 = .ok (.iload 7, 2) := by decide +kernel
theorem dX8_leaves_89 : decode cX8_leaves 89 = .ok (.iadd, 1) := by decide +kernel
theorem dX8_leaves_90 : decode cX8_leaves 90 = .ok (.aload_n 0, 1) := by decide +kernel
theorem dX8_leaves_91 : decode cX8_leaves 91 = .ok (.getfield 42, 3) := by decide +kernel
theorem dX8_leaves_94 : decode cX8_leaves 94 = .ok (.iload_n 3, 1) := by decide +kernel
theorem dX8_leaves_95 : decode cX8_leaves 95 = .ok (.iconst 3, 1) := by decide +kernel
theorem dX8_leaves_96 : decode cX8_leaves 96 = .ok (.iadd, 1) := by decide +kernel
theorem dX8_leaves_97 : decode cX8_leaves 97 = .ok (.iload 7, 2) := by decide +kernel
theorem dX8_leaves_99 : decode cX8_leaves 99 = .ok (.iadd, 1) := by decide +kernel
theorem dX8_leaves_100 : decode cX8_leaves 100 = .ok (.iconst 3, 1) := by decide +kernel
theorem dX8_leaves_101 : decode cX8_leaves 101 = .ok (.iadd, 1) := by decide +kernel
theorem dX8_leaves_102 : decode cX8_leaves 102 = .ok (.iaload, 1) := by decide +kernel
theorem dX8_leaves_103 : decode cX8_leaves 103 = .ok (.iastore, 1) := by decide +kernel
theorem dX8_leaves_104 : decode cX8_leaves 104 = .ok (.iinc 7 1, 3) := by decide +kernel
theorem dX8_leaves_107 : decode cX8_leaves 107 = .ok (.goto (-42), 3) := by decide +kernel
theorem dX8_leaves_110 : decode cX8_leaves 110 = .ok (.iload_n 2, 1) := by decide +kernel
theorem dX8_leaves_111 : decode cX8_leaves 111 = .ok (.bipush 6, 2) := by decide +kernel
theorem dX8_leaves_113 : decode cX8_leaves 113 = .ok (.bipush 11, 2) := by decide +kernel
theorem dX8_leaves_115 : decode cX8_leaves 115 = .ok (.invokestatic 80, 3) := by decide +kernel
theorem dX8_leaves_118 : decode cX8_leaves 118 = .ok (.ifCond .eq 21, 3) := by decide +kernel
theorem dX8_leaves_121 : decode cX8_leaves 121 = .ok (.aload_n 0, 1) := by decide +kernel
theorem dX8_leaves_122 : decode cX8_leaves 122 = .ok (.iload_n 1, 1) := by decide +kernel
theorem dX8_leaves_123 : decode cX8_leaves 123 = .ok (.iload_n 2, 1) := by decide +kernel
theorem dX8_leaves_124 : decode cX8_leaves 124 = .ok (.bipush 6, 2) := by decide +kernel
theorem dX8_leaves_126 : decode cX8_leaves 126 = .ok (.isub, 1) := by decide +kernel
theorem dX8_leaves_127 : decode cX8_leaves 127 = .ok (.iload 4, 2) := by decide +kernel
theorem dX8_leaves_129 : decode cX8_leaves 129 = .ok (.iload 5, 2) := by decide +kernel
theorem dX8_leaves_131 : decode cX8_leaves 131 = .ok (.iload 6, 2) := by decide +kernel
theorem dX8_leaves_133 : decode cX8_leaves 133 = .ok (.invokevirtual 287, 3) := by decide +kernel
theorem dX8_leaves_136 : decode cX8_leaves 136 = .ok (.goto 15, 3) := by decide +kernel
theorem dX8_leaves_139 : decode cX8_leaves 139 = .ok (.aload_n 0, 1) := by decide +kernel
theorem dX8_leaves_140 : decode cX8_leaves 140 = .ok (.iload_n 1, 1) := by decide +kernel
theorem dX8_leaves_141 : decode cX8_leaves 141 = .ok (.iload_n 2, 1) := by decide +kernel
theorem dX8_leaves_142 : decode cX8_leaves 142 = .ok (.iload 4, 2) := by decide +kernel
theorem dX8_leaves_144 : decode cX8_leaves 144 = .ok (.iload 5, 2) := by decide +kernel
theorem dX8_leaves_146 : decode cX8_leaves 146 = .ok (.iload 6, 2) := by decide +kernel
theorem dX8_leaves_148 : decode cX8_leaves 148 = .ok (.invokevirtual 291, 3) := by decide +kernel
theorem dX8_leaves_151 : decode cX8_leaves 151 = .ok (.return_, 1) := by decide +kernel
theorem dX8_sends_0 : decode cX8_sends 0 = .ok (.iload_n 1, 1) := by decide +kernel
theorem dX8_sends_1 : decode cX8_sends 1 = .ok (.iload_n 2, 1) := by decide +kernel
theorem dX8_sends_2 : decode cX8_sends 2 = .ok (.invokestatic 255, 3) := by decide +kernel
theorem dX8_sends_5 : decode cX8_sends 5 = .ok (.istore_n 3, 1) := by decide +kernel
theorem dX8_sends_6 : decode cX8_sends 6 = .ok (.aload_n 0, 1) := by decide +kernel
theorem dX8_sends_7 : decode cX8_sends 7 = .ok (.getfield 42, 3) := by decide +kernel
theorem dX8_sends_10 : decode cX8_sends 10 = .ok (.iload_n 3, 1) := by decide +kernel
theorem dX8_sends_11 : decode cX8_sends 11 = .ok (.iconst 1, 1) := by decide +kernel
theorem dX8_sends_12 : decode cX8_sends 12 = .ok (.iadd, 1) := by decide +kernel
theorem dX8_sends_13 : decode cX8_sends 13 = .ok (.iaload, 1) := by decide +kernel
theorem dX8_sends_14 : decode cX8_sends 14 = .ok (.bipush (-2), 2) := by decide +kernel
theorem dX8_sends_16 : decode cX8_sends 16 = .ok (.if_icmp .ne 14, 3) := by decide +kernel
theorem dX8_sends_19 : decode cX8_sends 19 = .ok (.aload_n 0, 1) := by decide +kernel
theorem dX8_sends_20 : decode cX8_sends 20 = .ok (.getfield 42, 3) := by decide +kernel
theorem dX8_sends_23 : decode cX8_sends 23 = .ok (.iload_n 3, 1) := by decide +kernel
theorem dX8_sends_24 : decode cX8_sends 24 = .ok (.iconst 0, 1) := by decide +kernel
theorem dX8_sends_25 : decode cX8_sends 25 = .ok (.iadd, 1) := by decide +kernel
theorem dX8_sends_26 : decode cX8_sends 26 = .ok (.iaload, 1) := by decide +kernel
theorem dX8_sends_27 : decode cX8_sends 27 = .ok (.ifCond .ne 4, 3) := by decide +kernel
theorem dX8_sends_30 : decode cX8_sends 30 = .ok (.return_, 1) := by decide +kernel
theorem dX8_sends_31 : decode cX8_sends 31 = .ok (.aload_n 0, 1) := by decide +kernel
theorem dX8_sends_32 : decode cX8_sends 32 = .ok (.getfield 42, 3) := by decide +kernel
theorem dX8_sends_35 : decode cX8_sends 35 = .ok (.iload_n 3, 1) := by decide +kernel
theorem dX8_sends_36 : decode cX8_sends 36 = .ok (.iconst 3, 1) := by decide +kernel
theorem dX8_sends_37 : decode cX8_sends 37 = .ok (.iadd, 1) := by decide +kernel
theorem dX8_sends_38 : decode cX8_sends 38 = .ok (.iaload, 1) := by decide +kernel
theorem dX8_sends_39 : decode cX8_sends 39 = .ok (.istore 4, 2) := by decide +kernel
theorem dX8_sends_41 : decode cX8_sends 41 = .ok (.aload_n 0, 1) := by decide +kernel
theorem dX8_sends_42 : decode cX8_sends 42 = .ok (.getfield 42, 3) := by decide +kernel
theorem dX8_sends_45 : decode cX8_sends 45 = .ok (.iload_n 3, 1) := by decide +kernel
theorem dX8_sends_46 : decode cX8_sends 46 = .ok (.iconst 1, 1) := by decide +kernel
theorem dX8_sends_47 : decode cX8_sends 47 = .ok (.iadd, 1) := by decide +kernel
theorem dX8_sends_48 : decode cX8_sends 48 = .ok (.aload_n 0, 1) := by decide +kernel
theorem dX8_sends_49 : decode cX8_sends 49 = .ok (.getfield 42, 3) := by decide +kernel
theorem dX8_sends_52 : decode cX8_sends 52 = .ok (.iconst 0, 1) := by decide +kernel
theorem dX8_sends_53 : decode cX8_sends 53 = .ok (.iaload, 1) := by decide +kernel
theorem dX8_sends_54 : decode cX8_sends 54 = .ok (.aload_n 0, 1) := by decide +kernel
theorem dX8_sends_55 : decode cX8_sends 55 = .ok (.iload 4, 2) := by decide +kernel
theorem dX8_sends_57 : decode cX8_sends 57 = .ok (.iconst 2, 1) := by decide +kernel
theorem dX8_sends_58 : decode cX8_sends 58 = .ok (.invokevirtual 221, 3) := by decide +kernel
theorem dX8_sends_61 : decode cX8_sends 61 = .ok (.iadd, 1) := by decide +kernel
theorem dX8_sends_62 : decode cX8_sends 62 = .ok (.iastore, 1) := by decide +kernel
theorem dX8_sends_63 : decode cX8_sends 63 = .ok (.aload_n 0, 1) := by decide +kernel
theorem dX8_sends_64 : decode cX8_sends 64 = .ok (.getfield 42, 3) := by decide +kernel
theorem dX8_sends_67 : decode cX8_sends 67 = .ok (.iconst 0, 1) := by decide +kernel
theorem dX8_sends_68 : decode cX8_sends 68 = .ok (.iaload, 1) := by decide +kernel
theorem dX8_sends_69 : decode cX8_sends 69 = .ok (.aload_n 0, 1) := by decide +kernel
theorem dX8_sends_70 : decode cX8_sends 70 = .ok (.getfield 42, 3) := by decide +kernel
theorem dX8_sends_73 : decode cX8_sends 73 = .ok (.iload_n 3, 1) := by decide +kernel
theorem dX8_sends_74 : decode cX8_sends 74 = .ok (.iconst 3, 1) := by decide +kernel
theorem dX8_sends_75 : decode cX8_sends 75 = .ok (.iadd, 1) := by decide +kernel
theorem dX8_sends_76 : decode cX8_sends 76 = .ok (.iconst 2, 1) := by decide +kernel
theorem dX8_sends_77 : decode cX8_sends 77 = .ok (.iadd, 1) := by decide +kernel
theorem dX8_sends_78 : decode cX8_sends 78 = .ok (.iaload, 1) := by decide +kernel
theorem dX8_sends_79 : decode cX8_sends 79 = .ok (.isub, 1) := by decide +kernel
theorem dX8_sends_80 : decode cX8_sends 80 = .ok (.istore 5, 2) := by decide +kernel
theorem dX8_sends_82 : decode cX8_sends 82 = .ok (.iload_n 2, 1) := by decide +kernel
theorem dX8_sends_83 : decode cX8_sends 83 = .ok (.bipush 6, 2) := by decide +kernel
theorem dX8_sends_85 : decode cX8_sends 85 = .ok (.if_icmp .ge 32, 3) := by decide +kernel
theorem dX8_sends_88 : decode cX8_sends 88 = .ok (.iload 5, 2) := by decide +kernel
theorem dX8_sends_90 : decode cX8_sends 90 = .ok (.aload_n 0, 1) := by decide +kernel
theorem dX8_sends_91 : decode cX8_sends 91 = .ok (.getfield 42, 3) := by decide +kernel
theorem dX8_sends_94 : decode cX8_sends 94 = .ok (.iload 4, 2) := by decide +kernel
theorem dX8_sends_96 : decode cX8_sends 96 = .ok (.iconst 4, 1) := by decide +kernel
theorem dX8_sends_97 : decode cX8_sends 97 = .ok (.invokestatic 246, 3) := by decide +kernel
theorem dX8_sends_100 : decode cX8_sends 100 = .ok (.iaload, 1) := by decide +kernel
theorem dX8_sends_101 : decode cX8_sends 101 = .ok (.if_icmp .le 16, 3) := by decide +kernel
theorem dX8_sends_104 : decode cX8_sends 104 = .ok (.aload_n 0, 1) := by decide +kernel
theorem dX8_sends_105 : decode cX8_sends 105 = .ok (.getfield 42, 3) := by decide +kernel
theorem dX8_sends_108 : decode cX8_sends 108 = .ok (.iload 4, 2) := by decide +kernel
theorem dX8_sends_110 : decode cX8_sends 110 = .ok (.iconst 4, 1) := by decide +kernel
theorem dX8_sends_111 : decode cX8_sends 111 = .ok (.invokestatic 246, 3) := by decide +kernel
theorem dX8_sends_114 : decode cX8_sends 114 = .ok (.iload 5, 2) := by decide +kernel
theorem dX8_sends_116 : decode cX8_sends 116 = .ok (.iastore, 1) := by decide +kernel
theorem dX8_sends_117 : decode cX8_sends 117 = .ok (.return_, 1) := by decide +kernel
theorem dX8_goesTick_0 : decode cX8_goesTick 0 = .ok (.aload_n 0, 1) := by decide +kernel
theorem dX8_goesTick_1 : decode cX8_goesTick 1 = .ok (.getfield 42, 3) := by decide +kernel
theorem dX8_goesTick_4 : decode cX8_goesTick 4 = .ok (.iconst 0, 1) := by decide +kernel
theorem dX8_goesTick_5 : decode cX8_goesTick 5 = .ok (.dup2, 1) := by decide +kernel
theorem dX8_goesTick_6 : decode cX8_goesTick 6 = .ok (.iaload, 1) := by decide +kernel
theorem dX8_goesTick_7 : decode cX8_goesTick 7 = .ok (.iconst 1, 1) := by decide +kernel
theorem dX8_goesTick_8 : decode cX8_goesTick 8 = .ok (.iadd, 1) := by decide +kernel
theorem dX8_goesTick_9 : decode cX8_goesTick 9 = .ok (.iastore, 1) := by decide +kernel
theorem dX8_goesTick_10 : decode cX8_goesTick 10 = .ok (.iconst 0, 1) := by decide +kernel
theorem dX8_goesTick_11 : decode cX8_goesTick 11 = .ok (.istore_n 1, 1) := by decide +kernel
theorem dX8_goesTick_12 : decode cX8_goesTick 12 = .ok (.iload_n 1, 1) := by decide +kernel
theorem dX8_goesTick_13 : decode cX8_goesTick 13 = .ok (.aload_n 0, 1) := by decide +kernel
theorem dX8_goesTick_14 : decode cX8_goesTick 14 = .ok (.getfield 17, 3) := by decide +kernel
theorem dX8_goesTick_17 : decode cX8_goesTick 17 = .ok (.bipush 6, 2) := by decide +kernel
theorem dX8_goesTick_19 : decode cX8_goesTick 19 = .ok (.iaload, 1) := by decide +kernel
theorem dX8_goesTick_20 : decode cX8_goesTick 20 = .ok (.if_icmp .ge 80, 3) := by decide +kernel
theorem dX8_goesTick_23 : decode cX8_goesTick 23 = .ok (.iconst 0, 1) := by decide +kernel
theorem dX8_goesTick_24 : decode cX8_goesTick 24 = .ok (.istore_n 2, 1) := by decide +kernel
theorem dX8_goesTick_25 : decode cX8_goesTick 25 = .ok (.iload_n 2, 1) := by decide +kernel
theorem dX8_goesTick_26 : decode cX8_goesTick 26 = .ok (.iconst 2, 1) := by decide +kernel
theorem dX8_goesTick_27 : decode cX8_goesTick 27 = .ok (.if_icmp .ge 67, 3) := by decide +kernel
theorem dX8_goesTick_30 : decode cX8_goesTick 30 = .ok (.bipush 41, 2) := by decide +kernel
theorem dX8_goesTick_32 : decode cX8_goesTick 32 = .ok (.bipush 8, 2) := by decide +kernel
theorem dX8_goesTick_34 : decode cX8_goesTick 34 = .ok (.iload_n 2, 1) := by decide +kernel
theorem dX8_goesTick_35 : decode cX8_goesTick 35 = .ok (.imul, 1) := by decide +kernel
theorem dX8_goesTick_36 : decode cX8_goesTick 36 = .ok (.iadd, 1) := by decide +kernel
theorem dX8_goesTick_37 : decode cX8_goesTick 37 = .ok (.iload_n 1, 1) := by decide +kernel
theorem dX8_goesTick_38 : decode cX8_goesTick 38 = .ok (.iadd, 1) := by decide +kernel
theorem dX8_goesTick_39 : decode cX8_goesTick 39 = .ok (.istore_n 3, 1) := by decide +kernel
theorem dX8_goesTick_40 : decode cX8_goesTick 40 = .ok (.aload_n 0, 1) := by decide +kernel
theorem dX8_goesTick_41 : decode cX8_goesTick 41 = .ok (.getfield 42, 3) := by decide +kernel
theorem dX8_goesTick_44 : decode cX8_goesTick 44 = .ok (.iload_n 3, 1) := by decide +kernel
theorem dX8_goesTick_45 : decode cX8_goesTick 45 = .ok (.aload_n 0, 1) := by decide +kernel
theorem dX8_goesTick_46 : decode cX8_goesTick 46 = .ok (.getfield 42, 3) := by decide +kernel
theorem dX8_goesTick_49 : decode cX8_goesTick 49 = .ok (.iload_n 3, 1) := by decide +kernel
theorem dX8_goesTick_50 : decode cX8_goesTick 50 = .ok (.iaload, 1) := by decide +kernel
theorem dX8_goesTick_51 : decode cX8_goesTick 51 = .ok (.aload_n 0, 1) := by decide +kernel
theorem dX8_goesTick_52 : decode cX8_goesTick 52 = .ok (.iload_n 1, 1) := by decide +kernel
theorem dX8_goesTick_53 : decode cX8_goesTick 53 = .ok (.iconst 2, 1) := by decide +kernel
theorem dX8_goesTick_54 : decode cX8_goesTick 54 = .ok (.invokevirtual 221, 3) := by decide +kernel
theorem dX8_goesTick_57 : decode cX8_goesTick 57 = .ok (.iadd, 1) := by decide +kernel
theorem dX8_goesTick_58 : decode cX8_goesTick 58 = .ok (.aload_n 0, 1) := by decide +kernel
theorem dX8_goesTick_59 : decode cX8_goesTick 59 = .ok (.iload_n 1, 1) := by decide +kernel
theorem dX8_goesTick_60 : decode cX8_goesTick 60 = .ok (.invokevirtual 249, 3) := by decide +kernel
theorem dX8_goesTick_63 : decode cX8_goesTick 63 = .ok (.if_icmp .le 11, 3) := by decide +kernel
theorem dX8_goesTick_66 : decode cX8_goesTick 66 = .ok (.aload_n 0, 1) := by decide +kernel
theorem dX8_goesTick_67 : decode cX8_goesTick 67 = .ok (.iload_n 1, 1) := by decide +kernel
theorem dX8_goesTick_68 : decode cX8_goesTick 68 = .ok (.invokevirtual 249, 3) := by decide +kernel
theorem dX8_goesTick_71 : decode cX8_goesTick 71 = .ok (.goto 16, 3) := by decide +kernel
theorem dX8_goesTick_74 : decode cX8_goesTick 74 = .ok (.aload_n 0, 1) := by decide +kernel
theorem dX8_goesTick_75 : decode cX8_goesTick 75 = .ok (.getfield 42, 3) := by decide +kernel
theorem dX8_goesTick_78 : decode cX8_goesTick 78 = .ok (.iload_n 3, 1) := by decide +kernel
theorem dX8_goesTick_79 : decode cX8_goesTick 79 = .ok (.iaload, 1) := by decide +kernel
theorem dX8_goesTick_80 : decode cX8_goesTick 80 = .ok (.aload_n 0, 1) := by decide +kernel
theorem dX8_goesTick_81 : decode cX8_goesTick 81 = .ok (.iload_n 1, 1) := by decide +kernel
theorem dX8_goesTick_82 : decode cX8_goesTick 82 = .ok (.iconst 2, 1) := by decide +kernel
theorem dX8_goesTick_83 : decode cX8_goesTick 83 = .ok (.invokevirtual 221, 3) := by decide +kernel
theorem dX8_goesTick_86 : decode cX8_goesTick 86 = .ok (.iadd, 1) := by decide +kernel
theorem dX8_goesTick_87 : decode cX8_goesTick 87 = .ok (.iastore, 1) := by decide +kernel
theorem dX8_goesTick_88 : decode cX8_goesTick 88 = .ok (.iinc 2 1, 3) := by decide +kernel
theorem dX8_goesTick_91 : decode cX8_goesTick 91 = .ok (.goto (-66), 3) := by decide +kernel
theorem dX8_goesTick_94 : decode cX8_goesTick 94 = .ok (.iinc 1 1, 3) := by decide +kernel
theorem dX8_goesTick_97 : decode cX8_goesTick 97 = .ok (.goto (-85), 3) := by decide +kernel
theorem dX8_goesTick_100 : decode cX8_goesTick 100 = .ok (.iconst 0, 1) := by decide +kernel
theorem dX8_goesTick_101 : decode cX8_goesTick 101 = .ok (.istore_n 1, 1) := by decide +kernel
theorem dX8_goesTick_102 : decode cX8_goesTick 102 = .ok (.iload_n 1, 1) := by decide +kernel
theorem dX8_goesTick_103 : decode cX8_goesTick 103 = .ok (.bipush 32, 2) := by decide +kernel
theorem dX8_goesTick_105 : decode cX8_goesTick 105 = .ok (.if_icmp .ge 44, 3) := by decide +kernel
theorem dX8_goesTick_108 : decode cX8_goesTick 108 = .ok (.aload_n 0, 1) := by decide +kernel
theorem dX8_goesTick_109 : decode cX8_goesTick 109 = .ok (.getfield 42, 3) := by decide +kernel
theorem dX8_goesTick_112 : decode cX8_goesTick 112 = .ok (.bipush 81, 2) := by decide +kernel
theorem dX8_goesTick_114 : decode cX8_goesTick 114 = .ok (.bipush 39, 2) := by decide +kernel
theorem dX8_goesTick_116 : decode cX8_goesTick 116 = .ok (.iload_n 1, 1) := by decide +kernel
theorem dX8_goesTick_117 : decode cX8_goesTick 117 = .ok (.imul, 1) := by decide +kernel
theorem dX8_goesTick_118 : decode cX8_goesTick 118 = .ok (.iadd, 1) := by decide +kernel
theorem dX8_goesTick_119 : decode cX8_goesTick 119 = .ok (.iconst 1, 1) := by decide +kernel
theorem dX8_goesTick_120 : decode cX8_goesTick 120 = .ok (.iadd, 1) := by decide +kernel
theorem dX8_goesTick_121 : decode cX8_goesTick 121 = .ok (.iaload, 1) := by decide +kernel
theorem dX8_goesTick_122 : decode cX8_goesTick 122 = .ok (.aload_n 0, 1) := by decide +kernel
theorem dX8_goesTick_123 : decode cX8_goesTick 123 = .ok (.getfield 42, 3) := by decide +kernel
theorem dX8_goesTick_126 : decode cX8_goesTick 126 = .ok (.iconst 0, 1) := by decide +kernel
theorem dX8_goesTick_127 : decode cX8_goesTick 127 = .ok (.iaload, 1) := by decide +kernel
theorem dX8_goesTick_128 : decode cX8_goesTick 128 = .ok (.if_icmp .ne 15, 3) := by decide +kernel
theorem dX8_goesTick_131 : decode cX8_goesTick 131 = .ok (.aload_n 0, 1) := by decide +kernel
theorem dX8_goesTick_132 : decode cX8_goesTick 132 = .ok (.iload_n 1, 1) := by decide +kernel
theorem dX8_goesTick_133 : decode cX8_goesTick 133 = .ok (.bipush 16, 2) := by decide +kernel
theorem dX8_goesTick_135 : decode cX8_goesTick 135 = .ok (.idiv, 1) := by decide +kernel
theorem dX8_goesTick_136 : decode cX8_goesTick 136 = .ok (.iload_n 1, 1) := by decide +kernel
theorem dX8_goesTick_137 : decode cX8_goesTick 137 = .ok (.bipush 16, 2) := by decide +kernel
theorem dX8_goesTick_139 : decode cX8_goesTick 139 = .ok (.irem, 1) := by decide +kernel
theorem dX8_goesTick_140 : decode cX8_goesTick 140 = .ok (.invokevirtual 294, 3) := by decide +kernel
theorem dX8_goesTick_143 : decode cX8_goesTick 143 = .ok (.iinc 1 1, 3) := by decide +kernel
theorem dX8_goesTick_146 : decode cX8_goesTick 146 = .ok (.goto (-44), 3) := by decide +kernel
theorem dX8_goesTick_149 : decode cX8_goesTick 149 = .ok (.iconst 0, 1) := by decide +kernel
theorem dX8_goesTick_150 : decode cX8_goesTick 150 = .ok (.istore_n 1, 1) := by decide +kernel
theorem dX8_goesTick_151 : decode cX8_goesTick 151 = .ok (.iload_n 1, 1) := by decide +kernel
theorem dX8_goesTick_152 : decode cX8_goesTick 152 = .ok (.aload_n 0, 1) := by decide +kernel
theorem dX8_goesTick_153 : decode cX8_goesTick 153 = .ok (.getfield 17, 3) := by decide +kernel
theorem dX8_goesTick_156 : decode cX8_goesTick 156 = .ok (.bipush 6, 2) := by decide +kernel
theorem dX8_goesTick_158 : decode cX8_goesTick 158 = .ok (.iaload, 1) := by decide +kernel
theorem dX8_goesTick_159 : decode cX8_goesTick 159 = .ok (.if_icmp .ge 84, 3) := by decide +kernel
theorem dX8_goesTick_162 : decode cX8_goesTick 162 = .ok (.aload_n 0, 1) := by decide +kernel
theorem dX8_goesTick_163 : decode cX8_goesTick 163 = .ok (.getfield 42, 3) := by decide +kernel
theorem dX8_goesTick_166 : decode cX8_goesTick 166 = .ok (.iload_n 1, 1) := by decide +kernel
theorem dX8_goesTick_167 : decode cX8_goesTick 167 = .ok (.iconst 0, 1) := by decide +kernel
theorem dX8_goesTick_168 : decode cX8_goesTick 168 = .ok (.invokestatic 246, 3) := by decide +kernel
theorem dX8_goesTick_171 : decode cX8_goesTick 171 = .ok (.iaload, 1) := by decide +kernel
theorem dX8_goesTick_172 : decode cX8_goesTick 172 = .ok (.ifCond .le 65, 3) := by decide +kernel
theorem dX8_goesTick_175 : decode cX8_goesTick 175 = .ok (.aload_n 0, 1) := by decide +kernel
theorem dX8_goesTick_176 : decode cX8_goesTick 176 = .ok (.getfield 42, 3) := by decide +kernel
theorem dX8_goesTick_179 : decode cX8_goesTick 179 = .ok (.iload_n 1, 1) := by decide +kernel
theorem dX8_goesTick_180 : decode cX8_goesTick 180 = .ok (.iconst 1, 1) := by decide +kernel
theorem dX8_goesTick_181 : decode cX8_goesTick 181 = .ok (.invokestatic 246, 3) := by decide +kernel
theorem dX8_goesTick_184 : decode cX8_goesTick 184 = .ok (.iaload, 1) := by decide +kernel
theorem dX8_goesTick_185 : decode cX8_goesTick 185 = .ok (.aload_n 0, 1) := by decide +kernel
theorem dX8_goesTick_186 : decode cX8_goesTick 186 = .ok (.getfield 42, 3) := by decide +kernel
theorem dX8_goesTick_189 : decode cX8_goesTick 189 = .ok (.iconst 0, 1) := by decide +kernel
theorem dX8_goesTick_190 : decode cX8_goesTick 190 = .ok (.iaload, 1) := by decide +kernel
theorem dX8_goesTick_191 : decode cX8_goesTick 191 = .ok (.if_icmp .gt 46, 3) := by decide +kernel
theorem dX8_goesTick_194 : decode cX8_goesTick 194 = .ok (.aload_n 0, 1) := by decide +kernel
theorem dX8_goesTick_195 : decode cX8_goesTick 195 = .ok (.getfield 42, 3) := by decide +kernel
theorem dX8_goesTick_198 : decode cX8_goesTick 198 = .ok (.iload_n 1, 1) := by decide +kernel
theorem dX8_goesTick_199 : decode cX8_goesTick 199 = .ok (.iconst 0, 1) := by decide +kernel
theorem dX8_goesTick_200 : decode cX8_goesTick 200 = .ok (.invokestatic 246, 3) := by decide +kernel
theorem dX8_goesTick_203 : decode cX8_goesTick 203 = .ok (.dup2, 1) := by decide +kernel
theorem dX8_goesTick_204 : decode cX8_goesTick 204 = .ok (.iaload, 1) := by decide +kernel
theorem dX8_goesTick_205 : decode cX8_goesTick 205 = .ok (.iconst 1, 1) := by decide +kernel
theorem dX8_goesTick_206 : decode cX8_goesTick 206 = .ok (.isub, 1) := by decide +kernel
theorem dX8_goesTick_207 : decode cX8_goesTick 207 = .ok (.iastore, 1) := by decide +kernel
theorem dX8_goesTick_208 : decode cX8_goesTick 208 = .ok (.aload_n 0, 1) := by decide +kernel
theorem dX8_goesTick_209 : decode cX8_goesTick 209 = .ok (.getfield 42, 3) := by decide +kernel
theorem dX8_goesTick_212 : decode cX8_goesTick 212 = .ok (.iload_n 1, 1) := by decide +kernel
theorem dX8_goesTick_213 : decode cX8_goesTick 213 = .ok (.iconst 1, 1) := by decide +kernel
theorem dX8_goesTick_214 : decode cX8_goesTick 214 = .ok (.invokestatic 246, 3) := by decide +kernel
theorem dX8_goesTick_217 : decode cX8_goesTick 217 = .ok (.aload_n 0, 1) := by decide +kernel
theorem dX8_goesTick_218 : decode cX8_goesTick 218 = .ok (.getfield 42, 3) := by decide +kernel
theorem dX8_goesTick_221 : decode cX8_goesTick 221 = .ok (.iconst 0, 1) := by decide +kernel
theorem dX8_goesTick_222 : decode cX8_goesTick 222 = .ok (.iaload, 1) := by decide +kernel
theorem dX8_goesTick_223 : decode cX8_goesTick 223 = .ok (.aload_n 0, 1) := by decide +kernel
theorem dX8_goesTick_224 : decode cX8_goesTick 224 = .ok (.iload_n 1, 1) := by decide +kernel
theorem dX8_goesTick_225 : decode cX8_goesTick 225 = .ok (.iconst 1, 1) := by decide +kernel
theorem dX8_goesTick_226 : decode cX8_goesTick 226 = .ok (.invokevirtual 221, 3) := by decide +kernel
theorem dX8_goesTick_229 : decode cX8_goesTick 229 = .ok (.iadd, 1) := by decide +kernel
theorem dX8_goesTick_230 : decode cX8_goesTick 230 = .ok (.iastore, 1) := by decide +kernel
theorem dX8_goesTick_231 : decode cX8_goesTick 231 = .ok (.aload_n 0, 1) := by decide +kernel
theorem dX8_goesTick_232 : decode cX8_goesTick 232 = .ok (.iload_n 1, 1) := by decide +kernel
theorem dX8_goesTick_233 : decode cX8_goesTick 233 = .ok (.invokevirtual 298, 3) := by decide +kernel
theorem dX8_goesTick_236 : decode cX8_goesTick 236 = .ok (.pop, 1) := by decide +kernel
theorem dX8_goesTick_237 : decode cX8_goesTick 237 = .ok (.iinc 1 1, 3) := by decide +kernel
theorem dX8_goesTick_240 : decode cX8_goesTick 240 = .ok (.goto (-89), 3) := by decide +kernel
theorem dX8_goesTick_243 : decode cX8_goesTick 243 = .ok (.iconst 0, 1) := by decide +kernel
theorem dX8_goesTick_244 : decode cX8_goesTick 244 = .ok (.istore_n 1, 1) := by decide +kernel
theorem dX8_goesTick_245 : decode cX8_goesTick 245 = .ok (.iload_n 1, 1) := by decide +kernel
theorem dX8_goesTick_246 : decode cX8_goesTick 246 = .ok (.bipush 32, 2) := by decide +kernel
theorem dX8_goesTick_248 : decode cX8_goesTick 248 = .ok (.if_icmp .ge 75, 3) := by decide +kernel
theorem dX8_goesTick_251 : decode cX8_goesTick 251 = .ok (.aload_n 0, 1) := by decide +kernel
theorem dX8_goesTick_252 : decode cX8_goesTick 252 = .ok (.iload_n 1, 1) := by decide +kernel
theorem dX8_goesTick_253 : decode cX8_goesTick 253 = .ok (.bipush 16, 2) := by decide +kernel
theorem dX8_goesTick_255 : decode cX8_goesTick 255 = .ok (.idiv, 1) := by decide +kernel
theorem dX8_goesTick_256 : decode cX8_goesTick 256 = .ok (.iload_n 1, 1) := by decide +kernel
theorem dX8_goesTick_257 : decode cX8_goesTick 257 = .ok (.bipush 16, 2) := by decide +kernel
theorem dX8_goesTick_259 : decode cX8_goesTick 259 = .ok (.irem, 1) := by decide +kernel
theorem dX8_goesTick_260 : decode cX8_goesTick 260 = .ok (.invokevirtual 301, 3) := by decide +kernel
theorem dX8_goesTick_263 : decode cX8_goesTick 263 = .ok (.bipush 81, 2) := by decide +kernel
theorem dX8_goesTick_265 : decode cX8_goesTick 265 = .ok (.bipush 39, 2) := by decide +kernel
theorem dX8_goesTick_267 : decode cX8_goesTick 267 = .ok (.iload_n 1, 1) := by decide +kernel
theorem dX8_goesTick_268 : decode cX8_goesTick 268 = .ok (.imul, 1) := by decide +kernel
theorem dX8_goesTick_269 : decode cX8_goesTick 269 = .ok (.iadd, 1) := by decide +kernel
theorem dX8_goesTick_270 : decode cX8_goesTick 270 = .ok (.istore_n 2, 1) := by decide +kernel
theorem dX8_goesTick_271 : decode cX8_goesTick 271 = .ok (.aload_n 0, 1) := by decide +kernel
theorem dX8_goesTick_272 : decode cX8_goesTick 272 = .ok (.getfield 42, 3) := by decide +kernel
theorem dX8_goesTick_275 : decode cX8_goesTick 275 = .ok (.iload_n 2, 1) := by decide +kernel
theorem dX8_goesTick_276 : decode cX8_goesTick 276 = .ok (.iconst 2, 1) := by decide +kernel
theorem dX8_goesTick_277 : decode cX8_goesTick 277 = .ok (.iadd, 1) := by decide +kernel
theorem dX8_goesTick_278 : decode cX8_goesTick 278 = .ok (.aload_n 0, 1) := by decide +kernel
theorem dX8_goesTick_279 : decode cX8_goesTick 279 = .ok (.getfield 42, 3) := by decide +kernel
theorem dX8_goesTick_282 : decode cX8_goesTick 282 = .ok (.iload_n 2, 1) := by decide +kernel
theorem dX8_goesTick_283 : decode cX8_goesTick 283 = .ok (.iconst 0, 1) := by decide +kernel
theorem dX8_goesTick_284 : decode cX8_goesTick 284 = .ok (.iadd, 1) := by decide +kernel
theorem dX8_goesTick_285 : decode cX8_goesTick 285 = .ok (.iaload, 1) := by decide +kernel
theorem dX8_goesTick_286 : decode cX8_goesTick 286 = .ok (.aload_n 0, 1) := by decide +kernel
theorem dX8_goesTick_287 : decode cX8_goesTick 287 = .ok (.getfield 42, 3) := by decide +kernel
theorem dX8_goesTick_290 : decode cX8_goesTick 290 = .ok (.iload_n 2, 1) := by decide +kernel
theorem dX8_goesTick_291 : decode cX8_goesTick 291 = .ok (.iconst 2, 1) := by decide +kernel
theorem dX8_goesTick_292 : decode cX8_goesTick 292 = .ok (.iadd, 1) := by decide +kernel
theorem dX8_goesTick_293 : decode cX8_goesTick 293 = .ok (.iaload, 1) := by decide +kernel
theorem dX8_goesTick_294 : decode cX8_goesTick 294 = .ok (.if_icmp .le 14, 3) := by decide +kernel
theorem dX8_goesTick_297 : decode cX8_goesTick 297 = .ok (.aload_n 0, 1) := by decide +kernel
theorem dX8_goesTick_298 : decode cX8_goesTick 298 = .ok (.getfield 42, 3) := by decide +kernel
theorem dX8_goesTick_301 : decode cX8_goesTick 301 = .ok (.iload_n 2, 1) := by decide +kernel
theorem dX8_goesTick_302 : decode cX8_goesTick 302 = .ok (.iconst 0, 1) := by decide +kernel
theorem dX8_goesTick_303 : decode cX8_goesTick 303 = .ok (.iadd, 1) := by decide +kernel
theorem dX8_goesTick_304 : decode cX8_goesTick 304 = .ok (.iaload, 1) := by decide +kernel
theorem dX8_goesTick_305 : decode cX8_goesTick 305 = .ok (.goto 11, 3) := by decide +kernel
theorem dX8_goesTick_308 : decode cX8_goesTick 308 = .ok (.aload_n 0, 1) := by decide +kernel
theorem dX8_goesTick_309 : decode cX8_goesTick 309 = .ok (.getfield 42, 3) := by decide +kernel
theorem dX8_goesTick_312 : decode cX8_goesTick 312 = .ok (.iload_n 2, 1) := by decide +kernel
theorem dX8_goesTick_313 : decode cX8_goesTick 313 = .ok (.iconst 2, 1) := by decide +kernel
theorem dX8_goesTick_314 : decode cX8_goesTick 314 = .ok (.iadd, 1) := by decide +kernel
theorem dX8_goesTick_315 : decode cX8_goesTick 315 = .ok (.iaload, 1) := by decide +kernel
theorem dX8_goesTick_316 : decode cX8_goesTick 316 = .ok (.iastore, 1) := by decide +kernel
theorem dX8_goesTick_317 : decode cX8_goesTick 317 = .ok (.iinc 1 1, 3) := by decide +kernel
theorem dX8_goesTick_320 : decode cX8_goesTick 320 = .ok (.goto (-75), 3) := by decide +kernel
theorem dX8_goesTick_323 : decode cX8_goesTick 323 = .ok (.return_, 1) := by decide +kernel
theorem dX8_goes_0 : decode cX8_goes 0 = .ok (.aload_n 0, 1) := by decide +kernel
theorem dX8_goes_1 : decode cX8_goes 1 = .ok (.iconst 0, 1) := by decide +kernel
theorem dX8_goes_2 : decode cX8_goes 2 = .ok (.putfield 274, 3) := by decide +kernel
theorem dX8_goes_5 : decode cX8_goes 5 = .ok (.iconst 0, 1) := by decide +kernel
theorem dX8_goes_6 : decode cX8_goes 6 = .ok (.istore_n 2, 1) := by decide +kernel
theorem dX8_goes_7 : decode cX8_goes 7 = .ok (.iload_n 2, 1) := by decide +kernel
theorem dX8_goes_8 : decode cX8_goes 8 = .ok (.iload_n 1, 1) := by decide +kernel
theorem dX8_goes_9 : decode cX8_goes 9 = .ok (.if_icmp .ge 13, 3) := by decide +kernel
theorem dX8_goes_12 : decode cX8_goes 12 = .ok (.aload_n 0, 1) := by decide +kernel
theorem dX8_goes_13 : decode cX8_goes 13 = .ok (.invokevirtual 304, 3) := by decide +kernel
theorem dX8_goes_16 : decode cX8_goes 16 = .ok (.iinc 2 1, 3) := by decide +kernel
theorem dX8_goes_19 : decode cX8_goes 19 = .ok (.goto (-12), 3) := by decide +kernel
theorem dX8_goes_22 : decode cX8_goes 22 = .ok (.return_, 1) := by decide +kernel
theorem dX8_waits_0 : decode cX8_waits 0 = .ok (.aload_n 0, 1) := by decide +kernel
theorem dX8_waits_1 : decode cX8_waits 1 = .ok (.invokevirtual 200, 3) := by decide +kernel
theorem dX8_waits_4 : decode cX8_waits 4 = .ok (.aload_n 0, 1) := by decide +kernel
theorem dX8_waits_5 : decode cX8_waits 5 = .ok (.iload_n 1, 1) := by decide +kernel
theorem dX8_waits_6 : decode cX8_waits 6 = .ok (.invokevirtual 224, 3) := by decide +kernel
theorem dX8_waits_9 : decode cX8_waits 9 = .ok (.ifCond .eq 25, 3) := by decide +kernel
theorem dX8_waits_12 : decode cX8_waits 12 = .ok (.iload_n 2, 1) := by decide +kernel
theorem dX8_waits_13 : decode cX8_waits 13 = .ok (.iconst 0, 1) := by decide +kernel
theorem dX8_waits_14 : decode cX8_waits 14 = .ok (.iconst 4, 1) := by decide +kernel
theorem dX8_waits_15 : decode cX8_waits 15 = .ok (.invokestatic 80, 3) := by decide +kernel
theorem dX8_waits_18 : decode cX8_waits 18 = .ok (.ifCond .eq 16, 3) := by decide +kernel
theorem dX8_waits_21 : decode cX8_waits 21 = .ok (.aload_n 0, 1) := by decide +kernel
theorem dX8_waits_22 : decode cX8_waits 22 = .ok (.getfield 42, 3) := by decide +kernel
theorem dX8_waits_25 : decode cX8_waits 25 = .ok (.iload_n 1, 1) := by decide +kernel
theorem dX8_waits_26 : decode cX8_waits 26 = .ok (.iload_n 2, 1) := by decide +kernel
theorem dX8_waits_27 : decode cX8_waits 27 = .ok (.invokestatic 246, 3) := by decide +kernel
theorem dX8_waits_30 : decode cX8_waits 30 = .ok (.iaload, 1) := by decide +kernel
theorem dX8_waits_31 : decode cX8_waits 31 = .ok (.goto 8, 3) := by decide +kernel
theorem dX8_waits_34 : decode cX8_waits 34 = .ok (.aload_n 0, 1) := by decide +kernel
theorem dX8_waits_35 : decode cX8_waits 35 = .ok (.iconst 1, 1) := by decide +kernel
theorem dX8_waits_36 : decode cX8_waits 36 = .ok (.invokevirtual 203, 3) := by decide +kernel
theorem dX8_waits_39 : decode cX8_waits 39 = .ok (.ireturn, 1) := by decide +kernel
theorem dX8_credit_0 : decode cX8_credit 0 = .ok (.aload_n 0, 1) := by decide +kernel
theorem dX8_credit_1 : decode cX8_credit 1 = .ok (.invokevirtual 200, 3) := by decide +kernel
theorem dX8_credit_4 : decode cX8_credit 4 = .ok (.aload_n 0, 1) := by decide +kernel
theorem dX8_credit_5 : decode cX8_credit 5 = .ok (.iload_n 2, 1) := by decide +kernel
theorem dX8_credit_6 : decode cX8_credit 6 = .ok (.invokevirtual 224, 3) := by decide +kernel
theorem dX8_credit_9 : decode cX8_credit 9 = .ok (.ifCond .eq 29, 3) := by decide +kernel
theorem dX8_credit_12 : decode cX8_credit 12 = .ok (.iload_n 1, 1) := by decide +kernel
theorem dX8_credit_13 : decode cX8_credit 13 = .ok (.iconst 0, 1) := by decide +kernel
theorem dX8_credit_14 : decode cX8_credit 14 = .ok (.iconst 1, 1) := by decide +kernel
theorem dX8_credit_15 : decode cX8_credit 15 = .ok (.invokestatic 80, 3) := by decide +kernel
theorem dX8_credit_18 : decode cX8_credit 18 = .ok (.ifCond .eq 20, 3) := by decide +kernel
theorem dX8_credit_21 : decode cX8_credit 21 = .ok (.aload_n 0, 1) := by decide +kernel
theorem dX8_credit_22 : decode cX8_credit 22 = .ok (.getfield 42, 3) := by decide +kernel
theorem dX8_credit_25 : decode cX8_credit 25 = .ok (.bipush 41, 2) := by decide +kernel
theorem dX8_credit_27 : decode cX8_credit 27 = .ok (.bipush 8, 2) := by decide +kernel
theorem dX8_credit_29 : decode cX8_credit 29 = .ok (.iload_n 1, 1) := by decide +kernel
theorem dX8_credit_30 : decode cX8_credit 30 = .ok (.imul, 1) := by decide +kernel
theorem dX8_credit_31 : decode cX8_credit 31 = .ok (.iadd, 1) := by decide +kernel
theorem dX8_credit_32 : decode cX8_credit 32 = .ok (.iload_n 2, 1) := by decide +kernel
theorem dX8_credit_33 : decode cX8_credit 33 = .ok (.iadd, 1) := by decide +kernel
theorem dX8_credit_34 : decode cX8_credit 34 = .ok (.iaload, 1) := by decide +kernel
theorem dX8_credit_35 : decode cX8_credit 35 = .ok (.goto 8, 3) := by decide +kernel
theorem dX8_credit_38 : decode cX8_credit 38 = .ok (.aload_n 0, 1) := by decide +kernel
theorem dX8_credit_39 : decode cX8_credit 39 = .ok (.iconst 1, 1) := by decide +kernel
theorem dX8_credit_40 : decode cX8_credit 40 = .ok (.invokevirtual 203, 3) := by decide +kernel
theorem dX8_credit_43 : decode cX8_credit 43 = .ok (.ireturn, 1) := by decide +kernel
theorem dX8_port_0 : decode cX8_port 0 = .ok (.aload_n 0, 1) := by decide +kernel
theorem dX8_port_1 : decode cX8_port 1 = .ok (.invokevirtual 200, 3) := by decide +kernel
theorem dX8_port_4 : decode cX8_port 4 = .ok (.aload_n 0, 1) := by decide +kernel
theorem dX8_port_5 : decode cX8_port 5 = .ok (.iload_n 2, 1) := by decide +kernel
theorem dX8_port_6 : decode cX8_port 6 = .ok (.invokevirtual 307, 3) := by decide +kernel
theorem dX8_port_9 : decode cX8_port 9 = .ok (.ifCond .eq 12, 3) := by decide +kernel
theorem dX8_port_12 : decode cX8_port 12 = .ok (.iload_n 1, 1) := by decide +kernel
theorem dX8_port_13 : decode cX8_port 13 = .ok (.iconst 0, 1) := by decide +kernel
theorem dX8_port_14 : decode cX8_port 14 = .ok (.iconst 1, 1) := by decide +kernel
theorem dX8_port_15 : decode cX8_port 15 = .ok (.invokestatic 80, 3) := by decide +kernel
theorem dX8_port_18 : decode cX8_port 18 = .ok (.ifCond .ne 9, 3) := by decide +kernel
theorem dX8_port_21 : decode cX8_port 21 = .ok (.aload_n 0, 1) := by decide +kernel
theorem dX8_port_22 : decode cX8_port 22 = .ok (.iconst 1, 1) := by decide +kernel
theorem dX8_port_23 : decode cX8_port 23 = .ok (.invokevirtual 203, 3) := by decide +kernel
theorem dX8_port_26 : decode cX8_port 26 = .ok (.ireturn, 1) := by decide +kernel
theorem dX8_port_27 : decode cX8_port 27 = .ok (.iload_n 1, 1) := by decide +kernel
