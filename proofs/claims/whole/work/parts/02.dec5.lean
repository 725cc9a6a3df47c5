theorem dX8_port_28 : decode cX8_port 28 = .ok (.iload_n 2, 1) := by decide +kernel
theorem dX8_port_29 : decode cX8_port 29 = .ok (.invokestatic 255, 3) := by decide +kernel
theorem dX8_port_32 : decode cX8_port 32 = .ok (.istore 4, 2) := by decide +kernel
theorem dX8_port_34 : decode cX8_port 34 = .ok (.iload_n 3, 1) := by decide +kernel
theorem dX8_port_35 : decode cX8_port 35 = .ok (.tableswitch 88 0 3 #[29, 39, 68, 78], 29) := by decide +kernel
theorem dX8_port_64 : decode cX8_port 64 = .ok (.aload_n 0, 1) := by decide +kernel
theorem dX8_port_65 : decode cX8_port 65 = .ok (.getfield 42, 3) := by decide +kernel
theorem dX8_port_68 : decode cX8_port 68 = .ok (.iload 4, 2) := by decide +kernel
theorem dX8_port_70 : decode cX8_port 70 = .ok (.iconst 0, 1) := by decide +kernel
theorem dX8_port_71 : decode cX8_port 71 = .ok (.iadd, 1) := by decide +kernel
theorem dX8_port_72 : decode cX8_port 72 = .ok (.iaload, 1) := by decide +kernel
theorem dX8_port_73 : decode cX8_port 73 = .ok (.ireturn, 1) := by decide +kernel
theorem dX8_port_74 : decode cX8_port 74 = .ok (.aload_n 0, 1) := by decide +kernel
theorem dX8_port_75 : decode cX8_port 75 = .ok (.getfield 42, 3) := by decide +kernel
theorem dX8_port_78 : decode cX8_port 78 = .ok (.iload 4, 2) := by decide +kernel
theorem dX8_port_80 : decode cX8_port 80 = .ok (.iconst 1, 1) := by decide +kernel
theorem dX8_port_81 : decode cX8_port 81 = .ok (.iadd, 1) := by decide +kernel
theorem dX8_port_82 : decode cX8_port 82 = .ok (.iaload, 1) := by decide +kernel
theorem dX8_port_83 : decode cX8_port 83 = .ok (.bipush (-2), 2) := by decide +kernel
theorem dX8_port_85 : decode cX8_port 85 = .ok (.if_icmp .ne 8, 3) := by decide +kernel
theorem dX8_port_88 : decode cX8_port 88 = .ok (.bipush (-2), 2) := by decide +kernel
theorem dX8_port_90 : decode cX8_port 90 = .ok (.goto 12, 3) := by decide +kernel
theorem dX8_port_93 : decode cX8_port 93 = .ok (.aload_n 0, 1) := by decide +kernel
theorem dX8_port_94 : decode cX8_port 94 = .ok (.getfield 42, 3) := by decide +kernel
theorem dX8_port_97 : decode cX8_port 97 = .ok (.iload 4, 2) := by decide +kernel
theorem dX8_port_99 : decode cX8_port 99 = .ok (.iconst 3, 1) := by decide +kernel
theorem dX8_port_100 : decode cX8_port 100 = .ok (.iadd, 1) := by decide +kernel
theorem dX8_port_101 : decode cX8_port 101 = .ok (.iaload, 1) := by decide +kernel
theorem dX8_port_102 : decode cX8_port 102 = .ok (.ireturn, 1) := by decide +kernel
theorem dX8_port_103 : decode cX8_port 103 = .ok (.aload_n 0, 1) := by decide +kernel
theorem dX8_port_104 : decode cX8_port 104 = .ok (.getfield 42, 3) := by decide +kernel
theorem dX8_port_107 : decode cX8_port 107 = .ok (.iload 4, 2) := by decide +kernel
theorem dX8_port_109 : decode cX8_port 109 = .ok (.iconst 1, 1) := by decide +kernel
theorem dX8_port_110 : decode cX8_port 110 = .ok (.iadd, 1) := by decide +kernel
theorem dX8_port_111 : decode cX8_port 111 = .ok (.iaload, 1) := by decide +kernel
theorem dX8_port_112 : decode cX8_port 112 = .ok (.ireturn, 1) := by decide +kernel
theorem dX8_port_113 : decode cX8_port 113 = .ok (.aload_n 0, 1) := by decide +kernel
theorem dX8_port_114 : decode cX8_port 114 = .ok (.getfield 42, 3) := by decide +kernel
theorem dX8_port_117 : decode cX8_port 117 = .ok (.iload 4, 2) := by decide +kernel
theorem dX8_port_119 : decode cX8_port 119 = .ok (.iconst 2, 1) := by decide +kernel
theorem dX8_port_120 : decode cX8_port 120 = .ok (.iadd, 1) := by decide +kernel
theorem dX8_port_121 : decode cX8_port 121 = .ok (.iaload, 1) := by decide +kernel
theorem dX8_port_122 : decode cX8_port 122 = .ok (.ireturn, 1) := by decide +kernel
theorem dX8_port_123 : decode cX8_port 123 = .ok (.aload_n 0, 1) := by decide +kernel
theorem dX8_port_124 : decode cX8_port 124 = .ok (.iconst 1, 1) := by decide +kernel
theorem dX8_port_125 : decode cX8_port 125 = .ok (.invokevirtual 203, 3) := by decide +kernel
theorem dX8_port_128 : decode cX8_port 128 = .ok (.ireturn, 1) := by decide +kernel
theorem dX8_frame_0 : decode cX8_frame 0 = .ok (.aload_n 0, 1) := by decide +kernel
theorem dX8_frame_1 : decode cX8_frame 1 = .ok (.invokevirtual 200, 3) := by decide +kernel
theorem dX8_frame_4 : decode cX8_frame 4 = .ok (.aload_n 0, 1) := by decide +kernel
theorem dX8_frame_5 : decode cX8_frame 5 = .ok (.iload_n 2, 1) := by decide +kernel
theorem dX8_frame_6 : decode cX8_frame 6 = .ok (.invokevirtual 307, 3) := by decide +kernel
theorem dX8_frame_9 : decode cX8_frame 9 = .ok (.ifCond .eq 44, 3) := by decide +kernel
theorem dX8_frame_12 : decode cX8_frame 12 = .ok (.iload_n 1, 1) := by decide +kernel
theorem dX8_frame_13 : decode cX8_frame 13 = .ok (.iconst 0, 1) := by decide +kernel
theorem dX8_frame_14 : decode cX8_frame 14 = .ok (.iconst 1, 1) := by decide +kernel
theorem dX8_frame_15 : decode cX8_frame 15 = .ok (.invokestatic 80, 3) := by decide +kernel
theorem dX8_frame_18 : decode cX8_frame 18 = .ok (.ifCond .eq 35, 3) := by decide +kernel
theorem dX8_frame_21 : decode cX8_frame 21 = .ok (.iload 4, 2) := by decide +kernel
theorem dX8_frame_23 : decode cX8_frame 23 = .ok (.iconst 0, 1) := by decide +kernel
theorem dX8_frame_24 : decode cX8_frame 24 = .ok (.iconst 2, 1) := by decide +kernel
theorem dX8_frame_25 : decode cX8_frame 25 = .ok (.invokestatic 80, 3) := by decide +kernel
theorem dX8_frame_28 : decode cX8_frame 28 = .ok (.ifCond .eq 25, 3) := by decide +kernel
theorem dX8_frame_31 : decode cX8_frame 31 = .ok (.iload_n 3, 1) := by decide +kernel
theorem dX8_frame_32 : decode cX8_frame 32 = .ok (.iconst 0, 1) := by decide +kernel
theorem dX8_frame_33 : decode cX8_frame 33 = .ok (.aload_n 0, 1) := by decide +kernel
theorem dX8_frame_34 : decode cX8_frame 34 = .ok (.getfield 42, 3) := by decide +kernel
theorem dX8_frame_37 : decode cX8_frame 37 = .ok (.iload_n 1, 1) := by decide +kernel
theorem dX8_frame_38 : decode cX8_frame 38 = .ok (.iload_n 2, 1) := by decide +kernel
theorem dX8_frame_39 : decode cX8_frame 39 = .ok (.invokestatic 255, 3) := by decide +kernel
theorem dX8_frame_42 : decode cX8_frame 42 = .ok (.iconst 0, 1) := by decide +kernel
theorem dX8_frame_43 : decode cX8_frame 43 = .ok (.iadd, 1) := by decide +kernel
theorem dX8_frame_44 : decode cX8_frame 44 = .ok (.iaload, 1) := by decide +kernel
theorem dX8_frame_45 : decode cX8_frame 45 = .ok (.iconst 1, 1) := by decide +kernel
theorem dX8_frame_46 : decode cX8_frame 46 = .ok (.isub, 1) := by decide +kernel
theorem dX8_frame_47 : decode cX8_frame 47 = .ok (.invokestatic 80, 3) := by decide +kernel
theorem dX8_frame_50 : decode cX8_frame 50 = .ok (.ifCond .ne 9, 3) := by decide +kernel
theorem dX8_frame_53 : decode cX8_frame 53 = .ok (.aload_n 0, 1) := by decide +kernel
theorem dX8_frame_54 : decode cX8_frame 54 = .ok (.iconst 1, 1) := by decide +kernel
theorem dX8_frame_55 : decode cX8_frame 55 = .ok (.invokevirtual 203, 3) := by decide +kernel
theorem dX8_frame_58 : decode cX8_frame 58 = .ok (.ireturn, 1) := by decide +kernel
theorem dX8_frame_59 : decode cX8_frame 59 = .ok (.aload_n 0, 1) := by decide +kernel
theorem dX8_frame_60 : decode cX8_frame 60 = .ok (.getfield 42, 3) := by decide +kernel
theorem dX8_frame_63 : decode cX8_frame 63 = .ok (.iload_n 1, 1) := by decide +kernel
theorem dX8_frame_64 : decode cX8_frame 64 = .ok (.iload_n 2, 1) := by decide +kernel
theorem dX8_frame_65 : decode cX8_frame 65 = .ok (.invokestatic 255, 3) := by decide +kernel
theorem dX8_frame_68 : decode cX8_frame 68 = .ok (.iconst 3, 1) := by decide +kernel
theorem dX8_frame_69 : decode cX8_frame 69 = .ok (.iadd, 1) := by decide +kernel
theorem dX8_frame_70 : decode cX8_frame 70 = .ok (.iconst 3, 1) := by decide +kernel
theorem dX8_frame_71 : decode cX8_frame 71 = .ok (.iload_n 3, 1) := by decide +kernel
theorem dX8_frame_72 : decode cX8_frame 72 = .ok (.imul, 1) := by decide +kernel
theorem dX8_frame_73 : decode cX8_frame 73 = .ok (.iadd, 1) := by decide +kernel
theorem dX8_frame_74 : decode cX8_frame 74 = .ok (.iload 4, 2) := by decide +kernel
theorem dX8_frame_76 : decode cX8_frame 76 = .ok (.iadd, 1) := by decide +kernel
theorem dX8_frame_77 : decode cX8_frame 77 = .ok (.iaload, 1) := by decide +kernel
theorem dX8_frame_78 : decode cX8_frame 78 = .ok (.ireturn, 1) := by decide +kernel
theorem dX8_isLoss_0 : decode cX8_isLoss 0 = .ok (.aload_n 0, 1) := by decide +kernel
theorem dX8_isLoss_1 : decode cX8_isLoss 1 = .ok (.getfield 212, 3) := by decide +kernel
theorem dX8_isLoss_4 : decode cX8_isLoss 4 = .ok (.ifCond .eq 25, 3) := by decide +kernel
theorem dX8_isLoss_7 : decode cX8_isLoss 7 = .ok (.iload_n 1, 1) := by decide +kernel
theorem dX8_isLoss_8 : decode cX8_isLoss 8 = .ok (.iconst 0, 1) := by decide +kernel
theorem dX8_isLoss_9 : decode cX8_isLoss 9 = .ok (.iconst 1, 1) := by decide +kernel
theorem dX8_isLoss_10 : decode cX8_isLoss 10 = .ok (.invokestatic 80, 3) := by decide +kernel
theorem dX8_isLoss_13 : decode cX8_isLoss 13 = .ok (.ifCond .eq 16, 3) := by decide +kernel
theorem dX8_isLoss_16 : decode cX8_isLoss 16 = .ok (.iload_n 2, 1) := by decide +kernel
theorem dX8_isLoss_17 : decode cX8_isLoss 17 = .ok (.iconst 0, 1) := by decide +kernel
theorem dX8_isLoss_18 : decode cX8_isLoss 18 = .ok (.iconst 2, 1) := by decide +kernel
theorem dX8_isLoss_19 : decode cX8_isLoss 19 = .ok (.invokestatic 80, 3) := by decide +kernel
theorem dX8_isLoss_22 : decode cX8_isLoss 22 = .ok (.ifCond .eq 7, 3) := by decide +kernel
theorem dX8_isLoss_25 : decode cX8_isLoss 25 = .ok (.iconst 1, 1) := by decide +kernel
theorem dX8_isLoss_26 : decode cX8_isLoss 26 = .ok (.goto 4, 3) := by decide +kernel
theorem dX8_isLoss_29 : decode cX8_isLoss 29 = .ok (.iconst 0, 1) := by decide +kernel
theorem dX8_isLoss_30 : decode cX8_isLoss 30 = .ok (.ireturn, 1) := by decide +kernel
theorem dX8_lost_0 : decode cX8_lost 0 = .ok (.aload_n 0, 1) := by decide +kernel
theorem dX8_lost_1 : decode cX8_lost 1 = .ok (.invokevirtual 200, 3) := by decide +kernel
theorem dX8_lost_4 : decode cX8_lost 4 = .ok (.aload_n 0, 1) := by decide +kernel
theorem dX8_lost_5 : decode cX8_lost 5 = .ok (.iload_n 1, 1) := by decide +kernel
theorem dX8_lost_6 : decode cX8_lost 6 = .ok (.iload_n 2, 1) := by decide +kernel
theorem dX8_lost_7 : decode cX8_lost 7 = .ok (.invokevirtual 310, 3) := by decide +kernel
theorem dX8_lost_10 : decode cX8_lost 10 = .ok (.ifCond .eq 19, 3) := by decide +kernel
theorem dX8_lost_13 : decode cX8_lost 13 = .ok (.aload_n 0, 1) := by decide +kernel
theorem dX8_lost_14 : decode cX8_lost 14 = .ok (.getfield 42, 3) := by decide +kernel
theorem dX8_lost_17 : decode cX8_lost 17 = .ok (.bipush 73, 2) := by decide +kernel
theorem dX8_lost_19 : decode cX8_lost 19 = .ok (.iconst 3, 1) := by decide +kernel
theorem dX8_lost_20 : decode cX8_lost 20 = .ok (.iload_n 1, 1) := by decide +kernel
theorem dX8_lost_21 : decode cX8_lost 21 = .ok (.imul, 1) := by decide +kernel
theorem dX8_lost_22 : decode cX8_lost 22 = .ok (.iadd, 1) := by decide +kernel
theorem dX8_lost_23 : decode cX8_lost 23 = .ok (.iload_n 2, 1) := by decide +kernel
theorem dX8_lost_24 : decode cX8_lost 24 = .ok (.iadd, 1) := by decide +kernel
theorem dX8_lost_25 : decode cX8_lost 25 = .ok (.iaload, 1) := by decide +kernel
theorem dX8_lost_26 : decode cX8_lost 26 = .ok (.goto 8, 3) := by decide +kernel
theorem dX8_lost_29 : decode cX8_lost 29 = .ok (.aload_n 0, 1) := by decide +kernel
theorem dX8_lost_30 : decode cX8_lost 30 = .ok (.iconst 1, 1) := by decide +kernel
theorem dX8_lost_31 : decode cX8_lost 31 = .ok (.invokevirtual 203, 3) := by decide +kernel
theorem dX8_lost_34 : decode cX8_lost 34 = .ok (.ireturn, 1) := by decide +kernel
theorem dX8_policed_0 : decode cX8_policed 0 = .ok (.aload_n 0, 1) := by decide +kernel
theorem dX8_policed_1 : decode cX8_policed 1 = .ok (.invokevirtual 200, 3) := by decide +kernel
theorem dX8_policed_4 : decode cX8_policed 4 = .ok (.aload_n 0, 1) := by decide +kernel
theorem dX8_policed_5 : decode cX8_policed 5 = .ok (.iload_n 2, 1) := by decide +kernel
theorem dX8_policed_6 : decode cX8_policed 6 = .ok (.invokevirtual 224, 3) := by decide +kernel
theorem dX8_policed_9 : decode cX8_policed 9 = .ok (.ifCond .eq 29, 3) := by decide +kernel
theorem dX8_policed_12 : decode cX8_policed 12 = .ok (.iload_n 1, 1) := by decide +kernel
theorem dX8_policed_13 : decode cX8_policed 13 = .ok (.iconst 0, 1) := by decide +kernel
theorem dX8_policed_14 : decode cX8_policed 14 = .ok (.iconst 1, 1) := by decide +kernel
theorem dX8_policed_15 : decode cX8_policed 15 = .ok (.invokestatic 80, 3) := by decide +kernel
theorem dX8_policed_18 : decode cX8_policed 18 = .ok (.ifCond .eq 20, 3) := by decide +kernel
theorem dX8_policed_21 : decode cX8_policed 21 = .ok (.aload_n 0, 1) := by decide +kernel
theorem dX8_policed_22 : decode cX8_policed 22 = .ok (.getfield 42, 3) := by decide +kernel
theorem dX8_policed_25 : decode cX8_policed 25 = .ok (.bipush 57, 2) := by decide +kernel
theorem dX8_policed_27 : decode cX8_policed 27 = .ok (.bipush 8, 2) := by decide +kernel
theorem dX8_policed_29 : decode cX8_policed 29 = .ok (.iload_n 1, 1) := by decide +kernel
theorem dX8_policed_30 : decode cX8_policed 30 = .ok (.imul, 1) := by decide +kernel
theorem dX8_policed_31 : decode cX8_policed 31 = .ok (.iadd, 1) := by decide +kernel
theorem dX8_policed_32 : decode cX8_policed 32 = .ok (.iload_n 2, 1) := by decide +kernel
theorem dX8_policed_33 : decode cX8_policed 33 = .ok (.iadd, 1) := by decide +kernel
theorem dX8_policed_34 : decode cX8_policed 34 = .ok (.iaload, 1) := by decide +kernel
theorem dX8_policed_35 : decode cX8_policed 35 = .ok (.goto 8, 3) := by decide +kernel
theorem dX8_policed_38 : decode cX8_policed 38 = .ok (.aload_n 0, 1) := by decide +kernel
theorem dX8_policed_39 : decode cX8_policed 39 = .ok (.iconst 1, 1) := by decide +kernel
theorem dX8_policed_40 : decode cX8_policed 40 = .ok (.invokevirtual 203, 3) := by decide +kernel
theorem dX8_policed_43 : decode cX8_policed 43 = .ok (.ireturn, 1) := by decide +kernel
theorem dX8_heard_0 : decode cX8_heard 0 = .ok (.aload_n 0, 1) := by decide +kernel
theorem dX8_heard_1 : decode cX8_heard 1 = .ok (.invokevirtual 200, 3) := by decide +kernel
theorem dX8_heard_4 : decode cX8_heard 4 = .ok (.aload_n 0, 1) := by decide +kernel
theorem dX8_heard_5 : decode cX8_heard 5 = .ok (.iload_n 1, 1) := by decide +kernel
theorem dX8_heard_6 : decode cX8_heard 6 = .ok (.iload_n 2, 1) := by decide +kernel
theorem dX8_heard_7 : decode cX8_heard 7 = .ok (.iload_n 3, 1) := by decide +kernel
theorem dX8_heard_8 : decode cX8_heard 8 = .ok (.invokevirtual 243, 3) := by decide +kernel
theorem dX8_heard_11 : decode cX8_heard 11 = .ok (.ifCond .eq 24, 3) := by decide +kernel
theorem dX8_heard_14 : decode cX8_heard 14 = .ok (.iload_n 3, 1) := by decide +kernel
theorem dX8_heard_15 : decode cX8_heard 15 = .ok (.bipush 7, 2) := by decide +kernel
theorem dX8_heard_17 : decode cX8_heard 17 = .ok (.if_icmp .gt 18, 3) := by decide +kernel
theorem dX8_heard_20 : decode cX8_heard 20 = .ok (.aload_n 0, 1) := by decide +kernel
theorem dX8_heard_21 : decode cX8_heard 21 = .ok (.getfield 42, 3) := by decide +kernel
theorem dX8_heard_24 : decode cX8_heard 24 = .ok (.iload_n 1, 1) := by decide +kernel
theorem dX8_heard_25 : decode cX8_heard 25 = .ok (.iload_n 2, 1) := by decide +kernel
theorem dX8_heard_26 : decode cX8_heard 26 = .ok (.invokestatic 252, 3) := by decide +kernel
theorem dX8_heard_29 : decode cX8_heard 29 = .ok (.iload_n 3, 1) := by decide +kernel
theorem dX8_heard_30 : decode cX8_heard 30 = .ok (.iadd, 1) := by decide +kernel
theorem dX8_heard_31 : decode cX8_heard 31 = .ok (.iaload, 1) := by decide +kernel
theorem dX8_heard_32 : decode cX8_heard 32 = .ok (.goto 8, 3) := by decide +kernel
theorem dX8_heard_35 : decode cX8_heard 35 = .ok (.aload_n 0, 1) := by decide +kernel
theorem dX8_heard_36 : decode cX8_heard 36 = .ok (.iconst 1, 1) := by decide +kernel
theorem dX8_heard_37 : decode cX8_heard 37 = .ok (.invokevirtual 203, 3) := by decide +kernel
theorem dX8_heard_40 : decode cX8_heard 40 = .ok (.ireturn, 1) := by decide +kernel
theorem dX8_seen_0 : decode cX8_seen 0 = .ok (.aload_n 0, 1) := by decide +kernel
theorem dX8_seen_1 : decode cX8_seen 1 = .ok (.invokevirtual 200, 3) := by decide +kernel
theorem dX8_seen_4 : decode cX8_seen 4 = .ok (.aload_n 0, 1) := by decide +kernel
theorem dX8_seen_5 : decode cX8_seen 5 = .ok (.iload_n 1, 1) := by decide +kernel
theorem dX8_seen_6 : decode cX8_seen 6 = .ok (.iload_n 2, 1) := by decide +kernel
theorem dX8_seen_7 : decode cX8_seen 7 = .ok (.iload_n 3, 1) := by decide +kernel
theorem dX8_seen_8 : decode cX8_seen 8 = .ok (.invokevirtual 243, 3) := by decide +kernel
theorem dX8_seen_11 : decode cX8_seen 11 = .ok (.ifCond .eq 26, 3) := by decide +kernel
theorem dX8_seen_14 : decode cX8_seen 14 = .ok (.iload_n 3, 1) := by decide +kernel
theorem dX8_seen_15 : decode cX8_seen 15 = .ok (.iconst 1, 1) := by decide +kernel
theorem dX8_seen_16 : decode cX8_seen 16 = .ok (.if_icmp .gt 21, 3) := by decide +kernel
theorem dX8_seen_19 : decode cX8_seen 19 = .ok (.aload_n 0, 1) := by decide +kernel
theorem dX8_seen_20 : decode cX8_seen 20 = .ok (.getfield 42, 3) := by decide +kernel
theorem dX8_seen_23 : decode cX8_seen 23 = .ok (.iload_n 1, 1) := by decide +kernel
theorem dX8_seen_24 : decode cX8_seen 24 = .ok (.iload_n 2, 1) := by decide +kernel
theorem dX8_seen_25 : decode cX8_seen 25 = .ok (.invokestatic 252, 3) := by decide +kernel
theorem dX8_seen_28 : decode cX8_seen 28 = .ok (.bipush 8, 2) := by decide +kernel
theorem dX8_seen_30 : decode cX8_seen 30 = .ok (.iadd, 1) := by decide +kernel
theorem dX8_seen_31 : decode cX8_seen 31 = .ok (.iload_n 3, 1) := by decide +kernel
theorem dX8_seen_32 : decode cX8_seen 32 = .ok (.iadd, 1) := by decide +kernel
theorem dX8_seen_33 : decode cX8_seen 33 = .ok (.iaload, 1) := by decide +kernel
theorem dX8_seen_34 : decode cX8_seen 34 = .ok (.goto 8, 3) := by decide +kernel
theorem dX8_seen_37 : decode cX8_seen 37 = .ok (.aload_n 0, 1) := by decide +kernel
theorem dX8_seen_38 : decode cX8_seen 38 = .ok (.iconst 1, 1) := by decide +kernel
theorem dX8_seen_39 : decode cX8_seen 39 = .ok (.invokevirtual 203, 3) := by decide +kernel
theorem dX8_seen_42 : decode cX8_seen 42 = .ok (.ireturn, 1) := by decide +kernel
theorem dX8_taken_0 : decode cX8_taken 0 = .ok (.aload_n 0, 1) := by decide +kernel
theorem dX8_taken_1 : decode cX8_taken 1 = .ok (.invokevirtual 200, 3) := by decide +kernel
theorem dX8_taken_4 : decode cX8_taken 4 = .ok (.aload_n 0, 1) := by decide +kernel
theorem dX8_taken_5 : decode cX8_taken 5 = .ok (.iload_n 1, 1) := by decide +kernel
theorem dX8_taken_6 : decode cX8_taken 6 = .ok (.iload_n 2, 1) := by decide +kernel
theorem dX8_taken_7 : decode cX8_taken 7 = .ok (.iload_n 3, 1) := by decide +kernel
theorem dX8_taken_8 : decode cX8_taken 8 = .ok (.invokevirtual 243, 3) := by decide +kernel
theorem dX8_taken_11 : decode cX8_taken 11 = .ok (.ifCond .eq 43, 3) := by decide +kernel
theorem dX8_taken_14 : decode cX8_taken 14 = .ok (.iload_n 3, 1) := by decide +kernel
theorem dX8_taken_15 : decode cX8_taken 15 = .ok (.bipush 10, 2) := by decide +kernel
theorem dX8_taken_17 : decode cX8_taken 17 = .ok (.if_icmp .ge 37, 3) := by decide +kernel
theorem dX8_taken_20 : decode cX8_taken 20 = .ok (.iload_n 3, 1) := by decide +kernel
theorem dX8_taken_21 : decode cX8_taken 21 = .ok (.aload_n 0, 1) := by decide +kernel
theorem dX8_taken_22 : decode cX8_taken 22 = .ok (.getfield 42, 3) := by decide +kernel
theorem dX8_taken_25 : decode cX8_taken 25 = .ok (.iload_n 1, 1) := by decide +kernel
theorem dX8_taken_26 : decode cX8_taken 26 = .ok (.iload_n 2, 1) := by decide +kernel
theorem dX8_taken_27 : decode cX8_taken 27 = .ok (.invokestatic 252, 3) := by decide +kernel
theorem dX8_taken_30 : decode cX8_taken 30 = .ok (.iconst 0, 1) := by decide +kernel
theorem dX8_taken_31 : decode cX8_taken 31 = .ok (.iadd, 1) := by decide +kernel
theorem dX8_taken_32 : decode cX8_taken 32 = .ok (.iaload, 1) := by decide +kernel
theorem dX8_taken_33 : decode cX8_taken 33 = .ok (.if_icmp .ge 21, 3) := by decide +kernel
theorem dX8_taken_36 : decode cX8_taken 36 = .ok (.aload_n 0, 1) := by decide +kernel
theorem dX8_taken_37 : decode cX8_taken 37 = .ok (.getfield 42, 3) := by decide +kernel
theorem dX8_taken_40 : decode cX8_taken 40 = .ok (.iload_n 1, 1) := by decide +kernel
theorem dX8_taken_41 : decode cX8_taken 41 = .ok (.iload_n 2, 1) := by decide +kernel
theorem dX8_taken_42 : decode cX8_taken 42 = .ok (.invokestatic 252, 3) := by decide +kernel
theorem dX8_taken_45 : decode cX8_taken 45 = .ok (.bipush 10, 2) := by decide +kernel
theorem dX8_taken_47 : decode cX8_taken 47 = .ok (.iadd, 1) := by decide +kernel
theorem dX8_taken_48 : decode cX8_taken 48 = .ok (.iload_n 3, 1) := by decide +kernel
theorem dX8_taken_49 : decode cX8_taken 49 = .ok (.iadd, 1) := by decide +kernel
theorem dX8_taken_50 : decode cX8_taken 50 = .ok (.iaload, 1) := by decide +kernel
theorem dX8_taken_51 : decode cX8_taken 51 = .ok (.goto 8, 3) := by decide +kernel
theorem dX8_taken_54 : decode cX8_taken 54 = .ok (.aload_n 0, 1) := by decide +kernel
theorem dX8_taken_55 : decode cX8_taken 55 = .ok (.iconst 1, 1) := by decide +kernel
theorem dX8_taken_56 : decode cX8_taken 56 = .ok (.invokevirtual 203, 3) := by decide +kernel
theorem dX8_taken_59 : decode cX8_taken 59 = .ok (.ireturn, 1) := by decide +kernel
theorem dX8_part_0 : decode cX8_part 0 = .ok (.lload_n 0, 1) := by decide +kernel
theorem dX8_part_1 : decode cX8_part 1 = .ok (.lstore 5, 2) := by decide +kernel
theorem dX8_part_3 : decode cX8_part 3 = .ok (.lload_n 2, 1) := by decide +kernel
theorem dX8_part_4 : decode cX8_part 4 = .ok (.lstore 7, 2) := by decide +kernel
theorem dX8_part_6 : decode cX8_part 6 = .ok (.lload 7, 2) := by decide +kernel
theorem dX8_part_8 : decode cX8_part 8 = .ok (.lconst 0, 1) := by decide +kernel
theorem dX8_part_9 : decode cX8_part 9 = .ok (.lcmp, 1) := by decide +kernel
theorem dX8_part_10 : decode cX8_part 10 = .ok (.ifCond .eq 21, 3) := by decide +kernel
theorem dX8_part_13 : decode cX8_part 13 = .ok (.lload 5, 2) := by decide +kernel
theorem dX8_part_15 : decode cX8_part 15 = .ok (.lload 7, 2) := by decide +kernel
theorem dX8_part_17 : decode cX8_part 17 = .ok (.lrem, 1) := by decide +kernel
theorem dX8_part_18 : decode cX8_part 18 = .ok (.lstore 9, 2) := by decide +kernel
theorem dX8_part_20 : decode cX8_part 20 = .ok (.lload 7, 2) := by decide +kernel
theorem dX8_part_22 : decode cX8_part 22 = .ok (.lstore 5, 2) := by decide +kernel
theorem dX8_part_24 : decode cX8_part 24 = .ok (.lload 9, 2) := by decide +kernel
theorem dX8_part_26 : decode cX8_part 26 = .ok (.lstore 7, 2) := by decide +kernel
theorem dX8_part_28 : decode cX8_part 28 = .ok (.goto (-22), 3) := by decide +kernel
theorem dX8_part_31 : decode cX8_part 31 = .ok (.iload 4, 2) := by decide +kernel
theorem dX8_part_33 : decode cX8_part 33 = .ok (.ifCond .eq 7, 3) := by decide +kernel
theorem dX8_part_36 : decode cX8_part 36 = .ok (.lload_n 2, 1) := by decide +kernel
theorem dX8_part_37 : decode cX8_part 37 = .ok (.goto 4, 3) := by decide +kernel
theorem dX8_part_40 : decode cX8_part 40 = .ok (.lload_n 0, 1) := by decide +kernel
theorem dX8_part_41 : decode cX8_part 41 = .ok (.lload 5, 2) := by decide +kernel
theorem dX8_part_43 : decode cX8_part 43 = .ok (.ldiv, 1) := by decide +kernel
theorem dX8_part_44 : decode cX8_part 44 = .ok (.lreturn, 1) := by decide +kernel
theorem dX8_rateOf_0 : decode cX8_rateOf 0 = .ok (.ldc2_w 313, 3) := by decide +kernel
theorem dX8_rateOf_3 : decode cX8_rateOf 3 = .ok (.aload_n 0, 1) := by decide +kernel
theorem dX8_rateOf_4 : decode cX8_rateOf 4 = .ok (.iload_n 1, 1) := by decide +kernel
theorem dX8_rateOf_5 : decode cX8_rateOf 5 = .ok (.iconst 1, 1) := by decide +kernel
theorem dX8_rateOf_6 : decode cX8_rateOf 6 = .ok (.invokevirtual 221, 3) := by decide +kernel
theorem dX8_rateOf_9 : decode cX8_rateOf 9 = .ok (.i2l, 1) := by decide +kernel
theorem dX8_rateOf_10 : decode cX8_rateOf 10 = .ok (.ldiv, 1) := by decide +kernel
theorem dX8_rateOf_11 : decode cX8_rateOf 11 = .ok (.aload_n 0, 1) := by decide +kernel
theorem dX8_rateOf_12 : decode cX8_rateOf 12 = .ok (.iload_n 1, 1) := by decide +kernel
theorem dX8_rateOf_13 : decode cX8_rateOf 13 = .ok (.iconst 2, 1) := by decide +kernel
theorem dX8_rateOf_14 : decode cX8_rateOf 14 = .ok (.invokevirtual 221, 3) := by decide +kernel
theorem dX8_rateOf_17 : decode cX8_rateOf 17 = .ok (.i2l, 1) := by decide +kernel
theorem dX8_rateOf_18 : decode cX8_rateOf 18 = .ok (.lmul, 1) := by decide +kernel
theorem dX8_rateOf_19 : decode cX8_rateOf 19 = .ok (.lreturn, 1) := by decide +kernel
theorem dX8_loadOf_0 : decode cX8_loadOf 0 = .ok (.lconst 0, 1) := by decide +kernel
theorem dX8_loadOf_1 : decode cX8_loadOf 1 = .ok (.lstore_n 2, 1) := by decide +kernel
theorem dX8_loadOf_2 : decode cX8_loadOf 2 = .ok (.iconst 0, 1) := by decide +kernel
theorem dX8_loadOf_3 : decode cX8_loadOf 3 = .ok (.istore 4, 2) := by decide +kernel
theorem dX8_loadOf_5 : decode cX8_loadOf 5 = .ok (.iload 4, 2) := by decide +kernel
theorem dX8_loadOf_7 : decode cX8_loadOf 7 = .ok (.aload_n 0, 1) := by decide +kernel
theorem dX8_loadOf_8 : decode cX8_loadOf 8 = .ok (.getfield 17, 3) := by decide +kernel
theorem dX8_loadOf_11 : decode cX8_loadOf 11 = .ok (.bipush 6, 2) := by decide +kernel
theorem dX8_loadOf_13 : decode cX8_loadOf 13 = .ok (.iaload, 1) := by decide +kernel
theorem dX8_loadOf_14 : decode cX8_loadOf 14 = .ok (.if_icmp .ge 32, 3) := by decide +kernel
theorem dX8_loadOf_17 : decode cX8_loadOf 17 = .ok (.lload_n 2, 1) := by decide +kernel
theorem dX8_loadOf_18 : decode cX8_loadOf 18 = .ok (.aload_n 0, 1) := by decide +kernel
theorem dX8_loadOf_19 : decode cX8_loadOf 19 = .ok (.iload 4, 2) := by decide +kernel
theorem dX8_loadOf_21 : decode cX8_loadOf 21 = .ok (.iload_n 1, 1) := by decide +kernel
theorem dX8_loadOf_22 : decode cX8_loadOf 22 = .ok (.invokevirtual 315, 3) := by decide +kernel
theorem dX8_loadOf_25 : decode cX8_loadOf 25 = .ok (.ifCond .eq 12, 3) := by decide +kernel
theorem dX8_loadOf_28 : decode cX8_loadOf 28 = .ok (.aload_n 0, 1) := by decide +kernel
theorem dX8_loadOf_29 : decode cX8_loadOf 29 = .ok (.iload 4, 2) := by decide +kernel
theorem dX8_loadOf_31 : decode cX8_loadOf 31 = .ok (.invokevirtual 318, 3) := by decide +kernel
theorem dX8_loadOf_34 : decode cX8_loadOf 34 = .ok (.goto 4, 3) := by decide +kernel
theorem dX8_loadOf_37 : decode cX8_loadOf 37 = .ok (.lconst 0, 1) := by decide +kernel
theorem dX8_loadOf_38 : decode cX8_loadOf 38 = .ok (.ladd, 1) := by decide +kernel
theorem dX8_loadOf_39 : decode cX8_loadOf 39 = .ok (.lstore_n 2, 1) := by decide +kernel
theorem dX8_loadOf_40 : decode cX8_loadOf 40 = .ok (.iinc 4 1, 3) := by decide +kernel
theorem dX8_loadOf_43 : decode cX8_loadOf 43 = .ok (.goto (-38), 3) := by decide +kernel
theorem dX8_loadOf_46 : decode cX8_loadOf 46 = .ok (.lload_n 2, 1) := by decide +kernel
theorem dX8_loadOf_47 : decode cX8_loadOf 47 = .ok (.lreturn, 1) := by decide +kernel
theorem dX8_isBorne_0 : decode cX8_isBorne 0 = .ok (.iconst 0, 1) := by decide +kernel
theorem dX8_isBorne_1 : decode cX8_isBorne 1 = .ok (.istore_n 1, 1) := by decide +kernel
theorem dX8_isBorne_2 : decode cX8_isBorne 2 = .ok (.iload_n 1, 1) := by decide +kernel
theorem dX8_isBorne_3 : decode cX8_isBorne 3 = .ok (.bipush 16, 2) := by decide +kernel
theorem dX8_isBorne_5 : decode cX8_isBorne 5 = .ok (.if_icmp .ge 31, 3) := by decide +kernel
theorem dX8_isBorne_8 : decode cX8_isBorne 8 = .ok (.aload_n 0, 1) := by decide +kernel
theorem dX8_isBorne_9 : decode cX8_isBorne 9 = .ok (.iload_n 1, 1) := by decide +kernel
theorem dX8_isBorne_10 : decode cX8_isBorne 10 = .ok (.invokevirtual 307, 3) := by decide +kernel
theorem dX8_isBorne_13 : decode cX8_isBorne 13 = .ok (.ifCond .eq 17, 3) := by decide +kernel
theorem dX8_isBorne_16 : decode cX8_isBorne 16 = .ok (.aload_n 0, 1) := by decide +kernel
theorem dX8_isBorne_17 : decode cX8_isBorne 17 = .ok (.iload_n 1, 1) := by decide +kernel
theorem dX8_isBorne_18 : decode cX8_isBorne 18 = .ok (.invokevirtual 322, 3) := by decide +kernel
theorem dX8_isBorne_21 : decode cX8_isBorne 21 = .ok (.ldc2_w 313, 3) := by decide +kernel
theorem dX8_isBorne_24 : decode cX8_isBorne 24 = .ok (.lcmp, 1) := by decide +kernel
theorem dX8_isBorne_25 : decode cX8_isBorne 25 = .ok (.ifCond .le 5, 3) := by decide +kernel
theorem dX8_isBorne_28 : decode cX8_isBorne 28 = .ok (.iconst 0, 1) := by decide +kernel
theorem dX8_isBorne_29 : decode cX8_isBorne 29 = .ok (.ireturn, 1) := by decide +kernel
theorem dX8_isBorne_30 : decode cX8_isBorne 30 = .ok (.iinc 1 1, 3) := by decide +kernel
theorem dX8_isBorne_33 : decode cX8_isBorne 33 = .ok (.goto (-31), 3) := by decide +kernel
theorem dX8_isBorne_36 : decode cX8_isBorne 36 = .ok (.iconst 1, 1) := by decide +kernel
theorem dX8_isBorne_37 : decode cX8_isBorne 37 = .ok (.ireturn, 1) := by decide +kernel
theorem dX8_portAhead_0 : decode cX8_portAhead 0 = .ok (.iconst 0, 1) := by decide +kernel
theorem dX8_portAhead_1 : decode cX8_portAhead 1 = .ok (.istore_n 3, 1) := by decide +kernel
theorem dX8_portAhead_2 : decode cX8_portAhead 2 = .ok (.iload_n 3, 1) := by decide +kernel
theorem dX8_portAhead_3 : decode cX8_portAhead 3 = .ok (.aload_n 0, 1) := by decide +kernel
theorem dX8_portAhead_4 : decode cX8_portAhead 4 = .ok (.iload_n 1, 1) := by decide +kernel
theorem dX8_portAhead_5 : decode cX8_portAhead 5 = .ok (.iconst 3, 1) := by decide +kernel
theorem dX8_portAhead_6 : decode cX8_portAhead 6 = .ok (.invokevirtual 221, 3) := by decide +kernel
theorem dX8_portAhead_9 : decode cX8_portAhead 9 = .ok (.if_icmp .ge 52, 3) := by decide +kernel
theorem dX8_portAhead_12 : decode cX8_portAhead 12 = .ok (.iconst 1, 1) := by decide +kernel
theorem dX8_portAhead_13 : decode cX8_portAhead 13 = .ok (.istore 4, 2) := by decide +kernel
theorem dX8_portAhead_15 : decode cX8_portAhead 15 = .ok (.iload 4, 2) := by decide +kernel
theorem dX8_portAhead_17 : decode cX8_portAhead 17 = .ok (.aload_n 0, 1) := by decide +kernel
theorem dX8_portAhead_18 : decode cX8_portAhead 18 = .ok (.iload_n 1, 1) := by decide +kernel
theorem dX8_portAhead_19 : decode cX8_portAhead 19 = .ok (.iload_n 3, 1) := by decide +kernel
theorem dX8_portAhead_20 : decode cX8_portAhead 20 = .ok (.invokevirtual 236, 3) := by decide +kernel
theorem dX8_portAhead_23 : decode cX8_portAhead 23 = .ok (.if_icmp .ge 32, 3) := by decide +kernel
theorem dX8_portAhead_26 : decode cX8_portAhead 26 = .ok (.aload_n 0, 1) := by decide +kernel
theorem dX8_portAhead_27 : decode cX8_portAhead 27 = .ok (.iload_n 1, 1) := by decide +kernel
theorem dX8_portAhead_28 : decode cX8_portAhead 28 = .ok (.iload_n 3, 1) := by decide +kernel
theorem dX8_portAhead_29 : decode cX8_portAhead 29 = .ok (.iload 4, 2) := by decide +kernel
theorem dX8_portAhead_31 : decode cX8_portAhead 31 = .ok (.invokevirtual 239, 3) := by decide +kernel
theorem dX8_portAhead_34 : decode cX8_portAhead 34 = .ok (.iload_n 2, 1) := by decide +kernel
theorem dX8_portAhead_35 : decode cX8_portAhead 35 = .ok (.if_icmp .ne 14, 3) := by decide +kernel
theorem dX8_portAhead_38 : decode cX8_portAhead 38 = .ok (.aload_n 0, 1) := by decide +kernel
theorem dX8_portAhead_39 : decode cX8_portAhead 39 = .ok (.iload_n 1, 1) := by decide +kernel
theorem dX8_portAhead_40 : decode cX8_portAhead 40 = .ok (.iload_n 3, 1) := by decide +kernel
theorem dX8_portAhead_41 : decode cX8_portAhead 41 = .ok (.iload 4, 2) := by decide +kernel
theorem dX8_portAhead_43 : decode cX8_portAhead 43 = .ok (.iconst 1, 1) := by decide +kernel
theorem dX8_portAhead_44 : decode cX8_portAhead 44 = .ok (.isub, 1) := by decide +kernel
theorem dX8_portAhead_45 : decode cX8_portAhead 45 = .ok (.invokevirtual 239, 3) := by decide +kernel
theorem dX8_portAhead_48 : decode cX8_portAhead 48 = .ok (.ireturn, 1) := by decide +kernel
theorem dX8_portAhead_49 : decode cX8_portAhead 49 = .ok (.iinc 4 1, 3) := by decide +kernel
theorem dX8_portAhead_52 : decode cX8_portAhead 52 = .ok (.goto (-37), 3) := by decide +kernel
theorem dX8_portAhead_55 : decode cX8_portAhead 55 = .ok (.iinc 3 1, 3) := by decide +kernel
theorem dX8_portAhead_58 : decode cX8_portAhead 58 = .ok (.goto (-56), 3) := by decide +kernel
theorem dX8_portAhead_61 : decode cX8_portAhead 61 = .ok (.iconst (-1), 1) := by decide +kernel
theorem dX8_portAhead_62 : decode cX8_portAhead 62 = .ok (.ireturn, 1) := by decide +kernel
theorem dX8_burstOf_0 : decode cX8_burstOf 0 = .ok (.aload_n 0, 1) := by decide +kernel
theorem dX8_burstOf_1 : decode cX8_burstOf 1 = .ok (.iload_n 1, 1) := by decide +kernel
theorem dX8_burstOf_2 : decode cX8_burstOf 2 = .ok (.iload_n 2, 1) := by decide +kernel
theorem dX8_burstOf_3 : decode cX8_burstOf 3 = .ok (.invokevirtual 325, 3) := by decide +kernel
theorem dX8_burstOf_6 : decode cX8_burstOf 6 = .ok (.istore_n 3, 1) := by decide +kernel
theorem dX8_burstOf_7 : decode cX8_burstOf 7 = .ok (.iload_n 3, 1) := by decide +kernel
theorem dX8_burstOf_8 : decode cX8_burstOf 8 = .ok (.bipush 6, 2) := by decide +kernel
theorem dX8_burstOf_10 : decode cX8_burstOf 10 = .ok (.if_icmp .ge 29, 3) := by decide +kernel
theorem dX8_burstOf_13 : decode cX8_burstOf 13 = .ok (.ldc2_w 313, 3) := by decide +kernel
theorem dX8_burstOf_16 : decode cX8_burstOf 16 = .ok (.aload_n 0, 1) := by decide +kernel
theorem dX8_burstOf_17 : decode cX8_burstOf 17 = .ok (.iload_n 1, 1) := by decide +kernel
theorem dX8_burstOf_18 : decode cX8_burstOf 18 = .ok (.iconst 2, 1) := by decide +kernel
theorem dX8_burstOf_19 : decode cX8_burstOf 19 = .ok (.invokevirtual 221, 3) := by decide +kernel
theorem dX8_burstOf_22 : decode cX8_burstOf 22 = .ok (.i2l, 1) := by decide +kernel
theorem dX8_burstOf_23 : decode cX8_burstOf 23 = .ok (.lmul, 1) := by decide +kernel
theorem dX8_burstOf_24 : decode cX8_burstOf 24 = .ok (.aload_n 0, 1) := by decide +kernel
theorem dX8_burstOf_25 : decode cX8_burstOf 25 = .ok (.iload_n 1, 1) := by decide +kernel
theorem dX8_burstOf_26 : decode cX8_burstOf 26 = .ok (.invokevirtual 318, 3) := by decide +kernel
theorem dX8_burstOf_29 : decode cX8_burstOf 29 = .ok (.aload_n 0, 1) := by decide +kernel
theorem dX8_burstOf_30 : decode cX8_burstOf 30 = .ok (.getfield 17, 3) := by decide +kernel
theorem dX8_burstOf_33 : decode cX8_burstOf 33 = .ok (.iconst 2, 1) := by decide +kernel
theorem dX8_burstOf_34 : decode cX8_burstOf 34 = .ok (.iaload, 1) := by decide +kernel
theorem dX8_burstOf_35 : decode cX8_burstOf 35 = .ok (.i2l, 1) := by decide +kernel
theorem dX8_burstOf_36 : decode cX8_burstOf 36 = .ok (.lmul, 1) := by decide +kernel
theorem dX8_burstOf_37 : decode cX8_burstOf 37 = .ok (.ladd, 1) := by decide +kernel
theorem dX8_burstOf_38 : decode cX8_burstOf 38 = .ok (.lreturn, 1) := by decide +kernel
theorem dX8_burstOf_39 : decode cX8_burstOf 39 = .ok (.aload_n 0, 1) := by decide +kernel
theorem dX8_burstOf_40 : decode cX8_burstOf 40 = .ok (.iload_n 1, 1) := by decide +kernel
theorem dX8_burstOf_41 : decode cX8_burstOf 41 = .ok (.iload_n 3, 1) := by decide +kernel
theorem dX8_burstOf_42 : decode cX8_burstOf 42 = .ok (.invokevirtual 328, 3) := by decide +kernel
theorem dX8_burstOf_45 : decode cX8_burstOf 45 = .ok (.aload_n 0, 1) := by decide +kernel
theorem dX8_burstOf_46 : decode cX8_burstOf 46 = .ok (.iload_n 3, 1) := by decide +kernel
theorem dX8_burstOf_47 : decode cX8_burstOf 47 = .ok (.invokevirtual 332, 3) := by decide +kernel
theorem dX8_burstOf_50 : decode cX8_burstOf 50 = .ok (.aload_n 0, 1) := by decide +kernel
theorem dX8_burstOf_51 : decode cX8_burstOf 51 = .ok (.iload_n 1, 1) := by decide +kernel
theorem dX8_burstOf_52 : decode cX8_burstOf 52 = .ok (.iconst 1, 1) := by decide +kernel
theorem dX8_burstOf_53 : decode cX8_burstOf 53 = .ok (.invokevirtual 221, 3) := by decide +kernel
theorem dX8_burstOf_56 : decode cX8_burstOf 56 = .ok (.i2l, 1) := by decide +kernel
theorem dX8_burstOf_57 : decode cX8_burstOf 57 = .ok (.ldiv, 1) := by decide +kernel
theorem dX8_burstOf_58 : decode cX8_burstOf 58 = .ok (.aload_n 0, 1) := by decide +kernel
theorem dX8_burstOf_59 : decode cX8_burstOf 59 = .ok (.iload_n 1, 1) := by decide +kernel
theorem dX8_burstOf_60 : decode cX8_burstOf 60 = .ok (.iconst 2, 1) := by decide +kernel
theorem dX8_burstOf_61 : decode cX8_burstOf 61 = .ok (.invokevirtual 221, 3) := by decide +kernel
theorem dX8_burstOf_64 : decode cX8_burstOf 64 = .ok (.i2l, 1) := by decide +kernel
theorem dX8_burstOf_65 : decode cX8_burstOf 65 = .ok (.lmul, 1) := by decide +kernel
theorem dX8_burstOf_66 : decode cX8_burstOf 66 = .ok (.ladd, 1) := by decide +kernel
theorem dX8_burstOf_67 : decode cX8_burstOf 67 = .ok (.lreturn, 1) := by decide +kernel
theorem dX8_delayOf_0 : decode cX8_delayOf 0 = .ok (.lconst 0, 1) := by decide +kernel
theorem dX8_delayOf_1 : decode cX8_delayOf 1 = .ok (.lstore_n 2, 1) := by decide +kernel
theorem dX8_delayOf_2 : decode cX8_delayOf 2 = .ok (.iconst 0, 1) := by decide +kernel
theorem dX8_delayOf_3 : decode cX8_delayOf 3 = .ok (.istore 4, 2) := by decide +kernel
theorem dX8_delayOf_5 : decode cX8_delayOf 5 = .ok (.iload 4, 2) := by decide +kernel
theorem dX8_delayOf_7 : decode cX8_delayOf 7 = .ok (.aload_n 0, 1) := by decide +kernel
theorem dX8_delayOf_8 : decode cX8_delayOf 8 = .ok (.getfield 17, 3) := by decide +kernel
theorem dX8_delayOf_11 : decode cX8_delayOf 11 = .ok (.bipush 6, 2) := by decide +kernel
theorem dX8_delayOf_13 : decode cX8_delayOf 13 = .ok (.iaload, 1) := by decide +kernel
theorem dX8_delayOf_14 : decode cX8_delayOf 14 = .ok (.if_icmp .ge 50, 3) := by decide +kernel
theorem dX8_delayOf_17 : decode cX8_delayOf 17 = .ok (.aload_n 0, 1) := by decide +kernel
theorem dX8_delayOf_18 : decode cX8_delayOf 18 = .ok (.iload 4, 2) := by decide +kernel
theorem dX8_delayOf_20 : decode cX8_delayOf 20 = .ok (.iload_n 1, 1) := by decide +kernel
theorem dX8_delayOf_21 : decode cX8_delayOf 21 = .ok (.invokevirtual 315, 3) := by decide +kernel
theorem dX8_delayOf_24 : decode cX8_delayOf 24 = .ok (.ifCond .eq 34, 3) := by decide +kernel
theorem dX8_delayOf_27 : decode cX8_delayOf 27 = .ok (.lload_n 2, 1) := by decide +kernel
theorem dX8_delayOf_28 : decode cX8_delayOf 28 = .ok (.iload_n 1, 1) := by decide +kernel
theorem dX8_delayOf_29 : decode cX8_delayOf 29 = .ok (.bipush 6, 2) := by decide +kernel
theorem dX8_delayOf_31 : decode cX8_delayOf 31 = .ok (.if_icmp .ge 18, 3) := by decide +kernel
theorem dX8_delayOf_34 : decode cX8_delayOf 34 = .ok (.ldc2_w 313, 3) := by decide +kernel
theorem dX8_delayOf_37 : decode cX8_delayOf 37 = .ok (.aload_n 0, 1) := by decide +kernel
theorem dX8_delayOf_38 : decode cX8_delayOf 38 = .ok (.iload 4, 2) := by decide +kernel
theorem dX8_delayOf_40 : decode cX8_delayOf 40 = .ok (.iconst 2, 1) := by decide +kernel
theorem dX8_delayOf_41 : decode cX8_delayOf 41 = .ok (.invokevirtual 221, 3) := by decide +kernel
theorem dX8_delayOf_44 : decode cX8_delayOf 44 = .ok (.i2l, 1) := by decide +kernel
theorem dX8_delayOf_45 : decode cX8_delayOf 45 = .ok (.lmul, 1) := by decide +kernel
theorem dX8_delayOf_46 : decode cX8_delayOf 46 = .ok (.goto 10, 3) := by decide +kernel
theorem dX8_delayOf_49 : decode cX8_delayOf 49 = .ok (.aload_n 0, 1) := by decide +kernel
theorem dX8_delayOf_50 : decode cX8_delayOf 50 = .ok (.iload 4, 2) := by decide +kernel
theorem dX8_delayOf_52 : decode cX8_delayOf 52 = .ok (.iload_n 1, 1) := by decide +kernel
theorem dX8_delayOf_53 : decode cX8_delayOf 53 = .ok (.invokevirtual 328, 3) := by decide +kernel
theorem dX8_delayOf_56 : decode cX8_delayOf 56 = .ok (.ladd, 1) := by decide +kernel
theorem dX8_delayOf_57 : decode cX8_delayOf 57 = .ok (.lstore_n 2, 1) := by decide +kernel
theorem dX8_delayOf_58 : decode cX8_delayOf 58 = .ok (.iinc 4 1, 3) := by decide +kernel
theorem dX8_delayOf_61 : decode cX8_delayOf 61 = .ok (.goto (-56), 3) := by decide +kernel
theorem dX8_delayOf_64 : decode cX8_delayOf 64 = .ok (.lload_n 2, 1) := by decide +kernel
theorem dX8_delayOf_65 : decode cX8_delayOf 65 = .ok (.lreturn, 1) := by decide +kernel
theorem dX8_boundOf_0 : decode cX8_boundOf 0 = .ok (.lconst 0, 1) := by decide +kernel
theorem dX8_boundOf_1 : decode cX8_boundOf 1 = .ok (.lstore_n 3, 1) := by decide +kernel
theorem dX8_boundOf_2 : decode cX8_boundOf 2 = .ok (.iconst 0, 1) := by decide +kernel
theorem dX8_boundOf_3 : decode cX8_boundOf 3 = .ok (.istore 5, 2) := by decide +kernel
theorem dX8_boundOf_5 : decode cX8_boundOf 5 = .ok (.iload 5, 2) := by decide +kernel
theorem dX8_boundOf_7 : decode cX8_boundOf 7 = .ok (.aload_n 0, 1) := by decide +kernel
theorem dX8_boundOf_8 : decode cX8_boundOf 8 = .ok (.iload_n 1, 1) := by decide +kernel
theorem dX8_boundOf_9 : decode cX8_boundOf 9 = .ok (.iload_n 2, 1) := by decide +kernel
theorem dX8_boundOf_10 : decode cX8_boundOf 10 = .ok (.invokevirtual 236, 3) := by decide +kernel
theorem dX8_boundOf_13 : decode cX8_boundOf 13 = .ok (.if_icmp .ge 24, 3) := by decide +kernel
theorem dX8_boundOf_16 : decode cX8_boundOf 16 = .ok (.lload_n 3, 1) := by decide +kernel
theorem dX8_boundOf_17 : decode cX8_boundOf 17 = .ok (.aload_n 0, 1) := by decide +kernel
theorem dX8_boundOf_18 : decode cX8_boundOf 18 = .ok (.aload_n 0, 1) := by decide +kernel
theorem dX8_boundOf_19 : decode cX8_boundOf 19 = .ok (.iload_n 1, 1) := by decide +kernel
theorem dX8_boundOf_20 : decode cX8_boundOf 20 = .ok (.iload_n 2, 1) := by decide +kernel
theorem dX8_boundOf_21 : decode cX8_boundOf 21 = .ok (.iload 5, 2) := by decide +kernel
theorem dX8_boundOf_23 : decode cX8_boundOf 23 = .ok (.invokevirtual 239, 3) := by decide +kernel
theorem dX8_boundOf_26 : decode cX8_boundOf 26 = .ok (.invokevirtual 332, 3) := by decide +kernel
theorem dX8_boundOf_29 : decode cX8_boundOf 29 = .ok (.ladd, 1) := by decide +kernel
theorem dX8_boundOf_30 : decode cX8_boundOf 30 = .ok (.lstore_n 3, 1) := by decide +kernel
theorem dX8_boundOf_31 : decode cX8_boundOf 31 = .ok (.iinc 5 1, 3) := by decide +kernel
theorem dX8_boundOf_34 : decode cX8_boundOf 34 = .ok (.goto (-29), 3) := by decide +kernel
theorem dX8_boundOf_37 : decode cX8_boundOf 37 = .ok (.lload_n 3, 1) := by decide +kernel
theorem dX8_boundOf_38 : decode cX8_boundOf 38 = .ok (.lreturn, 1) := by decide +kernel
theorem dX8_load_0 : decode cX8_load 0 = .ok (.aload_n 0, 1) := by decide +kernel
theorem dX8_load_1 : decode cX8_load 1 = .ok (.invokevirtual 200, 3) := by decide +kernel
theorem dX8_load_4 : decode cX8_load 4 = .ok (.aload_n 0, 1) := by decide +kernel
theorem dX8_load_5 : decode cX8_load 5 = .ok (.iload_n 1, 1) := by decide +kernel
theorem dX8_load_6 : decode cX8_load 6 = .ok (.invokevirtual 307, 3) := by decide +kernel
theorem dX8_load_9 : decode cX8_load 9 = .ok (.ifCond .eq 18, 3) := by decide +kernel
theorem dX8_load_12 : decode cX8_load 12 = .ok (.aload_n 0, 1) := by decide +kernel
theorem dX8_load_13 : decode cX8_load 13 = .ok (.iload_n 1, 1) := by decide +kernel
theorem dX8_load_14 : decode cX8_load 14 = .ok (.invokevirtual 322, 3) := by decide +kernel
theorem dX8_load_17 : decode cX8_load 17 = .ok (.ldc2_w 313, 3) := by decide +kernel
theorem dX8_load_20 : decode cX8_load 20 = .ok (.iload_n 2, 1) := by decide +kernel
theorem dX8_load_21 : decode cX8_load 21 = .ok (.invokestatic 335, 3) := by decide +kernel
theorem dX8_load_24 : decode cX8_load 24 = .ok (.goto 9, 3) := by decide +kernel
theorem dX8_load_27 : decode cX8_load 27 = .ok (.aload_n 0, 1) := by decide +kernel
theorem dX8_load_28 : decode cX8_load 28 = .ok (.iconst 1, 1) := by decide +kernel
theorem dX8_load_29 : decode cX8_load 29 = .ok (.invokevirtual 203, 3) := by decide +kernel
theorem dX8_load_32 : decode cX8_load 32 = .ok (.i2l, 1) := by decide +kernel
theorem dX8_load_33 : decode cX8_load 33 = .ok (.lreturn, 1) := by decide +kernel
theorem dX8_delay_0 : decode cX8_delay 0 = .ok (.aload_n 0, 1) := by decide +kernel
theorem dX8_delay_1 : decode cX8_delay 1 = .ok (.invokevirtual 200, 3) := by decide +kernel
theorem dX8_delay_4 : decode cX8_delay 4 = .ok (.aload_n 0, 1) := by decide +kernel
theorem dX8_delay_5 : decode cX8_delay 5 = .ok (.iload_n 1, 1) := by decide +kernel
theorem dX8_delay_6 : decode cX8_delay 6 = .ok (.invokevirtual 307, 3) := by decide +kernel
theorem dX8_delay_9 : decode cX8_delay 9 = .ok (.ifCond .ne 10, 3) := by decide +kernel
theorem dX8_delay_12 : decode cX8_delay 12 = .ok (.aload_n 0, 1) := by decide +kernel
theorem dX8_delay_13 : decode cX8_delay 13 = .ok (.iconst 1, 1) := by decide +kernel
theorem dX8_delay_14 : decode cX8_delay 14 = .ok (.invokevirtual 203, 3) := by decide +kernel
theorem dX8_delay_17 : decode cX8_delay 17 = .ok (.i2l, 1) := by decide +kernel
theorem dX8_delay_18 : decode cX8_delay 18 = .ok (.lreturn, 1) := by decide +kernel
theorem dX8_delay_19 : decode cX8_delay 19 = .ok (.aload_n 0, 1) := by decide +kernel
theorem dX8_delay_20 : decode cX8_delay 20 = .ok (.invokevirtual 339, 3) := by decide +kernel
theorem dX8_delay_23 : decode cX8_delay 23 = .ok (.ifCond .eq 18, 3) := by decide +kernel
theorem dX8_delay_26 : decode cX8_delay 26 = .ok (.aload_n 0, 1) := by decide +kernel
theorem dX8_delay_27 : decode cX8_delay 27 = .ok (.iload_n 1, 1) := by decide +kernel
theorem dX8_delay_28 : decode cX8_delay 28 = .ok (.invokevirtual 332, 3) := by decide +kernel
theorem dX8_delay_31 : decode cX8_delay 31 = .ok (.ldc2_w 313, 3) := by decide +kernel
theorem dX8_delay_34 : decode cX8_delay 34 = .ok (.iload_n 2, 1) := by decide +kernel
theorem dX8_delay_35 : decode cX8_delay 35 = .ok (.invokestatic 335, 3) := by decide +kernel
theorem dX8_delay_38 : decode cX8_delay 38 = .ok (.goto 9, 3) := by decide +kernel
theorem dX8_delay_41 : decode cX8_delay 41 = .ok (.aload_n 0, 1) := by decide +kernel
theorem dX8_delay_42 : decode cX8_delay 42 = .ok (.iconst 5, 1) := by decide +kernel
theorem dX8_delay_43 : decode cX8_delay 43 = .ok (.invokevirtual 203, 3) := by decide +kernel
theorem dX8_delay_46 : decode cX8_delay 46 = .ok (.i2l, 1) := by decide +kernel
theorem dX8_delay_47 : decode cX8_delay 47 = .ok (.lreturn, 1) := by decide +kernel
theorem dX8_burst_0 : decode cX8_burst 0 = .ok (.aload_n 0, 1) := by decide +kernel
theorem dX8_burst_1 : decode cX8_burst 1 = .ok (.invokevirtual 200, 3) := by decide +kernel
theorem dX8_burst_4 : decode cX8_burst 4 = .ok (.aload_n 0, 1) := by decide +kernel
theorem dX8_burst_5 : decode cX8_burst 5 = .ok (.iload_n 1, 1) := by decide +kernel
theorem dX8_burst_6 : decode cX8_burst 6 = .ok (.iload_n 2, 1) := by decide +kernel
theorem dX8_burst_7 : decode cX8_burst 7 = .ok (.iconst 0, 1) := by decide +kernel
theorem dX8_burst_8 : decode cX8_burst 8 = .ok (.invokevirtual 243, 3) := by decide +kernel
theorem dX8_burst_11 : decode cX8_burst 11 = .ok (.ifCond .eq 19, 3) := by decide +kernel
theorem dX8_burst_14 : decode cX8_burst 14 = .ok (.iload_n 3, 1) := by decide +kernel
theorem dX8_burst_15 : decode cX8_burst 15 = .ok (.iconst 1, 1) := by decide +kernel
theorem dX8_burst_16 : decode cX8_burst 16 = .ok (.aload_n 0, 1) := by decide +kernel
theorem dX8_burst_17 : decode cX8_burst 17 = .ok (.iload_n 1, 1) := by decide +kernel
theorem dX8_burst_18 : decode cX8_burst 18 = .ok (.iload_n 2, 1) := by decide +kernel
theorem dX8_burst_19 : decode cX8_burst 19 = .ok (.invokevirtual 236, 3) := by decide +kernel
theorem dX8_burst_22 : decode cX8_burst 22 = .ok (.iconst 1, 1) := by decide +kernel
theorem dX8_burst_23 : decode cX8_burst 23 = .ok (.isub, 1) := by decide +kernel
theorem dX8_burst_24 : decode cX8_burst 24 = .ok (.invokestatic 80, 3) := by decide +kernel
theorem dX8_burst_27 : decode cX8_burst 27 = .ok (.ifCond .ne 10, 3) := by decide +kernel
theorem dX8_burst_30 : decode cX8_burst 30 = .ok (.aload_n 0, 1) := by decide +kernel
theorem dX8_burst_31 : decode cX8_burst 31 = .ok (.iconst 1, 1) := by decide +kernel
theorem dX8_burst_32 : decode cX8_burst 32 = .ok (.invokevirtual 203, 3) := by decide +kernel
theorem dX8_burst_35 : decode cX8_burst 35 = .ok (.i2l, 1) := by decide +kernel
theorem dX8_burst_36 : decode cX8_burst 36 = .ok (.lreturn, 1) := by decide +kernel
theorem dX8_burst_37 : decode cX8_burst 37 = .ok (.aload_n 0, 1) := by decide +kernel
theorem dX8_burst_38 : decode cX8_burst 38 = .ok (.invokevirtual 339, 3) := by decide +kernel
theorem dX8_burst_41 : decode cX8_burst 41 = .ok (.ifCond .eq 26, 3) := by decide +kernel
theorem dX8_burst_44 : decode cX8_burst 44 = .ok (.aload_n 0, 1) := by decide +kernel
theorem dX8_burst_45 : decode cX8_burst 45 = .ok (.iload_n 1, 1) := by decide +kernel
theorem dX8_burst_46 : decode cX8_burst 46 = .ok (.aload_n 0, 1) := by decide +kernel
theorem dX8_burst_47 : decode cX8_burst 47 = .ok (.iload_n 1, 1) := by decide +kernel
theorem dX8_burst_48 : decode cX8_burst 48 = .ok (.iload_n 2, 1) := by decide +kernel
theorem dX8_burst_49 : decode cX8_burst 49 = .ok (.iload_n 3, 1) := by decide +kernel
theorem dX8_burst_50 : decode cX8_burst 50 = .ok (.invokevirtual 239, 3) := by decide +kernel
theorem dX8_burst_53 : decode cX8_burst 53 = .ok (.invokevirtual 328, 3) := by decide +kernel
theorem dX8_burst_56 : decode cX8_burst 56 = .ok (.ldc2_w 313, 3) := by decide +kernel
theorem dX8_burst_59 : decode cX8_burst 59 = .ok (.iload 4, 2) := by decide +kernel
theorem dX8_burst_61 : decode cX8_burst 61 = .ok (.invokestatic 335, 3) := by decide +kernel
theorem dX8_burst_64 : decode cX8_burst 64 = .ok (.goto 9, 3) := by decide +kernel
theorem dX8_burst_67 : decode cX8_burst 67 = .ok (.aload_n 0, 1) := by decide +kernel
theorem dX8_burst_68 : decode cX8_burst 68 = .ok (.iconst 5, 1) := by decide +kernel
theorem dX8_burst_69 : decode cX8_burst 69 = .ok (.invokevirtual 203, 3) := by decide +kernel
theorem dX8_burst_72 : decode cX8_burst 72 = .ok (.i2l, 1) := by decide +kernel
theorem dX8_burst_73 : decode cX8_burst 73 = .ok (.lreturn, 1) := by decide +kernel
theorem dX8_bound_0 : decode cX8_bound 0 = .ok (.aload_n 0, 1) := by decide +kernel
theorem dX8_bound_1 : decode cX8_bound 1 = .ok (.invokevirtual 200, 3) := by decide +kernel
theorem dX8_bound_4 : decode cX8_bound 4 = .ok (.aload_n 0, 1) := by decide +kernel
theorem dX8_bound_5 : decode cX8_bound 5 = .ok (.iload_n 1, 1) := by decide +kernel
theorem dX8_bound_6 : decode cX8_bound 6 = .ok (.iload_n 2, 1) := by decide +kernel
theorem dX8_bound_7 : decode cX8_bound 7 = .ok (.iconst 0, 1) := by decide +kernel
theorem dX8_bound_8 : decode cX8_bound 8 = .ok (.invokevirtual 243, 3) := by decide +kernel
theorem dX8_bound_11 : decode cX8_bound 11 = .ok (.ifCond .ne 10, 3) := by decide +kernel
theorem dX8_bound_14 : decode cX8_bound 14 = .ok (.aload_n 0, 1) := by decide +kernel
theorem dX8_bound_15 : decode cX8_bound 15 = .ok (.iconst 1, 1) := by decide +kernel
theorem dX8_bound_16 : decode cX8_bound 16 = .ok (.invokevirtual 203, 3) := by decide +kernel
theorem dX8_bound_19 : decode cX8_bound 19 = .ok (.i2l, 1) := by decide +kernel
theorem dX8_bound_20 : decode cX8_bound 20 = .ok (.lreturn, 1) := by decide +kernel
theorem dX8_bound_21 : decode cX8_bound 21 = .ok (.aload_n 0, 1) := by decide +kernel
theorem dX8_bound_22 : decode cX8_bound 22 = .ok (.invokevirtual 339, 3) := by decide +kernel
theorem dX8_bound_25 : decode cX8_bound 25 = .ok (.ifCond .eq 19, 3) := by decide +kernel
theorem dX8_bound_28 : decode cX8_bound 28 = .ok (.aload_n 0, 1) := by decide +kernel
theorem dX8_bound_29 : decode cX8_bound 29 = .ok (.iload_n 1, 1) := by decide +kernel
theorem dX8_bound_30 : decode cX8_bound 30 = .ok (.iload_n 2, 1) := by decide +kernel
theorem dX8_bound_31 : decode cX8_bound 31 = .ok (.invokevirtual 342, 3) := by decide +kernel
theorem dX8_bound_34 : decode cX8_bound 34 = .ok (.ldc2_w 313, 3) := by decide +kernel
theorem dX8_bound_37 : decode cX8_bound 37 = .ok (.iload_n 3, 1) := by decide +kernel
theorem dX8_bound_38 : decode cX8_bound 38 = .ok (.invokestatic 335, 3) := by decide +kernel
theorem dX8_bound_41 : decode cX8_bound 41 = .ok (.goto 9, 3) := by decide +kernel
theorem dX8_bound_44 : decode cX8_bound 44 = .ok (.aload_n 0, 1) := by decide +kernel
theorem dX8_bound_45 : decode cX8_bound 45 = .ok (.iconst 5, 1) := by decide +kernel
theorem dX8_bound_46 : decode cX8_bound 46 = .ok (.invokevirtual 203, 3) := by decide +kernel
theorem dX8_bound_49 : decode cX8_bound 49 = .ok (.i2l, 1) := by decide +kernel
theorem dX8_bound_50 : decode cX8_bound 50 = .ok (.lreturn, 1) := by decide +kernel
theorem dX8_keeps_0 : decode cX8_keeps 0 = .ok (.aload_n 0, 1) := by decide +kernel
theorem dX8_keeps_1 : decode cX8_keeps 1 = .ok (.invokevirtual 200, 3) := by decide +kernel
theorem dX8_keeps_4 : decode cX8_keeps 4 = .ok (.aload_n 0, 1) := by decide +kernel
theorem dX8_keeps_5 : decode cX8_keeps 5 = .ok (.iload_n 1, 1) := by decide +kernel
theorem dX8_keeps_6 : decode cX8_keeps 6 = .ok (.iload_n 2, 1) := by decide +kernel
theorem dX8_keeps_7 : decode cX8_keeps 7 = .ok (.iconst 0, 1) := by decide +kernel
theorem dX8_keeps_8 : decode cX8_keeps 8 = .ok (.invokevirtual 243, 3) := by decide +kernel
theorem dX8_keeps_11 : decode cX8_keeps 11 = .ok (.ifCond .ne 9, 3) := by decide +kernel
theorem dX8_keeps_14 : decode cX8_keeps 14 = .ok (.aload_n 0, 1) := by decide +kernel
theorem dX8_keeps_15 : decode cX8_keeps 15 = .ok (.iconst 1, 1) := by decide +kernel
theorem dX8_keeps_16 : decode cX8_keeps 16 = .ok (.invokevirtual 203, 3) := by decide +kernel
theorem dX8_keeps_19 : decode cX8_keeps 19 = .ok (.ireturn, 1) := by decide +kernel
theorem dX8_keeps_20 : decode cX8_keeps 20 = .ok (.aload_n 0, 1) := by decide +kernel
theorem dX8_keeps_21 : decode cX8_keeps 21 = .ok (.invokevirtual 339, 3) := by decide +kernel
theorem dX8_keeps_24 : decode cX8_keeps 24 = .ok (.ifCond .ne 9, 3) := by decide +kernel
theorem dX8_keeps_27 : decode cX8_keeps 27 = .ok (.aload_n 0, 1) := by decide +kernel
theorem dX8_keeps_28 : decode cX8_keeps 28 = .ok (.iconst 5, 1) := by decide +kernel
theorem dX8_keeps_29 : decode cX8_keeps 29 = .ok (.invokevirtual 203, 3) := by decide +kernel
theorem dX8_keeps_32 : decode cX8_keeps 32 = .ok (.ireturn, 1) := by decide +kernel
theorem dX8_keeps_33 : decode cX8_keeps 33 = .ok (.aload_n 0, 1) := by decide +kernel
theorem dX8_keeps_34 : decode cX8_keeps 34 = .ok (.getfield 42, 3) := by decide +kernel
theorem dX8_keeps_37 : decode cX8_keeps 37 = .ok (.iload_n 1, 1) := by decide +kernel
theorem dX8_keeps_38 : decode cX8_keeps 38 = .ok (.iload_n 2, 1) := by decide +kernel
theorem dX8_keeps_39 : decode cX8_keeps 39 = .ok (.invokestatic 252, 3) := by decide +kernel
theorem dX8_keeps_42 : decode cX8_keeps 42 = .ok (.bipush 6, 2) := by decide +kernel
theorem dX8_keeps_44 : decode cX8_keeps 44 = .ok (.iadd, 1) := by decide +kernel
theorem dX8_keeps_45 : decode cX8_keeps 45 = .ok (.iaload, 1) := by decide +kernel
theorem dX8_keeps_46 : decode cX8_keeps 46 = .ok (.i2l, 1) := by decide +kernel
theorem dX8_keeps_47 : decode cX8_keeps 47 = .ok (.ldc2_w 313, 3) := by decide +kernel
theorem dX8_keeps_50 : decode cX8_keeps 50 = .ok (.lmul, 1) := by decide +kernel
theorem dX8_keeps_51 : decode cX8_keeps 51 = .ok (.aload_n 0, 1) := by decide +kernel
theorem dX8_keeps_52 : decode cX8_keeps 52 = .ok (.iload_n 1, 1) := by decide +kernel
theorem dX8_keeps_53 : decode cX8_keeps 53 = .ok (.iload_n 2, 1) := by decide +kernel
theorem dX8_keeps_54 : decode cX8_keeps 54 = .ok (.invokevirtual 342, 3) := by decide +kernel
theorem dX8_keeps_57 : decode cX8_keeps 57 = .ok (.lcmp, 1) := by decide +kernel
theorem dX8_keeps_58 : decode cX8_keeps 58 = .ok (.ifCond .gt 7, 3) := by decide +kernel
theorem dX8_keeps_61 : decode cX8_keeps 61 = .ok (.iconst 1, 1) := by decide +kernel
theorem dX8_keeps_62 : decode cX8_keeps 62 = .ok (.goto 4, 3) := by decide +kernel
theorem dX8_keeps_65 : decode cX8_keeps 65 = .ok (.iconst 0, 1) := by decide +kernel
theorem dX8_keeps_66 : decode cX8_keeps 66 = .ok (.ireturn, 1) := by decide +kernel
theorem dX8_fullest_0 : decode cX8_fullest 0 = .ok (.aload_n 0, 1) := by decide +kernel
theorem dX8_fullest_1 : decode cX8_fullest 1 = .ok (.invokevirtual 200, 3) := by decide +kernel
theorem dX8_fullest_4 : decode cX8_fullest 4 = .ok (.aload_n 0, 1) := by decide +kernel
theorem dX8_fullest_5 : decode cX8_fullest 5 = .ok (.getfield 212, 3) := by decide +kernel
theorem dX8_fullest_8 : decode cX8_fullest 8 = .ok (.ifCond .ne 9, 3) := by decide +kernel
theorem dX8_fullest_11 : decode cX8_fullest 11 = .ok (.aload_n 0, 1) := by decide +kernel
theorem dX8_fullest_12 : decode cX8_fullest 12 = .ok (.iconst 1, 1) := by decide +kernel
theorem dX8_fullest_13 : decode cX8_fullest 13 = .ok (.invokevirtual 203, 3) := by decide +kernel
theorem dX8_fullest_16 : decode cX8_fullest 16 = .ok (.ireturn, 1) := by decide +kernel
theorem dX8_fullest_17 : decode cX8_fullest 17 = .ok (.iconst (-1), 1) := by decide +kernel
theorem dX8_fullest_18 : decode cX8_fullest 18 = .ok (.istore_n 1, 1) := by decide +kernel
theorem dX8_fullest_19 : decode cX8_fullest 19 = .ok (.iconst 0, 1) := by decide +kernel
theorem dX8_fullest_20 : decode cX8_fullest 20 = .ok (.istore_n 2, 1) := by decide +kernel
theorem dX8_fullest_21 : decode cX8_fullest 21 = .ok (.iload_n 2, 1) := by decide +kernel
theorem dX8_fullest_22 : decode cX8_fullest 22 = .ok (.bipush 16, 2) := by decide +kernel
theorem dX8_fullest_24 : decode cX8_fullest 24 = .ok (.if_icmp .ge 38, 3) := by decide +kernel
theorem dX8_fullest_27 : decode cX8_fullest 27 = .ok (.aload_n 0, 1) := by decide +kernel
theorem dX8_fullest_28 : decode cX8_fullest 28 = .ok (.iload_n 2, 1) := by decide +kernel
theorem dX8_fullest_29 : decode cX8_fullest 29 = .ok (.invokevirtual 307, 3) := by decide +kernel
theorem dX8_fullest_32 : decode cX8_fullest 32 = .ok (.ifCond .eq 24, 3) := by decide +kernel
theorem dX8_fullest_35 : decode cX8_fullest 35 = .ok (.iload_n 1, 1) := by decide +kernel
theorem dX8_fullest_36 : decode cX8_fullest 36 = .ok (.iconst (-1), 1) := by decide +kernel
theorem dX8_fullest_37 : decode cX8_fullest 37 = .ok (.if_icmp .eq 17, 3) := by decide +kernel
theorem dX8_fullest_40 : decode cX8_fullest 40 = .ok (.aload_n 0, 1) := by decide +kernel
theorem dX8_fullest_41 : decode cX8_fullest 41 = .ok (.iload_n 2, 1) := by decide +kernel
theorem dX8_fullest_42 : decode cX8_fullest 42 = .ok (.invokevirtual 322, 3) := by decide +kernel
theorem dX8_fullest_45 : decode cX8_fullest 45 = .ok (.aload_n 0, 1) := by decide +kernel
theorem dX8_fullest_46 : decode cX8_fullest 46 = .ok (.iload_n 1, 1) := by decide +kernel
theorem dX8_fullest_47 : decode cX8_fullest 47 = .ok (.invokevirtual 322, 3) := by decide +kernel
theorem dX8_fullest_50 : decode cX8_fullest 50 = .ok (.lcmp, 1) := by decide +kernel
theorem dX8_fullest_51 : decode cX8_fullest 51 = .ok (.ifCond .le 5, 3) := by decide +kernel
theorem dX8_fullest_54 : decode cX8_fullest 54 = .ok (.iload_n 2, 1) := by decide +kernel
theorem dX8_fullest_55 : decode cX8_fullest 55 = .ok (.istore_n 1, 1) := by decide +kernel
theorem dX8_fullest_56 : decode cX8_fullest 56 = .ok (.iinc 2 1, 3) := by decide +kernel
theorem dX8_fullest_59 : decode cX8_fullest 59 = .ok (.goto (-38), 3) := by decide +kernel
theorem dX8_fullest_62 : decode cX8_fullest 62 = .ok (.iload_n 1, 1) := by decide +kernel
theorem dX8_fullest_63 : decode cX8_fullest 63 = .ok (.ireturn, 1) := by decide +kernel
theorem dX8_leastGap_0 : decode cX8_leastGap 0 = .ok (.aload_n 0, 1) := by decide +kernel
theorem dX8_leastGap_1 : decode cX8_leastGap 1 = .ok (.invokevirtual 200, 3) := by decide +kernel
theorem dX8_leastGap_4 : decode cX8_leastGap 4 = .ok (.aload_n 0, 1) := by decide +kernel
theorem dX8_leastGap_5 : decode cX8_leastGap 5 = .ok (.iload_n 1, 1) := by decide +kernel
theorem dX8_leastGap_6 : decode cX8_leastGap 6 = .ok (.invokevirtual 224, 3) := by decide +kernel
theorem dX8_leastGap_9 : decode cX8_leastGap 9 = .ok (.ifCond .ne 9, 3) := by decide +kernel
theorem dX8_leastGap_12 : decode cX8_leastGap 12 = .ok (.aload_n 0, 1) := by decide +kernel
theorem dX8_leastGap_13 : decode cX8_leastGap 13 = .ok (.iconst 1, 1) := by decide +kernel
theorem dX8_leastGap_14 : decode cX8_leastGap 14 = .ok (.invokevirtual 203, 3) := by decide +kernel
theorem dX8_leastGap_17 : decode cX8_leastGap 17 = .ok (.ireturn, 1) := by decide +kernel
theorem dX8_leastGap_18 : decode cX8_leastGap 18 = .ok (.aload_n 0, 1) := by decide +kernel
theorem dX8_leastGap_19 : decode cX8_leastGap 19 = .ok (.iload_n 1, 1) := by decide +kernel
theorem dX8_leastGap_20 : decode cX8_leastGap 20 = .ok (.iconst 1, 1) := by decide +kernel
theorem dX8_leastGap_21 : decode cX8_leastGap 21 = .ok (.invokevirtual 221, 3) := by decide +kernel
theorem dX8_leastGap_24 : decode cX8_leastGap 24 = .ok (.istore_n 2, 1) := by decide +kernel
theorem dX8_leastGap_25 : decode cX8_leastGap 25 = .ok (.bipush (-2), 2) := by decide +kernel
theorem dX8_leastGap_27 : decode cX8_leastGap 27 = .ok (.istore_n 3, 1) := by decide +kernel
theorem dX8_leastGap_28 : decode cX8_leastGap 28 = .ok (.sipush 256, 3) := by decide +kernel
theorem dX8_leastGap_31 : decode cX8_leastGap 31 = .ok (.istore 4, 2) := by decide +kernel
theorem dX8_leastGap_33 : decode cX8_leastGap 33 = .ok (.iload 4, 2) := by decide +kernel
theorem dX8_leastGap_35 : decode cX8_leastGap 35 = .ok (.bipush 8, 2) := by decide +kernel
theorem dX8_leastGap_37 : decode cX8_leastGap 37 = .ok (.if_icmp .lt 50, 3) := by decide +kernel
theorem dX8_leastGap_40 : decode cX8_leastGap 40 = .ok (.aload_n 0, 1) := by decide +kernel
theorem dX8_leastGap_41 : decode cX8_leastGap 41 = .ok (.getfield 29, 3) := by decide +kernel
theorem dX8_leastGap_44 : decode cX8_leastGap 44 = .ok (.bipush 7, 2) := by decide +kernel
theorem dX8_leastGap_46 : decode cX8_leastGap 46 = .ok (.iload_n 1, 1) := by decide +kernel
theorem dX8_leastGap_47 : decode cX8_leastGap 47 = .ok (.imul, 1) := by decide +kernel
theorem dX8_leastGap_48 : decode cX8_leastGap 48 = .ok (.iconst 1, 1) := by decide +kernel
theorem dX8_leastGap_49 : decode cX8_leastGap 49 = .ok (.iadd, 1) := by decide +kernel
theorem dX8_leastGap_50 : decode cX8_leastGap 50 = .ok (.iload 4, 2) := by decide +kernel
theorem dX8_leastGap_52 : decode cX8_leastGap 52 = .ok (.iastore, 1) := by decide +kernel
theorem dX8_leastGap_53 : decode cX8_leastGap 53 = .ok (.iload 4, 2) := by decide +kernel
theorem dX8_leastGap_55 : decode cX8_leastGap 55 = .ok (.aload_n 0, 1) := by decide +kernel
theorem dX8_leastGap_56 : decode cX8_leastGap 56 = .ok (.iload_n 1, 1) := by decide +kernel
theorem dX8_leastGap_57 : decode cX8_leastGap 57 = .ok (.iconst 2, 1) := by decide +kernel
theorem dX8_leastGap_58 : decode cX8_leastGap 58 = .ok (.invokevirtual 221, 3) := by decide +kernel
theorem dX8_leastGap_61 : decode cX8_leastGap 61 = .ok (.if_icmp .lt 15, 3) := by decide +kernel
theorem dX8_leastGap_64 : decode cX8_leastGap 64 = .ok (.aload_n 0, 1) := by decide +kernel
theorem dX8_leastGap_65 : decode cX8_leastGap 65 = .ok (.invokevirtual 339, 3) := by decide +kernel
theorem dX8_leastGap_68 : decode cX8_leastGap 68 = .ok (.ifCond .eq 8, 3) := by decide +kernel
theorem dX8_leastGap_71 : decode cX8_leastGap 71 = .ok (.iload 4, 2) := by decide +kernel
theorem dX8_leastGap_73 : decode cX8_leastGap 73 = .ok (.goto 4, 3) := by decide +kernel
theorem dX8_leastGap_76 : decode cX8_leastGap 76 = .ok (.iload_n 3, 1) := by decide +kernel
theorem dX8_leastGap_77 : decode cX8_leastGap 77 = .ok (.istore_n 3, 1) := by decide +kernel
theorem dX8_leastGap_78 : decode cX8_leastGap 78 = .ok (.iload 4, 2) := by decide +kernel
theorem dX8_leastGap_80 : decode cX8_leastGap 80 = .ok (.iconst 2, 1) := by decide +kernel
theorem dX8_leastGap_81 : decode cX8_leastGap 81 = .ok (.idiv, 1) := by decide +kernel
theorem dX8_leastGap_82 : decode cX8_leastGap 82 = .ok (.istore 4, 2) := by decide +kernel
theorem dX8_leastGap_84 : decode cX8_leastGap 84 = .ok (.goto (-51), 3) := by decide +kernel
theorem dX8_leastGap_87 : decode cX8_leastGap 87 = .ok (.aload_n 0, 1) := by decide +kernel
theorem dX8_leastGap_88 : decode cX8_leastGap 88 = .ok (.getfield 29, 3) := by decide +kernel
theorem dX8_leastGap_91 : decode cX8_leastGap 91 = .ok (.bipush 7, 2) := by decide +kernel
theorem dX8_leastGap_93 : decode cX8_leastGap 93 = .ok (.iload_n 1, 1) := by decide +kernel
theorem dX8_leastGap_94 : decode cX8_leastGap 94 = .ok (.imul, 1) := by decide +kernel
theorem dX8_leastGap_95 : decode cX8_leastGap 95 = .ok (.iconst 1, 1) := by decide +kernel
theorem dX8_leastGap_96 : decode cX8_leastGap 96 = .ok (.iadd, 1) := by decide +kernel
theorem dX8_leastGap_97 : decode cX8_leastGap 97 = .ok (.iload_n 2, 1) := by decide +kernel
theorem dX8_leastGap_98 : decode cX8_leastGap 98 = .ok (.iastore, 1) := by decide +kernel
theorem dX8_leastGap_99 : decode cX8_leastGap 99 = .ok (.iload_n 3, 1) := by decide +kernel
theorem dX8_leastGap_100 : decode cX8_leastGap 100 = .ok (.ireturn, 1) := by decide +kernel
theorem dX8_through_0 : decode cX8_through 0 = .ok (.aload_n 0, 1) := by decide +kernel
theorem dX8_through_1 : decode cX8_through 1 = .ok (.invokevirtual 200, 3) := by decide +kernel
theorem dX8_through_4 : decode cX8_through 4 = .ok (.aload_n 0, 1) := by decide +kernel
theorem dX8_through_5 : decode cX8_through 5 = .ok (.iload_n 1, 1) := by decide +kernel
theorem dX8_through_6 : decode cX8_through 6 = .ok (.invokevirtual 307, 3) := by decide +kernel
theorem dX8_through_9 : decode cX8_through 9 = .ok (.ifCond .ne 9, 3) := by decide +kernel
theorem dX8_through_12 : decode cX8_through 12 = .ok (.aload_n 0, 1) := by decide +kernel
theorem dX8_through_13 : decode cX8_through 13 = .ok (.iconst 1, 1) := by decide +kernel
theorem dX8_through_14 : decode cX8_through 14 = .ok (.invokevirtual 203, 3) := by decide +kernel
theorem dX8_through_17 : decode cX8_through 17 = .ok (.ireturn, 1) := by decide +kernel
theorem dX8_through_18 : decode cX8_through 18 = .ok (.iconst 0, 1) := by decide +kernel
theorem dX8_through_19 : decode cX8_through 19 = .ok (.istore_n 2, 1) := by decide +kernel
theorem dX8_through_20 : decode cX8_through 20 = .ok (.iconst 0, 1) := by decide +kernel
theorem dX8_through_21 : decode cX8_through 21 = .ok (.istore_n 3, 1) := by decide +kernel
theorem dX8_through_22 : decode cX8_through 22 = .ok (.iload_n 3, 1) := by decide +kernel
theorem dX8_through_23 : decode cX8_through 23 = .ok (.aload_n 0, 1) := by decide +kernel
theorem dX8_through_24 : decode cX8_through 24 = .ok (.getfield 17, 3) := by decide +kernel
theorem dX8_through_27 : decode cX8_through 27 = .ok (.bipush 6, 2) := by decide +kernel
theorem dX8_through_29 : decode cX8_through 29 = .ok (.iaload, 1) := by decide +kernel
theorem dX8_through_30 : decode cX8_through 30 = .ok (.if_icmp .ge 28, 3) := by decide +kernel
theorem dX8_through_33 : decode cX8_through 33 = .ok (.iload_n 2, 1) := by decide +kernel
theorem dX8_through_34 : decode cX8_through 34 = .ok (.aload_n 0, 1) := by decide +kernel
theorem dX8_through_35 : decode cX8_through 35 = .ok (.iload_n 3, 1) := by decide +kernel
theorem dX8_through_36 : decode cX8_through 36 = .ok (.iload_n 1, 1) := by decide +kernel
theorem dX8_through_37 : decode cX8_through 37 = .ok (.invokevirtual 315, 3) := by decide +kernel
theorem dX8_through_40 : decode cX8_through 40 = .ok (.ifCond .eq 9, 3) := by decide +kernel
theorem dX8_through_43 : decode cX8_through 43 = .ok (.iconst 1, 1) := by decide +kernel
theorem dX8_through_44 : decode cX8_through 44 = .ok (.iload_n 3, 1) := by decide +kernel
theorem dX8_through_45 : decode cX8_through 45 = .ok (.ishl, 1) := by decide +kernel
theorem dX8_through_46 : decode cX8_through 46 = .ok (.goto 4, 3) := by decide +kernel
theorem dX8_through_49 : decode cX8_through 49 = .ok (.iconst 0, 1) := by decide +kernel
theorem dX8_through_50 : decode cX8_through 50 = .ok (.ior, 1) := by decide +kernel
theorem dX8_through_51 : decode cX8_through 51 = .ok (.istore_n 2, 1) := by decide +kernel
theorem dX8_through_52 : decode cX8_through 52 = .ok (.iinc 3 1, 3) := by decide +kernel
theorem dX8_through_55 : decode cX8_through 55 = .ok (.goto (-33), 3) := by decide +kernel
theorem dX8_through_58 : decode cX8_through 58 = .ok (.iload_n 2, 1) := by decide +kernel
theorem dX8_through_59 : decode cX8_through 59 = .ok (.ireturn, 1) := by decide +kernel
theorem dX8_send_0 : decode cX8_send 0 = .ok (.aload_n 0, 1) := by decide +kernel
theorem dX8_send_1 : decode cX8_send 1 = .ok (.invokevirtual 200, 3) := by decide +kernel
theorem dX8_send_4 : decode cX8_send 4 = .ok (.aload_n 0, 1) := by decide +kernel
theorem dX8_send_5 : decode cX8_send 5 = .ok (.iload_n 1, 1) := by decide +kernel
theorem dX8_send_6 : decode cX8_send 6 = .ok (.invokevirtual 224, 3) := by decide +kernel
theorem dX8_send_9 : decode cX8_send 9 = .ok (.ifCond .ne 9, 3) := by decide +kernel
theorem dX8_send_12 : decode cX8_send 12 = .ok (.aload_n 0, 1) := by decide +kernel
theorem dX8_send_13 : decode cX8_send 13 = .ok (.iconst 1, 1) := by decide +kernel
theorem dX8_send_14 : decode cX8_send 14 = .ok (.invokevirtual 203, 3) := by decide +kernel
theorem dX8_send_17 : decode cX8_send 17 = .ok (.ireturn, 1) := by decide +kernel
theorem dX8_send_18 : decode cX8_send 18 = .ok (.iload_n 2, 1) := by decide +kernel
theorem dX8_send_19 : decode cX8_send 19 = .ok (.iconst 1, 1) := by decide +kernel
theorem dX8_send_20 : decode cX8_send 20 = .ok (.bipush 16, 2) := by decide +kernel
theorem dX8_send_22 : decode cX8_send 22 = .ok (.invokestatic 80, 3) := by decide +kernel
theorem dX8_send_25 : decode cX8_send 25 = .ok (.ifCond .ne 9, 3) := by decide +kernel
theorem dX8_send_28 : decode cX8_send 28 = .ok (.aload_n 0, 1) := by decide +kernel
theorem dX8_send_29 : decode cX8_send 29 = .ok (.iconst 2, 1) := by decide +kernel
theorem dX8_send_30 : decode cX8_send 30 = .ok (.invokevirtual 203, 3) := by decide +kernel
theorem dX8_send_33 : decode cX8_send 33 = .ok (.ireturn, 1) := by decide +kernel
theorem dX8_send_34 : decode cX8_send 34 = .ok (.aload_n 0, 1) := by decide +kernel
theorem dX8_send_35 : decode cX8_send 35 = .ok (.getfield 42, 3) := by decide +kernel
theorem dX8_send_38 : decode cX8_send 38 = .ok (.iload_n 1, 1) := by decide +kernel
theorem dX8_send_39 : decode cX8_send 39 = .ok (.iconst 0, 1) := by decide +kernel
theorem dX8_send_40 : decode cX8_send 40 = .ok (.invokestatic 246, 3) := by decide +kernel
theorem dX8_send_43 : decode cX8_send 43 = .ok (.iaload, 1) := by decide +kernel
theorem dX8_send_44 : decode cX8_send 44 = .ok (.iload_n 2, 1) := by decide +kernel
theorem dX8_send_45 : decode cX8_send 45 = .ok (.iadd, 1) := by decide +kernel
theorem dX8_send_46 : decode cX8_send 46 = .ok (.bipush 16, 2) := by decide +kernel
theorem dX8_send_48 : decode cX8_send 48 = .ok (.if_icmp .le 9, 3) := by decide +kernel
theorem dX8_send_51 : decode cX8_send 51 = .ok (.aload_n 0, 1) := by decide +kernel
theorem dX8_send_52 : decode cX8_send 52 = .ok (.iconst 3, 1) := by decide +kernel
theorem dX8_send_53 : decode cX8_send 53 = .ok (.invokevirtual 203, 3) := by decide +kernel
theorem dX8_send_56 : decode cX8_send 56 = .ok (.ireturn, 1) := by decide +kernel
theorem dX8_send_57 : decode cX8_send 57 = .ok (.aload_n 0, 1) := by decide +kernel
theorem dX8_send_58 : decode cX8_send 58 = .ok (.getfield 42, 3) := by decide +kernel
theorem dX8_send_61 : decode cX8_send 61 = .ok (.iload_n 1, 1) := by decide +kernel
theorem dX8_send_62 : decode cX8_send 62 = .ok (.iconst 0, 1) := by decide +kernel
theorem dX8_send_63 : decode cX8_send 63 = .ok (.invokestatic 246, 3) := by decide +kernel
theorem dX8_send_66 : decode cX8_send 66 = .ok (.dup2, 1) := by decide +kernel
theorem dX8_send_67 : decode cX8_send 67 = .ok (.iaload, 1) := by decide +kernel
theorem dX8_send_68 : decode cX8_send 68 = .ok (.iload_n 2, 1) := by decide +kernel
theorem dX8_send_69 : decode cX8_send 69 = .ok (.iadd, 1) := by decide +kernel
theorem dX8_send_70 : decode cX8_send 70 = .ok (.iastore, 1) := by decide +kernel
theorem dX8_send_71 : decode cX8_send 71 = .ok (.aload_n 0, 1) := by decide +kernel
theorem dX8_send_72 : decode cX8_send 72 = .ok (.getfield 42, 3) := by decide +kernel
theorem dX8_send_75 : decode cX8_send 75 = .ok (.iload_n 1, 1) := by decide +kernel
theorem dX8_send_76 : decode cX8_send 76 = .ok (.iconst 0, 1) := by decide +kernel
theorem dX8_send_77 : decode cX8_send 77 = .ok (.invokestatic 246, 3) := by decide +kernel
theorem dX8_send_80 : decode cX8_send 80 = .ok (.iaload, 1) := by decide +kernel
theorem dX8_send_81 : decode cX8_send 81 = .ok (.ireturn, 1) := by decide +kernel
theorem dX8_babble_0 : decode cX8_babble 0 = .ok (.aload_n 0, 1) := by decide +kernel
theorem dX8_babble_1 : decode cX8_babble 1 = .ok (.invokevirtual 200, 3) := by decide +kernel
theorem dX8_babble_4 : decode cX8_babble 4 = .ok (.aload_n 0, 1) := by decide +kernel
theorem dX8_babble_5 : decode cX8_babble 5 = .ok (.iload_n 1, 1) := by decide +kernel
theorem dX8_babble_6 : decode cX8_babble 6 = .ok (.invokevirtual 224, 3) := by decide +kernel
theorem dX8_babble_9 : decode cX8_babble 9 = .ok (.ifCond .ne 9, 3) := by decide +kernel
theorem dX8_babble_12 : decode cX8_babble 12 = .ok (.aload_n 0, 1) := by decide +kernel
theorem dX8_babble_13 : decode cX8_babble 13 = .ok (.iconst 1, 1) := by decide +kernel
theorem dX8_babble_14 : decode cX8_babble 14 = .ok (.invokevirtual 203, 3) := by decide +kernel
theorem dX8_babble_17 : decode cX8_babble 17 = .ok (.ireturn, 1) := by decide +kernel
theorem dX8_babble_18 : decode cX8_babble 18 = .ok (.iload_n 2, 1) := by decide +kernel
theorem dX8_babble_19 : decode cX8_babble 19 = .ok (.iconst 1, 1) := by decide +kernel
theorem dX8_babble_20 : decode cX8_babble 20 = .ok (.bipush 20, 2) := by decide +kernel
theorem dX8_babble_22 : decode cX8_babble 22 = .ok (.invokestatic 80, 3) := by decide +kernel
theorem dX8_babble_25 : decode cX8_babble 25 = .ok (.ifCond .ne 9, 3) := by decide +kernel
theorem dX8_babble_28 : decode cX8_babble 28 = .ok (.aload_n 0, 1) := by decide +kernel
theorem dX8_babble_29 : decode cX8_babble 29 = .ok (.iconst 2, 1) := by decide +kernel
theorem dX8_babble_30 : decode cX8_babble 30 = .ok (.invokevirtual 203, 3) := by decide +kernel
theorem dX8_babble_33 : decode cX8_babble 33 = .ok (.ireturn, 1) := by decide +kernel
theorem dX8_babble_34 : decode cX8_babble 34 = .ok (.iconst 0, 1) := by decide +kernel
theorem dX8_babble_35 : decode cX8_babble 35 = .ok (.istore_n 3, 1) := by decide +kernel
theorem dX8_babble_36 : decode cX8_babble 36 = .ok (.iconst 0, 1) := by decide +kernel
theorem dX8_babble_37 : decode cX8_babble 37 = .ok (.istore 4, 2) := by decide +kernel
theorem dX8_babble_39 : decode cX8_babble 39 = .ok (.iload 4, 2) := by decide +kernel
theorem dX8_babble_41 : decode cX8_babble 41 = .ok (.iload_n 2, 1) := by decide +kernel
theorem dX8_babble_42 : decode cX8_babble 42 = .ok (.if_icmp .ge 17, 3) := by decide +kernel
theorem dX8_babble_45 : decode cX8_babble 45 = .ok (.iload_n 3, 1) := by decide +kernel
theorem dX8_babble_46 : decode cX8_babble 46 = .ok (.aload_n 0, 1) := by decide +kernel
theorem dX8_babble_47 : decode cX8_babble 47 = .ok (.iload_n 1, 1) := by decide +kernel
theorem dX8_babble_48 : decode cX8_babble 48 = .ok (.invokevirtual 298, 3) := by decide +kernel
theorem dX8_babble_51 : decode cX8_babble 51 = .ok (.iadd, 1) := by decide +kernel
theorem dX8_babble_52 : decode cX8_babble 52 = .ok (.istore_n 3, 1) := by decide +kernel
theorem dX8_babble_53 : decode cX8_babble 53 = .ok (.iinc 4 1, 3) := by decide +kernel
theorem dX8_babble_56 : decode cX8_babble 56 = .ok (.goto (-17), 3) := by decide +kernel
theorem dX8_babble_59 : decode cX8_babble 59 = .ok (.iload_n 3, 1) := by decide +kernel
theorem dX8_babble_60 : decode cX8_babble 60 = .ok (.ireturn, 1) := by decide +kernel
theorem dX8_down_0 : decode cX8_down 0 = .ok (.aload_n 0, 1) := by decide +kernel
theorem dX8_down_1 : decode cX8_down 1 = .ok (.invokevirtual 200, 3) := by decide +kernel
theorem dX8_down_4 : decode cX8_down 4 = .ok (.aload_n 0, 1) := by decide +kernel
theorem dX8_down_5 : decode cX8_down 5 = .ok (.getfield 212, 3) := by decide +kernel
theorem dX8_down_8 : decode cX8_down 8 = .ok (.ifCond .eq 12, 3) := by decide +kernel
theorem dX8_down_11 : decode cX8_down 11 = .ok (.iload_n 1, 1) := by decide +kernel
theorem dX8_down_12 : decode cX8_down 12 = .ok (.iconst 0, 1) := by decide +kernel
theorem dX8_down_13 : decode cX8_down 13 = .ok (.iconst 1, 1) := by decide +kernel
theorem dX8_down_14 : decode cX8_down 14 = .ok (.invokestatic 80, 3) := by decide +kernel
theorem dX8_down_17 : decode cX8_down 17 = .ok (.ifCond .ne 9, 3) := by decide +kernel
theorem dX8_down_20 : decode cX8_down 20 = .ok (.aload_n 0, 1) := by decide +kernel
theorem dX8_down_21 : decode cX8_down 21 = .ok (.iconst 1, 1) := by decide +kernel
theorem dX8_down_22 : decode cX8_down 22 = .ok (.invokevirtual 203, 3) := by decide +kernel
theorem dX8_down_25 : decode cX8_down 25 = .ok (.ireturn, 1) := by decide +kernel
theorem dX8_down_26 : decode cX8_down 26 = .ok (.iload_n 2, 1) := by decide +kernel
theorem dX8_down_27 : decode cX8_down 27 = .ok (.iconst 0, 1) := by decide +kernel
theorem dX8_down_28 : decode cX8_down 28 = .ok (.iconst 1, 1) := by decide +kernel
theorem dX8_down_29 : decode cX8_down 29 = .ok (.invokestatic 80, 3) := by decide +kernel
theorem dX8_down_32 : decode cX8_down 32 = .ok (.ifCond .ne 9, 3) := by decide +kernel
theorem dX8_down_35 : decode cX8_down 35 = .ok (.aload_n 0, 1) := by decide +kernel
theorem dX8_down_36 : decode cX8_down 36 = .ok (.iconst 2, 1) := by decide +kernel
theorem dX8_down_37 : decode cX8_down 37 = .ok (.invokevirtual 203, 3) := by decide +kernel
theorem dX8_down_40 : decode cX8_down 40 = .ok (.ireturn, 1) := by decide +kernel
theorem dX8_down_41 : decode cX8_down 41 = .ok (.aload_n 0, 1) := by decide +kernel
theorem dX8_down_42 : decode cX8_down 42 = .ok (.getfield 42, 3) := by decide +kernel
theorem dX8_down_45 : decode cX8_down 45 = .ok (.bipush 79, 2) := by decide +kernel
theorem dX8_down_47 : decode cX8_down 47 = .ok (.iload_n 1, 1) := by decide +kernel
theorem dX8_down_48 : decode cX8_down 48 = .ok (.iadd, 1) := by decide +kernel
theorem dX8_down_49 : decode cX8_down 49 = .ok (.iaload, 1) := by decide +kernel
theorem dX8_down_50 : decode cX8_down 50 = .ok (.istore_n 3, 1) := by decide +kernel
theorem dX8_down_51 : decode cX8_down 51 = .ok (.aload_n 0, 1) := by decide +kernel
theorem dX8_down_52 : decode cX8_down 52 = .ok (.getfield 42, 3) := by decide +kernel
theorem dX8_down_55 : decode cX8_down 55 = .ok (.bipush 79, 2) := by decide +kernel
theorem dX8_down_57 : decode cX8_down 57 = .ok (.iload_n 1, 1) := by decide +kernel
theorem dX8_down_58 : decode cX8_down 58 = .ok (.iadd, 1) := by decide +kernel
theorem dX8_down_59 : decode cX8_down 59 = .ok (.iload_n 2, 1) := by decide +kernel
theorem dX8_down_60 : decode cX8_down 60 = .ok (.iastore, 1) := by decide +kernel
theorem dX8_down_61 : decode cX8_down 61 = .ok (.iload_n 3, 1) := by decide +kernel
theorem dX8_down_62 : decode cX8_down 62 = .ok (.ireturn, 1) := by decide +kernel
theorem dX8_anew_0 : decode cX8_anew 0 = .ok (.aload_n 0, 1) := by decide +kernel
theorem dX8_anew_1 : decode cX8_anew 1 = .ok (.invokevirtual 200, 3) := by decide +kernel
theorem dX8_anew_4 : decode cX8_anew 4 = .ok (.aload_n 0, 1) := by decide +kernel
theorem dX8_anew_5 : decode cX8_anew 5 = .ok (.iload_n 1, 1) := by decide +kernel
theorem dX8_anew_6 : decode cX8_anew 6 = .ok (.invokevirtual 227, 3) := by decide +kernel
theorem dX8_anew_9 : decode cX8_anew 9 = .ok (.ifCond .ne 9, 3) := by decide +kernel
theorem dX8_anew_12 : decode cX8_anew 12 = .ok (.aload_n 0, 1) := by decide +kernel
theorem dX8_anew_13 : decode cX8_anew 13 = .ok (.iconst 1, 1) := by decide +kernel
theorem dX8_anew_14 : decode cX8_anew 14 = .ok (.invokevirtual 203, 3) := by decide +kernel
theorem dX8_anew_17 : decode cX8_anew 17 = .ok (.ireturn, 1) := by decide +kernel
theorem dX8_anew_18 : decode cX8_anew 18 = .ok (.iconst 0, 1) := by decide +kernel
theorem dX8_anew_19 : decode cX8_anew 19 = .ok (.istore_n 2, 1) := by decide +kernel
theorem dX8_anew_20 : decode cX8_anew 20 = .ok (.iconst 0, 1) := by decide +kernel
theorem dX8_anew_21 : decode cX8_anew 21 = .ok (.istore_n 3, 1) := by decide +kernel
theorem dX8_anew_22 : decode cX8_anew 22 = .ok (.iload_n 3, 1) := by decide +kernel
theorem dX8_anew_23 : decode cX8_anew 23 = .ok (.aload_n 0, 1) := by decide +kernel
theorem dX8_anew_24 : decode cX8_anew 24 = .ok (.getfield 17, 3) := by decide +kernel
theorem dX8_anew_27 : decode cX8_anew 27 = .ok (.bipush 6, 2) := by decide +kernel
theorem dX8_anew_29 : decode cX8_anew 29 = .ok (.iaload, 1) := by decide +kernel
theorem dX8_anew_30 : decode cX8_anew 30 = .ok (.if_icmp .ge 54, 3) := by decide +kernel
theorem dX8_anew_33 : decode cX8_anew 33 = .ok (.aload_n 0, 1) := by decide +kernel
theorem dX8_anew_34 : decode cX8_anew 34 = .ok (.iload_n 3, 1) := by decide +kernel
theorem dX8_anew_35 : decode cX8_anew 35 = .ok (.iconst 0, 1) := by decide +kernel
theorem dX8_anew_36 : decode cX8_anew 36 = .ok (.invokevirtual 221, 3) := by decide +kernel
theorem dX8_anew_39 : decode cX8_anew 39 = .ok (.iload_n 1, 1) := by decide +kernel
theorem dX8_anew_40 : decode cX8_anew 40 = .ok (.if_icmp .ne 38, 3) := by decide +kernel
theorem dX8_anew_43 : decode cX8_anew 43 = .ok (.iload_n 2, 1) := by decide +kernel
theorem dX8_anew_44 : decode cX8_anew 44 = .ok (.aload_n 0, 1) := by decide +kernel
theorem dX8_anew_45 : decode cX8_anew 45 = .ok (.getfield 42, 3) := by decide +kernel
theorem dX8_anew_48 : decode cX8_anew 48 = .ok (.iload_n 3, 1) := by decide +kernel
theorem dX8_anew_49 : decode cX8_anew 49 = .ok (.iconst 0, 1) := by decide +kernel
theorem dX8_anew_50 : decode cX8_anew 50 = .ok (.invokestatic 246, 3) := by decide +kernel
theorem dX8_anew_53 : decode cX8_anew 53 = .ok (.iaload, 1) := by decide +kernel
theorem dX8_anew_54 : decode cX8_anew 54 = .ok (.iadd, 1) := by decide +kernel
theorem dX8_anew_55 : decode cX8_anew 55 = .ok (.istore_n 2, 1) := by decide +kernel
theorem dX8_anew_56 : decode cX8_anew 56 = .ok (.aload_n 0, 1) := by decide +kernel
theorem dX8_anew_57 : decode cX8_anew 57 = .ok (.getfield 42, 3) := by decide +kernel
theorem dX8_anew_60 : decode cX8_anew 60 = .ok (.iload_n 3, 1) := by decide +kernel
theorem dX8_anew_61 : decode cX8_anew 61 = .ok (.iconst 0, 1) := by decide +kernel
theorem dX8_anew_62 : decode cX8_anew 62 = .ok (.invokestatic 246, 3) := by decide +kernel
theorem dX8_anew_65 : decode cX8_anew 65 = .ok (.iconst 0, 1) := by decide +kernel
theorem dX8_anew_66 : decode cX8_anew 66 = .ok (.iastore, 1) := by decide +kernel
theorem dX8_anew_67 : decode cX8_anew 67 = .ok (.aload_n 0, 1) := by decide +kernel
theorem dX8_anew_68 : decode cX8_anew 68 = .ok (.getfield 42, 3) := by decide +kernel
theorem dX8_anew_71 : decode cX8_anew 71 = .ok (.iload_n 3, 1) := by decide +kernel
theorem dX8_anew_72 : decode cX8_anew 72 = .ok (.iconst 2, 1) := by decide +kernel
theorem dX8_anew_73 : decode cX8_anew 73 = .ok (.invokestatic 246, 3) := by decide +kernel
theorem dX8_anew_76 : decode cX8_anew 76 = .ok (.iconst 0, 1) := by decide +kernel
theorem dX8_anew_77 : decode cX8_anew 77 = .ok (.iastore, 1) := by decide +kernel
theorem dX8_anew_78 : decode cX8_anew 78 = .ok (.iinc 3 1, 3) := by decide +kernel
theorem dX8_anew_81 : decode cX8_anew 81 = .ok (.goto (-59), 3) := by decide +kernel
theorem dX8_anew_84 : decode cX8_anew 84 = .ok (.iload_n 2, 1) := by decide +kernel
theorem dX8_anew_85 : decode cX8_anew 85 = .ok (.ireturn, 1) := by decide +kernel
theorem dX8_ticks_0 : decode cX8_ticks 0 = .ok (.aload_n 0, 1) := by decide +kernel
theorem dX8_ticks_1 : decode cX8_ticks 1 = .ok (.invokevirtual 200, 3) := by decide +kernel
theorem dX8_ticks_4 : decode cX8_ticks 4 = .ok (.aload_n 0, 1) := by decide +kernel
theorem dX8_ticks_5 : decode cX8_ticks 5 = .ok (.getfield 212, 3) := by decide +kernel
theorem dX8_ticks_8 : decode cX8_ticks 8 = .ok (.ifCond .ne 9, 3) := by decide +kernel
theorem dX8_ticks_11 : decode cX8_ticks 11 = .ok (.aload_n 0, 1) := by decide +kernel
theorem dX8_ticks_12 : decode cX8_ticks 12 = .ok (.iconst 1, 1) := by decide +kernel
theorem dX8_ticks_13 : decode cX8_ticks 13 = .ok (.invokevirtual 203, 3) := by decide +kernel
theorem dX8_ticks_16 : decode cX8_ticks 16 = .ok (.ireturn, 1) := by decide +kernel
theorem dX8_ticks_17 : decode cX8_ticks 17 = .ok (.iload_n 1, 1) := by decide +kernel
theorem dX8_ticks_18 : decode cX8_ticks 18 = .ok (.iconst 1, 1) := by decide +kernel
theorem dX8_ticks_19 : decode cX8_ticks 19 = .ok (.sipush 600, 3) := by decide +kernel
theorem dX8_ticks_22 : decode cX8_ticks 22 = .ok (.invokestatic 80, 3) := by decide +kernel
theorem dX8_ticks_25 : decode cX8_ticks 25 = .ok (.ifCond .ne 9, 3) := by decide +kernel
theorem dX8_ticks_28 : decode cX8_ticks 28 = .ok (.aload_n 0, 1) := by decide +kernel
theorem dX8_ticks_29 : decode cX8_ticks 29 = .ok (.iconst 2, 1) := by decide +kernel
theorem dX8_ticks_30 : decode cX8_ticks 30 = .ok (.invokevirtual 203, 3) := by decide +kernel
theorem dX8_ticks_33 : decode cX8_ticks 33 = .ok (.ireturn, 1) := by decide +kernel
theorem dX8_ticks_34 : decode cX8_ticks 34 = .ok (.aload_n 0, 1) := by decide +kernel
theorem dX8_ticks_35 : decode cX8_ticks 35 = .ok (.iload_n 1, 1) := by decide +kernel
theorem dX8_ticks_36 : decode cX8_ticks 36 = .ok (.invokevirtual 345, 3) := by decide +kernel
theorem dX8_ticks_39 : decode cX8_ticks 39 = .ok (.aload_n 0, 1) := by decide +kernel
theorem dX8_ticks_40 : decode cX8_ticks 40 = .ok (.getfield 274, 3) := by decide +kernel
theorem dX8_ticks_43 : decode cX8_ticks 43 = .ok (.ireturn, 1) := by decide +kernel
theorem dX8_willHear_0 : decode cX8_willHear 0 = .ok (.aload_n 0, 1) := by decide +kernel
theorem dX8_willHear_1 : decode cX8_willHear 1 = .ok (.invokevirtual 200, 3) := by decide +kernel
theorem dX8_willHear_4 : decode cX8_willHear 4 = .ok (.aload_n 0, 1) := by decide +kernel
theorem dX8_willHear_5 : decode cX8_willHear 5 = .ok (.iload_n 2, 1) := by decide +kernel
theorem dX8_willHear_6 : decode cX8_willHear 6 = .ok (.iload_n 3, 1) := by decide +kernel
theorem dX8_willHear_7 : decode cX8_willHear 7 = .ok (.iload 4, 2) := by decide +kernel
theorem dX8_willHear_9 : decode cX8_willHear 9 = .ok (.invokevirtual 243, 3) := by decide +kernel
theorem dX8_willHear_12 : decode cX8_willHear 12 = .ok (.ifCond .eq 10, 3) := by decide +kernel
theorem dX8_willHear_15 : decode cX8_willHear 15 = .ok (.iload 4, 2) := by decide +kernel
theorem dX8_willHear_17 : decode cX8_willHear 17 = .ok (.bipush 7, 2) := by decide +kernel
theorem dX8_willHear_19 : decode cX8_willHear 19 = .ok (.if_icmp .le 9, 3) := by decide +kernel
theorem dX8_willHear_22 : decode cX8_willHear 22 = .ok (.aload_n 0, 1) := by decide +kernel
theorem dX8_willHear_23 : decode cX8_willHear 23 = .ok (.iconst 1, 1) := by decide +kernel
theorem dX8_willHear_24 : decode cX8_willHear 24 = .ok (.invokevirtual 203, 3) := by decide +kernel
theorem dX8_willHear_27 : decode cX8_willHear 27 = .ok (.ireturn, 1) := by decide +kernel
theorem dX8_willHear_28 : decode cX8_willHear 28 = .ok (.iload_n 1, 1) := by decide +kernel
theorem dX8_willHear_29 : decode cX8_willHear 29 = .ok (.iconst 1, 1) := by decide +kernel
theorem dX8_willHear_30 : decode cX8_willHear 30 = .ok (.sipush 600, 3) := by decide +kernel
theorem dX8_willHear_33 : decode cX8_willHear 33 = .ok (.invokestatic 80, 3) := by decide +kernel
theorem dX8_willHear_36 : decode cX8_willHear 36 = .ok (.ifCond .ne 9, 3) := by decide +kernel
theorem dX8_willHear_39 : decode cX8_willHear 39 = .ok (.aload_n 0, 1) := by decide +kernel
theorem dX8_willHear_40 : decode cX8_willHear 40 = .ok (.iconst 2, 1) := by decide +kernel
theorem dX8_willHear_41 : decode cX8_willHear 41 = .ok (.invokevirtual 203, 3) := by decide +kernel
theorem dX8_willHear_44 : decode cX8_willHear 44 = .ok (.ireturn, 1) := by decide +kernel
theorem dX8_willHear_45 : decode cX8_willHear 45 = .ok (.aload_n 0, 1) := by decide +kernel
theorem dX8_willHear_46 : decode cX8_willHear 46 = .ok (.invokevirtual 348, 3) := by decide +kernel
theorem dX8_willHear_49 : decode cX8_willHear 49 = .ok (.aload_n 0, 1) := by decide +kernel
theorem dX8_willHear_50 : decode cX8_willHear 50 = .ok (.iload_n 1, 1) := by decide +kernel
theorem dX8_willHear_51 : decode cX8_willHear 51 = .ok (.invokevirtual 345, 3) := by decide +kernel
theorem dX8_willHear_54 : decode cX8_willHear 54 = .ok (.aload_n 0, 1) := by decide +kernel
theorem dX8_willHear_55 : decode cX8_willHear 55 = .ok (.getfield 42, 3) := by decide +kernel
theorem dX8_willHear_58 : decode cX8_willHear 58 = .ok (.iload_n 2, 1) := by decide +kernel
theorem dX8_willHear_59 : decode cX8_willHear 59 = .ok (.iload_n 3, 1) := by decide +kernel
theorem dX8_willHear_60 : decode cX8_willHear 60 = .ok (.invokestatic 252, 3) := by decide +kernel
theorem dX8_willHear_63 : decode cX8_willHear 63 = .ok (.iload 4, 2) := by decide +kernel
theorem dX8_willHear_65 : decode cX8_willHear 65 = .ok (.iadd, 1) := by decide +kernel
theorem dX8_willHear_66 : decode cX8_willHear 66 = .ok (.iaload, 1) := by decide +kernel
theorem dX8_willHear_67 : decode cX8_willHear 67 = .ok (.istore 5, 2) := by decide +kernel
theorem dX8_willHear_69 : decode cX8_willHear 69 = .ok (.aload_n 0, 1) := by decide +kernel
theorem dX8_willHear_70 : decode cX8_willHear 70 = .ok (.invokevirtual 351, 3) := by decide +kernel
theorem dX8_willHear_73 : decode cX8_willHear 73 = .ok (.iload 5, 2) := by decide +kernel
theorem dX8_willHear_75 : decode cX8_willHear 75 = .ok (.ireturn, 1) := by decide +kernel
theorem dX8_willLose_0 : decode cX8_willLose 0 = .ok (.aload_n 0, 1) := by decide +kernel
theorem dX8_willLose_1 : decode cX8_willLose 1 = .ok (.invokevirtual 200, 3) := by decide +kernel
theorem dX8_willLose_4 : decode cX8_willLose 4 = .ok (.aload_n 0, 1) := by decide +kernel
theorem dX8_willLose_5 : decode cX8_willLose 5 = .ok (.iload_n 2, 1) := by decide +kernel
theorem dX8_willLose_6 : decode cX8_willLose 6 = .ok (.iload_n 3, 1) := by decide +kernel
theorem dX8_willLose_7 : decode cX8_willLose 7 = .ok (.invokevirtual 310, 3) := by decide +kernel
theorem dX8_willLose_10 : decode cX8_willLose 10 = .ok (.ifCond .ne 9, 3) := by decide +kernel
theorem dX8_willLose_13 : decode cX8_willLose 13 = .ok (.aload_n 0, 1) := by decide +kernel
theorem dX8_willLose_14 : decode cX8_willLose 14 = .ok (.iconst 1, 1) := by decide +kernel
theorem dX8_willLose_15 : decode cX8_willLose 15 = .ok (.invokevirtual 203, 3) := by decide +kernel
theorem dX8_willLose_18 : decode cX8_willLose 18 = .ok (.ireturn, 1) := by decide +kernel
theorem dX8_willLose_19 : decode cX8_willLose 19 = .ok (.iload_n 1, 1) := by decide +kernel
theorem dX8_willLose_20 : decode cX8_willLose 20 = .ok (.iconst 1, 1) := by decide +kernel
theorem dX8_willLose_21 : decode cX8_willLose 21 = .ok (.sipush 600, 3) := by decide +kernel
theorem dX8_willLose_24 : decode cX8_willLose 24 = .ok (.invokestatic 80, 3) := by decide +kernel
theorem dX8_willLose_27 : decode cX8_willLose 27 = .ok (.ifCond .ne 9, 3) := by decide +kernel
theorem dX8_willLose_30 : decode cX8_willLose 30 = .ok (.aload_n 0, 1) := by decide +kernel
theorem dX8_willLose_31 : decode cX8_willLose 31 = .ok (.iconst 2, 1) := by decide +kernel
theorem dX8_willLose_32 : decode cX8_willLose 32 = .ok (.invokevirtual 203, 3) := by decide +kernel
theorem dX8_willLose_35 : decode cX8_willLose 35 = .ok (.ireturn, 1) := by decide +kernel
theorem dX8_willLose_36 : decode cX8_willLose 36 = .ok (.aload_n 0, 1) := by decide +kernel
theorem dX8_willLose_37 : decode cX8_willLose 37 = .ok (.invokevirtual 348, 3) := by decide +kernel
theorem dX8_willLose_40 : decode cX8_willLose 40 = .ok (.aload_n 0, 1) := by decide +kernel
theorem dX8_willLose_41 : decode cX8_willLose 41 = .ok (.iload_n 1, 1) := by decide +kernel
theorem dX8_willLose_42 : decode cX8_willLose 42 = .ok (.invokevirtual 345, 3) := by decide +kernel
theorem dX8_willLose_45 : decode cX8_willLose 45 = .ok (.aload_n 0, 1) := by decide +kernel
theorem dX8_willLose_46 : decode cX8_willLose 46 = .ok (.getfield 42, 3) := by decide +kernel
theorem dX8_willLose_49 : decode cX8_willLose 49 = .ok (.bipush 73, 2) := by decide +kernel
theorem dX8_willLose_51 : decode cX8_willLose 51 = .ok (.iconst 3, 1) := by decide +kernel
theorem dX8_willLose_52 : decode cX8_willLose 52 = .ok (.iload_n 2, 1) := by decide +kernel
theorem dX8_willLose_53 : decode cX8_willLose 53 = .ok (.imul, 1) := by decide +kernel
theorem dX8_willLose_54 : decode cX8_willLose 54 = .ok (.iadd, 1) := by decide +kernel
theorem dX8_willLose_55 : decode cX8_willLose 55 = .ok (.iload_n 3, 1) := by decide +kernel
theorem dX8_willLose_56 : decode cX8_willLose 56 = .ok (.iadd, 1) := by decide +kernel
theorem dX8_willLose_57 : decode cX8_willLose 57 = .ok (.iaload, 1) := by decide +kernel
theorem dX8_willLose_58 : decode cX8_willLose 58 = .ok (.istore 4, 2) := by decide +kernel
theorem dX8_willLose_60 : decode cX8_willLose 60 = .ok (.aload_n 0, 1) := by decide +kernel
theorem dX8_willLose_61 : decode cX8_willLose 61 = .ok (.invokevirtual 351, 3) := by decide +kernel
theorem dX8_willLose_64 : decode cX8_willLose 64 = .ok (.iload 4, 2) := by decide +kernel
theorem dX8_willLose_66 : decode cX8_willLose 66 = .ok (.ireturn, 1) := by decide +kernel
theorem dX8_waitingMany_0 : decode cX8_waitingMany 0 = .ok (.iconst 0, 1) := by decide +kernel
theorem dX8_waitingMany_1 : decode cX8_waitingMany 1 = .ok (.istore_n 1, 1) := by decide +kernel
theorem dX8_waitingMany_2 : decode cX8_waitingMany 2 = .ok (.iconst 0, 1) := by decide +kernel
theorem dX8_waitingMany_3 : decode cX8_waitingMany 3 = .ok (.istore_n 2, 1) := by decide +kernel
theorem dX8_waitingMany_4 : decode cX8_waitingMany 4 = .ok (.iload_n 2, 1) := by decide +kernel
theorem dX8_waitingMany_5 : decode cX8_waitingMany 5 = .ok (.aload_n 0, 1) := by decide +kernel
theorem dX8_waitingMany_6 : decode cX8_waitingMany 6 = .ok (.getfield 17, 3) := by decide +kernel
theorem dX8_waitingMany_9 : decode cX8_waitingMany 9 = .ok (.bipush 6, 2) := by decide +kernel
theorem dX8_waitingMany_11 : decode cX8_waitingMany 11 = .ok (.iaload, 1) := by decide +kernel
theorem dX8_waitingMany_12 : decode cX8_waitingMany 12 = .ok (.if_icmp .ge 22, 3) := by decide +kernel
theorem dX8_waitingMany_15 : decode cX8_waitingMany 15 = .ok (.iload_n 1, 1) := by decide +kernel
theorem dX8_waitingMany_16 : decode cX8_waitingMany 16 = .ok (.aload_n 0, 1) := by decide +kernel
theorem dX8_waitingMany_17 : decode cX8_waitingMany 17 = .ok (.getfield 42, 3) := by decide +kernel
theorem dX8_waitingMany_20 : decode cX8_waitingMany 20 = .ok (.iload_n 2, 1) := by decide +kernel
theorem dX8_waitingMany_21 : decode cX8_waitingMany 21 = .ok (.iconst 0, 1) := by decide +kernel
theorem dX8_waitingMany_22 : decode cX8_waitingMany 22 = .ok (.invokestatic 246, 3) := by decide +kernel
theorem dX8_waitingMany_25 : decode cX8_waitingMany 25 = .ok (.iaload, 1) := by decide +kernel
theorem dX8_waitingMany_26 : decode cX8_waitingMany 26 = .ok (.iadd, 1) := by decide +kernel
theorem dX8_waitingMany_27 : decode cX8_waitingMany 27 = .ok (.istore_n 1, 1) := by decide +kernel
theorem dX8_waitingMany_28 : decode cX8_waitingMany 28 = .ok (.iinc 2 1, 3) := by decide +kernel
theorem dX8_waitingMany_31 : decode cX8_waitingMany 31 = .ok (.goto (-27), 3) := by decide +kernel
theorem dX8_waitingMany_34 : decode cX8_waitingMany 34 = .ok (.iload_n 1, 1) := by decide +kernel
theorem dX8_waitingMany_35 : decode cX8_waitingMany 35 = .ok (.ireturn, 1) := by decide +kernel
theorem dX8_frameMany_0 : decode cX8_frameMany 0 = .ok (.iconst 0, 1) := by decide +kernel
theorem dX8_frameMany_1 : decode cX8_frameMany 1 = .ok (.istore_n 1, 1) := by decide +kernel
theorem dX8_frameMany_2 : decode cX8_frameMany 2 = .ok (.iconst 0, 1) := by decide +kernel
theorem dX8_frameMany_3 : decode cX8_frameMany 3 = .ok (.istore_n 2, 1) := by decide +kernel
theorem dX8_frameMany_4 : decode cX8_frameMany 4 = .ok (.iload_n 2, 1) := by decide +kernel
theorem dX8_frameMany_5 : decode cX8_frameMany 5 = .ok (.bipush 32, 2) := by decide +kernel
theorem dX8_frameMany_7 : decode cX8_frameMany 7 = .ok (.if_icmp .ge 26, 3) := by decide +kernel
theorem dX8_frameMany_10 : decode cX8_frameMany 10 = .ok (.iload_n 1, 1) := by decide +kernel
theorem dX8_frameMany_11 : decode cX8_frameMany 11 = .ok (.aload_n 0, 1) := by decide +kernel
theorem dX8_frameMany_12 : decode cX8_frameMany 12 = .ok (.getfield 42, 3) := by decide +kernel
theorem dX8_frameMany_15 : decode cX8_frameMany 15 = .ok (.bipush 81, 2) := by decide +kernel
theorem dX8_frameMany_17 : decode cX8_frameMany 17 = .ok (.bipush 39, 2) := by decide +kernel
theorem dX8_frameMany_19 : decode cX8_frameMany 19 = .ok (.iload_n 2, 1) := by decide +kernel
theorem dX8_frameMany_20 : decode cX8_frameMany 20 = .ok (.imul, 1) := by decide +kernel
theorem dX8_frameMany_21 : decode cX8_frameMany 21 = .ok (.iadd, 1) := by decide +kernel
theorem dX8_frameMany_22 : decode cX8_frameMany 22 = .ok (.iconst 0, 1) := by decide +kernel
theorem dX8_frameMany_23 : decode cX8_frameMany 23 = .ok (.iadd, 1) := by decide +kernel
theorem dX8_frameMany_24 : decode cX8_frameMany 24 = .ok (.iaload, 1) := by decide +kernel
theorem dX8_frameMany_25 : decode cX8_frameMany 25 = .ok (.iadd, 1) := by decide +kernel
theorem dX8_frameMany_26 : decode cX8_frameMany 26 = .ok (.istore_n 1, 1) := by decide +kernel
theorem dX8_frameMany_27 : decode cX8_frameMany 27 = .ok (.iinc 2 1, 3) := by decide +kernel
theorem dX8_frameMany_30 : decode cX8_frameMany 30 = .ok (.goto (-26), 3) := by decide +kernel
theorem dX8_frameMany_33 : decode cX8_frameMany 33 = .ok (.iload_n 1, 1) := by decide +kernel
theorem dX8_frameMany_34 : decode cX8_frameMany 34 = .ok (.ireturn, 1) := by decide +kernel
theorem dX8_quiet_0 : decode cX8_quiet 0 = .ok (.aload_n 0, 1) := by decide +kernel
theorem dX8_quiet_1 : decode cX8_quiet 1 = .ok (.invokevirtual 200, 3) := by decide +kernel
theorem dX8_quiet_4 : decode cX8_quiet 4 = .ok (.aload_n 0, 1) := by decide +kernel
theorem dX8_quiet_5 : decode cX8_quiet 5 = .ok (.getfield 212, 3) := by decide +kernel
theorem dX8_quiet_8 : decode cX8_quiet 8 = .ok (.ifCond .ne 9, 3) := by decide +kernel
theorem dX8_quiet_11 : decode cX8_quiet 11 = .ok (.aload_n 0, 1) := by decide +kernel
theorem dX8_quiet_12 : decode cX8_quiet 12 = .ok (.iconst 1, 1) := by decide +kernel
theorem dX8_quiet_13 : decode cX8_quiet 13 = .ok (.invokevirtual 203, 3) := by decide +kernel
theorem dX8_quiet_16 : decode cX8_quiet 16 = .ok (.ireturn, 1) := by decide +kernel
theorem dX8_quiet_17 : decode cX8_quiet 17 = .ok (.aload_n 0, 1) := by decide +kernel
theorem dX8_quiet_18 : decode cX8_quiet 18 = .ok (.invokevirtual 348, 3) := by decide +kernel
theorem dX8_quiet_21 : decode cX8_quiet 21 = .ok (.iconst 0, 1) := by decide +kernel
theorem dX8_quiet_22 : decode cX8_quiet 22 = .ok (.istore_n 1, 1) := by decide +kernel
theorem dX8_quiet_23 : decode cX8_quiet 23 = .ok (.iload_n 1, 1) := by decide +kernel
theorem dX8_quiet_24 : decode cX8_quiet 24 = .ok (.sipush 2000, 3) := by decide +kernel
theorem dX8_quiet_27 : decode cX8_quiet 27 = .ok (.if_icmp .gt 25, 3) := by decide +kernel
theorem dX8_quiet_30 : decode cX8_quiet 30 = .ok (.aload_n 0, 1) := by decide +kernel
theorem dX8_quiet_31 : decode cX8_quiet 31 = .ok (.invokevirtual 354, 3) := by decide +kernel
theorem dX8_quiet_34 : decode cX8_quiet 34 = .ok (.aload_n 0, 1) := by decide +kernel
theorem dX8_quiet_35 : decode cX8_quiet 35 = .ok (.invokevirtual 357, 3) := by decide +kernel
theorem dX8_quiet_38 : decode cX8_quiet 38 = .ok (.iadd, 1) := by decide +kernel
theorem dX8_quiet_39 : decode cX8_quiet 39 = .ok (.ifCond .le 13, 3) := by decide +kernel
theorem dX8_quiet_42 : decode cX8_quiet 42 = .ok (.aload_n 0, 1) := by decide +kernel
theorem dX8_quiet_43 : decode cX8_quiet 43 = .ok (.invokevirtual 304, 3) := by decide +kernel
theorem dX8_quiet_46 : decode cX8_quiet 46 = .ok (.iinc 1 1, 3) := by decide +kernel
theorem dX8_quiet_49 : decode cX8_quiet 49 = .ok (.goto (-26), 3) := by decide +kernel
theorem dX8_quiet_52 : decode cX8_quiet 52 = .ok (.aload_n 0, 1) := by decide +kernel
theorem dX8_quiet_53 : decode cX8_quiet 53 = .ok (.invokevirtual 351, 3) := by decide +kernel
theorem dX8_quiet_56 : decode cX8_quiet 56 = .ok (.iload_n 1, 1) := by decide +kernel
theorem dX8_quiet_57 : decode cX8_quiet 57 = .ok (.sipush 2000, 3) := by decide +kernel
theorem dX8_quiet_60 : decode cX8_quiet 60 = .ok (.if_icmp .le 8, 3) := by decide +kernel
theorem dX8_quiet_63 : decode cX8_quiet 63 = .ok (.bipush (-2), 2) := by decide +kernel
theorem dX8_quiet_65 : decode cX8_quiet 65 = .ok (.goto 4, 3) := by decide +kernel
theorem dX8_quiet_68 : decode cX8_quiet 68 = .ok (.iload_n 1, 1) := by decide +kernel
theorem dX8_quiet_69 : decode cX8_quiet 69 = .ok (.ireturn, 1) := by decide +kernel
theorem dX8_keep_0 : decode cX8_keep 0 = .ok (.aload_n 0, 1) := by decide +kernel
theorem dX8_keep_1 : decode cX8_keep 1 = .ok (.invokevirtual 200, 3) := by decide +kernel
theorem dX8_keep_4 : decode cX8_keep 4 = .ok (.aload_n 0, 1) := by decide +kernel
theorem dX8_keep_5 : decode cX8_keep 5 = .ok (.getfield 212, 3) := by decide +kernel
theorem dX8_keep_8 : decode cX8_keep 8 = .ok (.ifCond .ne 10, 3) := by decide +kernel
theorem dX8_keep_11 : decode cX8_keep 11 = .ok (.aload_n 0, 1) := by decide +kernel
theorem dX8_keep_12 : decode cX8_keep 12 = .ok (.iconst 1, 1) := by decide +kernel
theorem dX8_keep_13 : decode cX8_keep 13 = .ok (.putfield 54, 3) := by decide +kernel
theorem dX8_keep_16 : decode cX8_keep 16 = .ok (.iconst 0, 1) := by decide +kernel
theorem dX8_keep_17 : decode cX8_keep 17 = .ok (.ireturn, 1) := by decide +kernel
theorem dX8_keep_18 : decode cX8_keep 18 = .ok (.iconst 0, 1) := by decide +kernel
theorem dX8_keep_19 : decode cX8_keep 19 = .ok (.istore_n 1, 1) := by decide +kernel
theorem dX8_keep_20 : decode cX8_keep 20 = .ok (.iload_n 1, 1) := by decide +kernel
theorem dX8_keep_21 : decode cX8_keep 21 = .ok (.sipush 1809, 3) := by decide +kernel
theorem dX8_keep_24 : decode cX8_keep 24 = .ok (.if_icmp .ge 21, 3) := by decide +kernel
theorem dX8_keep_27 : decode cX8_keep 27 = .ok (.aload_n 0, 1) := by decide +kernel
theorem dX8_keep_28 : decode cX8_keep 28 = .ok (.getfield 48, 3) := by decide +kernel
theorem dX8_keep_31 : decode cX8_keep 31 = .ok (.iload_n 1, 1) := by decide +kernel
theorem dX8_keep_32 : decode cX8_keep 32 = .ok (.aload_n 0, 1) := by decide +kernel
theorem dX8_keep_33 : decode cX8_keep 33 = .ok (.getfield 42, 3) := by decide +kernel
theorem dX8_keep_36 : decode cX8_keep 36 = .ok (.iload_n 1, 1) := by decide +kernel
theorem dX8_keep_37 : decode cX8_keep 37 = .ok (.iaload, 1) := by decide +kernel
theorem dX8_keep_38 : decode cX8_keep 38 = .ok (.iastore, 1) := by decide +kernel
theorem dX8_keep_39 : decode cX8_keep 39 = .ok (.iinc 1 1, 3) := by decide +kernel
theorem dX8_keep_42 : decode cX8_keep 42 = .ok (.goto (-22), 3) := by decide +kernel
theorem dX8_keep_45 : decode cX8_keep 45 = .ok (.aload_n 0, 1) := by decide +kernel
theorem dX8_keep_46 : decode cX8_keep 46 = .ok (.iconst 1, 1) := by decide +kernel
theorem dX8_keep_47 : decode cX8_keep 47 = .ok (.putfield 215, 3) := by decide +kernel
theorem dX8_keep_50 : decode cX8_keep 50 = .ok (.iconst 1, 1) := by decide +kernel
theorem dX8_keep_51 : decode cX8_keep 51 = .ok (.ireturn, 1) := by decide +kernel
theorem dX8_back_0 : decode cX8_back 0 = .ok (.aload_n 0, 1) := by decide +kernel
theorem dX8_back_1 : decode cX8_back 1 = .ok (.invokevirtual 200, 3) := by decide +kernel
theorem dX8_back_4 : decode cX8_back 4 = .ok (.aload_n 0, 1) := by decide +kernel
theorem dX8_back_5 : decode cX8_back 5 = .ok (.getfield 215, 3) := by decide +kernel
theorem dX8_back_8 : decode cX8_back 8 = .ok (.ifCond .ne 10, 3) := by decide +kernel
theorem dX8_back_11 : decode cX8_back 11 = .ok (.aload_n 0, 1) := by decide +kernel
theorem dX8_back_12 : decode cX8_back 12 = .ok (.iconst 1, 1) := by decide +kernel
theorem dX8_back_13 : decode cX8_back 13 = .ok (.putfield 54, 3) := by decide +kernel
theorem dX8_back_16 : decode cX8_back 16 = .ok (.iconst 0, 1) := by decide +kernel
theorem dX8_back_17 : decode cX8_back 17 = .ok (.ireturn, 1) := by decide +kernel
theorem dX8_back_18 : decode cX8_back 18 = .ok (.iconst 0, 1) := by decide +kernel
theorem dX8_back_19 : decode cX8_back 19 = .ok (.istore_n 1, 1) := by decide +kernel
theorem dX8_back_20 : decode cX8_back 20 = .ok (.iload_n 1, 1) := by decide +kernel
theorem dX8_back_21 : decode cX8_back 21 = .ok (.sipush 1809, 3) := by decide +kernel
theorem dX8_back_24 : decode cX8_back 24 = .ok (.if_icmp .ge 21, 3) := by decide +kernel
theorem dX8_back_27 : decode cX8_back 27 = .ok (.aload_n 0, 1) := by decide +kernel
theorem dX8_back_28 : decode cX8_back 28 = .ok (.getfield 42, 3) := by decide +kernel
theorem dX8_back_31 : decode cX8_back 31 = .ok (.iload_n 1, 1) := by decide +kernel
theorem dX8_back_32 : decode cX8_back 32 = .ok (.aload_n 0, 1) := by decide +kernel
theorem dX8_back_33 : decode cX8_back 33 = .ok (.getfield 48, 3) := by decide +kernel
theorem dX8_back_36 : decode cX8_back 36 = .ok (.iload_n 1, 1) := by decide +kernel
theorem dX8_back_37 : decode cX8_back 37 = .ok (.iaload, 1) := by decide +kernel
theorem dX8_back_38 : decode cX8_back 38 = .ok (.iastore, 1) := by decide +kernel
theorem dX8_back_39 : decode cX8_back 39 = .ok (.iinc 1 1, 3) := by decide +kernel
theorem dX8_back_42 : decode cX8_back 42 = .ok (.goto (-22), 3) := by decide +kernel
theorem dX8_back_45 : decode cX8_back 45 = .ok (.iconst 1, 1) := by decide +kernel
theorem dX8_back_46 : decode cX8_back 46 = .ok (.ireturn, 1) := by decide +kernel
theorem dX8_isSilent_0 : decode cX8_isSilent 0 = .ok (.iconst 0, 1) := by decide +kernel
theorem dX8_isSilent_1 : decode cX8_isSilent 1 = .ok (.istore_n 2, 1) := by decide +kernel
theorem dX8_isSilent_2 : decode cX8_isSilent 2 = .ok (.iload_n 2, 1) := by decide +kernel
theorem dX8_isSilent_3 : decode cX8_isSilent 3 = .ok (.aload_n 0, 1) := by decide +kernel
theorem dX8_isSilent_4 : decode cX8_isSilent 4 = .ok (.iload_n 1, 1) := by decide +kernel
theorem dX8_isSilent_5 : decode cX8_isSilent 5 = .ok (.iconst 3, 1) := by decide +kernel
theorem dX8_isSilent_6 : decode cX8_isSilent 6 = .ok (.invokevirtual 221, 3) := by decide +kernel
theorem dX8_isSilent_9 : decode cX8_isSilent 9 = .ok (.if_icmp .ge 26, 3) := by decide +kernel
theorem dX8_isSilent_12 : decode cX8_isSilent 12 = .ok (.aload_n 0, 1) := by decide +kernel
theorem dX8_isSilent_13 : decode cX8_isSilent 13 = .ok (.getfield 42, 3) := by decide +kernel
theorem dX8_isSilent_16 : decode cX8_isSilent 16 = .ok (.iload_n 1, 1) := by decide +kernel
theorem dX8_isSilent_17 : decode cX8_isSilent 17 = .ok (.iload_n 2, 1) := by decide +kernel
theorem dX8_isSilent_18 : decode cX8_isSilent 18 = .ok (.invokestatic 252, 3) := by decide +kernel
theorem dX8_isSilent_21 : decode cX8_isSilent 21 = .ok (.iconst 0, 1) := by decide +kernel
theorem dX8_isSilent_22 : decode cX8_isSilent 22 = .ok (.iadd, 1) := by decide +kernel
theorem dX8_isSilent_23 : decode cX8_isSilent 23 = .ok (.iaload, 1) := by decide +kernel
theorem dX8_isSilent_24 : decode cX8_isSilent 24 = .ok (.ifCond .ne 5, 3) := by decide +kernel
theorem dX8_isSilent_27 : decode cX8_isSilent 27 = .ok (.iconst 1, 1) := by decide +kernel
theorem dX8_isSilent_28 : decode cX8_isSilent 28 = .ok (.ireturn, 1) := by decide +kernel
theorem dX8_isSilent_29 : decode cX8_isSilent 29 = .ok (.iinc 2 1, 3) := by decide +kernel
theorem dX8_isSilent_32 : decode cX8_isSilent 32 = .ok (.goto (-30), 3) := by decide +kernel
theorem dX8_isSilent_35 : decode cX8_isSilent 35 = .ok (.iconst 0, 1) := by decide +kernel
theorem dX8_isSilent_36 : decode cX8_isSilent 36 = .ok (.ireturn, 1) := by decide +kernel
theorem dX8_silent_0 : decode cX8_silent 0 = .ok (.aload_n 0, 1) := by decide +kernel
theorem dX8_silent_1 : decode cX8_silent 1 = .ok (.iconst 0, 1) := by decide +kernel
theorem dX8_silent_2 : decode cX8_silent 2 = .ok (.putfield 51, 3) := by decide +kernel
theorem dX8_silent_5 : decode cX8_silent 5 = .ok (.iconst 0, 1) := by decide +kernel
theorem dX8_silent_6 : decode cX8_silent 6 = .ok (.istore_n 2, 1) := by decide +kernel
theorem dX8_silent_7 : decode cX8_silent 7 = .ok (.iconst 0, 1) := by decide +kernel
theorem dX8_silent_8 : decode cX8_silent 8 = .ok (.istore_n 3, 1) := by decide +kernel
theorem dX8_silent_9 : decode cX8_silent 9 = .ok (.aload_n 0, 1) := by decide +kernel
theorem dX8_silent_10 : decode cX8_silent 10 = .ok (.getfield 212, 3) := by decide +kernel
theorem dX8_silent_13 : decode cX8_silent 13 = .ok (.ifCond .eq 38, 3) := by decide +kernel
theorem dX8_silent_16 : decode cX8_silent 16 = .ok (.iload_n 3, 1) := by decide +kernel
theorem dX8_silent_17 : decode cX8_silent 17 = .ok (.aload_n 0, 1) := by decide +kernel
theorem dX8_silent_18 : decode cX8_silent 18 = .ok (.getfield 17, 3) := by decide +kernel
theorem dX8_silent_21 : decode cX8_silent 21 = .ok (.bipush 6, 2) := by decide +kernel
theorem dX8_silent_23 : decode cX8_silent 23 = .ok (.iaload, 1) := by decide +kernel
theorem dX8_silent_24 : decode cX8_silent 24 = .ok (.if_icmp .ge 27, 3) := by decide +kernel
theorem dX8_silent_27 : decode cX8_silent 27 = .ok (.aload_n 0, 1) := by decide +kernel
theorem dX8_silent_28 : decode cX8_silent 28 = .ok (.iload_n 3, 1) := by decide +kernel
theorem dX8_silent_29 : decode cX8_silent 29 = .ok (.invokevirtual 360, 3) := by decide +kernel
theorem dX8_silent_32 : decode cX8_silent 32 = .ok (.ifCond .eq 13, 3) := by decide +kernel
theorem dX8_silent_35 : decode cX8_silent 35 = .ok (.iload_n 2, 1) := by decide +kernel
theorem dX8_silent_36 : decode cX8_silent 36 = .ok (.iload_n 1, 1) := by decide +kernel
theorem dX8_silent_37 : decode cX8_silent 37 = .ok (.if_icmp .ne 5, 3) := by decide +kernel
theorem dX8_silent_40 : decode cX8_silent 40 = .ok (.iload_n 3, 1) := by decide +kernel
theorem dX8_silent_41 : decode cX8_silent 41 = .ok (.ireturn, 1) := by decide +kernel
theorem dX8_silent_42 : decode cX8_silent 42 = .ok (.iinc 2 1, 3) := by decide +kernel
theorem dX8_silent_45 : decode cX8_silent 45 = .ok (.iinc 3 1, 3) := by decide +kernel
theorem dX8_silent_48 : decode cX8_silent 48 = .ok (.goto (-39), 3) := by decide +kernel
theorem dX8_silent_51 : decode cX8_silent 51 = .ok (.aload_n 0, 1) := by decide +kernel
theorem dX8_silent_52 : decode cX8_silent 52 = .ok (.iconst 1, 1) := by decide +kernel
theorem dX8_silent_53 : decode cX8_silent 53 = .ok (.putfield 51, 3) := by decide +kernel
theorem dX8_silent_56 : decode cX8_silent 56 = .ok (.iconst 0, 1) := by decide +kernel
theorem dX8_silent_57 : decode cX8_silent 57 = .ok (.ireturn, 1) := by decide +kernel
theorem dX8_receiverMany_0 : decode cX8_receiverMany 0 = .ok (.iconst 0, 1) := by decide +kernel
theorem dX8_receiverMany_1 : decode cX8_receiverMany 1 = .ok (.istore_n 1, 1) := by decide +kernel
theorem dX8_receiverMany_2 : decode cX8_receiverMany 2 = .ok (.iconst 0, 1) := by decide +kernel
theorem dX8_receiverMany_3 : decode cX8_receiverMany 3 = .ok (.istore_n 2, 1) := by decide +kernel
theorem dX8_receiverMany_4 : decode cX8_receiverMany 4 = .ok (.iload_n 2, 1) := by decide +kernel
theorem dX8_receiverMany_5 : decode cX8_receiverMany 5 = .ok (.aload_n 0, 1) := by decide +kernel
theorem dX8_receiverMany_6 : decode cX8_receiverMany 6 = .ok (.getfield 17, 3) := by decide +kernel
theorem dX8_receiverMany_9 : decode cX8_receiverMany 9 = .ok (.bipush 6, 2) := by decide +kernel
theorem dX8_receiverMany_11 : decode cX8_receiverMany 11 = .ok (.iaload, 1) := by decide +kernel
theorem dX8_receiverMany_12 : decode cX8_receiverMany 12 = .ok (.if_icmp .ge 18, 3) := by decide +kernel
theorem dX8_receiverMany_15 : decode cX8_receiverMany 15 = .ok (.iload_n 1, 1) := by decide +kernel
theorem dX8_receiverMany_16 : decode cX8_receiverMany 16 = .ok (.aload_n 0, 1) := by decide +kernel
theorem dX8_receiverMany_17 : decode cX8_receiverMany 17 = .ok (.iload_n 2, 1) := by decide +kernel
theorem dX8_receiverMany_18 : decode cX8_receiverMany 18 = .ok (.iconst 3, 1) := by decide +kernel
theorem dX8_receiverMany_19 : decode cX8_receiverMany 19 = .ok (.invokevirtual 221, 3) := by decide +kernel
theorem dX8_receiverMany_22 : decode cX8_receiverMany 22 = .ok (.iadd, 1) := by decide +kernel
theorem dX8_receiverMany_23 : decode cX8_receiverMany 23 = .ok (.istore_n 1, 1) := by decide +kernel
theorem dX8_receiverMany_24 : decode cX8_receiverMany 24 = .ok (.iinc 2 1, 3) := by decide +kernel
theorem dX8_receiverMany_27 : decode cX8_receiverMany 27 = .ok (.goto (-23), 3) := by decide +kernel
theorem dX8_receiverMany_30 : decode cX8_receiverMany 30 = .ok (.iload_n 1, 1) := by decide +kernel
theorem dX8_receiverMany_31 : decode cX8_receiverMany 31 = .ok (.ireturn, 1) := by decide +kernel
theorem dX8_size_0 : decode cX8_size 0 = .ok (.aload_n 0, 1) := by decide +kernel
theorem dX8_size_1 : decode cX8_size 1 = .ok (.iconst 0, 1) := by decide +kernel
theorem dX8_size_2 : decode cX8_size 2 = .ok (.putfield 51, 3) := by decide +kernel
theorem dX8_size_5 : decode cX8_size 5 = .ok (.iload_n 1, 1) := by decide +kernel
theorem dX8_size_6 : decode cX8_size 6 = .ok (.tableswitch 67 0 4 #[34, 39, 44, 49, 54], 34) := by decide +kernel
theorem dX8_size_40 : decode cX8_size 40 = .ok (.aload_n 0, 1) := by decide +kernel
theorem dX8_size_41 : decode cX8_size 41 = .ok (.getfield 57, 3) := by decide +kernel
theorem dX8_size_44 : decode cX8_size 44 = .ok (.ireturn, 1) := by decide +kernel
theorem dX8_size_45 : decode cX8_size 45 = .ok (.aload_n 0, 1) := by decide +kernel
theorem dX8_size_46 : decode cX8_size 46 = .ok (.invokevirtual 363, 3) := by decide +kernel
theorem dX8_size_49 : decode cX8_size 49 = .ok (.ireturn, 1) := by decide +kernel
theorem dX8_size_50 : decode cX8_size 50 = .ok (.aload_n 0, 1) := by decide +kernel
theorem dX8_size_51 : decode cX8_size 51 = .ok (.invokevirtual 354, 3) := by decide +kernel
theorem dX8_size_54 : decode cX8_size 54 = .ok (.ireturn, 1) := by decide +kernel
theorem dX8_size_55 : decode cX8_size 55 = .ok (.aload_n 0, 1) := by decide +kernel
theorem dX8_size_56 : decode cX8_size 56 = .ok (.invokevirtual 357, 3) := by decide +kernel
theorem dX8_size_59 : decode cX8_size 59 = .ok (.ireturn, 1) := by decide +kernel
theorem dX8_size_60 : decode cX8_size 60 = .ok (.aload_n 0, 1) := by decide +kernel
theorem dX8_size_61 : decode cX8_size 61 = .ok (.getfield 215, 3) := by decide +kernel
theorem dX8_size_64 : decode cX8_size 64 = .ok (.ifCond .eq 7, 3) := by decide +kernel
theorem dX8_size_67 : decode cX8_size 67 = .ok (.iconst 1, 1) := by decide +kernel
theorem dX8_size_68 : decode cX8_size 68 = .ok (.goto 4, 3) := by decide +kernel
theorem dX8_size_71 : decode cX8_size 71 = .ok (.iconst 0, 1) := by decide +kernel
theorem dX8_size_72 : decode cX8_size 72 = .ok (.ireturn, 1) := by decide +kernel
theorem dX8_size_73 : decode cX8_size 73 = .ok (.iconst (-1), 1) := by decide +kernel
theorem dX8_size_74 : decode cX8_size 74 = .ok (.ireturn, 1) := by decide +kernel
theorem dX8_trouble_0 : decode cX8_trouble 0 = .ok (.aload_n 0, 1) := by decide +kernel
theorem dX8_trouble_1 : decode cX8_trouble 1 = .ok (.iconst 0, 1) := by decide +kernel
theorem dX8_trouble_2 : decode cX8_trouble 2 = .ok (.putfield 51, 3) := by decide +kernel
theorem dX8_trouble_5 : decode cX8_trouble 5 = .ok (.aload_n 0, 1) := by decide +kernel
theorem dX8_trouble_6 : decode cX8_trouble 6 = .ok (.getfield 54, 3) := by decide +kernel
theorem dX8_trouble_9 : decode cX8_trouble 9 = .ok (.ireturn, 1) := by decide +kernel
theorem dJ6_numberOfTrailingZeros_0f7a4_0 : decode cJ6_numberOfTrailingZeros_0f7a4 0 = .ok (.iload_n 0, 1) := by decide +kernel
theorem dJ6_numberOfTrailingZeros_0f7a4_1 : decode cJ6_numberOfTrailingZeros_0f7a4 1 = .ok (.iconst (-1), 1) := by decide +kernel
theorem dJ6_numberOfTrailingZeros_0f7a4_2 : decode cJ6_numberOfTrailingZeros_0f7a4 2 = .ok (.ixor, 1) := by decide +kernel
theorem dJ6_numberOfTrailingZeros_0f7a4_3 : decode cJ6_numberOfTrailingZeros_0f7a4 3 = .ok (.iload_n 0, 1) := by decide +kernel
theorem dJ6_numberOfTrailingZeros_0f7a4_4 : decode cJ6_numberOfTrailingZeros_0f7a4 4 = .ok (.iconst 1, 1) := by decide +kernel
theorem dJ6_numberOfTrailingZeros_0f7a4_5 : decode cJ6_numberOfTrailingZeros_0f7a4 5 = .ok (.isub, 1) := by decide +kernel
theorem dJ6_numberOfTrailingZeros_0f7a4_6 : decode cJ6_numberOfTrailingZeros_0f7a4 6 = .ok (.iand, 1) := by decide +kernel
theorem dJ6_numberOfTrailingZeros_0f7a4_7 : decode cJ6_numberOfTrailingZeros_0f7a4 7 = .ok (.istore_n 0, 1) := by decide +kernel
theorem dJ6_numberOfTrailingZeros_0f7a4_8 : decode cJ6_numberOfTrailingZeros_0f7a4 8 = .ok (.iload_n 0, 1) := by decide +kernel
theorem dJ6_numberOfTrailingZeros_0f7a4_9 : decode cJ6_numberOfTrailingZeros_0f7a4 9 = .ok (.ifCond .gt 8, 3) := by decide +kernel
theorem dJ6_numberOfTrailingZeros_0f7a4_12 : decode cJ6_numberOfTrailingZeros_0f7a4 12 = .ok (.iload_n 0, 1) := by decide +kernel
theorem dJ6_numberOfTrailingZeros_0f7a4_13 : decode cJ6_numberOfTrailingZeros_0f7a4 13 = .ok (.bipush 32, 2) := by decide +kernel
theorem dJ6_numberOfTrailingZeros_0f7a4_15 : decode cJ6_numberOfTrailingZeros_0f7a4 15 = .ok (.iand, 1) := by decide +kernel
theorem dJ6_numberOfTrailingZeros_0f7a4_16 : decode cJ6_numberOfTrailingZeros_0f7a4 16 = .ok (.ireturn, 1) := by decide +kernel
theorem dJ6_numberOfTrailingZeros_0f7a4_17 : decode cJ6_numberOfTrailingZeros_0f7a4 17 = .ok (.iconst 1, 1) := by decide +kernel
theorem dJ6_numberOfTrailingZeros_0f7a4_18 : decode cJ6_numberOfTrailingZeros_0f7a4 18 = .ok (.istore_n 1, 1) := by decide +kernel
theorem dJ6_numberOfTrailingZeros_0f7a4_19 : decode cJ6_numberOfTrailingZeros_0f7a4 19 = .ok (.iload_n 0, 1) := by decide +kernel
theorem dJ6_numberOfTrailingZeros_0f7a4_20 : decode cJ6_numberOfTrailingZeros_0f7a4 20 = .ok (.ldc_w 264, 3) := by decide +kernel
theorem dJ6_numberOfTrailingZeros_0f7a4_23 : decode cJ6_numberOfTrailingZeros_0f7a4 23 = .ok (.if_icmp .le 11, 3) := by decide +kernel
theorem dJ6_numberOfTrailingZeros_0f7a4_26 : decode cJ6_numberOfTrailingZeros_0f7a4 26 = .ok (.iinc 1 16, 3) := by decide +kernel
theorem dJ6_numberOfTrailingZeros_0f7a4_29 : decode cJ6_numberOfTrailingZeros_0f7a4 29 = .ok (.iload_n 0, 1) := by decide +kernel
theorem dJ6_numberOfTrailingZeros_0f7a4_30 : decode cJ6_numberOfTrailingZeros_0f7a4 30 = .ok (.bipush 16, 2) := by decide +kernel
theorem dJ6_numberOfTrailingZeros_0f7a4_32 : decode cJ6_numberOfTrailingZeros_0f7a4 32 = .ok (.iushr, 1) := by decide +kernel
theorem dJ6_numberOfTrailingZeros_0f7a4_33 : decode cJ6_numberOfTrailingZeros_0f7a4 33 = .ok (.istore_n 0, 1) := by decide +kernel
theorem dJ6_numberOfTrailingZeros_0f7a4_34 : decode cJ6_numberOfTrailingZeros_0f7a4 34 = .ok (.iload_n 0, 1) := by decide +kernel
theorem dJ6_numberOfTrailingZeros_0f7a4_35 : decode cJ6_numberOfTrailingZeros_0f7a4 35 = .ok (.sipush 256, 3) := by decide +kernel
theorem dJ6_numberOfTrailingZeros_0f7a4_38 : decode cJ6_numberOfTrailingZeros_0f7a4 38 = .ok (.if_icmp .le 11, 3) := by decide +kernel
theorem dJ6_numberOfTrailingZeros_0f7a4_41 : decode cJ6_numberOfTrailingZeros_0f7a4 41 = .ok (.iinc 1 8, 3) := by decide +kernel
theorem dJ6_numberOfTrailingZeros_0f7a4_44 : decode cJ6_numberOfTrailingZeros_0f7a4 44 = .ok (.iload_n 0, 1) := by decide +kernel
theorem dJ6_numberOfTrailingZeros_0f7a4_45 : decode cJ6_numberOfTrailingZeros_0f7a4 45 = .ok (.bipush 8, 2) := by decide +kernel
theorem dJ6_numberOfTrailingZeros_0f7a4_47 : decode cJ6_numberOfTrailingZeros_0f7a4 47 = .ok (.iushr, 1) := by decide +kernel
theorem dJ6_numberOfTrailingZeros_0f7a4_48 : decode cJ6_numberOfTrailingZeros_0f7a4 48 = .ok (.istore_n 0, 1) := by decide +kernel
theorem dJ6_numberOfTrailingZeros_0f7a4_49 : decode cJ6_numberOfTrailingZeros_0f7a4 49 = .ok (.iload_n 0, 1) := by decide +kernel
theorem dJ6_numberOfTrailingZeros_0f7a4_50 : decode cJ6_numberOfTrailingZeros_0f7a4 50 = .ok (.bipush 16, 2) := by decide +kernel
theorem dJ6_numberOfTrailingZeros_0f7a4_52 : decode cJ6_numberOfTrailingZeros_0f7a4 52 = .ok (.if_icmp .le 10, 3) := by decide +kernel
theorem dJ6_numberOfTrailingZeros_0f7a4_55 : decode cJ6_numberOfTrailingZeros_0f7a4 55 = .ok (.iinc 1 4, 3) := by decide +kernel
theorem dJ6_numberOfTrailingZeros_0f7a4_58 : decode cJ6_numberOfTrailingZeros_0f7a4 58 = .ok (.iload_n 0, 1) := by decide +kernel
theorem dJ6_numberOfTrailingZeros_0f7a4_59 : decode cJ6_numberOfTrailingZeros_0f7a4 59 = .ok (.iconst 4, 1) := by decide +kernel
theorem dJ6_numberOfTrailingZeros_0f7a4_60 : decode cJ6_numberOfTrailingZeros_0f7a4 60 = .ok (.iushr, 1) := by decide +kernel
theorem dJ6_numberOfTrailingZeros_0f7a4_61 : decode cJ6_numberOfTrailingZeros_0f7a4 61 = .ok (.istore_n 0, 1) := by decide +kernel
theorem dJ6_numberOfTrailingZeros_0f7a4_62 : decode cJ6_numberOfTrailingZeros_0f7a4 62 = .ok (.iload_n 0, 1) := by decide +kernel
theorem dJ6_numberOfTrailingZeros_0f7a4_63 : decode cJ6_numberOfTrailingZeros_0f7a4 63 = .ok (.iconst 4, 1) := by decide +kernel
theorem dJ6_numberOfTrailingZeros_0f7a4_64 : decode cJ6_numberOfTrailingZeros_0f7a4 64 = .ok (.if_icmp .le 10, 3) := by decide +kernel
theorem dJ6_numberOfTrailingZeros_0f7a4_67 : decode cJ6_numberOfTrailingZeros_0f7a4 67 = .ok (.iinc 1 2, 3) := by decide +kernel
theorem dJ6_numberOfTrailingZeros_0f7a4_70 : decode cJ6_numberOfTrailingZeros_0f7a4 70 = .ok (.iload_n 0, 1) := by decide +kernel
theorem dJ6_numberOfTrailingZeros_0f7a4_71 : decode cJ6_numberOfTrailingZeros_0f7a4 71 = .ok (.iconst 2, 1) := by decide +kernel
theorem dJ6_numberOfTrailingZeros_0f7a4_72 : decode cJ6_numberOfTrailingZeros_0f7a4 72 = .ok (.iushr, 1) := by decide +kernel
theorem dJ6_numberOfTrailingZeros_0f7a4_73 : decode cJ6_numberOfTrailingZeros_0f7a4 73 = .ok (.istore_n 0, 1) := by decide +kernel
theorem dJ6_numberOfTrailingZeros_0f7a4_74 : decode cJ6_numberOfTrailingZeros_0f7a4 74 = .ok (.iload_n 1, 1) := by decide +kernel
theorem dJ6_numberOfTrailingZeros_0f7a4_75 : decode cJ6_numberOfTrailingZeros_0f7a4 75 = .ok (.iload_n 0, 1) := by decide +kernel
theorem dJ6_numberOfTrailingZeros_0f7a4_76 : decode cJ6_numberOfTrailingZeros_0f7a4 76 = .ok (.iconst 1, 1) := by decide +kernel
theorem dJ6_numberOfTrailingZeros_0f7a4_77 : decode cJ6_numberOfTrailingZeros_0f7a4 77 = .ok (.iushr, 1) := by decide +kernel
theorem dJ6_numberOfTrailingZeros_0f7a4_78 : decode cJ6_numberOfTrailingZeros_0f7a4 78 = .ok (.iadd, 1) := by decide +kernel
theorem dJ6_numberOfTrailingZeros_0f7a4_79 : decode cJ6_numberOfTrailingZeros_0f7a4 79 = .ok (.ireturn, 1) := by decide +kernel
theorem dJ6_bitCount_0f7a4_0 : decode cJ6_bitCount_0f7a4 0 = .ok (.iload_n 0, 1) := by decide +kernel
theorem dJ6_bitCount_0f7a4_1 : decode cJ6_bitCount_0f7a4 1 = .ok (.iload_n 0, 1) := by decide +kernel
theorem dJ6_bitCount_0f7a4_2 : decode cJ6_bitCount_0f7a4 2 = .ok (.iconst 1, 1) := by decide +kernel
theorem dJ6_bitCount_0f7a4_3 : decode cJ6_bitCount_0f7a4 3 = .ok (.iushr, 1) := by decide +kernel
theorem dJ6_bitCount_0f7a4_4 : decode cJ6_bitCount_0f7a4 4 = .ok (.ldc_w 265, 3) := by decide +kernel
theorem dJ6_bitCount_0f7a4_7 : decode cJ6_bitCount_0f7a4 7 = .ok (.iand, 1) := by decide +kernel
theorem dJ6_bitCount_0f7a4_8 : decode cJ6_bitCount_0f7a4 8 = .ok (.isub, 1) := by decide +kernel
theorem dJ6_bitCount_0f7a4_9 : decode cJ6_bitCount_0f7a4 9 = .ok (.istore_n 0, 1) := by decide +kernel
theorem dJ6_bitCount_0f7a4_10 : decode cJ6_bitCount_0f7a4 10 = .ok (.iload_n 0, 1) := by decide +kernel
theorem dJ6_bitCount_0f7a4_11 : decode cJ6_bitCount_0f7a4 11 = .ok (.ldc_w 266, 3) := by decide +kernel
theorem dJ6_bitCount_0f7a4_14 : decode cJ6_bitCount_0f7a4 14 = .ok (.iand, 1) := by decide +kernel
theorem dJ6_bitCount_0f7a4_15 : decode cJ6_bitCount_0f7a4 15 = .ok (.iload_n 0, 1) := by decide +kernel
theorem dJ6_bitCount_0f7a4_16 : decode cJ6_bitCount_0f7a4 16 = .ok (.iconst 2, 1) := by decide +kernel
theorem dJ6_bitCount_0f7a4_17 : decode cJ6_bitCount_0f7a4 17 = .ok (.iushr, 1) := by decide +kernel
theorem dJ6_bitCount_0f7a4_18 : decode cJ6_bitCount_0f7a4 18 = .ok (.ldc_w 266, 3) := by decide +kernel
theorem dJ6_bitCount_0f7a4_21 : decode cJ6_bitCount_0f7a4 21 = .ok (.iand, 1) := by decide +kernel
theorem dJ6_bitCount_0f7a4_22 : decode cJ6_bitCount_0f7a4 22 = .ok (.iadd, 1) := by decide +kernel
theorem dJ6_bitCount_0f7a4_23 : decode cJ6_bitCount_0f7a4 23 = .ok (.istore_n 0, 1) := by decide +kernel
theorem dJ6_bitCount_0f7a4_24 : decode cJ6_bitCount_0f7a4 24 = .ok (.iload_n 0, 1) := by decide +kernel
theorem dJ6_bitCount_0f7a4_25 : decode cJ6_bitCount_0f7a4 25 = .ok (.iload_n 0, 1) := by decide +kernel
theorem dJ6_bitCount_0f7a4_26 : decode cJ6_bitCount_0f7a4 26 = .ok (.iconst 4, 1) := by decide +kernel
theorem dJ6_bitCount_0f7a4_27 : decode cJ6_bitCount_0f7a4 27 = .ok (.iushr, 1) := by decide +kernel
theorem dJ6_bitCount_0f7a4_28 : decode cJ6_bitCount_0f7a4 28 = .ok (.iadd, 1) := by decide +kernel
theorem dJ6_bitCount_0f7a4_29 : decode cJ6_bitCount_0f7a4 29 = .ok (.ldc_w 267, 3) := by decide +kernel
theorem dJ6_bitCount_0f7a4_32 : decode cJ6_bitCount_0f7a4 32 = .ok (.iand, 1) := by decide +kernel
theorem dJ6_bitCount_0f7a4_33 : decode cJ6_bitCount_0f7a4 33 = .ok (.istore_n 0, 1) := by decide +kernel
theorem dJ6_bitCount_0f7a4_34 : decode cJ6_bitCount_0f7a4 34 = .ok (.iload_n 0, 1) := by decide +kernel
theorem dJ6_bitCount_0f7a4_35 : decode cJ6_bitCount_0f7a4 35 = .ok (.iload_n 0, 1) := by decide +kernel
theorem dJ6_bitCount_0f7a4_36 : decode cJ6_bitCount_0f7a4 36 = .ok (.bipush 8, 2) := by decide +kernel
theorem dJ6_bitCount_0f7a4_38 : decode cJ6_bitCount_0f7a4 38 = .ok (.iushr, 1) := by decide +kernel
theorem dJ6_bitCount_0f7a4_39 : decode cJ6_bitCount_0f7a4 39 = .ok (.iadd, 1) := by decide +kernel
theorem dJ6_bitCount_0f7a4_40 : decode cJ6_bitCount_0f7a4 40 = .ok (.istore_n 0, 1) := by decide +kernel
theorem dJ6_bitCount_0f7a4_41 : decode cJ6_bitCount_0f7a4 41 = .ok (.iload_n 0, 1) := by decide +kernel
theorem dJ6_bitCount_0f7a4_42 : decode cJ6_bitCount_0f7a4 42 = .ok (.iload_n 0, 1) := by decide +kernel
theorem dJ6_bitCount_0f7a4_43 : decode cJ6_bitCount_0f7a4 43 = .ok (.bipush 16, 2) := by decide +kernel
theorem dJ6_bitCount_0f7a4_45 : decode cJ6_bitCount_0f7a4 45 = .ok (.iushr, 1) := by decide +kernel
theorem dJ6_bitCount_0f7a4_46 : decode cJ6_bitCount_0f7a4 46 = .ok (.iadd, 1) := by decide +kernel
theorem dJ6_bitCount_0f7a4_47 : decode cJ6_bitCount_0f7a4 47 = .ok (.istore_n 0, 1) := by decide +kernel
theorem dJ6_bitCount_0f7a4_48 : decode cJ6_bitCount_0f7a4 48 = .ok (.iload_n 0, 1) := by decide +kernel
theorem dJ6_bitCount_0f7a4_49 : decode cJ6_bitCount_0f7a4 49 = .ok (.bipush 63, 2) := by decide +kernel
theorem dJ6_bitCount_0f7a4_51 : decode cJ6_bitCount_0f7a4 51 = .ok (.iand, 1) := by decide +kernel
theorem dJ6_bitCount_0f7a4_52 : decode cJ6_bitCount_0f7a4 52 = .ok (.ireturn, 1) := by decide +kernel
theorem dJ13_numberOfTrailingZeros_95d88_0 : decode cJ13_numberOfTrailingZeros_95d88 0 = .ok (.lload_n 0, 1) := by decide +kernel
theorem dJ13_numberOfTrailingZeros_95d88_1 : decode cJ13_numberOfTrailingZeros_95d88 1 = .ok (.l2i, 1) := by decide +kernel
theorem dJ13_numberOfTrailingZeros_95d88_2 : decode cJ13_numberOfTrailingZeros_95d88 2 = .ok (.istore_n 2, 1) := by decide +kernel
theorem dJ13_numberOfTrailingZeros_95d88_3 : decode cJ13_numberOfTrailingZeros_95d88 3 = .ok (.iload_n 2, 1) := by decide +kernel
theorem dJ13_numberOfTrailingZeros_95d88_4 : decode cJ13_numberOfTrailingZeros_95d88 4 = .ok (.ifCond .ne 17, 3) := by decide +kernel
theorem dJ13_numberOfTrailingZeros_95d88_7 : decode cJ13_numberOfTrailingZeros_95d88 7 = .ok (.bipush 32, 2) := by decide +kernel
theorem dJ13_numberOfTrailingZeros_95d88_9 : decode cJ13_numberOfTrailingZeros_95d88 9 = .ok (.lload_n 0, 1) := by decide +kernel
theorem dJ13_numberOfTrailingZeros_95d88_10 : decode cJ13_numberOfTrailingZeros_95d88 10 = .ok (.bipush 32, 2) := by decide +kernel
theorem dJ13_numberOfTrailingZeros_95d88_12 : decode cJ13_numberOfTrailingZeros_95d88 12 = .ok (.lushr, 1) := by decide +kernel
theorem dJ13_numberOfTrailingZeros_95d88_13 : decode cJ13_numberOfTrailingZeros_95d88 13 = .ok (.l2i, 1) := by decide +kernel
theorem dJ13_numberOfTrailingZeros_95d88_14 : decode cJ13_numberOfTrailingZeros_95d88 14 = .ok (.invokestatic 311, 3) := by decide +kernel
theorem dJ13_numberOfTrailingZeros_95d88_17 : decode cJ13_numberOfTrailingZeros_95d88 17 = .ok (.iadd, 1) := by decide +kernel
theorem dJ13_numberOfTrailingZeros_95d88_18 : decode cJ13_numberOfTrailingZeros_95d88 18 = .ok (.goto 7, 3) := by decide +kernel
theorem dJ13_numberOfTrailingZeros_95d88_21 : decode cJ13_numberOfTrailingZeros_95d88 21 = .ok (.iload_n 2, 1) := by decide +kernel
theorem dJ13_numberOfTrailingZeros_95d88_22 : decode cJ13_numberOfTrailingZeros_95d88 22 = .ok (.invokestatic 311, 3) := by decide +kernel
theorem dJ13_numberOfTrailingZeros_95d88_25 : decode cJ13_numberOfTrailingZeros_95d88 25 = .ok (.ireturn, 1) := by decide +kernel
theorem dJ9_max_7cf53_0 : decode cJ9_max_7cf53 0 = .ok (.iload_n 0, 1) := by decide +kernel
theorem dJ9_max_7cf53_1 : decode cJ9_max_7cf53 1 = .ok (.iload_n 1, 1) := by decide +kernel
theorem dJ9_max_7cf53_2 : decode cJ9_max_7cf53 2 = .ok (.if_icmp .lt 7, 3) := by decide +kernel
theorem dJ9_max_7cf53_5 : decode cJ9_max_7cf53 5 = .ok (.iload_n 0, 1) := by decide +kernel
theorem dJ9_max_7cf53_6 : decode cJ9_max_7cf53 6 = .ok (.goto 4, 3) := by decide +kernel
theorem dJ9_max_7cf53_9 : decode cJ9_max_7cf53 9 = .ok (.iload_n 1, 1) := by decide +kernel
theorem dJ9_max_7cf53_10 : decode cJ9_max_7cf53 10 = .ok (.ireturn, 1) := by decide +kernel
theorem dJ9_min_7cf53_0 : decode cJ9_min_7cf53 0 = .ok (.iload_n 0, 1) := by decide +kernel
theorem dJ9_min_7cf53_1 : decode cJ9_min_7cf53 1 = .ok (.iload_n 1, 1) := by decide +kernel
theorem dJ9_min_7cf53_2 : decode cJ9_min_7cf53 2 = .ok (.if_icmp .gt 7, 3) := by decide +kernel
theorem dJ9_min_7cf53_5 : decode cJ9_min_7cf53 5 = .ok (.iload_n 0, 1) := by decide +kernel
theorem dJ9_min_7cf53_6 : decode cJ9_min_7cf53 6 = .ok (.goto 4, 3) := by decide +kernel
theorem dJ9_min_7cf53_9 : decode cJ9_min_7cf53 9 = .ok (.iload_n 1, 1) := by decide +kernel
theorem dJ9_min_7cf53_10 : decode cJ9_min_7cf53 10 = .ok (.ireturn, 1) := by decide +kernel
theorem dJ0_length_8abf5_0 : decode cJ0_length_8abf5 0 = .ok (.aload_n 0, 1) := by decide +kernel
theorem dJ0_length_8abf5_1 : decode cJ0_length_8abf5 1 = .ok (.getfield 9, 3) := by decide +kernel
theorem dJ0_length_8abf5_4 : decode cJ0_length_8abf5 4 = .ok (.arraylength, 1) := by decide +kernel
theorem dJ0_length_8abf5_5 : decode cJ0_length_8abf5 5 = .ok (.aload_n 0, 1) := by decide +kernel
theorem dJ0_length_8abf5_6 : decode cJ0_length_8abf5 6 = .ok (.invokevirtual 335, 3) := by decide +kernel
theorem dJ0_length_8abf5_9 : decode cJ0_length_8abf5 9 = .ok (.ishr, 1) := by decide +kernel
theorem dJ0_length_8abf5_10 : decode cJ0_length_8abf5 10 = .ok (.ireturn, 1) := by decide +kernel
theorem dJ0_charAt_5068e_0 : decode cJ0_charAt_5068e 0 = .ok (.aload_n 0, 1) := by decide +kernel
theorem dJ0_charAt_5068e_1 : decode cJ0_charAt_5068e 1 = .ok (.invokevirtual 492, 3) := by decide +kernel
theorem dJ0_charAt_5068e_4 : decode cJ0_charAt_5068e 4 = .ok (.ifCond .eq 12, 3) := by decide +kernel
theorem dJ0_charAt_5068e_7 : decode cJ0_charAt_5068e 7 = .ok (.aload_n 0, 1) := by decide +kernel
theorem dJ0_charAt_5068e_8 : decode cJ0_charAt_5068e 8 = .ok (.getfield 9, 3) := by decide +kernel
theorem dJ0_charAt_5068e_11 : decode cJ0_charAt_5068e 11 = .ok (.iload_n 1, 1) := by decide +kernel
theorem dJ0_charAt_5068e_12 : decode cJ0_charAt_5068e 12 = .ok (.invokestatic 495, 3) := by decide +kernel
theorem dJ0_charAt_5068e_15 : decode cJ0_charAt_5068e 15 = .ok (.ireturn, 1) := by decide +kernel
theorem dJ0_charAt_5068e_16 : decode cJ0_charAt_5068e 16 = .ok (.aload_n 0, 1) := by decide +kernel
theorem dJ0_charAt_5068e_17 : decode cJ0_charAt_5068e 17 = .ok (.getfield 9, 3) := by decide +kernel
theorem dJ0_charAt_5068e_20 : decode cJ0_charAt_5068e 20 = .ok (.iload_n 1, 1) := by decide +kernel
theorem dJ0_charAt_5068e_21 : decode cJ0_charAt_5068e 21 = .ok (.invokestatic 498, 3) := by decide +kernel
theorem dJ0_charAt_5068e_24 : decode cJ0_charAt_5068e 24 = .ok (.ireturn, 1) := by decide +kernel
theorem dJ0_coder_7d493_0 : decode cJ0_coder_7d493 0 = .ok (.getstatic 38, 3) := by decide +kernel
theorem dJ0_coder_7d493_3 : decode cJ0_coder_7d493 3 = .ok (.ifCond .eq 10, 3) := by decide +kernel
theorem dJ0_coder_7d493_6 : decode cJ0_coder_7d493 6 = .ok (.aload_n 0, 1) := by decide +kernel
theorem dJ0_coder_7d493_7 : decode cJ0_coder_7d493 7 = .ok (.getfield 15, 3) := by decide +kernel
theorem dJ0_coder_7d493_10 : decode cJ0_coder_7d493 10 = .ok (.goto 4, 3) := by decide +kernel
theorem dJ0_coder_7d493_13 : decode cJ0_coder_7d493 13 = .ok (.iconst 1, 1) := by decide +kernel
theorem dJ0_coder_7d493_14 : decode cJ0_coder_7d493 14 = .ok (.ireturn, 1) := by decide +kernel
theorem dJ0_isLatin1_aae02_0 : decode cJ0_isLatin1_aae02 0 = .ok (.getstatic 38, 3) := by decide +kernel
theorem dJ0_isLatin1_aae02_3 : decode cJ0_isLatin1_aae02 3 = .ok (.ifCond .eq 14, 3) := by decide +kernel
theorem dJ0_isLatin1_aae02_6 : decode cJ0_isLatin1_aae02 6 = .ok (.aload_n 0, 1) := by decide +kernel
theorem dJ0_isLatin1_aae02_7 : decode cJ0_isLatin1_aae02 7 = .ok (.getfield 15, 3) := by decide +kernel
theorem dJ0_isLatin1_aae02_10 : decode cJ0_isLatin1_aae02 10 = .ok (.ifCond .ne 7, 3) := by decide +kernel
theorem dJ0_isLatin1_aae02_13 : decode cJ0_isLatin1_aae02 13 = .ok (.iconst 1, 1) := by decide +kernel
theorem dJ0_isLatin1_aae02_14 : decode cJ0_isLatin1_aae02 14 = .ok (.goto 4, 3) := by decide +kernel
theorem dJ0_isLatin1_aae02_17 : decode cJ0_isLatin1_aae02 17 = .ok (.iconst 0, 1) := by decide +kernel
theorem dJ0_isLatin1_aae02_18 : decode cJ0_isLatin1_aae02 18 = .ok (.ireturn, 1) := by decide +kernel
theorem dJ0_checkIndex_df160_0 : decode cJ0_checkIndex_df160 0 = .ok (.iload_n 0, 1) := by decide +kernel
theorem dJ0_checkIndex_df160_1 : decode cJ0_checkIndex_df160 1 = .ok (.iload_n 1, 1) := by decide +kernel
theorem dJ0_checkIndex_df160_2 : decode cJ0_checkIndex_df160 2 = .ok (.getstatic 1053, 3) := by decide +kernel
theorem dJ0_checkIndex_df160_5 : decode cJ0_checkIndex_df160 5 = .ok (.invokestatic 1059, 3) := by decide +kernel
theorem dJ0_checkIndex_df160_8 : decode cJ0_checkIndex_df160 8 = .ok (.pop, 1) := by decide +kernel
theorem dJ0_checkIndex_df160_9 : decode cJ0_checkIndex_df160 9 = .ok (.return_, 1) := by decide +kernel
theorem dJ1_charAt_3b067_0 : decode cJ1_charAt_3b067 0 = .ok (.iload_n 1, 1) := by decide +kernel
theorem dJ1_charAt_3b067_1 : decode cJ1_charAt_3b067 1 = .ok (.aload_n 0, 1) := by decide +kernel
theorem dJ1_charAt_3b067_2 : decode cJ1_charAt_3b067 2 = .ok (.arraylength, 1) := by decide +kernel
theorem dJ1_charAt_3b067_3 : decode cJ1_charAt_3b067 3 = .ok (.invokestatic 9, 3) := by decide +kernel
theorem dJ1_charAt_3b067_6 : decode cJ1_charAt_3b067 6 = .ok (.aload_n 0, 1) := by decide +kernel
theorem dJ1_charAt_3b067_7 : decode cJ1_charAt_3b067 7 = .ok (.iload_n 1, 1) := by decide +kernel
theorem dJ1_charAt_3b067_8 : decode cJ1_charAt_3b067 8 = .ok (.baload, 1) := by decide +kernel
theorem dJ1_charAt_3b067_9 : decode cJ1_charAt_3b067 9 = .ok (.sipush 255, 3) := by decide +kernel
theorem dJ1_charAt_3b067_12 : decode cJ1_charAt_3b067 12 = .ok (.iand, 1) := by decide +kernel
theorem dJ1_charAt_3b067_13 : decode cJ1_charAt_3b067 13 = .ok (.i2c, 1) := by decide +kernel
theorem dJ1_charAt_3b067_14 : decode cJ1_charAt_3b067 14 = .ok (.ireturn, 1) := by decide +kernel
theorem dJ2_getChar_3b067_0 : decode cJ2_getChar_3b067 0 = .ok (.getstatic 44, 3) := by decide +kernel
theorem dJ2_getChar_3b067_3 : decode cJ2_getChar_3b067 3 = .ok (.ifCond .ne 25, 3) := by decide +kernel
theorem dJ2_getChar_3b067_6 : decode cJ2_getChar_3b067 6 = .ok (.iload_n 1, 1) := by decide +kernel
theorem dJ2_getChar_3b067_7 : decode cJ2_getChar_3b067 7 = .ok (.ifCond .lt 11, 3) := by decide +kernel
theorem dJ2_getChar_3b067_10 : decode cJ2_getChar_3b067 10 = .ok (.iload_n 1, 1) := by decide +kernel
theorem dJ2_getChar_3b067_11 : decode cJ2_getChar_3b067 11 = .ok (.aload_n 0, 1) := by decide +kernel
theorem dJ2_getChar_3b067_12 : decode cJ2_getChar_3b067 12 = .ok (.invokestatic 48, 3) := by decide +kernel
theorem dJ2_getChar_3b067_15 : decode cJ2_getChar_3b067 15 = .ok (.if_icmp .lt 13, 3) := by decide +kernel
theorem dJ2_getChar_3b067_18 : decode cJ2_getChar_3b067 18 = .ok (.new 52, 3) := by decide +kernel
theorem dJ2_getChar_3b067_21 : decode cJ2_getChar_3b067 21 = .ok (.dup, 1) := by decide +kernel
theorem dJ2_getChar_3b067_22 : decode cJ2_getChar_3b067 22 = .ok (.ldc 54, 2) := by decide +kernel
theorem dJ2_getChar_3b067_24 : decode cJ2_getChar_3b067 24 = .ok (.invokespecial 56, 3) := by decide +kernel
theorem dJ2_getChar_3b067_27 : decode cJ2_getChar_3b067 27 = .ok (.athrow, 1) := by decide +kernel
theorem dJ2_getChar_3b067_28 : decode cJ2_getChar_3b067 28 = .ok (.iload_n 1, 1) := by decide +kernel
theorem dJ2_getChar_3b067_29 : decode cJ2_getChar_3b067 29 = .ok (.iconst 1, 1) := by decide +kernel
theorem dJ2_getChar_3b067_30 : decode cJ2_getChar_3b067 30 = .ok (.ishl, 1) := by decide +kernel
theorem dJ2_getChar_3b067_31 : decode cJ2_getChar_3b067 31 = .ok (.istore_n 1, 1) := by decide +kernel
theorem dJ2_getChar_3b067_32 : decode cJ2_getChar_3b067 32 = .ok (.aload_n 0, 1) := by decide +kernel
theorem dJ2_getChar_3b067_33 : decode cJ2_getChar_3b067 33 = .ok (.iload_n 1, 1) := by decide +kernel
theorem dJ2_getChar_3b067_34 : decode cJ2_getChar_3b067 34 = .ok (.iinc 1 1, 3) := by decide +kernel
