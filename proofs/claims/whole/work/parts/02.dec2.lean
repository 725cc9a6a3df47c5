theorem dX6_lay_28 : decode cX6_lay 28 = .ok (.iconst (-1), 1) := by decide +kernel
theorem dX6_lay_29 : decode cX6_lay 29 = .ok (.invokestatic 27, 3) := by decide +kernel
theorem dX6_lay_32 : decode cX6_lay 32 = .ok (.iconst 0, 1) := by decide +kernel
theorem dX6_lay_33 : decode cX6_lay 33 = .ok (.istore_n 2, 1) := by decide +kernel
theorem dX6_lay_34 : decode cX6_lay 34 = .ok (.iload_n 2, 1) := by decide +kernel
theorem dX6_lay_35 : decode cX6_lay 35 = .ok (.aload_n 1, 1) := by decide +kernel
theorem dX6_lay_36 : decode cX6_lay 36 = .ok (.getfield 33, 3) := by decide +kernel
theorem dX6_lay_39 : decode cX6_lay 39 = .ok (.if_icmp .ge 38, 3) := by decide +kernel
theorem dX6_lay_42 : decode cX6_lay 42 = .ok (.iconst 0, 1) := by decide +kernel
theorem dX6_lay_43 : decode cX6_lay 43 = .ok (.istore_n 3, 1) := by decide +kernel
theorem dX6_lay_44 : decode cX6_lay 44 = .ok (.iload_n 3, 1) := by decide +kernel
theorem dX6_lay_45 : decode cX6_lay 45 = .ok (.aload_n 1, 1) := by decide +kernel
theorem dX6_lay_46 : decode cX6_lay 46 = .ok (.getfield 39, 3) := by decide +kernel
theorem dX6_lay_49 : decode cX6_lay 49 = .ok (.iload_n 2, 1) := by decide +kernel
theorem dX6_lay_50 : decode cX6_lay 50 = .ok (.iaload, 1) := by decide +kernel
theorem dX6_lay_51 : decode cX6_lay 51 = .ok (.if_icmp .ge 20, 3) := by decide +kernel
theorem dX6_lay_54 : decode cX6_lay 54 = .ok (.aload_n 0, 1) := by decide +kernel
theorem dX6_lay_55 : decode cX6_lay 55 = .ok (.aload_n 1, 1) := by decide +kernel
theorem dX6_lay_56 : decode cX6_lay 56 = .ok (.iload_n 2, 1) := by decide +kernel
theorem dX6_lay_57 : decode cX6_lay 57 = .ok (.iload_n 2, 1) := by decide +kernel
theorem dX6_lay_58 : decode cX6_lay 58 = .ok (.iload_n 3, 1) := by decide +kernel
theorem dX6_lay_59 : decode cX6_lay 59 = .ok (.invokestatic 42, 3) := by decide +kernel
theorem dX6_lay_62 : decode cX6_lay 62 = .ok (.invokevirtual 46, 3) := by decide +kernel
theorem dX6_lay_65 : decode cX6_lay 65 = .ok (.iinc 3 1, 3) := by decide +kernel
theorem dX6_lay_68 : decode cX6_lay 68 = .ok (.goto (-24), 3) := by decide +kernel
theorem dX6_lay_71 : decode cX6_lay 71 = .ok (.iinc 2 1, 3) := by decide +kernel
theorem dX6_lay_74 : decode cX6_lay 74 = .ok (.goto (-40), 3) := by decide +kernel
theorem dX6_lay_77 : decode cX6_lay 77 = .ok (.return_, 1) := by decide +kernel
theorem dX6_layOne_0 : decode cX6_layOne 0 = .ok (.aload_n 1, 1) := by decide +kernel
theorem dX6_layOne_1 : decode cX6_layOne 1 = .ok (.getfield 50, 3) := by decide +kernel
theorem dX6_layOne_4 : decode cX6_layOne 4 = .ok (.iload_n 3, 1) := by decide +kernel
theorem dX6_layOne_5 : decode cX6_layOne 5 = .ok (.iaload, 1) := by decide +kernel
theorem dX6_layOne_6 : decode cX6_layOne 6 = .ok (.istore 4, 2) := by decide +kernel
theorem dX6_layOne_8 : decode cX6_layOne 8 = .ok (.aload_n 1, 1) := by decide +kernel
theorem dX6_layOne_9 : decode cX6_layOne 9 = .ok (.getfield 53, 3) := by decide +kernel
theorem dX6_layOne_12 : decode cX6_layOne 12 = .ok (.aload_n 1, 1) := by decide +kernel
theorem dX6_layOne_13 : decode cX6_layOne 13 = .ok (.getfield 56, 3) := by decide +kernel
theorem dX6_layOne_16 : decode cX6_layOne 16 = .ok (.iload_n 2, 1) := by decide +kernel
theorem dX6_layOne_17 : decode cX6_layOne 17 = .ok (.iaload, 1) := by decide +kernel
theorem dX6_layOne_18 : decode cX6_layOne 18 = .ok (.iaload, 1) := by decide +kernel
theorem dX6_layOne_19 : decode cX6_layOne 19 = .ok (.istore 5, 2) := by decide +kernel
theorem dX6_layOne_21 : decode cX6_layOne 21 = .ok (.aload_n 1, 1) := by decide +kernel
theorem dX6_layOne_22 : decode cX6_layOne 22 = .ok (.getfield 53, 3) := by decide +kernel
theorem dX6_layOne_25 : decode cX6_layOne 25 = .ok (.iload 4, 2) := by decide +kernel
theorem dX6_layOne_27 : decode cX6_layOne 27 = .ok (.iaload, 1) := by decide +kernel
theorem dX6_layOne_28 : decode cX6_layOne 28 = .ok (.istore 6, 2) := by decide +kernel
theorem dX6_layOne_30 : decode cX6_layOne 30 = .ok (.aload_n 0, 1) := by decide +kernel
theorem dX6_layOne_31 : decode cX6_layOne 31 = .ok (.iload_n 2, 1) := by decide +kernel
theorem dX6_layOne_32 : decode cX6_layOne 32 = .ok (.iload_n 3, 1) := by decide +kernel
theorem dX6_layOne_33 : decode cX6_layOne 33 = .ok (.aload_n 1, 1) := by decide +kernel
theorem dX6_layOne_34 : decode cX6_layOne 34 = .ok (.getfield 56, 3) := by decide +kernel
theorem dX6_layOne_37 : decode cX6_layOne 37 = .ok (.iload_n 2, 1) := by decide +kernel
theorem dX6_layOne_38 : decode cX6_layOne 38 = .ok (.iaload, 1) := by decide +kernel
theorem dX6_layOne_39 : decode cX6_layOne 39 = .ok (.invokevirtual 59, 3) := by decide +kernel
theorem dX6_layOne_42 : decode cX6_layOne 42 = .ok (.iload 5, 2) := by decide +kernel
theorem dX6_layOne_44 : decode cX6_layOne 44 = .ok (.iload 6, 2) := by decide +kernel
theorem dX6_layOne_46 : decode cX6_layOne 46 = .ok (.if_icmp .ge 20, 3) := by decide +kernel
theorem dX6_layOne_49 : decode cX6_layOne 49 = .ok (.aload_n 0, 1) := by decide +kernel
theorem dX6_layOne_50 : decode cX6_layOne 50 = .ok (.iload_n 2, 1) := by decide +kernel
theorem dX6_layOne_51 : decode cX6_layOne 51 = .ok (.iload_n 3, 1) := by decide +kernel
theorem dX6_layOne_52 : decode cX6_layOne 52 = .ok (.bipush 12, 2) := by decide +kernel
theorem dX6_layOne_54 : decode cX6_layOne 54 = .ok (.iload 5, 2) := by decide +kernel
theorem dX6_layOne_56 : decode cX6_layOne 56 = .ok (.iadd, 1) := by decide +kernel
theorem dX6_layOne_57 : decode cX6_layOne 57 = .ok (.invokevirtual 59, 3) := by decide +kernel
theorem dX6_layOne_60 : decode cX6_layOne 60 = .ok (.iinc 5 1, 3) := by decide +kernel
theorem dX6_layOne_63 : decode cX6_layOne 63 = .ok (.goto (-21), 3) := by decide +kernel
theorem dX6_layOne_66 : decode cX6_layOne 66 = .ok (.iload 5, 2) := by decide +kernel
theorem dX6_layOne_68 : decode cX6_layOne 68 = .ok (.iload 6, 2) := by decide +kernel
theorem dX6_layOne_70 : decode cX6_layOne 70 = .ok (.if_icmp .le 22, 3) := by decide +kernel
theorem dX6_layOne_73 : decode cX6_layOne 73 = .ok (.aload_n 0, 1) := by decide +kernel
theorem dX6_layOne_74 : decode cX6_layOne 74 = .ok (.iload_n 2, 1) := by decide +kernel
theorem dX6_layOne_75 : decode cX6_layOne 75 = .ok (.iload_n 3, 1) := by decide +kernel
theorem dX6_layOne_76 : decode cX6_layOne 76 = .ok (.bipush 14, 2) := by decide +kernel
theorem dX6_layOne_78 : decode cX6_layOne 78 = .ok (.iload 5, 2) := by decide +kernel
theorem dX6_layOne_80 : decode cX6_layOne 80 = .ok (.iadd, 1) := by decide +kernel
theorem dX6_layOne_81 : decode cX6_layOne 81 = .ok (.iconst 1, 1) := by decide +kernel
theorem dX6_layOne_82 : decode cX6_layOne 82 = .ok (.isub, 1) := by decide +kernel
theorem dX6_layOne_83 : decode cX6_layOne 83 = .ok (.invokevirtual 59, 3) := by decide +kernel
theorem dX6_layOne_86 : decode cX6_layOne 86 = .ok (.iinc 5 (-1), 3) := by decide +kernel
theorem dX6_layOne_89 : decode cX6_layOne 89 = .ok (.goto (-23), 3) := by decide +kernel
theorem dX6_layOne_92 : decode cX6_layOne 92 = .ok (.aload_n 0, 1) := by decide +kernel
theorem dX6_layOne_93 : decode cX6_layOne 93 = .ok (.iload_n 2, 1) := by decide +kernel
theorem dX6_layOne_94 : decode cX6_layOne 94 = .ok (.iload_n 3, 1) := by decide +kernel
theorem dX6_layOne_95 : decode cX6_layOne 95 = .ok (.bipush 6, 2) := by decide +kernel
theorem dX6_layOne_97 : decode cX6_layOne 97 = .ok (.iload 4, 2) := by decide +kernel
theorem dX6_layOne_99 : decode cX6_layOne 99 = .ok (.iadd, 1) := by decide +kernel
theorem dX6_layOne_100 : decode cX6_layOne 100 = .ok (.invokevirtual 59, 3) := by decide +kernel
theorem dX6_layOne_103 : decode cX6_layOne 103 = .ok (.return_, 1) := by decide +kernel
theorem dX6_lengthen_0 : decode cX6_lengthen 0 = .ok (.aload_n 0, 1) := by decide +kernel
theorem dX6_lengthen_1 : decode cX6_lengthen 1 = .ok (.getfield 15, 3) := by decide +kernel
theorem dX6_lengthen_4 : decode cX6_lengthen 4 = .ok (.iload_n 2, 1) := by decide +kernel
theorem dX6_lengthen_5 : decode cX6_lengthen 5 = .ok (.iaload, 1) := by decide +kernel
theorem dX6_lengthen_6 : decode cX6_lengthen 6 = .ok (.istore 4, 2) := by decide +kernel
theorem dX6_lengthen_8 : decode cX6_lengthen 8 = .ok (.iload 4, 2) := by decide +kernel
theorem dX6_lengthen_10 : decode cX6_lengthen 10 = .ok (.iconst 4, 1) := by decide +kernel
theorem dX6_lengthen_11 : decode cX6_lengthen 11 = .ok (.if_icmp .lt 4, 3) := by decide +kernel
theorem dX6_lengthen_14 : decode cX6_lengthen 14 = .ok (.return_, 1) := by decide +kernel
theorem dX6_lengthen_15 : decode cX6_lengthen 15 = .ok (.iload 4, 2) := by decide +kernel
theorem dX6_lengthen_17 : decode cX6_lengthen 17 = .ok (.ifCond .le 45, 3) := by decide +kernel
theorem dX6_lengthen_20 : decode cX6_lengthen 20 = .ok (.aload_n 0, 1) := by decide +kernel
theorem dX6_lengthen_21 : decode cX6_lengthen 21 = .ok (.iload_n 2, 1) := by decide +kernel
theorem dX6_lengthen_22 : decode cX6_lengthen 22 = .ok (.iload 4, 2) := by decide +kernel
theorem dX6_lengthen_24 : decode cX6_lengthen 24 = .ok (.iconst 1, 1) := by decide +kernel
theorem dX6_lengthen_25 : decode cX6_lengthen 25 = .ok (.isub, 1) := by decide +kernel
theorem dX6_lengthen_26 : decode cX6_lengthen 26 = .ok (.invokevirtual 63, 3) := by decide +kernel
theorem dX6_lengthen_29 : decode cX6_lengthen 29 = .ok (.istore 5, 2) := by decide +kernel
theorem dX6_lengthen_31 : decode cX6_lengthen 31 = .ok (.aload_n 0, 1) := by decide +kernel
theorem dX6_lengthen_32 : decode cX6_lengthen 32 = .ok (.getfield 21, 3) := by decide +kernel
theorem dX6_lengthen_35 : decode cX6_lengthen 35 = .ok (.iload_n 1, 1) := by decide +kernel
theorem dX6_lengthen_36 : decode cX6_lengthen 36 = .ok (.bipush 16, 2) := by decide +kernel
theorem dX6_lengthen_38 : decode cX6_lengthen 38 = .ok (.imul, 1) := by decide +kernel
theorem dX6_lengthen_39 : decode cX6_lengthen 39 = .ok (.iload 5, 2) := by decide +kernel
theorem dX6_lengthen_41 : decode cX6_lengthen 41 = .ok (.iadd, 1) := by decide +kernel
theorem dX6_lengthen_42 : decode cX6_lengthen 42 = .ok (.dup2, 1) := by decide +kernel
theorem dX6_lengthen_43 : decode cX6_lengthen 43 = .ok (.iaload, 1) := by decide +kernel
theorem dX6_lengthen_44 : decode cX6_lengthen 44 = .ok (.iconst 1, 1) := by decide +kernel
theorem dX6_lengthen_45 : decode cX6_lengthen 45 = .ok (.iload_n 3, 1) := by decide +kernel
theorem dX6_lengthen_46 : decode cX6_lengthen 46 = .ok (.ishl, 1) := by decide +kernel
theorem dX6_lengthen_47 : decode cX6_lengthen 47 = .ok (.ior, 1) := by decide +kernel
theorem dX6_lengthen_48 : decode cX6_lengthen 48 = .ok (.iastore, 1) := by decide +kernel
theorem dX6_lengthen_49 : decode cX6_lengthen 49 = .ok (.aload_n 0, 1) := by decide +kernel
theorem dX6_lengthen_50 : decode cX6_lengthen 50 = .ok (.getfield 24, 3) := by decide +kernel
theorem dX6_lengthen_53 : decode cX6_lengthen 53 = .ok (.iload_n 1, 1) := by decide +kernel
theorem dX6_lengthen_54 : decode cX6_lengthen 54 = .ok (.bipush 16, 2) := by decide +kernel
theorem dX6_lengthen_56 : decode cX6_lengthen 56 = .ok (.imul, 1) := by decide +kernel
theorem dX6_lengthen_57 : decode cX6_lengthen 57 = .ok (.iload_n 3, 1) := by decide +kernel
theorem dX6_lengthen_58 : decode cX6_lengthen 58 = .ok (.iadd, 1) := by decide +kernel
theorem dX6_lengthen_59 : decode cX6_lengthen 59 = .ok (.iload 5, 2) := by decide +kernel
theorem dX6_lengthen_61 : decode cX6_lengthen 61 = .ok (.iastore, 1) := by decide +kernel
theorem dX6_lengthen_62 : decode cX6_lengthen 62 = .ok (.aload_n 0, 1) := by decide +kernel
theorem dX6_lengthen_63 : decode cX6_lengthen 63 = .ok (.getfield 9, 3) := by decide +kernel
theorem dX6_lengthen_66 : decode cX6_lengthen 66 = .ok (.iload_n 2, 1) := by decide +kernel
theorem dX6_lengthen_67 : decode cX6_lengthen 67 = .ok (.iconst 4, 1) := by decide +kernel
theorem dX6_lengthen_68 : decode cX6_lengthen 68 = .ok (.imul, 1) := by decide +kernel
theorem dX6_lengthen_69 : decode cX6_lengthen 69 = .ok (.iload 4, 2) := by decide +kernel
theorem dX6_lengthen_71 : decode cX6_lengthen 71 = .ok (.iadd, 1) := by decide +kernel
theorem dX6_lengthen_72 : decode cX6_lengthen 72 = .ok (.iload_n 3, 1) := by decide +kernel
theorem dX6_lengthen_73 : decode cX6_lengthen 73 = .ok (.iastore, 1) := by decide +kernel
theorem dX6_lengthen_74 : decode cX6_lengthen 74 = .ok (.aload_n 0, 1) := by decide +kernel
theorem dX6_lengthen_75 : decode cX6_lengthen 75 = .ok (.getfield 15, 3) := by decide +kernel
theorem dX6_lengthen_78 : decode cX6_lengthen 78 = .ok (.iload_n 2, 1) := by decide +kernel
theorem dX6_lengthen_79 : decode cX6_lengthen 79 = .ok (.iload 4, 2) := by decide +kernel
theorem dX6_lengthen_81 : decode cX6_lengthen 81 = .ok (.iconst 1, 1) := by decide +kernel
theorem dX6_lengthen_82 : decode cX6_lengthen 82 = .ok (.iadd, 1) := by decide +kernel
theorem dX6_lengthen_83 : decode cX6_lengthen 83 = .ok (.iastore, 1) := by decide +kernel
theorem dX6_lengthen_84 : decode cX6_lengthen 84 = .ok (.aload_n 0, 1) := by decide +kernel
theorem dX6_lengthen_85 : decode cX6_lengthen 85 = .ok (.getfield 18, 3) := by decide +kernel
theorem dX6_lengthen_88 : decode cX6_lengthen 88 = .ok (.iload_n 3, 1) := by decide +kernel
theorem dX6_lengthen_89 : decode cX6_lengthen 89 = .ok (.dup2, 1) := by decide +kernel
theorem dX6_lengthen_90 : decode cX6_lengthen 90 = .ok (.iaload, 1) := by decide +kernel
theorem dX6_lengthen_91 : decode cX6_lengthen 91 = .ok (.iconst 1, 1) := by decide +kernel
theorem dX6_lengthen_92 : decode cX6_lengthen 92 = .ok (.iload_n 1, 1) := by decide +kernel
theorem dX6_lengthen_93 : decode cX6_lengthen 93 = .ok (.ishl, 1) := by decide +kernel
theorem dX6_lengthen_94 : decode cX6_lengthen 94 = .ok (.ior, 1) := by decide +kernel
theorem dX6_lengthen_95 : decode cX6_lengthen 95 = .ok (.iastore, 1) := by decide +kernel
theorem dX6_lengthen_96 : decode cX6_lengthen 96 = .ok (.return_, 1) := by decide +kernel
theorem dX6_portAt_0 : decode cX6_portAt 0 = .ok (.aload_n 0, 1) := by decide +kernel
theorem dX6_portAt_1 : decode cX6_portAt 1 = .ok (.getfield 9, 3) := by decide +kernel
theorem dX6_portAt_4 : decode cX6_portAt 4 = .ok (.iload_n 1, 1) := by decide +kernel
theorem dX6_portAt_5 : decode cX6_portAt 5 = .ok (.iconst 4, 1) := by decide +kernel
theorem dX6_portAt_6 : decode cX6_portAt 6 = .ok (.imul, 1) := by decide +kernel
theorem dX6_portAt_7 : decode cX6_portAt 7 = .ok (.iload_n 2, 1) := by decide +kernel
theorem dX6_portAt_8 : decode cX6_portAt 8 = .ok (.iadd, 1) := by decide +kernel
theorem dX6_portAt_9 : decode cX6_portAt 9 = .ok (.iaload, 1) := by decide +kernel
theorem dX6_portAt_10 : decode cX6_portAt 10 = .ok (.ireturn, 1) := by decide +kernel
theorem dX6_uses_0 : decode cX6_uses 0 = .ok (.aload_n 0, 1) := by decide +kernel
theorem dX6_uses_1 : decode cX6_uses 1 = .ok (.getfield 18, 3) := by decide +kernel
theorem dX6_uses_4 : decode cX6_uses 4 = .ok (.iload_n 2, 1) := by decide +kernel
theorem dX6_uses_5 : decode cX6_uses 5 = .ok (.iaload, 1) := by decide +kernel
theorem dX6_uses_6 : decode cX6_uses 6 = .ok (.iload_n 1, 1) := by decide +kernel
theorem dX6_uses_7 : decode cX6_uses 7 = .ok (.ishr, 1) := by decide +kernel
theorem dX6_uses_8 : decode cX6_uses 8 = .ok (.iconst 1, 1) := by decide +kernel
theorem dX6_uses_9 : decode cX6_uses 9 = .ok (.iand, 1) := by decide +kernel
theorem dX6_uses_10 : decode cX6_uses 10 = .ok (.iconst 1, 1) := by decide +kernel
theorem dX6_uses_11 : decode cX6_uses 11 = .ok (.if_icmp .ne 7, 3) := by decide +kernel
theorem dX6_uses_14 : decode cX6_uses 14 = .ok (.iconst 1, 1) := by decide +kernel
theorem dX6_uses_15 : decode cX6_uses 15 = .ok (.goto 4, 3) := by decide +kernel
theorem dX6_uses_18 : decode cX6_uses 18 = .ok (.iconst 0, 1) := by decide +kernel
theorem dX6_uses_19 : decode cX6_uses 19 = .ok (.ireturn, 1) := by decide +kernel
theorem dX7_init_0 : decode cX7_init 0 = .ok (.aload_n 0, 1) := by decide +kernel
theorem dX7_init_1 : decode cX7_init 1 = .ok (.invokespecial 3, 3) := by decide +kernel
theorem dX7_init_4 : decode cX7_init 4 = .ok (.aload_n 0, 1) := by decide +kernel
theorem dX7_init_5 : decode cX7_init 5 = .ok (.new 9, 3) := by decide +kernel
theorem dX7_init_8 : decode cX7_init 8 = .ok (.dup, 1) := by decide +kernel
theorem dX7_init_9 : decode cX7_init 9 = .ok (.invokespecial 11, 3) := by decide +kernel
theorem dX7_init_12 : decode cX7_init 12 = .ok (.putfield 12, 3) := by decide +kernel
theorem dX7_init_15 : decode cX7_init 15 = .ok (.aload_n 0, 1) := by decide +kernel
theorem dX7_init_16 : decode cX7_init 16 = .ok (.new 16, 3) := by decide +kernel
theorem dX7_init_19 : decode cX7_init 19 = .ok (.dup, 1) := by decide +kernel
theorem dX7_init_20 : decode cX7_init 20 = .ok (.invokespecial 18, 3) := by decide +kernel
theorem dX7_init_23 : decode cX7_init 23 = .ok (.putfield 19, 3) := by decide +kernel
theorem dX7_init_26 : decode cX7_init 26 = .ok (.aload_n 0, 1) := by decide +kernel
theorem dX7_init_27 : decode cX7_init 27 = .ok (.new 23, 3) := by decide +kernel
theorem dX7_init_30 : decode cX7_init 30 = .ok (.dup, 1) := by decide +kernel
theorem dX7_init_31 : decode cX7_init 31 = .ok (.invokespecial 25, 3) := by decide +kernel
theorem dX7_init_34 : decode cX7_init 34 = .ok (.putfield 26, 3) := by decide +kernel
theorem dX7_init_37 : decode cX7_init 37 = .ok (.aload_n 0, 1) := by decide +kernel
theorem dX7_init_38 : decode cX7_init 38 = .ok (.new 30, 3) := by decide +kernel
theorem dX7_init_41 : decode cX7_init 41 = .ok (.dup, 1) := by decide +kernel
theorem dX7_init_42 : decode cX7_init 42 = .ok (.invokespecial 32, 3) := by decide +kernel
theorem dX7_init_45 : decode cX7_init 45 = .ok (.putfield 33, 3) := by decide +kernel
theorem dX7_init_48 : decode cX7_init 48 = .ok (.aload_n 0, 1) := by decide +kernel
theorem dX7_init_49 : decode cX7_init 49 = .ok (.new 30, 3) := by decide +kernel
theorem dX7_init_52 : decode cX7_init 52 = .ok (.dup, 1) := by decide +kernel
theorem dX7_init_53 : decode cX7_init 53 = .ok (.invokespecial 32, 3) := by decide +kernel
theorem dX7_init_56 : decode cX7_init 56 = .ok (.putfield 37, 3) := by decide +kernel
theorem dX7_init_59 : decode cX7_init 59 = .ok (.aload_n 0, 1) := by decide +kernel
theorem dX7_init_60 : decode cX7_init 60 = .ok (.new 30, 3) := by decide +kernel
theorem dX7_init_63 : decode cX7_init 63 = .ok (.dup, 1) := by decide +kernel
theorem dX7_init_64 : decode cX7_init 64 = .ok (.invokespecial 32, 3) := by decide +kernel
theorem dX7_init_67 : decode cX7_init 67 = .ok (.putfield 40, 3) := by decide +kernel
theorem dX7_init_70 : decode cX7_init 70 = .ok (.aload_n 0, 1) := by decide +kernel
theorem dX7_init_71 : decode cX7_init 71 = .ok (.iconst 0, 1) := by decide +kernel
theorem dX7_init_72 : decode cX7_init 72 = .ok (.putfield 43, 3) := by decide +kernel
theorem dX7_init_75 : decode cX7_init 75 = .ok (.aload_n 0, 1) := by decide +kernel
theorem dX7_init_76 : decode cX7_init 76 = .ok (.iconst 0, 1) := by decide +kernel
theorem dX7_init_77 : decode cX7_init 77 = .ok (.putfield 47, 3) := by decide +kernel
theorem dX7_init_80 : decode cX7_init 80 = .ok (.aload_n 0, 1) := by decide +kernel
theorem dX7_init_81 : decode cX7_init 81 = .ok (.iconst 0, 1) := by decide +kernel
theorem dX7_init_82 : decode cX7_init 82 = .ok (.putfield 51, 3) := by decide +kernel
theorem dX7_init_85 : decode cX7_init 85 = .ok (.aload_n 0, 1) := by decide +kernel
theorem dX7_init_86 : decode cX7_init 86 = .ok (.iconst (-1), 1) := by decide +kernel
theorem dX7_init_87 : decode cX7_init 87 = .ok (.putfield 54, 3) := by decide +kernel
theorem dX7_init_90 : decode cX7_init 90 = .ok (.return_, 1) := by decide +kernel
theorem dX7_feed_0 : decode cX7_feed 0 = .ok (.aload_n 0, 1) := by decide +kernel
theorem dX7_feed_1 : decode cX7_feed 1 = .ok (.getfield 12, 3) := by decide +kernel
theorem dX7_feed_4 : decode cX7_feed 4 = .ok (.getfield 57, 3) := by decide +kernel
theorem dX7_feed_7 : decode cX7_feed 7 = .ok (.bipush 20, 2) := by decide +kernel
theorem dX7_feed_9 : decode cX7_feed 9 = .ok (.iadd, 1) := by decide +kernel
theorem dX7_feed_10 : decode cX7_feed 10 = .ok (.sipush 900, 3) := by decide +kernel
theorem dX7_feed_13 : decode cX7_feed 13 = .ok (.if_icmp .le 5, 3) := by decide +kernel
theorem dX7_feed_16 : decode cX7_feed 16 = .ok (.iconst (-1), 1) := by decide +kernel
theorem dX7_feed_17 : decode cX7_feed 17 = .ok (.ireturn, 1) := by decide +kernel
theorem dX7_feed_18 : decode cX7_feed 18 = .ok (.aload_n 0, 1) := by decide +kernel
theorem dX7_feed_19 : decode cX7_feed 19 = .ok (.getfield 12, 3) := by decide +kernel
theorem dX7_feed_22 : decode cX7_feed 22 = .ok (.iload_n 1, 1) := by decide +kernel
theorem dX7_feed_23 : decode cX7_feed 23 = .ok (.invokevirtual 60, 3) := by decide +kernel
theorem dX7_feed_26 : decode cX7_feed 26 = .ok (.aload_n 0, 1) := by decide +kernel
theorem dX7_feed_27 : decode cX7_feed 27 = .ok (.getfield 12, 3) := by decide +kernel
theorem dX7_feed_30 : decode cX7_feed 30 = .ok (.iload_n 2, 1) := by decide +kernel
theorem dX7_feed_31 : decode cX7_feed 31 = .ok (.invokevirtual 60, 3) := by decide +kernel
theorem dX7_feed_34 : decode cX7_feed 34 = .ok (.aload_n 0, 1) := by decide +kernel
theorem dX7_feed_35 : decode cX7_feed 35 = .ok (.getfield 12, 3) := by decide +kernel
theorem dX7_feed_38 : decode cX7_feed 38 = .ok (.iload_n 3, 1) := by decide +kernel
theorem dX7_feed_39 : decode cX7_feed 39 = .ok (.invokevirtual 60, 3) := by decide +kernel
theorem dX7_feed_42 : decode cX7_feed 42 = .ok (.aload_n 0, 1) := by decide +kernel
theorem dX7_feed_43 : decode cX7_feed 43 = .ok (.getfield 12, 3) := by decide +kernel
theorem dX7_feed_46 : decode cX7_feed 46 = .ok (.iload 4, 2) := by decide +kernel
theorem dX7_feed_48 : decode cX7_feed 48 = .ok (.invokevirtual 60, 3) := by decide +kernel
theorem dX7_feed_51 : decode cX7_feed 51 = .ok (.aload_n 0, 1) := by decide +kernel
theorem dX7_feed_52 : decode cX7_feed 52 = .ok (.getfield 12, 3) := by decide +kernel
theorem dX7_feed_55 : decode cX7_feed 55 = .ok (.iload 5, 2) := by decide +kernel
theorem dX7_feed_57 : decode cX7_feed 57 = .ok (.invokevirtual 60, 3) := by decide +kernel
theorem dX7_feed_60 : decode cX7_feed 60 = .ok (.aload_n 0, 1) := by decide +kernel
theorem dX7_feed_61 : decode cX7_feed 61 = .ok (.getfield 12, 3) := by decide +kernel
theorem dX7_feed_64 : decode cX7_feed 64 = .ok (.getfield 57, 3) := by decide +kernel
theorem dX7_feed_67 : decode cX7_feed 67 = .ok (.ireturn, 1) := by decide +kernel
theorem dX7_bus_0 : decode cX7_bus 0 = .ok (.iload_n 1, 1) := by decide +kernel
theorem dX7_bus_1 : decode cX7_bus 1 = .ok (.ifCond .lt 14, 3) := by decide +kernel
theorem dX7_bus_4 : decode cX7_bus 4 = .ok (.iload_n 1, 1) := by decide +kernel
theorem dX7_bus_5 : decode cX7_bus 5 = .ok (.aload_n 0, 1) := by decide +kernel
theorem dX7_bus_6 : decode cX7_bus 6 = .ok (.getfield 12, 3) := by decide +kernel
theorem dX7_bus_9 : decode cX7_bus 9 = .ok (.getfield 57, 3) := by decide +kernel
theorem dX7_bus_12 : decode cX7_bus 12 = .ok (.if_icmp .le 9, 3) := by decide +kernel
theorem dX7_bus_15 : decode cX7_bus 15 = .ok (.aload_n 0, 1) := by decide +kernel
theorem dX7_bus_16 : decode cX7_bus 16 = .ok (.iconst 2, 1) := by decide +kernel
theorem dX7_bus_17 : decode cX7_bus 17 = .ok (.invokevirtual 64, 3) := by decide +kernel
theorem dX7_bus_20 : decode cX7_bus 20 = .ok (.ireturn, 1) := by decide +kernel
theorem dX7_bus_21 : decode cX7_bus 21 = .ok (.aload_n 0, 1) := by decide +kernel
theorem dX7_bus_22 : decode cX7_bus 22 = .ok (.getfield 12, 3) := by decide +kernel
theorem dX7_bus_25 : decode cX7_bus 25 = .ok (.iload_n 1, 1) := by decide +kernel
theorem dX7_bus_26 : decode cX7_bus 26 = .ok (.invokevirtual 68, 3) := by decide +kernel
theorem dX7_bus_29 : decode cX7_bus 29 = .ok (.aload_n 0, 1) := by decide +kernel
theorem dX7_bus_30 : decode cX7_bus 30 = .ok (.aload_n 0, 1) := by decide +kernel
theorem dX7_bus_31 : decode cX7_bus 31 = .ok (.getfield 12, 3) := by decide +kernel
theorem dX7_bus_34 : decode cX7_bus 34 = .ok (.getfield 71, 3) := by decide +kernel
theorem dX7_bus_37 : decode cX7_bus 37 = .ok (.putfield 51, 3) := by decide +kernel
theorem dX7_bus_40 : decode cX7_bus 40 = .ok (.aload_n 0, 1) := by decide +kernel
theorem dX7_bus_41 : decode cX7_bus 41 = .ok (.aload_n 0, 1) := by decide +kernel
theorem dX7_bus_42 : decode cX7_bus 42 = .ok (.getfield 12, 3) := by decide +kernel
theorem dX7_bus_45 : decode cX7_bus 45 = .ok (.getfield 74, 3) := by decide +kernel
theorem dX7_bus_48 : decode cX7_bus 48 = .ok (.putfield 54, 3) := by decide +kernel
theorem dX7_bus_51 : decode cX7_bus 51 = .ok (.aload_n 0, 1) := by decide +kernel
theorem dX7_bus_52 : decode cX7_bus 52 = .ok (.getfield 51, 3) := by decide +kernel
theorem dX7_bus_55 : decode cX7_bus 55 = .ok (.ifCond .eq 9, 3) := by decide +kernel
theorem dX7_bus_58 : decode cX7_bus 58 = .ok (.aload_n 0, 1) := by decide +kernel
theorem dX7_bus_59 : decode cX7_bus 59 = .ok (.iconst 4, 1) := by decide +kernel
theorem dX7_bus_60 : decode cX7_bus 60 = .ok (.invokevirtual 64, 3) := by decide +kernel
theorem dX7_bus_63 : decode cX7_bus 63 = .ok (.ireturn, 1) := by decide +kernel
theorem dX7_bus_64 : decode cX7_bus 64 = .ok (.aload_n 0, 1) := by decide +kernel
theorem dX7_bus_65 : decode cX7_bus 65 = .ok (.aload_n 0, 1) := by decide +kernel
theorem dX7_bus_66 : decode cX7_bus 66 = .ok (.getfield 12, 3) := by decide +kernel
theorem dX7_bus_69 : decode cX7_bus 69 = .ok (.aload_n 0, 1) := by decide +kernel
theorem dX7_bus_70 : decode cX7_bus 70 = .ok (.getfield 19, 3) := by decide +kernel
theorem dX7_bus_73 : decode cX7_bus 73 = .ok (.invokevirtual 77, 3) := by decide +kernel
theorem dX7_bus_76 : decode cX7_bus 76 = .ok (.putfield 19, 3) := by decide +kernel
theorem dX7_bus_79 : decode cX7_bus 79 = .ok (.aload_n 0, 1) := by decide +kernel
theorem dX7_bus_80 : decode cX7_bus 80 = .ok (.getfield 19, 3) := by decide +kernel
theorem dX7_bus_83 : decode cX7_bus 83 = .ok (.getfield 81, 3) := by decide +kernel
theorem dX7_bus_86 : decode cX7_bus 86 = .ok (.aload_n 0, 1) := by decide +kernel
theorem dX7_bus_87 : decode cX7_bus 87 = .ok (.getfield 19, 3) := by decide +kernel
theorem dX7_bus_90 : decode cX7_bus 90 = .ok (.invokevirtual 85, 3) := by decide +kernel
theorem dX7_bus_93 : decode cX7_bus 93 = .ok (.aload_n 0, 1) := by decide +kernel
theorem dX7_bus_94 : decode cX7_bus 94 = .ok (.getfield 26, 3) := by decide +kernel
theorem dX7_bus_97 : decode cX7_bus 97 = .ok (.aload_n 0, 1) := by decide +kernel
theorem dX7_bus_98 : decode cX7_bus 98 = .ok (.getfield 19, 3) := by decide +kernel
theorem dX7_bus_101 : decode cX7_bus 101 = .ok (.invokevirtual 91, 3) := by decide +kernel
theorem dX7_bus_104 : decode cX7_bus 104 = .ok (.aload_n 0, 1) := by decide +kernel
theorem dX7_bus_105 : decode cX7_bus 105 = .ok (.getfield 33, 3) := by decide +kernel
theorem dX7_bus_108 : decode cX7_bus 108 = .ok (.aload_n 0, 1) := by decide +kernel
theorem dX7_bus_109 : decode cX7_bus 109 = .ok (.getfield 19, 3) := by decide +kernel
theorem dX7_bus_112 : decode cX7_bus 112 = .ok (.invokevirtual 94, 3) := by decide +kernel
theorem dX7_bus_115 : decode cX7_bus 115 = .ok (.aload_n 0, 1) := by decide +kernel
theorem dX7_bus_116 : decode cX7_bus 116 = .ok (.iconst 0, 1) := by decide +kernel
theorem dX7_bus_117 : decode cX7_bus 117 = .ok (.putfield 43, 3) := by decide +kernel
theorem dX7_bus_120 : decode cX7_bus 120 = .ok (.aload_n 0, 1) := by decide +kernel
theorem dX7_bus_121 : decode cX7_bus 121 = .ok (.aload_n 0, 1) := by decide +kernel
theorem dX7_bus_122 : decode cX7_bus 122 = .ok (.getfield 19, 3) := by decide +kernel
theorem dX7_bus_125 : decode cX7_bus 125 = .ok (.getfield 97, 3) := by decide +kernel
theorem dX7_bus_128 : decode cX7_bus 128 = .ok (.invokevirtual 100, 3) := by decide +kernel
theorem dX7_bus_131 : decode cX7_bus 131 = .ok (.ireturn, 1) := by decide +kernel
theorem dX7_fault_0 : decode cX7_fault 0 = .ok (.aload_n 0, 1) := by decide +kernel
theorem dX7_fault_1 : decode cX7_fault 1 = .ok (.getfield 51, 3) := by decide +kernel
theorem dX7_fault_4 : decode cX7_fault 4 = .ok (.ireturn, 1) := by decide +kernel
theorem dX7_where_0 : decode cX7_where 0 = .ok (.aload_n 0, 1) := by decide +kernel
theorem dX7_where_1 : decode cX7_where 1 = .ok (.getfield 47, 3) := by decide +kernel
theorem dX7_where_4 : decode cX7_where 4 = .ok (.iconst 4, 1) := by decide +kernel
theorem dX7_where_5 : decode cX7_where 5 = .ok (.if_icmp .ne 10, 3) := by decide +kernel
theorem dX7_where_8 : decode cX7_where 8 = .ok (.aload_n 0, 1) := by decide +kernel
theorem dX7_where_9 : decode cX7_where 9 = .ok (.getfield 54, 3) := by decide +kernel
theorem dX7_where_12 : decode cX7_where 12 = .ok (.goto 4, 3) := by decide +kernel
theorem dX7_where_15 : decode cX7_where 15 = .ok (.iconst (-1), 1) := by decide +kernel
theorem dX7_where_16 : decode cX7_where 16 = .ok (.ireturn, 1) := by decide +kernel
theorem dX7_about_0 : decode cX7_about 0 = .ok (.aload_n 0, 1) := by decide +kernel
theorem dX7_about_1 : decode cX7_about 1 = .ok (.invokevirtual 103, 3) := by decide +kernel
theorem dX7_about_4 : decode cX7_about 4 = .ok (.ifCond .eq 9, 3) := by decide +kernel
theorem dX7_about_7 : decode cX7_about 7 = .ok (.aload_n 0, 1) := by decide +kernel
theorem dX7_about_8 : decode cX7_about 8 = .ok (.iconst 1, 1) := by decide +kernel
theorem dX7_about_9 : decode cX7_about 9 = .ok (.invokevirtual 64, 3) := by decide +kernel
theorem dX7_about_12 : decode cX7_about 12 = .ok (.ireturn, 1) := by decide +kernel
theorem dX7_about_13 : decode cX7_about 13 = .ok (.iload_n 1, 1) := by decide +kernel
theorem dX7_about_14 : decode cX7_about 14 = .ok (.tableswitch 142 0 7 #[46, 58, 70, 82, 94, 106, 118, 130], 46) := by decide +kernel
theorem dX7_about_60 : decode cX7_about 60 = .ok (.aload_n 0, 1) := by decide +kernel
theorem dX7_about_61 : decode cX7_about 61 = .ok (.aload_n 0, 1) := by decide +kernel
theorem dX7_about_62 : decode cX7_about 62 = .ok (.getfield 19, 3) := by decide +kernel
theorem dX7_about_65 : decode cX7_about 65 = .ok (.getfield 107, 3) := by decide +kernel
theorem dX7_about_68 : decode cX7_about 68 = .ok (.invokevirtual 100, 3) := by decide +kernel
theorem dX7_about_71 : decode cX7_about 71 = .ok (.ireturn, 1) := by decide +kernel
theorem dX7_about_72 : decode cX7_about 72 = .ok (.aload_n 0, 1) := by decide +kernel
theorem dX7_about_73 : decode cX7_about 73 = .ok (.aload_n 0, 1) := by decide +kernel
theorem dX7_about_74 : decode cX7_about 74 = .ok (.getfield 19, 3) := by decide +kernel
theorem dX7_about_77 : decode cX7_about 77 = .ok (.getfield 110, 3) := by decide +kernel
theorem dX7_about_80 : decode cX7_about 80 = .ok (.invokevirtual 100, 3) := by decide +kernel
theorem dX7_about_83 : decode cX7_about 83 = .ok (.ireturn, 1) := by decide +kernel
theorem dX7_about_84 : decode cX7_about 84 = .ok (.aload_n 0, 1) := by decide +kernel
theorem dX7_about_85 : decode cX7_about 85 = .ok (.aload_n 0, 1) := by decide +kernel
theorem dX7_about_86 : decode cX7_about 86 = .ok (.getfield 19, 3) := by decide +kernel
theorem dX7_about_89 : decode cX7_about 89 = .ok (.getfield 113, 3) := by decide +kernel
theorem dX7_about_92 : decode cX7_about 92 = .ok (.invokevirtual 100, 3) := by decide +kernel
theorem dX7_about_95 : decode cX7_about 95 = .ok (.ireturn, 1) := by decide +kernel
theorem dX7_about_96 : decode cX7_about 96 = .ok (.aload_n 0, 1) := by decide +kernel
theorem dX7_about_97 : decode cX7_about 97 = .ok (.aload_n 0, 1) := by decide +kernel
theorem dX7_about_98 : decode cX7_about 98 = .ok (.getfield 19, 3) := by decide +kernel
theorem dX7_about_101 : decode cX7_about 101 = .ok (.getfield 116, 3) := by decide +kernel
theorem dX7_about_104 : decode cX7_about 104 = .ok (.invokevirtual 100, 3) := by decide +kernel
theorem dX7_about_107 : decode cX7_about 107 = .ok (.ireturn, 1) := by decide +kernel
theorem dX7_about_108 : decode cX7_about 108 = .ok (.aload_n 0, 1) := by decide +kernel
theorem dX7_about_109 : decode cX7_about 109 = .ok (.aload_n 0, 1) := by decide +kernel
theorem dX7_about_110 : decode cX7_about 110 = .ok (.getfield 19, 3) := by decide +kernel
theorem dX7_about_113 : decode cX7_about 113 = .ok (.getfield 119, 3) := by decide +kernel
theorem dX7_about_116 : decode cX7_about 116 = .ok (.invokevirtual 100, 3) := by decide +kernel
theorem dX7_about_119 : decode cX7_about 119 = .ok (.ireturn, 1) := by decide +kernel
theorem dX7_about_120 : decode cX7_about 120 = .ok (.aload_n 0, 1) := by decide +kernel
theorem dX7_about_121 : decode cX7_about 121 = .ok (.aload_n 0, 1) := by decide +kernel
theorem dX7_about_122 : decode cX7_about 122 = .ok (.getfield 19, 3) := by decide +kernel
theorem dX7_about_125 : decode cX7_about 125 = .ok (.getfield 122, 3) := by decide +kernel
theorem dX7_about_128 : decode cX7_about 128 = .ok (.invokevirtual 100, 3) := by decide +kernel
theorem dX7_about_131 : decode cX7_about 131 = .ok (.ireturn, 1) := by decide +kernel
theorem dX7_about_132 : decode cX7_about 132 = .ok (.aload_n 0, 1) := by decide +kernel
theorem dX7_about_133 : decode cX7_about 133 = .ok (.aload_n 0, 1) := by decide +kernel
theorem dX7_about_134 : decode cX7_about 134 = .ok (.getfield 19, 3) := by decide +kernel
theorem dX7_about_137 : decode cX7_about 137 = .ok (.getfield 97, 3) := by decide +kernel
theorem dX7_about_140 : decode cX7_about 140 = .ok (.invokevirtual 100, 3) := by decide +kernel
theorem dX7_about_143 : decode cX7_about 143 = .ok (.ireturn, 1) := by decide +kernel
theorem dX7_about_144 : decode cX7_about 144 = .ok (.aload_n 0, 1) := by decide +kernel
theorem dX7_about_145 : decode cX7_about 145 = .ok (.aload_n 0, 1) := by decide +kernel
theorem dX7_about_146 : decode cX7_about 146 = .ok (.getfield 33, 3) := by decide +kernel
theorem dX7_about_149 : decode cX7_about 149 = .ok (.getfield 125, 3) := by decide +kernel
theorem dX7_about_152 : decode cX7_about 152 = .ok (.invokevirtual 100, 3) := by decide +kernel
theorem dX7_about_155 : decode cX7_about 155 = .ok (.ireturn, 1) := by decide +kernel
theorem dX7_about_156 : decode cX7_about 156 = .ok (.aload_n 0, 1) := by decide +kernel
theorem dX7_about_157 : decode cX7_about 157 = .ok (.iconst 1, 1) := by decide +kernel
theorem dX7_about_158 : decode cX7_about 158 = .ok (.invokevirtual 64, 3) := by decide +kernel
theorem dX7_about_161 : decode cX7_about 161 = .ok (.ireturn, 1) := by decide +kernel
theorem dX7_at_0 : decode cX7_at 0 = .ok (.aload_n 0, 1) := by decide +kernel
theorem dX7_at_1 : decode cX7_at 1 = .ok (.getfield 19, 3) := by decide +kernel
theorem dX7_at_4 : decode cX7_at 4 = .ok (.iload_n 1, 1) := by decide +kernel
theorem dX7_at_5 : decode cX7_at 5 = .ok (.invokevirtual 128, 3) := by decide +kernel
theorem dX7_at_8 : decode cX7_at 8 = .ok (.ifCond .ne 9, 3) := by decide +kernel
theorem dX7_at_11 : decode cX7_at 11 = .ok (.aload_n 0, 1) := by decide +kernel
theorem dX7_at_12 : decode cX7_at 12 = .ok (.iconst 1, 1) := by decide +kernel
theorem dX7_at_13 : decode cX7_at 13 = .ok (.invokevirtual 64, 3) := by decide +kernel
theorem dX7_at_16 : decode cX7_at 16 = .ok (.ireturn, 1) := by decide +kernel
theorem dX7_at_17 : decode cX7_at 17 = .ok (.aload_n 0, 1) := by decide +kernel
theorem dX7_at_18 : decode cX7_at 18 = .ok (.aload_n 0, 1) := by decide +kernel
theorem dX7_at_19 : decode cX7_at 19 = .ok (.getfield 19, 3) := by decide +kernel
theorem dX7_at_22 : decode cX7_at 22 = .ok (.getfield 132, 3) := by decide +kernel
theorem dX7_at_25 : decode cX7_at 25 = .ok (.iload_n 1, 1) := by decide +kernel
theorem dX7_at_26 : decode cX7_at 26 = .ok (.iaload, 1) := by decide +kernel
theorem dX7_at_27 : decode cX7_at 27 = .ok (.invokevirtual 100, 3) := by decide +kernel
theorem dX7_at_30 : decode cX7_at 30 = .ok (.ireturn, 1) := by decide +kernel
theorem dX7_link_0 : decode cX7_link 0 = .ok (.aload_n 0, 1) := by decide +kernel
theorem dX7_link_1 : decode cX7_link 1 = .ok (.getfield 19, 3) := by decide +kernel
theorem dX7_link_4 : decode cX7_link 4 = .ok (.iload_n 1, 1) := by decide +kernel
theorem dX7_link_5 : decode cX7_link 5 = .ok (.invokevirtual 136, 3) := by decide +kernel
theorem dX7_link_8 : decode cX7_link 8 = .ok (.ifCond .ne 9, 3) := by decide +kernel
theorem dX7_link_11 : decode cX7_link 11 = .ok (.aload_n 0, 1) := by decide +kernel
theorem dX7_link_12 : decode cX7_link 12 = .ok (.iconst 1, 1) := by decide +kernel
theorem dX7_link_13 : decode cX7_link 13 = .ok (.invokevirtual 64, 3) := by decide +kernel
theorem dX7_link_16 : decode cX7_link 16 = .ok (.ireturn, 1) := by decide +kernel
theorem dX7_link_17 : decode cX7_link 17 = .ok (.iload_n 2, 1) := by decide +kernel
theorem dX7_link_18 : decode cX7_link 18 = .ok (.tableswitch 86 0 3 #[30, 44, 58, 72], 30) := by decide +kernel
theorem dX7_link_48 : decode cX7_link 48 = .ok (.aload_n 0, 1) := by decide +kernel
theorem dX7_link_49 : decode cX7_link 49 = .ok (.aload_n 0, 1) := by decide +kernel
theorem dX7_link_50 : decode cX7_link 50 = .ok (.getfield 19, 3) := by decide +kernel
theorem dX7_link_53 : decode cX7_link 53 = .ok (.getfield 139, 3) := by decide +kernel
theorem dX7_link_56 : decode cX7_link 56 = .ok (.iload_n 1, 1) := by decide +kernel
theorem dX7_link_57 : decode cX7_link 57 = .ok (.iaload, 1) := by decide +kernel
theorem dX7_link_58 : decode cX7_link 58 = .ok (.invokevirtual 100, 3) := by decide +kernel
theorem dX7_link_61 : decode cX7_link 61 = .ok (.ireturn, 1) := by decide +kernel
theorem dX7_link_62 : decode cX7_link 62 = .ok (.aload_n 0, 1) := by decide +kernel
theorem dX7_link_63 : decode cX7_link 63 = .ok (.aload_n 0, 1) := by decide +kernel
theorem dX7_link_64 : decode cX7_link 64 = .ok (.getfield 19, 3) := by decide +kernel
theorem dX7_link_67 : decode cX7_link 67 = .ok (.getfield 142, 3) := by decide +kernel
theorem dX7_link_70 : decode cX7_link 70 = .ok (.iload_n 1, 1) := by decide +kernel
theorem dX7_link_71 : decode cX7_link 71 = .ok (.iaload, 1) := by decide +kernel
theorem dX7_link_72 : decode cX7_link 72 = .ok (.invokevirtual 100, 3) := by decide +kernel
theorem dX7_link_75 : decode cX7_link 75 = .ok (.ireturn, 1) := by decide +kernel
theorem dX7_link_76 : decode cX7_link 76 = .ok (.aload_n 0, 1) := by decide +kernel
theorem dX7_link_77 : decode cX7_link 77 = .ok (.aload_n 0, 1) := by decide +kernel
theorem dX7_link_78 : decode cX7_link 78 = .ok (.getfield 19, 3) := by decide +kernel
theorem dX7_link_81 : decode cX7_link 81 = .ok (.getfield 145, 3) := by decide +kernel
theorem dX7_link_84 : decode cX7_link 84 = .ok (.iload_n 1, 1) := by decide +kernel
theorem dX7_link_85 : decode cX7_link 85 = .ok (.iaload, 1) := by decide +kernel
theorem dX7_link_86 : decode cX7_link 86 = .ok (.invokevirtual 100, 3) := by decide +kernel
theorem dX7_link_89 : decode cX7_link 89 = .ok (.ireturn, 1) := by decide +kernel
theorem dX7_link_90 : decode cX7_link 90 = .ok (.aload_n 0, 1) := by decide +kernel
theorem dX7_link_91 : decode cX7_link 91 = .ok (.aload_n 0, 1) := by decide +kernel
theorem dX7_link_92 : decode cX7_link 92 = .ok (.getfield 19, 3) := by decide +kernel
theorem dX7_link_95 : decode cX7_link 95 = .ok (.getfield 148, 3) := by decide +kernel
theorem dX7_link_98 : decode cX7_link 98 = .ok (.iload_n 1, 1) := by decide +kernel
theorem dX7_link_99 : decode cX7_link 99 = .ok (.iaload, 1) := by decide +kernel
theorem dX7_link_100 : decode cX7_link 100 = .ok (.invokevirtual 100, 3) := by decide +kernel
theorem dX7_link_103 : decode cX7_link 103 = .ok (.ireturn, 1) := by decide +kernel
theorem dX7_link_104 : decode cX7_link 104 = .ok (.aload_n 0, 1) := by decide +kernel
theorem dX7_link_105 : decode cX7_link 105 = .ok (.iconst 1, 1) := by decide +kernel
theorem dX7_link_106 : decode cX7_link 106 = .ok (.invokevirtual 64, 3) := by decide +kernel
theorem dX7_link_109 : decode cX7_link 109 = .ok (.ireturn, 1) := by decide +kernel
theorem dX7_receiver_0 : decode cX7_receiver 0 = .ok (.aload_n 0, 1) := by decide +kernel
theorem dX7_receiver_1 : decode cX7_receiver 1 = .ok (.getfield 19, 3) := by decide +kernel
theorem dX7_receiver_4 : decode cX7_receiver 4 = .ok (.iload_n 1, 1) := by decide +kernel
theorem dX7_receiver_5 : decode cX7_receiver 5 = .ok (.iload_n 2, 1) := by decide +kernel
theorem dX7_receiver_6 : decode cX7_receiver 6 = .ok (.invokevirtual 151, 3) := by decide +kernel
theorem dX7_receiver_9 : decode cX7_receiver 9 = .ok (.ifCond .ne 9, 3) := by decide +kernel
theorem dX7_receiver_12 : decode cX7_receiver 12 = .ok (.aload_n 0, 1) := by decide +kernel
theorem dX7_receiver_13 : decode cX7_receiver 13 = .ok (.iconst 1, 1) := by decide +kernel
theorem dX7_receiver_14 : decode cX7_receiver 14 = .ok (.invokevirtual 64, 3) := by decide +kernel
theorem dX7_receiver_17 : decode cX7_receiver 17 = .ok (.ireturn, 1) := by decide +kernel
theorem dX7_receiver_18 : decode cX7_receiver 18 = .ok (.aload_n 0, 1) := by decide +kernel
theorem dX7_receiver_19 : decode cX7_receiver 19 = .ok (.aload_n 0, 1) := by decide +kernel
theorem dX7_receiver_20 : decode cX7_receiver 20 = .ok (.getfield 19, 3) := by decide +kernel
theorem dX7_receiver_23 : decode cX7_receiver 23 = .ok (.getfield 155, 3) := by decide +kernel
theorem dX7_receiver_26 : decode cX7_receiver 26 = .ok (.iload_n 1, 1) := by decide +kernel
theorem dX7_receiver_27 : decode cX7_receiver 27 = .ok (.iload_n 2, 1) := by decide +kernel
theorem dX7_receiver_28 : decode cX7_receiver 28 = .ok (.invokestatic 158, 3) := by decide +kernel
theorem dX7_receiver_31 : decode cX7_receiver 31 = .ok (.iaload, 1) := by decide +kernel
theorem dX7_receiver_32 : decode cX7_receiver 32 = .ok (.invokevirtual 100, 3) := by decide +kernel
theorem dX7_receiver_35 : decode cX7_receiver 35 = .ok (.ireturn, 1) := by decide +kernel
theorem dX7_named_0 : decode cX7_named 0 = .ok (.aload_n 0, 1) := by decide +kernel
theorem dX7_named_1 : decode cX7_named 1 = .ok (.getfield 19, 3) := by decide +kernel
theorem dX7_named_4 : decode cX7_named 4 = .ok (.lload_n 1, 1) := by decide +kernel
theorem dX7_named_5 : decode cX7_named 5 = .ok (.invokevirtual 162, 3) := by decide +kernel
theorem dX7_named_8 : decode cX7_named 8 = .ok (.istore_n 3, 1) := by decide +kernel
theorem dX7_named_9 : decode cX7_named 9 = .ok (.iload_n 3, 1) := by decide +kernel
theorem dX7_named_10 : decode cX7_named 10 = .ok (.iconst (-1), 1) := by decide +kernel
theorem dX7_named_11 : decode cX7_named 11 = .ok (.if_icmp .eq 9, 3) := by decide +kernel
theorem dX7_named_14 : decode cX7_named 14 = .ok (.aload_n 0, 1) := by decide +kernel
theorem dX7_named_15 : decode cX7_named 15 = .ok (.iload_n 3, 1) := by decide +kernel
theorem dX7_named_16 : decode cX7_named 16 = .ok (.invokevirtual 100, 3) := by decide +kernel
theorem dX7_named_19 : decode cX7_named 19 = .ok (.ireturn, 1) := by decide +kernel
theorem dX7_named_20 : decode cX7_named 20 = .ok (.aload_n 0, 1) := by decide +kernel
theorem dX7_named_21 : decode cX7_named 21 = .ok (.getfield 19, 3) := by decide +kernel
theorem dX7_named_24 : decode cX7_named 24 = .ok (.lload_n 1, 1) := by decide +kernel
theorem dX7_named_25 : decode cX7_named 25 = .ok (.invokevirtual 166, 3) := by decide +kernel
theorem dX7_named_28 : decode cX7_named 28 = .ok (.istore 4, 2) := by decide +kernel
theorem dX7_named_30 : decode cX7_named 30 = .ok (.iload 4, 2) := by decide +kernel
theorem dX7_named_32 : decode cX7_named 32 = .ok (.iconst (-1), 1) := by decide +kernel
theorem dX7_named_33 : decode cX7_named 33 = .ok (.if_icmp .eq 13, 3) := by decide +kernel
theorem dX7_named_36 : decode cX7_named 36 = .ok (.aload_n 0, 1) := by decide +kernel
theorem dX7_named_37 : decode cX7_named 37 = .ok (.bipush 10, 2) := by decide +kernel
theorem dX7_named_39 : decode cX7_named 39 = .ok (.iload 4, 2) := by decide +kernel
theorem dX7_named_41 : decode cX7_named 41 = .ok (.iadd, 1) := by decide +kernel
theorem dX7_named_42 : decode cX7_named 42 = .ok (.invokevirtual 100, 3) := by decide +kernel
theorem dX7_named_45 : decode cX7_named 45 = .ok (.ireturn, 1) := by decide +kernel
theorem dX7_named_46 : decode cX7_named 46 = .ok (.aload_n 0, 1) := by decide +kernel
theorem dX7_named_47 : decode cX7_named 47 = .ok (.iconst 1, 1) := by decide +kernel
theorem dX7_named_48 : decode cX7_named 48 = .ok (.invokevirtual 64, 3) := by decide +kernel
theorem dX7_named_51 : decode cX7_named 51 = .ok (.ireturn, 1) := by decide +kernel
theorem dX7_way_0 : decode cX7_way 0 = .ok (.aload_n 0, 1) := by decide +kernel
theorem dX7_way_1 : decode cX7_way 1 = .ok (.iload_n 1, 1) := by decide +kernel
theorem dX7_way_2 : decode cX7_way 2 = .ok (.iload_n 2, 1) := by decide +kernel
theorem dX7_way_3 : decode cX7_way 3 = .ok (.iload_n 3, 1) := by decide +kernel
theorem dX7_way_4 : decode cX7_way 4 = .ok (.invokevirtual 169, 3) := by decide +kernel
theorem dX7_way_7 : decode cX7_way 7 = .ok (.ifCond .ne 9, 3) := by decide +kernel
theorem dX7_way_10 : decode cX7_way 10 = .ok (.aload_n 0, 1) := by decide +kernel
theorem dX7_way_11 : decode cX7_way 11 = .ok (.iconst 1, 1) := by decide +kernel
theorem dX7_way_12 : decode cX7_way 12 = .ok (.invokevirtual 64, 3) := by decide +kernel
theorem dX7_way_15 : decode cX7_way 15 = .ok (.ireturn, 1) := by decide +kernel
theorem dX7_way_16 : decode cX7_way 16 = .ok (.aload_n 0, 1) := by decide +kernel
theorem dX7_way_17 : decode cX7_way 17 = .ok (.aload_n 0, 1) := by decide +kernel
theorem dX7_way_18 : decode cX7_way 18 = .ok (.getfield 19, 3) := by decide +kernel
theorem dX7_way_21 : decode cX7_way 21 = .ok (.getfield 81, 3) := by decide +kernel
theorem dX7_way_24 : decode cX7_way 24 = .ok (.iload_n 1, 1) := by decide +kernel
theorem dX7_way_25 : decode cX7_way 25 = .ok (.iload_n 2, 1) := by decide +kernel
theorem dX7_way_26 : decode cX7_way 26 = .ok (.invokestatic 158, 3) := by decide +kernel
theorem dX7_way_29 : decode cX7_way 29 = .ok (.iload_n 3, 1) := by decide +kernel
theorem dX7_way_30 : decode cX7_way 30 = .ok (.invokevirtual 173, 3) := by decide +kernel
theorem dX7_way_33 : decode cX7_way 33 = .ok (.invokevirtual 100, 3) := by decide +kernel
theorem dX7_way_36 : decode cX7_way 36 = .ok (.ireturn, 1) := by decide +kernel
theorem dX7_waits_0 : decode cX7_waits 0 = .ok (.aload_n 0, 1) := by decide +kernel
theorem dX7_waits_1 : decode cX7_waits 1 = .ok (.getfield 19, 3) := by decide +kernel
theorem dX7_waits_4 : decode cX7_waits 4 = .ok (.iload_n 1, 1) := by decide +kernel
theorem dX7_waits_5 : decode cX7_waits 5 = .ok (.invokevirtual 136, 3) := by decide +kernel
theorem dX7_waits_8 : decode cX7_waits 8 = .ok (.ifCond .ne 9, 3) := by decide +kernel
theorem dX7_waits_11 : decode cX7_waits 11 = .ok (.aload_n 0, 1) := by decide +kernel
theorem dX7_waits_12 : decode cX7_waits 12 = .ok (.iconst 1, 1) := by decide +kernel
theorem dX7_waits_13 : decode cX7_waits 13 = .ok (.invokevirtual 64, 3) := by decide +kernel
theorem dX7_waits_16 : decode cX7_waits 16 = .ok (.ireturn, 1) := by decide +kernel
theorem dX7_waits_17 : decode cX7_waits 17 = .ok (.iload_n 2, 1) := by decide +kernel
theorem dX7_waits_18 : decode cX7_waits 18 = .ok (.tableswitch 104 0 4 #[34, 48, 62, 76, 90], 34) := by decide +kernel
theorem dX7_waits_52 : decode cX7_waits 52 = .ok (.aload_n 0, 1) := by decide +kernel
theorem dX7_waits_53 : decode cX7_waits 53 = .ok (.aload_n 0, 1) := by decide +kernel
theorem dX7_waits_54 : decode cX7_waits 54 = .ok (.getfield 33, 3) := by decide +kernel
theorem dX7_waits_57 : decode cX7_waits 57 = .ok (.getfield 176, 3) := by decide +kernel
theorem dX7_waits_60 : decode cX7_waits 60 = .ok (.iload_n 1, 1) := by decide +kernel
theorem dX7_waits_61 : decode cX7_waits 61 = .ok (.iaload, 1) := by decide +kernel
theorem dX7_waits_62 : decode cX7_waits 62 = .ok (.invokevirtual 100, 3) := by decide +kernel
theorem dX7_waits_65 : decode cX7_waits 65 = .ok (.ireturn, 1) := by decide +kernel
theorem dX7_waits_66 : decode cX7_waits 66 = .ok (.aload_n 0, 1) := by decide +kernel
theorem dX7_waits_67 : decode cX7_waits 67 = .ok (.aload_n 0, 1) := by decide +kernel
theorem dX7_waits_68 : decode cX7_waits 68 = .ok (.getfield 33, 3) := by decide +kernel
theorem dX7_waits_71 : decode cX7_waits 71 = .ok (.getfield 179, 3) := by decide +kernel
theorem dX7_waits_74 : decode cX7_waits 74 = .ok (.iload_n 1, 1) := by decide +kernel
theorem dX7_waits_75 : decode cX7_waits 75 = .ok (.iaload, 1) := by decide +kernel
theorem dX7_waits_76 : decode cX7_waits 76 = .ok (.invokevirtual 100, 3) := by decide +kernel
theorem dX7_waits_79 : decode cX7_waits 79 = .ok (.ireturn, 1) := by decide +kernel
theorem dX7_waits_80 : decode cX7_waits 80 = .ok (.aload_n 0, 1) := by decide +kernel
theorem dX7_waits_81 : decode cX7_waits 81 = .ok (.aload_n 0, 1) := by decide +kernel
theorem dX7_waits_82 : decode cX7_waits 82 = .ok (.getfield 33, 3) := by decide +kernel
theorem dX7_waits_85 : decode cX7_waits 85 = .ok (.getfield 182, 3) := by decide +kernel
theorem dX7_waits_88 : decode cX7_waits 88 = .ok (.iload_n 1, 1) := by decide +kernel
theorem dX7_waits_89 : decode cX7_waits 89 = .ok (.iaload, 1) := by decide +kernel
theorem dX7_waits_90 : decode cX7_waits 90 = .ok (.invokevirtual 100, 3) := by decide +kernel
theorem dX7_waits_93 : decode cX7_waits 93 = .ok (.ireturn, 1) := by decide +kernel
theorem dX7_waits_94 : decode cX7_waits 94 = .ok (.aload_n 0, 1) := by decide +kernel
theorem dX7_waits_95 : decode cX7_waits 95 = .ok (.aload_n 0, 1) := by decide +kernel
theorem dX7_waits_96 : decode cX7_waits 96 = .ok (.getfield 33, 3) := by decide +kernel
theorem dX7_waits_99 : decode cX7_waits 99 = .ok (.getfield 185, 3) := by decide +kernel
theorem dX7_waits_102 : decode cX7_waits 102 = .ok (.iload_n 1, 1) := by decide +kernel
theorem dX7_waits_103 : decode cX7_waits 103 = .ok (.iaload, 1) := by decide +kernel
theorem dX7_waits_104 : decode cX7_waits 104 = .ok (.invokevirtual 100, 3) := by decide +kernel
theorem dX7_waits_107 : decode cX7_waits 107 = .ok (.ireturn, 1) := by decide +kernel
theorem dX7_waits_108 : decode cX7_waits 108 = .ok (.aload_n 0, 1) := by decide +kernel
theorem dX7_waits_109 : decode cX7_waits 109 = .ok (.aload_n 0, 1) := by decide +kernel
theorem dX7_waits_110 : decode cX7_waits 110 = .ok (.getfield 33, 3) := by decide +kernel
theorem dX7_waits_113 : decode cX7_waits 113 = .ok (.getfield 188, 3) := by decide +kernel
theorem dX7_waits_116 : decode cX7_waits 116 = .ok (.iload_n 1, 1) := by decide +kernel
theorem dX7_waits_117 : decode cX7_waits 117 = .ok (.iaload, 1) := by decide +kernel
theorem dX7_waits_118 : decode cX7_waits 118 = .ok (.invokevirtual 100, 3) := by decide +kernel
theorem dX7_waits_121 : decode cX7_waits 121 = .ok (.ireturn, 1) := by decide +kernel
theorem dX7_waits_122 : decode cX7_waits 122 = .ok (.aload_n 0, 1) := by decide +kernel
theorem dX7_waits_123 : decode cX7_waits 123 = .ok (.iconst 1, 1) := by decide +kernel
theorem dX7_waits_124 : decode cX7_waits 124 = .ok (.invokevirtual 64, 3) := by decide +kernel
theorem dX7_waits_127 : decode cX7_waits 127 = .ok (.ireturn, 1) := by decide +kernel
theorem dX7_credit_0 : decode cX7_credit 0 = .ok (.iload_n 1, 1) := by decide +kernel
theorem dX7_credit_1 : decode cX7_credit 1 = .ok (.invokestatic 191, 3) := by decide +kernel
theorem dX7_credit_4 : decode cX7_credit 4 = .ok (.ifCond .eq 14, 3) := by decide +kernel
theorem dX7_credit_7 : decode cX7_credit 7 = .ok (.aload_n 0, 1) := by decide +kernel
theorem dX7_credit_8 : decode cX7_credit 8 = .ok (.getfield 19, 3) := by decide +kernel
theorem dX7_credit_11 : decode cX7_credit 11 = .ok (.iload_n 2, 1) := by decide +kernel
theorem dX7_credit_12 : decode cX7_credit 12 = .ok (.invokevirtual 136, 3) := by decide +kernel
theorem dX7_credit_15 : decode cX7_credit 15 = .ok (.ifCond .ne 9, 3) := by decide +kernel
theorem dX7_credit_18 : decode cX7_credit 18 = .ok (.aload_n 0, 1) := by decide +kernel
theorem dX7_credit_19 : decode cX7_credit 19 = .ok (.iconst 1, 1) := by decide +kernel
theorem dX7_credit_20 : decode cX7_credit 20 = .ok (.invokevirtual 64, 3) := by decide +kernel
theorem dX7_credit_23 : decode cX7_credit 23 = .ok (.ireturn, 1) := by decide +kernel
theorem dX7_credit_24 : decode cX7_credit 24 = .ok (.aload_n 0, 1) := by decide +kernel
theorem dX7_credit_25 : decode cX7_credit 25 = .ok (.aload_n 0, 1) := by decide +kernel
theorem dX7_credit_26 : decode cX7_credit 26 = .ok (.getfield 33, 3) := by decide +kernel
theorem dX7_credit_29 : decode cX7_credit 29 = .ok (.getfield 194, 3) := by decide +kernel
theorem dX7_credit_32 : decode cX7_credit 32 = .ok (.iload_n 1, 1) := by decide +kernel
theorem dX7_credit_33 : decode cX7_credit 33 = .ok (.bipush 8, 2) := by decide +kernel
theorem dX7_credit_35 : decode cX7_credit 35 = .ok (.imul, 1) := by decide +kernel
theorem dX7_credit_36 : decode cX7_credit 36 = .ok (.iload_n 2, 1) := by decide +kernel
theorem dX7_credit_37 : decode cX7_credit 37 = .ok (.iadd, 1) := by decide +kernel
theorem dX7_credit_38 : decode cX7_credit 38 = .ok (.iaload, 1) := by decide +kernel
theorem dX7_credit_39 : decode cX7_credit 39 = .ok (.invokevirtual 100, 3) := by decide +kernel
theorem dX7_credit_42 : decode cX7_credit 42 = .ok (.ireturn, 1) := by decide +kernel
theorem dX7_port_0 : decode cX7_port 0 = .ok (.iload_n 1, 1) := by decide +kernel
theorem dX7_port_1 : decode cX7_port 1 = .ok (.invokestatic 191, 3) := by decide +kernel
theorem dX7_port_4 : decode cX7_port 4 = .ok (.ifCond .eq 14, 3) := by decide +kernel
theorem dX7_port_7 : decode cX7_port 7 = .ok (.aload_n 0, 1) := by decide +kernel
theorem dX7_port_8 : decode cX7_port 8 = .ok (.getfield 19, 3) := by decide +kernel
theorem dX7_port_11 : decode cX7_port 11 = .ok (.iload_n 2, 1) := by decide +kernel
theorem dX7_port_12 : decode cX7_port 12 = .ok (.invokevirtual 197, 3) := by decide +kernel
theorem dX7_port_15 : decode cX7_port 15 = .ok (.ifCond .ne 9, 3) := by decide +kernel
theorem dX7_port_18 : decode cX7_port 18 = .ok (.aload_n 0, 1) := by decide +kernel
theorem dX7_port_19 : decode cX7_port 19 = .ok (.iconst 1, 1) := by decide +kernel
theorem dX7_port_20 : decode cX7_port 20 = .ok (.invokevirtual 64, 3) := by decide +kernel
theorem dX7_port_23 : decode cX7_port 23 = .ok (.ireturn, 1) := by decide +kernel
theorem dX7_port_24 : decode cX7_port 24 = .ok (.iload_n 1, 1) := by decide +kernel
theorem dX7_port_25 : decode cX7_port 25 = .ok (.bipush 16, 2) := by decide +kernel
theorem dX7_port_27 : decode cX7_port 27 = .ok (.imul, 1) := by decide +kernel
theorem dX7_port_28 : decode cX7_port 28 = .ok (.iload_n 2, 1) := by decide +kernel
theorem dX7_port_29 : decode cX7_port 29 = .ok (.iadd, 1) := by decide +kernel
theorem dX7_port_30 : decode cX7_port 30 = .ok (.istore 4, 2) := by decide +kernel
theorem dX7_port_32 : decode cX7_port 32 = .ok (.iload_n 3, 1) := by decide +kernel
theorem dX7_port_33 : decode cX7_port 33 = .ok (.tableswitch 102 0 3 #[31, 49, 66, 84], 31) := by decide +kernel
theorem dX7_port_64 : decode cX7_port 64 = .ok (.aload_n 0, 1) := by decide +kernel
theorem dX7_port_65 : decode cX7_port 65 = .ok (.aload_n 0, 1) := by decide +kernel
theorem dX7_port_66 : decode cX7_port 66 = .ok (.getfield 33, 3) := by decide +kernel
theorem dX7_port_69 : decode cX7_port 69 = .ok (.getfield 200, 3) := by decide +kernel
theorem dX7_port_72 : decode cX7_port 72 = .ok (.getfield 204, 3) := by decide +kernel
theorem dX7_port_75 : decode cX7_port 75 = .ok (.iload 4, 2) := by decide +kernel
theorem dX7_port_77 : decode cX7_port 77 = .ok (.iaload, 1) := by decide +kernel
theorem dX7_port_78 : decode cX7_port 78 = .ok (.invokevirtual 100, 3) := by decide +kernel
theorem dX7_port_81 : decode cX7_port 81 = .ok (.ireturn, 1) := by decide +kernel
theorem dX7_port_82 : decode cX7_port 82 = .ok (.aload_n 0, 1) := by decide +kernel
theorem dX7_port_83 : decode cX7_port 83 = .ok (.aload_n 0, 1) := by decide +kernel
theorem dX7_port_84 : decode cX7_port 84 = .ok (.getfield 33, 3) := by decide +kernel
theorem dX7_port_87 : decode cX7_port 87 = .ok (.getfield 200, 3) := by decide +kernel
theorem dX7_port_90 : decode cX7_port 90 = .ok (.iload 4, 2) := by decide +kernel
theorem dX7_port_92 : decode cX7_port 92 = .ok (.invokevirtual 209, 3) := by decide +kernel
theorem dX7_port_95 : decode cX7_port 95 = .ok (.invokevirtual 100, 3) := by decide +kernel
theorem dX7_port_98 : decode cX7_port 98 = .ok (.ireturn, 1) := by decide +kernel
theorem dX7_port_99 : decode cX7_port 99 = .ok (.aload_n 0, 1) := by decide +kernel
theorem dX7_port_100 : decode cX7_port 100 = .ok (.aload_n 0, 1) := by decide +kernel
theorem dX7_port_101 : decode cX7_port 101 = .ok (.getfield 33, 3) := by decide +kernel
theorem dX7_port_104 : decode cX7_port 104 = .ok (.getfield 200, 3) := by decide +kernel
theorem dX7_port_107 : decode cX7_port 107 = .ok (.getfield 212, 3) := by decide +kernel
theorem dX7_port_110 : decode cX7_port 110 = .ok (.iload 4, 2) := by decide +kernel
theorem dX7_port_112 : decode cX7_port 112 = .ok (.iaload, 1) := by decide +kernel
theorem dX7_port_113 : decode cX7_port 113 = .ok (.invokevirtual 100, 3) := by decide +kernel
theorem dX7_port_116 : decode cX7_port 116 = .ok (.ireturn, 1) := by decide +kernel
theorem dX7_port_117 : decode cX7_port 117 = .ok (.aload_n 0, 1) := by decide +kernel
theorem dX7_port_118 : decode cX7_port 118 = .ok (.aload_n 0, 1) := by decide +kernel
theorem dX7_port_119 : decode cX7_port 119 = .ok (.getfield 33, 3) := by decide +kernel
theorem dX7_port_122 : decode cX7_port 122 = .ok (.getfield 200, 3) := by decide +kernel
theorem dX7_port_125 : decode cX7_port 125 = .ok (.getfield 215, 3) := by decide +kernel
theorem dX7_port_128 : decode cX7_port 128 = .ok (.iload 4, 2) := by decide +kernel
theorem dX7_port_130 : decode cX7_port 130 = .ok (.iaload, 1) := by decide +kernel
theorem dX7_port_131 : decode cX7_port 131 = .ok (.invokevirtual 100, 3) := by decide +kernel
theorem dX7_port_134 : decode cX7_port 134 = .ok (.ireturn, 1) := by decide +kernel
theorem dX7_port_135 : decode cX7_port 135 = .ok (.aload_n 0, 1) := by decide +kernel
theorem dX7_port_136 : decode cX7_port 136 = .ok (.iconst 1, 1) := by decide +kernel
theorem dX7_port_137 : decode cX7_port 137 = .ok (.invokevirtual 64, 3) := by decide +kernel
theorem dX7_port_140 : decode cX7_port 140 = .ok (.ireturn, 1) := by decide +kernel
theorem dX7_frame_0 : decode cX7_frame 0 = .ok (.iload_n 1, 1) := by decide +kernel
theorem dX7_frame_1 : decode cX7_frame 1 = .ok (.invokestatic 191, 3) := by decide +kernel
theorem dX7_frame_4 : decode cX7_frame 4 = .ok (.ifCond .eq 14, 3) := by decide +kernel
theorem dX7_frame_7 : decode cX7_frame 7 = .ok (.aload_n 0, 1) := by decide +kernel
theorem dX7_frame_8 : decode cX7_frame 8 = .ok (.getfield 19, 3) := by decide +kernel
theorem dX7_frame_11 : decode cX7_frame 11 = .ok (.iload_n 2, 1) := by decide +kernel
theorem dX7_frame_12 : decode cX7_frame 12 = .ok (.invokevirtual 197, 3) := by decide +kernel
theorem dX7_frame_15 : decode cX7_frame 15 = .ok (.ifCond .ne 9, 3) := by decide +kernel
theorem dX7_frame_18 : decode cX7_frame 18 = .ok (.aload_n 0, 1) := by decide +kernel
theorem dX7_frame_19 : decode cX7_frame 19 = .ok (.iconst 1, 1) := by decide +kernel
theorem dX7_frame_20 : decode cX7_frame 20 = .ok (.invokevirtual 64, 3) := by decide +kernel
theorem dX7_frame_23 : decode cX7_frame 23 = .ok (.ireturn, 1) := by decide +kernel
theorem dX7_frame_24 : decode cX7_frame 24 = .ok (.iload_n 1, 1) := by decide +kernel
theorem dX7_frame_25 : decode cX7_frame 25 = .ok (.bipush 16, 2) := by decide +kernel
theorem dX7_frame_27 : decode cX7_frame 27 = .ok (.imul, 1) := by decide +kernel
theorem dX7_frame_28 : decode cX7_frame 28 = .ok (.iload_n 2, 1) := by decide +kernel
theorem dX7_frame_29 : decode cX7_frame 29 = .ok (.iadd, 1) := by decide +kernel
theorem dX7_frame_30 : decode cX7_frame 30 = .ok (.istore 5, 2) := by decide +kernel
theorem dX7_frame_32 : decode cX7_frame 32 = .ok (.iload_n 3, 1) := by decide +kernel
theorem dX7_frame_33 : decode cX7_frame 33 = .ok (.ifCond .lt 20, 3) := by decide +kernel
theorem dX7_frame_36 : decode cX7_frame 36 = .ok (.iload_n 3, 1) := by decide +kernel
theorem dX7_frame_37 : decode cX7_frame 37 = .ok (.aload_n 0, 1) := by decide +kernel
theorem dX7_frame_38 : decode cX7_frame 38 = .ok (.getfield 33, 3) := by decide +kernel
theorem dX7_frame_41 : decode cX7_frame 41 = .ok (.getfield 200, 3) := by decide +kernel
theorem dX7_frame_44 : decode cX7_frame 44 = .ok (.getfield 204, 3) := by decide +kernel
theorem dX7_frame_47 : decode cX7_frame 47 = .ok (.iload 5, 2) := by decide +kernel
theorem dX7_frame_49 : decode cX7_frame 49 = .ok (.iaload, 1) := by decide +kernel
theorem dX7_frame_50 : decode cX7_frame 50 = .ok (.if_icmp .lt 9, 3) := by decide +kernel
theorem dX7_frame_53 : decode cX7_frame 53 = .ok (.aload_n 0, 1) := by decide +kernel
theorem dX7_frame_54 : decode cX7_frame 54 = .ok (.iconst 1, 1) := by decide +kernel
theorem dX7_frame_55 : decode cX7_frame 55 = .ok (.invokevirtual 64, 3) := by decide +kernel
theorem dX7_frame_58 : decode cX7_frame 58 = .ok (.ireturn, 1) := by decide +kernel
theorem dX7_frame_59 : decode cX7_frame 59 = .ok (.aload_n 0, 1) := by decide +kernel
theorem dX7_frame_60 : decode cX7_frame 60 = .ok (.getfield 33, 3) := by decide +kernel
theorem dX7_frame_63 : decode cX7_frame 63 = .ok (.getfield 200, 3) := by decide +kernel
theorem dX7_frame_66 : decode cX7_frame 66 = .ok (.iload 5, 2) := by decide +kernel
theorem dX7_frame_68 : decode cX7_frame 68 = .ok (.iload_n 3, 1) := by decide +kernel
theorem dX7_frame_69 : decode cX7_frame 69 = .ok (.invokevirtual 218, 3) := by decide +kernel
theorem dX7_frame_72 : decode cX7_frame 72 = .ok (.istore 6, 2) := by decide +kernel
theorem dX7_frame_74 : decode cX7_frame 74 = .ok (.iload 4, 2) := by decide +kernel
theorem dX7_frame_76 : decode cX7_frame 76 = .ok (.tableswitch 82 0 2 #[28, 46, 64], 28) := by decide +kernel
theorem dX7_frame_104 : decode cX7_frame 104 = .ok (.aload_n 0, 1) := by decide +kernel
theorem dX7_frame_105 : decode cX7_frame 105 = .ok (.aload_n 0, 1) := by decide +kernel
theorem dX7_frame_106 : decode cX7_frame 106 = .ok (.getfield 33, 3) := by decide +kernel
theorem dX7_frame_109 : decode cX7_frame 109 = .ok (.getfield 200, 3) := by decide +kernel
theorem dX7_frame_112 : decode cX7_frame 112 = .ok (.getfield 221, 3) := by decide +kernel
theorem dX7_frame_115 : decode cX7_frame 115 = .ok (.iload 6, 2) := by decide +kernel
theorem dX7_frame_117 : decode cX7_frame 117 = .ok (.iaload, 1) := by decide +kernel
theorem dX7_frame_118 : decode cX7_frame 118 = .ok (.invokevirtual 100, 3) := by decide +kernel
theorem dX7_frame_121 : decode cX7_frame 121 = .ok (.ireturn, 1) := by decide +kernel
theorem dX7_frame_122 : decode cX7_frame 122 = .ok (.aload_n 0, 1) := by decide +kernel
theorem dX7_frame_123 : decode cX7_frame 123 = .ok (.aload_n 0, 1) := by decide +kernel
theorem dX7_frame_124 : decode cX7_frame 124 = .ok (.getfield 33, 3) := by decide +kernel
theorem dX7_frame_127 : decode cX7_frame 127 = .ok (.getfield 200, 3) := by decide +kernel
theorem dX7_frame_130 : decode cX7_frame 130 = .ok (.getfield 224, 3) := by decide +kernel
theorem dX7_frame_133 : decode cX7_frame 133 = .ok (.iload 6, 2) := by decide +kernel
theorem dX7_frame_135 : decode cX7_frame 135 = .ok (.iaload, 1) := by decide +kernel
theorem dX7_frame_136 : decode cX7_frame 136 = .ok (.invokevirtual 100, 3) := by decide +kernel
theorem dX7_frame_139 : decode cX7_frame 139 = .ok (.ireturn, 1) := by decide +kernel
theorem dX7_frame_140 : decode cX7_frame 140 = .ok (.aload_n 0, 1) := by decide +kernel
theorem dX7_frame_141 : decode cX7_frame 141 = .ok (.aload_n 0, 1) := by decide +kernel
theorem dX7_frame_142 : decode cX7_frame 142 = .ok (.getfield 33, 3) := by decide +kernel
theorem dX7_frame_145 : decode cX7_frame 145 = .ok (.getfield 200, 3) := by decide +kernel
theorem dX7_frame_148 : decode cX7_frame 148 = .ok (.getfield 225, 3) := by decide +kernel
theorem dX7_frame_151 : decode cX7_frame 151 = .ok (.iload 6, 2) := by decide +kernel
theorem dX7_frame_153 : decode cX7_frame 153 = .ok (.iaload, 1) := by decide +kernel
theorem dX7_frame_154 : decode cX7_frame 154 = .ok (.invokevirtual 100, 3) := by decide +kernel
theorem dX7_frame_157 : decode cX7_frame 157 = .ok (.ireturn, 1) := by decide +kernel
theorem dX7_frame_158 : decode cX7_frame 158 = .ok (.aload_n 0, 1) := by decide +kernel
theorem dX7_frame_159 : decode cX7_frame 159 = .ok (.iconst 1, 1) := by decide +kernel
theorem dX7_frame_160 : decode cX7_frame 160 = .ok (.invokevirtual 64, 3) := by decide +kernel
theorem dX7_frame_163 : decode cX7_frame 163 = .ok (.ireturn, 1) := by decide +kernel
theorem dX7_lost_0 : decode cX7_lost 0 = .ok (.aload_n 0, 1) := by decide +kernel
theorem dX7_lost_1 : decode cX7_lost 1 = .ok (.invokevirtual 103, 3) := by decide +kernel
theorem dX7_lost_4 : decode cX7_lost 4 = .ok (.ifCond .ne 17, 3) := by decide +kernel
theorem dX7_lost_7 : decode cX7_lost 7 = .ok (.iload_n 1, 1) := by decide +kernel
theorem dX7_lost_8 : decode cX7_lost 8 = .ok (.invokestatic 191, 3) := by decide +kernel
theorem dX7_lost_11 : decode cX7_lost 11 = .ok (.ifCond .eq 10, 3) := by decide +kernel
theorem dX7_lost_14 : decode cX7_lost 14 = .ok (.iload_n 2, 1) := by decide +kernel
theorem dX7_lost_15 : decode cX7_lost 15 = .ok (.invokestatic 226, 3) := by decide +kernel
theorem dX7_lost_18 : decode cX7_lost 18 = .ok (.ifCond .ne 9, 3) := by decide +kernel
theorem dX7_lost_21 : decode cX7_lost 21 = .ok (.aload_n 0, 1) := by decide +kernel
theorem dX7_lost_22 : decode cX7_lost 22 = .ok (.iconst 1, 1) := by decide +kernel
theorem dX7_lost_23 : decode cX7_lost 23 = .ok (.invokevirtual 64, 3) := by decide +kernel
theorem dX7_lost_26 : decode cX7_lost 26 = .ok (.ireturn, 1) := by decide +kernel
theorem dX7_lost_27 : decode cX7_lost 27 = .ok (.aload_n 0, 1) := by decide +kernel
theorem dX7_lost_28 : decode cX7_lost 28 = .ok (.aload_n 0, 1) := by decide +kernel
theorem dX7_lost_29 : decode cX7_lost 29 = .ok (.getfield 33, 3) := by decide +kernel
theorem dX7_lost_32 : decode cX7_lost 32 = .ok (.getfield 229, 3) := by decide +kernel
theorem dX7_lost_35 : decode cX7_lost 35 = .ok (.iload_n 1, 1) := by decide +kernel
theorem dX7_lost_36 : decode cX7_lost 36 = .ok (.iconst 3, 1) := by decide +kernel
theorem dX7_lost_37 : decode cX7_lost 37 = .ok (.imul, 1) := by decide +kernel
theorem dX7_lost_38 : decode cX7_lost 38 = .ok (.iload_n 2, 1) := by decide +kernel
theorem dX7_lost_39 : decode cX7_lost 39 = .ok (.iadd, 1) := by decide +kernel
theorem dX7_lost_40 : decode cX7_lost 40 = .ok (.iaload, 1) := by decide +kernel
theorem dX7_lost_41 : decode cX7_lost 41 = .ok (.invokevirtual 100, 3) := by decide +kernel
theorem dX7_lost_44 : decode cX7_lost 44 = .ok (.ireturn, 1) := by decide +kernel
theorem dX7_policed_0 : decode cX7_policed 0 = .ok (.iload_n 1, 1) := by decide +kernel
theorem dX7_policed_1 : decode cX7_policed 1 = .ok (.invokestatic 191, 3) := by decide +kernel
theorem dX7_policed_4 : decode cX7_policed 4 = .ok (.ifCond .eq 14, 3) := by decide +kernel
theorem dX7_policed_7 : decode cX7_policed 7 = .ok (.aload_n 0, 1) := by decide +kernel
theorem dX7_policed_8 : decode cX7_policed 8 = .ok (.getfield 19, 3) := by decide +kernel
theorem dX7_policed_11 : decode cX7_policed 11 = .ok (.iload_n 2, 1) := by decide +kernel
theorem dX7_policed_12 : decode cX7_policed 12 = .ok (.invokevirtual 136, 3) := by decide +kernel
theorem dX7_policed_15 : decode cX7_policed 15 = .ok (.ifCond .ne 9, 3) := by decide +kernel
theorem dX7_policed_18 : decode cX7_policed 18 = .ok (.aload_n 0, 1) := by decide +kernel
theorem dX7_policed_19 : decode cX7_policed 19 = .ok (.iconst 1, 1) := by decide +kernel
theorem dX7_policed_20 : decode cX7_policed 20 = .ok (.invokevirtual 64, 3) := by decide +kernel
theorem dX7_policed_23 : decode cX7_policed 23 = .ok (.ireturn, 1) := by decide +kernel
theorem dX7_policed_24 : decode cX7_policed 24 = .ok (.aload_n 0, 1) := by decide +kernel
theorem dX7_policed_25 : decode cX7_policed 25 = .ok (.aload_n 0, 1) := by decide +kernel
theorem dX7_policed_26 : decode cX7_policed 26 = .ok (.getfield 33, 3) := by decide +kernel
theorem dX7_policed_29 : decode cX7_policed 29 = .ok (.getfield 232, 3) := by decide +kernel
theorem dX7_policed_32 : decode cX7_policed 32 = .ok (.iload_n 1, 1) := by decide +kernel
theorem dX7_policed_33 : decode cX7_policed 33 = .ok (.bipush 8, 2) := by decide +kernel
theorem dX7_policed_35 : decode cX7_policed 35 = .ok (.imul, 1) := by decide +kernel
theorem dX7_policed_36 : decode cX7_policed 36 = .ok (.iload_n 2, 1) := by decide +kernel
theorem dX7_policed_37 : decode cX7_policed 37 = .ok (.iadd, 1) := by decide +kernel
theorem dX7_policed_38 : decode cX7_policed 38 = .ok (.iaload, 1) := by decide +kernel
theorem dX7_policed_39 : decode cX7_policed 39 = .ok (.invokevirtual 100, 3) := by decide +kernel
theorem dX7_policed_42 : decode cX7_policed 42 = .ok (.ireturn, 1) := by decide +kernel
theorem dX7_heard_0 : decode cX7_heard 0 = .ok (.aload_n 0, 1) := by decide +kernel
theorem dX7_heard_1 : decode cX7_heard 1 = .ok (.getfield 19, 3) := by decide +kernel
theorem dX7_heard_4 : decode cX7_heard 4 = .ok (.iload_n 1, 1) := by decide +kernel
theorem dX7_heard_5 : decode cX7_heard 5 = .ok (.iload_n 2, 1) := by decide +kernel
theorem dX7_heard_6 : decode cX7_heard 6 = .ok (.invokevirtual 151, 3) := by decide +kernel
theorem dX7_heard_9 : decode cX7_heard 9 = .ok (.ifCond .eq 10, 3) := by decide +kernel
theorem dX7_heard_12 : decode cX7_heard 12 = .ok (.iload_n 3, 1) := by decide +kernel
theorem dX7_heard_13 : decode cX7_heard 13 = .ok (.invokestatic 235, 3) := by decide +kernel
theorem dX7_heard_16 : decode cX7_heard 16 = .ok (.ifCond .ne 9, 3) := by decide +kernel
theorem dX7_heard_19 : decode cX7_heard 19 = .ok (.aload_n 0, 1) := by decide +kernel
theorem dX7_heard_20 : decode cX7_heard 20 = .ok (.iconst 1, 1) := by decide +kernel
theorem dX7_heard_21 : decode cX7_heard 21 = .ok (.invokevirtual 64, 3) := by decide +kernel
theorem dX7_heard_24 : decode cX7_heard 24 = .ok (.ireturn, 1) := by decide +kernel
theorem dX7_heard_25 : decode cX7_heard 25 = .ok (.aload_n 0, 1) := by decide +kernel
theorem dX7_heard_26 : decode cX7_heard 26 = .ok (.aload_n 0, 1) := by decide +kernel
theorem dX7_heard_27 : decode cX7_heard 27 = .ok (.getfield 33, 3) := by decide +kernel
theorem dX7_heard_30 : decode cX7_heard 30 = .ok (.getfield 240, 3) := by decide +kernel
theorem dX7_heard_33 : decode cX7_heard 33 = .ok (.iload_n 1, 1) := by decide +kernel
theorem dX7_heard_34 : decode cX7_heard 34 = .ok (.iload_n 2, 1) := by decide +kernel
theorem dX7_heard_35 : decode cX7_heard 35 = .ok (.invokestatic 158, 3) := by decide +kernel
theorem dX7_heard_38 : decode cX7_heard 38 = .ok (.iload_n 3, 1) := by decide +kernel
theorem dX7_heard_39 : decode cX7_heard 39 = .ok (.invokevirtual 244, 3) := by decide +kernel
theorem dX7_heard_42 : decode cX7_heard 42 = .ok (.invokevirtual 100, 3) := by decide +kernel
theorem dX7_heard_45 : decode cX7_heard 45 = .ok (.ireturn, 1) := by decide +kernel
theorem dX7_seen_0 : decode cX7_seen 0 = .ok (.aload_n 0, 1) := by decide +kernel
theorem dX7_seen_1 : decode cX7_seen 1 = .ok (.getfield 19, 3) := by decide +kernel
theorem dX7_seen_4 : decode cX7_seen 4 = .ok (.iload_n 1, 1) := by decide +kernel
theorem dX7_seen_5 : decode cX7_seen 5 = .ok (.iload_n 2, 1) := by decide +kernel
theorem dX7_seen_6 : decode cX7_seen 6 = .ok (.invokevirtual 151, 3) := by decide +kernel
theorem dX7_seen_9 : decode cX7_seen 9 = .ok (.ifCond .eq 10, 3) := by decide +kernel
theorem dX7_seen_12 : decode cX7_seen 12 = .ok (.iload_n 3, 1) := by decide +kernel
theorem dX7_seen_13 : decode cX7_seen 13 = .ok (.invokestatic 191, 3) := by decide +kernel
theorem dX7_seen_16 : decode cX7_seen 16 = .ok (.ifCond .ne 9, 3) := by decide +kernel
theorem dX7_seen_19 : decode cX7_seen 19 = .ok (.aload_n 0, 1) := by decide +kernel
theorem dX7_seen_20 : decode cX7_seen 20 = .ok (.iconst 1, 1) := by decide +kernel
theorem dX7_seen_21 : decode cX7_seen 21 = .ok (.invokevirtual 64, 3) := by decide +kernel
theorem dX7_seen_24 : decode cX7_seen 24 = .ok (.ireturn, 1) := by decide +kernel
theorem dX7_seen_25 : decode cX7_seen 25 = .ok (.aload_n 0, 1) := by decide +kernel
theorem dX7_seen_26 : decode cX7_seen 26 = .ok (.aload_n 0, 1) := by decide +kernel
theorem dX7_seen_27 : decode cX7_seen 27 = .ok (.getfield 33, 3) := by decide +kernel
theorem dX7_seen_30 : decode cX7_seen 30 = .ok (.getfield 240, 3) := by decide +kernel
theorem dX7_seen_33 : decode cX7_seen 33 = .ok (.getfield 247, 3) := by decide +kernel
theorem dX7_seen_36 : decode cX7_seen 36 = .ok (.iload_n 1, 1) := by decide +kernel
theorem dX7_seen_37 : decode cX7_seen 37 = .ok (.iload_n 2, 1) := by decide +kernel
theorem dX7_seen_38 : decode cX7_seen 38 = .ok (.invokestatic 158, 3) := by decide +kernel
theorem dX7_seen_41 : decode cX7_seen 41 = .ok (.iconst 2, 1) := by decide +kernel
theorem dX7_seen_42 : decode cX7_seen 42 = .ok (.imul, 1) := by decide +kernel
theorem dX7_seen_43 : decode cX7_seen 43 = .ok (.iload_n 3, 1) := by decide +kernel
theorem dX7_seen_44 : decode cX7_seen 44 = .ok (.iadd, 1) := by decide +kernel
theorem dX7_seen_45 : decode cX7_seen 45 = .ok (.iaload, 1) := by decide +kernel
theorem dX7_seen_46 : decode cX7_seen 46 = .ok (.invokevirtual 100, 3) := by decide +kernel
theorem dX7_seen_49 : decode cX7_seen 49 = .ok (.ireturn, 1) := by decide +kernel
theorem dX7_taken_0 : decode cX7_taken 0 = .ok (.aload_n 0, 1) := by decide +kernel
theorem dX7_taken_1 : decode cX7_taken 1 = .ok (.getfield 19, 3) := by decide +kernel
theorem dX7_taken_4 : decode cX7_taken 4 = .ok (.iload_n 1, 1) := by decide +kernel
theorem dX7_taken_5 : decode cX7_taken 5 = .ok (.iload_n 2, 1) := by decide +kernel
theorem dX7_taken_6 : decode cX7_taken 6 = .ok (.invokevirtual 151, 3) := by decide +kernel
theorem dX7_taken_9 : decode cX7_taken 9 = .ok (.ifCond .eq 22, 3) := by decide +kernel
theorem dX7_taken_12 : decode cX7_taken 12 = .ok (.aload_n 0, 1) := by decide +kernel
theorem dX7_taken_13 : decode cX7_taken 13 = .ok (.getfield 33, 3) := by decide +kernel
theorem dX7_taken_16 : decode cX7_taken 16 = .ok (.getfield 240, 3) := by decide +kernel
theorem dX7_taken_19 : decode cX7_taken 19 = .ok (.iload_n 1, 1) := by decide +kernel
theorem dX7_taken_20 : decode cX7_taken 20 = .ok (.iload_n 2, 1) := by decide +kernel
theorem dX7_taken_21 : decode cX7_taken 21 = .ok (.invokestatic 158, 3) := by decide +kernel
theorem dX7_taken_24 : decode cX7_taken 24 = .ok (.iload_n 3, 1) := by decide +kernel
theorem dX7_taken_25 : decode cX7_taken 25 = .ok (.invokevirtual 250, 3) := by decide +kernel
theorem dX7_taken_28 : decode cX7_taken 28 = .ok (.ifCond .ne 9, 3) := by decide +kernel
theorem dX7_taken_31 : decode cX7_taken 31 = .ok (.aload_n 0, 1) := by decide +kernel
theorem dX7_taken_32 : decode cX7_taken 32 = .ok (.iconst 1, 1) := by decide +kernel
theorem dX7_taken_33 : decode cX7_taken 33 = .ok (.invokevirtual 64, 3) := by decide +kernel
theorem dX7_taken_36 : decode cX7_taken 36 = .ok (.ireturn, 1) := by decide +kernel
theorem dX7_taken_37 : decode cX7_taken 37 = .ok (.aload_n 0, 1) := by decide +kernel
theorem dX7_taken_38 : decode cX7_taken 38 = .ok (.aload_n 0, 1) := by decide +kernel
theorem dX7_taken_39 : decode cX7_taken 39 = .ok (.getfield 33, 3) := by decide +kernel
theorem dX7_taken_42 : decode cX7_taken 42 = .ok (.getfield 240, 3) := by decide +kernel
theorem dX7_taken_45 : decode cX7_taken 45 = .ok (.iload_n 1, 1) := by decide +kernel
theorem dX7_taken_46 : decode cX7_taken 46 = .ok (.iload_n 2, 1) := by decide +kernel
theorem dX7_taken_47 : decode cX7_taken 47 = .ok (.invokestatic 158, 3) := by decide +kernel
theorem dX7_taken_50 : decode cX7_taken 50 = .ok (.iload_n 3, 1) := by decide +kernel
theorem dX7_taken_51 : decode cX7_taken 51 = .ok (.invokevirtual 253, 3) := by decide +kernel
theorem dX7_taken_54 : decode cX7_taken 54 = .ok (.invokevirtual 100, 3) := by decide +kernel
theorem dX7_taken_57 : decode cX7_taken 57 = .ok (.ireturn, 1) := by decide +kernel
theorem dX7_load_0 : decode cX7_load 0 = .ok (.aload_n 0, 1) := by decide +kernel
theorem dX7_load_1 : decode cX7_load 1 = .ok (.getfield 19, 3) := by decide +kernel
theorem dX7_load_4 : decode cX7_load 4 = .ok (.iload_n 1, 1) := by decide +kernel
theorem dX7_load_5 : decode cX7_load 5 = .ok (.invokevirtual 197, 3) := by decide +kernel
theorem dX7_load_8 : decode cX7_load 8 = .ok (.ifCond .ne 10, 3) := by decide +kernel
theorem dX7_load_11 : decode cX7_load 11 = .ok (.aload_n 0, 1) := by decide +kernel
theorem dX7_load_12 : decode cX7_load 12 = .ok (.iconst 1, 1) := by decide +kernel
theorem dX7_load_13 : decode cX7_load 13 = .ok (.invokevirtual 64, 3) := by decide +kernel
theorem dX7_load_16 : decode cX7_load 16 = .ok (.i2l, 1) := by decide +kernel
theorem dX7_load_17 : decode cX7_load 17 = .ok (.lreturn, 1) := by decide +kernel
theorem dX7_load_18 : decode cX7_load 18 = .ok (.aload_n 0, 1) := by decide +kernel
theorem dX7_load_19 : decode cX7_load 19 = .ok (.aload_n 0, 1) := by decide +kernel
theorem dX7_load_20 : decode cX7_load 20 = .ok (.getfield 26, 3) := by decide +kernel
theorem dX7_load_23 : decode cX7_load 23 = .ok (.iload_n 1, 1) := by decide +kernel
theorem dX7_load_24 : decode cX7_load 24 = .ok (.invokevirtual 256, 3) := by decide +kernel
theorem dX7_load_27 : decode cX7_load 27 = .ok (.iload_n 2, 1) := by decide +kernel
theorem dX7_load_28 : decode cX7_load 28 = .ok (.invokevirtual 260, 3) := by decide +kernel
theorem dX7_load_31 : decode cX7_load 31 = .ok (.lreturn, 1) := by decide +kernel
theorem dX7_delay_0 : decode cX7_delay 0 = .ok (.aload_n 0, 1) := by decide +kernel
theorem dX7_delay_1 : decode cX7_delay 1 = .ok (.getfield 19, 3) := by decide +kernel
theorem dX7_delay_4 : decode cX7_delay 4 = .ok (.iload_n 1, 1) := by decide +kernel
theorem dX7_delay_5 : decode cX7_delay 5 = .ok (.invokevirtual 197, 3) := by decide +kernel
theorem dX7_delay_8 : decode cX7_delay 8 = .ok (.ifCond .ne 10, 3) := by decide +kernel
theorem dX7_delay_11 : decode cX7_delay 11 = .ok (.aload_n 0, 1) := by decide +kernel
theorem dX7_delay_12 : decode cX7_delay 12 = .ok (.iconst 1, 1) := by decide +kernel
theorem dX7_delay_13 : decode cX7_delay 13 = .ok (.invokevirtual 64, 3) := by decide +kernel
theorem dX7_delay_16 : decode cX7_delay 16 = .ok (.i2l, 1) := by decide +kernel
theorem dX7_delay_17 : decode cX7_delay 17 = .ok (.lreturn, 1) := by decide +kernel
theorem dX7_delay_18 : decode cX7_delay 18 = .ok (.aload_n 0, 1) := by decide +kernel
theorem dX7_delay_19 : decode cX7_delay 19 = .ok (.getfield 26, 3) := by decide +kernel
theorem dX7_delay_22 : decode cX7_delay 22 = .ok (.getfield 264, 3) := by decide +kernel
theorem dX7_delay_25 : decode cX7_delay 25 = .ok (.ifCond .eq 10, 3) := by decide +kernel
theorem dX7_delay_28 : decode cX7_delay 28 = .ok (.aload_n 0, 1) := by decide +kernel
theorem dX7_delay_29 : decode cX7_delay 29 = .ok (.iconst 5, 1) := by decide +kernel
theorem dX7_delay_30 : decode cX7_delay 30 = .ok (.invokevirtual 64, 3) := by decide +kernel
theorem dX7_delay_33 : decode cX7_delay 33 = .ok (.i2l, 1) := by decide +kernel
theorem dX7_delay_34 : decode cX7_delay 34 = .ok (.lreturn, 1) := by decide +kernel
theorem dX7_delay_35 : decode cX7_delay 35 = .ok (.aload_n 0, 1) := by decide +kernel
theorem dX7_delay_36 : decode cX7_delay 36 = .ok (.aload_n 0, 1) := by decide +kernel
theorem dX7_delay_37 : decode cX7_delay 37 = .ok (.getfield 26, 3) := by decide +kernel
theorem dX7_delay_40 : decode cX7_delay 40 = .ok (.getfield 267, 3) := by decide +kernel
theorem dX7_delay_43 : decode cX7_delay 43 = .ok (.iload_n 1, 1) := by decide +kernel
theorem dX7_delay_44 : decode cX7_delay 44 = .ok (.laload, 1) := by decide +kernel
theorem dX7_delay_45 : decode cX7_delay 45 = .ok (.iload_n 2, 1) := by decide +kernel
theorem dX7_delay_46 : decode cX7_delay 46 = .ok (.invokevirtual 260, 3) := by decide +kernel
theorem dX7_delay_49 : decode cX7_delay 49 = .ok (.lreturn, 1) := by decide +kernel
theorem dX7_burst_0 : decode cX7_burst 0 = .ok (.iload_n 3, 1) := by decide +kernel
theorem dX7_burst_1 : decode cX7_burst 1 = .ok (.iconst 1, 1) := by decide +kernel
theorem dX7_burst_2 : decode cX7_burst 2 = .ok (.if_icmp .lt 13, 3) := by decide +kernel
theorem dX7_burst_5 : decode cX7_burst 5 = .ok (.aload_n 0, 1) := by decide +kernel
theorem dX7_burst_6 : decode cX7_burst 6 = .ok (.iload_n 1, 1) := by decide +kernel
theorem dX7_burst_7 : decode cX7_burst 7 = .ok (.iload_n 2, 1) := by decide +kernel
theorem dX7_burst_8 : decode cX7_burst 8 = .ok (.iload_n 3, 1) := by decide +kernel
theorem dX7_burst_9 : decode cX7_burst 9 = .ok (.invokevirtual 169, 3) := by decide +kernel
theorem dX7_burst_12 : decode cX7_burst 12 = .ok (.ifCond .ne 10, 3) := by decide +kernel
theorem dX7_burst_15 : decode cX7_burst 15 = .ok (.aload_n 0, 1) := by decide +kernel
theorem dX7_burst_16 : decode cX7_burst 16 = .ok (.iconst 1, 1) := by decide +kernel
theorem dX7_burst_17 : decode cX7_burst 17 = .ok (.invokevirtual 64, 3) := by decide +kernel
theorem dX7_burst_20 : decode cX7_burst 20 = .ok (.i2l, 1) := by decide +kernel
theorem dX7_burst_21 : decode cX7_burst 21 = .ok (.lreturn, 1) := by decide +kernel
theorem dX7_burst_22 : decode cX7_burst 22 = .ok (.aload_n 0, 1) := by decide +kernel
theorem dX7_burst_23 : decode cX7_burst 23 = .ok (.getfield 26, 3) := by decide +kernel
theorem dX7_burst_26 : decode cX7_burst 26 = .ok (.getfield 264, 3) := by decide +kernel
theorem dX7_burst_29 : decode cX7_burst 29 = .ok (.ifCond .eq 10, 3) := by decide +kernel
theorem dX7_burst_32 : decode cX7_burst 32 = .ok (.aload_n 0, 1) := by decide +kernel
theorem dX7_burst_33 : decode cX7_burst 33 = .ok (.iconst 5, 1) := by decide +kernel
theorem dX7_burst_34 : decode cX7_burst 34 = .ok (.invokevirtual 64, 3) := by decide +kernel
theorem dX7_burst_37 : decode cX7_burst 37 = .ok (.i2l, 1) := by decide +kernel
theorem dX7_burst_38 : decode cX7_burst 38 = .ok (.lreturn, 1) := by decide +kernel
theorem dX7_burst_39 : decode cX7_burst 39 = .ok (.aload_n 0, 1) := by decide +kernel
theorem dX7_burst_40 : decode cX7_burst 40 = .ok (.aload_n 0, 1) := by decide +kernel
theorem dX7_burst_41 : decode cX7_burst 41 = .ok (.getfield 26, 3) := by decide +kernel
theorem dX7_burst_44 : decode cX7_burst 44 = .ok (.getfield 271, 3) := by decide +kernel
theorem dX7_burst_47 : decode cX7_burst 47 = .ok (.iload_n 1, 1) := by decide +kernel
theorem dX7_burst_48 : decode cX7_burst 48 = .ok (.bipush 16, 2) := by decide +kernel
theorem dX7_burst_50 : decode cX7_burst 50 = .ok (.imul, 1) := by decide +kernel
theorem dX7_burst_51 : decode cX7_burst 51 = .ok (.aload_n 0, 1) := by decide +kernel
theorem dX7_burst_52 : decode cX7_burst 52 = .ok (.getfield 19, 3) := by decide +kernel
theorem dX7_burst_55 : decode cX7_burst 55 = .ok (.getfield 81, 3) := by decide +kernel
theorem dX7_burst_58 : decode cX7_burst 58 = .ok (.iload_n 1, 1) := by decide +kernel
theorem dX7_burst_59 : decode cX7_burst 59 = .ok (.iload_n 2, 1) := by decide +kernel
theorem dX7_burst_60 : decode cX7_burst 60 = .ok (.invokestatic 158, 3) := by decide +kernel
theorem dX7_burst_63 : decode cX7_burst 63 = .ok (.iload_n 3, 1) := by decide +kernel
theorem dX7_burst_64 : decode cX7_burst 64 = .ok (.invokevirtual 173, 3) := by decide +kernel
theorem dX7_burst_67 : decode cX7_burst 67 = .ok (.iadd, 1) := by decide +kernel
theorem dX7_burst_68 : decode cX7_burst 68 = .ok (.laload, 1) := by decide +kernel
theorem dX7_burst_69 : decode cX7_burst 69 = .ok (.iload 4, 2) := by decide +kernel
theorem dX7_burst_71 : decode cX7_burst 71 = .ok (.invokevirtual 260, 3) := by decide +kernel
theorem dX7_burst_74 : decode cX7_burst 74 = .ok (.lreturn, 1) := by decide +kernel
theorem dX7_bound_0 : decode cX7_bound 0 = .ok (.aload_n 0, 1) := by decide +kernel
theorem dX7_bound_1 : decode cX7_bound 1 = .ok (.getfield 19, 3) := by decide +kernel
theorem dX7_bound_4 : decode cX7_bound 4 = .ok (.iload_n 1, 1) := by decide +kernel
theorem dX7_bound_5 : decode cX7_bound 5 = .ok (.iload_n 2, 1) := by decide +kernel
theorem dX7_bound_6 : decode cX7_bound 6 = .ok (.invokevirtual 151, 3) := by decide +kernel
theorem dX7_bound_9 : decode cX7_bound 9 = .ok (.ifCond .ne 10, 3) := by decide +kernel
theorem dX7_bound_12 : decode cX7_bound 12 = .ok (.aload_n 0, 1) := by decide +kernel
theorem dX7_bound_13 : decode cX7_bound 13 = .ok (.iconst 1, 1) := by decide +kernel
theorem dX7_bound_14 : decode cX7_bound 14 = .ok (.invokevirtual 64, 3) := by decide +kernel
theorem dX7_bound_17 : decode cX7_bound 17 = .ok (.i2l, 1) := by decide +kernel
theorem dX7_bound_18 : decode cX7_bound 18 = .ok (.lreturn, 1) := by decide +kernel
theorem dX7_bound_19 : decode cX7_bound 19 = .ok (.aload_n 0, 1) := by decide +kernel
theorem dX7_bound_20 : decode cX7_bound 20 = .ok (.getfield 26, 3) := by decide +kernel
theorem dX7_bound_23 : decode cX7_bound 23 = .ok (.getfield 264, 3) := by decide +kernel
theorem dX7_bound_26 : decode cX7_bound 26 = .ok (.ifCond .eq 10, 3) := by decide +kernel
theorem dX7_bound_29 : decode cX7_bound 29 = .ok (.aload_n 0, 1) := by decide +kernel
theorem dX7_bound_30 : decode cX7_bound 30 = .ok (.iconst 5, 1) := by decide +kernel
theorem dX7_bound_31 : decode cX7_bound 31 = .ok (.invokevirtual 64, 3) := by decide +kernel
theorem dX7_bound_34 : decode cX7_bound 34 = .ok (.i2l, 1) := by decide +kernel
theorem dX7_bound_35 : decode cX7_bound 35 = .ok (.lreturn, 1) := by decide +kernel
theorem dX7_bound_36 : decode cX7_bound 36 = .ok (.aload_n 0, 1) := by decide +kernel
theorem dX7_bound_37 : decode cX7_bound 37 = .ok (.aload_n 0, 1) := by decide +kernel
theorem dX7_bound_38 : decode cX7_bound 38 = .ok (.getfield 26, 3) := by decide +kernel
theorem dX7_bound_41 : decode cX7_bound 41 = .ok (.aload_n 0, 1) := by decide +kernel
theorem dX7_bound_42 : decode cX7_bound 42 = .ok (.getfield 19, 3) := by decide +kernel
theorem dX7_bound_45 : decode cX7_bound 45 = .ok (.iload_n 1, 1) := by decide +kernel
theorem dX7_bound_46 : decode cX7_bound 46 = .ok (.iload_n 2, 1) := by decide +kernel
theorem dX7_bound_47 : decode cX7_bound 47 = .ok (.invokestatic 158, 3) := by decide +kernel
theorem dX7_bound_50 : decode cX7_bound 50 = .ok (.invokevirtual 274, 3) := by decide +kernel
theorem dX7_bound_53 : decode cX7_bound 53 = .ok (.iload_n 3, 1) := by decide +kernel
theorem dX7_bound_54 : decode cX7_bound 54 = .ok (.invokevirtual 260, 3) := by decide +kernel
theorem dX7_bound_57 : decode cX7_bound 57 = .ok (.lreturn, 1) := by decide +kernel
theorem dX7_keeps_0 : decode cX7_keeps 0 = .ok (.aload_n 0, 1) := by decide +kernel
theorem dX7_keeps_1 : decode cX7_keeps 1 = .ok (.getfield 19, 3) := by decide +kernel
theorem dX7_keeps_4 : decode cX7_keeps 4 = .ok (.iload_n 1, 1) := by decide +kernel
theorem dX7_keeps_5 : decode cX7_keeps 5 = .ok (.iload_n 2, 1) := by decide +kernel
theorem dX7_keeps_6 : decode cX7_keeps 6 = .ok (.invokevirtual 151, 3) := by decide +kernel
theorem dX7_keeps_9 : decode cX7_keeps 9 = .ok (.ifCond .ne 9, 3) := by decide +kernel
theorem dX7_keeps_12 : decode cX7_keeps 12 = .ok (.aload_n 0, 1) := by decide +kernel
theorem dX7_keeps_13 : decode cX7_keeps 13 = .ok (.iconst 1, 1) := by decide +kernel
theorem dX7_keeps_14 : decode cX7_keeps 14 = .ok (.invokevirtual 64, 3) := by decide +kernel
theorem dX7_keeps_17 : decode cX7_keeps 17 = .ok (.ireturn, 1) := by decide +kernel
theorem dX7_keeps_18 : decode cX7_keeps 18 = .ok (.aload_n 0, 1) := by decide +kernel
theorem dX7_keeps_19 : decode cX7_keeps 19 = .ok (.getfield 26, 3) := by decide +kernel
theorem dX7_keeps_22 : decode cX7_keeps 22 = .ok (.getfield 264, 3) := by decide +kernel
theorem dX7_keeps_25 : decode cX7_keeps 25 = .ok (.ifCond .eq 9, 3) := by decide +kernel
theorem dX7_keeps_28 : decode cX7_keeps 28 = .ok (.aload_n 0, 1) := by decide +kernel
theorem dX7_keeps_29 : decode cX7_keeps 29 = .ok (.iconst 5, 1) := by decide +kernel
theorem dX7_keeps_30 : decode cX7_keeps 30 = .ok (.invokevirtual 64, 3) := by decide +kernel
theorem dX7_keeps_33 : decode cX7_keeps 33 = .ok (.ireturn, 1) := by decide +kernel
theorem dX7_keeps_34 : decode cX7_keeps 34 = .ok (.iload_n 1, 1) := by decide +kernel
theorem dX7_keeps_35 : decode cX7_keeps 35 = .ok (.iload_n 2, 1) := by decide +kernel
theorem dX7_keeps_36 : decode cX7_keeps 36 = .ok (.invokestatic 158, 3) := by decide +kernel
theorem dX7_keeps_39 : decode cX7_keeps 39 = .ok (.istore_n 3, 1) := by decide +kernel
theorem dX7_keeps_40 : decode cX7_keeps 40 = .ok (.aload_n 0, 1) := by decide +kernel
theorem dX7_keeps_41 : decode cX7_keeps 41 = .ok (.getfield 33, 3) := by decide +kernel
theorem dX7_keeps_44 : decode cX7_keeps 44 = .ok (.getfield 240, 3) := by decide +kernel
theorem dX7_keeps_47 : decode cX7_keeps 47 = .ok (.getfield 278, 3) := by decide +kernel
theorem dX7_keeps_50 : decode cX7_keeps 50 = .ok (.iload_n 3, 1) := by decide +kernel
theorem dX7_keeps_51 : decode cX7_keeps 51 = .ok (.iaload, 1) := by decide +kernel
theorem dX7_keeps_52 : decode cX7_keeps 52 = .ok (.i2l, 1) := by decide +kernel
theorem dX7_keeps_53 : decode cX7_keeps 53 = .ok (.ldc2_w 281, 3) := by decide +kernel
theorem dX7_keeps_56 : decode cX7_keeps 56 = .ok (.lmul, 1) := by decide +kernel
theorem dX7_keeps_57 : decode cX7_keeps 57 = .ok (.lstore 4, 2) := by decide +kernel
theorem dX7_keeps_59 : decode cX7_keeps 59 = .ok (.aload_n 0, 1) := by decide +kernel
theorem dX7_keeps_60 : decode cX7_keeps 60 = .ok (.lload 4, 2) := by decide +kernel
theorem dX7_keeps_62 : decode cX7_keeps 62 = .ok (.aload_n 0, 1) := by decide +kernel
theorem dX7_keeps_63 : decode cX7_keeps 63 = .ok (.getfield 26, 3) := by decide +kernel
theorem dX7_keeps_66 : decode cX7_keeps 66 = .ok (.aload_n 0, 1) := by decide +kernel
theorem dX7_keeps_67 : decode cX7_keeps 67 = .ok (.getfield 19, 3) := by decide +kernel
theorem dX7_keeps_70 : decode cX7_keeps 70 = .ok (.iload_n 3, 1) := by decide +kernel
theorem dX7_keeps_71 : decode cX7_keeps 71 = .ok (.invokevirtual 274, 3) := by decide +kernel
theorem dX7_keeps_74 : decode cX7_keeps 74 = .ok (.lcmp, 1) := by decide +kernel
theorem dX7_keeps_75 : decode cX7_keeps 75 = .ok (.ifCond .gt 7, 3) := by decide +kernel
theorem dX7_keeps_78 : decode cX7_keeps 78 = .ok (.iconst 1, 1) := by decide +kernel
theorem dX7_keeps_79 : decode cX7_keeps 79 = .ok (.goto 4, 3) := by decide +kernel
theorem dX7_keeps_82 : decode cX7_keeps 82 = .ok (.iconst 0, 1) := by decide +kernel
theorem dX7_keeps_83 : decode cX7_keeps 83 = .ok (.invokevirtual 100, 3) := by decide +kernel
theorem dX7_keeps_86 : decode cX7_keeps 86 = .ok (.ireturn, 1) := by decide +kernel
theorem dX7_fullest_0 : decode cX7_fullest 0 = .ok (.aload_n 0, 1) := by decide +kernel
theorem dX7_fullest_1 : decode cX7_fullest 1 = .ok (.invokevirtual 103, 3) := by decide +kernel
theorem dX7_fullest_4 : decode cX7_fullest 4 = .ok (.ifCond .eq 9, 3) := by decide +kernel
theorem dX7_fullest_7 : decode cX7_fullest 7 = .ok (.aload_n 0, 1) := by decide +kernel
theorem dX7_fullest_8 : decode cX7_fullest 8 = .ok (.iconst 1, 1) := by decide +kernel
theorem dX7_fullest_9 : decode cX7_fullest 9 = .ok (.invokevirtual 64, 3) := by decide +kernel
theorem dX7_fullest_12 : decode cX7_fullest 12 = .ok (.ireturn, 1) := by decide +kernel
theorem dX7_fullest_13 : decode cX7_fullest 13 = .ok (.aload_n 0, 1) := by decide +kernel
theorem dX7_fullest_14 : decode cX7_fullest 14 = .ok (.aload_n 0, 1) := by decide +kernel
theorem dX7_fullest_15 : decode cX7_fullest 15 = .ok (.getfield 26, 3) := by decide +kernel
theorem dX7_fullest_18 : decode cX7_fullest 18 = .ok (.invokevirtual 283, 3) := by decide +kernel
theorem dX7_fullest_21 : decode cX7_fullest 21 = .ok (.invokevirtual 100, 3) := by decide +kernel
theorem dX7_fullest_24 : decode cX7_fullest 24 = .ok (.ireturn, 1) := by decide +kernel
theorem dX7_leastGap_0 : decode cX7_leastGap 0 = .ok (.aload_n 0, 1) := by decide +kernel
theorem dX7_leastGap_1 : decode cX7_leastGap 1 = .ok (.getfield 19, 3) := by decide +kernel
theorem dX7_leastGap_4 : decode cX7_leastGap 4 = .ok (.iload_n 1, 1) := by decide +kernel
theorem dX7_leastGap_5 : decode cX7_leastGap 5 = .ok (.invokevirtual 136, 3) := by decide +kernel
theorem dX7_leastGap_8 : decode cX7_leastGap 8 = .ok (.ifCond .ne 9, 3) := by decide +kernel
theorem dX7_leastGap_11 : decode cX7_leastGap 11 = .ok (.aload_n 0, 1) := by decide +kernel
theorem dX7_leastGap_12 : decode cX7_leastGap 12 = .ok (.iconst 1, 1) := by decide +kernel
theorem dX7_leastGap_13 : decode cX7_leastGap 13 = .ok (.invokevirtual 64, 3) := by decide +kernel
theorem dX7_leastGap_16 : decode cX7_leastGap 16 = .ok (.ireturn, 1) := by decide +kernel
theorem dX7_leastGap_17 : decode cX7_leastGap 17 = .ok (.aload_n 0, 1) := by decide +kernel
theorem dX7_leastGap_18 : decode cX7_leastGap 18 = .ok (.aload_n 0, 1) := by decide +kernel
theorem dX7_leastGap_19 : decode cX7_leastGap 19 = .ok (.getfield 26, 3) := by decide +kernel
theorem dX7_leastGap_22 : decode cX7_leastGap 22 = .ok (.aload_n 0, 1) := by decide +kernel
theorem dX7_leastGap_23 : decode cX7_leastGap 23 = .ok (.getfield 19, 3) := by decide +kernel
theorem dX7_leastGap_26 : decode cX7_leastGap 26 = .ok (.iload_n 1, 1) := by decide +kernel
theorem dX7_leastGap_27 : decode cX7_leastGap 27 = .ok (.invokevirtual 287, 3) := by decide +kernel
theorem dX7_leastGap_30 : decode cX7_leastGap 30 = .ok (.invokevirtual 100, 3) := by decide +kernel
theorem dX7_leastGap_33 : decode cX7_leastGap 33 = .ok (.ireturn, 1) := by decide +kernel
theorem dX7_through_0 : decode cX7_through 0 = .ok (.aload_n 0, 1) := by decide +kernel
theorem dX7_through_1 : decode cX7_through 1 = .ok (.getfield 19, 3) := by decide +kernel
theorem dX7_through_4 : decode cX7_through 4 = .ok (.iload_n 1, 1) := by decide +kernel
theorem dX7_through_5 : decode cX7_through 5 = .ok (.invokevirtual 197, 3) := by decide +kernel
theorem dX7_through_8 : decode cX7_through 8 = .ok (.ifCond .ne 9, 3) := by decide +kernel
theorem dX7_through_11 : decode cX7_through 11 = .ok (.aload_n 0, 1) := by decide +kernel
theorem dX7_through_12 : decode cX7_through 12 = .ok (.iconst 1, 1) := by decide +kernel
theorem dX7_through_13 : decode cX7_through 13 = .ok (.invokevirtual 64, 3) := by decide +kernel
theorem dX7_through_16 : decode cX7_through 16 = .ok (.ireturn, 1) := by decide +kernel
theorem dX7_through_17 : decode cX7_through 17 = .ok (.aload_n 0, 1) := by decide +kernel
theorem dX7_through_18 : decode cX7_through 18 = .ok (.aload_n 0, 1) := by decide +kernel
theorem dX7_through_19 : decode cX7_through 19 = .ok (.getfield 19, 3) := by decide +kernel
theorem dX7_through_22 : decode cX7_through 22 = .ok (.getfield 81, 3) := by decide +kernel
theorem dX7_through_25 : decode cX7_through 25 = .ok (.getfield 291, 3) := by decide +kernel
theorem dX7_through_28 : decode cX7_through 28 = .ok (.iload_n 1, 1) := by decide +kernel
theorem dX7_through_29 : decode cX7_through 29 = .ok (.iaload, 1) := by decide +kernel
theorem dX7_through_30 : decode cX7_through 30 = .ok (.invokevirtual 100, 3) := by decide +kernel
theorem dX7_through_33 : decode cX7_through 33 = .ok (.ireturn, 1) := by decide +kernel
theorem dX7_send_0 : decode cX7_send 0 = .ok (.aload_n 0, 1) := by decide +kernel
theorem dX7_send_1 : decode cX7_send 1 = .ok (.getfield 19, 3) := by decide +kernel
theorem dX7_send_4 : decode cX7_send 4 = .ok (.iload_n 1, 1) := by decide +kernel
theorem dX7_send_5 : decode cX7_send 5 = .ok (.invokevirtual 136, 3) := by decide +kernel
theorem dX7_send_8 : decode cX7_send 8 = .ok (.ifCond .ne 9, 3) := by decide +kernel
theorem dX7_send_11 : decode cX7_send 11 = .ok (.aload_n 0, 1) := by decide +kernel
theorem dX7_send_12 : decode cX7_send 12 = .ok (.iconst 1, 1) := by decide +kernel
theorem dX7_send_13 : decode cX7_send 13 = .ok (.invokevirtual 64, 3) := by decide +kernel
theorem dX7_send_16 : decode cX7_send 16 = .ok (.ireturn, 1) := by decide +kernel
theorem dX7_send_17 : decode cX7_send 17 = .ok (.iload_n 2, 1) := by decide +kernel
theorem dX7_send_18 : decode cX7_send 18 = .ok (.iconst 1, 1) := by decide +kernel
theorem dX7_send_19 : decode cX7_send 19 = .ok (.if_icmp .lt 9, 3) := by decide +kernel
theorem dX7_send_22 : decode cX7_send 22 = .ok (.iload_n 2, 1) := by decide +kernel
theorem dX7_send_23 : decode cX7_send 23 = .ok (.bipush 16, 2) := by decide +kernel
theorem dX7_send_25 : decode cX7_send 25 = .ok (.if_icmp .le 9, 3) := by decide +kernel
theorem dX7_send_28 : decode cX7_send 28 = .ok (.aload_n 0, 1) := by decide +kernel
theorem dX7_send_29 : decode cX7_send 29 = .ok (.iconst 2, 1) := by decide +kernel
theorem dX7_send_30 : decode cX7_send 30 = .ok (.invokevirtual 64, 3) := by decide +kernel
theorem dX7_send_33 : decode cX7_send 33 = .ok (.ireturn, 1) := by decide +kernel
theorem dX7_send_34 : decode cX7_send 34 = .ok (.aload_n 0, 1) := by decide +kernel
theorem dX7_send_35 : decode cX7_send 35 = .ok (.getfield 33, 3) := by decide +kernel
theorem dX7_send_38 : decode cX7_send 38 = .ok (.getfield 176, 3) := by decide +kernel
theorem dX7_send_41 : decode cX7_send 41 = .ok (.iload_n 1, 1) := by decide +kernel
theorem dX7_send_42 : decode cX7_send 42 = .ok (.iaload, 1) := by decide +kernel
theorem dX7_send_43 : decode cX7_send 43 = .ok (.iload_n 2, 1) := by decide +kernel
theorem dX7_send_44 : decode cX7_send 44 = .ok (.iadd, 1) := by decide +kernel
theorem dX7_send_45 : decode cX7_send 45 = .ok (.bipush 16, 2) := by decide +kernel
theorem dX7_send_47 : decode cX7_send 47 = .ok (.if_icmp .le 9, 3) := by decide +kernel
theorem dX7_send_50 : decode cX7_send 50 = .ok (.aload_n 0, 1) := by decide +kernel
theorem dX7_send_51 : decode cX7_send 51 = .ok (.iconst 3, 1) := by decide +kernel
theorem dX7_send_52 : decode cX7_send 52 = .ok (.invokevirtual 64, 3) := by decide +kernel
theorem dX7_send_55 : decode cX7_send 55 = .ok (.ireturn, 1) := by decide +kernel
theorem dX7_send_56 : decode cX7_send 56 = .ok (.aload_n 0, 1) := by decide +kernel
theorem dX7_send_57 : decode cX7_send 57 = .ok (.getfield 33, 3) := by decide +kernel
theorem dX7_send_60 : decode cX7_send 60 = .ok (.getfield 176, 3) := by decide +kernel
theorem dX7_send_63 : decode cX7_send 63 = .ok (.iload_n 1, 1) := by decide +kernel
theorem dX7_send_64 : decode cX7_send 64 = .ok (.dup2, 1) := by decide +kernel
theorem dX7_send_65 : decode cX7_send 65 = .ok (.iaload, 1) := by decide +kernel
theorem dX7_send_66 : decode cX7_send 66 = .ok (.iload_n 2, 1) := by decide +kernel
theorem dX7_send_67 : decode cX7_send 67 = .ok (.iadd, 1) := by decide +kernel
theorem dX7_send_68 : decode cX7_send 68 = .ok (.iastore, 1) := by decide +kernel
theorem dX7_send_69 : decode cX7_send 69 = .ok (.aload_n 0, 1) := by decide +kernel
theorem dX7_send_70 : decode cX7_send 70 = .ok (.aload_n 0, 1) := by decide +kernel
theorem dX7_send_71 : decode cX7_send 71 = .ok (.getfield 33, 3) := by decide +kernel
theorem dX7_send_74 : decode cX7_send 74 = .ok (.getfield 176, 3) := by decide +kernel
theorem dX7_send_77 : decode cX7_send 77 = .ok (.iload_n 1, 1) := by decide +kernel
theorem dX7_send_78 : decode cX7_send 78 = .ok (.iaload, 1) := by decide +kernel
theorem dX7_send_79 : decode cX7_send 79 = .ok (.invokevirtual 100, 3) := by decide +kernel
theorem dX7_send_82 : decode cX7_send 82 = .ok (.ireturn, 1) := by decide +kernel
theorem dX7_babble_0 : decode cX7_babble 0 = .ok (.aload_n 0, 1) := by decide +kernel
theorem dX7_babble_1 : decode cX7_babble 1 = .ok (.getfield 19, 3) := by decide +kernel
theorem dX7_babble_4 : decode cX7_babble 4 = .ok (.iload_n 1, 1) := by decide +kernel
theorem dX7_babble_5 : decode cX7_babble 5 = .ok (.invokevirtual 136, 3) := by decide +kernel
theorem dX7_babble_8 : decode cX7_babble 8 = .ok (.ifCond .ne 9, 3) := by decide +kernel
theorem dX7_babble_11 : decode cX7_babble 11 = .ok (.aload_n 0, 1) := by decide +kernel
theorem dX7_babble_12 : decode cX7_babble 12 = .ok (.iconst 1, 1) := by decide +kernel
theorem dX7_babble_13 : decode cX7_babble 13 = .ok (.invokevirtual 64, 3) := by decide +kernel
theorem dX7_babble_16 : decode cX7_babble 16 = .ok (.ireturn, 1) := by decide +kernel
theorem dX7_babble_17 : decode cX7_babble 17 = .ok (.iload_n 2, 1) := by decide +kernel
theorem dX7_babble_18 : decode cX7_babble 18 = .ok (.iconst 1, 1) := by decide +kernel
theorem dX7_babble_19 : decode cX7_babble 19 = .ok (.if_icmp .lt 9, 3) := by decide +kernel
theorem dX7_babble_22 : decode cX7_babble 22 = .ok (.iload_n 2, 1) := by decide +kernel
theorem dX7_babble_23 : decode cX7_babble 23 = .ok (.bipush 20, 2) := by decide +kernel
theorem dX7_babble_25 : decode cX7_babble 25 = .ok (.if_icmp .le 9, 3) := by decide +kernel
theorem dX7_babble_28 : decode cX7_babble 28 = .ok (.aload_n 0, 1) := by decide +kernel
theorem dX7_babble_29 : decode cX7_babble 29 = .ok (.iconst 2, 1) := by decide +kernel
theorem dX7_babble_30 : decode cX7_babble 30 = .ok (.invokevirtual 64, 3) := by decide +kernel
theorem dX7_babble_33 : decode cX7_babble 33 = .ok (.ireturn, 1) := by decide +kernel
theorem dX7_babble_34 : decode cX7_babble 34 = .ok (.iconst 0, 1) := by decide +kernel
theorem dX7_babble_35 : decode cX7_babble 35 = .ok (.istore_n 3, 1) := by decide +kernel
theorem dX7_babble_36 : decode cX7_babble 36 = .ok (.iconst 0, 1) := by decide +kernel
theorem dX7_babble_37 : decode cX7_babble 37 = .ok (.istore 4, 2) := by decide +kernel
theorem dX7_babble_39 : decode cX7_babble 39 = .ok (.iload 4, 2) := by decide +kernel
theorem dX7_babble_41 : decode cX7_babble 41 = .ok (.iload_n 2, 1) := by decide +kernel
theorem dX7_babble_42 : decode cX7_babble 42 = .ok (.if_icmp .ge 24, 3) := by decide +kernel
theorem dX7_babble_45 : decode cX7_babble 45 = .ok (.iload_n 3, 1) := by decide +kernel
theorem dX7_babble_46 : decode cX7_babble 46 = .ok (.aload_n 0, 1) := by decide +kernel
theorem dX7_babble_47 : decode cX7_babble 47 = .ok (.getfield 33, 3) := by decide +kernel
theorem dX7_babble_50 : decode cX7_babble 50 = .ok (.aload_n 0, 1) := by decide +kernel
theorem dX7_babble_51 : decode cX7_babble 51 = .ok (.getfield 19, 3) := by decide +kernel
theorem dX7_babble_54 : decode cX7_babble 54 = .ok (.iload_n 1, 1) := by decide +kernel
theorem dX7_babble_55 : decode cX7_babble 55 = .ok (.invokevirtual 294, 3) := by decide +kernel
theorem dX7_babble_58 : decode cX7_babble 58 = .ok (.iadd, 1) := by decide +kernel
theorem dX7_babble_59 : decode cX7_babble 59 = .ok (.istore_n 3, 1) := by decide +kernel
theorem dX7_babble_60 : decode cX7_babble 60 = .ok (.iinc 4 1, 3) := by decide +kernel
theorem dX7_babble_63 : decode cX7_babble 63 = .ok (.goto (-24), 3) := by decide +kernel
theorem dX7_babble_66 : decode cX7_babble 66 = .ok (.aload_n 0, 1) := by decide +kernel
theorem dX7_babble_67 : decode cX7_babble 67 = .ok (.iload_n 3, 1) := by decide +kernel
theorem dX7_babble_68 : decode cX7_babble 68 = .ok (.invokevirtual 100, 3) := by decide +kernel
theorem dX7_babble_71 : decode cX7_babble 71 = .ok (.ireturn, 1) := by decide +kernel
theorem dX7_down_0 : decode cX7_down 0 = .ok (.aload_n 0, 1) := by decide +kernel
theorem dX7_down_1 : decode cX7_down 1 = .ok (.invokevirtual 103, 3) := by decide +kernel
theorem dX7_down_4 : decode cX7_down 4 = .ok (.ifCond .ne 10, 3) := by decide +kernel
theorem dX7_down_7 : decode cX7_down 7 = .ok (.iload_n 1, 1) := by decide +kernel
theorem dX7_down_8 : decode cX7_down 8 = .ok (.invokestatic 191, 3) := by decide +kernel
theorem dX7_down_11 : decode cX7_down 11 = .ok (.ifCond .ne 9, 3) := by decide +kernel
theorem dX7_down_14 : decode cX7_down 14 = .ok (.aload_n 0, 1) := by decide +kernel
theorem dX7_down_15 : decode cX7_down 15 = .ok (.iconst 1, 1) := by decide +kernel
theorem dX7_down_16 : decode cX7_down 16 = .ok (.invokevirtual 64, 3) := by decide +kernel
theorem dX7_down_19 : decode cX7_down 19 = .ok (.ireturn, 1) := by decide +kernel
theorem dX7_down_20 : decode cX7_down 20 = .ok (.iload_n 2, 1) := by decide +kernel
theorem dX7_down_21 : decode cX7_down 21 = .ok (.ifCond .eq 14, 3) := by decide +kernel
theorem dX7_down_24 : decode cX7_down 24 = .ok (.iload_n 2, 1) := by decide +kernel
theorem dX7_down_25 : decode cX7_down 25 = .ok (.iconst 1, 1) := by decide +kernel
theorem dX7_down_26 : decode cX7_down 26 = .ok (.if_icmp .eq 9, 3) := by decide +kernel
theorem dX7_down_29 : decode cX7_down 29 = .ok (.aload_n 0, 1) := by decide +kernel
theorem dX7_down_30 : decode cX7_down 30 = .ok (.iconst 2, 1) := by decide +kernel
theorem dX7_down_31 : decode cX7_down 31 = .ok (.invokevirtual 64, 3) := by decide +kernel
theorem dX7_down_34 : decode cX7_down 34 = .ok (.ireturn, 1) := by decide +kernel
theorem dX7_down_35 : decode cX7_down 35 = .ok (.aload_n 0, 1) := by decide +kernel
theorem dX7_down_36 : decode cX7_down 36 = .ok (.getfield 33, 3) := by decide +kernel
theorem dX7_down_39 : decode cX7_down 39 = .ok (.getfield 297, 3) := by decide +kernel
theorem dX7_down_42 : decode cX7_down 42 = .ok (.iload_n 1, 1) := by decide +kernel
theorem dX7_down_43 : decode cX7_down 43 = .ok (.iaload, 1) := by decide +kernel
theorem dX7_down_44 : decode cX7_down 44 = .ok (.istore_n 3, 1) := by decide +kernel
theorem dX7_down_45 : decode cX7_down 45 = .ok (.aload_n 0, 1) := by decide +kernel
theorem dX7_down_46 : decode cX7_down 46 = .ok (.getfield 33, 3) := by decide +kernel
theorem dX7_down_49 : decode cX7_down 49 = .ok (.getfield 297, 3) := by decide +kernel
theorem dX7_down_52 : decode cX7_down 52 = .ok (.iload_n 1, 1) := by decide +kernel
theorem dX7_down_53 : decode cX7_down 53 = .ok (.iload_n 2, 1) := by decide +kernel
theorem dX7_down_54 : decode cX7_down 54 = .ok (.iastore, 1) := by decide +kernel
theorem dX7_down_55 : decode cX7_down 55 = .ok (.aload_n 0, 1) := by decide +kernel
theorem dX7_down_56 : decode cX7_down 56 = .ok (.iload_n 3, 1) := by decide +kernel
theorem dX7_down_57 : decode cX7_down 57 = .ok (.invokevirtual 100, 3) := by decide +kernel
theorem dX7_down_60 : decode cX7_down 60 = .ok (.ireturn, 1) := by decide +kernel
theorem dX7_anew_0 : decode cX7_anew 0 = .ok (.aload_n 0, 1) := by decide +kernel
theorem dX7_anew_1 : decode cX7_anew 1 = .ok (.getfield 19, 3) := by decide +kernel
theorem dX7_anew_4 : decode cX7_anew 4 = .ok (.iload_n 1, 1) := by decide +kernel
theorem dX7_anew_5 : decode cX7_anew 5 = .ok (.invokevirtual 128, 3) := by decide +kernel
theorem dX7_anew_8 : decode cX7_anew 8 = .ok (.ifCond .ne 9, 3) := by decide +kernel
theorem dX7_anew_11 : decode cX7_anew 11 = .ok (.aload_n 0, 1) := by decide +kernel
theorem dX7_anew_12 : decode cX7_anew 12 = .ok (.iconst 1, 1) := by decide +kernel
theorem dX7_anew_13 : decode cX7_anew 13 = .ok (.invokevirtual 64, 3) := by decide +kernel
theorem dX7_anew_16 : decode cX7_anew 16 = .ok (.ireturn, 1) := by decide +kernel
theorem dX7_anew_17 : decode cX7_anew 17 = .ok (.aload_n 0, 1) := by decide +kernel
theorem dX7_anew_18 : decode cX7_anew 18 = .ok (.aload_n 0, 1) := by decide +kernel
theorem dX7_anew_19 : decode cX7_anew 19 = .ok (.getfield 33, 3) := by decide +kernel
theorem dX7_anew_22 : decode cX7_anew 22 = .ok (.aload_n 0, 1) := by decide +kernel
theorem dX7_anew_23 : decode cX7_anew 23 = .ok (.getfield 19, 3) := by decide +kernel
theorem dX7_anew_26 : decode cX7_anew 26 = .ok (.iload_n 1, 1) := by decide +kernel
theorem dX7_anew_27 : decode cX7_anew 27 = .ok (.invokevirtual 300, 3) := by decide +kernel
theorem dX7_anew_30 : decode cX7_anew 30 = .ok (.invokevirtual 100, 3) := by decide +kernel
theorem dX7_anew_33 : decode cX7_anew 33 = .ok (.ireturn, 1) := by decide +kernel
theorem dX7_ticks_0 : decode cX7_ticks 0 = .ok (.aload_n 0, 1) := by decide +kernel
theorem dX7_ticks_1 : decode cX7_ticks 1 = .ok (.invokevirtual 103, 3) := by decide +kernel
theorem dX7_ticks_4 : decode cX7_ticks 4 = .ok (.ifCond .eq 9, 3) := by decide +kernel
theorem dX7_ticks_7 : decode cX7_ticks 7 = .ok (.aload_n 0, 1) := by decide +kernel
theorem dX7_ticks_8 : decode cX7_ticks 8 = .ok (.iconst 1, 1) := by decide +kernel
theorem dX7_ticks_9 : decode cX7_ticks 9 = .ok (.invokevirtual 64, 3) := by decide +kernel
theorem dX7_ticks_12 : decode cX7_ticks 12 = .ok (.ireturn, 1) := by decide +kernel
theorem dX7_ticks_13 : decode cX7_ticks 13 = .ok (.iload_n 1, 1) := by decide +kernel
theorem dX7_ticks_14 : decode cX7_ticks 14 = .ok (.invokestatic 303, 3) := by decide +kernel
theorem dX7_ticks_17 : decode cX7_ticks 17 = .ok (.ifCond .ne 9, 3) := by decide +kernel
theorem dX7_ticks_20 : decode cX7_ticks 20 = .ok (.aload_n 0, 1) := by decide +kernel
theorem dX7_ticks_21 : decode cX7_ticks 21 = .ok (.iconst 2, 1) := by decide +kernel
theorem dX7_ticks_22 : decode cX7_ticks 22 = .ok (.invokevirtual 64, 3) := by decide +kernel
theorem dX7_ticks_25 : decode cX7_ticks 25 = .ok (.ireturn, 1) := by decide +kernel
theorem dX7_ticks_26 : decode cX7_ticks 26 = .ok (.aload_n 0, 1) := by decide +kernel
theorem dX7_ticks_27 : decode cX7_ticks 27 = .ok (.getfield 33, 3) := by decide +kernel
theorem dX7_ticks_30 : decode cX7_ticks 30 = .ok (.getfield 240, 3) := by decide +kernel
theorem dX7_ticks_33 : decode cX7_ticks 33 = .ok (.getfield 306, 3) := by decide +kernel
theorem dX7_ticks_36 : decode cX7_ticks 36 = .ok (.istore_n 2, 1) := by decide +kernel
theorem dX7_ticks_37 : decode cX7_ticks 37 = .ok (.aload_n 0, 1) := by decide +kernel
theorem dX7_ticks_38 : decode cX7_ticks 38 = .ok (.getfield 33, 3) := by decide +kernel
theorem dX7_ticks_41 : decode cX7_ticks 41 = .ok (.aload_n 0, 1) := by decide +kernel
theorem dX7_ticks_42 : decode cX7_ticks 42 = .ok (.getfield 19, 3) := by decide +kernel
theorem dX7_ticks_45 : decode cX7_ticks 45 = .ok (.iload_n 1, 1) := by decide +kernel
theorem dX7_ticks_46 : decode cX7_ticks 46 = .ok (.invokevirtual 309, 3) := by decide +kernel
theorem dX7_ticks_49 : decode cX7_ticks 49 = .ok (.aload_n 0, 1) := by decide +kernel
theorem dX7_ticks_50 : decode cX7_ticks 50 = .ok (.aload_n 0, 1) := by decide +kernel
theorem dX7_ticks_51 : decode cX7_ticks 51 = .ok (.getfield 33, 3) := by decide +kernel
theorem dX7_ticks_54 : decode cX7_ticks 54 = .ok (.getfield 240, 3) := by decide +kernel
theorem dX7_ticks_57 : decode cX7_ticks 57 = .ok (.getfield 306, 3) := by decide +kernel
theorem dX7_ticks_60 : decode cX7_ticks 60 = .ok (.iload_n 2, 1) := by decide +kernel
theorem dX7_ticks_61 : decode cX7_ticks 61 = .ok (.isub, 1) := by decide +kernel
theorem dX7_ticks_62 : decode cX7_ticks 62 = .ok (.invokevirtual 100, 3) := by decide +kernel
theorem dX7_ticks_65 : decode cX7_ticks 65 = .ok (.ireturn, 1) := by decide +kernel
theorem dX7_willHear_0 : decode cX7_willHear 0 = .ok (.aload_n 0, 1) := by decide +kernel
theorem dX7_willHear_1 : decode cX7_willHear 1 = .ok (.getfield 19, 3) := by decide +kernel
theorem dX7_willHear_4 : decode cX7_willHear 4 = .ok (.iload_n 2, 1) := by decide +kernel
theorem dX7_willHear_5 : decode cX7_willHear 5 = .ok (.iload_n 3, 1) := by decide +kernel
theorem dX7_willHear_6 : decode cX7_willHear 6 = .ok (.invokevirtual 151, 3) := by decide +kernel
theorem dX7_willHear_9 : decode cX7_willHear 9 = .ok (.ifCond .eq 11, 3) := by decide +kernel
theorem dX7_willHear_12 : decode cX7_willHear 12 = .ok (.iload 4, 2) := by decide +kernel
theorem dX7_willHear_14 : decode cX7_willHear 14 = .ok (.invokestatic 235, 3) := by decide +kernel
theorem dX7_willHear_17 : decode cX7_willHear 17 = .ok (.ifCond .ne 9, 3) := by decide +kernel
theorem dX7_willHear_20 : decode cX7_willHear 20 = .ok (.aload_n 0, 1) := by decide +kernel
theorem dX7_willHear_21 : decode cX7_willHear 21 = .ok (.iconst 1, 1) := by decide +kernel
theorem dX7_willHear_22 : decode cX7_willHear 22 = .ok (.invokevirtual 64, 3) := by decide +kernel
theorem dX7_willHear_25 : decode cX7_willHear 25 = .ok (.ireturn, 1) := by decide +kernel
theorem dX7_willHear_26 : decode cX7_willHear 26 = .ok (.iload_n 1, 1) := by decide +kernel
theorem dX7_willHear_27 : decode cX7_willHear 27 = .ok (.invokestatic 303, 3) := by decide +kernel
theorem dX7_willHear_30 : decode cX7_willHear 30 = .ok (.ifCond .ne 9, 3) := by decide +kernel
theorem dX7_willHear_33 : decode cX7_willHear 33 = .ok (.aload_n 0, 1) := by decide +kernel
theorem dX7_willHear_34 : decode cX7_willHear 34 = .ok (.iconst 2, 1) := by decide +kernel
theorem dX7_willHear_35 : decode cX7_willHear 35 = .ok (.invokevirtual 64, 3) := by decide +kernel
theorem dX7_willHear_38 : decode cX7_willHear 38 = .ok (.ireturn, 1) := by decide +kernel
theorem dX7_willHear_39 : decode cX7_willHear 39 = .ok (.aload_n 0, 1) := by decide +kernel
theorem dX7_willHear_40 : decode cX7_willHear 40 = .ok (.getfield 40, 3) := by decide +kernel
theorem dX7_willHear_43 : decode cX7_willHear 43 = .ok (.aload_n 0, 1) := by decide +kernel
theorem dX7_willHear_44 : decode cX7_willHear 44 = .ok (.getfield 33, 3) := by decide +kernel
theorem dX7_willHear_47 : decode cX7_willHear 47 = .ok (.invokevirtual 313, 3) := by decide +kernel
theorem dX7_willHear_50 : decode cX7_willHear 50 = .ok (.aload_n 0, 1) := by decide +kernel
theorem dX7_willHear_51 : decode cX7_willHear 51 = .ok (.getfield 40, 3) := by decide +kernel
theorem dX7_willHear_54 : decode cX7_willHear 54 = .ok (.aload_n 0, 1) := by decide +kernel
theorem dX7_willHear_55 : decode cX7_willHear 55 = .ok (.getfield 19, 3) := by decide +kernel
theorem dX7_willHear_58 : decode cX7_willHear 58 = .ok (.iload_n 1, 1) := by decide +kernel
theorem dX7_willHear_59 : decode cX7_willHear 59 = .ok (.invokevirtual 309, 3) := by decide +kernel
theorem dX7_willHear_62 : decode cX7_willHear 62 = .ok (.aload_n 0, 1) := by decide +kernel
theorem dX7_willHear_63 : decode cX7_willHear 63 = .ok (.aload_n 0, 1) := by decide +kernel
theorem dX7_willHear_64 : decode cX7_willHear 64 = .ok (.getfield 40, 3) := by decide +kernel
theorem dX7_willHear_67 : decode cX7_willHear 67 = .ok (.getfield 240, 3) := by decide +kernel
theorem dX7_willHear_70 : decode cX7_willHear 70 = .ok (.iload_n 2, 1) := by decide +kernel
theorem dX7_willHear_71 : decode cX7_willHear 71 = .ok (.iload_n 3, 1) := by decide +kernel
theorem dX7_willHear_72 : decode cX7_willHear 72 = .ok (.invokestatic 158, 3) := by decide +kernel
theorem dX7_willHear_75 : decode cX7_willHear 75 = .ok (.iload 4, 2) := by decide +kernel
theorem dX7_willHear_77 : decode cX7_willHear 77 = .ok (.invokevirtual 244, 3) := by decide +kernel
theorem dX7_willHear_80 : decode cX7_willHear 80 = .ok (.invokevirtual 100, 3) := by decide +kernel
theorem dX7_willHear_83 : decode cX7_willHear 83 = .ok (.ireturn, 1) := by decide +kernel
theorem dX7_willLose_0 : decode cX7_willLose 0 = .ok (.aload_n 0, 1) := by decide +kernel
theorem dX7_willLose_1 : decode cX7_willLose 1 = .ok (.invokevirtual 103, 3) := by decide +kernel
theorem dX7_willLose_4 : decode cX7_willLose 4 = .ok (.ifCond .ne 17, 3) := by decide +kernel
theorem dX7_willLose_7 : decode cX7_willLose 7 = .ok (.iload_n 2, 1) := by decide +kernel
theorem dX7_willLose_8 : decode cX7_willLose 8 = .ok (.invokestatic 191, 3) := by decide +kernel
theorem dX7_willLose_11 : decode cX7_willLose 11 = .ok (.ifCond .eq 10, 3) := by decide +kernel
theorem dX7_willLose_14 : decode cX7_willLose 14 = .ok (.iload_n 3, 1) := by decide +kernel
theorem dX7_willLose_15 : decode cX7_willLose 15 = .ok (.invokestatic 226, 3) := by decide +kernel
theorem dX7_willLose_18 : decode cX7_willLose 18 = .ok (.ifCond .ne 9, 3) := by decide +kernel
theorem dX7_willLose_21 : decode cX7_willLose 21 = .ok (.aload_n 0, 1) := by decide +kernel
theorem dX7_willLose_22 : decode cX7_willLose 22 = .ok (.iconst 1, 1) := by decide +kernel
theorem dX7_willLose_23 : decode cX7_willLose 23 = .ok (.invokevirtual 64, 3) := by decide +kernel
theorem dX7_willLose_26 : decode cX7_willLose 26 = .ok (.ireturn, 1) := by decide +kernel
theorem dX7_willLose_27 : decode cX7_willLose 27 = .ok (.iload_n 1, 1) := by decide +kernel
theorem dX7_willLose_28 : decode cX7_willLose 28 = .ok (.invokestatic 303, 3) := by decide +kernel
theorem dX7_willLose_31 : decode cX7_willLose 31 = .ok (.ifCond .ne 9, 3) := by decide +kernel
theorem dX7_willLose_34 : decode cX7_willLose 34 = .ok (.aload_n 0, 1) := by decide +kernel
theorem dX7_willLose_35 : decode cX7_willLose 35 = .ok (.iconst 2, 1) := by decide +kernel
theorem dX7_willLose_36 : decode cX7_willLose 36 = .ok (.invokevirtual 64, 3) := by decide +kernel
theorem dX7_willLose_39 : decode cX7_willLose 39 = .ok (.ireturn, 1) := by decide +kernel
theorem dX7_willLose_40 : decode cX7_willLose 40 = .ok (.aload_n 0, 1) := by decide +kernel
theorem dX7_willLose_41 : decode cX7_willLose 41 = .ok (.getfield 40, 3) := by decide +kernel
theorem dX7_willLose_44 : decode cX7_willLose 44 = .ok (.aload_n 0, 1) := by decide +kernel
theorem dX7_willLose_45 : decode cX7_willLose 45 = .ok (.getfield 33, 3) := by decide +kernel
theorem dX7_willLose_48 : decode cX7_willLose 48 = .ok (.invokevirtual 313, 3) := by decide +kernel
theorem dX7_willLose_51 : decode cX7_willLose 51 = .ok (.aload_n 0, 1) := by decide +kernel
theorem dX7_willLose_52 : decode cX7_willLose 52 = .ok (.getfield 40, 3) := by decide +kernel
theorem dX7_willLose_55 : decode cX7_willLose 55 = .ok (.aload_n 0, 1) := by decide +kernel
theorem dX7_willLose_56 : decode cX7_willLose 56 = .ok (.getfield 19, 3) := by decide +kernel
theorem dX7_willLose_59 : decode cX7_willLose 59 = .ok (.iload_n 1, 1) := by decide +kernel
theorem dX7_willLose_60 : decode cX7_willLose 60 = .ok (.invokevirtual 309, 3) := by decide +kernel
theorem dX7_willLose_63 : decode cX7_willLose 63 = .ok (.aload_n 0, 1) := by decide +kernel
theorem dX7_willLose_64 : decode cX7_willLose 64 = .ok (.aload_n 0, 1) := by decide +kernel
theorem dX7_willLose_65 : decode cX7_willLose 65 = .ok (.getfield 40, 3) := by decide +kernel
theorem dX7_willLose_68 : decode cX7_willLose 68 = .ok (.getfield 229, 3) := by decide +kernel
theorem dX7_willLose_71 : decode cX7_willLose 71 = .ok (.iload_n 2, 1) := by decide +kernel
theorem dX7_willLose_72 : decode cX7_willLose 72 = .ok (.iconst 3, 1) := by decide +kernel
theorem dX7_willLose_73 : decode cX7_willLose 73 = .ok (.imul, 1) := by decide +kernel
theorem dX7_willLose_74 : decode cX7_willLose 74 = .ok (.iload_n 3, 1) := by decide +kernel
theorem dX7_willLose_75 : decode cX7_willLose 75 = .ok (.iadd, 1) := by decide +kernel
theorem dX7_willLose_76 : decode cX7_willLose 76 = .ok (.iaload, 1) := by decide +kernel
theorem dX7_willLose_77 : decode cX7_willLose 77 = .ok (.invokevirtual 100, 3) := by decide +kernel
theorem dX7_willLose_80 : decode cX7_willLose 80 = .ok (.ireturn, 1) := by decide +kernel
theorem dX7_quiet_0 : decode cX7_quiet 0 = .ok (.aload_n 0, 1) := by decide +kernel
theorem dX7_quiet_1 : decode cX7_quiet 1 = .ok (.invokevirtual 103, 3) := by decide +kernel
theorem dX7_quiet_4 : decode cX7_quiet 4 = .ok (.ifCond .eq 9, 3) := by decide +kernel
theorem dX7_quiet_7 : decode cX7_quiet 7 = .ok (.aload_n 0, 1) := by decide +kernel
theorem dX7_quiet_8 : decode cX7_quiet 8 = .ok (.iconst 1, 1) := by decide +kernel
theorem dX7_quiet_9 : decode cX7_quiet 9 = .ok (.invokevirtual 64, 3) := by decide +kernel
theorem dX7_quiet_12 : decode cX7_quiet 12 = .ok (.ireturn, 1) := by decide +kernel
theorem dX7_quiet_13 : decode cX7_quiet 13 = .ok (.aload_n 0, 1) := by decide +kernel
theorem dX7_quiet_14 : decode cX7_quiet 14 = .ok (.getfield 40, 3) := by decide +kernel
theorem dX7_quiet_17 : decode cX7_quiet 17 = .ok (.aload_n 0, 1) := by decide +kernel
theorem dX7_quiet_18 : decode cX7_quiet 18 = .ok (.getfield 33, 3) := by decide +kernel
theorem dX7_quiet_21 : decode cX7_quiet 21 = .ok (.invokevirtual 313, 3) := by decide +kernel
theorem dX7_quiet_24 : decode cX7_quiet 24 = .ok (.aload_n 0, 1) := by decide +kernel
theorem dX7_quiet_25 : decode cX7_quiet 25 = .ok (.getfield 33, 3) := by decide +kernel
theorem dX7_quiet_28 : decode cX7_quiet 28 = .ok (.getfield 125, 3) := by decide +kernel
theorem dX7_quiet_31 : decode cX7_quiet 31 = .ok (.sipush 2000, 3) := by decide +kernel
theorem dX7_quiet_34 : decode cX7_quiet 34 = .ok (.iadd, 1) := by decide +kernel
theorem dX7_quiet_35 : decode cX7_quiet 35 = .ok (.istore_n 1, 1) := by decide +kernel
theorem dX7_quiet_36 : decode cX7_quiet 36 = .ok (.iconst 0, 1) := by decide +kernel
theorem dX7_quiet_37 : decode cX7_quiet 37 = .ok (.istore_n 2, 1) := by decide +kernel
theorem dX7_quiet_38 : decode cX7_quiet 38 = .ok (.iload_n 2, 1) := by decide +kernel
theorem dX7_quiet_39 : decode cX7_quiet 39 = .ok (.sipush 2000, 3) := by decide +kernel
theorem dX7_quiet_42 : decode cX7_quiet 42 = .ok (.if_icmp .ge 42, 3) := by decide +kernel
theorem dX7_quiet_45 : decode cX7_quiet 45 = .ok (.aload_n 0, 1) := by decide +kernel
theorem dX7_quiet_46 : decode cX7_quiet 46 = .ok (.getfield 40, 3) := by decide +kernel
theorem dX7_quiet_49 : decode cX7_quiet 49 = .ok (.getfield 125, 3) := by decide +kernel
theorem dX7_quiet_52 : decode cX7_quiet 52 = .ok (.iload_n 1, 1) := by decide +kernel
theorem dX7_quiet_53 : decode cX7_quiet 53 = .ok (.if_icmp .ge 31, 3) := by decide +kernel
theorem dX7_quiet_56 : decode cX7_quiet 56 = .ok (.aload_n 0, 1) := by decide +kernel
theorem dX7_quiet_57 : decode cX7_quiet 57 = .ok (.getfield 40, 3) := by decide +kernel
theorem dX7_quiet_60 : decode cX7_quiet 60 = .ok (.invokevirtual 317, 3) := by decide +kernel
theorem dX7_quiet_63 : decode cX7_quiet 63 = .ok (.ifCond .ne 21, 3) := by decide +kernel
theorem dX7_quiet_66 : decode cX7_quiet 66 = .ok (.aload_n 0, 1) := by decide +kernel
theorem dX7_quiet_67 : decode cX7_quiet 67 = .ok (.getfield 40, 3) := by decide +kernel
theorem dX7_quiet_70 : decode cX7_quiet 70 = .ok (.aload_n 0, 1) := by decide +kernel
theorem dX7_quiet_71 : decode cX7_quiet 71 = .ok (.getfield 19, 3) := by decide +kernel
theorem dX7_quiet_74 : decode cX7_quiet 74 = .ok (.iload_n 1, 1) := by decide +kernel
theorem dX7_quiet_75 : decode cX7_quiet 75 = .ok (.invokevirtual 320, 3) := by decide +kernel
theorem dX7_quiet_78 : decode cX7_quiet 78 = .ok (.iinc 2 1, 3) := by decide +kernel
theorem dX7_quiet_81 : decode cX7_quiet 81 = .ok (.goto (-43), 3) := by decide +kernel
theorem dX7_quiet_84 : decode cX7_quiet 84 = .ok (.aload_n 0, 1) := by decide +kernel
theorem dX7_quiet_85 : decode cX7_quiet 85 = .ok (.aload_n 0, 1) := by decide +kernel
theorem dX7_quiet_86 : decode cX7_quiet 86 = .ok (.getfield 40, 3) := by decide +kernel
theorem dX7_quiet_89 : decode cX7_quiet 89 = .ok (.invokevirtual 317, 3) := by decide +kernel
theorem dX7_quiet_92 : decode cX7_quiet 92 = .ok (.ifCond .eq 21, 3) := by decide +kernel
theorem dX7_quiet_95 : decode cX7_quiet 95 = .ok (.aload_n 0, 1) := by decide +kernel
theorem dX7_quiet_96 : decode cX7_quiet 96 = .ok (.getfield 40, 3) := by decide +kernel
theorem dX7_quiet_99 : decode cX7_quiet 99 = .ok (.getfield 125, 3) := by decide +kernel
theorem dX7_quiet_102 : decode cX7_quiet 102 = .ok (.aload_n 0, 1) := by decide +kernel
theorem dX7_quiet_103 : decode cX7_quiet 103 = .ok (.getfield 33, 3) := by decide +kernel
theorem dX7_quiet_106 : decode cX7_quiet 106 = .ok (.getfield 125, 3) := by decide +kernel
theorem dX7_quiet_109 : decode cX7_quiet 109 = .ok (.isub, 1) := by decide +kernel
theorem dX7_quiet_110 : decode cX7_quiet 110 = .ok (.goto 5, 3) := by decide +kernel
theorem dX7_quiet_113 : decode cX7_quiet 113 = .ok (.bipush (-2), 2) := by decide +kernel
theorem dX7_quiet_115 : decode cX7_quiet 115 = .ok (.invokevirtual 100, 3) := by decide +kernel
theorem dX7_quiet_118 : decode cX7_quiet 118 = .ok (.ireturn, 1) := by decide +kernel
theorem dX7_keep_0 : decode cX7_keep 0 = .ok (.aload_n 0, 1) := by decide +kernel
theorem dX7_keep_1 : decode cX7_keep 1 = .ok (.invokevirtual 103, 3) := by decide +kernel
theorem dX7_keep_4 : decode cX7_keep 4 = .ok (.ifCond .eq 11, 3) := by decide +kernel
theorem dX7_keep_7 : decode cX7_keep 7 = .ok (.aload_n 0, 1) := by decide +kernel
theorem dX7_keep_8 : decode cX7_keep 8 = .ok (.iconst 1, 1) := by decide +kernel
theorem dX7_keep_9 : decode cX7_keep 9 = .ok (.invokevirtual 64, 3) := by decide +kernel
theorem dX7_keep_12 : decode cX7_keep 12 = .ok (.pop, 1) := by decide +kernel
theorem dX7_keep_13 : decode cX7_keep 13 = .ok (.iconst 0, 1) := by decide +kernel
theorem dX7_keep_14 : decode cX7_keep 14 = .ok (.ireturn, 1) := by decide +kernel
theorem dX7_keep_15 : decode cX7_keep 15 = .ok (.aload_n 0, 1) := by decide +kernel
theorem dX7_keep_16 : decode cX7_keep 16 = .ok (.getfield 37, 3) := by decide +kernel
theorem dX7_keep_19 : decode cX7_keep 19 = .ok (.aload_n 0, 1) := by decide +kernel
theorem dX7_keep_20 : decode cX7_keep 20 = .ok (.getfield 33, 3) := by decide +kernel
theorem dX7_keep_23 : decode cX7_keep 23 = .ok (.invokevirtual 313, 3) := by decide +kernel
theorem dX7_keep_26 : decode cX7_keep 26 = .ok (.aload_n 0, 1) := by decide +kernel
theorem dX7_keep_27 : decode cX7_keep 27 = .ok (.iconst 1, 1) := by decide +kernel
theorem dX7_keep_28 : decode cX7_keep 28 = .ok (.putfield 43, 3) := by decide +kernel
theorem dX7_keep_31 : decode cX7_keep 31 = .ok (.aload_n 0, 1) := by decide +kernel
theorem dX7_keep_32 : decode cX7_keep 32 = .ok (.iconst 0, 1) := by decide +kernel
theorem dX7_keep_33 : decode cX7_keep 33 = .ok (.putfield 47, 3) := by decide +kernel
theorem dX7_keep_36 : decode cX7_keep 36 = .ok (.iconst 1, 1) := by decide +kernel
theorem dX7_keep_37 : decode cX7_keep 37 = .ok (.ireturn, 1) := by decide +kernel
theorem dX7_back_0 : decode cX7_back 0 = .ok (.aload_n 0, 1) := by decide +kernel
theorem dX7_back_1 : decode cX7_back 1 = .ok (.getfield 43, 3) := by decide +kernel
theorem dX7_back_4 : decode cX7_back 4 = .ok (.ifCond .ne 11, 3) := by decide +kernel
theorem dX7_back_7 : decode cX7_back 7 = .ok (.aload_n 0, 1) := by decide +kernel
theorem dX7_back_8 : decode cX7_back 8 = .ok (.iconst 1, 1) := by decide +kernel
theorem dX7_back_9 : decode cX7_back 9 = .ok (.invokevirtual 64, 3) := by decide +kernel
theorem dX7_back_12 : decode cX7_back 12 = .ok (.pop, 1) := by decide +kernel
theorem dX7_back_13 : decode cX7_back 13 = .ok (.iconst 0, 1) := by decide +kernel
theorem dX7_back_14 : decode cX7_back 14 = .ok (.ireturn, 1) := by decide +kernel
theorem dX7_back_15 : decode cX7_back 15 = .ok (.aload_n 0, 1) := by decide +kernel
theorem dX7_back_16 : decode cX7_back 16 = .ok (.getfield 33, 3) := by decide +kernel
theorem dX7_back_19 : decode cX7_back 19 = .ok (.aload_n 0, 1) := by decide +kernel
theorem dX7_back_20 : decode cX7_back 20 = .ok (.getfield 37, 3) := by decide +kernel
theorem dX7_back_23 : decode cX7_back 23 = .ok (.invokevirtual 313, 3) := by decide +kernel
theorem dX7_back_26 : decode cX7_back 26 = .ok (.aload_n 0, 1) := by decide +kernel
theorem dX7_back_27 : decode cX7_back 27 = .ok (.iconst 0, 1) := by decide +kernel
theorem dX7_back_28 : decode cX7_back 28 = .ok (.putfield 47, 3) := by decide +kernel
theorem dX7_back_31 : decode cX7_back 31 = .ok (.iconst 1, 1) := by decide +kernel
theorem dX7_back_32 : decode cX7_back 32 = .ok (.ireturn, 1) := by decide +kernel
theorem dX7_silent_0 : decode cX7_silent 0 = .ok (.iload_n 1, 1) := by decide +kernel
theorem dX7_silent_1 : decode cX7_silent 1 = .ok (.istore_n 2, 1) := by decide +kernel
theorem dX7_silent_2 : decode cX7_silent 2 = .ok (.iconst 0, 1) := by decide +kernel
theorem dX7_silent_3 : decode cX7_silent 3 = .ok (.istore_n 3, 1) := by decide +kernel
theorem dX7_silent_4 : decode cX7_silent 4 = .ok (.iload_n 3, 1) := by decide +kernel
theorem dX7_silent_5 : decode cX7_silent 5 = .ok (.aload_n 0, 1) := by decide +kernel
theorem dX7_silent_6 : decode cX7_silent 6 = .ok (.getfield 19, 3) := by decide +kernel
theorem dX7_silent_9 : decode cX7_silent 9 = .ok (.getfield 97, 3) := by decide +kernel
theorem dX7_silent_12 : decode cX7_silent 12 = .ok (.if_icmp .ge 41, 3) := by decide +kernel
theorem dX7_silent_15 : decode cX7_silent 15 = .ok (.aload_n 0, 1) := by decide +kernel
theorem dX7_silent_16 : decode cX7_silent 16 = .ok (.getfield 33, 3) := by decide +kernel
theorem dX7_silent_19 : decode cX7_silent 19 = .ok (.getfield 240, 3) := by decide +kernel
theorem dX7_silent_22 : decode cX7_silent 22 = .ok (.iload_n 3, 1) := by decide +kernel
theorem dX7_silent_23 : decode cX7_silent 23 = .ok (.aload_n 0, 1) := by decide +kernel
theorem dX7_silent_24 : decode cX7_silent 24 = .ok (.getfield 19, 3) := by decide +kernel
theorem dX7_silent_27 : decode cX7_silent 27 = .ok (.getfield 148, 3) := by decide +kernel
theorem dX7_silent_30 : decode cX7_silent 30 = .ok (.iload_n 3, 1) := by decide +kernel
theorem dX7_silent_31 : decode cX7_silent 31 = .ok (.iaload, 1) := by decide +kernel
theorem dX7_silent_32 : decode cX7_silent 32 = .ok (.invokevirtual 323, 3) := by decide +kernel
theorem dX7_silent_35 : decode cX7_silent 35 = .ok (.ifCond .ne 12, 3) := by decide +kernel
theorem dX7_silent_38 : decode cX7_silent 38 = .ok (.iload_n 2, 1) := by decide +kernel
theorem dX7_silent_39 : decode cX7_silent 39 = .ok (.ifCond .ne 5, 3) := by decide +kernel
theorem dX7_silent_42 : decode cX7_silent 42 = .ok (.iload_n 3, 1) := by decide +kernel
theorem dX7_silent_43 : decode cX7_silent 43 = .ok (.ireturn, 1) := by decide +kernel
theorem dX7_silent_44 : decode cX7_silent 44 = .ok (.iinc 2 (-1), 3) := by decide +kernel
theorem dX7_silent_47 : decode cX7_silent 47 = .ok (.iinc 3 1, 3) := by decide +kernel
theorem dX7_silent_50 : decode cX7_silent 50 = .ok (.goto (-46), 3) := by decide +kernel
theorem dX7_silent_53 : decode cX7_silent 53 = .ok (.new 326, 3) := by decide +kernel
theorem dX7_silent_56 : decode cX7_silent 56 = .ok (.dup, 1) := by decide +kernel
theorem dX7_silent_57 : decode cX7_silent 57 = .ok (.invokespecial 328, 3) := by decide +kernel
theorem dX7_silent_60 : decode cX7_silent 60 = .ok (.athrow, 1) := by decide +kernel
theorem dX7_size_0 : decode cX7_size 0 = .ok (.iload_n 1, 1) := by decide +kernel
theorem dX7_size_1 : decode cX7_size 1 = .ok (.tableswitch 83 0 4 #[35, 43, 51, 59, 70], 35) := by decide +kernel
theorem dX7_size_36 : decode cX7_size 36 = .ok (.aload_n 0, 1) := by decide +kernel
theorem dX7_size_37 : decode cX7_size 37 = .ok (.getfield 12, 3) := by decide +kernel
theorem dX7_size_40 : decode cX7_size 40 = .ok (.getfield 57, 3) := by decide +kernel
theorem dX7_size_43 : decode cX7_size 43 = .ok (.ireturn, 1) := by decide +kernel
theorem dX7_size_44 : decode cX7_size 44 = .ok (.aload_n 0, 1) := by decide +kernel
theorem dX7_size_45 : decode cX7_size 45 = .ok (.getfield 19, 3) := by decide +kernel
theorem dX7_size_48 : decode cX7_size 48 = .ok (.invokevirtual 329, 3) := by decide +kernel
theorem dX7_size_51 : decode cX7_size 51 = .ok (.ireturn, 1) := by decide +kernel
theorem dX7_size_52 : decode cX7_size 52 = .ok (.aload_n 0, 1) := by decide +kernel
theorem dX7_size_53 : decode cX7_size 53 = .ok (.getfield 33, 3) := by decide +kernel
theorem dX7_size_56 : decode cX7_size 56 = .ok (.invokevirtual 332, 3) := by decide +kernel
theorem dX7_size_59 : decode cX7_size 59 = .ok (.ireturn, 1) := by decide +kernel
theorem dX7_size_60 : decode cX7_size 60 = .ok (.aload_n 0, 1) := by decide +kernel
theorem dX7_size_61 : decode cX7_size 61 = .ok (.getfield 33, 3) := by decide +kernel
theorem dX7_size_64 : decode cX7_size 64 = .ok (.getfield 200, 3) := by decide +kernel
theorem dX7_size_67 : decode cX7_size 67 = .ok (.getfield 335, 3) := by decide +kernel
theorem dX7_size_70 : decode cX7_size 70 = .ok (.ireturn, 1) := by decide +kernel
theorem dX7_size_71 : decode cX7_size 71 = .ok (.aload_n 0, 1) := by decide +kernel
theorem dX7_size_72 : decode cX7_size 72 = .ok (.getfield 43, 3) := by decide +kernel
theorem dX7_size_75 : decode cX7_size 75 = .ok (.ifCond .eq 7, 3) := by decide +kernel
theorem dX7_size_78 : decode cX7_size 78 = .ok (.iconst 1, 1) := by decide +kernel
