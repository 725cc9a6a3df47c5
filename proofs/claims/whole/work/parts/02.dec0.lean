theorem dX0_init_0 : decode cX0_init 0 = .ok (.aload_n 0, 1) := by decide +kernel
theorem dX0_init_1 : decode cX0_init 1 = .ok (.invokespecial 3, 3) := by decide +kernel
theorem dX0_init_4 : decode cX0_init 4 = .ok (.aload_n 0, 1) := by decide +kernel
theorem dX0_init_5 : decode cX0_init 5 = .ok (.iconst 0, 1) := by decide +kernel
theorem dX0_init_6 : decode cX0_init 6 = .ok (.putfield 9, 3) := by decide +kernel
theorem dX0_init_9 : decode cX0_init 9 = .ok (.aload_n 0, 1) := by decide +kernel
theorem dX0_init_10 : decode cX0_init 10 = .ok (.bipush 24, 2) := by decide +kernel
theorem dX0_init_12 : decode cX0_init 12 = .ok (.newarray .int, 2) := by decide +kernel
theorem dX0_init_14 : decode cX0_init 14 = .ok (.putfield 15, 3) := by decide +kernel
theorem dX0_init_17 : decode cX0_init 17 = .ok (.aload_n 0, 1) := by decide +kernel
theorem dX0_init_18 : decode cX0_init 18 = .ok (.bipush 24, 2) := by decide +kernel
theorem dX0_init_20 : decode cX0_init 20 = .ok (.newarray .int, 2) := by decide +kernel
theorem dX0_init_22 : decode cX0_init 22 = .ok (.putfield 19, 3) := by decide +kernel
theorem dX0_init_25 : decode cX0_init 25 = .ok (.aload_n 0, 1) := by decide +kernel
theorem dX0_init_26 : decode cX0_init 26 = .ok (.bipush 24, 2) := by decide +kernel
theorem dX0_init_28 : decode cX0_init 28 = .ok (.newarray .int, 2) := by decide +kernel
theorem dX0_init_30 : decode cX0_init 30 = .ok (.putfield 22, 3) := by decide +kernel
theorem dX0_init_33 : decode cX0_init 33 = .ok (.aload_n 0, 1) := by decide +kernel
theorem dX0_init_34 : decode cX0_init 34 = .ok (.bipush 24, 2) := by decide +kernel
theorem dX0_init_36 : decode cX0_init 36 = .ok (.newarray .int, 2) := by decide +kernel
theorem dX0_init_38 : decode cX0_init 38 = .ok (.putfield 25, 3) := by decide +kernel
theorem dX0_init_41 : decode cX0_init 41 = .ok (.aload_n 0, 1) := by decide +kernel
theorem dX0_init_42 : decode cX0_init 42 = .ok (.bipush 24, 2) := by decide +kernel
theorem dX0_init_44 : decode cX0_init 44 = .ok (.newarray .int, 2) := by decide +kernel
theorem dX0_init_46 : decode cX0_init 46 = .ok (.putfield 28, 3) := by decide +kernel
theorem dX0_init_49 : decode cX0_init 49 = .ok (.aload_n 0, 1) := by decide +kernel
theorem dX0_init_50 : decode cX0_init 50 = .ok (.bipush 24, 2) := by decide +kernel
theorem dX0_init_52 : decode cX0_init 52 = .ok (.newarray .int, 2) := by decide +kernel
theorem dX0_init_54 : decode cX0_init 54 = .ok (.putfield 31, 3) := by decide +kernel
theorem dX0_init_57 : decode cX0_init 57 = .ok (.aload_n 0, 1) := by decide +kernel
theorem dX0_init_58 : decode cX0_init 58 = .ok (.bipush 24, 2) := by decide +kernel
theorem dX0_init_60 : decode cX0_init 60 = .ok (.newarray .int, 2) := by decide +kernel
theorem dX0_init_62 : decode cX0_init 62 = .ok (.putfield 34, 3) := by decide +kernel
theorem dX0_init_65 : decode cX0_init 65 = .ok (.aload_n 0, 1) := by decide +kernel
theorem dX0_init_66 : decode cX0_init 66 = .ok (.bipush 24, 2) := by decide +kernel
theorem dX0_init_68 : decode cX0_init 68 = .ok (.newarray .int, 2) := by decide +kernel
theorem dX0_init_70 : decode cX0_init 70 = .ok (.putfield 37, 3) := by decide +kernel
theorem dX0_init_73 : decode cX0_init 73 = .ok (.aload_n 0, 1) := by decide +kernel
theorem dX0_init_74 : decode cX0_init 74 = .ok (.bipush 48, 2) := by decide +kernel
theorem dX0_init_76 : decode cX0_init 76 = .ok (.newarray .int, 2) := by decide +kernel
theorem dX0_init_78 : decode cX0_init 78 = .ok (.putfield 40, 3) := by decide +kernel
theorem dX0_init_81 : decode cX0_init 81 = .ok (.aload_n 0, 1) := by decide +kernel
theorem dX0_init_82 : decode cX0_init 82 = .ok (.sipush 240, 3) := by decide +kernel
theorem dX0_init_85 : decode cX0_init 85 = .ok (.newarray .int, 2) := by decide +kernel
theorem dX0_init_87 : decode cX0_init 87 = .ok (.putfield 43, 3) := by decide +kernel
theorem dX0_init_90 : decode cX0_init 90 = .ok (.return_, 1) := by decide +kernel
theorem dX0_clear_0 : decode cX0_clear 0 = .ok (.aload_n 0, 1) := by decide +kernel
theorem dX0_clear_1 : decode cX0_clear 1 = .ok (.iconst 0, 1) := by decide +kernel
theorem dX0_clear_2 : decode cX0_clear 2 = .ok (.putfield 9, 3) := by decide +kernel
theorem dX0_clear_5 : decode cX0_clear 5 = .ok (.aload_n 0, 1) := by decide +kernel
theorem dX0_clear_6 : decode cX0_clear 6 = .ok (.getfield 15, 3) := by decide +kernel
theorem dX0_clear_9 : decode cX0_clear 9 = .ok (.iconst 0, 1) := by decide +kernel
theorem dX0_clear_10 : decode cX0_clear 10 = .ok (.invokestatic 46, 3) := by decide +kernel
theorem dX0_clear_13 : decode cX0_clear 13 = .ok (.aload_n 0, 1) := by decide +kernel
theorem dX0_clear_14 : decode cX0_clear 14 = .ok (.getfield 19, 3) := by decide +kernel
theorem dX0_clear_17 : decode cX0_clear 17 = .ok (.iconst 0, 1) := by decide +kernel
theorem dX0_clear_18 : decode cX0_clear 18 = .ok (.invokestatic 46, 3) := by decide +kernel
theorem dX0_clear_21 : decode cX0_clear 21 = .ok (.aload_n 0, 1) := by decide +kernel
theorem dX0_clear_22 : decode cX0_clear 22 = .ok (.getfield 22, 3) := by decide +kernel
theorem dX0_clear_25 : decode cX0_clear 25 = .ok (.iconst 0, 1) := by decide +kernel
theorem dX0_clear_26 : decode cX0_clear 26 = .ok (.invokestatic 46, 3) := by decide +kernel
theorem dX0_clear_29 : decode cX0_clear 29 = .ok (.aload_n 0, 1) := by decide +kernel
theorem dX0_clear_30 : decode cX0_clear 30 = .ok (.getfield 25, 3) := by decide +kernel
theorem dX0_clear_33 : decode cX0_clear 33 = .ok (.bipush (-2), 2) := by decide +kernel
theorem dX0_clear_35 : decode cX0_clear 35 = .ok (.invokestatic 46, 3) := by decide +kernel
theorem dX0_clear_38 : decode cX0_clear 38 = .ok (.aload_n 0, 1) := by decide +kernel
theorem dX0_clear_39 : decode cX0_clear 39 = .ok (.getfield 28, 3) := by decide +kernel
theorem dX0_clear_42 : decode cX0_clear 42 = .ok (.bipush (-2), 2) := by decide +kernel
theorem dX0_clear_44 : decode cX0_clear 44 = .ok (.invokestatic 46, 3) := by decide +kernel
theorem dX0_clear_47 : decode cX0_clear 47 = .ok (.aload_n 0, 1) := by decide +kernel
theorem dX0_clear_48 : decode cX0_clear 48 = .ok (.getfield 31, 3) := by decide +kernel
theorem dX0_clear_51 : decode cX0_clear 51 = .ok (.bipush (-2), 2) := by decide +kernel
theorem dX0_clear_53 : decode cX0_clear 53 = .ok (.invokestatic 46, 3) := by decide +kernel
theorem dX0_clear_56 : decode cX0_clear 56 = .ok (.aload_n 0, 1) := by decide +kernel
theorem dX0_clear_57 : decode cX0_clear 57 = .ok (.getfield 34, 3) := by decide +kernel
theorem dX0_clear_60 : decode cX0_clear 60 = .ok (.bipush (-2), 2) := by decide +kernel
theorem dX0_clear_62 : decode cX0_clear 62 = .ok (.invokestatic 46, 3) := by decide +kernel
theorem dX0_clear_65 : decode cX0_clear 65 = .ok (.aload_n 0, 1) := by decide +kernel
theorem dX0_clear_66 : decode cX0_clear 66 = .ok (.getfield 37, 3) := by decide +kernel
theorem dX0_clear_69 : decode cX0_clear 69 = .ok (.bipush (-2), 2) := by decide +kernel
theorem dX0_clear_71 : decode cX0_clear 71 = .ok (.invokestatic 46, 3) := by decide +kernel
theorem dX0_clear_74 : decode cX0_clear 74 = .ok (.aload_n 0, 1) := by decide +kernel
theorem dX0_clear_75 : decode cX0_clear 75 = .ok (.getfield 40, 3) := by decide +kernel
theorem dX0_clear_78 : decode cX0_clear 78 = .ok (.bipush (-2), 2) := by decide +kernel
theorem dX0_clear_80 : decode cX0_clear 80 = .ok (.invokestatic 46, 3) := by decide +kernel
theorem dX0_clear_83 : decode cX0_clear 83 = .ok (.return_, 1) := by decide +kernel
theorem dX0_copy_0 : decode cX0_copy 0 = .ok (.aload_n 0, 1) := by decide +kernel
theorem dX0_copy_1 : decode cX0_copy 1 = .ok (.aload_n 1, 1) := by decide +kernel
theorem dX0_copy_2 : decode cX0_copy 2 = .ok (.getfield 9, 3) := by decide +kernel
theorem dX0_copy_5 : decode cX0_copy 5 = .ok (.putfield 9, 3) := by decide +kernel
theorem dX0_copy_8 : decode cX0_copy 8 = .ok (.aload_n 1, 1) := by decide +kernel
theorem dX0_copy_9 : decode cX0_copy 9 = .ok (.getfield 15, 3) := by decide +kernel
theorem dX0_copy_12 : decode cX0_copy 12 = .ok (.aload_n 0, 1) := by decide +kernel
theorem dX0_copy_13 : decode cX0_copy 13 = .ok (.getfield 15, 3) := by decide +kernel
theorem dX0_copy_16 : decode cX0_copy 16 = .ok (.invokestatic 52, 3) := by decide +kernel
theorem dX0_copy_19 : decode cX0_copy 19 = .ok (.aload_n 1, 1) := by decide +kernel
theorem dX0_copy_20 : decode cX0_copy 20 = .ok (.getfield 19, 3) := by decide +kernel
theorem dX0_copy_23 : decode cX0_copy 23 = .ok (.aload_n 0, 1) := by decide +kernel
theorem dX0_copy_24 : decode cX0_copy 24 = .ok (.getfield 19, 3) := by decide +kernel
theorem dX0_copy_27 : decode cX0_copy 27 = .ok (.invokestatic 52, 3) := by decide +kernel
theorem dX0_copy_30 : decode cX0_copy 30 = .ok (.aload_n 1, 1) := by decide +kernel
theorem dX0_copy_31 : decode cX0_copy 31 = .ok (.getfield 22, 3) := by decide +kernel
theorem dX0_copy_34 : decode cX0_copy 34 = .ok (.aload_n 0, 1) := by decide +kernel
theorem dX0_copy_35 : decode cX0_copy 35 = .ok (.getfield 22, 3) := by decide +kernel
theorem dX0_copy_38 : decode cX0_copy 38 = .ok (.invokestatic 52, 3) := by decide +kernel
theorem dX0_copy_41 : decode cX0_copy 41 = .ok (.aload_n 1, 1) := by decide +kernel
theorem dX0_copy_42 : decode cX0_copy 42 = .ok (.getfield 25, 3) := by decide +kernel
theorem dX0_copy_45 : decode cX0_copy 45 = .ok (.aload_n 0, 1) := by decide +kernel
theorem dX0_copy_46 : decode cX0_copy 46 = .ok (.getfield 25, 3) := by decide +kernel
theorem dX0_copy_49 : decode cX0_copy 49 = .ok (.invokestatic 52, 3) := by decide +kernel
theorem dX0_copy_52 : decode cX0_copy 52 = .ok (.aload_n 1, 1) := by decide +kernel
theorem dX0_copy_53 : decode cX0_copy 53 = .ok (.getfield 28, 3) := by decide +kernel
theorem dX0_copy_56 : decode cX0_copy 56 = .ok (.aload_n 0, 1) := by decide +kernel
theorem dX0_copy_57 : decode cX0_copy 57 = .ok (.getfield 28, 3) := by decide +kernel
theorem dX0_copy_60 : decode cX0_copy 60 = .ok (.invokestatic 52, 3) := by decide +kernel
theorem dX0_copy_63 : decode cX0_copy 63 = .ok (.aload_n 1, 1) := by decide +kernel
theorem dX0_copy_64 : decode cX0_copy 64 = .ok (.getfield 31, 3) := by decide +kernel
theorem dX0_copy_67 : decode cX0_copy 67 = .ok (.aload_n 0, 1) := by decide +kernel
theorem dX0_copy_68 : decode cX0_copy 68 = .ok (.getfield 31, 3) := by decide +kernel
theorem dX0_copy_71 : decode cX0_copy 71 = .ok (.invokestatic 52, 3) := by decide +kernel
theorem dX0_copy_74 : decode cX0_copy 74 = .ok (.aload_n 1, 1) := by decide +kernel
theorem dX0_copy_75 : decode cX0_copy 75 = .ok (.getfield 34, 3) := by decide +kernel
theorem dX0_copy_78 : decode cX0_copy 78 = .ok (.aload_n 0, 1) := by decide +kernel
theorem dX0_copy_79 : decode cX0_copy 79 = .ok (.getfield 34, 3) := by decide +kernel
theorem dX0_copy_82 : decode cX0_copy 82 = .ok (.invokestatic 52, 3) := by decide +kernel
theorem dX0_copy_85 : decode cX0_copy 85 = .ok (.aload_n 1, 1) := by decide +kernel
theorem dX0_copy_86 : decode cX0_copy 86 = .ok (.getfield 37, 3) := by decide +kernel
theorem dX0_copy_89 : decode cX0_copy 89 = .ok (.aload_n 0, 1) := by decide +kernel
theorem dX0_copy_90 : decode cX0_copy 90 = .ok (.getfield 37, 3) := by decide +kernel
theorem dX0_copy_93 : decode cX0_copy 93 = .ok (.invokestatic 52, 3) := by decide +kernel
theorem dX0_copy_96 : decode cX0_copy 96 = .ok (.aload_n 1, 1) := by decide +kernel
theorem dX0_copy_97 : decode cX0_copy 97 = .ok (.getfield 40, 3) := by decide +kernel
theorem dX0_copy_100 : decode cX0_copy 100 = .ok (.aload_n 0, 1) := by decide +kernel
theorem dX0_copy_101 : decode cX0_copy 101 = .ok (.getfield 40, 3) := by decide +kernel
theorem dX0_copy_104 : decode cX0_copy 104 = .ok (.invokestatic 52, 3) := by decide +kernel
theorem dX0_copy_107 : decode cX0_copy 107 = .ok (.aload_n 1, 1) := by decide +kernel
theorem dX0_copy_108 : decode cX0_copy 108 = .ok (.getfield 43, 3) := by decide +kernel
theorem dX0_copy_111 : decode cX0_copy 111 = .ok (.aload_n 0, 1) := by decide +kernel
theorem dX0_copy_112 : decode cX0_copy 112 = .ok (.getfield 43, 3) := by decide +kernel
theorem dX0_copy_115 : decode cX0_copy 115 = .ok (.invokestatic 52, 3) := by decide +kernel
theorem dX0_copy_118 : decode cX0_copy 118 = .ok (.return_, 1) := by decide +kernel
theorem dX0_tells_0 : decode cX0_tells 0 = .ok (.iload_n 0, 1) := by decide +kernel
theorem dX0_tells_1 : decode cX0_tells 1 = .ok (.ifCond .lt 13, 3) := by decide +kernel
theorem dX0_tells_4 : decode cX0_tells 4 = .ok (.iload_n 0, 1) := by decide +kernel
theorem dX0_tells_5 : decode cX0_tells 5 = .ok (.bipush 7, 2) := by decide +kernel
theorem dX0_tells_7 : decode cX0_tells 7 = .ok (.if_icmp .gt 7, 3) := by decide +kernel
theorem dX0_tells_10 : decode cX0_tells 10 = .ok (.iconst 1, 1) := by decide +kernel
theorem dX0_tells_11 : decode cX0_tells 11 = .ok (.goto 4, 3) := by decide +kernel
theorem dX0_tells_14 : decode cX0_tells 14 = .ok (.iconst 0, 1) := by decide +kernel
theorem dX0_tells_15 : decode cX0_tells 15 = .ok (.ireturn, 1) := by decide +kernel
theorem dX0_told_0 : decode cX0_told 0 = .ok (.iload_n 2, 1) := by decide +kernel
theorem dX0_told_1 : decode cX0_told 1 = .ok (.tableswitch 92 0 6 #[43, 50, 57, 64, 71, 78, 85], 43) := by decide +kernel
theorem dX0_told_44 : decode cX0_told 44 = .ok (.aload_n 0, 1) := by decide +kernel
theorem dX0_told_45 : decode cX0_told 45 = .ok (.getfield 15, 3) := by decide +kernel
theorem dX0_told_48 : decode cX0_told 48 = .ok (.iload_n 1, 1) := by decide +kernel
theorem dX0_told_49 : decode cX0_told 49 = .ok (.iaload, 1) := by decide +kernel
theorem dX0_told_50 : decode cX0_told 50 = .ok (.ireturn, 1) := by decide +kernel
theorem dX0_told_51 : decode cX0_told 51 = .ok (.aload_n 0, 1) := by decide +kernel
theorem dX0_told_52 : decode cX0_told 52 = .ok (.getfield 19, 3) := by decide +kernel
theorem dX0_told_55 : decode cX0_told 55 = .ok (.iload_n 1, 1) := by decide +kernel
theorem dX0_told_56 : decode cX0_told 56 = .ok (.iaload, 1) := by decide +kernel
theorem dX0_told_57 : decode cX0_told 57 = .ok (.ireturn, 1) := by decide +kernel
theorem dX0_told_58 : decode cX0_told 58 = .ok (.aload_n 0, 1) := by decide +kernel
theorem dX0_told_59 : decode cX0_told 59 = .ok (.getfield 22, 3) := by decide +kernel
theorem dX0_told_62 : decode cX0_told 62 = .ok (.iload_n 1, 1) := by decide +kernel
theorem dX0_told_63 : decode cX0_told 63 = .ok (.iaload, 1) := by decide +kernel
theorem dX0_told_64 : decode cX0_told 64 = .ok (.ireturn, 1) := by decide +kernel
theorem dX0_told_65 : decode cX0_told 65 = .ok (.aload_n 0, 1) := by decide +kernel
theorem dX0_told_66 : decode cX0_told 66 = .ok (.getfield 25, 3) := by decide +kernel
theorem dX0_told_69 : decode cX0_told 69 = .ok (.iload_n 1, 1) := by decide +kernel
theorem dX0_told_70 : decode cX0_told 70 = .ok (.iaload, 1) := by decide +kernel
theorem dX0_told_71 : decode cX0_told 71 = .ok (.ireturn, 1) := by decide +kernel
theorem dX0_told_72 : decode cX0_told 72 = .ok (.aload_n 0, 1) := by decide +kernel
theorem dX0_told_73 : decode cX0_told 73 = .ok (.getfield 28, 3) := by decide +kernel
theorem dX0_told_76 : decode cX0_told 76 = .ok (.iload_n 1, 1) := by decide +kernel
theorem dX0_told_77 : decode cX0_told 77 = .ok (.iaload, 1) := by decide +kernel
theorem dX0_told_78 : decode cX0_told 78 = .ok (.ireturn, 1) := by decide +kernel
theorem dX0_told_79 : decode cX0_told 79 = .ok (.aload_n 0, 1) := by decide +kernel
theorem dX0_told_80 : decode cX0_told 80 = .ok (.getfield 31, 3) := by decide +kernel
theorem dX0_told_83 : decode cX0_told 83 = .ok (.iload_n 1, 1) := by decide +kernel
theorem dX0_told_84 : decode cX0_told 84 = .ok (.iaload, 1) := by decide +kernel
theorem dX0_told_85 : decode cX0_told 85 = .ok (.ireturn, 1) := by decide +kernel
theorem dX0_told_86 : decode cX0_told 86 = .ok (.aload_n 0, 1) := by decide +kernel
theorem dX0_told_87 : decode cX0_told 87 = .ok (.getfield 34, 3) := by decide +kernel
theorem dX0_told_90 : decode cX0_told 90 = .ok (.iload_n 1, 1) := by decide +kernel
theorem dX0_told_91 : decode cX0_told 91 = .ok (.iaload, 1) := by decide +kernel
theorem dX0_told_92 : decode cX0_told 92 = .ok (.ireturn, 1) := by decide +kernel
theorem dX0_told_93 : decode cX0_told 93 = .ok (.aload_n 0, 1) := by decide +kernel
theorem dX0_told_94 : decode cX0_told 94 = .ok (.getfield 37, 3) := by decide +kernel
theorem dX0_told_97 : decode cX0_told 97 = .ok (.iload_n 1, 1) := by decide +kernel
theorem dX0_told_98 : decode cX0_told 98 = .ok (.iaload, 1) := by decide +kernel
theorem dX0_told_99 : decode cX0_told 99 = .ok (.ireturn, 1) := by decide +kernel
theorem dX0_remembers_0 : decode cX0_remembers 0 = .ok (.iload_n 2, 1) := by decide +kernel
theorem dX0_remembers_1 : decode cX0_remembers 1 = .ok (.ifCond .lt 22, 3) := by decide +kernel
theorem dX0_remembers_4 : decode cX0_remembers 4 = .ok (.iload_n 2, 1) := by decide +kernel
theorem dX0_remembers_5 : decode cX0_remembers 5 = .ok (.bipush 10, 2) := by decide +kernel
theorem dX0_remembers_7 : decode cX0_remembers 7 = .ok (.aload_n 0, 1) := by decide +kernel
theorem dX0_remembers_8 : decode cX0_remembers 8 = .ok (.getfield 15, 3) := by decide +kernel
theorem dX0_remembers_11 : decode cX0_remembers 11 = .ok (.iload_n 1, 1) := by decide +kernel
theorem dX0_remembers_12 : decode cX0_remembers 12 = .ok (.iaload, 1) := by decide +kernel
theorem dX0_remembers_13 : decode cX0_remembers 13 = .ok (.invokestatic 56, 3) := by decide +kernel
theorem dX0_remembers_16 : decode cX0_remembers 16 = .ok (.if_icmp .ge 7, 3) := by decide +kernel
theorem dX0_remembers_19 : decode cX0_remembers 19 = .ok (.iconst 1, 1) := by decide +kernel
theorem dX0_remembers_20 : decode cX0_remembers 20 = .ok (.goto 4, 3) := by decide +kernel
theorem dX0_remembers_23 : decode cX0_remembers 23 = .ok (.iconst 0, 1) := by decide +kernel
theorem dX0_remembers_24 : decode cX0_remembers 24 = .ok (.ireturn, 1) := by decide +kernel
theorem dX0_remembered_0 : decode cX0_remembered 0 = .ok (.aload_n 0, 1) := by decide +kernel
theorem dX0_remembered_1 : decode cX0_remembered 1 = .ok (.getfield 43, 3) := by decide +kernel
theorem dX0_remembered_4 : decode cX0_remembered 4 = .ok (.iload_n 1, 1) := by decide +kernel
theorem dX0_remembered_5 : decode cX0_remembered 5 = .ok (.aload_n 0, 1) := by decide +kernel
theorem dX0_remembered_6 : decode cX0_remembered 6 = .ok (.getfield 15, 3) := by decide +kernel
theorem dX0_remembered_9 : decode cX0_remembered 9 = .ok (.iload_n 1, 1) := by decide +kernel
theorem dX0_remembered_10 : decode cX0_remembered 10 = .ok (.iaload, 1) := by decide +kernel
theorem dX0_remembered_11 : decode cX0_remembered 11 = .ok (.iconst 1, 1) := by decide +kernel
theorem dX0_remembered_12 : decode cX0_remembered 12 = .ok (.isub, 1) := by decide +kernel
theorem dX0_remembered_13 : decode cX0_remembered 13 = .ok (.iload_n 2, 1) := by decide +kernel
theorem dX0_remembered_14 : decode cX0_remembered 14 = .ok (.isub, 1) := by decide +kernel
theorem dX0_remembered_15 : decode cX0_remembered 15 = .ok (.invokestatic 62, 3) := by decide +kernel
theorem dX0_remembered_18 : decode cX0_remembered 18 = .ok (.iaload, 1) := by decide +kernel
theorem dX0_remembered_19 : decode cX0_remembered 19 = .ok (.ireturn, 1) := by decide +kernel
theorem dX0_memoryOf_0 : decode cX0_memoryOf 0 = .ok (.iload_n 0, 1) := by decide +kernel
theorem dX0_memoryOf_1 : decode cX0_memoryOf 1 = .ok (.bipush 10, 2) := by decide +kernel
theorem dX0_memoryOf_3 : decode cX0_memoryOf 3 = .ok (.imul, 1) := by decide +kernel
theorem dX0_memoryOf_4 : decode cX0_memoryOf 4 = .ok (.iload_n 1, 1) := by decide +kernel
theorem dX0_memoryOf_5 : decode cX0_memoryOf 5 = .ok (.bipush 10, 2) := by decide +kernel
theorem dX0_memoryOf_7 : decode cX0_memoryOf 7 = .ok (.irem, 1) := by decide +kernel
theorem dX0_memoryOf_8 : decode cX0_memoryOf 8 = .ok (.iadd, 1) := by decide +kernel
theorem dX0_memoryOf_9 : decode cX0_memoryOf 9 = .ok (.ireturn, 1) := by decide +kernel
theorem dX0_allTook_0 : decode cX0_allTook 0 = .ok (.iconst 0, 1) := by decide +kernel
theorem dX0_allTook_1 : decode cX0_allTook 1 = .ok (.istore_n 3, 1) := by decide +kernel
theorem dX0_allTook_2 : decode cX0_allTook 2 = .ok (.iload_n 3, 1) := by decide +kernel
theorem dX0_allTook_3 : decode cX0_allTook 3 = .ok (.iload_n 2, 1) := by decide +kernel
theorem dX0_allTook_4 : decode cX0_allTook 4 = .ok (.if_icmp .ge 24, 3) := by decide +kernel
theorem dX0_allTook_7 : decode cX0_allTook 7 = .ok (.aload_n 0, 1) := by decide +kernel
theorem dX0_allTook_8 : decode cX0_allTook 8 = .ok (.getfield 15, 3) := by decide +kernel
theorem dX0_allTook_11 : decode cX0_allTook 11 = .ok (.iload_n 1, 1) := by decide +kernel
theorem dX0_allTook_12 : decode cX0_allTook 12 = .ok (.iload_n 3, 1) := by decide +kernel
theorem dX0_allTook_13 : decode cX0_allTook 13 = .ok (.invokestatic 65, 3) := by decide +kernel
theorem dX0_allTook_16 : decode cX0_allTook 16 = .ok (.iaload, 1) := by decide +kernel
theorem dX0_allTook_17 : decode cX0_allTook 17 = .ok (.ifCond .ne 5, 3) := by decide +kernel
theorem dX0_allTook_20 : decode cX0_allTook 20 = .ok (.iconst 0, 1) := by decide +kernel
theorem dX0_allTook_21 : decode cX0_allTook 21 = .ok (.ireturn, 1) := by decide +kernel
theorem dX0_allTook_22 : decode cX0_allTook 22 = .ok (.iinc 3 1, 3) := by decide +kernel
theorem dX0_allTook_25 : decode cX0_allTook 25 = .ok (.goto (-23), 3) := by decide +kernel
theorem dX0_allTook_28 : decode cX0_allTook 28 = .ok (.iconst 1, 1) := by decide +kernel
theorem dX0_allTook_29 : decode cX0_allTook 29 = .ok (.ireturn, 1) := by decide +kernel
theorem dX0_hear_0 : decode cX0_hear 0 = .ok (.aload_n 0, 1) := by decide +kernel
theorem dX0_hear_1 : decode cX0_hear 1 = .ok (.getfield 40, 3) := by decide +kernel
theorem dX0_hear_4 : decode cX0_hear 4 = .ok (.iload_n 2, 1) := by decide +kernel
theorem dX0_hear_5 : decode cX0_hear 5 = .ok (.iconst 2, 1) := by decide +kernel
theorem dX0_hear_6 : decode cX0_hear 6 = .ok (.imul, 1) := by decide +kernel
theorem dX0_hear_7 : decode cX0_hear 7 = .ok (.iload_n 3, 1) := by decide +kernel
theorem dX0_hear_8 : decode cX0_hear 8 = .ok (.iadd, 1) := by decide +kernel
theorem dX0_hear_9 : decode cX0_hear 9 = .ok (.iaload, 1) := by decide +kernel
theorem dX0_hear_10 : decode cX0_hear 10 = .ok (.iload 4, 2) := by decide +kernel
theorem dX0_hear_12 : decode cX0_hear 12 = .ok (.invokestatic 68, 3) := by decide +kernel
theorem dX0_hear_15 : decode cX0_hear 15 = .ok (.istore 7, 2) := by decide +kernel
theorem dX0_hear_17 : decode cX0_hear 17 = .ok (.aload_n 0, 1) := by decide +kernel
theorem dX0_hear_18 : decode cX0_hear 18 = .ok (.getfield 40, 3) := by decide +kernel
theorem dX0_hear_21 : decode cX0_hear 21 = .ok (.iload_n 2, 1) := by decide +kernel
theorem dX0_hear_22 : decode cX0_hear 22 = .ok (.iconst 2, 1) := by decide +kernel
theorem dX0_hear_23 : decode cX0_hear 23 = .ok (.imul, 1) := by decide +kernel
theorem dX0_hear_24 : decode cX0_hear 24 = .ok (.iload_n 3, 1) := by decide +kernel
theorem dX0_hear_25 : decode cX0_hear 25 = .ok (.iadd, 1) := by decide +kernel
theorem dX0_hear_26 : decode cX0_hear 26 = .ok (.iload 4, 2) := by decide +kernel
theorem dX0_hear_28 : decode cX0_hear 28 = .ok (.iastore, 1) := by decide +kernel
theorem dX0_hear_29 : decode cX0_hear 29 = .ok (.iload 7, 2) := by decide +kernel
theorem dX0_hear_31 : decode cX0_hear 31 = .ok (.ifCond .ne 16, 3) := by decide +kernel
theorem dX0_hear_34 : decode cX0_hear 34 = .ok (.aload_n 0, 1) := by decide +kernel
theorem dX0_hear_35 : decode cX0_hear 35 = .ok (.getfield 19, 3) := by decide +kernel
theorem dX0_hear_38 : decode cX0_hear 38 = .ok (.iload_n 2, 1) := by decide +kernel
theorem dX0_hear_39 : decode cX0_hear 39 = .ok (.dup2, 1) := by decide +kernel
theorem dX0_hear_40 : decode cX0_hear 40 = .ok (.iaload, 1) := by decide +kernel
theorem dX0_hear_41 : decode cX0_hear 41 = .ok (.iconst 1, 1) := by decide +kernel
theorem dX0_hear_42 : decode cX0_hear 42 = .ok (.iadd, 1) := by decide +kernel
theorem dX0_hear_43 : decode cX0_hear 43 = .ok (.iastore, 1) := by decide +kernel
theorem dX0_hear_44 : decode cX0_hear 44 = .ok (.goto 41, 3) := by decide +kernel
theorem dX0_hear_47 : decode cX0_hear 47 = .ok (.aload_n 0, 1) := by decide +kernel
theorem dX0_hear_48 : decode cX0_hear 48 = .ok (.aload_n 1, 1) := by decide +kernel
theorem dX0_hear_49 : decode cX0_hear 49 = .ok (.iload_n 2, 1) := by decide +kernel
theorem dX0_hear_50 : decode cX0_hear 50 = .ok (.iload 4, 2) := by decide +kernel
theorem dX0_hear_52 : decode cX0_hear 52 = .ok (.iload 6, 2) := by decide +kernel
theorem dX0_hear_54 : decode cX0_hear 54 = .ok (.invokevirtual 72, 3) := by decide +kernel
theorem dX0_hear_57 : decode cX0_hear 57 = .ok (.ifCond .eq 18, 3) := by decide +kernel
theorem dX0_hear_60 : decode cX0_hear 60 = .ok (.aload_n 0, 1) := by decide +kernel
theorem dX0_hear_61 : decode cX0_hear 61 = .ok (.iload_n 2, 1) := by decide +kernel
theorem dX0_hear_62 : decode cX0_hear 62 = .ok (.iload_n 3, 1) := by decide +kernel
theorem dX0_hear_63 : decode cX0_hear 63 = .ok (.iload 4, 2) := by decide +kernel
theorem dX0_hear_65 : decode cX0_hear 65 = .ok (.iload 5, 2) := by decide +kernel
theorem dX0_hear_67 : decode cX0_hear 67 = .ok (.iload 6, 2) := by decide +kernel
theorem dX0_hear_69 : decode cX0_hear 69 = .ok (.invokevirtual 76, 3) := by decide +kernel
theorem dX0_hear_72 : decode cX0_hear 72 = .ok (.goto 13, 3) := by decide +kernel
theorem dX0_hear_75 : decode cX0_hear 75 = .ok (.aload_n 0, 1) := by decide +kernel
theorem dX0_hear_76 : decode cX0_hear 76 = .ok (.getfield 22, 3) := by decide +kernel
theorem dX0_hear_79 : decode cX0_hear 79 = .ok (.iload_n 2, 1) := by decide +kernel
theorem dX0_hear_80 : decode cX0_hear 80 = .ok (.dup2, 1) := by decide +kernel
theorem dX0_hear_81 : decode cX0_hear 81 = .ok (.iaload, 1) := by decide +kernel
theorem dX0_hear_82 : decode cX0_hear 82 = .ok (.iconst 1, 1) := by decide +kernel
theorem dX0_hear_83 : decode cX0_hear 83 = .ok (.iadd, 1) := by decide +kernel
theorem dX0_hear_84 : decode cX0_hear 84 = .ok (.iastore, 1) := by decide +kernel
theorem dX0_hear_85 : decode cX0_hear 85 = .ok (.return_, 1) := by decide +kernel
theorem dX0_isWhole_0 : decode cX0_isWhole 0 = .ok (.iload_n 0, 1) := by decide +kernel
theorem dX0_isWhole_1 : decode cX0_isWhole 1 = .ok (.bipush (-2), 2) := by decide +kernel
theorem dX0_isWhole_3 : decode cX0_isWhole 3 = .ok (.if_icmp .eq 7, 3) := by decide +kernel
theorem dX0_isWhole_6 : decode cX0_isWhole 6 = .ok (.iload_n 1, 1) := by decide +kernel
theorem dX0_isWhole_7 : decode cX0_isWhole 7 = .ok (.ifCond .ne 5, 3) := by decide +kernel
theorem dX0_isWhole_10 : decode cX0_isWhole 10 = .ok (.iconst 1, 1) := by decide +kernel
theorem dX0_isWhole_11 : decode cX0_isWhole 11 = .ok (.ireturn, 1) := by decide +kernel
theorem dX0_isWhole_12 : decode cX0_isWhole 12 = .ok (.iload_n 0, 1) := by decide +kernel
theorem dX0_isWhole_13 : decode cX0_isWhole 13 = .ok (.invokestatic 80, 3) := by decide +kernel
theorem dX0_isWhole_16 : decode cX0_isWhole 16 = .ok (.istore_n 2, 1) := by decide +kernel
theorem dX0_isWhole_17 : decode cX0_isWhole 17 = .ok (.iload_n 1, 1) := by decide +kernel
theorem dX0_isWhole_18 : decode cX0_isWhole 18 = .ok (.iload_n 2, 1) := by decide +kernel
theorem dX0_isWhole_19 : decode cX0_isWhole 19 = .ok (.if_icmp .eq 11, 3) := by decide +kernel
theorem dX0_isWhole_22 : decode cX0_isWhole 22 = .ok (.iload_n 1, 1) := by decide +kernel
theorem dX0_isWhole_23 : decode cX0_isWhole 23 = .ok (.iload_n 2, 1) := by decide +kernel
theorem dX0_isWhole_24 : decode cX0_isWhole 24 = .ok (.invokestatic 80, 3) := by decide +kernel
theorem dX0_isWhole_27 : decode cX0_isWhole 27 = .ok (.if_icmp .ne 7, 3) := by decide +kernel
theorem dX0_isWhole_30 : decode cX0_isWhole 30 = .ok (.iconst 1, 1) := by decide +kernel
theorem dX0_isWhole_31 : decode cX0_isWhole 31 = .ok (.goto 4, 3) := by decide +kernel
theorem dX0_isWhole_34 : decode cX0_isWhole 34 = .ok (.iconst 0, 1) := by decide +kernel
theorem dX0_isWhole_35 : decode cX0_isWhole 35 = .ok (.ireturn, 1) := by decide +kernel
theorem dX0_isFresh_0 : decode cX0_isFresh 0 = .ok (.aload_n 0, 1) := by decide +kernel
theorem dX0_isFresh_1 : decode cX0_isFresh 1 = .ok (.getfield 15, 3) := by decide +kernel
theorem dX0_isFresh_4 : decode cX0_isFresh 4 = .ok (.iload_n 2, 1) := by decide +kernel
theorem dX0_isFresh_5 : decode cX0_isFresh 5 = .ok (.iaload, 1) := by decide +kernel
theorem dX0_isFresh_6 : decode cX0_isFresh 6 = .ok (.ifCond .eq 19, 3) := by decide +kernel
theorem dX0_isFresh_9 : decode cX0_isFresh 9 = .ok (.iload 4, 2) := by decide +kernel
theorem dX0_isFresh_11 : decode cX0_isFresh 11 = .ok (.aload_n 0, 1) := by decide +kernel
theorem dX0_isFresh_12 : decode cX0_isFresh 12 = .ok (.getfield 28, 3) := by decide +kernel
theorem dX0_isFresh_15 : decode cX0_isFresh 15 = .ok (.iload_n 2, 1) := by decide +kernel
theorem dX0_isFresh_16 : decode cX0_isFresh 16 = .ok (.iaload, 1) := by decide +kernel
theorem dX0_isFresh_17 : decode cX0_isFresh 17 = .ok (.isub, 1) := by decide +kernel
theorem dX0_isFresh_18 : decode cX0_isFresh 18 = .ok (.aload_n 1, 1) := by decide +kernel
theorem dX0_isFresh_19 : decode cX0_isFresh 19 = .ok (.getfield 84, 3) := by decide +kernel
theorem dX0_isFresh_22 : decode cX0_isFresh 22 = .ok (.if_icmp .le 5, 3) := by decide +kernel
theorem dX0_isFresh_25 : decode cX0_isFresh 25 = .ok (.iconst 1, 1) := by decide +kernel
theorem dX0_isFresh_26 : decode cX0_isFresh 26 = .ok (.ireturn, 1) := by decide +kernel
theorem dX0_isFresh_27 : decode cX0_isFresh 27 = .ok (.aload_n 0, 1) := by decide +kernel
theorem dX0_isFresh_28 : decode cX0_isFresh 28 = .ok (.getfield 25, 3) := by decide +kernel
theorem dX0_isFresh_31 : decode cX0_isFresh 31 = .ok (.iload_n 2, 1) := by decide +kernel
theorem dX0_isFresh_32 : decode cX0_isFresh 32 = .ok (.iaload, 1) := by decide +kernel
theorem dX0_isFresh_33 : decode cX0_isFresh 33 = .ok (.istore 5, 2) := by decide +kernel
theorem dX0_isFresh_35 : decode cX0_isFresh 35 = .ok (.iload_n 3, 1) := by decide +kernel
theorem dX0_isFresh_36 : decode cX0_isFresh 36 = .ok (.ifCond .ne 14, 3) := by decide +kernel
theorem dX0_isFresh_39 : decode cX0_isFresh 39 = .ok (.iload 5, 2) := by decide +kernel
theorem dX0_isFresh_41 : decode cX0_isFresh 41 = .ok (.ifCond .eq 7, 3) := by decide +kernel
theorem dX0_isFresh_44 : decode cX0_isFresh 44 = .ok (.iconst 1, 1) := by decide +kernel
theorem dX0_isFresh_45 : decode cX0_isFresh 45 = .ok (.goto 4, 3) := by decide +kernel
theorem dX0_isFresh_48 : decode cX0_isFresh 48 = .ok (.iconst 0, 1) := by decide +kernel
theorem dX0_isFresh_49 : decode cX0_isFresh 49 = .ok (.ireturn, 1) := by decide +kernel
theorem dX0_isFresh_50 : decode cX0_isFresh 50 = .ok (.iload 5, 2) := by decide +kernel
theorem dX0_isFresh_52 : decode cX0_isFresh 52 = .ok (.ifCond .ne 7, 3) := by decide +kernel
theorem dX0_isFresh_55 : decode cX0_isFresh 55 = .ok (.iload_n 3, 1) := by decide +kernel
theorem dX0_isFresh_56 : decode cX0_isFresh 56 = .ok (.goto 15, 3) := by decide +kernel
theorem dX0_isFresh_59 : decode cX0_isFresh 59 = .ok (.iload_n 3, 1) := by decide +kernel
theorem dX0_isFresh_60 : decode cX0_isFresh 60 = .ok (.iload 5, 2) := by decide +kernel
theorem dX0_isFresh_62 : decode cX0_isFresh 62 = .ok (.isub, 1) := by decide +kernel
theorem dX0_isFresh_63 : decode cX0_isFresh 63 = .ok (.sipush 255, 3) := by decide +kernel
theorem dX0_isFresh_66 : decode cX0_isFresh 66 = .ok (.iadd, 1) := by decide +kernel
theorem dX0_isFresh_67 : decode cX0_isFresh 67 = .ok (.sipush 255, 3) := by decide +kernel
theorem dX0_isFresh_70 : decode cX0_isFresh 70 = .ok (.irem, 1) := by decide +kernel
theorem dX0_isFresh_71 : decode cX0_isFresh 71 = .ok (.istore 6, 2) := by decide +kernel
theorem dX0_isFresh_73 : decode cX0_isFresh 73 = .ok (.iload 6, 2) := by decide +kernel
theorem dX0_isFresh_75 : decode cX0_isFresh 75 = .ok (.iconst 1, 1) := by decide +kernel
theorem dX0_isFresh_76 : decode cX0_isFresh 76 = .ok (.if_icmp .lt 16, 3) := by decide +kernel
theorem dX0_isFresh_79 : decode cX0_isFresh 79 = .ok (.iload 6, 2) := by decide +kernel
theorem dX0_isFresh_81 : decode cX0_isFresh 81 = .ok (.aload_n 1, 1) := by decide +kernel
theorem dX0_isFresh_82 : decode cX0_isFresh 82 = .ok (.getfield 89, 3) := by decide +kernel
theorem dX0_isFresh_85 : decode cX0_isFresh 85 = .ok (.if_icmp .gt 7, 3) := by decide +kernel
theorem dX0_isFresh_88 : decode cX0_isFresh 88 = .ok (.iconst 1, 1) := by decide +kernel
theorem dX0_isFresh_89 : decode cX0_isFresh 89 = .ok (.goto 4, 3) := by decide +kernel
theorem dX0_isFresh_92 : decode cX0_isFresh 92 = .ok (.iconst 0, 1) := by decide +kernel
theorem dX0_isFresh_93 : decode cX0_isFresh 93 = .ok (.ireturn, 1) := by decide +kernel
theorem dX0_take_0 : decode cX0_take 0 = .ok (.iload 5, 2) := by decide +kernel
theorem dX0_take_2 : decode cX0_take 2 = .ok (.iload 4, 2) := by decide +kernel
theorem dX0_take_4 : decode cX0_take 4 = .ok (.isub, 1) := by decide +kernel
theorem dX0_take_5 : decode cX0_take 5 = .ok (.istore 6, 2) := by decide +kernel
theorem dX0_take_7 : decode cX0_take 7 = .ok (.aload_n 0, 1) := by decide +kernel
theorem dX0_take_8 : decode cX0_take 8 = .ok (.getfield 34, 3) := by decide +kernel
theorem dX0_take_11 : decode cX0_take 11 = .ok (.iload_n 1, 1) := by decide +kernel
theorem dX0_take_12 : decode cX0_take 12 = .ok (.aload_n 0, 1) := by decide +kernel
theorem dX0_take_13 : decode cX0_take 13 = .ok (.getfield 34, 3) := by decide +kernel
theorem dX0_take_16 : decode cX0_take 16 = .ok (.iload_n 1, 1) := by decide +kernel
theorem dX0_take_17 : decode cX0_take 17 = .ok (.iaload, 1) := by decide +kernel
theorem dX0_take_18 : decode cX0_take 18 = .ok (.iload 6, 2) := by decide +kernel
theorem dX0_take_20 : decode cX0_take 20 = .ok (.invokestatic 92, 3) := by decide +kernel
theorem dX0_take_23 : decode cX0_take 23 = .ok (.iastore, 1) := by decide +kernel
theorem dX0_take_24 : decode cX0_take 24 = .ok (.aload_n 0, 1) := by decide +kernel
theorem dX0_take_25 : decode cX0_take 25 = .ok (.getfield 37, 3) := by decide +kernel
theorem dX0_take_28 : decode cX0_take 28 = .ok (.iload_n 1, 1) := by decide +kernel
theorem dX0_take_29 : decode cX0_take 29 = .ok (.aload_n 0, 1) := by decide +kernel
theorem dX0_take_30 : decode cX0_take 30 = .ok (.getfield 15, 3) := by decide +kernel
theorem dX0_take_33 : decode cX0_take 33 = .ok (.iload_n 1, 1) := by decide +kernel
theorem dX0_take_34 : decode cX0_take 34 = .ok (.iaload, 1) := by decide +kernel
theorem dX0_take_35 : decode cX0_take 35 = .ok (.ifCond .ne 8, 3) := by decide +kernel
theorem dX0_take_38 : decode cX0_take 38 = .ok (.iload 6, 2) := by decide +kernel
theorem dX0_take_40 : decode cX0_take 40 = .ok (.goto 14, 3) := by decide +kernel
theorem dX0_take_43 : decode cX0_take 43 = .ok (.aload_n 0, 1) := by decide +kernel
theorem dX0_take_44 : decode cX0_take 44 = .ok (.getfield 37, 3) := by decide +kernel
theorem dX0_take_47 : decode cX0_take 47 = .ok (.iload_n 1, 1) := by decide +kernel
theorem dX0_take_48 : decode cX0_take 48 = .ok (.iaload, 1) := by decide +kernel
theorem dX0_take_49 : decode cX0_take 49 = .ok (.iload 6, 2) := by decide +kernel
theorem dX0_take_51 : decode cX0_take 51 = .ok (.invokestatic 56, 3) := by decide +kernel
theorem dX0_take_54 : decode cX0_take 54 = .ok (.iastore, 1) := by decide +kernel
theorem dX0_take_55 : decode cX0_take 55 = .ok (.aload_n 0, 1) := by decide +kernel
theorem dX0_take_56 : decode cX0_take 56 = .ok (.getfield 43, 3) := by decide +kernel
theorem dX0_take_59 : decode cX0_take 59 = .ok (.iload_n 1, 1) := by decide +kernel
theorem dX0_take_60 : decode cX0_take 60 = .ok (.aload_n 0, 1) := by decide +kernel
theorem dX0_take_61 : decode cX0_take 61 = .ok (.getfield 15, 3) := by decide +kernel
theorem dX0_take_64 : decode cX0_take 64 = .ok (.iload_n 1, 1) := by decide +kernel
theorem dX0_take_65 : decode cX0_take 65 = .ok (.iaload, 1) := by decide +kernel
theorem dX0_take_66 : decode cX0_take 66 = .ok (.invokestatic 62, 3) := by decide +kernel
theorem dX0_take_69 : decode cX0_take 69 = .ok (.iload_n 3, 1) := by decide +kernel
theorem dX0_take_70 : decode cX0_take 70 = .ok (.iastore, 1) := by decide +kernel
theorem dX0_take_71 : decode cX0_take 71 = .ok (.aload_n 0, 1) := by decide +kernel
theorem dX0_take_72 : decode cX0_take 72 = .ok (.getfield 25, 3) := by decide +kernel
theorem dX0_take_75 : decode cX0_take 75 = .ok (.iload_n 1, 1) := by decide +kernel
theorem dX0_take_76 : decode cX0_take 76 = .ok (.iload_n 3, 1) := by decide +kernel
theorem dX0_take_77 : decode cX0_take 77 = .ok (.iastore, 1) := by decide +kernel
theorem dX0_take_78 : decode cX0_take 78 = .ok (.aload_n 0, 1) := by decide +kernel
theorem dX0_take_79 : decode cX0_take 79 = .ok (.getfield 28, 3) := by decide +kernel
theorem dX0_take_82 : decode cX0_take 82 = .ok (.iload_n 1, 1) := by decide +kernel
theorem dX0_take_83 : decode cX0_take 83 = .ok (.iload 5, 2) := by decide +kernel
theorem dX0_take_85 : decode cX0_take 85 = .ok (.iastore, 1) := by decide +kernel
theorem dX0_take_86 : decode cX0_take 86 = .ok (.aload_n 0, 1) := by decide +kernel
theorem dX0_take_87 : decode cX0_take 87 = .ok (.getfield 31, 3) := by decide +kernel
theorem dX0_take_90 : decode cX0_take 90 = .ok (.iload_n 1, 1) := by decide +kernel
theorem dX0_take_91 : decode cX0_take 91 = .ok (.iload_n 2, 1) := by decide +kernel
theorem dX0_take_92 : decode cX0_take 92 = .ok (.iastore, 1) := by decide +kernel
theorem dX0_take_93 : decode cX0_take 93 = .ok (.aload_n 0, 1) := by decide +kernel
theorem dX0_take_94 : decode cX0_take 94 = .ok (.getfield 15, 3) := by decide +kernel
theorem dX0_take_97 : decode cX0_take 97 = .ok (.iload_n 1, 1) := by decide +kernel
theorem dX0_take_98 : decode cX0_take 98 = .ok (.dup2, 1) := by decide +kernel
theorem dX0_take_99 : decode cX0_take 99 = .ok (.iaload, 1) := by decide +kernel
theorem dX0_take_100 : decode cX0_take 100 = .ok (.iconst 1, 1) := by decide +kernel
theorem dX0_take_101 : decode cX0_take 101 = .ok (.iadd, 1) := by decide +kernel
theorem dX0_take_102 : decode cX0_take 102 = .ok (.iastore, 1) := by decide +kernel
theorem dX0_take_103 : decode cX0_take 103 = .ok (.aload_n 0, 1) := by decide +kernel
theorem dX0_take_104 : decode cX0_take 104 = .ok (.dup, 1) := by decide +kernel
theorem dX0_take_105 : decode cX0_take 105 = .ok (.getfield 9, 3) := by decide +kernel
theorem dX0_take_108 : decode cX0_take 108 = .ok (.iconst 1, 1) := by decide +kernel
theorem dX0_take_109 : decode cX0_take 109 = .ok (.iadd, 1) := by decide +kernel
theorem dX0_take_110 : decode cX0_take 110 = .ok (.putfield 9, 3) := by decide +kernel
theorem dX0_take_113 : decode cX0_take 113 = .ok (.return_, 1) := by decide +kernel
theorem dX1_init_0 : decode cX1_init 0 = .ok (.aload_n 0, 1) := by decide +kernel
theorem dX1_init_1 : decode cX1_init 1 = .ok (.invokespecial 5, 3) := by decide +kernel
theorem dX1_init_4 : decode cX1_init 4 = .ok (.aload_n 0, 1) := by decide +kernel
theorem dX1_init_5 : decode cX1_init 5 = .ok (.iconst 0, 1) := by decide +kernel
theorem dX1_init_6 : decode cX1_init 6 = .ok (.putfield 11, 3) := by decide +kernel
theorem dX1_init_9 : decode cX1_init 9 = .ok (.aload_n 0, 1) := by decide +kernel
theorem dX1_init_10 : decode cX1_init 10 = .ok (.bipush 16, 2) := by decide +kernel
theorem dX1_init_12 : decode cX1_init 12 = .ok (.newarray .int, 2) := by decide +kernel
theorem dX1_init_14 : decode cX1_init 14 = .ok (.putfield 15, 3) := by decide +kernel
theorem dX1_init_17 : decode cX1_init 17 = .ok (.aload_n 0, 1) := by decide +kernel
theorem dX1_init_18 : decode cX1_init 18 = .ok (.bipush 16, 2) := by decide +kernel
theorem dX1_init_20 : decode cX1_init 20 = .ok (.newarray .long, 2) := by decide +kernel
theorem dX1_init_22 : decode cX1_init 22 = .ok (.putfield 19, 3) := by decide +kernel
theorem dX1_init_25 : decode cX1_init 25 = .ok (.aload_n 0, 1) := by decide +kernel
theorem dX1_init_26 : decode cX1_init 26 = .ok (.sipush 128, 3) := by decide +kernel
theorem dX1_init_29 : decode cX1_init 29 = .ok (.newarray .long, 2) := by decide +kernel
theorem dX1_init_31 : decode cX1_init 31 = .ok (.putfield 23, 3) := by decide +kernel
theorem dX1_init_34 : decode cX1_init 34 = .ok (.return_, 1) := by decide +kernel
theorem dX1_measure_0 : decode cX1_measure 0 = .ok (.aload_n 0, 1) := by decide +kernel
theorem dX1_measure_1 : decode cX1_measure 1 = .ok (.iconst 0, 1) := by decide +kernel
theorem dX1_measure_2 : decode cX1_measure 2 = .ok (.putfield 11, 3) := by decide +kernel
theorem dX1_measure_5 : decode cX1_measure 5 = .ok (.iconst 0, 1) := by decide +kernel
theorem dX1_measure_6 : decode cX1_measure 6 = .ok (.istore_n 2, 1) := by decide +kernel
theorem dX1_measure_7 : decode cX1_measure 7 = .ok (.iload_n 2, 1) := by decide +kernel
theorem dX1_measure_8 : decode cX1_measure 8 = .ok (.bipush 16, 2) := by decide +kernel
theorem dX1_measure_10 : decode cX1_measure 10 = .ok (.if_icmp .ge 50, 3) := by decide +kernel
theorem dX1_measure_13 : decode cX1_measure 13 = .ok (.aload_n 0, 1) := by decide +kernel
theorem dX1_measure_14 : decode cX1_measure 14 = .ok (.getfield 15, 3) := by decide +kernel
theorem dX1_measure_17 : decode cX1_measure 17 = .ok (.iload_n 2, 1) := by decide +kernel
theorem dX1_measure_18 : decode cX1_measure 18 = .ok (.aload_n 1, 1) := by decide +kernel
theorem dX1_measure_19 : decode cX1_measure 19 = .ok (.iload_n 2, 1) := by decide +kernel
theorem dX1_measure_20 : decode cX1_measure 20 = .ok (.iconst (-1), 1) := by decide +kernel
theorem dX1_measure_21 : decode cX1_measure 21 = .ok (.iconst 0, 1) := by decide +kernel
theorem dX1_measure_22 : decode cX1_measure 22 = .ok (.invokestatic 26, 3) := by decide +kernel
theorem dX1_measure_25 : decode cX1_measure 25 = .ok (.iastore, 1) := by decide +kernel
theorem dX1_measure_26 : decode cX1_measure 26 = .ok (.aload_n 0, 1) := by decide +kernel
theorem dX1_measure_27 : decode cX1_measure 27 = .ok (.aload_n 0, 1) := by decide +kernel
theorem dX1_measure_28 : decode cX1_measure 28 = .ok (.getfield 11, 3) := by decide +kernel
theorem dX1_measure_31 : decode cX1_measure 31 = .ok (.ifCond .ne 15, 3) := by decide +kernel
theorem dX1_measure_34 : decode cX1_measure 34 = .ok (.aload_n 0, 1) := by decide +kernel
theorem dX1_measure_35 : decode cX1_measure 35 = .ok (.getfield 15, 3) := by decide +kernel
theorem dX1_measure_38 : decode cX1_measure 38 = .ok (.iload_n 2, 1) := by decide +kernel
theorem dX1_measure_39 : decode cX1_measure 39 = .ok (.iaload, 1) := by decide +kernel
theorem dX1_measure_40 : decode cX1_measure 40 = .ok (.sipush 256, 3) := by decide +kernel
theorem dX1_measure_43 : decode cX1_measure 43 = .ok (.if_icmp .le 7, 3) := by decide +kernel
theorem dX1_measure_46 : decode cX1_measure 46 = .ok (.iconst 1, 1) := by decide +kernel
theorem dX1_measure_47 : decode cX1_measure 47 = .ok (.goto 4, 3) := by decide +kernel
theorem dX1_measure_50 : decode cX1_measure 50 = .ok (.iconst 0, 1) := by decide +kernel
theorem dX1_measure_51 : decode cX1_measure 51 = .ok (.putfield 11, 3) := by decide +kernel
theorem dX1_measure_54 : decode cX1_measure 54 = .ok (.iinc 2 1, 3) := by decide +kernel
theorem dX1_measure_57 : decode cX1_measure 57 = .ok (.goto (-50), 3) := by decide +kernel
theorem dX1_measure_60 : decode cX1_measure 60 = .ok (.iconst 0, 1) := by decide +kernel
theorem dX1_measure_61 : decode cX1_measure 61 = .ok (.istore_n 2, 1) := by decide +kernel
theorem dX1_measure_62 : decode cX1_measure 62 = .ok (.iload_n 2, 1) := by decide +kernel
theorem dX1_measure_63 : decode cX1_measure 63 = .ok (.bipush 6, 2) := by decide +kernel
theorem dX1_measure_65 : decode cX1_measure 65 = .ok (.if_icmp .ge 24, 3) := by decide +kernel
theorem dX1_measure_68 : decode cX1_measure 68 = .ok (.aload_n 0, 1) := by decide +kernel
theorem dX1_measure_69 : decode cX1_measure 69 = .ok (.getfield 19, 3) := by decide +kernel
theorem dX1_measure_72 : decode cX1_measure 72 = .ok (.iload_n 2, 1) := by decide +kernel
theorem dX1_measure_73 : decode cX1_measure 73 = .ok (.aload_n 1, 1) := by decide +kernel
theorem dX1_measure_74 : decode cX1_measure 74 = .ok (.iload_n 2, 1) := by decide +kernel
theorem dX1_measure_75 : decode cX1_measure 75 = .ok (.invokestatic 30, 3) := by decide +kernel
theorem dX1_measure_78 : decode cX1_measure 78 = .ok (.ldc2_w 34, 3) := by decide +kernel
theorem dX1_measure_81 : decode cX1_measure 81 = .ok (.lmul, 1) := by decide +kernel
theorem dX1_measure_82 : decode cX1_measure 82 = .ok (.lastore, 1) := by decide +kernel
theorem dX1_measure_83 : decode cX1_measure 83 = .ok (.iinc 2 1, 3) := by decide +kernel
theorem dX1_measure_86 : decode cX1_measure 86 = .ok (.goto (-24), 3) := by decide +kernel
theorem dX1_measure_89 : decode cX1_measure 89 = .ok (.getstatic 36, 3) := by decide +kernel
theorem dX1_measure_92 : decode cX1_measure 92 = .ok (.astore_n 2, 1) := by decide +kernel
theorem dX1_measure_93 : decode cX1_measure 93 = .ok (.aload_n 2, 1) := by decide +kernel
theorem dX1_measure_94 : decode cX1_measure 94 = .ok (.arraylength, 1) := by decide +kernel
theorem dX1_measure_95 : decode cX1_measure 95 = .ok (.istore_n 3, 1) := by decide +kernel
theorem dX1_measure_96 : decode cX1_measure 96 = .ok (.iconst 0, 1) := by decide +kernel
theorem dX1_measure_97 : decode cX1_measure 97 = .ok (.istore 4, 2) := by decide +kernel
theorem dX1_measure_99 : decode cX1_measure 99 = .ok (.iload 4, 2) := by decide +kernel
theorem dX1_measure_101 : decode cX1_measure 101 = .ok (.iload_n 3, 1) := by decide +kernel
theorem dX1_measure_102 : decode cX1_measure 102 = .ok (.if_icmp .ge 29, 3) := by decide +kernel
theorem dX1_measure_105 : decode cX1_measure 105 = .ok (.aload_n 2, 1) := by decide +kernel
theorem dX1_measure_106 : decode cX1_measure 106 = .ok (.iload 4, 2) := by decide +kernel
theorem dX1_measure_108 : decode cX1_measure 108 = .ok (.iaload, 1) := by decide +kernel
theorem dX1_measure_109 : decode cX1_measure 109 = .ok (.istore 5, 2) := by decide +kernel
theorem dX1_measure_111 : decode cX1_measure 111 = .ok (.aload_n 0, 1) := by decide +kernel
theorem dX1_measure_112 : decode cX1_measure 112 = .ok (.getfield 19, 3) := by decide +kernel
theorem dX1_measure_115 : decode cX1_measure 115 = .ok (.iload 5, 2) := by decide +kernel
theorem dX1_measure_117 : decode cX1_measure 117 = .ok (.aload_n 0, 1) := by decide +kernel
theorem dX1_measure_118 : decode cX1_measure 118 = .ok (.aload_n 1, 1) := by decide +kernel
theorem dX1_measure_119 : decode cX1_measure 119 = .ok (.iload 5, 2) := by decide +kernel
theorem dX1_measure_121 : decode cX1_measure 121 = .ok (.invokevirtual 39, 3) := by decide +kernel
theorem dX1_measure_124 : decode cX1_measure 124 = .ok (.lastore, 1) := by decide +kernel
theorem dX1_measure_125 : decode cX1_measure 125 = .ok (.iinc 4 1, 3) := by decide +kernel
theorem dX1_measure_128 : decode cX1_measure 128 = .ok (.goto (-29), 3) := by decide +kernel
theorem dX1_measure_131 : decode cX1_measure 131 = .ok (.return_, 1) := by decide +kernel
theorem dX1_loadWith_0 : decode cX1_loadWith 0 = .ok (.iconst 0, 1) := by decide +kernel
theorem dX1_loadWith_1 : decode cX1_loadWith 1 = .ok (.istore 4, 2) := by decide +kernel
theorem dX1_loadWith_3 : decode cX1_loadWith 3 = .ok (.iconst 0, 1) := by decide +kernel
theorem dX1_loadWith_4 : decode cX1_loadWith 4 = .ok (.istore 5, 2) := by decide +kernel
theorem dX1_loadWith_6 : decode cX1_loadWith 6 = .ok (.iload 5, 2) := by decide +kernel
theorem dX1_loadWith_8 : decode cX1_loadWith 8 = .ok (.aload_n 0, 1) := by decide +kernel
theorem dX1_loadWith_9 : decode cX1_loadWith 9 = .ok (.getfield 42, 3) := by decide +kernel
theorem dX1_loadWith_12 : decode cX1_loadWith 12 = .ok (.if_icmp .ge 65, 3) := by decide +kernel
theorem dX1_loadWith_15 : decode cX1_loadWith 15 = .ok (.iload 5, 2) := by decide +kernel
theorem dX1_loadWith_17 : decode cX1_loadWith 17 = .ok (.iload_n 2, 1) := by decide +kernel
theorem dX1_loadWith_18 : decode cX1_loadWith 18 = .ok (.if_icmp .ne 7, 3) := by decide +kernel
theorem dX1_loadWith_21 : decode cX1_loadWith 21 = .ok (.iload_n 3, 1) := by decide +kernel
theorem dX1_loadWith_22 : decode cX1_loadWith 22 = .ok (.goto 10, 3) := by decide +kernel
theorem dX1_loadWith_25 : decode cX1_loadWith 25 = .ok (.aload_n 0, 1) := by decide +kernel
theorem dX1_loadWith_26 : decode cX1_loadWith 26 = .ok (.getfield 48, 3) := by decide +kernel
theorem dX1_loadWith_29 : decode cX1_loadWith 29 = .ok (.iload 5, 2) := by decide +kernel
theorem dX1_loadWith_31 : decode cX1_loadWith 31 = .ok (.iaload, 1) := by decide +kernel
theorem dX1_loadWith_32 : decode cX1_loadWith 32 = .ok (.istore 6, 2) := by decide +kernel
theorem dX1_loadWith_34 : decode cX1_loadWith 34 = .ok (.aload_n 0, 1) := by decide +kernel
theorem dX1_loadWith_35 : decode cX1_loadWith 35 = .ok (.getfield 51, 3) := by decide +kernel
theorem dX1_loadWith_38 : decode cX1_loadWith 38 = .ok (.iload 5, 2) := by decide +kernel
theorem dX1_loadWith_40 : decode cX1_loadWith 40 = .ok (.iload_n 1, 1) := by decide +kernel
theorem dX1_loadWith_41 : decode cX1_loadWith 41 = .ok (.invokevirtual 55, 3) := by decide +kernel
theorem dX1_loadWith_44 : decode cX1_loadWith 44 = .ok (.ifCond .eq 27, 3) := by decide +kernel
theorem dX1_loadWith_47 : decode cX1_loadWith 47 = .ok (.iload 6, 2) := by decide +kernel
theorem dX1_loadWith_49 : decode cX1_loadWith 49 = .ok (.ifCond .le 22, 3) := by decide +kernel
theorem dX1_loadWith_52 : decode cX1_loadWith 52 = .ok (.iload 4, 2) := by decide +kernel
theorem dX1_loadWith_54 : decode cX1_loadWith 54 = .ok (.aload_n 0, 1) := by decide +kernel
theorem dX1_loadWith_55 : decode cX1_loadWith 55 = .ok (.getfield 61, 3) := by decide +kernel
theorem dX1_loadWith_58 : decode cX1_loadWith 58 = .ok (.iload 5, 2) := by decide +kernel
theorem dX1_loadWith_60 : decode cX1_loadWith 60 = .ok (.iaload, 1) := by decide +kernel
theorem dX1_loadWith_61 : decode cX1_loadWith 61 = .ok (.sipush 256, 3) := by decide +kernel
theorem dX1_loadWith_64 : decode cX1_loadWith 64 = .ok (.iload 6, 2) := by decide +kernel
theorem dX1_loadWith_66 : decode cX1_loadWith 66 = .ok (.idiv, 1) := by decide +kernel
theorem dX1_loadWith_67 : decode cX1_loadWith 67 = .ok (.imul, 1) := by decide +kernel
theorem dX1_loadWith_68 : decode cX1_loadWith 68 = .ok (.iadd, 1) := by decide +kernel
theorem dX1_loadWith_69 : decode cX1_loadWith 69 = .ok (.istore 4, 2) := by decide +kernel
theorem dX1_loadWith_71 : decode cX1_loadWith 71 = .ok (.iinc 5 1, 3) := by decide +kernel
theorem dX1_loadWith_74 : decode cX1_loadWith 74 = .ok (.goto (-68), 3) := by decide +kernel
theorem dX1_loadWith_77 : decode cX1_loadWith 77 = .ok (.iload 4, 2) := by decide +kernel
theorem dX1_loadWith_79 : decode cX1_loadWith 79 = .ok (.ireturn, 1) := by decide +kernel
theorem dX1_lengthsThrough_0 : decode cX1_lengthsThrough 0 = .ok (.lconst 0, 1) := by decide +kernel
theorem dX1_lengthsThrough_1 : decode cX1_lengthsThrough 1 = .ok (.lstore_n 2, 1) := by decide +kernel
theorem dX1_lengthsThrough_2 : decode cX1_lengthsThrough 2 = .ok (.iconst 0, 1) := by decide +kernel
theorem dX1_lengthsThrough_3 : decode cX1_lengthsThrough 3 = .ok (.istore 4, 2) := by decide +kernel
theorem dX1_lengthsThrough_5 : decode cX1_lengthsThrough 5 = .ok (.iload 4, 2) := by decide +kernel
theorem dX1_lengthsThrough_7 : decode cX1_lengthsThrough 7 = .ok (.aload_n 0, 1) := by decide +kernel
theorem dX1_lengthsThrough_8 : decode cX1_lengthsThrough 8 = .ok (.getfield 42, 3) := by decide +kernel
theorem dX1_lengthsThrough_11 : decode cX1_lengthsThrough 11 = .ok (.if_icmp .ge 33, 3) := by decide +kernel
theorem dX1_lengthsThrough_14 : decode cX1_lengthsThrough 14 = .ok (.aload_n 0, 1) := by decide +kernel
theorem dX1_lengthsThrough_15 : decode cX1_lengthsThrough 15 = .ok (.getfield 51, 3) := by decide +kernel
theorem dX1_lengthsThrough_18 : decode cX1_lengthsThrough 18 = .ok (.iload 4, 2) := by decide +kernel
theorem dX1_lengthsThrough_20 : decode cX1_lengthsThrough 20 = .ok (.iload_n 1, 1) := by decide +kernel
theorem dX1_lengthsThrough_21 : decode cX1_lengthsThrough 21 = .ok (.invokevirtual 55, 3) := by decide +kernel
theorem dX1_lengthsThrough_24 : decode cX1_lengthsThrough 24 = .ok (.ifCond .eq 14, 3) := by decide +kernel
theorem dX1_lengthsThrough_27 : decode cX1_lengthsThrough 27 = .ok (.lload_n 2, 1) := by decide +kernel
theorem dX1_lengthsThrough_28 : decode cX1_lengthsThrough 28 = .ok (.aload_n 0, 1) := by decide +kernel
theorem dX1_lengthsThrough_29 : decode cX1_lengthsThrough 29 = .ok (.getfield 61, 3) := by decide +kernel
theorem dX1_lengthsThrough_32 : decode cX1_lengthsThrough 32 = .ok (.iload 4, 2) := by decide +kernel
theorem dX1_lengthsThrough_34 : decode cX1_lengthsThrough 34 = .ok (.iaload, 1) := by decide +kernel
theorem dX1_lengthsThrough_35 : decode cX1_lengthsThrough 35 = .ok (.i2l, 1) := by decide +kernel
theorem dX1_lengthsThrough_36 : decode cX1_lengthsThrough 36 = .ok (.ladd, 1) := by decide +kernel
theorem dX1_lengthsThrough_37 : decode cX1_lengthsThrough 37 = .ok (.lstore_n 2, 1) := by decide +kernel
theorem dX1_lengthsThrough_38 : decode cX1_lengthsThrough 38 = .ok (.iinc 4 1, 3) := by decide +kernel
theorem dX1_lengthsThrough_41 : decode cX1_lengthsThrough 41 = .ok (.goto (-36), 3) := by decide +kernel
theorem dX1_lengthsThrough_44 : decode cX1_lengthsThrough 44 = .ok (.lload_n 2, 1) := by decide +kernel
theorem dX1_lengthsThrough_45 : decode cX1_lengthsThrough 45 = .ok (.lreturn, 1) := by decide +kernel
theorem dX1_burstsThrough_0 : decode cX1_burstsThrough 0 = .ok (.lconst 0, 1) := by decide +kernel
theorem dX1_burstsThrough_1 : decode cX1_burstsThrough 1 = .ok (.lstore_n 3, 1) := by decide +kernel
theorem dX1_burstsThrough_2 : decode cX1_burstsThrough 2 = .ok (.iconst 0, 1) := by decide +kernel
theorem dX1_burstsThrough_3 : decode cX1_burstsThrough 3 = .ok (.istore 5, 2) := by decide +kernel
theorem dX1_burstsThrough_5 : decode cX1_burstsThrough 5 = .ok (.iload 5, 2) := by decide +kernel
theorem dX1_burstsThrough_7 : decode cX1_burstsThrough 7 = .ok (.aload_n 1, 1) := by decide +kernel
theorem dX1_burstsThrough_8 : decode cX1_burstsThrough 8 = .ok (.getfield 42, 3) := by decide +kernel
theorem dX1_burstsThrough_11 : decode cX1_burstsThrough 11 = .ok (.if_icmp .ge 57, 3) := by decide +kernel
theorem dX1_burstsThrough_14 : decode cX1_burstsThrough 14 = .ok (.aload_n 1, 1) := by decide +kernel
theorem dX1_burstsThrough_15 : decode cX1_burstsThrough 15 = .ok (.getfield 51, 3) := by decide +kernel
theorem dX1_burstsThrough_18 : decode cX1_burstsThrough 18 = .ok (.iload 5, 2) := by decide +kernel
theorem dX1_burstsThrough_20 : decode cX1_burstsThrough 20 = .ok (.iload_n 2, 1) := by decide +kernel
theorem dX1_burstsThrough_21 : decode cX1_burstsThrough 21 = .ok (.invokevirtual 55, 3) := by decide +kernel
theorem dX1_burstsThrough_24 : decode cX1_burstsThrough 24 = .ok (.ifCond .eq 38, 3) := by decide +kernel
theorem dX1_burstsThrough_27 : decode cX1_burstsThrough 27 = .ok (.aload_n 0, 1) := by decide +kernel
theorem dX1_burstsThrough_28 : decode cX1_burstsThrough 28 = .ok (.getfield 23, 3) := by decide +kernel
theorem dX1_burstsThrough_31 : decode cX1_burstsThrough 31 = .ok (.iload 5, 2) := by decide +kernel
theorem dX1_burstsThrough_33 : decode cX1_burstsThrough 33 = .ok (.bipush 16, 2) := by decide +kernel
theorem dX1_burstsThrough_35 : decode cX1_burstsThrough 35 = .ok (.imul, 1) := by decide +kernel
theorem dX1_burstsThrough_36 : decode cX1_burstsThrough 36 = .ok (.iload_n 2, 1) := by decide +kernel
theorem dX1_burstsThrough_37 : decode cX1_burstsThrough 37 = .ok (.iadd, 1) := by decide +kernel
theorem dX1_burstsThrough_38 : decode cX1_burstsThrough 38 = .ok (.aload_n 0, 1) := by decide +kernel
theorem dX1_burstsThrough_39 : decode cX1_burstsThrough 39 = .ok (.aload_n 1, 1) := by decide +kernel
theorem dX1_burstsThrough_40 : decode cX1_burstsThrough 40 = .ok (.iload 5, 2) := by decide +kernel
theorem dX1_burstsThrough_42 : decode cX1_burstsThrough 42 = .ok (.iload_n 2, 1) := by decide +kernel
theorem dX1_burstsThrough_43 : decode cX1_burstsThrough 43 = .ok (.invokevirtual 64, 3) := by decide +kernel
theorem dX1_burstsThrough_46 : decode cX1_burstsThrough 46 = .ok (.lastore, 1) := by decide +kernel
theorem dX1_burstsThrough_47 : decode cX1_burstsThrough 47 = .ok (.lload_n 3, 1) := by decide +kernel
theorem dX1_burstsThrough_48 : decode cX1_burstsThrough 48 = .ok (.aload_n 0, 1) := by decide +kernel
theorem dX1_burstsThrough_49 : decode cX1_burstsThrough 49 = .ok (.getfield 23, 3) := by decide +kernel
theorem dX1_burstsThrough_52 : decode cX1_burstsThrough 52 = .ok (.iload 5, 2) := by decide +kernel
theorem dX1_burstsThrough_54 : decode cX1_burstsThrough 54 = .ok (.bipush 16, 2) := by decide +kernel
theorem dX1_burstsThrough_56 : decode cX1_burstsThrough 56 = .ok (.imul, 1) := by decide +kernel
theorem dX1_burstsThrough_57 : decode cX1_burstsThrough 57 = .ok (.iload_n 2, 1) := by decide +kernel
theorem dX1_burstsThrough_58 : decode cX1_burstsThrough 58 = .ok (.iadd, 1) := by decide +kernel
theorem dX1_burstsThrough_59 : decode cX1_burstsThrough 59 = .ok (.laload, 1) := by decide +kernel
theorem dX1_burstsThrough_60 : decode cX1_burstsThrough 60 = .ok (.ladd, 1) := by decide +kernel
theorem dX1_burstsThrough_61 : decode cX1_burstsThrough 61 = .ok (.lstore_n 3, 1) := by decide +kernel
theorem dX1_burstsThrough_62 : decode cX1_burstsThrough 62 = .ok (.iinc 5 1, 3) := by decide +kernel
theorem dX1_burstsThrough_65 : decode cX1_burstsThrough 65 = .ok (.goto (-60), 3) := by decide +kernel
theorem dX1_burstsThrough_68 : decode cX1_burstsThrough 68 = .ok (.lload_n 3, 1) := by decide +kernel
theorem dX1_burstsThrough_69 : decode cX1_burstsThrough 69 = .ok (.lreturn, 1) := by decide +kernel
theorem dX1_burstAt_0 : decode cX1_burstAt 0 = .ok (.aload_n 1, 1) := by decide +kernel
theorem dX1_burstAt_1 : decode cX1_burstAt 1 = .ok (.getfield 51, 3) := by decide +kernel
theorem dX1_burstAt_4 : decode cX1_burstAt 4 = .ok (.getfield 68, 3) := by decide +kernel
theorem dX1_burstAt_7 : decode cX1_burstAt 7 = .ok (.iload_n 2, 1) := by decide +kernel
theorem dX1_burstAt_8 : decode cX1_burstAt 8 = .ok (.bipush 16, 2) := by decide +kernel
theorem dX1_burstAt_10 : decode cX1_burstAt 10 = .ok (.imul, 1) := by decide +kernel
theorem dX1_burstAt_11 : decode cX1_burstAt 11 = .ok (.iload_n 3, 1) := by decide +kernel
theorem dX1_burstAt_12 : decode cX1_burstAt 12 = .ok (.iadd, 1) := by decide +kernel
theorem dX1_burstAt_13 : decode cX1_burstAt 13 = .ok (.iaload, 1) := by decide +kernel
theorem dX1_burstAt_14 : decode cX1_burstAt 14 = .ok (.istore 4, 2) := by decide +kernel
theorem dX1_burstAt_16 : decode cX1_burstAt 16 = .ok (.iload 4, 2) := by decide +kernel
theorem dX1_burstAt_18 : decode cX1_burstAt 18 = .ok (.bipush 6, 2) := by decide +kernel
theorem dX1_burstAt_20 : decode cX1_burstAt 20 = .ok (.if_icmp .ge 30, 3) := by decide +kernel
theorem dX1_burstAt_23 : decode cX1_burstAt 23 = .ok (.aload_n 1, 1) := by decide +kernel
theorem dX1_burstAt_24 : decode cX1_burstAt 24 = .ok (.getfield 61, 3) := by decide +kernel
theorem dX1_burstAt_27 : decode cX1_burstAt 27 = .ok (.iload_n 2, 1) := by decide +kernel
theorem dX1_burstAt_28 : decode cX1_burstAt 28 = .ok (.iaload, 1) := by decide +kernel
theorem dX1_burstAt_29 : decode cX1_burstAt 29 = .ok (.i2l, 1) := by decide +kernel
theorem dX1_burstAt_30 : decode cX1_burstAt 30 = .ok (.ldc2_w 34, 3) := by decide +kernel
theorem dX1_burstAt_33 : decode cX1_burstAt 33 = .ok (.lmul, 1) := by decide +kernel
theorem dX1_burstAt_34 : decode cX1_burstAt 34 = .ok (.aload_n 1, 1) := by decide +kernel
theorem dX1_burstAt_35 : decode cX1_burstAt 35 = .ok (.iload_n 2, 1) := by decide +kernel
theorem dX1_burstAt_36 : decode cX1_burstAt 36 = .ok (.aload_n 1, 1) := by decide +kernel
theorem dX1_burstAt_37 : decode cX1_burstAt 37 = .ok (.getfield 71, 3) := by decide +kernel
theorem dX1_burstAt_40 : decode cX1_burstAt 40 = .ok (.i2l, 1) := by decide +kernel
theorem dX1_burstAt_41 : decode cX1_burstAt 41 = .ok (.ldc2_w 34, 3) := by decide +kernel
theorem dX1_burstAt_44 : decode cX1_burstAt 44 = .ok (.lmul, 1) := by decide +kernel
theorem dX1_burstAt_45 : decode cX1_burstAt 45 = .ok (.invokestatic 74, 3) := by decide +kernel
theorem dX1_burstAt_48 : decode cX1_burstAt 48 = .ok (.ladd, 1) := by decide +kernel
theorem dX1_burstAt_49 : decode cX1_burstAt 49 = .ok (.lreturn, 1) := by decide +kernel
theorem dX1_burstAt_50 : decode cX1_burstAt 50 = .ok (.aload_n 0, 1) := by decide +kernel
theorem dX1_burstAt_51 : decode cX1_burstAt 51 = .ok (.getfield 23, 3) := by decide +kernel
theorem dX1_burstAt_54 : decode cX1_burstAt 54 = .ok (.iload_n 2, 1) := by decide +kernel
theorem dX1_burstAt_55 : decode cX1_burstAt 55 = .ok (.bipush 16, 2) := by decide +kernel
theorem dX1_burstAt_57 : decode cX1_burstAt 57 = .ok (.imul, 1) := by decide +kernel
theorem dX1_burstAt_58 : decode cX1_burstAt 58 = .ok (.iload 4, 2) := by decide +kernel
theorem dX1_burstAt_60 : decode cX1_burstAt 60 = .ok (.iadd, 1) := by decide +kernel
theorem dX1_burstAt_61 : decode cX1_burstAt 61 = .ok (.laload, 1) := by decide +kernel
theorem dX1_burstAt_62 : decode cX1_burstAt 62 = .ok (.aload_n 1, 1) := by decide +kernel
theorem dX1_burstAt_63 : decode cX1_burstAt 63 = .ok (.iload_n 2, 1) := by decide +kernel
theorem dX1_burstAt_64 : decode cX1_burstAt 64 = .ok (.aload_n 0, 1) := by decide +kernel
theorem dX1_burstAt_65 : decode cX1_burstAt 65 = .ok (.getfield 19, 3) := by decide +kernel
theorem dX1_burstAt_68 : decode cX1_burstAt 68 = .ok (.iload 4, 2) := by decide +kernel
theorem dX1_burstAt_70 : decode cX1_burstAt 70 = .ok (.laload, 1) := by decide +kernel
theorem dX1_burstAt_71 : decode cX1_burstAt 71 = .ok (.invokestatic 74, 3) := by decide +kernel
theorem dX1_burstAt_74 : decode cX1_burstAt 74 = .ok (.ladd, 1) := by decide +kernel
theorem dX1_burstAt_75 : decode cX1_burstAt 75 = .ok (.lreturn, 1) := by decide +kernel
theorem dX1_perGap_0 : decode cX1_perGap 0 = .ok (.aload_n 0, 1) := by decide +kernel
theorem dX1_perGap_1 : decode cX1_perGap 1 = .ok (.getfield 48, 3) := by decide +kernel
theorem dX1_perGap_4 : decode cX1_perGap 4 = .ok (.iload_n 1, 1) := by decide +kernel
theorem dX1_perGap_5 : decode cX1_perGap 5 = .ok (.iaload, 1) := by decide +kernel
theorem dX1_perGap_6 : decode cX1_perGap 6 = .ok (.istore 4, 2) := by decide +kernel
theorem dX1_perGap_8 : decode cX1_perGap 8 = .ok (.iload 4, 2) := by decide +kernel
theorem dX1_perGap_10 : decode cX1_perGap 10 = .ok (.ifCond .le 19, 3) := by decide +kernel
theorem dX1_perGap_13 : decode cX1_perGap 13 = .ok (.aload_n 0, 1) := by decide +kernel
theorem dX1_perGap_14 : decode cX1_perGap 14 = .ok (.getfield 61, 3) := by decide +kernel
theorem dX1_perGap_17 : decode cX1_perGap 17 = .ok (.iload_n 1, 1) := by decide +kernel
theorem dX1_perGap_18 : decode cX1_perGap 18 = .ok (.iaload, 1) := by decide +kernel
theorem dX1_perGap_19 : decode cX1_perGap 19 = .ok (.i2l, 1) := by decide +kernel
theorem dX1_perGap_20 : decode cX1_perGap 20 = .ok (.lload_n 2, 1) := by decide +kernel
theorem dX1_perGap_21 : decode cX1_perGap 21 = .ok (.lmul, 1) := by decide +kernel
theorem dX1_perGap_22 : decode cX1_perGap 22 = .ok (.iload 4, 2) := by decide +kernel
theorem dX1_perGap_24 : decode cX1_perGap 24 = .ok (.i2l, 1) := by decide +kernel
theorem dX1_perGap_25 : decode cX1_perGap 25 = .ok (.ldiv, 1) := by decide +kernel
theorem dX1_perGap_26 : decode cX1_perGap 26 = .ok (.goto 4, 3) := by decide +kernel
theorem dX1_perGap_29 : decode cX1_perGap 29 = .ok (.lconst 0, 1) := by decide +kernel
theorem dX1_perGap_30 : decode cX1_perGap 30 = .ok (.lreturn, 1) := by decide +kernel
theorem dX1_loadOf_0 : decode cX1_loadOf 0 = .ok (.aload_n 0, 1) := by decide +kernel
theorem dX1_loadOf_1 : decode cX1_loadOf 1 = .ok (.getfield 15, 3) := by decide +kernel
theorem dX1_loadOf_4 : decode cX1_loadOf 4 = .ok (.iload_n 1, 1) := by decide +kernel
theorem dX1_loadOf_5 : decode cX1_loadOf 5 = .ok (.iaload, 1) := by decide +kernel
theorem dX1_loadOf_6 : decode cX1_loadOf 6 = .ok (.i2l, 1) := by decide +kernel
theorem dX1_loadOf_7 : decode cX1_loadOf 7 = .ok (.ldc2_w 78, 3) := by decide +kernel
theorem dX1_loadOf_10 : decode cX1_loadOf 10 = .ok (.lmul, 1) := by decide +kernel
theorem dX1_loadOf_11 : decode cX1_loadOf 11 = .ok (.lreturn, 1) := by decide +kernel
theorem dX1_boundOf_0 : decode cX1_boundOf 0 = .ok (.lconst 0, 1) := by decide +kernel
theorem dX1_boundOf_1 : decode cX1_boundOf 1 = .ok (.lstore_n 3, 1) := by decide +kernel
theorem dX1_boundOf_2 : decode cX1_boundOf 2 = .ok (.iconst 0, 1) := by decide +kernel
theorem dX1_boundOf_3 : decode cX1_boundOf 3 = .ok (.istore 5, 2) := by decide +kernel
theorem dX1_boundOf_5 : decode cX1_boundOf 5 = .ok (.iload 5, 2) := by decide +kernel
theorem dX1_boundOf_7 : decode cX1_boundOf 7 = .ok (.aload_n 1, 1) := by decide +kernel
theorem dX1_boundOf_8 : decode cX1_boundOf 8 = .ok (.getfield 51, 3) := by decide +kernel
theorem dX1_boundOf_11 : decode cX1_boundOf 11 = .ok (.getfield 80, 3) := by decide +kernel
theorem dX1_boundOf_14 : decode cX1_boundOf 14 = .ok (.iload_n 2, 1) := by decide +kernel
theorem dX1_boundOf_15 : decode cX1_boundOf 15 = .ok (.iaload, 1) := by decide +kernel
theorem dX1_boundOf_16 : decode cX1_boundOf 16 = .ok (.if_icmp .ge 27, 3) := by decide +kernel
theorem dX1_boundOf_19 : decode cX1_boundOf 19 = .ok (.lload_n 3, 1) := by decide +kernel
theorem dX1_boundOf_20 : decode cX1_boundOf 20 = .ok (.aload_n 0, 1) := by decide +kernel
theorem dX1_boundOf_21 : decode cX1_boundOf 21 = .ok (.getfield 19, 3) := by decide +kernel
theorem dX1_boundOf_24 : decode cX1_boundOf 24 = .ok (.aload_n 1, 1) := by decide +kernel
theorem dX1_boundOf_25 : decode cX1_boundOf 25 = .ok (.getfield 51, 3) := by decide +kernel
theorem dX1_boundOf_28 : decode cX1_boundOf 28 = .ok (.iload_n 2, 1) := by decide +kernel
theorem dX1_boundOf_29 : decode cX1_boundOf 29 = .ok (.iload 5, 2) := by decide +kernel
theorem dX1_boundOf_31 : decode cX1_boundOf 31 = .ok (.invokevirtual 83, 3) := by decide +kernel
theorem dX1_boundOf_34 : decode cX1_boundOf 34 = .ok (.laload, 1) := by decide +kernel
theorem dX1_boundOf_35 : decode cX1_boundOf 35 = .ok (.ladd, 1) := by decide +kernel
theorem dX1_boundOf_36 : decode cX1_boundOf 36 = .ok (.lstore_n 3, 1) := by decide +kernel
theorem dX1_boundOf_37 : decode cX1_boundOf 37 = .ok (.iinc 5 1, 3) := by decide +kernel
theorem dX1_boundOf_40 : decode cX1_boundOf 40 = .ok (.goto (-35), 3) := by decide +kernel
theorem dX1_boundOf_43 : decode cX1_boundOf 43 = .ok (.lload_n 3, 1) := by decide +kernel
theorem dX1_boundOf_44 : decode cX1_boundOf 44 = .ok (.lreturn, 1) := by decide +kernel
theorem dX1_fullestPort_0 : decode cX1_fullestPort 0 = .ok (.iconst 0, 1) := by decide +kernel
theorem dX1_fullestPort_1 : decode cX1_fullestPort 1 = .ok (.istore_n 1, 1) := by decide +kernel
theorem dX1_fullestPort_2 : decode cX1_fullestPort 2 = .ok (.iconst 1, 1) := by decide +kernel
theorem dX1_fullestPort_3 : decode cX1_fullestPort 3 = .ok (.istore_n 2, 1) := by decide +kernel
theorem dX1_fullestPort_4 : decode cX1_fullestPort 4 = .ok (.iload_n 2, 1) := by decide +kernel
theorem dX1_fullestPort_5 : decode cX1_fullestPort 5 = .ok (.bipush 16, 2) := by decide +kernel
theorem dX1_fullestPort_7 : decode cX1_fullestPort 7 = .ok (.if_icmp .ge 26, 3) := by decide +kernel
theorem dX1_fullestPort_10 : decode cX1_fullestPort 10 = .ok (.aload_n 0, 1) := by decide +kernel
theorem dX1_fullestPort_11 : decode cX1_fullestPort 11 = .ok (.getfield 15, 3) := by decide +kernel
theorem dX1_fullestPort_14 : decode cX1_fullestPort 14 = .ok (.iload_n 2, 1) := by decide +kernel
theorem dX1_fullestPort_15 : decode cX1_fullestPort 15 = .ok (.iaload, 1) := by decide +kernel
theorem dX1_fullestPort_16 : decode cX1_fullestPort 16 = .ok (.aload_n 0, 1) := by decide +kernel
theorem dX1_fullestPort_17 : decode cX1_fullestPort 17 = .ok (.getfield 15, 3) := by decide +kernel
theorem dX1_fullestPort_20 : decode cX1_fullestPort 20 = .ok (.iload_n 1, 1) := by decide +kernel
theorem dX1_fullestPort_21 : decode cX1_fullestPort 21 = .ok (.iaload, 1) := by decide +kernel
theorem dX1_fullestPort_22 : decode cX1_fullestPort 22 = .ok (.if_icmp .le 5, 3) := by decide +kernel
theorem dX1_fullestPort_25 : decode cX1_fullestPort 25 = .ok (.iload_n 2, 1) := by decide +kernel
theorem dX1_fullestPort_26 : decode cX1_fullestPort 26 = .ok (.istore_n 1, 1) := by decide +kernel
theorem dX1_fullestPort_27 : decode cX1_fullestPort 27 = .ok (.iinc 2 1, 3) := by decide +kernel
theorem dX1_fullestPort_30 : decode cX1_fullestPort 30 = .ok (.goto (-26), 3) := by decide +kernel
theorem dX1_fullestPort_33 : decode cX1_fullestPort 33 = .ok (.iload_n 1, 1) := by decide +kernel
theorem dX1_fullestPort_34 : decode cX1_fullestPort 34 = .ok (.ireturn, 1) := by decide +kernel
theorem dX1_leastGapFor_0 : decode cX1_leastGapFor 0 = .ok (.bipush 8, 2) := by decide +kernel
theorem dX1_leastGapFor_2 : decode cX1_leastGapFor 2 = .ok (.istore_n 3, 1) := by decide +kernel
theorem dX1_leastGapFor_3 : decode cX1_leastGapFor 3 = .ok (.iload_n 3, 1) := by decide +kernel
theorem dX1_leastGapFor_4 : decode cX1_leastGapFor 4 = .ok (.sipush 256, 3) := by decide +kernel
theorem dX1_leastGapFor_7 : decode cX1_leastGapFor 7 = .ok (.if_icmp .gt 31, 3) := by decide +kernel
theorem dX1_leastGapFor_10 : decode cX1_leastGapFor 10 = .ok (.iload_n 3, 1) := by decide +kernel
theorem dX1_leastGapFor_11 : decode cX1_leastGapFor 11 = .ok (.aload_n 1, 1) := by decide +kernel
theorem dX1_leastGapFor_12 : decode cX1_leastGapFor 12 = .ok (.getfield 61, 3) := by decide +kernel
theorem dX1_leastGapFor_15 : decode cX1_leastGapFor 15 = .ok (.iload_n 2, 1) := by decide +kernel
theorem dX1_leastGapFor_16 : decode cX1_leastGapFor 16 = .ok (.iaload, 1) := by decide +kernel
theorem dX1_leastGapFor_17 : decode cX1_leastGapFor 17 = .ok (.if_icmp .lt 14, 3) := by decide +kernel
theorem dX1_leastGapFor_20 : decode cX1_leastGapFor 20 = .ok (.aload_n 1, 1) := by decide +kernel
theorem dX1_leastGapFor_21 : decode cX1_leastGapFor 21 = .ok (.iload_n 2, 1) := by decide +kernel
theorem dX1_leastGapFor_22 : decode cX1_leastGapFor 22 = .ok (.iload_n 3, 1) := by decide +kernel
theorem dX1_leastGapFor_23 : decode cX1_leastGapFor 23 = .ok (.invokestatic 87, 3) := by decide +kernel
theorem dX1_leastGapFor_26 : decode cX1_leastGapFor 26 = .ok (.ifCond .eq 5, 3) := by decide +kernel
theorem dX1_leastGapFor_29 : decode cX1_leastGapFor 29 = .ok (.iload_n 3, 1) := by decide +kernel
theorem dX1_leastGapFor_30 : decode cX1_leastGapFor 30 = .ok (.ireturn, 1) := by decide +kernel
theorem dX1_leastGapFor_31 : decode cX1_leastGapFor 31 = .ok (.iload_n 3, 1) := by decide +kernel
theorem dX1_leastGapFor_32 : decode cX1_leastGapFor 32 = .ok (.iconst 2, 1) := by decide +kernel
theorem dX1_leastGapFor_33 : decode cX1_leastGapFor 33 = .ok (.imul, 1) := by decide +kernel
theorem dX1_leastGapFor_34 : decode cX1_leastGapFor 34 = .ok (.istore_n 3, 1) := by decide +kernel
theorem dX1_leastGapFor_35 : decode cX1_leastGapFor 35 = .ok (.goto (-32), 3) := by decide +kernel
theorem dX1_leastGapFor_38 : decode cX1_leastGapFor 38 = .ok (.bipush (-2), 2) := by decide +kernel
theorem dX1_leastGapFor_40 : decode cX1_leastGapFor 40 = .ok (.ireturn, 1) := by decide +kernel
theorem dX1_bears_0 : decode cX1_bears 0 = .ok (.iconst 0, 1) := by decide +kernel
theorem dX1_bears_1 : decode cX1_bears 1 = .ok (.istore_n 3, 1) := by decide +kernel
theorem dX1_bears_2 : decode cX1_bears 2 = .ok (.iload_n 3, 1) := by decide +kernel
theorem dX1_bears_3 : decode cX1_bears 3 = .ok (.bipush 16, 2) := by decide +kernel
theorem dX1_bears_5 : decode cX1_bears 5 = .ok (.if_icmp .ge 24, 3) := by decide +kernel
theorem dX1_bears_8 : decode cX1_bears 8 = .ok (.aload_n 0, 1) := by decide +kernel
theorem dX1_bears_9 : decode cX1_bears 9 = .ok (.iload_n 3, 1) := by decide +kernel
theorem dX1_bears_10 : decode cX1_bears 10 = .ok (.iload_n 1, 1) := by decide +kernel
theorem dX1_bears_11 : decode cX1_bears 11 = .ok (.iload_n 2, 1) := by decide +kernel
theorem dX1_bears_12 : decode cX1_bears 12 = .ok (.invokestatic 26, 3) := by decide +kernel
theorem dX1_bears_15 : decode cX1_bears 15 = .ok (.sipush 256, 3) := by decide +kernel
theorem dX1_bears_18 : decode cX1_bears 18 = .ok (.if_icmp .le 5, 3) := by decide +kernel
theorem dX1_bears_21 : decode cX1_bears 21 = .ok (.iconst 0, 1) := by decide +kernel
theorem dX1_bears_22 : decode cX1_bears 22 = .ok (.ireturn, 1) := by decide +kernel
theorem dX1_bears_23 : decode cX1_bears 23 = .ok (.iinc 3 1, 3) := by decide +kernel
theorem dX1_bears_26 : decode cX1_bears 26 = .ok (.goto (-24), 3) := by decide +kernel
theorem dX1_bears_29 : decode cX1_bears 29 = .ok (.iconst 1, 1) := by decide +kernel
theorem dX1_bears_30 : decode cX1_bears 30 = .ok (.ireturn, 1) := by decide +kernel
theorem dX2_init_0 : decode cX2_init 0 = .ok (.aload_n 0, 1) := by decide +kernel
theorem dX2_init_1 : decode cX2_init 1 = .ok (.invokespecial 3, 3) := by decide +kernel
theorem dX2_init_4 : decode cX2_init 4 = .ok (.aload_n 0, 1) := by decide +kernel
theorem dX2_init_5 : decode cX2_init 5 = .ok (.iconst 0, 1) := by decide +kernel
theorem dX2_init_6 : decode cX2_init 6 = .ok (.putfield 9, 3) := by decide +kernel
theorem dX2_init_9 : decode cX2_init 9 = .ok (.aload_n 0, 1) := by decide +kernel
theorem dX2_init_10 : decode cX2_init 10 = .ok (.iconst 0, 1) := by decide +kernel
theorem dX2_init_11 : decode cX2_init 11 = .ok (.putfield 15, 3) := by decide +kernel
theorem dX2_init_14 : decode cX2_init 14 = .ok (.aload_n 0, 1) := by decide +kernel
theorem dX2_init_15 : decode cX2_init 15 = .ok (.iconst 0, 1) := by decide +kernel
theorem dX2_init_16 : decode cX2_init 16 = .ok (.putfield 18, 3) := by decide +kernel
theorem dX2_init_19 : decode cX2_init 19 = .ok (.aload_n 0, 1) := by decide +kernel
theorem dX2_init_20 : decode cX2_init 20 = .ok (.iconst 0, 1) := by decide +kernel
theorem dX2_init_21 : decode cX2_init 21 = .ok (.putfield 21, 3) := by decide +kernel
theorem dX2_init_24 : decode cX2_init 24 = .ok (.aload_n 0, 1) := by decide +kernel
theorem dX2_init_25 : decode cX2_init 25 = .ok (.iconst 0, 1) := by decide +kernel
theorem dX2_init_26 : decode cX2_init 26 = .ok (.putfield 24, 3) := by decide +kernel
theorem dX2_init_29 : decode cX2_init 29 = .ok (.aload_n 0, 1) := by decide +kernel
theorem dX2_init_30 : decode cX2_init 30 = .ok (.iconst 0, 1) := by decide +kernel
theorem dX2_init_31 : decode cX2_init 31 = .ok (.putfield 27, 3) := by decide +kernel
theorem dX2_init_34 : decode cX2_init 34 = .ok (.aload_n 0, 1) := by decide +kernel
theorem dX2_init_35 : decode cX2_init 35 = .ok (.iconst 0, 1) := by decide +kernel
theorem dX2_init_36 : decode cX2_init 36 = .ok (.putfield 30, 3) := by decide +kernel
theorem dX2_init_39 : decode cX2_init 39 = .ok (.aload_n 0, 1) := by decide +kernel
theorem dX2_init_40 : decode cX2_init 40 = .ok (.bipush 6, 2) := by decide +kernel
theorem dX2_init_42 : decode cX2_init 42 = .ok (.newarray .int, 2) := by decide +kernel
theorem dX2_init_44 : decode cX2_init 44 = .ok (.putfield 33, 3) := by decide +kernel
theorem dX2_init_47 : decode cX2_init 47 = .ok (.aload_n 0, 1) := by decide +kernel
theorem dX2_init_48 : decode cX2_init 48 = .ok (.bipush 6, 2) := by decide +kernel
theorem dX2_init_50 : decode cX2_init 50 = .ok (.newarray .long, 2) := by decide +kernel
theorem dX2_init_52 : decode cX2_init 52 = .ok (.putfield 37, 3) := by decide +kernel
theorem dX2_init_55 : decode cX2_init 55 = .ok (.aload_n 0, 1) := by decide +kernel
theorem dX2_init_56 : decode cX2_init 56 = .ok (.bipush 8, 2) := by decide +kernel
theorem dX2_init_58 : decode cX2_init 58 = .ok (.newarray .long, 2) := by decide +kernel
theorem dX2_init_60 : decode cX2_init 60 = .ok (.putfield 41, 3) := by decide +kernel
theorem dX2_init_63 : decode cX2_init 63 = .ok (.aload_n 0, 1) := by decide +kernel
theorem dX2_init_64 : decode cX2_init 64 = .ok (.bipush 8, 2) := by decide +kernel
theorem dX2_init_66 : decode cX2_init 66 = .ok (.newarray .int, 2) := by decide +kernel
theorem dX2_init_68 : decode cX2_init 68 = .ok (.putfield 44, 3) := by decide +kernel
theorem dX2_init_71 : decode cX2_init 71 = .ok (.aload_n 0, 1) := by decide +kernel
theorem dX2_init_72 : decode cX2_init 72 = .ok (.bipush 8, 2) := by decide +kernel
theorem dX2_init_74 : decode cX2_init 74 = .ok (.newarray .int, 2) := by decide +kernel
theorem dX2_init_76 : decode cX2_init 76 = .ok (.putfield 47, 3) := by decide +kernel
theorem dX2_init_79 : decode cX2_init 79 = .ok (.aload_n 0, 1) := by decide +kernel
theorem dX2_init_80 : decode cX2_init 80 = .ok (.bipush 8, 2) := by decide +kernel
theorem dX2_init_82 : decode cX2_init 82 = .ok (.newarray .int, 2) := by decide +kernel
theorem dX2_init_84 : decode cX2_init 84 = .ok (.putfield 50, 3) := by decide +kernel
theorem dX2_init_87 : decode cX2_init 87 = .ok (.aload_n 0, 1) := by decide +kernel
theorem dX2_init_88 : decode cX2_init 88 = .ok (.bipush 8, 2) := by decide +kernel
theorem dX2_init_90 : decode cX2_init 90 = .ok (.newarray .int, 2) := by decide +kernel
theorem dX2_init_92 : decode cX2_init 92 = .ok (.putfield 53, 3) := by decide +kernel
theorem dX2_init_95 : decode cX2_init 95 = .ok (.aload_n 0, 1) := by decide +kernel
theorem dX2_init_96 : decode cX2_init 96 = .ok (.bipush 24, 2) := by decide +kernel
theorem dX2_init_98 : decode cX2_init 98 = .ok (.newarray .int, 2) := by decide +kernel
theorem dX2_init_100 : decode cX2_init 100 = .ok (.putfield 56, 3) := by decide +kernel
theorem dX2_init_103 : decode cX2_init 103 = .ok (.aload_n 0, 1) := by decide +kernel
theorem dX2_init_104 : decode cX2_init 104 = .ok (.new 59, 3) := by decide +kernel
theorem dX2_init_107 : decode cX2_init 107 = .ok (.dup, 1) := by decide +kernel
theorem dX2_init_108 : decode cX2_init 108 = .ok (.invokespecial 61, 3) := by decide +kernel
theorem dX2_init_111 : decode cX2_init 111 = .ok (.putfield 62, 3) := by decide +kernel
theorem dX2_init_114 : decode cX2_init 114 = .ok (.return_, 1) := by decide +kernel
theorem dX2_clear_0 : decode cX2_clear 0 = .ok (.aload_n 0, 1) := by decide +kernel
theorem dX2_clear_1 : decode cX2_clear 1 = .ok (.iconst 0, 1) := by decide +kernel
theorem dX2_clear_2 : decode cX2_clear 2 = .ok (.putfield 9, 3) := by decide +kernel
theorem dX2_clear_5 : decode cX2_clear 5 = .ok (.aload_n 0, 1) := by decide +kernel
theorem dX2_clear_6 : decode cX2_clear 6 = .ok (.iconst 0, 1) := by decide +kernel
theorem dX2_clear_7 : decode cX2_clear 7 = .ok (.putfield 27, 3) := by decide +kernel
theorem dX2_clear_10 : decode cX2_clear 10 = .ok (.aload_n 0, 1) := by decide +kernel
theorem dX2_clear_11 : decode cX2_clear 11 = .ok (.iconst 0, 1) := by decide +kernel
theorem dX2_clear_12 : decode cX2_clear 12 = .ok (.putfield 30, 3) := by decide +kernel
theorem dX2_clear_15 : decode cX2_clear 15 = .ok (.return_, 1) := by decide +kernel
theorem dX2_hasEnd_0 : decode cX2_hasEnd 0 = .ok (.iload_n 1, 1) := by decide +kernel
theorem dX2_hasEnd_1 : decode cX2_hasEnd 1 = .ok (.ifCond .lt 15, 3) := by decide +kernel
theorem dX2_hasEnd_4 : decode cX2_hasEnd 4 = .ok (.iload_n 1, 1) := by decide +kernel
theorem dX2_hasEnd_5 : decode cX2_hasEnd 5 = .ok (.aload_n 0, 1) := by decide +kernel
theorem dX2_hasEnd_6 : decode cX2_hasEnd 6 = .ok (.getfield 27, 3) := by decide +kernel
theorem dX2_hasEnd_9 : decode cX2_hasEnd 9 = .ok (.if_icmp .ge 7, 3) := by decide +kernel
theorem dX2_hasEnd_12 : decode cX2_hasEnd 12 = .ok (.iconst 1, 1) := by decide +kernel
theorem dX2_hasEnd_13 : decode cX2_hasEnd 13 = .ok (.goto 4, 3) := by decide +kernel
theorem dX2_hasEnd_16 : decode cX2_hasEnd 16 = .ok (.iconst 0, 1) := by decide +kernel
theorem dX2_hasEnd_17 : decode cX2_hasEnd 17 = .ok (.ireturn, 1) := by decide +kernel
theorem dX2_hasLink_0 : decode cX2_hasLink 0 = .ok (.iload_n 1, 1) := by decide +kernel
theorem dX2_hasLink_1 : decode cX2_hasLink 1 = .ok (.ifCond .lt 15, 3) := by decide +kernel
theorem dX2_hasLink_4 : decode cX2_hasLink 4 = .ok (.iload_n 1, 1) := by decide +kernel
theorem dX2_hasLink_5 : decode cX2_hasLink 5 = .ok (.aload_n 0, 1) := by decide +kernel
theorem dX2_hasLink_6 : decode cX2_hasLink 6 = .ok (.getfield 30, 3) := by decide +kernel
theorem dX2_hasLink_9 : decode cX2_hasLink 9 = .ok (.if_icmp .ge 7, 3) := by decide +kernel
theorem dX2_hasLink_12 : decode cX2_hasLink 12 = .ok (.iconst 1, 1) := by decide +kernel
theorem dX2_hasLink_13 : decode cX2_hasLink 13 = .ok (.goto 4, 3) := by decide +kernel
theorem dX2_hasLink_16 : decode cX2_hasLink 16 = .ok (.iconst 0, 1) := by decide +kernel
theorem dX2_hasLink_17 : decode cX2_hasLink 17 = .ok (.ireturn, 1) := by decide +kernel
theorem dX2_hasReceiver_0 : decode cX2_hasReceiver 0 = .ok (.aload_n 0, 1) := by decide +kernel
theorem dX2_hasReceiver_1 : decode cX2_hasReceiver 1 = .ok (.iload_n 1, 1) := by decide +kernel
theorem dX2_hasReceiver_2 : decode cX2_hasReceiver 2 = .ok (.invokevirtual 66, 3) := by decide +kernel
theorem dX2_hasReceiver_5 : decode cX2_hasReceiver 5 = .ok (.ifCond .eq 21, 3) := by decide +kernel
theorem dX2_hasReceiver_8 : decode cX2_hasReceiver 8 = .ok (.iload_n 2, 1) := by decide +kernel
theorem dX2_hasReceiver_9 : decode cX2_hasReceiver 9 = .ok (.ifCond .lt 17, 3) := by decide +kernel
theorem dX2_hasReceiver_12 : decode cX2_hasReceiver 12 = .ok (.iload_n 2, 1) := by decide +kernel
theorem dX2_hasReceiver_13 : decode cX2_hasReceiver 13 = .ok (.aload_n 0, 1) := by decide +kernel
theorem dX2_hasReceiver_14 : decode cX2_hasReceiver 14 = .ok (.getfield 53, 3) := by decide +kernel
theorem dX2_hasReceiver_17 : decode cX2_hasReceiver 17 = .ok (.iload_n 1, 1) := by decide +kernel
theorem dX2_hasReceiver_18 : decode cX2_hasReceiver 18 = .ok (.iaload, 1) := by decide +kernel
theorem dX2_hasReceiver_19 : decode cX2_hasReceiver 19 = .ok (.if_icmp .ge 7, 3) := by decide +kernel
theorem dX2_hasReceiver_22 : decode cX2_hasReceiver 22 = .ok (.iconst 1, 1) := by decide +kernel
theorem dX2_hasReceiver_23 : decode cX2_hasReceiver 23 = .ok (.goto 4, 3) := by decide +kernel
theorem dX2_hasReceiver_26 : decode cX2_hasReceiver 26 = .ok (.iconst 0, 1) := by decide +kernel
theorem dX2_hasReceiver_27 : decode cX2_hasReceiver 27 = .ok (.ireturn, 1) := by decide +kernel
theorem dX2_hasPort_0 : decode cX2_hasPort 0 = .ok (.iload_n 1, 1) := by decide +kernel
theorem dX2_hasPort_1 : decode cX2_hasPort 1 = .ok (.bipush 6, 2) := by decide +kernel
theorem dX2_hasPort_3 : decode cX2_hasPort 3 = .ok (.if_icmp .ge 9, 3) := by decide +kernel
theorem dX2_hasPort_6 : decode cX2_hasPort 6 = .ok (.aload_n 0, 1) := by decide +kernel
theorem dX2_hasPort_7 : decode cX2_hasPort 7 = .ok (.iload_n 1, 1) := by decide +kernel
theorem dX2_hasPort_8 : decode cX2_hasPort 8 = .ok (.invokevirtual 70, 3) := by decide +kernel
theorem dX2_hasPort_11 : decode cX2_hasPort 11 = .ok (.ireturn, 1) := by decide +kernel
theorem dX2_hasPort_12 : decode cX2_hasPort 12 = .ok (.iload_n 1, 1) := by decide +kernel
theorem dX2_hasPort_13 : decode cX2_hasPort 13 = .ok (.bipush 12, 2) := by decide +kernel
theorem dX2_hasPort_15 : decode cX2_hasPort 15 = .ok (.if_icmp .ge 12, 3) := by decide +kernel
theorem dX2_hasPort_18 : decode cX2_hasPort 18 = .ok (.aload_n 0, 1) := by decide +kernel
theorem dX2_hasPort_19 : decode cX2_hasPort 19 = .ok (.iload_n 1, 1) := by decide +kernel
theorem dX2_hasPort_20 : decode cX2_hasPort 20 = .ok (.bipush 6, 2) := by decide +kernel
theorem dX2_hasPort_22 : decode cX2_hasPort 22 = .ok (.isub, 1) := by decide +kernel
theorem dX2_hasPort_23 : decode cX2_hasPort 23 = .ok (.invokevirtual 70, 3) := by decide +kernel
theorem dX2_hasPort_26 : decode cX2_hasPort 26 = .ok (.ireturn, 1) := by decide +kernel
theorem dX2_hasPort_27 : decode cX2_hasPort 27 = .ok (.iload_n 1, 1) := by decide +kernel
theorem dX2_hasPort_28 : decode cX2_hasPort 28 = .ok (.bipush 14, 2) := by decide +kernel
theorem dX2_hasPort_30 : decode cX2_hasPort 30 = .ok (.if_icmp .ge 22, 3) := by decide +kernel
theorem dX2_hasPort_33 : decode cX2_hasPort 33 = .ok (.iload_n 1, 1) := by decide +kernel
theorem dX2_hasPort_34 : decode cX2_hasPort 34 = .ok (.bipush 12, 2) := by decide +kernel
theorem dX2_hasPort_36 : decode cX2_hasPort 36 = .ok (.isub, 1) := by decide +kernel
theorem dX2_hasPort_37 : decode cX2_hasPort 37 = .ok (.iconst 1, 1) := by decide +kernel
theorem dX2_hasPort_38 : decode cX2_hasPort 38 = .ok (.iadd, 1) := by decide +kernel
theorem dX2_hasPort_39 : decode cX2_hasPort 39 = .ok (.aload_n 0, 1) := by decide +kernel
theorem dX2_hasPort_40 : decode cX2_hasPort 40 = .ok (.getfield 9, 3) := by decide +kernel
theorem dX2_hasPort_43 : decode cX2_hasPort 43 = .ok (.if_icmp .ge 7, 3) := by decide +kernel
theorem dX2_hasPort_46 : decode cX2_hasPort 46 = .ok (.iconst 1, 1) := by decide +kernel
theorem dX2_hasPort_47 : decode cX2_hasPort 47 = .ok (.goto 4, 3) := by decide +kernel
theorem dX2_hasPort_50 : decode cX2_hasPort 50 = .ok (.iconst 0, 1) := by decide +kernel
theorem dX2_hasPort_51 : decode cX2_hasPort 51 = .ok (.ireturn, 1) := by decide +kernel
theorem dX2_hasPort_52 : decode cX2_hasPort 52 = .ok (.iload_n 1, 1) := by decide +kernel
theorem dX2_hasPort_53 : decode cX2_hasPort 53 = .ok (.bipush 16, 2) := by decide +kernel
theorem dX2_hasPort_55 : decode cX2_hasPort 55 = .ok (.if_icmp .ge 20, 3) := by decide +kernel
theorem dX2_hasPort_58 : decode cX2_hasPort 58 = .ok (.iload_n 1, 1) := by decide +kernel
theorem dX2_hasPort_59 : decode cX2_hasPort 59 = .ok (.bipush 14, 2) := by decide +kernel
theorem dX2_hasPort_61 : decode cX2_hasPort 61 = .ok (.isub, 1) := by decide +kernel
theorem dX2_hasPort_62 : decode cX2_hasPort 62 = .ok (.iconst 1, 1) := by decide +kernel
theorem dX2_hasPort_63 : decode cX2_hasPort 63 = .ok (.iadd, 1) := by decide +kernel
theorem dX2_hasPort_64 : decode cX2_hasPort 64 = .ok (.aload_n 0, 1) := by decide +kernel
theorem dX2_hasPort_65 : decode cX2_hasPort 65 = .ok (.getfield 9, 3) := by decide +kernel
theorem dX2_hasPort_68 : decode cX2_hasPort 68 = .ok (.if_icmp .ge 7, 3) := by decide +kernel
theorem dX2_hasPort_71 : decode cX2_hasPort 71 = .ok (.iconst 1, 1) := by decide +kernel
theorem dX2_hasPort_72 : decode cX2_hasPort 72 = .ok (.goto 4, 3) := by decide +kernel
theorem dX2_hasPort_75 : decode cX2_hasPort 75 = .ok (.iconst 0, 1) := by decide +kernel
theorem dX2_hasPort_76 : decode cX2_hasPort 76 = .ok (.ireturn, 1) := by decide +kernel
theorem dX2_endNamed_0 : decode cX2_endNamed 0 = .ok (.iconst 0, 1) := by decide +kernel
theorem dX2_endNamed_1 : decode cX2_endNamed 1 = .ok (.istore_n 3, 1) := by decide +kernel
theorem dX2_endNamed_2 : decode cX2_endNamed 2 = .ok (.iload_n 3, 1) := by decide +kernel
theorem dX2_endNamed_3 : decode cX2_endNamed 3 = .ok (.aload_n 0, 1) := by decide +kernel
theorem dX2_endNamed_4 : decode cX2_endNamed 4 = .ok (.getfield 27, 3) := by decide +kernel
theorem dX2_endNamed_7 : decode cX2_endNamed 7 = .ok (.if_icmp .ge 22, 3) := by decide +kernel
theorem dX2_endNamed_10 : decode cX2_endNamed 10 = .ok (.aload_n 0, 1) := by decide +kernel
theorem dX2_endNamed_11 : decode cX2_endNamed 11 = .ok (.getfield 37, 3) := by decide +kernel
theorem dX2_endNamed_14 : decode cX2_endNamed 14 = .ok (.iload_n 3, 1) := by decide +kernel
theorem dX2_endNamed_15 : decode cX2_endNamed 15 = .ok (.laload, 1) := by decide +kernel
theorem dX2_endNamed_16 : decode cX2_endNamed 16 = .ok (.lload_n 1, 1) := by decide +kernel
theorem dX2_endNamed_17 : decode cX2_endNamed 17 = .ok (.lcmp, 1) := by decide +kernel
theorem dX2_endNamed_18 : decode cX2_endNamed 18 = .ok (.ifCond .ne 5, 3) := by decide +kernel
theorem dX2_endNamed_21 : decode cX2_endNamed 21 = .ok (.iload_n 3, 1) := by decide +kernel
theorem dX2_endNamed_22 : decode cX2_endNamed 22 = .ok (.ireturn, 1) := by decide +kernel
theorem dX2_endNamed_23 : decode cX2_endNamed 23 = .ok (.iinc 3 1, 3) := by decide +kernel
theorem dX2_endNamed_26 : decode cX2_endNamed 26 = .ok (.goto (-24), 3) := by decide +kernel
theorem dX2_endNamed_29 : decode cX2_endNamed 29 = .ok (.iconst (-1), 1) := by decide +kernel
theorem dX2_endNamed_30 : decode cX2_endNamed 30 = .ok (.ireturn, 1) := by decide +kernel
theorem dX2_linkNamed_0 : decode cX2_linkNamed 0 = .ok (.iconst 0, 1) := by decide +kernel
theorem dX2_linkNamed_1 : decode cX2_linkNamed 1 = .ok (.istore_n 3, 1) := by decide +kernel
theorem dX2_linkNamed_2 : decode cX2_linkNamed 2 = .ok (.iload_n 3, 1) := by decide +kernel
theorem dX2_linkNamed_3 : decode cX2_linkNamed 3 = .ok (.aload_n 0, 1) := by decide +kernel
theorem dX2_linkNamed_4 : decode cX2_linkNamed 4 = .ok (.getfield 30, 3) := by decide +kernel
theorem dX2_linkNamed_7 : decode cX2_linkNamed 7 = .ok (.if_icmp .ge 22, 3) := by decide +kernel
theorem dX2_linkNamed_10 : decode cX2_linkNamed 10 = .ok (.aload_n 0, 1) := by decide +kernel
theorem dX2_linkNamed_11 : decode cX2_linkNamed 11 = .ok (.getfield 41, 3) := by decide +kernel
theorem dX2_linkNamed_14 : decode cX2_linkNamed 14 = .ok (.iload_n 3, 1) := by decide +kernel
theorem dX2_linkNamed_15 : decode cX2_linkNamed 15 = .ok (.laload, 1) := by decide +kernel
theorem dX2_linkNamed_16 : decode cX2_linkNamed 16 = .ok (.lload_n 1, 1) := by decide +kernel
theorem dX2_linkNamed_17 : decode cX2_linkNamed 17 = .ok (.lcmp, 1) := by decide +kernel
theorem dX2_linkNamed_18 : decode cX2_linkNamed 18 = .ok (.ifCond .ne 5, 3) := by decide +kernel
theorem dX2_linkNamed_21 : decode cX2_linkNamed 21 = .ok (.iload_n 3, 1) := by decide +kernel
theorem dX2_linkNamed_22 : decode cX2_linkNamed 22 = .ok (.ireturn, 1) := by decide +kernel
theorem dX2_linkNamed_23 : decode cX2_linkNamed 23 = .ok (.iinc 3 1, 3) := by decide +kernel
theorem dX2_linkNamed_26 : decode cX2_linkNamed 26 = .ok (.goto (-24), 3) := by decide +kernel
theorem dX2_linkNamed_29 : decode cX2_linkNamed 29 = .ok (.iconst (-1), 1) := by decide +kernel
theorem dX2_linkNamed_30 : decode cX2_linkNamed 30 = .ok (.ireturn, 1) := by decide +kernel
theorem dX2_allReceivers_0 : decode cX2_allReceivers 0 = .ok (.iconst 0, 1) := by decide +kernel
theorem dX2_allReceivers_1 : decode cX2_allReceivers 1 = .ok (.istore_n 1, 1) := by decide +kernel
theorem dX2_allReceivers_2 : decode cX2_allReceivers 2 = .ok (.iconst 0, 1) := by decide +kernel
theorem dX2_allReceivers_3 : decode cX2_allReceivers 3 = .ok (.istore_n 2, 1) := by decide +kernel
theorem dX2_allReceivers_4 : decode cX2_allReceivers 4 = .ok (.iload_n 2, 1) := by decide +kernel
theorem dX2_allReceivers_5 : decode cX2_allReceivers 5 = .ok (.aload_n 0, 1) := by decide +kernel
theorem dX2_allReceivers_6 : decode cX2_allReceivers 6 = .ok (.getfield 30, 3) := by decide +kernel
theorem dX2_allReceivers_9 : decode cX2_allReceivers 9 = .ok (.if_icmp .ge 18, 3) := by decide +kernel
theorem dX2_allReceivers_12 : decode cX2_allReceivers 12 = .ok (.iload_n 1, 1) := by decide +kernel
theorem dX2_allReceivers_13 : decode cX2_allReceivers 13 = .ok (.aload_n 0, 1) := by decide +kernel
theorem dX2_allReceivers_14 : decode cX2_allReceivers 14 = .ok (.getfield 53, 3) := by decide +kernel
theorem dX2_allReceivers_17 : decode cX2_allReceivers 17 = .ok (.iload_n 2, 1) := by decide +kernel
theorem dX2_allReceivers_18 : decode cX2_allReceivers 18 = .ok (.iaload, 1) := by decide +kernel
theorem dX2_allReceivers_19 : decode cX2_allReceivers 19 = .ok (.iadd, 1) := by decide +kernel
theorem dX2_allReceivers_20 : decode cX2_allReceivers 20 = .ok (.istore_n 1, 1) := by decide +kernel
theorem dX2_allReceivers_21 : decode cX2_allReceivers 21 = .ok (.iinc 2 1, 3) := by decide +kernel
theorem dX2_allReceivers_24 : decode cX2_allReceivers 24 = .ok (.goto (-20), 3) := by decide +kernel
theorem dX2_allReceivers_27 : decode cX2_allReceivers 27 = .ok (.iload_n 1, 1) := by decide +kernel
theorem dX2_allReceivers_28 : decode cX2_allReceivers 28 = .ok (.ireturn, 1) := by decide +kernel
theorem dX2_earAt_0 : decode cX2_earAt 0 = .ok (.iconst 0, 1) := by decide +kernel
theorem dX2_earAt_1 : decode cX2_earAt 1 = .ok (.istore_n 3, 1) := by decide +kernel
theorem dX2_earAt_2 : decode cX2_earAt 2 = .ok (.iload_n 3, 1) := by decide +kernel
theorem dX2_earAt_3 : decode cX2_earAt 3 = .ok (.aload_n 0, 1) := by decide +kernel
theorem dX2_earAt_4 : decode cX2_earAt 4 = .ok (.getfield 53, 3) := by decide +kernel
theorem dX2_earAt_7 : decode cX2_earAt 7 = .ok (.iload_n 1, 1) := by decide +kernel
theorem dX2_earAt_8 : decode cX2_earAt 8 = .ok (.iaload, 1) := by decide +kernel
theorem dX2_earAt_9 : decode cX2_earAt 9 = .ok (.if_icmp .ge 29, 3) := by decide +kernel
theorem dX2_earAt_12 : decode cX2_earAt 12 = .ok (.aload_n 0, 1) := by decide +kernel
theorem dX2_earAt_13 : decode cX2_earAt 13 = .ok (.getfield 56, 3) := by decide +kernel
theorem dX2_earAt_16 : decode cX2_earAt 16 = .ok (.iload_n 1, 1) := by decide +kernel
theorem dX2_earAt_17 : decode cX2_earAt 17 = .ok (.iload_n 3, 1) := by decide +kernel
theorem dX2_earAt_18 : decode cX2_earAt 18 = .ok (.invokestatic 73, 3) := by decide +kernel
theorem dX2_earAt_21 : decode cX2_earAt 21 = .ok (.iaload, 1) := by decide +kernel
theorem dX2_earAt_22 : decode cX2_earAt 22 = .ok (.iload_n 2, 1) := by decide +kernel
theorem dX2_earAt_23 : decode cX2_earAt 23 = .ok (.if_icmp .ne 9, 3) := by decide +kernel
theorem dX2_earAt_26 : decode cX2_earAt 26 = .ok (.iload_n 1, 1) := by decide +kernel
theorem dX2_earAt_27 : decode cX2_earAt 27 = .ok (.iload_n 3, 1) := by decide +kernel
theorem dX2_earAt_28 : decode cX2_earAt 28 = .ok (.invokestatic 73, 3) := by decide +kernel
theorem dX2_earAt_31 : decode cX2_earAt 31 = .ok (.ireturn, 1) := by decide +kernel
theorem dX2_earAt_32 : decode cX2_earAt 32 = .ok (.iinc 3 1, 3) := by decide +kernel
theorem dX2_earAt_35 : decode cX2_earAt 35 = .ok (.goto (-33), 3) := by decide +kernel
theorem dX2_earAt_38 : decode cX2_earAt 38 = .ok (.iconst (-1), 1) := by decide +kernel
theorem dX2_earAt_39 : decode cX2_earAt 39 = .ok (.ireturn, 1) := by decide +kernel
theorem dX2_creditLimit_0 : decode cX2_creditLimit 0 = .ok (.aload_n 0, 1) := by decide +kernel
theorem dX2_creditLimit_1 : decode cX2_creditLimit 1 = .ok (.getfield 50, 3) := by decide +kernel
theorem dX2_creditLimit_4 : decode cX2_creditLimit 4 = .ok (.iload_n 1, 1) := by decide +kernel
theorem dX2_creditLimit_5 : decode cX2_creditLimit 5 = .ok (.iaload, 1) := by decide +kernel
theorem dX2_creditLimit_6 : decode cX2_creditLimit 6 = .ok (.aload_n 0, 1) := by decide +kernel
theorem dX2_creditLimit_7 : decode cX2_creditLimit 7 = .ok (.getfield 47, 3) := by decide +kernel
theorem dX2_creditLimit_10 : decode cX2_creditLimit 10 = .ok (.iload_n 1, 1) := by decide +kernel
theorem dX2_creditLimit_11 : decode cX2_creditLimit 11 = .ok (.iaload, 1) := by decide +kernel
theorem dX2_creditLimit_12 : decode cX2_creditLimit 12 = .ok (.aload_n 0, 1) := by decide +kernel
theorem dX2_creditLimit_13 : decode cX2_creditLimit 13 = .ok (.getfield 18, 3) := by decide +kernel
theorem dX2_creditLimit_16 : decode cX2_creditLimit 16 = .ok (.iadd, 1) := by decide +kernel
theorem dX2_creditLimit_17 : decode cX2_creditLimit 17 = .ok (.imul, 1) := by decide +kernel
theorem dX2_creditLimit_18 : decode cX2_creditLimit 18 = .ok (.ireturn, 1) := by decide +kernel
theorem dX3_init_0 : decode cX3_init 0 = .ok (.aload_n 0, 1) := by decide +kernel
theorem dX3_init_1 : decode cX3_init 1 = .ok (.invokespecial 3, 3) := by decide +kernel
theorem dX3_init_4 : decode cX3_init 4 = .ok (.aload_n 0, 1) := by decide +kernel
theorem dX3_init_5 : decode cX3_init 5 = .ok (.iconst 0, 1) := by decide +kernel
theorem dX3_init_6 : decode cX3_init 6 = .ok (.putfield 9, 3) := by decide +kernel
theorem dX3_init_9 : decode cX3_init 9 = .ok (.aload_n 0, 1) := by decide +kernel
theorem dX3_init_10 : decode cX3_init 10 = .ok (.bipush 32, 2) := by decide +kernel
theorem dX3_init_12 : decode cX3_init 12 = .ok (.newarray .int, 2) := by decide +kernel
theorem dX3_init_14 : decode cX3_init 14 = .ok (.putfield 15, 3) := by decide +kernel
theorem dX3_init_17 : decode cX3_init 17 = .ok (.aload_n 0, 1) := by decide +kernel
theorem dX3_init_18 : decode cX3_init 18 = .ok (.bipush 32, 2) := by decide +kernel
theorem dX3_init_20 : decode cX3_init 20 = .ok (.newarray .int, 2) := by decide +kernel
theorem dX3_init_22 : decode cX3_init 22 = .ok (.putfield 19, 3) := by decide +kernel
theorem dX3_init_25 : decode cX3_init 25 = .ok (.aload_n 0, 1) := by decide +kernel
theorem dX3_init_26 : decode cX3_init 26 = .ok (.bipush 32, 2) := by decide +kernel
theorem dX3_init_28 : decode cX3_init 28 = .ok (.newarray .int, 2) := by decide +kernel
theorem dX3_init_30 : decode cX3_init 30 = .ok (.putfield 22, 3) := by decide +kernel
theorem dX3_init_33 : decode cX3_init 33 = .ok (.aload_n 0, 1) := by decide +kernel
theorem dX3_init_34 : decode cX3_init 34 = .ok (.bipush 32, 2) := by decide +kernel
theorem dX3_init_36 : decode cX3_init 36 = .ok (.newarray .int, 2) := by decide +kernel
theorem dX3_init_38 : decode cX3_init 38 = .ok (.putfield 25, 3) := by decide +kernel
theorem dX3_init_41 : decode cX3_init 41 = .ok (.aload_n 0, 1) := by decide +kernel
theorem dX3_init_42 : decode cX3_init 42 = .ok (.sipush 384, 3) := by decide +kernel
theorem dX3_init_45 : decode cX3_init 45 = .ok (.newarray .int, 2) := by decide +kernel
theorem dX3_init_47 : decode cX3_init 47 = .ok (.putfield 28, 3) := by decide +kernel
theorem dX3_init_50 : decode cX3_init 50 = .ok (.aload_n 0, 1) := by decide +kernel
theorem dX3_init_51 : decode cX3_init 51 = .ok (.sipush 384, 3) := by decide +kernel
theorem dX3_init_54 : decode cX3_init 54 = .ok (.newarray .int, 2) := by decide +kernel
theorem dX3_init_56 : decode cX3_init 56 = .ok (.putfield 31, 3) := by decide +kernel
theorem dX3_init_59 : decode cX3_init 59 = .ok (.aload_n 0, 1) := by decide +kernel
theorem dX3_init_60 : decode cX3_init 60 = .ok (.sipush 384, 3) := by decide +kernel
theorem dX3_init_63 : decode cX3_init 63 = .ok (.newarray .int, 2) := by decide +kernel
theorem dX3_init_65 : decode cX3_init 65 = .ok (.putfield 34, 3) := by decide +kernel
theorem dX3_init_68 : decode cX3_init 68 = .ok (.return_, 1) := by decide +kernel
theorem dX3_clear_0 : decode cX3_clear 0 = .ok (.aload_n 0, 1) := by decide +kernel
theorem dX3_clear_1 : decode cX3_clear 1 = .ok (.iconst 0, 1) := by decide +kernel
theorem dX3_clear_2 : decode cX3_clear 2 = .ok (.putfield 9, 3) := by decide +kernel
theorem dX3_clear_5 : decode cX3_clear 5 = .ok (.aload_n 0, 1) := by decide +kernel
theorem dX3_clear_6 : decode cX3_clear 6 = .ok (.getfield 15, 3) := by decide +kernel
theorem dX3_clear_9 : decode cX3_clear 9 = .ok (.iconst 0, 1) := by decide +kernel
theorem dX3_clear_10 : decode cX3_clear 10 = .ok (.invokestatic 37, 3) := by decide +kernel
theorem dX3_clear_13 : decode cX3_clear 13 = .ok (.aload_n 0, 1) := by decide +kernel
theorem dX3_clear_14 : decode cX3_clear 14 = .ok (.getfield 19, 3) := by decide +kernel
theorem dX3_clear_17 : decode cX3_clear 17 = .ok (.iconst 0, 1) := by decide +kernel
theorem dX3_clear_18 : decode cX3_clear 18 = .ok (.invokestatic 37, 3) := by decide +kernel
theorem dX3_clear_21 : decode cX3_clear 21 = .ok (.aload_n 0, 1) := by decide +kernel
theorem dX3_clear_22 : decode cX3_clear 22 = .ok (.getfield 22, 3) := by decide +kernel
theorem dX3_clear_25 : decode cX3_clear 25 = .ok (.bipush (-2), 2) := by decide +kernel
theorem dX3_clear_27 : decode cX3_clear 27 = .ok (.invokestatic 37, 3) := by decide +kernel
theorem dX3_clear_30 : decode cX3_clear 30 = .ok (.aload_n 0, 1) := by decide +kernel
theorem dX3_clear_31 : decode cX3_clear 31 = .ok (.getfield 25, 3) := by decide +kernel
theorem dX3_clear_34 : decode cX3_clear 34 = .ok (.iconst 0, 1) := by decide +kernel
theorem dX3_clear_35 : decode cX3_clear 35 = .ok (.invokestatic 37, 3) := by decide +kernel
theorem dX3_clear_38 : decode cX3_clear 38 = .ok (.return_, 1) := by decide +kernel
theorem dX3_copy_0 : decode cX3_copy 0 = .ok (.aload_n 0, 1) := by decide +kernel
theorem dX3_copy_1 : decode cX3_copy 1 = .ok (.aload_n 1, 1) := by decide +kernel
theorem dX3_copy_2 : decode cX3_copy 2 = .ok (.getfield 9, 3) := by decide +kernel
theorem dX3_copy_5 : decode cX3_copy 5 = .ok (.putfield 9, 3) := by decide +kernel
theorem dX3_copy_8 : decode cX3_copy 8 = .ok (.aload_n 1, 1) := by decide +kernel
theorem dX3_copy_9 : decode cX3_copy 9 = .ok (.getfield 15, 3) := by decide +kernel
theorem dX3_copy_12 : decode cX3_copy 12 = .ok (.aload_n 0, 1) := by decide +kernel
theorem dX3_copy_13 : decode cX3_copy 13 = .ok (.getfield 15, 3) := by decide +kernel
theorem dX3_copy_16 : decode cX3_copy 16 = .ok (.invokestatic 43, 3) := by decide +kernel
theorem dX3_copy_19 : decode cX3_copy 19 = .ok (.aload_n 1, 1) := by decide +kernel
theorem dX3_copy_20 : decode cX3_copy 20 = .ok (.getfield 19, 3) := by decide +kernel
theorem dX3_copy_23 : decode cX3_copy 23 = .ok (.aload_n 0, 1) := by decide +kernel
theorem dX3_copy_24 : decode cX3_copy 24 = .ok (.getfield 19, 3) := by decide +kernel
theorem dX3_copy_27 : decode cX3_copy 27 = .ok (.invokestatic 43, 3) := by decide +kernel
theorem dX3_copy_30 : decode cX3_copy 30 = .ok (.aload_n 1, 1) := by decide +kernel
theorem dX3_copy_31 : decode cX3_copy 31 = .ok (.getfield 22, 3) := by decide +kernel
theorem dX3_copy_34 : decode cX3_copy 34 = .ok (.aload_n 0, 1) := by decide +kernel
theorem dX3_copy_35 : decode cX3_copy 35 = .ok (.getfield 22, 3) := by decide +kernel
theorem dX3_copy_38 : decode cX3_copy 38 = .ok (.invokestatic 43, 3) := by decide +kernel
theorem dX3_copy_41 : decode cX3_copy 41 = .ok (.aload_n 1, 1) := by decide +kernel
theorem dX3_copy_42 : decode cX3_copy 42 = .ok (.getfield 25, 3) := by decide +kernel
theorem dX3_copy_45 : decode cX3_copy 45 = .ok (.aload_n 0, 1) := by decide +kernel
theorem dX3_copy_46 : decode cX3_copy 46 = .ok (.getfield 25, 3) := by decide +kernel
theorem dX3_copy_49 : decode cX3_copy 49 = .ok (.invokestatic 43, 3) := by decide +kernel
theorem dX3_copy_52 : decode cX3_copy 52 = .ok (.aload_n 1, 1) := by decide +kernel
theorem dX3_copy_53 : decode cX3_copy 53 = .ok (.getfield 28, 3) := by decide +kernel
theorem dX3_copy_56 : decode cX3_copy 56 = .ok (.aload_n 0, 1) := by decide +kernel
theorem dX3_copy_57 : decode cX3_copy 57 = .ok (.getfield 28, 3) := by decide +kernel
theorem dX3_copy_60 : decode cX3_copy 60 = .ok (.invokestatic 43, 3) := by decide +kernel
theorem dX3_copy_63 : decode cX3_copy 63 = .ok (.aload_n 1, 1) := by decide +kernel
theorem dX3_copy_64 : decode cX3_copy 64 = .ok (.getfield 31, 3) := by decide +kernel
theorem dX3_copy_67 : decode cX3_copy 67 = .ok (.aload_n 0, 1) := by decide +kernel
theorem dX3_copy_68 : decode cX3_copy 68 = .ok (.getfield 31, 3) := by decide +kernel
theorem dX3_copy_71 : decode cX3_copy 71 = .ok (.invokestatic 43, 3) := by decide +kernel
theorem dX3_copy_74 : decode cX3_copy 74 = .ok (.aload_n 1, 1) := by decide +kernel
theorem dX3_copy_75 : decode cX3_copy 75 = .ok (.getfield 34, 3) := by decide +kernel
theorem dX3_copy_78 : decode cX3_copy 78 = .ok (.aload_n 0, 1) := by decide +kernel
theorem dX3_copy_79 : decode cX3_copy 79 = .ok (.getfield 34, 3) := by decide +kernel
theorem dX3_copy_82 : decode cX3_copy 82 = .ok (.invokestatic 43, 3) := by decide +kernel
theorem dX3_copy_85 : decode cX3_copy 85 = .ok (.return_, 1) := by decide +kernel
theorem dX3_slot_0 : decode cX3_slot 0 = .ok (.iload_n 1, 1) := by decide +kernel
theorem dX3_slot_1 : decode cX3_slot 1 = .ok (.bipush 12, 2) := by decide +kernel
theorem dX3_slot_3 : decode cX3_slot 3 = .ok (.imul, 1) := by decide +kernel
theorem dX3_slot_4 : decode cX3_slot 4 = .ok (.aload_n 0, 1) := by decide +kernel
theorem dX3_slot_5 : decode cX3_slot 5 = .ok (.getfield 19, 3) := by decide +kernel
theorem dX3_slot_8 : decode cX3_slot 8 = .ok (.iload_n 1, 1) := by decide +kernel
theorem dX3_slot_9 : decode cX3_slot 9 = .ok (.iaload, 1) := by decide +kernel
theorem dX3_slot_10 : decode cX3_slot 10 = .ok (.iload_n 2, 1) := by decide +kernel
theorem dX3_slot_11 : decode cX3_slot 11 = .ok (.iadd, 1) := by decide +kernel
theorem dX3_slot_12 : decode cX3_slot 12 = .ok (.bipush 12, 2) := by decide +kernel
theorem dX3_slot_14 : decode cX3_slot 14 = .ok (.irem, 1) := by decide +kernel
theorem dX3_slot_15 : decode cX3_slot 15 = .ok (.iadd, 1) := by decide +kernel
theorem dX3_slot_16 : decode cX3_slot 16 = .ok (.ireturn, 1) := by decide +kernel
theorem dX3_sends_0 : decode cX3_sends 0 = .ok (.aload_n 0, 1) := by decide +kernel
theorem dX3_sends_1 : decode cX3_sends 1 = .ok (.getfield 22, 3) := by decide +kernel
theorem dX3_sends_4 : decode cX3_sends 4 = .ok (.iload_n 1, 1) := by decide +kernel
theorem dX3_sends_5 : decode cX3_sends 5 = .ok (.iaload, 1) := by decide +kernel
theorem dX3_sends_6 : decode cX3_sends 6 = .ok (.bipush (-2), 2) := by decide +kernel
theorem dX3_sends_8 : decode cX3_sends 8 = .ok (.if_icmp .eq 7, 3) := by decide +kernel
theorem dX3_sends_11 : decode cX3_sends 11 = .ok (.iconst 1, 1) := by decide +kernel
theorem dX3_sends_12 : decode cX3_sends 12 = .ok (.goto 4, 3) := by decide +kernel
theorem dX3_sends_15 : decode cX3_sends 15 = .ok (.iconst 0, 1) := by decide +kernel
theorem dX3_sends_16 : decode cX3_sends 16 = .ok (.ireturn, 1) := by decide +kernel
theorem dX3_linkBeingSent_0 : decode cX3_linkBeingSent 0 = .ok (.aload_n 0, 1) := by decide +kernel
theorem dX3_linkBeingSent_1 : decode cX3_linkBeingSent 1 = .ok (.iload_n 1, 1) := by decide +kernel
theorem dX3_linkBeingSent_2 : decode cX3_linkBeingSent 2 = .ok (.invokevirtual 47, 3) := by decide +kernel
theorem dX3_linkBeingSent_5 : decode cX3_linkBeingSent 5 = .ok (.ifCond .eq 17, 3) := by decide +kernel
theorem dX3_linkBeingSent_8 : decode cX3_linkBeingSent 8 = .ok (.aload_n 0, 1) := by decide +kernel
theorem dX3_linkBeingSent_9 : decode cX3_linkBeingSent 9 = .ok (.getfield 28, 3) := by decide +kernel
theorem dX3_linkBeingSent_12 : decode cX3_linkBeingSent 12 = .ok (.aload_n 0, 1) := by decide +kernel
theorem dX3_linkBeingSent_13 : decode cX3_linkBeingSent 13 = .ok (.iload_n 1, 1) := by decide +kernel
theorem dX3_linkBeingSent_14 : decode cX3_linkBeingSent 14 = .ok (.iconst 0, 1) := by decide +kernel
theorem dX3_linkBeingSent_15 : decode cX3_linkBeingSent 15 = .ok (.invokevirtual 51, 3) := by decide +kernel
theorem dX3_linkBeingSent_18 : decode cX3_linkBeingSent 18 = .ok (.iaload, 1) := by decide +kernel
theorem dX3_linkBeingSent_19 : decode cX3_linkBeingSent 19 = .ok (.goto 5, 3) := by decide +kernel
theorem dX3_linkBeingSent_22 : decode cX3_linkBeingSent 22 = .ok (.bipush (-2), 2) := by decide +kernel
theorem dX3_linkBeingSent_24 : decode cX3_linkBeingSent 24 = .ok (.ireturn, 1) := by decide +kernel
theorem dX3_admits_0 : decode cX3_admits 0 = .ok (.aload_n 0, 1) := by decide +kernel
theorem dX3_admits_1 : decode cX3_admits 1 = .ok (.getfield 15, 3) := by decide +kernel
theorem dX3_admits_4 : decode cX3_admits 4 = .ok (.iload_n 2, 1) := by decide +kernel
theorem dX3_admits_5 : decode cX3_admits 5 = .ok (.iaload, 1) := by decide +kernel
theorem dX3_admits_6 : decode cX3_admits 6 = .ok (.iload_n 1, 1) := by decide +kernel
theorem dX3_admits_7 : decode cX3_admits 7 = .ok (.if_icmp .lt 5, 3) := by decide +kernel
theorem dX3_admits_10 : decode cX3_admits 10 = .ok (.iconst 0, 1) := by decide +kernel
theorem dX3_admits_11 : decode cX3_admits 11 = .ok (.ireturn, 1) := by decide +kernel
theorem dX3_admits_12 : decode cX3_admits 12 = .ok (.aload_n 0, 1) := by decide +kernel
theorem dX3_admits_13 : decode cX3_admits 13 = .ok (.iload_n 2, 1) := by decide +kernel
theorem dX3_admits_14 : decode cX3_admits 14 = .ok (.aload_n 0, 1) := by decide +kernel
theorem dX3_admits_15 : decode cX3_admits 15 = .ok (.getfield 15, 3) := by decide +kernel
theorem dX3_admits_18 : decode cX3_admits 18 = .ok (.iload_n 2, 1) := by decide +kernel
theorem dX3_admits_19 : decode cX3_admits 19 = .ok (.iaload, 1) := by decide +kernel
theorem dX3_admits_20 : decode cX3_admits 20 = .ok (.invokevirtual 51, 3) := by decide +kernel
theorem dX3_admits_23 : decode cX3_admits 23 = .ok (.istore 6, 2) := by decide +kernel
theorem dX3_admits_25 : decode cX3_admits 25 = .ok (.aload_n 0, 1) := by decide +kernel
theorem dX3_admits_26 : decode cX3_admits 26 = .ok (.getfield 28, 3) := by decide +kernel
theorem dX3_admits_29 : decode cX3_admits 29 = .ok (.iload 6, 2) := by decide +kernel
theorem dX3_admits_31 : decode cX3_admits 31 = .ok (.iload_n 3, 1) := by decide +kernel
theorem dX3_admits_32 : decode cX3_admits 32 = .ok (.iastore, 1) := by decide +kernel
theorem dX3_admits_33 : decode cX3_admits 33 = .ok (.aload_n 0, 1) := by decide +kernel
theorem dX3_admits_34 : decode cX3_admits 34 = .ok (.getfield 31, 3) := by decide +kernel
theorem dX3_admits_37 : decode cX3_admits 37 = .ok (.iload 6, 2) := by decide +kernel
theorem dX3_admits_39 : decode cX3_admits 39 = .ok (.iload 4, 2) := by decide +kernel
theorem dX3_admits_41 : decode cX3_admits 41 = .ok (.iastore, 1) := by decide +kernel
theorem dX3_admits_42 : decode cX3_admits 42 = .ok (.aload_n 0, 1) := by decide +kernel
theorem dX3_admits_43 : decode cX3_admits 43 = .ok (.getfield 34, 3) := by decide +kernel
theorem dX3_admits_46 : decode cX3_admits 46 = .ok (.iload 6, 2) := by decide +kernel
theorem dX3_admits_48 : decode cX3_admits 48 = .ok (.iload 5, 2) := by decide +kernel
theorem dX3_admits_50 : decode cX3_admits 50 = .ok (.iastore, 1) := by decide +kernel
theorem dX3_admits_51 : decode cX3_admits 51 = .ok (.aload_n 0, 1) := by decide +kernel
theorem dX3_admits_52 : decode cX3_admits 52 = .ok (.getfield 15, 3) := by decide +kernel
theorem dX3_admits_55 : decode cX3_admits 55 = .ok (.iload_n 2, 1) := by decide +kernel
theorem dX3_admits_56 : decode cX3_admits 56 = .ok (.dup2, 1) := by decide +kernel
theorem dX3_admits_57 : decode cX3_admits 57 = .ok (.iaload, 1) := by decide +kernel
theorem dX3_admits_58 : decode cX3_admits 58 = .ok (.iconst 1, 1) := by decide +kernel
theorem dX3_admits_59 : decode cX3_admits 59 = .ok (.iadd, 1) := by decide +kernel
theorem dX3_admits_60 : decode cX3_admits 60 = .ok (.iastore, 1) := by decide +kernel
theorem dX3_admits_61 : decode cX3_admits 61 = .ok (.aload_n 0, 1) := by decide +kernel
theorem dX3_admits_62 : decode cX3_admits 62 = .ok (.dup, 1) := by decide +kernel
theorem dX3_admits_63 : decode cX3_admits 63 = .ok (.getfield 9, 3) := by decide +kernel
theorem dX3_admits_66 : decode cX3_admits 66 = .ok (.iconst 1, 1) := by decide +kernel
theorem dX3_admits_67 : decode cX3_admits 67 = .ok (.iadd, 1) := by decide +kernel
theorem dX3_admits_68 : decode cX3_admits 68 = .ok (.putfield 9, 3) := by decide +kernel
theorem dX3_admits_71 : decode cX3_admits 71 = .ok (.iconst 1, 1) := by decide +kernel
theorem dX3_admits_72 : decode cX3_admits 72 = .ok (.ireturn, 1) := by decide +kernel
theorem dX3_removeFirst_0 : decode cX3_removeFirst 0 = .ok (.aload_n 0, 1) := by decide +kernel
theorem dX3_removeFirst_1 : decode cX3_removeFirst 1 = .ok (.getfield 19, 3) := by decide +kernel
theorem dX3_removeFirst_4 : decode cX3_removeFirst 4 = .ok (.iload_n 1, 1) := by decide +kernel
theorem dX3_removeFirst_5 : decode cX3_removeFirst 5 = .ok (.aload_n 0, 1) := by decide +kernel
theorem dX3_removeFirst_6 : decode cX3_removeFirst 6 = .ok (.getfield 19, 3) := by decide +kernel
theorem dX3_removeFirst_9 : decode cX3_removeFirst 9 = .ok (.iload_n 1, 1) := by decide +kernel
theorem dX3_removeFirst_10 : decode cX3_removeFirst 10 = .ok (.iaload, 1) := by decide +kernel
theorem dX3_removeFirst_11 : decode cX3_removeFirst 11 = .ok (.iconst 1, 1) := by decide +kernel
theorem dX3_removeFirst_12 : decode cX3_removeFirst 12 = .ok (.iadd, 1) := by decide +kernel
theorem dX3_removeFirst_13 : decode cX3_removeFirst 13 = .ok (.bipush 12, 2) := by decide +kernel
theorem dX3_removeFirst_15 : decode cX3_removeFirst 15 = .ok (.irem, 1) := by decide +kernel
theorem dX3_removeFirst_16 : decode cX3_removeFirst 16 = .ok (.iastore, 1) := by decide +kernel
theorem dX3_removeFirst_17 : decode cX3_removeFirst 17 = .ok (.aload_n 0, 1) := by decide +kernel
theorem dX3_removeFirst_18 : decode cX3_removeFirst 18 = .ok (.getfield 15, 3) := by decide +kernel
theorem dX3_removeFirst_21 : decode cX3_removeFirst 21 = .ok (.iload_n 1, 1) := by decide +kernel
theorem dX3_removeFirst_22 : decode cX3_removeFirst 22 = .ok (.dup2, 1) := by decide +kernel
theorem dX3_removeFirst_23 : decode cX3_removeFirst 23 = .ok (.iaload, 1) := by decide +kernel
theorem dX3_removeFirst_24 : decode cX3_removeFirst 24 = .ok (.iconst 1, 1) := by decide +kernel
theorem dX3_removeFirst_25 : decode cX3_removeFirst 25 = .ok (.isub, 1) := by decide +kernel
theorem dX3_removeFirst_26 : decode cX3_removeFirst 26 = .ok (.iastore, 1) := by decide +kernel
theorem dX3_removeFirst_27 : decode cX3_removeFirst 27 = .ok (.aload_n 0, 1) := by decide +kernel
theorem dX3_removeFirst_28 : decode cX3_removeFirst 28 = .ok (.dup, 1) := by decide +kernel
theorem dX3_removeFirst_29 : decode cX3_removeFirst 29 = .ok (.getfield 9, 3) := by decide +kernel
theorem dX3_removeFirst_32 : decode cX3_removeFirst 32 = .ok (.iconst 1, 1) := by decide +kernel
theorem dX3_removeFirst_33 : decode cX3_removeFirst 33 = .ok (.isub, 1) := by decide +kernel
theorem dX3_removeFirst_34 : decode cX3_removeFirst 34 = .ok (.putfield 9, 3) := by decide +kernel
theorem dX3_removeFirst_37 : decode cX3_removeFirst 37 = .ok (.aload_n 0, 1) := by decide +kernel
theorem dX3_removeFirst_38 : decode cX3_removeFirst 38 = .ok (.getfield 22, 3) := by decide +kernel
theorem dX3_removeFirst_41 : decode cX3_removeFirst 41 = .ok (.iload_n 1, 1) := by decide +kernel
theorem dX3_removeFirst_42 : decode cX3_removeFirst 42 = .ok (.bipush (-2), 2) := by decide +kernel
theorem dX3_removeFirst_44 : decode cX3_removeFirst 44 = .ok (.iastore, 1) := by decide +kernel
theorem dX3_removeFirst_45 : decode cX3_removeFirst 45 = .ok (.return_, 1) := by decide +kernel
theorem dX3_noteMost_0 : decode cX3_noteMost 0 = .ok (.iconst 0, 1) := by decide +kernel
theorem dX3_noteMost_1 : decode cX3_noteMost 1 = .ok (.istore_n 1, 1) := by decide +kernel
theorem dX3_noteMost_2 : decode cX3_noteMost 2 = .ok (.iload_n 1, 1) := by decide +kernel
theorem dX3_noteMost_3 : decode cX3_noteMost 3 = .ok (.bipush 32, 2) := by decide +kernel
theorem dX3_noteMost_5 : decode cX3_noteMost 5 = .ok (.if_icmp .ge 30, 3) := by decide +kernel
theorem dX3_noteMost_8 : decode cX3_noteMost 8 = .ok (.aload_n 0, 1) := by decide +kernel
theorem dX3_noteMost_9 : decode cX3_noteMost 9 = .ok (.getfield 25, 3) := by decide +kernel
theorem dX3_noteMost_12 : decode cX3_noteMost 12 = .ok (.iload_n 1, 1) := by decide +kernel
theorem dX3_noteMost_13 : decode cX3_noteMost 13 = .ok (.aload_n 0, 1) := by decide +kernel
theorem dX3_noteMost_14 : decode cX3_noteMost 14 = .ok (.getfield 25, 3) := by decide +kernel
theorem dX3_noteMost_17 : decode cX3_noteMost 17 = .ok (.iload_n 1, 1) := by decide +kernel
theorem dX3_noteMost_18 : decode cX3_noteMost 18 = .ok (.iaload, 1) := by decide +kernel
theorem dX3_noteMost_19 : decode cX3_noteMost 19 = .ok (.aload_n 0, 1) := by decide +kernel
theorem dX3_noteMost_20 : decode cX3_noteMost 20 = .ok (.getfield 15, 3) := by decide +kernel
theorem dX3_noteMost_23 : decode cX3_noteMost 23 = .ok (.iload_n 1, 1) := by decide +kernel
theorem dX3_noteMost_24 : decode cX3_noteMost 24 = .ok (.iaload, 1) := by decide +kernel
theorem dX3_noteMost_25 : decode cX3_noteMost 25 = .ok (.invokestatic 55, 3) := by decide +kernel
theorem dX3_noteMost_28 : decode cX3_noteMost 28 = .ok (.iastore, 1) := by decide +kernel
theorem dX3_noteMost_29 : decode cX3_noteMost 29 = .ok (.iinc 1 1, 3) := by decide +kernel
theorem dX3_noteMost_32 : decode cX3_noteMost 32 = .ok (.goto (-30), 3) := by decide +kernel
theorem dX3_noteMost_35 : decode cX3_noteMost 35 = .ok (.return_, 1) := by decide +kernel
theorem dX3_nextChange_0 : decode cX3_nextChange 0 = .ok (.iload_n 2, 1) := by decide +kernel
theorem dX3_nextChange_1 : decode cX3_nextChange 1 = .ok (.istore_n 3, 1) := by decide +kernel
theorem dX3_nextChange_2 : decode cX3_nextChange 2 = .ok (.iconst 0, 1) := by decide +kernel
theorem dX3_nextChange_3 : decode cX3_nextChange 3 = .ok (.istore 4, 2) := by decide +kernel
theorem dX3_nextChange_5 : decode cX3_nextChange 5 = .ok (.iload 4, 2) := by decide +kernel
theorem dX3_nextChange_7 : decode cX3_nextChange 7 = .ok (.bipush 32, 2) := by decide +kernel
theorem dX3_nextChange_9 : decode cX3_nextChange 9 = .ok (.if_icmp .ge 46, 3) := by decide +kernel
theorem dX3_nextChange_12 : decode cX3_nextChange 12 = .ok (.aload_n 0, 1) := by decide +kernel
theorem dX3_nextChange_13 : decode cX3_nextChange 13 = .ok (.getfield 15, 3) := by decide +kernel
theorem dX3_nextChange_16 : decode cX3_nextChange 16 = .ok (.iload 4, 2) := by decide +kernel
theorem dX3_nextChange_18 : decode cX3_nextChange 18 = .ok (.iaload, 1) := by decide +kernel
theorem dX3_nextChange_19 : decode cX3_nextChange 19 = .ok (.ifCond .le 30, 3) := by decide +kernel
theorem dX3_nextChange_22 : decode cX3_nextChange 22 = .ok (.iload_n 3, 1) := by decide +kernel
theorem dX3_nextChange_23 : decode cX3_nextChange 23 = .ok (.aload_n 0, 1) := by decide +kernel
theorem dX3_nextChange_24 : decode cX3_nextChange 24 = .ok (.iload 4, 2) := by decide +kernel
theorem dX3_nextChange_26 : decode cX3_nextChange 26 = .ok (.invokevirtual 47, 3) := by decide +kernel
theorem dX3_nextChange_29 : decode cX3_nextChange 29 = .ok (.ifCond .eq 13, 3) := by decide +kernel
theorem dX3_nextChange_32 : decode cX3_nextChange 32 = .ok (.aload_n 0, 1) := by decide +kernel
theorem dX3_nextChange_33 : decode cX3_nextChange 33 = .ok (.getfield 22, 3) := by decide +kernel
theorem dX3_nextChange_36 : decode cX3_nextChange 36 = .ok (.iload 4, 2) := by decide +kernel
theorem dX3_nextChange_38 : decode cX3_nextChange 38 = .ok (.iaload, 1) := by decide +kernel
theorem dX3_nextChange_39 : decode cX3_nextChange 39 = .ok (.goto 6, 3) := by decide +kernel
theorem dX3_nextChange_42 : decode cX3_nextChange 42 = .ok (.iload_n 1, 1) := by decide +kernel
theorem dX3_nextChange_43 : decode cX3_nextChange 43 = .ok (.iconst 1, 1) := by decide +kernel
theorem dX3_nextChange_44 : decode cX3_nextChange 44 = .ok (.iadd, 1) := by decide +kernel
theorem dX3_nextChange_45 : decode cX3_nextChange 45 = .ok (.invokestatic 60, 3) := by decide +kernel
theorem dX3_nextChange_48 : decode cX3_nextChange 48 = .ok (.istore_n 3, 1) := by decide +kernel
theorem dX3_nextChange_49 : decode cX3_nextChange 49 = .ok (.iinc 4 1, 3) := by decide +kernel
theorem dX3_nextChange_52 : decode cX3_nextChange 52 = .ok (.goto (-47), 3) := by decide +kernel
theorem dX3_nextChange_55 : decode cX3_nextChange 55 = .ok (.iload_n 3, 1) := by decide +kernel
theorem dX3_nextChange_56 : decode cX3_nextChange 56 = .ok (.ireturn, 1) := by decide +kernel
theorem dX4_init_0 : decode cX4_init 0 = .ok (.aload_n 0, 1) := by decide +kernel
theorem dX4_init_1 : decode cX4_init 1 = .ok (.invokespecial 3, 3) := by decide +kernel
theorem dX4_init_4 : decode cX4_init 4 = .ok (.aload_n 0, 1) := by decide +kernel
theorem dX4_init_5 : decode cX4_init 5 = .ok (.sipush 900, 3) := by decide +kernel
theorem dX4_init_8 : decode cX4_init 8 = .ok (.newarray .byte, 2) := by decide +kernel
theorem dX4_init_10 : decode cX4_init 10 = .ok (.putfield 9, 3) := by decide +kernel
theorem dX4_init_13 : decode cX4_init 13 = .ok (.aload_n 0, 1) := by decide +kernel
theorem dX4_init_14 : decode cX4_init 14 = .ok (.iconst 0, 1) := by decide +kernel
theorem dX4_init_15 : decode cX4_init 15 = .ok (.putfield 15, 3) := by decide +kernel
theorem dX4_init_18 : decode cX4_init 18 = .ok (.aload_n 0, 1) := by decide +kernel
theorem dX4_init_19 : decode cX4_init 19 = .ok (.new 19, 3) := by decide +kernel
theorem dX4_init_22 : decode cX4_init 22 = .ok (.dup, 1) := by decide +kernel
theorem dX4_init_23 : decode cX4_init 23 = .ok (.invokespecial 21, 3) := by decide +kernel
theorem dX4_init_26 : decode cX4_init 26 = .ok (.putfield 22, 3) := by decide +kernel
theorem dX4_init_29 : decode cX4_init 29 = .ok (.aload_n 0, 1) := by decide +kernel
theorem dX4_init_30 : decode cX4_init 30 = .ok (.iconst 0, 1) := by decide +kernel
theorem dX4_init_31 : decode cX4_init 31 = .ok (.putfield 26, 3) := by decide +kernel
theorem dX4_init_34 : decode cX4_init 34 = .ok (.aload_n 0, 1) := by decide +kernel
theorem dX4_init_35 : decode cX4_init 35 = .ok (.iconst 0, 1) := by decide +kernel
theorem dX4_init_36 : decode cX4_init 36 = .ok (.putfield 29, 3) := by decide +kernel
theorem dX4_init_39 : decode cX4_init 39 = .ok (.aload_n 0, 1) := by decide +kernel
theorem dX4_init_40 : decode cX4_init 40 = .ok (.iconst 0, 1) := by decide +kernel
theorem dX4_init_41 : decode cX4_init 41 = .ok (.putfield 32, 3) := by decide +kernel
theorem dX4_init_44 : decode cX4_init 44 = .ok (.aload_n 0, 1) := by decide +kernel
theorem dX4_init_45 : decode cX4_init 45 = .ok (.iconst 0, 1) := by decide +kernel
theorem dX4_init_46 : decode cX4_init 46 = .ok (.putfield 35, 3) := by decide +kernel
theorem dX4_init_49 : decode cX4_init 49 = .ok (.aload_n 0, 1) := by decide +kernel
theorem dX4_init_50 : decode cX4_init 50 = .ok (.lconst 0, 1) := by decide +kernel
theorem dX4_init_51 : decode cX4_init 51 = .ok (.putfield 38, 3) := by decide +kernel
theorem dX4_init_54 : decode cX4_init 54 = .ok (.aload_n 0, 1) := by decide +kernel
theorem dX4_init_55 : decode cX4_init 55 = .ok (.iconst 0, 1) := by decide +kernel
theorem dX4_init_56 : decode cX4_init 56 = .ok (.putfield 42, 3) := by decide +kernel
theorem dX4_init_59 : decode cX4_init 59 = .ok (.aload_n 0, 1) := by decide +kernel
theorem dX4_init_60 : decode cX4_init 60 = .ok (.iconst 0, 1) := by decide +kernel
theorem dX4_init_61 : decode cX4_init 61 = .ok (.putfield 45, 3) := by decide +kernel
theorem dX4_init_64 : decode cX4_init 64 = .ok (.aload_n 0, 1) := by decide +kernel
theorem dX4_init_65 : decode cX4_init 65 = .ok (.iconst 0, 1) := by decide +kernel
theorem dX4_init_66 : decode cX4_init 66 = .ok (.putfield 49, 3) := by decide +kernel
theorem dX4_init_69 : decode cX4_init 69 = .ok (.aload_n 0, 1) := by decide +kernel
theorem dX4_init_70 : decode cX4_init 70 = .ok (.iconst (-1), 1) := by decide +kernel
theorem dX4_init_71 : decode cX4_init 71 = .ok (.putfield 52, 3) := by decide +kernel
theorem dX4_init_74 : decode cX4_init 74 = .ok (.return_, 1) := by decide +kernel
theorem dX4_append_0 : decode cX4_append 0 = .ok (.bipush 24, 2) := by decide +kernel
theorem dX4_append_2 : decode cX4_append 2 = .ok (.istore_n 2, 1) := by decide +kernel
theorem dX4_append_3 : decode cX4_append 3 = .ok (.iload_n 2, 1) := by decide +kernel
theorem dX4_append_4 : decode cX4_append 4 = .ok (.ifCond .lt 42, 3) := by decide +kernel
theorem dX4_append_7 : decode cX4_append 7 = .ok (.aload_n 0, 1) := by decide +kernel
theorem dX4_append_8 : decode cX4_append 8 = .ok (.getfield 15, 3) := by decide +kernel
theorem dX4_append_11 : decode cX4_append 11 = .ok (.sipush 900, 3) := by decide +kernel
theorem dX4_append_14 : decode cX4_append 14 = .ok (.if_icmp .ge 32, 3) := by decide +kernel
theorem dX4_append_17 : decode cX4_append 17 = .ok (.aload_n 0, 1) := by decide +kernel
theorem dX4_append_18 : decode cX4_append 18 = .ok (.getfield 9, 3) := by decide +kernel
theorem dX4_append_21 : decode cX4_append 21 = .ok (.aload_n 0, 1) := by decide +kernel
theorem dX4_append_22 : decode cX4_append 22 = .ok (.getfield 15, 3) := by decide +kernel
theorem dX4_append_25 : decode cX4_append 25 = .ok (.iload_n 1, 1) := by decide +kernel
theorem dX4_append_26 : decode cX4_append 26 = .ok (.iload_n 2, 1) := by decide +kernel
theorem dX4_append_27 : decode cX4_append 27 = .ok (.ishr, 1) := by decide +kernel
theorem dX4_append_28 : decode cX4_append 28 = .ok (.i2b, 1) := by decide +kernel
theorem dX4_append_29 : decode cX4_append 29 = .ok (.bastore, 1) := by decide +kernel
theorem dX4_append_30 : decode cX4_append 30 = .ok (.aload_n 0, 1) := by decide +kernel
theorem dX4_append_31 : decode cX4_append 31 = .ok (.dup, 1) := by decide +kernel
theorem dX4_append_32 : decode cX4_append 32 = .ok (.getfield 15, 3) := by decide +kernel
theorem dX4_append_35 : decode cX4_append 35 = .ok (.iconst 1, 1) := by decide +kernel
theorem dX4_append_36 : decode cX4_append 36 = .ok (.iadd, 1) := by decide +kernel
theorem dX4_append_37 : decode cX4_append 37 = .ok (.putfield 15, 3) := by decide +kernel
theorem dX4_append_40 : decode cX4_append 40 = .ok (.iinc 2 (-8), 3) := by decide +kernel
theorem dX4_append_43 : decode cX4_append 43 = .ok (.goto (-40), 3) := by decide +kernel
theorem dX4_append_46 : decode cX4_append 46 = .ok (.return_, 1) := by decide +kernel
theorem dX4_handOver_0 : decode cX4_handOver 0 = .ok (.aload_n 0, 1) := by decide +kernel
theorem dX4_handOver_1 : decode cX4_handOver 1 = .ok (.getfield 22, 3) := by decide +kernel
theorem dX4_handOver_4 : decode cX4_handOver 4 = .ok (.astore_n 2, 1) := by decide +kernel
theorem dX4_handOver_5 : decode cX4_handOver 5 = .ok (.aload_n 0, 1) := by decide +kernel
theorem dX4_handOver_6 : decode cX4_handOver 6 = .ok (.aload_n 1, 1) := by decide +kernel
theorem dX4_handOver_7 : decode cX4_handOver 7 = .ok (.putfield 22, 3) := by decide +kernel
theorem dX4_handOver_10 : decode cX4_handOver 10 = .ok (.aload_n 2, 1) := by decide +kernel
theorem dX4_handOver_11 : decode cX4_handOver 11 = .ok (.areturn, 1) := by decide +kernel
theorem dX4_read_0 : decode cX4_read 0 = .ok (.aload_n 0, 1) := by decide +kernel
theorem dX4_read_1 : decode cX4_read 1 = .ok (.iload_n 1, 1) := by decide +kernel
theorem dX4_read_2 : decode cX4_read 2 = .ok (.aload_n 0, 1) := by decide +kernel
theorem dX4_read_3 : decode cX4_read 3 = .ok (.getfield 15, 3) := by decide +kernel
theorem dX4_read_6 : decode cX4_read 6 = .ok (.invokestatic 55, 3) := by decide +kernel
theorem dX4_read_9 : decode cX4_read 9 = .ok (.putfield 26, 3) := by decide +kernel
theorem dX4_read_12 : decode cX4_read 12 = .ok (.aload_n 0, 1) := by decide +kernel
theorem dX4_read_13 : decode cX4_read 13 = .ok (.iconst 0, 1) := by decide +kernel
theorem dX4_read_14 : decode cX4_read 14 = .ok (.putfield 15, 3) := by decide +kernel
theorem dX4_read_17 : decode cX4_read 17 = .ok (.aload_n 0, 1) := by decide +kernel
theorem dX4_read_18 : decode cX4_read 18 = .ok (.iconst 0, 1) := by decide +kernel
theorem dX4_read_19 : decode cX4_read 19 = .ok (.putfield 32, 3) := by decide +kernel
theorem dX4_read_22 : decode cX4_read 22 = .ok (.aload_n 0, 1) := by decide +kernel
theorem dX4_read_23 : decode cX4_read 23 = .ok (.iconst 0, 1) := by decide +kernel
theorem dX4_read_24 : decode cX4_read 24 = .ok (.putfield 45, 3) := by decide +kernel
theorem dX4_read_27 : decode cX4_read 27 = .ok (.aload_n 0, 1) := by decide +kernel
theorem dX4_read_28 : decode cX4_read 28 = .ok (.iconst 0, 1) := by decide +kernel
theorem dX4_read_29 : decode cX4_read 29 = .ok (.putfield 49, 3) := by decide +kernel
theorem dX4_read_32 : decode cX4_read 32 = .ok (.aload_n 0, 1) := by decide +kernel
theorem dX4_read_33 : decode cX4_read 33 = .ok (.iconst (-1), 1) := by decide +kernel
theorem dX4_read_34 : decode cX4_read 34 = .ok (.putfield 52, 3) := by decide +kernel
theorem dX4_read_37 : decode cX4_read 37 = .ok (.aload_n 0, 1) := by decide +kernel
theorem dX4_read_38 : decode cX4_read 38 = .ok (.getfield 22, 3) := by decide +kernel
theorem dX4_read_41 : decode cX4_read 41 = .ok (.invokevirtual 61, 3) := by decide +kernel
theorem dX4_read_44 : decode cX4_read 44 = .ok (.iconst 0, 1) := by decide +kernel
theorem dX4_read_45 : decode cX4_read 45 = .ok (.istore_n 2, 1) := by decide +kernel
theorem dX4_read_46 : decode cX4_read 46 = .ok (.aload_n 0, 1) := by decide +kernel
theorem dX4_read_47 : decode cX4_read 47 = .ok (.invokevirtual 64, 3) := by decide +kernel
theorem dX4_read_50 : decode cX4_read 50 = .ok (.aload_n 0, 1) := by decide +kernel
theorem dX4_read_51 : decode cX4_read 51 = .ok (.ldc2_w 67, 3) := by decide +kernel
theorem dX4_read_54 : decode cX4_read 54 = .ok (.invokevirtual 69, 3) := by decide +kernel
theorem dX4_read_57 : decode cX4_read 57 = .ok (.ifCond .eq 10, 3) := by decide +kernel
theorem dX4_read_60 : decode cX4_read 60 = .ok (.aload_n 0, 1) := by decide +kernel
theorem dX4_read_61 : decode cX4_read 61 = .ok (.invokevirtual 73, 3) := by decide +kernel
theorem dX4_read_64 : decode cX4_read 64 = .ok (.goto 42, 3) := by decide +kernel
theorem dX4_read_67 : decode cX4_read 67 = .ok (.aload_n 0, 1) := by decide +kernel
theorem dX4_read_68 : decode cX4_read 68 = .ok (.ldc2_w 76, 3) := by decide +kernel
theorem dX4_read_71 : decode cX4_read 71 = .ok (.invokevirtual 69, 3) := by decide +kernel
theorem dX4_read_74 : decode cX4_read 74 = .ok (.ifCond .eq 10, 3) := by decide +kernel
theorem dX4_read_77 : decode cX4_read 77 = .ok (.aload_n 0, 1) := by decide +kernel
theorem dX4_read_78 : decode cX4_read 78 = .ok (.invokevirtual 78, 3) := by decide +kernel
theorem dX4_read_81 : decode cX4_read 81 = .ok (.goto 25, 3) := by decide +kernel
theorem dX4_read_84 : decode cX4_read 84 = .ok (.aload_n 0, 1) := by decide +kernel
theorem dX4_read_85 : decode cX4_read 85 = .ok (.ldc2_w 81, 3) := by decide +kernel
theorem dX4_read_88 : decode cX4_read 88 = .ok (.invokevirtual 69, 3) := by decide +kernel
theorem dX4_read_91 : decode cX4_read 91 = .ok (.ifCond .eq 10, 3) := by decide +kernel
theorem dX4_read_94 : decode cX4_read 94 = .ok (.aload_n 0, 1) := by decide +kernel
theorem dX4_read_95 : decode cX4_read 95 = .ok (.invokevirtual 83, 3) := by decide +kernel
theorem dX4_read_98 : decode cX4_read 98 = .ok (.goto 8, 3) := by decide +kernel
theorem dX4_read_101 : decode cX4_read 101 = .ok (.aload_n 0, 1) := by decide +kernel
theorem dX4_read_102 : decode cX4_read 102 = .ok (.iconst 1, 1) := by decide +kernel
theorem dX4_read_103 : decode cX4_read 103 = .ok (.invokevirtual 86, 3) := by decide +kernel
theorem dX4_read_106 : decode cX4_read 106 = .ok (.iinc 2 1, 3) := by decide +kernel
theorem dX4_read_109 : decode cX4_read 109 = .ok (.iload_n 2, 1) := by decide +kernel
theorem dX4_read_110 : decode cX4_read 110 = .ok (.aload_n 0, 1) := by decide +kernel
theorem dX4_read_111 : decode cX4_read 111 = .ok (.getfield 26, 3) := by decide +kernel
theorem dX4_read_114 : decode cX4_read 114 = .ok (.if_icmp .gt 18, 3) := by decide +kernel
theorem dX4_read_117 : decode cX4_read 117 = .ok (.aload_n 0, 1) := by decide +kernel
theorem dX4_read_118 : decode cX4_read 118 = .ok (.getfield 49, 3) := by decide +kernel
theorem dX4_read_121 : decode cX4_read 121 = .ok (.ifCond .ne 11, 3) := by decide +kernel
theorem dX4_read_124 : decode cX4_read 124 = .ok (.aload_n 0, 1) := by decide +kernel
theorem dX4_read_125 : decode cX4_read 125 = .ok (.getfield 35, 3) := by decide +kernel
theorem dX4_read_128 : decode cX4_read 128 = .ok (.iconst 3, 1) := by decide +kernel
theorem dX4_read_129 : decode cX4_read 129 = .ok (.if_icmp .eq (-83), 3) := by decide +kernel
theorem dX4_read_132 : decode cX4_read 132 = .ok (.aload_n 0, 1) := by decide +kernel
theorem dX4_read_133 : decode cX4_read 133 = .ok (.getfield 35, 3) := by decide +kernel
theorem dX4_read_136 : decode cX4_read 136 = .ok (.ifCond .eq 11, 3) := by decide +kernel
theorem dX4_read_139 : decode cX4_read 139 = .ok (.aload_n 0, 1) := by decide +kernel
theorem dX4_read_140 : decode cX4_read 140 = .ok (.iconst 1, 1) := by decide +kernel
theorem dX4_read_141 : decode cX4_read 141 = .ok (.invokevirtual 86, 3) := by decide +kernel
theorem dX4_read_144 : decode cX4_read 144 = .ok (.goto 19, 3) := by decide +kernel
theorem dX4_read_147 : decode cX4_read 147 = .ok (.aload_n 0, 1) := by decide +kernel
theorem dX4_read_148 : decode cX4_read 148 = .ok (.getfield 22, 3) := by decide +kernel
theorem dX4_read_151 : decode cX4_read 151 = .ok (.getfield 90, 3) := by decide +kernel
theorem dX4_read_154 : decode cX4_read 154 = .ok (.ifCond .ne 9, 3) := by decide +kernel
theorem dX4_read_157 : decode cX4_read 157 = .ok (.aload_n 0, 1) := by decide +kernel
theorem dX4_read_158 : decode cX4_read 158 = .ok (.bipush 6, 2) := by decide +kernel
theorem dX4_read_160 : decode cX4_read 160 = .ok (.invokevirtual 86, 3) := by decide +kernel
theorem dX4_read_163 : decode cX4_read 163 = .ok (.return_, 1) := by decide +kernel
theorem dX4_fail_0 : decode cX4_fail 0 = .ok (.aload_n 0, 1) := by decide +kernel
theorem dX4_fail_1 : decode cX4_fail 1 = .ok (.getfield 49, 3) := by decide +kernel
theorem dX4_fail_4 : decode cX4_fail 4 = .ok (.ifCond .ne 16, 3) := by decide +kernel
theorem dX4_fail_7 : decode cX4_fail 7 = .ok (.aload_n 0, 1) := by decide +kernel
theorem dX4_fail_8 : decode cX4_fail 8 = .ok (.iload_n 1, 1) := by decide +kernel
theorem dX4_fail_9 : decode cX4_fail 9 = .ok (.putfield 49, 3) := by decide +kernel
theorem dX4_fail_12 : decode cX4_fail 12 = .ok (.aload_n 0, 1) := by decide +kernel
theorem dX4_fail_13 : decode cX4_fail 13 = .ok (.aload_n 0, 1) := by decide +kernel
theorem dX4_fail_14 : decode cX4_fail 14 = .ok (.getfield 29, 3) := by decide +kernel
theorem dX4_fail_17 : decode cX4_fail 17 = .ok (.putfield 52, 3) := by decide +kernel
theorem dX4_fail_20 : decode cX4_fail 20 = .ok (.return_, 1) := by decide +kernel
theorem dX4_readBus_0 : decode cX4_readBus 0 = .ok (.aload_n 0, 1) := by decide +kernel
theorem dX4_readBus_1 : decode cX4_readBus 1 = .ok (.getfield 45, 3) := by decide +kernel
theorem dX4_readBus_4 : decode cX4_readBus 4 = .ok (.ifCond .eq 8, 3) := by decide +kernel
theorem dX4_readBus_7 : decode cX4_readBus 7 = .ok (.aload_n 0, 1) := by decide +kernel
theorem dX4_readBus_8 : decode cX4_readBus 8 = .ok (.iconst 3, 1) := by decide +kernel
theorem dX4_readBus_9 : decode cX4_readBus 9 = .ok (.invokevirtual 86, 3) := by decide +kernel
theorem dX4_readBus_12 : decode cX4_readBus 12 = .ok (.aload_n 0, 1) := by decide +kernel
theorem dX4_readBus_13 : decode cX4_readBus 13 = .ok (.iconst 1, 1) := by decide +kernel
theorem dX4_readBus_14 : decode cX4_readBus 14 = .ok (.putfield 45, 3) := by decide +kernel
theorem dX4_readBus_17 : decode cX4_readBus 17 = .ok (.aload_n 0, 1) := by decide +kernel
theorem dX4_readBus_18 : decode cX4_readBus 18 = .ok (.ldc2_w 67, 3) := by decide +kernel
theorem dX4_readBus_21 : decode cX4_readBus 21 = .ok (.invokevirtual 93, 3) := by decide +kernel
theorem dX4_readBus_24 : decode cX4_readBus 24 = .ok (.aload_n 0, 1) := by decide +kernel
