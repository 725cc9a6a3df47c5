theorem dX4_readBus_25 : decode cX4_readBus 25 = .ok (.ldc2_w 97, 3) := by decide +kernel
theorem dX4_readBus_28 : decode cX4_readBus 28 = .ok (.invokevirtual 93, 3) := by decide +kernel
theorem dX4_readBus_31 : decode cX4_readBus 31 = .ok (.aload_n 0, 1) := by decide +kernel
theorem dX4_readBus_32 : decode cX4_readBus 32 = .ok (.getfield 22, 3) := by decide +kernel
theorem dX4_readBus_35 : decode cX4_readBus 35 = .ok (.aload_n 0, 1) := by decide +kernel
theorem dX4_readBus_36 : decode cX4_readBus 36 = .ok (.iconst 1, 1) := by decide +kernel
theorem dX4_readBus_37 : decode cX4_readBus 37 = .ok (.iconst 3, 1) := by decide +kernel
theorem dX4_readBus_38 : decode cX4_readBus 38 = .ok (.invokevirtual 99, 3) := by decide +kernel
theorem dX4_readBus_41 : decode cX4_readBus 41 = .ok (.putfield 102, 3) := by decide +kernel
theorem dX4_readBus_44 : decode cX4_readBus 44 = .ok (.aload_n 0, 1) := by decide +kernel
theorem dX4_readBus_45 : decode cX4_readBus 45 = .ok (.ldc2_w 105, 3) := by decide +kernel
theorem dX4_readBus_48 : decode cX4_readBus 48 = .ok (.invokevirtual 93, 3) := by decide +kernel
theorem dX4_readBus_51 : decode cX4_readBus 51 = .ok (.aload_n 0, 1) := by decide +kernel
theorem dX4_readBus_52 : decode cX4_readBus 52 = .ok (.getfield 22, 3) := by decide +kernel
theorem dX4_readBus_55 : decode cX4_readBus 55 = .ok (.aload_n 0, 1) := by decide +kernel
theorem dX4_readBus_56 : decode cX4_readBus 56 = .ok (.iconst 1, 1) := by decide +kernel
theorem dX4_readBus_57 : decode cX4_readBus 57 = .ok (.bipush 12, 2) := by decide +kernel
theorem dX4_readBus_59 : decode cX4_readBus 59 = .ok (.invokevirtual 99, 3) := by decide +kernel
theorem dX4_readBus_62 : decode cX4_readBus 62 = .ok (.putfield 107, 3) := by decide +kernel
theorem dX4_readBus_65 : decode cX4_readBus 65 = .ok (.aload_n 0, 1) := by decide +kernel
theorem dX4_readBus_66 : decode cX4_readBus 66 = .ok (.ldc2_w 110, 3) := by decide +kernel
theorem dX4_readBus_69 : decode cX4_readBus 69 = .ok (.invokevirtual 93, 3) := by decide +kernel
theorem dX4_readBus_72 : decode cX4_readBus 72 = .ok (.aload_n 0, 1) := by decide +kernel
theorem dX4_readBus_73 : decode cX4_readBus 73 = .ok (.getfield 22, 3) := by decide +kernel
theorem dX4_readBus_76 : decode cX4_readBus 76 = .ok (.aload_n 0, 1) := by decide +kernel
theorem dX4_readBus_77 : decode cX4_readBus 77 = .ok (.iconst 0, 1) := by decide +kernel
theorem dX4_readBus_78 : decode cX4_readBus 78 = .ok (.sipush 400, 3) := by decide +kernel
theorem dX4_readBus_81 : decode cX4_readBus 81 = .ok (.invokevirtual 99, 3) := by decide +kernel
theorem dX4_readBus_84 : decode cX4_readBus 84 = .ok (.putfield 112, 3) := by decide +kernel
theorem dX4_readBus_87 : decode cX4_readBus 87 = .ok (.aload_n 0, 1) := by decide +kernel
theorem dX4_readBus_88 : decode cX4_readBus 88 = .ok (.ldc2_w 115, 3) := by decide +kernel
theorem dX4_readBus_91 : decode cX4_readBus 91 = .ok (.invokevirtual 93, 3) := by decide +kernel
theorem dX4_readBus_94 : decode cX4_readBus 94 = .ok (.aload_n 0, 1) := by decide +kernel
theorem dX4_readBus_95 : decode cX4_readBus 95 = .ok (.getfield 22, 3) := by decide +kernel
theorem dX4_readBus_98 : decode cX4_readBus 98 = .ok (.aload_n 0, 1) := by decide +kernel
theorem dX4_readBus_99 : decode cX4_readBus 99 = .ok (.iconst 1, 1) := by decide +kernel
theorem dX4_readBus_100 : decode cX4_readBus 100 = .ok (.bipush 100, 2) := by decide +kernel
theorem dX4_readBus_102 : decode cX4_readBus 102 = .ok (.invokevirtual 99, 3) := by decide +kernel
theorem dX4_readBus_105 : decode cX4_readBus 105 = .ok (.putfield 117, 3) := by decide +kernel
theorem dX4_readBus_108 : decode cX4_readBus 108 = .ok (.aload_n 0, 1) := by decide +kernel
theorem dX4_readBus_109 : decode cX4_readBus 109 = .ok (.ldc2_w 120, 3) := by decide +kernel
theorem dX4_readBus_112 : decode cX4_readBus 112 = .ok (.invokevirtual 93, 3) := by decide +kernel
theorem dX4_readBus_115 : decode cX4_readBus 115 = .ok (.aload_n 0, 1) := by decide +kernel
theorem dX4_readBus_116 : decode cX4_readBus 116 = .ok (.getfield 22, 3) := by decide +kernel
theorem dX4_readBus_119 : decode cX4_readBus 119 = .ok (.aload_n 0, 1) := by decide +kernel
theorem dX4_readBus_120 : decode cX4_readBus 120 = .ok (.iconst 1, 1) := by decide +kernel
theorem dX4_readBus_121 : decode cX4_readBus 121 = .ok (.sipush 999, 3) := by decide +kernel
theorem dX4_readBus_124 : decode cX4_readBus 124 = .ok (.invokevirtual 99, 3) := by decide +kernel
theorem dX4_readBus_127 : decode cX4_readBus 127 = .ok (.putfield 122, 3) := by decide +kernel
theorem dX4_readBus_130 : decode cX4_readBus 130 = .ok (.return_, 1) := by decide +kernel
theorem dX4_readEnd_0 : decode cX4_readEnd 0 = .ok (.aload_n 0, 1) := by decide +kernel
theorem dX4_readEnd_1 : decode cX4_readEnd 1 = .ok (.aload_n 0, 1) := by decide +kernel
theorem dX4_readEnd_2 : decode cX4_readEnd 2 = .ok (.getfield 22, 3) := by decide +kernel
theorem dX4_readEnd_5 : decode cX4_readEnd 5 = .ok (.getfield 125, 3) := by decide +kernel
theorem dX4_readEnd_8 : decode cX4_readEnd 8 = .ok (.bipush 6, 2) := by decide +kernel
theorem dX4_readEnd_10 : decode cX4_readEnd 10 = .ok (.invokevirtual 128, 3) := by decide +kernel
theorem dX4_readEnd_13 : decode cX4_readEnd 13 = .ok (.aload_n 0, 1) := by decide +kernel
theorem dX4_readEnd_14 : decode cX4_readEnd 14 = .ok (.ldc2_w 76, 3) := by decide +kernel
theorem dX4_readEnd_17 : decode cX4_readEnd 17 = .ok (.invokevirtual 93, 3) := by decide +kernel
theorem dX4_readEnd_20 : decode cX4_readEnd 20 = .ok (.aload_n 0, 1) := by decide +kernel
theorem dX4_readEnd_21 : decode cX4_readEnd 21 = .ok (.invokevirtual 132, 3) := by decide +kernel
theorem dX4_readEnd_24 : decode cX4_readEnd 24 = .ok (.lstore_n 1, 1) := by decide +kernel
theorem dX4_readEnd_25 : decode cX4_readEnd 25 = .ok (.aload_n 0, 1) := by decide +kernel
theorem dX4_readEnd_26 : decode cX4_readEnd 26 = .ok (.ldc2_w 136, 3) := by decide +kernel
theorem dX4_readEnd_29 : decode cX4_readEnd 29 = .ok (.invokevirtual 93, 3) := by decide +kernel
theorem dX4_readEnd_32 : decode cX4_readEnd 32 = .ok (.aload_n 0, 1) := by decide +kernel
theorem dX4_readEnd_33 : decode cX4_readEnd 33 = .ok (.iconst 0, 1) := by decide +kernel
theorem dX4_readEnd_34 : decode cX4_readEnd 34 = .ok (.aload_n 0, 1) := by decide +kernel
theorem dX4_readEnd_35 : decode cX4_readEnd 35 = .ok (.getfield 22, 3) := by decide +kernel
theorem dX4_readEnd_38 : decode cX4_readEnd 38 = .ok (.getfield 102, 3) := by decide +kernel
theorem dX4_readEnd_41 : decode cX4_readEnd 41 = .ok (.iconst 1, 1) := by decide +kernel
theorem dX4_readEnd_42 : decode cX4_readEnd 42 = .ok (.isub, 1) := by decide +kernel
theorem dX4_readEnd_43 : decode cX4_readEnd 43 = .ok (.invokevirtual 99, 3) := by decide +kernel
theorem dX4_readEnd_46 : decode cX4_readEnd 46 = .ok (.istore_n 3, 1) := by decide +kernel
theorem dX4_readEnd_47 : decode cX4_readEnd 47 = .ok (.aload_n 0, 1) := by decide +kernel
theorem dX4_readEnd_48 : decode cX4_readEnd 48 = .ok (.getfield 49, 3) := by decide +kernel
theorem dX4_readEnd_51 : decode cX4_readEnd 51 = .ok (.ifCond .ne 48, 3) := by decide +kernel
theorem dX4_readEnd_54 : decode cX4_readEnd 54 = .ok (.aload_n 0, 1) := by decide +kernel
theorem dX4_readEnd_55 : decode cX4_readEnd 55 = .ok (.getfield 22, 3) := by decide +kernel
theorem dX4_readEnd_58 : decode cX4_readEnd 58 = .ok (.getfield 138, 3) := by decide +kernel
theorem dX4_readEnd_61 : decode cX4_readEnd 61 = .ok (.aload_n 0, 1) := by decide +kernel
theorem dX4_readEnd_62 : decode cX4_readEnd 62 = .ok (.getfield 22, 3) := by decide +kernel
theorem dX4_readEnd_65 : decode cX4_readEnd 65 = .ok (.getfield 125, 3) := by decide +kernel
theorem dX4_readEnd_68 : decode cX4_readEnd 68 = .ok (.lload_n 1, 1) := by decide +kernel
theorem dX4_readEnd_69 : decode cX4_readEnd 69 = .ok (.lastore, 1) := by decide +kernel
theorem dX4_readEnd_70 : decode cX4_readEnd 70 = .ok (.aload_n 0, 1) := by decide +kernel
theorem dX4_readEnd_71 : decode cX4_readEnd 71 = .ok (.getfield 22, 3) := by decide +kernel
theorem dX4_readEnd_74 : decode cX4_readEnd 74 = .ok (.getfield 142, 3) := by decide +kernel
theorem dX4_readEnd_77 : decode cX4_readEnd 77 = .ok (.aload_n 0, 1) := by decide +kernel
theorem dX4_readEnd_78 : decode cX4_readEnd 78 = .ok (.getfield 22, 3) := by decide +kernel
theorem dX4_readEnd_81 : decode cX4_readEnd 81 = .ok (.getfield 125, 3) := by decide +kernel
theorem dX4_readEnd_84 : decode cX4_readEnd 84 = .ok (.iload_n 3, 1) := by decide +kernel
theorem dX4_readEnd_85 : decode cX4_readEnd 85 = .ok (.iastore, 1) := by decide +kernel
theorem dX4_readEnd_86 : decode cX4_readEnd 86 = .ok (.aload_n 0, 1) := by decide +kernel
theorem dX4_readEnd_87 : decode cX4_readEnd 87 = .ok (.getfield 22, 3) := by decide +kernel
theorem dX4_readEnd_90 : decode cX4_readEnd 90 = .ok (.dup, 1) := by decide +kernel
theorem dX4_readEnd_91 : decode cX4_readEnd 91 = .ok (.getfield 125, 3) := by decide +kernel
theorem dX4_readEnd_94 : decode cX4_readEnd 94 = .ok (.iconst 1, 1) := by decide +kernel
theorem dX4_readEnd_95 : decode cX4_readEnd 95 = .ok (.iadd, 1) := by decide +kernel
theorem dX4_readEnd_96 : decode cX4_readEnd 96 = .ok (.putfield 125, 3) := by decide +kernel
theorem dX4_readEnd_99 : decode cX4_readEnd 99 = .ok (.return_, 1) := by decide +kernel
theorem dX4_readLink_0 : decode cX4_readLink 0 = .ok (.aload_n 0, 1) := by decide +kernel
theorem dX4_readLink_1 : decode cX4_readLink 1 = .ok (.aload_n 0, 1) := by decide +kernel
theorem dX4_readLink_2 : decode cX4_readLink 2 = .ok (.getfield 22, 3) := by decide +kernel
theorem dX4_readLink_5 : decode cX4_readLink 5 = .ok (.getfield 90, 3) := by decide +kernel
theorem dX4_readLink_8 : decode cX4_readLink 8 = .ok (.bipush 8, 2) := by decide +kernel
theorem dX4_readLink_10 : decode cX4_readLink 10 = .ok (.invokevirtual 128, 3) := by decide +kernel
theorem dX4_readLink_13 : decode cX4_readLink 13 = .ok (.aload_n 0, 1) := by decide +kernel
theorem dX4_readLink_14 : decode cX4_readLink 14 = .ok (.ldc2_w 81, 3) := by decide +kernel
theorem dX4_readLink_17 : decode cX4_readLink 17 = .ok (.invokevirtual 93, 3) := by decide +kernel
theorem dX4_readLink_20 : decode cX4_readLink 20 = .ok (.aload_n 0, 1) := by decide +kernel
theorem dX4_readLink_21 : decode cX4_readLink 21 = .ok (.invokevirtual 132, 3) := by decide +kernel
theorem dX4_readLink_24 : decode cX4_readLink 24 = .ok (.lstore_n 1, 1) := by decide +kernel
theorem dX4_readLink_25 : decode cX4_readLink 25 = .ok (.aload_n 0, 1) := by decide +kernel
theorem dX4_readLink_26 : decode cX4_readLink 26 = .ok (.ldc2_w 146, 3) := by decide +kernel
theorem dX4_readLink_29 : decode cX4_readLink 29 = .ok (.invokevirtual 93, 3) := by decide +kernel
theorem dX4_readLink_32 : decode cX4_readLink 32 = .ok (.aload_n 0, 1) := by decide +kernel
theorem dX4_readLink_33 : decode cX4_readLink 33 = .ok (.invokevirtual 148, 3) := by decide +kernel
theorem dX4_readLink_36 : decode cX4_readLink 36 = .ok (.istore_n 3, 1) := by decide +kernel
theorem dX4_readLink_37 : decode cX4_readLink 37 = .ok (.aload_n 0, 1) := by decide +kernel
theorem dX4_readLink_38 : decode cX4_readLink 38 = .ok (.ldc2_w 152, 3) := by decide +kernel
theorem dX4_readLink_41 : decode cX4_readLink 41 = .ok (.invokevirtual 93, 3) := by decide +kernel
theorem dX4_readLink_44 : decode cX4_readLink 44 = .ok (.aload_n 0, 1) := by decide +kernel
theorem dX4_readLink_45 : decode cX4_readLink 45 = .ok (.invokevirtual 154, 3) := by decide +kernel
theorem dX4_readLink_48 : decode cX4_readLink 48 = .ok (.istore 4, 2) := by decide +kernel
theorem dX4_readLink_50 : decode cX4_readLink 50 = .ok (.aload_n 0, 1) := by decide +kernel
theorem dX4_readLink_51 : decode cX4_readLink 51 = .ok (.ldc2_w 157, 3) := by decide +kernel
theorem dX4_readLink_54 : decode cX4_readLink 54 = .ok (.invokevirtual 93, 3) := by decide +kernel
theorem dX4_readLink_57 : decode cX4_readLink 57 = .ok (.aload_n 0, 1) := by decide +kernel
theorem dX4_readLink_58 : decode cX4_readLink 58 = .ok (.iconst 1, 1) := by decide +kernel
theorem dX4_readLink_59 : decode cX4_readLink 59 = .ok (.bipush 40, 2) := by decide +kernel
theorem dX4_readLink_61 : decode cX4_readLink 61 = .ok (.iload 4, 2) := by decide +kernel
theorem dX4_readLink_63 : decode cX4_readLink 63 = .ok (.invokestatic 55, 3) := by decide +kernel
theorem dX4_readLink_66 : decode cX4_readLink 66 = .ok (.invokevirtual 99, 3) := by decide +kernel
theorem dX4_readLink_69 : decode cX4_readLink 69 = .ok (.istore 5, 2) := by decide +kernel
theorem dX4_readLink_71 : decode cX4_readLink 71 = .ok (.aload_n 0, 1) := by decide +kernel
theorem dX4_readLink_72 : decode cX4_readLink 72 = .ok (.ldc2_w 159, 3) := by decide +kernel
theorem dX4_readLink_75 : decode cX4_readLink 75 = .ok (.invokevirtual 93, 3) := by decide +kernel
theorem dX4_readLink_78 : decode cX4_readLink 78 = .ok (.aload_n 0, 1) := by decide +kernel
theorem dX4_readLink_79 : decode cX4_readLink 79 = .ok (.getfield 49, 3) := by decide +kernel
theorem dX4_readLink_82 : decode cX4_readLink 82 = .ok (.ifCond .ne 77, 3) := by decide +kernel
theorem dX4_readLink_85 : decode cX4_readLink 85 = .ok (.aload_n 0, 1) := by decide +kernel
theorem dX4_readLink_86 : decode cX4_readLink 86 = .ok (.getfield 22, 3) := by decide +kernel
theorem dX4_readLink_89 : decode cX4_readLink 89 = .ok (.getfield 90, 3) := by decide +kernel
theorem dX4_readLink_92 : decode cX4_readLink 92 = .ok (.istore 6, 2) := by decide +kernel
theorem dX4_readLink_94 : decode cX4_readLink 94 = .ok (.aload_n 0, 1) := by decide +kernel
theorem dX4_readLink_95 : decode cX4_readLink 95 = .ok (.getfield 22, 3) := by decide +kernel
theorem dX4_readLink_98 : decode cX4_readLink 98 = .ok (.getfield 161, 3) := by decide +kernel
theorem dX4_readLink_101 : decode cX4_readLink 101 = .ok (.iload 6, 2) := by decide +kernel
theorem dX4_readLink_103 : decode cX4_readLink 103 = .ok (.lload_n 1, 1) := by decide +kernel
theorem dX4_readLink_104 : decode cX4_readLink 104 = .ok (.lastore, 1) := by decide +kernel
theorem dX4_readLink_105 : decode cX4_readLink 105 = .ok (.aload_n 0, 1) := by decide +kernel
theorem dX4_readLink_106 : decode cX4_readLink 106 = .ok (.getfield 22, 3) := by decide +kernel
theorem dX4_readLink_109 : decode cX4_readLink 109 = .ok (.getfield 164, 3) := by decide +kernel
theorem dX4_readLink_112 : decode cX4_readLink 112 = .ok (.iload 6, 2) := by decide +kernel
theorem dX4_readLink_114 : decode cX4_readLink 114 = .ok (.iload_n 3, 1) := by decide +kernel
theorem dX4_readLink_115 : decode cX4_readLink 115 = .ok (.iastore, 1) := by decide +kernel
theorem dX4_readLink_116 : decode cX4_readLink 116 = .ok (.aload_n 0, 1) := by decide +kernel
theorem dX4_readLink_117 : decode cX4_readLink 117 = .ok (.getfield 22, 3) := by decide +kernel
theorem dX4_readLink_120 : decode cX4_readLink 120 = .ok (.getfield 167, 3) := by decide +kernel
theorem dX4_readLink_123 : decode cX4_readLink 123 = .ok (.iload 6, 2) := by decide +kernel
theorem dX4_readLink_125 : decode cX4_readLink 125 = .ok (.iload 4, 2) := by decide +kernel
theorem dX4_readLink_127 : decode cX4_readLink 127 = .ok (.iastore, 1) := by decide +kernel
theorem dX4_readLink_128 : decode cX4_readLink 128 = .ok (.aload_n 0, 1) := by decide +kernel
theorem dX4_readLink_129 : decode cX4_readLink 129 = .ok (.getfield 22, 3) := by decide +kernel
theorem dX4_readLink_132 : decode cX4_readLink 132 = .ok (.getfield 170, 3) := by decide +kernel
theorem dX4_readLink_135 : decode cX4_readLink 135 = .ok (.iload 6, 2) := by decide +kernel
theorem dX4_readLink_137 : decode cX4_readLink 137 = .ok (.iload 5, 2) := by decide +kernel
theorem dX4_readLink_139 : decode cX4_readLink 139 = .ok (.iastore, 1) := by decide +kernel
theorem dX4_readLink_140 : decode cX4_readLink 140 = .ok (.aload_n 0, 1) := by decide +kernel
theorem dX4_readLink_141 : decode cX4_readLink 141 = .ok (.iload 6, 2) := by decide +kernel
theorem dX4_readLink_143 : decode cX4_readLink 143 = .ok (.invokevirtual 173, 3) := by decide +kernel
theorem dX4_readLink_146 : decode cX4_readLink 146 = .ok (.aload_n 0, 1) := by decide +kernel
theorem dX4_readLink_147 : decode cX4_readLink 147 = .ok (.getfield 22, 3) := by decide +kernel
theorem dX4_readLink_150 : decode cX4_readLink 150 = .ok (.dup, 1) := by decide +kernel
theorem dX4_readLink_151 : decode cX4_readLink 151 = .ok (.getfield 90, 3) := by decide +kernel
theorem dX4_readLink_154 : decode cX4_readLink 154 = .ok (.iconst 1, 1) := by decide +kernel
theorem dX4_readLink_155 : decode cX4_readLink 155 = .ok (.iadd, 1) := by decide +kernel
theorem dX4_readLink_156 : decode cX4_readLink 156 = .ok (.putfield 90, 3) := by decide +kernel
theorem dX4_readLink_159 : decode cX4_readLink 159 = .ok (.return_, 1) := by decide +kernel
theorem dX4_readReceivers_0 : decode cX4_readReceivers 0 = .ok (.aload_n 0, 1) := by decide +kernel
theorem dX4_readReceivers_1 : decode cX4_readReceivers 1 = .ok (.getfield 22, 3) := by decide +kernel
theorem dX4_readReceivers_4 : decode cX4_readReceivers 4 = .ok (.getfield 176, 3) := by decide +kernel
theorem dX4_readReceivers_7 : decode cX4_readReceivers 7 = .ok (.iload_n 1, 1) := by decide +kernel
theorem dX4_readReceivers_8 : decode cX4_readReceivers 8 = .ok (.iconst 0, 1) := by decide +kernel
theorem dX4_readReceivers_9 : decode cX4_readReceivers 9 = .ok (.iastore, 1) := by decide +kernel
theorem dX4_readReceivers_10 : decode cX4_readReceivers 10 = .ok (.iconst 0, 1) := by decide +kernel
theorem dX4_readReceivers_11 : decode cX4_readReceivers 11 = .ok (.istore_n 2, 1) := by decide +kernel
theorem dX4_readReceivers_12 : decode cX4_readReceivers 12 = .ok (.iload_n 2, 1) := by decide +kernel
theorem dX4_readReceivers_13 : decode cX4_readReceivers 13 = .ok (.iconst 3, 1) := by decide +kernel
theorem dX4_readReceivers_14 : decode cX4_readReceivers 14 = .ok (.if_icmp .ge 112, 3) := by decide +kernel
theorem dX4_readReceivers_17 : decode cX4_readReceivers 17 = .ok (.iload_n 2, 1) := by decide +kernel
theorem dX4_readReceivers_18 : decode cX4_readReceivers 18 = .ok (.ifCond .eq 11, 3) := by decide +kernel
theorem dX4_readReceivers_21 : decode cX4_readReceivers 21 = .ok (.aload_n 0, 1) := by decide +kernel
theorem dX4_readReceivers_22 : decode cX4_readReceivers 22 = .ok (.getfield 35, 3) := by decide +kernel
theorem dX4_readReceivers_25 : decode cX4_readReceivers 25 = .ok (.iconst 1, 1) := by decide +kernel
theorem dX4_readReceivers_26 : decode cX4_readReceivers 26 = .ok (.if_icmp .ne 100, 3) := by decide +kernel
theorem dX4_readReceivers_29 : decode cX4_readReceivers 29 = .ok (.aload_n 0, 1) := by decide +kernel
theorem dX4_readReceivers_30 : decode cX4_readReceivers 30 = .ok (.getfield 29, 3) := by decide +kernel
theorem dX4_readReceivers_33 : decode cX4_readReceivers 33 = .ok (.istore_n 3, 1) := by decide +kernel
theorem dX4_readReceivers_34 : decode cX4_readReceivers 34 = .ok (.aload_n 0, 1) := by decide +kernel
theorem dX4_readReceivers_35 : decode cX4_readReceivers 35 = .ok (.invokevirtual 148, 3) := by decide +kernel
theorem dX4_readReceivers_38 : decode cX4_readReceivers 38 = .ok (.istore 4, 2) := by decide +kernel
theorem dX4_readReceivers_40 : decode cX4_readReceivers 40 = .ok (.aload_n 0, 1) := by decide +kernel
theorem dX4_readReceivers_41 : decode cX4_readReceivers 41 = .ok (.getfield 49, 3) := by decide +kernel
theorem dX4_readReceivers_44 : decode cX4_readReceivers 44 = .ok (.ifCond .ne 41, 3) := by decide +kernel
theorem dX4_readReceivers_47 : decode cX4_readReceivers 47 = .ok (.iload 4, 2) := by decide +kernel
theorem dX4_readReceivers_49 : decode cX4_readReceivers 49 = .ok (.aload_n 0, 1) := by decide +kernel
theorem dX4_readReceivers_50 : decode cX4_readReceivers 50 = .ok (.getfield 22, 3) := by decide +kernel
theorem dX4_readReceivers_53 : decode cX4_readReceivers 53 = .ok (.getfield 164, 3) := by decide +kernel
theorem dX4_readReceivers_56 : decode cX4_readReceivers 56 = .ok (.iload_n 1, 1) := by decide +kernel
theorem dX4_readReceivers_57 : decode cX4_readReceivers 57 = .ok (.iaload, 1) := by decide +kernel
theorem dX4_readReceivers_58 : decode cX4_readReceivers 58 = .ok (.if_icmp .eq 17, 3) := by decide +kernel
theorem dX4_readReceivers_61 : decode cX4_readReceivers 61 = .ok (.aload_n 0, 1) := by decide +kernel
theorem dX4_readReceivers_62 : decode cX4_readReceivers 62 = .ok (.getfield 22, 3) := by decide +kernel
theorem dX4_readReceivers_65 : decode cX4_readReceivers 65 = .ok (.iload_n 1, 1) := by decide +kernel
theorem dX4_readReceivers_66 : decode cX4_readReceivers 66 = .ok (.iload 4, 2) := by decide +kernel
theorem dX4_readReceivers_68 : decode cX4_readReceivers 68 = .ok (.invokevirtual 179, 3) := by decide +kernel
theorem dX4_readReceivers_71 : decode cX4_readReceivers 71 = .ok (.iconst (-1), 1) := by decide +kernel
theorem dX4_readReceivers_72 : decode cX4_readReceivers 72 = .ok (.if_icmp .eq 13, 3) := by decide +kernel
theorem dX4_readReceivers_75 : decode cX4_readReceivers 75 = .ok (.aload_n 0, 1) := by decide +kernel
theorem dX4_readReceivers_76 : decode cX4_readReceivers 76 = .ok (.iconst 3, 1) := by decide +kernel
theorem dX4_readReceivers_77 : decode cX4_readReceivers 77 = .ok (.putfield 49, 3) := by decide +kernel
theorem dX4_readReceivers_80 : decode cX4_readReceivers 80 = .ok (.aload_n 0, 1) := by decide +kernel
theorem dX4_readReceivers_81 : decode cX4_readReceivers 81 = .ok (.iload_n 3, 1) := by decide +kernel
theorem dX4_readReceivers_82 : decode cX4_readReceivers 82 = .ok (.putfield 52, 3) := by decide +kernel
theorem dX4_readReceivers_85 : decode cX4_readReceivers 85 = .ok (.aload_n 0, 1) := by decide +kernel
theorem dX4_readReceivers_86 : decode cX4_readReceivers 86 = .ok (.getfield 49, 3) := by decide +kernel
theorem dX4_readReceivers_89 : decode cX4_readReceivers 89 = .ok (.ifCond .eq 4, 3) := by decide +kernel
theorem dX4_readReceivers_92 : decode cX4_readReceivers 92 = .ok (.return_, 1) := by decide +kernel
theorem dX4_readReceivers_93 : decode cX4_readReceivers 93 = .ok (.aload_n 0, 1) := by decide +kernel
theorem dX4_readReceivers_94 : decode cX4_readReceivers 94 = .ok (.getfield 22, 3) := by decide +kernel
theorem dX4_readReceivers_97 : decode cX4_readReceivers 97 = .ok (.getfield 182, 3) := by decide +kernel
theorem dX4_readReceivers_100 : decode cX4_readReceivers 100 = .ok (.iload_n 1, 1) := by decide +kernel
theorem dX4_readReceivers_101 : decode cX4_readReceivers 101 = .ok (.iload_n 2, 1) := by decide +kernel
theorem dX4_readReceivers_102 : decode cX4_readReceivers 102 = .ok (.invokestatic 185, 3) := by decide +kernel
theorem dX4_readReceivers_105 : decode cX4_readReceivers 105 = .ok (.iload 4, 2) := by decide +kernel
theorem dX4_readReceivers_107 : decode cX4_readReceivers 107 = .ok (.iastore, 1) := by decide +kernel
theorem dX4_readReceivers_108 : decode cX4_readReceivers 108 = .ok (.aload_n 0, 1) := by decide +kernel
theorem dX4_readReceivers_109 : decode cX4_readReceivers 109 = .ok (.getfield 22, 3) := by decide +kernel
theorem dX4_readReceivers_112 : decode cX4_readReceivers 112 = .ok (.getfield 176, 3) := by decide +kernel
theorem dX4_readReceivers_115 : decode cX4_readReceivers 115 = .ok (.iload_n 1, 1) := by decide +kernel
theorem dX4_readReceivers_116 : decode cX4_readReceivers 116 = .ok (.iload_n 2, 1) := by decide +kernel
theorem dX4_readReceivers_117 : decode cX4_readReceivers 117 = .ok (.iconst 1, 1) := by decide +kernel
theorem dX4_readReceivers_118 : decode cX4_readReceivers 118 = .ok (.iadd, 1) := by decide +kernel
theorem dX4_readReceivers_119 : decode cX4_readReceivers 119 = .ok (.iastore, 1) := by decide +kernel
theorem dX4_readReceivers_120 : decode cX4_readReceivers 120 = .ok (.iinc 2 1, 3) := by decide +kernel
theorem dX4_readReceivers_123 : decode cX4_readReceivers 123 = .ok (.goto (-111), 3) := by decide +kernel
theorem dX4_readReceivers_126 : decode cX4_readReceivers 126 = .ok (.return_, 1) := by decide +kernel
theorem dX4_beginLine_0 : decode cX4_beginLine 0 = .ok (.aload_n 0, 1) := by decide +kernel
theorem dX4_beginLine_1 : decode cX4_beginLine 1 = .ok (.getfield 45, 3) := by decide +kernel
theorem dX4_beginLine_4 : decode cX4_beginLine 4 = .ok (.ifCond .ne 12, 3) := by decide +kernel
theorem dX4_beginLine_7 : decode cX4_beginLine 7 = .ok (.aload_n 0, 1) := by decide +kernel
theorem dX4_beginLine_8 : decode cX4_beginLine 8 = .ok (.bipush 6, 2) := by decide +kernel
theorem dX4_beginLine_10 : decode cX4_beginLine 10 = .ok (.invokevirtual 86, 3) := by decide +kernel
theorem dX4_beginLine_13 : decode cX4_beginLine 13 = .ok (.goto 13, 3) := by decide +kernel
theorem dX4_beginLine_16 : decode cX4_beginLine 16 = .ok (.iload_n 1, 1) := by decide +kernel
theorem dX4_beginLine_17 : decode cX4_beginLine 17 = .ok (.iload_n 2, 1) := by decide +kernel
theorem dX4_beginLine_18 : decode cX4_beginLine 18 = .ok (.if_icmp .lt 8, 3) := by decide +kernel
theorem dX4_beginLine_21 : decode cX4_beginLine 21 = .ok (.aload_n 0, 1) := by decide +kernel
theorem dX4_beginLine_22 : decode cX4_beginLine 22 = .ok (.iconst 5, 1) := by decide +kernel
theorem dX4_beginLine_23 : decode cX4_beginLine 23 = .ok (.invokevirtual 86, 3) := by decide +kernel
theorem dX4_beginLine_26 : decode cX4_beginLine 26 = .ok (.return_, 1) := by decide +kernel
theorem dX4_isWord_0 : decode cX4_isWord 0 = .ok (.aload_n 0, 1) := by decide +kernel
theorem dX4_isWord_1 : decode cX4_isWord 1 = .ok (.getfield 35, 3) := by decide +kernel
theorem dX4_isWord_4 : decode cX4_isWord 4 = .ok (.iconst 1, 1) := by decide +kernel
theorem dX4_isWord_5 : decode cX4_isWord 5 = .ok (.if_icmp .ne 16, 3) := by decide +kernel
theorem dX4_isWord_8 : decode cX4_isWord 8 = .ok (.aload_n 0, 1) := by decide +kernel
theorem dX4_isWord_9 : decode cX4_isWord 9 = .ok (.getfield 38, 3) := by decide +kernel
theorem dX4_isWord_12 : decode cX4_isWord 12 = .ok (.lload_n 1, 1) := by decide +kernel
theorem dX4_isWord_13 : decode cX4_isWord 13 = .ok (.lcmp, 1) := by decide +kernel
theorem dX4_isWord_14 : decode cX4_isWord 14 = .ok (.ifCond .ne 7, 3) := by decide +kernel
theorem dX4_isWord_17 : decode cX4_isWord 17 = .ok (.iconst 1, 1) := by decide +kernel
theorem dX4_isWord_18 : decode cX4_isWord 18 = .ok (.goto 4, 3) := by decide +kernel
theorem dX4_isWord_21 : decode cX4_isWord 21 = .ok (.iconst 0, 1) := by decide +kernel
theorem dX4_isWord_22 : decode cX4_isWord 22 = .ok (.ireturn, 1) := by decide +kernel
theorem dX4_isName_0 : decode cX4_isName 0 = .ok (.aload_n 0, 1) := by decide +kernel
theorem dX4_isName_1 : decode cX4_isName 1 = .ok (.getfield 35, 3) := by decide +kernel
theorem dX4_isName_4 : decode cX4_isName 4 = .ok (.iconst 1, 1) := by decide +kernel
theorem dX4_isName_5 : decode cX4_isName 5 = .ok (.if_icmp .ne 40, 3) := by decide +kernel
theorem dX4_isName_8 : decode cX4_isName 8 = .ok (.aload_n 0, 1) := by decide +kernel
theorem dX4_isName_9 : decode cX4_isName 9 = .ok (.getfield 38, 3) := by decide +kernel
theorem dX4_isName_12 : decode cX4_isName 12 = .ok (.ldc2_w 67, 3) := by decide +kernel
theorem dX4_isName_15 : decode cX4_isName 15 = .ok (.lcmp, 1) := by decide +kernel
theorem dX4_isName_16 : decode cX4_isName 16 = .ok (.ifCond .eq 29, 3) := by decide +kernel
theorem dX4_isName_19 : decode cX4_isName 19 = .ok (.aload_n 0, 1) := by decide +kernel
theorem dX4_isName_20 : decode cX4_isName 20 = .ok (.getfield 38, 3) := by decide +kernel
theorem dX4_isName_23 : decode cX4_isName 23 = .ok (.ldc2_w 76, 3) := by decide +kernel
theorem dX4_isName_26 : decode cX4_isName 26 = .ok (.lcmp, 1) := by decide +kernel
theorem dX4_isName_27 : decode cX4_isName 27 = .ok (.ifCond .eq 18, 3) := by decide +kernel
theorem dX4_isName_30 : decode cX4_isName 30 = .ok (.aload_n 0, 1) := by decide +kernel
theorem dX4_isName_31 : decode cX4_isName 31 = .ok (.getfield 38, 3) := by decide +kernel
theorem dX4_isName_34 : decode cX4_isName 34 = .ok (.ldc2_w 81, 3) := by decide +kernel
theorem dX4_isName_37 : decode cX4_isName 37 = .ok (.lcmp, 1) := by decide +kernel
theorem dX4_isName_38 : decode cX4_isName 38 = .ok (.ifCond .eq 7, 3) := by decide +kernel
theorem dX4_isName_41 : decode cX4_isName 41 = .ok (.iconst 1, 1) := by decide +kernel
theorem dX4_isName_42 : decode cX4_isName 42 = .ok (.goto 4, 3) := by decide +kernel
theorem dX4_isName_45 : decode cX4_isName 45 = .ok (.iconst 0, 1) := by decide +kernel
theorem dX4_isName_46 : decode cX4_isName 46 = .ok (.ireturn, 1) := by decide +kernel
theorem dX4_pass_0 : decode cX4_pass 0 = .ok (.aload_n 0, 1) := by decide +kernel
theorem dX4_pass_1 : decode cX4_pass 1 = .ok (.lload_n 1, 1) := by decide +kernel
theorem dX4_pass_2 : decode cX4_pass 2 = .ok (.invokevirtual 69, 3) := by decide +kernel
theorem dX4_pass_5 : decode cX4_pass 5 = .ok (.ifCond .ne 8, 3) := by decide +kernel
theorem dX4_pass_8 : decode cX4_pass 8 = .ok (.aload_n 0, 1) := by decide +kernel
theorem dX4_pass_9 : decode cX4_pass 9 = .ok (.iconst 1, 1) := by decide +kernel
theorem dX4_pass_10 : decode cX4_pass 10 = .ok (.invokevirtual 86, 3) := by decide +kernel
theorem dX4_pass_13 : decode cX4_pass 13 = .ok (.aload_n 0, 1) := by decide +kernel
theorem dX4_pass_14 : decode cX4_pass 14 = .ok (.invokevirtual 64, 3) := by decide +kernel
theorem dX4_pass_17 : decode cX4_pass 17 = .ok (.return_, 1) := by decide +kernel
theorem dX4_newName_0 : decode cX4_newName 0 = .ok (.aload_n 0, 1) := by decide +kernel
theorem dX4_newName_1 : decode cX4_newName 1 = .ok (.invokevirtual 188, 3) := by decide +kernel
theorem dX4_newName_4 : decode cX4_newName 4 = .ok (.ifCond .ne 11, 3) := by decide +kernel
theorem dX4_newName_7 : decode cX4_newName 7 = .ok (.aload_n 0, 1) := by decide +kernel
theorem dX4_newName_8 : decode cX4_newName 8 = .ok (.iconst 1, 1) := by decide +kernel
theorem dX4_newName_9 : decode cX4_newName 9 = .ok (.invokevirtual 86, 3) := by decide +kernel
theorem dX4_newName_12 : decode cX4_newName 12 = .ok (.goto 38, 3) := by decide +kernel
theorem dX4_newName_15 : decode cX4_newName 15 = .ok (.aload_n 0, 1) := by decide +kernel
theorem dX4_newName_16 : decode cX4_newName 16 = .ok (.getfield 22, 3) := by decide +kernel
theorem dX4_newName_19 : decode cX4_newName 19 = .ok (.aload_n 0, 1) := by decide +kernel
theorem dX4_newName_20 : decode cX4_newName 20 = .ok (.getfield 38, 3) := by decide +kernel
theorem dX4_newName_23 : decode cX4_newName 23 = .ok (.invokevirtual 192, 3) := by decide +kernel
theorem dX4_newName_26 : decode cX4_newName 26 = .ok (.iconst (-1), 1) := by decide +kernel
theorem dX4_newName_27 : decode cX4_newName 27 = .ok (.if_icmp .ne 18, 3) := by decide +kernel
theorem dX4_newName_30 : decode cX4_newName 30 = .ok (.aload_n 0, 1) := by decide +kernel
theorem dX4_newName_31 : decode cX4_newName 31 = .ok (.getfield 22, 3) := by decide +kernel
theorem dX4_newName_34 : decode cX4_newName 34 = .ok (.aload_n 0, 1) := by decide +kernel
theorem dX4_newName_35 : decode cX4_newName 35 = .ok (.getfield 38, 3) := by decide +kernel
theorem dX4_newName_38 : decode cX4_newName 38 = .ok (.invokevirtual 196, 3) := by decide +kernel
theorem dX4_newName_41 : decode cX4_newName 41 = .ok (.iconst (-1), 1) := by decide +kernel
theorem dX4_newName_42 : decode cX4_newName 42 = .ok (.if_icmp .eq 8, 3) := by decide +kernel
theorem dX4_newName_45 : decode cX4_newName 45 = .ok (.aload_n 0, 1) := by decide +kernel
theorem dX4_newName_46 : decode cX4_newName 46 = .ok (.iconst 3, 1) := by decide +kernel
theorem dX4_newName_47 : decode cX4_newName 47 = .ok (.invokevirtual 86, 3) := by decide +kernel
theorem dX4_newName_50 : decode cX4_newName 50 = .ok (.aload_n 0, 1) := by decide +kernel
theorem dX4_newName_51 : decode cX4_newName 51 = .ok (.getfield 38, 3) := by decide +kernel
theorem dX4_newName_54 : decode cX4_newName 54 = .ok (.lstore_n 1, 1) := by decide +kernel
theorem dX4_newName_55 : decode cX4_newName 55 = .ok (.aload_n 0, 1) := by decide +kernel
theorem dX4_newName_56 : decode cX4_newName 56 = .ok (.invokevirtual 64, 3) := by decide +kernel
theorem dX4_newName_59 : decode cX4_newName 59 = .ok (.lload_n 1, 1) := by decide +kernel
theorem dX4_newName_60 : decode cX4_newName 60 = .ok (.lreturn, 1) := by decide +kernel
theorem dX4_knownEnd_0 : decode cX4_knownEnd 0 = .ok (.aload_n 0, 1) := by decide +kernel
theorem dX4_knownEnd_1 : decode cX4_knownEnd 1 = .ok (.getfield 22, 3) := by decide +kernel
theorem dX4_knownEnd_4 : decode cX4_knownEnd 4 = .ok (.aload_n 0, 1) := by decide +kernel
theorem dX4_knownEnd_5 : decode cX4_knownEnd 5 = .ok (.getfield 38, 3) := by decide +kernel
theorem dX4_knownEnd_8 : decode cX4_knownEnd 8 = .ok (.invokevirtual 192, 3) := by decide +kernel
theorem dX4_knownEnd_11 : decode cX4_knownEnd 11 = .ok (.istore_n 1, 1) := by decide +kernel
theorem dX4_knownEnd_12 : decode cX4_knownEnd 12 = .ok (.aload_n 0, 1) := by decide +kernel
theorem dX4_knownEnd_13 : decode cX4_knownEnd 13 = .ok (.invokevirtual 188, 3) := by decide +kernel
theorem dX4_knownEnd_16 : decode cX4_knownEnd 16 = .ok (.ifCond .ne 11, 3) := by decide +kernel
theorem dX4_knownEnd_19 : decode cX4_knownEnd 19 = .ok (.aload_n 0, 1) := by decide +kernel
theorem dX4_knownEnd_20 : decode cX4_knownEnd 20 = .ok (.iconst 1, 1) := by decide +kernel
theorem dX4_knownEnd_21 : decode cX4_knownEnd 21 = .ok (.invokevirtual 86, 3) := by decide +kernel
theorem dX4_knownEnd_24 : decode cX4_knownEnd 24 = .ok (.goto 13, 3) := by decide +kernel
theorem dX4_knownEnd_27 : decode cX4_knownEnd 27 = .ok (.iload_n 1, 1) := by decide +kernel
theorem dX4_knownEnd_28 : decode cX4_knownEnd 28 = .ok (.iconst (-1), 1) := by decide +kernel
theorem dX4_knownEnd_29 : decode cX4_knownEnd 29 = .ok (.if_icmp .ne 8, 3) := by decide +kernel
theorem dX4_knownEnd_32 : decode cX4_knownEnd 32 = .ok (.aload_n 0, 1) := by decide +kernel
theorem dX4_knownEnd_33 : decode cX4_knownEnd 33 = .ok (.iconst 2, 1) := by decide +kernel
theorem dX4_knownEnd_34 : decode cX4_knownEnd 34 = .ok (.invokevirtual 86, 3) := by decide +kernel
theorem dX4_knownEnd_37 : decode cX4_knownEnd 37 = .ok (.aload_n 0, 1) := by decide +kernel
theorem dX4_knownEnd_38 : decode cX4_knownEnd 38 = .ok (.invokevirtual 64, 3) := by decide +kernel
theorem dX4_knownEnd_41 : decode cX4_knownEnd 41 = .ok (.iload_n 1, 1) := by decide +kernel
theorem dX4_knownEnd_42 : decode cX4_knownEnd 42 = .ok (.ireturn, 1) := by decide +kernel
theorem dX4_wholeWithin_0 : decode cX4_wholeWithin 0 = .ok (.aload_n 0, 1) := by decide +kernel
theorem dX4_wholeWithin_1 : decode cX4_wholeWithin 1 = .ok (.aload_n 0, 1) := by decide +kernel
theorem dX4_wholeWithin_2 : decode cX4_wholeWithin 2 = .ok (.getfield 42, 3) := by decide +kernel
theorem dX4_wholeWithin_5 : decode cX4_wholeWithin 5 = .ok (.iload_n 1, 1) := by decide +kernel
theorem dX4_wholeWithin_6 : decode cX4_wholeWithin 6 = .ok (.if_icmp .lt 15, 3) := by decide +kernel
theorem dX4_wholeWithin_9 : decode cX4_wholeWithin 9 = .ok (.aload_n 0, 1) := by decide +kernel
theorem dX4_wholeWithin_10 : decode cX4_wholeWithin 10 = .ok (.getfield 42, 3) := by decide +kernel
theorem dX4_wholeWithin_13 : decode cX4_wholeWithin 13 = .ok (.iload_n 2, 1) := by decide +kernel
theorem dX4_wholeWithin_14 : decode cX4_wholeWithin 14 = .ok (.if_icmp .gt 7, 3) := by decide +kernel
theorem dX4_wholeWithin_17 : decode cX4_wholeWithin 17 = .ok (.iconst 1, 1) := by decide +kernel
theorem dX4_wholeWithin_18 : decode cX4_wholeWithin 18 = .ok (.goto 4, 3) := by decide +kernel
theorem dX4_wholeWithin_21 : decode cX4_wholeWithin 21 = .ok (.iconst 0, 1) := by decide +kernel
theorem dX4_wholeWithin_22 : decode cX4_wholeWithin 22 = .ok (.invokevirtual 199, 3) := by decide +kernel
theorem dX4_wholeWithin_25 : decode cX4_wholeWithin 25 = .ok (.ireturn, 1) := by decide +kernel
theorem dX4_wholeGap_0 : decode cX4_wholeGap 0 = .ok (.aload_n 0, 1) := by decide +kernel
theorem dX4_wholeGap_1 : decode cX4_wholeGap 1 = .ok (.aload_n 0, 1) := by decide +kernel
theorem dX4_wholeGap_2 : decode cX4_wholeGap 2 = .ok (.getfield 42, 3) := by decide +kernel
theorem dX4_wholeGap_5 : decode cX4_wholeGap 5 = .ok (.bipush 8, 2) := by decide +kernel
theorem dX4_wholeGap_7 : decode cX4_wholeGap 7 = .ok (.if_icmp .lt 28, 3) := by decide +kernel
theorem dX4_wholeGap_10 : decode cX4_wholeGap 10 = .ok (.aload_n 0, 1) := by decide +kernel
theorem dX4_wholeGap_11 : decode cX4_wholeGap 11 = .ok (.getfield 42, 3) := by decide +kernel
theorem dX4_wholeGap_14 : decode cX4_wholeGap 14 = .ok (.sipush 256, 3) := by decide +kernel
theorem dX4_wholeGap_17 : decode cX4_wholeGap 17 = .ok (.if_icmp .gt 18, 3) := by decide +kernel
theorem dX4_wholeGap_20 : decode cX4_wholeGap 20 = .ok (.aload_n 0, 1) := by decide +kernel
theorem dX4_wholeGap_21 : decode cX4_wholeGap 21 = .ok (.getfield 42, 3) := by decide +kernel
theorem dX4_wholeGap_24 : decode cX4_wholeGap 24 = .ok (.invokestatic 203, 3) := by decide +kernel
theorem dX4_wholeGap_27 : decode cX4_wholeGap 27 = .ok (.iconst 1, 1) := by decide +kernel
theorem dX4_wholeGap_28 : decode cX4_wholeGap 28 = .ok (.if_icmp .ne 7, 3) := by decide +kernel
theorem dX4_wholeGap_31 : decode cX4_wholeGap 31 = .ok (.iconst 1, 1) := by decide +kernel
theorem dX4_wholeGap_32 : decode cX4_wholeGap 32 = .ok (.goto 4, 3) := by decide +kernel
theorem dX4_wholeGap_35 : decode cX4_wholeGap 35 = .ok (.iconst 0, 1) := by decide +kernel
theorem dX4_wholeGap_36 : decode cX4_wholeGap 36 = .ok (.invokevirtual 199, 3) := by decide +kernel
theorem dX4_wholeGap_39 : decode cX4_wholeGap 39 = .ok (.ireturn, 1) := by decide +kernel
theorem dX4_checkedWhole_0 : decode cX4_checkedWhole 0 = .ok (.aload_n 0, 1) := by decide +kernel
theorem dX4_checkedWhole_1 : decode cX4_checkedWhole 1 = .ok (.getfield 35, 3) := by decide +kernel
theorem dX4_checkedWhole_4 : decode cX4_checkedWhole 4 = .ok (.iconst 2, 1) := by decide +kernel
theorem dX4_checkedWhole_5 : decode cX4_checkedWhole 5 = .ok (.if_icmp .eq 11, 3) := by decide +kernel
theorem dX4_checkedWhole_8 : decode cX4_checkedWhole 8 = .ok (.aload_n 0, 1) := by decide +kernel
theorem dX4_checkedWhole_9 : decode cX4_checkedWhole 9 = .ok (.iconst 1, 1) := by decide +kernel
theorem dX4_checkedWhole_10 : decode cX4_checkedWhole 10 = .ok (.invokevirtual 86, 3) := by decide +kernel
theorem dX4_checkedWhole_13 : decode cX4_checkedWhole 13 = .ok (.goto 12, 3) := by decide +kernel
theorem dX4_checkedWhole_16 : decode cX4_checkedWhole 16 = .ok (.iload_n 1, 1) := by decide +kernel
theorem dX4_checkedWhole_17 : decode cX4_checkedWhole 17 = .ok (.ifCond .ne 8, 3) := by decide +kernel
theorem dX4_checkedWhole_20 : decode cX4_checkedWhole 20 = .ok (.aload_n 0, 1) := by decide +kernel
theorem dX4_checkedWhole_21 : decode cX4_checkedWhole 21 = .ok (.iconst 4, 1) := by decide +kernel
theorem dX4_checkedWhole_22 : decode cX4_checkedWhole 22 = .ok (.invokevirtual 86, 3) := by decide +kernel
theorem dX4_checkedWhole_25 : decode cX4_checkedWhole 25 = .ok (.aload_n 0, 1) := by decide +kernel
theorem dX4_checkedWhole_26 : decode cX4_checkedWhole 26 = .ok (.getfield 42, 3) := by decide +kernel
theorem dX4_checkedWhole_29 : decode cX4_checkedWhole 29 = .ok (.istore_n 2, 1) := by decide +kernel
theorem dX4_checkedWhole_30 : decode cX4_checkedWhole 30 = .ok (.aload_n 0, 1) := by decide +kernel
theorem dX4_checkedWhole_31 : decode cX4_checkedWhole 31 = .ok (.invokevirtual 64, 3) := by decide +kernel
theorem dX4_checkedWhole_34 : decode cX4_checkedWhole 34 = .ok (.iload_n 2, 1) := by decide +kernel
theorem dX4_checkedWhole_35 : decode cX4_checkedWhole 35 = .ok (.ireturn, 1) := by decide +kernel
theorem dX4_step_0 : decode cX4_step 0 = .ok (.aload_n 0, 1) := by decide +kernel
theorem dX4_step_1 : decode cX4_step 1 = .ok (.getfield 49, 3) := by decide +kernel
theorem dX4_step_4 : decode cX4_step 4 = .ok (.ifCond .eq 4, 3) := by decide +kernel
theorem dX4_step_7 : decode cX4_step 7 = .ok (.return_, 1) := by decide +kernel
theorem dX4_step_8 : decode cX4_step 8 = .ok (.aload_n 0, 1) := by decide +kernel
theorem dX4_step_9 : decode cX4_step 9 = .ok (.aload_n 0, 1) := by decide +kernel
theorem dX4_step_10 : decode cX4_step 10 = .ok (.getfield 32, 3) := by decide +kernel
theorem dX4_step_13 : decode cX4_step 13 = .ok (.putfield 29, 3) := by decide +kernel
theorem dX4_step_16 : decode cX4_step 16 = .ok (.aload_n 0, 1) := by decide +kernel
theorem dX4_step_17 : decode cX4_step 17 = .ok (.getfield 29, 3) := by decide +kernel
theorem dX4_step_20 : decode cX4_step 20 = .ok (.aload_n 0, 1) := by decide +kernel
theorem dX4_step_21 : decode cX4_step 21 = .ok (.getfield 26, 3) := by decide +kernel
theorem dX4_step_24 : decode cX4_step 24 = .ok (.if_icmp .ge 30, 3) := by decide +kernel
theorem dX4_step_27 : decode cX4_step 27 = .ok (.aload_n 0, 1) := by decide +kernel
theorem dX4_step_28 : decode cX4_step 28 = .ok (.getfield 9, 3) := by decide +kernel
theorem dX4_step_31 : decode cX4_step 31 = .ok (.aload_n 0, 1) := by decide +kernel
theorem dX4_step_32 : decode cX4_step 32 = .ok (.getfield 29, 3) := by decide +kernel
theorem dX4_step_35 : decode cX4_step 35 = .ok (.baload, 1) := by decide +kernel
theorem dX4_step_36 : decode cX4_step 36 = .ok (.bipush 32, 2) := by decide +kernel
theorem dX4_step_38 : decode cX4_step 38 = .ok (.if_icmp .ne 16, 3) := by decide +kernel
theorem dX4_step_41 : decode cX4_step 41 = .ok (.aload_n 0, 1) := by decide +kernel
theorem dX4_step_42 : decode cX4_step 42 = .ok (.dup, 1) := by decide +kernel
theorem dX4_step_43 : decode cX4_step 43 = .ok (.getfield 29, 3) := by decide +kernel
theorem dX4_step_46 : decode cX4_step 46 = .ok (.iconst 1, 1) := by decide +kernel
theorem dX4_step_47 : decode cX4_step 47 = .ok (.iadd, 1) := by decide +kernel
theorem dX4_step_48 : decode cX4_step 48 = .ok (.putfield 29, 3) := by decide +kernel
theorem dX4_step_51 : decode cX4_step 51 = .ok (.goto (-35), 3) := by decide +kernel
theorem dX4_step_54 : decode cX4_step 54 = .ok (.aload_n 0, 1) := by decide +kernel
theorem dX4_step_55 : decode cX4_step 55 = .ok (.aload_n 0, 1) := by decide +kernel
theorem dX4_step_56 : decode cX4_step 56 = .ok (.getfield 29, 3) := by decide +kernel
theorem dX4_step_59 : decode cX4_step 59 = .ok (.putfield 32, 3) := by decide +kernel
theorem dX4_step_62 : decode cX4_step 62 = .ok (.aload_n 0, 1) := by decide +kernel
theorem dX4_step_63 : decode cX4_step 63 = .ok (.getfield 29, 3) := by decide +kernel
theorem dX4_step_66 : decode cX4_step 66 = .ok (.aload_n 0, 1) := by decide +kernel
theorem dX4_step_67 : decode cX4_step 67 = .ok (.getfield 26, 3) := by decide +kernel
theorem dX4_step_70 : decode cX4_step 70 = .ok (.if_icmp .lt 11, 3) := by decide +kernel
theorem dX4_step_73 : decode cX4_step 73 = .ok (.aload_n 0, 1) := by decide +kernel
theorem dX4_step_74 : decode cX4_step 74 = .ok (.iconst 0, 1) := by decide +kernel
theorem dX4_step_75 : decode cX4_step 75 = .ok (.putfield 35, 3) := by decide +kernel
theorem dX4_step_78 : decode cX4_step 78 = .ok (.goto 84, 3) := by decide +kernel
theorem dX4_step_81 : decode cX4_step 81 = .ok (.aload_n 0, 1) := by decide +kernel
theorem dX4_step_82 : decode cX4_step 82 = .ok (.getfield 9, 3) := by decide +kernel
theorem dX4_step_85 : decode cX4_step 85 = .ok (.aload_n 0, 1) := by decide +kernel
theorem dX4_step_86 : decode cX4_step 86 = .ok (.getfield 29, 3) := by decide +kernel
theorem dX4_step_89 : decode cX4_step 89 = .ok (.baload, 1) := by decide +kernel
theorem dX4_step_90 : decode cX4_step 90 = .ok (.bipush 59, 2) := by decide +kernel
theorem dX4_step_92 : decode cX4_step 92 = .ok (.if_icmp .ne 21, 3) := by decide +kernel
theorem dX4_step_95 : decode cX4_step 95 = .ok (.aload_n 0, 1) := by decide +kernel
theorem dX4_step_96 : decode cX4_step 96 = .ok (.iconst 3, 1) := by decide +kernel
theorem dX4_step_97 : decode cX4_step 97 = .ok (.putfield 35, 3) := by decide +kernel
theorem dX4_step_100 : decode cX4_step 100 = .ok (.aload_n 0, 1) := by decide +kernel
theorem dX4_step_101 : decode cX4_step 101 = .ok (.aload_n 0, 1) := by decide +kernel
theorem dX4_step_102 : decode cX4_step 102 = .ok (.getfield 29, 3) := by decide +kernel
theorem dX4_step_105 : decode cX4_step 105 = .ok (.iconst 1, 1) := by decide +kernel
theorem dX4_step_106 : decode cX4_step 106 = .ok (.iadd, 1) := by decide +kernel
theorem dX4_step_107 : decode cX4_step 107 = .ok (.putfield 32, 3) := by decide +kernel
theorem dX4_step_110 : decode cX4_step 110 = .ok (.goto 52, 3) := by decide +kernel
theorem dX4_step_113 : decode cX4_step 113 = .ok (.aload_n 0, 1) := by decide +kernel
theorem dX4_step_114 : decode cX4_step 114 = .ok (.getfield 9, 3) := by decide +kernel
theorem dX4_step_117 : decode cX4_step 117 = .ok (.aload_n 0, 1) := by decide +kernel
theorem dX4_step_118 : decode cX4_step 118 = .ok (.getfield 29, 3) := by decide +kernel
theorem dX4_step_121 : decode cX4_step 121 = .ok (.baload, 1) := by decide +kernel
theorem dX4_step_122 : decode cX4_step 122 = .ok (.invokestatic 209, 3) := by decide +kernel
theorem dX4_step_125 : decode cX4_step 125 = .ok (.ifCond .eq 10, 3) := by decide +kernel
theorem dX4_step_128 : decode cX4_step 128 = .ok (.aload_n 0, 1) := by decide +kernel
theorem dX4_step_129 : decode cX4_step 129 = .ok (.invokevirtual 213, 3) := by decide +kernel
theorem dX4_step_132 : decode cX4_step 132 = .ok (.goto 30, 3) := by decide +kernel
theorem dX4_step_135 : decode cX4_step 135 = .ok (.aload_n 0, 1) := by decide +kernel
theorem dX4_step_136 : decode cX4_step 136 = .ok (.getfield 9, 3) := by decide +kernel
theorem dX4_step_139 : decode cX4_step 139 = .ok (.aload_n 0, 1) := by decide +kernel
theorem dX4_step_140 : decode cX4_step 140 = .ok (.getfield 29, 3) := by decide +kernel
theorem dX4_step_143 : decode cX4_step 143 = .ok (.baload, 1) := by decide +kernel
theorem dX4_step_144 : decode cX4_step 144 = .ok (.invokestatic 216, 3) := by decide +kernel
theorem dX4_step_147 : decode cX4_step 147 = .ok (.ifCond .eq 10, 3) := by decide +kernel
theorem dX4_step_150 : decode cX4_step 150 = .ok (.aload_n 0, 1) := by decide +kernel
theorem dX4_step_151 : decode cX4_step 151 = .ok (.invokevirtual 219, 3) := by decide +kernel
theorem dX4_step_154 : decode cX4_step 154 = .ok (.goto 8, 3) := by decide +kernel
theorem dX4_step_157 : decode cX4_step 157 = .ok (.aload_n 0, 1) := by decide +kernel
theorem dX4_step_158 : decode cX4_step 158 = .ok (.iconst 4, 1) := by decide +kernel
theorem dX4_step_159 : decode cX4_step 159 = .ok (.putfield 35, 3) := by decide +kernel
theorem dX4_step_162 : decode cX4_step 162 = .ok (.return_, 1) := by decide +kernel
theorem dX4_stepWord_0 : decode cX4_stepWord 0 = .ok (.aload_n 0, 1) := by decide +kernel
theorem dX4_stepWord_1 : decode cX4_stepWord 1 = .ok (.lconst 0, 1) := by decide +kernel
theorem dX4_stepWord_2 : decode cX4_stepWord 2 = .ok (.putfield 38, 3) := by decide +kernel
theorem dX4_stepWord_5 : decode cX4_stepWord 5 = .ok (.aload_n 0, 1) := by decide +kernel
theorem dX4_stepWord_6 : decode cX4_stepWord 6 = .ok (.getfield 32, 3) := by decide +kernel
theorem dX4_stepWord_9 : decode cX4_stepWord 9 = .ok (.aload_n 0, 1) := by decide +kernel
theorem dX4_stepWord_10 : decode cX4_stepWord 10 = .ok (.getfield 26, 3) := by decide +kernel
theorem dX4_stepWord_13 : decode cX4_stepWord 13 = .ok (.if_icmp .ge 53, 3) := by decide +kernel
theorem dX4_stepWord_16 : decode cX4_stepWord 16 = .ok (.aload_n 0, 1) := by decide +kernel
theorem dX4_stepWord_17 : decode cX4_stepWord 17 = .ok (.getfield 9, 3) := by decide +kernel
theorem dX4_stepWord_20 : decode cX4_stepWord 20 = .ok (.aload_n 0, 1) := by decide +kernel
theorem dX4_stepWord_21 : decode cX4_stepWord 21 = .ok (.getfield 32, 3) := by decide +kernel
theorem dX4_stepWord_24 : decode cX4_stepWord 24 = .ok (.baload, 1) := by decide +kernel
theorem dX4_stepWord_25 : decode cX4_stepWord 25 = .ok (.invokestatic 209, 3) := by decide +kernel
theorem dX4_stepWord_28 : decode cX4_stepWord 28 = .ok (.ifCond .eq 38, 3) := by decide +kernel
theorem dX4_stepWord_31 : decode cX4_stepWord 31 = .ok (.aload_n 0, 1) := by decide +kernel
theorem dX4_stepWord_32 : decode cX4_stepWord 32 = .ok (.aload_n 0, 1) := by decide +kernel
theorem dX4_stepWord_33 : decode cX4_stepWord 33 = .ok (.getfield 38, 3) := by decide +kernel
theorem dX4_stepWord_36 : decode cX4_stepWord 36 = .ok (.bipush 8, 2) := by decide +kernel
theorem dX4_stepWord_38 : decode cX4_stepWord 38 = .ok (.lshl, 1) := by decide +kernel
theorem dX4_stepWord_39 : decode cX4_stepWord 39 = .ok (.aload_n 0, 1) := by decide +kernel
theorem dX4_stepWord_40 : decode cX4_stepWord 40 = .ok (.getfield 9, 3) := by decide +kernel
theorem dX4_stepWord_43 : decode cX4_stepWord 43 = .ok (.aload_n 0, 1) := by decide +kernel
theorem dX4_stepWord_44 : decode cX4_stepWord 44 = .ok (.getfield 32, 3) := by decide +kernel
theorem dX4_stepWord_47 : decode cX4_stepWord 47 = .ok (.baload, 1) := by decide +kernel
theorem dX4_stepWord_48 : decode cX4_stepWord 48 = .ok (.i2l, 1) := by decide +kernel
theorem dX4_stepWord_49 : decode cX4_stepWord 49 = .ok (.lor, 1) := by decide +kernel
theorem dX4_stepWord_50 : decode cX4_stepWord 50 = .ok (.putfield 38, 3) := by decide +kernel
theorem dX4_stepWord_53 : decode cX4_stepWord 53 = .ok (.aload_n 0, 1) := by decide +kernel
theorem dX4_stepWord_54 : decode cX4_stepWord 54 = .ok (.dup, 1) := by decide +kernel
theorem dX4_stepWord_55 : decode cX4_stepWord 55 = .ok (.getfield 32, 3) := by decide +kernel
theorem dX4_stepWord_58 : decode cX4_stepWord 58 = .ok (.iconst 1, 1) := by decide +kernel
theorem dX4_stepWord_59 : decode cX4_stepWord 59 = .ok (.iadd, 1) := by decide +kernel
theorem dX4_stepWord_60 : decode cX4_stepWord 60 = .ok (.putfield 32, 3) := by decide +kernel
theorem dX4_stepWord_63 : decode cX4_stepWord 63 = .ok (.goto (-58), 3) := by decide +kernel
theorem dX4_stepWord_66 : decode cX4_stepWord 66 = .ok (.aload_n 0, 1) := by decide +kernel
theorem dX4_stepWord_67 : decode cX4_stepWord 67 = .ok (.getfield 32, 3) := by decide +kernel
theorem dX4_stepWord_70 : decode cX4_stepWord 70 = .ok (.aload_n 0, 1) := by decide +kernel
theorem dX4_stepWord_71 : decode cX4_stepWord 71 = .ok (.getfield 29, 3) := by decide +kernel
theorem dX4_stepWord_74 : decode cX4_stepWord 74 = .ok (.isub, 1) := by decide +kernel
theorem dX4_stepWord_75 : decode cX4_stepWord 75 = .ok (.istore_n 1, 1) := by decide +kernel
theorem dX4_stepWord_76 : decode cX4_stepWord 76 = .ok (.iload_n 1, 1) := by decide +kernel
theorem dX4_stepWord_77 : decode cX4_stepWord 77 = .ok (.bipush 8, 2) := by decide +kernel
theorem dX4_stepWord_79 : decode cX4_stepWord 79 = .ok (.if_icmp .ge 24, 3) := by decide +kernel
theorem dX4_stepWord_82 : decode cX4_stepWord 82 = .ok (.aload_n 0, 1) := by decide +kernel
theorem dX4_stepWord_83 : decode cX4_stepWord 83 = .ok (.aload_n 0, 1) := by decide +kernel
theorem dX4_stepWord_84 : decode cX4_stepWord 84 = .ok (.getfield 38, 3) := by decide +kernel
theorem dX4_stepWord_87 : decode cX4_stepWord 87 = .ok (.bipush 8, 2) := by decide +kernel
theorem dX4_stepWord_89 : decode cX4_stepWord 89 = .ok (.lshl, 1) := by decide +kernel
theorem dX4_stepWord_90 : decode cX4_stepWord 90 = .ok (.ldc2_w 222, 3) := by decide +kernel
theorem dX4_stepWord_93 : decode cX4_stepWord 93 = .ok (.lor, 1) := by decide +kernel
theorem dX4_stepWord_94 : decode cX4_stepWord 94 = .ok (.putfield 38, 3) := by decide +kernel
theorem dX4_stepWord_97 : decode cX4_stepWord 97 = .ok (.iinc 1 1, 3) := by decide +kernel
theorem dX4_stepWord_100 : decode cX4_stepWord 100 = .ok (.goto (-24), 3) := by decide +kernel
theorem dX4_stepWord_103 : decode cX4_stepWord 103 = .ok (.aload_n 0, 1) := by decide +kernel
theorem dX4_stepWord_104 : decode cX4_stepWord 104 = .ok (.aload_n 0, 1) := by decide +kernel
theorem dX4_stepWord_105 : decode cX4_stepWord 105 = .ok (.getfield 32, 3) := by decide +kernel
theorem dX4_stepWord_108 : decode cX4_stepWord 108 = .ok (.aload_n 0, 1) := by decide +kernel
theorem dX4_stepWord_109 : decode cX4_stepWord 109 = .ok (.getfield 29, 3) := by decide +kernel
theorem dX4_stepWord_112 : decode cX4_stepWord 112 = .ok (.isub, 1) := by decide +kernel
theorem dX4_stepWord_113 : decode cX4_stepWord 113 = .ok (.bipush 8, 2) := by decide +kernel
theorem dX4_stepWord_115 : decode cX4_stepWord 115 = .ok (.if_icmp .gt 7, 3) := by decide +kernel
theorem dX4_stepWord_118 : decode cX4_stepWord 118 = .ok (.iconst 1, 1) := by decide +kernel
theorem dX4_stepWord_119 : decode cX4_stepWord 119 = .ok (.goto 4, 3) := by decide +kernel
theorem dX4_stepWord_122 : decode cX4_stepWord 122 = .ok (.iconst 4, 1) := by decide +kernel
theorem dX4_stepWord_123 : decode cX4_stepWord 123 = .ok (.putfield 35, 3) := by decide +kernel
theorem dX4_stepWord_126 : decode cX4_stepWord 126 = .ok (.return_, 1) := by decide +kernel
theorem dX4_stepWhole_0 : decode cX4_stepWhole 0 = .ok (.aload_n 0, 1) := by decide +kernel
theorem dX4_stepWhole_1 : decode cX4_stepWhole 1 = .ok (.iconst 0, 1) := by decide +kernel
theorem dX4_stepWhole_2 : decode cX4_stepWhole 2 = .ok (.putfield 42, 3) := by decide +kernel
theorem dX4_stepWhole_5 : decode cX4_stepWhole 5 = .ok (.aload_n 0, 1) := by decide +kernel
theorem dX4_stepWhole_6 : decode cX4_stepWhole 6 = .ok (.getfield 32, 3) := by decide +kernel
theorem dX4_stepWhole_9 : decode cX4_stepWhole 9 = .ok (.aload_n 0, 1) := by decide +kernel
theorem dX4_stepWhole_10 : decode cX4_stepWhole 10 = .ok (.getfield 26, 3) := by decide +kernel
theorem dX4_stepWhole_13 : decode cX4_stepWhole 13 = .ok (.if_icmp .ge 55, 3) := by decide +kernel
theorem dX4_stepWhole_16 : decode cX4_stepWhole 16 = .ok (.aload_n 0, 1) := by decide +kernel
theorem dX4_stepWhole_17 : decode cX4_stepWhole 17 = .ok (.getfield 9, 3) := by decide +kernel
theorem dX4_stepWhole_20 : decode cX4_stepWhole 20 = .ok (.aload_n 0, 1) := by decide +kernel
theorem dX4_stepWhole_21 : decode cX4_stepWhole 21 = .ok (.getfield 32, 3) := by decide +kernel
theorem dX4_stepWhole_24 : decode cX4_stepWhole 24 = .ok (.baload, 1) := by decide +kernel
theorem dX4_stepWhole_25 : decode cX4_stepWhole 25 = .ok (.invokestatic 216, 3) := by decide +kernel
theorem dX4_stepWhole_28 : decode cX4_stepWhole 28 = .ok (.ifCond .eq 40, 3) := by decide +kernel
theorem dX4_stepWhole_31 : decode cX4_stepWhole 31 = .ok (.aload_n 0, 1) := by decide +kernel
theorem dX4_stepWhole_32 : decode cX4_stepWhole 32 = .ok (.aload_n 0, 1) := by decide +kernel
theorem dX4_stepWhole_33 : decode cX4_stepWhole 33 = .ok (.getfield 42, 3) := by decide +kernel
theorem dX4_stepWhole_36 : decode cX4_stepWhole 36 = .ok (.bipush 10, 2) := by decide +kernel
theorem dX4_stepWhole_38 : decode cX4_stepWhole 38 = .ok (.imul, 1) := by decide +kernel
theorem dX4_stepWhole_39 : decode cX4_stepWhole 39 = .ok (.aload_n 0, 1) := by decide +kernel
theorem dX4_stepWhole_40 : decode cX4_stepWhole 40 = .ok (.getfield 9, 3) := by decide +kernel
theorem dX4_stepWhole_43 : decode cX4_stepWhole 43 = .ok (.aload_n 0, 1) := by decide +kernel
theorem dX4_stepWhole_44 : decode cX4_stepWhole 44 = .ok (.getfield 32, 3) := by decide +kernel
theorem dX4_stepWhole_47 : decode cX4_stepWhole 47 = .ok (.baload, 1) := by decide +kernel
theorem dX4_stepWhole_48 : decode cX4_stepWhole 48 = .ok (.bipush 48, 2) := by decide +kernel
theorem dX4_stepWhole_50 : decode cX4_stepWhole 50 = .ok (.isub, 1) := by decide +kernel
theorem dX4_stepWhole_51 : decode cX4_stepWhole 51 = .ok (.iadd, 1) := by decide +kernel
theorem dX4_stepWhole_52 : decode cX4_stepWhole 52 = .ok (.putfield 42, 3) := by decide +kernel
theorem dX4_stepWhole_55 : decode cX4_stepWhole 55 = .ok (.aload_n 0, 1) := by decide +kernel
theorem dX4_stepWhole_56 : decode cX4_stepWhole 56 = .ok (.dup, 1) := by decide +kernel
theorem dX4_stepWhole_57 : decode cX4_stepWhole 57 = .ok (.getfield 32, 3) := by decide +kernel
theorem dX4_stepWhole_60 : decode cX4_stepWhole 60 = .ok (.iconst 1, 1) := by decide +kernel
theorem dX4_stepWhole_61 : decode cX4_stepWhole 61 = .ok (.iadd, 1) := by decide +kernel
theorem dX4_stepWhole_62 : decode cX4_stepWhole 62 = .ok (.putfield 32, 3) := by decide +kernel
theorem dX4_stepWhole_65 : decode cX4_stepWhole 65 = .ok (.goto (-60), 3) := by decide +kernel
theorem dX4_stepWhole_68 : decode cX4_stepWhole 68 = .ok (.aload_n 0, 1) := by decide +kernel
theorem dX4_stepWhole_69 : decode cX4_stepWhole 69 = .ok (.aload_n 0, 1) := by decide +kernel
theorem dX4_stepWhole_70 : decode cX4_stepWhole 70 = .ok (.getfield 32, 3) := by decide +kernel
theorem dX4_stepWhole_73 : decode cX4_stepWhole 73 = .ok (.aload_n 0, 1) := by decide +kernel
theorem dX4_stepWhole_74 : decode cX4_stepWhole 74 = .ok (.getfield 29, 3) := by decide +kernel
theorem dX4_stepWhole_77 : decode cX4_stepWhole 77 = .ok (.isub, 1) := by decide +kernel
theorem dX4_stepWhole_78 : decode cX4_stepWhole 78 = .ok (.iconst 3, 1) := by decide +kernel
theorem dX4_stepWhole_79 : decode cX4_stepWhole 79 = .ok (.if_icmp .gt 7, 3) := by decide +kernel
theorem dX4_stepWhole_82 : decode cX4_stepWhole 82 = .ok (.iconst 2, 1) := by decide +kernel
theorem dX4_stepWhole_83 : decode cX4_stepWhole 83 = .ok (.goto 4, 3) := by decide +kernel
theorem dX4_stepWhole_86 : decode cX4_stepWhole 86 = .ok (.iconst 4, 1) := by decide +kernel
theorem dX4_stepWhole_87 : decode cX4_stepWhole 87 = .ok (.putfield 35, 3) := by decide +kernel
theorem dX4_stepWhole_90 : decode cX4_stepWhole 90 = .ok (.return_, 1) := by decide +kernel
theorem dX4_isLetter_0 : decode cX4_isLetter 0 = .ok (.iload_n 0, 1) := by decide +kernel
theorem dX4_isLetter_1 : decode cX4_isLetter 1 = .ok (.bipush 97, 2) := by decide +kernel
theorem dX4_isLetter_3 : decode cX4_isLetter 3 = .ok (.if_icmp .lt 13, 3) := by decide +kernel
theorem dX4_isLetter_6 : decode cX4_isLetter 6 = .ok (.iload_n 0, 1) := by decide +kernel
theorem dX4_isLetter_7 : decode cX4_isLetter 7 = .ok (.bipush 122, 2) := by decide +kernel
theorem dX4_isLetter_9 : decode cX4_isLetter 9 = .ok (.if_icmp .gt 7, 3) := by decide +kernel
theorem dX4_isLetter_12 : decode cX4_isLetter 12 = .ok (.iconst 1, 1) := by decide +kernel
theorem dX4_isLetter_13 : decode cX4_isLetter 13 = .ok (.goto 4, 3) := by decide +kernel
theorem dX4_isLetter_16 : decode cX4_isLetter 16 = .ok (.iconst 0, 1) := by decide +kernel
theorem dX4_isLetter_17 : decode cX4_isLetter 17 = .ok (.ireturn, 1) := by decide +kernel
theorem dX4_isDigit_0 : decode cX4_isDigit 0 = .ok (.iload_n 0, 1) := by decide +kernel
theorem dX4_isDigit_1 : decode cX4_isDigit 1 = .ok (.bipush 48, 2) := by decide +kernel
theorem dX4_isDigit_3 : decode cX4_isDigit 3 = .ok (.if_icmp .lt 13, 3) := by decide +kernel
theorem dX4_isDigit_6 : decode cX4_isDigit 6 = .ok (.iload_n 0, 1) := by decide +kernel
theorem dX4_isDigit_7 : decode cX4_isDigit 7 = .ok (.bipush 57, 2) := by decide +kernel
theorem dX4_isDigit_9 : decode cX4_isDigit 9 = .ok (.if_icmp .gt 7, 3) := by decide +kernel
theorem dX4_isDigit_12 : decode cX4_isDigit 12 = .ok (.iconst 1, 1) := by decide +kernel
theorem dX4_isDigit_13 : decode cX4_isDigit 13 = .ok (.goto 4, 3) := by decide +kernel
theorem dX4_isDigit_16 : decode cX4_isDigit 16 = .ok (.iconst 0, 1) := by decide +kernel
theorem dX4_isDigit_17 : decode cX4_isDigit 17 = .ok (.ireturn, 1) := by decide +kernel
theorem dX5_init_0 : decode cX5_init 0 = .ok (.aload_n 0, 1) := by decide +kernel
theorem dX5_init_1 : decode cX5_init 1 = .ok (.invokespecial 3, 3) := by decide +kernel
theorem dX5_init_4 : decode cX5_init 4 = .ok (.aload_n 0, 1) := by decide +kernel
theorem dX5_init_5 : decode cX5_init 5 = .ok (.iconst 0, 1) := by decide +kernel
theorem dX5_init_6 : decode cX5_init 6 = .ok (.putfield 9, 3) := by decide +kernel
theorem dX5_init_9 : decode cX5_init 9 = .ok (.aload_n 0, 1) := by decide +kernel
theorem dX5_init_10 : decode cX5_init 10 = .ok (.iconst 2, 1) := by decide +kernel
theorem dX5_init_11 : decode cX5_init 11 = .ok (.newarray .int, 2) := by decide +kernel
theorem dX5_init_13 : decode cX5_init 13 = .ok (.putfield 15, 3) := by decide +kernel
theorem dX5_init_16 : decode cX5_init 16 = .ok (.aload_n 0, 1) := by decide +kernel
theorem dX5_init_17 : decode cX5_init 17 = .ok (.bipush 6, 2) := by decide +kernel
theorem dX5_init_19 : decode cX5_init 19 = .ok (.newarray .int, 2) := by decide +kernel
theorem dX5_init_21 : decode cX5_init 21 = .ok (.putfield 19, 3) := by decide +kernel
theorem dX5_init_24 : decode cX5_init 24 = .ok (.aload_n 0, 1) := by decide +kernel
theorem dX5_init_25 : decode cX5_init 25 = .ok (.bipush 8, 2) := by decide +kernel
theorem dX5_init_27 : decode cX5_init 27 = .ok (.newarray .int, 2) := by decide +kernel
theorem dX5_init_29 : decode cX5_init 29 = .ok (.putfield 22, 3) := by decide +kernel
theorem dX5_init_32 : decode cX5_init 32 = .ok (.aload_n 0, 1) := by decide +kernel
theorem dX5_init_33 : decode cX5_init 33 = .ok (.bipush 8, 2) := by decide +kernel
theorem dX5_init_35 : decode cX5_init 35 = .ok (.newarray .int, 2) := by decide +kernel
theorem dX5_init_37 : decode cX5_init 37 = .ok (.putfield 25, 3) := by decide +kernel
theorem dX5_init_40 : decode cX5_init 40 = .ok (.aload_n 0, 1) := by decide +kernel
theorem dX5_init_41 : decode cX5_init 41 = .ok (.bipush 8, 2) := by decide +kernel
theorem dX5_init_43 : decode cX5_init 43 = .ok (.newarray .int, 2) := by decide +kernel
theorem dX5_init_45 : decode cX5_init 45 = .ok (.putfield 28, 3) := by decide +kernel
theorem dX5_init_48 : decode cX5_init 48 = .ok (.aload_n 0, 1) := by decide +kernel
theorem dX5_init_49 : decode cX5_init 49 = .ok (.bipush 8, 2) := by decide +kernel
theorem dX5_init_51 : decode cX5_init 51 = .ok (.newarray .int, 2) := by decide +kernel
theorem dX5_init_53 : decode cX5_init 53 = .ok (.putfield 31, 3) := by decide +kernel
theorem dX5_init_56 : decode cX5_init 56 = .ok (.aload_n 0, 1) := by decide +kernel
theorem dX5_init_57 : decode cX5_init 57 = .ok (.bipush 8, 2) := by decide +kernel
theorem dX5_init_59 : decode cX5_init 59 = .ok (.newarray .int, 2) := by decide +kernel
theorem dX5_init_61 : decode cX5_init 61 = .ok (.putfield 34, 3) := by decide +kernel
theorem dX5_init_64 : decode cX5_init 64 = .ok (.aload_n 0, 1) := by decide +kernel
theorem dX5_init_65 : decode cX5_init 65 = .ok (.bipush 16, 2) := by decide +kernel
theorem dX5_init_67 : decode cX5_init 67 = .ok (.newarray .int, 2) := by decide +kernel
theorem dX5_init_69 : decode cX5_init 69 = .ok (.putfield 37, 3) := by decide +kernel
theorem dX5_init_72 : decode cX5_init 72 = .ok (.aload_n 0, 1) := by decide +kernel
theorem dX5_init_73 : decode cX5_init 73 = .ok (.bipush 16, 2) := by decide +kernel
theorem dX5_init_75 : decode cX5_init 75 = .ok (.newarray .int, 2) := by decide +kernel
theorem dX5_init_77 : decode cX5_init 77 = .ok (.putfield 40, 3) := by decide +kernel
theorem dX5_init_80 : decode cX5_init 80 = .ok (.aload_n 0, 1) := by decide +kernel
theorem dX5_init_81 : decode cX5_init 81 = .ok (.new 43, 3) := by decide +kernel
theorem dX5_init_84 : decode cX5_init 84 = .ok (.dup, 1) := by decide +kernel
theorem dX5_init_85 : decode cX5_init 85 = .ok (.invokespecial 45, 3) := by decide +kernel
theorem dX5_init_88 : decode cX5_init 88 = .ok (.putfield 46, 3) := by decide +kernel
theorem dX5_init_91 : decode cX5_init 91 = .ok (.aload_n 0, 1) := by decide +kernel
theorem dX5_init_92 : decode cX5_init 92 = .ok (.new 50, 3) := by decide +kernel
theorem dX5_init_95 : decode cX5_init 95 = .ok (.dup, 1) := by decide +kernel
theorem dX5_init_96 : decode cX5_init 96 = .ok (.invokespecial 52, 3) := by decide +kernel
theorem dX5_init_99 : decode cX5_init 99 = .ok (.putfield 53, 3) := by decide +kernel
theorem dX5_init_102 : decode cX5_init 102 = .ok (.return_, 1) := by decide +kernel
theorem dX5_beginWith_0 : decode cX5_beginWith 0 = .ok (.aload_n 0, 1) := by decide +kernel
theorem dX5_beginWith_1 : decode cX5_beginWith 1 = .ok (.iconst 0, 1) := by decide +kernel
theorem dX5_beginWith_2 : decode cX5_beginWith 2 = .ok (.putfield 9, 3) := by decide +kernel
theorem dX5_beginWith_5 : decode cX5_beginWith 5 = .ok (.aload_n 0, 1) := by decide +kernel
theorem dX5_beginWith_6 : decode cX5_beginWith 6 = .ok (.getfield 15, 3) := by decide +kernel
theorem dX5_beginWith_9 : decode cX5_beginWith 9 = .ok (.iconst 0, 1) := by decide +kernel
theorem dX5_beginWith_10 : decode cX5_beginWith 10 = .ok (.invokestatic 57, 3) := by decide +kernel
theorem dX5_beginWith_13 : decode cX5_beginWith 13 = .ok (.aload_n 0, 1) := by decide +kernel
theorem dX5_beginWith_14 : decode cX5_beginWith 14 = .ok (.getfield 19, 3) := by decide +kernel
theorem dX5_beginWith_17 : decode cX5_beginWith 17 = .ok (.iconst 0, 1) := by decide +kernel
theorem dX5_beginWith_18 : decode cX5_beginWith 18 = .ok (.invokestatic 57, 3) := by decide +kernel
theorem dX5_beginWith_21 : decode cX5_beginWith 21 = .ok (.aload_n 0, 1) := by decide +kernel
theorem dX5_beginWith_22 : decode cX5_beginWith 22 = .ok (.getfield 22, 3) := by decide +kernel
theorem dX5_beginWith_25 : decode cX5_beginWith 25 = .ok (.iconst 0, 1) := by decide +kernel
theorem dX5_beginWith_26 : decode cX5_beginWith 26 = .ok (.invokestatic 57, 3) := by decide +kernel
theorem dX5_beginWith_29 : decode cX5_beginWith 29 = .ok (.aload_n 0, 1) := by decide +kernel
theorem dX5_beginWith_30 : decode cX5_beginWith 30 = .ok (.getfield 25, 3) := by decide +kernel
theorem dX5_beginWith_33 : decode cX5_beginWith 33 = .ok (.iconst 0, 1) := by decide +kernel
theorem dX5_beginWith_34 : decode cX5_beginWith 34 = .ok (.invokestatic 57, 3) := by decide +kernel
theorem dX5_beginWith_37 : decode cX5_beginWith 37 = .ok (.aload_n 0, 1) := by decide +kernel
theorem dX5_beginWith_38 : decode cX5_beginWith 38 = .ok (.getfield 28, 3) := by decide +kernel
theorem dX5_beginWith_41 : decode cX5_beginWith 41 = .ok (.iconst 0, 1) := by decide +kernel
theorem dX5_beginWith_42 : decode cX5_beginWith 42 = .ok (.invokestatic 57, 3) := by decide +kernel
theorem dX5_beginWith_45 : decode cX5_beginWith 45 = .ok (.aload_n 0, 1) := by decide +kernel
theorem dX5_beginWith_46 : decode cX5_beginWith 46 = .ok (.getfield 31, 3) := by decide +kernel
theorem dX5_beginWith_49 : decode cX5_beginWith 49 = .ok (.iconst 0, 1) := by decide +kernel
theorem dX5_beginWith_50 : decode cX5_beginWith 50 = .ok (.invokestatic 57, 3) := by decide +kernel
theorem dX5_beginWith_53 : decode cX5_beginWith 53 = .ok (.aload_n 0, 1) := by decide +kernel
theorem dX5_beginWith_54 : decode cX5_beginWith 54 = .ok (.getfield 34, 3) := by decide +kernel
theorem dX5_beginWith_57 : decode cX5_beginWith 57 = .ok (.bipush (-2), 2) := by decide +kernel
theorem dX5_beginWith_59 : decode cX5_beginWith 59 = .ok (.invokestatic 57, 3) := by decide +kernel
theorem dX5_beginWith_62 : decode cX5_beginWith 62 = .ok (.aload_n 0, 1) := by decide +kernel
theorem dX5_beginWith_63 : decode cX5_beginWith 63 = .ok (.getfield 40, 3) := by decide +kernel
theorem dX5_beginWith_66 : decode cX5_beginWith 66 = .ok (.iconst 0, 1) := by decide +kernel
theorem dX5_beginWith_67 : decode cX5_beginWith 67 = .ok (.invokestatic 57, 3) := by decide +kernel
theorem dX5_beginWith_70 : decode cX5_beginWith 70 = .ok (.iconst 0, 1) := by decide +kernel
theorem dX5_beginWith_71 : decode cX5_beginWith 71 = .ok (.istore_n 2, 1) := by decide +kernel
theorem dX5_beginWith_72 : decode cX5_beginWith 72 = .ok (.iload_n 2, 1) := by decide +kernel
theorem dX5_beginWith_73 : decode cX5_beginWith 73 = .ok (.aload_n 1, 1) := by decide +kernel
theorem dX5_beginWith_74 : decode cX5_beginWith 74 = .ok (.getfield 63, 3) := by decide +kernel
theorem dX5_beginWith_77 : decode cX5_beginWith 77 = .ok (.if_icmp .ge 34, 3) := by decide +kernel
theorem dX5_beginWith_80 : decode cX5_beginWith 80 = .ok (.aload_n 0, 1) := by decide +kernel
theorem dX5_beginWith_81 : decode cX5_beginWith 81 = .ok (.getfield 37, 3) := by decide +kernel
theorem dX5_beginWith_84 : decode cX5_beginWith 84 = .ok (.iload_n 2, 1) := by decide +kernel
theorem dX5_beginWith_85 : decode cX5_beginWith 85 = .ok (.aload_n 1, 1) := by decide +kernel
theorem dX5_beginWith_86 : decode cX5_beginWith 86 = .ok (.iload_n 2, 1) := by decide +kernel
theorem dX5_beginWith_87 : decode cX5_beginWith 87 = .ok (.invokevirtual 68, 3) := by decide +kernel
theorem dX5_beginWith_90 : decode cX5_beginWith 90 = .ok (.iastore, 1) := by decide +kernel
theorem dX5_beginWith_91 : decode cX5_beginWith 91 = .ok (.aload_n 0, 1) := by decide +kernel
theorem dX5_beginWith_92 : decode cX5_beginWith 92 = .ok (.getfield 37, 3) := by decide +kernel
theorem dX5_beginWith_95 : decode cX5_beginWith 95 = .ok (.bipush 8, 2) := by decide +kernel
theorem dX5_beginWith_97 : decode cX5_beginWith 97 = .ok (.iload_n 2, 1) := by decide +kernel
theorem dX5_beginWith_98 : decode cX5_beginWith 98 = .ok (.iadd, 1) := by decide +kernel
theorem dX5_beginWith_99 : decode cX5_beginWith 99 = .ok (.aload_n 1, 1) := by decide +kernel
theorem dX5_beginWith_100 : decode cX5_beginWith 100 = .ok (.iload_n 2, 1) := by decide +kernel
theorem dX5_beginWith_101 : decode cX5_beginWith 101 = .ok (.invokevirtual 68, 3) := by decide +kernel
theorem dX5_beginWith_104 : decode cX5_beginWith 104 = .ok (.iastore, 1) := by decide +kernel
theorem dX5_beginWith_105 : decode cX5_beginWith 105 = .ok (.iinc 2 1, 3) := by decide +kernel
theorem dX5_beginWith_108 : decode cX5_beginWith 108 = .ok (.goto (-36), 3) := by decide +kernel
theorem dX5_beginWith_111 : decode cX5_beginWith 111 = .ok (.aload_n 0, 1) := by decide +kernel
theorem dX5_beginWith_112 : decode cX5_beginWith 112 = .ok (.getfield 46, 3) := by decide +kernel
theorem dX5_beginWith_115 : decode cX5_beginWith 115 = .ok (.invokevirtual 72, 3) := by decide +kernel
theorem dX5_beginWith_118 : decode cX5_beginWith 118 = .ok (.aload_n 0, 1) := by decide +kernel
theorem dX5_beginWith_119 : decode cX5_beginWith 119 = .ok (.getfield 53, 3) := by decide +kernel
theorem dX5_beginWith_122 : decode cX5_beginWith 122 = .ok (.invokevirtual 75, 3) := by decide +kernel
theorem dX5_beginWith_125 : decode cX5_beginWith 125 = .ok (.return_, 1) := by decide +kernel
theorem dX5_copy_0 : decode cX5_copy 0 = .ok (.aload_n 0, 1) := by decide +kernel
theorem dX5_copy_1 : decode cX5_copy 1 = .ok (.aload_n 1, 1) := by decide +kernel
theorem dX5_copy_2 : decode cX5_copy 2 = .ok (.getfield 9, 3) := by decide +kernel
theorem dX5_copy_5 : decode cX5_copy 5 = .ok (.putfield 9, 3) := by decide +kernel
theorem dX5_copy_8 : decode cX5_copy 8 = .ok (.aload_n 1, 1) := by decide +kernel
theorem dX5_copy_9 : decode cX5_copy 9 = .ok (.getfield 15, 3) := by decide +kernel
theorem dX5_copy_12 : decode cX5_copy 12 = .ok (.aload_n 0, 1) := by decide +kernel
theorem dX5_copy_13 : decode cX5_copy 13 = .ok (.getfield 15, 3) := by decide +kernel
theorem dX5_copy_16 : decode cX5_copy 16 = .ok (.invokestatic 76, 3) := by decide +kernel
theorem dX5_copy_19 : decode cX5_copy 19 = .ok (.aload_n 1, 1) := by decide +kernel
theorem dX5_copy_20 : decode cX5_copy 20 = .ok (.getfield 19, 3) := by decide +kernel
theorem dX5_copy_23 : decode cX5_copy 23 = .ok (.aload_n 0, 1) := by decide +kernel
theorem dX5_copy_24 : decode cX5_copy 24 = .ok (.getfield 19, 3) := by decide +kernel
theorem dX5_copy_27 : decode cX5_copy 27 = .ok (.invokestatic 76, 3) := by decide +kernel
theorem dX5_copy_30 : decode cX5_copy 30 = .ok (.aload_n 1, 1) := by decide +kernel
theorem dX5_copy_31 : decode cX5_copy 31 = .ok (.getfield 22, 3) := by decide +kernel
theorem dX5_copy_34 : decode cX5_copy 34 = .ok (.aload_n 0, 1) := by decide +kernel
theorem dX5_copy_35 : decode cX5_copy 35 = .ok (.getfield 22, 3) := by decide +kernel
theorem dX5_copy_38 : decode cX5_copy 38 = .ok (.invokestatic 76, 3) := by decide +kernel
theorem dX5_copy_41 : decode cX5_copy 41 = .ok (.aload_n 1, 1) := by decide +kernel
theorem dX5_copy_42 : decode cX5_copy 42 = .ok (.getfield 25, 3) := by decide +kernel
theorem dX5_copy_45 : decode cX5_copy 45 = .ok (.aload_n 0, 1) := by decide +kernel
theorem dX5_copy_46 : decode cX5_copy 46 = .ok (.getfield 25, 3) := by decide +kernel
theorem dX5_copy_49 : decode cX5_copy 49 = .ok (.invokestatic 76, 3) := by decide +kernel
theorem dX5_copy_52 : decode cX5_copy 52 = .ok (.aload_n 1, 1) := by decide +kernel
theorem dX5_copy_53 : decode cX5_copy 53 = .ok (.getfield 28, 3) := by decide +kernel
theorem dX5_copy_56 : decode cX5_copy 56 = .ok (.aload_n 0, 1) := by decide +kernel
theorem dX5_copy_57 : decode cX5_copy 57 = .ok (.getfield 28, 3) := by decide +kernel
theorem dX5_copy_60 : decode cX5_copy 60 = .ok (.invokestatic 76, 3) := by decide +kernel
theorem dX5_copy_63 : decode cX5_copy 63 = .ok (.aload_n 1, 1) := by decide +kernel
theorem dX5_copy_64 : decode cX5_copy 64 = .ok (.getfield 31, 3) := by decide +kernel
theorem dX5_copy_67 : decode cX5_copy 67 = .ok (.aload_n 0, 1) := by decide +kernel
theorem dX5_copy_68 : decode cX5_copy 68 = .ok (.getfield 31, 3) := by decide +kernel
theorem dX5_copy_71 : decode cX5_copy 71 = .ok (.invokestatic 76, 3) := by decide +kernel
theorem dX5_copy_74 : decode cX5_copy 74 = .ok (.aload_n 1, 1) := by decide +kernel
theorem dX5_copy_75 : decode cX5_copy 75 = .ok (.getfield 34, 3) := by decide +kernel
theorem dX5_copy_78 : decode cX5_copy 78 = .ok (.aload_n 0, 1) := by decide +kernel
theorem dX5_copy_79 : decode cX5_copy 79 = .ok (.getfield 34, 3) := by decide +kernel
theorem dX5_copy_82 : decode cX5_copy 82 = .ok (.invokestatic 76, 3) := by decide +kernel
theorem dX5_copy_85 : decode cX5_copy 85 = .ok (.aload_n 1, 1) := by decide +kernel
theorem dX5_copy_86 : decode cX5_copy 86 = .ok (.getfield 37, 3) := by decide +kernel
theorem dX5_copy_89 : decode cX5_copy 89 = .ok (.aload_n 0, 1) := by decide +kernel
theorem dX5_copy_90 : decode cX5_copy 90 = .ok (.getfield 37, 3) := by decide +kernel
theorem dX5_copy_93 : decode cX5_copy 93 = .ok (.invokestatic 76, 3) := by decide +kernel
theorem dX5_copy_96 : decode cX5_copy 96 = .ok (.aload_n 1, 1) := by decide +kernel
theorem dX5_copy_97 : decode cX5_copy 97 = .ok (.getfield 40, 3) := by decide +kernel
theorem dX5_copy_100 : decode cX5_copy 100 = .ok (.aload_n 0, 1) := by decide +kernel
theorem dX5_copy_101 : decode cX5_copy 101 = .ok (.getfield 40, 3) := by decide +kernel
theorem dX5_copy_104 : decode cX5_copy 104 = .ok (.invokestatic 76, 3) := by decide +kernel
theorem dX5_copy_107 : decode cX5_copy 107 = .ok (.aload_n 0, 1) := by decide +kernel
theorem dX5_copy_108 : decode cX5_copy 108 = .ok (.getfield 46, 3) := by decide +kernel
theorem dX5_copy_111 : decode cX5_copy 111 = .ok (.aload_n 1, 1) := by decide +kernel
theorem dX5_copy_112 : decode cX5_copy 112 = .ok (.getfield 46, 3) := by decide +kernel
theorem dX5_copy_115 : decode cX5_copy 115 = .ok (.invokevirtual 80, 3) := by decide +kernel
theorem dX5_copy_118 : decode cX5_copy 118 = .ok (.aload_n 0, 1) := by decide +kernel
theorem dX5_copy_119 : decode cX5_copy 119 = .ok (.getfield 53, 3) := by decide +kernel
theorem dX5_copy_122 : decode cX5_copy 122 = .ok (.aload_n 1, 1) := by decide +kernel
theorem dX5_copy_123 : decode cX5_copy 123 = .ok (.getfield 53, 3) := by decide +kernel
theorem dX5_copy_126 : decode cX5_copy 126 = .ok (.invokevirtual 84, 3) := by decide +kernel
theorem dX5_copy_129 : decode cX5_copy 129 = .ok (.return_, 1) := by decide +kernel
theorem dX5_allWaiting_0 : decode cX5_allWaiting 0 = .ok (.iconst 0, 1) := by decide +kernel
theorem dX5_allWaiting_1 : decode cX5_allWaiting 1 = .ok (.istore_n 1, 1) := by decide +kernel
theorem dX5_allWaiting_2 : decode cX5_allWaiting 2 = .ok (.iconst 0, 1) := by decide +kernel
theorem dX5_allWaiting_3 : decode cX5_allWaiting 3 = .ok (.istore_n 2, 1) := by decide +kernel
theorem dX5_allWaiting_4 : decode cX5_allWaiting 4 = .ok (.iload_n 2, 1) := by decide +kernel
theorem dX5_allWaiting_5 : decode cX5_allWaiting 5 = .ok (.bipush 8, 2) := by decide +kernel
theorem dX5_allWaiting_7 : decode cX5_allWaiting 7 = .ok (.if_icmp .ge 18, 3) := by decide +kernel
theorem dX5_allWaiting_10 : decode cX5_allWaiting 10 = .ok (.iload_n 1, 1) := by decide +kernel
theorem dX5_allWaiting_11 : decode cX5_allWaiting 11 = .ok (.aload_n 0, 1) := by decide +kernel
theorem dX5_allWaiting_12 : decode cX5_allWaiting 12 = .ok (.getfield 22, 3) := by decide +kernel
theorem dX5_allWaiting_15 : decode cX5_allWaiting 15 = .ok (.iload_n 2, 1) := by decide +kernel
theorem dX5_allWaiting_16 : decode cX5_allWaiting 16 = .ok (.iaload, 1) := by decide +kernel
theorem dX5_allWaiting_17 : decode cX5_allWaiting 17 = .ok (.iadd, 1) := by decide +kernel
theorem dX5_allWaiting_18 : decode cX5_allWaiting 18 = .ok (.istore_n 1, 1) := by decide +kernel
theorem dX5_allWaiting_19 : decode cX5_allWaiting 19 = .ok (.iinc 2 1, 3) := by decide +kernel
theorem dX5_allWaiting_22 : decode cX5_allWaiting 22 = .ok (.goto (-18), 3) := by decide +kernel
theorem dX5_allWaiting_25 : decode cX5_allWaiting 25 = .ok (.iload_n 1, 1) := by decide +kernel
theorem dX5_allWaiting_26 : decode cX5_allWaiting 26 = .ok (.ireturn, 1) := by decide +kernel
theorem dX5_isQuiet_0 : decode cX5_isQuiet 0 = .ok (.aload_n 0, 1) := by decide +kernel
theorem dX5_isQuiet_1 : decode cX5_isQuiet 1 = .ok (.getfield 46, 3) := by decide +kernel
theorem dX5_isQuiet_4 : decode cX5_isQuiet 4 = .ok (.getfield 87, 3) := by decide +kernel
theorem dX5_isQuiet_7 : decode cX5_isQuiet 7 = .ok (.ifCond .ne 14, 3) := by decide +kernel
theorem dX5_isQuiet_10 : decode cX5_isQuiet 10 = .ok (.aload_n 0, 1) := by decide +kernel
theorem dX5_isQuiet_11 : decode cX5_isQuiet 11 = .ok (.invokevirtual 90, 3) := by decide +kernel
theorem dX5_isQuiet_14 : decode cX5_isQuiet 14 = .ok (.ifCond .ne 7, 3) := by decide +kernel
theorem dX5_isQuiet_17 : decode cX5_isQuiet 17 = .ok (.iconst 1, 1) := by decide +kernel
theorem dX5_isQuiet_18 : decode cX5_isQuiet 18 = .ok (.goto 4, 3) := by decide +kernel
theorem dX5_isQuiet_21 : decode cX5_isQuiet 21 = .ok (.iconst 0, 1) := by decide +kernel
theorem dX5_isQuiet_22 : decode cX5_isQuiet 22 = .ok (.ireturn, 1) := by decide +kernel
theorem dX5_beginAnew_0 : decode cX5_beginAnew 0 = .ok (.iconst 0, 1) := by decide +kernel
theorem dX5_beginAnew_1 : decode cX5_beginAnew 1 = .ok (.istore_n 3, 1) := by decide +kernel
theorem dX5_beginAnew_2 : decode cX5_beginAnew 2 = .ok (.iconst 0, 1) := by decide +kernel
theorem dX5_beginAnew_3 : decode cX5_beginAnew 3 = .ok (.istore 4, 2) := by decide +kernel
theorem dX5_beginAnew_5 : decode cX5_beginAnew 5 = .ok (.iload 4, 2) := by decide +kernel
theorem dX5_beginAnew_7 : decode cX5_beginAnew 7 = .ok (.aload_n 1, 1) := by decide +kernel
theorem dX5_beginAnew_8 : decode cX5_beginAnew 8 = .ok (.getfield 63, 3) := by decide +kernel
theorem dX5_beginAnew_11 : decode cX5_beginAnew 11 = .ok (.if_icmp .ge 46, 3) := by decide +kernel
theorem dX5_beginAnew_14 : decode cX5_beginAnew 14 = .ok (.aload_n 1, 1) := by decide +kernel
theorem dX5_beginAnew_15 : decode cX5_beginAnew 15 = .ok (.getfield 94, 3) := by decide +kernel
theorem dX5_beginAnew_18 : decode cX5_beginAnew 18 = .ok (.iload 4, 2) := by decide +kernel
theorem dX5_beginAnew_20 : decode cX5_beginAnew 20 = .ok (.iaload, 1) := by decide +kernel
theorem dX5_beginAnew_21 : decode cX5_beginAnew 21 = .ok (.iload_n 2, 1) := by decide +kernel
theorem dX5_beginAnew_22 : decode cX5_beginAnew 22 = .ok (.if_icmp .ne 29, 3) := by decide +kernel
theorem dX5_beginAnew_25 : decode cX5_beginAnew 25 = .ok (.iload_n 3, 1) := by decide +kernel
theorem dX5_beginAnew_26 : decode cX5_beginAnew 26 = .ok (.aload_n 0, 1) := by decide +kernel
theorem dX5_beginAnew_27 : decode cX5_beginAnew 27 = .ok (.getfield 22, 3) := by decide +kernel
theorem dX5_beginAnew_30 : decode cX5_beginAnew 30 = .ok (.iload 4, 2) := by decide +kernel
theorem dX5_beginAnew_32 : decode cX5_beginAnew 32 = .ok (.iaload, 1) := by decide +kernel
theorem dX5_beginAnew_33 : decode cX5_beginAnew 33 = .ok (.iadd, 1) := by decide +kernel
theorem dX5_beginAnew_34 : decode cX5_beginAnew 34 = .ok (.istore_n 3, 1) := by decide +kernel
theorem dX5_beginAnew_35 : decode cX5_beginAnew 35 = .ok (.aload_n 0, 1) := by decide +kernel
theorem dX5_beginAnew_36 : decode cX5_beginAnew 36 = .ok (.getfield 22, 3) := by decide +kernel
theorem dX5_beginAnew_39 : decode cX5_beginAnew 39 = .ok (.iload 4, 2) := by decide +kernel
theorem dX5_beginAnew_41 : decode cX5_beginAnew 41 = .ok (.iconst 0, 1) := by decide +kernel
theorem dX5_beginAnew_42 : decode cX5_beginAnew 42 = .ok (.iastore, 1) := by decide +kernel
theorem dX5_beginAnew_43 : decode cX5_beginAnew 43 = .ok (.aload_n 0, 1) := by decide +kernel
theorem dX5_beginAnew_44 : decode cX5_beginAnew 44 = .ok (.getfield 28, 3) := by decide +kernel
theorem dX5_beginAnew_47 : decode cX5_beginAnew 47 = .ok (.iload 4, 2) := by decide +kernel
theorem dX5_beginAnew_49 : decode cX5_beginAnew 49 = .ok (.iconst 0, 1) := by decide +kernel
theorem dX5_beginAnew_50 : decode cX5_beginAnew 50 = .ok (.iastore, 1) := by decide +kernel
theorem dX5_beginAnew_51 : decode cX5_beginAnew 51 = .ok (.iinc 4 1, 3) := by decide +kernel
theorem dX5_beginAnew_54 : decode cX5_beginAnew 54 = .ok (.goto (-49), 3) := by decide +kernel
theorem dX5_beginAnew_57 : decode cX5_beginAnew 57 = .ok (.iload_n 3, 1) := by decide +kernel
theorem dX5_beginAnew_58 : decode cX5_beginAnew 58 = .ok (.ireturn, 1) := by decide +kernel
theorem dX5_advance_0 : decode cX5_advance 0 = .ok (.aload_n 0, 1) := by decide +kernel
theorem dX5_advance_1 : decode cX5_advance 1 = .ok (.getfield 9, 3) := by decide +kernel
theorem dX5_advance_4 : decode cX5_advance 4 = .ok (.iload_n 2, 1) := by decide +kernel
theorem dX5_advance_5 : decode cX5_advance 5 = .ok (.iadd, 1) := by decide +kernel
theorem dX5_advance_6 : decode cX5_advance 6 = .ok (.istore_n 3, 1) := by decide +kernel
theorem dX5_advance_7 : decode cX5_advance 7 = .ok (.iconst 0, 1) := by decide +kernel
theorem dX5_advance_8 : decode cX5_advance 8 = .ok (.istore 4, 2) := by decide +kernel
theorem dX5_advance_10 : decode cX5_advance 10 = .ok (.iload 4, 2) := by decide +kernel
theorem dX5_advance_12 : decode cX5_advance 12 = .ok (.iload_n 2, 1) := by decide +kernel
theorem dX5_advance_13 : decode cX5_advance 13 = .ok (.if_icmp .ge 23, 3) := by decide +kernel
theorem dX5_advance_16 : decode cX5_advance 16 = .ok (.aload_n 0, 1) := by decide +kernel
theorem dX5_advance_17 : decode cX5_advance 17 = .ok (.getfield 9, 3) := by decide +kernel
theorem dX5_advance_20 : decode cX5_advance 20 = .ok (.iload_n 3, 1) := by decide +kernel
theorem dX5_advance_21 : decode cX5_advance 21 = .ok (.if_icmp .ge 15, 3) := by decide +kernel
theorem dX5_advance_24 : decode cX5_advance 24 = .ok (.aload_n 0, 1) := by decide +kernel
theorem dX5_advance_25 : decode cX5_advance 25 = .ok (.aload_n 1, 1) := by decide +kernel
theorem dX5_advance_26 : decode cX5_advance 26 = .ok (.iload_n 3, 1) := by decide +kernel
theorem dX5_advance_27 : decode cX5_advance 27 = .ok (.invokevirtual 97, 3) := by decide +kernel
theorem dX5_advance_30 : decode cX5_advance 30 = .ok (.iinc 4 1, 3) := by decide +kernel
theorem dX5_advance_33 : decode cX5_advance 33 = .ok (.goto (-23), 3) := by decide +kernel
theorem dX5_advance_36 : decode cX5_advance 36 = .ok (.return_, 1) := by decide +kernel
theorem dX5_step_0 : decode cX5_step 0 = .ok (.iconst 1, 1) := by decide +kernel
theorem dX5_step_1 : decode cX5_step 1 = .ok (.aload_n 0, 1) := by decide +kernel
theorem dX5_step_2 : decode cX5_step 2 = .ok (.aload_n 1, 1) := by decide +kernel
theorem dX5_step_3 : decode cX5_step 3 = .ok (.iload_n 2, 1) := by decide +kernel
theorem dX5_step_4 : decode cX5_step 4 = .ok (.invokevirtual 101, 3) := by decide +kernel
theorem dX5_step_7 : decode cX5_step 7 = .ok (.aload_n 0, 1) := by decide +kernel
theorem dX5_step_8 : decode cX5_step 8 = .ok (.getfield 9, 3) := by decide +kernel
theorem dX5_step_11 : decode cX5_step 11 = .ok (.isub, 1) := by decide +kernel
theorem dX5_step_12 : decode cX5_step 12 = .ok (.invokestatic 105, 3) := by decide +kernel
theorem dX5_step_15 : decode cX5_step 15 = .ok (.istore_n 3, 1) := by decide +kernel
theorem dX5_step_16 : decode cX5_step 16 = .ok (.iload_n 3, 1) := by decide +kernel
theorem dX5_step_17 : decode cX5_step 17 = .ok (.iconst 1, 1) := by decide +kernel
theorem dX5_step_18 : decode cX5_step 18 = .ok (.if_icmp .le 10, 3) := by decide +kernel
theorem dX5_step_21 : decode cX5_step 21 = .ok (.aload_n 0, 1) := by decide +kernel
theorem dX5_step_22 : decode cX5_step 22 = .ok (.getfield 46, 3) := by decide +kernel
theorem dX5_step_25 : decode cX5_step 25 = .ok (.invokevirtual 111, 3) := by decide +kernel
theorem dX5_step_28 : decode cX5_step 28 = .ok (.aload_n 0, 1) := by decide +kernel
theorem dX5_step_29 : decode cX5_step 29 = .ok (.dup, 1) := by decide +kernel
theorem dX5_step_30 : decode cX5_step 30 = .ok (.getfield 9, 3) := by decide +kernel
theorem dX5_step_33 : decode cX5_step 33 = .ok (.iload_n 3, 1) := by decide +kernel
theorem dX5_step_34 : decode cX5_step 34 = .ok (.iadd, 1) := by decide +kernel
theorem dX5_step_35 : decode cX5_step 35 = .ok (.putfield 9, 3) := by decide +kernel
theorem dX5_step_38 : decode cX5_step 38 = .ok (.aload_n 0, 1) := by decide +kernel
theorem dX5_step_39 : decode cX5_step 39 = .ok (.aload_n 1, 1) := by decide +kernel
theorem dX5_step_40 : decode cX5_step 40 = .ok (.iload_n 3, 1) := by decide +kernel
theorem dX5_step_41 : decode cX5_step 41 = .ok (.invokevirtual 114, 3) := by decide +kernel
theorem dX5_step_44 : decode cX5_step 44 = .ok (.aload_n 0, 1) := by decide +kernel
theorem dX5_step_45 : decode cX5_step 45 = .ok (.aload_n 1, 1) := by decide +kernel
theorem dX5_step_46 : decode cX5_step 46 = .ok (.invokevirtual 117, 3) := by decide +kernel
theorem dX5_step_49 : decode cX5_step 49 = .ok (.aload_n 0, 1) := by decide +kernel
theorem dX5_step_50 : decode cX5_step 50 = .ok (.aload_n 1, 1) := by decide +kernel
theorem dX5_step_51 : decode cX5_step 51 = .ok (.invokevirtual 121, 3) := by decide +kernel
theorem dX5_step_54 : decode cX5_step 54 = .ok (.aload_n 0, 1) := by decide +kernel
theorem dX5_step_55 : decode cX5_step 55 = .ok (.aload_n 1, 1) := by decide +kernel
theorem dX5_step_56 : decode cX5_step 56 = .ok (.invokevirtual 124, 3) := by decide +kernel
theorem dX5_step_59 : decode cX5_step 59 = .ok (.aload_n 0, 1) := by decide +kernel
theorem dX5_step_60 : decode cX5_step 60 = .ok (.getfield 46, 3) := by decide +kernel
theorem dX5_step_63 : decode cX5_step 63 = .ok (.invokevirtual 111, 3) := by decide +kernel
theorem dX5_step_66 : decode cX5_step 66 = .ok (.return_, 1) := by decide +kernel
theorem dX5_nextChange_0 : decode cX5_nextChange 0 = .ok (.aload_n 0, 1) := by decide +kernel
theorem dX5_nextChange_1 : decode cX5_nextChange 1 = .ok (.getfield 46, 3) := by decide +kernel
theorem dX5_nextChange_4 : decode cX5_nextChange 4 = .ok (.aload_n 0, 1) := by decide +kernel
theorem dX5_nextChange_5 : decode cX5_nextChange 5 = .ok (.getfield 9, 3) := by decide +kernel
theorem dX5_nextChange_8 : decode cX5_nextChange 8 = .ok (.iload_n 2, 1) := by decide +kernel
theorem dX5_nextChange_9 : decode cX5_nextChange 9 = .ok (.invokevirtual 127, 3) := by decide +kernel
theorem dX5_nextChange_12 : decode cX5_nextChange 12 = .ok (.istore_n 3, 1) := by decide +kernel
theorem dX5_nextChange_13 : decode cX5_nextChange 13 = .ok (.iconst 0, 1) := by decide +kernel
theorem dX5_nextChange_14 : decode cX5_nextChange 14 = .ok (.istore 4, 2) := by decide +kernel
theorem dX5_nextChange_16 : decode cX5_nextChange 16 = .ok (.iload 4, 2) := by decide +kernel
theorem dX5_nextChange_18 : decode cX5_nextChange 18 = .ok (.aload_n 1, 1) := by decide +kernel
theorem dX5_nextChange_19 : decode cX5_nextChange 19 = .ok (.getfield 63, 3) := by decide +kernel
theorem dX5_nextChange_22 : decode cX5_nextChange 22 = .ok (.if_icmp .ge 31, 3) := by decide +kernel
theorem dX5_nextChange_25 : decode cX5_nextChange 25 = .ok (.aload_n 0, 1) := by decide +kernel
theorem dX5_nextChange_26 : decode cX5_nextChange 26 = .ok (.getfield 22, 3) := by decide +kernel
theorem dX5_nextChange_29 : decode cX5_nextChange 29 = .ok (.iload 4, 2) := by decide +kernel
theorem dX5_nextChange_31 : decode cX5_nextChange 31 = .ok (.iaload, 1) := by decide +kernel
theorem dX5_nextChange_32 : decode cX5_nextChange 32 = .ok (.ifCond .le 15, 3) := by decide +kernel
theorem dX5_nextChange_35 : decode cX5_nextChange 35 = .ok (.iload_n 3, 1) := by decide +kernel
theorem dX5_nextChange_36 : decode cX5_nextChange 36 = .ok (.aload_n 0, 1) := by decide +kernel
theorem dX5_nextChange_37 : decode cX5_nextChange 37 = .ok (.getfield 25, 3) := by decide +kernel
theorem dX5_nextChange_40 : decode cX5_nextChange 40 = .ok (.iload 4, 2) := by decide +kernel
theorem dX5_nextChange_42 : decode cX5_nextChange 42 = .ok (.iaload, 1) := by decide +kernel
theorem dX5_nextChange_43 : decode cX5_nextChange 43 = .ok (.invokestatic 129, 3) := by decide +kernel
theorem dX5_nextChange_46 : decode cX5_nextChange 46 = .ok (.istore_n 3, 1) := by decide +kernel
theorem dX5_nextChange_47 : decode cX5_nextChange 47 = .ok (.iinc 4 1, 3) := by decide +kernel
theorem dX5_nextChange_50 : decode cX5_nextChange 50 = .ok (.goto (-34), 3) := by decide +kernel
theorem dX5_nextChange_53 : decode cX5_nextChange 53 = .ok (.iload_n 3, 1) := by decide +kernel
theorem dX5_nextChange_54 : decode cX5_nextChange 54 = .ok (.ireturn, 1) := by decide +kernel
theorem dX5_growCredit_0 : decode cX5_growCredit 0 = .ok (.iconst 0, 1) := by decide +kernel
theorem dX5_growCredit_1 : decode cX5_growCredit 1 = .ok (.istore_n 3, 1) := by decide +kernel
theorem dX5_growCredit_2 : decode cX5_growCredit 2 = .ok (.iload_n 3, 1) := by decide +kernel
theorem dX5_growCredit_3 : decode cX5_growCredit 3 = .ok (.aload_n 1, 1) := by decide +kernel
theorem dX5_growCredit_4 : decode cX5_growCredit 4 = .ok (.getfield 63, 3) := by decide +kernel
theorem dX5_growCredit_7 : decode cX5_growCredit 7 = .ok (.if_icmp .ge 72, 3) := by decide +kernel
theorem dX5_growCredit_10 : decode cX5_growCredit 10 = .ok (.aload_n 1, 1) := by decide +kernel
theorem dX5_growCredit_11 : decode cX5_growCredit 11 = .ok (.getfield 132, 3) := by decide +kernel
theorem dX5_growCredit_14 : decode cX5_growCredit 14 = .ok (.iload_n 3, 1) := by decide +kernel
theorem dX5_growCredit_15 : decode cX5_growCredit 15 = .ok (.iaload, 1) := by decide +kernel
theorem dX5_growCredit_16 : decode cX5_growCredit 16 = .ok (.iload_n 2, 1) := by decide +kernel
theorem dX5_growCredit_17 : decode cX5_growCredit 17 = .ok (.imul, 1) := by decide +kernel
theorem dX5_growCredit_18 : decode cX5_growCredit 18 = .ok (.istore 4, 2) := by decide +kernel
theorem dX5_growCredit_20 : decode cX5_growCredit 20 = .ok (.aload_n 1, 1) := by decide +kernel
theorem dX5_growCredit_21 : decode cX5_growCredit 21 = .ok (.iload_n 3, 1) := by decide +kernel
theorem dX5_growCredit_22 : decode cX5_growCredit 22 = .ok (.invokevirtual 68, 3) := by decide +kernel
theorem dX5_growCredit_25 : decode cX5_growCredit 25 = .ok (.istore 5, 2) := by decide +kernel
theorem dX5_growCredit_27 : decode cX5_growCredit 27 = .ok (.aload_n 0, 1) := by decide +kernel
theorem dX5_growCredit_28 : decode cX5_growCredit 28 = .ok (.getfield 37, 3) := by decide +kernel
theorem dX5_growCredit_31 : decode cX5_growCredit 31 = .ok (.iload_n 3, 1) := by decide +kernel
theorem dX5_growCredit_32 : decode cX5_growCredit 32 = .ok (.iload 5, 2) := by decide +kernel
theorem dX5_growCredit_34 : decode cX5_growCredit 34 = .ok (.aload_n 0, 1) := by decide +kernel
theorem dX5_growCredit_35 : decode cX5_growCredit 35 = .ok (.getfield 37, 3) := by decide +kernel
theorem dX5_growCredit_38 : decode cX5_growCredit 38 = .ok (.iload_n 3, 1) := by decide +kernel
theorem dX5_growCredit_39 : decode cX5_growCredit 39 = .ok (.iaload, 1) := by decide +kernel
theorem dX5_growCredit_40 : decode cX5_growCredit 40 = .ok (.iload 4, 2) := by decide +kernel
theorem dX5_growCredit_42 : decode cX5_growCredit 42 = .ok (.iadd, 1) := by decide +kernel
theorem dX5_growCredit_43 : decode cX5_growCredit 43 = .ok (.invokestatic 129, 3) := by decide +kernel
theorem dX5_growCredit_46 : decode cX5_growCredit 46 = .ok (.iastore, 1) := by decide +kernel
theorem dX5_growCredit_47 : decode cX5_growCredit 47 = .ok (.aload_n 0, 1) := by decide +kernel
theorem dX5_growCredit_48 : decode cX5_growCredit 48 = .ok (.getfield 37, 3) := by decide +kernel
theorem dX5_growCredit_51 : decode cX5_growCredit 51 = .ok (.bipush 8, 2) := by decide +kernel
theorem dX5_growCredit_53 : decode cX5_growCredit 53 = .ok (.iload_n 3, 1) := by decide +kernel
theorem dX5_growCredit_54 : decode cX5_growCredit 54 = .ok (.iadd, 1) := by decide +kernel
theorem dX5_growCredit_55 : decode cX5_growCredit 55 = .ok (.iload 5, 2) := by decide +kernel
theorem dX5_growCredit_57 : decode cX5_growCredit 57 = .ok (.aload_n 0, 1) := by decide +kernel
theorem dX5_growCredit_58 : decode cX5_growCredit 58 = .ok (.getfield 37, 3) := by decide +kernel
theorem dX5_growCredit_61 : decode cX5_growCredit 61 = .ok (.bipush 8, 2) := by decide +kernel
theorem dX5_growCredit_63 : decode cX5_growCredit 63 = .ok (.iload_n 3, 1) := by decide +kernel
theorem dX5_growCredit_64 : decode cX5_growCredit 64 = .ok (.iadd, 1) := by decide +kernel
theorem dX5_growCredit_65 : decode cX5_growCredit 65 = .ok (.iaload, 1) := by decide +kernel
theorem dX5_growCredit_66 : decode cX5_growCredit 66 = .ok (.iload 4, 2) := by decide +kernel
theorem dX5_growCredit_68 : decode cX5_growCredit 68 = .ok (.iadd, 1) := by decide +kernel
theorem dX5_growCredit_69 : decode cX5_growCredit 69 = .ok (.invokestatic 129, 3) := by decide +kernel
theorem dX5_growCredit_72 : decode cX5_growCredit 72 = .ok (.iastore, 1) := by decide +kernel
theorem dX5_growCredit_73 : decode cX5_growCredit 73 = .ok (.iinc 3 1, 3) := by decide +kernel
theorem dX5_growCredit_76 : decode cX5_growCredit 76 = .ok (.goto (-74), 3) := by decide +kernel
theorem dX5_growCredit_79 : decode cX5_growCredit 79 = .ok (.return_, 1) := by decide +kernel
theorem dX5_deliver_0 : decode cX5_deliver 0 = .ok (.iconst 0, 1) := by decide +kernel
theorem dX5_deliver_1 : decode cX5_deliver 1 = .ok (.istore_n 2, 1) := by decide +kernel
theorem dX5_deliver_2 : decode cX5_deliver 2 = .ok (.iload_n 2, 1) := by decide +kernel
theorem dX5_deliver_3 : decode cX5_deliver 3 = .ok (.bipush 32, 2) := by decide +kernel
theorem dX5_deliver_5 : decode cX5_deliver 5 = .ok (.if_icmp .ge 67, 3) := by decide +kernel
theorem dX5_deliver_8 : decode cX5_deliver 8 = .ok (.aload_n 0, 1) := by decide +kernel
theorem dX5_deliver_9 : decode cX5_deliver 9 = .ok (.getfield 46, 3) := by decide +kernel
theorem dX5_deliver_12 : decode cX5_deliver 12 = .ok (.getfield 135, 3) := by decide +kernel
theorem dX5_deliver_15 : decode cX5_deliver 15 = .ok (.iload_n 2, 1) := by decide +kernel
theorem dX5_deliver_16 : decode cX5_deliver 16 = .ok (.iaload, 1) := by decide +kernel
theorem dX5_deliver_17 : decode cX5_deliver 17 = .ok (.aload_n 0, 1) := by decide +kernel
theorem dX5_deliver_18 : decode cX5_deliver 18 = .ok (.getfield 9, 3) := by decide +kernel
theorem dX5_deliver_21 : decode cX5_deliver 21 = .ok (.if_icmp .ne 45, 3) := by decide +kernel
theorem dX5_deliver_24 : decode cX5_deliver 24 = .ok (.aload_n 0, 1) := by decide +kernel
theorem dX5_deliver_25 : decode cX5_deliver 25 = .ok (.getfield 46, 3) := by decide +kernel
theorem dX5_deliver_28 : decode cX5_deliver 28 = .ok (.iload_n 2, 1) := by decide +kernel
theorem dX5_deliver_29 : decode cX5_deliver 29 = .ok (.iconst 0, 1) := by decide +kernel
theorem dX5_deliver_30 : decode cX5_deliver 30 = .ok (.invokevirtual 138, 3) := by decide +kernel
theorem dX5_deliver_33 : decode cX5_deliver 33 = .ok (.istore_n 3, 1) := by decide +kernel
theorem dX5_deliver_34 : decode cX5_deliver 34 = .ok (.aload_n 0, 1) := by decide +kernel
theorem dX5_deliver_35 : decode cX5_deliver 35 = .ok (.getfield 46, 3) := by decide +kernel
theorem dX5_deliver_38 : decode cX5_deliver 38 = .ok (.iload_n 2, 1) := by decide +kernel
theorem dX5_deliver_39 : decode cX5_deliver 39 = .ok (.invokevirtual 141, 3) := by decide +kernel
theorem dX5_deliver_42 : decode cX5_deliver 42 = .ok (.iload_n 2, 1) := by decide +kernel
theorem dX5_deliver_43 : decode cX5_deliver 43 = .ok (.invokestatic 145, 3) := by decide +kernel
theorem dX5_deliver_46 : decode cX5_deliver 46 = .ok (.ifCond .eq 13, 3) := by decide +kernel
theorem dX5_deliver_49 : decode cX5_deliver 49 = .ok (.aload_n 0, 1) := by decide +kernel
theorem dX5_deliver_50 : decode cX5_deliver 50 = .ok (.aload_n 1, 1) := by decide +kernel
theorem dX5_deliver_51 : decode cX5_deliver 51 = .ok (.iload_n 2, 1) := by decide +kernel
theorem dX5_deliver_52 : decode cX5_deliver 52 = .ok (.iload_n 3, 1) := by decide +kernel
theorem dX5_deliver_53 : decode cX5_deliver 53 = .ok (.invokevirtual 149, 3) := by decide +kernel
theorem dX5_deliver_56 : decode cX5_deliver 56 = .ok (.goto 10, 3) := by decide +kernel
theorem dX5_deliver_59 : decode cX5_deliver 59 = .ok (.aload_n 0, 1) := by decide +kernel
theorem dX5_deliver_60 : decode cX5_deliver 60 = .ok (.aload_n 1, 1) := by decide +kernel
theorem dX5_deliver_61 : decode cX5_deliver 61 = .ok (.iload_n 2, 1) := by decide +kernel
theorem dX5_deliver_62 : decode cX5_deliver 62 = .ok (.iload_n 3, 1) := by decide +kernel
theorem dX5_deliver_63 : decode cX5_deliver 63 = .ok (.invokevirtual 153, 3) := by decide +kernel
theorem dX5_deliver_66 : decode cX5_deliver 66 = .ok (.iinc 2 1, 3) := by decide +kernel
theorem dX5_deliver_69 : decode cX5_deliver 69 = .ok (.goto (-67), 3) := by decide +kernel
theorem dX5_deliver_72 : decode cX5_deliver 72 = .ok (.return_, 1) := by decide +kernel
theorem dX5_leadsToEnd_0 : decode cX5_leadsToEnd 0 = .ok (.iload_n 0, 1) := by decide +kernel
theorem dX5_leadsToEnd_1 : decode cX5_leadsToEnd 1 = .ok (.bipush 16, 2) := by decide +kernel
theorem dX5_leadsToEnd_3 : decode cX5_leadsToEnd 3 = .ok (.irem, 1) := by decide +kernel
theorem dX5_leadsToEnd_4 : decode cX5_leadsToEnd 4 = .ok (.istore_n 1, 1) := by decide +kernel
theorem dX5_leadsToEnd_5 : decode cX5_leadsToEnd 5 = .ok (.iload_n 1, 1) := by decide +kernel
theorem dX5_leadsToEnd_6 : decode cX5_leadsToEnd 6 = .ok (.bipush 6, 2) := by decide +kernel
theorem dX5_leadsToEnd_8 : decode cX5_leadsToEnd 8 = .ok (.if_icmp .lt 13, 3) := by decide +kernel
theorem dX5_leadsToEnd_11 : decode cX5_leadsToEnd 11 = .ok (.iload_n 1, 1) := by decide +kernel
theorem dX5_leadsToEnd_12 : decode cX5_leadsToEnd 12 = .ok (.bipush 12, 2) := by decide +kernel
theorem dX5_leadsToEnd_14 : decode cX5_leadsToEnd 14 = .ok (.if_icmp .ge 7, 3) := by decide +kernel
theorem dX5_leadsToEnd_17 : decode cX5_leadsToEnd 17 = .ok (.iconst 1, 1) := by decide +kernel
theorem dX5_leadsToEnd_18 : decode cX5_leadsToEnd 18 = .ok (.goto 4, 3) := by decide +kernel
theorem dX5_leadsToEnd_21 : decode cX5_leadsToEnd 21 = .ok (.iconst 0, 1) := by decide +kernel
theorem dX5_leadsToEnd_22 : decode cX5_leadsToEnd 22 = .ok (.ireturn, 1) := by decide +kernel
theorem dX5_arriveAtEnd_0 : decode cX5_arriveAtEnd 0 = .ok (.aload_n 1, 1) := by decide +kernel
theorem dX5_arriveAtEnd_1 : decode cX5_arriveAtEnd 1 = .ok (.aload_n 0, 1) := by decide +kernel
theorem dX5_arriveAtEnd_2 : decode cX5_arriveAtEnd 2 = .ok (.getfield 46, 3) := by decide +kernel
theorem dX5_arriveAtEnd_5 : decode cX5_arriveAtEnd 5 = .ok (.getfield 156, 3) := by decide +kernel
theorem dX5_arriveAtEnd_8 : decode cX5_arriveAtEnd 8 = .ok (.iload_n 3, 1) := by decide +kernel
theorem dX5_arriveAtEnd_9 : decode cX5_arriveAtEnd 9 = .ok (.iaload, 1) := by decide +kernel
theorem dX5_arriveAtEnd_10 : decode cX5_arriveAtEnd 10 = .ok (.iload_n 2, 1) := by decide +kernel
theorem dX5_arriveAtEnd_11 : decode cX5_arriveAtEnd 11 = .ok (.bipush 16, 2) := by decide +kernel
theorem dX5_arriveAtEnd_13 : decode cX5_arriveAtEnd 13 = .ok (.irem, 1) := by decide +kernel
theorem dX5_arriveAtEnd_14 : decode cX5_arriveAtEnd 14 = .ok (.bipush 6, 2) := by decide +kernel
theorem dX5_arriveAtEnd_16 : decode cX5_arriveAtEnd 16 = .ok (.isub, 1) := by decide +kernel
theorem dX5_arriveAtEnd_17 : decode cX5_arriveAtEnd 17 = .ok (.invokevirtual 159, 3) := by decide +kernel
theorem dX5_arriveAtEnd_20 : decode cX5_arriveAtEnd 20 = .ok (.istore 4, 2) := by decide +kernel
theorem dX5_arriveAtEnd_22 : decode cX5_arriveAtEnd 22 = .ok (.iload 4, 2) := by decide +kernel
theorem dX5_arriveAtEnd_24 : decode cX5_arriveAtEnd 24 = .ok (.iconst (-1), 1) := by decide +kernel
theorem dX5_arriveAtEnd_25 : decode cX5_arriveAtEnd 25 = .ok (.if_icmp .eq 39, 3) := by decide +kernel
theorem dX5_arriveAtEnd_28 : decode cX5_arriveAtEnd 28 = .ok (.aload_n 0, 1) := by decide +kernel
theorem dX5_arriveAtEnd_29 : decode cX5_arriveAtEnd 29 = .ok (.getfield 53, 3) := by decide +kernel
theorem dX5_arriveAtEnd_32 : decode cX5_arriveAtEnd 32 = .ok (.aload_n 1, 1) := by decide +kernel
theorem dX5_arriveAtEnd_33 : decode cX5_arriveAtEnd 33 = .ok (.iload 4, 2) := by decide +kernel
theorem dX5_arriveAtEnd_35 : decode cX5_arriveAtEnd 35 = .ok (.iload_n 2, 1) := by decide +kernel
theorem dX5_arriveAtEnd_36 : decode cX5_arriveAtEnd 36 = .ok (.bipush 16, 2) := by decide +kernel
theorem dX5_arriveAtEnd_38 : decode cX5_arriveAtEnd 38 = .ok (.idiv, 1) := by decide +kernel
theorem dX5_arriveAtEnd_39 : decode cX5_arriveAtEnd 39 = .ok (.aload_n 0, 1) := by decide +kernel
theorem dX5_arriveAtEnd_40 : decode cX5_arriveAtEnd 40 = .ok (.getfield 46, 3) := by decide +kernel
theorem dX5_arriveAtEnd_43 : decode cX5_arriveAtEnd 43 = .ok (.getfield 162, 3) := by decide +kernel
theorem dX5_arriveAtEnd_46 : decode cX5_arriveAtEnd 46 = .ok (.iload_n 3, 1) := by decide +kernel
theorem dX5_arriveAtEnd_47 : decode cX5_arriveAtEnd 47 = .ok (.iaload, 1) := by decide +kernel
theorem dX5_arriveAtEnd_48 : decode cX5_arriveAtEnd 48 = .ok (.aload_n 0, 1) := by decide +kernel
theorem dX5_arriveAtEnd_49 : decode cX5_arriveAtEnd 49 = .ok (.getfield 46, 3) := by decide +kernel
theorem dX5_arriveAtEnd_52 : decode cX5_arriveAtEnd 52 = .ok (.getfield 163, 3) := by decide +kernel
theorem dX5_arriveAtEnd_55 : decode cX5_arriveAtEnd 55 = .ok (.iload_n 3, 1) := by decide +kernel
theorem dX5_arriveAtEnd_56 : decode cX5_arriveAtEnd 56 = .ok (.iaload, 1) := by decide +kernel
theorem dX5_arriveAtEnd_57 : decode cX5_arriveAtEnd 57 = .ok (.aload_n 0, 1) := by decide +kernel
theorem dX5_arriveAtEnd_58 : decode cX5_arriveAtEnd 58 = .ok (.getfield 9, 3) := by decide +kernel
theorem dX5_arriveAtEnd_61 : decode cX5_arriveAtEnd 61 = .ok (.invokevirtual 164, 3) := by decide +kernel
theorem dX5_arriveAtEnd_64 : decode cX5_arriveAtEnd 64 = .ok (.return_, 1) := by decide +kernel
theorem dX5_arriveAtSwitch_0 : decode cX5_arriveAtSwitch 0 = .ok (.iload_n 2, 1) := by decide +kernel
theorem dX5_arriveAtSwitch_1 : decode cX5_arriveAtSwitch 1 = .ok (.bipush 16, 2) := by decide +kernel
theorem dX5_arriveAtSwitch_3 : decode cX5_arriveAtSwitch 3 = .ok (.idiv, 1) := by decide +kernel
theorem dX5_arriveAtSwitch_4 : decode cX5_arriveAtSwitch 4 = .ok (.istore 4, 2) := by decide +kernel
theorem dX5_arriveAtSwitch_6 : decode cX5_arriveAtSwitch 6 = .ok (.iload_n 2, 1) := by decide +kernel
theorem dX5_arriveAtSwitch_7 : decode cX5_arriveAtSwitch 7 = .ok (.bipush 16, 2) := by decide +kernel
theorem dX5_arriveAtSwitch_9 : decode cX5_arriveAtSwitch 9 = .ok (.irem, 1) := by decide +kernel
theorem dX5_arriveAtSwitch_10 : decode cX5_arriveAtSwitch 10 = .ok (.istore 5, 2) := by decide +kernel
theorem dX5_arriveAtSwitch_12 : decode cX5_arriveAtSwitch 12 = .ok (.aload_n 0, 1) := by decide +kernel
theorem dX5_arriveAtSwitch_13 : decode cX5_arriveAtSwitch 13 = .ok (.getfield 46, 3) := by decide +kernel
theorem dX5_arriveAtSwitch_16 : decode cX5_arriveAtSwitch 16 = .ok (.getfield 156, 3) := by decide +kernel
theorem dX5_arriveAtSwitch_19 : decode cX5_arriveAtSwitch 19 = .ok (.iload_n 3, 1) := by decide +kernel
theorem dX5_arriveAtSwitch_20 : decode cX5_arriveAtSwitch 20 = .ok (.iaload, 1) := by decide +kernel
theorem dX5_arriveAtSwitch_21 : decode cX5_arriveAtSwitch 21 = .ok (.istore 6, 2) := by decide +kernel
theorem dX5_arriveAtSwitch_23 : decode cX5_arriveAtSwitch 23 = .ok (.aload_n 0, 1) := by decide +kernel
theorem dX5_arriveAtSwitch_24 : decode cX5_arriveAtSwitch 24 = .ok (.getfield 15, 3) := by decide +kernel
theorem dX5_arriveAtSwitch_27 : decode cX5_arriveAtSwitch 27 = .ok (.iload 4, 2) := by decide +kernel
theorem dX5_arriveAtSwitch_29 : decode cX5_arriveAtSwitch 29 = .ok (.iaload, 1) := by decide +kernel
theorem dX5_arriveAtSwitch_30 : decode cX5_arriveAtSwitch 30 = .ok (.iconst 1, 1) := by decide +kernel
theorem dX5_arriveAtSwitch_31 : decode cX5_arriveAtSwitch 31 = .ok (.if_icmp .ne 21, 3) := by decide +kernel
theorem dX5_arriveAtSwitch_34 : decode cX5_arriveAtSwitch 34 = .ok (.aload_n 0, 1) := by decide +kernel
theorem dX5_arriveAtSwitch_35 : decode cX5_arriveAtSwitch 35 = .ok (.getfield 19, 3) := by decide +kernel
theorem dX5_arriveAtSwitch_38 : decode cX5_arriveAtSwitch 38 = .ok (.iload 4, 2) := by decide +kernel
theorem dX5_arriveAtSwitch_40 : decode cX5_arriveAtSwitch 40 = .ok (.iconst 3, 1) := by decide +kernel
theorem dX5_arriveAtSwitch_41 : decode cX5_arriveAtSwitch 41 = .ok (.imul, 1) := by decide +kernel
theorem dX5_arriveAtSwitch_42 : decode cX5_arriveAtSwitch 42 = .ok (.iconst 1, 1) := by decide +kernel
theorem dX5_arriveAtSwitch_43 : decode cX5_arriveAtSwitch 43 = .ok (.iadd, 1) := by decide +kernel
theorem dX5_arriveAtSwitch_44 : decode cX5_arriveAtSwitch 44 = .ok (.dup2, 1) := by decide +kernel
theorem dX5_arriveAtSwitch_45 : decode cX5_arriveAtSwitch 45 = .ok (.iaload, 1) := by decide +kernel
theorem dX5_arriveAtSwitch_46 : decode cX5_arriveAtSwitch 46 = .ok (.iconst 1, 1) := by decide +kernel
theorem dX5_arriveAtSwitch_47 : decode cX5_arriveAtSwitch 47 = .ok (.iadd, 1) := by decide +kernel
theorem dX5_arriveAtSwitch_48 : decode cX5_arriveAtSwitch 48 = .ok (.iastore, 1) := by decide +kernel
theorem dX5_arriveAtSwitch_49 : decode cX5_arriveAtSwitch 49 = .ok (.goto 81, 3) := by decide +kernel
theorem dX5_arriveAtSwitch_52 : decode cX5_arriveAtSwitch 52 = .ok (.iload 5, 2) := by decide +kernel
theorem dX5_arriveAtSwitch_54 : decode cX5_arriveAtSwitch 54 = .ok (.bipush 6, 2) := by decide +kernel
theorem dX5_arriveAtSwitch_56 : decode cX5_arriveAtSwitch 56 = .ok (.if_icmp .ge 50, 3) := by decide +kernel
theorem dX5_arriveAtSwitch_59 : decode cX5_arriveAtSwitch 59 = .ok (.aload_n 0, 1) := by decide +kernel
theorem dX5_arriveAtSwitch_60 : decode cX5_arriveAtSwitch 60 = .ok (.aload_n 1, 1) := by decide +kernel
theorem dX5_arriveAtSwitch_61 : decode cX5_arriveAtSwitch 61 = .ok (.iload 4, 2) := by decide +kernel
theorem dX5_arriveAtSwitch_63 : decode cX5_arriveAtSwitch 63 = .ok (.iload 6, 2) := by decide +kernel
theorem dX5_arriveAtSwitch_65 : decode cX5_arriveAtSwitch 65 = .ok (.invokevirtual 168, 3) := by decide +kernel
theorem dX5_arriveAtSwitch_68 : decode cX5_arriveAtSwitch 68 = .ok (.ifCond .ne 38, 3) := by decide +kernel
theorem dX5_arriveAtSwitch_71 : decode cX5_arriveAtSwitch 71 = .ok (.aload_n 0, 1) := by decide +kernel
theorem dX5_arriveAtSwitch_72 : decode cX5_arriveAtSwitch 72 = .ok (.getfield 19, 3) := by decide +kernel
theorem dX5_arriveAtSwitch_75 : decode cX5_arriveAtSwitch 75 = .ok (.iload 4, 2) := by decide +kernel
theorem dX5_arriveAtSwitch_77 : decode cX5_arriveAtSwitch 77 = .ok (.iconst 3, 1) := by decide +kernel
theorem dX5_arriveAtSwitch_78 : decode cX5_arriveAtSwitch 78 = .ok (.imul, 1) := by decide +kernel
theorem dX5_arriveAtSwitch_79 : decode cX5_arriveAtSwitch 79 = .ok (.iconst 2, 1) := by decide +kernel
theorem dX5_arriveAtSwitch_80 : decode cX5_arriveAtSwitch 80 = .ok (.iadd, 1) := by decide +kernel
theorem dX5_arriveAtSwitch_81 : decode cX5_arriveAtSwitch 81 = .ok (.dup2, 1) := by decide +kernel
theorem dX5_arriveAtSwitch_82 : decode cX5_arriveAtSwitch 82 = .ok (.iaload, 1) := by decide +kernel
theorem dX5_arriveAtSwitch_83 : decode cX5_arriveAtSwitch 83 = .ok (.iconst 1, 1) := by decide +kernel
theorem dX5_arriveAtSwitch_84 : decode cX5_arriveAtSwitch 84 = .ok (.iadd, 1) := by decide +kernel
theorem dX5_arriveAtSwitch_85 : decode cX5_arriveAtSwitch 85 = .ok (.iastore, 1) := by decide +kernel
theorem dX5_arriveAtSwitch_86 : decode cX5_arriveAtSwitch 86 = .ok (.aload_n 0, 1) := by decide +kernel
theorem dX5_arriveAtSwitch_87 : decode cX5_arriveAtSwitch 87 = .ok (.getfield 40, 3) := by decide +kernel
theorem dX5_arriveAtSwitch_90 : decode cX5_arriveAtSwitch 90 = .ok (.iload 4, 2) := by decide +kernel
theorem dX5_arriveAtSwitch_92 : decode cX5_arriveAtSwitch 92 = .ok (.bipush 8, 2) := by decide +kernel
theorem dX5_arriveAtSwitch_94 : decode cX5_arriveAtSwitch 94 = .ok (.imul, 1) := by decide +kernel
theorem dX5_arriveAtSwitch_95 : decode cX5_arriveAtSwitch 95 = .ok (.iload 6, 2) := by decide +kernel
theorem dX5_arriveAtSwitch_97 : decode cX5_arriveAtSwitch 97 = .ok (.iadd, 1) := by decide +kernel
theorem dX5_arriveAtSwitch_98 : decode cX5_arriveAtSwitch 98 = .ok (.dup2, 1) := by decide +kernel
theorem dX5_arriveAtSwitch_99 : decode cX5_arriveAtSwitch 99 = .ok (.iaload, 1) := by decide +kernel
theorem dX5_arriveAtSwitch_100 : decode cX5_arriveAtSwitch 100 = .ok (.iconst 1, 1) := by decide +kernel
theorem dX5_arriveAtSwitch_101 : decode cX5_arriveAtSwitch 101 = .ok (.iadd, 1) := by decide +kernel
theorem dX5_arriveAtSwitch_102 : decode cX5_arriveAtSwitch 102 = .ok (.iastore, 1) := by decide +kernel
theorem dX5_arriveAtSwitch_103 : decode cX5_arriveAtSwitch 103 = .ok (.goto 27, 3) := by decide +kernel
theorem dX5_arriveAtSwitch_106 : decode cX5_arriveAtSwitch 106 = .ok (.aload_n 0, 1) := by decide +kernel
theorem dX5_arriveAtSwitch_107 : decode cX5_arriveAtSwitch 107 = .ok (.aload_n 1, 1) := by decide +kernel
theorem dX5_arriveAtSwitch_108 : decode cX5_arriveAtSwitch 108 = .ok (.iload 4, 2) := by decide +kernel
theorem dX5_arriveAtSwitch_110 : decode cX5_arriveAtSwitch 110 = .ok (.aload_n 1, 1) := by decide +kernel
theorem dX5_arriveAtSwitch_111 : decode cX5_arriveAtSwitch 111 = .ok (.getfield 172, 3) := by decide +kernel
theorem dX5_arriveAtSwitch_114 : decode cX5_arriveAtSwitch 114 = .ok (.getfield 176, 3) := by decide +kernel
theorem dX5_arriveAtSwitch_117 : decode cX5_arriveAtSwitch 117 = .ok (.iload 6, 2) := by decide +kernel
theorem dX5_arriveAtSwitch_119 : decode cX5_arriveAtSwitch 119 = .ok (.bipush 16, 2) := by decide +kernel
theorem dX5_arriveAtSwitch_121 : decode cX5_arriveAtSwitch 121 = .ok (.imul, 1) := by decide +kernel
theorem dX5_arriveAtSwitch_122 : decode cX5_arriveAtSwitch 122 = .ok (.iload 5, 2) := by decide +kernel
theorem dX5_arriveAtSwitch_124 : decode cX5_arriveAtSwitch 124 = .ok (.iadd, 1) := by decide +kernel
theorem dX5_arriveAtSwitch_125 : decode cX5_arriveAtSwitch 125 = .ok (.iaload, 1) := by decide +kernel
theorem dX5_arriveAtSwitch_126 : decode cX5_arriveAtSwitch 126 = .ok (.iload_n 3, 1) := by decide +kernel
theorem dX5_arriveAtSwitch_127 : decode cX5_arriveAtSwitch 127 = .ok (.invokevirtual 181, 3) := by decide +kernel
theorem dX5_arriveAtSwitch_130 : decode cX5_arriveAtSwitch 130 = .ok (.return_, 1) := by decide +kernel
theorem dX5_paysCredit_0 : decode cX5_paysCredit 0 = .ok (.aload_n 1, 1) := by decide +kernel
theorem dX5_paysCredit_1 : decode cX5_paysCredit 1 = .ok (.getfield 132, 3) := by decide +kernel
theorem dX5_paysCredit_4 : decode cX5_paysCredit 4 = .ok (.iload_n 3, 1) := by decide +kernel
theorem dX5_paysCredit_5 : decode cX5_paysCredit 5 = .ok (.iaload, 1) := by decide +kernel
theorem dX5_paysCredit_6 : decode cX5_paysCredit 6 = .ok (.aload_n 1, 1) := by decide +kernel
theorem dX5_paysCredit_7 : decode cX5_paysCredit 7 = .ok (.getfield 185, 3) := by decide +kernel
theorem dX5_paysCredit_10 : decode cX5_paysCredit 10 = .ok (.iload_n 3, 1) := by decide +kernel
theorem dX5_paysCredit_11 : decode cX5_paysCredit 11 = .ok (.iaload, 1) := by decide +kernel
theorem dX5_paysCredit_12 : decode cX5_paysCredit 12 = .ok (.imul, 1) := by decide +kernel
theorem dX5_paysCredit_13 : decode cX5_paysCredit 13 = .ok (.istore 4, 2) := by decide +kernel
theorem dX5_paysCredit_15 : decode cX5_paysCredit 15 = .ok (.iload 4, 2) := by decide +kernel
theorem dX5_paysCredit_17 : decode cX5_paysCredit 17 = .ok (.aload_n 0, 1) := by decide +kernel
theorem dX5_paysCredit_18 : decode cX5_paysCredit 18 = .ok (.getfield 37, 3) := by decide +kernel
theorem dX5_paysCredit_21 : decode cX5_paysCredit 21 = .ok (.iload_n 2, 1) := by decide +kernel
theorem dX5_paysCredit_22 : decode cX5_paysCredit 22 = .ok (.bipush 8, 2) := by decide +kernel
theorem dX5_paysCredit_24 : decode cX5_paysCredit 24 = .ok (.imul, 1) := by decide +kernel
theorem dX5_paysCredit_25 : decode cX5_paysCredit 25 = .ok (.iload_n 3, 1) := by decide +kernel
theorem dX5_paysCredit_26 : decode cX5_paysCredit 26 = .ok (.iadd, 1) := by decide +kernel
theorem dX5_paysCredit_27 : decode cX5_paysCredit 27 = .ok (.iaload, 1) := by decide +kernel
theorem dX5_paysCredit_28 : decode cX5_paysCredit 28 = .ok (.if_icmp .le 5, 3) := by decide +kernel
theorem dX5_paysCredit_31 : decode cX5_paysCredit 31 = .ok (.iconst 0, 1) := by decide +kernel
theorem dX5_paysCredit_32 : decode cX5_paysCredit 32 = .ok (.ireturn, 1) := by decide +kernel
theorem dX5_paysCredit_33 : decode cX5_paysCredit 33 = .ok (.aload_n 0, 1) := by decide +kernel
theorem dX5_paysCredit_34 : decode cX5_paysCredit 34 = .ok (.getfield 37, 3) := by decide +kernel
theorem dX5_paysCredit_37 : decode cX5_paysCredit 37 = .ok (.iload_n 2, 1) := by decide +kernel
theorem dX5_paysCredit_38 : decode cX5_paysCredit 38 = .ok (.bipush 8, 2) := by decide +kernel
theorem dX5_paysCredit_40 : decode cX5_paysCredit 40 = .ok (.imul, 1) := by decide +kernel
theorem dX5_paysCredit_41 : decode cX5_paysCredit 41 = .ok (.iload_n 3, 1) := by decide +kernel
theorem dX5_paysCredit_42 : decode cX5_paysCredit 42 = .ok (.iadd, 1) := by decide +kernel
theorem dX5_paysCredit_43 : decode cX5_paysCredit 43 = .ok (.dup2, 1) := by decide +kernel
theorem dX5_paysCredit_44 : decode cX5_paysCredit 44 = .ok (.iaload, 1) := by decide +kernel
theorem dX5_paysCredit_45 : decode cX5_paysCredit 45 = .ok (.iload 4, 2) := by decide +kernel
theorem dX5_paysCredit_47 : decode cX5_paysCredit 47 = .ok (.isub, 1) := by decide +kernel
theorem dX5_paysCredit_48 : decode cX5_paysCredit 48 = .ok (.iastore, 1) := by decide +kernel
theorem dX5_paysCredit_49 : decode cX5_paysCredit 49 = .ok (.iconst 1, 1) := by decide +kernel
theorem dX5_paysCredit_50 : decode cX5_paysCredit 50 = .ok (.ireturn, 1) := by decide +kernel
theorem dX5_spread_0 : decode cX5_spread 0 = .ok (.bipush 6, 2) := by decide +kernel
theorem dX5_spread_2 : decode cX5_spread 2 = .ok (.istore 5, 2) := by decide +kernel
theorem dX5_spread_4 : decode cX5_spread 4 = .ok (.iload 5, 2) := by decide +kernel
theorem dX5_spread_6 : decode cX5_spread 6 = .ok (.bipush 16, 2) := by decide +kernel
theorem dX5_spread_8 : decode cX5_spread 8 = .ok (.if_icmp .ge 96, 3) := by decide +kernel
theorem dX5_spread_11 : decode cX5_spread 11 = .ok (.iload_n 3, 1) := by decide +kernel
theorem dX5_spread_12 : decode cX5_spread 12 = .ok (.iload 5, 2) := by decide +kernel
theorem dX5_spread_14 : decode cX5_spread 14 = .ok (.ishr, 1) := by decide +kernel
theorem dX5_spread_15 : decode cX5_spread 15 = .ok (.iconst 1, 1) := by decide +kernel
theorem dX5_spread_16 : decode cX5_spread 16 = .ok (.iand, 1) := by decide +kernel
theorem dX5_spread_17 : decode cX5_spread 17 = .ok (.iconst 1, 1) := by decide +kernel
theorem dX5_spread_18 : decode cX5_spread 18 = .ok (.if_icmp .ne 80, 3) := by decide +kernel
theorem dX5_spread_21 : decode cX5_spread 21 = .ok (.iload_n 2, 1) := by decide +kernel
theorem dX5_spread_22 : decode cX5_spread 22 = .ok (.bipush 16, 2) := by decide +kernel
theorem dX5_spread_24 : decode cX5_spread 24 = .ok (.imul, 1) := by decide +kernel
theorem dX5_spread_25 : decode cX5_spread 25 = .ok (.iload 5, 2) := by decide +kernel
theorem dX5_spread_27 : decode cX5_spread 27 = .ok (.iadd, 1) := by decide +kernel
theorem dX5_spread_28 : decode cX5_spread 28 = .ok (.istore 6, 2) := by decide +kernel
theorem dX5_spread_30 : decode cX5_spread 30 = .ok (.aload_n 0, 1) := by decide +kernel
theorem dX5_spread_31 : decode cX5_spread 31 = .ok (.getfield 46, 3) := by decide +kernel
theorem dX5_spread_34 : decode cX5_spread 34 = .ok (.aload_n 1, 1) := by decide +kernel
theorem dX5_spread_35 : decode cX5_spread 35 = .ok (.getfield 188, 3) := by decide +kernel
theorem dX5_spread_38 : decode cX5_spread 38 = .ok (.iload 6, 2) := by decide +kernel
theorem dX5_spread_40 : decode cX5_spread 40 = .ok (.aload_n 0, 1) := by decide +kernel
theorem dX5_spread_41 : decode cX5_spread 41 = .ok (.getfield 46, 3) := by decide +kernel
theorem dX5_spread_44 : decode cX5_spread 44 = .ok (.getfield 156, 3) := by decide +kernel
theorem dX5_spread_47 : decode cX5_spread 47 = .ok (.iload 4, 2) := by decide +kernel
theorem dX5_spread_49 : decode cX5_spread 49 = .ok (.iaload, 1) := by decide +kernel
theorem dX5_spread_50 : decode cX5_spread 50 = .ok (.aload_n 0, 1) := by decide +kernel
theorem dX5_spread_51 : decode cX5_spread 51 = .ok (.getfield 46, 3) := by decide +kernel
theorem dX5_spread_54 : decode cX5_spread 54 = .ok (.getfield 162, 3) := by decide +kernel
theorem dX5_spread_57 : decode cX5_spread 57 = .ok (.iload 4, 2) := by decide +kernel
theorem dX5_spread_59 : decode cX5_spread 59 = .ok (.iaload, 1) := by decide +kernel
theorem dX5_spread_60 : decode cX5_spread 60 = .ok (.aload_n 0, 1) := by decide +kernel
theorem dX5_spread_61 : decode cX5_spread 61 = .ok (.getfield 46, 3) := by decide +kernel
theorem dX5_spread_64 : decode cX5_spread 64 = .ok (.getfield 163, 3) := by decide +kernel
theorem dX5_spread_67 : decode cX5_spread 67 = .ok (.iload 4, 2) := by decide +kernel
theorem dX5_spread_69 : decode cX5_spread 69 = .ok (.iaload, 1) := by decide +kernel
theorem dX5_spread_70 : decode cX5_spread 70 = .ok (.invokevirtual 191, 3) := by decide +kernel
theorem dX5_spread_73 : decode cX5_spread 73 = .ok (.istore 7, 2) := by decide +kernel
theorem dX5_spread_75 : decode cX5_spread 75 = .ok (.aload_n 0, 1) := by decide +kernel
theorem dX5_spread_76 : decode cX5_spread 76 = .ok (.getfield 19, 3) := by decide +kernel
theorem dX5_spread_79 : decode cX5_spread 79 = .ok (.iload_n 2, 1) := by decide +kernel
theorem dX5_spread_80 : decode cX5_spread 80 = .ok (.iconst 3, 1) := by decide +kernel
theorem dX5_spread_81 : decode cX5_spread 81 = .ok (.imul, 1) := by decide +kernel
theorem dX5_spread_82 : decode cX5_spread 82 = .ok (.iconst 0, 1) := by decide +kernel
theorem dX5_spread_83 : decode cX5_spread 83 = .ok (.iadd, 1) := by decide +kernel
theorem dX5_spread_84 : decode cX5_spread 84 = .ok (.dup2, 1) := by decide +kernel
theorem dX5_spread_85 : decode cX5_spread 85 = .ok (.iaload, 1) := by decide +kernel
theorem dX5_spread_86 : decode cX5_spread 86 = .ok (.iload 7, 2) := by decide +kernel
theorem dX5_spread_88 : decode cX5_spread 88 = .ok (.ifCond .eq 7, 3) := by decide +kernel
theorem dX5_spread_91 : decode cX5_spread 91 = .ok (.iconst 0, 1) := by decide +kernel
theorem dX5_spread_92 : decode cX5_spread 92 = .ok (.goto 4, 3) := by decide +kernel
theorem dX5_spread_95 : decode cX5_spread 95 = .ok (.iconst 1, 1) := by decide +kernel
theorem dX5_spread_96 : decode cX5_spread 96 = .ok (.iadd, 1) := by decide +kernel
theorem dX5_spread_97 : decode cX5_spread 97 = .ok (.iastore, 1) := by decide +kernel
theorem dX5_spread_98 : decode cX5_spread 98 = .ok (.iinc 5 1, 3) := by decide +kernel
theorem dX5_spread_101 : decode cX5_spread 101 = .ok (.goto (-97), 3) := by decide +kernel
theorem dX5_spread_104 : decode cX5_spread 104 = .ok (.return_, 1) := by decide +kernel
theorem dX5_release_0 : decode cX5_release 0 = .ok (.iconst 0, 1) := by decide +kernel
theorem dX5_release_1 : decode cX5_release 1 = .ok (.istore_n 2, 1) := by decide +kernel
theorem dX5_release_2 : decode cX5_release 2 = .ok (.iload_n 2, 1) := by decide +kernel
theorem dX5_release_3 : decode cX5_release 3 = .ok (.aload_n 1, 1) := by decide +kernel
theorem dX5_release_4 : decode cX5_release 4 = .ok (.getfield 63, 3) := by decide +kernel
theorem dX5_release_7 : decode cX5_release 7 = .ok (.if_icmp .ge 65, 3) := by decide +kernel
theorem dX5_release_10 : decode cX5_release 10 = .ok (.aload_n 0, 1) := by decide +kernel
theorem dX5_release_11 : decode cX5_release 11 = .ok (.getfield 22, 3) := by decide +kernel
theorem dX5_release_14 : decode cX5_release 14 = .ok (.iload_n 2, 1) := by decide +kernel
theorem dX5_release_15 : decode cX5_release 15 = .ok (.iaload, 1) := by decide +kernel
theorem dX5_release_16 : decode cX5_release 16 = .ok (.ifCond .le 50, 3) := by decide +kernel
theorem dX5_release_19 : decode cX5_release 19 = .ok (.aload_n 0, 1) := by decide +kernel
theorem dX5_release_20 : decode cX5_release 20 = .ok (.getfield 25, 3) := by decide +kernel
theorem dX5_release_23 : decode cX5_release 23 = .ok (.iload_n 2, 1) := by decide +kernel
theorem dX5_release_24 : decode cX5_release 24 = .ok (.iaload, 1) := by decide +kernel
theorem dX5_release_25 : decode cX5_release 25 = .ok (.aload_n 0, 1) := by decide +kernel
theorem dX5_release_26 : decode cX5_release 26 = .ok (.getfield 9, 3) := by decide +kernel
theorem dX5_release_29 : decode cX5_release 29 = .ok (.if_icmp .gt 37, 3) := by decide +kernel
theorem dX5_release_32 : decode cX5_release 32 = .ok (.aload_n 0, 1) := by decide +kernel
theorem dX5_release_33 : decode cX5_release 33 = .ok (.getfield 22, 3) := by decide +kernel
theorem dX5_release_36 : decode cX5_release 36 = .ok (.iload_n 2, 1) := by decide +kernel
theorem dX5_release_37 : decode cX5_release 37 = .ok (.dup2, 1) := by decide +kernel
theorem dX5_release_38 : decode cX5_release 38 = .ok (.iaload, 1) := by decide +kernel
theorem dX5_release_39 : decode cX5_release 39 = .ok (.iconst 1, 1) := by decide +kernel
theorem dX5_release_40 : decode cX5_release 40 = .ok (.isub, 1) := by decide +kernel
theorem dX5_release_41 : decode cX5_release 41 = .ok (.iastore, 1) := by decide +kernel
theorem dX5_release_42 : decode cX5_release 42 = .ok (.aload_n 0, 1) := by decide +kernel
theorem dX5_release_43 : decode cX5_release 43 = .ok (.aload_n 1, 1) := by decide +kernel
theorem dX5_release_44 : decode cX5_release 44 = .ok (.iload_n 2, 1) := by decide +kernel
theorem dX5_release_45 : decode cX5_release 45 = .ok (.invokevirtual 195, 3) := by decide +kernel
theorem dX5_release_48 : decode cX5_release 48 = .ok (.pop, 1) := by decide +kernel
theorem dX5_release_49 : decode cX5_release 49 = .ok (.aload_n 0, 1) := by decide +kernel
theorem dX5_release_50 : decode cX5_release 50 = .ok (.getfield 25, 3) := by decide +kernel
theorem dX5_release_53 : decode cX5_release 53 = .ok (.iload_n 2, 1) := by decide +kernel
theorem dX5_release_54 : decode cX5_release 54 = .ok (.aload_n 0, 1) := by decide +kernel
theorem dX5_release_55 : decode cX5_release 55 = .ok (.getfield 9, 3) := by decide +kernel
theorem dX5_release_58 : decode cX5_release 58 = .ok (.aload_n 1, 1) := by decide +kernel
theorem dX5_release_59 : decode cX5_release 59 = .ok (.getfield 185, 3) := by decide +kernel
theorem dX5_release_62 : decode cX5_release 62 = .ok (.iload_n 2, 1) := by decide +kernel
theorem dX5_release_63 : decode cX5_release 63 = .ok (.iaload, 1) := by decide +kernel
theorem dX5_release_64 : decode cX5_release 64 = .ok (.iadd, 1) := by decide +kernel
theorem dX5_release_65 : decode cX5_release 65 = .ok (.iastore, 1) := by decide +kernel
theorem dX5_release_66 : decode cX5_release 66 = .ok (.iinc 2 1, 3) := by decide +kernel
theorem dX5_release_69 : decode cX5_release 69 = .ok (.goto (-67), 3) := by decide +kernel
theorem dX5_release_72 : decode cX5_release 72 = .ok (.return_, 1) := by decide +kernel
theorem dX5_bear_0 : decode cX5_bear 0 = .ok (.iconst 0, 1) := by decide +kernel
theorem dX5_bear_1 : decode cX5_bear 1 = .ok (.istore_n 3, 1) := by decide +kernel
theorem dX5_bear_2 : decode cX5_bear 2 = .ok (.iconst 0, 1) := by decide +kernel
theorem dX5_bear_3 : decode cX5_bear 3 = .ok (.istore 4, 2) := by decide +kernel
theorem dX5_bear_5 : decode cX5_bear 5 = .ok (.iload 4, 2) := by decide +kernel
theorem dX5_bear_7 : decode cX5_bear 7 = .ok (.iconst 2, 1) := by decide +kernel
theorem dX5_bear_8 : decode cX5_bear 8 = .ok (.if_icmp .ge 82, 3) := by decide +kernel
theorem dX5_bear_11 : decode cX5_bear 11 = .ok (.aload_n 0, 1) := by decide +kernel
theorem dX5_bear_12 : decode cX5_bear 12 = .ok (.getfield 46, 3) := by decide +kernel
theorem dX5_bear_15 : decode cX5_bear 15 = .ok (.aload_n 1, 1) := by decide +kernel
theorem dX5_bear_16 : decode cX5_bear 16 = .ok (.getfield 188, 3) := by decide +kernel
theorem dX5_bear_19 : decode cX5_bear 19 = .ok (.iload 4, 2) := by decide +kernel
theorem dX5_bear_21 : decode cX5_bear 21 = .ok (.bipush 16, 2) := by decide +kernel
theorem dX5_bear_23 : decode cX5_bear 23 = .ok (.imul, 1) := by decide +kernel
theorem dX5_bear_24 : decode cX5_bear 24 = .ok (.aload_n 1, 1) := by decide +kernel
theorem dX5_bear_25 : decode cX5_bear 25 = .ok (.getfield 94, 3) := by decide +kernel
theorem dX5_bear_28 : decode cX5_bear 28 = .ok (.iload_n 2, 1) := by decide +kernel
theorem dX5_bear_29 : decode cX5_bear 29 = .ok (.iaload, 1) := by decide +kernel
theorem dX5_bear_30 : decode cX5_bear 30 = .ok (.iadd, 1) := by decide +kernel
theorem dX5_bear_31 : decode cX5_bear 31 = .ok (.iload_n 2, 1) := by decide +kernel
theorem dX5_bear_32 : decode cX5_bear 32 = .ok (.aload_n 0, 1) := by decide +kernel
theorem dX5_bear_33 : decode cX5_bear 33 = .ok (.getfield 28, 3) := by decide +kernel
theorem dX5_bear_36 : decode cX5_bear 36 = .ok (.iload_n 2, 1) := by decide +kernel
theorem dX5_bear_37 : decode cX5_bear 37 = .ok (.iaload, 1) := by decide +kernel
theorem dX5_bear_38 : decode cX5_bear 38 = .ok (.aload_n 0, 1) := by decide +kernel
theorem dX5_bear_39 : decode cX5_bear 39 = .ok (.getfield 9, 3) := by decide +kernel
theorem dX5_bear_42 : decode cX5_bear 42 = .ok (.invokevirtual 191, 3) := by decide +kernel
theorem dX5_bear_45 : decode cX5_bear 45 = .ok (.istore 5, 2) := by decide +kernel
theorem dX5_bear_47 : decode cX5_bear 47 = .ok (.aload_n 0, 1) := by decide +kernel
theorem dX5_bear_48 : decode cX5_bear 48 = .ok (.getfield 19, 3) := by decide +kernel
theorem dX5_bear_51 : decode cX5_bear 51 = .ok (.iload 4, 2) := by decide +kernel
theorem dX5_bear_53 : decode cX5_bear 53 = .ok (.iconst 3, 1) := by decide +kernel
theorem dX5_bear_54 : decode cX5_bear 54 = .ok (.imul, 1) := by decide +kernel
theorem dX5_bear_55 : decode cX5_bear 55 = .ok (.iconst 0, 1) := by decide +kernel
theorem dX5_bear_56 : decode cX5_bear 56 = .ok (.iadd, 1) := by decide +kernel
theorem dX5_bear_57 : decode cX5_bear 57 = .ok (.dup2, 1) := by decide +kernel
theorem dX5_bear_58 : decode cX5_bear 58 = .ok (.iaload, 1) := by decide +kernel
theorem dX5_bear_59 : decode cX5_bear 59 = .ok (.iload 5, 2) := by decide +kernel
theorem dX5_bear_61 : decode cX5_bear 61 = .ok (.ifCond .eq 7, 3) := by decide +kernel
theorem dX5_bear_64 : decode cX5_bear 64 = .ok (.iconst 0, 1) := by decide +kernel
theorem dX5_bear_65 : decode cX5_bear 65 = .ok (.goto 4, 3) := by decide +kernel
theorem dX5_bear_68 : decode cX5_bear 68 = .ok (.iconst 1, 1) := by decide +kernel
theorem dX5_bear_69 : decode cX5_bear 69 = .ok (.iadd, 1) := by decide +kernel
theorem dX5_bear_70 : decode cX5_bear 70 = .ok (.iastore, 1) := by decide +kernel
theorem dX5_bear_71 : decode cX5_bear 71 = .ok (.iload_n 3, 1) := by decide +kernel
theorem dX5_bear_72 : decode cX5_bear 72 = .ok (.iload 5, 2) := by decide +kernel
theorem dX5_bear_74 : decode cX5_bear 74 = .ok (.ifCond .eq 7, 3) := by decide +kernel
theorem dX5_bear_77 : decode cX5_bear 77 = .ok (.iconst 0, 1) := by decide +kernel
theorem dX5_bear_78 : decode cX5_bear 78 = .ok (.goto 4, 3) := by decide +kernel
theorem dX5_bear_81 : decode cX5_bear 81 = .ok (.iconst 1, 1) := by decide +kernel
theorem dX5_bear_82 : decode cX5_bear 82 = .ok (.iadd, 1) := by decide +kernel
theorem dX5_bear_83 : decode cX5_bear 83 = .ok (.istore_n 3, 1) := by decide +kernel
theorem dX5_bear_84 : decode cX5_bear 84 = .ok (.iinc 4 1, 3) := by decide +kernel
theorem dX5_bear_87 : decode cX5_bear 87 = .ok (.goto (-82), 3) := by decide +kernel
theorem dX5_bear_90 : decode cX5_bear 90 = .ok (.aload_n 0, 1) := by decide +kernel
theorem dX5_bear_91 : decode cX5_bear 91 = .ok (.getfield 28, 3) := by decide +kernel
theorem dX5_bear_94 : decode cX5_bear 94 = .ok (.iload_n 2, 1) := by decide +kernel
theorem dX5_bear_95 : decode cX5_bear 95 = .ok (.aload_n 0, 1) := by decide +kernel
theorem dX5_bear_96 : decode cX5_bear 96 = .ok (.getfield 28, 3) := by decide +kernel
theorem dX5_bear_99 : decode cX5_bear 99 = .ok (.iload_n 2, 1) := by decide +kernel
theorem dX5_bear_100 : decode cX5_bear 100 = .ok (.iaload, 1) := by decide +kernel
theorem dX5_bear_101 : decode cX5_bear 101 = .ok (.invokestatic 198, 3) := by decide +kernel
theorem dX5_bear_104 : decode cX5_bear 104 = .ok (.iastore, 1) := by decide +kernel
theorem dX5_bear_105 : decode cX5_bear 105 = .ok (.aload_n 0, 1) := by decide +kernel
theorem dX5_bear_106 : decode cX5_bear 106 = .ok (.getfield 31, 3) := by decide +kernel
theorem dX5_bear_109 : decode cX5_bear 109 = .ok (.iload_n 2, 1) := by decide +kernel
theorem dX5_bear_110 : decode cX5_bear 110 = .ok (.dup2, 1) := by decide +kernel
theorem dX5_bear_111 : decode cX5_bear 111 = .ok (.iaload, 1) := by decide +kernel
theorem dX5_bear_112 : decode cX5_bear 112 = .ok (.iconst 1, 1) := by decide +kernel
theorem dX5_bear_113 : decode cX5_bear 113 = .ok (.iadd, 1) := by decide +kernel
theorem dX5_bear_114 : decode cX5_bear 114 = .ok (.iastore, 1) := by decide +kernel
theorem dX5_bear_115 : decode cX5_bear 115 = .ok (.iload_n 3, 1) := by decide +kernel
theorem dX5_bear_116 : decode cX5_bear 116 = .ok (.ireturn, 1) := by decide +kernel
theorem dX5_beginSending_0 : decode cX5_beginSending 0 = .ok (.iconst 0, 1) := by decide +kernel
theorem dX5_beginSending_1 : decode cX5_beginSending 1 = .ok (.istore_n 2, 1) := by decide +kernel
theorem dX5_beginSending_2 : decode cX5_beginSending 2 = .ok (.iload_n 2, 1) := by decide +kernel
theorem dX5_beginSending_3 : decode cX5_beginSending 3 = .ok (.bipush 32, 2) := by decide +kernel
theorem dX5_beginSending_5 : decode cX5_beginSending 5 = .ok (.if_icmp .ge 114, 3) := by decide +kernel
theorem dX5_beginSending_8 : decode cX5_beginSending 8 = .ok (.aload_n 0, 1) := by decide +kernel
theorem dX5_beginSending_9 : decode cX5_beginSending 9 = .ok (.getfield 46, 3) := by decide +kernel
theorem dX5_beginSending_12 : decode cX5_beginSending 12 = .ok (.getfield 201, 3) := by decide +kernel
theorem dX5_beginSending_15 : decode cX5_beginSending 15 = .ok (.iload_n 2, 1) := by decide +kernel
theorem dX5_beginSending_16 : decode cX5_beginSending 16 = .ok (.iaload, 1) := by decide +kernel
theorem dX5_beginSending_17 : decode cX5_beginSending 17 = .ok (.ifCond .le 96, 3) := by decide +kernel
theorem dX5_beginSending_20 : decode cX5_beginSending 20 = .ok (.aload_n 0, 1) := by decide +kernel
theorem dX5_beginSending_21 : decode cX5_beginSending 21 = .ok (.getfield 46, 3) := by decide +kernel
theorem dX5_beginSending_24 : decode cX5_beginSending 24 = .ok (.iload_n 2, 1) := by decide +kernel
theorem dX5_beginSending_25 : decode cX5_beginSending 25 = .ok (.invokevirtual 204, 3) := by decide +kernel
theorem dX5_beginSending_28 : decode cX5_beginSending 28 = .ok (.ifCond .ne 85, 3) := by decide +kernel
theorem dX5_beginSending_31 : decode cX5_beginSending 31 = .ok (.aload_n 0, 1) := by decide +kernel
theorem dX5_beginSending_32 : decode cX5_beginSending 32 = .ok (.getfield 46, 3) := by decide +kernel
theorem dX5_beginSending_35 : decode cX5_beginSending 35 = .ok (.iload_n 2, 1) := by decide +kernel
theorem dX5_beginSending_36 : decode cX5_beginSending 36 = .ok (.iconst 0, 1) := by decide +kernel
theorem dX5_beginSending_37 : decode cX5_beginSending 37 = .ok (.invokevirtual 138, 3) := by decide +kernel
theorem dX5_beginSending_40 : decode cX5_beginSending 40 = .ok (.istore_n 3, 1) := by decide +kernel
theorem dX5_beginSending_41 : decode cX5_beginSending 41 = .ok (.aload_n 0, 1) := by decide +kernel
theorem dX5_beginSending_42 : decode cX5_beginSending 42 = .ok (.getfield 46, 3) := by decide +kernel
theorem dX5_beginSending_45 : decode cX5_beginSending 45 = .ok (.getfield 156, 3) := by decide +kernel
theorem dX5_beginSending_48 : decode cX5_beginSending 48 = .ok (.iload_n 3, 1) := by decide +kernel
theorem dX5_beginSending_49 : decode cX5_beginSending 49 = .ok (.iaload, 1) := by decide +kernel
theorem dX5_beginSending_50 : decode cX5_beginSending 50 = .ok (.istore 4, 2) := by decide +kernel
theorem dX5_beginSending_52 : decode cX5_beginSending 52 = .ok (.aload_n 0, 1) := by decide +kernel
theorem dX5_beginSending_53 : decode cX5_beginSending 53 = .ok (.getfield 46, 3) := by decide +kernel
theorem dX5_beginSending_56 : decode cX5_beginSending 56 = .ok (.getfield 135, 3) := by decide +kernel
theorem dX5_beginSending_59 : decode cX5_beginSending 59 = .ok (.iload_n 2, 1) := by decide +kernel
theorem dX5_beginSending_60 : decode cX5_beginSending 60 = .ok (.aload_n 0, 1) := by decide +kernel
theorem dX5_beginSending_61 : decode cX5_beginSending 61 = .ok (.getfield 9, 3) := by decide +kernel
theorem dX5_beginSending_64 : decode cX5_beginSending 64 = .ok (.aload_n 1, 1) := by decide +kernel
theorem dX5_beginSending_65 : decode cX5_beginSending 65 = .ok (.getfield 132, 3) := by decide +kernel
theorem dX5_beginSending_68 : decode cX5_beginSending 68 = .ok (.iload 4, 2) := by decide +kernel
theorem dX5_beginSending_70 : decode cX5_beginSending 70 = .ok (.iaload, 1) := by decide +kernel
theorem dX5_beginSending_71 : decode cX5_beginSending 71 = .ok (.iadd, 1) := by decide +kernel
theorem dX5_beginSending_72 : decode cX5_beginSending 72 = .ok (.iastore, 1) := by decide +kernel
theorem dX5_beginSending_73 : decode cX5_beginSending 73 = .ok (.iload_n 2, 1) := by decide +kernel
theorem dX5_beginSending_74 : decode cX5_beginSending 74 = .ok (.bipush 16, 2) := by decide +kernel
theorem dX5_beginSending_76 : decode cX5_beginSending 76 = .ok (.irem, 1) := by decide +kernel
theorem dX5_beginSending_77 : decode cX5_beginSending 77 = .ok (.bipush 6, 2) := by decide +kernel
theorem dX5_beginSending_79 : decode cX5_beginSending 79 = .ok (.if_icmp .ge 34, 3) := by decide +kernel
theorem dX5_beginSending_82 : decode cX5_beginSending 82 = .ok (.aload_n 0, 1) := by decide +kernel
theorem dX5_beginSending_83 : decode cX5_beginSending 83 = .ok (.getfield 34, 3) := by decide +kernel
theorem dX5_beginSending_86 : decode cX5_beginSending 86 = .ok (.iload 4, 2) := by decide +kernel
theorem dX5_beginSending_88 : decode cX5_beginSending 88 = .ok (.aload_n 0, 1) := by decide +kernel
theorem dX5_beginSending_89 : decode cX5_beginSending 89 = .ok (.getfield 34, 3) := by decide +kernel
theorem dX5_beginSending_92 : decode cX5_beginSending 92 = .ok (.iload 4, 2) := by decide +kernel
theorem dX5_beginSending_94 : decode cX5_beginSending 94 = .ok (.iaload, 1) := by decide +kernel
theorem dX5_beginSending_95 : decode cX5_beginSending 95 = .ok (.aload_n 0, 1) := by decide +kernel
theorem dX5_beginSending_96 : decode cX5_beginSending 96 = .ok (.getfield 9, 3) := by decide +kernel
theorem dX5_beginSending_99 : decode cX5_beginSending 99 = .ok (.aload_n 0, 1) := by decide +kernel
theorem dX5_beginSending_100 : decode cX5_beginSending 100 = .ok (.getfield 46, 3) := by decide +kernel
theorem dX5_beginSending_103 : decode cX5_beginSending 103 = .ok (.getfield 163, 3) := by decide +kernel
theorem dX5_beginSending_106 : decode cX5_beginSending 106 = .ok (.iload_n 3, 1) := by decide +kernel
theorem dX5_beginSending_107 : decode cX5_beginSending 107 = .ok (.iaload, 1) := by decide +kernel
theorem dX5_beginSending_108 : decode cX5_beginSending 108 = .ok (.isub, 1) := by decide +kernel
theorem dX5_beginSending_109 : decode cX5_beginSending 109 = .ok (.invokestatic 105, 3) := by decide +kernel
theorem dX5_beginSending_112 : decode cX5_beginSending 112 = .ok (.iastore, 1) := by decide +kernel
theorem dX5_beginSending_113 : decode cX5_beginSending 113 = .ok (.iinc 2 1, 3) := by decide +kernel
theorem dX5_beginSending_116 : decode cX5_beginSending 116 = .ok (.goto (-114), 3) := by decide +kernel
theorem dX5_beginSending_119 : decode cX5_beginSending 119 = .ok (.return_, 1) := by decide +kernel
theorem dX6_init_0 : decode cX6_init 0 = .ok (.aload_n 0, 1) := by decide +kernel
theorem dX6_init_1 : decode cX6_init 1 = .ok (.invokespecial 3, 3) := by decide +kernel
theorem dX6_init_4 : decode cX6_init 4 = .ok (.aload_n 0, 1) := by decide +kernel
theorem dX6_init_5 : decode cX6_init 5 = .ok (.bipush 96, 2) := by decide +kernel
theorem dX6_init_7 : decode cX6_init 7 = .ok (.newarray .int, 2) := by decide +kernel
theorem dX6_init_9 : decode cX6_init 9 = .ok (.putfield 9, 3) := by decide +kernel
theorem dX6_init_12 : decode cX6_init 12 = .ok (.aload_n 0, 1) := by decide +kernel
theorem dX6_init_13 : decode cX6_init 13 = .ok (.bipush 24, 2) := by decide +kernel
theorem dX6_init_15 : decode cX6_init 15 = .ok (.newarray .int, 2) := by decide +kernel
theorem dX6_init_17 : decode cX6_init 17 = .ok (.putfield 15, 3) := by decide +kernel
theorem dX6_init_20 : decode cX6_init 20 = .ok (.aload_n 0, 1) := by decide +kernel
theorem dX6_init_21 : decode cX6_init 21 = .ok (.bipush 16, 2) := by decide +kernel
theorem dX6_init_23 : decode cX6_init 23 = .ok (.newarray .int, 2) := by decide +kernel
theorem dX6_init_25 : decode cX6_init 25 = .ok (.putfield 18, 3) := by decide +kernel
theorem dX6_init_28 : decode cX6_init 28 = .ok (.aload_n 0, 1) := by decide +kernel
theorem dX6_init_29 : decode cX6_init 29 = .ok (.sipush 128, 3) := by decide +kernel
theorem dX6_init_32 : decode cX6_init 32 = .ok (.newarray .int, 2) := by decide +kernel
theorem dX6_init_34 : decode cX6_init 34 = .ok (.putfield 21, 3) := by decide +kernel
theorem dX6_init_37 : decode cX6_init 37 = .ok (.aload_n 0, 1) := by decide +kernel
theorem dX6_init_38 : decode cX6_init 38 = .ok (.sipush 128, 3) := by decide +kernel
theorem dX6_init_41 : decode cX6_init 41 = .ok (.newarray .int, 2) := by decide +kernel
theorem dX6_init_43 : decode cX6_init 43 = .ok (.putfield 24, 3) := by decide +kernel
theorem dX6_init_46 : decode cX6_init 46 = .ok (.return_, 1) := by decide +kernel
theorem dX6_lay_0 : decode cX6_lay 0 = .ok (.aload_n 0, 1) := by decide +kernel
theorem dX6_lay_1 : decode cX6_lay 1 = .ok (.getfield 15, 3) := by decide +kernel
theorem dX6_lay_4 : decode cX6_lay 4 = .ok (.iconst 0, 1) := by decide +kernel
theorem dX6_lay_5 : decode cX6_lay 5 = .ok (.invokestatic 27, 3) := by decide +kernel
theorem dX6_lay_8 : decode cX6_lay 8 = .ok (.aload_n 0, 1) := by decide +kernel
theorem dX6_lay_9 : decode cX6_lay 9 = .ok (.getfield 18, 3) := by decide +kernel
theorem dX6_lay_12 : decode cX6_lay 12 = .ok (.iconst 0, 1) := by decide +kernel
theorem dX6_lay_13 : decode cX6_lay 13 = .ok (.invokestatic 27, 3) := by decide +kernel
theorem dX6_lay_16 : decode cX6_lay 16 = .ok (.aload_n 0, 1) := by decide +kernel
theorem dX6_lay_17 : decode cX6_lay 17 = .ok (.getfield 21, 3) := by decide +kernel
theorem dX6_lay_20 : decode cX6_lay 20 = .ok (.iconst 0, 1) := by decide +kernel
theorem dX6_lay_21 : decode cX6_lay 21 = .ok (.invokestatic 27, 3) := by decide +kernel
theorem dX6_lay_24 : decode cX6_lay 24 = .ok (.aload_n 0, 1) := by decide +kernel
theorem dX6_lay_25 : decode cX6_lay 25 = .ok (.getfield 24, 3) := by decide +kernel
