theorem dX8_doStored_313 : decode cX8_doStored 313 = .ok (.ifCond .eq 10, 3) := by decide +kernel
theorem dX8_doStored_316 : decode cX8_doStored 316 = .ok (.aload_n 0, 1) := by decide +kernel
theorem dX8_doStored_317 : decode cX8_doStored 317 = .ok (.iload_n 1, 1) := by decide +kernel
theorem dX8_doStored_318 : decode cX8_doStored 318 = .ok (.iload_n 2, 1) := by decide +kernel
theorem dX8_doStored_319 : decode cX8_doStored 319 = .ok (.iload_n 3, 1) := by decide +kernel
theorem dX8_doStored_320 : decode cX8_doStored 320 = .ok (.invokevirtual 196, 3) := by decide +kernel
theorem dX8_doStored_323 : decode cX8_doStored 323 = .ok (.return_, 1) := by decide +kernel
theorem dX8_several_0 : decode cX8_several 0 = .ok (.aload_n 0, 1) := by decide +kernel
theorem dX8_several_1 : decode cX8_several 1 = .ok (.iload 4, 2) := by decide +kernel
theorem dX8_several_3 : decode cX8_several 3 = .ok (.iconst 4, 1) := by decide +kernel
theorem dX8_several_4 : decode cX8_several 4 = .ok (.iload_n 3, 1) := by decide +kernel
theorem dX8_several_5 : decode cX8_several 5 = .ok (.imul, 1) := by decide +kernel
theorem dX8_several_6 : decode cX8_several 6 = .ok (.iconst 4, 1) := by decide +kernel
theorem dX8_several_7 : decode cX8_several 7 = .ok (.iload_n 1, 1) := by decide +kernel
theorem dX8_several_8 : decode cX8_several 8 = .ok (.invokevirtual 158, 3) := by decide +kernel
theorem dX8_several_11 : decode cX8_several 11 = .ok (.ifCond .ne 4, 3) := by decide +kernel
theorem dX8_several_14 : decode cX8_several 14 = .ok (.return_, 1) := by decide +kernel
theorem dX8_several_15 : decode cX8_several 15 = .ok (.iconst 0, 1) := by decide +kernel
theorem dX8_several_16 : decode cX8_several 16 = .ok (.istore 5, 2) := by decide +kernel
theorem dX8_several_18 : decode cX8_several 18 = .ok (.iload 5, 2) := by decide +kernel
theorem dX8_several_20 : decode cX8_several 20 = .ok (.iload_n 3, 1) := by decide +kernel
theorem dX8_several_21 : decode cX8_several 21 = .ok (.if_icmp .ge 63, 3) := by decide +kernel
theorem dX8_several_24 : decode cX8_several 24 = .ok (.iload_n 2, 1) := by decide +kernel
theorem dX8_several_25 : decode cX8_several 25 = .ok (.iload 5, 2) := by decide +kernel
theorem dX8_several_27 : decode cX8_several 27 = .ok (.iadd, 1) := by decide +kernel
theorem dX8_several_28 : decode cX8_several 28 = .ok (.bipush 16, 2) := by decide +kernel
theorem dX8_several_30 : decode cX8_several 30 = .ok (.irem, 1) := by decide +kernel
theorem dX8_several_31 : decode cX8_several 31 = .ok (.istore 6, 2) := by decide +kernel
theorem dX8_several_33 : decode cX8_several 33 = .ok (.iload_n 1, 1) := by decide +kernel
theorem dX8_several_34 : decode cX8_several 34 = .ok (.ifCond .eq 25, 3) := by decide +kernel
theorem dX8_several_37 : decode cX8_several 37 = .ok (.aload_n 0, 1) := by decide +kernel
theorem dX8_several_38 : decode cX8_several 38 = .ok (.iload 4, 2) := by decide +kernel
theorem dX8_several_40 : decode cX8_several 40 = .ok (.iconst 4, 1) := by decide +kernel
theorem dX8_several_41 : decode cX8_several 41 = .ok (.iload 5, 2) := by decide +kernel
theorem dX8_several_43 : decode cX8_several 43 = .ok (.imul, 1) := by decide +kernel
theorem dX8_several_44 : decode cX8_several 44 = .ok (.iadd, 1) := by decide +kernel
theorem dX8_several_45 : decode cX8_several 45 = .ok (.aload_n 0, 1) := by decide +kernel
theorem dX8_several_46 : decode cX8_several 46 = .ok (.getfield 16, 3) := by decide +kernel
theorem dX8_several_49 : decode cX8_several 49 = .ok (.iload 6, 2) := by decide +kernel
theorem dX8_several_51 : decode cX8_several 51 = .ok (.iaload, 1) := by decide +kernel
theorem dX8_several_52 : decode cX8_several 52 = .ok (.iconst 4, 1) := by decide +kernel
theorem dX8_several_53 : decode cX8_several 53 = .ok (.invokevirtual 55, 3) := by decide +kernel
theorem dX8_several_56 : decode cX8_several 56 = .ok (.goto 22, 3) := by decide +kernel
theorem dX8_several_59 : decode cX8_several 59 = .ok (.aload_n 0, 1) := by decide +kernel
theorem dX8_several_60 : decode cX8_several 60 = .ok (.getfield 16, 3) := by decide +kernel
theorem dX8_several_63 : decode cX8_several 63 = .ok (.iload 6, 2) := by decide +kernel
theorem dX8_several_65 : decode cX8_several 65 = .ok (.aload_n 0, 1) := by decide +kernel
theorem dX8_several_66 : decode cX8_several 66 = .ok (.iload 4, 2) := by decide +kernel
theorem dX8_several_68 : decode cX8_several 68 = .ok (.iconst 4, 1) := by decide +kernel
theorem dX8_several_69 : decode cX8_several 69 = .ok (.iload 5, 2) := by decide +kernel
theorem dX8_several_71 : decode cX8_several 71 = .ok (.imul, 1) := by decide +kernel
theorem dX8_several_72 : decode cX8_several 72 = .ok (.iadd, 1) := by decide +kernel
theorem dX8_several_73 : decode cX8_several 73 = .ok (.iconst 4, 1) := by decide +kernel
theorem dX8_several_74 : decode cX8_several 74 = .ok (.invokevirtual 66, 3) := by decide +kernel
theorem dX8_several_77 : decode cX8_several 77 = .ok (.iastore, 1) := by decide +kernel
theorem dX8_several_78 : decode cX8_several 78 = .ok (.iinc 5 1, 3) := by decide +kernel
theorem dX8_several_81 : decode cX8_several 81 = .ok (.goto (-63), 3) := by decide +kernel
theorem dX8_several_84 : decode cX8_several 84 = .ok (.return_, 1) := by decide +kernel
theorem dX8_single_0 : decode cX8_single 0 = .ok (.aload_n 0, 1) := by decide +kernel
theorem dX8_single_1 : decode cX8_single 1 = .ok (.getfield 7, 3) := by decide +kernel
theorem dX8_single_4 : decode cX8_single 4 = .ok (.iload_n 3, 1) := by decide +kernel
theorem dX8_single_5 : decode cX8_single 5 = .ok (.iaload, 1) := by decide +kernel
theorem dX8_single_6 : decode cX8_single 6 = .ok (.istore 4, 2) := by decide +kernel
theorem dX8_single_8 : decode cX8_single 8 = .ok (.iload_n 1, 1) := by decide +kernel
theorem dX8_single_9 : decode cX8_single 9 = .ok (.sipush 145, 3) := by decide +kernel
theorem dX8_single_12 : decode cX8_single 12 = .ok (.if_icmp .ne 34, 3) := by decide +kernel
theorem dX8_single_15 : decode cX8_single 15 = .ok (.aload_n 0, 1) := by decide +kernel
theorem dX8_single_16 : decode cX8_single 16 = .ok (.iload 4, 2) := by decide +kernel
theorem dX8_single_18 : decode cX8_single 18 = .ok (.iload_n 2, 1) := by decide +kernel
theorem dX8_single_19 : decode cX8_single 19 = .ok (.iand, 1) := by decide +kernel
theorem dX8_single_20 : decode cX8_single 20 = .ok (.ifCond .ne 7, 3) := by decide +kernel
theorem dX8_single_23 : decode cX8_single 23 = .ok (.iconst 0, 1) := by decide +kernel
theorem dX8_single_24 : decode cX8_single 24 = .ok (.goto 16, 3) := by decide +kernel
theorem dX8_single_27 : decode cX8_single 27 = .ok (.iload 4, 2) := by decide +kernel
theorem dX8_single_29 : decode cX8_single 29 = .ok (.iload_n 2, 1) := by decide +kernel
theorem dX8_single_30 : decode cX8_single 30 = .ok (.iand, 1) := by decide +kernel
theorem dX8_single_31 : decode cX8_single 31 = .ok (.iload_n 2, 1) := by decide +kernel
theorem dX8_single_32 : decode cX8_single 32 = .ok (.if_icmp .ne 7, 3) := by decide +kernel
theorem dX8_single_35 : decode cX8_single 35 = .ok (.iconst 3, 1) := by decide +kernel
theorem dX8_single_36 : decode cX8_single 36 = .ok (.goto 4, 3) := by decide +kernel
theorem dX8_single_39 : decode cX8_single 39 = .ok (.iconst 1, 1) := by decide +kernel
theorem dX8_single_40 : decode cX8_single 40 = .ok (.putfield 52, 3) := by decide +kernel
theorem dX8_single_43 : decode cX8_single 43 = .ok (.goto 59, 3) := by decide +kernel
theorem dX8_single_46 : decode cX8_single 46 = .ok (.iload_n 1, 1) := by decide +kernel
theorem dX8_single_47 : decode cX8_single 47 = .ok (.sipush 149, 3) := by decide +kernel
theorem dX8_single_50 : decode cX8_single 50 = .ok (.if_icmp .ne 13, 3) := by decide +kernel
theorem dX8_single_53 : decode cX8_single 53 = .ok (.aload_n 0, 1) := by decide +kernel
theorem dX8_single_54 : decode cX8_single 54 = .ok (.iload 4, 2) := by decide +kernel
theorem dX8_single_56 : decode cX8_single 56 = .ok (.iload_n 2, 1) := by decide +kernel
theorem dX8_single_57 : decode cX8_single 57 = .ok (.invokevirtual 131, 3) := by decide +kernel
theorem dX8_single_60 : decode cX8_single 60 = .ok (.goto 42, 3) := by decide +kernel
theorem dX8_single_63 : decode cX8_single 63 = .ok (.aload_n 0, 1) := by decide +kernel
theorem dX8_single_64 : decode cX8_single 64 = .ok (.getfield 7, 3) := by decide +kernel
theorem dX8_single_67 : decode cX8_single 67 = .ok (.iload_n 3, 1) := by decide +kernel
theorem dX8_single_68 : decode cX8_single 68 = .ok (.iload_n 1, 1) := by decide +kernel
theorem dX8_single_69 : decode cX8_single 69 = .ok (.sipush 146, 3) := by decide +kernel
theorem dX8_single_72 : decode cX8_single 72 = .ok (.if_icmp .ne 7, 3) := by decide +kernel
theorem dX8_single_75 : decode cX8_single 75 = .ok (.iload_n 2, 1) := by decide +kernel
theorem dX8_single_76 : decode cX8_single 76 = .ok (.goto 25, 3) := by decide +kernel
theorem dX8_single_79 : decode cX8_single 79 = .ok (.aload_n 0, 1) := by decide +kernel
theorem dX8_single_80 : decode cX8_single 80 = .ok (.iload_n 1, 1) := by decide +kernel
theorem dX8_single_81 : decode cX8_single 81 = .ok (.sipush 148, 3) := by decide +kernel
theorem dX8_single_84 : decode cX8_single 84 = .ok (.if_icmp .ne 10, 3) := by decide +kernel
theorem dX8_single_87 : decode cX8_single 87 = .ok (.iload 4, 2) := by decide +kernel
theorem dX8_single_89 : decode cX8_single 89 = .ok (.iload_n 2, 1) := by decide +kernel
theorem dX8_single_90 : decode cX8_single 90 = .ok (.iand, 1) := by decide +kernel
theorem dX8_single_91 : decode cX8_single 91 = .ok (.goto 7, 3) := by decide +kernel
theorem dX8_single_94 : decode cX8_single 94 = .ok (.iload 4, 2) := by decide +kernel
theorem dX8_single_96 : decode cX8_single 96 = .ok (.iload_n 2, 1) := by decide +kernel
theorem dX8_single_97 : decode cX8_single 97 = .ok (.ior, 1) := by decide +kernel
theorem dX8_single_98 : decode cX8_single 98 = .ok (.invokevirtual 128, 3) := by decide +kernel
theorem dX8_single_101 : decode cX8_single 101 = .ok (.iastore, 1) := by decide +kernel
theorem dX8_single_102 : decode cX8_single 102 = .ok (.return_, 1) := by decide +kernel
theorem dX8_doStrings_0 : decode cX8_doStrings 0 = .ok (.iload_n 1, 1) := by decide +kernel
theorem dX8_doStrings_1 : decode cX8_doStrings 1 = .ok (.sipush 247, 3) := by decide +kernel
theorem dX8_doStrings_4 : decode cX8_doStrings 4 = .ok (.if_icmp .le 24, 3) := by decide +kernel
theorem dX8_doStrings_7 : decode cX8_doStrings 7 = .ok (.aload_n 0, 1) := by decide +kernel
theorem dX8_doStrings_8 : decode cX8_doStrings 8 = .ok (.iload_n 1, 1) := by decide +kernel
theorem dX8_doStrings_9 : decode cX8_doStrings 9 = .ok (.iload_n 3, 1) := by decide +kernel
theorem dX8_doStrings_10 : decode cX8_doStrings 10 = .ok (.iload_n 2, 1) := by decide +kernel
theorem dX8_doStrings_11 : decode cX8_doStrings 11 = .ok (.bipush 16, 2) := by decide +kernel
theorem dX8_doStrings_13 : decode cX8_doStrings 13 = .ok (.idiv, 1) := by decide +kernel
theorem dX8_doStrings_14 : decode cX8_doStrings 14 = .ok (.iconst 1, 1) := by decide +kernel
theorem dX8_doStrings_15 : decode cX8_doStrings 15 = .ok (.iadd, 1) := by decide +kernel
theorem dX8_doStrings_16 : decode cX8_doStrings 16 = .ok (.iload 4, 2) := by decide +kernel
theorem dX8_doStrings_18 : decode cX8_doStrings 18 = .ok (.iload_n 2, 1) := by decide +kernel
theorem dX8_doStrings_19 : decode cX8_doStrings 19 = .ok (.bipush 16, 2) := by decide +kernel
theorem dX8_doStrings_21 : decode cX8_doStrings 21 = .ok (.irem, 1) := by decide +kernel
theorem dX8_doStrings_22 : decode cX8_doStrings 22 = .ok (.iconst 1, 1) := by decide +kernel
theorem dX8_doStrings_23 : decode cX8_doStrings 23 = .ok (.iadd, 1) := by decide +kernel
theorem dX8_doStrings_24 : decode cX8_doStrings 24 = .ok (.invokevirtual 199, 3) := by decide +kernel
theorem dX8_doStrings_27 : decode cX8_doStrings 27 = .ok (.return_, 1) := by decide +kernel
theorem dX8_doStrings_28 : decode cX8_doStrings 28 = .ok (.iload_n 2, 1) := by decide +kernel
theorem dX8_doStrings_29 : decode cX8_doStrings 29 = .ok (.iconst 1, 1) := by decide +kernel
theorem dX8_doStrings_30 : decode cX8_doStrings 30 = .ok (.iadd, 1) := by decide +kernel
theorem dX8_doStrings_31 : decode cX8_doStrings 31 = .ok (.istore 5, 2) := by decide +kernel
theorem dX8_doStrings_33 : decode cX8_doStrings 33 = .ok (.aload_n 0, 1) := by decide +kernel
theorem dX8_doStrings_34 : decode cX8_doStrings 34 = .ok (.iload_n 3, 1) := by decide +kernel
theorem dX8_doStrings_35 : decode cX8_doStrings 35 = .ok (.iload 5, 2) := by decide +kernel
theorem dX8_doStrings_37 : decode cX8_doStrings 37 = .ok (.iconst 1, 1) := by decide +kernel
theorem dX8_doStrings_38 : decode cX8_doStrings 38 = .ok (.iload_n 1, 1) := by decide +kernel
theorem dX8_doStrings_39 : decode cX8_doStrings 39 = .ok (.sipush 213, 3) := by decide +kernel
theorem dX8_doStrings_42 : decode cX8_doStrings 42 = .ok (.if_icmp .eq 7, 3) := by decide +kernel
theorem dX8_doStrings_45 : decode cX8_doStrings 45 = .ok (.iconst 1, 1) := by decide +kernel
theorem dX8_doStrings_46 : decode cX8_doStrings 46 = .ok (.goto 4, 3) := by decide +kernel
theorem dX8_doStrings_49 : decode cX8_doStrings 49 = .ok (.iconst 0, 1) := by decide +kernel
theorem dX8_doStrings_50 : decode cX8_doStrings 50 = .ok (.invokevirtual 158, 3) := by decide +kernel
theorem dX8_doStrings_53 : decode cX8_doStrings 53 = .ok (.ifCond .eq 29, 3) := by decide +kernel
theorem dX8_doStrings_56 : decode cX8_doStrings 56 = .ok (.aload_n 0, 1) := by decide +kernel
theorem dX8_doStrings_57 : decode cX8_doStrings 57 = .ok (.iload 4, 2) := by decide +kernel
theorem dX8_doStrings_59 : decode cX8_doStrings 59 = .ok (.iload_n 1, 1) := by decide +kernel
theorem dX8_doStrings_60 : decode cX8_doStrings 60 = .ok (.sipush 220, 3) := by decide +kernel
theorem dX8_doStrings_63 : decode cX8_doStrings 63 = .ok (.if_icmp .ne 9, 3) := by decide +kernel
theorem dX8_doStrings_66 : decode cX8_doStrings 66 = .ok (.sipush 256, 3) := by decide +kernel
theorem dX8_doStrings_69 : decode cX8_doStrings 69 = .ok (.goto 5, 3) := by decide +kernel
theorem dX8_doStrings_72 : decode cX8_doStrings 72 = .ok (.iload 5, 2) := by decide +kernel
theorem dX8_doStrings_74 : decode cX8_doStrings 74 = .ok (.iconst 1, 1) := by decide +kernel
theorem dX8_doStrings_75 : decode cX8_doStrings 75 = .ok (.iconst 0, 1) := by decide +kernel
theorem dX8_doStrings_76 : decode cX8_doStrings 76 = .ok (.invokevirtual 158, 3) := by decide +kernel
theorem dX8_doStrings_79 : decode cX8_doStrings 79 = .ok (.ifCond .ne 4, 3) := by decide +kernel
theorem dX8_doStrings_82 : decode cX8_doStrings 82 = .ok (.return_, 1) := by decide +kernel
theorem dX8_doStrings_83 : decode cX8_doStrings 83 = .ok (.aload_n 0, 1) := by decide +kernel
theorem dX8_doStrings_84 : decode cX8_doStrings 84 = .ok (.iload_n 1, 1) := by decide +kernel
theorem dX8_doStrings_85 : decode cX8_doStrings 85 = .ok (.sipush 213, 3) := by decide +kernel
theorem dX8_doStrings_88 : decode cX8_doStrings 88 = .ok (.if_icmp .ne 7, 3) := by decide +kernel
theorem dX8_doStrings_91 : decode cX8_doStrings 91 = .ok (.iconst 0, 1) := by decide +kernel
theorem dX8_doStrings_92 : decode cX8_doStrings 92 = .ok (.goto 7, 3) := by decide +kernel
theorem dX8_doStrings_95 : decode cX8_doStrings 95 = .ok (.aload_n 0, 1) := by decide +kernel
theorem dX8_doStrings_96 : decode cX8_doStrings 96 = .ok (.getfield 52, 3) := by decide +kernel
theorem dX8_doStrings_99 : decode cX8_doStrings 99 = .ok (.putfield 52, 3) := by decide +kernel
theorem dX8_doStrings_102 : decode cX8_doStrings 102 = .ok (.iconst 0, 1) := by decide +kernel
theorem dX8_doStrings_103 : decode cX8_doStrings 103 = .ok (.istore 6, 2) := by decide +kernel
theorem dX8_doStrings_105 : decode cX8_doStrings 105 = .ok (.iload 6, 2) := by decide +kernel
theorem dX8_doStrings_107 : decode cX8_doStrings 107 = .ok (.iload 5, 2) := by decide +kernel
theorem dX8_doStrings_109 : decode cX8_doStrings 109 = .ok (.if_icmp .ge 104, 3) := by decide +kernel
theorem dX8_doStrings_112 : decode cX8_doStrings 112 = .ok (.iload_n 1, 1) := by decide +kernel
theorem dX8_doStrings_113 : decode cX8_doStrings 113 = .ok (.sipush 210, 3) := by decide +kernel
theorem dX8_doStrings_116 : decode cX8_doStrings 116 = .ok (.if_icmp .ne 25, 3) := by decide +kernel
theorem dX8_doStrings_119 : decode cX8_doStrings 119 = .ok (.aload_n 0, 1) := by decide +kernel
theorem dX8_doStrings_120 : decode cX8_doStrings 120 = .ok (.getfield 7, 3) := by decide +kernel
theorem dX8_doStrings_123 : decode cX8_doStrings 123 = .ok (.iload_n 3, 1) := by decide +kernel
theorem dX8_doStrings_124 : decode cX8_doStrings 124 = .ok (.iload 6, 2) := by decide +kernel
theorem dX8_doStrings_126 : decode cX8_doStrings 126 = .ok (.iadd, 1) := by decide +kernel
theorem dX8_doStrings_127 : decode cX8_doStrings 127 = .ok (.aload_n 0, 1) := by decide +kernel
theorem dX8_doStrings_128 : decode cX8_doStrings 128 = .ok (.getfield 7, 3) := by decide +kernel
theorem dX8_doStrings_131 : decode cX8_doStrings 131 = .ok (.iload 4, 2) := by decide +kernel
theorem dX8_doStrings_133 : decode cX8_doStrings 133 = .ok (.iload 6, 2) := by decide +kernel
theorem dX8_doStrings_135 : decode cX8_doStrings 135 = .ok (.iadd, 1) := by decide +kernel
theorem dX8_doStrings_136 : decode cX8_doStrings 136 = .ok (.iaload, 1) := by decide +kernel
theorem dX8_doStrings_137 : decode cX8_doStrings 137 = .ok (.iastore, 1) := by decide +kernel
theorem dX8_doStrings_138 : decode cX8_doStrings 138 = .ok (.goto 69, 3) := by decide +kernel
theorem dX8_doStrings_141 : decode cX8_doStrings 141 = .ok (.iload_n 1, 1) := by decide +kernel
theorem dX8_doStrings_142 : decode cX8_doStrings 142 = .ok (.sipush 220, 3) := by decide +kernel
theorem dX8_doStrings_145 : decode cX8_doStrings 145 = .ok (.if_icmp .ne 32, 3) := by decide +kernel
theorem dX8_doStrings_148 : decode cX8_doStrings 148 = .ok (.aload_n 0, 1) := by decide +kernel
theorem dX8_doStrings_149 : decode cX8_doStrings 149 = .ok (.getfield 7, 3) := by decide +kernel
theorem dX8_doStrings_152 : decode cX8_doStrings 152 = .ok (.iload_n 3, 1) := by decide +kernel
theorem dX8_doStrings_153 : decode cX8_doStrings 153 = .ok (.iload 6, 2) := by decide +kernel
theorem dX8_doStrings_155 : decode cX8_doStrings 155 = .ok (.iadd, 1) := by decide +kernel
theorem dX8_doStrings_156 : decode cX8_doStrings 156 = .ok (.aload_n 0, 1) := by decide +kernel
theorem dX8_doStrings_157 : decode cX8_doStrings 157 = .ok (.getfield 7, 3) := by decide +kernel
theorem dX8_doStrings_160 : decode cX8_doStrings 160 = .ok (.iload 4, 2) := by decide +kernel
theorem dX8_doStrings_162 : decode cX8_doStrings 162 = .ok (.aload_n 0, 1) := by decide +kernel
theorem dX8_doStrings_163 : decode cX8_doStrings 163 = .ok (.getfield 7, 3) := by decide +kernel
theorem dX8_doStrings_166 : decode cX8_doStrings 166 = .ok (.iload_n 3, 1) := by decide +kernel
theorem dX8_doStrings_167 : decode cX8_doStrings 167 = .ok (.iload 6, 2) := by decide +kernel
theorem dX8_doStrings_169 : decode cX8_doStrings 169 = .ok (.iadd, 1) := by decide +kernel
theorem dX8_doStrings_170 : decode cX8_doStrings 170 = .ok (.iaload, 1) := by decide +kernel
theorem dX8_doStrings_171 : decode cX8_doStrings 171 = .ok (.iadd, 1) := by decide +kernel
theorem dX8_doStrings_172 : decode cX8_doStrings 172 = .ok (.iaload, 1) := by decide +kernel
theorem dX8_doStrings_173 : decode cX8_doStrings 173 = .ok (.iastore, 1) := by decide +kernel
theorem dX8_doStrings_174 : decode cX8_doStrings 174 = .ok (.goto 33, 3) := by decide +kernel
theorem dX8_doStrings_177 : decode cX8_doStrings 177 = .ok (.aload_n 0, 1) := by decide +kernel
theorem dX8_doStrings_178 : decode cX8_doStrings 178 = .ok (.getfield 52, 3) := by decide +kernel
theorem dX8_doStrings_181 : decode cX8_doStrings 181 = .ok (.ifCond .ne 26, 3) := by decide +kernel
theorem dX8_doStrings_184 : decode cX8_doStrings 184 = .ok (.aload_n 0, 1) := by decide +kernel
theorem dX8_doStrings_185 : decode cX8_doStrings 185 = .ok (.aload_n 0, 1) := by decide +kernel
theorem dX8_doStrings_186 : decode cX8_doStrings 186 = .ok (.getfield 7, 3) := by decide +kernel
theorem dX8_doStrings_189 : decode cX8_doStrings 189 = .ok (.iload_n 3, 1) := by decide +kernel
theorem dX8_doStrings_190 : decode cX8_doStrings 190 = .ok (.iload 6, 2) := by decide +kernel
theorem dX8_doStrings_192 : decode cX8_doStrings 192 = .ok (.iadd, 1) := by decide +kernel
theorem dX8_doStrings_193 : decode cX8_doStrings 193 = .ok (.iaload, 1) := by decide +kernel
theorem dX8_doStrings_194 : decode cX8_doStrings 194 = .ok (.aload_n 0, 1) := by decide +kernel
theorem dX8_doStrings_195 : decode cX8_doStrings 195 = .ok (.getfield 7, 3) := by decide +kernel
theorem dX8_doStrings_198 : decode cX8_doStrings 198 = .ok (.iload 4, 2) := by decide +kernel
theorem dX8_doStrings_200 : decode cX8_doStrings 200 = .ok (.iload 6, 2) := by decide +kernel
theorem dX8_doStrings_202 : decode cX8_doStrings 202 = .ok (.iadd, 1) := by decide +kernel
theorem dX8_doStrings_203 : decode cX8_doStrings 203 = .ok (.iaload, 1) := by decide +kernel
theorem dX8_doStrings_204 : decode cX8_doStrings 204 = .ok (.invokevirtual 131, 3) := by decide +kernel
theorem dX8_doStrings_207 : decode cX8_doStrings 207 = .ok (.iinc 6 1, 3) := by decide +kernel
theorem dX8_doStrings_210 : decode cX8_doStrings 210 = .ok (.goto (-105), 3) := by decide +kernel
theorem dX8_doStrings_213 : decode cX8_doStrings 213 = .ok (.return_, 1) := by decide +kernel
theorem dX8_half_0 : decode cX8_half 0 = .ok (.aload_n 0, 1) := by decide +kernel
theorem dX8_half_1 : decode cX8_half 1 = .ok (.getfield 7, 3) := by decide +kernel
theorem dX8_half_4 : decode cX8_half 4 = .ok (.iload_n 1, 1) := by decide +kernel
theorem dX8_half_5 : decode cX8_half 5 = .ok (.iload_n 2, 1) := by decide +kernel
theorem dX8_half_6 : decode cX8_half 6 = .ok (.iadd, 1) := by decide +kernel
theorem dX8_half_7 : decode cX8_half 7 = .ok (.iconst 1, 1) := by decide +kernel
theorem dX8_half_8 : decode cX8_half 8 = .ok (.isub, 1) := by decide +kernel
theorem dX8_half_9 : decode cX8_half 9 = .ok (.iload_n 3, 1) := by decide +kernel
theorem dX8_half_10 : decode cX8_half 10 = .ok (.iconst 2, 1) := by decide +kernel
theorem dX8_half_11 : decode cX8_half 11 = .ok (.idiv, 1) := by decide +kernel
theorem dX8_half_12 : decode cX8_half 12 = .ok (.isub, 1) := by decide +kernel
theorem dX8_half_13 : decode cX8_half 13 = .ok (.iaload, 1) := by decide +kernel
theorem dX8_half_14 : decode cX8_half 14 = .ok (.istore 4, 2) := by decide +kernel
theorem dX8_half_16 : decode cX8_half 16 = .ok (.iload_n 3, 1) := by decide +kernel
theorem dX8_half_17 : decode cX8_half 17 = .ok (.iconst 2, 1) := by decide +kernel
theorem dX8_half_18 : decode cX8_half 18 = .ok (.irem, 1) := by decide +kernel
theorem dX8_half_19 : decode cX8_half 19 = .ok (.ifCond .ne 11, 3) := by decide +kernel
theorem dX8_half_22 : decode cX8_half 22 = .ok (.iload 4, 2) := by decide +kernel
theorem dX8_half_24 : decode cX8_half 24 = .ok (.bipush 16, 2) := by decide +kernel
theorem dX8_half_26 : decode cX8_half 26 = .ok (.irem, 1) := by decide +kernel
theorem dX8_half_27 : decode cX8_half 27 = .ok (.goto 8, 3) := by decide +kernel
theorem dX8_half_30 : decode cX8_half 30 = .ok (.iload 4, 2) := by decide +kernel
theorem dX8_half_32 : decode cX8_half 32 = .ok (.bipush 16, 2) := by decide +kernel
theorem dX8_half_34 : decode cX8_half 34 = .ok (.idiv, 1) := by decide +kernel
theorem dX8_half_35 : decode cX8_half 35 = .ok (.ireturn, 1) := by decide +kernel
theorem dX8_unpack_0 : decode cX8_unpack 0 = .ok (.aload_n 0, 1) := by decide +kernel
theorem dX8_unpack_1 : decode cX8_unpack 1 = .ok (.iload_n 2, 1) := by decide +kernel
theorem dX8_unpack_2 : decode cX8_unpack 2 = .ok (.iload_n 3, 1) := by decide +kernel
theorem dX8_unpack_3 : decode cX8_unpack 3 = .ok (.iconst 0, 1) := by decide +kernel
theorem dX8_unpack_4 : decode cX8_unpack 4 = .ok (.invokevirtual 203, 3) := by decide +kernel
theorem dX8_unpack_7 : decode cX8_unpack 7 = .ok (.istore 4, 2) := by decide +kernel
theorem dX8_unpack_9 : decode cX8_unpack 9 = .ok (.iload 4, 2) := by decide +kernel
theorem dX8_unpack_11 : decode cX8_unpack 11 = .ok (.bipush 9, 2) := by decide +kernel
theorem dX8_unpack_13 : decode cX8_unpack 13 = .ok (.if_icmp .le 7, 3) := by decide +kernel
theorem dX8_unpack_16 : decode cX8_unpack 16 = .ok (.iconst 1, 1) := by decide +kernel
theorem dX8_unpack_17 : decode cX8_unpack 17 = .ok (.goto 4, 3) := by decide +kernel
theorem dX8_unpack_20 : decode cX8_unpack 20 = .ok (.iconst 0, 1) := by decide +kernel
theorem dX8_unpack_21 : decode cX8_unpack 21 = .ok (.istore 5, 2) := by decide +kernel
theorem dX8_unpack_23 : decode cX8_unpack 23 = .ok (.iconst 0, 1) := by decide +kernel
theorem dX8_unpack_24 : decode cX8_unpack 24 = .ok (.istore 6, 2) := by decide +kernel
theorem dX8_unpack_26 : decode cX8_unpack 26 = .ok (.iload 6, 2) := by decide +kernel
theorem dX8_unpack_28 : decode cX8_unpack 28 = .ok (.bipush 40, 2) := by decide +kernel
theorem dX8_unpack_30 : decode cX8_unpack 30 = .ok (.if_icmp .ge 80, 3) := by decide +kernel
theorem dX8_unpack_33 : decode cX8_unpack 33 = .ok (.iload 6, 2) := by decide +kernel
theorem dX8_unpack_35 : decode cX8_unpack 35 = .ok (.iconst 2, 1) := by decide +kernel
theorem dX8_unpack_36 : decode cX8_unpack 36 = .ok (.iload_n 3, 1) := by decide +kernel
theorem dX8_unpack_37 : decode cX8_unpack 37 = .ok (.imul, 1) := by decide +kernel
theorem dX8_unpack_38 : decode cX8_unpack 38 = .ok (.iconst 1, 1) := by decide +kernel
theorem dX8_unpack_39 : decode cX8_unpack 39 = .ok (.isub, 1) := by decide +kernel
theorem dX8_unpack_40 : decode cX8_unpack 40 = .ok (.if_icmp .ge 16, 3) := by decide +kernel
theorem dX8_unpack_43 : decode cX8_unpack 43 = .ok (.aload_n 0, 1) := by decide +kernel
theorem dX8_unpack_44 : decode cX8_unpack 44 = .ok (.iload_n 2, 1) := by decide +kernel
theorem dX8_unpack_45 : decode cX8_unpack 45 = .ok (.iload_n 3, 1) := by decide +kernel
theorem dX8_unpack_46 : decode cX8_unpack 46 = .ok (.iload 6, 2) := by decide +kernel
theorem dX8_unpack_48 : decode cX8_unpack 48 = .ok (.iconst 1, 1) := by decide +kernel
theorem dX8_unpack_49 : decode cX8_unpack 49 = .ok (.iadd, 1) := by decide +kernel
theorem dX8_unpack_50 : decode cX8_unpack 50 = .ok (.invokevirtual 203, 3) := by decide +kernel
theorem dX8_unpack_53 : decode cX8_unpack 53 = .ok (.goto 4, 3) := by decide +kernel
theorem dX8_unpack_56 : decode cX8_unpack 56 = .ok (.iconst 0, 1) := by decide +kernel
theorem dX8_unpack_57 : decode cX8_unpack 57 = .ok (.istore 7, 2) := by decide +kernel
theorem dX8_unpack_59 : decode cX8_unpack 59 = .ok (.iload 5, 2) := by decide +kernel
theorem dX8_unpack_61 : decode cX8_unpack 61 = .ok (.ifCond .eq 14, 3) := by decide +kernel
theorem dX8_unpack_64 : decode cX8_unpack 64 = .ok (.iload 7, 2) := by decide +kernel
theorem dX8_unpack_66 : decode cX8_unpack 66 = .ok (.bipush 10, 2) := by decide +kernel
theorem dX8_unpack_68 : decode cX8_unpack 68 = .ok (.if_icmp .ge 7, 3) := by decide +kernel
theorem dX8_unpack_71 : decode cX8_unpack 71 = .ok (.iconst 1, 1) := by decide +kernel
theorem dX8_unpack_72 : decode cX8_unpack 72 = .ok (.goto 4, 3) := by decide +kernel
theorem dX8_unpack_75 : decode cX8_unpack 75 = .ok (.iconst 0, 1) := by decide +kernel
theorem dX8_unpack_76 : decode cX8_unpack 76 = .ok (.istore 5, 2) := by decide +kernel
theorem dX8_unpack_78 : decode cX8_unpack 78 = .ok (.aload_n 1, 1) := by decide +kernel
theorem dX8_unpack_79 : decode cX8_unpack 79 = .ok (.iload 6, 2) := by decide +kernel
theorem dX8_unpack_81 : decode cX8_unpack 81 = .ok (.iload 4, 2) := by decide +kernel
theorem dX8_unpack_83 : decode cX8_unpack 83 = .ok (.bipush 11, 2) := by decide +kernel
theorem dX8_unpack_85 : decode cX8_unpack 85 = .ok (.if_icmp .eq 10, 3) := by decide +kernel
theorem dX8_unpack_88 : decode cX8_unpack 88 = .ok (.iload 4, 2) := by decide +kernel
theorem dX8_unpack_90 : decode cX8_unpack 90 = .ok (.bipush 13, 2) := by decide +kernel
theorem dX8_unpack_92 : decode cX8_unpack 92 = .ok (.if_icmp .ne 9, 3) := by decide +kernel
theorem dX8_unpack_95 : decode cX8_unpack 95 = .ok (.iload 7, 2) := by decide +kernel
theorem dX8_unpack_97 : decode cX8_unpack 97 = .ok (.ineg, 1) := by decide +kernel
theorem dX8_unpack_98 : decode cX8_unpack 98 = .ok (.goto 5, 3) := by decide +kernel
theorem dX8_unpack_101 : decode cX8_unpack 101 = .ok (.iload 7, 2) := by decide +kernel
theorem dX8_unpack_103 : decode cX8_unpack 103 = .ok (.iastore, 1) := by decide +kernel
theorem dX8_unpack_104 : decode cX8_unpack 104 = .ok (.iinc 6 1, 3) := by decide +kernel
theorem dX8_unpack_107 : decode cX8_unpack 107 = .ok (.goto (-81), 3) := by decide +kernel
theorem dX8_unpack_110 : decode cX8_unpack 110 = .ok (.iload 5, 2) := by decide +kernel
theorem dX8_unpack_112 : decode cX8_unpack 112 = .ok (.ireturn, 1) := by decide +kernel
theorem dX8_spread_0 : decode cX8_spread 0 = .ok (.iload_n 1, 1) := by decide +kernel
theorem dX8_spread_1 : decode cX8_spread 1 = .ok (.istore_n 2, 1) := by decide +kernel
theorem dX8_spread_2 : decode cX8_spread 2 = .ok (.iconst 0, 1) := by decide +kernel
theorem dX8_spread_3 : decode cX8_spread 3 = .ok (.istore_n 3, 1) := by decide +kernel
theorem dX8_spread_4 : decode cX8_spread 4 = .ok (.iload_n 3, 1) := by decide +kernel
theorem dX8_spread_5 : decode cX8_spread 5 = .ok (.bipush 40, 2) := by decide +kernel
theorem dX8_spread_7 : decode cX8_spread 7 = .ok (.if_icmp .ge 24, 3) := by decide +kernel
theorem dX8_spread_10 : decode cX8_spread 10 = .ok (.aload_n 0, 1) := by decide +kernel
theorem dX8_spread_11 : decode cX8_spread 11 = .ok (.getfield 31, 3) := by decide +kernel
theorem dX8_spread_14 : decode cX8_spread 14 = .ok (.iload_n 3, 1) := by decide +kernel
theorem dX8_spread_15 : decode cX8_spread 15 = .ok (.iload_n 2, 1) := by decide +kernel
theorem dX8_spread_16 : decode cX8_spread 16 = .ok (.bipush 10, 2) := by decide +kernel
theorem dX8_spread_18 : decode cX8_spread 18 = .ok (.irem, 1) := by decide +kernel
theorem dX8_spread_19 : decode cX8_spread 19 = .ok (.iastore, 1) := by decide +kernel
theorem dX8_spread_20 : decode cX8_spread 20 = .ok (.iload_n 2, 1) := by decide +kernel
theorem dX8_spread_21 : decode cX8_spread 21 = .ok (.bipush 10, 2) := by decide +kernel
theorem dX8_spread_23 : decode cX8_spread 23 = .ok (.idiv, 1) := by decide +kernel
theorem dX8_spread_24 : decode cX8_spread 24 = .ok (.istore_n 2, 1) := by decide +kernel
theorem dX8_spread_25 : decode cX8_spread 25 = .ok (.iinc 3 1, 3) := by decide +kernel
theorem dX8_spread_28 : decode cX8_spread 28 = .ok (.goto (-24), 3) := by decide +kernel
theorem dX8_spread_31 : decode cX8_spread 31 = .ok (.return_, 1) := by decide +kernel
theorem dX8_settle_0 : decode cX8_settle 0 = .ok (.bipush 39, 2) := by decide +kernel
theorem dX8_settle_2 : decode cX8_settle 2 = .ok (.istore_n 1, 1) := by decide +kernel
theorem dX8_settle_3 : decode cX8_settle 3 = .ok (.iload_n 1, 1) := by decide +kernel
theorem dX8_settle_4 : decode cX8_settle 4 = .ok (.ifCond .lt 18, 3) := by decide +kernel
theorem dX8_settle_7 : decode cX8_settle 7 = .ok (.aload_n 0, 1) := by decide +kernel
theorem dX8_settle_8 : decode cX8_settle 8 = .ok (.getfield 31, 3) := by decide +kernel
theorem dX8_settle_11 : decode cX8_settle 11 = .ok (.iload_n 1, 1) := by decide +kernel
theorem dX8_settle_12 : decode cX8_settle 12 = .ok (.iaload, 1) := by decide +kernel
theorem dX8_settle_13 : decode cX8_settle 13 = .ok (.ifCond .ne 9, 3) := by decide +kernel
theorem dX8_settle_16 : decode cX8_settle 16 = .ok (.iinc 1 (-1), 3) := by decide +kernel
theorem dX8_settle_19 : decode cX8_settle 19 = .ok (.goto (-16), 3) := by decide +kernel
theorem dX8_settle_22 : decode cX8_settle 22 = .ok (.iload_n 1, 1) := by decide +kernel
theorem dX8_settle_23 : decode cX8_settle 23 = .ok (.ifCond .ge 7, 3) := by decide +kernel
theorem dX8_settle_26 : decode cX8_settle 26 = .ok (.iconst 0, 1) := by decide +kernel
theorem dX8_settle_27 : decode cX8_settle 27 = .ok (.goto 17, 3) := by decide +kernel
theorem dX8_settle_30 : decode cX8_settle 30 = .ok (.aload_n 0, 1) := by decide +kernel
theorem dX8_settle_31 : decode cX8_settle 31 = .ok (.getfield 31, 3) := by decide +kernel
theorem dX8_settle_34 : decode cX8_settle 34 = .ok (.iload_n 1, 1) := by decide +kernel
theorem dX8_settle_35 : decode cX8_settle 35 = .ok (.iaload, 1) := by decide +kernel
theorem dX8_settle_36 : decode cX8_settle 36 = .ok (.ifCond .ge 7, 3) := by decide +kernel
theorem dX8_settle_39 : decode cX8_settle 39 = .ok (.iconst (-1), 1) := by decide +kernel
theorem dX8_settle_40 : decode cX8_settle 40 = .ok (.goto 4, 3) := by decide +kernel
theorem dX8_settle_43 : decode cX8_settle 43 = .ok (.iconst 1, 1) := by decide +kernel
theorem dX8_settle_44 : decode cX8_settle 44 = .ok (.istore_n 2, 1) := by decide +kernel
theorem dX8_settle_45 : decode cX8_settle 45 = .ok (.iconst 0, 1) := by decide +kernel
theorem dX8_settle_46 : decode cX8_settle 46 = .ok (.istore_n 3, 1) := by decide +kernel
theorem dX8_settle_47 : decode cX8_settle 47 = .ok (.iload_n 3, 1) := by decide +kernel
theorem dX8_settle_48 : decode cX8_settle 48 = .ok (.bipush 39, 2) := by decide +kernel
theorem dX8_settle_50 : decode cX8_settle 50 = .ok (.if_icmp .ge 73, 3) := by decide +kernel
theorem dX8_settle_53 : decode cX8_settle 53 = .ok (.aload_n 0, 1) := by decide +kernel
theorem dX8_settle_54 : decode cX8_settle 54 = .ok (.getfield 31, 3) := by decide +kernel
theorem dX8_settle_57 : decode cX8_settle 57 = .ok (.iload_n 3, 1) := by decide +kernel
theorem dX8_settle_58 : decode cX8_settle 58 = .ok (.iaload, 1) := by decide +kernel
theorem dX8_settle_59 : decode cX8_settle 59 = .ok (.iload_n 2, 1) := by decide +kernel
theorem dX8_settle_60 : decode cX8_settle 60 = .ok (.imul, 1) := by decide +kernel
theorem dX8_settle_61 : decode cX8_settle 61 = .ok (.istore 4, 2) := by decide +kernel
theorem dX8_settle_63 : decode cX8_settle 63 = .ok (.iload 4, 2) := by decide +kernel
theorem dX8_settle_65 : decode cX8_settle 65 = .ok (.bipush 9, 2) := by decide +kernel
theorem dX8_settle_67 : decode cX8_settle 67 = .ok (.if_icmp .le 7, 3) := by decide +kernel
theorem dX8_settle_70 : decode cX8_settle 70 = .ok (.iconst 1, 1) := by decide +kernel
theorem dX8_settle_71 : decode cX8_settle 71 = .ok (.goto 13, 3) := by decide +kernel
theorem dX8_settle_74 : decode cX8_settle 74 = .ok (.iload 4, 2) := by decide +kernel
theorem dX8_settle_76 : decode cX8_settle 76 = .ok (.ifCond .ge 7, 3) := by decide +kernel
theorem dX8_settle_79 : decode cX8_settle 79 = .ok (.iconst (-1), 1) := by decide +kernel
theorem dX8_settle_80 : decode cX8_settle 80 = .ok (.goto 4, 3) := by decide +kernel
theorem dX8_settle_83 : decode cX8_settle 83 = .ok (.iconst 0, 1) := by decide +kernel
theorem dX8_settle_84 : decode cX8_settle 84 = .ok (.istore 5, 2) := by decide +kernel
theorem dX8_settle_86 : decode cX8_settle 86 = .ok (.aload_n 0, 1) := by decide +kernel
theorem dX8_settle_87 : decode cX8_settle 87 = .ok (.getfield 31, 3) := by decide +kernel
theorem dX8_settle_90 : decode cX8_settle 90 = .ok (.iload_n 3, 1) := by decide +kernel
theorem dX8_settle_91 : decode cX8_settle 91 = .ok (.iload 4, 2) := by decide +kernel
theorem dX8_settle_93 : decode cX8_settle 93 = .ok (.bipush 10, 2) := by decide +kernel
theorem dX8_settle_95 : decode cX8_settle 95 = .ok (.iload 5, 2) := by decide +kernel
theorem dX8_settle_97 : decode cX8_settle 97 = .ok (.imul, 1) := by decide +kernel
theorem dX8_settle_98 : decode cX8_settle 98 = .ok (.isub, 1) := by decide +kernel
theorem dX8_settle_99 : decode cX8_settle 99 = .ok (.iload_n 2, 1) := by decide +kernel
theorem dX8_settle_100 : decode cX8_settle 100 = .ok (.imul, 1) := by decide +kernel
theorem dX8_settle_101 : decode cX8_settle 101 = .ok (.iastore, 1) := by decide +kernel
theorem dX8_settle_102 : decode cX8_settle 102 = .ok (.aload_n 0, 1) := by decide +kernel
theorem dX8_settle_103 : decode cX8_settle 103 = .ok (.getfield 31, 3) := by decide +kernel
theorem dX8_settle_106 : decode cX8_settle 106 = .ok (.iload_n 3, 1) := by decide +kernel
theorem dX8_settle_107 : decode cX8_settle 107 = .ok (.iconst 1, 1) := by decide +kernel
theorem dX8_settle_108 : decode cX8_settle 108 = .ok (.iadd, 1) := by decide +kernel
theorem dX8_settle_109 : decode cX8_settle 109 = .ok (.dup2, 1) := by decide +kernel
theorem dX8_settle_110 : decode cX8_settle 110 = .ok (.iaload, 1) := by decide +kernel
theorem dX8_settle_111 : decode cX8_settle 111 = .ok (.iload 5, 2) := by decide +kernel
theorem dX8_settle_113 : decode cX8_settle 113 = .ok (.iload_n 2, 1) := by decide +kernel
theorem dX8_settle_114 : decode cX8_settle 114 = .ok (.imul, 1) := by decide +kernel
theorem dX8_settle_115 : decode cX8_settle 115 = .ok (.iadd, 1) := by decide +kernel
theorem dX8_settle_116 : decode cX8_settle 116 = .ok (.iastore, 1) := by decide +kernel
theorem dX8_settle_117 : decode cX8_settle 117 = .ok (.iinc 3 1, 3) := by decide +kernel
theorem dX8_settle_120 : decode cX8_settle 120 = .ok (.goto (-73), 3) := by decide +kernel
theorem dX8_settle_123 : decode cX8_settle 123 = .ok (.iload_n 2, 1) := by decide +kernel
theorem dX8_settle_124 : decode cX8_settle 124 = .ok (.ireturn, 1) := by decide +kernel
theorem dX8_store_0 : decode cX8_store 0 = .ok (.iconst 0, 1) := by decide +kernel
theorem dX8_store_1 : decode cX8_store 1 = .ok (.istore_n 3, 1) := by decide +kernel
theorem dX8_store_2 : decode cX8_store 2 = .ok (.iconst 0, 1) := by decide +kernel
theorem dX8_store_3 : decode cX8_store 3 = .ok (.istore 4, 2) := by decide +kernel
theorem dX8_store_5 : decode cX8_store 5 = .ok (.iload 4, 2) := by decide +kernel
theorem dX8_store_7 : decode cX8_store 7 = .ok (.iconst 2, 1) := by decide +kernel
theorem dX8_store_8 : decode cX8_store 8 = .ok (.iload_n 2, 1) := by decide +kernel
theorem dX8_store_9 : decode cX8_store 9 = .ok (.imul, 1) := by decide +kernel
theorem dX8_store_10 : decode cX8_store 10 = .ok (.iconst 1, 1) := by decide +kernel
theorem dX8_store_11 : decode cX8_store 11 = .ok (.isub, 1) := by decide +kernel
theorem dX8_store_12 : decode cX8_store 12 = .ok (.if_icmp .ge 29, 3) := by decide +kernel
theorem dX8_store_15 : decode cX8_store 15 = .ok (.iload_n 3, 1) := by decide +kernel
theorem dX8_store_16 : decode cX8_store 16 = .ok (.ifCond .ne 13, 3) := by decide +kernel
theorem dX8_store_19 : decode cX8_store 19 = .ok (.aload_n 0, 1) := by decide +kernel
theorem dX8_store_20 : decode cX8_store 20 = .ok (.getfield 31, 3) := by decide +kernel
theorem dX8_store_23 : decode cX8_store 23 = .ok (.iload 4, 2) := by decide +kernel
theorem dX8_store_25 : decode cX8_store 25 = .ok (.iaload, 1) := by decide +kernel
theorem dX8_store_26 : decode cX8_store 26 = .ok (.ifCond .ge 7, 3) := by decide +kernel
theorem dX8_store_29 : decode cX8_store 29 = .ok (.iconst 1, 1) := by decide +kernel
theorem dX8_store_30 : decode cX8_store 30 = .ok (.goto 4, 3) := by decide +kernel
theorem dX8_store_33 : decode cX8_store 33 = .ok (.iconst 0, 1) := by decide +kernel
theorem dX8_store_34 : decode cX8_store 34 = .ok (.istore_n 3, 1) := by decide +kernel
theorem dX8_store_35 : decode cX8_store 35 = .ok (.iinc 4 1, 3) := by decide +kernel
theorem dX8_store_38 : decode cX8_store 38 = .ok (.goto (-33), 3) := by decide +kernel
theorem dX8_store_41 : decode cX8_store 41 = .ok (.iconst 0, 1) := by decide +kernel
theorem dX8_store_42 : decode cX8_store 42 = .ok (.istore 4, 2) := by decide +kernel
theorem dX8_store_44 : decode cX8_store 44 = .ok (.iload 4, 2) := by decide +kernel
theorem dX8_store_46 : decode cX8_store 46 = .ok (.iload_n 2, 1) := by decide +kernel
theorem dX8_store_47 : decode cX8_store 47 = .ok (.if_icmp .ge 19, 3) := by decide +kernel
theorem dX8_store_50 : decode cX8_store 50 = .ok (.aload_n 0, 1) := by decide +kernel
theorem dX8_store_51 : decode cX8_store 51 = .ok (.getfield 7, 3) := by decide +kernel
theorem dX8_store_54 : decode cX8_store 54 = .ok (.iload_n 1, 1) := by decide +kernel
theorem dX8_store_55 : decode cX8_store 55 = .ok (.iload 4, 2) := by decide +kernel
theorem dX8_store_57 : decode cX8_store 57 = .ok (.iadd, 1) := by decide +kernel
theorem dX8_store_58 : decode cX8_store 58 = .ok (.iconst 0, 1) := by decide +kernel
theorem dX8_store_59 : decode cX8_store 59 = .ok (.iastore, 1) := by decide +kernel
theorem dX8_store_60 : decode cX8_store 60 = .ok (.iinc 4 1, 3) := by decide +kernel
theorem dX8_store_63 : decode cX8_store 63 = .ok (.goto (-19), 3) := by decide +kernel
theorem dX8_store_66 : decode cX8_store 66 = .ok (.iconst 0, 1) := by decide +kernel
theorem dX8_store_67 : decode cX8_store 67 = .ok (.istore 4, 2) := by decide +kernel
theorem dX8_store_69 : decode cX8_store 69 = .ok (.iload 4, 2) := by decide +kernel
theorem dX8_store_71 : decode cX8_store 71 = .ok (.iconst 2, 1) := by decide +kernel
theorem dX8_store_72 : decode cX8_store 72 = .ok (.iload_n 2, 1) := by decide +kernel
theorem dX8_store_73 : decode cX8_store 73 = .ok (.imul, 1) := by decide +kernel
theorem dX8_store_74 : decode cX8_store 74 = .ok (.if_icmp .ge 99, 3) := by decide +kernel
theorem dX8_store_77 : decode cX8_store 77 = .ok (.iload 4, 2) := by decide +kernel
theorem dX8_store_79 : decode cX8_store 79 = .ok (.ifCond .ne 17, 3) := by decide +kernel
theorem dX8_store_82 : decode cX8_store 82 = .ok (.iload_n 3, 1) := by decide +kernel
theorem dX8_store_83 : decode cX8_store 83 = .ok (.ifCond .eq 8, 3) := by decide +kernel
theorem dX8_store_86 : decode cX8_store 86 = .ok (.bipush 13, 2) := by decide +kernel
theorem dX8_store_88 : decode cX8_store 88 = .ok (.goto 42, 3) := by decide +kernel
theorem dX8_store_91 : decode cX8_store 91 = .ok (.bipush 12, 2) := by decide +kernel
theorem dX8_store_93 : decode cX8_store 93 = .ok (.goto 37, 3) := by decide +kernel
theorem dX8_store_96 : decode cX8_store 96 = .ok (.aload_n 0, 1) := by decide +kernel
theorem dX8_store_97 : decode cX8_store 97 = .ok (.getfield 31, 3) := by decide +kernel
theorem dX8_store_100 : decode cX8_store 100 = .ok (.iload 4, 2) := by decide +kernel
theorem dX8_store_102 : decode cX8_store 102 = .ok (.iconst 1, 1) := by decide +kernel
theorem dX8_store_103 : decode cX8_store 103 = .ok (.isub, 1) := by decide +kernel
theorem dX8_store_104 : decode cX8_store 104 = .ok (.iaload, 1) := by decide +kernel
theorem dX8_store_105 : decode cX8_store 105 = .ok (.ifCond .ge 16, 3) := by decide +kernel
theorem dX8_store_108 : decode cX8_store 108 = .ok (.aload_n 0, 1) := by decide +kernel
theorem dX8_store_109 : decode cX8_store 109 = .ok (.getfield 31, 3) := by decide +kernel
theorem dX8_store_112 : decode cX8_store 112 = .ok (.iload 4, 2) := by decide +kernel
theorem dX8_store_114 : decode cX8_store 114 = .ok (.iconst 1, 1) := by decide +kernel
theorem dX8_store_115 : decode cX8_store 115 = .ok (.isub, 1) := by decide +kernel
theorem dX8_store_116 : decode cX8_store 116 = .ok (.iaload, 1) := by decide +kernel
theorem dX8_store_117 : decode cX8_store 117 = .ok (.ineg, 1) := by decide +kernel
theorem dX8_store_118 : decode cX8_store 118 = .ok (.goto 12, 3) := by decide +kernel
theorem dX8_store_121 : decode cX8_store 121 = .ok (.aload_n 0, 1) := by decide +kernel
theorem dX8_store_122 : decode cX8_store 122 = .ok (.getfield 31, 3) := by decide +kernel
theorem dX8_store_125 : decode cX8_store 125 = .ok (.iload 4, 2) := by decide +kernel
theorem dX8_store_127 : decode cX8_store 127 = .ok (.iconst 1, 1) := by decide +kernel
theorem dX8_store_128 : decode cX8_store 128 = .ok (.isub, 1) := by decide +kernel
theorem dX8_store_129 : decode cX8_store 129 = .ok (.iaload, 1) := by decide +kernel
theorem dX8_store_130 : decode cX8_store 130 = .ok (.istore 5, 2) := by decide +kernel
theorem dX8_store_132 : decode cX8_store 132 = .ok (.aload_n 0, 1) := by decide +kernel
theorem dX8_store_133 : decode cX8_store 133 = .ok (.getfield 7, 3) := by decide +kernel
theorem dX8_store_136 : decode cX8_store 136 = .ok (.iload_n 1, 1) := by decide +kernel
theorem dX8_store_137 : decode cX8_store 137 = .ok (.iload_n 2, 1) := by decide +kernel
theorem dX8_store_138 : decode cX8_store 138 = .ok (.iadd, 1) := by decide +kernel
theorem dX8_store_139 : decode cX8_store 139 = .ok (.iconst 1, 1) := by decide +kernel
theorem dX8_store_140 : decode cX8_store 140 = .ok (.isub, 1) := by decide +kernel
theorem dX8_store_141 : decode cX8_store 141 = .ok (.iload 4, 2) := by decide +kernel
theorem dX8_store_143 : decode cX8_store 143 = .ok (.iconst 2, 1) := by decide +kernel
theorem dX8_store_144 : decode cX8_store 144 = .ok (.idiv, 1) := by decide +kernel
theorem dX8_store_145 : decode cX8_store 145 = .ok (.isub, 1) := by decide +kernel
theorem dX8_store_146 : decode cX8_store 146 = .ok (.dup2, 1) := by decide +kernel
theorem dX8_store_147 : decode cX8_store 147 = .ok (.iaload, 1) := by decide +kernel
theorem dX8_store_148 : decode cX8_store 148 = .ok (.iload 4, 2) := by decide +kernel
theorem dX8_store_150 : decode cX8_store 150 = .ok (.iconst 2, 1) := by decide +kernel
theorem dX8_store_151 : decode cX8_store 151 = .ok (.irem, 1) := by decide +kernel
theorem dX8_store_152 : decode cX8_store 152 = .ok (.ifCond .ne 8, 3) := by decide +kernel
theorem dX8_store_155 : decode cX8_store 155 = .ok (.iload 5, 2) := by decide +kernel
theorem dX8_store_157 : decode cX8_store 157 = .ok (.goto 8, 3) := by decide +kernel
theorem dX8_store_160 : decode cX8_store 160 = .ok (.bipush 16, 2) := by decide +kernel
theorem dX8_store_162 : decode cX8_store 162 = .ok (.iload 5, 2) := by decide +kernel
theorem dX8_store_164 : decode cX8_store 164 = .ok (.imul, 1) := by decide +kernel
theorem dX8_store_165 : decode cX8_store 165 = .ok (.iadd, 1) := by decide +kernel
theorem dX8_store_166 : decode cX8_store 166 = .ok (.iastore, 1) := by decide +kernel
theorem dX8_store_167 : decode cX8_store 167 = .ok (.iinc 4 1, 3) := by decide +kernel
theorem dX8_store_170 : decode cX8_store 170 = .ok (.goto (-101), 3) := by decide +kernel
theorem dX8_store_173 : decode cX8_store 173 = .ok (.return_, 1) := by decide +kernel
theorem dX8_decimal_0 : decode cX8_decimal 0 = .ok (.aload_n 0, 1) := by decide +kernel
theorem dX8_decimal_1 : decode cX8_decimal 1 = .ok (.iload_n 2, 1) := by decide +kernel
theorem dX8_decimal_2 : decode cX8_decimal 2 = .ok (.iload_n 3, 1) := by decide +kernel
theorem dX8_decimal_3 : decode cX8_decimal 3 = .ok (.iconst 1, 1) := by decide +kernel
theorem dX8_decimal_4 : decode cX8_decimal 4 = .ok (.iload_n 1, 1) := by decide +kernel
theorem dX8_decimal_5 : decode cX8_decimal 5 = .ok (.sipush 249, 3) := by decide +kernel
theorem dX8_decimal_8 : decode cX8_decimal 8 = .ok (.if_icmp .eq 7, 3) := by decide +kernel
theorem dX8_decimal_11 : decode cX8_decimal 11 = .ok (.iconst 1, 1) := by decide +kernel
theorem dX8_decimal_12 : decode cX8_decimal 12 = .ok (.goto 4, 3) := by decide +kernel
theorem dX8_decimal_15 : decode cX8_decimal 15 = .ok (.iconst 0, 1) := by decide +kernel
theorem dX8_decimal_16 : decode cX8_decimal 16 = .ok (.invokevirtual 158, 3) := by decide +kernel
theorem dX8_decimal_19 : decode cX8_decimal 19 = .ok (.ifCond .eq 16, 3) := by decide +kernel
theorem dX8_decimal_22 : decode cX8_decimal 22 = .ok (.aload_n 0, 1) := by decide +kernel
theorem dX8_decimal_23 : decode cX8_decimal 23 = .ok (.iload 4, 2) := by decide +kernel
theorem dX8_decimal_25 : decode cX8_decimal 25 = .ok (.iload 5, 2) := by decide +kernel
theorem dX8_decimal_27 : decode cX8_decimal 27 = .ok (.iconst 1, 1) := by decide +kernel
theorem dX8_decimal_28 : decode cX8_decimal 28 = .ok (.iconst 0, 1) := by decide +kernel
theorem dX8_decimal_29 : decode cX8_decimal 29 = .ok (.invokevirtual 158, 3) := by decide +kernel
theorem dX8_decimal_32 : decode cX8_decimal 32 = .ok (.ifCond .ne 4, 3) := by decide +kernel
theorem dX8_decimal_35 : decode cX8_decimal 35 = .ok (.return_, 1) := by decide +kernel
theorem dX8_decimal_36 : decode cX8_decimal 36 = .ok (.aload_n 0, 1) := by decide +kernel
theorem dX8_decimal_37 : decode cX8_decimal 37 = .ok (.aload_n 0, 1) := by decide +kernel
theorem dX8_decimal_38 : decode cX8_decimal 38 = .ok (.aload_n 0, 1) := by decide +kernel
theorem dX8_decimal_39 : decode cX8_decimal 39 = .ok (.getfield 34, 3) := by decide +kernel
theorem dX8_decimal_42 : decode cX8_decimal 42 = .ok (.iload 4, 2) := by decide +kernel
theorem dX8_decimal_44 : decode cX8_decimal 44 = .ok (.iload 5, 2) := by decide +kernel
theorem dX8_decimal_46 : decode cX8_decimal 46 = .ok (.invokevirtual 180, 3) := by decide +kernel
theorem dX8_decimal_49 : decode cX8_decimal 49 = .ok (.ifCond .ne 7, 3) := by decide +kernel
theorem dX8_decimal_52 : decode cX8_decimal 52 = .ok (.iconst 1, 1) := by decide +kernel
theorem dX8_decimal_53 : decode cX8_decimal 53 = .ok (.goto 4, 3) := by decide +kernel
theorem dX8_decimal_56 : decode cX8_decimal 56 = .ok (.iconst 0, 1) := by decide +kernel
theorem dX8_decimal_57 : decode cX8_decimal 57 = .ok (.bipush 7, 2) := by decide +kernel
theorem dX8_decimal_59 : decode cX8_decimal 59 = .ok (.invokevirtual 42, 3) := by decide +kernel
theorem dX8_decimal_62 : decode cX8_decimal 62 = .ok (.iload_n 1, 1) := by decide +kernel
theorem dX8_decimal_63 : decode cX8_decimal 63 = .ok (.sipush 248, 3) := by decide +kernel
theorem dX8_decimal_66 : decode cX8_decimal 66 = .ok (.if_icmp .ne 11, 3) := by decide +kernel
theorem dX8_decimal_69 : decode cX8_decimal 69 = .ok (.aload_n 0, 1) := by decide +kernel
theorem dX8_decimal_70 : decode cX8_decimal 70 = .ok (.iconst 0, 1) := by decide +kernel
theorem dX8_decimal_71 : decode cX8_decimal 71 = .ok (.invokevirtual 174, 3) := by decide +kernel
theorem dX8_decimal_74 : decode cX8_decimal 74 = .ok (.goto 27, 3) := by decide +kernel
theorem dX8_decimal_77 : decode cX8_decimal 77 = .ok (.aload_n 0, 1) := by decide +kernel
theorem dX8_decimal_78 : decode cX8_decimal 78 = .ok (.aload_n 0, 1) := by decide +kernel
theorem dX8_decimal_79 : decode cX8_decimal 79 = .ok (.aload_n 0, 1) := by decide +kernel
theorem dX8_decimal_80 : decode cX8_decimal 80 = .ok (.getfield 31, 3) := by decide +kernel
theorem dX8_decimal_83 : decode cX8_decimal 83 = .ok (.iload_n 2, 1) := by decide +kernel
theorem dX8_decimal_84 : decode cX8_decimal 84 = .ok (.iload_n 3, 1) := by decide +kernel
theorem dX8_decimal_85 : decode cX8_decimal 85 = .ok (.invokevirtual 180, 3) := by decide +kernel
theorem dX8_decimal_88 : decode cX8_decimal 88 = .ok (.ifCond .ne 7, 3) := by decide +kernel
theorem dX8_decimal_91 : decode cX8_decimal 91 = .ok (.iconst 1, 1) := by decide +kernel
theorem dX8_decimal_92 : decode cX8_decimal 92 = .ok (.goto 4, 3) := by decide +kernel
theorem dX8_decimal_95 : decode cX8_decimal 95 = .ok (.iconst 0, 1) := by decide +kernel
theorem dX8_decimal_96 : decode cX8_decimal 96 = .ok (.bipush 7, 2) := by decide +kernel
theorem dX8_decimal_98 : decode cX8_decimal 98 = .ok (.invokevirtual 42, 3) := by decide +kernel
theorem dX8_decimal_101 : decode cX8_decimal 101 = .ok (.aload_n 0, 1) := by decide +kernel
theorem dX8_decimal_102 : decode cX8_decimal 102 = .ok (.getfield 38, 3) := by decide +kernel
theorem dX8_decimal_105 : decode cX8_decimal 105 = .ok (.ifCond .le 4, 3) := by decide +kernel
theorem dX8_decimal_108 : decode cX8_decimal 108 = .ok (.return_, 1) := by decide +kernel
theorem dX8_decimal_109 : decode cX8_decimal 109 = .ok (.iconst 0, 1) := by decide +kernel
theorem dX8_decimal_110 : decode cX8_decimal 110 = .ok (.istore 6, 2) := by decide +kernel
theorem dX8_decimal_112 : decode cX8_decimal 112 = .ok (.iload 6, 2) := by decide +kernel
theorem dX8_decimal_114 : decode cX8_decimal 114 = .ok (.bipush 40, 2) := by decide +kernel
theorem dX8_decimal_116 : decode cX8_decimal 116 = .ok (.if_icmp .ge 51, 3) := by decide +kernel
theorem dX8_decimal_119 : decode cX8_decimal 119 = .ok (.aload_n 0, 1) := by decide +kernel
theorem dX8_decimal_120 : decode cX8_decimal 120 = .ok (.getfield 31, 3) := by decide +kernel
theorem dX8_decimal_123 : decode cX8_decimal 123 = .ok (.iload 6, 2) := by decide +kernel
theorem dX8_decimal_125 : decode cX8_decimal 125 = .ok (.dup2, 1) := by decide +kernel
theorem dX8_decimal_126 : decode cX8_decimal 126 = .ok (.iaload, 1) := by decide +kernel
theorem dX8_decimal_127 : decode cX8_decimal 127 = .ok (.iload_n 1, 1) := by decide +kernel
theorem dX8_decimal_128 : decode cX8_decimal 128 = .ok (.sipush 249, 3) := by decide +kernel
theorem dX8_decimal_131 : decode cX8_decimal 131 = .ok (.if_icmp .eq 10, 3) := by decide +kernel
theorem dX8_decimal_134 : decode cX8_decimal 134 = .ok (.iload_n 1, 1) := by decide +kernel
theorem dX8_decimal_135 : decode cX8_decimal 135 = .ok (.sipush 251, 3) := by decide +kernel
theorem dX8_decimal_138 : decode cX8_decimal 138 = .ok (.if_icmp .ne 14, 3) := by decide +kernel
theorem dX8_decimal_141 : decode cX8_decimal 141 = .ok (.aload_n 0, 1) := by decide +kernel
theorem dX8_decimal_142 : decode cX8_decimal 142 = .ok (.getfield 34, 3) := by decide +kernel
theorem dX8_decimal_145 : decode cX8_decimal 145 = .ok (.iload 6, 2) := by decide +kernel
theorem dX8_decimal_147 : decode cX8_decimal 147 = .ok (.iaload, 1) := by decide +kernel
theorem dX8_decimal_148 : decode cX8_decimal 148 = .ok (.ineg, 1) := by decide +kernel
theorem dX8_decimal_149 : decode cX8_decimal 149 = .ok (.goto 10, 3) := by decide +kernel
theorem dX8_decimal_152 : decode cX8_decimal 152 = .ok (.aload_n 0, 1) := by decide +kernel
theorem dX8_decimal_153 : decode cX8_decimal 153 = .ok (.getfield 34, 3) := by decide +kernel
theorem dX8_decimal_156 : decode cX8_decimal 156 = .ok (.iload 6, 2) := by decide +kernel
theorem dX8_decimal_158 : decode cX8_decimal 158 = .ok (.iaload, 1) := by decide +kernel
theorem dX8_decimal_159 : decode cX8_decimal 159 = .ok (.iadd, 1) := by decide +kernel
theorem dX8_decimal_160 : decode cX8_decimal 160 = .ok (.iastore, 1) := by decide +kernel
theorem dX8_decimal_161 : decode cX8_decimal 161 = .ok (.iinc 6 1, 3) := by decide +kernel
theorem dX8_decimal_164 : decode cX8_decimal 164 = .ok (.goto (-52), 3) := by decide +kernel
theorem dX8_decimal_167 : decode cX8_decimal 167 = .ok (.aload_n 0, 1) := by decide +kernel
theorem dX8_decimal_168 : decode cX8_decimal 168 = .ok (.aload_n 0, 1) := by decide +kernel
theorem dX8_decimal_169 : decode cX8_decimal 169 = .ok (.invokevirtual 207, 3) := by decide +kernel
theorem dX8_decimal_172 : decode cX8_decimal 172 = .ok (.i2l, 1) := by decide +kernel
theorem dX8_decimal_173 : decode cX8_decimal 173 = .ok (.invokevirtual 120, 3) := by decide +kernel
theorem dX8_decimal_176 : decode cX8_decimal 176 = .ok (.iload_n 1, 1) := by decide +kernel
theorem dX8_decimal_177 : decode cX8_decimal 177 = .ok (.sipush 249, 3) := by decide +kernel
theorem dX8_decimal_180 : decode cX8_decimal 180 = .ok (.if_icmp .ne 4, 3) := by decide +kernel
theorem dX8_decimal_183 : decode cX8_decimal 183 = .ok (.return_, 1) := by decide +kernel
theorem dX8_decimal_184 : decode cX8_decimal 184 = .ok (.iconst 0, 1) := by decide +kernel
theorem dX8_decimal_185 : decode cX8_decimal 185 = .ok (.istore 6, 2) := by decide +kernel
theorem dX8_decimal_187 : decode cX8_decimal 187 = .ok (.iconst 2, 1) := by decide +kernel
theorem dX8_decimal_188 : decode cX8_decimal 188 = .ok (.iload_n 3, 1) := by decide +kernel
theorem dX8_decimal_189 : decode cX8_decimal 189 = .ok (.imul, 1) := by decide +kernel
theorem dX8_decimal_190 : decode cX8_decimal 190 = .ok (.iconst 1, 1) := by decide +kernel
theorem dX8_decimal_191 : decode cX8_decimal 191 = .ok (.isub, 1) := by decide +kernel
theorem dX8_decimal_192 : decode cX8_decimal 192 = .ok (.istore 7, 2) := by decide +kernel
theorem dX8_decimal_194 : decode cX8_decimal 194 = .ok (.iload 7, 2) := by decide +kernel
theorem dX8_decimal_196 : decode cX8_decimal 196 = .ok (.bipush 40, 2) := by decide +kernel
theorem dX8_decimal_198 : decode cX8_decimal 198 = .ok (.if_icmp .ge 31, 3) := by decide +kernel
theorem dX8_decimal_201 : decode cX8_decimal 201 = .ok (.iload 6, 2) := by decide +kernel
theorem dX8_decimal_203 : decode cX8_decimal 203 = .ok (.ifCond .ne 13, 3) := by decide +kernel
theorem dX8_decimal_206 : decode cX8_decimal 206 = .ok (.aload_n 0, 1) := by decide +kernel
theorem dX8_decimal_207 : decode cX8_decimal 207 = .ok (.getfield 31, 3) := by decide +kernel
theorem dX8_decimal_210 : decode cX8_decimal 210 = .ok (.iload 7, 2) := by decide +kernel
theorem dX8_decimal_212 : decode cX8_decimal 212 = .ok (.iaload, 1) := by decide +kernel
theorem dX8_decimal_213 : decode cX8_decimal 213 = .ok (.ifCond .eq 7, 3) := by decide +kernel
theorem dX8_decimal_216 : decode cX8_decimal 216 = .ok (.iconst 1, 1) := by decide +kernel
theorem dX8_decimal_217 : decode cX8_decimal 217 = .ok (.goto 4, 3) := by decide +kernel
theorem dX8_decimal_220 : decode cX8_decimal 220 = .ok (.iconst 0, 1) := by decide +kernel
theorem dX8_decimal_221 : decode cX8_decimal 221 = .ok (.istore 6, 2) := by decide +kernel
theorem dX8_decimal_223 : decode cX8_decimal 223 = .ok (.iinc 7 1, 3) := by decide +kernel
theorem dX8_decimal_226 : decode cX8_decimal 226 = .ok (.goto (-32), 3) := by decide +kernel
theorem dX8_decimal_229 : decode cX8_decimal 229 = .ok (.aload_n 0, 1) := by decide +kernel
theorem dX8_decimal_230 : decode cX8_decimal 230 = .ok (.iload_n 2, 1) := by decide +kernel
theorem dX8_decimal_231 : decode cX8_decimal 231 = .ok (.iload_n 3, 1) := by decide +kernel
theorem dX8_decimal_232 : decode cX8_decimal 232 = .ok (.invokevirtual 177, 3) := by decide +kernel
theorem dX8_decimal_235 : decode cX8_decimal 235 = .ok (.iload 6, 2) := by decide +kernel
theorem dX8_decimal_237 : decode cX8_decimal 237 = .ok (.ifCond .eq 31, 3) := by decide +kernel
theorem dX8_decimal_240 : decode cX8_decimal 240 = .ok (.aload_n 0, 1) := by decide +kernel
theorem dX8_decimal_241 : decode cX8_decimal 241 = .ok (.iconst 3, 1) := by decide +kernel
theorem dX8_decimal_242 : decode cX8_decimal 242 = .ok (.putfield 52, 3) := by decide +kernel
theorem dX8_decimal_245 : decode cX8_decimal 245 = .ok (.aload_n 0, 1) := by decide +kernel
theorem dX8_decimal_246 : decode cX8_decimal 246 = .ok (.aload_n 0, 1) := by decide +kernel
theorem dX8_decimal_247 : decode cX8_decimal 247 = .ok (.getfield 49, 3) := by decide +kernel
theorem dX8_decimal_250 : decode cX8_decimal 250 = .ok (.bipush 16, 2) := by decide +kernel
theorem dX8_decimal_252 : decode cX8_decimal 252 = .ok (.idiv, 1) := by decide +kernel
theorem dX8_decimal_253 : decode cX8_decimal 253 = .ok (.iconst 2, 1) := by decide +kernel
theorem dX8_decimal_254 : decode cX8_decimal 254 = .ok (.irem, 1) := by decide +kernel
theorem dX8_decimal_255 : decode cX8_decimal 255 = .ok (.iconst 1, 1) := by decide +kernel
theorem dX8_decimal_256 : decode cX8_decimal 256 = .ok (.if_icmp .ne 8, 3) := by decide +kernel
theorem dX8_decimal_259 : decode cX8_decimal 259 = .ok (.bipush 10, 2) := by decide +kernel
theorem dX8_decimal_261 : decode cX8_decimal 261 = .ok (.goto 4, 3) := by decide +kernel
theorem dX8_decimal_264 : decode cX8_decimal 264 = .ok (.iconst 0, 1) := by decide +kernel
theorem dX8_decimal_265 : decode cX8_decimal 265 = .ok (.putfield 86, 3) := by decide +kernel
theorem dX8_decimal_268 : decode cX8_decimal 268 = .ok (.return_, 1) := by decide +kernel
theorem dX8_begin_0 : decode cX8_begin 0 = .ok (.aload_n 0, 1) := by decide +kernel
theorem dX8_begin_1 : decode cX8_begin 1 = .ok (.iload_n 1, 1) := by decide +kernel
theorem dX8_begin_2 : decode cX8_begin 2 = .ok (.iconst 1, 1) := by decide +kernel
theorem dX8_begin_3 : decode cX8_begin 3 = .ok (.if_icmp .lt 8, 3) := by decide +kernel
theorem dX8_begin_6 : decode cX8_begin 6 = .ok (.iload_n 1, 1) := by decide +kernel
theorem dX8_begin_7 : decode cX8_begin 7 = .ok (.iconst 2, 1) := by decide +kernel
theorem dX8_begin_8 : decode cX8_begin 8 = .ok (.if_icmp .le 7, 3) := by decide +kernel
theorem dX8_begin_11 : decode cX8_begin 11 = .ok (.iconst 3, 1) := by decide +kernel
theorem dX8_begin_12 : decode cX8_begin 12 = .ok (.goto 22, 3) := by decide +kernel
theorem dX8_begin_15 : decode cX8_begin 15 = .ok (.aload_n 0, 1) := by decide +kernel
theorem dX8_begin_16 : decode cX8_begin 16 = .ok (.getfield 193, 3) := by decide +kernel
theorem dX8_begin_19 : decode cX8_begin 19 = .ok (.ifCond .ne 10, 3) := by decide +kernel
theorem dX8_begin_22 : decode cX8_begin 22 = .ok (.aload_n 0, 1) := by decide +kernel
theorem dX8_begin_23 : decode cX8_begin 23 = .ok (.getfield 80, 3) := by decide +kernel
theorem dX8_begin_26 : decode cX8_begin 26 = .ok (.ifCond .eq 7, 3) := by decide +kernel
theorem dX8_begin_29 : decode cX8_begin 29 = .ok (.iconst 2, 1) := by decide +kernel
theorem dX8_begin_30 : decode cX8_begin 30 = .ok (.goto 4, 3) := by decide +kernel
theorem dX8_begin_33 : decode cX8_begin 33 = .ok (.iconst 0, 1) := by decide +kernel
theorem dX8_begin_34 : decode cX8_begin 34 = .ok (.putfield 52, 3) := by decide +kernel
theorem dX8_begin_37 : decode cX8_begin 37 = .ok (.aload_n 0, 1) := by decide +kernel
theorem dX8_begin_38 : decode cX8_begin 38 = .ok (.getfield 52, 3) := by decide +kernel
theorem dX8_begin_41 : decode cX8_begin 41 = .ok (.ifCond .le 4, 3) := by decide +kernel
theorem dX8_begin_44 : decode cX8_begin 44 = .ok (.return_, 1) := by decide +kernel
theorem dX8_begin_45 : decode cX8_begin 45 = .ok (.aload_n 0, 1) := by decide +kernel
theorem dX8_begin_46 : decode cX8_begin 46 = .ok (.iload_n 1, 1) := by decide +kernel
theorem dX8_begin_47 : decode cX8_begin 47 = .ok (.putfield 83, 3) := by decide +kernel
theorem dX8_begin_50 : decode cX8_begin 50 = .ok (.aload_n 0, 1) := by decide +kernel
theorem dX8_begin_51 : decode cX8_begin 51 = .ok (.iconst 1, 1) := by decide +kernel
theorem dX8_begin_52 : decode cX8_begin 52 = .ok (.putfield 193, 3) := by decide +kernel
theorem dX8_begin_55 : decode cX8_begin 55 = .ok (.aload_n 0, 1) := by decide +kernel
theorem dX8_begin_56 : decode cX8_begin 56 = .ok (.iconst 0, 1) := by decide +kernel
theorem dX8_begin_57 : decode cX8_begin 57 = .ok (.putfield 211, 3) := by decide +kernel
theorem dX8_begin_60 : decode cX8_begin 60 = .ok (.aload_n 0, 1) := by decide +kernel
theorem dX8_begin_61 : decode cX8_begin 61 = .ok (.iconst 0, 1) := by decide +kernel
theorem dX8_begin_62 : decode cX8_begin 62 = .ok (.putfield 214, 3) := by decide +kernel
theorem dX8_begin_65 : decode cX8_begin 65 = .ok (.aload_n 0, 1) := by decide +kernel
theorem dX8_begin_66 : decode cX8_begin 66 = .ok (.iconst 0, 1) := by decide +kernel
theorem dX8_begin_67 : decode cX8_begin 67 = .ok (.putfield 217, 3) := by decide +kernel
theorem dX8_begin_70 : decode cX8_begin 70 = .ok (.aload_n 0, 1) := by decide +kernel
theorem dX8_begin_71 : decode cX8_begin 71 = .ok (.aload_n 0, 1) := by decide +kernel
theorem dX8_begin_72 : decode cX8_begin 72 = .ok (.getfield 7, 3) := by decide +kernel
theorem dX8_begin_75 : decode cX8_begin 75 = .ok (.bipush 72, 2) := by decide +kernel
theorem dX8_begin_77 : decode cX8_begin 77 = .ok (.iaload, 1) := by decide +kernel
theorem dX8_begin_78 : decode cX8_begin 78 = .ok (.bipush 16, 2) := by decide +kernel
theorem dX8_begin_80 : decode cX8_begin 80 = .ok (.idiv, 1) := by decide +kernel
theorem dX8_begin_81 : decode cX8_begin 81 = .ok (.putfield 220, 3) := by decide +kernel
theorem dX8_begin_84 : decode cX8_begin 84 = .ok (.aload_n 0, 1) := by decide +kernel
theorem dX8_begin_85 : decode cX8_begin 85 = .ok (.aload_n 0, 1) := by decide +kernel
theorem dX8_begin_86 : decode cX8_begin 86 = .ok (.bipush 73, 2) := by decide +kernel
theorem dX8_begin_88 : decode cX8_begin 88 = .ok (.iconst 3, 1) := by decide +kernel
theorem dX8_begin_89 : decode cX8_begin 89 = .ok (.invokevirtual 66, 3) := by decide +kernel
theorem dX8_begin_92 : decode cX8_begin 92 = .ok (.putfield 223, 3) := by decide +kernel
theorem dX8_begin_95 : decode cX8_begin 95 = .ok (.return_, 1) := by decide +kernel
theorem dX8_end_0 : decode cX8_end 0 = .ok (.aload_n 0, 1) := by decide +kernel
theorem dX8_end_1 : decode cX8_end 1 = .ok (.getfield 7, 3) := by decide +kernel
theorem dX8_end_4 : decode cX8_end 4 = .ok (.bipush 64, 2) := by decide +kernel
theorem dX8_end_6 : decode cX8_end 6 = .ok (.bipush 16, 2) := by decide +kernel
theorem dX8_end_8 : decode cX8_end 8 = .ok (.aload_n 0, 1) := by decide +kernel
theorem dX8_end_9 : decode cX8_end 9 = .ok (.getfield 220, 3) := by decide +kernel
theorem dX8_end_12 : decode cX8_end 12 = .ok (.imul, 1) := by decide +kernel
theorem dX8_end_13 : decode cX8_end 13 = .ok (.iastore, 1) := by decide +kernel
theorem dX8_end_14 : decode cX8_end 14 = .ok (.aload_n 0, 1) := by decide +kernel
theorem dX8_end_15 : decode cX8_end 15 = .ok (.bipush 65, 2) := by decide +kernel
theorem dX8_end_17 : decode cX8_end 17 = .ok (.aload_n 0, 1) := by decide +kernel
theorem dX8_end_18 : decode cX8_end 18 = .ok (.getfield 223, 3) := by decide +kernel
theorem dX8_end_21 : decode cX8_end 21 = .ok (.iconst 3, 1) := by decide +kernel
theorem dX8_end_22 : decode cX8_end 22 = .ok (.invokevirtual 55, 3) := by decide +kernel
theorem dX8_end_25 : decode cX8_end 25 = .ok (.aload_n 0, 1) := by decide +kernel
theorem dX8_end_26 : decode cX8_end 26 = .ok (.getfield 7, 3) := by decide +kernel
theorem dX8_end_29 : decode cX8_end 29 = .ok (.bipush 68, 2) := by decide +kernel
theorem dX8_end_31 : decode cX8_end 31 = .ok (.iload_n 1, 1) := by decide +kernel
theorem dX8_end_32 : decode cX8_end 32 = .ok (.iastore, 1) := by decide +kernel
theorem dX8_end_33 : decode cX8_end 33 = .ok (.aload_n 0, 1) := by decide +kernel
theorem dX8_end_34 : decode cX8_end 34 = .ok (.getfield 7, 3) := by decide +kernel
theorem dX8_end_37 : decode cX8_end 37 = .ok (.bipush 69, 2) := by decide +kernel
theorem dX8_end_39 : decode cX8_end 39 = .ok (.iload_n 2, 1) := by decide +kernel
theorem dX8_end_40 : decode cX8_end 40 = .ok (.iastore, 1) := by decide +kernel
theorem dX8_end_41 : decode cX8_end 41 = .ok (.aload_n 0, 1) := by decide +kernel
theorem dX8_end_42 : decode cX8_end 42 = .ok (.bipush 70, 2) := by decide +kernel
theorem dX8_end_44 : decode cX8_end 44 = .ok (.aload_n 0, 1) := by decide +kernel
theorem dX8_end_45 : decode cX8_end 45 = .ok (.getfield 226, 3) := by decide +kernel
theorem dX8_end_48 : decode cX8_end 48 = .ok (.iconst 2, 1) := by decide +kernel
theorem dX8_end_49 : decode cX8_end 49 = .ok (.invokevirtual 55, 3) := by decide +kernel
theorem dX8_end_52 : decode cX8_end 52 = .ok (.aload_n 0, 1) := by decide +kernel
theorem dX8_end_53 : decode cX8_end 53 = .ok (.iconst 0, 1) := by decide +kernel
theorem dX8_end_54 : decode cX8_end 54 = .ok (.putfield 193, 3) := by decide +kernel
theorem dX8_end_57 : decode cX8_end 57 = .ok (.aload_n 0, 1) := by decide +kernel
theorem dX8_end_58 : decode cX8_end 58 = .ok (.iconst 1, 1) := by decide +kernel
theorem dX8_end_59 : decode cX8_end 59 = .ok (.putfield 80, 3) := by decide +kernel
theorem dX8_end_62 : decode cX8_end 62 = .ok (.return_, 1) := by decide +kernel
theorem dX8_take_0 : decode cX8_take 0 = .ok (.aload_n 0, 1) := by decide +kernel
theorem dX8_take_1 : decode cX8_take 1 = .ok (.getfield 223, 3) := by decide +kernel
theorem dX8_take_4 : decode cX8_take 4 = .ok (.istore_n 1, 1) := by decide +kernel
theorem dX8_take_5 : decode cX8_take 5 = .ok (.aload_n 0, 1) := by decide +kernel
theorem dX8_take_6 : decode cX8_take 6 = .ok (.iload_n 1, 1) := by decide +kernel
theorem dX8_take_7 : decode cX8_take 7 = .ok (.bipush 8, 2) := by decide +kernel
theorem dX8_take_9 : decode cX8_take 9 = .ok (.iadd, 1) := by decide +kernel
theorem dX8_take_10 : decode cX8_take 10 = .ok (.ldc 229, 2) := by decide +kernel
theorem dX8_take_12 : decode cX8_take 12 = .ok (.irem, 1) := by decide +kernel
theorem dX8_take_13 : decode cX8_take 13 = .ok (.putfield 223, 3) := by decide +kernel
theorem dX8_take_16 : decode cX8_take 16 = .ok (.aload_n 0, 1) := by decide +kernel
theorem dX8_take_17 : decode cX8_take 17 = .ok (.iconst 0, 1) := by decide +kernel
theorem dX8_take_18 : decode cX8_take 18 = .ok (.putfield 226, 3) := by decide +kernel
theorem dX8_take_21 : decode cX8_take 21 = .ok (.iload_n 1, 1) := by decide +kernel
theorem dX8_take_22 : decode cX8_take 22 = .ok (.bipush 8, 2) := by decide +kernel
theorem dX8_take_24 : decode cX8_take 24 = .ok (.irem, 1) := by decide +kernel
theorem dX8_take_25 : decode cX8_take 25 = .ok (.ifCond .gt 10, 3) := by decide +kernel
theorem dX8_take_28 : decode cX8_take 28 = .ok (.iload_n 1, 1) := by decide +kernel
theorem dX8_take_29 : decode cX8_take 29 = .ok (.sipush 2040, 3) := by decide +kernel
theorem dX8_take_32 : decode cX8_take 32 = .ok (.if_icmp .le 11, 3) := by decide +kernel
theorem dX8_take_35 : decode cX8_take 35 = .ok (.aload_n 0, 1) := by decide +kernel
theorem dX8_take_36 : decode cX8_take 36 = .ok (.iconst 0, 1) := by decide +kernel
theorem dX8_take_37 : decode cX8_take 37 = .ok (.bipush 32, 2) := by decide +kernel
theorem dX8_take_39 : decode cX8_take 39 = .ok (.invokevirtual 230, 3) := by decide +kernel
theorem dX8_take_42 : decode cX8_take 42 = .ok (.return_, 1) := by decide +kernel
theorem dX8_take_43 : decode cX8_take 43 = .ok (.aload_n 0, 1) := by decide +kernel
theorem dX8_take_44 : decode cX8_take 44 = .ok (.getfield 7, 3) := by decide +kernel
theorem dX8_take_47 : decode cX8_take 47 = .ok (.iload_n 1, 1) := by decide +kernel
theorem dX8_take_48 : decode cX8_take 48 = .ok (.iaload, 1) := by decide +kernel
theorem dX8_take_49 : decode cX8_take 49 = .ok (.istore_n 2, 1) := by decide +kernel
theorem dX8_take_50 : decode cX8_take 50 = .ok (.aload_n 0, 1) := by decide +kernel
theorem dX8_take_51 : decode cX8_take 51 = .ok (.aload_n 0, 1) := by decide +kernel
theorem dX8_take_52 : decode cX8_take 52 = .ok (.iload_n 1, 1) := by decide +kernel
theorem dX8_take_53 : decode cX8_take 53 = .ok (.iconst 1, 1) := by decide +kernel
theorem dX8_take_54 : decode cX8_take 54 = .ok (.iadd, 1) := by decide +kernel
theorem dX8_take_55 : decode cX8_take 55 = .ok (.iconst 3, 1) := by decide +kernel
theorem dX8_take_56 : decode cX8_take 56 = .ok (.invokevirtual 66, 3) := by decide +kernel
theorem dX8_take_59 : decode cX8_take 59 = .ok (.putfield 233, 3) := by decide +kernel
theorem dX8_take_62 : decode cX8_take 62 = .ok (.aload_n 0, 1) := by decide +kernel
theorem dX8_take_63 : decode cX8_take 63 = .ok (.aload_n 0, 1) := by decide +kernel
theorem dX8_take_64 : decode cX8_take 64 = .ok (.getfield 7, 3) := by decide +kernel
theorem dX8_take_67 : decode cX8_take 67 = .ok (.iload_n 1, 1) := by decide +kernel
theorem dX8_take_68 : decode cX8_take 68 = .ok (.iconst 4, 1) := by decide +kernel
theorem dX8_take_69 : decode cX8_take 69 = .ok (.iadd, 1) := by decide +kernel
theorem dX8_take_70 : decode cX8_take 70 = .ok (.iaload, 1) := by decide +kernel
theorem dX8_take_71 : decode cX8_take 71 = .ok (.putfield 236, 3) := by decide +kernel
theorem dX8_take_74 : decode cX8_take 74 = .ok (.aload_n 0, 1) := by decide +kernel
theorem dX8_take_75 : decode cX8_take 75 = .ok (.aload_n 0, 1) := by decide +kernel
theorem dX8_take_76 : decode cX8_take 76 = .ok (.iload_n 1, 1) := by decide +kernel
theorem dX8_take_77 : decode cX8_take 77 = .ok (.bipush 6, 2) := by decide +kernel
theorem dX8_take_79 : decode cX8_take 79 = .ok (.iadd, 1) := by decide +kernel
theorem dX8_take_80 : decode cX8_take 80 = .ok (.iconst 2, 1) := by decide +kernel
theorem dX8_take_81 : decode cX8_take 81 = .ok (.invokevirtual 66, 3) := by decide +kernel
theorem dX8_take_84 : decode cX8_take 84 = .ok (.putfield 226, 3) := by decide +kernel
theorem dX8_take_87 : decode cX8_take 87 = .ok (.aload_n 0, 1) := by decide +kernel
theorem dX8_take_88 : decode cX8_take 88 = .ok (.getfield 83, 3) := by decide +kernel
theorem dX8_take_91 : decode cX8_take 91 = .ok (.iconst 1, 1) := by decide +kernel
theorem dX8_take_92 : decode cX8_take 92 = .ok (.if_icmp .ne 7, 3) := by decide +kernel
theorem dX8_take_95 : decode cX8_take 95 = .ok (.iconst 2, 1) := by decide +kernel
theorem dX8_take_96 : decode cX8_take 96 = .ok (.goto 4, 3) := by decide +kernel
theorem dX8_take_99 : decode cX8_take 99 = .ok (.iconst 1, 1) := by decide +kernel
theorem dX8_take_100 : decode cX8_take 100 = .ok (.istore_n 3, 1) := by decide +kernel
theorem dX8_take_101 : decode cX8_take 101 = .ok (.iload_n 2, 1) := by decide +kernel
theorem dX8_take_102 : decode cX8_take 102 = .ok (.bipush 8, 2) := by decide +kernel
theorem dX8_take_104 : decode cX8_take 104 = .ok (.if_icmp .ne 26, 3) := by decide +kernel
theorem dX8_take_107 : decode cX8_take 107 = .ok (.aload_n 0, 1) := by decide +kernel
theorem dX8_take_108 : decode cX8_take 108 = .ok (.getfield 214, 3) := by decide +kernel
theorem dX8_take_111 : decode cX8_take 111 = .ok (.ifCond .ne 19, 3) := by decide +kernel
theorem dX8_take_114 : decode cX8_take 114 = .ok (.aload_n 0, 1) := by decide +kernel
theorem dX8_take_115 : decode cX8_take 115 = .ok (.iconst 1, 1) := by decide +kernel
theorem dX8_take_116 : decode cX8_take 116 = .ok (.putfield 214, 3) := by decide +kernel
theorem dX8_take_119 : decode cX8_take 119 = .ok (.aload_n 0, 1) := by decide +kernel
theorem dX8_take_120 : decode cX8_take 120 = .ok (.aload_n 0, 1) := by decide +kernel
theorem dX8_take_121 : decode cX8_take 121 = .ok (.getfield 233, 3) := by decide +kernel
theorem dX8_take_124 : decode cX8_take 124 = .ok (.putfield 223, 3) := by decide +kernel
theorem dX8_take_127 : decode cX8_take 127 = .ok (.goto 76, 3) := by decide +kernel
theorem dX8_take_130 : decode cX8_take 130 = .ok (.iload_n 2, 1) := by decide +kernel
theorem dX8_take_131 : decode cX8_take 131 = .ok (.bipush 8, 2) := by decide +kernel
theorem dX8_take_133 : decode cX8_take 133 = .ok (.if_icmp .eq 22, 3) := by decide +kernel
theorem dX8_take_136 : decode cX8_take 136 = .ok (.aload_n 0, 1) := by decide +kernel
theorem dX8_take_137 : decode cX8_take 137 = .ok (.getfield 211, 3) := by decide +kernel
theorem dX8_take_140 : decode cX8_take 140 = .ok (.ifCond .ne 8, 3) := by decide +kernel
theorem dX8_take_143 : decode cX8_take 143 = .ok (.iload_n 2, 1) := by decide +kernel
theorem dX8_take_144 : decode cX8_take 144 = .ok (.iload_n 3, 1) := by decide +kernel
theorem dX8_take_145 : decode cX8_take 145 = .ok (.if_icmp .ne 10, 3) := by decide +kernel
theorem dX8_take_148 : decode cX8_take 148 = .ok (.aload_n 0, 1) := by decide +kernel
theorem dX8_take_149 : decode cX8_take 149 = .ok (.getfield 226, 3) := by decide +kernel
theorem dX8_take_152 : decode cX8_take 152 = .ok (.ifCond .ne 13, 3) := by decide +kernel
theorem dX8_take_155 : decode cX8_take 155 = .ok (.aload_n 0, 1) := by decide +kernel
theorem dX8_take_156 : decode cX8_take 156 = .ok (.iconst 0, 1) := by decide +kernel
theorem dX8_take_157 : decode cX8_take 157 = .ok (.bipush 32, 2) := by decide +kernel
theorem dX8_take_159 : decode cX8_take 159 = .ok (.invokevirtual 230, 3) := by decide +kernel
theorem dX8_take_162 : decode cX8_take 162 = .ok (.goto 41, 3) := by decide +kernel
theorem dX8_take_165 : decode cX8_take 165 = .ok (.aload_n 0, 1) := by decide +kernel
theorem dX8_take_166 : decode cX8_take 166 = .ok (.iconst 0, 1) := by decide +kernel
theorem dX8_take_167 : decode cX8_take 167 = .ok (.putfield 214, 3) := by decide +kernel
theorem dX8_take_170 : decode cX8_take 170 = .ok (.aload_n 0, 1) := by decide +kernel
theorem dX8_take_171 : decode cX8_take 171 = .ok (.iload_n 3, 1) := by decide +kernel
theorem dX8_take_172 : decode cX8_take 172 = .ok (.putfield 217, 3) := by decide +kernel
theorem dX8_take_175 : decode cX8_take 175 = .ok (.aload_n 0, 1) := by decide +kernel
theorem dX8_take_176 : decode cX8_take 176 = .ok (.getfield 211, 3) := by decide +kernel
theorem dX8_take_179 : decode cX8_take 179 = .ok (.ifCond .ne 7, 3) := by decide +kernel
theorem dX8_take_182 : decode cX8_take 182 = .ok (.iconst 1, 1) := by decide +kernel
theorem dX8_take_183 : decode cX8_take 183 = .ok (.goto 4, 3) := by decide +kernel
theorem dX8_take_186 : decode cX8_take 186 = .ok (.iconst 0, 1) := by decide +kernel
theorem dX8_take_187 : decode cX8_take 187 = .ok (.istore 4, 2) := by decide +kernel
theorem dX8_take_189 : decode cX8_take 189 = .ok (.aload_n 0, 1) := by decide +kernel
theorem dX8_take_190 : decode cX8_take 190 = .ok (.iconst 0, 1) := by decide +kernel
theorem dX8_take_191 : decode cX8_take 191 = .ok (.putfield 211, 3) := by decide +kernel
theorem dX8_take_194 : decode cX8_take 194 = .ok (.iload 4, 2) := by decide +kernel
theorem dX8_take_196 : decode cX8_take 196 = .ok (.ifCond .eq 7, 3) := by decide +kernel
theorem dX8_take_199 : decode cX8_take 199 = .ok (.aload_n 0, 1) := by decide +kernel
theorem dX8_take_200 : decode cX8_take 200 = .ok (.invokevirtual 239, 3) := by decide +kernel
theorem dX8_take_203 : decode cX8_take 203 = .ok (.return_, 1) := by decide +kernel
theorem dX8_open_0 : decode cX8_open 0 = .ok (.aload_n 0, 1) := by decide +kernel
theorem dX8_open_1 : decode cX8_open 1 = .ok (.getfield 83, 3) := by decide +kernel
theorem dX8_open_4 : decode cX8_open 4 = .ok (.iconst 2, 1) := by decide +kernel
theorem dX8_open_5 : decode cX8_open 5 = .ok (.if_icmp .ne 19, 3) := by decide +kernel
theorem dX8_open_8 : decode cX8_open 8 = .ok (.aload_n 0, 1) := by decide +kernel
theorem dX8_open_9 : decode cX8_open 9 = .ok (.dup, 1) := by decide +kernel
theorem dX8_open_10 : decode cX8_open 10 = .ok (.getfield 242, 3) := by decide +kernel
theorem dX8_open_13 : decode cX8_open 13 = .ok (.iconst 1, 1) := by decide +kernel
theorem dX8_open_14 : decode cX8_open 14 = .ok (.iadd, 1) := by decide +kernel
theorem dX8_open_15 : decode cX8_open 15 = .ok (.putfield 242, 3) := by decide +kernel
theorem dX8_open_18 : decode cX8_open 18 = .ok (.aload_n 0, 1) := by decide +kernel
theorem dX8_open_19 : decode cX8_open 19 = .ok (.iconst 0, 1) := by decide +kernel
theorem dX8_open_20 : decode cX8_open 20 = .ok (.putfield 245, 3) := by decide +kernel
theorem dX8_open_23 : decode cX8_open 23 = .ok (.return_, 1) := by decide +kernel
theorem dX8_open_24 : decode cX8_open 24 = .ok (.aload_n 0, 1) := by decide +kernel
theorem dX8_open_25 : decode cX8_open 25 = .ok (.getfield 248, 3) := by decide +kernel
theorem dX8_open_28 : decode cX8_open 28 = .ok (.ifCond .ne 11, 3) := by decide +kernel
theorem dX8_open_31 : decode cX8_open 31 = .ok (.aload_n 0, 1) := by decide +kernel
theorem dX8_open_32 : decode cX8_open 32 = .ok (.bipush 13, 2) := by decide +kernel
theorem dX8_open_34 : decode cX8_open 34 = .ok (.iconst 0, 1) := by decide +kernel
theorem dX8_open_35 : decode cX8_open 35 = .ok (.invokevirtual 230, 3) := by decide +kernel
theorem dX8_open_38 : decode cX8_open 38 = .ok (.return_, 1) := by decide +kernel
theorem dX8_open_39 : decode cX8_open 39 = .ok (.aload_n 0, 1) := by decide +kernel
theorem dX8_open_40 : decode cX8_open 40 = .ok (.aload_n 0, 1) := by decide +kernel
theorem dX8_open_41 : decode cX8_open 41 = .ok (.getfield 22, 3) := by decide +kernel
theorem dX8_open_44 : decode cX8_open 44 = .ok (.iconst 0, 1) := by decide +kernel
theorem dX8_open_45 : decode cX8_open 45 = .ok (.iaload, 1) := by decide +kernel
theorem dX8_open_46 : decode cX8_open 46 = .ok (.putfield 251, 3) := by decide +kernel
theorem dX8_open_49 : decode cX8_open 49 = .ok (.iconst 0, 1) := by decide +kernel
theorem dX8_open_50 : decode cX8_open 50 = .ok (.istore_n 1, 1) := by decide +kernel
theorem dX8_open_51 : decode cX8_open 51 = .ok (.iload_n 1, 1) := by decide +kernel
theorem dX8_open_52 : decode cX8_open 52 = .ok (.bipush 16, 2) := by decide +kernel
theorem dX8_open_54 : decode cX8_open 54 = .ok (.if_icmp .ge 21, 3) := by decide +kernel
theorem dX8_open_57 : decode cX8_open 57 = .ok (.aload_n 0, 1) := by decide +kernel
theorem dX8_open_58 : decode cX8_open 58 = .ok (.getfield 25, 3) := by decide +kernel
theorem dX8_open_61 : decode cX8_open 61 = .ok (.iload_n 1, 1) := by decide +kernel
theorem dX8_open_62 : decode cX8_open 62 = .ok (.aload_n 0, 1) := by decide +kernel
theorem dX8_open_63 : decode cX8_open 63 = .ok (.getfield 19, 3) := by decide +kernel
theorem dX8_open_66 : decode cX8_open 66 = .ok (.iload_n 1, 1) := by decide +kernel
theorem dX8_open_67 : decode cX8_open 67 = .ok (.iaload, 1) := by decide +kernel
theorem dX8_open_68 : decode cX8_open 68 = .ok (.iastore, 1) := by decide +kernel
theorem dX8_open_69 : decode cX8_open 69 = .ok (.iinc 1 1, 3) := by decide +kernel
theorem dX8_open_72 : decode cX8_open 72 = .ok (.goto (-21), 3) := by decide +kernel
theorem dX8_open_75 : decode cX8_open 75 = .ok (.iconst 0, 1) := by decide +kernel
theorem dX8_open_76 : decode cX8_open 76 = .ok (.istore_n 1, 1) := by decide +kernel
theorem dX8_open_77 : decode cX8_open 77 = .ok (.iload_n 1, 1) := by decide +kernel
theorem dX8_open_78 : decode cX8_open 78 = .ok (.sipush 144, 3) := by decide +kernel
theorem dX8_open_81 : decode cX8_open 81 = .ok (.if_icmp .ge 24, 3) := by decide +kernel
theorem dX8_open_84 : decode cX8_open 84 = .ok (.aload_n 0, 1) := by decide +kernel
theorem dX8_open_85 : decode cX8_open 85 = .ok (.getfield 19, 3) := by decide +kernel
theorem dX8_open_88 : decode cX8_open 88 = .ok (.iload_n 1, 1) := by decide +kernel
theorem dX8_open_89 : decode cX8_open 89 = .ok (.aload_n 0, 1) := by decide +kernel
theorem dX8_open_90 : decode cX8_open 90 = .ok (.getfield 19, 3) := by decide +kernel
theorem dX8_open_93 : decode cX8_open 93 = .ok (.iload_n 1, 1) := by decide +kernel
theorem dX8_open_94 : decode cX8_open 94 = .ok (.bipush 16, 2) := by decide +kernel
theorem dX8_open_96 : decode cX8_open 96 = .ok (.iadd, 1) := by decide +kernel
theorem dX8_open_97 : decode cX8_open 97 = .ok (.iaload, 1) := by decide +kernel
theorem dX8_open_98 : decode cX8_open 98 = .ok (.iastore, 1) := by decide +kernel
theorem dX8_open_99 : decode cX8_open 99 = .ok (.iinc 1 1, 3) := by decide +kernel
theorem dX8_open_102 : decode cX8_open 102 = .ok (.goto (-25), 3) := by decide +kernel
theorem dX8_open_105 : decode cX8_open 105 = .ok (.iconst 0, 1) := by decide +kernel
theorem dX8_open_106 : decode cX8_open 106 = .ok (.istore_n 1, 1) := by decide +kernel
theorem dX8_open_107 : decode cX8_open 107 = .ok (.iload_n 1, 1) := by decide +kernel
theorem dX8_open_108 : decode cX8_open 108 = .ok (.bipush 9, 2) := by decide +kernel
theorem dX8_open_110 : decode cX8_open 110 = .ok (.if_icmp .ge 23, 3) := by decide +kernel
theorem dX8_open_113 : decode cX8_open 113 = .ok (.aload_n 0, 1) := by decide +kernel
theorem dX8_open_114 : decode cX8_open 114 = .ok (.getfield 22, 3) := by decide +kernel
theorem dX8_open_117 : decode cX8_open 117 = .ok (.iload_n 1, 1) := by decide +kernel
theorem dX8_open_118 : decode cX8_open 118 = .ok (.aload_n 0, 1) := by decide +kernel
theorem dX8_open_119 : decode cX8_open 119 = .ok (.getfield 22, 3) := by decide +kernel
theorem dX8_open_122 : decode cX8_open 122 = .ok (.iload_n 1, 1) := by decide +kernel
theorem dX8_open_123 : decode cX8_open 123 = .ok (.iconst 1, 1) := by decide +kernel
theorem dX8_open_124 : decode cX8_open 124 = .ok (.iadd, 1) := by decide +kernel
theorem dX8_open_125 : decode cX8_open 125 = .ok (.iaload, 1) := by decide +kernel
theorem dX8_open_126 : decode cX8_open 126 = .ok (.iastore, 1) := by decide +kernel
theorem dX8_open_127 : decode cX8_open 127 = .ok (.iinc 1 1, 3) := by decide +kernel
theorem dX8_open_130 : decode cX8_open 130 = .ok (.goto (-23), 3) := by decide +kernel
theorem dX8_open_133 : decode cX8_open 133 = .ok (.aload_n 0, 1) := by decide +kernel
theorem dX8_open_134 : decode cX8_open 134 = .ok (.dup, 1) := by decide +kernel
theorem dX8_open_135 : decode cX8_open 135 = .ok (.getfield 248, 3) := by decide +kernel
theorem dX8_open_138 : decode cX8_open 138 = .ok (.iconst 1, 1) := by decide +kernel
theorem dX8_open_139 : decode cX8_open 139 = .ok (.isub, 1) := by decide +kernel
theorem dX8_open_140 : decode cX8_open 140 = .ok (.putfield 248, 3) := by decide +kernel
theorem dX8_open_143 : decode cX8_open 143 = .ok (.aload_n 0, 1) := by decide +kernel
theorem dX8_open_144 : decode cX8_open 144 = .ok (.iconst 0, 1) := by decide +kernel
theorem dX8_open_145 : decode cX8_open 145 = .ok (.putfield 254, 3) := by decide +kernel
theorem dX8_open_148 : decode cX8_open 148 = .ok (.aload_n 0, 1) := by decide +kernel
theorem dX8_open_149 : decode cX8_open 149 = .ok (.getfield 251, 3) := by decide +kernel
theorem dX8_open_152 : decode cX8_open 152 = .ok (.ifCond .ne 7, 3) := by decide +kernel
theorem dX8_open_155 : decode cX8_open 155 = .ok (.aload_n 0, 1) := by decide +kernel
theorem dX8_open_156 : decode cX8_open 156 = .ok (.invokevirtual 257, 3) := by decide +kernel
theorem dX8_open_159 : decode cX8_open 159 = .ok (.return_, 1) := by decide +kernel
theorem dX8_move_0 : decode cX8_move 0 = .ok (.aload_n 0, 1) := by decide +kernel
theorem dX8_move_1 : decode cX8_move 1 = .ok (.getfield 83, 3) := by decide +kernel
theorem dX8_move_4 : decode cX8_move 4 = .ok (.iconst 1, 1) := by decide +kernel
theorem dX8_move_5 : decode cX8_move 5 = .ok (.if_icmp .ne 7, 3) := by decide +kernel
theorem dX8_move_8 : decode cX8_move 8 = .ok (.iconst 1, 1) := by decide +kernel
theorem dX8_move_9 : decode cX8_move 9 = .ok (.goto 4, 3) := by decide +kernel
theorem dX8_move_12 : decode cX8_move 12 = .ok (.iconst 0, 1) := by decide +kernel
theorem dX8_move_13 : decode cX8_move 13 = .ok (.istore_n 1, 1) := by decide +kernel
theorem dX8_move_14 : decode cX8_move 14 = .ok (.iload_n 1, 1) := by decide +kernel
theorem dX8_move_15 : decode cX8_move 15 = .ok (.ifCond .eq 19, 3) := by decide +kernel
theorem dX8_move_18 : decode cX8_move 18 = .ok (.aload_n 0, 1) := by decide +kernel
theorem dX8_move_19 : decode cX8_move 19 = .ok (.getfield 236, 3) := by decide +kernel
theorem dX8_move_22 : decode cX8_move 22 = .ok (.bipush 16, 2) := by decide +kernel
theorem dX8_move_24 : decode cX8_move 24 = .ok (.idiv, 1) := by decide +kernel
theorem dX8_move_25 : decode cX8_move 25 = .ok (.iconst 2, 1) := by decide +kernel
theorem dX8_move_26 : decode cX8_move 26 = .ok (.irem, 1) := by decide +kernel
theorem dX8_move_27 : decode cX8_move 27 = .ok (.ifCond .ne 7, 3) := by decide +kernel
theorem dX8_move_30 : decode cX8_move 30 = .ok (.iconst 1, 1) := by decide +kernel
theorem dX8_move_31 : decode cX8_move 31 = .ok (.goto 4, 3) := by decide +kernel
theorem dX8_move_34 : decode cX8_move 34 = .ok (.iconst 0, 1) := by decide +kernel
theorem dX8_move_35 : decode cX8_move 35 = .ok (.istore_n 2, 1) := by decide +kernel
theorem dX8_move_36 : decode cX8_move 36 = .ok (.aload_n 0, 1) := by decide +kernel
theorem dX8_move_37 : decode cX8_move 37 = .ok (.getfield 233, 3) := by decide +kernel
theorem dX8_move_40 : decode cX8_move 40 = .ok (.sipush 2048, 3) := by decide +kernel
theorem dX8_move_43 : decode cX8_move 43 = .ok (.if_icmp .lt 11, 3) := by decide +kernel
theorem dX8_move_46 : decode cX8_move 46 = .ok (.aload_n 0, 1) := by decide +kernel
theorem dX8_move_47 : decode cX8_move 47 = .ok (.iconst 0, 1) := by decide +kernel
theorem dX8_move_48 : decode cX8_move 48 = .ok (.bipush 32, 2) := by decide +kernel
theorem dX8_move_50 : decode cX8_move 50 = .ok (.invokevirtual 230, 3) := by decide +kernel
theorem dX8_move_53 : decode cX8_move 53 = .ok (.return_, 1) := by decide +kernel
theorem dX8_move_54 : decode cX8_move 54 = .ok (.iload_n 2, 1) := by decide +kernel
theorem dX8_move_55 : decode cX8_move 55 = .ok (.ifCond .eq 38, 3) := by decide +kernel
theorem dX8_move_58 : decode cX8_move 58 = .ok (.aload_n 0, 1) := by decide +kernel
theorem dX8_move_59 : decode cX8_move 59 = .ok (.getfield 220, 3) := by decide +kernel
theorem dX8_move_62 : decode cX8_move 62 = .ok (.ifCond .le 31, 3) := by decide +kernel
theorem dX8_move_65 : decode cX8_move 65 = .ok (.aload_n 0, 1) := by decide +kernel
theorem dX8_move_66 : decode cX8_move 66 = .ok (.getfield 13, 3) := by decide +kernel
theorem dX8_move_69 : decode cX8_move 69 = .ok (.aload_n 0, 1) := by decide +kernel
theorem dX8_move_70 : decode cX8_move 70 = .ok (.getfield 233, 3) := by decide +kernel
theorem dX8_move_73 : decode cX8_move 73 = .ok (.sipush 256, 3) := by decide +kernel
theorem dX8_move_76 : decode cX8_move 76 = .ok (.idiv, 1) := by decide +kernel
theorem dX8_move_77 : decode cX8_move 77 = .ok (.iaload, 1) := by decide +kernel
theorem dX8_move_78 : decode cX8_move 78 = .ok (.aload_n 0, 1) := by decide +kernel
theorem dX8_move_79 : decode cX8_move 79 = .ok (.getfield 220, 3) := by decide +kernel
theorem dX8_move_82 : decode cX8_move 82 = .ok (.if_icmp .eq 11, 3) := by decide +kernel
theorem dX8_move_85 : decode cX8_move 85 = .ok (.aload_n 0, 1) := by decide +kernel
theorem dX8_move_86 : decode cX8_move 86 = .ok (.iconst 0, 1) := by decide +kernel
theorem dX8_move_87 : decode cX8_move 87 = .ok (.bipush 16, 2) := by decide +kernel
theorem dX8_move_89 : decode cX8_move 89 = .ok (.invokevirtual 230, 3) := by decide +kernel
theorem dX8_move_92 : decode cX8_move 92 = .ok (.return_, 1) := by decide +kernel
theorem dX8_move_93 : decode cX8_move 93 = .ok (.iload_n 2, 1) := by decide +kernel
theorem dX8_move_94 : decode cX8_move 94 = .ok (.ifCond .eq 21, 3) := by decide +kernel
theorem dX8_move_97 : decode cX8_move 97 = .ok (.aload_n 0, 1) := by decide +kernel
theorem dX8_move_98 : decode cX8_move 98 = .ok (.getfield 7, 3) := by decide +kernel
theorem dX8_move_101 : decode cX8_move 101 = .ok (.aload_n 0, 1) := by decide +kernel
theorem dX8_move_102 : decode cX8_move 102 = .ok (.getfield 233, 3) := by decide +kernel
theorem dX8_move_105 : decode cX8_move 105 = .ok (.aload_n 0, 1) := by decide +kernel
theorem dX8_move_106 : decode cX8_move 106 = .ok (.getfield 25, 3) := by decide +kernel
theorem dX8_move_109 : decode cX8_move 109 = .ok (.aload_n 0, 1) := by decide +kernel
theorem dX8_move_110 : decode cX8_move 110 = .ok (.getfield 254, 3) := by decide +kernel
theorem dX8_move_113 : decode cX8_move 113 = .ok (.iaload, 1) := by decide +kernel
theorem dX8_move_114 : decode cX8_move 114 = .ok (.iastore, 1) := by decide +kernel
theorem dX8_move_115 : decode cX8_move 115 = .ok (.iload_n 1, 1) := by decide +kernel
theorem dX8_move_116 : decode cX8_move 116 = .ok (.ifCond .eq 16, 3) := by decide +kernel
theorem dX8_move_119 : decode cX8_move 119 = .ok (.aload_n 0, 1) := by decide +kernel
theorem dX8_move_120 : decode cX8_move 120 = .ok (.dup, 1) := by decide +kernel
theorem dX8_move_121 : decode cX8_move 121 = .ok (.getfield 254, 3) := by decide +kernel
theorem dX8_move_124 : decode cX8_move 124 = .ok (.iconst 1, 1) := by decide +kernel
theorem dX8_move_125 : decode cX8_move 125 = .ok (.iadd, 1) := by decide +kernel
theorem dX8_move_126 : decode cX8_move 126 = .ok (.putfield 254, 3) := by decide +kernel
theorem dX8_move_129 : decode cX8_move 129 = .ok (.goto 40, 3) := by decide +kernel
theorem dX8_move_132 : decode cX8_move 132 = .ok (.aload_n 0, 1) := by decide +kernel
theorem dX8_move_133 : decode cX8_move 133 = .ok (.getfield 245, 3) := by decide +kernel
theorem dX8_move_136 : decode cX8_move 136 = .ok (.bipush 32, 2) := by decide +kernel
theorem dX8_move_138 : decode cX8_move 138 = .ok (.if_icmp .ge 21, 3) := by decide +kernel
theorem dX8_move_141 : decode cX8_move 141 = .ok (.aload_n 0, 1) := by decide +kernel
theorem dX8_move_142 : decode cX8_move 142 = .ok (.getfield 28, 3) := by decide +kernel
theorem dX8_move_145 : decode cX8_move 145 = .ok (.aload_n 0, 1) := by decide +kernel
theorem dX8_move_146 : decode cX8_move 146 = .ok (.getfield 245, 3) := by decide +kernel
theorem dX8_move_149 : decode cX8_move 149 = .ok (.aload_n 0, 1) := by decide +kernel
theorem dX8_move_150 : decode cX8_move 150 = .ok (.getfield 7, 3) := by decide +kernel
theorem dX8_move_153 : decode cX8_move 153 = .ok (.aload_n 0, 1) := by decide +kernel
theorem dX8_move_154 : decode cX8_move 154 = .ok (.getfield 233, 3) := by decide +kernel
theorem dX8_move_157 : decode cX8_move 157 = .ok (.iaload, 1) := by decide +kernel
theorem dX8_move_158 : decode cX8_move 158 = .ok (.iastore, 1) := by decide +kernel
theorem dX8_move_159 : decode cX8_move 159 = .ok (.aload_n 0, 1) := by decide +kernel
theorem dX8_move_160 : decode cX8_move 160 = .ok (.dup, 1) := by decide +kernel
theorem dX8_move_161 : decode cX8_move 161 = .ok (.getfield 245, 3) := by decide +kernel
theorem dX8_move_164 : decode cX8_move 164 = .ok (.iconst 1, 1) := by decide +kernel
theorem dX8_move_165 : decode cX8_move 165 = .ok (.iadd, 1) := by decide +kernel
theorem dX8_move_166 : decode cX8_move 166 = .ok (.putfield 245, 3) := by decide +kernel
theorem dX8_move_169 : decode cX8_move 169 = .ok (.aload_n 0, 1) := by decide +kernel
theorem dX8_move_170 : decode cX8_move 170 = .ok (.dup, 1) := by decide +kernel
theorem dX8_move_171 : decode cX8_move 171 = .ok (.getfield 233, 3) := by decide +kernel
theorem dX8_move_174 : decode cX8_move 174 = .ok (.iconst 1, 1) := by decide +kernel
theorem dX8_move_175 : decode cX8_move 175 = .ok (.iadd, 1) := by decide +kernel
theorem dX8_move_176 : decode cX8_move 176 = .ok (.putfield 233, 3) := by decide +kernel
theorem dX8_move_179 : decode cX8_move 179 = .ok (.aload_n 0, 1) := by decide +kernel
theorem dX8_move_180 : decode cX8_move 180 = .ok (.dup, 1) := by decide +kernel
theorem dX8_move_181 : decode cX8_move 181 = .ok (.getfield 226, 3) := by decide +kernel
theorem dX8_move_184 : decode cX8_move 184 = .ok (.iconst 1, 1) := by decide +kernel
theorem dX8_move_185 : decode cX8_move 185 = .ok (.isub, 1) := by decide +kernel
theorem dX8_move_186 : decode cX8_move 186 = .ok (.putfield 226, 3) := by decide +kernel
theorem dX8_move_189 : decode cX8_move 189 = .ok (.iload_n 1, 1) := by decide +kernel
theorem dX8_move_190 : decode cX8_move 190 = .ok (.ifCond .eq 18, 3) := by decide +kernel
theorem dX8_move_193 : decode cX8_move 193 = .ok (.aload_n 0, 1) := by decide +kernel
theorem dX8_move_194 : decode cX8_move 194 = .ok (.getfield 254, 3) := by decide +kernel
theorem dX8_move_197 : decode cX8_move 197 = .ok (.aload_n 0, 1) := by decide +kernel
theorem dX8_move_198 : decode cX8_move 198 = .ok (.getfield 251, 3) := by decide +kernel
theorem dX8_move_201 : decode cX8_move 201 = .ok (.if_icmp .ne 7, 3) := by decide +kernel
theorem dX8_move_204 : decode cX8_move 204 = .ok (.iconst 1, 1) := by decide +kernel
theorem dX8_move_205 : decode cX8_move 205 = .ok (.goto 4, 3) := by decide +kernel
theorem dX8_move_208 : decode cX8_move 208 = .ok (.iconst 0, 1) := by decide +kernel
theorem dX8_move_209 : decode cX8_move 209 = .ok (.istore_n 3, 1) := by decide +kernel
theorem dX8_move_210 : decode cX8_move 210 = .ok (.iload_n 3, 1) := by decide +kernel
theorem dX8_move_211 : decode cX8_move 211 = .ok (.ifCond .ne 20, 3) := by decide +kernel
theorem dX8_move_214 : decode cX8_move 214 = .ok (.aload_n 0, 1) := by decide +kernel
theorem dX8_move_215 : decode cX8_move 215 = .ok (.getfield 226, 3) := by decide +kernel
theorem dX8_move_218 : decode cX8_move 218 = .ok (.ifCond .ne 20, 3) := by decide +kernel
theorem dX8_move_221 : decode cX8_move 221 = .ok (.aload_n 0, 1) := by decide +kernel
theorem dX8_move_222 : decode cX8_move 222 = .ok (.getfield 236, 3) := by decide +kernel
theorem dX8_move_225 : decode cX8_move 225 = .ok (.sipush 128, 3) := by decide +kernel
theorem dX8_move_228 : decode cX8_move 228 = .ok (.if_icmp .ge 10, 3) := by decide +kernel
theorem dX8_move_231 : decode cX8_move 231 = .ok (.aload_n 0, 1) := by decide +kernel
theorem dX8_move_232 : decode cX8_move 232 = .ok (.invokevirtual 257, 3) := by decide +kernel
theorem dX8_move_235 : decode cX8_move 235 = .ok (.goto 20, 3) := by decide +kernel
theorem dX8_move_238 : decode cX8_move 238 = .ok (.aload_n 0, 1) := by decide +kernel
theorem dX8_move_239 : decode cX8_move 239 = .ok (.getfield 226, 3) := by decide +kernel
theorem dX8_move_242 : decode cX8_move 242 = .ok (.ifCond .ne 13, 3) := by decide +kernel
theorem dX8_move_245 : decode cX8_move 245 = .ok (.aload_n 0, 1) := by decide +kernel
theorem dX8_move_246 : decode cX8_move 246 = .ok (.iconst 1, 1) := by decide +kernel
theorem dX8_move_247 : decode cX8_move 247 = .ok (.putfield 211, 3) := by decide +kernel
theorem dX8_move_250 : decode cX8_move 250 = .ok (.aload_n 0, 1) := by decide +kernel
theorem dX8_move_251 : decode cX8_move 251 = .ok (.iconst 0, 1) := by decide +kernel
theorem dX8_move_252 : decode cX8_move 252 = .ok (.putfield 217, 3) := by decide +kernel
theorem dX8_move_255 : decode cX8_move 255 = .ok (.return_, 1) := by decide +kernel
theorem dX8_over_0 : decode cX8_over 0 = .ok (.aload_n 0, 1) := by decide +kernel
theorem dX8_over_1 : decode cX8_over 1 = .ok (.iconst 0, 1) := by decide +kernel
theorem dX8_over_2 : decode cX8_over 2 = .ok (.putfield 217, 3) := by decide +kernel
theorem dX8_over_5 : decode cX8_over 5 = .ok (.aload_n 0, 1) := by decide +kernel
theorem dX8_over_6 : decode cX8_over 6 = .ok (.getfield 83, 3) := by decide +kernel
theorem dX8_over_9 : decode cX8_over 9 = .ok (.iconst 1, 1) := by decide +kernel
theorem dX8_over_10 : decode cX8_over 10 = .ok (.if_icmp .ne 37, 3) := by decide +kernel
theorem dX8_over_13 : decode cX8_over 13 = .ok (.aload_n 0, 1) := by decide +kernel
theorem dX8_over_14 : decode cX8_over 14 = .ok (.getfield 254, 3) := by decide +kernel
theorem dX8_over_17 : decode cX8_over 17 = .ok (.aload_n 0, 1) := by decide +kernel
theorem dX8_over_18 : decode cX8_over 18 = .ok (.getfield 251, 3) := by decide +kernel
theorem dX8_over_21 : decode cX8_over 21 = .ok (.if_icmp .lt 10, 3) := by decide +kernel
theorem dX8_over_24 : decode cX8_over 24 = .ok (.aload_n 0, 1) := by decide +kernel
theorem dX8_over_25 : decode cX8_over 25 = .ok (.getfield 226, 3) := by decide +kernel
theorem dX8_over_28 : decode cX8_over 28 = .ok (.ifCond .le 19, 3) := by decide +kernel
theorem dX8_over_31 : decode cX8_over 31 = .ok (.aload_n 0, 1) := by decide +kernel
theorem dX8_over_32 : decode cX8_over 32 = .ok (.getfield 236, 3) := by decide +kernel
theorem dX8_over_35 : decode cX8_over 35 = .ok (.bipush 32, 2) := by decide +kernel
theorem dX8_over_37 : decode cX8_over 37 = .ok (.idiv, 1) := by decide +kernel
theorem dX8_over_38 : decode cX8_over 38 = .ok (.iconst 2, 1) := by decide +kernel
theorem dX8_over_39 : decode cX8_over 39 = .ok (.irem, 1) := by decide +kernel
theorem dX8_over_40 : decode cX8_over 40 = .ok (.ifCond .ne 7, 3) := by decide +kernel
theorem dX8_over_43 : decode cX8_over 43 = .ok (.iconst 1, 1) := by decide +kernel
theorem dX8_over_44 : decode cX8_over 44 = .ok (.goto 4, 3) := by decide +kernel
theorem dX8_over_47 : decode cX8_over 47 = .ok (.iconst 0, 1) := by decide +kernel
theorem dX8_over_48 : decode cX8_over 48 = .ok (.istore_n 1, 1) := by decide +kernel
theorem dX8_over_49 : decode cX8_over 49 = .ok (.iload_n 1, 1) := by decide +kernel
theorem dX8_over_50 : decode cX8_over 50 = .ok (.ifCond .ne 15, 3) := by decide +kernel
theorem dX8_over_53 : decode cX8_over 53 = .ok (.aload_n 0, 1) := by decide +kernel
theorem dX8_over_54 : decode cX8_over 54 = .ok (.getfield 236, 3) := by decide +kernel
theorem dX8_over_57 : decode cX8_over 57 = .ok (.bipush 64, 2) := by decide +kernel
theorem dX8_over_59 : decode cX8_over 59 = .ok (.idiv, 1) := by decide +kernel
theorem dX8_over_60 : decode cX8_over 60 = .ok (.iconst 2, 1) := by decide +kernel
theorem dX8_over_61 : decode cX8_over 61 = .ok (.irem, 1) := by decide +kernel
theorem dX8_over_62 : decode cX8_over 62 = .ok (.ifCond .ne 19, 3) := by decide +kernel
theorem dX8_over_65 : decode cX8_over 65 = .ok (.aload_n 0, 1) := by decide +kernel
theorem dX8_over_66 : decode cX8_over 66 = .ok (.bipush 12, 2) := by decide +kernel
theorem dX8_over_68 : decode cX8_over 68 = .ok (.iload_n 1, 1) := by decide +kernel
theorem dX8_over_69 : decode cX8_over 69 = .ok (.ifCond .eq 8, 3) := by decide +kernel
theorem dX8_over_72 : decode cX8_over 72 = .ok (.bipush 64, 2) := by decide +kernel
theorem dX8_over_74 : decode cX8_over 74 = .ok (.goto 4, 3) := by decide +kernel
theorem dX8_over_77 : decode cX8_over 77 = .ok (.iconst 0, 1) := by decide +kernel
theorem dX8_over_78 : decode cX8_over 78 = .ok (.invokevirtual 230, 3) := by decide +kernel
theorem dX8_over_81 : decode cX8_over 81 = .ok (.return_, 1) := by decide +kernel
theorem dX8_load_0 : decode cX8_load 0 = .ok (.iload 4, 2) := by decide +kernel
theorem dX8_load_2 : decode cX8_load 2 = .ok (.iconst 1, 1) := by decide +kernel
theorem dX8_load_3 : decode cX8_load 3 = .ok (.if_icmp .lt 24, 3) := by decide +kernel
theorem dX8_load_6 : decode cX8_load 6 = .ok (.iload 4, 2) := by decide +kernel
theorem dX8_load_8 : decode cX8_load 8 = .ok (.bipush 8, 2) := by decide +kernel
theorem dX8_load_10 : decode cX8_load 10 = .ok (.if_icmp .gt 17, 3) := by decide +kernel
theorem dX8_load_13 : decode cX8_load 13 = .ok (.iload_n 1, 1) := by decide +kernel
theorem dX8_load_14 : decode cX8_load 14 = .ok (.ifCond .lt 13, 3) := by decide +kernel
theorem dX8_load_17 : decode cX8_load 17 = .ok (.iload_n 1, 1) := by decide +kernel
theorem dX8_load_18 : decode cX8_load 18 = .ok (.sipush 2048, 3) := by decide +kernel
theorem dX8_load_21 : decode cX8_load 21 = .ok (.iload 4, 2) := by decide +kernel
theorem dX8_load_23 : decode cX8_load 23 = .ok (.isub, 1) := by decide +kernel
theorem dX8_load_24 : decode cX8_load 24 = .ok (.if_icmp .le 5, 3) := by decide +kernel
theorem dX8_load_27 : decode cX8_load 27 = .ok (.iconst 0, 1) := by decide +kernel
theorem dX8_load_28 : decode cX8_load 28 = .ok (.ireturn, 1) := by decide +kernel
theorem dX8_load_29 : decode cX8_load 29 = .ok (.iconst 0, 1) := by decide +kernel
theorem dX8_load_30 : decode cX8_load 30 = .ok (.istore 5, 2) := by decide +kernel
theorem dX8_load_32 : decode cX8_load 32 = .ok (.iload 5, 2) := by decide +kernel
theorem dX8_load_34 : decode cX8_load 34 = .ok (.iload 4, 2) := by decide +kernel
theorem dX8_load_36 : decode cX8_load 36 = .ok (.if_icmp .ge 35, 3) := by decide +kernel
theorem dX8_load_39 : decode cX8_load 39 = .ok (.aload_n 0, 1) := by decide +kernel
theorem dX8_load_40 : decode cX8_load 40 = .ok (.getfield 7, 3) := by decide +kernel
theorem dX8_load_43 : decode cX8_load 43 = .ok (.iload_n 1, 1) := by decide +kernel
theorem dX8_load_44 : decode cX8_load 44 = .ok (.iload 4, 2) := by decide +kernel
theorem dX8_load_46 : decode cX8_load 46 = .ok (.iadd, 1) := by decide +kernel
theorem dX8_load_47 : decode cX8_load 47 = .ok (.iconst 1, 1) := by decide +kernel
theorem dX8_load_48 : decode cX8_load 48 = .ok (.isub, 1) := by decide +kernel
theorem dX8_load_49 : decode cX8_load 49 = .ok (.iload 5, 2) := by decide +kernel
theorem dX8_load_51 : decode cX8_load 51 = .ok (.isub, 1) := by decide +kernel
theorem dX8_load_52 : decode cX8_load 52 = .ok (.lload_n 2, 1) := by decide +kernel
theorem dX8_load_53 : decode cX8_load 53 = .ok (.bipush 8, 2) := by decide +kernel
theorem dX8_load_55 : decode cX8_load 55 = .ok (.iload 5, 2) := by decide +kernel
theorem dX8_load_57 : decode cX8_load 57 = .ok (.imul, 1) := by decide +kernel
theorem dX8_load_58 : decode cX8_load 58 = .ok (.lshr, 1) := by decide +kernel
theorem dX8_load_59 : decode cX8_load 59 = .ok (.ldc2_w 260, 3) := by decide +kernel
theorem dX8_load_62 : decode cX8_load 62 = .ok (.land, 1) := by decide +kernel
theorem dX8_load_63 : decode cX8_load 63 = .ok (.l2i, 1) := by decide +kernel
theorem dX8_load_64 : decode cX8_load 64 = .ok (.iastore, 1) := by decide +kernel
theorem dX8_load_65 : decode cX8_load 65 = .ok (.iinc 5 1, 3) := by decide +kernel
theorem dX8_load_68 : decode cX8_load 68 = .ok (.goto (-36), 3) := by decide +kernel
theorem dX8_load_71 : decode cX8_load 71 = .ok (.iconst 1, 1) := by decide +kernel
theorem dX8_load_72 : decode cX8_load 72 = .ok (.ireturn, 1) := by decide +kernel
theorem dX8_word_0 : decode cX8_word 0 = .ok (.iconst 0, 1) := by decide +kernel
theorem dX8_word_1 : decode cX8_word 1 = .ok (.istore_n 2, 1) := by decide +kernel
theorem dX8_word_2 : decode cX8_word 2 = .ok (.iconst 0, 1) := by decide +kernel
theorem dX8_word_3 : decode cX8_word 3 = .ok (.istore_n 3, 1) := by decide +kernel
theorem dX8_word_4 : decode cX8_word 4 = .ok (.iload_n 3, 1) := by decide +kernel
theorem dX8_word_5 : decode cX8_word 5 = .ok (.iconst 4, 1) := by decide +kernel
theorem dX8_word_6 : decode cX8_word 6 = .ok (.if_icmp .ge 54, 3) := by decide +kernel
theorem dX8_word_9 : decode cX8_word 9 = .ok (.iload_n 1, 1) := by decide +kernel
theorem dX8_word_10 : decode cX8_word 10 = .ok (.iload_n 3, 1) := by decide +kernel
theorem dX8_word_11 : decode cX8_word 11 = .ok (.ineg, 1) := by decide +kernel
theorem dX8_word_12 : decode cX8_word 12 = .ok (.if_icmp .lt 16, 3) := by decide +kernel
theorem dX8_word_15 : decode cX8_word 15 = .ok (.iload_n 1, 1) := by decide +kernel
theorem dX8_word_16 : decode cX8_word 16 = .ok (.sipush 2048, 3) := by decide +kernel
theorem dX8_word_19 : decode cX8_word 19 = .ok (.iload_n 3, 1) := by decide +kernel
theorem dX8_word_20 : decode cX8_word 20 = .ok (.isub, 1) := by decide +kernel
theorem dX8_word_21 : decode cX8_word 21 = .ok (.if_icmp .ge 7, 3) := by decide +kernel
theorem dX8_word_24 : decode cX8_word 24 = .ok (.iconst 1, 1) := by decide +kernel
theorem dX8_word_25 : decode cX8_word 25 = .ok (.goto 4, 3) := by decide +kernel
theorem dX8_word_28 : decode cX8_word 28 = .ok (.iconst 0, 1) := by decide +kernel
theorem dX8_word_29 : decode cX8_word 29 = .ok (.istore 4, 2) := by decide +kernel
theorem dX8_word_31 : decode cX8_word 31 = .ok (.iload_n 2, 1) := by decide +kernel
theorem dX8_word_32 : decode cX8_word 32 = .ok (.bipush 8, 2) := by decide +kernel
theorem dX8_word_34 : decode cX8_word 34 = .ok (.ishl, 1) := by decide +kernel
theorem dX8_word_35 : decode cX8_word 35 = .ok (.iload 4, 2) := by decide +kernel
theorem dX8_word_37 : decode cX8_word 37 = .ok (.ifCond .eq 14, 3) := by decide +kernel
theorem dX8_word_40 : decode cX8_word 40 = .ok (.aload_n 0, 1) := by decide +kernel
theorem dX8_word_41 : decode cX8_word 41 = .ok (.getfield 7, 3) := by decide +kernel
theorem dX8_word_44 : decode cX8_word 44 = .ok (.iload_n 1, 1) := by decide +kernel
theorem dX8_word_45 : decode cX8_word 45 = .ok (.iload_n 3, 1) := by decide +kernel
theorem dX8_word_46 : decode cX8_word 46 = .ok (.iadd, 1) := by decide +kernel
theorem dX8_word_47 : decode cX8_word 47 = .ok (.iaload, 1) := by decide +kernel
theorem dX8_word_48 : decode cX8_word 48 = .ok (.goto 4, 3) := by decide +kernel
theorem dX8_word_51 : decode cX8_word 51 = .ok (.iconst 0, 1) := by decide +kernel
theorem dX8_word_52 : decode cX8_word 52 = .ok (.ior, 1) := by decide +kernel
theorem dX8_word_53 : decode cX8_word 53 = .ok (.istore_n 2, 1) := by decide +kernel
theorem dX8_word_54 : decode cX8_word 54 = .ok (.iinc 3 1, 3) := by decide +kernel
theorem dX8_word_57 : decode cX8_word 57 = .ok (.goto (-53), 3) := by decide +kernel
theorem dX8_word_60 : decode cX8_word 60 = .ok (.iload_n 2, 1) := by decide +kernel
theorem dX8_word_61 : decode cX8_word 61 = .ok (.ireturn, 1) := by decide +kernel
theorem dX8_set_0 : decode cX8_set 0 = .ok (.iload_n 1, 1) := by decide +kernel
theorem dX8_set_1 : decode cX8_set 1 = .ok (.ifCond .lt 9, 3) := by decide +kernel
theorem dX8_set_4 : decode cX8_set 4 = .ok (.iload_n 1, 1) := by decide +kernel
theorem dX8_set_5 : decode cX8_set 5 = .ok (.bipush 27, 2) := by decide +kernel
theorem dX8_set_7 : decode cX8_set 7 = .ok (.if_icmp .le 5, 3) := by decide +kernel
theorem dX8_set_10 : decode cX8_set 10 = .ok (.iconst 0, 1) := by decide +kernel
theorem dX8_set_11 : decode cX8_set 11 = .ok (.ireturn, 1) := by decide +kernel
theorem dX8_set_12 : decode cX8_set 12 = .ok (.iload_n 1, 1) := by decide +kernel
theorem dX8_set_13 : decode cX8_set 13 = .ok (.bipush 16, 2) := by decide +kernel
theorem dX8_set_15 : decode cX8_set 15 = .ok (.if_icmp .ge 13, 3) := by decide +kernel
theorem dX8_set_18 : decode cX8_set 18 = .ok (.aload_n 0, 1) := by decide +kernel
theorem dX8_set_19 : decode cX8_set 19 = .ok (.getfield 16, 3) := by decide +kernel
theorem dX8_set_22 : decode cX8_set 22 = .ok (.iload_n 1, 1) := by decide +kernel
theorem dX8_set_23 : decode cX8_set 23 = .ok (.iload_n 2, 1) := by decide +kernel
theorem dX8_set_24 : decode cX8_set 24 = .ok (.iastore, 1) := by decide +kernel
theorem dX8_set_25 : decode cX8_set 25 = .ok (.goto 117, 3) := by decide +kernel
theorem dX8_set_28 : decode cX8_set 28 = .ok (.iload_n 1, 1) := by decide +kernel
theorem dX8_set_29 : decode cX8_set 29 = .ok (.bipush 19, 2) := by decide +kernel
theorem dX8_set_31 : decode cX8_set 31 = .ok (.if_icmp .le 19, 3) := by decide +kernel
theorem dX8_set_34 : decode cX8_set 34 = .ok (.aload_n 0, 1) := by decide +kernel
theorem dX8_set_35 : decode cX8_set 35 = .ok (.getfield 13, 3) := by decide +kernel
theorem dX8_set_38 : decode cX8_set 38 = .ok (.iload_n 1, 1) := by decide +kernel
theorem dX8_set_39 : decode cX8_set 39 = .ok (.bipush 20, 2) := by decide +kernel
theorem dX8_set_41 : decode cX8_set 41 = .ok (.isub, 1) := by decide +kernel
theorem dX8_set_42 : decode cX8_set 42 = .ok (.iload_n 2, 1) := by decide +kernel
theorem dX8_set_43 : decode cX8_set 43 = .ok (.bipush 15, 2) := by decide +kernel
theorem dX8_set_45 : decode cX8_set 45 = .ok (.iand, 1) := by decide +kernel
theorem dX8_set_46 : decode cX8_set 46 = .ok (.iastore, 1) := by decide +kernel
theorem dX8_set_47 : decode cX8_set 47 = .ok (.goto 95, 3) := by decide +kernel
theorem dX8_set_50 : decode cX8_set 50 = .ok (.iload_n 1, 1) := by decide +kernel
theorem dX8_set_51 : decode cX8_set 51 = .ok (.bipush 18, 2) := by decide +kernel
theorem dX8_set_53 : decode cX8_set 53 = .ok (.if_icmp .ge 48, 3) := by decide +kernel
theorem dX8_set_56 : decode cX8_set 56 = .ok (.aload_n 0, 1) := by decide +kernel
theorem dX8_set_57 : decode cX8_set 57 = .ok (.iload_n 1, 1) := by decide +kernel
theorem dX8_set_58 : decode cX8_set 58 = .ok (.bipush 16, 2) := by decide +kernel
theorem dX8_set_60 : decode cX8_set 60 = .ok (.if_icmp .ne 10, 3) := by decide +kernel
theorem dX8_set_63 : decode cX8_set 63 = .ok (.iload_n 2, 1) := by decide +kernel
theorem dX8_set_64 : decode cX8_set 64 = .ok (.ldc 124, 2) := by decide +kernel
theorem dX8_set_66 : decode cX8_set 66 = .ok (.iand, 1) := by decide +kernel
theorem dX8_set_67 : decode cX8_set 67 = .ok (.goto 7, 3) := by decide +kernel
theorem dX8_set_70 : decode cX8_set 70 = .ok (.aload_n 0, 1) := by decide +kernel
theorem dX8_set_71 : decode cX8_set 71 = .ok (.getfield 59, 3) := by decide +kernel
theorem dX8_set_74 : decode cX8_set 74 = .ok (.putfield 59, 3) := by decide +kernel
theorem dX8_set_77 : decode cX8_set 77 = .ok (.aload_n 0, 1) := by decide +kernel
theorem dX8_set_78 : decode cX8_set 78 = .ok (.iload_n 1, 1) := by decide +kernel
theorem dX8_set_79 : decode cX8_set 79 = .ok (.bipush 17, 2) := by decide +kernel
theorem dX8_set_81 : decode cX8_set 81 = .ok (.if_icmp .ne 10, 3) := by decide +kernel
theorem dX8_set_84 : decode cX8_set 84 = .ok (.iload_n 2, 1) := by decide +kernel
theorem dX8_set_85 : decode cX8_set 85 = .ok (.bipush 15, 2) := by decide +kernel
theorem dX8_set_87 : decode cX8_set 87 = .ok (.iand, 1) := by decide +kernel
theorem dX8_set_88 : decode cX8_set 88 = .ok (.goto 7, 3) := by decide +kernel
theorem dX8_set_91 : decode cX8_set 91 = .ok (.aload_n 0, 1) := by decide +kernel
theorem dX8_set_92 : decode cX8_set 92 = .ok (.getfield 46, 3) := by decide +kernel
theorem dX8_set_95 : decode cX8_set 95 = .ok (.putfield 46, 3) := by decide +kernel
theorem dX8_set_98 : decode cX8_set 98 = .ok (.goto 44, 3) := by decide +kernel
theorem dX8_set_101 : decode cX8_set 101 = .ok (.aload_n 0, 1) := by decide +kernel
theorem dX8_set_102 : decode cX8_set 102 = .ok (.iload_n 1, 1) := by decide +kernel
theorem dX8_set_103 : decode cX8_set 103 = .ok (.bipush 18, 2) := by decide +kernel
theorem dX8_set_105 : decode cX8_set 105 = .ok (.if_icmp .ne 10, 3) := by decide +kernel
theorem dX8_set_108 : decode cX8_set 108 = .ok (.iload_n 2, 1) := by decide +kernel
theorem dX8_set_109 : decode cX8_set 109 = .ok (.bipush 31, 2) := by decide +kernel
theorem dX8_set_111 : decode cX8_set 111 = .ok (.iand, 1) := by decide +kernel
theorem dX8_set_112 : decode cX8_set 112 = .ok (.goto 7, 3) := by decide +kernel
theorem dX8_set_115 : decode cX8_set 115 = .ok (.aload_n 0, 1) := by decide +kernel
theorem dX8_set_116 : decode cX8_set 116 = .ok (.getfield 49, 3) := by decide +kernel
theorem dX8_set_119 : decode cX8_set 119 = .ok (.putfield 49, 3) := by decide +kernel
theorem dX8_set_122 : decode cX8_set 122 = .ok (.aload_n 0, 1) := by decide +kernel
theorem dX8_set_123 : decode cX8_set 123 = .ok (.iload_n 1, 1) := by decide +kernel
theorem dX8_set_124 : decode cX8_set 124 = .ok (.bipush 19, 2) := by decide +kernel
theorem dX8_set_126 : decode cX8_set 126 = .ok (.if_icmp .ne 9, 3) := by decide +kernel
theorem dX8_set_129 : decode cX8_set 129 = .ok (.iload_n 2, 1) := by decide +kernel
theorem dX8_set_130 : decode cX8_set 130 = .ok (.iconst 3, 1) := by decide +kernel
theorem dX8_set_131 : decode cX8_set 131 = .ok (.iand, 1) := by decide +kernel
theorem dX8_set_132 : decode cX8_set 132 = .ok (.goto 7, 3) := by decide +kernel
theorem dX8_set_135 : decode cX8_set 135 = .ok (.aload_n 0, 1) := by decide +kernel
theorem dX8_set_136 : decode cX8_set 136 = .ok (.getfield 52, 3) := by decide +kernel
theorem dX8_set_139 : decode cX8_set 139 = .ok (.putfield 52, 3) := by decide +kernel
theorem dX8_set_142 : decode cX8_set 142 = .ok (.iconst 1, 1) := by decide +kernel
theorem dX8_set_143 : decode cX8_set 143 = .ok (.ireturn, 1) := by decide +kernel
theorem dX8_get_0 : decode cX8_get 0 = .ok (.iload_n 1, 1) := by decide +kernel
theorem dX8_get_1 : decode cX8_get 1 = .ok (.ifCond .lt 9, 3) := by decide +kernel
theorem dX8_get_4 : decode cX8_get 4 = .ok (.iload_n 1, 1) := by decide +kernel
theorem dX8_get_5 : decode cX8_get 5 = .ok (.bipush 27, 2) := by decide +kernel
theorem dX8_get_7 : decode cX8_get 7 = .ok (.if_icmp .le 5, 3) := by decide +kernel
theorem dX8_get_10 : decode cX8_get 10 = .ok (.iconst (-1), 1) := by decide +kernel
theorem dX8_get_11 : decode cX8_get 11 = .ok (.ireturn, 1) := by decide +kernel
theorem dX8_get_12 : decode cX8_get 12 = .ok (.iload_n 1, 1) := by decide +kernel
theorem dX8_get_13 : decode cX8_get 13 = .ok (.bipush 16, 2) := by decide +kernel
theorem dX8_get_15 : decode cX8_get 15 = .ok (.if_icmp .ge 10, 3) := by decide +kernel
theorem dX8_get_18 : decode cX8_get 18 = .ok (.aload_n 0, 1) := by decide +kernel
theorem dX8_get_19 : decode cX8_get 19 = .ok (.getfield 16, 3) := by decide +kernel
theorem dX8_get_22 : decode cX8_get 22 = .ok (.iload_n 1, 1) := by decide +kernel
theorem dX8_get_23 : decode cX8_get 23 = .ok (.iaload, 1) := by decide +kernel
theorem dX8_get_24 : decode cX8_get 24 = .ok (.ireturn, 1) := by decide +kernel
theorem dX8_get_25 : decode cX8_get 25 = .ok (.iload_n 1, 1) := by decide +kernel
theorem dX8_get_26 : decode cX8_get 26 = .ok (.bipush 19, 2) := by decide +kernel
theorem dX8_get_28 : decode cX8_get 28 = .ok (.if_icmp .le 13, 3) := by decide +kernel
theorem dX8_get_31 : decode cX8_get 31 = .ok (.aload_n 0, 1) := by decide +kernel
theorem dX8_get_32 : decode cX8_get 32 = .ok (.getfield 13, 3) := by decide +kernel
theorem dX8_get_35 : decode cX8_get 35 = .ok (.iload_n 1, 1) := by decide +kernel
theorem dX8_get_36 : decode cX8_get 36 = .ok (.bipush 20, 2) := by decide +kernel
theorem dX8_get_38 : decode cX8_get 38 = .ok (.isub, 1) := by decide +kernel
theorem dX8_get_39 : decode cX8_get 39 = .ok (.iaload, 1) := by decide +kernel
theorem dX8_get_40 : decode cX8_get 40 = .ok (.ireturn, 1) := by decide +kernel
theorem dX8_get_41 : decode cX8_get 41 = .ok (.iload_n 1, 1) := by decide +kernel
theorem dX8_get_42 : decode cX8_get 42 = .ok (.bipush 16, 2) := by decide +kernel
theorem dX8_get_44 : decode cX8_get 44 = .ok (.if_icmp .ne 10, 3) := by decide +kernel
theorem dX8_get_47 : decode cX8_get 47 = .ok (.aload_n 0, 1) := by decide +kernel
theorem dX8_get_48 : decode cX8_get 48 = .ok (.getfield 59, 3) := by decide +kernel
theorem dX8_get_51 : decode cX8_get 51 = .ok (.goto 33, 3) := by decide +kernel
theorem dX8_get_54 : decode cX8_get 54 = .ok (.iload_n 1, 1) := by decide +kernel
theorem dX8_get_55 : decode cX8_get 55 = .ok (.bipush 17, 2) := by decide +kernel
theorem dX8_get_57 : decode cX8_get 57 = .ok (.if_icmp .ne 10, 3) := by decide +kernel
theorem dX8_get_60 : decode cX8_get 60 = .ok (.aload_n 0, 1) := by decide +kernel
theorem dX8_get_61 : decode cX8_get 61 = .ok (.getfield 46, 3) := by decide +kernel
theorem dX8_get_64 : decode cX8_get 64 = .ok (.goto 20, 3) := by decide +kernel
theorem dX8_get_67 : decode cX8_get 67 = .ok (.iload_n 1, 1) := by decide +kernel
theorem dX8_get_68 : decode cX8_get 68 = .ok (.bipush 18, 2) := by decide +kernel
theorem dX8_get_70 : decode cX8_get 70 = .ok (.if_icmp .ne 10, 3) := by decide +kernel
theorem dX8_get_73 : decode cX8_get 73 = .ok (.aload_n 0, 1) := by decide +kernel
theorem dX8_get_74 : decode cX8_get 74 = .ok (.getfield 49, 3) := by decide +kernel
theorem dX8_get_77 : decode cX8_get 77 = .ok (.goto 7, 3) := by decide +kernel
theorem dX8_get_80 : decode cX8_get 80 = .ok (.aload_n 0, 1) := by decide +kernel
theorem dX8_get_81 : decode cX8_get 81 = .ok (.getfield 52, 3) := by decide +kernel
theorem dX8_get_84 : decode cX8_get 84 = .ok (.ireturn, 1) := by decide +kernel
theorem dX8_punch_0 : decode cX8_punch 0 = .ok (.iload_n 3, 1) := by decide +kernel
theorem dX8_punch_1 : decode cX8_punch 1 = .ok (.iconst 1, 1) := by decide +kernel
theorem dX8_punch_2 : decode cX8_punch 2 = .ok (.if_icmp .lt 25, 3) := by decide +kernel
theorem dX8_punch_5 : decode cX8_punch 5 = .ok (.iload_n 3, 1) := by decide +kernel
theorem dX8_punch_6 : decode cX8_punch 6 = .ok (.bipush 8, 2) := by decide +kernel
theorem dX8_punch_8 : decode cX8_punch 8 = .ok (.if_icmp .gt 19, 3) := by decide +kernel
theorem dX8_punch_11 : decode cX8_punch 11 = .ok (.aload_n 0, 1) := by decide +kernel
theorem dX8_punch_12 : decode cX8_punch 12 = .ok (.getfield 22, 3) := by decide +kernel
theorem dX8_punch_15 : decode cX8_punch 15 = .ok (.aload_n 0, 1) := by decide +kernel
theorem dX8_punch_16 : decode cX8_punch 16 = .ok (.getfield 248, 3) := by decide +kernel
theorem dX8_punch_19 : decode cX8_punch 19 = .ok (.iaload, 1) := by decide +kernel
theorem dX8_punch_20 : decode cX8_punch 20 = .ok (.iload_n 3, 1) := by decide +kernel
theorem dX8_punch_21 : decode cX8_punch 21 = .ok (.iadd, 1) := by decide +kernel
theorem dX8_punch_22 : decode cX8_punch 22 = .ok (.bipush 16, 2) := by decide +kernel
theorem dX8_punch_24 : decode cX8_punch 24 = .ok (.if_icmp .le 5, 3) := by decide +kernel
theorem dX8_punch_27 : decode cX8_punch 27 = .ok (.iconst 0, 1) := by decide +kernel
theorem dX8_punch_28 : decode cX8_punch 28 = .ok (.ireturn, 1) := by decide +kernel
theorem dX8_punch_29 : decode cX8_punch 29 = .ok (.iload_n 3, 1) := by decide +kernel
theorem dX8_punch_30 : decode cX8_punch 30 = .ok (.iconst 1, 1) := by decide +kernel
theorem dX8_punch_31 : decode cX8_punch 31 = .ok (.isub, 1) := by decide +kernel
theorem dX8_punch_32 : decode cX8_punch 32 = .ok (.istore 4, 2) := by decide +kernel
theorem dX8_punch_34 : decode cX8_punch 34 = .ok (.iload 4, 2) := by decide +kernel
theorem dX8_punch_36 : decode cX8_punch 36 = .ok (.ifCond .lt 56, 3) := by decide +kernel
theorem dX8_punch_39 : decode cX8_punch 39 = .ok (.aload_n 0, 1) := by decide +kernel
theorem dX8_punch_40 : decode cX8_punch 40 = .ok (.getfield 19, 3) := by decide +kernel
theorem dX8_punch_43 : decode cX8_punch 43 = .ok (.bipush 16, 2) := by decide +kernel
theorem dX8_punch_45 : decode cX8_punch 45 = .ok (.aload_n 0, 1) := by decide +kernel
theorem dX8_punch_46 : decode cX8_punch 46 = .ok (.getfield 248, 3) := by decide +kernel
theorem dX8_punch_49 : decode cX8_punch 49 = .ok (.imul, 1) := by decide +kernel
theorem dX8_punch_50 : decode cX8_punch 50 = .ok (.aload_n 0, 1) := by decide +kernel
theorem dX8_punch_51 : decode cX8_punch 51 = .ok (.getfield 22, 3) := by decide +kernel
theorem dX8_punch_54 : decode cX8_punch 54 = .ok (.aload_n 0, 1) := by decide +kernel
theorem dX8_punch_55 : decode cX8_punch 55 = .ok (.getfield 248, 3) := by decide +kernel
theorem dX8_punch_58 : decode cX8_punch 58 = .ok (.iaload, 1) := by decide +kernel
theorem dX8_punch_59 : decode cX8_punch 59 = .ok (.iadd, 1) := by decide +kernel
theorem dX8_punch_60 : decode cX8_punch 60 = .ok (.lload_n 1, 1) := by decide +kernel
theorem dX8_punch_61 : decode cX8_punch 61 = .ok (.bipush 8, 2) := by decide +kernel
theorem dX8_punch_63 : decode cX8_punch 63 = .ok (.iload 4, 2) := by decide +kernel
theorem dX8_punch_65 : decode cX8_punch 65 = .ok (.imul, 1) := by decide +kernel
theorem dX8_punch_66 : decode cX8_punch 66 = .ok (.lshr, 1) := by decide +kernel
theorem dX8_punch_67 : decode cX8_punch 67 = .ok (.ldc2_w 260, 3) := by decide +kernel
theorem dX8_punch_70 : decode cX8_punch 70 = .ok (.land, 1) := by decide +kernel
theorem dX8_punch_71 : decode cX8_punch 71 = .ok (.l2i, 1) := by decide +kernel
theorem dX8_punch_72 : decode cX8_punch 72 = .ok (.iastore, 1) := by decide +kernel
theorem dX8_punch_73 : decode cX8_punch 73 = .ok (.aload_n 0, 1) := by decide +kernel
theorem dX8_punch_74 : decode cX8_punch 74 = .ok (.getfield 22, 3) := by decide +kernel
theorem dX8_punch_77 : decode cX8_punch 77 = .ok (.aload_n 0, 1) := by decide +kernel
theorem dX8_punch_78 : decode cX8_punch 78 = .ok (.getfield 248, 3) := by decide +kernel
theorem dX8_punch_81 : decode cX8_punch 81 = .ok (.dup2, 1) := by decide +kernel
theorem dX8_punch_82 : decode cX8_punch 82 = .ok (.iaload, 1) := by decide +kernel
theorem dX8_punch_83 : decode cX8_punch 83 = .ok (.iconst 1, 1) := by decide +kernel
theorem dX8_punch_84 : decode cX8_punch 84 = .ok (.iadd, 1) := by decide +kernel
theorem dX8_punch_85 : decode cX8_punch 85 = .ok (.iastore, 1) := by decide +kernel
theorem dX8_punch_86 : decode cX8_punch 86 = .ok (.iinc 4 (-1), 3) := by decide +kernel
theorem dX8_punch_89 : decode cX8_punch 89 = .ok (.goto (-55), 3) := by decide +kernel
theorem dX8_punch_92 : decode cX8_punch 92 = .ok (.iconst 1, 1) := by decide +kernel
theorem dX8_punch_93 : decode cX8_punch 93 = .ok (.ireturn, 1) := by decide +kernel
theorem dX8_card_0 : decode cX8_card 0 = .ok (.aload_n 0, 1) := by decide +kernel
theorem dX8_card_1 : decode cX8_card 1 = .ok (.getfield 248, 3) := by decide +kernel
theorem dX8_card_4 : decode cX8_card 4 = .ok (.bipush 8, 2) := by decide +kernel
theorem dX8_card_6 : decode cX8_card 6 = .ok (.if_icmp .ne 5, 3) := by decide +kernel
theorem dX8_card_9 : decode cX8_card 9 = .ok (.iconst 0, 1) := by decide +kernel
theorem dX8_card_10 : decode cX8_card 10 = .ok (.ireturn, 1) := by decide +kernel
theorem dX8_card_11 : decode cX8_card 11 = .ok (.aload_n 0, 1) := by decide +kernel
theorem dX8_card_12 : decode cX8_card 12 = .ok (.dup, 1) := by decide +kernel
theorem dX8_card_13 : decode cX8_card 13 = .ok (.getfield 248, 3) := by decide +kernel
theorem dX8_card_16 : decode cX8_card 16 = .ok (.iconst 1, 1) := by decide +kernel
theorem dX8_card_17 : decode cX8_card 17 = .ok (.iadd, 1) := by decide +kernel
theorem dX8_card_18 : decode cX8_card 18 = .ok (.putfield 248, 3) := by decide +kernel
theorem dX8_card_21 : decode cX8_card 21 = .ok (.aload_n 0, 1) := by decide +kernel
theorem dX8_card_22 : decode cX8_card 22 = .ok (.getfield 22, 3) := by decide +kernel
theorem dX8_card_25 : decode cX8_card 25 = .ok (.aload_n 0, 1) := by decide +kernel
theorem dX8_card_26 : decode cX8_card 26 = .ok (.getfield 248, 3) := by decide +kernel
theorem dX8_card_29 : decode cX8_card 29 = .ok (.iconst 0, 1) := by decide +kernel
theorem dX8_card_30 : decode cX8_card 30 = .ok (.iastore, 1) := by decide +kernel
theorem dX8_card_31 : decode cX8_card 31 = .ok (.iconst 1, 1) := by decide +kernel
theorem dX8_card_32 : decode cX8_card 32 = .ok (.ireturn, 1) := by decide +kernel
theorem dX8_step_0 : decode cX8_step 0 = .ok (.iload_n 1, 1) := by decide +kernel
theorem dX8_step_1 : decode cX8_step 1 = .ok (.iconst 1, 1) := by decide +kernel
theorem dX8_step_2 : decode cX8_step 2 = .ok (.if_icmp .lt 9, 3) := by decide +kernel
theorem dX8_step_5 : decode cX8_step 5 = .ok (.iload_n 1, 1) := by decide +kernel
theorem dX8_step_6 : decode cX8_step 6 = .ok (.bipush 50, 2) := by decide +kernel
theorem dX8_step_8 : decode cX8_step 8 = .ok (.if_icmp .le 5, 3) := by decide +kernel
theorem dX8_step_11 : decode cX8_step 11 = .ok (.iconst (-1), 1) := by decide +kernel
theorem dX8_step_12 : decode cX8_step 12 = .ok (.ireturn, 1) := by decide +kernel
theorem dX8_step_13 : decode cX8_step 13 = .ok (.iconst 0, 1) := by decide +kernel
theorem dX8_step_14 : decode cX8_step 14 = .ok (.istore_n 2, 1) := by decide +kernel
theorem dX8_step_15 : decode cX8_step 15 = .ok (.iconst 0, 1) := by decide +kernel
theorem dX8_step_16 : decode cX8_step 16 = .ok (.istore_n 3, 1) := by decide +kernel
theorem dX8_step_17 : decode cX8_step 17 = .ok (.iload_n 3, 1) := by decide +kernel
theorem dX8_step_18 : decode cX8_step 18 = .ok (.iload_n 1, 1) := by decide +kernel
theorem dX8_step_19 : decode cX8_step 19 = .ok (.if_icmp .ge 16, 3) := by decide +kernel
theorem dX8_step_22 : decode cX8_step 22 = .ok (.iload_n 2, 1) := by decide +kernel
theorem dX8_step_23 : decode cX8_step 23 = .ok (.aload_n 0, 1) := by decide +kernel
theorem dX8_step_24 : decode cX8_step 24 = .ok (.invokevirtual 262, 3) := by decide +kernel
theorem dX8_step_27 : decode cX8_step 27 = .ok (.iadd, 1) := by decide +kernel
theorem dX8_step_28 : decode cX8_step 28 = .ok (.istore_n 2, 1) := by decide +kernel
theorem dX8_step_29 : decode cX8_step 29 = .ok (.iinc 3 1, 3) := by decide +kernel
theorem dX8_step_32 : decode cX8_step 32 = .ok (.goto (-15), 3) := by decide +kernel
theorem dX8_step_35 : decode cX8_step 35 = .ok (.iload_n 2, 1) := by decide +kernel
theorem dX8_step_36 : decode cX8_step 36 = .ok (.ireturn, 1) := by decide +kernel
theorem dX8_channel_0 : decode cX8_channel 0 = .ok (.iload_n 1, 1) := by decide +kernel
theorem dX8_channel_1 : decode cX8_channel 1 = .ok (.iconst 1, 1) := by decide +kernel
theorem dX8_channel_2 : decode cX8_channel 2 = .ok (.if_icmp .lt 9, 3) := by decide +kernel
theorem dX8_channel_5 : decode cX8_channel 5 = .ok (.iload_n 1, 1) := by decide +kernel
theorem dX8_channel_6 : decode cX8_channel 6 = .ok (.bipush 50, 2) := by decide +kernel
theorem dX8_channel_8 : decode cX8_channel 8 = .ok (.if_icmp .le 5, 3) := by decide +kernel
theorem dX8_channel_11 : decode cX8_channel 11 = .ok (.iconst (-1), 1) := by decide +kernel
theorem dX8_channel_12 : decode cX8_channel 12 = .ok (.ireturn, 1) := by decide +kernel
theorem dX8_channel_13 : decode cX8_channel 13 = .ok (.iconst 0, 1) := by decide +kernel
theorem dX8_channel_14 : decode cX8_channel 14 = .ok (.istore_n 2, 1) := by decide +kernel
theorem dX8_channel_15 : decode cX8_channel 15 = .ok (.iload_n 2, 1) := by decide +kernel
theorem dX8_channel_16 : decode cX8_channel 16 = .ok (.iload_n 1, 1) := by decide +kernel
theorem dX8_channel_17 : decode cX8_channel 17 = .ok (.if_icmp .ge 34, 3) := by decide +kernel
theorem dX8_channel_20 : decode cX8_channel 20 = .ok (.aload_n 0, 1) := by decide +kernel
theorem dX8_channel_21 : decode cX8_channel 21 = .ok (.getfield 193, 3) := by decide +kernel
theorem dX8_channel_24 : decode cX8_channel 24 = .ok (.ifCond .eq 27, 3) := by decide +kernel
theorem dX8_channel_27 : decode cX8_channel 27 = .ok (.aload_n 0, 1) := by decide +kernel
theorem dX8_channel_28 : decode cX8_channel 28 = .ok (.getfield 217, 3) := by decide +kernel
theorem dX8_channel_31 : decode cX8_channel 31 = .ok (.ifCond .ne 10, 3) := by decide +kernel
theorem dX8_channel_34 : decode cX8_channel 34 = .ok (.aload_n 0, 1) := by decide +kernel
theorem dX8_channel_35 : decode cX8_channel 35 = .ok (.invokevirtual 265, 3) := by decide +kernel
theorem dX8_channel_38 : decode cX8_channel 38 = .ok (.goto 7, 3) := by decide +kernel
theorem dX8_channel_41 : decode cX8_channel 41 = .ok (.aload_n 0, 1) := by decide +kernel
theorem dX8_channel_42 : decode cX8_channel 42 = .ok (.invokevirtual 268, 3) := by decide +kernel
theorem dX8_channel_45 : decode cX8_channel 45 = .ok (.iinc 2 1, 3) := by decide +kernel
theorem dX8_channel_48 : decode cX8_channel 48 = .ok (.goto (-33), 3) := by decide +kernel
theorem dX8_channel_51 : decode cX8_channel 51 = .ok (.iload_n 2, 1) := by decide +kernel
theorem dX8_channel_52 : decode cX8_channel 52 = .ok (.ireturn, 1) := by decide +kernel
theorem dX8_look_0 : decode cX8_look 0 = .ok (.iload_n 1, 1) := by decide +kernel
theorem dX8_look_1 : decode cX8_look 1 = .ok (.iconst 4, 1) := by decide +kernel
theorem dX8_look_2 : decode cX8_look 2 = .ok (.if_icmp .ge 76, 3) := by decide +kernel
theorem dX8_look_5 : decode cX8_look 5 = .ok (.iload_n 1, 1) := by decide +kernel
theorem dX8_look_6 : decode cX8_look 6 = .ok (.ifCond .ne 18, 3) := by decide +kernel
theorem dX8_look_9 : decode cX8_look 9 = .ok (.aload_n 0, 1) := by decide +kernel
theorem dX8_look_10 : decode cX8_look 10 = .ok (.getfield 193, 3) := by decide +kernel
theorem dX8_look_13 : decode cX8_look 13 = .ok (.ifCond .eq 7, 3) := by decide +kernel
theorem dX8_look_16 : decode cX8_look 16 = .ok (.iconst 1, 1) := by decide +kernel
theorem dX8_look_17 : decode cX8_look 17 = .ok (.goto 60, 3) := by decide +kernel
theorem dX8_look_20 : decode cX8_look 20 = .ok (.iconst 0, 1) := by decide +kernel
theorem dX8_look_21 : decode cX8_look 21 = .ok (.goto 56, 3) := by decide +kernel
theorem dX8_look_24 : decode cX8_look 24 = .ok (.iload_n 1, 1) := by decide +kernel
theorem dX8_look_25 : decode cX8_look 25 = .ok (.iconst 1, 1) := by decide +kernel
theorem dX8_look_26 : decode cX8_look 26 = .ok (.if_icmp .ne 18, 3) := by decide +kernel
theorem dX8_look_29 : decode cX8_look 29 = .ok (.aload_n 0, 1) := by decide +kernel
theorem dX8_look_30 : decode cX8_look 30 = .ok (.getfield 80, 3) := by decide +kernel
theorem dX8_look_33 : decode cX8_look 33 = .ok (.ifCond .eq 7, 3) := by decide +kernel
theorem dX8_look_36 : decode cX8_look 36 = .ok (.iconst 1, 1) := by decide +kernel
theorem dX8_look_37 : decode cX8_look 37 = .ok (.goto 40, 3) := by decide +kernel
theorem dX8_look_40 : decode cX8_look 40 = .ok (.iconst 0, 1) := by decide +kernel
theorem dX8_look_41 : decode cX8_look 41 = .ok (.goto 36, 3) := by decide +kernel
theorem dX8_look_44 : decode cX8_look 44 = .ok (.iload_n 1, 1) := by decide +kernel
theorem dX8_look_45 : decode cX8_look 45 = .ok (.iconst 2, 1) := by decide +kernel
theorem dX8_look_46 : decode cX8_look 46 = .ok (.if_icmp .ne 18, 3) := by decide +kernel
theorem dX8_look_49 : decode cX8_look 49 = .ok (.aload_n 0, 1) := by decide +kernel
theorem dX8_look_50 : decode cX8_look 50 = .ok (.getfield 73, 3) := by decide +kernel
theorem dX8_look_53 : decode cX8_look 53 = .ok (.ifCond .eq 7, 3) := by decide +kernel
theorem dX8_look_56 : decode cX8_look 56 = .ok (.iconst 1, 1) := by decide +kernel
theorem dX8_look_57 : decode cX8_look 57 = .ok (.goto 20, 3) := by decide +kernel
theorem dX8_look_60 : decode cX8_look 60 = .ok (.iconst 0, 1) := by decide +kernel
theorem dX8_look_61 : decode cX8_look 61 = .ok (.goto 16, 3) := by decide +kernel
theorem dX8_look_64 : decode cX8_look 64 = .ok (.iload_n 1, 1) := by decide +kernel
theorem dX8_look_65 : decode cX8_look 65 = .ok (.iconst 3, 1) := by decide +kernel
theorem dX8_look_66 : decode cX8_look 66 = .ok (.if_icmp .ne 10, 3) := by decide +kernel
theorem dX8_look_69 : decode cX8_look 69 = .ok (.aload_n 0, 1) := by decide +kernel
theorem dX8_look_70 : decode cX8_look 70 = .ok (.getfield 248, 3) := by decide +kernel
theorem dX8_look_73 : decode cX8_look 73 = .ok (.goto 4, 3) := by decide +kernel
theorem dX8_look_76 : decode cX8_look 76 = .ok (.iconst (-1), 1) := by decide +kernel
theorem dX8_look_77 : decode cX8_look 77 = .ok (.ireturn, 1) := by decide +kernel
theorem dX8_look_78 : decode cX8_look 78 = .ok (.iload_n 1, 1) := by decide +kernel
theorem dX8_look_79 : decode cX8_look 79 = .ok (.iconst 4, 1) := by decide +kernel
theorem dX8_look_80 : decode cX8_look 80 = .ok (.if_icmp .ne 10, 3) := by decide +kernel
theorem dX8_look_83 : decode cX8_look 83 = .ok (.aload_n 0, 1) := by decide +kernel
theorem dX8_look_84 : decode cX8_look 84 = .ok (.getfield 242, 3) := by decide +kernel
theorem dX8_look_87 : decode cX8_look 87 = .ok (.goto 42, 3) := by decide +kernel
theorem dX8_look_90 : decode cX8_look 90 = .ok (.iload_n 1, 1) := by decide +kernel
theorem dX8_look_91 : decode cX8_look 91 = .ok (.iconst 5, 1) := by decide +kernel
theorem dX8_look_92 : decode cX8_look 92 = .ok (.if_icmp .ne 10, 3) := by decide +kernel
theorem dX8_look_95 : decode cX8_look 95 = .ok (.aload_n 0, 1) := by decide +kernel
theorem dX8_look_96 : decode cX8_look 96 = .ok (.getfield 245, 3) := by decide +kernel
theorem dX8_look_99 : decode cX8_look 99 = .ok (.goto 30, 3) := by decide +kernel
theorem dX8_look_102 : decode cX8_look 102 = .ok (.iload_n 1, 1) := by decide +kernel
theorem dX8_look_103 : decode cX8_look 103 = .ok (.bipush 6, 2) := by decide +kernel
theorem dX8_look_105 : decode cX8_look 105 = .ok (.if_icmp .ne 10, 3) := by decide +kernel
theorem dX8_look_108 : decode cX8_look 108 = .ok (.aload_n 0, 1) := by decide +kernel
theorem dX8_look_109 : decode cX8_look 109 = .ok (.getfield 70, 3) := by decide +kernel
theorem dX8_look_112 : decode cX8_look 112 = .ok (.goto 17, 3) := by decide +kernel
theorem dX8_look_115 : decode cX8_look 115 = .ok (.iload_n 1, 1) := by decide +kernel
theorem dX8_look_116 : decode cX8_look 116 = .ok (.bipush 7, 2) := by decide +kernel
theorem dX8_look_118 : decode cX8_look 118 = .ok (.if_icmp .ne 10, 3) := by decide +kernel
theorem dX8_look_121 : decode cX8_look 121 = .ok (.aload_n 0, 1) := by decide +kernel
theorem dX8_look_122 : decode cX8_look 122 = .ok (.getfield 92, 3) := by decide +kernel
theorem dX8_look_125 : decode cX8_look 125 = .ok (.goto 4, 3) := by decide +kernel
theorem dX8_look_128 : decode cX8_look 128 = .ok (.iconst (-1), 1) := by decide +kernel
theorem dX8_look_129 : decode cX8_look 129 = .ok (.ireturn, 1) := by decide +kernel
theorem dX8_printed_0 : decode cX8_printed 0 = .ok (.iload_n 1, 1) := by decide +kernel
theorem dX8_printed_1 : decode cX8_printed 1 = .ok (.ifCond .lt 17, 3) := by decide +kernel
theorem dX8_printed_4 : decode cX8_printed 4 = .ok (.iload_n 1, 1) := by decide +kernel
theorem dX8_printed_5 : decode cX8_printed 5 = .ok (.bipush 31, 2) := by decide +kernel
theorem dX8_printed_7 : decode cX8_printed 7 = .ok (.if_icmp .gt 11, 3) := by decide +kernel
theorem dX8_printed_10 : decode cX8_printed 10 = .ok (.iload_n 1, 1) := by decide +kernel
theorem dX8_printed_11 : decode cX8_printed 11 = .ok (.aload_n 0, 1) := by decide +kernel
theorem dX8_printed_12 : decode cX8_printed 12 = .ok (.getfield 245, 3) := by decide +kernel
theorem dX8_printed_15 : decode cX8_printed 15 = .ok (.if_icmp .lt 7, 3) := by decide +kernel
theorem dX8_printed_18 : decode cX8_printed 18 = .ok (.iconst (-1), 1) := by decide +kernel
theorem dX8_printed_19 : decode cX8_printed 19 = .ok (.goto 9, 3) := by decide +kernel
theorem dX8_printed_22 : decode cX8_printed 22 = .ok (.aload_n 0, 1) := by decide +kernel
theorem dX8_printed_23 : decode cX8_printed 23 = .ok (.getfield 28, 3) := by decide +kernel
theorem dX8_printed_26 : decode cX8_printed 26 = .ok (.iload_n 1, 1) := by decide +kernel
theorem dX8_printed_27 : decode cX8_printed 27 = .ok (.iaload, 1) := by decide +kernel
theorem dX8_printed_28 : decode cX8_printed 28 = .ok (.ireturn, 1) := by decide +kernel
theorem dL_law_0 : decode cL_law 0 = .ok (.new 7, 3) := by decide +kernel
theorem dL_law_3 : decode cL_law 3 = .ok (.dup, 1) := by decide +kernel
theorem dL_law_4 : decode cL_law 4 = .ok (.invokespecial 9, 3) := by decide +kernel
theorem dL_law_7 : decode cL_law 7 = .ok (.astore_n 1, 1) := by decide +kernel
theorem dL_law_8 : decode cL_law 8 = .ok (.new 10, 3) := by decide +kernel
theorem dL_law_11 : decode cL_law 11 = .ok (.dup, 1) := by decide +kernel
theorem dL_law_12 : decode cL_law 12 = .ok (.invokespecial 12, 3) := by decide +kernel
theorem dL_law_15 : decode cL_law 15 = .ok (.astore_n 2, 1) := by decide +kernel
theorem dL_law_16 : decode cL_law 16 = .ok (.iconst 0, 1) := by decide +kernel
theorem dL_law_17 : decode cL_law 17 = .ok (.istore_n 3, 1) := by decide +kernel
theorem dL_law_18 : decode cL_law 18 = .ok (.iload_n 3, 1) := by decide +kernel
theorem dL_law_19 : decode cL_law 19 = .ok (.aload_n 0, 1) := by decide +kernel
theorem dL_law_20 : decode cL_law 20 = .ok (.arraylength, 1) := by decide +kernel
theorem dL_law_21 : decode cL_law 21 = .ok (.iconst 5, 1) := by decide +kernel
theorem dL_law_22 : decode cL_law 22 = .ok (.isub, 1) := by decide +kernel
theorem dL_law_23 : decode cL_law 23 = .ok (.if_icmp .gt 391, 3) := by decide +kernel
theorem dL_law_26 : decode cL_law 26 = .ok (.aload_n 0, 1) := by decide +kernel
theorem dL_law_27 : decode cL_law 27 = .ok (.iload_n 3, 1) := by decide +kernel
theorem dL_law_28 : decode cL_law 28 = .ok (.iaload, 1) := by decide +kernel
theorem dL_law_29 : decode cL_law 29 = .ok (.bipush 15, 2) := by decide +kernel
theorem dL_law_31 : decode cL_law 31 = .ok (.iand, 1) := by decide +kernel
theorem dL_law_32 : decode cL_law 32 = .ok (.tableswitch 376 0 9 #[56, 129, 152, 185, 208, 271, 284, 307, 330, 353], 56) := by decide +kernel
theorem dL_law_88 : decode cL_law 88 = .ok (.aload_n 1, 1) := by decide +kernel
theorem dL_law_89 : decode cL_law 89 = .ok (.aload_n 0, 1) := by decide +kernel
theorem dL_law_90 : decode cL_law 90 = .ok (.iload_n 3, 1) := by decide +kernel
theorem dL_law_91 : decode cL_law 91 = .ok (.iconst 1, 1) := by decide +kernel
theorem dL_law_92 : decode cL_law 92 = .ok (.iadd, 1) := by decide +kernel
theorem dL_law_93 : decode cL_law 93 = .ok (.iaload, 1) := by decide +kernel
theorem dL_law_94 : decode cL_law 94 = .ok (.aload_n 0, 1) := by decide +kernel
theorem dL_law_95 : decode cL_law 95 = .ok (.iload_n 3, 1) := by decide +kernel
theorem dL_law_96 : decode cL_law 96 = .ok (.iconst 2, 1) := by decide +kernel
theorem dL_law_97 : decode cL_law 97 = .ok (.iadd, 1) := by decide +kernel
theorem dL_law_98 : decode cL_law 98 = .ok (.iaload, 1) := by decide +kernel
theorem dL_law_99 : decode cL_law 99 = .ok (.i2l, 1) := by decide +kernel
theorem dL_law_100 : decode cL_law 100 = .ok (.bipush 32, 2) := by decide +kernel
theorem dL_law_102 : decode cL_law 102 = .ok (.lshl, 1) := by decide +kernel
theorem dL_law_103 : decode cL_law 103 = .ok (.aload_n 0, 1) := by decide +kernel
theorem dL_law_104 : decode cL_law 104 = .ok (.iload_n 3, 1) := by decide +kernel
theorem dL_law_105 : decode cL_law 105 = .ok (.iconst 3, 1) := by decide +kernel
theorem dL_law_106 : decode cL_law 106 = .ok (.iadd, 1) := by decide +kernel
theorem dL_law_107 : decode cL_law 107 = .ok (.iaload, 1) := by decide +kernel
theorem dL_law_108 : decode cL_law 108 = .ok (.i2l, 1) := by decide +kernel
theorem dL_law_109 : decode cL_law 109 = .ok (.ldc2_w 13, 3) := by decide +kernel
theorem dL_law_112 : decode cL_law 112 = .ok (.land, 1) := by decide +kernel
theorem dL_law_113 : decode cL_law 113 = .ok (.lor, 1) := by decide +kernel
theorem dL_law_114 : decode cL_law 114 = .ok (.aload_n 0, 1) := by decide +kernel
theorem dL_law_115 : decode cL_law 115 = .ok (.iload_n 3, 1) := by decide +kernel
theorem dL_law_116 : decode cL_law 116 = .ok (.iconst 4, 1) := by decide +kernel
theorem dL_law_117 : decode cL_law 117 = .ok (.iadd, 1) := by decide +kernel
theorem dL_law_118 : decode cL_law 118 = .ok (.iaload, 1) := by decide +kernel
theorem dL_law_119 : decode cL_law 119 = .ok (.invokevirtual 15, 3) := by decide +kernel
theorem dL_law_122 : decode cL_law 122 = .ok (.aload_n 2, 1) := by decide +kernel
theorem dL_law_123 : decode cL_law 123 = .ok (.aload_n 0, 1) := by decide +kernel
theorem dL_law_124 : decode cL_law 124 = .ok (.iload_n 3, 1) := by decide +kernel
theorem dL_law_125 : decode cL_law 125 = .ok (.iconst 1, 1) := by decide +kernel
theorem dL_law_126 : decode cL_law 126 = .ok (.iadd, 1) := by decide +kernel
theorem dL_law_127 : decode cL_law 127 = .ok (.iaload, 1) := by decide +kernel
theorem dL_law_128 : decode cL_law 128 = .ok (.aload_n 0, 1) := by decide +kernel
theorem dL_law_129 : decode cL_law 129 = .ok (.iload_n 3, 1) := by decide +kernel
theorem dL_law_130 : decode cL_law 130 = .ok (.iconst 2, 1) := by decide +kernel
theorem dL_law_131 : decode cL_law 131 = .ok (.iadd, 1) := by decide +kernel
theorem dL_law_132 : decode cL_law 132 = .ok (.iaload, 1) := by decide +kernel
theorem dL_law_133 : decode cL_law 133 = .ok (.i2l, 1) := by decide +kernel
theorem dL_law_134 : decode cL_law 134 = .ok (.bipush 32, 2) := by decide +kernel
theorem dL_law_136 : decode cL_law 136 = .ok (.lshl, 1) := by decide +kernel
theorem dL_law_137 : decode cL_law 137 = .ok (.aload_n 0, 1) := by decide +kernel
theorem dL_law_138 : decode cL_law 138 = .ok (.iload_n 3, 1) := by decide +kernel
theorem dL_law_139 : decode cL_law 139 = .ok (.iconst 3, 1) := by decide +kernel
theorem dL_law_140 : decode cL_law 140 = .ok (.iadd, 1) := by decide +kernel
theorem dL_law_141 : decode cL_law 141 = .ok (.iaload, 1) := by decide +kernel
theorem dL_law_142 : decode cL_law 142 = .ok (.i2l, 1) := by decide +kernel
theorem dL_law_143 : decode cL_law 143 = .ok (.ldc2_w 13, 3) := by decide +kernel
theorem dL_law_146 : decode cL_law 146 = .ok (.land, 1) := by decide +kernel
theorem dL_law_147 : decode cL_law 147 = .ok (.lor, 1) := by decide +kernel
theorem dL_law_148 : decode cL_law 148 = .ok (.aload_n 0, 1) := by decide +kernel
theorem dL_law_149 : decode cL_law 149 = .ok (.iload_n 3, 1) := by decide +kernel
theorem dL_law_150 : decode cL_law 150 = .ok (.iconst 4, 1) := by decide +kernel
theorem dL_law_151 : decode cL_law 151 = .ok (.iadd, 1) := by decide +kernel
theorem dL_law_152 : decode cL_law 152 = .ok (.iaload, 1) := by decide +kernel
theorem dL_law_153 : decode cL_law 153 = .ok (.invokevirtual 19, 3) := by decide +kernel
theorem dL_law_156 : decode cL_law 156 = .ok (.if_icmp .eq 252, 3) := by decide +kernel
theorem dL_law_159 : decode cL_law 159 = .ok (.iconst 0, 1) := by decide +kernel
theorem dL_law_160 : decode cL_law 160 = .ok (.ireturn, 1) := by decide +kernel
theorem dL_law_161 : decode cL_law 161 = .ok (.aload_n 1, 1) := by decide +kernel
theorem dL_law_162 : decode cL_law 162 = .ok (.aload_n 0, 1) := by decide +kernel
theorem dL_law_163 : decode cL_law 163 = .ok (.iload_n 3, 1) := by decide +kernel
theorem dL_law_164 : decode cL_law 164 = .ok (.iconst 1, 1) := by decide +kernel
theorem dL_law_165 : decode cL_law 165 = .ok (.iadd, 1) := by decide +kernel
theorem dL_law_166 : decode cL_law 166 = .ok (.iaload, 1) := by decide +kernel
theorem dL_law_167 : decode cL_law 167 = .ok (.invokevirtual 20, 3) := by decide +kernel
theorem dL_law_170 : decode cL_law 170 = .ok (.aload_n 2, 1) := by decide +kernel
theorem dL_law_171 : decode cL_law 171 = .ok (.aload_n 0, 1) := by decide +kernel
theorem dL_law_172 : decode cL_law 172 = .ok (.iload_n 3, 1) := by decide +kernel
theorem dL_law_173 : decode cL_law 173 = .ok (.iconst 1, 1) := by decide +kernel
theorem dL_law_174 : decode cL_law 174 = .ok (.iadd, 1) := by decide +kernel
theorem dL_law_175 : decode cL_law 175 = .ok (.iaload, 1) := by decide +kernel
theorem dL_law_176 : decode cL_law 176 = .ok (.invokevirtual 24, 3) := by decide +kernel
theorem dL_law_179 : decode cL_law 179 = .ok (.if_icmp .eq 229, 3) := by decide +kernel
theorem dL_law_182 : decode cL_law 182 = .ok (.iconst 0, 1) := by decide +kernel
theorem dL_law_183 : decode cL_law 183 = .ok (.ireturn, 1) := by decide +kernel
theorem dL_law_184 : decode cL_law 184 = .ok (.aload_n 1, 1) := by decide +kernel
theorem dL_law_185 : decode cL_law 185 = .ok (.aload_n 0, 1) := by decide +kernel
theorem dL_law_186 : decode cL_law 186 = .ok (.iload_n 3, 1) := by decide +kernel
theorem dL_law_187 : decode cL_law 187 = .ok (.iconst 1, 1) := by decide +kernel
theorem dL_law_188 : decode cL_law 188 = .ok (.iadd, 1) := by decide +kernel
theorem dL_law_189 : decode cL_law 189 = .ok (.iaload, 1) := by decide +kernel
theorem dL_law_190 : decode cL_law 190 = .ok (.aload_n 0, 1) := by decide +kernel
theorem dL_law_191 : decode cL_law 191 = .ok (.iload_n 3, 1) := by decide +kernel
theorem dL_law_192 : decode cL_law 192 = .ok (.iconst 2, 1) := by decide +kernel
theorem dL_law_193 : decode cL_law 193 = .ok (.iadd, 1) := by decide +kernel
theorem dL_law_194 : decode cL_law 194 = .ok (.iaload, 1) := by decide +kernel
theorem dL_law_195 : decode cL_law 195 = .ok (.invokevirtual 25, 3) := by decide +kernel
theorem dL_law_198 : decode cL_law 198 = .ok (.aload_n 2, 1) := by decide +kernel
theorem dL_law_199 : decode cL_law 199 = .ok (.aload_n 0, 1) := by decide +kernel
theorem dL_law_200 : decode cL_law 200 = .ok (.iload_n 3, 1) := by decide +kernel
theorem dL_law_201 : decode cL_law 201 = .ok (.iconst 1, 1) := by decide +kernel
theorem dL_law_202 : decode cL_law 202 = .ok (.iadd, 1) := by decide +kernel
theorem dL_law_203 : decode cL_law 203 = .ok (.iaload, 1) := by decide +kernel
theorem dL_law_204 : decode cL_law 204 = .ok (.aload_n 0, 1) := by decide +kernel
theorem dL_law_205 : decode cL_law 205 = .ok (.iload_n 3, 1) := by decide +kernel
theorem dL_law_206 : decode cL_law 206 = .ok (.iconst 2, 1) := by decide +kernel
theorem dL_law_207 : decode cL_law 207 = .ok (.iadd, 1) := by decide +kernel
theorem dL_law_208 : decode cL_law 208 = .ok (.iaload, 1) := by decide +kernel
theorem dL_law_209 : decode cL_law 209 = .ok (.invokevirtual 29, 3) := by decide +kernel
theorem dL_law_212 : decode cL_law 212 = .ok (.if_icmp .eq 196, 3) := by decide +kernel
theorem dL_law_215 : decode cL_law 215 = .ok (.iconst 0, 1) := by decide +kernel
theorem dL_law_216 : decode cL_law 216 = .ok (.ireturn, 1) := by decide +kernel
theorem dL_law_217 : decode cL_law 217 = .ok (.aload_n 1, 1) := by decide +kernel
theorem dL_law_218 : decode cL_law 218 = .ok (.aload_n 0, 1) := by decide +kernel
theorem dL_law_219 : decode cL_law 219 = .ok (.iload_n 3, 1) := by decide +kernel
theorem dL_law_220 : decode cL_law 220 = .ok (.iconst 1, 1) := by decide +kernel
theorem dL_law_221 : decode cL_law 221 = .ok (.iadd, 1) := by decide +kernel
theorem dL_law_222 : decode cL_law 222 = .ok (.iaload, 1) := by decide +kernel
theorem dL_law_223 : decode cL_law 223 = .ok (.invokevirtual 30, 3) := by decide +kernel
theorem dL_law_226 : decode cL_law 226 = .ok (.aload_n 2, 1) := by decide +kernel
theorem dL_law_227 : decode cL_law 227 = .ok (.aload_n 0, 1) := by decide +kernel
theorem dL_law_228 : decode cL_law 228 = .ok (.iload_n 3, 1) := by decide +kernel
theorem dL_law_229 : decode cL_law 229 = .ok (.iconst 1, 1) := by decide +kernel
theorem dL_law_230 : decode cL_law 230 = .ok (.iadd, 1) := by decide +kernel
theorem dL_law_231 : decode cL_law 231 = .ok (.iaload, 1) := by decide +kernel
theorem dL_law_232 : decode cL_law 232 = .ok (.invokevirtual 33, 3) := by decide +kernel
theorem dL_law_235 : decode cL_law 235 = .ok (.if_icmp .eq 173, 3) := by decide +kernel
theorem dL_law_238 : decode cL_law 238 = .ok (.iconst 0, 1) := by decide +kernel
theorem dL_law_239 : decode cL_law 239 = .ok (.ireturn, 1) := by decide +kernel
theorem dL_law_240 : decode cL_law 240 = .ok (.aload_n 1, 1) := by decide +kernel
theorem dL_law_241 : decode cL_law 241 = .ok (.aload_n 0, 1) := by decide +kernel
theorem dL_law_242 : decode cL_law 242 = .ok (.iload_n 3, 1) := by decide +kernel
theorem dL_law_243 : decode cL_law 243 = .ok (.iconst 1, 1) := by decide +kernel
theorem dL_law_244 : decode cL_law 244 = .ok (.iadd, 1) := by decide +kernel
theorem dL_law_245 : decode cL_law 245 = .ok (.iaload, 1) := by decide +kernel
theorem dL_law_246 : decode cL_law 246 = .ok (.i2l, 1) := by decide +kernel
theorem dL_law_247 : decode cL_law 247 = .ok (.bipush 32, 2) := by decide +kernel
theorem dL_law_249 : decode cL_law 249 = .ok (.lshl, 1) := by decide +kernel
theorem dL_law_250 : decode cL_law 250 = .ok (.aload_n 0, 1) := by decide +kernel
theorem dL_law_251 : decode cL_law 251 = .ok (.iload_n 3, 1) := by decide +kernel
theorem dL_law_252 : decode cL_law 252 = .ok (.iconst 2, 1) := by decide +kernel
theorem dL_law_253 : decode cL_law 253 = .ok (.iadd, 1) := by decide +kernel
theorem dL_law_254 : decode cL_law 254 = .ok (.iaload, 1) := by decide +kernel
theorem dL_law_255 : decode cL_law 255 = .ok (.i2l, 1) := by decide +kernel
theorem dL_law_256 : decode cL_law 256 = .ok (.ldc2_w 13, 3) := by decide +kernel
theorem dL_law_259 : decode cL_law 259 = .ok (.land, 1) := by decide +kernel
theorem dL_law_260 : decode cL_law 260 = .ok (.lor, 1) := by decide +kernel
theorem dL_law_261 : decode cL_law 261 = .ok (.aload_n 0, 1) := by decide +kernel
theorem dL_law_262 : decode cL_law 262 = .ok (.iload_n 3, 1) := by decide +kernel
theorem dL_law_263 : decode cL_law 263 = .ok (.iconst 3, 1) := by decide +kernel
theorem dL_law_264 : decode cL_law 264 = .ok (.iadd, 1) := by decide +kernel
theorem dL_law_265 : decode cL_law 265 = .ok (.iaload, 1) := by decide +kernel
theorem dL_law_266 : decode cL_law 266 = .ok (.invokevirtual 34, 3) := by decide +kernel
theorem dL_law_269 : decode cL_law 269 = .ok (.aload_n 2, 1) := by decide +kernel
theorem dL_law_270 : decode cL_law 270 = .ok (.aload_n 0, 1) := by decide +kernel
theorem dL_law_271 : decode cL_law 271 = .ok (.iload_n 3, 1) := by decide +kernel
theorem dL_law_272 : decode cL_law 272 = .ok (.iconst 1, 1) := by decide +kernel
theorem dL_law_273 : decode cL_law 273 = .ok (.iadd, 1) := by decide +kernel
theorem dL_law_274 : decode cL_law 274 = .ok (.iaload, 1) := by decide +kernel
theorem dL_law_275 : decode cL_law 275 = .ok (.i2l, 1) := by decide +kernel
theorem dL_law_276 : decode cL_law 276 = .ok (.bipush 32, 2) := by decide +kernel
theorem dL_law_278 : decode cL_law 278 = .ok (.lshl, 1) := by decide +kernel
theorem dL_law_279 : decode cL_law 279 = .ok (.aload_n 0, 1) := by decide +kernel
theorem dL_law_280 : decode cL_law 280 = .ok (.iload_n 3, 1) := by decide +kernel
theorem dL_law_281 : decode cL_law 281 = .ok (.iconst 2, 1) := by decide +kernel
theorem dL_law_282 : decode cL_law 282 = .ok (.iadd, 1) := by decide +kernel
theorem dL_law_283 : decode cL_law 283 = .ok (.iaload, 1) := by decide +kernel
theorem dL_law_284 : decode cL_law 284 = .ok (.i2l, 1) := by decide +kernel
theorem dL_law_285 : decode cL_law 285 = .ok (.ldc2_w 13, 3) := by decide +kernel
theorem dL_law_288 : decode cL_law 288 = .ok (.land, 1) := by decide +kernel
theorem dL_law_289 : decode cL_law 289 = .ok (.lor, 1) := by decide +kernel
theorem dL_law_290 : decode cL_law 290 = .ok (.aload_n 0, 1) := by decide +kernel
theorem dL_law_291 : decode cL_law 291 = .ok (.iload_n 3, 1) := by decide +kernel
theorem dL_law_292 : decode cL_law 292 = .ok (.iconst 3, 1) := by decide +kernel
theorem dL_law_293 : decode cL_law 293 = .ok (.iadd, 1) := by decide +kernel
theorem dL_law_294 : decode cL_law 294 = .ok (.iaload, 1) := by decide +kernel
theorem dL_law_295 : decode cL_law 295 = .ok (.invokevirtual 38, 3) := by decide +kernel
theorem dL_law_298 : decode cL_law 298 = .ok (.if_icmp .eq 110, 3) := by decide +kernel
theorem dL_law_301 : decode cL_law 301 = .ok (.iconst 0, 1) := by decide +kernel
theorem dL_law_302 : decode cL_law 302 = .ok (.ireturn, 1) := by decide +kernel
theorem dL_law_303 : decode cL_law 303 = .ok (.aload_n 1, 1) := by decide +kernel
theorem dL_law_304 : decode cL_law 304 = .ok (.invokevirtual 39, 3) := by decide +kernel
theorem dL_law_307 : decode cL_law 307 = .ok (.aload_n 2, 1) := by decide +kernel
theorem dL_law_308 : decode cL_law 308 = .ok (.invokevirtual 43, 3) := by decide +kernel
theorem dL_law_311 : decode cL_law 311 = .ok (.if_icmp .eq 97, 3) := by decide +kernel
theorem dL_law_314 : decode cL_law 314 = .ok (.iconst 0, 1) := by decide +kernel
theorem dL_law_315 : decode cL_law 315 = .ok (.ireturn, 1) := by decide +kernel
theorem dL_law_316 : decode cL_law 316 = .ok (.aload_n 1, 1) := by decide +kernel
theorem dL_law_317 : decode cL_law 317 = .ok (.aload_n 0, 1) := by decide +kernel
theorem dL_law_318 : decode cL_law 318 = .ok (.iload_n 3, 1) := by decide +kernel
theorem dL_law_319 : decode cL_law 319 = .ok (.iconst 1, 1) := by decide +kernel
theorem dL_law_320 : decode cL_law 320 = .ok (.iadd, 1) := by decide +kernel
theorem dL_law_321 : decode cL_law 321 = .ok (.iaload, 1) := by decide +kernel
theorem dL_law_322 : decode cL_law 322 = .ok (.invokevirtual 44, 3) := by decide +kernel
theorem dL_law_325 : decode cL_law 325 = .ok (.aload_n 2, 1) := by decide +kernel
theorem dL_law_326 : decode cL_law 326 = .ok (.aload_n 0, 1) := by decide +kernel
theorem dL_law_327 : decode cL_law 327 = .ok (.iload_n 3, 1) := by decide +kernel
theorem dL_law_328 : decode cL_law 328 = .ok (.iconst 1, 1) := by decide +kernel
theorem dL_law_329 : decode cL_law 329 = .ok (.iadd, 1) := by decide +kernel
theorem dL_law_330 : decode cL_law 330 = .ok (.iaload, 1) := by decide +kernel
theorem dL_law_331 : decode cL_law 331 = .ok (.invokevirtual 47, 3) := by decide +kernel
theorem dL_law_334 : decode cL_law 334 = .ok (.if_icmp .eq 74, 3) := by decide +kernel
theorem dL_law_337 : decode cL_law 337 = .ok (.iconst 0, 1) := by decide +kernel
theorem dL_law_338 : decode cL_law 338 = .ok (.ireturn, 1) := by decide +kernel
theorem dL_law_339 : decode cL_law 339 = .ok (.aload_n 1, 1) := by decide +kernel
theorem dL_law_340 : decode cL_law 340 = .ok (.aload_n 0, 1) := by decide +kernel
theorem dL_law_341 : decode cL_law 341 = .ok (.iload_n 3, 1) := by decide +kernel
theorem dL_law_342 : decode cL_law 342 = .ok (.iconst 1, 1) := by decide +kernel
theorem dL_law_343 : decode cL_law 343 = .ok (.iadd, 1) := by decide +kernel
theorem dL_law_344 : decode cL_law 344 = .ok (.iaload, 1) := by decide +kernel
theorem dL_law_345 : decode cL_law 345 = .ok (.invokevirtual 48, 3) := by decide +kernel
theorem dL_law_348 : decode cL_law 348 = .ok (.aload_n 2, 1) := by decide +kernel
theorem dL_law_349 : decode cL_law 349 = .ok (.aload_n 0, 1) := by decide +kernel
theorem dL_law_350 : decode cL_law 350 = .ok (.iload_n 3, 1) := by decide +kernel
theorem dL_law_351 : decode cL_law 351 = .ok (.iconst 1, 1) := by decide +kernel
theorem dL_law_352 : decode cL_law 352 = .ok (.iadd, 1) := by decide +kernel
theorem dL_law_353 : decode cL_law 353 = .ok (.iaload, 1) := by decide +kernel
theorem dL_law_354 : decode cL_law 354 = .ok (.invokevirtual 51, 3) := by decide +kernel
theorem dL_law_357 : decode cL_law 357 = .ok (.if_icmp .eq 51, 3) := by decide +kernel
theorem dL_law_360 : decode cL_law 360 = .ok (.iconst 0, 1) := by decide +kernel
theorem dL_law_361 : decode cL_law 361 = .ok (.ireturn, 1) := by decide +kernel
theorem dL_law_362 : decode cL_law 362 = .ok (.aload_n 1, 1) := by decide +kernel
theorem dL_law_363 : decode cL_law 363 = .ok (.aload_n 0, 1) := by decide +kernel
theorem dL_law_364 : decode cL_law 364 = .ok (.iload_n 3, 1) := by decide +kernel
theorem dL_law_365 : decode cL_law 365 = .ok (.iconst 1, 1) := by decide +kernel
theorem dL_law_366 : decode cL_law 366 = .ok (.iadd, 1) := by decide +kernel
theorem dL_law_367 : decode cL_law 367 = .ok (.iaload, 1) := by decide +kernel
theorem dL_law_368 : decode cL_law 368 = .ok (.invokevirtual 52, 3) := by decide +kernel
theorem dL_law_371 : decode cL_law 371 = .ok (.aload_n 2, 1) := by decide +kernel
theorem dL_law_372 : decode cL_law 372 = .ok (.aload_n 0, 1) := by decide +kernel
theorem dL_law_373 : decode cL_law 373 = .ok (.iload_n 3, 1) := by decide +kernel
theorem dL_law_374 : decode cL_law 374 = .ok (.iconst 1, 1) := by decide +kernel
theorem dL_law_375 : decode cL_law 375 = .ok (.iadd, 1) := by decide +kernel
theorem dL_law_376 : decode cL_law 376 = .ok (.iaload, 1) := by decide +kernel
theorem dL_law_377 : decode cL_law 377 = .ok (.invokevirtual 55, 3) := by decide +kernel
theorem dL_law_380 : decode cL_law 380 = .ok (.if_icmp .eq 28, 3) := by decide +kernel
theorem dL_law_383 : decode cL_law 383 = .ok (.iconst 0, 1) := by decide +kernel
theorem dL_law_384 : decode cL_law 384 = .ok (.ireturn, 1) := by decide +kernel
theorem dL_law_385 : decode cL_law 385 = .ok (.aload_n 1, 1) := by decide +kernel
theorem dL_law_386 : decode cL_law 386 = .ok (.aload_n 0, 1) := by decide +kernel
theorem dL_law_387 : decode cL_law 387 = .ok (.iload_n 3, 1) := by decide +kernel
theorem dL_law_388 : decode cL_law 388 = .ok (.iconst 1, 1) := by decide +kernel
theorem dL_law_389 : decode cL_law 389 = .ok (.iadd, 1) := by decide +kernel
theorem dL_law_390 : decode cL_law 390 = .ok (.iaload, 1) := by decide +kernel
theorem dL_law_391 : decode cL_law 391 = .ok (.invokevirtual 56, 3) := by decide +kernel
theorem dL_law_394 : decode cL_law 394 = .ok (.aload_n 2, 1) := by decide +kernel
theorem dL_law_395 : decode cL_law 395 = .ok (.aload_n 0, 1) := by decide +kernel
theorem dL_law_396 : decode cL_law 396 = .ok (.iload_n 3, 1) := by decide +kernel
theorem dL_law_397 : decode cL_law 397 = .ok (.iconst 1, 1) := by decide +kernel
theorem dL_law_398 : decode cL_law 398 = .ok (.iadd, 1) := by decide +kernel
theorem dL_law_399 : decode cL_law 399 = .ok (.iaload, 1) := by decide +kernel
theorem dL_law_400 : decode cL_law 400 = .ok (.invokevirtual 59, 3) := by decide +kernel
theorem dL_law_403 : decode cL_law 403 = .ok (.if_icmp .eq 5, 3) := by decide +kernel
theorem dL_law_406 : decode cL_law 406 = .ok (.iconst 0, 1) := by decide +kernel
theorem dL_law_407 : decode cL_law 407 = .ok (.ireturn, 1) := by decide +kernel
theorem dL_law_408 : decode cL_law 408 = .ok (.iinc 3 5, 3) := by decide +kernel
theorem dL_law_411 : decode cL_law 411 = .ok (.goto (-393), 3) := by decide +kernel
theorem dL_law_414 : decode cL_law 414 = .ok (.iconst 1, 1) := by decide +kernel
theorem dL_law_415 : decode cL_law 415 = .ok (.ireturn, 1) := by decide +kernel
