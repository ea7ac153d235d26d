theorem dX0_init_0 : decode cX0_init 0 = .ok (.aload_n 0, 1) := by decide +kernel
theorem dX0_init_1 : decode cX0_init 1 = .ok (.invokespecial 3, 3) := by decide +kernel
theorem dX0_init_4 : decode cX0_init 4 = .ok (.aload_n 0, 1) := by decide +kernel
theorem dX0_init_5 : decode cX0_init 5 = .ok (.new 9, 3) := by decide +kernel
theorem dX0_init_8 : decode cX0_init 8 = .ok (.dup, 1) := by decide +kernel
theorem dX0_init_9 : decode cX0_init 9 = .ok (.invokespecial 11, 3) := by decide +kernel
theorem dX0_init_12 : decode cX0_init 12 = .ok (.putfield 12, 3) := by decide +kernel
theorem dX0_init_15 : decode cX0_init 15 = .ok (.aload_n 0, 1) := by decide +kernel
theorem dX0_init_16 : decode cX0_init 16 = .ok (.new 18, 3) := by decide +kernel
theorem dX0_init_19 : decode cX0_init 19 = .ok (.dup, 1) := by decide +kernel
theorem dX0_init_20 : decode cX0_init 20 = .ok (.invokespecial 20, 3) := by decide +kernel
theorem dX0_init_23 : decode cX0_init 23 = .ok (.putfield 21, 3) := by decide +kernel
theorem dX0_init_26 : decode cX0_init 26 = .ok (.return_, 1) := by decide +kernel
theorem dX0_start_0 : decode cX0_start 0 = .ok (.iload_n 2, 1) := by decide +kernel
theorem dX0_start_1 : decode cX0_start 1 = .ok (.iconst 1, 1) := by decide +kernel
theorem dX0_start_2 : decode cX0_start 2 = .ok (.if_icmp .eq 10, 3) := by decide +kernel
theorem dX0_start_5 : decode cX0_start 5 = .ok (.iload_n 2, 1) := by decide +kernel
theorem dX0_start_6 : decode cX0_start 6 = .ok (.iconst 2, 1) := by decide +kernel
theorem dX0_start_7 : decode cX0_start 7 = .ok (.if_icmp .eq 5, 3) := by decide +kernel
theorem dX0_start_10 : decode cX0_start 10 = .ok (.iconst 3, 1) := by decide +kernel
theorem dX0_start_11 : decode cX0_start 11 = .ok (.ireturn, 1) := by decide +kernel
theorem dX0_start_12 : decode cX0_start 12 = .ok (.aload_n 0, 1) := by decide +kernel
theorem dX0_start_13 : decode cX0_start 13 = .ok (.getfield 25, 3) := by decide +kernel
theorem dX0_start_16 : decode cX0_start 16 = .ok (.ifCond .ne 10, 3) := by decide +kernel
theorem dX0_start_19 : decode cX0_start 19 = .ok (.aload_n 0, 1) := by decide +kernel
theorem dX0_start_20 : decode cX0_start 20 = .ok (.getfield 29, 3) := by decide +kernel
theorem dX0_start_23 : decode cX0_start 23 = .ok (.ifCond .eq 5, 3) := by decide +kernel
theorem dX0_start_26 : decode cX0_start 26 = .ok (.iconst 2, 1) := by decide +kernel
theorem dX0_start_27 : decode cX0_start 27 = .ok (.ireturn, 1) := by decide +kernel
theorem dX0_start_28 : decode cX0_start 28 = .ok (.aload_n 1, 1) := by decide +kernel
theorem dX0_start_29 : decode cX0_start 29 = .ok (.bipush 72, 2) := by decide +kernel
theorem dX0_start_31 : decode cX0_start 31 = .ok (.invokevirtual 32, 3) := by decide +kernel
theorem dX0_start_34 : decode cX0_start 34 = .ok (.istore_n 3, 1) := by decide +kernel
theorem dX0_start_35 : decode cX0_start 35 = .ok (.aload_n 0, 1) := by decide +kernel
theorem dX0_start_36 : decode cX0_start 36 = .ok (.iload_n 2, 1) := by decide +kernel
theorem dX0_start_37 : decode cX0_start 37 = .ok (.putfield 38, 3) := by decide +kernel
theorem dX0_start_40 : decode cX0_start 40 = .ok (.aload_n 0, 1) := by decide +kernel
theorem dX0_start_41 : decode cX0_start 41 = .ok (.iload_n 3, 1) := by decide +kernel
theorem dX0_start_42 : decode cX0_start 42 = .ok (.bipush 28, 2) := by decide +kernel
theorem dX0_start_44 : decode cX0_start 44 = .ok (.iushr, 1) := by decide +kernel
theorem dX0_start_45 : decode cX0_start 45 = .ok (.putfield 42, 3) := by decide +kernel
theorem dX0_start_48 : decode cX0_start 48 = .ok (.aload_n 0, 1) := by decide +kernel
theorem dX0_start_49 : decode cX0_start 49 = .ok (.iload_n 3, 1) := by decide +kernel
theorem dX0_start_50 : decode cX0_start 50 = .ok (.ldc 45, 2) := by decide +kernel
theorem dX0_start_52 : decode cX0_start 52 = .ok (.iand, 1) := by decide +kernel
theorem dX0_start_53 : decode cX0_start 53 = .ok (.putfield 46, 3) := by decide +kernel
theorem dX0_start_56 : decode cX0_start 56 = .ok (.aload_n 0, 1) := by decide +kernel
theorem dX0_start_57 : decode cX0_start 57 = .ok (.iconst 0, 1) := by decide +kernel
theorem dX0_start_58 : decode cX0_start 58 = .ok (.putfield 49, 3) := by decide +kernel
theorem dX0_start_61 : decode cX0_start 61 = .ok (.aload_n 0, 1) := by decide +kernel
theorem dX0_start_62 : decode cX0_start 62 = .ok (.iconst 0, 1) := by decide +kernel
theorem dX0_start_63 : decode cX0_start 63 = .ok (.putfield 52, 3) := by decide +kernel
theorem dX0_start_66 : decode cX0_start 66 = .ok (.aload_n 0, 1) := by decide +kernel
theorem dX0_start_67 : decode cX0_start 67 = .ok (.iconst 0, 1) := by decide +kernel
theorem dX0_start_68 : decode cX0_start 68 = .ok (.putfield 55, 3) := by decide +kernel
theorem dX0_start_71 : decode cX0_start 71 = .ok (.aload_n 0, 1) := by decide +kernel
theorem dX0_start_72 : decode cX0_start 72 = .ok (.iconst 1, 1) := by decide +kernel
theorem dX0_start_73 : decode cX0_start 73 = .ok (.putfield 25, 3) := by decide +kernel
theorem dX0_start_76 : decode cX0_start 76 = .ok (.iconst 0, 1) := by decide +kernel
theorem dX0_start_77 : decode cX0_start 77 = .ok (.ireturn, 1) := by decide +kernel
theorem dX0_test_0 : decode cX0_test 0 = .ok (.aload_n 0, 1) := by decide +kernel
theorem dX0_test_1 : decode cX0_test 1 = .ok (.getfield 25, 3) := by decide +kernel
theorem dX0_test_4 : decode cX0_test 4 = .ok (.ifCond .eq 5, 3) := by decide +kernel
theorem dX0_test_7 : decode cX0_test 7 = .ok (.iconst 2, 1) := by decide +kernel
theorem dX0_test_8 : decode cX0_test 8 = .ok (.ireturn, 1) := by decide +kernel
theorem dX0_test_9 : decode cX0_test 9 = .ok (.aload_n 0, 1) := by decide +kernel
theorem dX0_test_10 : decode cX0_test 10 = .ok (.getfield 29, 3) := by decide +kernel
theorem dX0_test_13 : decode cX0_test 13 = .ok (.ifCond .eq 7, 3) := by decide +kernel
theorem dX0_test_16 : decode cX0_test 16 = .ok (.iconst 1, 1) := by decide +kernel
theorem dX0_test_17 : decode cX0_test 17 = .ok (.goto 4, 3) := by decide +kernel
theorem dX0_test_20 : decode cX0_test 20 = .ok (.iconst 0, 1) := by decide +kernel
theorem dX0_test_21 : decode cX0_test 21 = .ok (.istore_n 1, 1) := by decide +kernel
theorem dX0_test_22 : decode cX0_test 22 = .ok (.aload_n 0, 1) := by decide +kernel
theorem dX0_test_23 : decode cX0_test 23 = .ok (.iconst 0, 1) := by decide +kernel
theorem dX0_test_24 : decode cX0_test 24 = .ok (.putfield 29, 3) := by decide +kernel
theorem dX0_test_27 : decode cX0_test 27 = .ok (.iload_n 1, 1) := by decide +kernel
theorem dX0_test_28 : decode cX0_test 28 = .ok (.ireturn, 1) := by decide +kernel
theorem dX0_makeMove_0 : decode cX0_makeMove 0 = .ok (.aload_n 0, 1) := by decide +kernel
theorem dX0_makeMove_1 : decode cX0_makeMove 1 = .ok (.getfield 49, 3) := by decide +kernel
theorem dX0_makeMove_4 : decode cX0_makeMove 4 = .ok (.ifCond .eq 11, 3) := by decide +kernel
theorem dX0_makeMove_7 : decode cX0_makeMove 7 = .ok (.aload_n 0, 1) := by decide +kernel
theorem dX0_makeMove_8 : decode cX0_makeMove 8 = .ok (.aload_n 1, 1) := by decide +kernel
theorem dX0_makeMove_9 : decode cX0_makeMove 9 = .ok (.invokevirtual 58, 3) := by decide +kernel
theorem dX0_makeMove_12 : decode cX0_makeMove 12 = .ok (.goto 8, 3) := by decide +kernel
theorem dX0_makeMove_15 : decode cX0_makeMove 15 = .ok (.aload_n 0, 1) := by decide +kernel
theorem dX0_makeMove_16 : decode cX0_makeMove 16 = .ok (.aload_n 1, 1) := by decide +kernel
theorem dX0_makeMove_17 : decode cX0_makeMove 17 = .ok (.invokevirtual 62, 3) := by decide +kernel
theorem dX0_makeMove_20 : decode cX0_makeMove 20 = .ok (.aload_n 0, 1) := by decide +kernel
theorem dX0_makeMove_21 : decode cX0_makeMove 21 = .ok (.getfield 25, 3) := by decide +kernel
theorem dX0_makeMove_24 : decode cX0_makeMove 24 = .ok (.ifCond .ne 8, 3) := by decide +kernel
theorem dX0_makeMove_27 : decode cX0_makeMove 27 = .ok (.aload_n 0, 1) := by decide +kernel
theorem dX0_makeMove_28 : decode cX0_makeMove 28 = .ok (.aload_n 1, 1) := by decide +kernel
theorem dX0_makeMove_29 : decode cX0_makeMove 29 = .ok (.invokevirtual 65, 3) := by decide +kernel
theorem dX0_makeMove_32 : decode cX0_makeMove 32 = .ok (.return_, 1) := by decide +kernel
theorem dX0_takeCommand_0 : decode cX0_takeCommand 0 = .ok (.aload_n 0, 1) := by decide +kernel
theorem dX0_takeCommand_1 : decode cX0_takeCommand 1 = .ok (.getfield 46, 3) := by decide +kernel
theorem dX0_takeCommand_4 : decode cX0_takeCommand 4 = .ok (.istore_n 2, 1) := by decide +kernel
theorem dX0_takeCommand_5 : decode cX0_takeCommand 5 = .ok (.aload_n 0, 1) := by decide +kernel
theorem dX0_takeCommand_6 : decode cX0_takeCommand 6 = .ok (.iload_n 2, 1) := by decide +kernel
theorem dX0_takeCommand_7 : decode cX0_takeCommand 7 = .ok (.bipush 8, 2) := by decide +kernel
theorem dX0_takeCommand_9 : decode cX0_takeCommand 9 = .ok (.iadd, 1) := by decide +kernel
theorem dX0_takeCommand_10 : decode cX0_takeCommand 10 = .ok (.ldc 45, 2) := by decide +kernel
theorem dX0_takeCommand_12 : decode cX0_takeCommand 12 = .ok (.iand, 1) := by decide +kernel
theorem dX0_takeCommand_13 : decode cX0_takeCommand 13 = .ok (.putfield 46, 3) := by decide +kernel
theorem dX0_takeCommand_16 : decode cX0_takeCommand 16 = .ok (.iload_n 2, 1) := by decide +kernel
theorem dX0_takeCommand_17 : decode cX0_takeCommand 17 = .ok (.bipush 8, 2) := by decide +kernel
theorem dX0_takeCommand_19 : decode cX0_takeCommand 19 = .ok (.irem, 1) := by decide +kernel
theorem dX0_takeCommand_20 : decode cX0_takeCommand 20 = .ok (.ifCond .ne 12, 3) := by decide +kernel
theorem dX0_takeCommand_23 : decode cX0_takeCommand 23 = .ok (.iload_n 2, 1) := by decide +kernel
theorem dX0_takeCommand_24 : decode cX0_takeCommand 24 = .ok (.bipush 8, 2) := by decide +kernel
theorem dX0_takeCommand_26 : decode cX0_takeCommand 26 = .ok (.invokestatic 68, 3) := by decide +kernel
theorem dX0_takeCommand_29 : decode cX0_takeCommand 29 = .ok (.ifCond .ne 16, 3) := by decide +kernel
theorem dX0_takeCommand_32 : decode cX0_takeCommand 32 = .ok (.aload_n 0, 1) := by decide +kernel
theorem dX0_takeCommand_33 : decode cX0_takeCommand 33 = .ok (.iconst 0, 1) := by decide +kernel
theorem dX0_takeCommand_34 : decode cX0_takeCommand 34 = .ok (.putfield 72, 3) := by decide +kernel
theorem dX0_takeCommand_37 : decode cX0_takeCommand 37 = .ok (.aload_n 0, 1) := by decide +kernel
theorem dX0_takeCommand_38 : decode cX0_takeCommand 38 = .ok (.iconst 0, 1) := by decide +kernel
theorem dX0_takeCommand_39 : decode cX0_takeCommand 39 = .ok (.bipush 32, 2) := by decide +kernel
theorem dX0_takeCommand_41 : decode cX0_takeCommand 41 = .ok (.invokevirtual 75, 3) := by decide +kernel
theorem dX0_takeCommand_44 : decode cX0_takeCommand 44 = .ok (.return_, 1) := by decide +kernel
theorem dX0_takeCommand_45 : decode cX0_takeCommand 45 = .ok (.aload_n 1, 1) := by decide +kernel
theorem dX0_takeCommand_46 : decode cX0_takeCommand 46 = .ok (.iload_n 2, 1) := by decide +kernel
theorem dX0_takeCommand_47 : decode cX0_takeCommand 47 = .ok (.invokevirtual 79, 3) := by decide +kernel
theorem dX0_takeCommand_50 : decode cX0_takeCommand 50 = .ok (.istore_n 3, 1) := by decide +kernel
theorem dX0_takeCommand_51 : decode cX0_takeCommand 51 = .ok (.aload_n 0, 1) := by decide +kernel
theorem dX0_takeCommand_52 : decode cX0_takeCommand 52 = .ok (.aload_n 1, 1) := by decide +kernel
theorem dX0_takeCommand_53 : decode cX0_takeCommand 53 = .ok (.iload_n 2, 1) := by decide +kernel
theorem dX0_takeCommand_54 : decode cX0_takeCommand 54 = .ok (.invokevirtual 32, 3) := by decide +kernel
theorem dX0_takeCommand_57 : decode cX0_takeCommand 57 = .ok (.ldc 45, 2) := by decide +kernel
theorem dX0_takeCommand_59 : decode cX0_takeCommand 59 = .ok (.iand, 1) := by decide +kernel
theorem dX0_takeCommand_60 : decode cX0_takeCommand 60 = .ok (.putfield 82, 3) := by decide +kernel
theorem dX0_takeCommand_63 : decode cX0_takeCommand 63 = .ok (.aload_n 0, 1) := by decide +kernel
theorem dX0_takeCommand_64 : decode cX0_takeCommand 64 = .ok (.aload_n 1, 1) := by decide +kernel
theorem dX0_takeCommand_65 : decode cX0_takeCommand 65 = .ok (.iload_n 2, 1) := by decide +kernel
theorem dX0_takeCommand_66 : decode cX0_takeCommand 66 = .ok (.iconst 4, 1) := by decide +kernel
theorem dX0_takeCommand_67 : decode cX0_takeCommand 67 = .ok (.iadd, 1) := by decide +kernel
theorem dX0_takeCommand_68 : decode cX0_takeCommand 68 = .ok (.invokevirtual 79, 3) := by decide +kernel
theorem dX0_takeCommand_71 : decode cX0_takeCommand 71 = .ok (.putfield 85, 3) := by decide +kernel
theorem dX0_takeCommand_74 : decode cX0_takeCommand 74 = .ok (.aload_n 0, 1) := by decide +kernel
theorem dX0_takeCommand_75 : decode cX0_takeCommand 75 = .ok (.aload_n 1, 1) := by decide +kernel
theorem dX0_takeCommand_76 : decode cX0_takeCommand 76 = .ok (.iload_n 2, 1) := by decide +kernel
theorem dX0_takeCommand_77 : decode cX0_takeCommand 77 = .ok (.bipush 6, 2) := by decide +kernel
theorem dX0_takeCommand_79 : decode cX0_takeCommand 79 = .ok (.iadd, 1) := by decide +kernel
theorem dX0_takeCommand_80 : decode cX0_takeCommand 80 = .ok (.invokevirtual 88, 3) := by decide +kernel
theorem dX0_takeCommand_83 : decode cX0_takeCommand 83 = .ok (.putfield 72, 3) := by decide +kernel
theorem dX0_takeCommand_86 : decode cX0_takeCommand 86 = .ok (.aload_n 0, 1) := by decide +kernel
theorem dX0_takeCommand_87 : decode cX0_takeCommand 87 = .ok (.iload_n 3, 1) := by decide +kernel
theorem dX0_takeCommand_88 : decode cX0_takeCommand 88 = .ok (.invokevirtual 91, 3) := by decide +kernel
theorem dX0_takeCommand_91 : decode cX0_takeCommand 91 = .ok (.ifCond .ne 13, 3) := by decide +kernel
theorem dX0_takeCommand_94 : decode cX0_takeCommand 94 = .ok (.aload_n 0, 1) := by decide +kernel
theorem dX0_takeCommand_95 : decode cX0_takeCommand 95 = .ok (.iconst 0, 1) := by decide +kernel
theorem dX0_takeCommand_96 : decode cX0_takeCommand 96 = .ok (.bipush 32, 2) := by decide +kernel
theorem dX0_takeCommand_98 : decode cX0_takeCommand 98 = .ok (.invokevirtual 75, 3) := by decide +kernel
theorem dX0_takeCommand_101 : decode cX0_takeCommand 101 = .ok (.goto 34, 3) := by decide +kernel
theorem dX0_takeCommand_104 : decode cX0_takeCommand 104 = .ok (.iload_n 3, 1) := by decide +kernel
theorem dX0_takeCommand_105 : decode cX0_takeCommand 105 = .ok (.bipush 8, 2) := by decide +kernel
theorem dX0_takeCommand_107 : decode cX0_takeCommand 107 = .ok (.if_icmp .ne 19, 3) := by decide +kernel
theorem dX0_takeCommand_110 : decode cX0_takeCommand 110 = .ok (.aload_n 0, 1) := by decide +kernel
theorem dX0_takeCommand_111 : decode cX0_takeCommand 111 = .ok (.aload_n 0, 1) := by decide +kernel
theorem dX0_takeCommand_112 : decode cX0_takeCommand 112 = .ok (.getfield 82, 3) := by decide +kernel
theorem dX0_takeCommand_115 : decode cX0_takeCommand 115 = .ok (.putfield 46, 3) := by decide +kernel
theorem dX0_takeCommand_118 : decode cX0_takeCommand 118 = .ok (.aload_n 0, 1) := by decide +kernel
theorem dX0_takeCommand_119 : decode cX0_takeCommand 119 = .ok (.iconst 1, 1) := by decide +kernel
theorem dX0_takeCommand_120 : decode cX0_takeCommand 120 = .ok (.putfield 55, 3) := by decide +kernel
theorem dX0_takeCommand_123 : decode cX0_takeCommand 123 = .ok (.goto 12, 3) := by decide +kernel
theorem dX0_takeCommand_126 : decode cX0_takeCommand 126 = .ok (.aload_n 0, 1) := by decide +kernel
theorem dX0_takeCommand_127 : decode cX0_takeCommand 127 = .ok (.iconst 0, 1) := by decide +kernel
theorem dX0_takeCommand_128 : decode cX0_takeCommand 128 = .ok (.putfield 55, 3) := by decide +kernel
theorem dX0_takeCommand_131 : decode cX0_takeCommand 131 = .ok (.aload_n 0, 1) := by decide +kernel
theorem dX0_takeCommand_132 : decode cX0_takeCommand 132 = .ok (.invokevirtual 95, 3) := by decide +kernel
theorem dX0_takeCommand_135 : decode cX0_takeCommand 135 = .ok (.return_, 1) := by decide +kernel
theorem dX0_isTakeable_0 : decode cX0_isTakeable 0 = .ok (.iload_n 1, 1) := by decide +kernel
theorem dX0_isTakeable_1 : decode cX0_isTakeable 1 = .ok (.bipush 8, 2) := by decide +kernel
theorem dX0_isTakeable_3 : decode cX0_isTakeable 3 = .ok (.if_icmp .ne 16, 3) := by decide +kernel
theorem dX0_isTakeable_6 : decode cX0_isTakeable 6 = .ok (.aload_n 0, 1) := by decide +kernel
theorem dX0_isTakeable_7 : decode cX0_isTakeable 7 = .ok (.getfield 55, 3) := by decide +kernel
theorem dX0_isTakeable_10 : decode cX0_isTakeable 10 = .ok (.ifCond .ne 7, 3) := by decide +kernel
theorem dX0_isTakeable_13 : decode cX0_isTakeable 13 = .ok (.iconst 1, 1) := by decide +kernel
theorem dX0_isTakeable_14 : decode cX0_isTakeable 14 = .ok (.goto 4, 3) := by decide +kernel
theorem dX0_isTakeable_17 : decode cX0_isTakeable 17 = .ok (.iconst 0, 1) := by decide +kernel
theorem dX0_isTakeable_18 : decode cX0_isTakeable 18 = .ok (.ireturn, 1) := by decide +kernel
theorem dX0_isTakeable_19 : decode cX0_isTakeable 19 = .ok (.aload_n 0, 1) := by decide +kernel
theorem dX0_isTakeable_20 : decode cX0_isTakeable 20 = .ok (.getfield 72, 3) := by decide +kernel
theorem dX0_isTakeable_23 : decode cX0_isTakeable 23 = .ok (.ifCond .eq 30, 3) := by decide +kernel
theorem dX0_isTakeable_26 : decode cX0_isTakeable 26 = .ok (.aload_n 0, 1) := by decide +kernel
theorem dX0_isTakeable_27 : decode cX0_isTakeable 27 = .ok (.getfield 52, 3) := by decide +kernel
theorem dX0_isTakeable_30 : decode cX0_isTakeable 30 = .ok (.ifCond .ne 19, 3) := by decide +kernel
theorem dX0_isTakeable_33 : decode cX0_isTakeable 33 = .ok (.iload_n 1, 1) := by decide +kernel
theorem dX0_isTakeable_34 : decode cX0_isTakeable 34 = .ok (.aload_n 0, 1) := by decide +kernel
theorem dX0_isTakeable_35 : decode cX0_isTakeable 35 = .ok (.invokevirtual 98, 3) := by decide +kernel
theorem dX0_isTakeable_38 : decode cX0_isTakeable 38 = .ok (.ifCond .eq 7, 3) := by decide +kernel
theorem dX0_isTakeable_41 : decode cX0_isTakeable 41 = .ok (.iconst 2, 1) := by decide +kernel
theorem dX0_isTakeable_42 : decode cX0_isTakeable 42 = .ok (.goto 4, 3) := by decide +kernel
theorem dX0_isTakeable_45 : decode cX0_isTakeable 45 = .ok (.iconst 1, 1) := by decide +kernel
theorem dX0_isTakeable_46 : decode cX0_isTakeable 46 = .ok (.if_icmp .ne 7, 3) := by decide +kernel
theorem dX0_isTakeable_49 : decode cX0_isTakeable 49 = .ok (.iconst 1, 1) := by decide +kernel
theorem dX0_isTakeable_50 : decode cX0_isTakeable 50 = .ok (.goto 4, 3) := by decide +kernel
theorem dX0_isTakeable_53 : decode cX0_isTakeable 53 = .ok (.iconst 0, 1) := by decide +kernel
theorem dX0_isTakeable_54 : decode cX0_isTakeable 54 = .ok (.ireturn, 1) := by decide +kernel
theorem dX0_isReading_0 : decode cX0_isReading 0 = .ok (.aload_n 0, 1) := by decide +kernel
theorem dX0_isReading_1 : decode cX0_isReading 1 = .ok (.getfield 38, 3) := by decide +kernel
theorem dX0_isReading_4 : decode cX0_isReading 4 = .ok (.iconst 1, 1) := by decide +kernel
theorem dX0_isReading_5 : decode cX0_isReading 5 = .ok (.if_icmp .ne 7, 3) := by decide +kernel
theorem dX0_isReading_8 : decode cX0_isReading 8 = .ok (.iconst 1, 1) := by decide +kernel
theorem dX0_isReading_9 : decode cX0_isReading 9 = .ok (.goto 4, 3) := by decide +kernel
theorem dX0_isReading_12 : decode cX0_isReading 12 = .ok (.iconst 0, 1) := by decide +kernel
theorem dX0_isReading_13 : decode cX0_isReading 13 = .ok (.ireturn, 1) := by decide +kernel
theorem dX0_beginCommand_0 : decode cX0_beginCommand 0 = .ok (.aload_n 0, 1) := by decide +kernel
theorem dX0_beginCommand_1 : decode cX0_beginCommand 1 = .ok (.iconst 1, 1) := by decide +kernel
theorem dX0_beginCommand_2 : decode cX0_beginCommand 2 = .ok (.putfield 49, 3) := by decide +kernel
theorem dX0_beginCommand_5 : decode cX0_beginCommand 5 = .ok (.aload_n 0, 1) := by decide +kernel
theorem dX0_beginCommand_6 : decode cX0_beginCommand 6 = .ok (.getfield 52, 3) := by decide +kernel
theorem dX0_beginCommand_9 : decode cX0_beginCommand 9 = .ok (.ifCond .eq 4, 3) := by decide +kernel
theorem dX0_beginCommand_12 : decode cX0_beginCommand 12 = .ok (.return_, 1) := by decide +kernel
theorem dX0_beginCommand_13 : decode cX0_beginCommand 13 = .ok (.aload_n 0, 1) := by decide +kernel
theorem dX0_beginCommand_14 : decode cX0_beginCommand 14 = .ok (.invokevirtual 98, 3) := by decide +kernel
theorem dX0_beginCommand_17 : decode cX0_beginCommand 17 = .ok (.ifCond .ne 13, 3) := by decide +kernel
theorem dX0_beginCommand_20 : decode cX0_beginCommand 20 = .ok (.aload_n 0, 1) := by decide +kernel
theorem dX0_beginCommand_21 : decode cX0_beginCommand 21 = .ok (.getfield 21, 3) := by decide +kernel
theorem dX0_beginCommand_24 : decode cX0_beginCommand 24 = .ok (.invokevirtual 102, 3) := by decide +kernel
theorem dX0_beginCommand_27 : decode cX0_beginCommand 27 = .ok (.goto 37, 3) := by decide +kernel
theorem dX0_beginCommand_30 : decode cX0_beginCommand 30 = .ok (.aload_n 0, 1) := by decide +kernel
theorem dX0_beginCommand_31 : decode cX0_beginCommand 31 = .ok (.getfield 12, 3) := by decide +kernel
theorem dX0_beginCommand_34 : decode cX0_beginCommand 34 = .ok (.invokevirtual 105, 3) := by decide +kernel
theorem dX0_beginCommand_37 : decode cX0_beginCommand 37 = .ok (.ifCond .ne 13, 3) := by decide +kernel
theorem dX0_beginCommand_40 : decode cX0_beginCommand 40 = .ok (.aload_n 0, 1) := by decide +kernel
theorem dX0_beginCommand_41 : decode cX0_beginCommand 41 = .ok (.bipush 13, 2) := by decide +kernel
theorem dX0_beginCommand_43 : decode cX0_beginCommand 43 = .ok (.iconst 0, 1) := by decide +kernel
theorem dX0_beginCommand_44 : decode cX0_beginCommand 44 = .ok (.invokevirtual 75, 3) := by decide +kernel
theorem dX0_beginCommand_47 : decode cX0_beginCommand 47 = .ok (.goto 17, 3) := by decide +kernel
theorem dX0_beginCommand_50 : decode cX0_beginCommand 50 = .ok (.aload_n 0, 1) := by decide +kernel
theorem dX0_beginCommand_51 : decode cX0_beginCommand 51 = .ok (.getfield 12, 3) := by decide +kernel
theorem dX0_beginCommand_54 : decode cX0_beginCommand 54 = .ok (.invokevirtual 108, 3) := by decide +kernel
theorem dX0_beginCommand_57 : decode cX0_beginCommand 57 = .ok (.ifCond .eq 7, 3) := by decide +kernel
theorem dX0_beginCommand_60 : decode cX0_beginCommand 60 = .ok (.aload_n 0, 1) := by decide +kernel
theorem dX0_beginCommand_61 : decode cX0_beginCommand 61 = .ok (.invokevirtual 111, 3) := by decide +kernel
theorem dX0_beginCommand_64 : decode cX0_beginCommand 64 = .ok (.return_, 1) := by decide +kernel
theorem dX0_moveByte_0 : decode cX0_moveByte 0 = .ok (.aload_n 0, 1) := by decide +kernel
theorem dX0_moveByte_1 : decode cX0_moveByte 1 = .ok (.invokevirtual 98, 3) := by decide +kernel
theorem dX0_moveByte_4 : decode cX0_moveByte 4 = .ok (.ifCond .eq 16, 3) := by decide +kernel
theorem dX0_moveByte_7 : decode cX0_moveByte 7 = .ok (.aload_n 0, 1) := by decide +kernel
theorem dX0_moveByte_8 : decode cX0_moveByte 8 = .ok (.bipush 16, 2) := by decide +kernel
theorem dX0_moveByte_10 : decode cX0_moveByte 10 = .ok (.invokevirtual 114, 3) := by decide +kernel
theorem dX0_moveByte_13 : decode cX0_moveByte 13 = .ok (.ifCond .ne 7, 3) := by decide +kernel
theorem dX0_moveByte_16 : decode cX0_moveByte 16 = .ok (.iconst 1, 1) := by decide +kernel
theorem dX0_moveByte_17 : decode cX0_moveByte 17 = .ok (.goto 4, 3) := by decide +kernel
theorem dX0_moveByte_20 : decode cX0_moveByte 20 = .ok (.iconst 0, 1) := by decide +kernel
theorem dX0_moveByte_21 : decode cX0_moveByte 21 = .ok (.istore_n 2, 1) := by decide +kernel
theorem dX0_moveByte_22 : decode cX0_moveByte 22 = .ok (.aload_n 0, 1) := by decide +kernel
theorem dX0_moveByte_23 : decode cX0_moveByte 23 = .ok (.getfield 82, 3) := by decide +kernel
theorem dX0_moveByte_26 : decode cX0_moveByte 26 = .ok (.iconst 1, 1) := by decide +kernel
theorem dX0_moveByte_27 : decode cX0_moveByte 27 = .ok (.invokestatic 68, 3) := by decide +kernel
theorem dX0_moveByte_30 : decode cX0_moveByte 30 = .ok (.ifCond .ne 11, 3) := by decide +kernel
theorem dX0_moveByte_33 : decode cX0_moveByte 33 = .ok (.aload_n 0, 1) := by decide +kernel
theorem dX0_moveByte_34 : decode cX0_moveByte 34 = .ok (.iconst 0, 1) := by decide +kernel
theorem dX0_moveByte_35 : decode cX0_moveByte 35 = .ok (.bipush 32, 2) := by decide +kernel
theorem dX0_moveByte_37 : decode cX0_moveByte 37 = .ok (.invokevirtual 75, 3) := by decide +kernel
theorem dX0_moveByte_40 : decode cX0_moveByte 40 = .ok (.return_, 1) := by decide +kernel
theorem dX0_moveByte_41 : decode cX0_moveByte 41 = .ok (.iload_n 2, 1) := by decide +kernel
theorem dX0_moveByte_42 : decode cX0_moveByte 42 = .ok (.ifCond .eq 27, 3) := by decide +kernel
theorem dX0_moveByte_45 : decode cX0_moveByte 45 = .ok (.aload_n 1, 1) := by decide +kernel
theorem dX0_moveByte_46 : decode cX0_moveByte 46 = .ok (.aload_n 0, 1) := by decide +kernel
theorem dX0_moveByte_47 : decode cX0_moveByte 47 = .ok (.getfield 82, 3) := by decide +kernel
theorem dX0_moveByte_50 : decode cX0_moveByte 50 = .ok (.iconst 1, 1) := by decide +kernel
theorem dX0_moveByte_51 : decode cX0_moveByte 51 = .ok (.aload_n 0, 1) := by decide +kernel
theorem dX0_moveByte_52 : decode cX0_moveByte 52 = .ok (.getfield 42, 3) := by decide +kernel
theorem dX0_moveByte_55 : decode cX0_moveByte 55 = .ok (.invokevirtual 117, 3) := by decide +kernel
theorem dX0_moveByte_58 : decode cX0_moveByte 58 = .ok (.ifCond .ne 11, 3) := by decide +kernel
theorem dX0_moveByte_61 : decode cX0_moveByte 61 = .ok (.aload_n 0, 1) := by decide +kernel
theorem dX0_moveByte_62 : decode cX0_moveByte 62 = .ok (.iconst 0, 1) := by decide +kernel
theorem dX0_moveByte_63 : decode cX0_moveByte 63 = .ok (.bipush 16, 2) := by decide +kernel
theorem dX0_moveByte_65 : decode cX0_moveByte 65 = .ok (.invokevirtual 75, 3) := by decide +kernel
theorem dX0_moveByte_68 : decode cX0_moveByte 68 = .ok (.return_, 1) := by decide +kernel
theorem dX0_moveByte_69 : decode cX0_moveByte 69 = .ok (.iload_n 2, 1) := by decide +kernel
theorem dX0_moveByte_70 : decode cX0_moveByte 70 = .ok (.ifCond .eq 21, 3) := by decide +kernel
theorem dX0_moveByte_73 : decode cX0_moveByte 73 = .ok (.aload_n 1, 1) := by decide +kernel
theorem dX0_moveByte_74 : decode cX0_moveByte 74 = .ok (.aload_n 0, 1) := by decide +kernel
theorem dX0_moveByte_75 : decode cX0_moveByte 75 = .ok (.getfield 82, 3) := by decide +kernel
theorem dX0_moveByte_78 : decode cX0_moveByte 78 = .ok (.aload_n 0, 1) := by decide +kernel
theorem dX0_moveByte_79 : decode cX0_moveByte 79 = .ok (.getfield 12, 3) := by decide +kernel
theorem dX0_moveByte_82 : decode cX0_moveByte 82 = .ok (.invokevirtual 121, 3) := by decide +kernel
theorem dX0_moveByte_85 : decode cX0_moveByte 85 = .ok (.invokevirtual 125, 3) := by decide +kernel
theorem dX0_moveByte_88 : decode cX0_moveByte 88 = .ok (.goto 35, 3) := by decide +kernel
theorem dX0_moveByte_91 : decode cX0_moveByte 91 = .ok (.aload_n 0, 1) := by decide +kernel
theorem dX0_moveByte_92 : decode cX0_moveByte 92 = .ok (.invokevirtual 98, 3) := by decide +kernel
theorem dX0_moveByte_95 : decode cX0_moveByte 95 = .ok (.ifCond .eq 13, 3) := by decide +kernel
theorem dX0_moveByte_98 : decode cX0_moveByte 98 = .ok (.aload_n 0, 1) := by decide +kernel
theorem dX0_moveByte_99 : decode cX0_moveByte 99 = .ok (.getfield 12, 3) := by decide +kernel
theorem dX0_moveByte_102 : decode cX0_moveByte 102 = .ok (.invokevirtual 128, 3) := by decide +kernel
theorem dX0_moveByte_105 : decode cX0_moveByte 105 = .ok (.goto 18, 3) := by decide +kernel
theorem dX0_moveByte_108 : decode cX0_moveByte 108 = .ok (.aload_n 0, 1) := by decide +kernel
theorem dX0_moveByte_109 : decode cX0_moveByte 109 = .ok (.getfield 21, 3) := by decide +kernel
theorem dX0_moveByte_112 : decode cX0_moveByte 112 = .ok (.aload_n 1, 1) := by decide +kernel
theorem dX0_moveByte_113 : decode cX0_moveByte 113 = .ok (.aload_n 0, 1) := by decide +kernel
theorem dX0_moveByte_114 : decode cX0_moveByte 114 = .ok (.getfield 82, 3) := by decide +kernel
theorem dX0_moveByte_117 : decode cX0_moveByte 117 = .ok (.invokevirtual 79, 3) := by decide +kernel
theorem dX0_moveByte_120 : decode cX0_moveByte 120 = .ok (.invokevirtual 131, 3) := by decide +kernel
theorem dX0_moveByte_123 : decode cX0_moveByte 123 = .ok (.aload_n 0, 1) := by decide +kernel
theorem dX0_moveByte_124 : decode cX0_moveByte 124 = .ok (.dup, 1) := by decide +kernel
theorem dX0_moveByte_125 : decode cX0_moveByte 125 = .ok (.getfield 82, 3) := by decide +kernel
theorem dX0_moveByte_128 : decode cX0_moveByte 128 = .ok (.iconst 1, 1) := by decide +kernel
theorem dX0_moveByte_129 : decode cX0_moveByte 129 = .ok (.iadd, 1) := by decide +kernel
theorem dX0_moveByte_130 : decode cX0_moveByte 130 = .ok (.putfield 82, 3) := by decide +kernel
theorem dX0_moveByte_133 : decode cX0_moveByte 133 = .ok (.aload_n 0, 1) := by decide +kernel
theorem dX0_moveByte_134 : decode cX0_moveByte 134 = .ok (.dup, 1) := by decide +kernel
theorem dX0_moveByte_135 : decode cX0_moveByte 135 = .ok (.getfield 72, 3) := by decide +kernel
theorem dX0_moveByte_138 : decode cX0_moveByte 138 = .ok (.iconst 1, 1) := by decide +kernel
theorem dX0_moveByte_139 : decode cX0_moveByte 139 = .ok (.isub, 1) := by decide +kernel
theorem dX0_moveByte_140 : decode cX0_moveByte 140 = .ok (.putfield 72, 3) := by decide +kernel
theorem dX0_moveByte_143 : decode cX0_moveByte 143 = .ok (.aload_n 0, 1) := by decide +kernel
theorem dX0_moveByte_144 : decode cX0_moveByte 144 = .ok (.invokevirtual 135, 3) := by decide +kernel
theorem dX0_moveByte_147 : decode cX0_moveByte 147 = .ok (.return_, 1) := by decide +kernel
theorem dX0_goOn_0 : decode cX0_goOn 0 = .ok (.aload_n 0, 1) := by decide +kernel
theorem dX0_goOn_1 : decode cX0_goOn 1 = .ok (.invokevirtual 98, 3) := by decide +kernel
theorem dX0_goOn_4 : decode cX0_goOn 4 = .ok (.ifCond .eq 20, 3) := by decide +kernel
theorem dX0_goOn_7 : decode cX0_goOn 7 = .ok (.aload_n 0, 1) := by decide +kernel
theorem dX0_goOn_8 : decode cX0_goOn 8 = .ok (.getfield 12, 3) := by decide +kernel
theorem dX0_goOn_11 : decode cX0_goOn 11 = .ok (.invokevirtual 108, 3) := by decide +kernel
theorem dX0_goOn_14 : decode cX0_goOn 14 = .ok (.ifCond .eq 10, 3) := by decide +kernel
theorem dX0_goOn_17 : decode cX0_goOn 17 = .ok (.aload_n 0, 1) := by decide +kernel
theorem dX0_goOn_18 : decode cX0_goOn 18 = .ok (.invokevirtual 111, 3) := by decide +kernel
theorem dX0_goOn_21 : decode cX0_goOn 21 = .ok (.goto 44, 3) := by decide +kernel
theorem dX0_goOn_24 : decode cX0_goOn 24 = .ok (.aload_n 0, 1) := by decide +kernel
theorem dX0_goOn_25 : decode cX0_goOn 25 = .ok (.getfield 72, 3) := by decide +kernel
theorem dX0_goOn_28 : decode cX0_goOn 28 = .ok (.ifCond .ne 26, 3) := by decide +kernel
theorem dX0_goOn_31 : decode cX0_goOn 31 = .ok (.aload_n 0, 1) := by decide +kernel
theorem dX0_goOn_32 : decode cX0_goOn 32 = .ok (.sipush 128, 3) := by decide +kernel
theorem dX0_goOn_35 : decode cX0_goOn 35 = .ok (.invokevirtual 114, 3) := by decide +kernel
theorem dX0_goOn_38 : decode cX0_goOn 38 = .ok (.ifCond .eq 16, 3) := by decide +kernel
theorem dX0_goOn_41 : decode cX0_goOn 41 = .ok (.aload_n 0, 1) := by decide +kernel
theorem dX0_goOn_42 : decode cX0_goOn 42 = .ok (.iconst 0, 1) := by decide +kernel
theorem dX0_goOn_43 : decode cX0_goOn 43 = .ok (.putfield 49, 3) := by decide +kernel
theorem dX0_goOn_46 : decode cX0_goOn 46 = .ok (.aload_n 0, 1) := by decide +kernel
theorem dX0_goOn_47 : decode cX0_goOn 47 = .ok (.iconst 1, 1) := by decide +kernel
theorem dX0_goOn_48 : decode cX0_goOn 48 = .ok (.putfield 52, 3) := by decide +kernel
theorem dX0_goOn_51 : decode cX0_goOn 51 = .ok (.goto 14, 3) := by decide +kernel
theorem dX0_goOn_54 : decode cX0_goOn 54 = .ok (.aload_n 0, 1) := by decide +kernel
theorem dX0_goOn_55 : decode cX0_goOn 55 = .ok (.getfield 72, 3) := by decide +kernel
theorem dX0_goOn_58 : decode cX0_goOn 58 = .ok (.ifCond .ne 7, 3) := by decide +kernel
theorem dX0_goOn_61 : decode cX0_goOn 61 = .ok (.aload_n 0, 1) := by decide +kernel
theorem dX0_goOn_62 : decode cX0_goOn 62 = .ok (.invokevirtual 111, 3) := by decide +kernel
theorem dX0_goOn_65 : decode cX0_goOn 65 = .ok (.return_, 1) := by decide +kernel
theorem dX0_flagged_0 : decode cX0_flagged 0 = .ok (.aload_n 0, 1) := by decide +kernel
theorem dX0_flagged_1 : decode cX0_flagged 1 = .ok (.getfield 85, 3) := by decide +kernel
theorem dX0_flagged_4 : decode cX0_flagged 4 = .ok (.iload_n 1, 1) := by decide +kernel
theorem dX0_flagged_5 : decode cX0_flagged 5 = .ok (.iand, 1) := by decide +kernel
theorem dX0_flagged_6 : decode cX0_flagged 6 = .ok (.ifCond .eq 7, 3) := by decide +kernel
theorem dX0_flagged_9 : decode cX0_flagged 9 = .ok (.iconst 1, 1) := by decide +kernel
theorem dX0_flagged_10 : decode cX0_flagged 10 = .ok (.goto 4, 3) := by decide +kernel
theorem dX0_flagged_13 : decode cX0_flagged 13 = .ok (.iconst 0, 1) := by decide +kernel
theorem dX0_flagged_14 : decode cX0_flagged 14 = .ok (.ireturn, 1) := by decide +kernel
theorem dX0_finishCommand_0 : decode cX0_finishCommand 0 = .ok (.aload_n 0, 1) := by decide +kernel
theorem dX0_finishCommand_1 : decode cX0_finishCommand 1 = .ok (.iconst 0, 1) := by decide +kernel
theorem dX0_finishCommand_2 : decode cX0_finishCommand 2 = .ok (.putfield 49, 3) := by decide +kernel
theorem dX0_finishCommand_5 : decode cX0_finishCommand 5 = .ok (.aload_n 0, 1) := by decide +kernel
theorem dX0_finishCommand_6 : decode cX0_finishCommand 6 = .ok (.iconst 0, 1) := by decide +kernel
theorem dX0_finishCommand_7 : decode cX0_finishCommand 7 = .ok (.putfield 52, 3) := by decide +kernel
theorem dX0_finishCommand_10 : decode cX0_finishCommand 10 = .ok (.aload_n 0, 1) := by decide +kernel
theorem dX0_finishCommand_11 : decode cX0_finishCommand 11 = .ok (.invokevirtual 98, 3) := by decide +kernel
theorem dX0_finishCommand_14 : decode cX0_finishCommand 14 = .ok (.ifCond .eq 24, 3) := by decide +kernel
theorem dX0_finishCommand_17 : decode cX0_finishCommand 17 = .ok (.aload_n 0, 1) := by decide +kernel
theorem dX0_finishCommand_18 : decode cX0_finishCommand 18 = .ok (.getfield 72, 3) := by decide +kernel
theorem dX0_finishCommand_21 : decode cX0_finishCommand 21 = .ok (.ifCond .ne 13, 3) := by decide +kernel
theorem dX0_finishCommand_24 : decode cX0_finishCommand 24 = .ok (.aload_n 0, 1) := by decide +kernel
theorem dX0_finishCommand_25 : decode cX0_finishCommand 25 = .ok (.getfield 12, 3) := by decide +kernel
theorem dX0_finishCommand_28 : decode cX0_finishCommand 28 = .ok (.invokevirtual 108, 3) := by decide +kernel
theorem dX0_finishCommand_31 : decode cX0_finishCommand 31 = .ok (.ifCond .ne 7, 3) := by decide +kernel
theorem dX0_finishCommand_34 : decode cX0_finishCommand 34 = .ok (.iconst 1, 1) := by decide +kernel
theorem dX0_finishCommand_35 : decode cX0_finishCommand 35 = .ok (.goto 4, 3) := by decide +kernel
theorem dX0_finishCommand_38 : decode cX0_finishCommand 38 = .ok (.iconst 0, 1) := by decide +kernel
theorem dX0_finishCommand_39 : decode cX0_finishCommand 39 = .ok (.istore_n 1, 1) := by decide +kernel
theorem dX0_finishCommand_40 : decode cX0_finishCommand 40 = .ok (.iload_n 1, 1) := by decide +kernel
theorem dX0_finishCommand_41 : decode cX0_finishCommand 41 = .ok (.ifCond .eq 23, 3) := by decide +kernel
theorem dX0_finishCommand_44 : decode cX0_finishCommand 44 = .ok (.aload_n 0, 1) := by decide +kernel
theorem dX0_finishCommand_45 : decode cX0_finishCommand 45 = .ok (.bipush 32, 2) := by decide +kernel
theorem dX0_finishCommand_47 : decode cX0_finishCommand 47 = .ok (.invokevirtual 114, 3) := by decide +kernel
theorem dX0_finishCommand_50 : decode cX0_finishCommand 50 = .ok (.ifCond .ne 14, 3) := by decide +kernel
theorem dX0_finishCommand_53 : decode cX0_finishCommand 53 = .ok (.aload_n 0, 1) := by decide +kernel
theorem dX0_finishCommand_54 : decode cX0_finishCommand 54 = .ok (.bipush 12, 2) := by decide +kernel
theorem dX0_finishCommand_56 : decode cX0_finishCommand 56 = .ok (.bipush 64, 2) := by decide +kernel
theorem dX0_finishCommand_58 : decode cX0_finishCommand 58 = .ok (.invokevirtual 75, 3) := by decide +kernel
theorem dX0_finishCommand_61 : decode cX0_finishCommand 61 = .ok (.goto 19, 3) := by decide +kernel
theorem dX0_finishCommand_64 : decode cX0_finishCommand 64 = .ok (.aload_n 0, 1) := by decide +kernel
theorem dX0_finishCommand_65 : decode cX0_finishCommand 65 = .ok (.bipush 64, 2) := by decide +kernel
theorem dX0_finishCommand_67 : decode cX0_finishCommand 67 = .ok (.invokevirtual 114, 3) := by decide +kernel
theorem dX0_finishCommand_70 : decode cX0_finishCommand 70 = .ok (.ifCond .ne 10, 3) := by decide +kernel
theorem dX0_finishCommand_73 : decode cX0_finishCommand 73 = .ok (.aload_n 0, 1) := by decide +kernel
theorem dX0_finishCommand_74 : decode cX0_finishCommand 74 = .ok (.bipush 12, 2) := by decide +kernel
theorem dX0_finishCommand_76 : decode cX0_finishCommand 76 = .ok (.iconst 0, 1) := by decide +kernel
theorem dX0_finishCommand_77 : decode cX0_finishCommand 77 = .ok (.invokevirtual 75, 3) := by decide +kernel
theorem dX0_finishCommand_80 : decode cX0_finishCommand 80 = .ok (.return_, 1) := by decide +kernel
theorem dX0_end_0 : decode cX0_end 0 = .ok (.aload_n 0, 1) := by decide +kernel
theorem dX0_end_1 : decode cX0_end 1 = .ok (.iload_n 1, 1) := by decide +kernel
theorem dX0_end_2 : decode cX0_end 2 = .ok (.putfield 138, 3) := by decide +kernel
theorem dX0_end_5 : decode cX0_end 5 = .ok (.aload_n 0, 1) := by decide +kernel
theorem dX0_end_6 : decode cX0_end 6 = .ok (.iload_n 2, 1) := by decide +kernel
theorem dX0_end_7 : decode cX0_end 7 = .ok (.putfield 141, 3) := by decide +kernel
theorem dX0_end_10 : decode cX0_end 10 = .ok (.aload_n 0, 1) := by decide +kernel
theorem dX0_end_11 : decode cX0_end 11 = .ok (.iconst 0, 1) := by decide +kernel
theorem dX0_end_12 : decode cX0_end 12 = .ok (.putfield 25, 3) := by decide +kernel
theorem dX0_end_15 : decode cX0_end 15 = .ok (.aload_n 0, 1) := by decide +kernel
theorem dX0_end_16 : decode cX0_end 16 = .ok (.iconst 1, 1) := by decide +kernel
theorem dX0_end_17 : decode cX0_end 17 = .ok (.putfield 29, 3) := by decide +kernel
theorem dX0_end_20 : decode cX0_end 20 = .ok (.return_, 1) := by decide +kernel
theorem dX0_putReport_0 : decode cX0_putReport 0 = .ok (.aload_n 1, 1) := by decide +kernel
theorem dX0_putReport_1 : decode cX0_putReport 1 = .ok (.bipush 64, 2) := by decide +kernel
theorem dX0_putReport_3 : decode cX0_putReport 3 = .ok (.aload_n 0, 1) := by decide +kernel
theorem dX0_putReport_4 : decode cX0_putReport 4 = .ok (.getfield 42, 3) := by decide +kernel
theorem dX0_putReport_7 : decode cX0_putReport 7 = .ok (.bipush 28, 2) := by decide +kernel
theorem dX0_putReport_9 : decode cX0_putReport 9 = .ok (.ishl, 1) := by decide +kernel
theorem dX0_putReport_10 : decode cX0_putReport 10 = .ok (.aload_n 0, 1) := by decide +kernel
theorem dX0_putReport_11 : decode cX0_putReport 11 = .ok (.getfield 46, 3) := by decide +kernel
theorem dX0_putReport_14 : decode cX0_putReport 14 = .ok (.ior, 1) := by decide +kernel
theorem dX0_putReport_15 : decode cX0_putReport 15 = .ok (.invokevirtual 144, 3) := by decide +kernel
theorem dX0_putReport_18 : decode cX0_putReport 18 = .ok (.aload_n 1, 1) := by decide +kernel
theorem dX0_putReport_19 : decode cX0_putReport 19 = .ok (.bipush 68, 2) := by decide +kernel
theorem dX0_putReport_21 : decode cX0_putReport 21 = .ok (.aload_n 0, 1) := by decide +kernel
theorem dX0_putReport_22 : decode cX0_putReport 22 = .ok (.getfield 138, 3) := by decide +kernel
theorem dX0_putReport_25 : decode cX0_putReport 25 = .ok (.invokevirtual 125, 3) := by decide +kernel
theorem dX0_putReport_28 : decode cX0_putReport 28 = .ok (.aload_n 1, 1) := by decide +kernel
theorem dX0_putReport_29 : decode cX0_putReport 29 = .ok (.bipush 69, 2) := by decide +kernel
theorem dX0_putReport_31 : decode cX0_putReport 31 = .ok (.aload_n 0, 1) := by decide +kernel
theorem dX0_putReport_32 : decode cX0_putReport 32 = .ok (.getfield 141, 3) := by decide +kernel
theorem dX0_putReport_35 : decode cX0_putReport 35 = .ok (.invokevirtual 125, 3) := by decide +kernel
theorem dX0_putReport_38 : decode cX0_putReport 38 = .ok (.aload_n 1, 1) := by decide +kernel
theorem dX0_putReport_39 : decode cX0_putReport 39 = .ok (.bipush 70, 2) := by decide +kernel
theorem dX0_putReport_41 : decode cX0_putReport 41 = .ok (.aload_n 0, 1) := by decide +kernel
theorem dX0_putReport_42 : decode cX0_putReport 42 = .ok (.getfield 72, 3) := by decide +kernel
theorem dX0_putReport_45 : decode cX0_putReport 45 = .ok (.invokevirtual 147, 3) := by decide +kernel
theorem dX0_putReport_48 : decode cX0_putReport 48 = .ok (.return_, 1) := by decide +kernel
theorem dX1_init_0 : decode cX1_init 0 = .ok (.aload_n 0, 1) := by decide +kernel
theorem dX1_init_1 : decode cX1_init 1 = .ok (.invokespecial 1, 3) := by decide +kernel
theorem dX1_init_4 : decode cX1_init 4 = .ok (.aload_n 0, 1) := by decide +kernel
theorem dX1_init_5 : decode cX1_init 5 = .ok (.bipush 32, 2) := by decide +kernel
theorem dX1_init_7 : decode cX1_init 7 = .ok (.newarray .int, 2) := by decide +kernel
theorem dX1_init_9 : decode cX1_init 9 = .ok (.putfield 9, 3) := by decide +kernel
theorem dX1_init_12 : decode cX1_init 12 = .ok (.return_, 1) := by decide +kernel
theorem dX1_becomeInt_0 : decode cX1_becomeInt 0 = .ok (.aload_n 0, 1) := by decide +kernel
theorem dX1_becomeInt_1 : decode cX1_becomeInt 1 = .ok (.iload_n 1, 1) := by decide +kernel
theorem dX1_becomeInt_2 : decode cX1_becomeInt 2 = .ok (.ifCond .ge 7, 3) := by decide +kernel
theorem dX1_becomeInt_5 : decode cX1_becomeInt 5 = .ok (.iconst 1, 1) := by decide +kernel
theorem dX1_becomeInt_6 : decode cX1_becomeInt 6 = .ok (.goto 4, 3) := by decide +kernel
theorem dX1_becomeInt_9 : decode cX1_becomeInt 9 = .ok (.iconst 0, 1) := by decide +kernel
theorem dX1_becomeInt_10 : decode cX1_becomeInt 10 = .ok (.putfield 13, 3) := by decide +kernel
theorem dX1_becomeInt_13 : decode cX1_becomeInt 13 = .ok (.iload_n 1, 1) := by decide +kernel
theorem dX1_becomeInt_14 : decode cX1_becomeInt 14 = .ok (.i2l, 1) := by decide +kernel
theorem dX1_becomeInt_15 : decode cX1_becomeInt 15 = .ok (.invokestatic 17, 3) := by decide +kernel
theorem dX1_becomeInt_18 : decode cX1_becomeInt 18 = .ok (.lstore_n 2, 1) := by decide +kernel
theorem dX1_becomeInt_19 : decode cX1_becomeInt 19 = .ok (.iconst 0, 1) := by decide +kernel
theorem dX1_becomeInt_20 : decode cX1_becomeInt 20 = .ok (.istore 4, 2) := by decide +kernel
theorem dX1_becomeInt_22 : decode cX1_becomeInt 22 = .ok (.iload 4, 2) := by decide +kernel
theorem dX1_becomeInt_24 : decode cX1_becomeInt 24 = .ok (.bipush 32, 2) := by decide +kernel
theorem dX1_becomeInt_26 : decode cX1_becomeInt 26 = .ok (.if_icmp .ge 28, 3) := by decide +kernel
theorem dX1_becomeInt_29 : decode cX1_becomeInt 29 = .ok (.aload_n 0, 1) := by decide +kernel
theorem dX1_becomeInt_30 : decode cX1_becomeInt 30 = .ok (.getfield 9, 3) := by decide +kernel
theorem dX1_becomeInt_33 : decode cX1_becomeInt 33 = .ok (.iload 4, 2) := by decide +kernel
theorem dX1_becomeInt_35 : decode cX1_becomeInt 35 = .ok (.lload_n 2, 1) := by decide +kernel
theorem dX1_becomeInt_36 : decode cX1_becomeInt 36 = .ok (.ldc2_w 23, 3) := by decide +kernel
theorem dX1_becomeInt_39 : decode cX1_becomeInt 39 = .ok (.lrem, 1) := by decide +kernel
theorem dX1_becomeInt_40 : decode cX1_becomeInt 40 = .ok (.l2i, 1) := by decide +kernel
theorem dX1_becomeInt_41 : decode cX1_becomeInt 41 = .ok (.iastore, 1) := by decide +kernel
theorem dX1_becomeInt_42 : decode cX1_becomeInt 42 = .ok (.lload_n 2, 1) := by decide +kernel
theorem dX1_becomeInt_43 : decode cX1_becomeInt 43 = .ok (.ldc2_w 23, 3) := by decide +kernel
theorem dX1_becomeInt_46 : decode cX1_becomeInt 46 = .ok (.ldiv, 1) := by decide +kernel
theorem dX1_becomeInt_47 : decode cX1_becomeInt 47 = .ok (.lstore_n 2, 1) := by decide +kernel
theorem dX1_becomeInt_48 : decode cX1_becomeInt 48 = .ok (.iinc 4 1, 3) := by decide +kernel
theorem dX1_becomeInt_51 : decode cX1_becomeInt 51 = .ok (.goto (-29), 3) := by decide +kernel
theorem dX1_becomeInt_54 : decode cX1_becomeInt 54 = .ok (.return_, 1) := by decide +kernel
theorem dX1_takeFrom_0 : decode cX1_takeFrom 0 = .ok (.iconst 2, 1) := by decide +kernel
theorem dX1_takeFrom_1 : decode cX1_takeFrom 1 = .ok (.iload_n 3, 1) := by decide +kernel
theorem dX1_takeFrom_2 : decode cX1_takeFrom 2 = .ok (.imul, 1) := by decide +kernel
theorem dX1_takeFrom_3 : decode cX1_takeFrom 3 = .ok (.iconst 1, 1) := by decide +kernel
theorem dX1_takeFrom_4 : decode cX1_takeFrom 4 = .ok (.isub, 1) := by decide +kernel
theorem dX1_takeFrom_5 : decode cX1_takeFrom 5 = .ok (.istore 4, 2) := by decide +kernel
theorem dX1_takeFrom_7 : decode cX1_takeFrom 7 = .ok (.iconst 0, 1) := by decide +kernel
theorem dX1_takeFrom_8 : decode cX1_takeFrom 8 = .ok (.istore 5, 2) := by decide +kernel
theorem dX1_takeFrom_10 : decode cX1_takeFrom 10 = .ok (.iload 5, 2) := by decide +kernel
theorem dX1_takeFrom_12 : decode cX1_takeFrom 12 = .ok (.bipush 32, 2) := by decide +kernel
theorem dX1_takeFrom_14 : decode cX1_takeFrom 14 = .ok (.if_icmp .ge 54, 3) := by decide +kernel
theorem dX1_takeFrom_17 : decode cX1_takeFrom 17 = .ok (.aload_n 0, 1) := by decide +kernel
theorem dX1_takeFrom_18 : decode cX1_takeFrom 18 = .ok (.getfield 9, 3) := by decide +kernel
theorem dX1_takeFrom_21 : decode cX1_takeFrom 21 = .ok (.iload 5, 2) := by decide +kernel
theorem dX1_takeFrom_23 : decode cX1_takeFrom 23 = .ok (.iload 5, 2) := by decide +kernel
theorem dX1_takeFrom_25 : decode cX1_takeFrom 25 = .ok (.iload 4, 2) := by decide +kernel
theorem dX1_takeFrom_27 : decode cX1_takeFrom 27 = .ok (.if_icmp .ge 19, 3) := by decide +kernel
theorem dX1_takeFrom_30 : decode cX1_takeFrom 30 = .ok (.aload_n 1, 1) := by decide +kernel
theorem dX1_takeFrom_31 : decode cX1_takeFrom 31 = .ok (.iload_n 2, 1) := by decide +kernel
theorem dX1_takeFrom_32 : decode cX1_takeFrom 32 = .ok (.iload_n 3, 1) := by decide +kernel
theorem dX1_takeFrom_33 : decode cX1_takeFrom 33 = .ok (.iadd, 1) := by decide +kernel
theorem dX1_takeFrom_34 : decode cX1_takeFrom 34 = .ok (.iconst 1, 1) := by decide +kernel
theorem dX1_takeFrom_35 : decode cX1_takeFrom 35 = .ok (.isub, 1) := by decide +kernel
theorem dX1_takeFrom_36 : decode cX1_takeFrom 36 = .ok (.iload 5, 2) := by decide +kernel
theorem dX1_takeFrom_38 : decode cX1_takeFrom 38 = .ok (.iconst 1, 1) := by decide +kernel
theorem dX1_takeFrom_39 : decode cX1_takeFrom 39 = .ok (.iadd, 1) := by decide +kernel
theorem dX1_takeFrom_40 : decode cX1_takeFrom 40 = .ok (.invokestatic 25, 3) := by decide +kernel
theorem dX1_takeFrom_43 : decode cX1_takeFrom 43 = .ok (.goto 4, 3) := by decide +kernel
theorem dX1_takeFrom_46 : decode cX1_takeFrom 46 = .ok (.iconst 0, 1) := by decide +kernel
theorem dX1_takeFrom_47 : decode cX1_takeFrom 47 = .ok (.iastore, 1) := by decide +kernel
theorem dX1_takeFrom_48 : decode cX1_takeFrom 48 = .ok (.aload_n 0, 1) := by decide +kernel
theorem dX1_takeFrom_49 : decode cX1_takeFrom 49 = .ok (.getfield 9, 3) := by decide +kernel
theorem dX1_takeFrom_52 : decode cX1_takeFrom 52 = .ok (.iload 5, 2) := by decide +kernel
theorem dX1_takeFrom_54 : decode cX1_takeFrom 54 = .ok (.iaload, 1) := by decide +kernel
theorem dX1_takeFrom_55 : decode cX1_takeFrom 55 = .ok (.bipush 9, 2) := by decide +kernel
theorem dX1_takeFrom_57 : decode cX1_takeFrom 57 = .ok (.if_icmp .le 5, 3) := by decide +kernel
theorem dX1_takeFrom_60 : decode cX1_takeFrom 60 = .ok (.iconst 0, 1) := by decide +kernel
theorem dX1_takeFrom_61 : decode cX1_takeFrom 61 = .ok (.ireturn, 1) := by decide +kernel
theorem dX1_takeFrom_62 : decode cX1_takeFrom 62 = .ok (.iinc 5 1, 3) := by decide +kernel
theorem dX1_takeFrom_65 : decode cX1_takeFrom 65 = .ok (.goto (-55), 3) := by decide +kernel
theorem dX1_takeFrom_68 : decode cX1_takeFrom 68 = .ok (.aload_n 1, 1) := by decide +kernel
theorem dX1_takeFrom_69 : decode cX1_takeFrom 69 = .ok (.iload_n 2, 1) := by decide +kernel
theorem dX1_takeFrom_70 : decode cX1_takeFrom 70 = .ok (.iload_n 3, 1) := by decide +kernel
theorem dX1_takeFrom_71 : decode cX1_takeFrom 71 = .ok (.iadd, 1) := by decide +kernel
theorem dX1_takeFrom_72 : decode cX1_takeFrom 72 = .ok (.iconst 1, 1) := by decide +kernel
theorem dX1_takeFrom_73 : decode cX1_takeFrom 73 = .ok (.isub, 1) := by decide +kernel
theorem dX1_takeFrom_74 : decode cX1_takeFrom 74 = .ok (.iconst 0, 1) := by decide +kernel
theorem dX1_takeFrom_75 : decode cX1_takeFrom 75 = .ok (.invokestatic 25, 3) := by decide +kernel
theorem dX1_takeFrom_78 : decode cX1_takeFrom 78 = .ok (.istore 5, 2) := by decide +kernel
theorem dX1_takeFrom_80 : decode cX1_takeFrom 80 = .ok (.aload_n 0, 1) := by decide +kernel
theorem dX1_takeFrom_81 : decode cX1_takeFrom 81 = .ok (.iload 5, 2) := by decide +kernel
theorem dX1_takeFrom_83 : decode cX1_takeFrom 83 = .ok (.bipush 13, 2) := by decide +kernel
theorem dX1_takeFrom_85 : decode cX1_takeFrom 85 = .ok (.if_icmp .eq 10, 3) := by decide +kernel
theorem dX1_takeFrom_88 : decode cX1_takeFrom 88 = .ok (.iload 5, 2) := by decide +kernel
theorem dX1_takeFrom_90 : decode cX1_takeFrom 90 = .ok (.bipush 11, 2) := by decide +kernel
theorem dX1_takeFrom_92 : decode cX1_takeFrom 92 = .ok (.if_icmp .ne 16, 3) := by decide +kernel
theorem dX1_takeFrom_95 : decode cX1_takeFrom 95 = .ok (.aload_n 0, 1) := by decide +kernel
theorem dX1_takeFrom_96 : decode cX1_takeFrom 96 = .ok (.bipush 32, 2) := by decide +kernel
theorem dX1_takeFrom_98 : decode cX1_takeFrom 98 = .ok (.invokevirtual 29, 3) := by decide +kernel
theorem dX1_takeFrom_101 : decode cX1_takeFrom 101 = .ok (.ifCond .ne 7, 3) := by decide +kernel
theorem dX1_takeFrom_104 : decode cX1_takeFrom 104 = .ok (.iconst 1, 1) := by decide +kernel
theorem dX1_takeFrom_105 : decode cX1_takeFrom 105 = .ok (.goto 4, 3) := by decide +kernel
theorem dX1_takeFrom_108 : decode cX1_takeFrom 108 = .ok (.iconst 0, 1) := by decide +kernel
theorem dX1_takeFrom_109 : decode cX1_takeFrom 109 = .ok (.putfield 13, 3) := by decide +kernel
theorem dX1_takeFrom_112 : decode cX1_takeFrom 112 = .ok (.iload 5, 2) := by decide +kernel
theorem dX1_takeFrom_114 : decode cX1_takeFrom 114 = .ok (.bipush 9, 2) := by decide +kernel
theorem dX1_takeFrom_116 : decode cX1_takeFrom 116 = .ok (.if_icmp .le 7, 3) := by decide +kernel
theorem dX1_takeFrom_119 : decode cX1_takeFrom 119 = .ok (.iconst 1, 1) := by decide +kernel
theorem dX1_takeFrom_120 : decode cX1_takeFrom 120 = .ok (.goto 4, 3) := by decide +kernel
theorem dX1_takeFrom_123 : decode cX1_takeFrom 123 = .ok (.iconst 0, 1) := by decide +kernel
theorem dX1_takeFrom_124 : decode cX1_takeFrom 124 = .ok (.ireturn, 1) := by decide +kernel
theorem dX1_halfByte_0 : decode cX1_halfByte 0 = .ok (.aload_n 0, 1) := by decide +kernel
theorem dX1_halfByte_1 : decode cX1_halfByte 1 = .ok (.iload_n 1, 1) := by decide +kernel
theorem dX1_halfByte_2 : decode cX1_halfByte 2 = .ok (.iload_n 2, 1) := by decide +kernel
theorem dX1_halfByte_3 : decode cX1_halfByte 3 = .ok (.iconst 2, 1) := by decide +kernel
theorem dX1_halfByte_4 : decode cX1_halfByte 4 = .ok (.idiv, 1) := by decide +kernel
theorem dX1_halfByte_5 : decode cX1_halfByte 5 = .ok (.isub, 1) := by decide +kernel
theorem dX1_halfByte_6 : decode cX1_halfByte 6 = .ok (.invokevirtual 33, 3) := by decide +kernel
theorem dX1_halfByte_9 : decode cX1_halfByte 9 = .ok (.istore_n 3, 1) := by decide +kernel
theorem dX1_halfByte_10 : decode cX1_halfByte 10 = .ok (.iload_n 2, 1) := by decide +kernel
theorem dX1_halfByte_11 : decode cX1_halfByte 11 = .ok (.iconst 2, 1) := by decide +kernel
theorem dX1_halfByte_12 : decode cX1_halfByte 12 = .ok (.irem, 1) := by decide +kernel
theorem dX1_halfByte_13 : decode cX1_halfByte 13 = .ok (.ifCond .ne 10, 3) := by decide +kernel
theorem dX1_halfByte_16 : decode cX1_halfByte 16 = .ok (.iload_n 3, 1) := by decide +kernel
theorem dX1_halfByte_17 : decode cX1_halfByte 17 = .ok (.bipush 15, 2) := by decide +kernel
theorem dX1_halfByte_19 : decode cX1_halfByte 19 = .ok (.iand, 1) := by decide +kernel
theorem dX1_halfByte_20 : decode cX1_halfByte 20 = .ok (.goto 6, 3) := by decide +kernel
theorem dX1_halfByte_23 : decode cX1_halfByte 23 = .ok (.iload_n 3, 1) := by decide +kernel
theorem dX1_halfByte_24 : decode cX1_halfByte 24 = .ok (.iconst 4, 1) := by decide +kernel
theorem dX1_halfByte_25 : decode cX1_halfByte 25 = .ok (.ishr, 1) := by decide +kernel
theorem dX1_halfByte_26 : decode cX1_halfByte 26 = .ok (.ireturn, 1) := by decide +kernel
theorem dX1_putTo_0 : decode cX1_putTo 0 = .ok (.iconst 2, 1) := by decide +kernel
theorem dX1_putTo_1 : decode cX1_putTo 1 = .ok (.iload_n 3, 1) := by decide +kernel
theorem dX1_putTo_2 : decode cX1_putTo 2 = .ok (.imul, 1) := by decide +kernel
theorem dX1_putTo_3 : decode cX1_putTo 3 = .ok (.iconst 1, 1) := by decide +kernel
theorem dX1_putTo_4 : decode cX1_putTo 4 = .ok (.isub, 1) := by decide +kernel
theorem dX1_putTo_5 : decode cX1_putTo 5 = .ok (.istore 4, 2) := by decide +kernel
theorem dX1_putTo_7 : decode cX1_putTo 7 = .ok (.aload_n 0, 1) := by decide +kernel
theorem dX1_putTo_8 : decode cX1_putTo 8 = .ok (.getfield 13, 3) := by decide +kernel
theorem dX1_putTo_11 : decode cX1_putTo 11 = .ok (.ifCond .eq 17, 3) := by decide +kernel
theorem dX1_putTo_14 : decode cX1_putTo 14 = .ok (.aload_n 0, 1) := by decide +kernel
theorem dX1_putTo_15 : decode cX1_putTo 15 = .ok (.iload 4, 2) := by decide +kernel
theorem dX1_putTo_17 : decode cX1_putTo 17 = .ok (.invokevirtual 29, 3) := by decide +kernel
theorem dX1_putTo_20 : decode cX1_putTo 20 = .ok (.ifCond .ne 8, 3) := by decide +kernel
theorem dX1_putTo_23 : decode cX1_putTo 23 = .ok (.bipush 13, 2) := by decide +kernel
theorem dX1_putTo_25 : decode cX1_putTo 25 = .ok (.goto 5, 3) := by decide +kernel
theorem dX1_putTo_28 : decode cX1_putTo 28 = .ok (.bipush 12, 2) := by decide +kernel
theorem dX1_putTo_30 : decode cX1_putTo 30 = .ok (.istore 5, 2) := by decide +kernel
theorem dX1_putTo_32 : decode cX1_putTo 32 = .ok (.aload_n 1, 1) := by decide +kernel
theorem dX1_putTo_33 : decode cX1_putTo 33 = .ok (.iload_n 2, 1) := by decide +kernel
theorem dX1_putTo_34 : decode cX1_putTo 34 = .ok (.iload_n 3, 1) := by decide +kernel
theorem dX1_putTo_35 : decode cX1_putTo 35 = .ok (.iadd, 1) := by decide +kernel
theorem dX1_putTo_36 : decode cX1_putTo 36 = .ok (.iconst 1, 1) := by decide +kernel
theorem dX1_putTo_37 : decode cX1_putTo 37 = .ok (.isub, 1) := by decide +kernel
theorem dX1_putTo_38 : decode cX1_putTo 38 = .ok (.aload_n 0, 1) := by decide +kernel
theorem dX1_putTo_39 : decode cX1_putTo 39 = .ok (.getfield 9, 3) := by decide +kernel
theorem dX1_putTo_42 : decode cX1_putTo 42 = .ok (.iconst 0, 1) := by decide +kernel
theorem dX1_putTo_43 : decode cX1_putTo 43 = .ok (.iaload, 1) := by decide +kernel
theorem dX1_putTo_44 : decode cX1_putTo 44 = .ok (.iconst 4, 1) := by decide +kernel
theorem dX1_putTo_45 : decode cX1_putTo 45 = .ok (.ishl, 1) := by decide +kernel
theorem dX1_putTo_46 : decode cX1_putTo 46 = .ok (.iload 5, 2) := by decide +kernel
theorem dX1_putTo_48 : decode cX1_putTo 48 = .ok (.ior, 1) := by decide +kernel
theorem dX1_putTo_49 : decode cX1_putTo 49 = .ok (.invokevirtual 39, 3) := by decide +kernel
theorem dX1_putTo_52 : decode cX1_putTo 52 = .ok (.iconst 1, 1) := by decide +kernel
theorem dX1_putTo_53 : decode cX1_putTo 53 = .ok (.istore 6, 2) := by decide +kernel
theorem dX1_putTo_55 : decode cX1_putTo 55 = .ok (.iload 6, 2) := by decide +kernel
theorem dX1_putTo_57 : decode cX1_putTo 57 = .ok (.iconst 1, 1) := by decide +kernel
theorem dX1_putTo_58 : decode cX1_putTo 58 = .ok (.iadd, 1) := by decide +kernel
theorem dX1_putTo_59 : decode cX1_putTo 59 = .ok (.iload 4, 2) := by decide +kernel
theorem dX1_putTo_61 : decode cX1_putTo 61 = .ok (.if_icmp .ge 51, 3) := by decide +kernel
theorem dX1_putTo_64 : decode cX1_putTo 64 = .ok (.iload 6, 2) := by decide +kernel
theorem dX1_putTo_66 : decode cX1_putTo 66 = .ok (.iconst 1, 1) := by decide +kernel
theorem dX1_putTo_67 : decode cX1_putTo 67 = .ok (.iadd, 1) := by decide +kernel
theorem dX1_putTo_68 : decode cX1_putTo 68 = .ok (.bipush 32, 2) := by decide +kernel
theorem dX1_putTo_70 : decode cX1_putTo 70 = .ok (.if_icmp .ge 42, 3) := by decide +kernel
theorem dX1_putTo_73 : decode cX1_putTo 73 = .ok (.aload_n 1, 1) := by decide +kernel
theorem dX1_putTo_74 : decode cX1_putTo 74 = .ok (.iload_n 2, 1) := by decide +kernel
theorem dX1_putTo_75 : decode cX1_putTo 75 = .ok (.iload_n 3, 1) := by decide +kernel
theorem dX1_putTo_76 : decode cX1_putTo 76 = .ok (.iadd, 1) := by decide +kernel
theorem dX1_putTo_77 : decode cX1_putTo 77 = .ok (.iconst 2, 1) := by decide +kernel
theorem dX1_putTo_78 : decode cX1_putTo 78 = .ok (.isub, 1) := by decide +kernel
theorem dX1_putTo_79 : decode cX1_putTo 79 = .ok (.iload 6, 2) := by decide +kernel
theorem dX1_putTo_81 : decode cX1_putTo 81 = .ok (.iconst 2, 1) := by decide +kernel
theorem dX1_putTo_82 : decode cX1_putTo 82 = .ok (.idiv, 1) := by decide +kernel
theorem dX1_putTo_83 : decode cX1_putTo 83 = .ok (.isub, 1) := by decide +kernel
theorem dX1_putTo_84 : decode cX1_putTo 84 = .ok (.aload_n 0, 1) := by decide +kernel
theorem dX1_putTo_85 : decode cX1_putTo 85 = .ok (.getfield 9, 3) := by decide +kernel
theorem dX1_putTo_88 : decode cX1_putTo 88 = .ok (.iload 6, 2) := by decide +kernel
theorem dX1_putTo_90 : decode cX1_putTo 90 = .ok (.iconst 1, 1) := by decide +kernel
theorem dX1_putTo_91 : decode cX1_putTo 91 = .ok (.iadd, 1) := by decide +kernel
theorem dX1_putTo_92 : decode cX1_putTo 92 = .ok (.iaload, 1) := by decide +kernel
theorem dX1_putTo_93 : decode cX1_putTo 93 = .ok (.iconst 4, 1) := by decide +kernel
theorem dX1_putTo_94 : decode cX1_putTo 94 = .ok (.ishl, 1) := by decide +kernel
theorem dX1_putTo_95 : decode cX1_putTo 95 = .ok (.aload_n 0, 1) := by decide +kernel
theorem dX1_putTo_96 : decode cX1_putTo 96 = .ok (.getfield 9, 3) := by decide +kernel
theorem dX1_putTo_99 : decode cX1_putTo 99 = .ok (.iload 6, 2) := by decide +kernel
theorem dX1_putTo_101 : decode cX1_putTo 101 = .ok (.iaload, 1) := by decide +kernel
theorem dX1_putTo_102 : decode cX1_putTo 102 = .ok (.ior, 1) := by decide +kernel
theorem dX1_putTo_103 : decode cX1_putTo 103 = .ok (.invokevirtual 39, 3) := by decide +kernel
theorem dX1_putTo_106 : decode cX1_putTo 106 = .ok (.iinc 6 2, 3) := by decide +kernel
theorem dX1_putTo_109 : decode cX1_putTo 109 = .ok (.goto (-54), 3) := by decide +kernel
theorem dX1_putTo_112 : decode cX1_putTo 112 = .ok (.aload_n 0, 1) := by decide +kernel
theorem dX1_putTo_113 : decode cX1_putTo 113 = .ok (.iload 4, 2) := by decide +kernel
theorem dX1_putTo_115 : decode cX1_putTo 115 = .ok (.invokevirtual 43, 3) := by decide +kernel
theorem dX1_putTo_118 : decode cX1_putTo 118 = .ok (.ireturn, 1) := by decide +kernel
theorem dX1_isZero_0 : decode cX1_isZero 0 = .ok (.iconst 0, 1) := by decide +kernel
theorem dX1_isZero_1 : decode cX1_isZero 1 = .ok (.istore_n 2, 1) := by decide +kernel
theorem dX1_isZero_2 : decode cX1_isZero 2 = .ok (.iload_n 2, 1) := by decide +kernel
theorem dX1_isZero_3 : decode cX1_isZero 3 = .ok (.iload_n 1, 1) := by decide +kernel
theorem dX1_isZero_4 : decode cX1_isZero 4 = .ok (.if_icmp .ge 26, 3) := by decide +kernel
theorem dX1_isZero_7 : decode cX1_isZero 7 = .ok (.iload_n 2, 1) := by decide +kernel
theorem dX1_isZero_8 : decode cX1_isZero 8 = .ok (.bipush 32, 2) := by decide +kernel
theorem dX1_isZero_10 : decode cX1_isZero 10 = .ok (.if_icmp .ge 20, 3) := by decide +kernel
theorem dX1_isZero_13 : decode cX1_isZero 13 = .ok (.aload_n 0, 1) := by decide +kernel
theorem dX1_isZero_14 : decode cX1_isZero 14 = .ok (.getfield 9, 3) := by decide +kernel
theorem dX1_isZero_17 : decode cX1_isZero 17 = .ok (.iload_n 2, 1) := by decide +kernel
theorem dX1_isZero_18 : decode cX1_isZero 18 = .ok (.iaload, 1) := by decide +kernel
theorem dX1_isZero_19 : decode cX1_isZero 19 = .ok (.ifCond .eq 5, 3) := by decide +kernel
theorem dX1_isZero_22 : decode cX1_isZero 22 = .ok (.iconst 0, 1) := by decide +kernel
theorem dX1_isZero_23 : decode cX1_isZero 23 = .ok (.ireturn, 1) := by decide +kernel
theorem dX1_isZero_24 : decode cX1_isZero 24 = .ok (.iinc 2 1, 3) := by decide +kernel
theorem dX1_isZero_27 : decode cX1_isZero 27 = .ok (.goto (-25), 3) := by decide +kernel
theorem dX1_isZero_30 : decode cX1_isZero 30 = .ok (.iconst 1, 1) := by decide +kernel
theorem dX1_isZero_31 : decode cX1_isZero 31 = .ok (.ireturn, 1) := by decide +kernel
theorem dX1_isWithin_0 : decode cX1_isWithin 0 = .ok (.bipush 31, 2) := by decide +kernel
theorem dX1_isWithin_2 : decode cX1_isWithin 2 = .ok (.istore_n 2, 1) := by decide +kernel
theorem dX1_isWithin_3 : decode cX1_isWithin 3 = .ok (.iload_n 2, 1) := by decide +kernel
theorem dX1_isWithin_4 : decode cX1_isWithin 4 = .ok (.iload_n 1, 1) := by decide +kernel
theorem dX1_isWithin_5 : decode cX1_isWithin 5 = .ok (.if_icmp .lt 24, 3) := by decide +kernel
theorem dX1_isWithin_8 : decode cX1_isWithin 8 = .ok (.iload_n 2, 1) := by decide +kernel
theorem dX1_isWithin_9 : decode cX1_isWithin 9 = .ok (.ifCond .lt 20, 3) := by decide +kernel
theorem dX1_isWithin_12 : decode cX1_isWithin 12 = .ok (.aload_n 0, 1) := by decide +kernel
theorem dX1_isWithin_13 : decode cX1_isWithin 13 = .ok (.getfield 9, 3) := by decide +kernel
theorem dX1_isWithin_16 : decode cX1_isWithin 16 = .ok (.iload_n 2, 1) := by decide +kernel
theorem dX1_isWithin_17 : decode cX1_isWithin 17 = .ok (.iaload, 1) := by decide +kernel
theorem dX1_isWithin_18 : decode cX1_isWithin 18 = .ok (.ifCond .eq 5, 3) := by decide +kernel
theorem dX1_isWithin_21 : decode cX1_isWithin 21 = .ok (.iconst 0, 1) := by decide +kernel
theorem dX1_isWithin_22 : decode cX1_isWithin 22 = .ok (.ireturn, 1) := by decide +kernel
theorem dX1_isWithin_23 : decode cX1_isWithin 23 = .ok (.iinc 2 (-1), 3) := by decide +kernel
theorem dX1_isWithin_26 : decode cX1_isWithin 26 = .ok (.goto (-23), 3) := by decide +kernel
theorem dX1_isWithin_29 : decode cX1_isWithin 29 = .ok (.iconst 1, 1) := by decide +kernel
theorem dX1_isWithin_30 : decode cX1_isWithin 30 = .ok (.ireturn, 1) := by decide +kernel
theorem dX1_add_0 : decode cX1_add 0 = .ok (.aload_n 0, 1) := by decide +kernel
theorem dX1_add_1 : decode cX1_add 1 = .ok (.aload_n 1, 1) := by decide +kernel
theorem dX1_add_2 : decode cX1_add 2 = .ok (.aload_n 1, 1) := by decide +kernel
theorem dX1_add_3 : decode cX1_add 3 = .ok (.getfield 13, 3) := by decide +kernel
theorem dX1_add_6 : decode cX1_add 6 = .ok (.invokevirtual 46, 3) := by decide +kernel
theorem dX1_add_9 : decode cX1_add 9 = .ok (.return_, 1) := by decide +kernel
theorem dX1_subtract_0 : decode cX1_subtract 0 = .ok (.aload_n 0, 1) := by decide +kernel
theorem dX1_subtract_1 : decode cX1_subtract 1 = .ok (.aload_n 1, 1) := by decide +kernel
theorem dX1_subtract_2 : decode cX1_subtract 2 = .ok (.aload_n 1, 1) := by decide +kernel
theorem dX1_subtract_3 : decode cX1_subtract 3 = .ok (.getfield 13, 3) := by decide +kernel
theorem dX1_subtract_6 : decode cX1_subtract 6 = .ok (.ifCond .ne 7, 3) := by decide +kernel
theorem dX1_subtract_9 : decode cX1_subtract 9 = .ok (.iconst 1, 1) := by decide +kernel
theorem dX1_subtract_10 : decode cX1_subtract 10 = .ok (.goto 4, 3) := by decide +kernel
theorem dX1_subtract_13 : decode cX1_subtract 13 = .ok (.iconst 0, 1) := by decide +kernel
theorem dX1_subtract_14 : decode cX1_subtract 14 = .ok (.invokevirtual 46, 3) := by decide +kernel
theorem dX1_subtract_17 : decode cX1_subtract 17 = .ok (.return_, 1) := by decide +kernel
theorem dX1_addSigned_0 : decode cX1_addSigned 0 = .ok (.aload_n 0, 1) := by decide +kernel
theorem dX1_addSigned_1 : decode cX1_addSigned 1 = .ok (.getfield 13, 3) := by decide +kernel
theorem dX1_addSigned_4 : decode cX1_addSigned 4 = .ok (.iload_n 2, 1) := by decide +kernel
theorem dX1_addSigned_5 : decode cX1_addSigned 5 = .ok (.if_icmp .ne 11, 3) := by decide +kernel
theorem dX1_addSigned_8 : decode cX1_addSigned 8 = .ok (.aload_n 0, 1) := by decide +kernel
theorem dX1_addSigned_9 : decode cX1_addSigned 9 = .ok (.aload_n 1, 1) := by decide +kernel
theorem dX1_addSigned_10 : decode cX1_addSigned 10 = .ok (.invokevirtual 50, 3) := by decide +kernel
theorem dX1_addSigned_13 : decode cX1_addSigned 13 = .ok (.goto 44, 3) := by decide +kernel
theorem dX1_addSigned_16 : decode cX1_addSigned 16 = .ok (.aload_n 0, 1) := by decide +kernel
theorem dX1_addSigned_17 : decode cX1_addSigned 17 = .ok (.aload_n 1, 1) := by decide +kernel
theorem dX1_addSigned_18 : decode cX1_addSigned 18 = .ok (.invokevirtual 54, 3) := by decide +kernel
theorem dX1_addSigned_21 : decode cX1_addSigned 21 = .ok (.iconst 1, 1) := by decide +kernel
theorem dX1_addSigned_22 : decode cX1_addSigned 22 = .ok (.if_icmp .ne 23, 3) := by decide +kernel
theorem dX1_addSigned_25 : decode cX1_addSigned 25 = .ok (.aload_n 0, 1) := by decide +kernel
theorem dX1_addSigned_26 : decode cX1_addSigned 26 = .ok (.aload_n 1, 1) := by decide +kernel
theorem dX1_addSigned_27 : decode cX1_addSigned 27 = .ok (.getfield 9, 3) := by decide +kernel
theorem dX1_addSigned_30 : decode cX1_addSigned 30 = .ok (.aload_n 0, 1) := by decide +kernel
theorem dX1_addSigned_31 : decode cX1_addSigned 31 = .ok (.getfield 9, 3) := by decide +kernel
theorem dX1_addSigned_34 : decode cX1_addSigned 34 = .ok (.invokevirtual 58, 3) := by decide +kernel
theorem dX1_addSigned_37 : decode cX1_addSigned 37 = .ok (.aload_n 0, 1) := by decide +kernel
theorem dX1_addSigned_38 : decode cX1_addSigned 38 = .ok (.iload_n 2, 1) := by decide +kernel
theorem dX1_addSigned_39 : decode cX1_addSigned 39 = .ok (.putfield 13, 3) := by decide +kernel
theorem dX1_addSigned_42 : decode cX1_addSigned 42 = .ok (.goto 15, 3) := by decide +kernel
theorem dX1_addSigned_45 : decode cX1_addSigned 45 = .ok (.aload_n 0, 1) := by decide +kernel
theorem dX1_addSigned_46 : decode cX1_addSigned 46 = .ok (.aload_n 0, 1) := by decide +kernel
theorem dX1_addSigned_47 : decode cX1_addSigned 47 = .ok (.getfield 9, 3) := by decide +kernel
theorem dX1_addSigned_50 : decode cX1_addSigned 50 = .ok (.aload_n 1, 1) := by decide +kernel
theorem dX1_addSigned_51 : decode cX1_addSigned 51 = .ok (.getfield 9, 3) := by decide +kernel
theorem dX1_addSigned_54 : decode cX1_addSigned 54 = .ok (.invokevirtual 58, 3) := by decide +kernel
theorem dX1_addSigned_57 : decode cX1_addSigned 57 = .ok (.aload_n 0, 1) := by decide +kernel
theorem dX1_addSigned_58 : decode cX1_addSigned 58 = .ok (.aload_n 0, 1) := by decide +kernel
theorem dX1_addSigned_59 : decode cX1_addSigned 59 = .ok (.getfield 13, 3) := by decide +kernel
theorem dX1_addSigned_62 : decode cX1_addSigned 62 = .ok (.ifCond .eq 16, 3) := by decide +kernel
theorem dX1_addSigned_65 : decode cX1_addSigned 65 = .ok (.aload_n 0, 1) := by decide +kernel
theorem dX1_addSigned_66 : decode cX1_addSigned 66 = .ok (.bipush 32, 2) := by decide +kernel
theorem dX1_addSigned_68 : decode cX1_addSigned 68 = .ok (.invokevirtual 29, 3) := by decide +kernel
theorem dX1_addSigned_71 : decode cX1_addSigned 71 = .ok (.ifCond .ne 7, 3) := by decide +kernel
theorem dX1_addSigned_74 : decode cX1_addSigned 74 = .ok (.iconst 1, 1) := by decide +kernel
theorem dX1_addSigned_75 : decode cX1_addSigned 75 = .ok (.goto 4, 3) := by decide +kernel
theorem dX1_addSigned_78 : decode cX1_addSigned 78 = .ok (.iconst 0, 1) := by decide +kernel
theorem dX1_addSigned_79 : decode cX1_addSigned 79 = .ok (.putfield 13, 3) := by decide +kernel
theorem dX1_addSigned_82 : decode cX1_addSigned 82 = .ok (.return_, 1) := by decide +kernel
theorem dX1_addDigits_0 : decode cX1_addDigits 0 = .ok (.iconst 0, 1) := by decide +kernel
theorem dX1_addDigits_1 : decode cX1_addDigits 1 = .ok (.istore_n 2, 1) := by decide +kernel
theorem dX1_addDigits_2 : decode cX1_addDigits 2 = .ok (.iconst 0, 1) := by decide +kernel
theorem dX1_addDigits_3 : decode cX1_addDigits 3 = .ok (.istore_n 3, 1) := by decide +kernel
theorem dX1_addDigits_4 : decode cX1_addDigits 4 = .ok (.iload_n 3, 1) := by decide +kernel
theorem dX1_addDigits_5 : decode cX1_addDigits 5 = .ok (.bipush 32, 2) := by decide +kernel
theorem dX1_addDigits_7 : decode cX1_addDigits 7 = .ok (.if_icmp .ge 52, 3) := by decide +kernel
theorem dX1_addDigits_10 : decode cX1_addDigits 10 = .ok (.aload_n 0, 1) := by decide +kernel
theorem dX1_addDigits_11 : decode cX1_addDigits 11 = .ok (.getfield 9, 3) := by decide +kernel
theorem dX1_addDigits_14 : decode cX1_addDigits 14 = .ok (.iload_n 3, 1) := by decide +kernel
theorem dX1_addDigits_15 : decode cX1_addDigits 15 = .ok (.iaload, 1) := by decide +kernel
theorem dX1_addDigits_16 : decode cX1_addDigits 16 = .ok (.aload_n 1, 1) := by decide +kernel
theorem dX1_addDigits_17 : decode cX1_addDigits 17 = .ok (.getfield 9, 3) := by decide +kernel
theorem dX1_addDigits_20 : decode cX1_addDigits 20 = .ok (.iload_n 3, 1) := by decide +kernel
theorem dX1_addDigits_21 : decode cX1_addDigits 21 = .ok (.iaload, 1) := by decide +kernel
theorem dX1_addDigits_22 : decode cX1_addDigits 22 = .ok (.iadd, 1) := by decide +kernel
theorem dX1_addDigits_23 : decode cX1_addDigits 23 = .ok (.iload_n 2, 1) := by decide +kernel
theorem dX1_addDigits_24 : decode cX1_addDigits 24 = .ok (.iadd, 1) := by decide +kernel
theorem dX1_addDigits_25 : decode cX1_addDigits 25 = .ok (.istore 4, 2) := by decide +kernel
theorem dX1_addDigits_27 : decode cX1_addDigits 27 = .ok (.iload 4, 2) := by decide +kernel
theorem dX1_addDigits_29 : decode cX1_addDigits 29 = .ok (.bipush 9, 2) := by decide +kernel
theorem dX1_addDigits_31 : decode cX1_addDigits 31 = .ok (.if_icmp .le 7, 3) := by decide +kernel
theorem dX1_addDigits_34 : decode cX1_addDigits 34 = .ok (.iconst 1, 1) := by decide +kernel
theorem dX1_addDigits_35 : decode cX1_addDigits 35 = .ok (.goto 4, 3) := by decide +kernel
theorem dX1_addDigits_38 : decode cX1_addDigits 38 = .ok (.iconst 0, 1) := by decide +kernel
theorem dX1_addDigits_39 : decode cX1_addDigits 39 = .ok (.istore_n 2, 1) := by decide +kernel
theorem dX1_addDigits_40 : decode cX1_addDigits 40 = .ok (.aload_n 0, 1) := by decide +kernel
theorem dX1_addDigits_41 : decode cX1_addDigits 41 = .ok (.getfield 9, 3) := by decide +kernel
theorem dX1_addDigits_44 : decode cX1_addDigits 44 = .ok (.iload_n 3, 1) := by decide +kernel
theorem dX1_addDigits_45 : decode cX1_addDigits 45 = .ok (.iload 4, 2) := by decide +kernel
theorem dX1_addDigits_47 : decode cX1_addDigits 47 = .ok (.bipush 10, 2) := by decide +kernel
theorem dX1_addDigits_49 : decode cX1_addDigits 49 = .ok (.iload_n 2, 1) := by decide +kernel
theorem dX1_addDigits_50 : decode cX1_addDigits 50 = .ok (.imul, 1) := by decide +kernel
theorem dX1_addDigits_51 : decode cX1_addDigits 51 = .ok (.isub, 1) := by decide +kernel
theorem dX1_addDigits_52 : decode cX1_addDigits 52 = .ok (.iastore, 1) := by decide +kernel
theorem dX1_addDigits_53 : decode cX1_addDigits 53 = .ok (.iinc 3 1, 3) := by decide +kernel
theorem dX1_addDigits_56 : decode cX1_addDigits 56 = .ok (.goto (-52), 3) := by decide +kernel
theorem dX1_addDigits_59 : decode cX1_addDigits 59 = .ok (.return_, 1) := by decide +kernel
theorem dX1_takeDifference_0 : decode cX1_takeDifference 0 = .ok (.iconst 0, 1) := by decide +kernel
theorem dX1_takeDifference_1 : decode cX1_takeDifference 1 = .ok (.istore_n 3, 1) := by decide +kernel
theorem dX1_takeDifference_2 : decode cX1_takeDifference 2 = .ok (.iconst 0, 1) := by decide +kernel
theorem dX1_takeDifference_3 : decode cX1_takeDifference 3 = .ok (.istore 4, 2) := by decide +kernel
theorem dX1_takeDifference_5 : decode cX1_takeDifference 5 = .ok (.iload 4, 2) := by decide +kernel
theorem dX1_takeDifference_7 : decode cX1_takeDifference 7 = .ok (.bipush 32, 2) := by decide +kernel
theorem dX1_takeDifference_9 : decode cX1_takeDifference 9 = .ok (.if_icmp .ge 47, 3) := by decide +kernel
theorem dX1_takeDifference_12 : decode cX1_takeDifference 12 = .ok (.aload_n 1, 1) := by decide +kernel
theorem dX1_takeDifference_13 : decode cX1_takeDifference 13 = .ok (.iload 4, 2) := by decide +kernel
theorem dX1_takeDifference_15 : decode cX1_takeDifference 15 = .ok (.iaload, 1) := by decide +kernel
theorem dX1_takeDifference_16 : decode cX1_takeDifference 16 = .ok (.aload_n 2, 1) := by decide +kernel
theorem dX1_takeDifference_17 : decode cX1_takeDifference 17 = .ok (.iload 4, 2) := by decide +kernel
theorem dX1_takeDifference_19 : decode cX1_takeDifference 19 = .ok (.iaload, 1) := by decide +kernel
theorem dX1_takeDifference_20 : decode cX1_takeDifference 20 = .ok (.isub, 1) := by decide +kernel
theorem dX1_takeDifference_21 : decode cX1_takeDifference 21 = .ok (.iload_n 3, 1) := by decide +kernel
theorem dX1_takeDifference_22 : decode cX1_takeDifference 22 = .ok (.isub, 1) := by decide +kernel
theorem dX1_takeDifference_23 : decode cX1_takeDifference 23 = .ok (.istore 5, 2) := by decide +kernel
theorem dX1_takeDifference_25 : decode cX1_takeDifference 25 = .ok (.iload 5, 2) := by decide +kernel
theorem dX1_takeDifference_27 : decode cX1_takeDifference 27 = .ok (.ifCond .ge 7, 3) := by decide +kernel
theorem dX1_takeDifference_30 : decode cX1_takeDifference 30 = .ok (.iconst 1, 1) := by decide +kernel
theorem dX1_takeDifference_31 : decode cX1_takeDifference 31 = .ok (.goto 4, 3) := by decide +kernel
theorem dX1_takeDifference_34 : decode cX1_takeDifference 34 = .ok (.iconst 0, 1) := by decide +kernel
theorem dX1_takeDifference_35 : decode cX1_takeDifference 35 = .ok (.istore_n 3, 1) := by decide +kernel
theorem dX1_takeDifference_36 : decode cX1_takeDifference 36 = .ok (.aload_n 0, 1) := by decide +kernel
theorem dX1_takeDifference_37 : decode cX1_takeDifference 37 = .ok (.getfield 9, 3) := by decide +kernel
theorem dX1_takeDifference_40 : decode cX1_takeDifference 40 = .ok (.iload 4, 2) := by decide +kernel
theorem dX1_takeDifference_42 : decode cX1_takeDifference 42 = .ok (.iload 5, 2) := by decide +kernel
theorem dX1_takeDifference_44 : decode cX1_takeDifference 44 = .ok (.bipush 10, 2) := by decide +kernel
theorem dX1_takeDifference_46 : decode cX1_takeDifference 46 = .ok (.iload_n 3, 1) := by decide +kernel
theorem dX1_takeDifference_47 : decode cX1_takeDifference 47 = .ok (.imul, 1) := by decide +kernel
theorem dX1_takeDifference_48 : decode cX1_takeDifference 48 = .ok (.iadd, 1) := by decide +kernel
theorem dX1_takeDifference_49 : decode cX1_takeDifference 49 = .ok (.iastore, 1) := by decide +kernel
theorem dX1_takeDifference_50 : decode cX1_takeDifference 50 = .ok (.iinc 4 1, 3) := by decide +kernel
theorem dX1_takeDifference_53 : decode cX1_takeDifference 53 = .ok (.goto (-48), 3) := by decide +kernel
theorem dX1_takeDifference_56 : decode cX1_takeDifference 56 = .ok (.return_, 1) := by decide +kernel
theorem dX1_orderOfDigits_0 : decode cX1_orderOfDigits 0 = .ok (.bipush 31, 2) := by decide +kernel
theorem dX1_orderOfDigits_2 : decode cX1_orderOfDigits 2 = .ok (.istore_n 2, 1) := by decide +kernel
theorem dX1_orderOfDigits_3 : decode cX1_orderOfDigits 3 = .ok (.iload_n 2, 1) := by decide +kernel
theorem dX1_orderOfDigits_4 : decode cX1_orderOfDigits 4 = .ok (.ifCond .lt 45, 3) := by decide +kernel
theorem dX1_orderOfDigits_7 : decode cX1_orderOfDigits 7 = .ok (.aload_n 0, 1) := by decide +kernel
theorem dX1_orderOfDigits_8 : decode cX1_orderOfDigits 8 = .ok (.getfield 9, 3) := by decide +kernel
theorem dX1_orderOfDigits_11 : decode cX1_orderOfDigits 11 = .ok (.iload_n 2, 1) := by decide +kernel
theorem dX1_orderOfDigits_12 : decode cX1_orderOfDigits 12 = .ok (.iaload, 1) := by decide +kernel
theorem dX1_orderOfDigits_13 : decode cX1_orderOfDigits 13 = .ok (.aload_n 1, 1) := by decide +kernel
theorem dX1_orderOfDigits_14 : decode cX1_orderOfDigits 14 = .ok (.getfield 9, 3) := by decide +kernel
theorem dX1_orderOfDigits_17 : decode cX1_orderOfDigits 17 = .ok (.iload_n 2, 1) := by decide +kernel
theorem dX1_orderOfDigits_18 : decode cX1_orderOfDigits 18 = .ok (.iaload, 1) := by decide +kernel
theorem dX1_orderOfDigits_19 : decode cX1_orderOfDigits 19 = .ok (.if_icmp .eq 24, 3) := by decide +kernel
theorem dX1_orderOfDigits_22 : decode cX1_orderOfDigits 22 = .ok (.aload_n 0, 1) := by decide +kernel
theorem dX1_orderOfDigits_23 : decode cX1_orderOfDigits 23 = .ok (.getfield 9, 3) := by decide +kernel
theorem dX1_orderOfDigits_26 : decode cX1_orderOfDigits 26 = .ok (.iload_n 2, 1) := by decide +kernel
theorem dX1_orderOfDigits_27 : decode cX1_orderOfDigits 27 = .ok (.iaload, 1) := by decide +kernel
theorem dX1_orderOfDigits_28 : decode cX1_orderOfDigits 28 = .ok (.aload_n 1, 1) := by decide +kernel
theorem dX1_orderOfDigits_29 : decode cX1_orderOfDigits 29 = .ok (.getfield 9, 3) := by decide +kernel
theorem dX1_orderOfDigits_32 : decode cX1_orderOfDigits 32 = .ok (.iload_n 2, 1) := by decide +kernel
theorem dX1_orderOfDigits_33 : decode cX1_orderOfDigits 33 = .ok (.iaload, 1) := by decide +kernel
theorem dX1_orderOfDigits_34 : decode cX1_orderOfDigits 34 = .ok (.if_icmp .ge 7, 3) := by decide +kernel
theorem dX1_orderOfDigits_37 : decode cX1_orderOfDigits 37 = .ok (.iconst 1, 1) := by decide +kernel
theorem dX1_orderOfDigits_38 : decode cX1_orderOfDigits 38 = .ok (.goto 4, 3) := by decide +kernel
theorem dX1_orderOfDigits_41 : decode cX1_orderOfDigits 41 = .ok (.iconst 2, 1) := by decide +kernel
theorem dX1_orderOfDigits_42 : decode cX1_orderOfDigits 42 = .ok (.ireturn, 1) := by decide +kernel
theorem dX1_orderOfDigits_43 : decode cX1_orderOfDigits 43 = .ok (.iinc 2 (-1), 3) := by decide +kernel
theorem dX1_orderOfDigits_46 : decode cX1_orderOfDigits 46 = .ok (.goto (-43), 3) := by decide +kernel
theorem dX1_orderOfDigits_49 : decode cX1_orderOfDigits 49 = .ok (.iconst 0, 1) := by decide +kernel
theorem dX1_orderOfDigits_50 : decode cX1_orderOfDigits 50 = .ok (.ireturn, 1) := by decide +kernel
theorem dX1_orderWith_0 : decode cX1_orderWith 0 = .ok (.aload_n 0, 1) := by decide +kernel
theorem dX1_orderWith_1 : decode cX1_orderWith 1 = .ok (.getfield 13, 3) := by decide +kernel
theorem dX1_orderWith_4 : decode cX1_orderWith 4 = .ok (.aload_n 1, 1) := by decide +kernel
theorem dX1_orderWith_5 : decode cX1_orderWith 5 = .ok (.getfield 13, 3) := by decide +kernel
theorem dX1_orderWith_8 : decode cX1_orderWith 8 = .ok (.if_icmp .eq 16, 3) := by decide +kernel
theorem dX1_orderWith_11 : decode cX1_orderWith 11 = .ok (.aload_n 0, 1) := by decide +kernel
theorem dX1_orderWith_12 : decode cX1_orderWith 12 = .ok (.getfield 13, 3) := by decide +kernel
theorem dX1_orderWith_15 : decode cX1_orderWith 15 = .ok (.ifCond .eq 7, 3) := by decide +kernel
theorem dX1_orderWith_18 : decode cX1_orderWith 18 = .ok (.iconst 1, 1) := by decide +kernel
theorem dX1_orderWith_19 : decode cX1_orderWith 19 = .ok (.goto 4, 3) := by decide +kernel
theorem dX1_orderWith_22 : decode cX1_orderWith 22 = .ok (.iconst 2, 1) := by decide +kernel
theorem dX1_orderWith_23 : decode cX1_orderWith 23 = .ok (.ireturn, 1) := by decide +kernel
theorem dX1_orderWith_24 : decode cX1_orderWith 24 = .ok (.aload_n 0, 1) := by decide +kernel
theorem dX1_orderWith_25 : decode cX1_orderWith 25 = .ok (.getfield 13, 3) := by decide +kernel
theorem dX1_orderWith_28 : decode cX1_orderWith 28 = .ok (.ifCond .eq 11, 3) := by decide +kernel
theorem dX1_orderWith_31 : decode cX1_orderWith 31 = .ok (.aload_n 1, 1) := by decide +kernel
theorem dX1_orderWith_32 : decode cX1_orderWith 32 = .ok (.aload_n 0, 1) := by decide +kernel
theorem dX1_orderWith_33 : decode cX1_orderWith 33 = .ok (.invokevirtual 54, 3) := by decide +kernel
theorem dX1_orderWith_36 : decode cX1_orderWith 36 = .ok (.goto 8, 3) := by decide +kernel
theorem dX1_orderWith_39 : decode cX1_orderWith 39 = .ok (.aload_n 0, 1) := by decide +kernel
theorem dX1_orderWith_40 : decode cX1_orderWith 40 = .ok (.aload_n 1, 1) := by decide +kernel
theorem dX1_orderWith_41 : decode cX1_orderWith 41 = .ok (.invokevirtual 54, 3) := by decide +kernel
theorem dX1_orderWith_44 : decode cX1_orderWith 44 = .ok (.ireturn, 1) := by decide +kernel
theorem dX1_signCode_0 : decode cX1_signCode 0 = .ok (.aload_n 0, 1) := by decide +kernel
theorem dX1_signCode_1 : decode cX1_signCode 1 = .ok (.getfield 13, 3) := by decide +kernel
theorem dX1_signCode_4 : decode cX1_signCode 4 = .ok (.ifCond .eq 5, 3) := by decide +kernel
theorem dX1_signCode_7 : decode cX1_signCode 7 = .ok (.iconst 1, 1) := by decide +kernel
theorem dX1_signCode_8 : decode cX1_signCode 8 = .ok (.ireturn, 1) := by decide +kernel
theorem dX1_signCode_9 : decode cX1_signCode 9 = .ok (.aload_n 0, 1) := by decide +kernel
theorem dX1_signCode_10 : decode cX1_signCode 10 = .ok (.bipush 32, 2) := by decide +kernel
theorem dX1_signCode_12 : decode cX1_signCode 12 = .ok (.invokevirtual 29, 3) := by decide +kernel
theorem dX1_signCode_15 : decode cX1_signCode 15 = .ok (.ifCond .eq 7, 3) := by decide +kernel
theorem dX1_signCode_18 : decode cX1_signCode 18 = .ok (.iconst 0, 1) := by decide +kernel
theorem dX1_signCode_19 : decode cX1_signCode 19 = .ok (.goto 4, 3) := by decide +kernel
theorem dX1_signCode_22 : decode cX1_signCode 22 = .ok (.iconst 2, 1) := by decide +kernel
theorem dX1_signCode_23 : decode cX1_signCode 23 = .ok (.ireturn, 1) := by decide +kernel
theorem dX1_value_0 : decode cX1_value 0 = .ok (.lconst 0, 1) := by decide +kernel
theorem dX1_value_1 : decode cX1_value 1 = .ok (.lstore_n 1, 1) := by decide +kernel
theorem dX1_value_2 : decode cX1_value 2 = .ok (.bipush 14, 2) := by decide +kernel
theorem dX1_value_4 : decode cX1_value 4 = .ok (.istore_n 3, 1) := by decide +kernel
theorem dX1_value_5 : decode cX1_value 5 = .ok (.iload_n 3, 1) := by decide +kernel
theorem dX1_value_6 : decode cX1_value 6 = .ok (.ifCond .lt 23, 3) := by decide +kernel
theorem dX1_value_9 : decode cX1_value 9 = .ok (.lload_n 1, 1) := by decide +kernel
theorem dX1_value_10 : decode cX1_value 10 = .ok (.ldc2_w 23, 3) := by decide +kernel
theorem dX1_value_13 : decode cX1_value 13 = .ok (.lmul, 1) := by decide +kernel
theorem dX1_value_14 : decode cX1_value 14 = .ok (.aload_n 0, 1) := by decide +kernel
theorem dX1_value_15 : decode cX1_value 15 = .ok (.getfield 9, 3) := by decide +kernel
theorem dX1_value_18 : decode cX1_value 18 = .ok (.iload_n 3, 1) := by decide +kernel
theorem dX1_value_19 : decode cX1_value 19 = .ok (.iaload, 1) := by decide +kernel
theorem dX1_value_20 : decode cX1_value 20 = .ok (.i2l, 1) := by decide +kernel
theorem dX1_value_21 : decode cX1_value 21 = .ok (.ladd, 1) := by decide +kernel
theorem dX1_value_22 : decode cX1_value 22 = .ok (.lstore_n 1, 1) := by decide +kernel
theorem dX1_value_23 : decode cX1_value 23 = .ok (.iinc 3 (-1), 3) := by decide +kernel
theorem dX1_value_26 : decode cX1_value 26 = .ok (.goto (-21), 3) := by decide +kernel
theorem dX1_value_29 : decode cX1_value 29 = .ok (.aload_n 0, 1) := by decide +kernel
theorem dX1_value_30 : decode cX1_value 30 = .ok (.getfield 13, 3) := by decide +kernel
theorem dX1_value_33 : decode cX1_value 33 = .ok (.ifCond .eq 8, 3) := by decide +kernel
theorem dX1_value_36 : decode cX1_value 36 = .ok (.lload_n 1, 1) := by decide +kernel
theorem dX1_value_37 : decode cX1_value 37 = .ok (.lneg, 1) := by decide +kernel
theorem dX1_value_38 : decode cX1_value 38 = .ok (.goto 4, 3) := by decide +kernel
theorem dX1_value_41 : decode cX1_value 41 = .ok (.lload_n 1, 1) := by decide +kernel
theorem dX1_value_42 : decode cX1_value 42 = .ok (.lreturn, 1) := by decide +kernel
theorem dX2_init_0 : decode cX2_init 0 = .ok (.aload_n 0, 1) := by decide +kernel
theorem dX2_init_1 : decode cX2_init 1 = .ok (.invokespecial 1, 3) := by decide +kernel
theorem dX2_init_4 : decode cX2_init 4 = .ok (.aload_n 0, 1) := by decide +kernel
theorem dX2_init_5 : decode cX2_init 5 = .ok (.bipush 32, 2) := by decide +kernel
theorem dX2_init_7 : decode cX2_init 7 = .ok (.newarray .byte, 2) := by decide +kernel
theorem dX2_init_9 : decode cX2_init 9 = .ok (.putfield 9, 3) := by decide +kernel
theorem dX2_init_12 : decode cX2_init 12 = .ok (.return_, 1) := by decide +kernel
theorem dX2_beginLine_0 : decode cX2_beginLine 0 = .ok (.aload_n 0, 1) := by decide +kernel
theorem dX2_beginLine_1 : decode cX2_beginLine 1 = .ok (.dup, 1) := by decide +kernel
theorem dX2_beginLine_2 : decode cX2_beginLine 2 = .ok (.getfield 13, 3) := by decide +kernel
theorem dX2_beginLine_5 : decode cX2_beginLine 5 = .ok (.iconst 1, 1) := by decide +kernel
theorem dX2_beginLine_6 : decode cX2_beginLine 6 = .ok (.iadd, 1) := by decide +kernel
theorem dX2_beginLine_7 : decode cX2_beginLine 7 = .ok (.putfield 13, 3) := by decide +kernel
theorem dX2_beginLine_10 : decode cX2_beginLine 10 = .ok (.aload_n 0, 1) := by decide +kernel
theorem dX2_beginLine_11 : decode cX2_beginLine 11 = .ok (.iconst 0, 1) := by decide +kernel
theorem dX2_beginLine_12 : decode cX2_beginLine 12 = .ok (.putfield 17, 3) := by decide +kernel
theorem dX2_beginLine_15 : decode cX2_beginLine 15 = .ok (.return_, 1) := by decide +kernel
theorem dX2_print_0 : decode cX2_print 0 = .ok (.aload_n 0, 1) := by decide +kernel
theorem dX2_print_1 : decode cX2_print 1 = .ok (.getfield 17, 3) := by decide +kernel
theorem dX2_print_4 : decode cX2_print 4 = .ok (.ifCond .lt 23, 3) := by decide +kernel
theorem dX2_print_7 : decode cX2_print 7 = .ok (.aload_n 0, 1) := by decide +kernel
theorem dX2_print_8 : decode cX2_print 8 = .ok (.getfield 17, 3) := by decide +kernel
theorem dX2_print_11 : decode cX2_print 11 = .ok (.bipush 32, 2) := by decide +kernel
theorem dX2_print_13 : decode cX2_print 13 = .ok (.if_icmp .ge 14, 3) := by decide +kernel
theorem dX2_print_16 : decode cX2_print 16 = .ok (.aload_n 0, 1) := by decide +kernel
theorem dX2_print_17 : decode cX2_print 17 = .ok (.getfield 9, 3) := by decide +kernel
theorem dX2_print_20 : decode cX2_print 20 = .ok (.aload_n 0, 1) := by decide +kernel
theorem dX2_print_21 : decode cX2_print 21 = .ok (.getfield 17, 3) := by decide +kernel
theorem dX2_print_24 : decode cX2_print 24 = .ok (.iload_n 1, 1) := by decide +kernel
theorem dX2_print_25 : decode cX2_print 25 = .ok (.i2b, 1) := by decide +kernel
theorem dX2_print_26 : decode cX2_print 26 = .ok (.bastore, 1) := by decide +kernel
theorem dX2_print_27 : decode cX2_print 27 = .ok (.aload_n 0, 1) := by decide +kernel
theorem dX2_print_28 : decode cX2_print 28 = .ok (.dup, 1) := by decide +kernel
theorem dX2_print_29 : decode cX2_print 29 = .ok (.getfield 17, 3) := by decide +kernel
theorem dX2_print_32 : decode cX2_print 32 = .ok (.iconst 1, 1) := by decide +kernel
theorem dX2_print_33 : decode cX2_print 33 = .ok (.iadd, 1) := by decide +kernel
theorem dX2_print_34 : decode cX2_print 34 = .ok (.putfield 17, 3) := by decide +kernel
theorem dX2_print_37 : decode cX2_print 37 = .ok (.return_, 1) := by decide +kernel
theorem dX2_byteOfLine_0 : decode cX2_byteOfLine 0 = .ok (.iload_n 1, 1) := by decide +kernel
theorem dX2_byteOfLine_1 : decode cX2_byteOfLine 1 = .ok (.ifCond .lt 30, 3) := by decide +kernel
theorem dX2_byteOfLine_4 : decode cX2_byteOfLine 4 = .ok (.iload_n 1, 1) := by decide +kernel
theorem dX2_byteOfLine_5 : decode cX2_byteOfLine 5 = .ok (.aload_n 0, 1) := by decide +kernel
theorem dX2_byteOfLine_6 : decode cX2_byteOfLine 6 = .ok (.getfield 17, 3) := by decide +kernel
theorem dX2_byteOfLine_9 : decode cX2_byteOfLine 9 = .ok (.if_icmp .ge 22, 3) := by decide +kernel
theorem dX2_byteOfLine_12 : decode cX2_byteOfLine 12 = .ok (.iload_n 1, 1) := by decide +kernel
theorem dX2_byteOfLine_13 : decode cX2_byteOfLine 13 = .ok (.bipush 32, 2) := by decide +kernel
theorem dX2_byteOfLine_15 : decode cX2_byteOfLine 15 = .ok (.if_icmp .ge 16, 3) := by decide +kernel
theorem dX2_byteOfLine_18 : decode cX2_byteOfLine 18 = .ok (.aload_n 0, 1) := by decide +kernel
theorem dX2_byteOfLine_19 : decode cX2_byteOfLine 19 = .ok (.getfield 9, 3) := by decide +kernel
theorem dX2_byteOfLine_22 : decode cX2_byteOfLine 22 = .ok (.iload_n 1, 1) := by decide +kernel
theorem dX2_byteOfLine_23 : decode cX2_byteOfLine 23 = .ok (.baload, 1) := by decide +kernel
theorem dX2_byteOfLine_24 : decode cX2_byteOfLine 24 = .ok (.sipush 255, 3) := by decide +kernel
theorem dX2_byteOfLine_27 : decode cX2_byteOfLine 27 = .ok (.iand, 1) := by decide +kernel
theorem dX2_byteOfLine_28 : decode cX2_byteOfLine 28 = .ok (.goto 4, 3) := by decide +kernel
theorem dX2_byteOfLine_31 : decode cX2_byteOfLine 31 = .ok (.iconst (-1), 1) := by decide +kernel
theorem dX2_byteOfLine_32 : decode cX2_byteOfLine 32 = .ok (.ireturn, 1) := by decide +kernel
theorem dX4_init_0 : decode cX4_init 0 = .ok (.aload_n 0, 1) := by decide +kernel
theorem dX4_init_1 : decode cX4_init 1 = .ok (.invokespecial 1, 3) := by decide +kernel
theorem dX4_init_4 : decode cX4_init 4 = .ok (.aload_n 0, 1) := by decide +kernel
theorem dX4_init_5 : decode cX4_init 5 = .ok (.bipush 16, 2) := by decide +kernel
theorem dX4_init_7 : decode cX4_init 7 = .ok (.newarray .byte, 2) := by decide +kernel
theorem dX4_init_9 : decode cX4_init 9 = .ok (.putfield 9, 3) := by decide +kernel
theorem dX4_init_12 : decode cX4_init 12 = .ok (.aload_n 0, 1) := by decide +kernel
theorem dX4_init_13 : decode cX4_init 13 = .ok (.sipush 128, 3) := by decide +kernel
theorem dX4_init_16 : decode cX4_init 16 = .ok (.newarray .byte, 2) := by decide +kernel
theorem dX4_init_18 : decode cX4_init 18 = .ok (.putfield 13, 3) := by decide +kernel
theorem dX4_init_21 : decode cX4_init 21 = .ok (.aload_n 0, 1) := by decide +kernel
theorem dX4_init_22 : decode cX4_init 22 = .ok (.bipush 8, 2) := by decide +kernel
theorem dX4_init_24 : decode cX4_init 24 = .ok (.newarray .int, 2) := by decide +kernel
theorem dX4_init_26 : decode cX4_init 26 = .ok (.putfield 16, 3) := by decide +kernel
theorem dX4_init_29 : decode cX4_init 29 = .ok (.aload_n 0, 1) := by decide +kernel
theorem dX4_init_30 : decode cX4_init 30 = .ok (.bipush 16, 2) := by decide +kernel
theorem dX4_init_32 : decode cX4_init 32 = .ok (.newarray .byte, 2) := by decide +kernel
theorem dX4_init_34 : decode cX4_init 34 = .ok (.putfield 20, 3) := by decide +kernel
theorem dX4_init_37 : decode cX4_init 37 = .ok (.return_, 1) := by decide +kernel
theorem dX4_hasRoomFor_0 : decode cX4_hasRoomFor 0 = .ok (.aload_n 0, 1) := by decide +kernel
theorem dX4_hasRoomFor_1 : decode cX4_hasRoomFor 1 = .ok (.getfield 23, 3) := by decide +kernel
theorem dX4_hasRoomFor_4 : decode cX4_hasRoomFor 4 = .ok (.iload_n 1, 1) := by decide +kernel
theorem dX4_hasRoomFor_5 : decode cX4_hasRoomFor 5 = .ok (.iadd, 1) := by decide +kernel
theorem dX4_hasRoomFor_6 : decode cX4_hasRoomFor 6 = .ok (.bipush 16, 2) := by decide +kernel
theorem dX4_hasRoomFor_8 : decode cX4_hasRoomFor 8 = .ok (.if_icmp .gt 7, 3) := by decide +kernel
theorem dX4_hasRoomFor_11 : decode cX4_hasRoomFor 11 = .ok (.iconst 1, 1) := by decide +kernel
theorem dX4_hasRoomFor_12 : decode cX4_hasRoomFor 12 = .ok (.goto 4, 3) := by decide +kernel
theorem dX4_hasRoomFor_15 : decode cX4_hasRoomFor 15 = .ok (.iconst 0, 1) := by decide +kernel
theorem dX4_hasRoomFor_16 : decode cX4_hasRoomFor 16 = .ok (.ireturn, 1) := by decide +kernel
theorem dX4_append_0 : decode cX4_append 0 = .ok (.aload_n 0, 1) := by decide +kernel
theorem dX4_append_1 : decode cX4_append 1 = .ok (.getfield 23, 3) := by decide +kernel
theorem dX4_append_4 : decode cX4_append 4 = .ok (.ifCond .lt 33, 3) := by decide +kernel
theorem dX4_append_7 : decode cX4_append 7 = .ok (.aload_n 0, 1) := by decide +kernel
theorem dX4_append_8 : decode cX4_append 8 = .ok (.getfield 23, 3) := by decide +kernel
theorem dX4_append_11 : decode cX4_append 11 = .ok (.bipush 16, 2) := by decide +kernel
theorem dX4_append_13 : decode cX4_append 13 = .ok (.if_icmp .ge 24, 3) := by decide +kernel
theorem dX4_append_16 : decode cX4_append 16 = .ok (.aload_n 0, 1) := by decide +kernel
theorem dX4_append_17 : decode cX4_append 17 = .ok (.getfield 9, 3) := by decide +kernel
theorem dX4_append_20 : decode cX4_append 20 = .ok (.aload_n 0, 1) := by decide +kernel
theorem dX4_append_21 : decode cX4_append 21 = .ok (.getfield 23, 3) := by decide +kernel
theorem dX4_append_24 : decode cX4_append 24 = .ok (.iload_n 1, 1) := by decide +kernel
theorem dX4_append_25 : decode cX4_append 25 = .ok (.i2b, 1) := by decide +kernel
theorem dX4_append_26 : decode cX4_append 26 = .ok (.bastore, 1) := by decide +kernel
theorem dX4_append_27 : decode cX4_append 27 = .ok (.aload_n 0, 1) := by decide +kernel
theorem dX4_append_28 : decode cX4_append 28 = .ok (.dup, 1) := by decide +kernel
theorem dX4_append_29 : decode cX4_append 29 = .ok (.getfield 23, 3) := by decide +kernel
theorem dX4_append_32 : decode cX4_append 32 = .ok (.iconst 1, 1) := by decide +kernel
theorem dX4_append_33 : decode cX4_append 33 = .ok (.iadd, 1) := by decide +kernel
theorem dX4_append_34 : decode cX4_append 34 = .ok (.putfield 23, 3) := by decide +kernel
theorem dX4_append_37 : decode cX4_append 37 = .ok (.return_, 1) := by decide +kernel
theorem dX4_queueRecord_0 : decode cX4_queueRecord 0 = .ok (.aload_n 0, 1) := by decide +kernel
theorem dX4_queueRecord_1 : decode cX4_queueRecord 1 = .ok (.getfield 27, 3) := by decide +kernel
theorem dX4_queueRecord_4 : decode cX4_queueRecord 4 = .ok (.bipush 8, 2) := by decide +kernel
theorem dX4_queueRecord_6 : decode cX4_queueRecord 6 = .ok (.if_icmp .lt 5, 3) := by decide +kernel
theorem dX4_queueRecord_9 : decode cX4_queueRecord 9 = .ok (.iconst 0, 1) := by decide +kernel
theorem dX4_queueRecord_10 : decode cX4_queueRecord 10 = .ok (.ireturn, 1) := by decide +kernel
theorem dX4_queueRecord_11 : decode cX4_queueRecord 11 = .ok (.aload_n 0, 1) := by decide +kernel
theorem dX4_queueRecord_12 : decode cX4_queueRecord 12 = .ok (.getfield 30, 3) := by decide +kernel
theorem dX4_queueRecord_15 : decode cX4_queueRecord 15 = .ok (.aload_n 0, 1) := by decide +kernel
theorem dX4_queueRecord_16 : decode cX4_queueRecord 16 = .ok (.getfield 27, 3) := by decide +kernel
theorem dX4_queueRecord_19 : decode cX4_queueRecord 19 = .ok (.iadd, 1) := by decide +kernel
theorem dX4_queueRecord_20 : decode cX4_queueRecord 20 = .ok (.bipush 7, 2) := by decide +kernel
theorem dX4_queueRecord_22 : decode cX4_queueRecord 22 = .ok (.iand, 1) := by decide +kernel
theorem dX4_queueRecord_23 : decode cX4_queueRecord 23 = .ok (.istore_n 1, 1) := by decide +kernel
theorem dX4_queueRecord_24 : decode cX4_queueRecord 24 = .ok (.aload_n 0, 1) := by decide +kernel
theorem dX4_queueRecord_25 : decode cX4_queueRecord 25 = .ok (.getfield 9, 3) := by decide +kernel
theorem dX4_queueRecord_28 : decode cX4_queueRecord 28 = .ok (.iconst 0, 1) := by decide +kernel
theorem dX4_queueRecord_29 : decode cX4_queueRecord 29 = .ok (.aload_n 0, 1) := by decide +kernel
theorem dX4_queueRecord_30 : decode cX4_queueRecord 30 = .ok (.getfield 13, 3) := by decide +kernel
theorem dX4_queueRecord_33 : decode cX4_queueRecord 33 = .ok (.iload_n 1, 1) := by decide +kernel
theorem dX4_queueRecord_34 : decode cX4_queueRecord 34 = .ok (.bipush 16, 2) := by decide +kernel
theorem dX4_queueRecord_36 : decode cX4_queueRecord 36 = .ok (.imul, 1) := by decide +kernel
theorem dX4_queueRecord_37 : decode cX4_queueRecord 37 = .ok (.bipush 16, 2) := by decide +kernel
theorem dX4_queueRecord_39 : decode cX4_queueRecord 39 = .ok (.invokestatic 33, 3) := by decide +kernel
theorem dX4_queueRecord_42 : decode cX4_queueRecord 42 = .ok (.aload_n 0, 1) := by decide +kernel
theorem dX4_queueRecord_43 : decode cX4_queueRecord 43 = .ok (.getfield 16, 3) := by decide +kernel
theorem dX4_queueRecord_46 : decode cX4_queueRecord 46 = .ok (.iload_n 1, 1) := by decide +kernel
theorem dX4_queueRecord_47 : decode cX4_queueRecord 47 = .ok (.aload_n 0, 1) := by decide +kernel
theorem dX4_queueRecord_48 : decode cX4_queueRecord 48 = .ok (.getfield 23, 3) := by decide +kernel
theorem dX4_queueRecord_51 : decode cX4_queueRecord 51 = .ok (.iastore, 1) := by decide +kernel
theorem dX4_queueRecord_52 : decode cX4_queueRecord 52 = .ok (.aload_n 0, 1) := by decide +kernel
theorem dX4_queueRecord_53 : decode cX4_queueRecord 53 = .ok (.iconst 0, 1) := by decide +kernel
theorem dX4_queueRecord_54 : decode cX4_queueRecord 54 = .ok (.putfield 23, 3) := by decide +kernel
theorem dX4_queueRecord_57 : decode cX4_queueRecord 57 = .ok (.aload_n 0, 1) := by decide +kernel
theorem dX4_queueRecord_58 : decode cX4_queueRecord 58 = .ok (.dup, 1) := by decide +kernel
theorem dX4_queueRecord_59 : decode cX4_queueRecord 59 = .ok (.getfield 27, 3) := by decide +kernel
theorem dX4_queueRecord_62 : decode cX4_queueRecord 62 = .ok (.iconst 1, 1) := by decide +kernel
theorem dX4_queueRecord_63 : decode cX4_queueRecord 63 = .ok (.iadd, 1) := by decide +kernel
theorem dX4_queueRecord_64 : decode cX4_queueRecord 64 = .ok (.putfield 27, 3) := by decide +kernel
theorem dX4_queueRecord_67 : decode cX4_queueRecord 67 = .ok (.iconst 1, 1) := by decide +kernel
theorem dX4_queueRecord_68 : decode cX4_queueRecord 68 = .ok (.ireturn, 1) := by decide +kernel
theorem dX4_openRecord_0 : decode cX4_openRecord 0 = .ok (.aload_n 0, 1) := by decide +kernel
theorem dX4_openRecord_1 : decode cX4_openRecord 1 = .ok (.getfield 27, 3) := by decide +kernel
theorem dX4_openRecord_4 : decode cX4_openRecord 4 = .ok (.ifCond .ne 5, 3) := by decide +kernel
theorem dX4_openRecord_7 : decode cX4_openRecord 7 = .ok (.iconst 0, 1) := by decide +kernel
theorem dX4_openRecord_8 : decode cX4_openRecord 8 = .ok (.ireturn, 1) := by decide +kernel
theorem dX4_openRecord_9 : decode cX4_openRecord 9 = .ok (.aload_n 0, 1) := by decide +kernel
theorem dX4_openRecord_10 : decode cX4_openRecord 10 = .ok (.getfield 30, 3) := by decide +kernel
theorem dX4_openRecord_13 : decode cX4_openRecord 13 = .ok (.bipush 7, 2) := by decide +kernel
theorem dX4_openRecord_15 : decode cX4_openRecord 15 = .ok (.iand, 1) := by decide +kernel
theorem dX4_openRecord_16 : decode cX4_openRecord 16 = .ok (.istore_n 1, 1) := by decide +kernel
theorem dX4_openRecord_17 : decode cX4_openRecord 17 = .ok (.aload_n 0, 1) := by decide +kernel
theorem dX4_openRecord_18 : decode cX4_openRecord 18 = .ok (.getfield 13, 3) := by decide +kernel
theorem dX4_openRecord_21 : decode cX4_openRecord 21 = .ok (.iload_n 1, 1) := by decide +kernel
theorem dX4_openRecord_22 : decode cX4_openRecord 22 = .ok (.bipush 16, 2) := by decide +kernel
theorem dX4_openRecord_24 : decode cX4_openRecord 24 = .ok (.imul, 1) := by decide +kernel
theorem dX4_openRecord_25 : decode cX4_openRecord 25 = .ok (.aload_n 0, 1) := by decide +kernel
theorem dX4_openRecord_26 : decode cX4_openRecord 26 = .ok (.getfield 20, 3) := by decide +kernel
theorem dX4_openRecord_29 : decode cX4_openRecord 29 = .ok (.iconst 0, 1) := by decide +kernel
theorem dX4_openRecord_30 : decode cX4_openRecord 30 = .ok (.bipush 16, 2) := by decide +kernel
theorem dX4_openRecord_32 : decode cX4_openRecord 32 = .ok (.invokestatic 33, 3) := by decide +kernel
theorem dX4_openRecord_35 : decode cX4_openRecord 35 = .ok (.aload_n 0, 1) := by decide +kernel
theorem dX4_openRecord_36 : decode cX4_openRecord 36 = .ok (.aload_n 0, 1) := by decide +kernel
theorem dX4_openRecord_37 : decode cX4_openRecord 37 = .ok (.getfield 16, 3) := by decide +kernel
theorem dX4_openRecord_40 : decode cX4_openRecord 40 = .ok (.iload_n 1, 1) := by decide +kernel
theorem dX4_openRecord_41 : decode cX4_openRecord 41 = .ok (.iaload, 1) := by decide +kernel
theorem dX4_openRecord_42 : decode cX4_openRecord 42 = .ok (.putfield 39, 3) := by decide +kernel
theorem dX4_openRecord_45 : decode cX4_openRecord 45 = .ok (.aload_n 0, 1) := by decide +kernel
theorem dX4_openRecord_46 : decode cX4_openRecord 46 = .ok (.iconst 0, 1) := by decide +kernel
theorem dX4_openRecord_47 : decode cX4_openRecord 47 = .ok (.putfield 42, 3) := by decide +kernel
theorem dX4_openRecord_50 : decode cX4_openRecord 50 = .ok (.aload_n 0, 1) := by decide +kernel
theorem dX4_openRecord_51 : decode cX4_openRecord 51 = .ok (.iload_n 1, 1) := by decide +kernel
theorem dX4_openRecord_52 : decode cX4_openRecord 52 = .ok (.iconst 1, 1) := by decide +kernel
theorem dX4_openRecord_53 : decode cX4_openRecord 53 = .ok (.iadd, 1) := by decide +kernel
theorem dX4_openRecord_54 : decode cX4_openRecord 54 = .ok (.bipush 7, 2) := by decide +kernel
theorem dX4_openRecord_56 : decode cX4_openRecord 56 = .ok (.iand, 1) := by decide +kernel
theorem dX4_openRecord_57 : decode cX4_openRecord 57 = .ok (.putfield 30, 3) := by decide +kernel
theorem dX4_openRecord_60 : decode cX4_openRecord 60 = .ok (.aload_n 0, 1) := by decide +kernel
theorem dX4_openRecord_61 : decode cX4_openRecord 61 = .ok (.dup, 1) := by decide +kernel
theorem dX4_openRecord_62 : decode cX4_openRecord 62 = .ok (.getfield 27, 3) := by decide +kernel
theorem dX4_openRecord_65 : decode cX4_openRecord 65 = .ok (.iconst 1, 1) := by decide +kernel
theorem dX4_openRecord_66 : decode cX4_openRecord 66 = .ok (.isub, 1) := by decide +kernel
theorem dX4_openRecord_67 : decode cX4_openRecord 67 = .ok (.putfield 27, 3) := by decide +kernel
theorem dX4_openRecord_70 : decode cX4_openRecord 70 = .ok (.iconst 1, 1) := by decide +kernel
theorem dX4_openRecord_71 : decode cX4_openRecord 71 = .ok (.ireturn, 1) := by decide +kernel
theorem dX4_isAtEnd_0 : decode cX4_isAtEnd 0 = .ok (.aload_n 0, 1) := by decide +kernel
theorem dX4_isAtEnd_1 : decode cX4_isAtEnd 1 = .ok (.getfield 42, 3) := by decide +kernel
theorem dX4_isAtEnd_4 : decode cX4_isAtEnd 4 = .ok (.aload_n 0, 1) := by decide +kernel
theorem dX4_isAtEnd_5 : decode cX4_isAtEnd 5 = .ok (.getfield 39, 3) := by decide +kernel
theorem dX4_isAtEnd_8 : decode cX4_isAtEnd 8 = .ok (.if_icmp .lt 7, 3) := by decide +kernel
theorem dX4_isAtEnd_11 : decode cX4_isAtEnd 11 = .ok (.iconst 1, 1) := by decide +kernel
theorem dX4_isAtEnd_12 : decode cX4_isAtEnd 12 = .ok (.goto 4, 3) := by decide +kernel
theorem dX4_isAtEnd_15 : decode cX4_isAtEnd 15 = .ok (.iconst 0, 1) := by decide +kernel
theorem dX4_isAtEnd_16 : decode cX4_isAtEnd 16 = .ok (.ireturn, 1) := by decide +kernel
theorem dX4_nextByte_0 : decode cX4_nextByte 0 = .ok (.aload_n 0, 1) := by decide +kernel
theorem dX4_nextByte_1 : decode cX4_nextByte 1 = .ok (.getfield 42, 3) := by decide +kernel
theorem dX4_nextByte_4 : decode cX4_nextByte 4 = .ok (.ifCond .lt 28, 3) := by decide +kernel
theorem dX4_nextByte_7 : decode cX4_nextByte 7 = .ok (.aload_n 0, 1) := by decide +kernel
theorem dX4_nextByte_8 : decode cX4_nextByte 8 = .ok (.getfield 42, 3) := by decide +kernel
theorem dX4_nextByte_11 : decode cX4_nextByte 11 = .ok (.bipush 16, 2) := by decide +kernel
theorem dX4_nextByte_13 : decode cX4_nextByte 13 = .ok (.if_icmp .ge 19, 3) := by decide +kernel
theorem dX4_nextByte_16 : decode cX4_nextByte 16 = .ok (.aload_n 0, 1) := by decide +kernel
theorem dX4_nextByte_17 : decode cX4_nextByte 17 = .ok (.getfield 20, 3) := by decide +kernel
theorem dX4_nextByte_20 : decode cX4_nextByte 20 = .ok (.aload_n 0, 1) := by decide +kernel
theorem dX4_nextByte_21 : decode cX4_nextByte 21 = .ok (.getfield 42, 3) := by decide +kernel
theorem dX4_nextByte_24 : decode cX4_nextByte 24 = .ok (.baload, 1) := by decide +kernel
theorem dX4_nextByte_25 : decode cX4_nextByte 25 = .ok (.sipush 255, 3) := by decide +kernel
theorem dX4_nextByte_28 : decode cX4_nextByte 28 = .ok (.iand, 1) := by decide +kernel
theorem dX4_nextByte_29 : decode cX4_nextByte 29 = .ok (.goto 4, 3) := by decide +kernel
theorem dX4_nextByte_32 : decode cX4_nextByte 32 = .ok (.iconst 0, 1) := by decide +kernel
theorem dX4_nextByte_33 : decode cX4_nextByte 33 = .ok (.istore_n 1, 1) := by decide +kernel
theorem dX4_nextByte_34 : decode cX4_nextByte 34 = .ok (.aload_n 0, 1) := by decide +kernel
theorem dX4_nextByte_35 : decode cX4_nextByte 35 = .ok (.dup, 1) := by decide +kernel
theorem dX4_nextByte_36 : decode cX4_nextByte 36 = .ok (.getfield 42, 3) := by decide +kernel
theorem dX4_nextByte_39 : decode cX4_nextByte 39 = .ok (.iconst 1, 1) := by decide +kernel
theorem dX4_nextByte_40 : decode cX4_nextByte 40 = .ok (.iadd, 1) := by decide +kernel
theorem dX4_nextByte_41 : decode cX4_nextByte 41 = .ok (.putfield 42, 3) := by decide +kernel
theorem dX4_nextByte_44 : decode cX4_nextByte 44 = .ok (.iload_n 1, 1) := by decide +kernel
theorem dX4_nextByte_45 : decode cX4_nextByte 45 = .ok (.ireturn, 1) := by decide +kernel
theorem dX4_skipByte_0 : decode cX4_skipByte 0 = .ok (.aload_n 0, 1) := by decide +kernel
theorem dX4_skipByte_1 : decode cX4_skipByte 1 = .ok (.dup, 1) := by decide +kernel
theorem dX4_skipByte_2 : decode cX4_skipByte 2 = .ok (.getfield 42, 3) := by decide +kernel
theorem dX4_skipByte_5 : decode cX4_skipByte 5 = .ok (.iconst 1, 1) := by decide +kernel
theorem dX4_skipByte_6 : decode cX4_skipByte 6 = .ok (.iadd, 1) := by decide +kernel
theorem dX4_skipByte_7 : decode cX4_skipByte 7 = .ok (.putfield 42, 3) := by decide +kernel
theorem dX4_skipByte_10 : decode cX4_skipByte 10 = .ok (.return_, 1) := by decide +kernel
theorem dX5_init_0 : decode cX5_init 0 = .ok (.aload_n 0, 1) := by decide +kernel
theorem dX5_init_1 : decode cX5_init 1 = .ok (.invokespecial 3, 3) := by decide +kernel
theorem dX5_init_4 : decode cX5_init 4 = .ok (.return_, 1) := by decide +kernel
theorem dX5_part_0 : decode cX5_part 0 = .ok (.iload_n 1, 1) := by decide +kernel
theorem dX5_part_1 : decode cX5_part 1 = .ok (.tableswitch 51 16 19 #[31, 36, 41, 46], 31) := by decide +kernel
theorem dX5_part_32 : decode cX5_part 32 = .ok (.aload_n 0, 1) := by decide +kernel
theorem dX5_part_33 : decode cX5_part 33 = .ok (.getfield 9, 3) := by decide +kernel
theorem dX5_part_36 : decode cX5_part 36 = .ok (.ireturn, 1) := by decide +kernel
theorem dX5_part_37 : decode cX5_part 37 = .ok (.aload_n 0, 1) := by decide +kernel
theorem dX5_part_38 : decode cX5_part 38 = .ok (.getfield 15, 3) := by decide +kernel
theorem dX5_part_41 : decode cX5_part 41 = .ok (.ireturn, 1) := by decide +kernel
theorem dX5_part_42 : decode cX5_part 42 = .ok (.aload_n 0, 1) := by decide +kernel
theorem dX5_part_43 : decode cX5_part 43 = .ok (.getfield 18, 3) := by decide +kernel
theorem dX5_part_46 : decode cX5_part 46 = .ok (.ireturn, 1) := by decide +kernel
theorem dX5_part_47 : decode cX5_part 47 = .ok (.aload_n 0, 1) := by decide +kernel
theorem dX5_part_48 : decode cX5_part 48 = .ok (.getfield 21, 3) := by decide +kernel
theorem dX5_part_51 : decode cX5_part 51 = .ok (.ireturn, 1) := by decide +kernel
theorem dX5_part_52 : decode cX5_part 52 = .ok (.iconst (-1), 1) := by decide +kernel
theorem dX5_part_53 : decode cX5_part 53 = .ok (.ireturn, 1) := by decide +kernel
theorem dX5_putPart_0 : decode cX5_putPart 0 = .ok (.iload_n 1, 1) := by decide +kernel
theorem dX5_putPart_1 : decode cX5_putPart 1 = .ok (.tableswitch 71 16 19 #[31, 39, 50, 61], 31) := by decide +kernel
theorem dX5_putPart_32 : decode cX5_putPart 32 = .ok (.aload_n 0, 1) := by decide +kernel
theorem dX5_putPart_33 : decode cX5_putPart 33 = .ok (.iload_n 2, 1) := by decide +kernel
theorem dX5_putPart_34 : decode cX5_putPart 34 = .ok (.invokevirtual 24, 3) := by decide +kernel
theorem dX5_putPart_37 : decode cX5_putPart 37 = .ok (.goto 35, 3) := by decide +kernel
theorem dX5_putPart_40 : decode cX5_putPart 40 = .ok (.aload_n 0, 1) := by decide +kernel
theorem dX5_putPart_41 : decode cX5_putPart 41 = .ok (.iload_n 2, 1) := by decide +kernel
theorem dX5_putPart_42 : decode cX5_putPart 42 = .ok (.bipush 15, 2) := by decide +kernel
theorem dX5_putPart_44 : decode cX5_putPart 44 = .ok (.iand, 1) := by decide +kernel
theorem dX5_putPart_45 : decode cX5_putPart 45 = .ok (.putfield 15, 3) := by decide +kernel
theorem dX5_putPart_48 : decode cX5_putPart 48 = .ok (.goto 24, 3) := by decide +kernel
theorem dX5_putPart_51 : decode cX5_putPart 51 = .ok (.aload_n 0, 1) := by decide +kernel
theorem dX5_putPart_52 : decode cX5_putPart 52 = .ok (.iload_n 2, 1) := by decide +kernel
theorem dX5_putPart_53 : decode cX5_putPart 53 = .ok (.bipush 31, 2) := by decide +kernel
theorem dX5_putPart_55 : decode cX5_putPart 55 = .ok (.iand, 1) := by decide +kernel
theorem dX5_putPart_56 : decode cX5_putPart 56 = .ok (.putfield 18, 3) := by decide +kernel
theorem dX5_putPart_59 : decode cX5_putPart 59 = .ok (.goto 13, 3) := by decide +kernel
theorem dX5_putPart_62 : decode cX5_putPart 62 = .ok (.aload_n 0, 1) := by decide +kernel
theorem dX5_putPart_63 : decode cX5_putPart 63 = .ok (.iload_n 2, 1) := by decide +kernel
theorem dX5_putPart_64 : decode cX5_putPart 64 = .ok (.iconst 3, 1) := by decide +kernel
theorem dX5_putPart_65 : decode cX5_putPart 65 = .ok (.iand, 1) := by decide +kernel
theorem dX5_putPart_66 : decode cX5_putPart 66 = .ok (.putfield 21, 3) := by decide +kernel
theorem dX5_putPart_69 : decode cX5_putPart 69 = .ok (.goto 3, 3) := by decide +kernel
theorem dX5_putPart_72 : decode cX5_putPart 72 = .ok (.return_, 1) := by decide +kernel
theorem dX5_goTo_0 : decode cX5_goTo 0 = .ok (.aload_n 0, 1) := by decide +kernel
theorem dX5_goTo_1 : decode cX5_goTo 1 = .ok (.iload_n 1, 1) := by decide +kernel
theorem dX5_goTo_2 : decode cX5_goTo 2 = .ok (.ldc 28, 2) := by decide +kernel
theorem dX5_goTo_4 : decode cX5_goTo 4 = .ok (.iand, 1) := by decide +kernel
theorem dX5_goTo_5 : decode cX5_goTo 5 = .ok (.putfield 9, 3) := by decide +kernel
theorem dX5_goTo_8 : decode cX5_goTo 8 = .ok (.return_, 1) := by decide +kernel
theorem dX5_allows_0 : decode cX5_allows 0 = .ok (.aload_n 0, 1) := by decide +kernel
theorem dX5_allows_1 : decode cX5_allows 1 = .ok (.getfield 18, 3) := by decide +kernel
theorem dX5_allows_4 : decode cX5_allows 4 = .ok (.iload_n 1, 1) := by decide +kernel
theorem dX5_allows_5 : decode cX5_allows 5 = .ok (.iand, 1) := by decide +kernel
theorem dX5_allows_6 : decode cX5_allows 6 = .ok (.ifCond .eq 7, 3) := by decide +kernel
theorem dX5_allows_9 : decode cX5_allows 9 = .ok (.iconst 1, 1) := by decide +kernel
theorem dX5_allows_10 : decode cX5_allows 10 = .ok (.goto 4, 3) := by decide +kernel
theorem dX5_allows_13 : decode cX5_allows 13 = .ok (.iconst 0, 1) := by decide +kernel
theorem dX5_allows_14 : decode cX5_allows 14 = .ok (.ireturn, 1) := by decide +kernel
theorem dX5_putTo_0 : decode cX5_putTo 0 = .ok (.aload_n 1, 1) := by decide +kernel
theorem dX5_putTo_1 : decode cX5_putTo 1 = .ok (.iload_n 2, 1) := by decide +kernel
theorem dX5_putTo_2 : decode cX5_putTo 2 = .ok (.aload_n 0, 1) := by decide +kernel
theorem dX5_putTo_3 : decode cX5_putTo 3 = .ok (.getfield 18, 3) := by decide +kernel
theorem dX5_putTo_6 : decode cX5_putTo 6 = .ok (.invokevirtual 29, 3) := by decide +kernel
theorem dX5_putTo_9 : decode cX5_putTo 9 = .ok (.aload_n 1, 1) := by decide +kernel
theorem dX5_putTo_10 : decode cX5_putTo 10 = .ok (.iload_n 2, 1) := by decide +kernel
theorem dX5_putTo_11 : decode cX5_putTo 11 = .ok (.iconst 1, 1) := by decide +kernel
theorem dX5_putTo_12 : decode cX5_putTo 12 = .ok (.iadd, 1) := by decide +kernel
theorem dX5_putTo_13 : decode cX5_putTo 13 = .ok (.aload_n 0, 1) := by decide +kernel
theorem dX5_putTo_14 : decode cX5_putTo 14 = .ok (.getfield 15, 3) := by decide +kernel
theorem dX5_putTo_17 : decode cX5_putTo 17 = .ok (.bipush 16, 2) := by decide +kernel
theorem dX5_putTo_19 : decode cX5_putTo 19 = .ok (.imul, 1) := by decide +kernel
theorem dX5_putTo_20 : decode cX5_putTo 20 = .ok (.aload_n 0, 1) := by decide +kernel
theorem dX5_putTo_21 : decode cX5_putTo 21 = .ok (.getfield 21, 3) := by decide +kernel
theorem dX5_putTo_24 : decode cX5_putTo 24 = .ok (.iadd, 1) := by decide +kernel
theorem dX5_putTo_25 : decode cX5_putTo 25 = .ok (.invokevirtual 29, 3) := by decide +kernel
theorem dX5_putTo_28 : decode cX5_putTo 28 = .ok (.aload_n 1, 1) := by decide +kernel
theorem dX5_putTo_29 : decode cX5_putTo 29 = .ok (.iload_n 2, 1) := by decide +kernel
theorem dX5_putTo_30 : decode cX5_putTo 30 = .ok (.iconst 2, 1) := by decide +kernel
theorem dX5_putTo_31 : decode cX5_putTo 31 = .ok (.iadd, 1) := by decide +kernel
theorem dX5_putTo_32 : decode cX5_putTo 32 = .ok (.iload_n 3, 1) := by decide +kernel
theorem dX5_putTo_33 : decode cX5_putTo 33 = .ok (.invokevirtual 35, 3) := by decide +kernel
theorem dX5_putTo_36 : decode cX5_putTo 36 = .ok (.aload_n 1, 1) := by decide +kernel
theorem dX5_putTo_37 : decode cX5_putTo 37 = .ok (.iload_n 2, 1) := by decide +kernel
theorem dX5_putTo_38 : decode cX5_putTo 38 = .ok (.iconst 4, 1) := by decide +kernel
theorem dX5_putTo_39 : decode cX5_putTo 39 = .ok (.iadd, 1) := by decide +kernel
theorem dX5_putTo_40 : decode cX5_putTo 40 = .ok (.iconst 0, 1) := by decide +kernel
theorem dX5_putTo_41 : decode cX5_putTo 41 = .ok (.invokevirtual 35, 3) := by decide +kernel
theorem dX5_putTo_44 : decode cX5_putTo 44 = .ok (.aload_n 1, 1) := by decide +kernel
theorem dX5_putTo_45 : decode cX5_putTo 45 = .ok (.iload_n 2, 1) := by decide +kernel
theorem dX5_putTo_46 : decode cX5_putTo 46 = .ok (.bipush 6, 2) := by decide +kernel
theorem dX5_putTo_48 : decode cX5_putTo 48 = .ok (.iadd, 1) := by decide +kernel
theorem dX5_putTo_49 : decode cX5_putTo 49 = .ok (.aload_n 0, 1) := by decide +kernel
theorem dX5_putTo_50 : decode cX5_putTo 50 = .ok (.getfield 9, 3) := by decide +kernel
theorem dX5_putTo_53 : decode cX5_putTo 53 = .ok (.invokevirtual 35, 3) := by decide +kernel
theorem dX5_putTo_56 : decode cX5_putTo 56 = .ok (.return_, 1) := by decide +kernel
theorem dX5_loadFrom_0 : decode cX5_loadFrom 0 = .ok (.aload_n 1, 1) := by decide +kernel
theorem dX5_loadFrom_1 : decode cX5_loadFrom 1 = .ok (.iload_n 2, 1) := by decide +kernel
theorem dX5_loadFrom_2 : decode cX5_loadFrom 2 = .ok (.iconst 1, 1) := by decide +kernel
theorem dX5_loadFrom_3 : decode cX5_loadFrom 3 = .ok (.iadd, 1) := by decide +kernel
theorem dX5_loadFrom_4 : decode cX5_loadFrom 4 = .ok (.invokevirtual 38, 3) := by decide +kernel
theorem dX5_loadFrom_7 : decode cX5_loadFrom 7 = .ok (.istore_n 3, 1) := by decide +kernel
theorem dX5_loadFrom_8 : decode cX5_loadFrom 8 = .ok (.aload_n 0, 1) := by decide +kernel
theorem dX5_loadFrom_9 : decode cX5_loadFrom 9 = .ok (.aload_n 1, 1) := by decide +kernel
theorem dX5_loadFrom_10 : decode cX5_loadFrom 10 = .ok (.iload_n 2, 1) := by decide +kernel
theorem dX5_loadFrom_11 : decode cX5_loadFrom 11 = .ok (.invokevirtual 38, 3) := by decide +kernel
theorem dX5_loadFrom_14 : decode cX5_loadFrom 14 = .ok (.bipush 31, 2) := by decide +kernel
theorem dX5_loadFrom_16 : decode cX5_loadFrom 16 = .ok (.iand, 1) := by decide +kernel
theorem dX5_loadFrom_17 : decode cX5_loadFrom 17 = .ok (.putfield 18, 3) := by decide +kernel
theorem dX5_loadFrom_20 : decode cX5_loadFrom 20 = .ok (.aload_n 0, 1) := by decide +kernel
theorem dX5_loadFrom_21 : decode cX5_loadFrom 21 = .ok (.iload_n 3, 1) := by decide +kernel
theorem dX5_loadFrom_22 : decode cX5_loadFrom 22 = .ok (.iconst 4, 1) := by decide +kernel
theorem dX5_loadFrom_23 : decode cX5_loadFrom 23 = .ok (.ishr, 1) := by decide +kernel
theorem dX5_loadFrom_24 : decode cX5_loadFrom 24 = .ok (.putfield 15, 3) := by decide +kernel
theorem dX5_loadFrom_27 : decode cX5_loadFrom 27 = .ok (.aload_n 0, 1) := by decide +kernel
theorem dX5_loadFrom_28 : decode cX5_loadFrom 28 = .ok (.iload_n 3, 1) := by decide +kernel
theorem dX5_loadFrom_29 : decode cX5_loadFrom 29 = .ok (.iconst 3, 1) := by decide +kernel
theorem dX5_loadFrom_30 : decode cX5_loadFrom 30 = .ok (.iand, 1) := by decide +kernel
theorem dX5_loadFrom_31 : decode cX5_loadFrom 31 = .ok (.putfield 21, 3) := by decide +kernel
theorem dX5_loadFrom_34 : decode cX5_loadFrom 34 = .ok (.aload_n 0, 1) := by decide +kernel
theorem dX5_loadFrom_35 : decode cX5_loadFrom 35 = .ok (.aload_n 1, 1) := by decide +kernel
theorem dX5_loadFrom_36 : decode cX5_loadFrom 36 = .ok (.iload_n 2, 1) := by decide +kernel
theorem dX5_loadFrom_37 : decode cX5_loadFrom 37 = .ok (.bipush 6, 2) := by decide +kernel
theorem dX5_loadFrom_39 : decode cX5_loadFrom 39 = .ok (.iadd, 1) := by decide +kernel
theorem dX5_loadFrom_40 : decode cX5_loadFrom 40 = .ok (.invokevirtual 42, 3) := by decide +kernel
theorem dX5_loadFrom_43 : decode cX5_loadFrom 43 = .ok (.putfield 9, 3) := by decide +kernel
theorem dX5_loadFrom_46 : decode cX5_loadFrom 46 = .ok (.return_, 1) := by decide +kernel
theorem dX6_init_0 : decode cX6_init 0 = .ok (.aload_n 0, 1) := by decide +kernel
theorem dX6_init_1 : decode cX6_init 1 = .ok (.invokespecial 3, 3) := by decide +kernel
theorem dX6_init_4 : decode cX6_init 4 = .ok (.aload_n 0, 1) := by decide +kernel
theorem dX6_init_5 : decode cX6_init 5 = .ok (.sipush 2048, 3) := by decide +kernel
theorem dX6_init_8 : decode cX6_init 8 = .ok (.newarray .byte, 2) := by decide +kernel
theorem dX6_init_10 : decode cX6_init 10 = .ok (.putfield 9, 3) := by decide +kernel
theorem dX6_init_13 : decode cX6_init 13 = .ok (.aload_n 0, 1) := by decide +kernel
theorem dX6_init_14 : decode cX6_init 14 = .ok (.bipush 8, 2) := by decide +kernel
theorem dX6_init_16 : decode cX6_init 16 = .ok (.newarray .int, 2) := by decide +kernel
theorem dX6_init_18 : decode cX6_init 18 = .ok (.putfield 15, 3) := by decide +kernel
theorem dX6_init_21 : decode cX6_init 21 = .ok (.return_, 1) := by decide +kernel
theorem dX6_holds_0 : decode cX6_holds 0 = .ok (.iload_n 0, 1) := by decide +kernel
theorem dX6_holds_1 : decode cX6_holds 1 = .ok (.ifCond .lt 16, 3) := by decide +kernel
theorem dX6_holds_4 : decode cX6_holds 4 = .ok (.iload_n 0, 1) := by decide +kernel
theorem dX6_holds_5 : decode cX6_holds 5 = .ok (.sipush 2048, 3) := by decide +kernel
theorem dX6_holds_8 : decode cX6_holds 8 = .ok (.iload_n 1, 1) := by decide +kernel
theorem dX6_holds_9 : decode cX6_holds 9 = .ok (.isub, 1) := by decide +kernel
theorem dX6_holds_10 : decode cX6_holds 10 = .ok (.if_icmp .gt 7, 3) := by decide +kernel
theorem dX6_holds_13 : decode cX6_holds 13 = .ok (.iconst 1, 1) := by decide +kernel
theorem dX6_holds_14 : decode cX6_holds 14 = .ok (.goto 4, 3) := by decide +kernel
theorem dX6_holds_17 : decode cX6_holds 17 = .ok (.iconst 0, 1) := by decide +kernel
theorem dX6_holds_18 : decode cX6_holds 18 = .ok (.ireturn, 1) := by decide +kernel
theorem dX6_byteAt_0 : decode cX6_byteAt 0 = .ok (.iload_n 1, 1) := by decide +kernel
theorem dX6_byteAt_1 : decode cX6_byteAt 1 = .ok (.ifCond .lt 23, 3) := by decide +kernel
theorem dX6_byteAt_4 : decode cX6_byteAt 4 = .ok (.iload_n 1, 1) := by decide +kernel
theorem dX6_byteAt_5 : decode cX6_byteAt 5 = .ok (.sipush 2048, 3) := by decide +kernel
theorem dX6_byteAt_8 : decode cX6_byteAt 8 = .ok (.if_icmp .ge 16, 3) := by decide +kernel
theorem dX6_byteAt_11 : decode cX6_byteAt 11 = .ok (.aload_n 0, 1) := by decide +kernel
theorem dX6_byteAt_12 : decode cX6_byteAt 12 = .ok (.getfield 9, 3) := by decide +kernel
theorem dX6_byteAt_15 : decode cX6_byteAt 15 = .ok (.iload_n 1, 1) := by decide +kernel
theorem dX6_byteAt_16 : decode cX6_byteAt 16 = .ok (.baload, 1) := by decide +kernel
theorem dX6_byteAt_17 : decode cX6_byteAt 17 = .ok (.sipush 255, 3) := by decide +kernel
theorem dX6_byteAt_20 : decode cX6_byteAt 20 = .ok (.iand, 1) := by decide +kernel
theorem dX6_byteAt_21 : decode cX6_byteAt 21 = .ok (.goto 4, 3) := by decide +kernel
theorem dX6_byteAt_24 : decode cX6_byteAt 24 = .ok (.iconst 0, 1) := by decide +kernel
theorem dX6_byteAt_25 : decode cX6_byteAt 25 = .ok (.ireturn, 1) := by decide +kernel
theorem dX6_putByte_0 : decode cX6_putByte 0 = .ok (.iload_n 1, 1) := by decide +kernel
theorem dX6_putByte_1 : decode cX6_putByte 1 = .ok (.ifCond .lt 18, 3) := by decide +kernel
theorem dX6_putByte_4 : decode cX6_putByte 4 = .ok (.iload_n 1, 1) := by decide +kernel
theorem dX6_putByte_5 : decode cX6_putByte 5 = .ok (.sipush 2048, 3) := by decide +kernel
theorem dX6_putByte_8 : decode cX6_putByte 8 = .ok (.if_icmp .ge 11, 3) := by decide +kernel
theorem dX6_putByte_11 : decode cX6_putByte 11 = .ok (.aload_n 0, 1) := by decide +kernel
theorem dX6_putByte_12 : decode cX6_putByte 12 = .ok (.getfield 9, 3) := by decide +kernel
theorem dX6_putByte_15 : decode cX6_putByte 15 = .ok (.iload_n 1, 1) := by decide +kernel
theorem dX6_putByte_16 : decode cX6_putByte 16 = .ok (.iload_n 2, 1) := by decide +kernel
theorem dX6_putByte_17 : decode cX6_putByte 17 = .ok (.i2b, 1) := by decide +kernel
theorem dX6_putByte_18 : decode cX6_putByte 18 = .ok (.bastore, 1) := by decide +kernel
theorem dX6_putByte_19 : decode cX6_putByte 19 = .ok (.return_, 1) := by decide +kernel
theorem dX6_halfAt_0 : decode cX6_halfAt 0 = .ok (.aload_n 0, 1) := by decide +kernel
theorem dX6_halfAt_1 : decode cX6_halfAt 1 = .ok (.iload_n 1, 1) := by decide +kernel
theorem dX6_halfAt_2 : decode cX6_halfAt 2 = .ok (.invokevirtual 19, 3) := by decide +kernel
theorem dX6_halfAt_5 : decode cX6_halfAt 5 = .ok (.bipush 8, 2) := by decide +kernel
theorem dX6_halfAt_7 : decode cX6_halfAt 7 = .ok (.ishl, 1) := by decide +kernel
theorem dX6_halfAt_8 : decode cX6_halfAt 8 = .ok (.aload_n 0, 1) := by decide +kernel
theorem dX6_halfAt_9 : decode cX6_halfAt 9 = .ok (.iload_n 1, 1) := by decide +kernel
theorem dX6_halfAt_10 : decode cX6_halfAt 10 = .ok (.iconst 1, 1) := by decide +kernel
theorem dX6_halfAt_11 : decode cX6_halfAt 11 = .ok (.iadd, 1) := by decide +kernel
theorem dX6_halfAt_12 : decode cX6_halfAt 12 = .ok (.invokevirtual 19, 3) := by decide +kernel
theorem dX6_halfAt_15 : decode cX6_halfAt 15 = .ok (.ior, 1) := by decide +kernel
theorem dX6_halfAt_16 : decode cX6_halfAt 16 = .ok (.ireturn, 1) := by decide +kernel
theorem dX6_wordAt_0 : decode cX6_wordAt 0 = .ok (.iconst 0, 1) := by decide +kernel
theorem dX6_wordAt_1 : decode cX6_wordAt 1 = .ok (.istore_n 2, 1) := by decide +kernel
theorem dX6_wordAt_2 : decode cX6_wordAt 2 = .ok (.iconst 0, 1) := by decide +kernel
theorem dX6_wordAt_3 : decode cX6_wordAt 3 = .ok (.istore_n 3, 1) := by decide +kernel
theorem dX6_wordAt_4 : decode cX6_wordAt 4 = .ok (.iload_n 3, 1) := by decide +kernel
theorem dX6_wordAt_5 : decode cX6_wordAt 5 = .ok (.iconst 4, 1) := by decide +kernel
theorem dX6_wordAt_6 : decode cX6_wordAt 6 = .ok (.if_icmp .ge 22, 3) := by decide +kernel
theorem dX6_wordAt_9 : decode cX6_wordAt 9 = .ok (.iload_n 2, 1) := by decide +kernel
theorem dX6_wordAt_10 : decode cX6_wordAt 10 = .ok (.bipush 8, 2) := by decide +kernel
theorem dX6_wordAt_12 : decode cX6_wordAt 12 = .ok (.ishl, 1) := by decide +kernel
theorem dX6_wordAt_13 : decode cX6_wordAt 13 = .ok (.aload_n 0, 1) := by decide +kernel
theorem dX6_wordAt_14 : decode cX6_wordAt 14 = .ok (.iload_n 1, 1) := by decide +kernel
theorem dX6_wordAt_15 : decode cX6_wordAt 15 = .ok (.iload_n 3, 1) := by decide +kernel
theorem dX6_wordAt_16 : decode cX6_wordAt 16 = .ok (.iadd, 1) := by decide +kernel
theorem dX6_wordAt_17 : decode cX6_wordAt 17 = .ok (.invokevirtual 19, 3) := by decide +kernel
theorem dX6_wordAt_20 : decode cX6_wordAt 20 = .ok (.ior, 1) := by decide +kernel
theorem dX6_wordAt_21 : decode cX6_wordAt 21 = .ok (.istore_n 2, 1) := by decide +kernel
theorem dX6_wordAt_22 : decode cX6_wordAt 22 = .ok (.iinc 3 1, 3) := by decide +kernel
theorem dX6_wordAt_25 : decode cX6_wordAt 25 = .ok (.goto (-21), 3) := by decide +kernel
theorem dX6_wordAt_28 : decode cX6_wordAt 28 = .ok (.iload_n 2, 1) := by decide +kernel
theorem dX6_wordAt_29 : decode cX6_wordAt 29 = .ok (.ireturn, 1) := by decide +kernel
theorem dX6_putHalf_0 : decode cX6_putHalf 0 = .ok (.aload_n 0, 1) := by decide +kernel
theorem dX6_putHalf_1 : decode cX6_putHalf 1 = .ok (.iload_n 1, 1) := by decide +kernel
theorem dX6_putHalf_2 : decode cX6_putHalf 2 = .ok (.iload_n 2, 1) := by decide +kernel
theorem dX6_putHalf_3 : decode cX6_putHalf 3 = .ok (.bipush 8, 2) := by decide +kernel
theorem dX6_putHalf_5 : decode cX6_putHalf 5 = .ok (.ishr, 1) := by decide +kernel
theorem dX6_putHalf_6 : decode cX6_putHalf 6 = .ok (.invokevirtual 23, 3) := by decide +kernel
theorem dX6_putHalf_9 : decode cX6_putHalf 9 = .ok (.aload_n 0, 1) := by decide +kernel
theorem dX6_putHalf_10 : decode cX6_putHalf 10 = .ok (.iload_n 1, 1) := by decide +kernel
theorem dX6_putHalf_11 : decode cX6_putHalf 11 = .ok (.iconst 1, 1) := by decide +kernel
theorem dX6_putHalf_12 : decode cX6_putHalf 12 = .ok (.iadd, 1) := by decide +kernel
theorem dX6_putHalf_13 : decode cX6_putHalf 13 = .ok (.iload_n 2, 1) := by decide +kernel
theorem dX6_putHalf_14 : decode cX6_putHalf 14 = .ok (.invokevirtual 23, 3) := by decide +kernel
theorem dX6_putHalf_17 : decode cX6_putHalf 17 = .ok (.return_, 1) := by decide +kernel
theorem dX6_putWord_0 : decode cX6_putWord 0 = .ok (.iconst 0, 1) := by decide +kernel
theorem dX6_putWord_1 : decode cX6_putWord 1 = .ok (.istore_n 3, 1) := by decide +kernel
theorem dX6_putWord_2 : decode cX6_putWord 2 = .ok (.iload_n 3, 1) := by decide +kernel
theorem dX6_putWord_3 : decode cX6_putWord 3 = .ok (.iconst 4, 1) := by decide +kernel
theorem dX6_putWord_4 : decode cX6_putWord 4 = .ok (.if_icmp .ge 24, 3) := by decide +kernel
theorem dX6_putWord_7 : decode cX6_putWord 7 = .ok (.aload_n 0, 1) := by decide +kernel
theorem dX6_putWord_8 : decode cX6_putWord 8 = .ok (.iload_n 1, 1) := by decide +kernel
theorem dX6_putWord_9 : decode cX6_putWord 9 = .ok (.iload_n 3, 1) := by decide +kernel
theorem dX6_putWord_10 : decode cX6_putWord 10 = .ok (.iadd, 1) := by decide +kernel
theorem dX6_putWord_11 : decode cX6_putWord 11 = .ok (.iload_n 2, 1) := by decide +kernel
theorem dX6_putWord_12 : decode cX6_putWord 12 = .ok (.i2l, 1) := by decide +kernel
theorem dX6_putWord_13 : decode cX6_putWord 13 = .ok (.iconst 3, 1) := by decide +kernel
theorem dX6_putWord_14 : decode cX6_putWord 14 = .ok (.iload_n 3, 1) := by decide +kernel
theorem dX6_putWord_15 : decode cX6_putWord 15 = .ok (.isub, 1) := by decide +kernel
theorem dX6_putWord_16 : decode cX6_putWord 16 = .ok (.invokestatic 27, 3) := by decide +kernel
theorem dX6_putWord_19 : decode cX6_putWord 19 = .ok (.invokevirtual 23, 3) := by decide +kernel
theorem dX6_putWord_22 : decode cX6_putWord 22 = .ok (.iinc 3 1, 3) := by decide +kernel
theorem dX6_putWord_25 : decode cX6_putWord 25 = .ok (.goto (-23), 3) := by decide +kernel
theorem dX6_putWord_28 : decode cX6_putWord 28 = .ok (.return_, 1) := by decide +kernel
theorem dX6_keyOfBlock_0 : decode cX6_keyOfBlock 0 = .ok (.aload_n 0, 1) := by decide +kernel
theorem dX6_keyOfBlock_1 : decode cX6_keyOfBlock 1 = .ok (.getfield 15, 3) := by decide +kernel
theorem dX6_keyOfBlock_4 : decode cX6_keyOfBlock 4 = .ok (.iload_n 1, 1) := by decide +kernel
theorem dX6_keyOfBlock_5 : decode cX6_keyOfBlock 5 = .ok (.bipush 7, 2) := by decide +kernel
theorem dX6_keyOfBlock_7 : decode cX6_keyOfBlock 7 = .ok (.iand, 1) := by decide +kernel
theorem dX6_keyOfBlock_8 : decode cX6_keyOfBlock 8 = .ok (.iaload, 1) := by decide +kernel
theorem dX6_keyOfBlock_9 : decode cX6_keyOfBlock 9 = .ok (.ireturn, 1) := by decide +kernel
theorem dX6_putKey_0 : decode cX6_putKey 0 = .ok (.aload_n 0, 1) := by decide +kernel
theorem dX6_putKey_1 : decode cX6_putKey 1 = .ok (.getfield 15, 3) := by decide +kernel
theorem dX6_putKey_4 : decode cX6_putKey 4 = .ok (.iload_n 1, 1) := by decide +kernel
theorem dX6_putKey_5 : decode cX6_putKey 5 = .ok (.bipush 7, 2) := by decide +kernel
theorem dX6_putKey_7 : decode cX6_putKey 7 = .ok (.iand, 1) := by decide +kernel
theorem dX6_putKey_8 : decode cX6_putKey 8 = .ok (.iload_n 2, 1) := by decide +kernel
theorem dX6_putKey_9 : decode cX6_putKey 9 = .ok (.bipush 15, 2) := by decide +kernel
theorem dX6_putKey_11 : decode cX6_putKey 11 = .ok (.iand, 1) := by decide +kernel
theorem dX6_putKey_12 : decode cX6_putKey 12 = .ok (.iastore, 1) := by decide +kernel
theorem dX6_putKey_13 : decode cX6_putKey 13 = .ok (.return_, 1) := by decide +kernel
theorem dX6_isOpen_0 : decode cX6_isOpen 0 = .ok (.iload_n 3, 1) := by decide +kernel
theorem dX6_isOpen_1 : decode cX6_isOpen 1 = .ok (.ifCond .ne 5, 3) := by decide +kernel
theorem dX6_isOpen_4 : decode cX6_isOpen 4 = .ok (.iconst 1, 1) := by decide +kernel
theorem dX6_isOpen_5 : decode cX6_isOpen 5 = .ok (.ireturn, 1) := by decide +kernel
theorem dX6_isOpen_6 : decode cX6_isOpen 6 = .ok (.iload_n 1, 1) := by decide +kernel
theorem dX6_isOpen_7 : decode cX6_isOpen 7 = .ok (.iload_n 2, 1) := by decide +kernel
theorem dX6_isOpen_8 : decode cX6_isOpen 8 = .ok (.iadd, 1) := by decide +kernel
theorem dX6_isOpen_9 : decode cX6_isOpen 9 = .ok (.iconst 1, 1) := by decide +kernel
theorem dX6_isOpen_10 : decode cX6_isOpen 10 = .ok (.isub, 1) := by decide +kernel
theorem dX6_isOpen_11 : decode cX6_isOpen 11 = .ok (.bipush 8, 2) := by decide +kernel
theorem dX6_isOpen_13 : decode cX6_isOpen 13 = .ok (.ishr, 1) := by decide +kernel
theorem dX6_isOpen_14 : decode cX6_isOpen 14 = .ok (.bipush 7, 2) := by decide +kernel
theorem dX6_isOpen_16 : decode cX6_isOpen 16 = .ok (.invokestatic 31, 3) := by decide +kernel
theorem dX6_isOpen_19 : decode cX6_isOpen 19 = .ok (.istore 4, 2) := by decide +kernel
theorem dX6_isOpen_21 : decode cX6_isOpen 21 = .ok (.iload_n 1, 1) := by decide +kernel
theorem dX6_isOpen_22 : decode cX6_isOpen 22 = .ok (.bipush 8, 2) := by decide +kernel
theorem dX6_isOpen_24 : decode cX6_isOpen 24 = .ok (.ishr, 1) := by decide +kernel
theorem dX6_isOpen_25 : decode cX6_isOpen 25 = .ok (.istore 5, 2) := by decide +kernel
theorem dX6_isOpen_27 : decode cX6_isOpen 27 = .ok (.iload 5, 2) := by decide +kernel
theorem dX6_isOpen_29 : decode cX6_isOpen 29 = .ok (.iload 4, 2) := by decide +kernel
theorem dX6_isOpen_31 : decode cX6_isOpen 31 = .ok (.if_icmp .gt 21, 3) := by decide +kernel
theorem dX6_isOpen_34 : decode cX6_isOpen 34 = .ok (.aload_n 0, 1) := by decide +kernel
theorem dX6_isOpen_35 : decode cX6_isOpen 35 = .ok (.iload 5, 2) := by decide +kernel
theorem dX6_isOpen_37 : decode cX6_isOpen 37 = .ok (.invokevirtual 37, 3) := by decide +kernel
theorem dX6_isOpen_40 : decode cX6_isOpen 40 = .ok (.iload_n 3, 1) := by decide +kernel
theorem dX6_isOpen_41 : decode cX6_isOpen 41 = .ok (.if_icmp .eq 5, 3) := by decide +kernel
theorem dX6_isOpen_44 : decode cX6_isOpen 44 = .ok (.iconst 0, 1) := by decide +kernel
theorem dX6_isOpen_45 : decode cX6_isOpen 45 = .ok (.ireturn, 1) := by decide +kernel
theorem dX6_isOpen_46 : decode cX6_isOpen 46 = .ok (.iinc 5 1, 3) := by decide +kernel
theorem dX6_isOpen_49 : decode cX6_isOpen 49 = .ok (.goto (-22), 3) := by decide +kernel
theorem dX6_isOpen_52 : decode cX6_isOpen 52 = .ok (.iconst 1, 1) := by decide +kernel
theorem dX6_isOpen_53 : decode cX6_isOpen 53 = .ok (.ireturn, 1) := by decide +kernel
theorem dX7_init_0 : decode cX7_init 0 = .ok (.aload_n 0, 1) := by decide +kernel
theorem dX7_init_1 : decode cX7_init 1 = .ok (.invokespecial 1, 3) := by decide +kernel
theorem dX7_init_4 : decode cX7_init 4 = .ok (.aload_n 0, 1) := by decide +kernel
theorem dX7_init_5 : decode cX7_init 5 = .ok (.new 7, 3) := by decide +kernel
theorem dX7_init_8 : decode cX7_init 8 = .ok (.dup, 1) := by decide +kernel
theorem dX7_init_9 : decode cX7_init 9 = .ok (.invokespecial 9, 3) := by decide +kernel
theorem dX7_init_12 : decode cX7_init 12 = .ok (.putfield 10, 3) := by decide +kernel
theorem dX7_init_15 : decode cX7_init 15 = .ok (.return_, 1) := by decide +kernel
theorem dX7_load_0 : decode cX7_load 0 = .ok (.iload 4, 2) := by decide +kernel
theorem dX7_load_2 : decode cX7_load 2 = .ok (.iconst 1, 1) := by decide +kernel
theorem dX7_load_3 : decode cX7_load 3 = .ok (.if_icmp .lt 19, 3) := by decide +kernel
theorem dX7_load_6 : decode cX7_load 6 = .ok (.iload 4, 2) := by decide +kernel
theorem dX7_load_8 : decode cX7_load 8 = .ok (.bipush 8, 2) := by decide +kernel
theorem dX7_load_10 : decode cX7_load 10 = .ok (.if_icmp .gt 12, 3) := by decide +kernel
theorem dX7_load_13 : decode cX7_load 13 = .ok (.iload_n 1, 1) := by decide +kernel
theorem dX7_load_14 : decode cX7_load 14 = .ok (.iload 4, 2) := by decide +kernel
theorem dX7_load_16 : decode cX7_load 16 = .ok (.invokestatic 16, 3) := by decide +kernel
theorem dX7_load_19 : decode cX7_load 19 = .ok (.ifCond .ne 5, 3) := by decide +kernel
theorem dX7_load_22 : decode cX7_load 22 = .ok (.iconst 0, 1) := by decide +kernel
theorem dX7_load_23 : decode cX7_load 23 = .ok (.ireturn, 1) := by decide +kernel
theorem dX7_load_24 : decode cX7_load 24 = .ok (.iconst 0, 1) := by decide +kernel
theorem dX7_load_25 : decode cX7_load 25 = .ok (.istore 5, 2) := by decide +kernel
theorem dX7_load_27 : decode cX7_load 27 = .ok (.iload 5, 2) := by decide +kernel
theorem dX7_load_29 : decode cX7_load 29 = .ok (.iload 4, 2) := by decide +kernel
theorem dX7_load_31 : decode cX7_load 31 = .ok (.if_icmp .ge 34, 3) := by decide +kernel
theorem dX7_load_34 : decode cX7_load 34 = .ok (.aload_n 0, 1) := by decide +kernel
theorem dX7_load_35 : decode cX7_load 35 = .ok (.getfield 10, 3) := by decide +kernel
theorem dX7_load_38 : decode cX7_load 38 = .ok (.getfield 22, 3) := by decide +kernel
theorem dX7_load_41 : decode cX7_load 41 = .ok (.iload_n 1, 1) := by decide +kernel
theorem dX7_load_42 : decode cX7_load 42 = .ok (.iload 5, 2) := by decide +kernel
theorem dX7_load_44 : decode cX7_load 44 = .ok (.iadd, 1) := by decide +kernel
theorem dX7_load_45 : decode cX7_load 45 = .ok (.lload_n 2, 1) := by decide +kernel
theorem dX7_load_46 : decode cX7_load 46 = .ok (.iload 4, 2) := by decide +kernel
theorem dX7_load_48 : decode cX7_load 48 = .ok (.iconst 1, 1) := by decide +kernel
theorem dX7_load_49 : decode cX7_load 49 = .ok (.isub, 1) := by decide +kernel
theorem dX7_load_50 : decode cX7_load 50 = .ok (.iload 5, 2) := by decide +kernel
theorem dX7_load_52 : decode cX7_load 52 = .ok (.isub, 1) := by decide +kernel
theorem dX7_load_53 : decode cX7_load 53 = .ok (.invokestatic 26, 3) := by decide +kernel
theorem dX7_load_56 : decode cX7_load 56 = .ok (.invokevirtual 30, 3) := by decide +kernel
theorem dX7_load_59 : decode cX7_load 59 = .ok (.iinc 5 1, 3) := by decide +kernel
theorem dX7_load_62 : decode cX7_load 62 = .ok (.goto (-35), 3) := by decide +kernel
theorem dX7_load_65 : decode cX7_load 65 = .ok (.iconst 1, 1) := by decide +kernel
theorem dX7_load_66 : decode cX7_load 66 = .ok (.ireturn, 1) := by decide +kernel
theorem dX7_word_0 : decode cX7_word 0 = .ok (.aload_n 0, 1) := by decide +kernel
theorem dX7_word_1 : decode cX7_word 1 = .ok (.getfield 10, 3) := by decide +kernel
theorem dX7_word_4 : decode cX7_word 4 = .ok (.getfield 22, 3) := by decide +kernel
theorem dX7_word_7 : decode cX7_word 7 = .ok (.iload_n 1, 1) := by decide +kernel
theorem dX7_word_8 : decode cX7_word 8 = .ok (.invokevirtual 34, 3) := by decide +kernel
theorem dX7_word_11 : decode cX7_word 11 = .ok (.ireturn, 1) := by decide +kernel
theorem dX7_set_0 : decode cX7_set 0 = .ok (.iload_n 1, 1) := by decide +kernel
theorem dX7_set_1 : decode cX7_set 1 = .ok (.ifCond .lt 9, 3) := by decide +kernel
theorem dX7_set_4 : decode cX7_set 4 = .ok (.iload_n 1, 1) := by decide +kernel
theorem dX7_set_5 : decode cX7_set 5 = .ok (.bipush 28, 2) := by decide +kernel
theorem dX7_set_7 : decode cX7_set 7 = .ok (.if_icmp .lt 5, 3) := by decide +kernel
theorem dX7_set_10 : decode cX7_set 10 = .ok (.iconst 0, 1) := by decide +kernel
theorem dX7_set_11 : decode cX7_set 11 = .ok (.ireturn, 1) := by decide +kernel
theorem dX7_set_12 : decode cX7_set 12 = .ok (.iload_n 1, 1) := by decide +kernel
theorem dX7_set_13 : decode cX7_set 13 = .ok (.bipush 16, 2) := by decide +kernel
theorem dX7_set_15 : decode cX7_set 15 = .ok (.if_icmp .ge 15, 3) := by decide +kernel
theorem dX7_set_18 : decode cX7_set 18 = .ok (.aload_n 0, 1) := by decide +kernel
theorem dX7_set_19 : decode cX7_set 19 = .ok (.getfield 10, 3) := by decide +kernel
theorem dX7_set_22 : decode cX7_set 22 = .ok (.iload_n 1, 1) := by decide +kernel
theorem dX7_set_23 : decode cX7_set 23 = .ok (.iload_n 2, 1) := by decide +kernel
theorem dX7_set_24 : decode cX7_set 24 = .ok (.invokevirtual 38, 3) := by decide +kernel
theorem dX7_set_27 : decode cX7_set 27 = .ok (.goto 39, 3) := by decide +kernel
theorem dX7_set_30 : decode cX7_set 30 = .ok (.iload_n 1, 1) := by decide +kernel
theorem dX7_set_31 : decode cX7_set 31 = .ok (.bipush 20, 2) := by decide +kernel
theorem dX7_set_33 : decode cX7_set 33 = .ok (.if_icmp .lt 21, 3) := by decide +kernel
theorem dX7_set_36 : decode cX7_set 36 = .ok (.aload_n 0, 1) := by decide +kernel
theorem dX7_set_37 : decode cX7_set 37 = .ok (.getfield 10, 3) := by decide +kernel
theorem dX7_set_40 : decode cX7_set 40 = .ok (.getfield 22, 3) := by decide +kernel
theorem dX7_set_43 : decode cX7_set 43 = .ok (.iload_n 1, 1) := by decide +kernel
theorem dX7_set_44 : decode cX7_set 44 = .ok (.bipush 20, 2) := by decide +kernel
theorem dX7_set_46 : decode cX7_set 46 = .ok (.isub, 1) := by decide +kernel
theorem dX7_set_47 : decode cX7_set 47 = .ok (.iload_n 2, 1) := by decide +kernel
theorem dX7_set_48 : decode cX7_set 48 = .ok (.invokevirtual 41, 3) := by decide +kernel
theorem dX7_set_51 : decode cX7_set 51 = .ok (.goto 15, 3) := by decide +kernel
theorem dX7_set_54 : decode cX7_set 54 = .ok (.aload_n 0, 1) := by decide +kernel
theorem dX7_set_55 : decode cX7_set 55 = .ok (.getfield 10, 3) := by decide +kernel
theorem dX7_set_58 : decode cX7_set 58 = .ok (.getfield 44, 3) := by decide +kernel
theorem dX7_set_61 : decode cX7_set 61 = .ok (.iload_n 1, 1) := by decide +kernel
theorem dX7_set_62 : decode cX7_set 62 = .ok (.iload_n 2, 1) := by decide +kernel
theorem dX7_set_63 : decode cX7_set 63 = .ok (.invokevirtual 48, 3) := by decide +kernel
theorem dX7_set_66 : decode cX7_set 66 = .ok (.iconst 1, 1) := by decide +kernel
theorem dX7_set_67 : decode cX7_set 67 = .ok (.ireturn, 1) := by decide +kernel
theorem dX7_get_0 : decode cX7_get 0 = .ok (.iload_n 1, 1) := by decide +kernel
theorem dX7_get_1 : decode cX7_get 1 = .ok (.ifCond .lt 9, 3) := by decide +kernel
theorem dX7_get_4 : decode cX7_get 4 = .ok (.iload_n 1, 1) := by decide +kernel
theorem dX7_get_5 : decode cX7_get 5 = .ok (.bipush 28, 2) := by decide +kernel
theorem dX7_get_7 : decode cX7_get 7 = .ok (.if_icmp .lt 5, 3) := by decide +kernel
theorem dX7_get_10 : decode cX7_get 10 = .ok (.iconst (-1), 1) := by decide +kernel
theorem dX7_get_11 : decode cX7_get 11 = .ok (.ireturn, 1) := by decide +kernel
theorem dX7_get_12 : decode cX7_get 12 = .ok (.iload_n 1, 1) := by decide +kernel
theorem dX7_get_13 : decode cX7_get 13 = .ok (.bipush 16, 2) := by decide +kernel
theorem dX7_get_15 : decode cX7_get 15 = .ok (.if_icmp .ge 12, 3) := by decide +kernel
theorem dX7_get_18 : decode cX7_get 18 = .ok (.aload_n 0, 1) := by decide +kernel
theorem dX7_get_19 : decode cX7_get 19 = .ok (.getfield 10, 3) := by decide +kernel
theorem dX7_get_22 : decode cX7_get 22 = .ok (.iload_n 1, 1) := by decide +kernel
theorem dX7_get_23 : decode cX7_get 23 = .ok (.invokevirtual 53, 3) := by decide +kernel
theorem dX7_get_26 : decode cX7_get 26 = .ok (.ireturn, 1) := by decide +kernel
theorem dX7_get_27 : decode cX7_get 27 = .ok (.iload_n 1, 1) := by decide +kernel
theorem dX7_get_28 : decode cX7_get 28 = .ok (.bipush 20, 2) := by decide +kernel
theorem dX7_get_30 : decode cX7_get 30 = .ok (.if_icmp .lt 18, 3) := by decide +kernel
theorem dX7_get_33 : decode cX7_get 33 = .ok (.aload_n 0, 1) := by decide +kernel
theorem dX7_get_34 : decode cX7_get 34 = .ok (.getfield 10, 3) := by decide +kernel
theorem dX7_get_37 : decode cX7_get 37 = .ok (.getfield 22, 3) := by decide +kernel
theorem dX7_get_40 : decode cX7_get 40 = .ok (.iload_n 1, 1) := by decide +kernel
theorem dX7_get_41 : decode cX7_get 41 = .ok (.bipush 20, 2) := by decide +kernel
theorem dX7_get_43 : decode cX7_get 43 = .ok (.isub, 1) := by decide +kernel
theorem dX7_get_44 : decode cX7_get 44 = .ok (.invokevirtual 56, 3) := by decide +kernel
theorem dX7_get_47 : decode cX7_get 47 = .ok (.ireturn, 1) := by decide +kernel
theorem dX7_get_48 : decode cX7_get 48 = .ok (.aload_n 0, 1) := by decide +kernel
theorem dX7_get_49 : decode cX7_get 49 = .ok (.getfield 10, 3) := by decide +kernel
theorem dX7_get_52 : decode cX7_get 52 = .ok (.getfield 44, 3) := by decide +kernel
theorem dX7_get_55 : decode cX7_get 55 = .ok (.iload_n 1, 1) := by decide +kernel
theorem dX7_get_56 : decode cX7_get 56 = .ok (.invokevirtual 59, 3) := by decide +kernel
theorem dX7_get_59 : decode cX7_get 59 = .ok (.ireturn, 1) := by decide +kernel
theorem dX7_punch_0 : decode cX7_punch 0 = .ok (.aload_n 0, 1) := by decide +kernel
theorem dX7_punch_1 : decode cX7_punch 1 = .ok (.getfield 10, 3) := by decide +kernel
theorem dX7_punch_4 : decode cX7_punch 4 = .ok (.getfield 62, 3) := by decide +kernel
theorem dX7_punch_7 : decode cX7_punch 7 = .ok (.getfield 66, 3) := by decide +kernel
theorem dX7_punch_10 : decode cX7_punch 10 = .ok (.astore 4, 2) := by decide +kernel
theorem dX7_punch_12 : decode cX7_punch 12 = .ok (.iload_n 3, 1) := by decide +kernel
theorem dX7_punch_13 : decode cX7_punch 13 = .ok (.iconst 1, 1) := by decide +kernel
theorem dX7_punch_14 : decode cX7_punch 14 = .ok (.if_icmp .lt 18, 3) := by decide +kernel
theorem dX7_punch_17 : decode cX7_punch 17 = .ok (.iload_n 3, 1) := by decide +kernel
theorem dX7_punch_18 : decode cX7_punch 18 = .ok (.bipush 8, 2) := by decide +kernel
theorem dX7_punch_20 : decode cX7_punch 20 = .ok (.if_icmp .gt 12, 3) := by decide +kernel
theorem dX7_punch_23 : decode cX7_punch 23 = .ok (.aload 4, 2) := by decide +kernel
theorem dX7_punch_25 : decode cX7_punch 25 = .ok (.iload_n 3, 1) := by decide +kernel
theorem dX7_punch_26 : decode cX7_punch 26 = .ok (.invokevirtual 72, 3) := by decide +kernel
theorem dX7_punch_29 : decode cX7_punch 29 = .ok (.ifCond .ne 5, 3) := by decide +kernel
theorem dX7_punch_32 : decode cX7_punch 32 = .ok (.iconst 0, 1) := by decide +kernel
theorem dX7_punch_33 : decode cX7_punch 33 = .ok (.ireturn, 1) := by decide +kernel
theorem dX7_punch_34 : decode cX7_punch 34 = .ok (.iload_n 3, 1) := by decide +kernel
theorem dX7_punch_35 : decode cX7_punch 35 = .ok (.iconst 1, 1) := by decide +kernel
theorem dX7_punch_36 : decode cX7_punch 36 = .ok (.isub, 1) := by decide +kernel
theorem dX7_punch_37 : decode cX7_punch 37 = .ok (.istore 5, 2) := by decide +kernel
theorem dX7_punch_39 : decode cX7_punch 39 = .ok (.iload 5, 2) := by decide +kernel
theorem dX7_punch_41 : decode cX7_punch 41 = .ok (.ifCond .lt 20, 3) := by decide +kernel
theorem dX7_punch_44 : decode cX7_punch 44 = .ok (.aload 4, 2) := by decide +kernel
theorem dX7_punch_46 : decode cX7_punch 46 = .ok (.lload_n 1, 1) := by decide +kernel
theorem dX7_punch_47 : decode cX7_punch 47 = .ok (.iload 5, 2) := by decide +kernel
theorem dX7_punch_49 : decode cX7_punch 49 = .ok (.invokestatic 26, 3) := by decide +kernel
theorem dX7_punch_52 : decode cX7_punch 52 = .ok (.invokevirtual 78, 3) := by decide +kernel
theorem dX7_punch_55 : decode cX7_punch 55 = .ok (.iinc 5 (-1), 3) := by decide +kernel
theorem dX7_punch_58 : decode cX7_punch 58 = .ok (.goto (-19), 3) := by decide +kernel
theorem dX7_punch_61 : decode cX7_punch 61 = .ok (.iconst 1, 1) := by decide +kernel
theorem dX7_punch_62 : decode cX7_punch 62 = .ok (.ireturn, 1) := by decide +kernel
theorem dX7_card_0 : decode cX7_card 0 = .ok (.aload_n 0, 1) := by decide +kernel
theorem dX7_card_1 : decode cX7_card 1 = .ok (.getfield 10, 3) := by decide +kernel
theorem dX7_card_4 : decode cX7_card 4 = .ok (.getfield 62, 3) := by decide +kernel
theorem dX7_card_7 : decode cX7_card 7 = .ok (.getfield 66, 3) := by decide +kernel
theorem dX7_card_10 : decode cX7_card 10 = .ok (.invokevirtual 82, 3) := by decide +kernel
theorem dX7_card_13 : decode cX7_card 13 = .ok (.ireturn, 1) := by decide +kernel
theorem dX7_step_0 : decode cX7_step 0 = .ok (.iload_n 1, 1) := by decide +kernel
theorem dX7_step_1 : decode cX7_step 1 = .ok (.iconst 1, 1) := by decide +kernel
theorem dX7_step_2 : decode cX7_step 2 = .ok (.if_icmp .lt 9, 3) := by decide +kernel
theorem dX7_step_5 : decode cX7_step 5 = .ok (.iload_n 1, 1) := by decide +kernel
theorem dX7_step_6 : decode cX7_step 6 = .ok (.bipush 50, 2) := by decide +kernel
theorem dX7_step_8 : decode cX7_step 8 = .ok (.if_icmp .le 5, 3) := by decide +kernel
theorem dX7_step_11 : decode cX7_step 11 = .ok (.iconst (-1), 1) := by decide +kernel
theorem dX7_step_12 : decode cX7_step 12 = .ok (.ireturn, 1) := by decide +kernel
theorem dX7_step_13 : decode cX7_step 13 = .ok (.aload_n 0, 1) := by decide +kernel
theorem dX7_step_14 : decode cX7_step 14 = .ok (.getfield 10, 3) := by decide +kernel
theorem dX7_step_17 : decode cX7_step 17 = .ok (.getfield 86, 3) := by decide +kernel
theorem dX7_step_20 : decode cX7_step 20 = .ok (.istore_n 2, 1) := by decide +kernel
theorem dX7_step_21 : decode cX7_step 21 = .ok (.iconst 0, 1) := by decide +kernel
theorem dX7_step_22 : decode cX7_step 22 = .ok (.istore_n 3, 1) := by decide +kernel
theorem dX7_step_23 : decode cX7_step 23 = .ok (.iload_n 3, 1) := by decide +kernel
theorem dX7_step_24 : decode cX7_step 24 = .ok (.iload_n 1, 1) := by decide +kernel
theorem dX7_step_25 : decode cX7_step 25 = .ok (.if_icmp .ge 16, 3) := by decide +kernel
theorem dX7_step_28 : decode cX7_step 28 = .ok (.aload_n 0, 1) := by decide +kernel
theorem dX7_step_29 : decode cX7_step 29 = .ok (.getfield 10, 3) := by decide +kernel
theorem dX7_step_32 : decode cX7_step 32 = .ok (.invokevirtual 90, 3) := by decide +kernel
theorem dX7_step_35 : decode cX7_step 35 = .ok (.iinc 3 1, 3) := by decide +kernel
theorem dX7_step_38 : decode cX7_step 38 = .ok (.goto (-15), 3) := by decide +kernel
theorem dX7_step_41 : decode cX7_step 41 = .ok (.aload_n 0, 1) := by decide +kernel
theorem dX7_step_42 : decode cX7_step 42 = .ok (.getfield 10, 3) := by decide +kernel
theorem dX7_step_45 : decode cX7_step 45 = .ok (.getfield 86, 3) := by decide +kernel
theorem dX7_step_48 : decode cX7_step 48 = .ok (.iload_n 2, 1) := by decide +kernel
theorem dX7_step_49 : decode cX7_step 49 = .ok (.isub, 1) := by decide +kernel
theorem dX7_step_50 : decode cX7_step 50 = .ok (.ireturn, 1) := by decide +kernel
theorem dX7_channel_0 : decode cX7_channel 0 = .ok (.iload_n 1, 1) := by decide +kernel
theorem dX7_channel_1 : decode cX7_channel 1 = .ok (.iconst 1, 1) := by decide +kernel
theorem dX7_channel_2 : decode cX7_channel 2 = .ok (.if_icmp .lt 9, 3) := by decide +kernel
theorem dX7_channel_5 : decode cX7_channel 5 = .ok (.iload_n 1, 1) := by decide +kernel
theorem dX7_channel_6 : decode cX7_channel 6 = .ok (.bipush 50, 2) := by decide +kernel
theorem dX7_channel_8 : decode cX7_channel 8 = .ok (.if_icmp .le 5, 3) := by decide +kernel
theorem dX7_channel_11 : decode cX7_channel 11 = .ok (.iconst (-1), 1) := by decide +kernel
theorem dX7_channel_12 : decode cX7_channel 12 = .ok (.ireturn, 1) := by decide +kernel
theorem dX7_channel_13 : decode cX7_channel 13 = .ok (.iconst 0, 1) := by decide +kernel
theorem dX7_channel_14 : decode cX7_channel 14 = .ok (.istore_n 2, 1) := by decide +kernel
theorem dX7_channel_15 : decode cX7_channel 15 = .ok (.iload_n 2, 1) := by decide +kernel
theorem dX7_channel_16 : decode cX7_channel 16 = .ok (.iload_n 1, 1) := by decide +kernel
theorem dX7_channel_17 : decode cX7_channel 17 = .ok (.if_icmp .ge 39, 3) := by decide +kernel
theorem dX7_channel_20 : decode cX7_channel 20 = .ok (.aload_n 0, 1) := by decide +kernel
theorem dX7_channel_21 : decode cX7_channel 21 = .ok (.getfield 10, 3) := by decide +kernel
theorem dX7_channel_24 : decode cX7_channel 24 = .ok (.getfield 62, 3) := by decide +kernel
theorem dX7_channel_27 : decode cX7_channel 27 = .ok (.getfield 93, 3) := by decide +kernel
theorem dX7_channel_30 : decode cX7_channel 30 = .ok (.ifCond .eq 26, 3) := by decide +kernel
theorem dX7_channel_33 : decode cX7_channel 33 = .ok (.aload_n 0, 1) := by decide +kernel
theorem dX7_channel_34 : decode cX7_channel 34 = .ok (.getfield 10, 3) := by decide +kernel
theorem dX7_channel_37 : decode cX7_channel 37 = .ok (.getfield 62, 3) := by decide +kernel
theorem dX7_channel_40 : decode cX7_channel 40 = .ok (.aload_n 0, 1) := by decide +kernel
theorem dX7_channel_41 : decode cX7_channel 41 = .ok (.getfield 10, 3) := by decide +kernel
theorem dX7_channel_44 : decode cX7_channel 44 = .ok (.getfield 22, 3) := by decide +kernel
theorem dX7_channel_47 : decode cX7_channel 47 = .ok (.invokevirtual 97, 3) := by decide +kernel
theorem dX7_channel_50 : decode cX7_channel 50 = .ok (.iinc 2 1, 3) := by decide +kernel
theorem dX7_channel_53 : decode cX7_channel 53 = .ok (.goto (-38), 3) := by decide +kernel
theorem dX7_channel_56 : decode cX7_channel 56 = .ok (.iload_n 2, 1) := by decide +kernel
theorem dX7_channel_57 : decode cX7_channel 57 = .ok (.ireturn, 1) := by decide +kernel
theorem dX7_look_0 : decode cX7_look 0 = .ok (.aload_n 0, 1) := by decide +kernel
theorem dX7_look_1 : decode cX7_look 1 = .ok (.getfield 10, 3) := by decide +kernel
theorem dX7_look_4 : decode cX7_look 4 = .ok (.getfield 62, 3) := by decide +kernel
theorem dX7_look_7 : decode cX7_look 7 = .ok (.astore_n 2, 1) := by decide +kernel
theorem dX7_look_8 : decode cX7_look 8 = .ok (.iload_n 1, 1) := by decide +kernel
theorem dX7_look_9 : decode cX7_look 9 = .ok (.tableswitch 129 0 7 #[47, 60, 73, 89, 97, 105, 113, 121], 47) := by decide +kernel
theorem dX7_look_56 : decode cX7_look 56 = .ok (.aload_n 2, 1) := by decide +kernel
theorem dX7_look_57 : decode cX7_look 57 = .ok (.getfield 93, 3) := by decide +kernel
theorem dX7_look_60 : decode cX7_look 60 = .ok (.ifCond .eq 7, 3) := by decide +kernel
theorem dX7_look_63 : decode cX7_look 63 = .ok (.iconst 1, 1) := by decide +kernel
theorem dX7_look_64 : decode cX7_look 64 = .ok (.goto 4, 3) := by decide +kernel
theorem dX7_look_67 : decode cX7_look 67 = .ok (.iconst 0, 1) := by decide +kernel
theorem dX7_look_68 : decode cX7_look 68 = .ok (.ireturn, 1) := by decide +kernel
theorem dX7_look_69 : decode cX7_look 69 = .ok (.aload_n 2, 1) := by decide +kernel
theorem dX7_look_70 : decode cX7_look 70 = .ok (.getfield 101, 3) := by decide +kernel
theorem dX7_look_73 : decode cX7_look 73 = .ok (.ifCond .eq 7, 3) := by decide +kernel
theorem dX7_look_76 : decode cX7_look 76 = .ok (.iconst 1, 1) := by decide +kernel
theorem dX7_look_77 : decode cX7_look 77 = .ok (.goto 4, 3) := by decide +kernel
theorem dX7_look_80 : decode cX7_look 80 = .ok (.iconst 0, 1) := by decide +kernel
theorem dX7_look_81 : decode cX7_look 81 = .ok (.ireturn, 1) := by decide +kernel
theorem dX7_look_82 : decode cX7_look 82 = .ok (.aload_n 0, 1) := by decide +kernel
theorem dX7_look_83 : decode cX7_look 83 = .ok (.getfield 10, 3) := by decide +kernel
theorem dX7_look_86 : decode cX7_look 86 = .ok (.getfield 104, 3) := by decide +kernel
theorem dX7_look_89 : decode cX7_look 89 = .ok (.ifCond .eq 7, 3) := by decide +kernel
theorem dX7_look_92 : decode cX7_look 92 = .ok (.iconst 1, 1) := by decide +kernel
theorem dX7_look_93 : decode cX7_look 93 = .ok (.goto 4, 3) := by decide +kernel
theorem dX7_look_96 : decode cX7_look 96 = .ok (.iconst 0, 1) := by decide +kernel
theorem dX7_look_97 : decode cX7_look 97 = .ok (.ireturn, 1) := by decide +kernel
theorem dX7_look_98 : decode cX7_look 98 = .ok (.aload_n 2, 1) := by decide +kernel
theorem dX7_look_99 : decode cX7_look 99 = .ok (.getfield 66, 3) := by decide +kernel
theorem dX7_look_102 : decode cX7_look 102 = .ok (.getfield 107, 3) := by decide +kernel
theorem dX7_look_105 : decode cX7_look 105 = .ok (.ireturn, 1) := by decide +kernel
theorem dX7_look_106 : decode cX7_look 106 = .ok (.aload_n 2, 1) := by decide +kernel
theorem dX7_look_107 : decode cX7_look 107 = .ok (.getfield 110, 3) := by decide +kernel
theorem dX7_look_110 : decode cX7_look 110 = .ok (.getfield 114, 3) := by decide +kernel
theorem dX7_look_113 : decode cX7_look 113 = .ok (.ireturn, 1) := by decide +kernel
theorem dX7_look_114 : decode cX7_look 114 = .ok (.aload_n 2, 1) := by decide +kernel
theorem dX7_look_115 : decode cX7_look 115 = .ok (.getfield 110, 3) := by decide +kernel
theorem dX7_look_118 : decode cX7_look 118 = .ok (.getfield 119, 3) := by decide +kernel
theorem dX7_look_121 : decode cX7_look 121 = .ok (.ireturn, 1) := by decide +kernel
theorem dX7_look_122 : decode cX7_look 122 = .ok (.aload_n 0, 1) := by decide +kernel
theorem dX7_look_123 : decode cX7_look 123 = .ok (.getfield 10, 3) := by decide +kernel
theorem dX7_look_126 : decode cX7_look 126 = .ok (.getfield 122, 3) := by decide +kernel
theorem dX7_look_129 : decode cX7_look 129 = .ok (.ireturn, 1) := by decide +kernel
theorem dX7_look_130 : decode cX7_look 130 = .ok (.aload_n 0, 1) := by decide +kernel
theorem dX7_look_131 : decode cX7_look 131 = .ok (.getfield 10, 3) := by decide +kernel
theorem dX7_look_134 : decode cX7_look 134 = .ok (.getfield 125, 3) := by decide +kernel
theorem dX7_look_137 : decode cX7_look 137 = .ok (.ireturn, 1) := by decide +kernel
theorem dX7_look_138 : decode cX7_look 138 = .ok (.iconst (-1), 1) := by decide +kernel
theorem dX7_look_139 : decode cX7_look 139 = .ok (.ireturn, 1) := by decide +kernel
theorem dX7_printed_0 : decode cX7_printed 0 = .ok (.aload_n 0, 1) := by decide +kernel
theorem dX7_printed_1 : decode cX7_printed 1 = .ok (.getfield 10, 3) := by decide +kernel
theorem dX7_printed_4 : decode cX7_printed 4 = .ok (.getfield 62, 3) := by decide +kernel
theorem dX7_printed_7 : decode cX7_printed 7 = .ok (.getfield 110, 3) := by decide +kernel
theorem dX7_printed_10 : decode cX7_printed 10 = .ok (.iload_n 1, 1) := by decide +kernel
theorem dX7_printed_11 : decode cX7_printed 11 = .ok (.invokevirtual 128, 3) := by decide +kernel
theorem dX7_printed_14 : decode cX7_printed 14 = .ok (.ireturn, 1) := by decide +kernel
theorem dX7_byteOf_0 : decode cX7_byteOf 0 = .ok (.lload_n 0, 1) := by decide +kernel
theorem dX7_byteOf_1 : decode cX7_byteOf 1 = .ok (.bipush 8, 2) := by decide +kernel
theorem dX7_byteOf_3 : decode cX7_byteOf 3 = .ok (.iload_n 2, 1) := by decide +kernel
theorem dX7_byteOf_4 : decode cX7_byteOf 4 = .ok (.imul, 1) := by decide +kernel
theorem dX7_byteOf_5 : decode cX7_byteOf 5 = .ok (.lushr, 1) := by decide +kernel
theorem dX7_byteOf_6 : decode cX7_byteOf 6 = .ok (.l2i, 1) := by decide +kernel
theorem dX7_byteOf_7 : decode cX7_byteOf 7 = .ok (.sipush 255, 3) := by decide +kernel
theorem dX7_byteOf_10 : decode cX7_byteOf 10 = .ok (.iand, 1) := by decide +kernel
theorem dX7_byteOf_11 : decode cX7_byteOf 11 = .ok (.ireturn, 1) := by decide +kernel
theorem dX7_order_0 : decode cX7_order 0 = .ok (.lload_n 0, 1) := by decide +kernel
theorem dX7_order_1 : decode cX7_order 1 = .ok (.lload_n 2, 1) := by decide +kernel
theorem dX7_order_2 : decode cX7_order 2 = .ok (.lcmp, 1) := by decide +kernel
theorem dX7_order_3 : decode cX7_order 3 = .ok (.ifCond .ne 5, 3) := by decide +kernel
theorem dX7_order_6 : decode cX7_order 6 = .ok (.iconst 0, 1) := by decide +kernel
theorem dX7_order_7 : decode cX7_order 7 = .ok (.ireturn, 1) := by decide +kernel
theorem dX7_order_8 : decode cX7_order 8 = .ok (.lload_n 0, 1) := by decide +kernel
theorem dX7_order_9 : decode cX7_order 9 = .ok (.lload_n 2, 1) := by decide +kernel
theorem dX7_order_10 : decode cX7_order 10 = .ok (.lcmp, 1) := by decide +kernel
theorem dX7_order_11 : decode cX7_order 11 = .ok (.ifCond .ge 7, 3) := by decide +kernel
theorem dX7_order_14 : decode cX7_order 14 = .ok (.iconst 1, 1) := by decide +kernel
theorem dX7_order_15 : decode cX7_order 15 = .ok (.goto 4, 3) := by decide +kernel
theorem dX7_order_18 : decode cX7_order 18 = .ok (.iconst 2, 1) := by decide +kernel
theorem dX7_order_19 : decode cX7_order 19 = .ok (.ireturn, 1) := by decide +kernel
