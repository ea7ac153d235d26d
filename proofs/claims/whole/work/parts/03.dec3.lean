theorem dX8_init_0 : decode cX8_init 0 = .ok (.aload_n 0, 1) := by decide +kernel
theorem dX8_init_1 : decode cX8_init 1 = .ok (.invokespecial 1, 3) := by decide +kernel
theorem dX8_init_4 : decode cX8_init 4 = .ok (.aload_n 0, 1) := by decide +kernel
theorem dX8_init_5 : decode cX8_init 5 = .ok (.sipush 2048, 3) := by decide +kernel
theorem dX8_init_8 : decode cX8_init 8 = .ok (.newarray .int, 2) := by decide +kernel
theorem dX8_init_10 : decode cX8_init 10 = .ok (.putfield 7, 3) := by decide +kernel
theorem dX8_init_13 : decode cX8_init 13 = .ok (.aload_n 0, 1) := by decide +kernel
theorem dX8_init_14 : decode cX8_init 14 = .ok (.bipush 8, 2) := by decide +kernel
theorem dX8_init_16 : decode cX8_init 16 = .ok (.newarray .int, 2) := by decide +kernel
theorem dX8_init_18 : decode cX8_init 18 = .ok (.putfield 13, 3) := by decide +kernel
theorem dX8_init_21 : decode cX8_init 21 = .ok (.aload_n 0, 1) := by decide +kernel
theorem dX8_init_22 : decode cX8_init 22 = .ok (.bipush 16, 2) := by decide +kernel
theorem dX8_init_24 : decode cX8_init 24 = .ok (.newarray .int, 2) := by decide +kernel
theorem dX8_init_26 : decode cX8_init 26 = .ok (.putfield 16, 3) := by decide +kernel
theorem dX8_init_29 : decode cX8_init 29 = .ok (.aload_n 0, 1) := by decide +kernel
theorem dX8_init_30 : decode cX8_init 30 = .ok (.sipush 160, 3) := by decide +kernel
theorem dX8_init_33 : decode cX8_init 33 = .ok (.newarray .int, 2) := by decide +kernel
theorem dX8_init_35 : decode cX8_init 35 = .ok (.putfield 19, 3) := by decide +kernel
theorem dX8_init_38 : decode cX8_init 38 = .ok (.aload_n 0, 1) := by decide +kernel
theorem dX8_init_39 : decode cX8_init 39 = .ok (.bipush 10, 2) := by decide +kernel
theorem dX8_init_41 : decode cX8_init 41 = .ok (.newarray .int, 2) := by decide +kernel
theorem dX8_init_43 : decode cX8_init 43 = .ok (.putfield 22, 3) := by decide +kernel
theorem dX8_init_46 : decode cX8_init 46 = .ok (.aload_n 0, 1) := by decide +kernel
theorem dX8_init_47 : decode cX8_init 47 = .ok (.bipush 16, 2) := by decide +kernel
theorem dX8_init_49 : decode cX8_init 49 = .ok (.newarray .int, 2) := by decide +kernel
theorem dX8_init_51 : decode cX8_init 51 = .ok (.putfield 25, 3) := by decide +kernel
theorem dX8_init_54 : decode cX8_init 54 = .ok (.aload_n 0, 1) := by decide +kernel
theorem dX8_init_55 : decode cX8_init 55 = .ok (.bipush 32, 2) := by decide +kernel
theorem dX8_init_57 : decode cX8_init 57 = .ok (.newarray .int, 2) := by decide +kernel
theorem dX8_init_59 : decode cX8_init 59 = .ok (.putfield 28, 3) := by decide +kernel
theorem dX8_init_62 : decode cX8_init 62 = .ok (.aload_n 0, 1) := by decide +kernel
theorem dX8_init_63 : decode cX8_init 63 = .ok (.bipush 40, 2) := by decide +kernel
theorem dX8_init_65 : decode cX8_init 65 = .ok (.newarray .int, 2) := by decide +kernel
theorem dX8_init_67 : decode cX8_init 67 = .ok (.putfield 31, 3) := by decide +kernel
theorem dX8_init_70 : decode cX8_init 70 = .ok (.aload_n 0, 1) := by decide +kernel
theorem dX8_init_71 : decode cX8_init 71 = .ok (.bipush 40, 2) := by decide +kernel
theorem dX8_init_73 : decode cX8_init 73 = .ok (.newarray .int, 2) := by decide +kernel
theorem dX8_init_75 : decode cX8_init 75 = .ok (.putfield 34, 3) := by decide +kernel
theorem dX8_init_78 : decode cX8_init 78 = .ok (.return_, 1) := by decide +kernel
theorem dX8_field_0 : decode cX8_field 0 = .ok (.iconst 0, 1) := by decide +kernel
theorem dX8_field_1 : decode cX8_field 1 = .ok (.istore_n 3, 1) := by decide +kernel
theorem dX8_field_2 : decode cX8_field 2 = .ok (.iconst 0, 1) := by decide +kernel
theorem dX8_field_3 : decode cX8_field 3 = .ok (.istore 4, 2) := by decide +kernel
theorem dX8_field_5 : decode cX8_field 5 = .ok (.iload 4, 2) := by decide +kernel
theorem dX8_field_7 : decode cX8_field 7 = .ok (.iload_n 2, 1) := by decide +kernel
theorem dX8_field_8 : decode cX8_field 8 = .ok (.if_icmp .ge 24, 3) := by decide +kernel
theorem dX8_field_11 : decode cX8_field 11 = .ok (.iload_n 3, 1) := by decide +kernel
theorem dX8_field_12 : decode cX8_field 12 = .ok (.bipush 8, 2) := by decide +kernel
theorem dX8_field_14 : decode cX8_field 14 = .ok (.ishl, 1) := by decide +kernel
theorem dX8_field_15 : decode cX8_field 15 = .ok (.aload_n 0, 1) := by decide +kernel
theorem dX8_field_16 : decode cX8_field 16 = .ok (.getfield 7, 3) := by decide +kernel
theorem dX8_field_19 : decode cX8_field 19 = .ok (.iload_n 1, 1) := by decide +kernel
theorem dX8_field_20 : decode cX8_field 20 = .ok (.iload 4, 2) := by decide +kernel
theorem dX8_field_22 : decode cX8_field 22 = .ok (.iadd, 1) := by decide +kernel
theorem dX8_field_23 : decode cX8_field 23 = .ok (.iaload, 1) := by decide +kernel
theorem dX8_field_24 : decode cX8_field 24 = .ok (.ior, 1) := by decide +kernel
theorem dX8_field_25 : decode cX8_field 25 = .ok (.istore_n 3, 1) := by decide +kernel
theorem dX8_field_26 : decode cX8_field 26 = .ok (.iinc 4 1, 3) := by decide +kernel
theorem dX8_field_29 : decode cX8_field 29 = .ok (.goto (-24), 3) := by decide +kernel
theorem dX8_field_32 : decode cX8_field 32 = .ok (.iload_n 3, 1) := by decide +kernel
theorem dX8_field_33 : decode cX8_field 33 = .ok (.ireturn, 1) := by decide +kernel
theorem dX8_put_0 : decode cX8_put 0 = .ok (.iconst 0, 1) := by decide +kernel
theorem dX8_put_1 : decode cX8_put 1 = .ok (.istore 4, 2) := by decide +kernel
theorem dX8_put_3 : decode cX8_put 3 = .ok (.iload 4, 2) := by decide +kernel
theorem dX8_put_5 : decode cX8_put 5 = .ok (.iload_n 3, 1) := by decide +kernel
theorem dX8_put_6 : decode cX8_put 6 = .ok (.if_icmp .ge 33, 3) := by decide +kernel
theorem dX8_put_9 : decode cX8_put 9 = .ok (.aload_n 0, 1) := by decide +kernel
theorem dX8_put_10 : decode cX8_put 10 = .ok (.getfield 7, 3) := by decide +kernel
theorem dX8_put_13 : decode cX8_put 13 = .ok (.iload_n 1, 1) := by decide +kernel
theorem dX8_put_14 : decode cX8_put 14 = .ok (.iload 4, 2) := by decide +kernel
theorem dX8_put_16 : decode cX8_put 16 = .ok (.iadd, 1) := by decide +kernel
theorem dX8_put_17 : decode cX8_put 17 = .ok (.iload_n 2, 1) := by decide +kernel
theorem dX8_put_18 : decode cX8_put 18 = .ok (.bipush 8, 2) := by decide +kernel
theorem dX8_put_20 : decode cX8_put 20 = .ok (.iload_n 3, 1) := by decide +kernel
theorem dX8_put_21 : decode cX8_put 21 = .ok (.iconst 1, 1) := by decide +kernel
theorem dX8_put_22 : decode cX8_put 22 = .ok (.isub, 1) := by decide +kernel
theorem dX8_put_23 : decode cX8_put 23 = .ok (.iload 4, 2) := by decide +kernel
theorem dX8_put_25 : decode cX8_put 25 = .ok (.isub, 1) := by decide +kernel
theorem dX8_put_26 : decode cX8_put 26 = .ok (.imul, 1) := by decide +kernel
theorem dX8_put_27 : decode cX8_put 27 = .ok (.ishr, 1) := by decide +kernel
theorem dX8_put_28 : decode cX8_put 28 = .ok (.sipush 255, 3) := by decide +kernel
theorem dX8_put_31 : decode cX8_put 31 = .ok (.iand, 1) := by decide +kernel
theorem dX8_put_32 : decode cX8_put 32 = .ok (.iastore, 1) := by decide +kernel
theorem dX8_put_33 : decode cX8_put 33 = .ok (.iinc 4 1, 3) := by decide +kernel
theorem dX8_put_36 : decode cX8_put 36 = .ok (.goto (-33), 3) := by decide +kernel
theorem dX8_put_39 : decode cX8_put 39 = .ok (.return_, 1) := by decide +kernel
theorem dX8_signed_0 : decode cX8_signed 0 = .ok (.iload_n 0, 1) := by decide +kernel
theorem dX8_signed_1 : decode cX8_signed 1 = .ok (.sipush 32767, 3) := by decide +kernel
theorem dX8_signed_4 : decode cX8_signed 4 = .ok (.if_icmp .le 10, 3) := by decide +kernel
theorem dX8_signed_7 : decode cX8_signed 7 = .ok (.iload_n 0, 1) := by decide +kernel
theorem dX8_signed_8 : decode cX8_signed 8 = .ok (.ldc 37, 2) := by decide +kernel
theorem dX8_signed_10 : decode cX8_signed 10 = .ok (.isub, 1) := by decide +kernel
theorem dX8_signed_11 : decode cX8_signed 11 = .ok (.goto 4, 3) := by decide +kernel
theorem dX8_signed_14 : decode cX8_signed 14 = .ok (.iload_n 0, 1) := by decide +kernel
theorem dX8_signed_15 : decode cX8_signed 15 = .ok (.ireturn, 1) := by decide +kernel
theorem dX8_wrong_0 : decode cX8_wrong 0 = .ok (.aload_n 0, 1) := by decide +kernel
theorem dX8_wrong_1 : decode cX8_wrong 1 = .ok (.iload_n 1, 1) := by decide +kernel
theorem dX8_wrong_2 : decode cX8_wrong 2 = .ok (.ifCond .eq 14, 3) := by decide +kernel
theorem dX8_wrong_5 : decode cX8_wrong 5 = .ok (.aload_n 0, 1) := by decide +kernel
theorem dX8_wrong_6 : decode cX8_wrong 6 = .ok (.getfield 38, 3) := by decide +kernel
theorem dX8_wrong_9 : decode cX8_wrong 9 = .ok (.ifCond .ne 7, 3) := by decide +kernel
theorem dX8_wrong_12 : decode cX8_wrong 12 = .ok (.iload_n 2, 1) := by decide +kernel
theorem dX8_wrong_13 : decode cX8_wrong 13 = .ok (.goto 7, 3) := by decide +kernel
theorem dX8_wrong_16 : decode cX8_wrong 16 = .ok (.aload_n 0, 1) := by decide +kernel
theorem dX8_wrong_17 : decode cX8_wrong 17 = .ok (.getfield 38, 3) := by decide +kernel
theorem dX8_wrong_20 : decode cX8_wrong 20 = .ok (.putfield 38, 3) := by decide +kernel
theorem dX8_wrong_23 : decode cX8_wrong 23 = .ok (.return_, 1) := by decide +kernel
theorem dX8_good_0 : decode cX8_good 0 = .ok (.aload_n 0, 1) := by decide +kernel
theorem dX8_good_1 : decode cX8_good 1 = .ok (.iload_n 1, 1) := by decide +kernel
theorem dX8_good_2 : decode cX8_good 2 = .ok (.iload_n 3, 1) := by decide +kernel
theorem dX8_good_3 : decode cX8_good 3 = .ok (.irem, 1) := by decide +kernel
theorem dX8_good_4 : decode cX8_good 4 = .ok (.ifCond .eq 7, 3) := by decide +kernel
theorem dX8_good_7 : decode cX8_good 7 = .ok (.iconst 1, 1) := by decide +kernel
theorem dX8_good_8 : decode cX8_good 8 = .ok (.goto 4, 3) := by decide +kernel
theorem dX8_good_11 : decode cX8_good 11 = .ok (.iconst 0, 1) := by decide +kernel
theorem dX8_good_12 : decode cX8_good 12 = .ok (.bipush 6, 2) := by decide +kernel
theorem dX8_good_14 : decode cX8_good 14 = .ok (.invokevirtual 42, 3) := by decide +kernel
theorem dX8_good_17 : decode cX8_good 17 = .ok (.aload_n 0, 1) := by decide +kernel
theorem dX8_good_18 : decode cX8_good 18 = .ok (.iload_n 1, 1) := by decide +kernel
theorem dX8_good_19 : decode cX8_good 19 = .ok (.iload_n 2, 1) := by decide +kernel
theorem dX8_good_20 : decode cX8_good 20 = .ok (.iadd, 1) := by decide +kernel
theorem dX8_good_21 : decode cX8_good 21 = .ok (.sipush 2048, 3) := by decide +kernel
theorem dX8_good_24 : decode cX8_good 24 = .ok (.if_icmp .le 7, 3) := by decide +kernel
theorem dX8_good_27 : decode cX8_good 27 = .ok (.iconst 1, 1) := by decide +kernel
theorem dX8_good_28 : decode cX8_good 28 = .ok (.goto 4, 3) := by decide +kernel
theorem dX8_good_31 : decode cX8_good 31 = .ok (.iconst 0, 1) := by decide +kernel
theorem dX8_good_32 : decode cX8_good 32 = .ok (.iconst 5, 1) := by decide +kernel
theorem dX8_good_33 : decode cX8_good 33 = .ok (.invokevirtual 42, 3) := by decide +kernel
theorem dX8_good_36 : decode cX8_good 36 = .ok (.iconst 0, 1) := by decide +kernel
theorem dX8_good_37 : decode cX8_good 37 = .ok (.istore 5, 2) := by decide +kernel
theorem dX8_good_39 : decode cX8_good 39 = .ok (.iload 5, 2) := by decide +kernel
theorem dX8_good_41 : decode cX8_good 41 = .ok (.iload_n 2, 1) := by decide +kernel
theorem dX8_good_42 : decode cX8_good 42 = .ok (.if_icmp .ge 58, 3) := by decide +kernel
theorem dX8_good_45 : decode cX8_good 45 = .ok (.iload 4, 2) := by decide +kernel
theorem dX8_good_47 : decode cX8_good 47 = .ok (.ifCond .eq 53, 3) := by decide +kernel
theorem dX8_good_50 : decode cX8_good 50 = .ok (.aload_n 0, 1) := by decide +kernel
theorem dX8_good_51 : decode cX8_good 51 = .ok (.getfield 46, 3) := by decide +kernel
theorem dX8_good_54 : decode cX8_good 54 = .ok (.ifCond .eq 46, 3) := by decide +kernel
theorem dX8_good_57 : decode cX8_good 57 = .ok (.aload_n 0, 1) := by decide +kernel
theorem dX8_good_58 : decode cX8_good 58 = .ok (.getfield 38, 3) := by decide +kernel
theorem dX8_good_61 : decode cX8_good 61 = .ok (.ifCond .ne 39, 3) := by decide +kernel
theorem dX8_good_64 : decode cX8_good 64 = .ok (.aload_n 0, 1) := by decide +kernel
theorem dX8_good_65 : decode cX8_good 65 = .ok (.aload_n 0, 1) := by decide +kernel
theorem dX8_good_66 : decode cX8_good 66 = .ok (.getfield 13, 3) := by decide +kernel
theorem dX8_good_69 : decode cX8_good 69 = .ok (.iload_n 1, 1) := by decide +kernel
theorem dX8_good_70 : decode cX8_good 70 = .ok (.iload 5, 2) := by decide +kernel
theorem dX8_good_72 : decode cX8_good 72 = .ok (.iadd, 1) := by decide +kernel
theorem dX8_good_73 : decode cX8_good 73 = .ok (.sipush 256, 3) := by decide +kernel
theorem dX8_good_76 : decode cX8_good 76 = .ok (.idiv, 1) := by decide +kernel
theorem dX8_good_77 : decode cX8_good 77 = .ok (.iaload, 1) := by decide +kernel
theorem dX8_good_78 : decode cX8_good 78 = .ok (.aload_n 0, 1) := by decide +kernel
theorem dX8_good_79 : decode cX8_good 79 = .ok (.getfield 46, 3) := by decide +kernel
theorem dX8_good_82 : decode cX8_good 82 = .ok (.if_icmp .eq 7, 3) := by decide +kernel
theorem dX8_good_85 : decode cX8_good 85 = .ok (.iconst 1, 1) := by decide +kernel
theorem dX8_good_86 : decode cX8_good 86 = .ok (.goto 4, 3) := by decide +kernel
theorem dX8_good_89 : decode cX8_good 89 = .ok (.iconst 0, 1) := by decide +kernel
theorem dX8_good_90 : decode cX8_good 90 = .ok (.iconst 4, 1) := by decide +kernel
theorem dX8_good_91 : decode cX8_good 91 = .ok (.invokevirtual 42, 3) := by decide +kernel
theorem dX8_good_94 : decode cX8_good 94 = .ok (.iinc 5 1, 3) := by decide +kernel
theorem dX8_good_97 : decode cX8_good 97 = .ok (.goto (-58), 3) := by decide +kernel
theorem dX8_good_100 : decode cX8_good 100 = .ok (.aload_n 0, 1) := by decide +kernel
theorem dX8_good_101 : decode cX8_good 101 = .ok (.getfield 38, 3) := by decide +kernel
theorem dX8_good_104 : decode cX8_good 104 = .ok (.ifCond .ne 7, 3) := by decide +kernel
theorem dX8_good_107 : decode cX8_good 107 = .ok (.iconst 1, 1) := by decide +kernel
theorem dX8_good_108 : decode cX8_good 108 = .ok (.goto 4, 3) := by decide +kernel
theorem dX8_good_111 : decode cX8_good 111 = .ok (.iconst 0, 1) := by decide +kernel
theorem dX8_good_112 : decode cX8_good 112 = .ok (.ireturn, 1) := by decide +kernel
theorem dX8_interrupt_0 : decode cX8_interrupt 0 = .ok (.aload_n 0, 1) := by decide +kernel
theorem dX8_interrupt_1 : decode cX8_interrupt 1 = .ok (.getfield 7, 3) := by decide +kernel
theorem dX8_interrupt_4 : decode cX8_interrupt 4 = .ok (.iload_n 1, 1) := by decide +kernel
theorem dX8_interrupt_5 : decode cX8_interrupt 5 = .ok (.aload_n 0, 1) := by decide +kernel
theorem dX8_interrupt_6 : decode cX8_interrupt 6 = .ok (.getfield 49, 3) := by decide +kernel
theorem dX8_interrupt_9 : decode cX8_interrupt 9 = .ok (.iastore, 1) := by decide +kernel
theorem dX8_interrupt_10 : decode cX8_interrupt 10 = .ok (.aload_n 0, 1) := by decide +kernel
theorem dX8_interrupt_11 : decode cX8_interrupt 11 = .ok (.getfield 7, 3) := by decide +kernel
theorem dX8_interrupt_14 : decode cX8_interrupt 14 = .ok (.iload_n 1, 1) := by decide +kernel
theorem dX8_interrupt_15 : decode cX8_interrupt 15 = .ok (.iconst 1, 1) := by decide +kernel
theorem dX8_interrupt_16 : decode cX8_interrupt 16 = .ok (.iadd, 1) := by decide +kernel
theorem dX8_interrupt_17 : decode cX8_interrupt 17 = .ok (.bipush 16, 2) := by decide +kernel
theorem dX8_interrupt_19 : decode cX8_interrupt 19 = .ok (.aload_n 0, 1) := by decide +kernel
theorem dX8_interrupt_20 : decode cX8_interrupt 20 = .ok (.getfield 46, 3) := by decide +kernel
theorem dX8_interrupt_23 : decode cX8_interrupt 23 = .ok (.imul, 1) := by decide +kernel
theorem dX8_interrupt_24 : decode cX8_interrupt 24 = .ok (.aload_n 0, 1) := by decide +kernel
theorem dX8_interrupt_25 : decode cX8_interrupt 25 = .ok (.getfield 52, 3) := by decide +kernel
theorem dX8_interrupt_28 : decode cX8_interrupt 28 = .ok (.iadd, 1) := by decide +kernel
theorem dX8_interrupt_29 : decode cX8_interrupt 29 = .ok (.iastore, 1) := by decide +kernel
theorem dX8_interrupt_30 : decode cX8_interrupt 30 = .ok (.aload_n 0, 1) := by decide +kernel
theorem dX8_interrupt_31 : decode cX8_interrupt 31 = .ok (.iload_n 1, 1) := by decide +kernel
theorem dX8_interrupt_32 : decode cX8_interrupt 32 = .ok (.iconst 2, 1) := by decide +kernel
theorem dX8_interrupt_33 : decode cX8_interrupt 33 = .ok (.iadd, 1) := by decide +kernel
theorem dX8_interrupt_34 : decode cX8_interrupt 34 = .ok (.iload_n 3, 1) := by decide +kernel
theorem dX8_interrupt_35 : decode cX8_interrupt 35 = .ok (.iconst 2, 1) := by decide +kernel
theorem dX8_interrupt_36 : decode cX8_interrupt 36 = .ok (.invokevirtual 55, 3) := by decide +kernel
theorem dX8_interrupt_39 : decode cX8_interrupt 39 = .ok (.aload_n 0, 1) := by decide +kernel
theorem dX8_interrupt_40 : decode cX8_interrupt 40 = .ok (.iload_n 1, 1) := by decide +kernel
theorem dX8_interrupt_41 : decode cX8_interrupt 41 = .ok (.iconst 4, 1) := by decide +kernel
theorem dX8_interrupt_42 : decode cX8_interrupt 42 = .ok (.iadd, 1) := by decide +kernel
theorem dX8_interrupt_43 : decode cX8_interrupt 43 = .ok (.iconst 0, 1) := by decide +kernel
theorem dX8_interrupt_44 : decode cX8_interrupt 44 = .ok (.iconst 2, 1) := by decide +kernel
theorem dX8_interrupt_45 : decode cX8_interrupt 45 = .ok (.invokevirtual 55, 3) := by decide +kernel
theorem dX8_interrupt_48 : decode cX8_interrupt 48 = .ok (.aload_n 0, 1) := by decide +kernel
theorem dX8_interrupt_49 : decode cX8_interrupt 49 = .ok (.iload_n 1, 1) := by decide +kernel
theorem dX8_interrupt_50 : decode cX8_interrupt 50 = .ok (.bipush 6, 2) := by decide +kernel
theorem dX8_interrupt_52 : decode cX8_interrupt 52 = .ok (.iadd, 1) := by decide +kernel
theorem dX8_interrupt_53 : decode cX8_interrupt 53 = .ok (.aload_n 0, 1) := by decide +kernel
theorem dX8_interrupt_54 : decode cX8_interrupt 54 = .ok (.getfield 59, 3) := by decide +kernel
theorem dX8_interrupt_57 : decode cX8_interrupt 57 = .ok (.iconst 2, 1) := by decide +kernel
theorem dX8_interrupt_58 : decode cX8_interrupt 58 = .ok (.invokevirtual 55, 3) := by decide +kernel
theorem dX8_interrupt_61 : decode cX8_interrupt 61 = .ok (.aload_n 0, 1) := by decide +kernel
theorem dX8_interrupt_62 : decode cX8_interrupt 62 = .ok (.iload_n 2, 1) := by decide +kernel
theorem dX8_interrupt_63 : decode cX8_interrupt 63 = .ok (.invokevirtual 62, 3) := by decide +kernel
theorem dX8_interrupt_66 : decode cX8_interrupt 66 = .ok (.return_, 1) := by decide +kernel
theorem dX8_loadStatus_0 : decode cX8_loadStatus 0 = .ok (.aload_n 0, 1) := by decide +kernel
theorem dX8_loadStatus_1 : decode cX8_loadStatus 1 = .ok (.aload_n 0, 1) := by decide +kernel
theorem dX8_loadStatus_2 : decode cX8_loadStatus 2 = .ok (.getfield 7, 3) := by decide +kernel
theorem dX8_loadStatus_5 : decode cX8_loadStatus 5 = .ok (.iload_n 1, 1) := by decide +kernel
theorem dX8_loadStatus_6 : decode cX8_loadStatus 6 = .ok (.iaload, 1) := by decide +kernel
theorem dX8_loadStatus_7 : decode cX8_loadStatus 7 = .ok (.bipush 31, 2) := by decide +kernel
theorem dX8_loadStatus_9 : decode cX8_loadStatus 9 = .ok (.iand, 1) := by decide +kernel
theorem dX8_loadStatus_10 : decode cX8_loadStatus 10 = .ok (.putfield 49, 3) := by decide +kernel
theorem dX8_loadStatus_13 : decode cX8_loadStatus 13 = .ok (.aload_n 0, 1) := by decide +kernel
theorem dX8_loadStatus_14 : decode cX8_loadStatus 14 = .ok (.aload_n 0, 1) := by decide +kernel
theorem dX8_loadStatus_15 : decode cX8_loadStatus 15 = .ok (.getfield 7, 3) := by decide +kernel
theorem dX8_loadStatus_18 : decode cX8_loadStatus 18 = .ok (.iload_n 1, 1) := by decide +kernel
theorem dX8_loadStatus_19 : decode cX8_loadStatus 19 = .ok (.iconst 1, 1) := by decide +kernel
theorem dX8_loadStatus_20 : decode cX8_loadStatus 20 = .ok (.iadd, 1) := by decide +kernel
theorem dX8_loadStatus_21 : decode cX8_loadStatus 21 = .ok (.iaload, 1) := by decide +kernel
theorem dX8_loadStatus_22 : decode cX8_loadStatus 22 = .ok (.bipush 16, 2) := by decide +kernel
theorem dX8_loadStatus_24 : decode cX8_loadStatus 24 = .ok (.idiv, 1) := by decide +kernel
theorem dX8_loadStatus_25 : decode cX8_loadStatus 25 = .ok (.putfield 46, 3) := by decide +kernel
theorem dX8_loadStatus_28 : decode cX8_loadStatus 28 = .ok (.aload_n 0, 1) := by decide +kernel
theorem dX8_loadStatus_29 : decode cX8_loadStatus 29 = .ok (.aload_n 0, 1) := by decide +kernel
theorem dX8_loadStatus_30 : decode cX8_loadStatus 30 = .ok (.getfield 7, 3) := by decide +kernel
theorem dX8_loadStatus_33 : decode cX8_loadStatus 33 = .ok (.iload_n 1, 1) := by decide +kernel
theorem dX8_loadStatus_34 : decode cX8_loadStatus 34 = .ok (.iconst 1, 1) := by decide +kernel
theorem dX8_loadStatus_35 : decode cX8_loadStatus 35 = .ok (.iadd, 1) := by decide +kernel
theorem dX8_loadStatus_36 : decode cX8_loadStatus 36 = .ok (.iaload, 1) := by decide +kernel
theorem dX8_loadStatus_37 : decode cX8_loadStatus 37 = .ok (.iconst 3, 1) := by decide +kernel
theorem dX8_loadStatus_38 : decode cX8_loadStatus 38 = .ok (.iand, 1) := by decide +kernel
theorem dX8_loadStatus_39 : decode cX8_loadStatus 39 = .ok (.putfield 52, 3) := by decide +kernel
theorem dX8_loadStatus_42 : decode cX8_loadStatus 42 = .ok (.aload_n 0, 1) := by decide +kernel
theorem dX8_loadStatus_43 : decode cX8_loadStatus 43 = .ok (.aload_n 0, 1) := by decide +kernel
theorem dX8_loadStatus_44 : decode cX8_loadStatus 44 = .ok (.iload_n 1, 1) := by decide +kernel
theorem dX8_loadStatus_45 : decode cX8_loadStatus 45 = .ok (.bipush 6, 2) := by decide +kernel
theorem dX8_loadStatus_47 : decode cX8_loadStatus 47 = .ok (.iadd, 1) := by decide +kernel
theorem dX8_loadStatus_48 : decode cX8_loadStatus 48 = .ok (.iconst 2, 1) := by decide +kernel
theorem dX8_loadStatus_49 : decode cX8_loadStatus 49 = .ok (.invokevirtual 66, 3) := by decide +kernel
theorem dX8_loadStatus_52 : decode cX8_loadStatus 52 = .ok (.putfield 59, 3) := by decide +kernel
theorem dX8_loadStatus_55 : decode cX8_loadStatus 55 = .ok (.return_, 1) := by decide +kernel
theorem dX8_makeStep_0 : decode cX8_makeStep 0 = .ok (.aload_n 0, 1) := by decide +kernel
theorem dX8_makeStep_1 : decode cX8_makeStep 1 = .ok (.dup, 1) := by decide +kernel
theorem dX8_makeStep_2 : decode cX8_makeStep 2 = .ok (.getfield 70, 3) := by decide +kernel
theorem dX8_makeStep_5 : decode cX8_makeStep 5 = .ok (.iconst 1, 1) := by decide +kernel
theorem dX8_makeStep_6 : decode cX8_makeStep 6 = .ok (.iadd, 1) := by decide +kernel
theorem dX8_makeStep_7 : decode cX8_makeStep 7 = .ok (.putfield 70, 3) := by decide +kernel
theorem dX8_makeStep_10 : decode cX8_makeStep 10 = .ok (.aload_n 0, 1) := by decide +kernel
theorem dX8_makeStep_11 : decode cX8_makeStep 11 = .ok (.getfield 73, 3) := by decide +kernel
theorem dX8_makeStep_14 : decode cX8_makeStep 14 = .ok (.ifCond .eq 31, 3) := by decide +kernel
theorem dX8_makeStep_17 : decode cX8_makeStep 17 = .ok (.aload_n 0, 1) := by decide +kernel
theorem dX8_makeStep_18 : decode cX8_makeStep 18 = .ok (.getfield 49, 3) := by decide +kernel
theorem dX8_makeStep_21 : decode cX8_makeStep 21 = .ok (.iconst 2, 1) := by decide +kernel
theorem dX8_makeStep_22 : decode cX8_makeStep 22 = .ok (.irem, 1) := by decide +kernel
theorem dX8_makeStep_23 : decode cX8_makeStep 23 = .ok (.iconst 1, 1) := by decide +kernel
theorem dX8_makeStep_24 : decode cX8_makeStep 24 = .ok (.if_icmp .ne 21, 3) := by decide +kernel
theorem dX8_makeStep_27 : decode cX8_makeStep 27 = .ok (.aload_n 0, 1) := by decide +kernel
theorem dX8_makeStep_28 : decode cX8_makeStep 28 = .ok (.iconst 0, 1) := by decide +kernel
theorem dX8_makeStep_29 : decode cX8_makeStep 29 = .ok (.putfield 73, 3) := by decide +kernel
theorem dX8_makeStep_32 : decode cX8_makeStep 32 = .ok (.aload_n 0, 1) := by decide +kernel
theorem dX8_makeStep_33 : decode cX8_makeStep 33 = .ok (.bipush 24, 2) := by decide +kernel
theorem dX8_makeStep_35 : decode cX8_makeStep 35 = .ok (.bipush 88, 2) := by decide +kernel
theorem dX8_makeStep_37 : decode cX8_makeStep 37 = .ok (.sipush 128, 3) := by decide +kernel
theorem dX8_makeStep_40 : decode cX8_makeStep 40 = .ok (.invokevirtual 77, 3) := by decide +kernel
theorem dX8_makeStep_43 : decode cX8_makeStep 43 = .ok (.iconst 0, 1) := by decide +kernel
theorem dX8_makeStep_44 : decode cX8_makeStep 44 = .ok (.ireturn, 1) := by decide +kernel
theorem dX8_makeStep_45 : decode cX8_makeStep 45 = .ok (.aload_n 0, 1) := by decide +kernel
theorem dX8_makeStep_46 : decode cX8_makeStep 46 = .ok (.getfield 80, 3) := by decide +kernel
theorem dX8_makeStep_49 : decode cX8_makeStep 49 = .ok (.ifCond .eq 34, 3) := by decide +kernel
theorem dX8_makeStep_52 : decode cX8_makeStep 52 = .ok (.aload_n 0, 1) := by decide +kernel
theorem dX8_makeStep_53 : decode cX8_makeStep 53 = .ok (.getfield 49, 3) := by decide +kernel
theorem dX8_makeStep_56 : decode cX8_makeStep 56 = .ok (.iconst 2, 1) := by decide +kernel
theorem dX8_makeStep_57 : decode cX8_makeStep 57 = .ok (.idiv, 1) := by decide +kernel
theorem dX8_makeStep_58 : decode cX8_makeStep 58 = .ok (.iconst 2, 1) := by decide +kernel
theorem dX8_makeStep_59 : decode cX8_makeStep 59 = .ok (.irem, 1) := by decide +kernel
theorem dX8_makeStep_60 : decode cX8_makeStep 60 = .ok (.iconst 1, 1) := by decide +kernel
theorem dX8_makeStep_61 : decode cX8_makeStep 61 = .ok (.if_icmp .ne 22, 3) := by decide +kernel
theorem dX8_makeStep_64 : decode cX8_makeStep 64 = .ok (.aload_n 0, 1) := by decide +kernel
theorem dX8_makeStep_65 : decode cX8_makeStep 65 = .ok (.iconst 0, 1) := by decide +kernel
theorem dX8_makeStep_66 : decode cX8_makeStep 66 = .ok (.putfield 80, 3) := by decide +kernel
theorem dX8_makeStep_69 : decode cX8_makeStep 69 = .ok (.aload_n 0, 1) := by decide +kernel
theorem dX8_makeStep_70 : decode cX8_makeStep 70 = .ok (.bipush 56, 2) := by decide +kernel
theorem dX8_makeStep_72 : decode cX8_makeStep 72 = .ok (.bipush 120, 2) := by decide +kernel
theorem dX8_makeStep_74 : decode cX8_makeStep 74 = .ok (.aload_n 0, 1) := by decide +kernel
theorem dX8_makeStep_75 : decode cX8_makeStep 75 = .ok (.getfield 83, 3) := by decide +kernel
theorem dX8_makeStep_78 : decode cX8_makeStep 78 = .ok (.invokevirtual 77, 3) := by decide +kernel
theorem dX8_makeStep_81 : decode cX8_makeStep 81 = .ok (.iconst 0, 1) := by decide +kernel
theorem dX8_makeStep_82 : decode cX8_makeStep 82 = .ok (.ireturn, 1) := by decide +kernel
theorem dX8_makeStep_83 : decode cX8_makeStep 83 = .ok (.aload_n 0, 1) := by decide +kernel
theorem dX8_makeStep_84 : decode cX8_makeStep 84 = .ok (.bipush 80, 2) := by decide +kernel
theorem dX8_makeStep_86 : decode cX8_makeStep 86 = .ok (.iconst 4, 1) := by decide +kernel
theorem dX8_makeStep_87 : decode cX8_makeStep 87 = .ok (.invokevirtual 66, 3) := by decide +kernel
theorem dX8_makeStep_90 : decode cX8_makeStep 90 = .ok (.iconst 1, 1) := by decide +kernel
theorem dX8_makeStep_91 : decode cX8_makeStep 91 = .ok (.isub, 1) := by decide +kernel
theorem dX8_makeStep_92 : decode cX8_makeStep 92 = .ok (.istore_n 1, 1) := by decide +kernel
theorem dX8_makeStep_93 : decode cX8_makeStep 93 = .ok (.aload_n 0, 1) := by decide +kernel
theorem dX8_makeStep_94 : decode cX8_makeStep 94 = .ok (.bipush 80, 2) := by decide +kernel
theorem dX8_makeStep_96 : decode cX8_makeStep 96 = .ok (.iload_n 1, 1) := by decide +kernel
theorem dX8_makeStep_97 : decode cX8_makeStep 97 = .ok (.iconst 4, 1) := by decide +kernel
theorem dX8_makeStep_98 : decode cX8_makeStep 98 = .ok (.invokevirtual 55, 3) := by decide +kernel
theorem dX8_makeStep_101 : decode cX8_makeStep 101 = .ok (.aload_n 0, 1) := by decide +kernel
theorem dX8_makeStep_102 : decode cX8_makeStep 102 = .ok (.aload_n 0, 1) := by decide +kernel
theorem dX8_makeStep_103 : decode cX8_makeStep 103 = .ok (.getfield 73, 3) := by decide +kernel
theorem dX8_makeStep_106 : decode cX8_makeStep 106 = .ok (.ifCond .ne 8, 3) := by decide +kernel
theorem dX8_makeStep_109 : decode cX8_makeStep 109 = .ok (.iload_n 1, 1) := by decide +kernel
theorem dX8_makeStep_110 : decode cX8_makeStep 110 = .ok (.iconst (-1), 1) := by decide +kernel
theorem dX8_makeStep_111 : decode cX8_makeStep 111 = .ok (.if_icmp .ne 7, 3) := by decide +kernel
theorem dX8_makeStep_114 : decode cX8_makeStep 114 = .ok (.iconst 1, 1) := by decide +kernel
theorem dX8_makeStep_115 : decode cX8_makeStep 115 = .ok (.goto 4, 3) := by decide +kernel
theorem dX8_makeStep_118 : decode cX8_makeStep 118 = .ok (.iconst 0, 1) := by decide +kernel
theorem dX8_makeStep_119 : decode cX8_makeStep 119 = .ok (.putfield 73, 3) := by decide +kernel
theorem dX8_makeStep_122 : decode cX8_makeStep 122 = .ok (.aload_n 0, 1) := by decide +kernel
theorem dX8_makeStep_123 : decode cX8_makeStep 123 = .ok (.iconst 0, 1) := by decide +kernel
theorem dX8_makeStep_124 : decode cX8_makeStep 124 = .ok (.putfield 38, 3) := by decide +kernel
theorem dX8_makeStep_127 : decode cX8_makeStep 127 = .ok (.aload_n 0, 1) := by decide +kernel
theorem dX8_makeStep_128 : decode cX8_makeStep 128 = .ok (.iconst 0, 1) := by decide +kernel
theorem dX8_makeStep_129 : decode cX8_makeStep 129 = .ok (.putfield 86, 3) := by decide +kernel
theorem dX8_makeStep_132 : decode cX8_makeStep 132 = .ok (.aload_n 0, 1) := by decide +kernel
theorem dX8_makeStep_133 : decode cX8_makeStep 133 = .ok (.invokevirtual 89, 3) := by decide +kernel
theorem dX8_makeStep_136 : decode cX8_makeStep 136 = .ok (.aload_n 0, 1) := by decide +kernel
theorem dX8_makeStep_137 : decode cX8_makeStep 137 = .ok (.getfield 38, 3) := by decide +kernel
theorem dX8_makeStep_140 : decode cX8_makeStep 140 = .ok (.ifCond .le 10, 3) := by decide +kernel
theorem dX8_makeStep_143 : decode cX8_makeStep 143 = .ok (.aload_n 0, 1) := by decide +kernel
theorem dX8_makeStep_144 : decode cX8_makeStep 144 = .ok (.getfield 38, 3) := by decide +kernel
theorem dX8_makeStep_147 : decode cX8_makeStep 147 = .ok (.goto 7, 3) := by decide +kernel
theorem dX8_makeStep_150 : decode cX8_makeStep 150 = .ok (.aload_n 0, 1) := by decide +kernel
theorem dX8_makeStep_151 : decode cX8_makeStep 151 = .ok (.getfield 86, 3) := by decide +kernel
theorem dX8_makeStep_154 : decode cX8_makeStep 154 = .ok (.istore_n 2, 1) := by decide +kernel
theorem dX8_makeStep_155 : decode cX8_makeStep 155 = .ok (.iload_n 2, 1) := by decide +kernel
theorem dX8_makeStep_156 : decode cX8_makeStep 156 = .ok (.ifCond .ne 5, 3) := by decide +kernel
theorem dX8_makeStep_159 : decode cX8_makeStep 159 = .ok (.iconst 0, 1) := by decide +kernel
theorem dX8_makeStep_160 : decode cX8_makeStep 160 = .ok (.ireturn, 1) := by decide +kernel
theorem dX8_makeStep_161 : decode cX8_makeStep 161 = .ok (.aload_n 0, 1) := by decide +kernel
theorem dX8_makeStep_162 : decode cX8_makeStep 162 = .ok (.iload_n 2, 1) := by decide +kernel
theorem dX8_makeStep_163 : decode cX8_makeStep 163 = .ok (.putfield 92, 3) := by decide +kernel
theorem dX8_makeStep_166 : decode cX8_makeStep 166 = .ok (.aload_n 0, 1) := by decide +kernel
theorem dX8_makeStep_167 : decode cX8_makeStep 167 = .ok (.bipush 40, 2) := by decide +kernel
theorem dX8_makeStep_169 : decode cX8_makeStep 169 = .ok (.bipush 104, 2) := by decide +kernel
theorem dX8_makeStep_171 : decode cX8_makeStep 171 = .ok (.iload_n 2, 1) := by decide +kernel
theorem dX8_makeStep_172 : decode cX8_makeStep 172 = .ok (.invokevirtual 77, 3) := by decide +kernel
theorem dX8_makeStep_175 : decode cX8_makeStep 175 = .ok (.iconst 1, 1) := by decide +kernel
theorem dX8_makeStep_176 : decode cX8_makeStep 176 = .ok (.ireturn, 1) := by decide +kernel
theorem dX8_instruct_0 : decode cX8_instruct 0 = .ok (.aload_n 0, 1) := by decide +kernel
theorem dX8_instruct_1 : decode cX8_instruct 1 = .ok (.getfield 59, 3) := by decide +kernel
theorem dX8_instruct_4 : decode cX8_instruct 4 = .ok (.istore_n 1, 1) := by decide +kernel
theorem dX8_instruct_5 : decode cX8_instruct 5 = .ok (.iload_n 1, 1) := by decide +kernel
theorem dX8_instruct_6 : decode cX8_instruct 6 = .ok (.sipush 2048, 3) := by decide +kernel
theorem dX8_instruct_9 : decode cX8_instruct 9 = .ok (.if_icmp .ge 12, 3) := by decide +kernel
theorem dX8_instruct_12 : decode cX8_instruct 12 = .ok (.aload_n 0, 1) := by decide +kernel
theorem dX8_instruct_13 : decode cX8_instruct 13 = .ok (.getfield 7, 3) := by decide +kernel
theorem dX8_instruct_16 : decode cX8_instruct 16 = .ok (.iload_n 1, 1) := by decide +kernel
theorem dX8_instruct_17 : decode cX8_instruct 17 = .ok (.iaload, 1) := by decide +kernel
theorem dX8_instruct_18 : decode cX8_instruct 18 = .ok (.goto 4, 3) := by decide +kernel
theorem dX8_instruct_21 : decode cX8_instruct 21 = .ok (.iconst 0, 1) := by decide +kernel
theorem dX8_instruct_22 : decode cX8_instruct 22 = .ok (.istore_n 2, 1) := by decide +kernel
theorem dX8_instruct_23 : decode cX8_instruct 23 = .ok (.iload_n 2, 1) := by decide +kernel
theorem dX8_instruct_24 : decode cX8_instruct 24 = .ok (.bipush 64, 2) := by decide +kernel
theorem dX8_instruct_26 : decode cX8_instruct 26 = .ok (.if_icmp .ge 7, 3) := by decide +kernel
theorem dX8_instruct_29 : decode cX8_instruct 29 = .ok (.iconst 2, 1) := by decide +kernel
theorem dX8_instruct_30 : decode cX8_instruct 30 = .ok (.goto 16, 3) := by decide +kernel
theorem dX8_instruct_33 : decode cX8_instruct 33 = .ok (.iload_n 2, 1) := by decide +kernel
theorem dX8_instruct_34 : decode cX8_instruct 34 = .ok (.sipush 192, 3) := by decide +kernel
theorem dX8_instruct_37 : decode cX8_instruct 37 = .ok (.if_icmp .ge 7, 3) := by decide +kernel
theorem dX8_instruct_40 : decode cX8_instruct 40 = .ok (.iconst 4, 1) := by decide +kernel
theorem dX8_instruct_41 : decode cX8_instruct 41 = .ok (.goto 5, 3) := by decide +kernel
theorem dX8_instruct_44 : decode cX8_instruct 44 = .ok (.bipush 6, 2) := by decide +kernel
theorem dX8_instruct_46 : decode cX8_instruct 46 = .ok (.istore_n 3, 1) := by decide +kernel
theorem dX8_instruct_47 : decode cX8_instruct 47 = .ok (.aload_n 0, 1) := by decide +kernel
theorem dX8_instruct_48 : decode cX8_instruct 48 = .ok (.iload_n 1, 1) := by decide +kernel
theorem dX8_instruct_49 : decode cX8_instruct 49 = .ok (.iload_n 3, 1) := by decide +kernel
theorem dX8_instruct_50 : decode cX8_instruct 50 = .ok (.iadd, 1) := by decide +kernel
theorem dX8_instruct_51 : decode cX8_instruct 51 = .ok (.ldc 37, 2) := by decide +kernel
theorem dX8_instruct_53 : decode cX8_instruct 53 = .ok (.irem, 1) := by decide +kernel
theorem dX8_instruct_54 : decode cX8_instruct 54 = .ok (.putfield 59, 3) := by decide +kernel
theorem dX8_instruct_57 : decode cX8_instruct 57 = .ok (.aload_n 0, 1) := by decide +kernel
theorem dX8_instruct_58 : decode cX8_instruct 58 = .ok (.iload_n 1, 1) := by decide +kernel
theorem dX8_instruct_59 : decode cX8_instruct 59 = .ok (.iconst 2, 1) := by decide +kernel
theorem dX8_instruct_60 : decode cX8_instruct 60 = .ok (.irem, 1) := by decide +kernel
theorem dX8_instruct_61 : decode cX8_instruct 61 = .ok (.iconst 1, 1) := by decide +kernel
theorem dX8_instruct_62 : decode cX8_instruct 62 = .ok (.if_icmp .ne 7, 3) := by decide +kernel
theorem dX8_instruct_65 : decode cX8_instruct 65 = .ok (.iconst 1, 1) := by decide +kernel
theorem dX8_instruct_66 : decode cX8_instruct 66 = .ok (.goto 4, 3) := by decide +kernel
theorem dX8_instruct_69 : decode cX8_instruct 69 = .ok (.iconst 0, 1) := by decide +kernel
theorem dX8_instruct_70 : decode cX8_instruct 70 = .ok (.bipush 6, 2) := by decide +kernel
theorem dX8_instruct_72 : decode cX8_instruct 72 = .ok (.invokevirtual 42, 3) := by decide +kernel
theorem dX8_instruct_75 : decode cX8_instruct 75 = .ok (.aload_n 0, 1) := by decide +kernel
theorem dX8_instruct_76 : decode cX8_instruct 76 = .ok (.iload_n 1, 1) := by decide +kernel
theorem dX8_instruct_77 : decode cX8_instruct 77 = .ok (.iload_n 3, 1) := by decide +kernel
theorem dX8_instruct_78 : decode cX8_instruct 78 = .ok (.iadd, 1) := by decide +kernel
theorem dX8_instruct_79 : decode cX8_instruct 79 = .ok (.sipush 2048, 3) := by decide +kernel
theorem dX8_instruct_82 : decode cX8_instruct 82 = .ok (.if_icmp .le 7, 3) := by decide +kernel
theorem dX8_instruct_85 : decode cX8_instruct 85 = .ok (.iconst 1, 1) := by decide +kernel
theorem dX8_instruct_86 : decode cX8_instruct 86 = .ok (.goto 4, 3) := by decide +kernel
theorem dX8_instruct_89 : decode cX8_instruct 89 = .ok (.iconst 0, 1) := by decide +kernel
theorem dX8_instruct_90 : decode cX8_instruct 90 = .ok (.iconst 5, 1) := by decide +kernel
theorem dX8_instruct_91 : decode cX8_instruct 91 = .ok (.invokevirtual 42, 3) := by decide +kernel
theorem dX8_instruct_94 : decode cX8_instruct 94 = .ok (.aload_n 0, 1) := by decide +kernel
theorem dX8_instruct_95 : decode cX8_instruct 95 = .ok (.iload_n 2, 1) := by decide +kernel
theorem dX8_instruct_96 : decode cX8_instruct 96 = .ok (.invokestatic 95, 3) := by decide +kernel
theorem dX8_instruct_99 : decode cX8_instruct 99 = .ok (.ifCond .ne 7, 3) := by decide +kernel
theorem dX8_instruct_102 : decode cX8_instruct 102 = .ok (.iconst 1, 1) := by decide +kernel
theorem dX8_instruct_103 : decode cX8_instruct 103 = .ok (.goto 4, 3) := by decide +kernel
theorem dX8_instruct_106 : decode cX8_instruct 106 = .ok (.iconst 0, 1) := by decide +kernel
theorem dX8_instruct_107 : decode cX8_instruct 107 = .ok (.iconst 1, 1) := by decide +kernel
theorem dX8_instruct_108 : decode cX8_instruct 108 = .ok (.invokevirtual 42, 3) := by decide +kernel
theorem dX8_instruct_111 : decode cX8_instruct 111 = .ok (.aload_n 0, 1) := by decide +kernel
theorem dX8_instruct_112 : decode cX8_instruct 112 = .ok (.iload_n 2, 1) := by decide +kernel
theorem dX8_instruct_113 : decode cX8_instruct 113 = .ok (.invokestatic 95, 3) := by decide +kernel
theorem dX8_instruct_116 : decode cX8_instruct 116 = .ok (.iconst 2, 1) := by decide +kernel
theorem dX8_instruct_117 : decode cX8_instruct 117 = .ok (.if_icmp .ne 19, 3) := by decide +kernel
theorem dX8_instruct_120 : decode cX8_instruct 120 = .ok (.aload_n 0, 1) := by decide +kernel
theorem dX8_instruct_121 : decode cX8_instruct 121 = .ok (.getfield 49, 3) := by decide +kernel
theorem dX8_instruct_124 : decode cX8_instruct 124 = .ok (.iconst 4, 1) := by decide +kernel
theorem dX8_instruct_125 : decode cX8_instruct 125 = .ok (.idiv, 1) := by decide +kernel
theorem dX8_instruct_126 : decode cX8_instruct 126 = .ok (.iconst 2, 1) := by decide +kernel
theorem dX8_instruct_127 : decode cX8_instruct 127 = .ok (.irem, 1) := by decide +kernel
theorem dX8_instruct_128 : decode cX8_instruct 128 = .ok (.iconst 1, 1) := by decide +kernel
theorem dX8_instruct_129 : decode cX8_instruct 129 = .ok (.if_icmp .ne 7, 3) := by decide +kernel
theorem dX8_instruct_132 : decode cX8_instruct 132 = .ok (.iconst 1, 1) := by decide +kernel
theorem dX8_instruct_133 : decode cX8_instruct 133 = .ok (.goto 4, 3) := by decide +kernel
theorem dX8_instruct_136 : decode cX8_instruct 136 = .ok (.iconst 0, 1) := by decide +kernel
theorem dX8_instruct_137 : decode cX8_instruct 137 = .ok (.iconst 2, 1) := by decide +kernel
theorem dX8_instruct_138 : decode cX8_instruct 138 = .ok (.invokevirtual 42, 3) := by decide +kernel
theorem dX8_instruct_141 : decode cX8_instruct 141 = .ok (.aload_n 0, 1) := by decide +kernel
theorem dX8_instruct_142 : decode cX8_instruct 142 = .ok (.getfield 38, 3) := by decide +kernel
theorem dX8_instruct_145 : decode cX8_instruct 145 = .ok (.ifCond .le 4, 3) := by decide +kernel
theorem dX8_instruct_148 : decode cX8_instruct 148 = .ok (.return_, 1) := by decide +kernel
theorem dX8_instruct_149 : decode cX8_instruct 149 = .ok (.aload_n 0, 1) := by decide +kernel
theorem dX8_instruct_150 : decode cX8_instruct 150 = .ok (.getfield 7, 3) := by decide +kernel
theorem dX8_instruct_153 : decode cX8_instruct 153 = .ok (.iload_n 1, 1) := by decide +kernel
theorem dX8_instruct_154 : decode cX8_instruct 154 = .ok (.iconst 1, 1) := by decide +kernel
theorem dX8_instruct_155 : decode cX8_instruct 155 = .ok (.iadd, 1) := by decide +kernel
theorem dX8_instruct_156 : decode cX8_instruct 156 = .ok (.iaload, 1) := by decide +kernel
theorem dX8_instruct_157 : decode cX8_instruct 157 = .ok (.istore 4, 2) := by decide +kernel
theorem dX8_instruct_159 : decode cX8_instruct 159 = .ok (.iload_n 2, 1) := by decide +kernel
theorem dX8_instruct_160 : decode cX8_instruct 160 = .ok (.bipush 64, 2) := by decide +kernel
theorem dX8_instruct_162 : decode cX8_instruct 162 = .ok (.if_icmp .ge 21, 3) := by decide +kernel
theorem dX8_instruct_165 : decode cX8_instruct 165 = .ok (.aload_n 0, 1) := by decide +kernel
theorem dX8_instruct_166 : decode cX8_instruct 166 = .ok (.iload_n 2, 1) := by decide +kernel
theorem dX8_instruct_167 : decode cX8_instruct 167 = .ok (.iload 4, 2) := by decide +kernel
theorem dX8_instruct_169 : decode cX8_instruct 169 = .ok (.bipush 16, 2) := by decide +kernel
theorem dX8_instruct_171 : decode cX8_instruct 171 = .ok (.idiv, 1) := by decide +kernel
theorem dX8_instruct_172 : decode cX8_instruct 172 = .ok (.iload 4, 2) := by decide +kernel
theorem dX8_instruct_174 : decode cX8_instruct 174 = .ok (.bipush 16, 2) := by decide +kernel
theorem dX8_instruct_176 : decode cX8_instruct 176 = .ok (.irem, 1) := by decide +kernel
theorem dX8_instruct_177 : decode cX8_instruct 177 = .ok (.invokevirtual 99, 3) := by decide +kernel
theorem dX8_instruct_180 : decode cX8_instruct 180 = .ok (.goto 83, 3) := by decide +kernel
theorem dX8_instruct_183 : decode cX8_instruct 183 = .ok (.iload_n 2, 1) := by decide +kernel
theorem dX8_instruct_184 : decode cX8_instruct 184 = .ok (.sipush 128, 3) := by decide +kernel
theorem dX8_instruct_187 : decode cX8_instruct 187 = .ok (.if_icmp .ge 28, 3) := by decide +kernel
theorem dX8_instruct_190 : decode cX8_instruct 190 = .ok (.aload_n 0, 1) := by decide +kernel
theorem dX8_instruct_191 : decode cX8_instruct 191 = .ok (.iload_n 2, 1) := by decide +kernel
theorem dX8_instruct_192 : decode cX8_instruct 192 = .ok (.iload 4, 2) := by decide +kernel
theorem dX8_instruct_194 : decode cX8_instruct 194 = .ok (.bipush 16, 2) := by decide +kernel
theorem dX8_instruct_196 : decode cX8_instruct 196 = .ok (.idiv, 1) := by decide +kernel
theorem dX8_instruct_197 : decode cX8_instruct 197 = .ok (.aload_n 0, 1) := by decide +kernel
theorem dX8_instruct_198 : decode cX8_instruct 198 = .ok (.iload_n 1, 1) := by decide +kernel
theorem dX8_instruct_199 : decode cX8_instruct 199 = .ok (.iconst 2, 1) := by decide +kernel
theorem dX8_instruct_200 : decode cX8_instruct 200 = .ok (.iadd, 1) := by decide +kernel
theorem dX8_instruct_201 : decode cX8_instruct 201 = .ok (.iload 4, 2) := by decide +kernel
theorem dX8_instruct_203 : decode cX8_instruct 203 = .ok (.bipush 16, 2) := by decide +kernel
theorem dX8_instruct_205 : decode cX8_instruct 205 = .ok (.irem, 1) := by decide +kernel
theorem dX8_instruct_206 : decode cX8_instruct 206 = .ok (.invokevirtual 102, 3) := by decide +kernel
theorem dX8_instruct_209 : decode cX8_instruct 209 = .ok (.invokevirtual 105, 3) := by decide +kernel
theorem dX8_instruct_212 : decode cX8_instruct 212 = .ok (.goto 51, 3) := by decide +kernel
theorem dX8_instruct_215 : decode cX8_instruct 215 = .ok (.iload_n 2, 1) := by decide +kernel
theorem dX8_instruct_216 : decode cX8_instruct 216 = .ok (.sipush 192, 3) := by decide +kernel
theorem dX8_instruct_219 : decode cX8_instruct 219 = .ok (.if_icmp .ge 21, 3) := by decide +kernel
theorem dX8_instruct_222 : decode cX8_instruct 222 = .ok (.aload_n 0, 1) := by decide +kernel
theorem dX8_instruct_223 : decode cX8_instruct 223 = .ok (.iload_n 2, 1) := by decide +kernel
theorem dX8_instruct_224 : decode cX8_instruct 224 = .ok (.iload 4, 2) := by decide +kernel
theorem dX8_instruct_226 : decode cX8_instruct 226 = .ok (.aload_n 0, 1) := by decide +kernel
theorem dX8_instruct_227 : decode cX8_instruct 227 = .ok (.iload_n 1, 1) := by decide +kernel
theorem dX8_instruct_228 : decode cX8_instruct 228 = .ok (.iconst 2, 1) := by decide +kernel
theorem dX8_instruct_229 : decode cX8_instruct 229 = .ok (.iadd, 1) := by decide +kernel
theorem dX8_instruct_230 : decode cX8_instruct 230 = .ok (.iconst 0, 1) := by decide +kernel
theorem dX8_instruct_231 : decode cX8_instruct 231 = .ok (.invokevirtual 102, 3) := by decide +kernel
theorem dX8_instruct_234 : decode cX8_instruct 234 = .ok (.invokevirtual 108, 3) := by decide +kernel
theorem dX8_instruct_237 : decode cX8_instruct 237 = .ok (.goto 26, 3) := by decide +kernel
theorem dX8_instruct_240 : decode cX8_instruct 240 = .ok (.aload_n 0, 1) := by decide +kernel
theorem dX8_instruct_241 : decode cX8_instruct 241 = .ok (.iload_n 2, 1) := by decide +kernel
theorem dX8_instruct_242 : decode cX8_instruct 242 = .ok (.iload 4, 2) := by decide +kernel
theorem dX8_instruct_244 : decode cX8_instruct 244 = .ok (.aload_n 0, 1) := by decide +kernel
theorem dX8_instruct_245 : decode cX8_instruct 245 = .ok (.iload_n 1, 1) := by decide +kernel
theorem dX8_instruct_246 : decode cX8_instruct 246 = .ok (.iconst 2, 1) := by decide +kernel
theorem dX8_instruct_247 : decode cX8_instruct 247 = .ok (.iadd, 1) := by decide +kernel
theorem dX8_instruct_248 : decode cX8_instruct 248 = .ok (.iconst 0, 1) := by decide +kernel
theorem dX8_instruct_249 : decode cX8_instruct 249 = .ok (.invokevirtual 102, 3) := by decide +kernel
theorem dX8_instruct_252 : decode cX8_instruct 252 = .ok (.aload_n 0, 1) := by decide +kernel
theorem dX8_instruct_253 : decode cX8_instruct 253 = .ok (.iload_n 1, 1) := by decide +kernel
theorem dX8_instruct_254 : decode cX8_instruct 254 = .ok (.iconst 4, 1) := by decide +kernel
theorem dX8_instruct_255 : decode cX8_instruct 255 = .ok (.iadd, 1) := by decide +kernel
theorem dX8_instruct_256 : decode cX8_instruct 256 = .ok (.iconst 0, 1) := by decide +kernel
theorem dX8_instruct_257 : decode cX8_instruct 257 = .ok (.invokevirtual 102, 3) := by decide +kernel
theorem dX8_instruct_260 : decode cX8_instruct 260 = .ok (.invokevirtual 111, 3) := by decide +kernel
theorem dX8_instruct_263 : decode cX8_instruct 263 = .ok (.return_, 1) := by decide +kernel
theorem dX8_among_0 : decode cX8_among 0 = .ok (.iload_n 0, 1) := by decide +kernel
theorem dX8_among_1 : decode cX8_among 1 = .ok (.iload_n 1, 1) := by decide +kernel
theorem dX8_among_2 : decode cX8_among 2 = .ok (.if_icmp .eq 19, 3) := by decide +kernel
theorem dX8_among_5 : decode cX8_among 5 = .ok (.iload_n 0, 1) := by decide +kernel
theorem dX8_among_6 : decode cX8_among 6 = .ok (.iload_n 2, 1) := by decide +kernel
theorem dX8_among_7 : decode cX8_among 7 = .ok (.if_icmp .eq 14, 3) := by decide +kernel
theorem dX8_among_10 : decode cX8_among 10 = .ok (.iload_n 0, 1) := by decide +kernel
theorem dX8_among_11 : decode cX8_among 11 = .ok (.iload_n 3, 1) := by decide +kernel
theorem dX8_among_12 : decode cX8_among 12 = .ok (.if_icmp .eq 9, 3) := by decide +kernel
theorem dX8_among_15 : decode cX8_among 15 = .ok (.iload_n 0, 1) := by decide +kernel
theorem dX8_among_16 : decode cX8_among 16 = .ok (.iload 4, 2) := by decide +kernel
theorem dX8_among_18 : decode cX8_among 18 = .ok (.if_icmp .ne 7, 3) := by decide +kernel
theorem dX8_among_21 : decode cX8_among 21 = .ok (.iconst 1, 1) := by decide +kernel
theorem dX8_among_22 : decode cX8_among 22 = .ok (.goto 4, 3) := by decide +kernel
theorem dX8_among_25 : decode cX8_among 25 = .ok (.iconst 0, 1) := by decide +kernel
theorem dX8_among_26 : decode cX8_among 26 = .ok (.ireturn, 1) := by decide +kernel
theorem dX8_kindOf_0 : decode cX8_kindOf 0 = .ok (.iload_n 0, 1) := by decide +kernel
theorem dX8_kindOf_1 : decode cX8_kindOf 1 = .ok (.bipush 8, 2) := by decide +kernel
theorem dX8_kindOf_3 : decode cX8_kindOf 3 = .ok (.bipush 9, 2) := by decide +kernel
theorem dX8_kindOf_5 : decode cX8_kindOf 5 = .ok (.sipush 130, 3) := by decide +kernel
theorem dX8_kindOf_8 : decode cX8_kindOf 8 = .ok (.sipush 156, 3) := by decide +kernel
theorem dX8_kindOf_11 : decode cX8_kindOf 11 = .ok (.invokestatic 115, 3) := by decide +kernel
theorem dX8_kindOf_14 : decode cX8_kindOf 14 = .ok (.ifCond .ne 10, 3) := by decide +kernel
theorem dX8_kindOf_17 : decode cX8_kindOf 17 = .ok (.iload_n 0, 1) := by decide +kernel
theorem dX8_kindOf_18 : decode cX8_kindOf 18 = .ok (.sipush 157, 3) := by decide +kernel
theorem dX8_kindOf_21 : decode cX8_kindOf 21 = .ok (.if_icmp .ne 5, 3) := by decide +kernel
theorem dX8_kindOf_24 : decode cX8_kindOf 24 = .ok (.iconst 2, 1) := by decide +kernel
theorem dX8_kindOf_25 : decode cX8_kindOf 25 = .ok (.ireturn, 1) := by decide +kernel
theorem dX8_kindOf_26 : decode cX8_kindOf 26 = .ok (.iload_n 0, 1) := by decide +kernel
theorem dX8_kindOf_27 : decode cX8_kindOf 27 = .ok (.iconst 5, 1) := by decide +kernel
theorem dX8_kindOf_28 : decode cX8_kindOf 28 = .ok (.bipush 7, 2) := by decide +kernel
theorem dX8_kindOf_30 : decode cX8_kindOf 30 = .ok (.bipush 10, 2) := by decide +kernel
theorem dX8_kindOf_32 : decode cX8_kindOf 32 = .ok (.bipush 18, 2) := by decide +kernel
theorem dX8_kindOf_34 : decode cX8_kindOf 34 = .ok (.invokestatic 115, 3) := by decide +kernel
theorem dX8_kindOf_37 : decode cX8_kindOf 37 = .ok (.ifCond .ne 30, 3) := by decide +kernel
theorem dX8_kindOf_40 : decode cX8_kindOf 40 = .ok (.iload_n 0, 1) := by decide +kernel
theorem dX8_kindOf_41 : decode cX8_kindOf 41 = .ok (.bipush 20, 2) := by decide +kernel
theorem dX8_kindOf_43 : decode cX8_kindOf 43 = .ok (.bipush 22, 2) := by decide +kernel
theorem dX8_kindOf_45 : decode cX8_kindOf 45 = .ok (.bipush 23, 2) := by decide +kernel
theorem dX8_kindOf_47 : decode cX8_kindOf 47 = .ok (.bipush 24, 2) := by decide +kernel
theorem dX8_kindOf_49 : decode cX8_kindOf 49 = .ok (.invokestatic 115, 3) := by decide +kernel
theorem dX8_kindOf_52 : decode cX8_kindOf 52 = .ok (.ifCond .ne 15, 3) := by decide +kernel
theorem dX8_kindOf_55 : decode cX8_kindOf 55 = .ok (.iload_n 0, 1) := by decide +kernel
theorem dX8_kindOf_56 : decode cX8_kindOf 56 = .ok (.bipush 24, 2) := by decide +kernel
theorem dX8_kindOf_58 : decode cX8_kindOf 58 = .ok (.if_icmp .le 13, 3) := by decide +kernel
theorem dX8_kindOf_61 : decode cX8_kindOf 61 = .ok (.iload_n 0, 1) := by decide +kernel
theorem dX8_kindOf_62 : decode cX8_kindOf 62 = .ok (.bipush 30, 2) := by decide +kernel
theorem dX8_kindOf_64 : decode cX8_kindOf 64 = .ok (.if_icmp .ge 7, 3) := by decide +kernel
theorem dX8_kindOf_67 : decode cX8_kindOf 67 = .ok (.iconst 1, 1) := by decide +kernel
theorem dX8_kindOf_68 : decode cX8_kindOf 68 = .ok (.goto 4, 3) := by decide +kernel
theorem dX8_kindOf_71 : decode cX8_kindOf 71 = .ok (.iconst 0, 1) := by decide +kernel
theorem dX8_kindOf_72 : decode cX8_kindOf 72 = .ok (.istore_n 1, 1) := by decide +kernel
theorem dX8_kindOf_73 : decode cX8_kindOf 73 = .ok (.iload_n 0, 1) := by decide +kernel
theorem dX8_kindOf_74 : decode cX8_kindOf 74 = .ok (.bipush 63, 2) := by decide +kernel
theorem dX8_kindOf_76 : decode cX8_kindOf 76 = .ok (.if_icmp .le 15, 3) := by decide +kernel
theorem dX8_kindOf_79 : decode cX8_kindOf 79 = .ok (.iload_n 0, 1) := by decide +kernel
theorem dX8_kindOf_80 : decode cX8_kindOf 80 = .ok (.bipush 75, 2) := by decide +kernel
theorem dX8_kindOf_82 : decode cX8_kindOf 82 = .ok (.if_icmp .ge 9, 3) := by decide +kernel
theorem dX8_kindOf_85 : decode cX8_kindOf 85 = .ok (.iload_n 0, 1) := by decide +kernel
theorem dX8_kindOf_86 : decode cX8_kindOf 86 = .ok (.bipush 68, 2) := by decide +kernel
theorem dX8_kindOf_88 : decode cX8_kindOf 88 = .ok (.if_icmp .ne 30, 3) := by decide +kernel
theorem dX8_kindOf_91 : decode cX8_kindOf 91 = .ok (.iload_n 0, 1) := by decide +kernel
theorem dX8_kindOf_92 : decode cX8_kindOf 92 = .ok (.bipush 78, 2) := by decide +kernel
theorem dX8_kindOf_94 : decode cX8_kindOf 94 = .ok (.bipush 79, 2) := by decide +kernel
theorem dX8_kindOf_96 : decode cX8_kindOf 96 = .ok (.bipush 80, 2) := by decide +kernel
theorem dX8_kindOf_98 : decode cX8_kindOf 98 = .ok (.bipush 88, 2) := by decide +kernel
theorem dX8_kindOf_100 : decode cX8_kindOf 100 = .ok (.invokestatic 115, 3) := by decide +kernel
theorem dX8_kindOf_103 : decode cX8_kindOf 103 = .ok (.ifCond .ne 15, 3) := by decide +kernel
theorem dX8_kindOf_106 : decode cX8_kindOf 106 = .ok (.iload_n 0, 1) := by decide +kernel
theorem dX8_kindOf_107 : decode cX8_kindOf 107 = .ok (.bipush 88, 2) := by decide +kernel
theorem dX8_kindOf_109 : decode cX8_kindOf 109 = .ok (.if_icmp .le 13, 3) := by decide +kernel
theorem dX8_kindOf_112 : decode cX8_kindOf 112 = .ok (.iload_n 0, 1) := by decide +kernel
theorem dX8_kindOf_113 : decode cX8_kindOf 113 = .ok (.bipush 92, 2) := by decide +kernel
theorem dX8_kindOf_115 : decode cX8_kindOf 115 = .ok (.if_icmp .ge 7, 3) := by decide +kernel
theorem dX8_kindOf_118 : decode cX8_kindOf 118 = .ok (.iconst 1, 1) := by decide +kernel
theorem dX8_kindOf_119 : decode cX8_kindOf 119 = .ok (.goto 4, 3) := by decide +kernel
theorem dX8_kindOf_122 : decode cX8_kindOf 122 = .ok (.iconst 0, 1) := by decide +kernel
theorem dX8_kindOf_123 : decode cX8_kindOf 123 = .ok (.istore_n 2, 1) := by decide +kernel
theorem dX8_kindOf_124 : decode cX8_kindOf 124 = .ok (.iload_n 0, 1) := by decide +kernel
theorem dX8_kindOf_125 : decode cX8_kindOf 125 = .ok (.sipush 136, 3) := by decide +kernel
theorem dX8_kindOf_128 : decode cX8_kindOf 128 = .ok (.sipush 137, 3) := by decide +kernel
theorem dX8_kindOf_131 : decode cX8_kindOf 131 = .ok (.sipush 138, 3) := by decide +kernel
theorem dX8_kindOf_134 : decode cX8_kindOf 134 = .ok (.sipush 144, 3) := by decide +kernel
theorem dX8_kindOf_137 : decode cX8_kindOf 137 = .ok (.invokestatic 115, 3) := by decide +kernel
theorem dX8_kindOf_140 : decode cX8_kindOf 140 = .ok (.ifCond .ne 36, 3) := by decide +kernel
theorem dX8_kindOf_143 : decode cX8_kindOf 143 = .ok (.iload_n 0, 1) := by decide +kernel
theorem dX8_kindOf_144 : decode cX8_kindOf 144 = .ok (.sipush 145, 3) := by decide +kernel
theorem dX8_kindOf_147 : decode cX8_kindOf 147 = .ok (.sipush 146, 3) := by decide +kernel
theorem dX8_kindOf_150 : decode cX8_kindOf 150 = .ok (.sipush 148, 3) := by decide +kernel
theorem dX8_kindOf_153 : decode cX8_kindOf 153 = .ok (.sipush 149, 3) := by decide +kernel
theorem dX8_kindOf_156 : decode cX8_kindOf 156 = .ok (.invokestatic 115, 3) := by decide +kernel
theorem dX8_kindOf_159 : decode cX8_kindOf 159 = .ok (.ifCond .ne 17, 3) := by decide +kernel
theorem dX8_kindOf_162 : decode cX8_kindOf 162 = .ok (.iload_n 0, 1) := by decide +kernel
theorem dX8_kindOf_163 : decode cX8_kindOf 163 = .ok (.sipush 150, 3) := by decide +kernel
theorem dX8_kindOf_166 : decode cX8_kindOf 166 = .ok (.if_icmp .eq 10, 3) := by decide +kernel
theorem dX8_kindOf_169 : decode cX8_kindOf 169 = .ok (.iload_n 0, 1) := by decide +kernel
theorem dX8_kindOf_170 : decode cX8_kindOf 170 = .ok (.sipush 152, 3) := by decide +kernel
theorem dX8_kindOf_173 : decode cX8_kindOf 173 = .ok (.if_icmp .ne 7, 3) := by decide +kernel
theorem dX8_kindOf_176 : decode cX8_kindOf 176 = .ok (.iconst 1, 1) := by decide +kernel
theorem dX8_kindOf_177 : decode cX8_kindOf 177 = .ok (.goto 4, 3) := by decide +kernel
theorem dX8_kindOf_180 : decode cX8_kindOf 180 = .ok (.iconst 0, 1) := by decide +kernel
theorem dX8_kindOf_181 : decode cX8_kindOf 181 = .ok (.istore_n 3, 1) := by decide +kernel
theorem dX8_kindOf_182 : decode cX8_kindOf 182 = .ok (.iload_n 1, 1) := by decide +kernel
theorem dX8_kindOf_183 : decode cX8_kindOf 183 = .ok (.ifCond .ne 44, 3) := by decide +kernel
theorem dX8_kindOf_186 : decode cX8_kindOf 186 = .ok (.iload_n 2, 1) := by decide +kernel
theorem dX8_kindOf_187 : decode cX8_kindOf 187 = .ok (.ifCond .ne 40, 3) := by decide +kernel
theorem dX8_kindOf_190 : decode cX8_kindOf 190 = .ok (.iload_n 3, 1) := by decide +kernel
theorem dX8_kindOf_191 : decode cX8_kindOf 191 = .ok (.ifCond .ne 36, 3) := by decide +kernel
theorem dX8_kindOf_194 : decode cX8_kindOf 194 = .ok (.iload_n 0, 1) := by decide +kernel
theorem dX8_kindOf_195 : decode cX8_kindOf 195 = .ok (.sipush 210, 3) := by decide +kernel
theorem dX8_kindOf_198 : decode cX8_kindOf 198 = .ok (.sipush 213, 3) := by decide +kernel
theorem dX8_kindOf_201 : decode cX8_kindOf 201 = .ok (.sipush 220, 3) := by decide +kernel
theorem dX8_kindOf_204 : decode cX8_kindOf 204 = .ok (.sipush 248, 3) := by decide +kernel
theorem dX8_kindOf_207 : decode cX8_kindOf 207 = .ok (.invokestatic 115, 3) := by decide +kernel
theorem dX8_kindOf_210 : decode cX8_kindOf 210 = .ok (.ifCond .ne 17, 3) := by decide +kernel
theorem dX8_kindOf_213 : decode cX8_kindOf 213 = .ok (.iload_n 0, 1) := by decide +kernel
theorem dX8_kindOf_214 : decode cX8_kindOf 214 = .ok (.sipush 248, 3) := by decide +kernel
theorem dX8_kindOf_217 : decode cX8_kindOf 217 = .ok (.if_icmp .le 14, 3) := by decide +kernel
theorem dX8_kindOf_220 : decode cX8_kindOf 220 = .ok (.iload_n 0, 1) := by decide +kernel
theorem dX8_kindOf_221 : decode cX8_kindOf 221 = .ok (.sipush 252, 3) := by decide +kernel
theorem dX8_kindOf_224 : decode cX8_kindOf 224 = .ok (.if_icmp .ge 7, 3) := by decide +kernel
theorem dX8_kindOf_227 : decode cX8_kindOf 227 = .ok (.iconst 1, 1) := by decide +kernel
theorem dX8_kindOf_228 : decode cX8_kindOf 228 = .ok (.goto 4, 3) := by decide +kernel
theorem dX8_kindOf_231 : decode cX8_kindOf 231 = .ok (.iconst 0, 1) := by decide +kernel
theorem dX8_kindOf_232 : decode cX8_kindOf 232 = .ok (.ireturn, 1) := by decide +kernel
theorem dX8_effective_0 : decode cX8_effective 0 = .ok (.aload_n 0, 1) := by decide +kernel
theorem dX8_effective_1 : decode cX8_effective 1 = .ok (.getfield 7, 3) := by decide +kernel
theorem dX8_effective_4 : decode cX8_effective 4 = .ok (.iload_n 1, 1) := by decide +kernel
theorem dX8_effective_5 : decode cX8_effective 5 = .ok (.iaload, 1) := by decide +kernel
theorem dX8_effective_6 : decode cX8_effective 6 = .ok (.bipush 16, 2) := by decide +kernel
theorem dX8_effective_8 : decode cX8_effective 8 = .ok (.idiv, 1) := by decide +kernel
theorem dX8_effective_9 : decode cX8_effective 9 = .ok (.istore_n 3, 1) := by decide +kernel
theorem dX8_effective_10 : decode cX8_effective 10 = .ok (.aload_n 0, 1) := by decide +kernel
theorem dX8_effective_11 : decode cX8_effective 11 = .ok (.getfield 7, 3) := by decide +kernel
theorem dX8_effective_14 : decode cX8_effective 14 = .ok (.iload_n 1, 1) := by decide +kernel
theorem dX8_effective_15 : decode cX8_effective 15 = .ok (.iaload, 1) := by decide +kernel
theorem dX8_effective_16 : decode cX8_effective 16 = .ok (.bipush 16, 2) := by decide +kernel
theorem dX8_effective_18 : decode cX8_effective 18 = .ok (.irem, 1) := by decide +kernel
theorem dX8_effective_19 : decode cX8_effective 19 = .ok (.sipush 256, 3) := by decide +kernel
theorem dX8_effective_22 : decode cX8_effective 22 = .ok (.imul, 1) := by decide +kernel
theorem dX8_effective_23 : decode cX8_effective 23 = .ok (.aload_n 0, 1) := by decide +kernel
theorem dX8_effective_24 : decode cX8_effective 24 = .ok (.getfield 7, 3) := by decide +kernel
theorem dX8_effective_27 : decode cX8_effective 27 = .ok (.iload_n 1, 1) := by decide +kernel
theorem dX8_effective_28 : decode cX8_effective 28 = .ok (.iconst 1, 1) := by decide +kernel
theorem dX8_effective_29 : decode cX8_effective 29 = .ok (.iadd, 1) := by decide +kernel
theorem dX8_effective_30 : decode cX8_effective 30 = .ok (.iaload, 1) := by decide +kernel
theorem dX8_effective_31 : decode cX8_effective 31 = .ok (.iadd, 1) := by decide +kernel
theorem dX8_effective_32 : decode cX8_effective 32 = .ok (.istore 4, 2) := by decide +kernel
theorem dX8_effective_34 : decode cX8_effective 34 = .ok (.iload_n 3, 1) := by decide +kernel
theorem dX8_effective_35 : decode cX8_effective 35 = .ok (.ifCond .le 15, 3) := by decide +kernel
theorem dX8_effective_38 : decode cX8_effective 38 = .ok (.iload 4, 2) := by decide +kernel
theorem dX8_effective_40 : decode cX8_effective 40 = .ok (.aload_n 0, 1) := by decide +kernel
theorem dX8_effective_41 : decode cX8_effective 41 = .ok (.getfield 16, 3) := by decide +kernel
theorem dX8_effective_44 : decode cX8_effective 44 = .ok (.iload_n 3, 1) := by decide +kernel
theorem dX8_effective_45 : decode cX8_effective 45 = .ok (.iaload, 1) := by decide +kernel
theorem dX8_effective_46 : decode cX8_effective 46 = .ok (.iadd, 1) := by decide +kernel
theorem dX8_effective_47 : decode cX8_effective 47 = .ok (.goto 5, 3) := by decide +kernel
theorem dX8_effective_50 : decode cX8_effective 50 = .ok (.iload 4, 2) := by decide +kernel
theorem dX8_effective_52 : decode cX8_effective 52 = .ok (.istore 4, 2) := by decide +kernel
theorem dX8_effective_54 : decode cX8_effective 54 = .ok (.iload_n 2, 1) := by decide +kernel
theorem dX8_effective_55 : decode cX8_effective 55 = .ok (.ifCond .le 15, 3) := by decide +kernel
theorem dX8_effective_58 : decode cX8_effective 58 = .ok (.iload 4, 2) := by decide +kernel
theorem dX8_effective_60 : decode cX8_effective 60 = .ok (.aload_n 0, 1) := by decide +kernel
theorem dX8_effective_61 : decode cX8_effective 61 = .ok (.getfield 16, 3) := by decide +kernel
theorem dX8_effective_64 : decode cX8_effective 64 = .ok (.iload_n 2, 1) := by decide +kernel
theorem dX8_effective_65 : decode cX8_effective 65 = .ok (.iaload, 1) := by decide +kernel
theorem dX8_effective_66 : decode cX8_effective 66 = .ok (.iadd, 1) := by decide +kernel
theorem dX8_effective_67 : decode cX8_effective 67 = .ok (.goto 5, 3) := by decide +kernel
theorem dX8_effective_70 : decode cX8_effective 70 = .ok (.iload 4, 2) := by decide +kernel
theorem dX8_effective_72 : decode cX8_effective 72 = .ok (.istore 4, 2) := by decide +kernel
theorem dX8_effective_74 : decode cX8_effective 74 = .ok (.iload 4, 2) := by decide +kernel
theorem dX8_effective_76 : decode cX8_effective 76 = .ok (.ldc 119, 2) := by decide +kernel
theorem dX8_effective_78 : decode cX8_effective 78 = .ok (.iand, 1) := by decide +kernel
theorem dX8_effective_79 : decode cX8_effective 79 = .ok (.ireturn, 1) := by decide +kernel
theorem dX8_sign_0 : decode cX8_sign 0 = .ok (.aload_n 0, 1) := by decide +kernel
theorem dX8_sign_1 : decode cX8_sign 1 = .ok (.lload_n 1, 1) := by decide +kernel
theorem dX8_sign_2 : decode cX8_sign 2 = .ok (.lconst 0, 1) := by decide +kernel
theorem dX8_sign_3 : decode cX8_sign 3 = .ok (.lcmp, 1) := by decide +kernel
theorem dX8_sign_4 : decode cX8_sign 4 = .ok (.ifCond .ne 7, 3) := by decide +kernel
theorem dX8_sign_7 : decode cX8_sign 7 = .ok (.iconst 0, 1) := by decide +kernel
theorem dX8_sign_8 : decode cX8_sign 8 = .ok (.goto 14, 3) := by decide +kernel
theorem dX8_sign_11 : decode cX8_sign 11 = .ok (.lload_n 1, 1) := by decide +kernel
theorem dX8_sign_12 : decode cX8_sign 12 = .ok (.lconst 0, 1) := by decide +kernel
theorem dX8_sign_13 : decode cX8_sign 13 = .ok (.lcmp, 1) := by decide +kernel
theorem dX8_sign_14 : decode cX8_sign 14 = .ok (.ifCond .ge 7, 3) := by decide +kernel
theorem dX8_sign_17 : decode cX8_sign 17 = .ok (.iconst 1, 1) := by decide +kernel
theorem dX8_sign_18 : decode cX8_sign 18 = .ok (.goto 4, 3) := by decide +kernel
theorem dX8_sign_21 : decode cX8_sign 21 = .ok (.iconst 2, 1) := by decide +kernel
theorem dX8_sign_22 : decode cX8_sign 22 = .ok (.putfield 52, 3) := by decide +kernel
theorem dX8_sign_25 : decode cX8_sign 25 = .ok (.return_, 1) := by decide +kernel
theorem dX8_summed_0 : decode cX8_summed 0 = .ok (.lload_n 1, 1) := by decide +kernel
theorem dX8_summed_1 : decode cX8_summed 1 = .ok (.l2i, 1) := by decide +kernel
theorem dX8_summed_2 : decode cX8_summed 2 = .ok (.istore_n 3, 1) := by decide +kernel
theorem dX8_summed_3 : decode cX8_summed 3 = .ok (.aload_n 0, 1) := by decide +kernel
theorem dX8_summed_4 : decode cX8_summed 4 = .ok (.iload_n 3, 1) := by decide +kernel
theorem dX8_summed_5 : decode cX8_summed 5 = .ok (.i2l, 1) := by decide +kernel
theorem dX8_summed_6 : decode cX8_summed 6 = .ok (.invokevirtual 120, 3) := by decide +kernel
theorem dX8_summed_9 : decode cX8_summed 9 = .ok (.iload_n 3, 1) := by decide +kernel
theorem dX8_summed_10 : decode cX8_summed 10 = .ok (.i2l, 1) := by decide +kernel
theorem dX8_summed_11 : decode cX8_summed 11 = .ok (.lload_n 1, 1) := by decide +kernel
theorem dX8_summed_12 : decode cX8_summed 12 = .ok (.lcmp, 1) := by decide +kernel
theorem dX8_summed_13 : decode cX8_summed 13 = .ok (.ifCond .eq 31, 3) := by decide +kernel
theorem dX8_summed_16 : decode cX8_summed 16 = .ok (.aload_n 0, 1) := by decide +kernel
theorem dX8_summed_17 : decode cX8_summed 17 = .ok (.iconst 3, 1) := by decide +kernel
theorem dX8_summed_18 : decode cX8_summed 18 = .ok (.putfield 52, 3) := by decide +kernel
theorem dX8_summed_21 : decode cX8_summed 21 = .ok (.aload_n 0, 1) := by decide +kernel
theorem dX8_summed_22 : decode cX8_summed 22 = .ok (.aload_n 0, 1) := by decide +kernel
theorem dX8_summed_23 : decode cX8_summed 23 = .ok (.getfield 49, 3) := by decide +kernel
theorem dX8_summed_26 : decode cX8_summed 26 = .ok (.bipush 8, 2) := by decide +kernel
theorem dX8_summed_28 : decode cX8_summed 28 = .ok (.idiv, 1) := by decide +kernel
theorem dX8_summed_29 : decode cX8_summed 29 = .ok (.iconst 2, 1) := by decide +kernel
theorem dX8_summed_30 : decode cX8_summed 30 = .ok (.irem, 1) := by decide +kernel
theorem dX8_summed_31 : decode cX8_summed 31 = .ok (.iconst 1, 1) := by decide +kernel
theorem dX8_summed_32 : decode cX8_summed 32 = .ok (.if_icmp .ne 8, 3) := by decide +kernel
theorem dX8_summed_35 : decode cX8_summed 35 = .ok (.bipush 8, 2) := by decide +kernel
theorem dX8_summed_37 : decode cX8_summed 37 = .ok (.goto 4, 3) := by decide +kernel
theorem dX8_summed_40 : decode cX8_summed 40 = .ok (.iconst 0, 1) := by decide +kernel
theorem dX8_summed_41 : decode cX8_summed 41 = .ok (.putfield 86, 3) := by decide +kernel
theorem dX8_summed_44 : decode cX8_summed 44 = .ok (.iload_n 3, 1) := by decide +kernel
theorem dX8_summed_45 : decode cX8_summed 45 = .ok (.ireturn, 1) := by decide +kernel
theorem dX8_logic_0 : decode cX8_logic 0 = .ok (.aload_n 0, 1) := by decide +kernel
theorem dX8_logic_1 : decode cX8_logic 1 = .ok (.iload_n 1, 1) := by decide +kernel
theorem dX8_logic_2 : decode cX8_logic 2 = .ok (.ifCond .ne 7, 3) := by decide +kernel
theorem dX8_logic_5 : decode cX8_logic 5 = .ok (.iconst 0, 1) := by decide +kernel
theorem dX8_logic_6 : decode cX8_logic 6 = .ok (.goto 4, 3) := by decide +kernel
theorem dX8_logic_9 : decode cX8_logic 9 = .ok (.iconst 1, 1) := by decide +kernel
theorem dX8_logic_10 : decode cX8_logic 10 = .ok (.putfield 52, 3) := by decide +kernel
theorem dX8_logic_13 : decode cX8_logic 13 = .ok (.iload_n 1, 1) := by decide +kernel
theorem dX8_logic_14 : decode cX8_logic 14 = .ok (.ireturn, 1) := by decide +kernel
theorem dX8_compared_0 : decode cX8_compared 0 = .ok (.aload_n 0, 1) := by decide +kernel
theorem dX8_compared_1 : decode cX8_compared 1 = .ok (.iload_n 1, 1) := by decide +kernel
theorem dX8_compared_2 : decode cX8_compared 2 = .ok (.iload_n 2, 1) := by decide +kernel
theorem dX8_compared_3 : decode cX8_compared 3 = .ok (.if_icmp .ne 7, 3) := by decide +kernel
theorem dX8_compared_6 : decode cX8_compared 6 = .ok (.iconst 0, 1) := by decide +kernel
theorem dX8_compared_7 : decode cX8_compared 7 = .ok (.goto 13, 3) := by decide +kernel
theorem dX8_compared_10 : decode cX8_compared 10 = .ok (.iload_n 1, 1) := by decide +kernel
theorem dX8_compared_11 : decode cX8_compared 11 = .ok (.iload_n 2, 1) := by decide +kernel
theorem dX8_compared_12 : decode cX8_compared 12 = .ok (.if_icmp .ge 7, 3) := by decide +kernel
theorem dX8_compared_15 : decode cX8_compared 15 = .ok (.iconst 1, 1) := by decide +kernel
theorem dX8_compared_16 : decode cX8_compared 16 = .ok (.goto 4, 3) := by decide +kernel
theorem dX8_compared_19 : decode cX8_compared 19 = .ok (.iconst 2, 1) := by decide +kernel
theorem dX8_compared_20 : decode cX8_compared 20 = .ok (.putfield 52, 3) := by decide +kernel
theorem dX8_compared_23 : decode cX8_compared 23 = .ok (.return_, 1) := by decide +kernel
theorem dX8_holds_0 : decode cX8_holds 0 = .ok (.iload_n 1, 1) := by decide +kernel
theorem dX8_holds_1 : decode cX8_holds 1 = .ok (.iconst 3, 1) := by decide +kernel
theorem dX8_holds_2 : decode cX8_holds 2 = .ok (.aload_n 0, 1) := by decide +kernel
theorem dX8_holds_3 : decode cX8_holds 3 = .ok (.getfield 52, 3) := by decide +kernel
theorem dX8_holds_6 : decode cX8_holds 6 = .ok (.isub, 1) := by decide +kernel
theorem dX8_holds_7 : decode cX8_holds 7 = .ok (.ishr, 1) := by decide +kernel
theorem dX8_holds_8 : decode cX8_holds 8 = .ok (.iconst 1, 1) := by decide +kernel
theorem dX8_holds_9 : decode cX8_holds 9 = .ok (.iand, 1) := by decide +kernel
theorem dX8_holds_10 : decode cX8_holds 10 = .ok (.iconst 1, 1) := by decide +kernel
theorem dX8_holds_11 : decode cX8_holds 11 = .ok (.if_icmp .ne 7, 3) := by decide +kernel
theorem dX8_holds_14 : decode cX8_holds 14 = .ok (.iconst 1, 1) := by decide +kernel
theorem dX8_holds_15 : decode cX8_holds 15 = .ok (.goto 4, 3) := by decide +kernel
theorem dX8_holds_18 : decode cX8_holds 18 = .ok (.iconst 0, 1) := by decide +kernel
theorem dX8_holds_19 : decode cX8_holds 19 = .ok (.ireturn, 1) := by decide +kernel
theorem dX8_go_0 : decode cX8_go 0 = .ok (.aload_n 0, 1) := by decide +kernel
theorem dX8_go_1 : decode cX8_go 1 = .ok (.iload_n 1, 1) := by decide +kernel
theorem dX8_go_2 : decode cX8_go 2 = .ok (.ldc 124, 2) := by decide +kernel
theorem dX8_go_4 : decode cX8_go 4 = .ok (.iand, 1) := by decide +kernel
theorem dX8_go_5 : decode cX8_go 5 = .ok (.putfield 59, 3) := by decide +kernel
theorem dX8_go_8 : decode cX8_go 8 = .ok (.return_, 1) := by decide +kernel
theorem dX8_doRegisters_0 : decode cX8_doRegisters 0 = .ok (.aload_n 0, 1) := by decide +kernel
theorem dX8_doRegisters_1 : decode cX8_doRegisters 1 = .ok (.getfield 16, 3) := by decide +kernel
theorem dX8_doRegisters_4 : decode cX8_doRegisters 4 = .ok (.iload_n 2, 1) := by decide +kernel
theorem dX8_doRegisters_5 : decode cX8_doRegisters 5 = .ok (.iaload, 1) := by decide +kernel
theorem dX8_doRegisters_6 : decode cX8_doRegisters 6 = .ok (.istore 4, 2) := by decide +kernel
theorem dX8_doRegisters_8 : decode cX8_doRegisters 8 = .ok (.aload_n 0, 1) := by decide +kernel
theorem dX8_doRegisters_9 : decode cX8_doRegisters 9 = .ok (.getfield 16, 3) := by decide +kernel
theorem dX8_doRegisters_12 : decode cX8_doRegisters 12 = .ok (.iload_n 3, 1) := by decide +kernel
theorem dX8_doRegisters_13 : decode cX8_doRegisters 13 = .ok (.iaload, 1) := by decide +kernel
theorem dX8_doRegisters_14 : decode cX8_doRegisters 14 = .ok (.istore 5, 2) := by decide +kernel
theorem dX8_doRegisters_16 : decode cX8_doRegisters 16 = .ok (.aload_n 0, 1) := by decide +kernel
theorem dX8_doRegisters_17 : decode cX8_doRegisters 17 = .ok (.iload_n 1, 1) := by decide +kernel
theorem dX8_doRegisters_18 : decode cX8_doRegisters 18 = .ok (.bipush 28, 2) := by decide +kernel
theorem dX8_doRegisters_20 : decode cX8_doRegisters 20 = .ok (.if_icmp .eq 9, 3) := by decide +kernel
theorem dX8_doRegisters_23 : decode cX8_doRegisters 23 = .ok (.iload_n 1, 1) := by decide +kernel
theorem dX8_doRegisters_24 : decode cX8_doRegisters 24 = .ok (.bipush 29, 2) := by decide +kernel
theorem dX8_doRegisters_26 : decode cX8_doRegisters 26 = .ok (.if_icmp .ne 14, 3) := by decide +kernel
theorem dX8_doRegisters_29 : decode cX8_doRegisters 29 = .ok (.iload_n 2, 1) := by decide +kernel
theorem dX8_doRegisters_30 : decode cX8_doRegisters 30 = .ok (.iconst 2, 1) := by decide +kernel
theorem dX8_doRegisters_31 : decode cX8_doRegisters 31 = .ok (.irem, 1) := by decide +kernel
theorem dX8_doRegisters_32 : decode cX8_doRegisters 32 = .ok (.iconst 1, 1) := by decide +kernel
theorem dX8_doRegisters_33 : decode cX8_doRegisters 33 = .ok (.if_icmp .ne 7, 3) := by decide +kernel
theorem dX8_doRegisters_36 : decode cX8_doRegisters 36 = .ok (.iconst 1, 1) := by decide +kernel
theorem dX8_doRegisters_37 : decode cX8_doRegisters 37 = .ok (.goto 4, 3) := by decide +kernel
theorem dX8_doRegisters_40 : decode cX8_doRegisters 40 = .ok (.iconst 0, 1) := by decide +kernel
theorem dX8_doRegisters_41 : decode cX8_doRegisters 41 = .ok (.bipush 6, 2) := by decide +kernel
theorem dX8_doRegisters_43 : decode cX8_doRegisters 43 = .ok (.invokevirtual 42, 3) := by decide +kernel
theorem dX8_doRegisters_46 : decode cX8_doRegisters 46 = .ok (.aload_n 0, 1) := by decide +kernel
theorem dX8_doRegisters_47 : decode cX8_doRegisters 47 = .ok (.getfield 38, 3) := by decide +kernel
theorem dX8_doRegisters_50 : decode cX8_doRegisters 50 = .ok (.ifCond .le 4, 3) := by decide +kernel
theorem dX8_doRegisters_53 : decode cX8_doRegisters 53 = .ok (.return_, 1) := by decide +kernel
theorem dX8_doRegisters_54 : decode cX8_doRegisters 54 = .ok (.iload_n 1, 1) := by decide +kernel
theorem dX8_doRegisters_55 : decode cX8_doRegisters 55 = .ok (.bipush 16, 2) := by decide +kernel
theorem dX8_doRegisters_57 : decode cX8_doRegisters 57 = .ok (.if_icmp .ge 13, 3) := by decide +kernel
theorem dX8_doRegisters_60 : decode cX8_doRegisters 60 = .ok (.aload_n 0, 1) := by decide +kernel
theorem dX8_doRegisters_61 : decode cX8_doRegisters 61 = .ok (.iload_n 1, 1) := by decide +kernel
theorem dX8_doRegisters_62 : decode cX8_doRegisters 62 = .ok (.iload_n 2, 1) := by decide +kernel
theorem dX8_doRegisters_63 : decode cX8_doRegisters 63 = .ok (.iload_n 3, 1) := by decide +kernel
theorem dX8_doRegisters_64 : decode cX8_doRegisters 64 = .ok (.invokevirtual 125, 3) := by decide +kernel
theorem dX8_doRegisters_67 : decode cX8_doRegisters 67 = .ok (.goto 209, 3) := by decide +kernel
theorem dX8_doRegisters_70 : decode cX8_doRegisters 70 = .ok (.iload_n 1, 1) := by decide +kernel
theorem dX8_doRegisters_71 : decode cX8_doRegisters 71 = .ok (.bipush 24, 2) := by decide +kernel
theorem dX8_doRegisters_73 : decode cX8_doRegisters 73 = .ok (.if_icmp .ge 73, 3) := by decide +kernel
theorem dX8_doRegisters_76 : decode cX8_doRegisters 76 = .ok (.aload_n 0, 1) := by decide +kernel
theorem dX8_doRegisters_77 : decode cX8_doRegisters 77 = .ok (.getfield 16, 3) := by decide +kernel
theorem dX8_doRegisters_80 : decode cX8_doRegisters 80 = .ok (.iload_n 2, 1) := by decide +kernel
theorem dX8_doRegisters_81 : decode cX8_doRegisters 81 = .ok (.iload_n 1, 1) := by decide +kernel
theorem dX8_doRegisters_82 : decode cX8_doRegisters 82 = .ok (.bipush 18, 2) := by decide +kernel
theorem dX8_doRegisters_84 : decode cX8_doRegisters 84 = .ok (.if_icmp .ne 8, 3) := by decide +kernel
theorem dX8_doRegisters_87 : decode cX8_doRegisters 87 = .ok (.iload 5, 2) := by decide +kernel
theorem dX8_doRegisters_89 : decode cX8_doRegisters 89 = .ok (.goto 40, 3) := by decide +kernel
theorem dX8_doRegisters_92 : decode cX8_doRegisters 92 = .ok (.aload_n 0, 1) := by decide +kernel
theorem dX8_doRegisters_93 : decode cX8_doRegisters 93 = .ok (.iload_n 1, 1) := by decide +kernel
theorem dX8_doRegisters_94 : decode cX8_doRegisters 94 = .ok (.bipush 20, 2) := by decide +kernel
theorem dX8_doRegisters_96 : decode cX8_doRegisters 96 = .ok (.if_icmp .ne 11, 3) := by decide +kernel
theorem dX8_doRegisters_99 : decode cX8_doRegisters 99 = .ok (.iload 4, 2) := by decide +kernel
theorem dX8_doRegisters_101 : decode cX8_doRegisters 101 = .ok (.iload 5, 2) := by decide +kernel
theorem dX8_doRegisters_103 : decode cX8_doRegisters 103 = .ok (.iand, 1) := by decide +kernel
theorem dX8_doRegisters_104 : decode cX8_doRegisters 104 = .ok (.goto 22, 3) := by decide +kernel
theorem dX8_doRegisters_107 : decode cX8_doRegisters 107 = .ok (.iload_n 1, 1) := by decide +kernel
theorem dX8_doRegisters_108 : decode cX8_doRegisters 108 = .ok (.bipush 22, 2) := by decide +kernel
theorem dX8_doRegisters_110 : decode cX8_doRegisters 110 = .ok (.if_icmp .ne 11, 3) := by decide +kernel
theorem dX8_doRegisters_113 : decode cX8_doRegisters 113 = .ok (.iload 4, 2) := by decide +kernel
theorem dX8_doRegisters_115 : decode cX8_doRegisters 115 = .ok (.iload 5, 2) := by decide +kernel
theorem dX8_doRegisters_117 : decode cX8_doRegisters 117 = .ok (.ior, 1) := by decide +kernel
theorem dX8_doRegisters_118 : decode cX8_doRegisters 118 = .ok (.goto 8, 3) := by decide +kernel
theorem dX8_doRegisters_121 : decode cX8_doRegisters 121 = .ok (.iload 4, 2) := by decide +kernel
theorem dX8_doRegisters_123 : decode cX8_doRegisters 123 = .ok (.iload 5, 2) := by decide +kernel
theorem dX8_doRegisters_125 : decode cX8_doRegisters 125 = .ok (.ixor, 1) := by decide +kernel
theorem dX8_doRegisters_126 : decode cX8_doRegisters 126 = .ok (.invokevirtual 128, 3) := by decide +kernel
theorem dX8_doRegisters_129 : decode cX8_doRegisters 129 = .ok (.iastore, 1) := by decide +kernel
theorem dX8_doRegisters_130 : decode cX8_doRegisters 130 = .ok (.iload_n 1, 1) := by decide +kernel
theorem dX8_doRegisters_131 : decode cX8_doRegisters 131 = .ok (.bipush 18, 2) := by decide +kernel
theorem dX8_doRegisters_133 : decode cX8_doRegisters 133 = .ok (.if_icmp .ne 143, 3) := by decide +kernel
theorem dX8_doRegisters_136 : decode cX8_doRegisters 136 = .ok (.aload_n 0, 1) := by decide +kernel
theorem dX8_doRegisters_137 : decode cX8_doRegisters 137 = .ok (.iload 5, 2) := by decide +kernel
theorem dX8_doRegisters_139 : decode cX8_doRegisters 139 = .ok (.i2l, 1) := by decide +kernel
theorem dX8_doRegisters_140 : decode cX8_doRegisters 140 = .ok (.invokevirtual 120, 3) := by decide +kernel
theorem dX8_doRegisters_143 : decode cX8_doRegisters 143 = .ok (.goto 133, 3) := by decide +kernel
theorem dX8_doRegisters_146 : decode cX8_doRegisters 146 = .ok (.iload_n 1, 1) := by decide +kernel
theorem dX8_doRegisters_147 : decode cX8_doRegisters 147 = .ok (.bipush 24, 2) := by decide +kernel
theorem dX8_doRegisters_149 : decode cX8_doRegisters 149 = .ok (.if_icmp .ne 14, 3) := by decide +kernel
theorem dX8_doRegisters_152 : decode cX8_doRegisters 152 = .ok (.aload_n 0, 1) := by decide +kernel
theorem dX8_doRegisters_153 : decode cX8_doRegisters 153 = .ok (.getfield 16, 3) := by decide +kernel
theorem dX8_doRegisters_156 : decode cX8_doRegisters 156 = .ok (.iload_n 2, 1) := by decide +kernel
theorem dX8_doRegisters_157 : decode cX8_doRegisters 157 = .ok (.iload 5, 2) := by decide +kernel
theorem dX8_doRegisters_159 : decode cX8_doRegisters 159 = .ok (.iastore, 1) := by decide +kernel
theorem dX8_doRegisters_160 : decode cX8_doRegisters 160 = .ok (.goto 116, 3) := by decide +kernel
theorem dX8_doRegisters_163 : decode cX8_doRegisters 163 = .ok (.iload_n 1, 1) := by decide +kernel
theorem dX8_doRegisters_164 : decode cX8_doRegisters 164 = .ok (.bipush 25, 2) := by decide +kernel
theorem dX8_doRegisters_166 : decode cX8_doRegisters 166 = .ok (.if_icmp .ne 14, 3) := by decide +kernel
theorem dX8_doRegisters_169 : decode cX8_doRegisters 169 = .ok (.aload_n 0, 1) := by decide +kernel
theorem dX8_doRegisters_170 : decode cX8_doRegisters 170 = .ok (.iload 4, 2) := by decide +kernel
theorem dX8_doRegisters_172 : decode cX8_doRegisters 172 = .ok (.iload 5, 2) := by decide +kernel
theorem dX8_doRegisters_174 : decode cX8_doRegisters 174 = .ok (.invokevirtual 131, 3) := by decide +kernel
theorem dX8_doRegisters_177 : decode cX8_doRegisters 177 = .ok (.goto 99, 3) := by decide +kernel
theorem dX8_doRegisters_180 : decode cX8_doRegisters 180 = .ok (.iload_n 1, 1) := by decide +kernel
theorem dX8_doRegisters_181 : decode cX8_doRegisters 181 = .ok (.bipush 28, 2) := by decide +kernel
theorem dX8_doRegisters_183 : decode cX8_doRegisters 183 = .ok (.if_icmp .ge 39, 3) := by decide +kernel
theorem dX8_doRegisters_186 : decode cX8_doRegisters 186 = .ok (.aload_n 0, 1) := by decide +kernel
theorem dX8_doRegisters_187 : decode cX8_doRegisters 187 = .ok (.getfield 16, 3) := by decide +kernel
theorem dX8_doRegisters_190 : decode cX8_doRegisters 190 = .ok (.iload_n 2, 1) := by decide +kernel
theorem dX8_doRegisters_191 : decode cX8_doRegisters 191 = .ok (.aload_n 0, 1) := by decide +kernel
theorem dX8_doRegisters_192 : decode cX8_doRegisters 192 = .ok (.iload_n 1, 1) := by decide +kernel
theorem dX8_doRegisters_193 : decode cX8_doRegisters 193 = .ok (.bipush 26, 2) := by decide +kernel
theorem dX8_doRegisters_195 : decode cX8_doRegisters 195 = .ok (.if_icmp .ne 13, 3) := by decide +kernel
theorem dX8_doRegisters_198 : decode cX8_doRegisters 198 = .ok (.iload 4, 2) := by decide +kernel
theorem dX8_doRegisters_200 : decode cX8_doRegisters 200 = .ok (.i2l, 1) := by decide +kernel
theorem dX8_doRegisters_201 : decode cX8_doRegisters 201 = .ok (.iload 5, 2) := by decide +kernel
theorem dX8_doRegisters_203 : decode cX8_doRegisters 203 = .ok (.i2l, 1) := by decide +kernel
theorem dX8_doRegisters_204 : decode cX8_doRegisters 204 = .ok (.ladd, 1) := by decide +kernel
theorem dX8_doRegisters_205 : decode cX8_doRegisters 205 = .ok (.goto 10, 3) := by decide +kernel
theorem dX8_doRegisters_208 : decode cX8_doRegisters 208 = .ok (.iload 4, 2) := by decide +kernel
theorem dX8_doRegisters_210 : decode cX8_doRegisters 210 = .ok (.i2l, 1) := by decide +kernel
theorem dX8_doRegisters_211 : decode cX8_doRegisters 211 = .ok (.iload 5, 2) := by decide +kernel
theorem dX8_doRegisters_213 : decode cX8_doRegisters 213 = .ok (.i2l, 1) := by decide +kernel
theorem dX8_doRegisters_214 : decode cX8_doRegisters 214 = .ok (.lsub, 1) := by decide +kernel
theorem dX8_doRegisters_215 : decode cX8_doRegisters 215 = .ok (.invokevirtual 135, 3) := by decide +kernel
theorem dX8_doRegisters_218 : decode cX8_doRegisters 218 = .ok (.iastore, 1) := by decide +kernel
theorem dX8_doRegisters_219 : decode cX8_doRegisters 219 = .ok (.goto 57, 3) := by decide +kernel
theorem dX8_doRegisters_222 : decode cX8_doRegisters 222 = .ok (.iload_n 1, 1) := by decide +kernel
theorem dX8_doRegisters_223 : decode cX8_doRegisters 223 = .ok (.bipush 28, 2) := by decide +kernel
theorem dX8_doRegisters_225 : decode cX8_doRegisters 225 = .ok (.if_icmp .ne 44, 3) := by decide +kernel
theorem dX8_doRegisters_228 : decode cX8_doRegisters 228 = .ok (.aload_n 0, 1) := by decide +kernel
theorem dX8_doRegisters_229 : decode cX8_doRegisters 229 = .ok (.getfield 16, 3) := by decide +kernel
theorem dX8_doRegisters_232 : decode cX8_doRegisters 232 = .ok (.iload_n 2, 1) := by decide +kernel
theorem dX8_doRegisters_233 : decode cX8_doRegisters 233 = .ok (.iconst 1, 1) := by decide +kernel
theorem dX8_doRegisters_234 : decode cX8_doRegisters 234 = .ok (.iadd, 1) := by decide +kernel
theorem dX8_doRegisters_235 : decode cX8_doRegisters 235 = .ok (.iaload, 1) := by decide +kernel
theorem dX8_doRegisters_236 : decode cX8_doRegisters 236 = .ok (.i2l, 1) := by decide +kernel
theorem dX8_doRegisters_237 : decode cX8_doRegisters 237 = .ok (.iload 5, 2) := by decide +kernel
theorem dX8_doRegisters_239 : decode cX8_doRegisters 239 = .ok (.i2l, 1) := by decide +kernel
theorem dX8_doRegisters_240 : decode cX8_doRegisters 240 = .ok (.lmul, 1) := by decide +kernel
theorem dX8_doRegisters_241 : decode cX8_doRegisters 241 = .ok (.lstore 6, 2) := by decide +kernel
theorem dX8_doRegisters_243 : decode cX8_doRegisters 243 = .ok (.aload_n 0, 1) := by decide +kernel
theorem dX8_doRegisters_244 : decode cX8_doRegisters 244 = .ok (.getfield 16, 3) := by decide +kernel
theorem dX8_doRegisters_247 : decode cX8_doRegisters 247 = .ok (.iload_n 2, 1) := by decide +kernel
theorem dX8_doRegisters_248 : decode cX8_doRegisters 248 = .ok (.lload 6, 2) := by decide +kernel
theorem dX8_doRegisters_250 : decode cX8_doRegisters 250 = .ok (.bipush 32, 2) := by decide +kernel
theorem dX8_doRegisters_252 : decode cX8_doRegisters 252 = .ok (.lshr, 1) := by decide +kernel
theorem dX8_doRegisters_253 : decode cX8_doRegisters 253 = .ok (.l2i, 1) := by decide +kernel
theorem dX8_doRegisters_254 : decode cX8_doRegisters 254 = .ok (.iastore, 1) := by decide +kernel
theorem dX8_doRegisters_255 : decode cX8_doRegisters 255 = .ok (.aload_n 0, 1) := by decide +kernel
theorem dX8_doRegisters_256 : decode cX8_doRegisters 256 = .ok (.getfield 16, 3) := by decide +kernel
theorem dX8_doRegisters_259 : decode cX8_doRegisters 259 = .ok (.iload_n 2, 1) := by decide +kernel
theorem dX8_doRegisters_260 : decode cX8_doRegisters 260 = .ok (.iconst 1, 1) := by decide +kernel
theorem dX8_doRegisters_261 : decode cX8_doRegisters 261 = .ok (.iadd, 1) := by decide +kernel
theorem dX8_doRegisters_262 : decode cX8_doRegisters 262 = .ok (.lload 6, 2) := by decide +kernel
theorem dX8_doRegisters_264 : decode cX8_doRegisters 264 = .ok (.l2i, 1) := by decide +kernel
theorem dX8_doRegisters_265 : decode cX8_doRegisters 265 = .ok (.iastore, 1) := by decide +kernel
theorem dX8_doRegisters_266 : decode cX8_doRegisters 266 = .ok (.goto 10, 3) := by decide +kernel
theorem dX8_doRegisters_269 : decode cX8_doRegisters 269 = .ok (.aload_n 0, 1) := by decide +kernel
theorem dX8_doRegisters_270 : decode cX8_doRegisters 270 = .ok (.iload_n 2, 1) := by decide +kernel
theorem dX8_doRegisters_271 : decode cX8_doRegisters 271 = .ok (.iload 5, 2) := by decide +kernel
theorem dX8_doRegisters_273 : decode cX8_doRegisters 273 = .ok (.invokevirtual 139, 3) := by decide +kernel
theorem dX8_doRegisters_276 : decode cX8_doRegisters 276 = .ok (.return_, 1) := by decide +kernel
theorem dX8_control_0 : decode cX8_control 0 = .ok (.aload_n 0, 1) := by decide +kernel
theorem dX8_control_1 : decode cX8_control 1 = .ok (.getfield 16, 3) := by decide +kernel
theorem dX8_control_4 : decode cX8_control 4 = .ok (.iload_n 3, 1) := by decide +kernel
theorem dX8_control_5 : decode cX8_control 5 = .ok (.iaload, 1) := by decide +kernel
theorem dX8_control_6 : decode cX8_control 6 = .ok (.istore 4, 2) := by decide +kernel
theorem dX8_control_8 : decode cX8_control 8 = .ok (.iload 4, 2) := by decide +kernel
theorem dX8_control_10 : decode cX8_control 10 = .ok (.sipush 2047, 3) := by decide +kernel
theorem dX8_control_13 : decode cX8_control 13 = .ok (.iand, 1) := by decide +kernel
theorem dX8_control_14 : decode cX8_control 14 = .ok (.sipush 256, 3) := by decide +kernel
theorem dX8_control_17 : decode cX8_control 17 = .ok (.idiv, 1) := by decide +kernel
theorem dX8_control_18 : decode cX8_control 18 = .ok (.istore 5, 2) := by decide +kernel
theorem dX8_control_20 : decode cX8_control 20 = .ok (.iload_n 1, 1) := by decide +kernel
theorem dX8_control_21 : decode cX8_control 21 = .ok (.tableswitch 122 5 9 #[35, 122, 56, 75, 94], 35) := by decide +kernel
theorem dX8_control_56 : decode cX8_control 56 = .ok (.aload_n 0, 1) := by decide +kernel
theorem dX8_control_57 : decode cX8_control 57 = .ok (.getfield 16, 3) := by decide +kernel
theorem dX8_control_60 : decode cX8_control 60 = .ok (.iload_n 2, 1) := by decide +kernel
theorem dX8_control_61 : decode cX8_control 61 = .ok (.aload_n 0, 1) := by decide +kernel
theorem dX8_control_62 : decode cX8_control 62 = .ok (.getfield 59, 3) := by decide +kernel
theorem dX8_control_65 : decode cX8_control 65 = .ok (.iastore, 1) := by decide +kernel
theorem dX8_control_66 : decode cX8_control 66 = .ok (.iload_n 3, 1) := by decide +kernel
theorem dX8_control_67 : decode cX8_control 67 = .ok (.ifCond .le 9, 3) := by decide +kernel
theorem dX8_control_70 : decode cX8_control 70 = .ok (.aload_n 0, 1) := by decide +kernel
theorem dX8_control_71 : decode cX8_control 71 = .ok (.iload 4, 2) := by decide +kernel
theorem dX8_control_73 : decode cX8_control 73 = .ok (.invokevirtual 142, 3) := by decide +kernel
theorem dX8_control_76 : decode cX8_control 76 = .ok (.return_, 1) := by decide +kernel
theorem dX8_control_77 : decode cX8_control 77 = .ok (.iload_n 3, 1) := by decide +kernel
theorem dX8_control_78 : decode cX8_control 78 = .ok (.ifCond .le 17, 3) := by decide +kernel
theorem dX8_control_81 : decode cX8_control 81 = .ok (.aload_n 0, 1) := by decide +kernel
theorem dX8_control_82 : decode cX8_control 82 = .ok (.iload_n 2, 1) := by decide +kernel
theorem dX8_control_83 : decode cX8_control 83 = .ok (.invokevirtual 145, 3) := by decide +kernel
theorem dX8_control_86 : decode cX8_control 86 = .ok (.ifCond .eq 9, 3) := by decide +kernel
theorem dX8_control_89 : decode cX8_control 89 = .ok (.aload_n 0, 1) := by decide +kernel
theorem dX8_control_90 : decode cX8_control 90 = .ok (.iload 4, 2) := by decide +kernel
theorem dX8_control_92 : decode cX8_control 92 = .ok (.invokevirtual 142, 3) := by decide +kernel
theorem dX8_control_95 : decode cX8_control 95 = .ok (.return_, 1) := by decide +kernel
theorem dX8_control_96 : decode cX8_control 96 = .ok (.aload_n 0, 1) := by decide +kernel
theorem dX8_control_97 : decode cX8_control 97 = .ok (.getfield 13, 3) := by decide +kernel
theorem dX8_control_100 : decode cX8_control 100 = .ok (.iload 5, 2) := by decide +kernel
theorem dX8_control_102 : decode cX8_control 102 = .ok (.aload_n 0, 1) := by decide +kernel
theorem dX8_control_103 : decode cX8_control 103 = .ok (.getfield 16, 3) := by decide +kernel
theorem dX8_control_106 : decode cX8_control 106 = .ok (.iload_n 2, 1) := by decide +kernel
theorem dX8_control_107 : decode cX8_control 107 = .ok (.iaload, 1) := by decide +kernel
theorem dX8_control_108 : decode cX8_control 108 = .ok (.iconst 4, 1) := by decide +kernel
theorem dX8_control_109 : decode cX8_control 109 = .ok (.ishr, 1) := by decide +kernel
theorem dX8_control_110 : decode cX8_control 110 = .ok (.bipush 15, 2) := by decide +kernel
theorem dX8_control_112 : decode cX8_control 112 = .ok (.iand, 1) := by decide +kernel
theorem dX8_control_113 : decode cX8_control 113 = .ok (.iastore, 1) := by decide +kernel
theorem dX8_control_114 : decode cX8_control 114 = .ok (.return_, 1) := by decide +kernel
theorem dX8_control_115 : decode cX8_control 115 = .ok (.aload_n 0, 1) := by decide +kernel
theorem dX8_control_116 : decode cX8_control 116 = .ok (.getfield 16, 3) := by decide +kernel
theorem dX8_control_119 : decode cX8_control 119 = .ok (.iload_n 2, 1) := by decide +kernel
theorem dX8_control_120 : decode cX8_control 120 = .ok (.aload_n 0, 1) := by decide +kernel
theorem dX8_control_121 : decode cX8_control 121 = .ok (.getfield 16, 3) := by decide +kernel
theorem dX8_control_124 : decode cX8_control 124 = .ok (.iload_n 2, 1) := by decide +kernel
theorem dX8_control_125 : decode cX8_control 125 = .ok (.iaload, 1) := by decide +kernel
theorem dX8_control_126 : decode cX8_control 126 = .ok (.sipush (-256), 3) := by decide +kernel
theorem dX8_control_129 : decode cX8_control 129 = .ok (.iand, 1) := by decide +kernel
theorem dX8_control_130 : decode cX8_control 130 = .ok (.bipush 16, 2) := by decide +kernel
theorem dX8_control_132 : decode cX8_control 132 = .ok (.aload_n 0, 1) := by decide +kernel
theorem dX8_control_133 : decode cX8_control 133 = .ok (.getfield 13, 3) := by decide +kernel
theorem dX8_control_136 : decode cX8_control 136 = .ok (.iload 5, 2) := by decide +kernel
theorem dX8_control_138 : decode cX8_control 138 = .ok (.iaload, 1) := by decide +kernel
theorem dX8_control_139 : decode cX8_control 139 = .ok (.imul, 1) := by decide +kernel
theorem dX8_control_140 : decode cX8_control 140 = .ok (.iadd, 1) := by decide +kernel
theorem dX8_control_141 : decode cX8_control 141 = .ok (.iastore, 1) := by decide +kernel
theorem dX8_control_142 : decode cX8_control 142 = .ok (.return_, 1) := by decide +kernel
theorem dX8_control_143 : decode cX8_control 143 = .ok (.aload_n 0, 1) := by decide +kernel
theorem dX8_control_144 : decode cX8_control 144 = .ok (.bipush 32, 2) := by decide +kernel
theorem dX8_control_146 : decode cX8_control 146 = .ok (.bipush 96, 2) := by decide +kernel
theorem dX8_control_148 : decode cX8_control 148 = .ok (.bipush 16, 2) := by decide +kernel
theorem dX8_control_150 : decode cX8_control 150 = .ok (.iload_n 2, 1) := by decide +kernel
theorem dX8_control_151 : decode cX8_control 151 = .ok (.imul, 1) := by decide +kernel
theorem dX8_control_152 : decode cX8_control 152 = .ok (.iload_n 3, 1) := by decide +kernel
theorem dX8_control_153 : decode cX8_control 153 = .ok (.iadd, 1) := by decide +kernel
theorem dX8_control_154 : decode cX8_control 154 = .ok (.invokevirtual 77, 3) := by decide +kernel
theorem dX8_control_157 : decode cX8_control 157 = .ok (.return_, 1) := by decide +kernel
theorem dX8_divide_0 : decode cX8_divide 0 = .ok (.aload_n 0, 1) := by decide +kernel
theorem dX8_divide_1 : decode cX8_divide 1 = .ok (.getfield 16, 3) := by decide +kernel
theorem dX8_divide_4 : decode cX8_divide 4 = .ok (.iload_n 1, 1) := by decide +kernel
theorem dX8_divide_5 : decode cX8_divide 5 = .ok (.iconst 1, 1) := by decide +kernel
theorem dX8_divide_6 : decode cX8_divide 6 = .ok (.iadd, 1) := by decide +kernel
theorem dX8_divide_7 : decode cX8_divide 7 = .ok (.iaload, 1) := by decide +kernel
theorem dX8_divide_8 : decode cX8_divide 8 = .ok (.i2l, 1) := by decide +kernel
theorem dX8_divide_9 : decode cX8_divide 9 = .ok (.lstore_n 3, 1) := by decide +kernel
theorem dX8_divide_10 : decode cX8_divide 10 = .ok (.aload_n 0, 1) := by decide +kernel
theorem dX8_divide_11 : decode cX8_divide 11 = .ok (.getfield 16, 3) := by decide +kernel
theorem dX8_divide_14 : decode cX8_divide 14 = .ok (.iload_n 1, 1) := by decide +kernel
theorem dX8_divide_15 : decode cX8_divide 15 = .ok (.iaload, 1) := by decide +kernel
theorem dX8_divide_16 : decode cX8_divide 16 = .ok (.i2l, 1) := by decide +kernel
theorem dX8_divide_17 : decode cX8_divide 17 = .ok (.bipush 32, 2) := by decide +kernel
theorem dX8_divide_19 : decode cX8_divide 19 = .ok (.lshl, 1) := by decide +kernel
theorem dX8_divide_20 : decode cX8_divide 20 = .ok (.lload_n 3, 1) := by decide +kernel
theorem dX8_divide_21 : decode cX8_divide 21 = .ok (.lconst 0, 1) := by decide +kernel
theorem dX8_divide_22 : decode cX8_divide 22 = .ok (.lcmp, 1) := by decide +kernel
theorem dX8_divide_23 : decode cX8_divide 23 = .ok (.ifCond .ge 11, 3) := by decide +kernel
theorem dX8_divide_26 : decode cX8_divide 26 = .ok (.lload_n 3, 1) := by decide +kernel
theorem dX8_divide_27 : decode cX8_divide 27 = .ok (.ldc2_w 149, 3) := by decide +kernel
theorem dX8_divide_30 : decode cX8_divide 30 = .ok (.ladd, 1) := by decide +kernel
theorem dX8_divide_31 : decode cX8_divide 31 = .ok (.goto 4, 3) := by decide +kernel
theorem dX8_divide_34 : decode cX8_divide 34 = .ok (.lload_n 3, 1) := by decide +kernel
theorem dX8_divide_35 : decode cX8_divide 35 = .ok (.ladd, 1) := by decide +kernel
theorem dX8_divide_36 : decode cX8_divide 36 = .ok (.lstore 5, 2) := by decide +kernel
theorem dX8_divide_38 : decode cX8_divide 38 = .ok (.iload_n 2, 1) := by decide +kernel
theorem dX8_divide_39 : decode cX8_divide 39 = .ok (.ifCond .ne 9, 3) := by decide +kernel
theorem dX8_divide_42 : decode cX8_divide 42 = .ok (.ldc2_w 149, 3) := by decide +kernel
theorem dX8_divide_45 : decode cX8_divide 45 = .ok (.goto 8, 3) := by decide +kernel
theorem dX8_divide_48 : decode cX8_divide 48 = .ok (.lload 5, 2) := by decide +kernel
theorem dX8_divide_50 : decode cX8_divide 50 = .ok (.iload_n 2, 1) := by decide +kernel
theorem dX8_divide_51 : decode cX8_divide 51 = .ok (.i2l, 1) := by decide +kernel
theorem dX8_divide_52 : decode cX8_divide 52 = .ok (.ldiv, 1) := by decide +kernel
theorem dX8_divide_53 : decode cX8_divide 53 = .ok (.lstore 7, 2) := by decide +kernel
theorem dX8_divide_55 : decode cX8_divide 55 = .ok (.aload_n 0, 1) := by decide +kernel
theorem dX8_divide_56 : decode cX8_divide 56 = .ok (.lload 7, 2) := by decide +kernel
theorem dX8_divide_58 : decode cX8_divide 58 = .ok (.ldc2_w 151, 3) := by decide +kernel
theorem dX8_divide_61 : decode cX8_divide 61 = .ok (.lcmp, 1) := by decide +kernel
theorem dX8_divide_62 : decode cX8_divide 62 = .ok (.ifCond .gt 12, 3) := by decide +kernel
theorem dX8_divide_65 : decode cX8_divide 65 = .ok (.lload 7, 2) := by decide +kernel
theorem dX8_divide_67 : decode cX8_divide 67 = .ok (.ldc2_w 153, 3) := by decide +kernel
theorem dX8_divide_70 : decode cX8_divide 70 = .ok (.lcmp, 1) := by decide +kernel
theorem dX8_divide_71 : decode cX8_divide 71 = .ok (.ifCond .ge 7, 3) := by decide +kernel
theorem dX8_divide_74 : decode cX8_divide 74 = .ok (.iconst 1, 1) := by decide +kernel
theorem dX8_divide_75 : decode cX8_divide 75 = .ok (.goto 4, 3) := by decide +kernel
theorem dX8_divide_78 : decode cX8_divide 78 = .ok (.iconst 0, 1) := by decide +kernel
theorem dX8_divide_79 : decode cX8_divide 79 = .ok (.bipush 9, 2) := by decide +kernel
theorem dX8_divide_81 : decode cX8_divide 81 = .ok (.invokevirtual 42, 3) := by decide +kernel
theorem dX8_divide_84 : decode cX8_divide 84 = .ok (.aload_n 0, 1) := by decide +kernel
theorem dX8_divide_85 : decode cX8_divide 85 = .ok (.getfield 38, 3) := by decide +kernel
theorem dX8_divide_88 : decode cX8_divide 88 = .ok (.ifCond .ne 26, 3) := by decide +kernel
theorem dX8_divide_91 : decode cX8_divide 91 = .ok (.aload_n 0, 1) := by decide +kernel
theorem dX8_divide_92 : decode cX8_divide 92 = .ok (.getfield 16, 3) := by decide +kernel
theorem dX8_divide_95 : decode cX8_divide 95 = .ok (.iload_n 1, 1) := by decide +kernel
theorem dX8_divide_96 : decode cX8_divide 96 = .ok (.lload 5, 2) := by decide +kernel
theorem dX8_divide_98 : decode cX8_divide 98 = .ok (.iload_n 2, 1) := by decide +kernel
theorem dX8_divide_99 : decode cX8_divide 99 = .ok (.i2l, 1) := by decide +kernel
theorem dX8_divide_100 : decode cX8_divide 100 = .ok (.lrem, 1) := by decide +kernel
theorem dX8_divide_101 : decode cX8_divide 101 = .ok (.l2i, 1) := by decide +kernel
theorem dX8_divide_102 : decode cX8_divide 102 = .ok (.iastore, 1) := by decide +kernel
theorem dX8_divide_103 : decode cX8_divide 103 = .ok (.aload_n 0, 1) := by decide +kernel
theorem dX8_divide_104 : decode cX8_divide 104 = .ok (.getfield 16, 3) := by decide +kernel
theorem dX8_divide_107 : decode cX8_divide 107 = .ok (.iload_n 1, 1) := by decide +kernel
theorem dX8_divide_108 : decode cX8_divide 108 = .ok (.iconst 1, 1) := by decide +kernel
theorem dX8_divide_109 : decode cX8_divide 109 = .ok (.iadd, 1) := by decide +kernel
theorem dX8_divide_110 : decode cX8_divide 110 = .ok (.lload 7, 2) := by decide +kernel
theorem dX8_divide_112 : decode cX8_divide 112 = .ok (.l2i, 1) := by decide +kernel
theorem dX8_divide_113 : decode cX8_divide 113 = .ok (.iastore, 1) := by decide +kernel
theorem dX8_divide_114 : decode cX8_divide 114 = .ok (.return_, 1) := by decide +kernel
theorem dX8_sizeOf_0 : decode cX8_sizeOf 0 = .ok (.iload_n 0, 1) := by decide +kernel
theorem dX8_sizeOf_1 : decode cX8_sizeOf 1 = .ok (.bipush 66, 2) := by decide +kernel
theorem dX8_sizeOf_3 : decode cX8_sizeOf 3 = .ok (.if_icmp .eq 9, 3) := by decide +kernel
theorem dX8_sizeOf_6 : decode cX8_sizeOf 6 = .ok (.iload_n 0, 1) := by decide +kernel
theorem dX8_sizeOf_7 : decode cX8_sizeOf 7 = .ok (.bipush 67, 2) := by decide +kernel
theorem dX8_sizeOf_9 : decode cX8_sizeOf 9 = .ok (.if_icmp .ne 5, 3) := by decide +kernel
theorem dX8_sizeOf_12 : decode cX8_sizeOf 12 = .ok (.iconst 1, 1) := by decide +kernel
theorem dX8_sizeOf_13 : decode cX8_sizeOf 13 = .ok (.ireturn, 1) := by decide +kernel
theorem dX8_sizeOf_14 : decode cX8_sizeOf 14 = .ok (.iload_n 0, 1) := by decide +kernel
theorem dX8_sizeOf_15 : decode cX8_sizeOf 15 = .ok (.bipush 77, 2) := by decide +kernel
theorem dX8_sizeOf_17 : decode cX8_sizeOf 17 = .ok (.if_icmp .le 12, 3) := by decide +kernel
theorem dX8_sizeOf_20 : decode cX8_sizeOf 20 = .ok (.iload_n 0, 1) := by decide +kernel
theorem dX8_sizeOf_21 : decode cX8_sizeOf 21 = .ok (.bipush 80, 2) := by decide +kernel
theorem dX8_sizeOf_23 : decode cX8_sizeOf 23 = .ok (.if_icmp .ge 6, 3) := by decide +kernel
theorem dX8_sizeOf_26 : decode cX8_sizeOf 26 = .ok (.bipush 8, 2) := by decide +kernel
theorem dX8_sizeOf_28 : decode cX8_sizeOf 28 = .ok (.ireturn, 1) := by decide +kernel
theorem dX8_sizeOf_29 : decode cX8_sizeOf 29 = .ok (.iload_n 0, 1) := by decide +kernel
theorem dX8_sizeOf_30 : decode cX8_sizeOf 30 = .ok (.bipush 64, 2) := by decide +kernel
theorem dX8_sizeOf_32 : decode cX8_sizeOf 32 = .ok (.bipush 72, 2) := by decide +kernel
theorem dX8_sizeOf_34 : decode cX8_sizeOf 34 = .ok (.bipush 73, 2) := by decide +kernel
theorem dX8_sizeOf_36 : decode cX8_sizeOf 36 = .ok (.bipush 74, 2) := by decide +kernel
theorem dX8_sizeOf_38 : decode cX8_sizeOf 38 = .ok (.invokestatic 115, 3) := by decide +kernel
theorem dX8_sizeOf_41 : decode cX8_sizeOf 41 = .ok (.ifCond .eq 7, 3) := by decide +kernel
theorem dX8_sizeOf_44 : decode cX8_sizeOf 44 = .ok (.iconst 2, 1) := by decide +kernel
theorem dX8_sizeOf_45 : decode cX8_sizeOf 45 = .ok (.goto 14, 3) := by decide +kernel
theorem dX8_sizeOf_48 : decode cX8_sizeOf 48 = .ok (.iload_n 0, 1) := by decide +kernel
theorem dX8_sizeOf_49 : decode cX8_sizeOf 49 = .ok (.bipush 79, 2) := by decide +kernel
theorem dX8_sizeOf_51 : decode cX8_sizeOf 51 = .ok (.if_icmp .le 7, 3) := by decide +kernel
theorem dX8_sizeOf_54 : decode cX8_sizeOf 54 = .ok (.iconst 4, 1) := by decide +kernel
theorem dX8_sizeOf_55 : decode cX8_sizeOf 55 = .ok (.goto 4, 3) := by decide +kernel
theorem dX8_sizeOf_58 : decode cX8_sizeOf 58 = .ok (.iconst 0, 1) := by decide +kernel
theorem dX8_sizeOf_59 : decode cX8_sizeOf 59 = .ok (.ireturn, 1) := by decide +kernel
theorem dX8_doIndexed_0 : decode cX8_doIndexed 0 = .ok (.iload_n 1, 1) := by decide +kernel
theorem dX8_doIndexed_1 : decode cX8_doIndexed 1 = .ok (.invokestatic 155, 3) := by decide +kernel
theorem dX8_doIndexed_4 : decode cX8_doIndexed 4 = .ok (.istore 4, 2) := by decide +kernel
theorem dX8_doIndexed_6 : decode cX8_doIndexed 6 = .ok (.iload 4, 2) := by decide +kernel
theorem dX8_doIndexed_8 : decode cX8_doIndexed 8 = .ok (.ifCond .le 28, 3) := by decide +kernel
theorem dX8_doIndexed_11 : decode cX8_doIndexed 11 = .ok (.aload_n 0, 1) := by decide +kernel
theorem dX8_doIndexed_12 : decode cX8_doIndexed 12 = .ok (.iload_n 3, 1) := by decide +kernel
theorem dX8_doIndexed_13 : decode cX8_doIndexed 13 = .ok (.iload 4, 2) := by decide +kernel
theorem dX8_doIndexed_15 : decode cX8_doIndexed 15 = .ok (.iload 4, 2) := by decide +kernel
theorem dX8_doIndexed_17 : decode cX8_doIndexed 17 = .ok (.iload_n 1, 1) := by decide +kernel
theorem dX8_doIndexed_18 : decode cX8_doIndexed 18 = .ok (.bipush 64, 2) := by decide +kernel
theorem dX8_doIndexed_20 : decode cX8_doIndexed 20 = .ok (.bipush 66, 2) := by decide +kernel
theorem dX8_doIndexed_22 : decode cX8_doIndexed 22 = .ok (.bipush 78, 2) := by decide +kernel
theorem dX8_doIndexed_24 : decode cX8_doIndexed 24 = .ok (.bipush 80, 2) := by decide +kernel
theorem dX8_doIndexed_26 : decode cX8_doIndexed 26 = .ok (.invokestatic 115, 3) := by decide +kernel
theorem dX8_doIndexed_29 : decode cX8_doIndexed 29 = .ok (.invokevirtual 158, 3) := by decide +kernel
theorem dX8_doIndexed_32 : decode cX8_doIndexed 32 = .ok (.ifCond .ne 4, 3) := by decide +kernel
theorem dX8_doIndexed_35 : decode cX8_doIndexed 35 = .ok (.return_, 1) := by decide +kernel
theorem dX8_doIndexed_36 : decode cX8_doIndexed 36 = .ok (.iload 4, 2) := by decide +kernel
theorem dX8_doIndexed_38 : decode cX8_doIndexed 38 = .ok (.iconst 4, 1) := by decide +kernel
theorem dX8_doIndexed_39 : decode cX8_doIndexed 39 = .ok (.if_icmp .ne 12, 3) := by decide +kernel
theorem dX8_doIndexed_42 : decode cX8_doIndexed 42 = .ok (.aload_n 0, 1) := by decide +kernel
theorem dX8_doIndexed_43 : decode cX8_doIndexed 43 = .ok (.iload_n 3, 1) := by decide +kernel
theorem dX8_doIndexed_44 : decode cX8_doIndexed 44 = .ok (.iconst 4, 1) := by decide +kernel
theorem dX8_doIndexed_45 : decode cX8_doIndexed 45 = .ok (.invokevirtual 66, 3) := by decide +kernel
theorem dX8_doIndexed_48 : decode cX8_doIndexed 48 = .ok (.goto 37, 3) := by decide +kernel
theorem dX8_doIndexed_51 : decode cX8_doIndexed 51 = .ok (.iload 4, 2) := by decide +kernel
theorem dX8_doIndexed_53 : decode cX8_doIndexed 53 = .ok (.iconst 2, 1) := by decide +kernel
theorem dX8_doIndexed_54 : decode cX8_doIndexed 54 = .ok (.if_icmp .ne 15, 3) := by decide +kernel
theorem dX8_doIndexed_57 : decode cX8_doIndexed 57 = .ok (.aload_n 0, 1) := by decide +kernel
theorem dX8_doIndexed_58 : decode cX8_doIndexed 58 = .ok (.iload_n 3, 1) := by decide +kernel
theorem dX8_doIndexed_59 : decode cX8_doIndexed 59 = .ok (.iconst 2, 1) := by decide +kernel
theorem dX8_doIndexed_60 : decode cX8_doIndexed 60 = .ok (.invokevirtual 66, 3) := by decide +kernel
theorem dX8_doIndexed_63 : decode cX8_doIndexed 63 = .ok (.invokestatic 162, 3) := by decide +kernel
theorem dX8_doIndexed_66 : decode cX8_doIndexed 66 = .ok (.goto 19, 3) := by decide +kernel
theorem dX8_doIndexed_69 : decode cX8_doIndexed 69 = .ok (.iload 4, 2) := by decide +kernel
theorem dX8_doIndexed_71 : decode cX8_doIndexed 71 = .ok (.iconst 1, 1) := by decide +kernel
theorem dX8_doIndexed_72 : decode cX8_doIndexed 72 = .ok (.if_icmp .ne 12, 3) := by decide +kernel
theorem dX8_doIndexed_75 : decode cX8_doIndexed 75 = .ok (.aload_n 0, 1) := by decide +kernel
theorem dX8_doIndexed_76 : decode cX8_doIndexed 76 = .ok (.getfield 7, 3) := by decide +kernel
theorem dX8_doIndexed_79 : decode cX8_doIndexed 79 = .ok (.iload_n 3, 1) := by decide +kernel
theorem dX8_doIndexed_80 : decode cX8_doIndexed 80 = .ok (.iaload, 1) := by decide +kernel
theorem dX8_doIndexed_81 : decode cX8_doIndexed 81 = .ok (.goto 4, 3) := by decide +kernel
theorem dX8_doIndexed_84 : decode cX8_doIndexed 84 = .ok (.iconst 0, 1) := by decide +kernel
theorem dX8_doIndexed_85 : decode cX8_doIndexed 85 = .ok (.istore 5, 2) := by decide +kernel
theorem dX8_doIndexed_87 : decode cX8_doIndexed 87 = .ok (.iload_n 1, 1) := by decide +kernel
theorem dX8_doIndexed_88 : decode cX8_doIndexed 88 = .ok (.bipush 79, 2) := by decide +kernel
theorem dX8_doIndexed_90 : decode cX8_doIndexed 90 = .ok (.if_icmp .gt 9, 3) := by decide +kernel
theorem dX8_doIndexed_93 : decode cX8_doIndexed 93 = .ok (.iload 4, 2) := by decide +kernel
theorem dX8_doIndexed_95 : decode cX8_doIndexed 95 = .ok (.iconst 2, 1) := by decide +kernel
theorem dX8_doIndexed_96 : decode cX8_doIndexed 96 = .ok (.if_icmp .ne 15, 3) := by decide +kernel
theorem dX8_doIndexed_99 : decode cX8_doIndexed 99 = .ok (.aload_n 0, 1) := by decide +kernel
theorem dX8_doIndexed_100 : decode cX8_doIndexed 100 = .ok (.iload_n 1, 1) := by decide +kernel
theorem dX8_doIndexed_101 : decode cX8_doIndexed 101 = .ok (.iload_n 2, 1) := by decide +kernel
theorem dX8_doIndexed_102 : decode cX8_doIndexed 102 = .ok (.iload_n 3, 1) := by decide +kernel
theorem dX8_doIndexed_103 : decode cX8_doIndexed 103 = .ok (.iload 5, 2) := by decide +kernel
theorem dX8_doIndexed_105 : decode cX8_doIndexed 105 = .ok (.invokevirtual 165, 3) := by decide +kernel
theorem dX8_doIndexed_108 : decode cX8_doIndexed 108 = .ok (.goto 103, 3) := by decide +kernel
theorem dX8_doIndexed_111 : decode cX8_doIndexed 111 = .ok (.iload_n 1, 1) := by decide +kernel
theorem dX8_doIndexed_112 : decode cX8_doIndexed 112 = .ok (.bipush 66, 2) := by decide +kernel
theorem dX8_doIndexed_114 : decode cX8_doIndexed 114 = .ok (.if_icmp .ne 22, 3) := by decide +kernel
theorem dX8_doIndexed_117 : decode cX8_doIndexed 117 = .ok (.aload_n 0, 1) := by decide +kernel
theorem dX8_doIndexed_118 : decode cX8_doIndexed 118 = .ok (.getfield 7, 3) := by decide +kernel
theorem dX8_doIndexed_121 : decode cX8_doIndexed 121 = .ok (.iload_n 3, 1) := by decide +kernel
theorem dX8_doIndexed_122 : decode cX8_doIndexed 122 = .ok (.aload_n 0, 1) := by decide +kernel
theorem dX8_doIndexed_123 : decode cX8_doIndexed 123 = .ok (.getfield 16, 3) := by decide +kernel
theorem dX8_doIndexed_126 : decode cX8_doIndexed 126 = .ok (.iload_n 2, 1) := by decide +kernel
theorem dX8_doIndexed_127 : decode cX8_doIndexed 127 = .ok (.iaload, 1) := by decide +kernel
theorem dX8_doIndexed_128 : decode cX8_doIndexed 128 = .ok (.sipush 255, 3) := by decide +kernel
theorem dX8_doIndexed_131 : decode cX8_doIndexed 131 = .ok (.iand, 1) := by decide +kernel
theorem dX8_doIndexed_132 : decode cX8_doIndexed 132 = .ok (.iastore, 1) := by decide +kernel
theorem dX8_doIndexed_133 : decode cX8_doIndexed 133 = .ok (.goto 78, 3) := by decide +kernel
theorem dX8_doIndexed_136 : decode cX8_doIndexed 136 = .ok (.iload_n 1, 1) := by decide +kernel
theorem dX8_doIndexed_137 : decode cX8_doIndexed 137 = .ok (.bipush 67, 2) := by decide +kernel
theorem dX8_doIndexed_139 : decode cX8_doIndexed 139 = .ok (.if_icmp .ne 25, 3) := by decide +kernel
theorem dX8_doIndexed_142 : decode cX8_doIndexed 142 = .ok (.aload_n 0, 1) := by decide +kernel
theorem dX8_doIndexed_143 : decode cX8_doIndexed 143 = .ok (.getfield 16, 3) := by decide +kernel
theorem dX8_doIndexed_146 : decode cX8_doIndexed 146 = .ok (.iload_n 2, 1) := by decide +kernel
theorem dX8_doIndexed_147 : decode cX8_doIndexed 147 = .ok (.aload_n 0, 1) := by decide +kernel
theorem dX8_doIndexed_148 : decode cX8_doIndexed 148 = .ok (.getfield 16, 3) := by decide +kernel
theorem dX8_doIndexed_151 : decode cX8_doIndexed 151 = .ok (.iload_n 2, 1) := by decide +kernel
theorem dX8_doIndexed_152 : decode cX8_doIndexed 152 = .ok (.iaload, 1) := by decide +kernel
theorem dX8_doIndexed_153 : decode cX8_doIndexed 153 = .ok (.sipush (-256), 3) := by decide +kernel
theorem dX8_doIndexed_156 : decode cX8_doIndexed 156 = .ok (.iand, 1) := by decide +kernel
theorem dX8_doIndexed_157 : decode cX8_doIndexed 157 = .ok (.iload 5, 2) := by decide +kernel
theorem dX8_doIndexed_159 : decode cX8_doIndexed 159 = .ok (.iadd, 1) := by decide +kernel
theorem dX8_doIndexed_160 : decode cX8_doIndexed 160 = .ok (.iastore, 1) := by decide +kernel
theorem dX8_doIndexed_161 : decode cX8_doIndexed 161 = .ok (.goto 50, 3) := by decide +kernel
theorem dX8_doIndexed_164 : decode cX8_doIndexed 164 = .ok (.iload 4, 2) := by decide +kernel
theorem dX8_doIndexed_166 : decode cX8_doIndexed 166 = .ok (.ifCond .ne 13, 3) := by decide +kernel
theorem dX8_doIndexed_169 : decode cX8_doIndexed 169 = .ok (.aload_n 0, 1) := by decide +kernel
theorem dX8_doIndexed_170 : decode cX8_doIndexed 170 = .ok (.iload_n 1, 1) := by decide +kernel
theorem dX8_doIndexed_171 : decode cX8_doIndexed 171 = .ok (.iload_n 2, 1) := by decide +kernel
theorem dX8_doIndexed_172 : decode cX8_doIndexed 172 = .ok (.iload_n 3, 1) := by decide +kernel
theorem dX8_doIndexed_173 : decode cX8_doIndexed 173 = .ok (.invokevirtual 168, 3) := by decide +kernel
theorem dX8_doIndexed_176 : decode cX8_doIndexed 176 = .ok (.goto 35, 3) := by decide +kernel
theorem dX8_doIndexed_179 : decode cX8_doIndexed 179 = .ok (.iload_n 1, 1) := by decide +kernel
theorem dX8_doIndexed_180 : decode cX8_doIndexed 180 = .ok (.bipush 79, 2) := by decide +kernel
theorem dX8_doIndexed_182 : decode cX8_doIndexed 182 = .ok (.if_icmp .ne 12, 3) := by decide +kernel
theorem dX8_doIndexed_185 : decode cX8_doIndexed 185 = .ok (.aload_n 0, 1) := by decide +kernel
theorem dX8_doIndexed_186 : decode cX8_doIndexed 186 = .ok (.iload_n 2, 1) := by decide +kernel
theorem dX8_doIndexed_187 : decode cX8_doIndexed 187 = .ok (.iload_n 3, 1) := by decide +kernel
theorem dX8_doIndexed_188 : decode cX8_doIndexed 188 = .ok (.invokevirtual 171, 3) := by decide +kernel
theorem dX8_doIndexed_191 : decode cX8_doIndexed 191 = .ok (.goto 20, 3) := by decide +kernel
theorem dX8_doIndexed_194 : decode cX8_doIndexed 194 = .ok (.aload_n 0, 1) := by decide +kernel
theorem dX8_doIndexed_195 : decode cX8_doIndexed 195 = .ok (.aload_n 0, 1) := by decide +kernel
theorem dX8_doIndexed_196 : decode cX8_doIndexed 196 = .ok (.getfield 16, 3) := by decide +kernel
theorem dX8_doIndexed_199 : decode cX8_doIndexed 199 = .ok (.iload_n 2, 1) := by decide +kernel
theorem dX8_doIndexed_200 : decode cX8_doIndexed 200 = .ok (.iaload, 1) := by decide +kernel
theorem dX8_doIndexed_201 : decode cX8_doIndexed 201 = .ok (.invokevirtual 174, 3) := by decide +kernel
theorem dX8_doIndexed_204 : decode cX8_doIndexed 204 = .ok (.aload_n 0, 1) := by decide +kernel
theorem dX8_doIndexed_205 : decode cX8_doIndexed 205 = .ok (.iload_n 3, 1) := by decide +kernel
theorem dX8_doIndexed_206 : decode cX8_doIndexed 206 = .ok (.bipush 8, 2) := by decide +kernel
theorem dX8_doIndexed_208 : decode cX8_doIndexed 208 = .ok (.invokevirtual 177, 3) := by decide +kernel
theorem dX8_doIndexed_211 : decode cX8_doIndexed 211 = .ok (.return_, 1) := by decide +kernel
theorem dX8_numbers_0 : decode cX8_numbers 0 = .ok (.iload_n 1, 1) := by decide +kernel
theorem dX8_numbers_1 : decode cX8_numbers 1 = .ok (.bipush 15, 2) := by decide +kernel
theorem dX8_numbers_3 : decode cX8_numbers 3 = .ok (.iand, 1) := by decide +kernel
theorem dX8_numbers_4 : decode cX8_numbers 4 = .ok (.istore 5, 2) := by decide +kernel
theorem dX8_numbers_6 : decode cX8_numbers 6 = .ok (.iload_n 1, 1) := by decide +kernel
theorem dX8_numbers_7 : decode cX8_numbers 7 = .ok (.bipush 64, 2) := by decide +kernel
theorem dX8_numbers_9 : decode cX8_numbers 9 = .ok (.if_icmp .eq 9, 3) := by decide +kernel
theorem dX8_numbers_12 : decode cX8_numbers 12 = .ok (.iload_n 1, 1) := by decide +kernel
theorem dX8_numbers_13 : decode cX8_numbers 13 = .ok (.bipush 80, 2) := by decide +kernel
theorem dX8_numbers_15 : decode cX8_numbers 15 = .ok (.if_icmp .ne 28, 3) := by decide +kernel
theorem dX8_numbers_18 : decode cX8_numbers 18 = .ok (.aload_n 0, 1) := by decide +kernel
theorem dX8_numbers_19 : decode cX8_numbers 19 = .ok (.iload_n 3, 1) := by decide +kernel
theorem dX8_numbers_20 : decode cX8_numbers 20 = .ok (.aload_n 0, 1) := by decide +kernel
theorem dX8_numbers_21 : decode cX8_numbers 21 = .ok (.getfield 16, 3) := by decide +kernel
theorem dX8_numbers_24 : decode cX8_numbers 24 = .ok (.iload_n 2, 1) := by decide +kernel
theorem dX8_numbers_25 : decode cX8_numbers 25 = .ok (.iaload, 1) := by decide +kernel
theorem dX8_numbers_26 : decode cX8_numbers 26 = .ok (.iload_n 1, 1) := by decide +kernel
theorem dX8_numbers_27 : decode cX8_numbers 27 = .ok (.bipush 64, 2) := by decide +kernel
theorem dX8_numbers_29 : decode cX8_numbers 29 = .ok (.if_icmp .ne 7, 3) := by decide +kernel
theorem dX8_numbers_32 : decode cX8_numbers 32 = .ok (.iconst 2, 1) := by decide +kernel
theorem dX8_numbers_33 : decode cX8_numbers 33 = .ok (.goto 4, 3) := by decide +kernel
theorem dX8_numbers_36 : decode cX8_numbers 36 = .ok (.iconst 4, 1) := by decide +kernel
theorem dX8_numbers_37 : decode cX8_numbers 37 = .ok (.invokevirtual 55, 3) := by decide +kernel
theorem dX8_numbers_40 : decode cX8_numbers 40 = .ok (.goto 85, 3) := by decide +kernel
theorem dX8_numbers_43 : decode cX8_numbers 43 = .ok (.iload 5, 2) := by decide +kernel
theorem dX8_numbers_45 : decode cX8_numbers 45 = .ok (.bipush 8, 2) := by decide +kernel
theorem dX8_numbers_47 : decode cX8_numbers 47 = .ok (.if_icmp .ne 14, 3) := by decide +kernel
theorem dX8_numbers_50 : decode cX8_numbers 50 = .ok (.aload_n 0, 1) := by decide +kernel
theorem dX8_numbers_51 : decode cX8_numbers 51 = .ok (.getfield 16, 3) := by decide +kernel
theorem dX8_numbers_54 : decode cX8_numbers 54 = .ok (.iload_n 2, 1) := by decide +kernel
theorem dX8_numbers_55 : decode cX8_numbers 55 = .ok (.iload 4, 2) := by decide +kernel
theorem dX8_numbers_57 : decode cX8_numbers 57 = .ok (.iastore, 1) := by decide +kernel
theorem dX8_numbers_58 : decode cX8_numbers 58 = .ok (.goto 67, 3) := by decide +kernel
theorem dX8_numbers_61 : decode cX8_numbers 61 = .ok (.iload 5, 2) := by decide +kernel
theorem dX8_numbers_63 : decode cX8_numbers 63 = .ok (.bipush 9, 2) := by decide +kernel
theorem dX8_numbers_65 : decode cX8_numbers 65 = .ok (.if_icmp .ne 18, 3) := by decide +kernel
theorem dX8_numbers_68 : decode cX8_numbers 68 = .ok (.aload_n 0, 1) := by decide +kernel
theorem dX8_numbers_69 : decode cX8_numbers 69 = .ok (.aload_n 0, 1) := by decide +kernel
theorem dX8_numbers_70 : decode cX8_numbers 70 = .ok (.getfield 16, 3) := by decide +kernel
theorem dX8_numbers_73 : decode cX8_numbers 73 = .ok (.iload_n 2, 1) := by decide +kernel
theorem dX8_numbers_74 : decode cX8_numbers 74 = .ok (.iaload, 1) := by decide +kernel
theorem dX8_numbers_75 : decode cX8_numbers 75 = .ok (.iload 4, 2) := by decide +kernel
theorem dX8_numbers_77 : decode cX8_numbers 77 = .ok (.invokevirtual 131, 3) := by decide +kernel
theorem dX8_numbers_80 : decode cX8_numbers 80 = .ok (.goto 45, 3) := by decide +kernel
theorem dX8_numbers_83 : decode cX8_numbers 83 = .ok (.aload_n 0, 1) := by decide +kernel
theorem dX8_numbers_84 : decode cX8_numbers 84 = .ok (.getfield 16, 3) := by decide +kernel
theorem dX8_numbers_87 : decode cX8_numbers 87 = .ok (.iload_n 2, 1) := by decide +kernel
theorem dX8_numbers_88 : decode cX8_numbers 88 = .ok (.aload_n 0, 1) := by decide +kernel
theorem dX8_numbers_89 : decode cX8_numbers 89 = .ok (.iload 5, 2) := by decide +kernel
theorem dX8_numbers_91 : decode cX8_numbers 91 = .ok (.bipush 10, 2) := by decide +kernel
theorem dX8_numbers_93 : decode cX8_numbers 93 = .ok (.if_icmp .ne 17, 3) := by decide +kernel
theorem dX8_numbers_96 : decode cX8_numbers 96 = .ok (.aload_n 0, 1) := by decide +kernel
theorem dX8_numbers_97 : decode cX8_numbers 97 = .ok (.getfield 16, 3) := by decide +kernel
theorem dX8_numbers_100 : decode cX8_numbers 100 = .ok (.iload_n 2, 1) := by decide +kernel
theorem dX8_numbers_101 : decode cX8_numbers 101 = .ok (.iaload, 1) := by decide +kernel
theorem dX8_numbers_102 : decode cX8_numbers 102 = .ok (.i2l, 1) := by decide +kernel
theorem dX8_numbers_103 : decode cX8_numbers 103 = .ok (.iload 4, 2) := by decide +kernel
theorem dX8_numbers_105 : decode cX8_numbers 105 = .ok (.i2l, 1) := by decide +kernel
theorem dX8_numbers_106 : decode cX8_numbers 106 = .ok (.ladd, 1) := by decide +kernel
theorem dX8_numbers_107 : decode cX8_numbers 107 = .ok (.goto 14, 3) := by decide +kernel
theorem dX8_numbers_110 : decode cX8_numbers 110 = .ok (.aload_n 0, 1) := by decide +kernel
theorem dX8_numbers_111 : decode cX8_numbers 111 = .ok (.getfield 16, 3) := by decide +kernel
theorem dX8_numbers_114 : decode cX8_numbers 114 = .ok (.iload_n 2, 1) := by decide +kernel
theorem dX8_numbers_115 : decode cX8_numbers 115 = .ok (.iaload, 1) := by decide +kernel
theorem dX8_numbers_116 : decode cX8_numbers 116 = .ok (.i2l, 1) := by decide +kernel
theorem dX8_numbers_117 : decode cX8_numbers 117 = .ok (.iload 4, 2) := by decide +kernel
theorem dX8_numbers_119 : decode cX8_numbers 119 = .ok (.i2l, 1) := by decide +kernel
theorem dX8_numbers_120 : decode cX8_numbers 120 = .ok (.lsub, 1) := by decide +kernel
theorem dX8_numbers_121 : decode cX8_numbers 121 = .ok (.invokevirtual 135, 3) := by decide +kernel
theorem dX8_numbers_124 : decode cX8_numbers 124 = .ok (.iastore, 1) := by decide +kernel
theorem dX8_numbers_125 : decode cX8_numbers 125 = .ok (.return_, 1) := by decide +kernel
theorem dX8_ways_0 : decode cX8_ways 0 = .ok (.iload_n 1, 1) := by decide +kernel
theorem dX8_ways_1 : decode cX8_ways 1 = .ok (.bipush 65, 2) := by decide +kernel
theorem dX8_ways_3 : decode cX8_ways 3 = .ok (.if_icmp .ne 13, 3) := by decide +kernel
theorem dX8_ways_6 : decode cX8_ways 6 = .ok (.aload_n 0, 1) := by decide +kernel
theorem dX8_ways_7 : decode cX8_ways 7 = .ok (.getfield 16, 3) := by decide +kernel
theorem dX8_ways_10 : decode cX8_ways 10 = .ok (.iload_n 2, 1) := by decide +kernel
theorem dX8_ways_11 : decode cX8_ways 11 = .ok (.iload_n 3, 1) := by decide +kernel
theorem dX8_ways_12 : decode cX8_ways 12 = .ok (.iastore, 1) := by decide +kernel
theorem dX8_ways_13 : decode cX8_ways 13 = .ok (.goto 77, 3) := by decide +kernel
theorem dX8_ways_16 : decode cX8_ways 16 = .ok (.iload_n 1, 1) := by decide +kernel
theorem dX8_ways_17 : decode cX8_ways 17 = .ok (.bipush 71, 2) := by decide +kernel
theorem dX8_ways_19 : decode cX8_ways 19 = .ok (.if_icmp .ne 19, 3) := by decide +kernel
theorem dX8_ways_22 : decode cX8_ways 22 = .ok (.aload_n 0, 1) := by decide +kernel
theorem dX8_ways_23 : decode cX8_ways 23 = .ok (.iload_n 2, 1) := by decide +kernel
theorem dX8_ways_24 : decode cX8_ways 24 = .ok (.invokevirtual 145, 3) := by decide +kernel
theorem dX8_ways_27 : decode cX8_ways 27 = .ok (.ifCond .eq 63, 3) := by decide +kernel
theorem dX8_ways_30 : decode cX8_ways 30 = .ok (.aload_n 0, 1) := by decide +kernel
theorem dX8_ways_31 : decode cX8_ways 31 = .ok (.iload_n 3, 1) := by decide +kernel
theorem dX8_ways_32 : decode cX8_ways 32 = .ok (.invokevirtual 142, 3) := by decide +kernel
theorem dX8_ways_35 : decode cX8_ways 35 = .ok (.goto 55, 3) := by decide +kernel
theorem dX8_ways_38 : decode cX8_ways 38 = .ok (.iload_n 1, 1) := by decide +kernel
theorem dX8_ways_39 : decode cX8_ways 39 = .ok (.bipush 69, 2) := by decide +kernel
theorem dX8_ways_41 : decode cX8_ways 41 = .ok (.if_icmp .ne 21, 3) := by decide +kernel
theorem dX8_ways_44 : decode cX8_ways 44 = .ok (.aload_n 0, 1) := by decide +kernel
theorem dX8_ways_45 : decode cX8_ways 45 = .ok (.getfield 16, 3) := by decide +kernel
theorem dX8_ways_48 : decode cX8_ways 48 = .ok (.iload_n 2, 1) := by decide +kernel
theorem dX8_ways_49 : decode cX8_ways 49 = .ok (.aload_n 0, 1) := by decide +kernel
theorem dX8_ways_50 : decode cX8_ways 50 = .ok (.getfield 59, 3) := by decide +kernel
theorem dX8_ways_53 : decode cX8_ways 53 = .ok (.iastore, 1) := by decide +kernel
theorem dX8_ways_54 : decode cX8_ways 54 = .ok (.aload_n 0, 1) := by decide +kernel
theorem dX8_ways_55 : decode cX8_ways 55 = .ok (.iload_n 3, 1) := by decide +kernel
theorem dX8_ways_56 : decode cX8_ways 56 = .ok (.invokevirtual 142, 3) := by decide +kernel
theorem dX8_ways_59 : decode cX8_ways 59 = .ok (.goto 31, 3) := by decide +kernel
theorem dX8_ways_62 : decode cX8_ways 62 = .ok (.aload_n 0, 1) := by decide +kernel
theorem dX8_ways_63 : decode cX8_ways 63 = .ok (.getfield 16, 3) := by decide +kernel
theorem dX8_ways_66 : decode cX8_ways 66 = .ok (.iload_n 2, 1) := by decide +kernel
theorem dX8_ways_67 : decode cX8_ways 67 = .ok (.aload_n 0, 1) := by decide +kernel
theorem dX8_ways_68 : decode cX8_ways 68 = .ok (.getfield 16, 3) := by decide +kernel
theorem dX8_ways_71 : decode cX8_ways 71 = .ok (.iload_n 2, 1) := by decide +kernel
theorem dX8_ways_72 : decode cX8_ways 72 = .ok (.iaload, 1) := by decide +kernel
theorem dX8_ways_73 : decode cX8_ways 73 = .ok (.iconst 1, 1) := by decide +kernel
theorem dX8_ways_74 : decode cX8_ways 74 = .ok (.isub, 1) := by decide +kernel
theorem dX8_ways_75 : decode cX8_ways 75 = .ok (.iastore, 1) := by decide +kernel
theorem dX8_ways_76 : decode cX8_ways 76 = .ok (.aload_n 0, 1) := by decide +kernel
theorem dX8_ways_77 : decode cX8_ways 77 = .ok (.getfield 16, 3) := by decide +kernel
theorem dX8_ways_80 : decode cX8_ways 80 = .ok (.iload_n 2, 1) := by decide +kernel
theorem dX8_ways_81 : decode cX8_ways 81 = .ok (.iaload, 1) := by decide +kernel
theorem dX8_ways_82 : decode cX8_ways 82 = .ok (.ifCond .eq 8, 3) := by decide +kernel
theorem dX8_ways_85 : decode cX8_ways 85 = .ok (.aload_n 0, 1) := by decide +kernel
theorem dX8_ways_86 : decode cX8_ways 86 = .ok (.iload_n 3, 1) := by decide +kernel
theorem dX8_ways_87 : decode cX8_ways 87 = .ok (.invokevirtual 142, 3) := by decide +kernel
theorem dX8_ways_90 : decode cX8_ways 90 = .ok (.return_, 1) := by decide +kernel
theorem dX8_toBinary_0 : decode cX8_toBinary 0 = .ok (.aload_n 0, 1) := by decide +kernel
theorem dX8_toBinary_1 : decode cX8_toBinary 1 = .ok (.aload_n 0, 1) := by decide +kernel
theorem dX8_toBinary_2 : decode cX8_toBinary 2 = .ok (.aload_n 0, 1) := by decide +kernel
theorem dX8_toBinary_3 : decode cX8_toBinary 3 = .ok (.getfield 31, 3) := by decide +kernel
theorem dX8_toBinary_6 : decode cX8_toBinary 6 = .ok (.iload_n 2, 1) := by decide +kernel
theorem dX8_toBinary_7 : decode cX8_toBinary 7 = .ok (.bipush 8, 2) := by decide +kernel
theorem dX8_toBinary_9 : decode cX8_toBinary 9 = .ok (.invokevirtual 180, 3) := by decide +kernel
theorem dX8_toBinary_12 : decode cX8_toBinary 12 = .ok (.ifCond .ne 7, 3) := by decide +kernel
theorem dX8_toBinary_15 : decode cX8_toBinary 15 = .ok (.iconst 1, 1) := by decide +kernel
theorem dX8_toBinary_16 : decode cX8_toBinary 16 = .ok (.goto 4, 3) := by decide +kernel
theorem dX8_toBinary_19 : decode cX8_toBinary 19 = .ok (.iconst 0, 1) := by decide +kernel
theorem dX8_toBinary_20 : decode cX8_toBinary 20 = .ok (.bipush 7, 2) := by decide +kernel
theorem dX8_toBinary_22 : decode cX8_toBinary 22 = .ok (.invokevirtual 42, 3) := by decide +kernel
theorem dX8_toBinary_25 : decode cX8_toBinary 25 = .ok (.lconst 0, 1) := by decide +kernel
theorem dX8_toBinary_26 : decode cX8_toBinary 26 = .ok (.lstore_n 3, 1) := by decide +kernel
theorem dX8_toBinary_27 : decode cX8_toBinary 27 = .ok (.bipush 14, 2) := by decide +kernel
theorem dX8_toBinary_29 : decode cX8_toBinary 29 = .ok (.istore 5, 2) := by decide +kernel
theorem dX8_toBinary_31 : decode cX8_toBinary 31 = .ok (.iload 5, 2) := by decide +kernel
theorem dX8_toBinary_33 : decode cX8_toBinary 33 = .ok (.ifCond .lt 24, 3) := by decide +kernel
theorem dX8_toBinary_36 : decode cX8_toBinary 36 = .ok (.ldc2_w 184, 3) := by decide +kernel
theorem dX8_toBinary_39 : decode cX8_toBinary 39 = .ok (.lload_n 3, 1) := by decide +kernel
theorem dX8_toBinary_40 : decode cX8_toBinary 40 = .ok (.lmul, 1) := by decide +kernel
theorem dX8_toBinary_41 : decode cX8_toBinary 41 = .ok (.aload_n 0, 1) := by decide +kernel
theorem dX8_toBinary_42 : decode cX8_toBinary 42 = .ok (.getfield 31, 3) := by decide +kernel
theorem dX8_toBinary_45 : decode cX8_toBinary 45 = .ok (.iload 5, 2) := by decide +kernel
theorem dX8_toBinary_47 : decode cX8_toBinary 47 = .ok (.iaload, 1) := by decide +kernel
theorem dX8_toBinary_48 : decode cX8_toBinary 48 = .ok (.i2l, 1) := by decide +kernel
theorem dX8_toBinary_49 : decode cX8_toBinary 49 = .ok (.ladd, 1) := by decide +kernel
theorem dX8_toBinary_50 : decode cX8_toBinary 50 = .ok (.lstore_n 3, 1) := by decide +kernel
theorem dX8_toBinary_51 : decode cX8_toBinary 51 = .ok (.iinc 5 (-1), 3) := by decide +kernel
theorem dX8_toBinary_54 : decode cX8_toBinary 54 = .ok (.goto (-23), 3) := by decide +kernel
theorem dX8_toBinary_57 : decode cX8_toBinary 57 = .ok (.aload_n 0, 1) := by decide +kernel
theorem dX8_toBinary_58 : decode cX8_toBinary 58 = .ok (.lload_n 3, 1) := by decide +kernel
theorem dX8_toBinary_59 : decode cX8_toBinary 59 = .ok (.ldc2_w 151, 3) := by decide +kernel
theorem dX8_toBinary_62 : decode cX8_toBinary 62 = .ok (.lcmp, 1) := by decide +kernel
theorem dX8_toBinary_63 : decode cX8_toBinary 63 = .ok (.ifCond .gt 11, 3) := by decide +kernel
theorem dX8_toBinary_66 : decode cX8_toBinary 66 = .ok (.lload_n 3, 1) := by decide +kernel
theorem dX8_toBinary_67 : decode cX8_toBinary 67 = .ok (.ldc2_w 153, 3) := by decide +kernel
theorem dX8_toBinary_70 : decode cX8_toBinary 70 = .ok (.lcmp, 1) := by decide +kernel
theorem dX8_toBinary_71 : decode cX8_toBinary 71 = .ok (.ifCond .ge 7, 3) := by decide +kernel
theorem dX8_toBinary_74 : decode cX8_toBinary 74 = .ok (.iconst 1, 1) := by decide +kernel
theorem dX8_toBinary_75 : decode cX8_toBinary 75 = .ok (.goto 4, 3) := by decide +kernel
theorem dX8_toBinary_78 : decode cX8_toBinary 78 = .ok (.iconst 0, 1) := by decide +kernel
theorem dX8_toBinary_79 : decode cX8_toBinary 79 = .ok (.bipush 9, 2) := by decide +kernel
theorem dX8_toBinary_81 : decode cX8_toBinary 81 = .ok (.invokevirtual 42, 3) := by decide +kernel
theorem dX8_toBinary_84 : decode cX8_toBinary 84 = .ok (.aload_n 0, 1) := by decide +kernel
theorem dX8_toBinary_85 : decode cX8_toBinary 85 = .ok (.getfield 38, 3) := by decide +kernel
theorem dX8_toBinary_88 : decode cX8_toBinary 88 = .ok (.ifCond .ne 11, 3) := by decide +kernel
theorem dX8_toBinary_91 : decode cX8_toBinary 91 = .ok (.aload_n 0, 1) := by decide +kernel
theorem dX8_toBinary_92 : decode cX8_toBinary 92 = .ok (.getfield 16, 3) := by decide +kernel
theorem dX8_toBinary_95 : decode cX8_toBinary 95 = .ok (.iload_n 1, 1) := by decide +kernel
theorem dX8_toBinary_96 : decode cX8_toBinary 96 = .ok (.lload_n 3, 1) := by decide +kernel
theorem dX8_toBinary_97 : decode cX8_toBinary 97 = .ok (.l2i, 1) := by decide +kernel
theorem dX8_toBinary_98 : decode cX8_toBinary 98 = .ok (.iastore, 1) := by decide +kernel
theorem dX8_toBinary_99 : decode cX8_toBinary 99 = .ok (.return_, 1) := by decide +kernel
theorem dX8_doStored_0 : decode cX8_doStored 0 = .ok (.iload_n 2, 1) := by decide +kernel
theorem dX8_doStored_1 : decode cX8_doStored 1 = .ok (.bipush 16, 2) := by decide +kernel
theorem dX8_doStored_3 : decode cX8_doStored 3 = .ok (.idiv, 1) := by decide +kernel
theorem dX8_doStored_4 : decode cX8_doStored 4 = .ok (.istore 4, 2) := by decide +kernel
theorem dX8_doStored_6 : decode cX8_doStored 6 = .ok (.iload_n 3, 1) := by decide +kernel
theorem dX8_doStored_7 : decode cX8_doStored 7 = .ok (.bipush 63, 2) := by decide +kernel
theorem dX8_doStored_9 : decode cX8_doStored 9 = .ok (.iand, 1) := by decide +kernel
theorem dX8_doStored_10 : decode cX8_doStored 10 = .ok (.istore 5, 2) := by decide +kernel
theorem dX8_doStored_12 : decode cX8_doStored 12 = .ok (.iload_n 1, 1) := by decide +kernel
theorem dX8_doStored_13 : decode cX8_doStored 13 = .ok (.sipush 135, 3) := by decide +kernel
theorem dX8_doStored_16 : decode cX8_doStored 16 = .ok (.if_icmp .le 110, 3) := by decide +kernel
theorem dX8_doStored_19 : decode cX8_doStored 19 = .ok (.iload_n 1, 1) := by decide +kernel
theorem dX8_doStored_20 : decode cX8_doStored 20 = .ok (.sipush 139, 3) := by decide +kernel
theorem dX8_doStored_23 : decode cX8_doStored 23 = .ok (.if_icmp .ge 103, 3) := by decide +kernel
theorem dX8_doStored_26 : decode cX8_doStored 26 = .ok (.aload_n 0, 1) := by decide +kernel
theorem dX8_doStored_27 : decode cX8_doStored 27 = .ok (.getfield 16, 3) := by decide +kernel
theorem dX8_doStored_30 : decode cX8_doStored 30 = .ok (.iload 4, 2) := by decide +kernel
theorem dX8_doStored_32 : decode cX8_doStored 32 = .ok (.iaload, 1) := by decide +kernel
theorem dX8_doStored_33 : decode cX8_doStored 33 = .ok (.istore 6, 2) := by decide +kernel
theorem dX8_doStored_35 : decode cX8_doStored 35 = .ok (.iload 5, 2) := by decide +kernel
theorem dX8_doStored_37 : decode cX8_doStored 37 = .ok (.bipush 31, 2) := by decide +kernel
theorem dX8_doStored_39 : decode cX8_doStored 39 = .ok (.if_icmp .le 8, 3) := by decide +kernel
theorem dX8_doStored_42 : decode cX8_doStored 42 = .ok (.bipush 31, 2) := by decide +kernel
theorem dX8_doStored_44 : decode cX8_doStored 44 = .ok (.goto 5, 3) := by decide +kernel
theorem dX8_doStored_47 : decode cX8_doStored 47 = .ok (.iload 5, 2) := by decide +kernel
theorem dX8_doStored_49 : decode cX8_doStored 49 = .ok (.istore 7, 2) := by decide +kernel
theorem dX8_doStored_51 : decode cX8_doStored 51 = .ok (.aload_n 0, 1) := by decide +kernel
theorem dX8_doStored_52 : decode cX8_doStored 52 = .ok (.getfield 16, 3) := by decide +kernel
theorem dX8_doStored_55 : decode cX8_doStored 55 = .ok (.iload 4, 2) := by decide +kernel
theorem dX8_doStored_57 : decode cX8_doStored 57 = .ok (.iload_n 1, 1) := by decide +kernel
theorem dX8_doStored_58 : decode cX8_doStored 58 = .ok (.sipush 138, 3) := by decide +kernel
theorem dX8_doStored_61 : decode cX8_doStored 61 = .ok (.if_icmp .ne 11, 3) := by decide +kernel
theorem dX8_doStored_64 : decode cX8_doStored 64 = .ok (.iload 6, 2) := by decide +kernel
theorem dX8_doStored_66 : decode cX8_doStored 66 = .ok (.iload 7, 2) := by decide +kernel
theorem dX8_doStored_68 : decode cX8_doStored 68 = .ok (.ishr, 1) := by decide +kernel
theorem dX8_doStored_69 : decode cX8_doStored 69 = .ok (.goto 34, 3) := by decide +kernel
theorem dX8_doStored_72 : decode cX8_doStored 72 = .ok (.iload 5, 2) := by decide +kernel
theorem dX8_doStored_74 : decode cX8_doStored 74 = .ok (.bipush 31, 2) := by decide +kernel
theorem dX8_doStored_76 : decode cX8_doStored 76 = .ok (.if_icmp .le 7, 3) := by decide +kernel
theorem dX8_doStored_79 : decode cX8_doStored 79 = .ok (.iconst 0, 1) := by decide +kernel
theorem dX8_doStored_80 : decode cX8_doStored 80 = .ok (.goto 23, 3) := by decide +kernel
theorem dX8_doStored_83 : decode cX8_doStored 83 = .ok (.iload_n 1, 1) := by decide +kernel
theorem dX8_doStored_84 : decode cX8_doStored 84 = .ok (.sipush 136, 3) := by decide +kernel
theorem dX8_doStored_87 : decode cX8_doStored 87 = .ok (.if_icmp .ne 11, 3) := by decide +kernel
theorem dX8_doStored_90 : decode cX8_doStored 90 = .ok (.iload 6, 2) := by decide +kernel
theorem dX8_doStored_92 : decode cX8_doStored 92 = .ok (.iload 5, 2) := by decide +kernel
theorem dX8_doStored_94 : decode cX8_doStored 94 = .ok (.iushr, 1) := by decide +kernel
theorem dX8_doStored_95 : decode cX8_doStored 95 = .ok (.goto 8, 3) := by decide +kernel
theorem dX8_doStored_98 : decode cX8_doStored 98 = .ok (.iload 6, 2) := by decide +kernel
theorem dX8_doStored_100 : decode cX8_doStored 100 = .ok (.iload 5, 2) := by decide +kernel
theorem dX8_doStored_102 : decode cX8_doStored 102 = .ok (.ishl, 1) := by decide +kernel
theorem dX8_doStored_103 : decode cX8_doStored 103 = .ok (.iastore, 1) := by decide +kernel
theorem dX8_doStored_104 : decode cX8_doStored 104 = .ok (.iload_n 1, 1) := by decide +kernel
theorem dX8_doStored_105 : decode cX8_doStored 105 = .ok (.sipush 138, 3) := by decide +kernel
theorem dX8_doStored_108 : decode cX8_doStored 108 = .ok (.if_icmp .ne 15, 3) := by decide +kernel
theorem dX8_doStored_111 : decode cX8_doStored 111 = .ok (.aload_n 0, 1) := by decide +kernel
theorem dX8_doStored_112 : decode cX8_doStored 112 = .ok (.aload_n 0, 1) := by decide +kernel
theorem dX8_doStored_113 : decode cX8_doStored 113 = .ok (.getfield 16, 3) := by decide +kernel
theorem dX8_doStored_116 : decode cX8_doStored 116 = .ok (.iload 4, 2) := by decide +kernel
theorem dX8_doStored_118 : decode cX8_doStored 118 = .ok (.iaload, 1) := by decide +kernel
theorem dX8_doStored_119 : decode cX8_doStored 119 = .ok (.i2l, 1) := by decide +kernel
theorem dX8_doStored_120 : decode cX8_doStored 120 = .ok (.invokevirtual 120, 3) := by decide +kernel
theorem dX8_doStored_123 : decode cX8_doStored 123 = .ok (.goto 200, 3) := by decide +kernel
theorem dX8_doStored_126 : decode cX8_doStored 126 = .ok (.iload_n 1, 1) := by decide +kernel
theorem dX8_doStored_127 : decode cX8_doStored 127 = .ok (.sipush 144, 3) := by decide +kernel
theorem dX8_doStored_130 : decode cX8_doStored 130 = .ok (.if_icmp .eq 10, 3) := by decide +kernel
theorem dX8_doStored_133 : decode cX8_doStored 133 = .ok (.iload_n 1, 1) := by decide +kernel
theorem dX8_doStored_134 : decode cX8_doStored 134 = .ok (.sipush 152, 3) := by decide +kernel
theorem dX8_doStored_137 : decode cX8_doStored 137 = .ok (.if_icmp .ne 40, 3) := by decide +kernel
theorem dX8_doStored_140 : decode cX8_doStored 140 = .ok (.aload_n 0, 1) := by decide +kernel
theorem dX8_doStored_141 : decode cX8_doStored 141 = .ok (.iload_n 1, 1) := by decide +kernel
theorem dX8_doStored_142 : decode cX8_doStored 142 = .ok (.sipush 144, 3) := by decide +kernel
theorem dX8_doStored_145 : decode cX8_doStored 145 = .ok (.if_icmp .ne 7, 3) := by decide +kernel
theorem dX8_doStored_148 : decode cX8_doStored 148 = .ok (.iconst 1, 1) := by decide +kernel
theorem dX8_doStored_149 : decode cX8_doStored 149 = .ok (.goto 4, 3) := by decide +kernel
theorem dX8_doStored_152 : decode cX8_doStored 152 = .ok (.iconst 0, 1) := by decide +kernel
theorem dX8_doStored_153 : decode cX8_doStored 153 = .ok (.iload 4, 2) := by decide +kernel
theorem dX8_doStored_155 : decode cX8_doStored 155 = .ok (.iload_n 2, 1) := by decide +kernel
theorem dX8_doStored_156 : decode cX8_doStored 156 = .ok (.bipush 16, 2) := by decide +kernel
theorem dX8_doStored_158 : decode cX8_doStored 158 = .ok (.irem, 1) := by decide +kernel
theorem dX8_doStored_159 : decode cX8_doStored 159 = .ok (.iload 4, 2) := by decide +kernel
theorem dX8_doStored_161 : decode cX8_doStored 161 = .ok (.isub, 1) := by decide +kernel
theorem dX8_doStored_162 : decode cX8_doStored 162 = .ok (.bipush 16, 2) := by decide +kernel
theorem dX8_doStored_164 : decode cX8_doStored 164 = .ok (.iadd, 1) := by decide +kernel
theorem dX8_doStored_165 : decode cX8_doStored 165 = .ok (.bipush 16, 2) := by decide +kernel
theorem dX8_doStored_167 : decode cX8_doStored 167 = .ok (.irem, 1) := by decide +kernel
theorem dX8_doStored_168 : decode cX8_doStored 168 = .ok (.iconst 1, 1) := by decide +kernel
theorem dX8_doStored_169 : decode cX8_doStored 169 = .ok (.iadd, 1) := by decide +kernel
theorem dX8_doStored_170 : decode cX8_doStored 170 = .ok (.iload_n 3, 1) := by decide +kernel
theorem dX8_doStored_171 : decode cX8_doStored 171 = .ok (.invokevirtual 186, 3) := by decide +kernel
theorem dX8_doStored_174 : decode cX8_doStored 174 = .ok (.goto 149, 3) := by decide +kernel
theorem dX8_doStored_177 : decode cX8_doStored 177 = .ok (.iload_n 1, 1) := by decide +kernel
theorem dX8_doStored_178 : decode cX8_doStored 178 = .ok (.sipush 130, 3) := by decide +kernel
theorem dX8_doStored_181 : decode cX8_doStored 181 = .ok (.if_icmp .ne 24, 3) := by decide +kernel
theorem dX8_doStored_184 : decode cX8_doStored 184 = .ok (.aload_n 0, 1) := by decide +kernel
theorem dX8_doStored_185 : decode cX8_doStored 185 = .ok (.iload_n 3, 1) := by decide +kernel
theorem dX8_doStored_186 : decode cX8_doStored 186 = .ok (.bipush 8, 2) := by decide +kernel
theorem dX8_doStored_188 : decode cX8_doStored 188 = .ok (.bipush 8, 2) := by decide +kernel
theorem dX8_doStored_190 : decode cX8_doStored 190 = .ok (.iconst 0, 1) := by decide +kernel
theorem dX8_doStored_191 : decode cX8_doStored 191 = .ok (.invokevirtual 158, 3) := by decide +kernel
theorem dX8_doStored_194 : decode cX8_doStored 194 = .ok (.ifCond .eq 129, 3) := by decide +kernel
theorem dX8_doStored_197 : decode cX8_doStored 197 = .ok (.aload_n 0, 1) := by decide +kernel
theorem dX8_doStored_198 : decode cX8_doStored 198 = .ok (.iload_n 3, 1) := by decide +kernel
theorem dX8_doStored_199 : decode cX8_doStored 199 = .ok (.invokevirtual 62, 3) := by decide +kernel
theorem dX8_doStored_202 : decode cX8_doStored 202 = .ok (.goto 121, 3) := by decide +kernel
theorem dX8_doStored_205 : decode cX8_doStored 205 = .ok (.iload_n 1, 1) := by decide +kernel
theorem dX8_doStored_206 : decode cX8_doStored 206 = .ok (.sipush 156, 3) := by decide +kernel
theorem dX8_doStored_209 : decode cX8_doStored 209 = .ok (.if_icmp .ne 11, 3) := by decide +kernel
theorem dX8_doStored_212 : decode cX8_doStored 212 = .ok (.aload_n 0, 1) := by decide +kernel
theorem dX8_doStored_213 : decode cX8_doStored 213 = .ok (.iload_n 2, 1) := by decide +kernel
theorem dX8_doStored_214 : decode cX8_doStored 214 = .ok (.invokevirtual 190, 3) := by decide +kernel
theorem dX8_doStored_217 : decode cX8_doStored 217 = .ok (.goto 106, 3) := by decide +kernel
theorem dX8_doStored_220 : decode cX8_doStored 220 = .ok (.iload_n 1, 1) := by decide +kernel
theorem dX8_doStored_221 : decode cX8_doStored 221 = .ok (.sipush 157, 3) := by decide +kernel
theorem dX8_doStored_224 : decode cX8_doStored 224 = .ok (.if_icmp .ne 56, 3) := by decide +kernel
theorem dX8_doStored_227 : decode cX8_doStored 227 = .ok (.aload_n 0, 1) := by decide +kernel
theorem dX8_doStored_228 : decode cX8_doStored 228 = .ok (.aload_n 0, 1) := by decide +kernel
theorem dX8_doStored_229 : decode cX8_doStored 229 = .ok (.getfield 193, 3) := by decide +kernel
theorem dX8_doStored_232 : decode cX8_doStored 232 = .ok (.ifCond .eq 7, 3) := by decide +kernel
theorem dX8_doStored_235 : decode cX8_doStored 235 = .ok (.iconst 2, 1) := by decide +kernel
theorem dX8_doStored_236 : decode cX8_doStored 236 = .ok (.goto 15, 3) := by decide +kernel
theorem dX8_doStored_239 : decode cX8_doStored 239 = .ok (.aload_n 0, 1) := by decide +kernel
theorem dX8_doStored_240 : decode cX8_doStored 240 = .ok (.getfield 80, 3) := by decide +kernel
theorem dX8_doStored_243 : decode cX8_doStored 243 = .ok (.ifCond .eq 7, 3) := by decide +kernel
theorem dX8_doStored_246 : decode cX8_doStored 246 = .ok (.iconst 1, 1) := by decide +kernel
theorem dX8_doStored_247 : decode cX8_doStored 247 = .ok (.goto 4, 3) := by decide +kernel
theorem dX8_doStored_250 : decode cX8_doStored 250 = .ok (.iconst 0, 1) := by decide +kernel
theorem dX8_doStored_251 : decode cX8_doStored 251 = .ok (.putfield 52, 3) := by decide +kernel
theorem dX8_doStored_254 : decode cX8_doStored 254 = .ok (.aload_n 0, 1) := by decide +kernel
theorem dX8_doStored_255 : decode cX8_doStored 255 = .ok (.aload_n 0, 1) := by decide +kernel
theorem dX8_doStored_256 : decode cX8_doStored 256 = .ok (.getfield 193, 3) := by decide +kernel
theorem dX8_doStored_259 : decode cX8_doStored 259 = .ok (.ifCond .eq 14, 3) := by decide +kernel
theorem dX8_doStored_262 : decode cX8_doStored 262 = .ok (.aload_n 0, 1) := by decide +kernel
theorem dX8_doStored_263 : decode cX8_doStored 263 = .ok (.getfield 80, 3) := by decide +kernel
theorem dX8_doStored_266 : decode cX8_doStored 266 = .ok (.ifCond .eq 7, 3) := by decide +kernel
theorem dX8_doStored_269 : decode cX8_doStored 269 = .ok (.iconst 1, 1) := by decide +kernel
theorem dX8_doStored_270 : decode cX8_doStored 270 = .ok (.goto 4, 3) := by decide +kernel
theorem dX8_doStored_273 : decode cX8_doStored 273 = .ok (.iconst 0, 1) := by decide +kernel
theorem dX8_doStored_274 : decode cX8_doStored 274 = .ok (.putfield 80, 3) := by decide +kernel
theorem dX8_doStored_277 : decode cX8_doStored 277 = .ok (.goto 46, 3) := by decide +kernel
theorem dX8_doStored_280 : decode cX8_doStored 280 = .ok (.aload_n 0, 1) := by decide +kernel
theorem dX8_doStored_281 : decode cX8_doStored 281 = .ok (.iload_n 3, 1) := by decide +kernel
theorem dX8_doStored_282 : decode cX8_doStored 282 = .ok (.iconst 1, 1) := by decide +kernel
theorem dX8_doStored_283 : decode cX8_doStored 283 = .ok (.iconst 1, 1) := by decide +kernel
theorem dX8_doStored_284 : decode cX8_doStored 284 = .ok (.iload_n 1, 1) := by decide +kernel
theorem dX8_doStored_285 : decode cX8_doStored 285 = .ok (.sipush 146, 3) := by decide +kernel
theorem dX8_doStored_288 : decode cX8_doStored 288 = .ok (.if_icmp .eq 17, 3) := by decide +kernel
theorem dX8_doStored_291 : decode cX8_doStored 291 = .ok (.iload_n 1, 1) := by decide +kernel
theorem dX8_doStored_292 : decode cX8_doStored 292 = .ok (.sipush 148, 3) := by decide +kernel
theorem dX8_doStored_295 : decode cX8_doStored 295 = .ok (.if_icmp .eq 10, 3) := by decide +kernel
theorem dX8_doStored_298 : decode cX8_doStored 298 = .ok (.iload_n 1, 1) := by decide +kernel
theorem dX8_doStored_299 : decode cX8_doStored 299 = .ok (.sipush 150, 3) := by decide +kernel
theorem dX8_doStored_302 : decode cX8_doStored 302 = .ok (.if_icmp .ne 7, 3) := by decide +kernel
theorem dX8_doStored_305 : decode cX8_doStored 305 = .ok (.iconst 1, 1) := by decide +kernel
theorem dX8_doStored_306 : decode cX8_doStored 306 = .ok (.goto 4, 3) := by decide +kernel
theorem dX8_doStored_309 : decode cX8_doStored 309 = .ok (.iconst 0, 1) := by decide +kernel
theorem dX8_doStored_310 : decode cX8_doStored 310 = .ok (.invokevirtual 158, 3) := by decide +kernel
