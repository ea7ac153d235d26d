theorem dX3_init_0 : decode cX3_init 0 = .ok (.aload_n 0, 1) := by decide +kernel
theorem dX3_init_1 : decode cX3_init 1 = .ok (.invokespecial 3, 3) := by decide +kernel
theorem dX3_init_4 : decode cX3_init 4 = .ok (.aload_n 0, 1) := by decide +kernel
theorem dX3_init_5 : decode cX3_init 5 = .ok (.new 9, 3) := by decide +kernel
theorem dX3_init_8 : decode cX3_init 8 = .ok (.dup, 1) := by decide +kernel
theorem dX3_init_9 : decode cX3_init 9 = .ok (.invokespecial 11, 3) := by decide +kernel
theorem dX3_init_12 : decode cX3_init 12 = .ok (.putfield 12, 3) := by decide +kernel
theorem dX3_init_15 : decode cX3_init 15 = .ok (.aload_n 0, 1) := by decide +kernel
theorem dX3_init_16 : decode cX3_init 16 = .ok (.new 18, 3) := by decide +kernel
theorem dX3_init_19 : decode cX3_init 19 = .ok (.dup, 1) := by decide +kernel
theorem dX3_init_20 : decode cX3_init 20 = .ok (.invokespecial 20, 3) := by decide +kernel
theorem dX3_init_23 : decode cX3_init 23 = .ok (.putfield 21, 3) := by decide +kernel
theorem dX3_init_26 : decode cX3_init 26 = .ok (.aload_n 0, 1) := by decide +kernel
theorem dX3_init_27 : decode cX3_init 27 = .ok (.new 25, 3) := by decide +kernel
theorem dX3_init_30 : decode cX3_init 30 = .ok (.dup, 1) := by decide +kernel
theorem dX3_init_31 : decode cX3_init 31 = .ok (.invokespecial 27, 3) := by decide +kernel
theorem dX3_init_34 : decode cX3_init 34 = .ok (.putfield 28, 3) := by decide +kernel
theorem dX3_init_37 : decode cX3_init 37 = .ok (.aload_n 0, 1) := by decide +kernel
theorem dX3_init_38 : decode cX3_init 38 = .ok (.bipush 16, 2) := by decide +kernel
theorem dX3_init_40 : decode cX3_init 40 = .ok (.newarray .int, 2) := by decide +kernel
theorem dX3_init_42 : decode cX3_init 42 = .ok (.putfield 32, 3) := by decide +kernel
theorem dX3_init_45 : decode cX3_init 45 = .ok (.aload_n 0, 1) := by decide +kernel
theorem dX3_init_46 : decode cX3_init 46 = .ok (.new 36, 3) := by decide +kernel
theorem dX3_init_49 : decode cX3_init 49 = .ok (.dup, 1) := by decide +kernel
theorem dX3_init_50 : decode cX3_init 50 = .ok (.invokespecial 38, 3) := by decide +kernel
theorem dX3_init_53 : decode cX3_init 53 = .ok (.putfield 39, 3) := by decide +kernel
theorem dX3_init_56 : decode cX3_init 56 = .ok (.aload_n 0, 1) := by decide +kernel
theorem dX3_init_57 : decode cX3_init 57 = .ok (.new 36, 3) := by decide +kernel
theorem dX3_init_60 : decode cX3_init 60 = .ok (.dup, 1) := by decide +kernel
theorem dX3_init_61 : decode cX3_init 61 = .ok (.invokespecial 38, 3) := by decide +kernel
theorem dX3_init_64 : decode cX3_init 64 = .ok (.putfield 43, 3) := by decide +kernel
theorem dX3_init_67 : decode cX3_init 67 = .ok (.return_, 1) := by decide +kernel
theorem dX3_register_0 : decode cX3_register 0 = .ok (.aload_n 0, 1) := by decide +kernel
theorem dX3_register_1 : decode cX3_register 1 = .ok (.getfield 32, 3) := by decide +kernel
theorem dX3_register_4 : decode cX3_register 4 = .ok (.iload_n 1, 1) := by decide +kernel
theorem dX3_register_5 : decode cX3_register 5 = .ok (.bipush 15, 2) := by decide +kernel
theorem dX3_register_7 : decode cX3_register 7 = .ok (.iand, 1) := by decide +kernel
theorem dX3_register_8 : decode cX3_register 8 = .ok (.iaload, 1) := by decide +kernel
theorem dX3_register_9 : decode cX3_register 9 = .ok (.ireturn, 1) := by decide +kernel
theorem dX3_putRegister_0 : decode cX3_putRegister 0 = .ok (.aload_n 0, 1) := by decide +kernel
theorem dX3_putRegister_1 : decode cX3_putRegister 1 = .ok (.getfield 32, 3) := by decide +kernel
theorem dX3_putRegister_4 : decode cX3_putRegister 4 = .ok (.iload_n 1, 1) := by decide +kernel
theorem dX3_putRegister_5 : decode cX3_putRegister 5 = .ok (.bipush 15, 2) := by decide +kernel
theorem dX3_putRegister_7 : decode cX3_putRegister 7 = .ok (.iand, 1) := by decide +kernel
theorem dX3_putRegister_8 : decode cX3_putRegister 8 = .ok (.iload_n 2, 1) := by decide +kernel
theorem dX3_putRegister_9 : decode cX3_putRegister 9 = .ok (.iastore, 1) := by decide +kernel
theorem dX3_putRegister_10 : decode cX3_putRegister 10 = .ok (.return_, 1) := by decide +kernel
theorem dX3_makeStep_0 : decode cX3_makeStep 0 = .ok (.aload_n 0, 1) := by decide +kernel
theorem dX3_makeStep_1 : decode cX3_makeStep 1 = .ok (.dup, 1) := by decide +kernel
theorem dX3_makeStep_2 : decode cX3_makeStep 2 = .ok (.getfield 46, 3) := by decide +kernel
theorem dX3_makeStep_5 : decode cX3_makeStep 5 = .ok (.iconst 1, 1) := by decide +kernel
theorem dX3_makeStep_6 : decode cX3_makeStep 6 = .ok (.iadd, 1) := by decide +kernel
theorem dX3_makeStep_7 : decode cX3_makeStep 7 = .ok (.putfield 46, 3) := by decide +kernel
theorem dX3_makeStep_10 : decode cX3_makeStep 10 = .ok (.aload_n 0, 1) := by decide +kernel
theorem dX3_makeStep_11 : decode cX3_makeStep 11 = .ok (.invokevirtual 50, 3) := by decide +kernel
theorem dX3_makeStep_14 : decode cX3_makeStep 14 = .ok (.ifCond .eq 4, 3) := by decide +kernel
theorem dX3_makeStep_17 : decode cX3_makeStep 17 = .ok (.return_, 1) := by decide +kernel
theorem dX3_makeStep_18 : decode cX3_makeStep 18 = .ok (.aload_n 0, 1) := by decide +kernel
theorem dX3_makeStep_19 : decode cX3_makeStep 19 = .ok (.invokevirtual 54, 3) := by decide +kernel
theorem dX3_makeStep_22 : decode cX3_makeStep 22 = .ok (.aload_n 0, 1) := by decide +kernel
theorem dX3_makeStep_23 : decode cX3_makeStep 23 = .ok (.invokevirtual 57, 3) := by decide +kernel
theorem dX3_makeStep_26 : decode cX3_makeStep 26 = .ok (.istore_n 1, 1) := by decide +kernel
theorem dX3_makeStep_27 : decode cX3_makeStep 27 = .ok (.iload_n 1, 1) := by decide +kernel
theorem dX3_makeStep_28 : decode cX3_makeStep 28 = .ok (.ifCond .ne 65, 3) := by decide +kernel
theorem dX3_makeStep_31 : decode cX3_makeStep 31 = .ok (.aload_n 0, 1) := by decide +kernel
theorem dX3_makeStep_32 : decode cX3_makeStep 32 = .ok (.getfield 61, 3) := by decide +kernel
theorem dX3_makeStep_35 : decode cX3_makeStep 35 = .ok (.bipush 6, 2) := by decide +kernel
theorem dX3_makeStep_37 : decode cX3_makeStep 37 = .ok (.ishr, 1) := by decide +kernel
theorem dX3_makeStep_38 : decode cX3_makeStep 38 = .ok (.tableswitch 50 0 2 #[26, 34, 42], 26) := by decide +kernel
theorem dX3_makeStep_64 : decode cX3_makeStep 64 = .ok (.aload_n 0, 1) := by decide +kernel
theorem dX3_makeStep_65 : decode cX3_makeStep 65 = .ok (.invokevirtual 64, 3) := by decide +kernel
theorem dX3_makeStep_68 : decode cX3_makeStep 68 = .ok (.istore_n 1, 1) := by decide +kernel
theorem dX3_makeStep_69 : decode cX3_makeStep 69 = .ok (.goto 24, 3) := by decide +kernel
theorem dX3_makeStep_72 : decode cX3_makeStep 72 = .ok (.aload_n 0, 1) := by decide +kernel
theorem dX3_makeStep_73 : decode cX3_makeStep 73 = .ok (.invokevirtual 67, 3) := by decide +kernel
theorem dX3_makeStep_76 : decode cX3_makeStep 76 = .ok (.istore_n 1, 1) := by decide +kernel
theorem dX3_makeStep_77 : decode cX3_makeStep 77 = .ok (.goto 16, 3) := by decide +kernel
theorem dX3_makeStep_80 : decode cX3_makeStep 80 = .ok (.aload_n 0, 1) := by decide +kernel
theorem dX3_makeStep_81 : decode cX3_makeStep 81 = .ok (.invokevirtual 70, 3) := by decide +kernel
theorem dX3_makeStep_84 : decode cX3_makeStep 84 = .ok (.istore_n 1, 1) := by decide +kernel
theorem dX3_makeStep_85 : decode cX3_makeStep 85 = .ok (.goto 8, 3) := by decide +kernel
theorem dX3_makeStep_88 : decode cX3_makeStep 88 = .ok (.aload_n 0, 1) := by decide +kernel
theorem dX3_makeStep_89 : decode cX3_makeStep 89 = .ok (.invokevirtual 73, 3) := by decide +kernel
theorem dX3_makeStep_92 : decode cX3_makeStep 92 = .ok (.istore_n 1, 1) := by decide +kernel
theorem dX3_makeStep_93 : decode cX3_makeStep 93 = .ok (.iload_n 1, 1) := by decide +kernel
theorem dX3_makeStep_94 : decode cX3_makeStep 94 = .ok (.ifCond .eq 27, 3) := by decide +kernel
theorem dX3_makeStep_97 : decode cX3_makeStep 97 = .ok (.aload_n 0, 1) := by decide +kernel
theorem dX3_makeStep_98 : decode cX3_makeStep 98 = .ok (.dup, 1) := by decide +kernel
theorem dX3_makeStep_99 : decode cX3_makeStep 99 = .ok (.getfield 76, 3) := by decide +kernel
theorem dX3_makeStep_102 : decode cX3_makeStep 102 = .ok (.iconst 1, 1) := by decide +kernel
theorem dX3_makeStep_103 : decode cX3_makeStep 103 = .ok (.iadd, 1) := by decide +kernel
theorem dX3_makeStep_104 : decode cX3_makeStep 104 = .ok (.putfield 76, 3) := by decide +kernel
theorem dX3_makeStep_107 : decode cX3_makeStep 107 = .ok (.aload_n 0, 1) := by decide +kernel
theorem dX3_makeStep_108 : decode cX3_makeStep 108 = .ok (.iload_n 1, 1) := by decide +kernel
theorem dX3_makeStep_109 : decode cX3_makeStep 109 = .ok (.putfield 79, 3) := by decide +kernel
theorem dX3_makeStep_112 : decode cX3_makeStep 112 = .ok (.aload_n 0, 1) := by decide +kernel
theorem dX3_makeStep_113 : decode cX3_makeStep 113 = .ok (.bipush 40, 2) := by decide +kernel
theorem dX3_makeStep_115 : decode cX3_makeStep 115 = .ok (.bipush 104, 2) := by decide +kernel
theorem dX3_makeStep_117 : decode cX3_makeStep 117 = .ok (.iload_n 1, 1) := by decide +kernel
theorem dX3_makeStep_118 : decode cX3_makeStep 118 = .ok (.invokevirtual 82, 3) := by decide +kernel
theorem dX3_makeStep_121 : decode cX3_makeStep 121 = .ok (.return_, 1) := by decide +kernel
theorem dX3_takeInterruption_0 : decode cX3_takeInterruption 0 = .ok (.aload_n 0, 1) := by decide +kernel
theorem dX3_takeInterruption_1 : decode cX3_takeInterruption 1 = .ok (.getfield 86, 3) := by decide +kernel
theorem dX3_takeInterruption_4 : decode cX3_takeInterruption 4 = .ok (.ifCond .eq 32, 3) := by decide +kernel
theorem dX3_takeInterruption_7 : decode cX3_takeInterruption 7 = .ok (.aload_n 0, 1) := by decide +kernel
theorem dX3_takeInterruption_8 : decode cX3_takeInterruption 8 = .ok (.getfield 21, 3) := by decide +kernel
theorem dX3_takeInterruption_11 : decode cX3_takeInterruption 11 = .ok (.iconst 1, 1) := by decide +kernel
theorem dX3_takeInterruption_12 : decode cX3_takeInterruption 12 = .ok (.invokevirtual 90, 3) := by decide +kernel
theorem dX3_takeInterruption_15 : decode cX3_takeInterruption 15 = .ok (.ifCond .eq 21, 3) := by decide +kernel
theorem dX3_takeInterruption_18 : decode cX3_takeInterruption 18 = .ok (.aload_n 0, 1) := by decide +kernel
theorem dX3_takeInterruption_19 : decode cX3_takeInterruption 19 = .ok (.iconst 0, 1) := by decide +kernel
theorem dX3_takeInterruption_20 : decode cX3_takeInterruption 20 = .ok (.putfield 86, 3) := by decide +kernel
theorem dX3_takeInterruption_23 : decode cX3_takeInterruption 23 = .ok (.aload_n 0, 1) := by decide +kernel
theorem dX3_takeInterruption_24 : decode cX3_takeInterruption 24 = .ok (.bipush 24, 2) := by decide +kernel
theorem dX3_takeInterruption_26 : decode cX3_takeInterruption 26 = .ok (.bipush 88, 2) := by decide +kernel
theorem dX3_takeInterruption_28 : decode cX3_takeInterruption 28 = .ok (.sipush 128, 3) := by decide +kernel
theorem dX3_takeInterruption_31 : decode cX3_takeInterruption 31 = .ok (.invokevirtual 82, 3) := by decide +kernel
theorem dX3_takeInterruption_34 : decode cX3_takeInterruption 34 = .ok (.iconst 1, 1) := by decide +kernel
theorem dX3_takeInterruption_35 : decode cX3_takeInterruption 35 = .ok (.ireturn, 1) := by decide +kernel
theorem dX3_takeInterruption_36 : decode cX3_takeInterruption 36 = .ok (.aload_n 0, 1) := by decide +kernel
theorem dX3_takeInterruption_37 : decode cX3_takeInterruption 37 = .ok (.getfield 28, 3) := by decide +kernel
theorem dX3_takeInterruption_40 : decode cX3_takeInterruption 40 = .ok (.getfield 94, 3) := by decide +kernel
theorem dX3_takeInterruption_43 : decode cX3_takeInterruption 43 = .ok (.ifCond .eq 39, 3) := by decide +kernel
theorem dX3_takeInterruption_46 : decode cX3_takeInterruption 46 = .ok (.aload_n 0, 1) := by decide +kernel
theorem dX3_takeInterruption_47 : decode cX3_takeInterruption 47 = .ok (.getfield 21, 3) := by decide +kernel
theorem dX3_takeInterruption_50 : decode cX3_takeInterruption 50 = .ok (.iconst 2, 1) := by decide +kernel
theorem dX3_takeInterruption_51 : decode cX3_takeInterruption 51 = .ok (.invokevirtual 90, 3) := by decide +kernel
theorem dX3_takeInterruption_54 : decode cX3_takeInterruption 54 = .ok (.ifCond .eq 28, 3) := by decide +kernel
theorem dX3_takeInterruption_57 : decode cX3_takeInterruption 57 = .ok (.aload_n 0, 1) := by decide +kernel
theorem dX3_takeInterruption_58 : decode cX3_takeInterruption 58 = .ok (.getfield 28, 3) := by decide +kernel
theorem dX3_takeInterruption_61 : decode cX3_takeInterruption 61 = .ok (.iconst 0, 1) := by decide +kernel
theorem dX3_takeInterruption_62 : decode cX3_takeInterruption 62 = .ok (.putfield 94, 3) := by decide +kernel
theorem dX3_takeInterruption_65 : decode cX3_takeInterruption 65 = .ok (.aload_n 0, 1) := by decide +kernel
theorem dX3_takeInterruption_66 : decode cX3_takeInterruption 66 = .ok (.bipush 56, 2) := by decide +kernel
theorem dX3_takeInterruption_68 : decode cX3_takeInterruption 68 = .ok (.bipush 120, 2) := by decide +kernel
theorem dX3_takeInterruption_70 : decode cX3_takeInterruption 70 = .ok (.aload_n 0, 1) := by decide +kernel
theorem dX3_takeInterruption_71 : decode cX3_takeInterruption 71 = .ok (.getfield 28, 3) := by decide +kernel
theorem dX3_takeInterruption_74 : decode cX3_takeInterruption 74 = .ok (.getfield 97, 3) := by decide +kernel
theorem dX3_takeInterruption_77 : decode cX3_takeInterruption 77 = .ok (.invokevirtual 82, 3) := by decide +kernel
theorem dX3_takeInterruption_80 : decode cX3_takeInterruption 80 = .ok (.iconst 1, 1) := by decide +kernel
theorem dX3_takeInterruption_81 : decode cX3_takeInterruption 81 = .ok (.ireturn, 1) := by decide +kernel
theorem dX3_takeInterruption_82 : decode cX3_takeInterruption 82 = .ok (.iconst 0, 1) := by decide +kernel
theorem dX3_takeInterruption_83 : decode cX3_takeInterruption 83 = .ok (.ireturn, 1) := by decide +kernel
theorem dX3_runTimer_0 : decode cX3_runTimer 0 = .ok (.aload_n 0, 1) := by decide +kernel
theorem dX3_runTimer_1 : decode cX3_runTimer 1 = .ok (.getfield 12, 3) := by decide +kernel
theorem dX3_runTimer_4 : decode cX3_runTimer 4 = .ok (.bipush 80, 2) := by decide +kernel
theorem dX3_runTimer_6 : decode cX3_runTimer 6 = .ok (.invokevirtual 100, 3) := by decide +kernel
theorem dX3_runTimer_9 : decode cX3_runTimer 9 = .ok (.iconst 1, 1) := by decide +kernel
theorem dX3_runTimer_10 : decode cX3_runTimer 10 = .ok (.isub, 1) := by decide +kernel
theorem dX3_runTimer_11 : decode cX3_runTimer 11 = .ok (.istore_n 1, 1) := by decide +kernel
theorem dX3_runTimer_12 : decode cX3_runTimer 12 = .ok (.aload_n 0, 1) := by decide +kernel
theorem dX3_runTimer_13 : decode cX3_runTimer 13 = .ok (.getfield 12, 3) := by decide +kernel
theorem dX3_runTimer_16 : decode cX3_runTimer 16 = .ok (.bipush 80, 2) := by decide +kernel
theorem dX3_runTimer_18 : decode cX3_runTimer 18 = .ok (.iload_n 1, 1) := by decide +kernel
theorem dX3_runTimer_19 : decode cX3_runTimer 19 = .ok (.invokevirtual 104, 3) := by decide +kernel
theorem dX3_runTimer_22 : decode cX3_runTimer 22 = .ok (.iload_n 1, 1) := by decide +kernel
theorem dX3_runTimer_23 : decode cX3_runTimer 23 = .ok (.iconst (-1), 1) := by decide +kernel
theorem dX3_runTimer_24 : decode cX3_runTimer 24 = .ok (.if_icmp .ne 8, 3) := by decide +kernel
theorem dX3_runTimer_27 : decode cX3_runTimer 27 = .ok (.aload_n 0, 1) := by decide +kernel
theorem dX3_runTimer_28 : decode cX3_runTimer 28 = .ok (.iconst 1, 1) := by decide +kernel
theorem dX3_runTimer_29 : decode cX3_runTimer 29 = .ok (.putfield 86, 3) := by decide +kernel
theorem dX3_runTimer_32 : decode cX3_runTimer 32 = .ok (.return_, 1) := by decide +kernel
theorem dX3_interrupt_0 : decode cX3_interrupt 0 = .ok (.aload_n 0, 1) := by decide +kernel
theorem dX3_interrupt_1 : decode cX3_interrupt 1 = .ok (.getfield 21, 3) := by decide +kernel
theorem dX3_interrupt_4 : decode cX3_interrupt 4 = .ok (.aload_n 0, 1) := by decide +kernel
theorem dX3_interrupt_5 : decode cX3_interrupt 5 = .ok (.getfield 12, 3) := by decide +kernel
theorem dX3_interrupt_8 : decode cX3_interrupt 8 = .ok (.iload_n 1, 1) := by decide +kernel
theorem dX3_interrupt_9 : decode cX3_interrupt 9 = .ok (.iload_n 3, 1) := by decide +kernel
theorem dX3_interrupt_10 : decode cX3_interrupt 10 = .ok (.invokevirtual 108, 3) := by decide +kernel
theorem dX3_interrupt_13 : decode cX3_interrupt 13 = .ok (.aload_n 0, 1) := by decide +kernel
theorem dX3_interrupt_14 : decode cX3_interrupt 14 = .ok (.getfield 21, 3) := by decide +kernel
theorem dX3_interrupt_17 : decode cX3_interrupt 17 = .ok (.aload_n 0, 1) := by decide +kernel
theorem dX3_interrupt_18 : decode cX3_interrupt 18 = .ok (.getfield 12, 3) := by decide +kernel
theorem dX3_interrupt_21 : decode cX3_interrupt 21 = .ok (.iload_n 2, 1) := by decide +kernel
theorem dX3_interrupt_22 : decode cX3_interrupt 22 = .ok (.invokevirtual 112, 3) := by decide +kernel
theorem dX3_interrupt_25 : decode cX3_interrupt 25 = .ok (.return_, 1) := by decide +kernel
theorem dX3_fetchInstruction_0 : decode cX3_fetchInstruction 0 = .ok (.aload_n 0, 1) := by decide +kernel
theorem dX3_fetchInstruction_1 : decode cX3_fetchInstruction 1 = .ok (.getfield 21, 3) := by decide +kernel
theorem dX3_fetchInstruction_4 : decode cX3_fetchInstruction 4 = .ok (.getfield 116, 3) := by decide +kernel
theorem dX3_fetchInstruction_7 : decode cX3_fetchInstruction 7 = .ok (.istore_n 1, 1) := by decide +kernel
theorem dX3_fetchInstruction_8 : decode cX3_fetchInstruction 8 = .ok (.aload_n 0, 1) := by decide +kernel
theorem dX3_fetchInstruction_9 : decode cX3_fetchInstruction 9 = .ok (.aload_n 0, 1) := by decide +kernel
theorem dX3_fetchInstruction_10 : decode cX3_fetchInstruction 10 = .ok (.getfield 12, 3) := by decide +kernel
theorem dX3_fetchInstruction_13 : decode cX3_fetchInstruction 13 = .ok (.iload_n 1, 1) := by decide +kernel
theorem dX3_fetchInstruction_14 : decode cX3_fetchInstruction 14 = .ok (.invokevirtual 119, 3) := by decide +kernel
theorem dX3_fetchInstruction_17 : decode cX3_fetchInstruction 17 = .ok (.putfield 61, 3) := by decide +kernel
theorem dX3_fetchInstruction_20 : decode cX3_fetchInstruction 20 = .ok (.aload_n 0, 1) := by decide +kernel
theorem dX3_fetchInstruction_21 : decode cX3_fetchInstruction 21 = .ok (.getfield 61, 3) := by decide +kernel
theorem dX3_fetchInstruction_24 : decode cX3_fetchInstruction 24 = .ok (.invokestatic 122, 3) := by decide +kernel
theorem dX3_fetchInstruction_27 : decode cX3_fetchInstruction 27 = .ok (.istore_n 2, 1) := by decide +kernel
theorem dX3_fetchInstruction_28 : decode cX3_fetchInstruction 28 = .ok (.aload_n 0, 1) := by decide +kernel
theorem dX3_fetchInstruction_29 : decode cX3_fetchInstruction 29 = .ok (.getfield 21, 3) := by decide +kernel
theorem dX3_fetchInstruction_32 : decode cX3_fetchInstruction 32 = .ok (.iload_n 1, 1) := by decide +kernel
theorem dX3_fetchInstruction_33 : decode cX3_fetchInstruction 33 = .ok (.iload_n 2, 1) := by decide +kernel
theorem dX3_fetchInstruction_34 : decode cX3_fetchInstruction 34 = .ok (.iadd, 1) := by decide +kernel
theorem dX3_fetchInstruction_35 : decode cX3_fetchInstruction 35 = .ok (.invokevirtual 125, 3) := by decide +kernel
theorem dX3_fetchInstruction_38 : decode cX3_fetchInstruction 38 = .ok (.iload_n 1, 1) := by decide +kernel
theorem dX3_fetchInstruction_39 : decode cX3_fetchInstruction 39 = .ok (.iconst 2, 1) := by decide +kernel
theorem dX3_fetchInstruction_40 : decode cX3_fetchInstruction 40 = .ok (.irem, 1) := by decide +kernel
theorem dX3_fetchInstruction_41 : decode cX3_fetchInstruction 41 = .ok (.ifCond .eq 6, 3) := by decide +kernel
theorem dX3_fetchInstruction_44 : decode cX3_fetchInstruction 44 = .ok (.bipush 6, 2) := by decide +kernel
theorem dX3_fetchInstruction_46 : decode cX3_fetchInstruction 46 = .ok (.ireturn, 1) := by decide +kernel
theorem dX3_fetchInstruction_47 : decode cX3_fetchInstruction 47 = .ok (.iload_n 1, 1) := by decide +kernel
theorem dX3_fetchInstruction_48 : decode cX3_fetchInstruction 48 = .ok (.iload_n 2, 1) := by decide +kernel
theorem dX3_fetchInstruction_49 : decode cX3_fetchInstruction 49 = .ok (.invokestatic 129, 3) := by decide +kernel
theorem dX3_fetchInstruction_52 : decode cX3_fetchInstruction 52 = .ok (.ifCond .ne 5, 3) := by decide +kernel
theorem dX3_fetchInstruction_55 : decode cX3_fetchInstruction 55 = .ok (.iconst 5, 1) := by decide +kernel
theorem dX3_fetchInstruction_56 : decode cX3_fetchInstruction 56 = .ok (.ireturn, 1) := by decide +kernel
theorem dX3_fetchInstruction_57 : decode cX3_fetchInstruction 57 = .ok (.aload_n 0, 1) := by decide +kernel
theorem dX3_fetchInstruction_58 : decode cX3_fetchInstruction 58 = .ok (.invokevirtual 133, 3) := by decide +kernel
theorem dX3_fetchInstruction_61 : decode cX3_fetchInstruction 61 = .ok (.ifCond .eq 16, 3) := by decide +kernel
theorem dX3_fetchInstruction_64 : decode cX3_fetchInstruction 64 = .ok (.aload_n 0, 1) := by decide +kernel
theorem dX3_fetchInstruction_65 : decode cX3_fetchInstruction 65 = .ok (.getfield 21, 3) := by decide +kernel
theorem dX3_fetchInstruction_68 : decode cX3_fetchInstruction 68 = .ok (.iconst 4, 1) := by decide +kernel
theorem dX3_fetchInstruction_69 : decode cX3_fetchInstruction 69 = .ok (.invokevirtual 90, 3) := by decide +kernel
theorem dX3_fetchInstruction_72 : decode cX3_fetchInstruction 72 = .ok (.ifCond .eq 5, 3) := by decide +kernel
theorem dX3_fetchInstruction_75 : decode cX3_fetchInstruction 75 = .ok (.iconst 2, 1) := by decide +kernel
theorem dX3_fetchInstruction_76 : decode cX3_fetchInstruction 76 = .ok (.ireturn, 1) := by decide +kernel
theorem dX3_fetchInstruction_77 : decode cX3_fetchInstruction 77 = .ok (.aload_n 0, 1) := by decide +kernel
theorem dX3_fetchInstruction_78 : decode cX3_fetchInstruction 78 = .ok (.iload_n 1, 1) := by decide +kernel
theorem dX3_fetchInstruction_79 : decode cX3_fetchInstruction 79 = .ok (.invokevirtual 136, 3) := by decide +kernel
theorem dX3_fetchInstruction_82 : decode cX3_fetchInstruction 82 = .ok (.iconst 0, 1) := by decide +kernel
theorem dX3_fetchInstruction_83 : decode cX3_fetchInstruction 83 = .ok (.ireturn, 1) := by decide +kernel
theorem dX3_lengthOf_0 : decode cX3_lengthOf 0 = .ok (.iload_n 0, 1) := by decide +kernel
theorem dX3_lengthOf_1 : decode cX3_lengthOf 1 = .ok (.bipush 64, 2) := by decide +kernel
theorem dX3_lengthOf_3 : decode cX3_lengthOf 3 = .ok (.if_icmp .ge 5, 3) := by decide +kernel
theorem dX3_lengthOf_6 : decode cX3_lengthOf 6 = .ok (.iconst 2, 1) := by decide +kernel
theorem dX3_lengthOf_7 : decode cX3_lengthOf 7 = .ok (.ireturn, 1) := by decide +kernel
theorem dX3_lengthOf_8 : decode cX3_lengthOf 8 = .ok (.iload_n 0, 1) := by decide +kernel
theorem dX3_lengthOf_9 : decode cX3_lengthOf 9 = .ok (.sipush 192, 3) := by decide +kernel
theorem dX3_lengthOf_12 : decode cX3_lengthOf 12 = .ok (.if_icmp .ge 7, 3) := by decide +kernel
theorem dX3_lengthOf_15 : decode cX3_lengthOf 15 = .ok (.iconst 4, 1) := by decide +kernel
theorem dX3_lengthOf_16 : decode cX3_lengthOf 16 = .ok (.goto 5, 3) := by decide +kernel
theorem dX3_lengthOf_19 : decode cX3_lengthOf 19 = .ok (.bipush 6, 2) := by decide +kernel
theorem dX3_lengthOf_21 : decode cX3_lengthOf 21 = .ok (.ireturn, 1) := by decide +kernel
theorem dX3_isPrivileged_0 : decode cX3_isPrivileged 0 = .ok (.aload_n 0, 1) := by decide +kernel
theorem dX3_isPrivileged_1 : decode cX3_isPrivileged 1 = .ok (.getfield 61, 3) := by decide +kernel
theorem dX3_isPrivileged_4 : decode cX3_isPrivileged 4 = .ok (.lookupswitch 54 #[(8, 52), (9, 52), (130, 52), (156, 52), (157, 52)], 52) := by decide +kernel
theorem dX3_isPrivileged_56 : decode cX3_isPrivileged 56 = .ok (.iconst 1, 1) := by decide +kernel
theorem dX3_isPrivileged_57 : decode cX3_isPrivileged 57 = .ok (.ireturn, 1) := by decide +kernel
theorem dX3_isPrivileged_58 : decode cX3_isPrivileged 58 = .ok (.iconst 0, 1) := by decide +kernel
theorem dX3_isPrivileged_59 : decode cX3_isPrivileged 59 = .ok (.ireturn, 1) := by decide +kernel
theorem dX3_decode_0 : decode cX3_decode 0 = .ok (.aload_n 0, 1) := by decide +kernel
theorem dX3_decode_1 : decode cX3_decode 1 = .ok (.aload_n 0, 1) := by decide +kernel
theorem dX3_decode_2 : decode cX3_decode 2 = .ok (.getfield 12, 3) := by decide +kernel
theorem dX3_decode_5 : decode cX3_decode 5 = .ok (.iload_n 1, 1) := by decide +kernel
theorem dX3_decode_6 : decode cX3_decode 6 = .ok (.iconst 1, 1) := by decide +kernel
theorem dX3_decode_7 : decode cX3_decode 7 = .ok (.iadd, 1) := by decide +kernel
theorem dX3_decode_8 : decode cX3_decode 8 = .ok (.invokevirtual 119, 3) := by decide +kernel
theorem dX3_decode_11 : decode cX3_decode 11 = .ok (.putfield 139, 3) := by decide +kernel
theorem dX3_decode_14 : decode cX3_decode 14 = .ok (.aload_n 0, 1) := by decide +kernel
theorem dX3_decode_15 : decode cX3_decode 15 = .ok (.aload_n 0, 1) := by decide +kernel
theorem dX3_decode_16 : decode cX3_decode 16 = .ok (.getfield 139, 3) := by decide +kernel
theorem dX3_decode_19 : decode cX3_decode 19 = .ok (.iconst 4, 1) := by decide +kernel
theorem dX3_decode_20 : decode cX3_decode 20 = .ok (.ishr, 1) := by decide +kernel
theorem dX3_decode_21 : decode cX3_decode 21 = .ok (.putfield 142, 3) := by decide +kernel
theorem dX3_decode_24 : decode cX3_decode 24 = .ok (.aload_n 0, 1) := by decide +kernel
theorem dX3_decode_25 : decode cX3_decode 25 = .ok (.aload_n 0, 1) := by decide +kernel
theorem dX3_decode_26 : decode cX3_decode 26 = .ok (.getfield 139, 3) := by decide +kernel
theorem dX3_decode_29 : decode cX3_decode 29 = .ok (.bipush 15, 2) := by decide +kernel
theorem dX3_decode_31 : decode cX3_decode 31 = .ok (.iand, 1) := by decide +kernel
theorem dX3_decode_32 : decode cX3_decode 32 = .ok (.putfield 145, 3) := by decide +kernel
theorem dX3_decode_35 : decode cX3_decode 35 = .ok (.aload_n 0, 1) := by decide +kernel
theorem dX3_decode_36 : decode cX3_decode 36 = .ok (.getfield 61, 3) := by decide +kernel
theorem dX3_decode_39 : decode cX3_decode 39 = .ok (.bipush 6, 2) := by decide +kernel
theorem dX3_decode_41 : decode cX3_decode 41 = .ok (.ishr, 1) := by decide +kernel
theorem dX3_decode_42 : decode cX3_decode 42 = .ok (.iconst 1, 1) := by decide +kernel
theorem dX3_decode_43 : decode cX3_decode 43 = .ok (.if_icmp .ne 7, 3) := by decide +kernel
theorem dX3_decode_46 : decode cX3_decode 46 = .ok (.iconst 1, 1) := by decide +kernel
theorem dX3_decode_47 : decode cX3_decode 47 = .ok (.goto 4, 3) := by decide +kernel
theorem dX3_decode_50 : decode cX3_decode 50 = .ok (.iconst 0, 1) := by decide +kernel
theorem dX3_decode_51 : decode cX3_decode 51 = .ok (.istore_n 2, 1) := by decide +kernel
theorem dX3_decode_52 : decode cX3_decode 52 = .ok (.aload_n 0, 1) := by decide +kernel
theorem dX3_decode_53 : decode cX3_decode 53 = .ok (.aload_n 0, 1) := by decide +kernel
theorem dX3_decode_54 : decode cX3_decode 54 = .ok (.iload_n 1, 1) := by decide +kernel
theorem dX3_decode_55 : decode cX3_decode 55 = .ok (.iconst 2, 1) := by decide +kernel
theorem dX3_decode_56 : decode cX3_decode 56 = .ok (.iadd, 1) := by decide +kernel
theorem dX3_decode_57 : decode cX3_decode 57 = .ok (.iload_n 2, 1) := by decide +kernel
theorem dX3_decode_58 : decode cX3_decode 58 = .ok (.ifCond .eq 10, 3) := by decide +kernel
theorem dX3_decode_61 : decode cX3_decode 61 = .ok (.aload_n 0, 1) := by decide +kernel
theorem dX3_decode_62 : decode cX3_decode 62 = .ok (.getfield 145, 3) := by decide +kernel
theorem dX3_decode_65 : decode cX3_decode 65 = .ok (.goto 4, 3) := by decide +kernel
theorem dX3_decode_68 : decode cX3_decode 68 = .ok (.iconst 0, 1) := by decide +kernel
theorem dX3_decode_69 : decode cX3_decode 69 = .ok (.invokevirtual 148, 3) := by decide +kernel
theorem dX3_decode_72 : decode cX3_decode 72 = .ok (.putfield 152, 3) := by decide +kernel
theorem dX3_decode_75 : decode cX3_decode 75 = .ok (.aload_n 0, 1) := by decide +kernel
theorem dX3_decode_76 : decode cX3_decode 76 = .ok (.aload_n 0, 1) := by decide +kernel
theorem dX3_decode_77 : decode cX3_decode 77 = .ok (.iload_n 1, 1) := by decide +kernel
theorem dX3_decode_78 : decode cX3_decode 78 = .ok (.iconst 4, 1) := by decide +kernel
theorem dX3_decode_79 : decode cX3_decode 79 = .ok (.iadd, 1) := by decide +kernel
theorem dX3_decode_80 : decode cX3_decode 80 = .ok (.iconst 0, 1) := by decide +kernel
theorem dX3_decode_81 : decode cX3_decode 81 = .ok (.invokevirtual 148, 3) := by decide +kernel
theorem dX3_decode_84 : decode cX3_decode 84 = .ok (.putfield 155, 3) := by decide +kernel
theorem dX3_decode_87 : decode cX3_decode 87 = .ok (.return_, 1) := by decide +kernel
theorem dX3_operandAt_0 : decode cX3_operandAt 0 = .ok (.aload_n 0, 1) := by decide +kernel
theorem dX3_operandAt_1 : decode cX3_operandAt 1 = .ok (.getfield 12, 3) := by decide +kernel
theorem dX3_operandAt_4 : decode cX3_operandAt 4 = .ok (.iload_n 1, 1) := by decide +kernel
theorem dX3_operandAt_5 : decode cX3_operandAt 5 = .ok (.invokevirtual 158, 3) := by decide +kernel
theorem dX3_operandAt_8 : decode cX3_operandAt 8 = .ok (.istore_n 3, 1) := by decide +kernel
theorem dX3_operandAt_9 : decode cX3_operandAt 9 = .ok (.iload_n 3, 1) := by decide +kernel
theorem dX3_operandAt_10 : decode cX3_operandAt 10 = .ok (.bipush 12, 2) := by decide +kernel
theorem dX3_operandAt_12 : decode cX3_operandAt 12 = .ok (.ishr, 1) := by decide +kernel
theorem dX3_operandAt_13 : decode cX3_operandAt 13 = .ok (.istore 4, 2) := by decide +kernel
theorem dX3_operandAt_15 : decode cX3_operandAt 15 = .ok (.iload_n 3, 1) := by decide +kernel
theorem dX3_operandAt_16 : decode cX3_operandAt 16 = .ok (.sipush 4095, 3) := by decide +kernel
theorem dX3_operandAt_19 : decode cX3_operandAt 19 = .ok (.iand, 1) := by decide +kernel
theorem dX3_operandAt_20 : decode cX3_operandAt 20 = .ok (.istore 5, 2) := by decide +kernel
theorem dX3_operandAt_22 : decode cX3_operandAt 22 = .ok (.iload 5, 2) := by decide +kernel
theorem dX3_operandAt_24 : decode cX3_operandAt 24 = .ok (.iload 4, 2) := by decide +kernel
theorem dX3_operandAt_26 : decode cX3_operandAt 26 = .ok (.ifCond .ne 7, 3) := by decide +kernel
theorem dX3_operandAt_29 : decode cX3_operandAt 29 = .ok (.iconst 0, 1) := by decide +kernel
theorem dX3_operandAt_30 : decode cX3_operandAt 30 = .ok (.goto 9, 3) := by decide +kernel
theorem dX3_operandAt_33 : decode cX3_operandAt 33 = .ok (.aload_n 0, 1) := by decide +kernel
theorem dX3_operandAt_34 : decode cX3_operandAt 34 = .ok (.iload 4, 2) := by decide +kernel
theorem dX3_operandAt_36 : decode cX3_operandAt 36 = .ok (.invokevirtual 161, 3) := by decide +kernel
theorem dX3_operandAt_39 : decode cX3_operandAt 39 = .ok (.iadd, 1) := by decide +kernel
theorem dX3_operandAt_40 : decode cX3_operandAt 40 = .ok (.istore 5, 2) := by decide +kernel
theorem dX3_operandAt_42 : decode cX3_operandAt 42 = .ok (.iload 5, 2) := by decide +kernel
theorem dX3_operandAt_44 : decode cX3_operandAt 44 = .ok (.iload_n 2, 1) := by decide +kernel
theorem dX3_operandAt_45 : decode cX3_operandAt 45 = .ok (.ifCond .ne 7, 3) := by decide +kernel
theorem dX3_operandAt_48 : decode cX3_operandAt 48 = .ok (.iconst 0, 1) := by decide +kernel
theorem dX3_operandAt_49 : decode cX3_operandAt 49 = .ok (.goto 8, 3) := by decide +kernel
theorem dX3_operandAt_52 : decode cX3_operandAt 52 = .ok (.aload_n 0, 1) := by decide +kernel
theorem dX3_operandAt_53 : decode cX3_operandAt 53 = .ok (.iload_n 2, 1) := by decide +kernel
theorem dX3_operandAt_54 : decode cX3_operandAt 54 = .ok (.invokevirtual 161, 3) := by decide +kernel
theorem dX3_operandAt_57 : decode cX3_operandAt 57 = .ok (.iadd, 1) := by decide +kernel
theorem dX3_operandAt_58 : decode cX3_operandAt 58 = .ok (.istore 5, 2) := by decide +kernel
theorem dX3_operandAt_60 : decode cX3_operandAt 60 = .ok (.iload 5, 2) := by decide +kernel
theorem dX3_operandAt_62 : decode cX3_operandAt 62 = .ok (.ldc 164, 2) := by decide +kernel
theorem dX3_operandAt_64 : decode cX3_operandAt 64 = .ok (.iand, 1) := by decide +kernel
theorem dX3_operandAt_65 : decode cX3_operandAt 65 = .ok (.ireturn, 1) := by decide +kernel
theorem dX3_readFault_0 : decode cX3_readFault 0 = .ok (.iload_n 0, 1) := by decide +kernel
theorem dX3_readFault_1 : decode cX3_readFault 1 = .ok (.iload_n 2, 1) := by decide +kernel
theorem dX3_readFault_2 : decode cX3_readFault 2 = .ok (.iconst 1, 1) := by decide +kernel
theorem dX3_readFault_3 : decode cX3_readFault 3 = .ok (.isub, 1) := by decide +kernel
theorem dX3_readFault_4 : decode cX3_readFault 4 = .ok (.iand, 1) := by decide +kernel
theorem dX3_readFault_5 : decode cX3_readFault 5 = .ok (.ifCond .eq 6, 3) := by decide +kernel
theorem dX3_readFault_8 : decode cX3_readFault 8 = .ok (.bipush 6, 2) := by decide +kernel
theorem dX3_readFault_10 : decode cX3_readFault 10 = .ok (.ireturn, 1) := by decide +kernel
theorem dX3_readFault_11 : decode cX3_readFault 11 = .ok (.iload_n 0, 1) := by decide +kernel
theorem dX3_readFault_12 : decode cX3_readFault 12 = .ok (.iload_n 1, 1) := by decide +kernel
theorem dX3_readFault_13 : decode cX3_readFault 13 = .ok (.invokestatic 129, 3) := by decide +kernel
theorem dX3_readFault_16 : decode cX3_readFault 16 = .ok (.ifCond .eq 7, 3) := by decide +kernel
theorem dX3_readFault_19 : decode cX3_readFault 19 = .ok (.iconst 0, 1) := by decide +kernel
theorem dX3_readFault_20 : decode cX3_readFault 20 = .ok (.goto 4, 3) := by decide +kernel
theorem dX3_readFault_23 : decode cX3_readFault 23 = .ok (.iconst 5, 1) := by decide +kernel
theorem dX3_readFault_24 : decode cX3_readFault 24 = .ok (.ireturn, 1) := by decide +kernel
theorem dX3_storeFault_0 : decode cX3_storeFault 0 = .ok (.iload_n 1, 1) := by decide +kernel
theorem dX3_storeFault_1 : decode cX3_storeFault 1 = .ok (.iload_n 2, 1) := by decide +kernel
theorem dX3_storeFault_2 : decode cX3_storeFault 2 = .ok (.iload_n 3, 1) := by decide +kernel
theorem dX3_storeFault_3 : decode cX3_storeFault 3 = .ok (.invokestatic 165, 3) := by decide +kernel
theorem dX3_storeFault_6 : decode cX3_storeFault 6 = .ok (.istore 4, 2) := by decide +kernel
theorem dX3_storeFault_8 : decode cX3_storeFault 8 = .ok (.iload 4, 2) := by decide +kernel
theorem dX3_storeFault_10 : decode cX3_storeFault 10 = .ok (.ifCond .eq 6, 3) := by decide +kernel
theorem dX3_storeFault_13 : decode cX3_storeFault 13 = .ok (.iload 4, 2) := by decide +kernel
theorem dX3_storeFault_15 : decode cX3_storeFault 15 = .ok (.ireturn, 1) := by decide +kernel
theorem dX3_storeFault_16 : decode cX3_storeFault 16 = .ok (.aload_n 0, 1) := by decide +kernel
theorem dX3_storeFault_17 : decode cX3_storeFault 17 = .ok (.getfield 12, 3) := by decide +kernel
theorem dX3_storeFault_20 : decode cX3_storeFault 20 = .ok (.iload_n 1, 1) := by decide +kernel
theorem dX3_storeFault_21 : decode cX3_storeFault 21 = .ok (.iload_n 2, 1) := by decide +kernel
theorem dX3_storeFault_22 : decode cX3_storeFault 22 = .ok (.aload_n 0, 1) := by decide +kernel
theorem dX3_storeFault_23 : decode cX3_storeFault 23 = .ok (.getfield 21, 3) := by decide +kernel
theorem dX3_storeFault_26 : decode cX3_storeFault 26 = .ok (.getfield 169, 3) := by decide +kernel
theorem dX3_storeFault_29 : decode cX3_storeFault 29 = .ok (.invokevirtual 172, 3) := by decide +kernel
theorem dX3_storeFault_32 : decode cX3_storeFault 32 = .ok (.ifCond .eq 7, 3) := by decide +kernel
theorem dX3_storeFault_35 : decode cX3_storeFault 35 = .ok (.iconst 0, 1) := by decide +kernel
theorem dX3_storeFault_36 : decode cX3_storeFault 36 = .ok (.goto 4, 3) := by decide +kernel
theorem dX3_storeFault_39 : decode cX3_storeFault 39 = .ok (.iconst 4, 1) := by decide +kernel
theorem dX3_storeFault_40 : decode cX3_storeFault 40 = .ok (.ireturn, 1) := by decide +kernel
theorem dX3_doRr_0 : decode cX3_doRr 0 = .ok (.aload_n 0, 1) := by decide +kernel
theorem dX3_doRr_1 : decode cX3_doRr 1 = .ok (.getfield 61, 3) := by decide +kernel
theorem dX3_doRr_4 : decode cX3_doRr 4 = .ok (.tableswitch 254 5 29 #[116, 254, 121, 145, 150, 155, 254, 254, 254, 254, 254, 254, 254, 160, 254, 165, 254, 187, 209, 231, 231, 231, 231, 244, 249], 116) := by decide +kernel
theorem dX3_doRr_120 : decode cX3_doRr 120 = .ok (.aload_n 0, 1) := by decide +kernel
theorem dX3_doRr_121 : decode cX3_doRr 121 = .ok (.invokevirtual 176, 3) := by decide +kernel
theorem dX3_doRr_124 : decode cX3_doRr 124 = .ok (.ireturn, 1) := by decide +kernel
theorem dX3_doRr_125 : decode cX3_doRr 125 = .ok (.aload_n 0, 1) := by decide +kernel
theorem dX3_doRr_126 : decode cX3_doRr 126 = .ok (.getfield 145, 3) := by decide +kernel
theorem dX3_doRr_129 : decode cX3_doRr 129 = .ok (.ifCond .ne 7, 3) := by decide +kernel
theorem dX3_doRr_132 : decode cX3_doRr 132 = .ok (.iconst 0, 1) := by decide +kernel
theorem dX3_doRr_133 : decode cX3_doRr 133 = .ok (.goto 15, 3) := by decide +kernel
theorem dX3_doRr_136 : decode cX3_doRr 136 = .ok (.aload_n 0, 1) := by decide +kernel
theorem dX3_doRr_137 : decode cX3_doRr 137 = .ok (.aload_n 0, 1) := by decide +kernel
theorem dX3_doRr_138 : decode cX3_doRr 138 = .ok (.aload_n 0, 1) := by decide +kernel
theorem dX3_doRr_139 : decode cX3_doRr 139 = .ok (.getfield 145, 3) := by decide +kernel
theorem dX3_doRr_142 : decode cX3_doRr 142 = .ok (.invokevirtual 161, 3) := by decide +kernel
theorem dX3_doRr_145 : decode cX3_doRr 145 = .ok (.invokevirtual 179, 3) := by decide +kernel
theorem dX3_doRr_148 : decode cX3_doRr 148 = .ok (.ireturn, 1) := by decide +kernel
theorem dX3_doRr_149 : decode cX3_doRr 149 = .ok (.aload_n 0, 1) := by decide +kernel
theorem dX3_doRr_150 : decode cX3_doRr 150 = .ok (.invokevirtual 182, 3) := by decide +kernel
theorem dX3_doRr_153 : decode cX3_doRr 153 = .ok (.ireturn, 1) := by decide +kernel
theorem dX3_doRr_154 : decode cX3_doRr 154 = .ok (.aload_n 0, 1) := by decide +kernel
theorem dX3_doRr_155 : decode cX3_doRr 155 = .ok (.invokevirtual 185, 3) := by decide +kernel
theorem dX3_doRr_158 : decode cX3_doRr 158 = .ok (.ireturn, 1) := by decide +kernel
theorem dX3_doRr_159 : decode cX3_doRr 159 = .ok (.aload_n 0, 1) := by decide +kernel
theorem dX3_doRr_160 : decode cX3_doRr 160 = .ok (.invokevirtual 188, 3) := by decide +kernel
theorem dX3_doRr_163 : decode cX3_doRr 163 = .ok (.ireturn, 1) := by decide +kernel
theorem dX3_doRr_164 : decode cX3_doRr 164 = .ok (.aload_n 0, 1) := by decide +kernel
theorem dX3_doRr_165 : decode cX3_doRr 165 = .ok (.invokevirtual 191, 3) := by decide +kernel
theorem dX3_doRr_168 : decode cX3_doRr 168 = .ok (.ireturn, 1) := by decide +kernel
theorem dX3_doRr_169 : decode cX3_doRr 169 = .ok (.aload_n 0, 1) := by decide +kernel
theorem dX3_doRr_170 : decode cX3_doRr 170 = .ok (.aload_n 0, 1) := by decide +kernel
theorem dX3_doRr_171 : decode cX3_doRr 171 = .ok (.aload_n 0, 1) := by decide +kernel
theorem dX3_doRr_172 : decode cX3_doRr 172 = .ok (.getfield 142, 3) := by decide +kernel
theorem dX3_doRr_175 : decode cX3_doRr 175 = .ok (.invokevirtual 161, 3) := by decide +kernel
theorem dX3_doRr_178 : decode cX3_doRr 178 = .ok (.aload_n 0, 1) := by decide +kernel
theorem dX3_doRr_179 : decode cX3_doRr 179 = .ok (.aload_n 0, 1) := by decide +kernel
theorem dX3_doRr_180 : decode cX3_doRr 180 = .ok (.getfield 145, 3) := by decide +kernel
theorem dX3_doRr_183 : decode cX3_doRr 183 = .ok (.invokevirtual 161, 3) := by decide +kernel
theorem dX3_doRr_186 : decode cX3_doRr 186 = .ok (.iand, 1) := by decide +kernel
theorem dX3_doRr_187 : decode cX3_doRr 187 = .ok (.invokevirtual 194, 3) := by decide +kernel
theorem dX3_doRr_190 : decode cX3_doRr 190 = .ok (.ireturn, 1) := by decide +kernel
theorem dX3_doRr_191 : decode cX3_doRr 191 = .ok (.aload_n 0, 1) := by decide +kernel
theorem dX3_doRr_192 : decode cX3_doRr 192 = .ok (.aload_n 0, 1) := by decide +kernel
theorem dX3_doRr_193 : decode cX3_doRr 193 = .ok (.aload_n 0, 1) := by decide +kernel
theorem dX3_doRr_194 : decode cX3_doRr 194 = .ok (.getfield 142, 3) := by decide +kernel
theorem dX3_doRr_197 : decode cX3_doRr 197 = .ok (.invokevirtual 161, 3) := by decide +kernel
theorem dX3_doRr_200 : decode cX3_doRr 200 = .ok (.aload_n 0, 1) := by decide +kernel
theorem dX3_doRr_201 : decode cX3_doRr 201 = .ok (.aload_n 0, 1) := by decide +kernel
theorem dX3_doRr_202 : decode cX3_doRr 202 = .ok (.getfield 145, 3) := by decide +kernel
theorem dX3_doRr_205 : decode cX3_doRr 205 = .ok (.invokevirtual 161, 3) := by decide +kernel
theorem dX3_doRr_208 : decode cX3_doRr 208 = .ok (.ior, 1) := by decide +kernel
theorem dX3_doRr_209 : decode cX3_doRr 209 = .ok (.invokevirtual 194, 3) := by decide +kernel
theorem dX3_doRr_212 : decode cX3_doRr 212 = .ok (.ireturn, 1) := by decide +kernel
theorem dX3_doRr_213 : decode cX3_doRr 213 = .ok (.aload_n 0, 1) := by decide +kernel
theorem dX3_doRr_214 : decode cX3_doRr 214 = .ok (.aload_n 0, 1) := by decide +kernel
theorem dX3_doRr_215 : decode cX3_doRr 215 = .ok (.aload_n 0, 1) := by decide +kernel
theorem dX3_doRr_216 : decode cX3_doRr 216 = .ok (.getfield 142, 3) := by decide +kernel
theorem dX3_doRr_219 : decode cX3_doRr 219 = .ok (.invokevirtual 161, 3) := by decide +kernel
theorem dX3_doRr_222 : decode cX3_doRr 222 = .ok (.aload_n 0, 1) := by decide +kernel
theorem dX3_doRr_223 : decode cX3_doRr 223 = .ok (.aload_n 0, 1) := by decide +kernel
theorem dX3_doRr_224 : decode cX3_doRr 224 = .ok (.getfield 145, 3) := by decide +kernel
theorem dX3_doRr_227 : decode cX3_doRr 227 = .ok (.invokevirtual 161, 3) := by decide +kernel
theorem dX3_doRr_230 : decode cX3_doRr 230 = .ok (.ixor, 1) := by decide +kernel
theorem dX3_doRr_231 : decode cX3_doRr 231 = .ok (.invokevirtual 194, 3) := by decide +kernel
theorem dX3_doRr_234 : decode cX3_doRr 234 = .ok (.ireturn, 1) := by decide +kernel
theorem dX3_doRr_235 : decode cX3_doRr 235 = .ok (.aload_n 0, 1) := by decide +kernel
theorem dX3_doRr_236 : decode cX3_doRr 236 = .ok (.aload_n 0, 1) := by decide +kernel
theorem dX3_doRr_237 : decode cX3_doRr 237 = .ok (.aload_n 0, 1) := by decide +kernel
theorem dX3_doRr_238 : decode cX3_doRr 238 = .ok (.getfield 145, 3) := by decide +kernel
theorem dX3_doRr_241 : decode cX3_doRr 241 = .ok (.invokevirtual 161, 3) := by decide +kernel
theorem dX3_doRr_244 : decode cX3_doRr 244 = .ok (.invokevirtual 197, 3) := by decide +kernel
theorem dX3_doRr_247 : decode cX3_doRr 247 = .ok (.ireturn, 1) := by decide +kernel
theorem dX3_doRr_248 : decode cX3_doRr 248 = .ok (.aload_n 0, 1) := by decide +kernel
theorem dX3_doRr_249 : decode cX3_doRr 249 = .ok (.invokevirtual 200, 3) := by decide +kernel
theorem dX3_doRr_252 : decode cX3_doRr 252 = .ok (.ireturn, 1) := by decide +kernel
theorem dX3_doRr_253 : decode cX3_doRr 253 = .ok (.aload_n 0, 1) := by decide +kernel
theorem dX3_doRr_254 : decode cX3_doRr 254 = .ok (.invokevirtual 203, 3) := by decide +kernel
theorem dX3_doRr_257 : decode cX3_doRr 257 = .ok (.ireturn, 1) := by decide +kernel
theorem dX3_doRr_258 : decode cX3_doRr 258 = .ok (.iconst 1, 1) := by decide +kernel
theorem dX3_doRr_259 : decode cX3_doRr 259 = .ok (.ireturn, 1) := by decide +kernel
theorem dX3_linkToRegister_0 : decode cX3_linkToRegister 0 = .ok (.aload_n 0, 1) := by decide +kernel
theorem dX3_linkToRegister_1 : decode cX3_linkToRegister 1 = .ok (.aload_n 0, 1) := by decide +kernel
theorem dX3_linkToRegister_2 : decode cX3_linkToRegister 2 = .ok (.getfield 145, 3) := by decide +kernel
theorem dX3_linkToRegister_5 : decode cX3_linkToRegister 5 = .ok (.invokevirtual 161, 3) := by decide +kernel
theorem dX3_linkToRegister_8 : decode cX3_linkToRegister 8 = .ok (.istore_n 1, 1) := by decide +kernel
theorem dX3_linkToRegister_9 : decode cX3_linkToRegister 9 = .ok (.aload_n 0, 1) := by decide +kernel
theorem dX3_linkToRegister_10 : decode cX3_linkToRegister 10 = .ok (.aload_n 0, 1) := by decide +kernel
theorem dX3_linkToRegister_11 : decode cX3_linkToRegister 11 = .ok (.getfield 142, 3) := by decide +kernel
theorem dX3_linkToRegister_14 : decode cX3_linkToRegister 14 = .ok (.aload_n 0, 1) := by decide +kernel
theorem dX3_linkToRegister_15 : decode cX3_linkToRegister 15 = .ok (.getfield 21, 3) := by decide +kernel
theorem dX3_linkToRegister_18 : decode cX3_linkToRegister 18 = .ok (.getfield 116, 3) := by decide +kernel
theorem dX3_linkToRegister_21 : decode cX3_linkToRegister 21 = .ok (.invokevirtual 206, 3) := by decide +kernel
theorem dX3_linkToRegister_24 : decode cX3_linkToRegister 24 = .ok (.aload_n 0, 1) := by decide +kernel
theorem dX3_linkToRegister_25 : decode cX3_linkToRegister 25 = .ok (.getfield 145, 3) := by decide +kernel
theorem dX3_linkToRegister_28 : decode cX3_linkToRegister 28 = .ok (.ifCond .eq 11, 3) := by decide +kernel
theorem dX3_linkToRegister_31 : decode cX3_linkToRegister 31 = .ok (.aload_n 0, 1) := by decide +kernel
theorem dX3_linkToRegister_32 : decode cX3_linkToRegister 32 = .ok (.getfield 21, 3) := by decide +kernel
theorem dX3_linkToRegister_35 : decode cX3_linkToRegister 35 = .ok (.iload_n 1, 1) := by decide +kernel
theorem dX3_linkToRegister_36 : decode cX3_linkToRegister 36 = .ok (.invokevirtual 125, 3) := by decide +kernel
theorem dX3_linkToRegister_39 : decode cX3_linkToRegister 39 = .ok (.iconst 0, 1) := by decide +kernel
theorem dX3_linkToRegister_40 : decode cX3_linkToRegister 40 = .ok (.ireturn, 1) := by decide +kernel
theorem dX3_branchIfAsked_0 : decode cX3_branchIfAsked 0 = .ok (.aload_n 0, 1) := by decide +kernel
theorem dX3_branchIfAsked_1 : decode cX3_branchIfAsked 1 = .ok (.getfield 142, 3) := by decide +kernel
theorem dX3_branchIfAsked_4 : decode cX3_branchIfAsked 4 = .ok (.bipush 8, 2) := by decide +kernel
theorem dX3_branchIfAsked_6 : decode cX3_branchIfAsked 6 = .ok (.aload_n 0, 1) := by decide +kernel
theorem dX3_branchIfAsked_7 : decode cX3_branchIfAsked 7 = .ok (.getfield 21, 3) := by decide +kernel
theorem dX3_branchIfAsked_10 : decode cX3_branchIfAsked 10 = .ok (.getfield 209, 3) := by decide +kernel
theorem dX3_branchIfAsked_13 : decode cX3_branchIfAsked 13 = .ok (.ishr, 1) := by decide +kernel
theorem dX3_branchIfAsked_14 : decode cX3_branchIfAsked 14 = .ok (.iand, 1) := by decide +kernel
theorem dX3_branchIfAsked_15 : decode cX3_branchIfAsked 15 = .ok (.ifCond .eq 11, 3) := by decide +kernel
theorem dX3_branchIfAsked_18 : decode cX3_branchIfAsked 18 = .ok (.aload_n 0, 1) := by decide +kernel
theorem dX3_branchIfAsked_19 : decode cX3_branchIfAsked 19 = .ok (.getfield 21, 3) := by decide +kernel
theorem dX3_branchIfAsked_22 : decode cX3_branchIfAsked 22 = .ok (.iload_n 1, 1) := by decide +kernel
theorem dX3_branchIfAsked_23 : decode cX3_branchIfAsked 23 = .ok (.invokevirtual 125, 3) := by decide +kernel
theorem dX3_branchIfAsked_26 : decode cX3_branchIfAsked 26 = .ok (.iconst 0, 1) := by decide +kernel
theorem dX3_branchIfAsked_27 : decode cX3_branchIfAsked 27 = .ok (.ireturn, 1) := by decide +kernel
theorem dX3_putBlockKey_0 : decode cX3_putBlockKey 0 = .ok (.aload_n 0, 1) := by decide +kernel
theorem dX3_putBlockKey_1 : decode cX3_putBlockKey 1 = .ok (.getfield 12, 3) := by decide +kernel
theorem dX3_putBlockKey_4 : decode cX3_putBlockKey 4 = .ok (.aload_n 0, 1) := by decide +kernel
theorem dX3_putBlockKey_5 : decode cX3_putBlockKey 5 = .ok (.invokevirtual 212, 3) := by decide +kernel
theorem dX3_putBlockKey_8 : decode cX3_putBlockKey 8 = .ok (.aload_n 0, 1) := by decide +kernel
theorem dX3_putBlockKey_9 : decode cX3_putBlockKey 9 = .ok (.aload_n 0, 1) := by decide +kernel
theorem dX3_putBlockKey_10 : decode cX3_putBlockKey 10 = .ok (.getfield 142, 3) := by decide +kernel
theorem dX3_putBlockKey_13 : decode cX3_putBlockKey 13 = .ok (.invokevirtual 161, 3) := by decide +kernel
theorem dX3_putBlockKey_16 : decode cX3_putBlockKey 16 = .ok (.iconst 4, 1) := by decide +kernel
theorem dX3_putBlockKey_17 : decode cX3_putBlockKey 17 = .ok (.ishr, 1) := by decide +kernel
theorem dX3_putBlockKey_18 : decode cX3_putBlockKey 18 = .ok (.invokevirtual 215, 3) := by decide +kernel
theorem dX3_putBlockKey_21 : decode cX3_putBlockKey 21 = .ok (.iconst 0, 1) := by decide +kernel
theorem dX3_putBlockKey_22 : decode cX3_putBlockKey 22 = .ok (.ireturn, 1) := by decide +kernel
theorem dX3_takeBlockKey_0 : decode cX3_takeBlockKey 0 = .ok (.aload_n 0, 1) := by decide +kernel
theorem dX3_takeBlockKey_1 : decode cX3_takeBlockKey 1 = .ok (.getfield 12, 3) := by decide +kernel
theorem dX3_takeBlockKey_4 : decode cX3_takeBlockKey 4 = .ok (.aload_n 0, 1) := by decide +kernel
theorem dX3_takeBlockKey_5 : decode cX3_takeBlockKey 5 = .ok (.invokevirtual 212, 3) := by decide +kernel
theorem dX3_takeBlockKey_8 : decode cX3_takeBlockKey 8 = .ok (.invokevirtual 218, 3) := by decide +kernel
theorem dX3_takeBlockKey_11 : decode cX3_takeBlockKey 11 = .ok (.istore_n 1, 1) := by decide +kernel
theorem dX3_takeBlockKey_12 : decode cX3_takeBlockKey 12 = .ok (.aload_n 0, 1) := by decide +kernel
theorem dX3_takeBlockKey_13 : decode cX3_takeBlockKey 13 = .ok (.aload_n 0, 1) := by decide +kernel
theorem dX3_takeBlockKey_14 : decode cX3_takeBlockKey 14 = .ok (.getfield 142, 3) := by decide +kernel
theorem dX3_takeBlockKey_17 : decode cX3_takeBlockKey 17 = .ok (.aload_n 0, 1) := by decide +kernel
theorem dX3_takeBlockKey_18 : decode cX3_takeBlockKey 18 = .ok (.aload_n 0, 1) := by decide +kernel
theorem dX3_takeBlockKey_19 : decode cX3_takeBlockKey 19 = .ok (.getfield 142, 3) := by decide +kernel
theorem dX3_takeBlockKey_22 : decode cX3_takeBlockKey 22 = .ok (.invokevirtual 161, 3) := by decide +kernel
theorem dX3_takeBlockKey_25 : decode cX3_takeBlockKey 25 = .ok (.sipush (-256), 3) := by decide +kernel
theorem dX3_takeBlockKey_28 : decode cX3_takeBlockKey 28 = .ok (.iand, 1) := by decide +kernel
theorem dX3_takeBlockKey_29 : decode cX3_takeBlockKey 29 = .ok (.iload_n 1, 1) := by decide +kernel
theorem dX3_takeBlockKey_30 : decode cX3_takeBlockKey 30 = .ok (.bipush 16, 2) := by decide +kernel
theorem dX3_takeBlockKey_32 : decode cX3_takeBlockKey 32 = .ok (.imul, 1) := by decide +kernel
theorem dX3_takeBlockKey_33 : decode cX3_takeBlockKey 33 = .ok (.ior, 1) := by decide +kernel
theorem dX3_takeBlockKey_34 : decode cX3_takeBlockKey 34 = .ok (.invokevirtual 206, 3) := by decide +kernel
theorem dX3_takeBlockKey_37 : decode cX3_takeBlockKey 37 = .ok (.iconst 0, 1) := by decide +kernel
theorem dX3_takeBlockKey_38 : decode cX3_takeBlockKey 38 = .ok (.ireturn, 1) := by decide +kernel
theorem dX3_blockInRegister_0 : decode cX3_blockInRegister 0 = .ok (.aload_n 0, 1) := by decide +kernel
theorem dX3_blockInRegister_1 : decode cX3_blockInRegister 1 = .ok (.aload_n 0, 1) := by decide +kernel
theorem dX3_blockInRegister_2 : decode cX3_blockInRegister 2 = .ok (.getfield 145, 3) := by decide +kernel
theorem dX3_blockInRegister_5 : decode cX3_blockInRegister 5 = .ok (.invokevirtual 161, 3) := by decide +kernel
theorem dX3_blockInRegister_8 : decode cX3_blockInRegister 8 = .ok (.sipush 2047, 3) := by decide +kernel
theorem dX3_blockInRegister_11 : decode cX3_blockInRegister 11 = .ok (.iand, 1) := by decide +kernel
theorem dX3_blockInRegister_12 : decode cX3_blockInRegister 12 = .ok (.bipush 8, 2) := by decide +kernel
theorem dX3_blockInRegister_14 : decode cX3_blockInRegister 14 = .ok (.ishr, 1) := by decide +kernel
theorem dX3_blockInRegister_15 : decode cX3_blockInRegister 15 = .ok (.ireturn, 1) := by decide +kernel
theorem dX3_callSupervisor_0 : decode cX3_callSupervisor 0 = .ok (.aload_n 0, 1) := by decide +kernel
theorem dX3_callSupervisor_1 : decode cX3_callSupervisor 1 = .ok (.bipush 32, 2) := by decide +kernel
theorem dX3_callSupervisor_3 : decode cX3_callSupervisor 3 = .ok (.bipush 96, 2) := by decide +kernel
theorem dX3_callSupervisor_5 : decode cX3_callSupervisor 5 = .ok (.aload_n 0, 1) := by decide +kernel
theorem dX3_callSupervisor_6 : decode cX3_callSupervisor 6 = .ok (.getfield 139, 3) := by decide +kernel
theorem dX3_callSupervisor_9 : decode cX3_callSupervisor 9 = .ok (.invokevirtual 82, 3) := by decide +kernel
theorem dX3_callSupervisor_12 : decode cX3_callSupervisor 12 = .ok (.iconst 0, 1) := by decide +kernel
theorem dX3_callSupervisor_13 : decode cX3_callSupervisor 13 = .ok (.ireturn, 1) := by decide +kernel
theorem dX3_loadAndTest_0 : decode cX3_loadAndTest 0 = .ok (.aload_n 0, 1) := by decide +kernel
theorem dX3_loadAndTest_1 : decode cX3_loadAndTest 1 = .ok (.aload_n 0, 1) := by decide +kernel
theorem dX3_loadAndTest_2 : decode cX3_loadAndTest 2 = .ok (.getfield 142, 3) := by decide +kernel
theorem dX3_loadAndTest_5 : decode cX3_loadAndTest 5 = .ok (.aload_n 0, 1) := by decide +kernel
theorem dX3_loadAndTest_6 : decode cX3_loadAndTest 6 = .ok (.aload_n 0, 1) := by decide +kernel
theorem dX3_loadAndTest_7 : decode cX3_loadAndTest 7 = .ok (.getfield 145, 3) := by decide +kernel
theorem dX3_loadAndTest_10 : decode cX3_loadAndTest 10 = .ok (.invokevirtual 161, 3) := by decide +kernel
theorem dX3_loadAndTest_13 : decode cX3_loadAndTest 13 = .ok (.invokevirtual 206, 3) := by decide +kernel
theorem dX3_loadAndTest_16 : decode cX3_loadAndTest 16 = .ok (.aload_n 0, 1) := by decide +kernel
theorem dX3_loadAndTest_17 : decode cX3_loadAndTest 17 = .ok (.getfield 21, 3) := by decide +kernel
theorem dX3_loadAndTest_20 : decode cX3_loadAndTest 20 = .ok (.aload_n 0, 1) := by decide +kernel
theorem dX3_loadAndTest_21 : decode cX3_loadAndTest 21 = .ok (.aload_n 0, 1) := by decide +kernel
theorem dX3_loadAndTest_22 : decode cX3_loadAndTest 22 = .ok (.getfield 142, 3) := by decide +kernel
theorem dX3_loadAndTest_25 : decode cX3_loadAndTest 25 = .ok (.invokevirtual 161, 3) := by decide +kernel
theorem dX3_loadAndTest_28 : decode cX3_loadAndTest 28 = .ok (.i2l, 1) := by decide +kernel
theorem dX3_loadAndTest_29 : decode cX3_loadAndTest 29 = .ok (.lconst 0, 1) := by decide +kernel
theorem dX3_loadAndTest_30 : decode cX3_loadAndTest 30 = .ok (.invokestatic 221, 3) := by decide +kernel
theorem dX3_loadAndTest_33 : decode cX3_loadAndTest 33 = .ok (.putfield 209, 3) := by decide +kernel
theorem dX3_loadAndTest_36 : decode cX3_loadAndTest 36 = .ok (.iconst 0, 1) := by decide +kernel
theorem dX3_loadAndTest_37 : decode cX3_loadAndTest 37 = .ok (.ireturn, 1) := by decide +kernel
theorem dX3_putLogical_0 : decode cX3_putLogical 0 = .ok (.aload_n 0, 1) := by decide +kernel
theorem dX3_putLogical_1 : decode cX3_putLogical 1 = .ok (.aload_n 0, 1) := by decide +kernel
theorem dX3_putLogical_2 : decode cX3_putLogical 2 = .ok (.getfield 142, 3) := by decide +kernel
theorem dX3_putLogical_5 : decode cX3_putLogical 5 = .ok (.iload_n 1, 1) := by decide +kernel
theorem dX3_putLogical_6 : decode cX3_putLogical 6 = .ok (.invokevirtual 206, 3) := by decide +kernel
theorem dX3_putLogical_9 : decode cX3_putLogical 9 = .ok (.aload_n 0, 1) := by decide +kernel
theorem dX3_putLogical_10 : decode cX3_putLogical 10 = .ok (.getfield 21, 3) := by decide +kernel
theorem dX3_putLogical_13 : decode cX3_putLogical 13 = .ok (.iload_n 1, 1) := by decide +kernel
theorem dX3_putLogical_14 : decode cX3_putLogical 14 = .ok (.ifCond .ne 7, 3) := by decide +kernel
theorem dX3_putLogical_17 : decode cX3_putLogical 17 = .ok (.iconst 0, 1) := by decide +kernel
theorem dX3_putLogical_18 : decode cX3_putLogical 18 = .ok (.goto 4, 3) := by decide +kernel
theorem dX3_putLogical_21 : decode cX3_putLogical 21 = .ok (.iconst 1, 1) := by decide +kernel
theorem dX3_putLogical_22 : decode cX3_putLogical 22 = .ok (.putfield 209, 3) := by decide +kernel
theorem dX3_putLogical_25 : decode cX3_putLogical 25 = .ok (.iconst 0, 1) := by decide +kernel
theorem dX3_putLogical_26 : decode cX3_putLogical 26 = .ok (.ireturn, 1) := by decide +kernel
theorem dX3_combine_0 : decode cX3_combine 0 = .ok (.aload_n 0, 1) := by decide +kernel
theorem dX3_combine_1 : decode cX3_combine 1 = .ok (.getfield 61, 3) := by decide +kernel
theorem dX3_combine_4 : decode cX3_combine 4 = .ok (.bipush 15, 2) := by decide +kernel
theorem dX3_combine_6 : decode cX3_combine 6 = .ok (.iand, 1) := by decide +kernel
theorem dX3_combine_7 : decode cX3_combine 7 = .ok (.tableswitch 76 8 10 #[25, 36, 59], 25) := by decide +kernel
theorem dX3_combine_32 : decode cX3_combine 32 = .ok (.aload_n 0, 1) := by decide +kernel
theorem dX3_combine_33 : decode cX3_combine 33 = .ok (.aload_n 0, 1) := by decide +kernel
theorem dX3_combine_34 : decode cX3_combine 34 = .ok (.getfield 142, 3) := by decide +kernel
theorem dX3_combine_37 : decode cX3_combine 37 = .ok (.iload_n 1, 1) := by decide +kernel
theorem dX3_combine_38 : decode cX3_combine 38 = .ok (.invokevirtual 206, 3) := by decide +kernel
theorem dX3_combine_41 : decode cX3_combine 41 = .ok (.iconst 0, 1) := by decide +kernel
theorem dX3_combine_42 : decode cX3_combine 42 = .ok (.ireturn, 1) := by decide +kernel
theorem dX3_combine_43 : decode cX3_combine 43 = .ok (.aload_n 0, 1) := by decide +kernel
theorem dX3_combine_44 : decode cX3_combine 44 = .ok (.getfield 21, 3) := by decide +kernel
theorem dX3_combine_47 : decode cX3_combine 47 = .ok (.aload_n 0, 1) := by decide +kernel
theorem dX3_combine_48 : decode cX3_combine 48 = .ok (.aload_n 0, 1) := by decide +kernel
theorem dX3_combine_49 : decode cX3_combine 49 = .ok (.getfield 142, 3) := by decide +kernel
theorem dX3_combine_52 : decode cX3_combine 52 = .ok (.invokevirtual 161, 3) := by decide +kernel
theorem dX3_combine_55 : decode cX3_combine 55 = .ok (.i2l, 1) := by decide +kernel
theorem dX3_combine_56 : decode cX3_combine 56 = .ok (.iload_n 1, 1) := by decide +kernel
theorem dX3_combine_57 : decode cX3_combine 57 = .ok (.i2l, 1) := by decide +kernel
theorem dX3_combine_58 : decode cX3_combine 58 = .ok (.invokestatic 221, 3) := by decide +kernel
theorem dX3_combine_61 : decode cX3_combine 61 = .ok (.putfield 209, 3) := by decide +kernel
theorem dX3_combine_64 : decode cX3_combine 64 = .ok (.iconst 0, 1) := by decide +kernel
theorem dX3_combine_65 : decode cX3_combine 65 = .ok (.ireturn, 1) := by decide +kernel
theorem dX3_combine_66 : decode cX3_combine 66 = .ok (.aload_n 0, 1) := by decide +kernel
theorem dX3_combine_67 : decode cX3_combine 67 = .ok (.aload_n 0, 1) := by decide +kernel
theorem dX3_combine_68 : decode cX3_combine 68 = .ok (.aload_n 0, 1) := by decide +kernel
theorem dX3_combine_69 : decode cX3_combine 69 = .ok (.getfield 142, 3) := by decide +kernel
theorem dX3_combine_72 : decode cX3_combine 72 = .ok (.invokevirtual 161, 3) := by decide +kernel
theorem dX3_combine_75 : decode cX3_combine 75 = .ok (.i2l, 1) := by decide +kernel
theorem dX3_combine_76 : decode cX3_combine 76 = .ok (.iload_n 1, 1) := by decide +kernel
theorem dX3_combine_77 : decode cX3_combine 77 = .ok (.i2l, 1) := by decide +kernel
theorem dX3_combine_78 : decode cX3_combine 78 = .ok (.ladd, 1) := by decide +kernel
theorem dX3_combine_79 : decode cX3_combine 79 = .ok (.invokevirtual 225, 3) := by decide +kernel
theorem dX3_combine_82 : decode cX3_combine 82 = .ok (.ireturn, 1) := by decide +kernel
theorem dX3_combine_83 : decode cX3_combine 83 = .ok (.aload_n 0, 1) := by decide +kernel
theorem dX3_combine_84 : decode cX3_combine 84 = .ok (.aload_n 0, 1) := by decide +kernel
theorem dX3_combine_85 : decode cX3_combine 85 = .ok (.aload_n 0, 1) := by decide +kernel
theorem dX3_combine_86 : decode cX3_combine 86 = .ok (.getfield 142, 3) := by decide +kernel
theorem dX3_combine_89 : decode cX3_combine 89 = .ok (.invokevirtual 161, 3) := by decide +kernel
theorem dX3_combine_92 : decode cX3_combine 92 = .ok (.i2l, 1) := by decide +kernel
theorem dX3_combine_93 : decode cX3_combine 93 = .ok (.iload_n 1, 1) := by decide +kernel
theorem dX3_combine_94 : decode cX3_combine 94 = .ok (.i2l, 1) := by decide +kernel
theorem dX3_combine_95 : decode cX3_combine 95 = .ok (.lsub, 1) := by decide +kernel
theorem dX3_combine_96 : decode cX3_combine 96 = .ok (.invokevirtual 225, 3) := by decide +kernel
theorem dX3_combine_99 : decode cX3_combine 99 = .ok (.ireturn, 1) := by decide +kernel
theorem dX3_putSum_0 : decode cX3_putSum 0 = .ok (.lload_n 1, 1) := by decide +kernel
theorem dX3_putSum_1 : decode cX3_putSum 1 = .ok (.l2i, 1) := by decide +kernel
theorem dX3_putSum_2 : decode cX3_putSum 2 = .ok (.istore_n 3, 1) := by decide +kernel
theorem dX3_putSum_3 : decode cX3_putSum 3 = .ok (.aload_n 0, 1) := by decide +kernel
theorem dX3_putSum_4 : decode cX3_putSum 4 = .ok (.aload_n 0, 1) := by decide +kernel
theorem dX3_putSum_5 : decode cX3_putSum 5 = .ok (.getfield 142, 3) := by decide +kernel
theorem dX3_putSum_8 : decode cX3_putSum 8 = .ok (.iload_n 3, 1) := by decide +kernel
theorem dX3_putSum_9 : decode cX3_putSum 9 = .ok (.invokevirtual 206, 3) := by decide +kernel
theorem dX3_putSum_12 : decode cX3_putSum 12 = .ok (.iload_n 3, 1) := by decide +kernel
theorem dX3_putSum_13 : decode cX3_putSum 13 = .ok (.i2l, 1) := by decide +kernel
theorem dX3_putSum_14 : decode cX3_putSum 14 = .ok (.lload_n 1, 1) := by decide +kernel
theorem dX3_putSum_15 : decode cX3_putSum 15 = .ok (.lcmp, 1) := by decide +kernel
theorem dX3_putSum_16 : decode cX3_putSum 16 = .ok (.ifCond .ne 18, 3) := by decide +kernel
theorem dX3_putSum_19 : decode cX3_putSum 19 = .ok (.aload_n 0, 1) := by decide +kernel
theorem dX3_putSum_20 : decode cX3_putSum 20 = .ok (.getfield 21, 3) := by decide +kernel
theorem dX3_putSum_23 : decode cX3_putSum 23 = .ok (.iload_n 3, 1) := by decide +kernel
theorem dX3_putSum_24 : decode cX3_putSum 24 = .ok (.i2l, 1) := by decide +kernel
theorem dX3_putSum_25 : decode cX3_putSum 25 = .ok (.lconst 0, 1) := by decide +kernel
theorem dX3_putSum_26 : decode cX3_putSum 26 = .ok (.invokestatic 221, 3) := by decide +kernel
theorem dX3_putSum_29 : decode cX3_putSum 29 = .ok (.putfield 209, 3) := by decide +kernel
theorem dX3_putSum_32 : decode cX3_putSum 32 = .ok (.iconst 0, 1) := by decide +kernel
theorem dX3_putSum_33 : decode cX3_putSum 33 = .ok (.ireturn, 1) := by decide +kernel
theorem dX3_putSum_34 : decode cX3_putSum 34 = .ok (.aload_n 0, 1) := by decide +kernel
theorem dX3_putSum_35 : decode cX3_putSum 35 = .ok (.getfield 21, 3) := by decide +kernel
theorem dX3_putSum_38 : decode cX3_putSum 38 = .ok (.iconst 3, 1) := by decide +kernel
theorem dX3_putSum_39 : decode cX3_putSum 39 = .ok (.putfield 209, 3) := by decide +kernel
theorem dX3_putSum_42 : decode cX3_putSum 42 = .ok (.aload_n 0, 1) := by decide +kernel
theorem dX3_putSum_43 : decode cX3_putSum 43 = .ok (.getfield 21, 3) := by decide +kernel
theorem dX3_putSum_46 : decode cX3_putSum 46 = .ok (.bipush 8, 2) := by decide +kernel
theorem dX3_putSum_48 : decode cX3_putSum 48 = .ok (.invokevirtual 90, 3) := by decide +kernel
theorem dX3_putSum_51 : decode cX3_putSum 51 = .ok (.ifCond .eq 8, 3) := by decide +kernel
theorem dX3_putSum_54 : decode cX3_putSum 54 = .ok (.bipush 8, 2) := by decide +kernel
theorem dX3_putSum_56 : decode cX3_putSum 56 = .ok (.goto 4, 3) := by decide +kernel
theorem dX3_putSum_59 : decode cX3_putSum 59 = .ok (.iconst 0, 1) := by decide +kernel
theorem dX3_putSum_60 : decode cX3_putSum 60 = .ok (.ireturn, 1) := by decide +kernel
theorem dX3_multiply_0 : decode cX3_multiply 0 = .ok (.aload_n 0, 1) := by decide +kernel
theorem dX3_multiply_1 : decode cX3_multiply 1 = .ok (.getfield 142, 3) := by decide +kernel
theorem dX3_multiply_4 : decode cX3_multiply 4 = .ok (.iconst 2, 1) := by decide +kernel
theorem dX3_multiply_5 : decode cX3_multiply 5 = .ok (.irem, 1) := by decide +kernel
theorem dX3_multiply_6 : decode cX3_multiply 6 = .ok (.ifCond .eq 6, 3) := by decide +kernel
theorem dX3_multiply_9 : decode cX3_multiply 9 = .ok (.bipush 6, 2) := by decide +kernel
theorem dX3_multiply_11 : decode cX3_multiply 11 = .ok (.ireturn, 1) := by decide +kernel
theorem dX3_multiply_12 : decode cX3_multiply 12 = .ok (.aload_n 0, 1) := by decide +kernel
theorem dX3_multiply_13 : decode cX3_multiply 13 = .ok (.aload_n 0, 1) := by decide +kernel
theorem dX3_multiply_14 : decode cX3_multiply 14 = .ok (.getfield 142, 3) := by decide +kernel
theorem dX3_multiply_17 : decode cX3_multiply 17 = .ok (.iconst 1, 1) := by decide +kernel
theorem dX3_multiply_18 : decode cX3_multiply 18 = .ok (.iadd, 1) := by decide +kernel
theorem dX3_multiply_19 : decode cX3_multiply 19 = .ok (.invokevirtual 161, 3) := by decide +kernel
theorem dX3_multiply_22 : decode cX3_multiply 22 = .ok (.i2l, 1) := by decide +kernel
theorem dX3_multiply_23 : decode cX3_multiply 23 = .ok (.aload_n 0, 1) := by decide +kernel
theorem dX3_multiply_24 : decode cX3_multiply 24 = .ok (.aload_n 0, 1) := by decide +kernel
theorem dX3_multiply_25 : decode cX3_multiply 25 = .ok (.getfield 145, 3) := by decide +kernel
theorem dX3_multiply_28 : decode cX3_multiply 28 = .ok (.invokevirtual 161, 3) := by decide +kernel
theorem dX3_multiply_31 : decode cX3_multiply 31 = .ok (.i2l, 1) := by decide +kernel
theorem dX3_multiply_32 : decode cX3_multiply 32 = .ok (.lmul, 1) := by decide +kernel
theorem dX3_multiply_33 : decode cX3_multiply 33 = .ok (.lstore_n 1, 1) := by decide +kernel
theorem dX3_multiply_34 : decode cX3_multiply 34 = .ok (.aload_n 0, 1) := by decide +kernel
theorem dX3_multiply_35 : decode cX3_multiply 35 = .ok (.aload_n 0, 1) := by decide +kernel
theorem dX3_multiply_36 : decode cX3_multiply 36 = .ok (.getfield 142, 3) := by decide +kernel
theorem dX3_multiply_39 : decode cX3_multiply 39 = .ok (.lload_n 1, 1) := by decide +kernel
theorem dX3_multiply_40 : decode cX3_multiply 40 = .ok (.bipush 32, 2) := by decide +kernel
theorem dX3_multiply_42 : decode cX3_multiply 42 = .ok (.lshr, 1) := by decide +kernel
theorem dX3_multiply_43 : decode cX3_multiply 43 = .ok (.l2i, 1) := by decide +kernel
theorem dX3_multiply_44 : decode cX3_multiply 44 = .ok (.invokevirtual 206, 3) := by decide +kernel
theorem dX3_multiply_47 : decode cX3_multiply 47 = .ok (.aload_n 0, 1) := by decide +kernel
theorem dX3_multiply_48 : decode cX3_multiply 48 = .ok (.aload_n 0, 1) := by decide +kernel
theorem dX3_multiply_49 : decode cX3_multiply 49 = .ok (.getfield 142, 3) := by decide +kernel
theorem dX3_multiply_52 : decode cX3_multiply 52 = .ok (.iconst 1, 1) := by decide +kernel
theorem dX3_multiply_53 : decode cX3_multiply 53 = .ok (.iadd, 1) := by decide +kernel
theorem dX3_multiply_54 : decode cX3_multiply 54 = .ok (.lload_n 1, 1) := by decide +kernel
theorem dX3_multiply_55 : decode cX3_multiply 55 = .ok (.l2i, 1) := by decide +kernel
theorem dX3_multiply_56 : decode cX3_multiply 56 = .ok (.invokevirtual 206, 3) := by decide +kernel
theorem dX3_multiply_59 : decode cX3_multiply 59 = .ok (.iconst 0, 1) := by decide +kernel
theorem dX3_multiply_60 : decode cX3_multiply 60 = .ok (.ireturn, 1) := by decide +kernel
theorem dX3_divide_0 : decode cX3_divide 0 = .ok (.aload_n 0, 1) := by decide +kernel
theorem dX3_divide_1 : decode cX3_divide 1 = .ok (.getfield 142, 3) := by decide +kernel
theorem dX3_divide_4 : decode cX3_divide 4 = .ok (.iconst 2, 1) := by decide +kernel
theorem dX3_divide_5 : decode cX3_divide 5 = .ok (.irem, 1) := by decide +kernel
theorem dX3_divide_6 : decode cX3_divide 6 = .ok (.ifCond .eq 6, 3) := by decide +kernel
theorem dX3_divide_9 : decode cX3_divide 9 = .ok (.bipush 6, 2) := by decide +kernel
theorem dX3_divide_11 : decode cX3_divide 11 = .ok (.ireturn, 1) := by decide +kernel
theorem dX3_divide_12 : decode cX3_divide 12 = .ok (.aload_n 0, 1) := by decide +kernel
theorem dX3_divide_13 : decode cX3_divide 13 = .ok (.aload_n 0, 1) := by decide +kernel
theorem dX3_divide_14 : decode cX3_divide 14 = .ok (.getfield 145, 3) := by decide +kernel
theorem dX3_divide_17 : decode cX3_divide 17 = .ok (.invokevirtual 161, 3) := by decide +kernel
theorem dX3_divide_20 : decode cX3_divide 20 = .ok (.i2l, 1) := by decide +kernel
theorem dX3_divide_21 : decode cX3_divide 21 = .ok (.lstore_n 1, 1) := by decide +kernel
theorem dX3_divide_22 : decode cX3_divide 22 = .ok (.lload_n 1, 1) := by decide +kernel
theorem dX3_divide_23 : decode cX3_divide 23 = .ok (.lconst 0, 1) := by decide +kernel
theorem dX3_divide_24 : decode cX3_divide 24 = .ok (.lcmp, 1) := by decide +kernel
theorem dX3_divide_25 : decode cX3_divide 25 = .ok (.ifCond .ne 6, 3) := by decide +kernel
theorem dX3_divide_28 : decode cX3_divide 28 = .ok (.bipush 9, 2) := by decide +kernel
theorem dX3_divide_30 : decode cX3_divide 30 = .ok (.ireturn, 1) := by decide +kernel
theorem dX3_divide_31 : decode cX3_divide 31 = .ok (.aload_n 0, 1) := by decide +kernel
theorem dX3_divide_32 : decode cX3_divide 32 = .ok (.aload_n 0, 1) := by decide +kernel
theorem dX3_divide_33 : decode cX3_divide 33 = .ok (.getfield 142, 3) := by decide +kernel
theorem dX3_divide_36 : decode cX3_divide 36 = .ok (.invokevirtual 161, 3) := by decide +kernel
theorem dX3_divide_39 : decode cX3_divide 39 = .ok (.i2l, 1) := by decide +kernel
theorem dX3_divide_40 : decode cX3_divide 40 = .ok (.bipush 32, 2) := by decide +kernel
theorem dX3_divide_42 : decode cX3_divide 42 = .ok (.lshl, 1) := by decide +kernel
theorem dX3_divide_43 : decode cX3_divide 43 = .ok (.aload_n 0, 1) := by decide +kernel
theorem dX3_divide_44 : decode cX3_divide 44 = .ok (.aload_n 0, 1) := by decide +kernel
theorem dX3_divide_45 : decode cX3_divide 45 = .ok (.getfield 142, 3) := by decide +kernel
theorem dX3_divide_48 : decode cX3_divide 48 = .ok (.iconst 1, 1) := by decide +kernel
theorem dX3_divide_49 : decode cX3_divide 49 = .ok (.iadd, 1) := by decide +kernel
theorem dX3_divide_50 : decode cX3_divide 50 = .ok (.invokevirtual 161, 3) := by decide +kernel
theorem dX3_divide_53 : decode cX3_divide 53 = .ok (.i2l, 1) := by decide +kernel
theorem dX3_divide_54 : decode cX3_divide 54 = .ok (.ldc2_w 229, 3) := by decide +kernel
theorem dX3_divide_57 : decode cX3_divide 57 = .ok (.land, 1) := by decide +kernel
theorem dX3_divide_58 : decode cX3_divide 58 = .ok (.lor, 1) := by decide +kernel
theorem dX3_divide_59 : decode cX3_divide 59 = .ok (.lstore_n 3, 1) := by decide +kernel
theorem dX3_divide_60 : decode cX3_divide 60 = .ok (.lload_n 3, 1) := by decide +kernel
theorem dX3_divide_61 : decode cX3_divide 61 = .ok (.lload_n 1, 1) := by decide +kernel
theorem dX3_divide_62 : decode cX3_divide 62 = .ok (.ldiv, 1) := by decide +kernel
theorem dX3_divide_63 : decode cX3_divide 63 = .ok (.lstore 5, 2) := by decide +kernel
theorem dX3_divide_65 : decode cX3_divide 65 = .ok (.lload 5, 2) := by decide +kernel
theorem dX3_divide_67 : decode cX3_divide 67 = .ok (.lload 5, 2) := by decide +kernel
theorem dX3_divide_69 : decode cX3_divide 69 = .ok (.l2i, 1) := by decide +kernel
theorem dX3_divide_70 : decode cX3_divide 70 = .ok (.i2l, 1) := by decide +kernel
theorem dX3_divide_71 : decode cX3_divide 71 = .ok (.lcmp, 1) := by decide +kernel
theorem dX3_divide_72 : decode cX3_divide 72 = .ok (.ifCond .eq 6, 3) := by decide +kernel
theorem dX3_divide_75 : decode cX3_divide 75 = .ok (.bipush 9, 2) := by decide +kernel
theorem dX3_divide_77 : decode cX3_divide 77 = .ok (.ireturn, 1) := by decide +kernel
theorem dX3_divide_78 : decode cX3_divide 78 = .ok (.aload_n 0, 1) := by decide +kernel
theorem dX3_divide_79 : decode cX3_divide 79 = .ok (.aload_n 0, 1) := by decide +kernel
theorem dX3_divide_80 : decode cX3_divide 80 = .ok (.getfield 142, 3) := by decide +kernel
theorem dX3_divide_83 : decode cX3_divide 83 = .ok (.lload_n 3, 1) := by decide +kernel
theorem dX3_divide_84 : decode cX3_divide 84 = .ok (.lload_n 1, 1) := by decide +kernel
theorem dX3_divide_85 : decode cX3_divide 85 = .ok (.lrem, 1) := by decide +kernel
theorem dX3_divide_86 : decode cX3_divide 86 = .ok (.l2i, 1) := by decide +kernel
theorem dX3_divide_87 : decode cX3_divide 87 = .ok (.invokevirtual 206, 3) := by decide +kernel
theorem dX3_divide_90 : decode cX3_divide 90 = .ok (.aload_n 0, 1) := by decide +kernel
theorem dX3_divide_91 : decode cX3_divide 91 = .ok (.aload_n 0, 1) := by decide +kernel
theorem dX3_divide_92 : decode cX3_divide 92 = .ok (.getfield 142, 3) := by decide +kernel
theorem dX3_divide_95 : decode cX3_divide 95 = .ok (.iconst 1, 1) := by decide +kernel
theorem dX3_divide_96 : decode cX3_divide 96 = .ok (.iadd, 1) := by decide +kernel
theorem dX3_divide_97 : decode cX3_divide 97 = .ok (.lload 5, 2) := by decide +kernel
theorem dX3_divide_99 : decode cX3_divide 99 = .ok (.l2i, 1) := by decide +kernel
theorem dX3_divide_100 : decode cX3_divide 100 = .ok (.invokevirtual 206, 3) := by decide +kernel
theorem dX3_divide_103 : decode cX3_divide 103 = .ok (.iconst 0, 1) := by decide +kernel
theorem dX3_divide_104 : decode cX3_divide 104 = .ok (.ireturn, 1) := by decide +kernel
theorem dX3_doRx_0 : decode cX3_doRx 0 = .ok (.aload_n 0, 1) := by decide +kernel
theorem dX3_doRx_1 : decode cX3_doRx 1 = .ok (.getfield 61, 3) := by decide +kernel
theorem dX3_doRx_4 : decode cX3_doRx 4 = .ok (.tableswitch 200 64 91 #[128, 133, 138, 151, 200, 156, 161, 166, 175, 175, 175, 200, 200, 200, 180, 185, 190, 200, 200, 200, 200, 200, 200, 200, 195, 195, 195, 195], 128) := by decide +kernel
theorem dX3_doRx_132 : decode cX3_doRx 132 = .ok (.aload_n 0, 1) := by decide +kernel
theorem dX3_doRx_133 : decode cX3_doRx 133 = .ok (.invokevirtual 231, 3) := by decide +kernel
theorem dX3_doRx_136 : decode cX3_doRx 136 = .ok (.ireturn, 1) := by decide +kernel
theorem dX3_doRx_137 : decode cX3_doRx 137 = .ok (.aload_n 0, 1) := by decide +kernel
theorem dX3_doRx_138 : decode cX3_doRx 138 = .ok (.invokevirtual 234, 3) := by decide +kernel
theorem dX3_doRx_141 : decode cX3_doRx 141 = .ok (.ireturn, 1) := by decide +kernel
theorem dX3_doRx_142 : decode cX3_doRx 142 = .ok (.aload_n 0, 1) := by decide +kernel
theorem dX3_doRx_143 : decode cX3_doRx 143 = .ok (.aload_n 0, 1) := by decide +kernel
theorem dX3_doRx_144 : decode cX3_doRx 144 = .ok (.aload_n 0, 1) := by decide +kernel
theorem dX3_doRx_145 : decode cX3_doRx 145 = .ok (.getfield 142, 3) := by decide +kernel
theorem dX3_doRx_148 : decode cX3_doRx 148 = .ok (.invokevirtual 161, 3) := by decide +kernel
theorem dX3_doRx_151 : decode cX3_doRx 151 = .ok (.invokevirtual 237, 3) := by decide +kernel
theorem dX3_doRx_154 : decode cX3_doRx 154 = .ok (.ireturn, 1) := by decide +kernel
theorem dX3_doRx_155 : decode cX3_doRx 155 = .ok (.aload_n 0, 1) := by decide +kernel
theorem dX3_doRx_156 : decode cX3_doRx 156 = .ok (.invokevirtual 240, 3) := by decide +kernel
theorem dX3_doRx_159 : decode cX3_doRx 159 = .ok (.ireturn, 1) := by decide +kernel
theorem dX3_doRx_160 : decode cX3_doRx 160 = .ok (.aload_n 0, 1) := by decide +kernel
theorem dX3_doRx_161 : decode cX3_doRx 161 = .ok (.invokevirtual 243, 3) := by decide +kernel
theorem dX3_doRx_164 : decode cX3_doRx 164 = .ok (.ireturn, 1) := by decide +kernel
theorem dX3_doRx_165 : decode cX3_doRx 165 = .ok (.aload_n 0, 1) := by decide +kernel
theorem dX3_doRx_166 : decode cX3_doRx 166 = .ok (.invokevirtual 246, 3) := by decide +kernel
theorem dX3_doRx_169 : decode cX3_doRx 169 = .ok (.ireturn, 1) := by decide +kernel
theorem dX3_doRx_170 : decode cX3_doRx 170 = .ok (.aload_n 0, 1) := by decide +kernel
theorem dX3_doRx_171 : decode cX3_doRx 171 = .ok (.aload_n 0, 1) := by decide +kernel
theorem dX3_doRx_172 : decode cX3_doRx 172 = .ok (.getfield 152, 3) := by decide +kernel
theorem dX3_doRx_175 : decode cX3_doRx 175 = .ok (.invokevirtual 179, 3) := by decide +kernel
theorem dX3_doRx_178 : decode cX3_doRx 178 = .ok (.ireturn, 1) := by decide +kernel
theorem dX3_doRx_179 : decode cX3_doRx 179 = .ok (.aload_n 0, 1) := by decide +kernel
theorem dX3_doRx_180 : decode cX3_doRx 180 = .ok (.invokevirtual 249, 3) := by decide +kernel
theorem dX3_doRx_183 : decode cX3_doRx 183 = .ok (.ireturn, 1) := by decide +kernel
theorem dX3_doRx_184 : decode cX3_doRx 184 = .ok (.aload_n 0, 1) := by decide +kernel
theorem dX3_doRx_185 : decode cX3_doRx 185 = .ok (.invokevirtual 252, 3) := by decide +kernel
theorem dX3_doRx_188 : decode cX3_doRx 188 = .ok (.ireturn, 1) := by decide +kernel
theorem dX3_doRx_189 : decode cX3_doRx 189 = .ok (.aload_n 0, 1) := by decide +kernel
theorem dX3_doRx_190 : decode cX3_doRx 190 = .ok (.invokevirtual 255, 3) := by decide +kernel
theorem dX3_doRx_193 : decode cX3_doRx 193 = .ok (.ireturn, 1) := by decide +kernel
theorem dX3_doRx_194 : decode cX3_doRx 194 = .ok (.aload_n 0, 1) := by decide +kernel
theorem dX3_doRx_195 : decode cX3_doRx 195 = .ok (.invokevirtual 258, 3) := by decide +kernel
theorem dX3_doRx_198 : decode cX3_doRx 198 = .ok (.ireturn, 1) := by decide +kernel
theorem dX3_doRx_199 : decode cX3_doRx 199 = .ok (.aload_n 0, 1) := by decide +kernel
theorem dX3_doRx_200 : decode cX3_doRx 200 = .ok (.invokevirtual 261, 3) := by decide +kernel
theorem dX3_doRx_203 : decode cX3_doRx 203 = .ok (.ireturn, 1) := by decide +kernel
theorem dX3_doRx_204 : decode cX3_doRx 204 = .ok (.iconst 1, 1) := by decide +kernel
theorem dX3_doRx_205 : decode cX3_doRx 205 = .ok (.ireturn, 1) := by decide +kernel
theorem dX3_storeHalfword_0 : decode cX3_storeHalfword 0 = .ok (.aload_n 0, 1) := by decide +kernel
theorem dX3_storeHalfword_1 : decode cX3_storeHalfword 1 = .ok (.aload_n 0, 1) := by decide +kernel
theorem dX3_storeHalfword_2 : decode cX3_storeHalfword 2 = .ok (.getfield 152, 3) := by decide +kernel
theorem dX3_storeHalfword_5 : decode cX3_storeHalfword 5 = .ok (.iconst 2, 1) := by decide +kernel
theorem dX3_storeHalfword_6 : decode cX3_storeHalfword 6 = .ok (.iconst 2, 1) := by decide +kernel
theorem dX3_storeHalfword_7 : decode cX3_storeHalfword 7 = .ok (.invokevirtual 264, 3) := by decide +kernel
theorem dX3_storeHalfword_10 : decode cX3_storeHalfword 10 = .ok (.istore_n 1, 1) := by decide +kernel
theorem dX3_storeHalfword_11 : decode cX3_storeHalfword 11 = .ok (.iload_n 1, 1) := by decide +kernel
theorem dX3_storeHalfword_12 : decode cX3_storeHalfword 12 = .ok (.ifCond .ne 22, 3) := by decide +kernel
theorem dX3_storeHalfword_15 : decode cX3_storeHalfword 15 = .ok (.aload_n 0, 1) := by decide +kernel
theorem dX3_storeHalfword_16 : decode cX3_storeHalfword 16 = .ok (.getfield 12, 3) := by decide +kernel
theorem dX3_storeHalfword_19 : decode cX3_storeHalfword 19 = .ok (.aload_n 0, 1) := by decide +kernel
theorem dX3_storeHalfword_20 : decode cX3_storeHalfword 20 = .ok (.getfield 152, 3) := by decide +kernel
theorem dX3_storeHalfword_23 : decode cX3_storeHalfword 23 = .ok (.aload_n 0, 1) := by decide +kernel
theorem dX3_storeHalfword_24 : decode cX3_storeHalfword 24 = .ok (.aload_n 0, 1) := by decide +kernel
theorem dX3_storeHalfword_25 : decode cX3_storeHalfword 25 = .ok (.getfield 142, 3) := by decide +kernel
theorem dX3_storeHalfword_28 : decode cX3_storeHalfword 28 = .ok (.invokevirtual 161, 3) := by decide +kernel
theorem dX3_storeHalfword_31 : decode cX3_storeHalfword 31 = .ok (.invokevirtual 267, 3) := by decide +kernel
theorem dX3_storeHalfword_34 : decode cX3_storeHalfword 34 = .ok (.iload_n 1, 1) := by decide +kernel
theorem dX3_storeHalfword_35 : decode cX3_storeHalfword 35 = .ok (.ireturn, 1) := by decide +kernel
theorem dX3_storeWord_0 : decode cX3_storeWord 0 = .ok (.aload_n 0, 1) := by decide +kernel
theorem dX3_storeWord_1 : decode cX3_storeWord 1 = .ok (.aload_n 0, 1) := by decide +kernel
theorem dX3_storeWord_2 : decode cX3_storeWord 2 = .ok (.getfield 152, 3) := by decide +kernel
theorem dX3_storeWord_5 : decode cX3_storeWord 5 = .ok (.iconst 4, 1) := by decide +kernel
theorem dX3_storeWord_6 : decode cX3_storeWord 6 = .ok (.iconst 4, 1) := by decide +kernel
theorem dX3_storeWord_7 : decode cX3_storeWord 7 = .ok (.invokevirtual 264, 3) := by decide +kernel
theorem dX3_storeWord_10 : decode cX3_storeWord 10 = .ok (.istore_n 1, 1) := by decide +kernel
theorem dX3_storeWord_11 : decode cX3_storeWord 11 = .ok (.iload_n 1, 1) := by decide +kernel
theorem dX3_storeWord_12 : decode cX3_storeWord 12 = .ok (.ifCond .ne 22, 3) := by decide +kernel
theorem dX3_storeWord_15 : decode cX3_storeWord 15 = .ok (.aload_n 0, 1) := by decide +kernel
theorem dX3_storeWord_16 : decode cX3_storeWord 16 = .ok (.getfield 12, 3) := by decide +kernel
theorem dX3_storeWord_19 : decode cX3_storeWord 19 = .ok (.aload_n 0, 1) := by decide +kernel
theorem dX3_storeWord_20 : decode cX3_storeWord 20 = .ok (.getfield 152, 3) := by decide +kernel
theorem dX3_storeWord_23 : decode cX3_storeWord 23 = .ok (.aload_n 0, 1) := by decide +kernel
theorem dX3_storeWord_24 : decode cX3_storeWord 24 = .ok (.aload_n 0, 1) := by decide +kernel
theorem dX3_storeWord_25 : decode cX3_storeWord 25 = .ok (.getfield 142, 3) := by decide +kernel
theorem dX3_storeWord_28 : decode cX3_storeWord 28 = .ok (.invokevirtual 161, 3) := by decide +kernel
theorem dX3_storeWord_31 : decode cX3_storeWord 31 = .ok (.invokevirtual 104, 3) := by decide +kernel
theorem dX3_storeWord_34 : decode cX3_storeWord 34 = .ok (.iload_n 1, 1) := by decide +kernel
theorem dX3_storeWord_35 : decode cX3_storeWord 35 = .ok (.ireturn, 1) := by decide +kernel
theorem dX3_storeByte_0 : decode cX3_storeByte 0 = .ok (.aload_n 0, 1) := by decide +kernel
theorem dX3_storeByte_1 : decode cX3_storeByte 1 = .ok (.aload_n 0, 1) := by decide +kernel
theorem dX3_storeByte_2 : decode cX3_storeByte 2 = .ok (.getfield 152, 3) := by decide +kernel
theorem dX3_storeByte_5 : decode cX3_storeByte 5 = .ok (.iconst 1, 1) := by decide +kernel
theorem dX3_storeByte_6 : decode cX3_storeByte 6 = .ok (.iconst 1, 1) := by decide +kernel
theorem dX3_storeByte_7 : decode cX3_storeByte 7 = .ok (.invokevirtual 264, 3) := by decide +kernel
theorem dX3_storeByte_10 : decode cX3_storeByte 10 = .ok (.istore_n 2, 1) := by decide +kernel
theorem dX3_storeByte_11 : decode cX3_storeByte 11 = .ok (.iload_n 2, 1) := by decide +kernel
theorem dX3_storeByte_12 : decode cX3_storeByte 12 = .ok (.ifCond .ne 15, 3) := by decide +kernel
theorem dX3_storeByte_15 : decode cX3_storeByte 15 = .ok (.aload_n 0, 1) := by decide +kernel
theorem dX3_storeByte_16 : decode cX3_storeByte 16 = .ok (.getfield 12, 3) := by decide +kernel
theorem dX3_storeByte_19 : decode cX3_storeByte 19 = .ok (.aload_n 0, 1) := by decide +kernel
theorem dX3_storeByte_20 : decode cX3_storeByte 20 = .ok (.getfield 152, 3) := by decide +kernel
theorem dX3_storeByte_23 : decode cX3_storeByte 23 = .ok (.iload_n 1, 1) := by decide +kernel
theorem dX3_storeByte_24 : decode cX3_storeByte 24 = .ok (.invokevirtual 270, 3) := by decide +kernel
theorem dX3_storeByte_27 : decode cX3_storeByte 27 = .ok (.iload_n 2, 1) := by decide +kernel
theorem dX3_storeByte_28 : decode cX3_storeByte 28 = .ok (.ireturn, 1) := by decide +kernel
theorem dX3_loadAddress_0 : decode cX3_loadAddress 0 = .ok (.aload_n 0, 1) := by decide +kernel
theorem dX3_loadAddress_1 : decode cX3_loadAddress 1 = .ok (.aload_n 0, 1) := by decide +kernel
theorem dX3_loadAddress_2 : decode cX3_loadAddress 2 = .ok (.getfield 142, 3) := by decide +kernel
theorem dX3_loadAddress_5 : decode cX3_loadAddress 5 = .ok (.aload_n 0, 1) := by decide +kernel
theorem dX3_loadAddress_6 : decode cX3_loadAddress 6 = .ok (.getfield 152, 3) := by decide +kernel
theorem dX3_loadAddress_9 : decode cX3_loadAddress 9 = .ok (.invokevirtual 206, 3) := by decide +kernel
theorem dX3_loadAddress_12 : decode cX3_loadAddress 12 = .ok (.iconst 0, 1) := by decide +kernel
theorem dX3_loadAddress_13 : decode cX3_loadAddress 13 = .ok (.ireturn, 1) := by decide +kernel
theorem dX3_insertByte_0 : decode cX3_insertByte 0 = .ok (.aload_n 0, 1) := by decide +kernel
theorem dX3_insertByte_1 : decode cX3_insertByte 1 = .ok (.getfield 152, 3) := by decide +kernel
theorem dX3_insertByte_4 : decode cX3_insertByte 4 = .ok (.iconst 1, 1) := by decide +kernel
theorem dX3_insertByte_5 : decode cX3_insertByte 5 = .ok (.iconst 1, 1) := by decide +kernel
theorem dX3_insertByte_6 : decode cX3_insertByte 6 = .ok (.invokestatic 165, 3) := by decide +kernel
theorem dX3_insertByte_9 : decode cX3_insertByte 9 = .ok (.istore_n 1, 1) := by decide +kernel
theorem dX3_insertByte_10 : decode cX3_insertByte 10 = .ok (.iload_n 1, 1) := by decide +kernel
theorem dX3_insertByte_11 : decode cX3_insertByte 11 = .ok (.ifCond .ne 35, 3) := by decide +kernel
theorem dX3_insertByte_14 : decode cX3_insertByte 14 = .ok (.aload_n 0, 1) := by decide +kernel
theorem dX3_insertByte_15 : decode cX3_insertByte 15 = .ok (.aload_n 0, 1) := by decide +kernel
theorem dX3_insertByte_16 : decode cX3_insertByte 16 = .ok (.getfield 142, 3) := by decide +kernel
theorem dX3_insertByte_19 : decode cX3_insertByte 19 = .ok (.aload_n 0, 1) := by decide +kernel
theorem dX3_insertByte_20 : decode cX3_insertByte 20 = .ok (.aload_n 0, 1) := by decide +kernel
theorem dX3_insertByte_21 : decode cX3_insertByte 21 = .ok (.getfield 142, 3) := by decide +kernel
theorem dX3_insertByte_24 : decode cX3_insertByte 24 = .ok (.invokevirtual 161, 3) := by decide +kernel
theorem dX3_insertByte_27 : decode cX3_insertByte 27 = .ok (.sipush (-256), 3) := by decide +kernel
theorem dX3_insertByte_30 : decode cX3_insertByte 30 = .ok (.iand, 1) := by decide +kernel
theorem dX3_insertByte_31 : decode cX3_insertByte 31 = .ok (.aload_n 0, 1) := by decide +kernel
theorem dX3_insertByte_32 : decode cX3_insertByte 32 = .ok (.getfield 12, 3) := by decide +kernel
theorem dX3_insertByte_35 : decode cX3_insertByte 35 = .ok (.aload_n 0, 1) := by decide +kernel
theorem dX3_insertByte_36 : decode cX3_insertByte 36 = .ok (.getfield 152, 3) := by decide +kernel
theorem dX3_insertByte_39 : decode cX3_insertByte 39 = .ok (.invokevirtual 119, 3) := by decide +kernel
theorem dX3_insertByte_42 : decode cX3_insertByte 42 = .ok (.ior, 1) := by decide +kernel
theorem dX3_insertByte_43 : decode cX3_insertByte 43 = .ok (.invokevirtual 206, 3) := by decide +kernel
theorem dX3_insertByte_46 : decode cX3_insertByte 46 = .ok (.iload_n 1, 1) := by decide +kernel
theorem dX3_insertByte_47 : decode cX3_insertByte 47 = .ok (.ireturn, 1) := by decide +kernel
theorem dX3_linkToPlace_0 : decode cX3_linkToPlace 0 = .ok (.aload_n 0, 1) := by decide +kernel
theorem dX3_linkToPlace_1 : decode cX3_linkToPlace 1 = .ok (.aload_n 0, 1) := by decide +kernel
theorem dX3_linkToPlace_2 : decode cX3_linkToPlace 2 = .ok (.getfield 142, 3) := by decide +kernel
theorem dX3_linkToPlace_5 : decode cX3_linkToPlace 5 = .ok (.aload_n 0, 1) := by decide +kernel
theorem dX3_linkToPlace_6 : decode cX3_linkToPlace 6 = .ok (.getfield 21, 3) := by decide +kernel
theorem dX3_linkToPlace_9 : decode cX3_linkToPlace 9 = .ok (.getfield 116, 3) := by decide +kernel
theorem dX3_linkToPlace_12 : decode cX3_linkToPlace 12 = .ok (.invokevirtual 206, 3) := by decide +kernel
theorem dX3_linkToPlace_15 : decode cX3_linkToPlace 15 = .ok (.aload_n 0, 1) := by decide +kernel
theorem dX3_linkToPlace_16 : decode cX3_linkToPlace 16 = .ok (.getfield 21, 3) := by decide +kernel
theorem dX3_linkToPlace_19 : decode cX3_linkToPlace 19 = .ok (.aload_n 0, 1) := by decide +kernel
theorem dX3_linkToPlace_20 : decode cX3_linkToPlace 20 = .ok (.getfield 152, 3) := by decide +kernel
theorem dX3_linkToPlace_23 : decode cX3_linkToPlace 23 = .ok (.invokevirtual 125, 3) := by decide +kernel
theorem dX3_linkToPlace_26 : decode cX3_linkToPlace 26 = .ok (.iconst 0, 1) := by decide +kernel
theorem dX3_linkToPlace_27 : decode cX3_linkToPlace 27 = .ok (.ireturn, 1) := by decide +kernel
theorem dX3_countAndBranch_0 : decode cX3_countAndBranch 0 = .ok (.aload_n 0, 1) := by decide +kernel
theorem dX3_countAndBranch_1 : decode cX3_countAndBranch 1 = .ok (.aload_n 0, 1) := by decide +kernel
theorem dX3_countAndBranch_2 : decode cX3_countAndBranch 2 = .ok (.getfield 142, 3) := by decide +kernel
theorem dX3_countAndBranch_5 : decode cX3_countAndBranch 5 = .ok (.aload_n 0, 1) := by decide +kernel
theorem dX3_countAndBranch_6 : decode cX3_countAndBranch 6 = .ok (.aload_n 0, 1) := by decide +kernel
theorem dX3_countAndBranch_7 : decode cX3_countAndBranch 7 = .ok (.getfield 142, 3) := by decide +kernel
theorem dX3_countAndBranch_10 : decode cX3_countAndBranch 10 = .ok (.invokevirtual 161, 3) := by decide +kernel
theorem dX3_countAndBranch_13 : decode cX3_countAndBranch 13 = .ok (.iconst 1, 1) := by decide +kernel
theorem dX3_countAndBranch_14 : decode cX3_countAndBranch 14 = .ok (.isub, 1) := by decide +kernel
theorem dX3_countAndBranch_15 : decode cX3_countAndBranch 15 = .ok (.invokevirtual 206, 3) := by decide +kernel
theorem dX3_countAndBranch_18 : decode cX3_countAndBranch 18 = .ok (.aload_n 0, 1) := by decide +kernel
theorem dX3_countAndBranch_19 : decode cX3_countAndBranch 19 = .ok (.aload_n 0, 1) := by decide +kernel
theorem dX3_countAndBranch_20 : decode cX3_countAndBranch 20 = .ok (.getfield 142, 3) := by decide +kernel
theorem dX3_countAndBranch_23 : decode cX3_countAndBranch 23 = .ok (.invokevirtual 161, 3) := by decide +kernel
theorem dX3_countAndBranch_26 : decode cX3_countAndBranch 26 = .ok (.ifCond .eq 14, 3) := by decide +kernel
theorem dX3_countAndBranch_29 : decode cX3_countAndBranch 29 = .ok (.aload_n 0, 1) := by decide +kernel
theorem dX3_countAndBranch_30 : decode cX3_countAndBranch 30 = .ok (.getfield 21, 3) := by decide +kernel
theorem dX3_countAndBranch_33 : decode cX3_countAndBranch 33 = .ok (.aload_n 0, 1) := by decide +kernel
theorem dX3_countAndBranch_34 : decode cX3_countAndBranch 34 = .ok (.getfield 152, 3) := by decide +kernel
theorem dX3_countAndBranch_37 : decode cX3_countAndBranch 37 = .ok (.invokevirtual 125, 3) := by decide +kernel
theorem dX3_countAndBranch_40 : decode cX3_countAndBranch 40 = .ok (.iconst 0, 1) := by decide +kernel
theorem dX3_countAndBranch_41 : decode cX3_countAndBranch 41 = .ok (.ireturn, 1) := by decide +kernel
theorem dX3_combineHalfword_0 : decode cX3_combineHalfword 0 = .ok (.aload_n 0, 1) := by decide +kernel
theorem dX3_combineHalfword_1 : decode cX3_combineHalfword 1 = .ok (.getfield 152, 3) := by decide +kernel
theorem dX3_combineHalfword_4 : decode cX3_combineHalfword 4 = .ok (.iconst 2, 1) := by decide +kernel
theorem dX3_combineHalfword_5 : decode cX3_combineHalfword 5 = .ok (.iconst 2, 1) := by decide +kernel
theorem dX3_combineHalfword_6 : decode cX3_combineHalfword 6 = .ok (.invokestatic 165, 3) := by decide +kernel
theorem dX3_combineHalfword_9 : decode cX3_combineHalfword 9 = .ok (.istore_n 1, 1) := by decide +kernel
theorem dX3_combineHalfword_10 : decode cX3_combineHalfword 10 = .ok (.iload_n 1, 1) := by decide +kernel
theorem dX3_combineHalfword_11 : decode cX3_combineHalfword 11 = .ok (.ifCond .ne 22, 3) := by decide +kernel
theorem dX3_combineHalfword_14 : decode cX3_combineHalfword 14 = .ok (.aload_n 0, 1) := by decide +kernel
theorem dX3_combineHalfword_15 : decode cX3_combineHalfword 15 = .ok (.aload_n 0, 1) := by decide +kernel
theorem dX3_combineHalfword_16 : decode cX3_combineHalfword 16 = .ok (.getfield 12, 3) := by decide +kernel
theorem dX3_combineHalfword_19 : decode cX3_combineHalfword 19 = .ok (.aload_n 0, 1) := by decide +kernel
theorem dX3_combineHalfword_20 : decode cX3_combineHalfword 20 = .ok (.getfield 152, 3) := by decide +kernel
theorem dX3_combineHalfword_23 : decode cX3_combineHalfword 23 = .ok (.invokevirtual 158, 3) := by decide +kernel
theorem dX3_combineHalfword_26 : decode cX3_combineHalfword 26 = .ok (.i2s, 1) := by decide +kernel
theorem dX3_combineHalfword_27 : decode cX3_combineHalfword 27 = .ok (.invokevirtual 197, 3) := by decide +kernel
theorem dX3_combineHalfword_30 : decode cX3_combineHalfword 30 = .ok (.goto 4, 3) := by decide +kernel
theorem dX3_combineHalfword_33 : decode cX3_combineHalfword 33 = .ok (.iload_n 1, 1) := by decide +kernel
theorem dX3_combineHalfword_34 : decode cX3_combineHalfword 34 = .ok (.ireturn, 1) := by decide +kernel
theorem dX3_combineWord_0 : decode cX3_combineWord 0 = .ok (.aload_n 0, 1) := by decide +kernel
theorem dX3_combineWord_1 : decode cX3_combineWord 1 = .ok (.getfield 152, 3) := by decide +kernel
theorem dX3_combineWord_4 : decode cX3_combineWord 4 = .ok (.iconst 4, 1) := by decide +kernel
theorem dX3_combineWord_5 : decode cX3_combineWord 5 = .ok (.iconst 4, 1) := by decide +kernel
theorem dX3_combineWord_6 : decode cX3_combineWord 6 = .ok (.invokestatic 165, 3) := by decide +kernel
theorem dX3_combineWord_9 : decode cX3_combineWord 9 = .ok (.istore_n 1, 1) := by decide +kernel
theorem dX3_combineWord_10 : decode cX3_combineWord 10 = .ok (.iload_n 1, 1) := by decide +kernel
theorem dX3_combineWord_11 : decode cX3_combineWord 11 = .ok (.ifCond .ne 21, 3) := by decide +kernel
theorem dX3_combineWord_14 : decode cX3_combineWord 14 = .ok (.aload_n 0, 1) := by decide +kernel
theorem dX3_combineWord_15 : decode cX3_combineWord 15 = .ok (.aload_n 0, 1) := by decide +kernel
theorem dX3_combineWord_16 : decode cX3_combineWord 16 = .ok (.getfield 12, 3) := by decide +kernel
theorem dX3_combineWord_19 : decode cX3_combineWord 19 = .ok (.aload_n 0, 1) := by decide +kernel
theorem dX3_combineWord_20 : decode cX3_combineWord 20 = .ok (.getfield 152, 3) := by decide +kernel
theorem dX3_combineWord_23 : decode cX3_combineWord 23 = .ok (.invokevirtual 100, 3) := by decide +kernel
theorem dX3_combineWord_26 : decode cX3_combineWord 26 = .ok (.invokevirtual 197, 3) := by decide +kernel
theorem dX3_combineWord_29 : decode cX3_combineWord 29 = .ok (.goto 4, 3) := by decide +kernel
theorem dX3_combineWord_32 : decode cX3_combineWord 32 = .ok (.iload_n 1, 1) := by decide +kernel
theorem dX3_combineWord_33 : decode cX3_combineWord 33 = .ok (.ireturn, 1) := by decide +kernel
theorem dX3_convertToPacked_0 : decode cX3_convertToPacked 0 = .ok (.aload_n 0, 1) := by decide +kernel
theorem dX3_convertToPacked_1 : decode cX3_convertToPacked 1 = .ok (.aload_n 0, 1) := by decide +kernel
theorem dX3_convertToPacked_2 : decode cX3_convertToPacked 2 = .ok (.getfield 152, 3) := by decide +kernel
theorem dX3_convertToPacked_5 : decode cX3_convertToPacked 5 = .ok (.bipush 8, 2) := by decide +kernel
theorem dX3_convertToPacked_7 : decode cX3_convertToPacked 7 = .ok (.bipush 8, 2) := by decide +kernel
theorem dX3_convertToPacked_9 : decode cX3_convertToPacked 9 = .ok (.invokevirtual 264, 3) := by decide +kernel
theorem dX3_convertToPacked_12 : decode cX3_convertToPacked 12 = .ok (.istore_n 1, 1) := by decide +kernel
theorem dX3_convertToPacked_13 : decode cX3_convertToPacked 13 = .ok (.iload_n 1, 1) := by decide +kernel
theorem dX3_convertToPacked_14 : decode cX3_convertToPacked 14 = .ok (.ifCond .ne 36, 3) := by decide +kernel
theorem dX3_convertToPacked_17 : decode cX3_convertToPacked 17 = .ok (.aload_n 0, 1) := by decide +kernel
theorem dX3_convertToPacked_18 : decode cX3_convertToPacked 18 = .ok (.getfield 39, 3) := by decide +kernel
theorem dX3_convertToPacked_21 : decode cX3_convertToPacked 21 = .ok (.aload_n 0, 1) := by decide +kernel
theorem dX3_convertToPacked_22 : decode cX3_convertToPacked 22 = .ok (.aload_n 0, 1) := by decide +kernel
theorem dX3_convertToPacked_23 : decode cX3_convertToPacked 23 = .ok (.getfield 142, 3) := by decide +kernel
theorem dX3_convertToPacked_26 : decode cX3_convertToPacked 26 = .ok (.invokevirtual 161, 3) := by decide +kernel
theorem dX3_convertToPacked_29 : decode cX3_convertToPacked 29 = .ok (.invokevirtual 273, 3) := by decide +kernel
theorem dX3_convertToPacked_32 : decode cX3_convertToPacked 32 = .ok (.aload_n 0, 1) := by decide +kernel
theorem dX3_convertToPacked_33 : decode cX3_convertToPacked 33 = .ok (.getfield 39, 3) := by decide +kernel
theorem dX3_convertToPacked_36 : decode cX3_convertToPacked 36 = .ok (.aload_n 0, 1) := by decide +kernel
theorem dX3_convertToPacked_37 : decode cX3_convertToPacked 37 = .ok (.getfield 12, 3) := by decide +kernel
theorem dX3_convertToPacked_40 : decode cX3_convertToPacked 40 = .ok (.aload_n 0, 1) := by decide +kernel
theorem dX3_convertToPacked_41 : decode cX3_convertToPacked 41 = .ok (.getfield 152, 3) := by decide +kernel
theorem dX3_convertToPacked_44 : decode cX3_convertToPacked 44 = .ok (.bipush 8, 2) := by decide +kernel
theorem dX3_convertToPacked_46 : decode cX3_convertToPacked 46 = .ok (.invokevirtual 276, 3) := by decide +kernel
theorem dX3_convertToPacked_49 : decode cX3_convertToPacked 49 = .ok (.pop, 1) := by decide +kernel
theorem dX3_convertToPacked_50 : decode cX3_convertToPacked 50 = .ok (.iload_n 1, 1) := by decide +kernel
theorem dX3_convertToPacked_51 : decode cX3_convertToPacked 51 = .ok (.ireturn, 1) := by decide +kernel
theorem dX3_convertToInt_0 : decode cX3_convertToInt 0 = .ok (.aload_n 0, 1) := by decide +kernel
theorem dX3_convertToInt_1 : decode cX3_convertToInt 1 = .ok (.getfield 152, 3) := by decide +kernel
theorem dX3_convertToInt_4 : decode cX3_convertToInt 4 = .ok (.bipush 8, 2) := by decide +kernel
theorem dX3_convertToInt_6 : decode cX3_convertToInt 6 = .ok (.bipush 8, 2) := by decide +kernel
theorem dX3_convertToInt_8 : decode cX3_convertToInt 8 = .ok (.invokestatic 165, 3) := by decide +kernel
theorem dX3_convertToInt_11 : decode cX3_convertToInt 11 = .ok (.istore_n 1, 1) := by decide +kernel
theorem dX3_convertToInt_12 : decode cX3_convertToInt 12 = .ok (.iload_n 1, 1) := by decide +kernel
theorem dX3_convertToInt_13 : decode cX3_convertToInt 13 = .ok (.ifCond .eq 5, 3) := by decide +kernel
theorem dX3_convertToInt_16 : decode cX3_convertToInt 16 = .ok (.iload_n 1, 1) := by decide +kernel
theorem dX3_convertToInt_17 : decode cX3_convertToInt 17 = .ok (.ireturn, 1) := by decide +kernel
theorem dX3_convertToInt_18 : decode cX3_convertToInt 18 = .ok (.aload_n 0, 1) := by decide +kernel
theorem dX3_convertToInt_19 : decode cX3_convertToInt 19 = .ok (.getfield 39, 3) := by decide +kernel
theorem dX3_convertToInt_22 : decode cX3_convertToInt 22 = .ok (.aload_n 0, 1) := by decide +kernel
theorem dX3_convertToInt_23 : decode cX3_convertToInt 23 = .ok (.getfield 12, 3) := by decide +kernel
theorem dX3_convertToInt_26 : decode cX3_convertToInt 26 = .ok (.aload_n 0, 1) := by decide +kernel
theorem dX3_convertToInt_27 : decode cX3_convertToInt 27 = .ok (.getfield 152, 3) := by decide +kernel
theorem dX3_convertToInt_30 : decode cX3_convertToInt 30 = .ok (.bipush 8, 2) := by decide +kernel
theorem dX3_convertToInt_32 : decode cX3_convertToInt 32 = .ok (.invokevirtual 279, 3) := by decide +kernel
theorem dX3_convertToInt_35 : decode cX3_convertToInt 35 = .ok (.ifCond .ne 6, 3) := by decide +kernel
theorem dX3_convertToInt_38 : decode cX3_convertToInt 38 = .ok (.bipush 7, 2) := by decide +kernel
theorem dX3_convertToInt_40 : decode cX3_convertToInt 40 = .ok (.ireturn, 1) := by decide +kernel
theorem dX3_convertToInt_41 : decode cX3_convertToInt 41 = .ok (.aload_n 0, 1) := by decide +kernel
theorem dX3_convertToInt_42 : decode cX3_convertToInt 42 = .ok (.getfield 39, 3) := by decide +kernel
theorem dX3_convertToInt_45 : decode cX3_convertToInt 45 = .ok (.invokevirtual 282, 3) := by decide +kernel
theorem dX3_convertToInt_48 : decode cX3_convertToInt 48 = .ok (.lstore_n 2, 1) := by decide +kernel
theorem dX3_convertToInt_49 : decode cX3_convertToInt 49 = .ok (.lload_n 2, 1) := by decide +kernel
theorem dX3_convertToInt_50 : decode cX3_convertToInt 50 = .ok (.lload_n 2, 1) := by decide +kernel
theorem dX3_convertToInt_51 : decode cX3_convertToInt 51 = .ok (.l2i, 1) := by decide +kernel
theorem dX3_convertToInt_52 : decode cX3_convertToInt 52 = .ok (.i2l, 1) := by decide +kernel
theorem dX3_convertToInt_53 : decode cX3_convertToInt 53 = .ok (.lcmp, 1) := by decide +kernel
theorem dX3_convertToInt_54 : decode cX3_convertToInt 54 = .ok (.ifCond .eq 6, 3) := by decide +kernel
theorem dX3_convertToInt_57 : decode cX3_convertToInt 57 = .ok (.bipush 9, 2) := by decide +kernel
theorem dX3_convertToInt_59 : decode cX3_convertToInt 59 = .ok (.ireturn, 1) := by decide +kernel
theorem dX3_convertToInt_60 : decode cX3_convertToInt 60 = .ok (.aload_n 0, 1) := by decide +kernel
theorem dX3_convertToInt_61 : decode cX3_convertToInt 61 = .ok (.aload_n 0, 1) := by decide +kernel
theorem dX3_convertToInt_62 : decode cX3_convertToInt 62 = .ok (.getfield 142, 3) := by decide +kernel
theorem dX3_convertToInt_65 : decode cX3_convertToInt 65 = .ok (.lload_n 2, 1) := by decide +kernel
theorem dX3_convertToInt_66 : decode cX3_convertToInt 66 = .ok (.l2i, 1) := by decide +kernel
theorem dX3_convertToInt_67 : decode cX3_convertToInt 67 = .ok (.invokevirtual 206, 3) := by decide +kernel
theorem dX3_convertToInt_70 : decode cX3_convertToInt 70 = .ok (.iconst 0, 1) := by decide +kernel
theorem dX3_convertToInt_71 : decode cX3_convertToInt 71 = .ok (.ireturn, 1) := by decide +kernel
theorem dX3_doRsOrSi_0 : decode cX3_doRsOrSi 0 = .ok (.aload_n 0, 1) := by decide +kernel
theorem dX3_doRsOrSi_1 : decode cX3_doRsOrSi 1 = .ok (.getfield 61, 3) := by decide +kernel
theorem dX3_doRsOrSi_4 : decode cX3_doRsOrSi 4 = .ok (.tableswitch 263 130 157 #[128, 263, 263, 263, 263, 263, 133, 155, 177, 263, 263, 263, 263, 263, 182, 187, 192, 263, 201, 222, 227, 263, 248, 263, 263, 263, 253, 258], 128) := by decide +kernel
theorem dX3_doRsOrSi_132 : decode cX3_doRsOrSi 132 = .ok (.aload_n 0, 1) := by decide +kernel
theorem dX3_doRsOrSi_133 : decode cX3_doRsOrSi 133 = .ok (.invokevirtual 286, 3) := by decide +kernel
theorem dX3_doRsOrSi_136 : decode cX3_doRsOrSi 136 = .ok (.ireturn, 1) := by decide +kernel
theorem dX3_doRsOrSi_137 : decode cX3_doRsOrSi 137 = .ok (.aload_n 0, 1) := by decide +kernel
theorem dX3_doRsOrSi_138 : decode cX3_doRsOrSi 138 = .ok (.aload_n 0, 1) := by decide +kernel
theorem dX3_doRsOrSi_139 : decode cX3_doRsOrSi 139 = .ok (.aload_n 0, 1) := by decide +kernel
theorem dX3_doRsOrSi_140 : decode cX3_doRsOrSi 140 = .ok (.getfield 142, 3) := by decide +kernel
theorem dX3_doRsOrSi_143 : decode cX3_doRsOrSi 143 = .ok (.invokevirtual 161, 3) := by decide +kernel
theorem dX3_doRsOrSi_146 : decode cX3_doRsOrSi 146 = .ok (.aload_n 0, 1) := by decide +kernel
theorem dX3_doRsOrSi_147 : decode cX3_doRsOrSi 147 = .ok (.getfield 152, 3) := by decide +kernel
theorem dX3_doRsOrSi_150 : decode cX3_doRsOrSi 150 = .ok (.bipush 31, 2) := by decide +kernel
theorem dX3_doRsOrSi_152 : decode cX3_doRsOrSi 152 = .ok (.iand, 1) := by decide +kernel
theorem dX3_doRsOrSi_153 : decode cX3_doRsOrSi 153 = .ok (.iushr, 1) := by decide +kernel
theorem dX3_doRsOrSi_154 : decode cX3_doRsOrSi 154 = .ok (.iconst 0, 1) := by decide +kernel
theorem dX3_doRsOrSi_155 : decode cX3_doRsOrSi 155 = .ok (.invokevirtual 289, 3) := by decide +kernel
theorem dX3_doRsOrSi_158 : decode cX3_doRsOrSi 158 = .ok (.ireturn, 1) := by decide +kernel
theorem dX3_doRsOrSi_159 : decode cX3_doRsOrSi 159 = .ok (.aload_n 0, 1) := by decide +kernel
theorem dX3_doRsOrSi_160 : decode cX3_doRsOrSi 160 = .ok (.aload_n 0, 1) := by decide +kernel
theorem dX3_doRsOrSi_161 : decode cX3_doRsOrSi 161 = .ok (.aload_n 0, 1) := by decide +kernel
theorem dX3_doRsOrSi_162 : decode cX3_doRsOrSi 162 = .ok (.getfield 142, 3) := by decide +kernel
theorem dX3_doRsOrSi_165 : decode cX3_doRsOrSi 165 = .ok (.invokevirtual 161, 3) := by decide +kernel
theorem dX3_doRsOrSi_168 : decode cX3_doRsOrSi 168 = .ok (.aload_n 0, 1) := by decide +kernel
theorem dX3_doRsOrSi_169 : decode cX3_doRsOrSi 169 = .ok (.getfield 152, 3) := by decide +kernel
theorem dX3_doRsOrSi_172 : decode cX3_doRsOrSi 172 = .ok (.bipush 31, 2) := by decide +kernel
theorem dX3_doRsOrSi_174 : decode cX3_doRsOrSi 174 = .ok (.iand, 1) := by decide +kernel
theorem dX3_doRsOrSi_175 : decode cX3_doRsOrSi 175 = .ok (.ishl, 1) := by decide +kernel
theorem dX3_doRsOrSi_176 : decode cX3_doRsOrSi 176 = .ok (.iconst 0, 1) := by decide +kernel
theorem dX3_doRsOrSi_177 : decode cX3_doRsOrSi 177 = .ok (.invokevirtual 289, 3) := by decide +kernel
theorem dX3_doRsOrSi_180 : decode cX3_doRsOrSi 180 = .ok (.ireturn, 1) := by decide +kernel
theorem dX3_doRsOrSi_181 : decode cX3_doRsOrSi 181 = .ok (.aload_n 0, 1) := by decide +kernel
theorem dX3_doRsOrSi_182 : decode cX3_doRsOrSi 182 = .ok (.invokevirtual 292, 3) := by decide +kernel
theorem dX3_doRsOrSi_185 : decode cX3_doRsOrSi 185 = .ok (.ireturn, 1) := by decide +kernel
theorem dX3_doRsOrSi_186 : decode cX3_doRsOrSi 186 = .ok (.aload_n 0, 1) := by decide +kernel
theorem dX3_doRsOrSi_187 : decode cX3_doRsOrSi 187 = .ok (.invokevirtual 295, 3) := by decide +kernel
theorem dX3_doRsOrSi_190 : decode cX3_doRsOrSi 190 = .ok (.ireturn, 1) := by decide +kernel
theorem dX3_doRsOrSi_191 : decode cX3_doRsOrSi 191 = .ok (.aload_n 0, 1) := by decide +kernel
theorem dX3_doRsOrSi_192 : decode cX3_doRsOrSi 192 = .ok (.invokevirtual 298, 3) := by decide +kernel
theorem dX3_doRsOrSi_195 : decode cX3_doRsOrSi 195 = .ok (.ireturn, 1) := by decide +kernel
theorem dX3_doRsOrSi_196 : decode cX3_doRsOrSi 196 = .ok (.aload_n 0, 1) := by decide +kernel
theorem dX3_doRsOrSi_197 : decode cX3_doRsOrSi 197 = .ok (.aload_n 0, 1) := by decide +kernel
theorem dX3_doRsOrSi_198 : decode cX3_doRsOrSi 198 = .ok (.getfield 139, 3) := by decide +kernel
theorem dX3_doRsOrSi_201 : decode cX3_doRsOrSi 201 = .ok (.invokevirtual 237, 3) := by decide +kernel
theorem dX3_doRsOrSi_204 : decode cX3_doRsOrSi 204 = .ok (.ireturn, 1) := by decide +kernel
theorem dX3_doRsOrSi_205 : decode cX3_doRsOrSi 205 = .ok (.aload_n 0, 1) := by decide +kernel
theorem dX3_doRsOrSi_206 : decode cX3_doRsOrSi 206 = .ok (.aload_n 0, 1) := by decide +kernel
theorem dX3_doRsOrSi_207 : decode cX3_doRsOrSi 207 = .ok (.getfield 12, 3) := by decide +kernel
theorem dX3_doRsOrSi_210 : decode cX3_doRsOrSi 210 = .ok (.aload_n 0, 1) := by decide +kernel
theorem dX3_doRsOrSi_211 : decode cX3_doRsOrSi 211 = .ok (.getfield 152, 3) := by decide +kernel
theorem dX3_doRsOrSi_214 : decode cX3_doRsOrSi 214 = .ok (.invokevirtual 119, 3) := by decide +kernel
theorem dX3_doRsOrSi_217 : decode cX3_doRsOrSi 217 = .ok (.aload_n 0, 1) := by decide +kernel
theorem dX3_doRsOrSi_218 : decode cX3_doRsOrSi 218 = .ok (.getfield 139, 3) := by decide +kernel
theorem dX3_doRsOrSi_221 : decode cX3_doRsOrSi 221 = .ok (.iand, 1) := by decide +kernel
theorem dX3_doRsOrSi_222 : decode cX3_doRsOrSi 222 = .ok (.invokevirtual 301, 3) := by decide +kernel
theorem dX3_doRsOrSi_225 : decode cX3_doRsOrSi 225 = .ok (.ireturn, 1) := by decide +kernel
theorem dX3_doRsOrSi_226 : decode cX3_doRsOrSi 226 = .ok (.aload_n 0, 1) := by decide +kernel
theorem dX3_doRsOrSi_227 : decode cX3_doRsOrSi 227 = .ok (.invokevirtual 304, 3) := by decide +kernel
theorem dX3_doRsOrSi_230 : decode cX3_doRsOrSi 230 = .ok (.ireturn, 1) := by decide +kernel
theorem dX3_doRsOrSi_231 : decode cX3_doRsOrSi 231 = .ok (.aload_n 0, 1) := by decide +kernel
theorem dX3_doRsOrSi_232 : decode cX3_doRsOrSi 232 = .ok (.aload_n 0, 1) := by decide +kernel
theorem dX3_doRsOrSi_233 : decode cX3_doRsOrSi 233 = .ok (.getfield 12, 3) := by decide +kernel
theorem dX3_doRsOrSi_236 : decode cX3_doRsOrSi 236 = .ok (.aload_n 0, 1) := by decide +kernel
theorem dX3_doRsOrSi_237 : decode cX3_doRsOrSi 237 = .ok (.getfield 152, 3) := by decide +kernel
theorem dX3_doRsOrSi_240 : decode cX3_doRsOrSi 240 = .ok (.invokevirtual 119, 3) := by decide +kernel
theorem dX3_doRsOrSi_243 : decode cX3_doRsOrSi 243 = .ok (.aload_n 0, 1) := by decide +kernel
theorem dX3_doRsOrSi_244 : decode cX3_doRsOrSi 244 = .ok (.getfield 139, 3) := by decide +kernel
theorem dX3_doRsOrSi_247 : decode cX3_doRsOrSi 247 = .ok (.ior, 1) := by decide +kernel
theorem dX3_doRsOrSi_248 : decode cX3_doRsOrSi 248 = .ok (.invokevirtual 301, 3) := by decide +kernel
theorem dX3_doRsOrSi_251 : decode cX3_doRsOrSi 251 = .ok (.ireturn, 1) := by decide +kernel
theorem dX3_doRsOrSi_252 : decode cX3_doRsOrSi 252 = .ok (.aload_n 0, 1) := by decide +kernel
theorem dX3_doRsOrSi_253 : decode cX3_doRsOrSi 253 = .ok (.invokevirtual 307, 3) := by decide +kernel
theorem dX3_doRsOrSi_256 : decode cX3_doRsOrSi 256 = .ok (.ireturn, 1) := by decide +kernel
theorem dX3_doRsOrSi_257 : decode cX3_doRsOrSi 257 = .ok (.aload_n 0, 1) := by decide +kernel
theorem dX3_doRsOrSi_258 : decode cX3_doRsOrSi 258 = .ok (.invokevirtual 310, 3) := by decide +kernel
theorem dX3_doRsOrSi_261 : decode cX3_doRsOrSi 261 = .ok (.ireturn, 1) := by decide +kernel
theorem dX3_doRsOrSi_262 : decode cX3_doRsOrSi 262 = .ok (.aload_n 0, 1) := by decide +kernel
theorem dX3_doRsOrSi_263 : decode cX3_doRsOrSi 263 = .ok (.invokevirtual 313, 3) := by decide +kernel
theorem dX3_doRsOrSi_266 : decode cX3_doRsOrSi 266 = .ok (.ireturn, 1) := by decide +kernel
theorem dX3_doRsOrSi_267 : decode cX3_doRsOrSi 267 = .ok (.iconst 1, 1) := by decide +kernel
theorem dX3_doRsOrSi_268 : decode cX3_doRsOrSi 268 = .ok (.ireturn, 1) := by decide +kernel
theorem dX3_shift_0 : decode cX3_shift 0 = .ok (.aload_n 0, 1) := by decide +kernel
theorem dX3_shift_1 : decode cX3_shift 1 = .ok (.aload_n 0, 1) := by decide +kernel
theorem dX3_shift_2 : decode cX3_shift 2 = .ok (.getfield 142, 3) := by decide +kernel
theorem dX3_shift_5 : decode cX3_shift 5 = .ok (.aload_n 0, 1) := by decide +kernel
theorem dX3_shift_6 : decode cX3_shift 6 = .ok (.getfield 152, 3) := by decide +kernel
theorem dX3_shift_9 : decode cX3_shift 9 = .ok (.bipush 32, 2) := by decide +kernel
theorem dX3_shift_11 : decode cX3_shift 11 = .ok (.iand, 1) := by decide +kernel
theorem dX3_shift_12 : decode cX3_shift 12 = .ok (.ifCond .ne 7, 3) := by decide +kernel
theorem dX3_shift_15 : decode cX3_shift 15 = .ok (.iload_n 1, 1) := by decide +kernel
theorem dX3_shift_16 : decode cX3_shift 16 = .ok (.goto 4, 3) := by decide +kernel
theorem dX3_shift_19 : decode cX3_shift 19 = .ok (.iload_n 2, 1) := by decide +kernel
theorem dX3_shift_20 : decode cX3_shift 20 = .ok (.invokevirtual 206, 3) := by decide +kernel
theorem dX3_shift_23 : decode cX3_shift 23 = .ok (.iconst 0, 1) := by decide +kernel
theorem dX3_shift_24 : decode cX3_shift 24 = .ok (.ireturn, 1) := by decide +kernel
theorem dX3_shiftWithSign_0 : decode cX3_shiftWithSign 0 = .ok (.aload_n 0, 1) := by decide +kernel
theorem dX3_shiftWithSign_1 : decode cX3_shiftWithSign 1 = .ok (.aload_n 0, 1) := by decide +kernel
theorem dX3_shiftWithSign_2 : decode cX3_shiftWithSign 2 = .ok (.aload_n 0, 1) := by decide +kernel
theorem dX3_shiftWithSign_3 : decode cX3_shiftWithSign 3 = .ok (.getfield 142, 3) := by decide +kernel
theorem dX3_shiftWithSign_6 : decode cX3_shiftWithSign 6 = .ok (.invokevirtual 161, 3) := by decide +kernel
theorem dX3_shiftWithSign_9 : decode cX3_shiftWithSign 9 = .ok (.aload_n 0, 1) := by decide +kernel
theorem dX3_shiftWithSign_10 : decode cX3_shiftWithSign 10 = .ok (.getfield 152, 3) := by decide +kernel
theorem dX3_shiftWithSign_13 : decode cX3_shiftWithSign 13 = .ok (.bipush 31, 2) := by decide +kernel
theorem dX3_shiftWithSign_15 : decode cX3_shiftWithSign 15 = .ok (.iand, 1) := by decide +kernel
theorem dX3_shiftWithSign_16 : decode cX3_shiftWithSign 16 = .ok (.ishr, 1) := by decide +kernel
theorem dX3_shiftWithSign_17 : decode cX3_shiftWithSign 17 = .ok (.aload_n 0, 1) := by decide +kernel
theorem dX3_shiftWithSign_18 : decode cX3_shiftWithSign 18 = .ok (.aload_n 0, 1) := by decide +kernel
theorem dX3_shiftWithSign_19 : decode cX3_shiftWithSign 19 = .ok (.getfield 142, 3) := by decide +kernel
theorem dX3_shiftWithSign_22 : decode cX3_shiftWithSign 22 = .ok (.invokevirtual 161, 3) := by decide +kernel
theorem dX3_shiftWithSign_25 : decode cX3_shiftWithSign 25 = .ok (.bipush 31, 2) := by decide +kernel
theorem dX3_shiftWithSign_27 : decode cX3_shiftWithSign 27 = .ok (.ishr, 1) := by decide +kernel
theorem dX3_shiftWithSign_28 : decode cX3_shiftWithSign 28 = .ok (.invokevirtual 289, 3) := by decide +kernel
theorem dX3_shiftWithSign_31 : decode cX3_shiftWithSign 31 = .ok (.pop, 1) := by decide +kernel
theorem dX3_shiftWithSign_32 : decode cX3_shiftWithSign 32 = .ok (.aload_n 0, 1) := by decide +kernel
theorem dX3_shiftWithSign_33 : decode cX3_shiftWithSign 33 = .ok (.getfield 21, 3) := by decide +kernel
theorem dX3_shiftWithSign_36 : decode cX3_shiftWithSign 36 = .ok (.aload_n 0, 1) := by decide +kernel
theorem dX3_shiftWithSign_37 : decode cX3_shiftWithSign 37 = .ok (.aload_n 0, 1) := by decide +kernel
theorem dX3_shiftWithSign_38 : decode cX3_shiftWithSign 38 = .ok (.getfield 142, 3) := by decide +kernel
theorem dX3_shiftWithSign_41 : decode cX3_shiftWithSign 41 = .ok (.invokevirtual 161, 3) := by decide +kernel
theorem dX3_shiftWithSign_44 : decode cX3_shiftWithSign 44 = .ok (.i2l, 1) := by decide +kernel
theorem dX3_shiftWithSign_45 : decode cX3_shiftWithSign 45 = .ok (.lconst 0, 1) := by decide +kernel
theorem dX3_shiftWithSign_46 : decode cX3_shiftWithSign 46 = .ok (.invokestatic 221, 3) := by decide +kernel
theorem dX3_shiftWithSign_49 : decode cX3_shiftWithSign 49 = .ok (.putfield 209, 3) := by decide +kernel
theorem dX3_shiftWithSign_52 : decode cX3_shiftWithSign 52 = .ok (.iconst 0, 1) := by decide +kernel
theorem dX3_shiftWithSign_53 : decode cX3_shiftWithSign 53 = .ok (.ireturn, 1) := by decide +kernel
theorem dX3_storeRegisters_0 : decode cX3_storeRegisters 0 = .ok (.aload_n 0, 1) := by decide +kernel
theorem dX3_storeRegisters_1 : decode cX3_storeRegisters 1 = .ok (.invokevirtual 316, 3) := by decide +kernel
theorem dX3_storeRegisters_4 : decode cX3_storeRegisters 4 = .ok (.istore_n 1, 1) := by decide +kernel
theorem dX3_storeRegisters_5 : decode cX3_storeRegisters 5 = .ok (.aload_n 0, 1) := by decide +kernel
theorem dX3_storeRegisters_6 : decode cX3_storeRegisters 6 = .ok (.aload_n 0, 1) := by decide +kernel
theorem dX3_storeRegisters_7 : decode cX3_storeRegisters 7 = .ok (.getfield 152, 3) := by decide +kernel
theorem dX3_storeRegisters_10 : decode cX3_storeRegisters 10 = .ok (.iload_n 1, 1) := by decide +kernel
theorem dX3_storeRegisters_11 : decode cX3_storeRegisters 11 = .ok (.iconst 4, 1) := by decide +kernel
theorem dX3_storeRegisters_12 : decode cX3_storeRegisters 12 = .ok (.imul, 1) := by decide +kernel
theorem dX3_storeRegisters_13 : decode cX3_storeRegisters 13 = .ok (.iconst 4, 1) := by decide +kernel
theorem dX3_storeRegisters_14 : decode cX3_storeRegisters 14 = .ok (.invokevirtual 264, 3) := by decide +kernel
theorem dX3_storeRegisters_17 : decode cX3_storeRegisters 17 = .ok (.istore_n 2, 1) := by decide +kernel
theorem dX3_storeRegisters_18 : decode cX3_storeRegisters 18 = .ok (.iload_n 2, 1) := by decide +kernel
theorem dX3_storeRegisters_19 : decode cX3_storeRegisters 19 = .ok (.ifCond .eq 5, 3) := by decide +kernel
theorem dX3_storeRegisters_22 : decode cX3_storeRegisters 22 = .ok (.iload_n 2, 1) := by decide +kernel
theorem dX3_storeRegisters_23 : decode cX3_storeRegisters 23 = .ok (.ireturn, 1) := by decide +kernel
theorem dX3_storeRegisters_24 : decode cX3_storeRegisters 24 = .ok (.iconst 0, 1) := by decide +kernel
theorem dX3_storeRegisters_25 : decode cX3_storeRegisters 25 = .ok (.istore_n 3, 1) := by decide +kernel
theorem dX3_storeRegisters_26 : decode cX3_storeRegisters 26 = .ok (.iload_n 3, 1) := by decide +kernel
theorem dX3_storeRegisters_27 : decode cX3_storeRegisters 27 = .ok (.iload_n 1, 1) := by decide +kernel
theorem dX3_storeRegisters_28 : decode cX3_storeRegisters 28 = .ok (.if_icmp .ge 34, 3) := by decide +kernel
theorem dX3_storeRegisters_31 : decode cX3_storeRegisters 31 = .ok (.aload_n 0, 1) := by decide +kernel
theorem dX3_storeRegisters_32 : decode cX3_storeRegisters 32 = .ok (.getfield 12, 3) := by decide +kernel
theorem dX3_storeRegisters_35 : decode cX3_storeRegisters 35 = .ok (.aload_n 0, 1) := by decide +kernel
theorem dX3_storeRegisters_36 : decode cX3_storeRegisters 36 = .ok (.getfield 152, 3) := by decide +kernel
theorem dX3_storeRegisters_39 : decode cX3_storeRegisters 39 = .ok (.iload_n 3, 1) := by decide +kernel
theorem dX3_storeRegisters_40 : decode cX3_storeRegisters 40 = .ok (.iconst 4, 1) := by decide +kernel
theorem dX3_storeRegisters_41 : decode cX3_storeRegisters 41 = .ok (.imul, 1) := by decide +kernel
theorem dX3_storeRegisters_42 : decode cX3_storeRegisters 42 = .ok (.iadd, 1) := by decide +kernel
theorem dX3_storeRegisters_43 : decode cX3_storeRegisters 43 = .ok (.aload_n 0, 1) := by decide +kernel
theorem dX3_storeRegisters_44 : decode cX3_storeRegisters 44 = .ok (.aload_n 0, 1) := by decide +kernel
theorem dX3_storeRegisters_45 : decode cX3_storeRegisters 45 = .ok (.getfield 142, 3) := by decide +kernel
theorem dX3_storeRegisters_48 : decode cX3_storeRegisters 48 = .ok (.iload_n 3, 1) := by decide +kernel
theorem dX3_storeRegisters_49 : decode cX3_storeRegisters 49 = .ok (.iadd, 1) := by decide +kernel
theorem dX3_storeRegisters_50 : decode cX3_storeRegisters 50 = .ok (.invokevirtual 161, 3) := by decide +kernel
theorem dX3_storeRegisters_53 : decode cX3_storeRegisters 53 = .ok (.invokevirtual 104, 3) := by decide +kernel
theorem dX3_storeRegisters_56 : decode cX3_storeRegisters 56 = .ok (.iinc 3 1, 3) := by decide +kernel
theorem dX3_storeRegisters_59 : decode cX3_storeRegisters 59 = .ok (.goto (-33), 3) := by decide +kernel
theorem dX3_storeRegisters_62 : decode cX3_storeRegisters 62 = .ok (.iconst 0, 1) := by decide +kernel
theorem dX3_storeRegisters_63 : decode cX3_storeRegisters 63 = .ok (.ireturn, 1) := by decide +kernel
theorem dX3_loadRegisters_0 : decode cX3_loadRegisters 0 = .ok (.aload_n 0, 1) := by decide +kernel
theorem dX3_loadRegisters_1 : decode cX3_loadRegisters 1 = .ok (.invokevirtual 316, 3) := by decide +kernel
theorem dX3_loadRegisters_4 : decode cX3_loadRegisters 4 = .ok (.istore_n 1, 1) := by decide +kernel
theorem dX3_loadRegisters_5 : decode cX3_loadRegisters 5 = .ok (.aload_n 0, 1) := by decide +kernel
theorem dX3_loadRegisters_6 : decode cX3_loadRegisters 6 = .ok (.getfield 152, 3) := by decide +kernel
theorem dX3_loadRegisters_9 : decode cX3_loadRegisters 9 = .ok (.iload_n 1, 1) := by decide +kernel
theorem dX3_loadRegisters_10 : decode cX3_loadRegisters 10 = .ok (.iconst 4, 1) := by decide +kernel
theorem dX3_loadRegisters_11 : decode cX3_loadRegisters 11 = .ok (.imul, 1) := by decide +kernel
theorem dX3_loadRegisters_12 : decode cX3_loadRegisters 12 = .ok (.iconst 4, 1) := by decide +kernel
theorem dX3_loadRegisters_13 : decode cX3_loadRegisters 13 = .ok (.invokestatic 165, 3) := by decide +kernel
theorem dX3_loadRegisters_16 : decode cX3_loadRegisters 16 = .ok (.istore_n 2, 1) := by decide +kernel
theorem dX3_loadRegisters_17 : decode cX3_loadRegisters 17 = .ok (.iload_n 2, 1) := by decide +kernel
theorem dX3_loadRegisters_18 : decode cX3_loadRegisters 18 = .ok (.ifCond .eq 5, 3) := by decide +kernel
theorem dX3_loadRegisters_21 : decode cX3_loadRegisters 21 = .ok (.iload_n 2, 1) := by decide +kernel
theorem dX3_loadRegisters_22 : decode cX3_loadRegisters 22 = .ok (.ireturn, 1) := by decide +kernel
theorem dX3_loadRegisters_23 : decode cX3_loadRegisters 23 = .ok (.iconst 0, 1) := by decide +kernel
theorem dX3_loadRegisters_24 : decode cX3_loadRegisters 24 = .ok (.istore_n 3, 1) := by decide +kernel
theorem dX3_loadRegisters_25 : decode cX3_loadRegisters 25 = .ok (.iload_n 3, 1) := by decide +kernel
theorem dX3_loadRegisters_26 : decode cX3_loadRegisters 26 = .ok (.iload_n 1, 1) := by decide +kernel
theorem dX3_loadRegisters_27 : decode cX3_loadRegisters 27 = .ok (.if_icmp .ge 34, 3) := by decide +kernel
theorem dX3_loadRegisters_30 : decode cX3_loadRegisters 30 = .ok (.aload_n 0, 1) := by decide +kernel
theorem dX3_loadRegisters_31 : decode cX3_loadRegisters 31 = .ok (.aload_n 0, 1) := by decide +kernel
theorem dX3_loadRegisters_32 : decode cX3_loadRegisters 32 = .ok (.getfield 142, 3) := by decide +kernel
theorem dX3_loadRegisters_35 : decode cX3_loadRegisters 35 = .ok (.iload_n 3, 1) := by decide +kernel
theorem dX3_loadRegisters_36 : decode cX3_loadRegisters 36 = .ok (.iadd, 1) := by decide +kernel
theorem dX3_loadRegisters_37 : decode cX3_loadRegisters 37 = .ok (.aload_n 0, 1) := by decide +kernel
theorem dX3_loadRegisters_38 : decode cX3_loadRegisters 38 = .ok (.getfield 12, 3) := by decide +kernel
theorem dX3_loadRegisters_41 : decode cX3_loadRegisters 41 = .ok (.aload_n 0, 1) := by decide +kernel
theorem dX3_loadRegisters_42 : decode cX3_loadRegisters 42 = .ok (.getfield 152, 3) := by decide +kernel
theorem dX3_loadRegisters_45 : decode cX3_loadRegisters 45 = .ok (.iload_n 3, 1) := by decide +kernel
theorem dX3_loadRegisters_46 : decode cX3_loadRegisters 46 = .ok (.iconst 4, 1) := by decide +kernel
theorem dX3_loadRegisters_47 : decode cX3_loadRegisters 47 = .ok (.imul, 1) := by decide +kernel
theorem dX3_loadRegisters_48 : decode cX3_loadRegisters 48 = .ok (.iadd, 1) := by decide +kernel
theorem dX3_loadRegisters_49 : decode cX3_loadRegisters 49 = .ok (.invokevirtual 100, 3) := by decide +kernel
theorem dX3_loadRegisters_52 : decode cX3_loadRegisters 52 = .ok (.invokevirtual 206, 3) := by decide +kernel
theorem dX3_loadRegisters_55 : decode cX3_loadRegisters 55 = .ok (.iinc 3 1, 3) := by decide +kernel
theorem dX3_loadRegisters_58 : decode cX3_loadRegisters 58 = .ok (.goto (-33), 3) := by decide +kernel
theorem dX3_loadRegisters_61 : decode cX3_loadRegisters 61 = .ok (.iconst 0, 1) := by decide +kernel
theorem dX3_loadRegisters_62 : decode cX3_loadRegisters 62 = .ok (.ireturn, 1) := by decide +kernel
theorem dX3_registersNamed_0 : decode cX3_registersNamed 0 = .ok (.aload_n 0, 1) := by decide +kernel
theorem dX3_registersNamed_1 : decode cX3_registersNamed 1 = .ok (.getfield 145, 3) := by decide +kernel
theorem dX3_registersNamed_4 : decode cX3_registersNamed 4 = .ok (.aload_n 0, 1) := by decide +kernel
theorem dX3_registersNamed_5 : decode cX3_registersNamed 5 = .ok (.getfield 142, 3) := by decide +kernel
theorem dX3_registersNamed_8 : decode cX3_registersNamed 8 = .ok (.isub, 1) := by decide +kernel
theorem dX3_registersNamed_9 : decode cX3_registersNamed 9 = .ok (.bipush 15, 2) := by decide +kernel
theorem dX3_registersNamed_11 : decode cX3_registersNamed 11 = .ok (.iand, 1) := by decide +kernel
theorem dX3_registersNamed_12 : decode cX3_registersNamed 12 = .ok (.iconst 1, 1) := by decide +kernel
theorem dX3_registersNamed_13 : decode cX3_registersNamed 13 = .ok (.iadd, 1) := by decide +kernel
theorem dX3_registersNamed_14 : decode cX3_registersNamed 14 = .ok (.ireturn, 1) := by decide +kernel
theorem dX3_loadStatus_0 : decode cX3_loadStatus 0 = .ok (.aload_n 0, 1) := by decide +kernel
theorem dX3_loadStatus_1 : decode cX3_loadStatus 1 = .ok (.getfield 152, 3) := by decide +kernel
theorem dX3_loadStatus_4 : decode cX3_loadStatus 4 = .ok (.bipush 8, 2) := by decide +kernel
theorem dX3_loadStatus_6 : decode cX3_loadStatus 6 = .ok (.bipush 8, 2) := by decide +kernel
theorem dX3_loadStatus_8 : decode cX3_loadStatus 8 = .ok (.invokestatic 165, 3) := by decide +kernel
theorem dX3_loadStatus_11 : decode cX3_loadStatus 11 = .ok (.istore_n 1, 1) := by decide +kernel
theorem dX3_loadStatus_12 : decode cX3_loadStatus 12 = .ok (.iload_n 1, 1) := by decide +kernel
theorem dX3_loadStatus_13 : decode cX3_loadStatus 13 = .ok (.ifCond .ne 18, 3) := by decide +kernel
theorem dX3_loadStatus_16 : decode cX3_loadStatus 16 = .ok (.aload_n 0, 1) := by decide +kernel
theorem dX3_loadStatus_17 : decode cX3_loadStatus 17 = .ok (.getfield 21, 3) := by decide +kernel
theorem dX3_loadStatus_20 : decode cX3_loadStatus 20 = .ok (.aload_n 0, 1) := by decide +kernel
theorem dX3_loadStatus_21 : decode cX3_loadStatus 21 = .ok (.getfield 12, 3) := by decide +kernel
theorem dX3_loadStatus_24 : decode cX3_loadStatus 24 = .ok (.aload_n 0, 1) := by decide +kernel
theorem dX3_loadStatus_25 : decode cX3_loadStatus 25 = .ok (.getfield 152, 3) := by decide +kernel
theorem dX3_loadStatus_28 : decode cX3_loadStatus 28 = .ok (.invokevirtual 112, 3) := by decide +kernel
theorem dX3_loadStatus_31 : decode cX3_loadStatus 31 = .ok (.iload_n 1, 1) := by decide +kernel
theorem dX3_loadStatus_32 : decode cX3_loadStatus 32 = .ok (.ireturn, 1) := by decide +kernel
theorem dX3_testBits_0 : decode cX3_testBits 0 = .ok (.aload_n 0, 1) := by decide +kernel
theorem dX3_testBits_1 : decode cX3_testBits 1 = .ok (.getfield 152, 3) := by decide +kernel
theorem dX3_testBits_4 : decode cX3_testBits 4 = .ok (.iconst 1, 1) := by decide +kernel
theorem dX3_testBits_5 : decode cX3_testBits 5 = .ok (.iconst 1, 1) := by decide +kernel
theorem dX3_testBits_6 : decode cX3_testBits 6 = .ok (.invokestatic 165, 3) := by decide +kernel
theorem dX3_testBits_9 : decode cX3_testBits 9 = .ok (.istore_n 1, 1) := by decide +kernel
theorem dX3_testBits_10 : decode cX3_testBits 10 = .ok (.iload_n 1, 1) := by decide +kernel
theorem dX3_testBits_11 : decode cX3_testBits 11 = .ok (.ifCond .eq 5, 3) := by decide +kernel
theorem dX3_testBits_14 : decode cX3_testBits 14 = .ok (.iload_n 1, 1) := by decide +kernel
theorem dX3_testBits_15 : decode cX3_testBits 15 = .ok (.ireturn, 1) := by decide +kernel
theorem dX3_testBits_16 : decode cX3_testBits 16 = .ok (.aload_n 0, 1) := by decide +kernel
theorem dX3_testBits_17 : decode cX3_testBits 17 = .ok (.getfield 12, 3) := by decide +kernel
theorem dX3_testBits_20 : decode cX3_testBits 20 = .ok (.aload_n 0, 1) := by decide +kernel
theorem dX3_testBits_21 : decode cX3_testBits 21 = .ok (.getfield 152, 3) := by decide +kernel
theorem dX3_testBits_24 : decode cX3_testBits 24 = .ok (.invokevirtual 119, 3) := by decide +kernel
theorem dX3_testBits_27 : decode cX3_testBits 27 = .ok (.aload_n 0, 1) := by decide +kernel
theorem dX3_testBits_28 : decode cX3_testBits 28 = .ok (.getfield 139, 3) := by decide +kernel
theorem dX3_testBits_31 : decode cX3_testBits 31 = .ok (.iand, 1) := by decide +kernel
theorem dX3_testBits_32 : decode cX3_testBits 32 = .ok (.istore_n 2, 1) := by decide +kernel
theorem dX3_testBits_33 : decode cX3_testBits 33 = .ok (.iload_n 2, 1) := by decide +kernel
theorem dX3_testBits_34 : decode cX3_testBits 34 = .ok (.ifCond .ne 14, 3) := by decide +kernel
theorem dX3_testBits_37 : decode cX3_testBits 37 = .ok (.aload_n 0, 1) := by decide +kernel
theorem dX3_testBits_38 : decode cX3_testBits 38 = .ok (.getfield 21, 3) := by decide +kernel
theorem dX3_testBits_41 : decode cX3_testBits 41 = .ok (.iconst 0, 1) := by decide +kernel
theorem dX3_testBits_42 : decode cX3_testBits 42 = .ok (.putfield 209, 3) := by decide +kernel
theorem dX3_testBits_45 : decode cX3_testBits 45 = .ok (.goto 23, 3) := by decide +kernel
theorem dX3_testBits_48 : decode cX3_testBits 48 = .ok (.aload_n 0, 1) := by decide +kernel
theorem dX3_testBits_49 : decode cX3_testBits 49 = .ok (.getfield 21, 3) := by decide +kernel
theorem dX3_testBits_52 : decode cX3_testBits 52 = .ok (.iload_n 2, 1) := by decide +kernel
theorem dX3_testBits_53 : decode cX3_testBits 53 = .ok (.aload_n 0, 1) := by decide +kernel
theorem dX3_testBits_54 : decode cX3_testBits 54 = .ok (.getfield 139, 3) := by decide +kernel
theorem dX3_testBits_57 : decode cX3_testBits 57 = .ok (.if_icmp .ne 7, 3) := by decide +kernel
theorem dX3_testBits_60 : decode cX3_testBits 60 = .ok (.iconst 3, 1) := by decide +kernel
theorem dX3_testBits_61 : decode cX3_testBits 61 = .ok (.goto 4, 3) := by decide +kernel
theorem dX3_testBits_64 : decode cX3_testBits 64 = .ok (.iconst 1, 1) := by decide +kernel
theorem dX3_testBits_65 : decode cX3_testBits 65 = .ok (.putfield 209, 3) := by decide +kernel
theorem dX3_testBits_68 : decode cX3_testBits 68 = .ok (.iconst 0, 1) := by decide +kernel
theorem dX3_testBits_69 : decode cX3_testBits 69 = .ok (.ireturn, 1) := by decide +kernel
theorem dX3_storeLogical_0 : decode cX3_storeLogical 0 = .ok (.aload_n 0, 1) := by decide +kernel
theorem dX3_storeLogical_1 : decode cX3_storeLogical 1 = .ok (.aload_n 0, 1) := by decide +kernel
theorem dX3_storeLogical_2 : decode cX3_storeLogical 2 = .ok (.getfield 152, 3) := by decide +kernel
theorem dX3_storeLogical_5 : decode cX3_storeLogical 5 = .ok (.iconst 1, 1) := by decide +kernel
theorem dX3_storeLogical_6 : decode cX3_storeLogical 6 = .ok (.iconst 1, 1) := by decide +kernel
theorem dX3_storeLogical_7 : decode cX3_storeLogical 7 = .ok (.invokevirtual 264, 3) := by decide +kernel
theorem dX3_storeLogical_10 : decode cX3_storeLogical 10 = .ok (.istore_n 2, 1) := by decide +kernel
theorem dX3_storeLogical_11 : decode cX3_storeLogical 11 = .ok (.iload_n 2, 1) := by decide +kernel
theorem dX3_storeLogical_12 : decode cX3_storeLogical 12 = .ok (.ifCond .ne 31, 3) := by decide +kernel
theorem dX3_storeLogical_15 : decode cX3_storeLogical 15 = .ok (.aload_n 0, 1) := by decide +kernel
theorem dX3_storeLogical_16 : decode cX3_storeLogical 16 = .ok (.getfield 12, 3) := by decide +kernel
theorem dX3_storeLogical_19 : decode cX3_storeLogical 19 = .ok (.aload_n 0, 1) := by decide +kernel
theorem dX3_storeLogical_20 : decode cX3_storeLogical 20 = .ok (.getfield 152, 3) := by decide +kernel
theorem dX3_storeLogical_23 : decode cX3_storeLogical 23 = .ok (.iload_n 1, 1) := by decide +kernel
theorem dX3_storeLogical_24 : decode cX3_storeLogical 24 = .ok (.invokevirtual 270, 3) := by decide +kernel
theorem dX3_storeLogical_27 : decode cX3_storeLogical 27 = .ok (.aload_n 0, 1) := by decide +kernel
theorem dX3_storeLogical_28 : decode cX3_storeLogical 28 = .ok (.getfield 21, 3) := by decide +kernel
theorem dX3_storeLogical_31 : decode cX3_storeLogical 31 = .ok (.iload_n 1, 1) := by decide +kernel
theorem dX3_storeLogical_32 : decode cX3_storeLogical 32 = .ok (.ifCond .ne 7, 3) := by decide +kernel
theorem dX3_storeLogical_35 : decode cX3_storeLogical 35 = .ok (.iconst 0, 1) := by decide +kernel
theorem dX3_storeLogical_36 : decode cX3_storeLogical 36 = .ok (.goto 4, 3) := by decide +kernel
theorem dX3_storeLogical_39 : decode cX3_storeLogical 39 = .ok (.iconst 1, 1) := by decide +kernel
theorem dX3_storeLogical_40 : decode cX3_storeLogical 40 = .ok (.putfield 209, 3) := by decide +kernel
theorem dX3_storeLogical_43 : decode cX3_storeLogical 43 = .ok (.iload_n 2, 1) := by decide +kernel
theorem dX3_storeLogical_44 : decode cX3_storeLogical 44 = .ok (.ireturn, 1) := by decide +kernel
theorem dX3_compareByte_0 : decode cX3_compareByte 0 = .ok (.aload_n 0, 1) := by decide +kernel
theorem dX3_compareByte_1 : decode cX3_compareByte 1 = .ok (.getfield 152, 3) := by decide +kernel
theorem dX3_compareByte_4 : decode cX3_compareByte 4 = .ok (.iconst 1, 1) := by decide +kernel
theorem dX3_compareByte_5 : decode cX3_compareByte 5 = .ok (.iconst 1, 1) := by decide +kernel
theorem dX3_compareByte_6 : decode cX3_compareByte 6 = .ok (.invokestatic 165, 3) := by decide +kernel
theorem dX3_compareByte_9 : decode cX3_compareByte 9 = .ok (.istore_n 1, 1) := by decide +kernel
theorem dX3_compareByte_10 : decode cX3_compareByte 10 = .ok (.iload_n 1, 1) := by decide +kernel
theorem dX3_compareByte_11 : decode cX3_compareByte 11 = .ok (.ifCond .ne 30, 3) := by decide +kernel
theorem dX3_compareByte_14 : decode cX3_compareByte 14 = .ok (.aload_n 0, 1) := by decide +kernel
theorem dX3_compareByte_15 : decode cX3_compareByte 15 = .ok (.getfield 21, 3) := by decide +kernel
theorem dX3_compareByte_18 : decode cX3_compareByte 18 = .ok (.aload_n 0, 1) := by decide +kernel
theorem dX3_compareByte_19 : decode cX3_compareByte 19 = .ok (.getfield 12, 3) := by decide +kernel
theorem dX3_compareByte_22 : decode cX3_compareByte 22 = .ok (.aload_n 0, 1) := by decide +kernel
theorem dX3_compareByte_23 : decode cX3_compareByte 23 = .ok (.getfield 152, 3) := by decide +kernel
theorem dX3_compareByte_26 : decode cX3_compareByte 26 = .ok (.invokevirtual 119, 3) := by decide +kernel
theorem dX3_compareByte_29 : decode cX3_compareByte 29 = .ok (.i2l, 1) := by decide +kernel
theorem dX3_compareByte_30 : decode cX3_compareByte 30 = .ok (.aload_n 0, 1) := by decide +kernel
theorem dX3_compareByte_31 : decode cX3_compareByte 31 = .ok (.getfield 139, 3) := by decide +kernel
theorem dX3_compareByte_34 : decode cX3_compareByte 34 = .ok (.i2l, 1) := by decide +kernel
theorem dX3_compareByte_35 : decode cX3_compareByte 35 = .ok (.invokestatic 221, 3) := by decide +kernel
theorem dX3_compareByte_38 : decode cX3_compareByte 38 = .ok (.putfield 209, 3) := by decide +kernel
theorem dX3_compareByte_41 : decode cX3_compareByte 41 = .ok (.iload_n 1, 1) := by decide +kernel
theorem dX3_compareByte_42 : decode cX3_compareByte 42 = .ok (.ireturn, 1) := by decide +kernel
theorem dX3_startChannel_0 : decode cX3_startChannel 0 = .ok (.aload_n 0, 1) := by decide +kernel
theorem dX3_startChannel_1 : decode cX3_startChannel 1 = .ok (.getfield 21, 3) := by decide +kernel
theorem dX3_startChannel_4 : decode cX3_startChannel 4 = .ok (.aload_n 0, 1) := by decide +kernel
theorem dX3_startChannel_5 : decode cX3_startChannel 5 = .ok (.getfield 28, 3) := by decide +kernel
theorem dX3_startChannel_8 : decode cX3_startChannel 8 = .ok (.aload_n 0, 1) := by decide +kernel
theorem dX3_startChannel_9 : decode cX3_startChannel 9 = .ok (.getfield 12, 3) := by decide +kernel
theorem dX3_startChannel_12 : decode cX3_startChannel 12 = .ok (.aload_n 0, 1) := by decide +kernel
theorem dX3_startChannel_13 : decode cX3_startChannel 13 = .ok (.getfield 139, 3) := by decide +kernel
theorem dX3_startChannel_16 : decode cX3_startChannel 16 = .ok (.invokevirtual 319, 3) := by decide +kernel
theorem dX3_startChannel_19 : decode cX3_startChannel 19 = .ok (.putfield 209, 3) := by decide +kernel
theorem dX3_startChannel_22 : decode cX3_startChannel 22 = .ok (.iconst 0, 1) := by decide +kernel
theorem dX3_startChannel_23 : decode cX3_startChannel 23 = .ok (.ireturn, 1) := by decide +kernel
theorem dX3_testChannel_0 : decode cX3_testChannel 0 = .ok (.aload_n 0, 1) := by decide +kernel
theorem dX3_testChannel_1 : decode cX3_testChannel 1 = .ok (.getfield 21, 3) := by decide +kernel
theorem dX3_testChannel_4 : decode cX3_testChannel 4 = .ok (.aload_n 0, 1) := by decide +kernel
theorem dX3_testChannel_5 : decode cX3_testChannel 5 = .ok (.getfield 28, 3) := by decide +kernel
theorem dX3_testChannel_8 : decode cX3_testChannel 8 = .ok (.invokevirtual 323, 3) := by decide +kernel
theorem dX3_testChannel_11 : decode cX3_testChannel 11 = .ok (.putfield 209, 3) := by decide +kernel
theorem dX3_testChannel_14 : decode cX3_testChannel 14 = .ok (.iconst 0, 1) := by decide +kernel
theorem dX3_testChannel_15 : decode cX3_testChannel 15 = .ok (.ireturn, 1) := by decide +kernel
theorem dX3_doSs_0 : decode cX3_doSs 0 = .ok (.aload_n 0, 1) := by decide +kernel
theorem dX3_doSs_1 : decode cX3_doSs 1 = .ok (.getfield 61, 3) := by decide +kernel
theorem dX3_doSs_4 : decode cX3_doSs 4 = .ok (.lookupswitch 93 #[(210, 68), (213, 73), (220, 78), (248, 83), (249, 88), (250, 83), (251, 83)], 68) := by decide +kernel
theorem dX3_doSs_72 : decode cX3_doSs 72 = .ok (.aload_n 0, 1) := by decide +kernel
theorem dX3_doSs_73 : decode cX3_doSs 73 = .ok (.invokevirtual 326, 3) := by decide +kernel
theorem dX3_doSs_76 : decode cX3_doSs 76 = .ok (.ireturn, 1) := by decide +kernel
theorem dX3_doSs_77 : decode cX3_doSs 77 = .ok (.aload_n 0, 1) := by decide +kernel
theorem dX3_doSs_78 : decode cX3_doSs 78 = .ok (.invokevirtual 329, 3) := by decide +kernel
theorem dX3_doSs_81 : decode cX3_doSs 81 = .ok (.ireturn, 1) := by decide +kernel
theorem dX3_doSs_82 : decode cX3_doSs 82 = .ok (.aload_n 0, 1) := by decide +kernel
theorem dX3_doSs_83 : decode cX3_doSs 83 = .ok (.invokevirtual 332, 3) := by decide +kernel
theorem dX3_doSs_86 : decode cX3_doSs 86 = .ok (.ireturn, 1) := by decide +kernel
theorem dX3_doSs_87 : decode cX3_doSs 87 = .ok (.aload_n 0, 1) := by decide +kernel
theorem dX3_doSs_88 : decode cX3_doSs 88 = .ok (.invokevirtual 335, 3) := by decide +kernel
theorem dX3_doSs_91 : decode cX3_doSs 91 = .ok (.ireturn, 1) := by decide +kernel
theorem dX3_doSs_92 : decode cX3_doSs 92 = .ok (.aload_n 0, 1) := by decide +kernel
theorem dX3_doSs_93 : decode cX3_doSs 93 = .ok (.invokevirtual 338, 3) := by decide +kernel
theorem dX3_doSs_96 : decode cX3_doSs 96 = .ok (.ireturn, 1) := by decide +kernel
theorem dX3_doSs_97 : decode cX3_doSs 97 = .ok (.iconst 1, 1) := by decide +kernel
theorem dX3_doSs_98 : decode cX3_doSs 98 = .ok (.ireturn, 1) := by decide +kernel
theorem dX3_moveBytes_0 : decode cX3_moveBytes 0 = .ok (.aload_n 0, 1) := by decide +kernel
theorem dX3_moveBytes_1 : decode cX3_moveBytes 1 = .ok (.getfield 139, 3) := by decide +kernel
theorem dX3_moveBytes_4 : decode cX3_moveBytes 4 = .ok (.iconst 1, 1) := by decide +kernel
theorem dX3_moveBytes_5 : decode cX3_moveBytes 5 = .ok (.iadd, 1) := by decide +kernel
theorem dX3_moveBytes_6 : decode cX3_moveBytes 6 = .ok (.istore_n 1, 1) := by decide +kernel
theorem dX3_moveBytes_7 : decode cX3_moveBytes 7 = .ok (.aload_n 0, 1) := by decide +kernel
theorem dX3_moveBytes_8 : decode cX3_moveBytes 8 = .ok (.aload_n 0, 1) := by decide +kernel
theorem dX3_moveBytes_9 : decode cX3_moveBytes 9 = .ok (.aload_n 0, 1) := by decide +kernel
theorem dX3_moveBytes_10 : decode cX3_moveBytes 10 = .ok (.getfield 152, 3) := by decide +kernel
theorem dX3_moveBytes_13 : decode cX3_moveBytes 13 = .ok (.iload_n 1, 1) := by decide +kernel
theorem dX3_moveBytes_14 : decode cX3_moveBytes 14 = .ok (.iconst 1, 1) := by decide +kernel
theorem dX3_moveBytes_15 : decode cX3_moveBytes 15 = .ok (.invokevirtual 264, 3) := by decide +kernel
theorem dX3_moveBytes_18 : decode cX3_moveBytes 18 = .ok (.iload_n 1, 1) := by decide +kernel
theorem dX3_moveBytes_19 : decode cX3_moveBytes 19 = .ok (.invokevirtual 341, 3) := by decide +kernel
theorem dX3_moveBytes_22 : decode cX3_moveBytes 22 = .ok (.istore_n 2, 1) := by decide +kernel
theorem dX3_moveBytes_23 : decode cX3_moveBytes 23 = .ok (.iload_n 2, 1) := by decide +kernel
theorem dX3_moveBytes_24 : decode cX3_moveBytes 24 = .ok (.ifCond .eq 5, 3) := by decide +kernel
theorem dX3_moveBytes_27 : decode cX3_moveBytes 27 = .ok (.iload_n 2, 1) := by decide +kernel
theorem dX3_moveBytes_28 : decode cX3_moveBytes 28 = .ok (.ireturn, 1) := by decide +kernel
theorem dX3_moveBytes_29 : decode cX3_moveBytes 29 = .ok (.iconst 0, 1) := by decide +kernel
theorem dX3_moveBytes_30 : decode cX3_moveBytes 30 = .ok (.istore_n 3, 1) := by decide +kernel
theorem dX3_moveBytes_31 : decode cX3_moveBytes 31 = .ok (.iload_n 3, 1) := by decide +kernel
theorem dX3_moveBytes_32 : decode cX3_moveBytes 32 = .ok (.iload_n 1, 1) := by decide +kernel
theorem dX3_moveBytes_33 : decode cX3_moveBytes 33 = .ok (.if_icmp .ge 35, 3) := by decide +kernel
theorem dX3_moveBytes_36 : decode cX3_moveBytes 36 = .ok (.aload_n 0, 1) := by decide +kernel
theorem dX3_moveBytes_37 : decode cX3_moveBytes 37 = .ok (.getfield 12, 3) := by decide +kernel
theorem dX3_moveBytes_40 : decode cX3_moveBytes 40 = .ok (.aload_n 0, 1) := by decide +kernel
theorem dX3_moveBytes_41 : decode cX3_moveBytes 41 = .ok (.getfield 152, 3) := by decide +kernel
theorem dX3_moveBytes_44 : decode cX3_moveBytes 44 = .ok (.iload_n 3, 1) := by decide +kernel
theorem dX3_moveBytes_45 : decode cX3_moveBytes 45 = .ok (.iadd, 1) := by decide +kernel
theorem dX3_moveBytes_46 : decode cX3_moveBytes 46 = .ok (.aload_n 0, 1) := by decide +kernel
theorem dX3_moveBytes_47 : decode cX3_moveBytes 47 = .ok (.getfield 12, 3) := by decide +kernel
theorem dX3_moveBytes_50 : decode cX3_moveBytes 50 = .ok (.aload_n 0, 1) := by decide +kernel
theorem dX3_moveBytes_51 : decode cX3_moveBytes 51 = .ok (.getfield 155, 3) := by decide +kernel
theorem dX3_moveBytes_54 : decode cX3_moveBytes 54 = .ok (.iload_n 3, 1) := by decide +kernel
theorem dX3_moveBytes_55 : decode cX3_moveBytes 55 = .ok (.iadd, 1) := by decide +kernel
theorem dX3_moveBytes_56 : decode cX3_moveBytes 56 = .ok (.invokevirtual 119, 3) := by decide +kernel
theorem dX3_moveBytes_59 : decode cX3_moveBytes 59 = .ok (.invokevirtual 270, 3) := by decide +kernel
theorem dX3_moveBytes_62 : decode cX3_moveBytes 62 = .ok (.iinc 3 1, 3) := by decide +kernel
theorem dX3_moveBytes_65 : decode cX3_moveBytes 65 = .ok (.goto (-34), 3) := by decide +kernel
theorem dX3_moveBytes_68 : decode cX3_moveBytes 68 = .ok (.iconst 0, 1) := by decide +kernel
theorem dX3_moveBytes_69 : decode cX3_moveBytes 69 = .ok (.ireturn, 1) := by decide +kernel
theorem dX3_faultOfPair_0 : decode cX3_faultOfPair 0 = .ok (.iload_n 1, 1) := by decide +kernel
theorem dX3_faultOfPair_1 : decode cX3_faultOfPair 1 = .ok (.ifCond .ne 15, 3) := by decide +kernel
theorem dX3_faultOfPair_4 : decode cX3_faultOfPair 4 = .ok (.aload_n 0, 1) := by decide +kernel
theorem dX3_faultOfPair_5 : decode cX3_faultOfPair 5 = .ok (.getfield 155, 3) := by decide +kernel
theorem dX3_faultOfPair_8 : decode cX3_faultOfPair 8 = .ok (.iload_n 2, 1) := by decide +kernel
theorem dX3_faultOfPair_9 : decode cX3_faultOfPair 9 = .ok (.iconst 1, 1) := by decide +kernel
theorem dX3_faultOfPair_10 : decode cX3_faultOfPair 10 = .ok (.invokestatic 165, 3) := by decide +kernel
theorem dX3_faultOfPair_13 : decode cX3_faultOfPair 13 = .ok (.goto 4, 3) := by decide +kernel
theorem dX3_faultOfPair_16 : decode cX3_faultOfPair 16 = .ok (.iload_n 1, 1) := by decide +kernel
theorem dX3_faultOfPair_17 : decode cX3_faultOfPair 17 = .ok (.ireturn, 1) := by decide +kernel
theorem dX3_compareBytes_0 : decode cX3_compareBytes 0 = .ok (.aload_n 0, 1) := by decide +kernel
theorem dX3_compareBytes_1 : decode cX3_compareBytes 1 = .ok (.getfield 139, 3) := by decide +kernel
theorem dX3_compareBytes_4 : decode cX3_compareBytes 4 = .ok (.iconst 1, 1) := by decide +kernel
theorem dX3_compareBytes_5 : decode cX3_compareBytes 5 = .ok (.iadd, 1) := by decide +kernel
theorem dX3_compareBytes_6 : decode cX3_compareBytes 6 = .ok (.istore_n 1, 1) := by decide +kernel
theorem dX3_compareBytes_7 : decode cX3_compareBytes 7 = .ok (.aload_n 0, 1) := by decide +kernel
theorem dX3_compareBytes_8 : decode cX3_compareBytes 8 = .ok (.aload_n 0, 1) := by decide +kernel
theorem dX3_compareBytes_9 : decode cX3_compareBytes 9 = .ok (.getfield 152, 3) := by decide +kernel
theorem dX3_compareBytes_12 : decode cX3_compareBytes 12 = .ok (.iload_n 1, 1) := by decide +kernel
theorem dX3_compareBytes_13 : decode cX3_compareBytes 13 = .ok (.iconst 1, 1) := by decide +kernel
theorem dX3_compareBytes_14 : decode cX3_compareBytes 14 = .ok (.invokestatic 165, 3) := by decide +kernel
theorem dX3_compareBytes_17 : decode cX3_compareBytes 17 = .ok (.iload_n 1, 1) := by decide +kernel
theorem dX3_compareBytes_18 : decode cX3_compareBytes 18 = .ok (.invokevirtual 341, 3) := by decide +kernel
theorem dX3_compareBytes_21 : decode cX3_compareBytes 21 = .ok (.istore_n 2, 1) := by decide +kernel
theorem dX3_compareBytes_22 : decode cX3_compareBytes 22 = .ok (.iload_n 2, 1) := by decide +kernel
theorem dX3_compareBytes_23 : decode cX3_compareBytes 23 = .ok (.ifCond .eq 5, 3) := by decide +kernel
theorem dX3_compareBytes_26 : decode cX3_compareBytes 26 = .ok (.iload_n 2, 1) := by decide +kernel
theorem dX3_compareBytes_27 : decode cX3_compareBytes 27 = .ok (.ireturn, 1) := by decide +kernel
theorem dX3_compareBytes_28 : decode cX3_compareBytes 28 = .ok (.aload_n 0, 1) := by decide +kernel
theorem dX3_compareBytes_29 : decode cX3_compareBytes 29 = .ok (.getfield 21, 3) := by decide +kernel
theorem dX3_compareBytes_32 : decode cX3_compareBytes 32 = .ok (.iconst 0, 1) := by decide +kernel
theorem dX3_compareBytes_33 : decode cX3_compareBytes 33 = .ok (.putfield 209, 3) := by decide +kernel
theorem dX3_compareBytes_36 : decode cX3_compareBytes 36 = .ok (.iconst 0, 1) := by decide +kernel
theorem dX3_compareBytes_37 : decode cX3_compareBytes 37 = .ok (.istore_n 3, 1) := by decide +kernel
theorem dX3_compareBytes_38 : decode cX3_compareBytes 38 = .ok (.iload_n 3, 1) := by decide +kernel
theorem dX3_compareBytes_39 : decode cX3_compareBytes 39 = .ok (.iload_n 1, 1) := by decide +kernel
theorem dX3_compareBytes_40 : decode cX3_compareBytes 40 = .ok (.if_icmp .ge 57, 3) := by decide +kernel
theorem dX3_compareBytes_43 : decode cX3_compareBytes 43 = .ok (.aload_n 0, 1) := by decide +kernel
theorem dX3_compareBytes_44 : decode cX3_compareBytes 44 = .ok (.getfield 21, 3) := by decide +kernel
theorem dX3_compareBytes_47 : decode cX3_compareBytes 47 = .ok (.getfield 209, 3) := by decide +kernel
theorem dX3_compareBytes_50 : decode cX3_compareBytes 50 = .ok (.ifCond .ne 47, 3) := by decide +kernel
theorem dX3_compareBytes_53 : decode cX3_compareBytes 53 = .ok (.aload_n 0, 1) := by decide +kernel
theorem dX3_compareBytes_54 : decode cX3_compareBytes 54 = .ok (.getfield 21, 3) := by decide +kernel
theorem dX3_compareBytes_57 : decode cX3_compareBytes 57 = .ok (.aload_n 0, 1) := by decide +kernel
theorem dX3_compareBytes_58 : decode cX3_compareBytes 58 = .ok (.getfield 12, 3) := by decide +kernel
theorem dX3_compareBytes_61 : decode cX3_compareBytes 61 = .ok (.aload_n 0, 1) := by decide +kernel
theorem dX3_compareBytes_62 : decode cX3_compareBytes 62 = .ok (.getfield 152, 3) := by decide +kernel
theorem dX3_compareBytes_65 : decode cX3_compareBytes 65 = .ok (.iload_n 3, 1) := by decide +kernel
theorem dX3_compareBytes_66 : decode cX3_compareBytes 66 = .ok (.iadd, 1) := by decide +kernel
theorem dX3_compareBytes_67 : decode cX3_compareBytes 67 = .ok (.invokevirtual 119, 3) := by decide +kernel
theorem dX3_compareBytes_70 : decode cX3_compareBytes 70 = .ok (.i2l, 1) := by decide +kernel
theorem dX3_compareBytes_71 : decode cX3_compareBytes 71 = .ok (.aload_n 0, 1) := by decide +kernel
theorem dX3_compareBytes_72 : decode cX3_compareBytes 72 = .ok (.getfield 12, 3) := by decide +kernel
theorem dX3_compareBytes_75 : decode cX3_compareBytes 75 = .ok (.aload_n 0, 1) := by decide +kernel
theorem dX3_compareBytes_76 : decode cX3_compareBytes 76 = .ok (.getfield 155, 3) := by decide +kernel
theorem dX3_compareBytes_79 : decode cX3_compareBytes 79 = .ok (.iload_n 3, 1) := by decide +kernel
theorem dX3_compareBytes_80 : decode cX3_compareBytes 80 = .ok (.iadd, 1) := by decide +kernel
theorem dX3_compareBytes_81 : decode cX3_compareBytes 81 = .ok (.invokevirtual 119, 3) := by decide +kernel
theorem dX3_compareBytes_84 : decode cX3_compareBytes 84 = .ok (.i2l, 1) := by decide +kernel
theorem dX3_compareBytes_85 : decode cX3_compareBytes 85 = .ok (.invokestatic 221, 3) := by decide +kernel
theorem dX3_compareBytes_88 : decode cX3_compareBytes 88 = .ok (.putfield 209, 3) := by decide +kernel
theorem dX3_compareBytes_91 : decode cX3_compareBytes 91 = .ok (.iinc 3 1, 3) := by decide +kernel
theorem dX3_compareBytes_94 : decode cX3_compareBytes 94 = .ok (.goto (-56), 3) := by decide +kernel
theorem dX3_compareBytes_97 : decode cX3_compareBytes 97 = .ok (.iconst 0, 1) := by decide +kernel
theorem dX3_compareBytes_98 : decode cX3_compareBytes 98 = .ok (.ireturn, 1) := by decide +kernel
theorem dX3_translateBytes_0 : decode cX3_translateBytes 0 = .ok (.aload_n 0, 1) := by decide +kernel
theorem dX3_translateBytes_1 : decode cX3_translateBytes 1 = .ok (.getfield 139, 3) := by decide +kernel
theorem dX3_translateBytes_4 : decode cX3_translateBytes 4 = .ok (.iconst 1, 1) := by decide +kernel
theorem dX3_translateBytes_5 : decode cX3_translateBytes 5 = .ok (.iadd, 1) := by decide +kernel
theorem dX3_translateBytes_6 : decode cX3_translateBytes 6 = .ok (.istore_n 1, 1) := by decide +kernel
theorem dX3_translateBytes_7 : decode cX3_translateBytes 7 = .ok (.aload_n 0, 1) := by decide +kernel
theorem dX3_translateBytes_8 : decode cX3_translateBytes 8 = .ok (.aload_n 0, 1) := by decide +kernel
theorem dX3_translateBytes_9 : decode cX3_translateBytes 9 = .ok (.aload_n 0, 1) := by decide +kernel
theorem dX3_translateBytes_10 : decode cX3_translateBytes 10 = .ok (.getfield 152, 3) := by decide +kernel
theorem dX3_translateBytes_13 : decode cX3_translateBytes 13 = .ok (.iload_n 1, 1) := by decide +kernel
theorem dX3_translateBytes_14 : decode cX3_translateBytes 14 = .ok (.iconst 1, 1) := by decide +kernel
theorem dX3_translateBytes_15 : decode cX3_translateBytes 15 = .ok (.invokevirtual 264, 3) := by decide +kernel
theorem dX3_translateBytes_18 : decode cX3_translateBytes 18 = .ok (.sipush 256, 3) := by decide +kernel
theorem dX3_translateBytes_21 : decode cX3_translateBytes 21 = .ok (.invokevirtual 341, 3) := by decide +kernel
theorem dX3_translateBytes_24 : decode cX3_translateBytes 24 = .ok (.istore_n 2, 1) := by decide +kernel
theorem dX3_translateBytes_25 : decode cX3_translateBytes 25 = .ok (.iload_n 2, 1) := by decide +kernel
theorem dX3_translateBytes_26 : decode cX3_translateBytes 26 = .ok (.ifCond .eq 5, 3) := by decide +kernel
theorem dX3_translateBytes_29 : decode cX3_translateBytes 29 = .ok (.iload_n 2, 1) := by decide +kernel
theorem dX3_translateBytes_30 : decode cX3_translateBytes 30 = .ok (.ireturn, 1) := by decide +kernel
theorem dX3_translateBytes_31 : decode cX3_translateBytes 31 = .ok (.iconst 0, 1) := by decide +kernel
theorem dX3_translateBytes_32 : decode cX3_translateBytes 32 = .ok (.istore_n 3, 1) := by decide +kernel
theorem dX3_translateBytes_33 : decode cX3_translateBytes 33 = .ok (.iload_n 3, 1) := by decide +kernel
theorem dX3_translateBytes_34 : decode cX3_translateBytes 34 = .ok (.iload_n 1, 1) := by decide +kernel
theorem dX3_translateBytes_35 : decode cX3_translateBytes 35 = .ok (.if_icmp .ge 51, 3) := by decide +kernel
theorem dX3_translateBytes_38 : decode cX3_translateBytes 38 = .ok (.aload_n 0, 1) := by decide +kernel
theorem dX3_translateBytes_39 : decode cX3_translateBytes 39 = .ok (.getfield 155, 3) := by decide +kernel
theorem dX3_translateBytes_42 : decode cX3_translateBytes 42 = .ok (.aload_n 0, 1) := by decide +kernel
theorem dX3_translateBytes_43 : decode cX3_translateBytes 43 = .ok (.getfield 12, 3) := by decide +kernel
theorem dX3_translateBytes_46 : decode cX3_translateBytes 46 = .ok (.aload_n 0, 1) := by decide +kernel
theorem dX3_translateBytes_47 : decode cX3_translateBytes 47 = .ok (.getfield 152, 3) := by decide +kernel
theorem dX3_translateBytes_50 : decode cX3_translateBytes 50 = .ok (.iload_n 3, 1) := by decide +kernel
theorem dX3_translateBytes_51 : decode cX3_translateBytes 51 = .ok (.iadd, 1) := by decide +kernel
theorem dX3_translateBytes_52 : decode cX3_translateBytes 52 = .ok (.invokevirtual 119, 3) := by decide +kernel
theorem dX3_translateBytes_55 : decode cX3_translateBytes 55 = .ok (.iadd, 1) := by decide +kernel
theorem dX3_translateBytes_56 : decode cX3_translateBytes 56 = .ok (.istore 4, 2) := by decide +kernel
theorem dX3_translateBytes_58 : decode cX3_translateBytes 58 = .ok (.aload_n 0, 1) := by decide +kernel
theorem dX3_translateBytes_59 : decode cX3_translateBytes 59 = .ok (.getfield 12, 3) := by decide +kernel
theorem dX3_translateBytes_62 : decode cX3_translateBytes 62 = .ok (.aload_n 0, 1) := by decide +kernel
theorem dX3_translateBytes_63 : decode cX3_translateBytes 63 = .ok (.getfield 152, 3) := by decide +kernel
theorem dX3_translateBytes_66 : decode cX3_translateBytes 66 = .ok (.iload_n 3, 1) := by decide +kernel
theorem dX3_translateBytes_67 : decode cX3_translateBytes 67 = .ok (.iadd, 1) := by decide +kernel
theorem dX3_translateBytes_68 : decode cX3_translateBytes 68 = .ok (.aload_n 0, 1) := by decide +kernel
theorem dX3_translateBytes_69 : decode cX3_translateBytes 69 = .ok (.getfield 12, 3) := by decide +kernel
theorem dX3_translateBytes_72 : decode cX3_translateBytes 72 = .ok (.iload 4, 2) := by decide +kernel
theorem dX3_translateBytes_74 : decode cX3_translateBytes 74 = .ok (.invokevirtual 119, 3) := by decide +kernel
theorem dX3_translateBytes_77 : decode cX3_translateBytes 77 = .ok (.invokevirtual 270, 3) := by decide +kernel
theorem dX3_translateBytes_80 : decode cX3_translateBytes 80 = .ok (.iinc 3 1, 3) := by decide +kernel
theorem dX3_translateBytes_83 : decode cX3_translateBytes 83 = .ok (.goto (-50), 3) := by decide +kernel
theorem dX3_translateBytes_86 : decode cX3_translateBytes 86 = .ok (.iconst 0, 1) := by decide +kernel
theorem dX3_translateBytes_87 : decode cX3_translateBytes 87 = .ok (.ireturn, 1) := by decide +kernel
theorem dX3_calculatePacked_0 : decode cX3_calculatePacked 0 = .ok (.aload_n 0, 1) := by decide +kernel
theorem dX3_calculatePacked_1 : decode cX3_calculatePacked 1 = .ok (.aload_n 0, 1) := by decide +kernel
theorem dX3_calculatePacked_2 : decode cX3_calculatePacked 2 = .ok (.aload_n 0, 1) := by decide +kernel
theorem dX3_calculatePacked_3 : decode cX3_calculatePacked 3 = .ok (.getfield 152, 3) := by decide +kernel
theorem dX3_calculatePacked_6 : decode cX3_calculatePacked 6 = .ok (.aload_n 0, 1) := by decide +kernel
theorem dX3_calculatePacked_7 : decode cX3_calculatePacked 7 = .ok (.getfield 142, 3) := by decide +kernel
theorem dX3_calculatePacked_10 : decode cX3_calculatePacked 10 = .ok (.iconst 1, 1) := by decide +kernel
theorem dX3_calculatePacked_11 : decode cX3_calculatePacked 11 = .ok (.iadd, 1) := by decide +kernel
theorem dX3_calculatePacked_12 : decode cX3_calculatePacked 12 = .ok (.iconst 1, 1) := by decide +kernel
theorem dX3_calculatePacked_13 : decode cX3_calculatePacked 13 = .ok (.invokevirtual 264, 3) := by decide +kernel
theorem dX3_calculatePacked_16 : decode cX3_calculatePacked 16 = .ok (.aload_n 0, 1) := by decide +kernel
theorem dX3_calculatePacked_17 : decode cX3_calculatePacked 17 = .ok (.getfield 145, 3) := by decide +kernel
theorem dX3_calculatePacked_20 : decode cX3_calculatePacked 20 = .ok (.iconst 1, 1) := by decide +kernel
theorem dX3_calculatePacked_21 : decode cX3_calculatePacked 21 = .ok (.iadd, 1) := by decide +kernel
theorem dX3_calculatePacked_22 : decode cX3_calculatePacked 22 = .ok (.invokevirtual 341, 3) := by decide +kernel
theorem dX3_calculatePacked_25 : decode cX3_calculatePacked 25 = .ok (.istore_n 1, 1) := by decide +kernel
theorem dX3_calculatePacked_26 : decode cX3_calculatePacked 26 = .ok (.iload_n 1, 1) := by decide +kernel
theorem dX3_calculatePacked_27 : decode cX3_calculatePacked 27 = .ok (.ifCond .eq 5, 3) := by decide +kernel
theorem dX3_calculatePacked_30 : decode cX3_calculatePacked 30 = .ok (.iload_n 1, 1) := by decide +kernel
theorem dX3_calculatePacked_31 : decode cX3_calculatePacked 31 = .ok (.ireturn, 1) := by decide +kernel
theorem dX3_calculatePacked_32 : decode cX3_calculatePacked 32 = .ok (.aload_n 0, 1) := by decide +kernel
theorem dX3_calculatePacked_33 : decode cX3_calculatePacked 33 = .ok (.getfield 43, 3) := by decide +kernel
theorem dX3_calculatePacked_36 : decode cX3_calculatePacked 36 = .ok (.aload_n 0, 1) := by decide +kernel
theorem dX3_calculatePacked_37 : decode cX3_calculatePacked 37 = .ok (.getfield 12, 3) := by decide +kernel
theorem dX3_calculatePacked_40 : decode cX3_calculatePacked 40 = .ok (.aload_n 0, 1) := by decide +kernel
theorem dX3_calculatePacked_41 : decode cX3_calculatePacked 41 = .ok (.getfield 155, 3) := by decide +kernel
theorem dX3_calculatePacked_44 : decode cX3_calculatePacked 44 = .ok (.aload_n 0, 1) := by decide +kernel
theorem dX3_calculatePacked_45 : decode cX3_calculatePacked 45 = .ok (.getfield 145, 3) := by decide +kernel
theorem dX3_calculatePacked_48 : decode cX3_calculatePacked 48 = .ok (.iconst 1, 1) := by decide +kernel
theorem dX3_calculatePacked_49 : decode cX3_calculatePacked 49 = .ok (.iadd, 1) := by decide +kernel
theorem dX3_calculatePacked_50 : decode cX3_calculatePacked 50 = .ok (.invokevirtual 279, 3) := by decide +kernel
theorem dX3_calculatePacked_53 : decode cX3_calculatePacked 53 = .ok (.ifCond .ne 6, 3) := by decide +kernel
theorem dX3_calculatePacked_56 : decode cX3_calculatePacked 56 = .ok (.bipush 7, 2) := by decide +kernel
theorem dX3_calculatePacked_58 : decode cX3_calculatePacked 58 = .ok (.ireturn, 1) := by decide +kernel
theorem dX3_calculatePacked_59 : decode cX3_calculatePacked 59 = .ok (.aload_n 0, 1) := by decide +kernel
theorem dX3_calculatePacked_60 : decode cX3_calculatePacked 60 = .ok (.getfield 61, 3) := by decide +kernel
theorem dX3_calculatePacked_63 : decode cX3_calculatePacked 63 = .ok (.sipush 248, 3) := by decide +kernel
theorem dX3_calculatePacked_66 : decode cX3_calculatePacked 66 = .ok (.if_icmp .ne 14, 3) := by decide +kernel
theorem dX3_calculatePacked_69 : decode cX3_calculatePacked 69 = .ok (.aload_n 0, 1) := by decide +kernel
theorem dX3_calculatePacked_70 : decode cX3_calculatePacked 70 = .ok (.getfield 39, 3) := by decide +kernel
theorem dX3_calculatePacked_73 : decode cX3_calculatePacked 73 = .ok (.iconst 0, 1) := by decide +kernel
theorem dX3_calculatePacked_74 : decode cX3_calculatePacked 74 = .ok (.invokevirtual 273, 3) := by decide +kernel
theorem dX3_calculatePacked_77 : decode cX3_calculatePacked 77 = .ok (.goto 30, 3) := by decide +kernel
theorem dX3_calculatePacked_80 : decode cX3_calculatePacked 80 = .ok (.aload_n 0, 1) := by decide +kernel
theorem dX3_calculatePacked_81 : decode cX3_calculatePacked 81 = .ok (.getfield 39, 3) := by decide +kernel
theorem dX3_calculatePacked_84 : decode cX3_calculatePacked 84 = .ok (.aload_n 0, 1) := by decide +kernel
theorem dX3_calculatePacked_85 : decode cX3_calculatePacked 85 = .ok (.getfield 12, 3) := by decide +kernel
theorem dX3_calculatePacked_88 : decode cX3_calculatePacked 88 = .ok (.aload_n 0, 1) := by decide +kernel
theorem dX3_calculatePacked_89 : decode cX3_calculatePacked 89 = .ok (.getfield 152, 3) := by decide +kernel
theorem dX3_calculatePacked_92 : decode cX3_calculatePacked 92 = .ok (.aload_n 0, 1) := by decide +kernel
theorem dX3_calculatePacked_93 : decode cX3_calculatePacked 93 = .ok (.getfield 142, 3) := by decide +kernel
theorem dX3_calculatePacked_96 : decode cX3_calculatePacked 96 = .ok (.iconst 1, 1) := by decide +kernel
theorem dX3_calculatePacked_97 : decode cX3_calculatePacked 97 = .ok (.iadd, 1) := by decide +kernel
theorem dX3_calculatePacked_98 : decode cX3_calculatePacked 98 = .ok (.invokevirtual 279, 3) := by decide +kernel
theorem dX3_calculatePacked_101 : decode cX3_calculatePacked 101 = .ok (.ifCond .ne 6, 3) := by decide +kernel
theorem dX3_calculatePacked_104 : decode cX3_calculatePacked 104 = .ok (.bipush 7, 2) := by decide +kernel
theorem dX3_calculatePacked_106 : decode cX3_calculatePacked 106 = .ok (.ireturn, 1) := by decide +kernel
theorem dX3_calculatePacked_107 : decode cX3_calculatePacked 107 = .ok (.aload_n 0, 1) := by decide +kernel
theorem dX3_calculatePacked_108 : decode cX3_calculatePacked 108 = .ok (.getfield 61, 3) := by decide +kernel
theorem dX3_calculatePacked_111 : decode cX3_calculatePacked 111 = .ok (.sipush 251, 3) := by decide +kernel
theorem dX3_calculatePacked_114 : decode cX3_calculatePacked 114 = .ok (.if_icmp .ne 17, 3) := by decide +kernel
theorem dX3_calculatePacked_117 : decode cX3_calculatePacked 117 = .ok (.aload_n 0, 1) := by decide +kernel
theorem dX3_calculatePacked_118 : decode cX3_calculatePacked 118 = .ok (.getfield 39, 3) := by decide +kernel
theorem dX3_calculatePacked_121 : decode cX3_calculatePacked 121 = .ok (.aload_n 0, 1) := by decide +kernel
theorem dX3_calculatePacked_122 : decode cX3_calculatePacked 122 = .ok (.getfield 43, 3) := by decide +kernel
theorem dX3_calculatePacked_125 : decode cX3_calculatePacked 125 = .ok (.invokevirtual 344, 3) := by decide +kernel
theorem dX3_calculatePacked_128 : decode cX3_calculatePacked 128 = .ok (.goto 14, 3) := by decide +kernel
theorem dX3_calculatePacked_131 : decode cX3_calculatePacked 131 = .ok (.aload_n 0, 1) := by decide +kernel
theorem dX3_calculatePacked_132 : decode cX3_calculatePacked 132 = .ok (.getfield 39, 3) := by decide +kernel
theorem dX3_calculatePacked_135 : decode cX3_calculatePacked 135 = .ok (.aload_n 0, 1) := by decide +kernel
theorem dX3_calculatePacked_136 : decode cX3_calculatePacked 136 = .ok (.getfield 43, 3) := by decide +kernel
theorem dX3_calculatePacked_139 : decode cX3_calculatePacked 139 = .ok (.invokevirtual 348, 3) := by decide +kernel
theorem dX3_calculatePacked_142 : decode cX3_calculatePacked 142 = .ok (.aload_n 0, 1) := by decide +kernel
theorem dX3_calculatePacked_143 : decode cX3_calculatePacked 143 = .ok (.invokevirtual 351, 3) := by decide +kernel
theorem dX3_calculatePacked_146 : decode cX3_calculatePacked 146 = .ok (.ireturn, 1) := by decide +kernel
theorem dX3_putPacked_0 : decode cX3_putPacked 0 = .ok (.aload_n 0, 1) := by decide +kernel
theorem dX3_putPacked_1 : decode cX3_putPacked 1 = .ok (.getfield 39, 3) := by decide +kernel
theorem dX3_putPacked_4 : decode cX3_putPacked 4 = .ok (.aload_n 0, 1) := by decide +kernel
theorem dX3_putPacked_5 : decode cX3_putPacked 5 = .ok (.getfield 12, 3) := by decide +kernel
theorem dX3_putPacked_8 : decode cX3_putPacked 8 = .ok (.aload_n 0, 1) := by decide +kernel
theorem dX3_putPacked_9 : decode cX3_putPacked 9 = .ok (.getfield 152, 3) := by decide +kernel
theorem dX3_putPacked_12 : decode cX3_putPacked 12 = .ok (.aload_n 0, 1) := by decide +kernel
theorem dX3_putPacked_13 : decode cX3_putPacked 13 = .ok (.getfield 142, 3) := by decide +kernel
theorem dX3_putPacked_16 : decode cX3_putPacked 16 = .ok (.iconst 1, 1) := by decide +kernel
theorem dX3_putPacked_17 : decode cX3_putPacked 17 = .ok (.iadd, 1) := by decide +kernel
theorem dX3_putPacked_18 : decode cX3_putPacked 18 = .ok (.invokevirtual 276, 3) := by decide +kernel
theorem dX3_putPacked_21 : decode cX3_putPacked 21 = .ok (.ifCond .eq 19, 3) := by decide +kernel
theorem dX3_putPacked_24 : decode cX3_putPacked 24 = .ok (.aload_n 0, 1) := by decide +kernel
theorem dX3_putPacked_25 : decode cX3_putPacked 25 = .ok (.getfield 21, 3) := by decide +kernel
theorem dX3_putPacked_28 : decode cX3_putPacked 28 = .ok (.aload_n 0, 1) := by decide +kernel
theorem dX3_putPacked_29 : decode cX3_putPacked 29 = .ok (.getfield 39, 3) := by decide +kernel
theorem dX3_putPacked_32 : decode cX3_putPacked 32 = .ok (.invokevirtual 354, 3) := by decide +kernel
theorem dX3_putPacked_35 : decode cX3_putPacked 35 = .ok (.putfield 209, 3) := by decide +kernel
theorem dX3_putPacked_38 : decode cX3_putPacked 38 = .ok (.iconst 0, 1) := by decide +kernel
theorem dX3_putPacked_39 : decode cX3_putPacked 39 = .ok (.ireturn, 1) := by decide +kernel
theorem dX3_putPacked_40 : decode cX3_putPacked 40 = .ok (.aload_n 0, 1) := by decide +kernel
theorem dX3_putPacked_41 : decode cX3_putPacked 41 = .ok (.getfield 21, 3) := by decide +kernel
theorem dX3_putPacked_44 : decode cX3_putPacked 44 = .ok (.iconst 3, 1) := by decide +kernel
theorem dX3_putPacked_45 : decode cX3_putPacked 45 = .ok (.putfield 209, 3) := by decide +kernel
theorem dX3_putPacked_48 : decode cX3_putPacked 48 = .ok (.aload_n 0, 1) := by decide +kernel
theorem dX3_putPacked_49 : decode cX3_putPacked 49 = .ok (.getfield 21, 3) := by decide +kernel
theorem dX3_putPacked_52 : decode cX3_putPacked 52 = .ok (.bipush 16, 2) := by decide +kernel
theorem dX3_putPacked_54 : decode cX3_putPacked 54 = .ok (.invokevirtual 90, 3) := by decide +kernel
theorem dX3_putPacked_57 : decode cX3_putPacked 57 = .ok (.ifCond .eq 8, 3) := by decide +kernel
theorem dX3_putPacked_60 : decode cX3_putPacked 60 = .ok (.bipush 10, 2) := by decide +kernel
theorem dX3_putPacked_62 : decode cX3_putPacked 62 = .ok (.goto 4, 3) := by decide +kernel
theorem dX3_putPacked_65 : decode cX3_putPacked 65 = .ok (.iconst 0, 1) := by decide +kernel
theorem dX3_putPacked_66 : decode cX3_putPacked 66 = .ok (.ireturn, 1) := by decide +kernel
theorem dX3_comparePacked_0 : decode cX3_comparePacked 0 = .ok (.aload_n 0, 1) := by decide +kernel
theorem dX3_comparePacked_1 : decode cX3_comparePacked 1 = .ok (.aload_n 0, 1) := by decide +kernel
theorem dX3_comparePacked_2 : decode cX3_comparePacked 2 = .ok (.getfield 152, 3) := by decide +kernel
theorem dX3_comparePacked_5 : decode cX3_comparePacked 5 = .ok (.aload_n 0, 1) := by decide +kernel
theorem dX3_comparePacked_6 : decode cX3_comparePacked 6 = .ok (.getfield 142, 3) := by decide +kernel
theorem dX3_comparePacked_9 : decode cX3_comparePacked 9 = .ok (.iconst 1, 1) := by decide +kernel
theorem dX3_comparePacked_10 : decode cX3_comparePacked 10 = .ok (.iadd, 1) := by decide +kernel
theorem dX3_comparePacked_11 : decode cX3_comparePacked 11 = .ok (.iconst 1, 1) := by decide +kernel
theorem dX3_comparePacked_12 : decode cX3_comparePacked 12 = .ok (.invokestatic 165, 3) := by decide +kernel
theorem dX3_comparePacked_15 : decode cX3_comparePacked 15 = .ok (.aload_n 0, 1) := by decide +kernel
theorem dX3_comparePacked_16 : decode cX3_comparePacked 16 = .ok (.getfield 145, 3) := by decide +kernel
theorem dX3_comparePacked_19 : decode cX3_comparePacked 19 = .ok (.iconst 1, 1) := by decide +kernel
theorem dX3_comparePacked_20 : decode cX3_comparePacked 20 = .ok (.iadd, 1) := by decide +kernel
theorem dX3_comparePacked_21 : decode cX3_comparePacked 21 = .ok (.invokevirtual 341, 3) := by decide +kernel
theorem dX3_comparePacked_24 : decode cX3_comparePacked 24 = .ok (.istore_n 1, 1) := by decide +kernel
theorem dX3_comparePacked_25 : decode cX3_comparePacked 25 = .ok (.iload_n 1, 1) := by decide +kernel
theorem dX3_comparePacked_26 : decode cX3_comparePacked 26 = .ok (.ifCond .eq 5, 3) := by decide +kernel
theorem dX3_comparePacked_29 : decode cX3_comparePacked 29 = .ok (.iload_n 1, 1) := by decide +kernel
theorem dX3_comparePacked_30 : decode cX3_comparePacked 30 = .ok (.ireturn, 1) := by decide +kernel
theorem dX3_comparePacked_31 : decode cX3_comparePacked 31 = .ok (.aload_n 0, 1) := by decide +kernel
theorem dX3_comparePacked_32 : decode cX3_comparePacked 32 = .ok (.getfield 39, 3) := by decide +kernel
theorem dX3_comparePacked_35 : decode cX3_comparePacked 35 = .ok (.aload_n 0, 1) := by decide +kernel
theorem dX3_comparePacked_36 : decode cX3_comparePacked 36 = .ok (.getfield 12, 3) := by decide +kernel
theorem dX3_comparePacked_39 : decode cX3_comparePacked 39 = .ok (.aload_n 0, 1) := by decide +kernel
theorem dX3_comparePacked_40 : decode cX3_comparePacked 40 = .ok (.getfield 152, 3) := by decide +kernel
theorem dX3_comparePacked_43 : decode cX3_comparePacked 43 = .ok (.aload_n 0, 1) := by decide +kernel
theorem dX3_comparePacked_44 : decode cX3_comparePacked 44 = .ok (.getfield 142, 3) := by decide +kernel
theorem dX3_comparePacked_47 : decode cX3_comparePacked 47 = .ok (.iconst 1, 1) := by decide +kernel
theorem dX3_comparePacked_48 : decode cX3_comparePacked 48 = .ok (.iadd, 1) := by decide +kernel
theorem dX3_comparePacked_49 : decode cX3_comparePacked 49 = .ok (.invokevirtual 279, 3) := by decide +kernel
theorem dX3_comparePacked_52 : decode cX3_comparePacked 52 = .ok (.istore_n 2, 1) := by decide +kernel
theorem dX3_comparePacked_53 : decode cX3_comparePacked 53 = .ok (.iload_n 2, 1) := by decide +kernel
theorem dX3_comparePacked_54 : decode cX3_comparePacked 54 = .ok (.ifCond .eq 27, 3) := by decide +kernel
theorem dX3_comparePacked_57 : decode cX3_comparePacked 57 = .ok (.aload_n 0, 1) := by decide +kernel
theorem dX3_comparePacked_58 : decode cX3_comparePacked 58 = .ok (.getfield 43, 3) := by decide +kernel
theorem dX3_comparePacked_61 : decode cX3_comparePacked 61 = .ok (.aload_n 0, 1) := by decide +kernel
theorem dX3_comparePacked_62 : decode cX3_comparePacked 62 = .ok (.getfield 12, 3) := by decide +kernel
theorem dX3_comparePacked_65 : decode cX3_comparePacked 65 = .ok (.aload_n 0, 1) := by decide +kernel
theorem dX3_comparePacked_66 : decode cX3_comparePacked 66 = .ok (.getfield 155, 3) := by decide +kernel
theorem dX3_comparePacked_69 : decode cX3_comparePacked 69 = .ok (.aload_n 0, 1) := by decide +kernel
theorem dX3_comparePacked_70 : decode cX3_comparePacked 70 = .ok (.getfield 145, 3) := by decide +kernel
theorem dX3_comparePacked_73 : decode cX3_comparePacked 73 = .ok (.iconst 1, 1) := by decide +kernel
theorem dX3_comparePacked_74 : decode cX3_comparePacked 74 = .ok (.iadd, 1) := by decide +kernel
theorem dX3_comparePacked_75 : decode cX3_comparePacked 75 = .ok (.invokevirtual 279, 3) := by decide +kernel
theorem dX3_comparePacked_78 : decode cX3_comparePacked 78 = .ok (.ifCond .ne 6, 3) := by decide +kernel
theorem dX3_comparePacked_81 : decode cX3_comparePacked 81 = .ok (.bipush 7, 2) := by decide +kernel
theorem dX3_comparePacked_83 : decode cX3_comparePacked 83 = .ok (.ireturn, 1) := by decide +kernel
theorem dX3_comparePacked_84 : decode cX3_comparePacked 84 = .ok (.aload_n 0, 1) := by decide +kernel
theorem dX3_comparePacked_85 : decode cX3_comparePacked 85 = .ok (.getfield 21, 3) := by decide +kernel
theorem dX3_comparePacked_88 : decode cX3_comparePacked 88 = .ok (.aload_n 0, 1) := by decide +kernel
theorem dX3_comparePacked_89 : decode cX3_comparePacked 89 = .ok (.getfield 39, 3) := by decide +kernel
theorem dX3_comparePacked_92 : decode cX3_comparePacked 92 = .ok (.aload_n 0, 1) := by decide +kernel
theorem dX3_comparePacked_93 : decode cX3_comparePacked 93 = .ok (.getfield 43, 3) := by decide +kernel
theorem dX3_comparePacked_96 : decode cX3_comparePacked 96 = .ok (.invokevirtual 357, 3) := by decide +kernel
theorem dX3_comparePacked_99 : decode cX3_comparePacked 99 = .ok (.putfield 209, 3) := by decide +kernel
theorem dX3_comparePacked_102 : decode cX3_comparePacked 102 = .ok (.iconst 0, 1) := by decide +kernel
theorem dX3_comparePacked_103 : decode cX3_comparePacked 103 = .ok (.ireturn, 1) := by decide +kernel
