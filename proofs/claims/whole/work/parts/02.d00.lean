theorem dX0_init_0 : decode cX0_init 0 = .ok (.aload_n 0, 1) := by decide +kernel
theorem dX0_init_1 : decode cX0_init 1 = .ok (.invokespecial 1, 3) := by decide +kernel
theorem dX0_init_4 : decode cX0_init 4 = .ok (.aload_n 0, 1) := by decide +kernel
theorem dX0_init_5 : decode cX0_init 5 = .ok (.lload_n 1, 1) := by decide +kernel
theorem dX0_init_6 : decode cX0_init 6 = .ok (.putfield 7, 3) := by decide +kernel
theorem dX0_init_9 : decode cX0_init 9 = .ok (.return_, 1) := by decide +kernel
theorem dX1_init_0 : decode cX1_init 0 = .ok (.aload_n 0, 1) := by decide +kernel
theorem dX1_init_1 : decode cX1_init 1 = .ok (.invokespecial 3, 3) := by decide +kernel
theorem dX1_init_4 : decode cX1_init 4 = .ok (.aload_n 0, 1) := by decide +kernel
theorem dX1_init_5 : decode cX1_init 5 = .ok (.iconst 3, 1) := by decide +kernel
theorem dX1_init_6 : decode cX1_init 6 = .ok (.putfield 9, 3) := by decide +kernel
theorem dX1_init_9 : decode cX1_init 9 = .ok (.aload_n 0, 1) := by decide +kernel
theorem dX1_init_10 : decode cX1_init 10 = .ok (.iconst (-1), 1) := by decide +kernel
theorem dX1_init_11 : decode cX1_init 11 = .ok (.putfield 15, 3) := by decide +kernel
theorem dX1_init_14 : decode cX1_init 14 = .ok (.aload_n 0, 1) := by decide +kernel
theorem dX1_init_15 : decode cX1_init 15 = .ok (.new 18, 3) := by decide +kernel
theorem dX1_init_18 : decode cX1_init 18 = .ok (.dup, 1) := by decide +kernel
theorem dX1_init_19 : decode cX1_init 19 = .ok (.invokespecial 20, 3) := by decide +kernel
theorem dX1_init_22 : decode cX1_init 22 = .ok (.putfield 21, 3) := by decide +kernel
theorem dX1_init_25 : decode cX1_init 25 = .ok (.aload_n 0, 1) := by decide +kernel
theorem dX1_init_26 : decode cX1_init 26 = .ok (.aload_n 1, 1) := by decide +kernel
theorem dX1_init_27 : decode cX1_init 27 = .ok (.putfield 25, 3) := by decide +kernel
theorem dX1_init_30 : decode cX1_init 30 = .ok (.aload_n 0, 1) := by decide +kernel
theorem dX1_init_31 : decode cX1_init 31 = .ok (.iload_n 2, 1) := by decide +kernel
theorem dX1_init_32 : decode cX1_init 32 = .ok (.putfield 29, 3) := by decide +kernel
theorem dX1_init_35 : decode cX1_init 35 = .ok (.aload_n 0, 1) := by decide +kernel
theorem dX1_init_36 : decode cX1_init 36 = .ok (.iload_n 3, 1) := by decide +kernel
theorem dX1_init_37 : decode cX1_init 37 = .ok (.putfield 32, 3) := by decide +kernel
theorem dX1_init_40 : decode cX1_init 40 = .ok (.aload_n 0, 1) := by decide +kernel
theorem dX1_init_41 : decode cX1_init 41 = .ok (.lload 4, 2) := by decide +kernel
theorem dX1_init_43 : decode cX1_init 43 = .ok (.putfield 35, 3) := by decide +kernel
theorem dX1_init_46 : decode cX1_init 46 = .ok (.aload_n 0, 1) := by decide +kernel
theorem dX1_init_47 : decode cX1_init 47 = .ok (.iload 6, 2) := by decide +kernel
theorem dX1_init_49 : decode cX1_init 49 = .ok (.putfield 39, 3) := by decide +kernel
theorem dX1_init_52 : decode cX1_init 52 = .ok (.return_, 1) := by decide +kernel
theorem dX1_takes_0 : decode cX1_takes 0 = .ok (.aload_n 1, 1) := by decide +kernel
theorem dX1_takes_1 : decode cX1_takes 1 = .ok (.getfield 42, 3) := by decide +kernel
theorem dX1_takes_4 : decode cX1_takes 4 = .ok (.tableswitch 76 1 9 #[52, 76, 58, 76, 64, 76, 76, 76, 70], 52) := by decide +kernel
theorem dX1_takes_56 : decode cX1_takes 56 = .ok (.aload_n 0, 1) := by decide +kernel
theorem dX1_takes_57 : decode cX1_takes 57 = .ok (.aload_n 1, 1) := by decide +kernel
theorem dX1_takes_58 : decode cX1_takes 58 = .ok (.invokevirtual 47, 3) := by decide +kernel
theorem dX1_takes_61 : decode cX1_takes 61 = .ok (.ireturn, 1) := by decide +kernel
theorem dX1_takes_62 : decode cX1_takes 62 = .ok (.aload_n 0, 1) := by decide +kernel
theorem dX1_takes_63 : decode cX1_takes 63 = .ok (.aload_n 1, 1) := by decide +kernel
theorem dX1_takes_64 : decode cX1_takes 64 = .ok (.invokevirtual 51, 3) := by decide +kernel
theorem dX1_takes_67 : decode cX1_takes 67 = .ok (.ireturn, 1) := by decide +kernel
theorem dX1_takes_68 : decode cX1_takes 68 = .ok (.aload_n 0, 1) := by decide +kernel
theorem dX1_takes_69 : decode cX1_takes 69 = .ok (.aload_n 1, 1) := by decide +kernel
theorem dX1_takes_70 : decode cX1_takes 70 = .ok (.invokevirtual 54, 3) := by decide +kernel
theorem dX1_takes_73 : decode cX1_takes 73 = .ok (.ireturn, 1) := by decide +kernel
theorem dX1_takes_74 : decode cX1_takes 74 = .ok (.aload_n 0, 1) := by decide +kernel
theorem dX1_takes_75 : decode cX1_takes 75 = .ok (.aload_n 1, 1) := by decide +kernel
theorem dX1_takes_76 : decode cX1_takes 76 = .ok (.invokevirtual 57, 3) := by decide +kernel
theorem dX1_takes_79 : decode cX1_takes 79 = .ok (.ireturn, 1) := by decide +kernel
theorem dX1_takes_80 : decode cX1_takes 80 = .ok (.iconst 0, 1) := by decide +kernel
theorem dX1_takes_81 : decode cX1_takes 81 = .ok (.ireturn, 1) := by decide +kernel
theorem dX1_takesBegin_0 : decode cX1_takesBegin 0 = .ok (.aload_n 0, 1) := by decide +kernel
theorem dX1_takesBegin_1 : decode cX1_takesBegin 1 = .ok (.getfield 60, 3) := by decide +kernel
theorem dX1_takesBegin_4 : decode cX1_takesBegin 4 = .ok (.ldc 63, 2) := by decide +kernel
theorem dX1_takesBegin_6 : decode cX1_takesBegin 6 = .ok (.if_icmp .lt 5, 3) := by decide +kernel
theorem dX1_takesBegin_9 : decode cX1_takesBegin 9 = .ok (.iconst 0, 1) := by decide +kernel
theorem dX1_takesBegin_10 : decode cX1_takesBegin 10 = .ok (.ireturn, 1) := by decide +kernel
theorem dX1_takesBegin_11 : decode cX1_takesBegin 11 = .ok (.aload_n 0, 1) := by decide +kernel
theorem dX1_takesBegin_12 : decode cX1_takesBegin 12 = .ok (.invokevirtual 64, 3) := by decide +kernel
theorem dX1_takesBegin_15 : decode cX1_takesBegin 15 = .ok (.ifCond .eq 5, 3) := by decide +kernel
theorem dX1_takesBegin_18 : decode cX1_takesBegin 18 = .ok (.iconst 1, 1) := by decide +kernel
theorem dX1_takesBegin_19 : decode cX1_takesBegin 19 = .ok (.ireturn, 1) := by decide +kernel
theorem dX1_takesBegin_20 : decode cX1_takesBegin 20 = .ok (.aload_n 0, 1) := by decide +kernel
theorem dX1_takesBegin_21 : decode cX1_takesBegin 21 = .ok (.dup, 1) := by decide +kernel
theorem dX1_takesBegin_22 : decode cX1_takesBegin 22 = .ok (.getfield 60, 3) := by decide +kernel
theorem dX1_takesBegin_25 : decode cX1_takesBegin 25 = .ok (.iconst 1, 1) := by decide +kernel
theorem dX1_takesBegin_26 : decode cX1_takesBegin 26 = .ok (.iadd, 1) := by decide +kernel
theorem dX1_takesBegin_27 : decode cX1_takesBegin 27 = .ok (.putfield 60, 3) := by decide +kernel
theorem dX1_takesBegin_30 : decode cX1_takesBegin 30 = .ok (.aload_n 0, 1) := by decide +kernel
theorem dX1_takesBegin_31 : decode cX1_takesBegin 31 = .ok (.iconst 1, 1) := by decide +kernel
theorem dX1_takesBegin_32 : decode cX1_takesBegin 32 = .ok (.putfield 68, 3) := by decide +kernel
theorem dX1_takesBegin_35 : decode cX1_takesBegin 35 = .ok (.aload_n 0, 1) := by decide +kernel
theorem dX1_takesBegin_36 : decode cX1_takesBegin 36 = .ok (.iconst 0, 1) := by decide +kernel
theorem dX1_takesBegin_37 : decode cX1_takesBegin 37 = .ok (.putfield 71, 3) := by decide +kernel
theorem dX1_takesBegin_40 : decode cX1_takesBegin 40 = .ok (.aload_n 0, 1) := by decide +kernel
theorem dX1_takesBegin_41 : decode cX1_takesBegin 41 = .ok (.getfield 25, 3) := by decide +kernel
theorem dX1_takesBegin_44 : decode cX1_takesBegin 44 = .ok (.getfield 74, 3) := by decide +kernel
theorem dX1_takesBegin_47 : decode cX1_takesBegin 47 = .ok (.getfield 80, 3) := by decide +kernel
theorem dX1_takesBegin_50 : decode cX1_takesBegin 50 = .ok (.iconst 1, 1) := by decide +kernel
theorem dX1_takesBegin_51 : decode cX1_takesBegin 51 = .ok (.aload_n 0, 1) := by decide +kernel
theorem dX1_takesBegin_52 : decode cX1_takesBegin 52 = .ok (.getfield 29, 3) := by decide +kernel
theorem dX1_takesBegin_55 : decode cX1_takesBegin 55 = .ok (.i2l, 1) := by decide +kernel
theorem dX1_takesBegin_56 : decode cX1_takesBegin 56 = .ok (.lastore, 1) := by decide +kernel
theorem dX1_takesBegin_57 : decode cX1_takesBegin 57 = .ok (.aload_n 0, 1) := by decide +kernel
theorem dX1_takesBegin_58 : decode cX1_takesBegin 58 = .ok (.getfield 25, 3) := by decide +kernel
theorem dX1_takesBegin_61 : decode cX1_takesBegin 61 = .ok (.getfield 74, 3) := by decide +kernel
theorem dX1_takesBegin_64 : decode cX1_takesBegin 64 = .ok (.getfield 80, 3) := by decide +kernel
theorem dX1_takesBegin_67 : decode cX1_takesBegin 67 = .ok (.iconst 2, 1) := by decide +kernel
theorem dX1_takesBegin_68 : decode cX1_takesBegin 68 = .ok (.aload_n 0, 1) := by decide +kernel
theorem dX1_takesBegin_69 : decode cX1_takesBegin 69 = .ok (.getfield 60, 3) := by decide +kernel
theorem dX1_takesBegin_72 : decode cX1_takesBegin 72 = .ok (.i2l, 1) := by decide +kernel
theorem dX1_takesBegin_73 : decode cX1_takesBegin 73 = .ok (.lastore, 1) := by decide +kernel
theorem dX1_takesBegin_74 : decode cX1_takesBegin 74 = .ok (.aload_n 0, 1) := by decide +kernel
theorem dX1_takesBegin_75 : decode cX1_takesBegin 75 = .ok (.getfield 25, 3) := by decide +kernel
theorem dX1_takesBegin_78 : decode cX1_takesBegin 78 = .ok (.getfield 74, 3) := by decide +kernel
theorem dX1_takesBegin_81 : decode cX1_takesBegin 81 = .ok (.getfield 80, 3) := by decide +kernel
theorem dX1_takesBegin_84 : decode cX1_takesBegin 84 = .ok (.bipush 8, 2) := by decide +kernel
theorem dX1_takesBegin_86 : decode cX1_takesBegin 86 = .ok (.aload_n 0, 1) := by decide +kernel
theorem dX1_takesBegin_87 : decode cX1_takesBegin 87 = .ok (.getfield 25, 3) := by decide +kernel
theorem dX1_takesBegin_90 : decode cX1_takesBegin 90 = .ok (.getfield 84, 3) := by decide +kernel
theorem dX1_takesBegin_93 : decode cX1_takesBegin 93 = .ok (.aload_n 0, 1) := by decide +kernel
theorem dX1_takesBegin_94 : decode cX1_takesBegin 94 = .ok (.getfield 29, 3) := by decide +kernel
theorem dX1_takesBegin_97 : decode cX1_takesBegin 97 = .ok (.aload_n 0, 1) := by decide +kernel
theorem dX1_takesBegin_98 : decode cX1_takesBegin 98 = .ok (.getfield 60, 3) := by decide +kernel
theorem dX1_takesBegin_101 : decode cX1_takesBegin 101 = .ok (.aload_n 1, 1) := by decide +kernel
theorem dX1_takesBegin_102 : decode cX1_takesBegin 102 = .ok (.getfield 80, 3) := by decide +kernel
theorem dX1_takesBegin_105 : decode cX1_takesBegin 105 = .ok (.iconst 4, 1) := by decide +kernel
theorem dX1_takesBegin_106 : decode cX1_takesBegin 106 = .ok (.laload, 1) := by decide +kernel
theorem dX1_takesBegin_107 : decode cX1_takesBegin 107 = .ok (.invokevirtual 88, 3) := by decide +kernel
theorem dX1_takesBegin_110 : decode cX1_takesBegin 110 = .ok (.invokevirtual 94, 3) := by decide +kernel
theorem dX1_takesBegin_113 : decode cX1_takesBegin 113 = .ok (.lastore, 1) := by decide +kernel
theorem dX1_takesBegin_114 : decode cX1_takesBegin 114 = .ok (.aload_n 0, 1) := by decide +kernel
theorem dX1_takesBegin_115 : decode cX1_takesBegin 115 = .ok (.aload_n 1, 1) := by decide +kernel
theorem dX1_takesBegin_116 : decode cX1_takesBegin 116 = .ok (.iconst 2, 1) := by decide +kernel
theorem dX1_takesBegin_117 : decode cX1_takesBegin 117 = .ok (.invokevirtual 98, 3) := by decide +kernel
theorem dX1_takesBegin_120 : decode cX1_takesBegin 120 = .ok (.iconst 1, 1) := by decide +kernel
theorem dX1_takesBegin_121 : decode cX1_takesBegin 121 = .ok (.ireturn, 1) := by decide +kernel
theorem dX1_takesPin_0 : decode cX1_takesPin 0 = .ok (.aload_n 0, 1) := by decide +kernel
theorem dX1_takesPin_1 : decode cX1_takesPin 1 = .ok (.getfield 68, 3) := by decide +kernel
theorem dX1_takesPin_4 : decode cX1_takesPin 4 = .ok (.iconst 1, 1) := by decide +kernel
theorem dX1_takesPin_5 : decode cX1_takesPin 5 = .ok (.if_icmp .eq 5, 3) := by decide +kernel
theorem dX1_takesPin_8 : decode cX1_takesPin 8 = .ok (.iconst 0, 1) := by decide +kernel
theorem dX1_takesPin_9 : decode cX1_takesPin 9 = .ok (.ireturn, 1) := by decide +kernel
theorem dX1_takesPin_10 : decode cX1_takesPin 10 = .ok (.aload_n 0, 1) := by decide +kernel
theorem dX1_takesPin_11 : decode cX1_takesPin 11 = .ok (.getfield 9, 3) := by decide +kernel
theorem dX1_takesPin_14 : decode cX1_takesPin 14 = .ok (.ifCond .ne 12, 3) := by decide +kernel
theorem dX1_takesPin_17 : decode cX1_takesPin 17 = .ok (.aload_n 0, 1) := by decide +kernel
theorem dX1_takesPin_18 : decode cX1_takesPin 18 = .ok (.aload_n 1, 1) := by decide +kernel
theorem dX1_takesPin_19 : decode cX1_takesPin 19 = .ok (.iconst 2, 1) := by decide +kernel
theorem dX1_takesPin_20 : decode cX1_takesPin 20 = .ok (.iconst 2, 1) := by decide +kernel
theorem dX1_takesPin_21 : decode cX1_takesPin 21 = .ok (.invokevirtual 102, 3) := by decide +kernel
theorem dX1_takesPin_24 : decode cX1_takesPin 24 = .ok (.iconst 1, 1) := by decide +kernel
theorem dX1_takesPin_25 : decode cX1_takesPin 25 = .ok (.ireturn, 1) := by decide +kernel
theorem dX1_takesPin_26 : decode cX1_takesPin 26 = .ok (.aload_n 0, 1) := by decide +kernel
theorem dX1_takesPin_27 : decode cX1_takesPin 27 = .ok (.invokevirtual 64, 3) := by decide +kernel
theorem dX1_takesPin_30 : decode cX1_takesPin 30 = .ok (.ifCond .eq 5, 3) := by decide +kernel
theorem dX1_takesPin_33 : decode cX1_takesPin 33 = .ok (.iconst 1, 1) := by decide +kernel
theorem dX1_takesPin_34 : decode cX1_takesPin 34 = .ok (.ireturn, 1) := by decide +kernel
theorem dX1_takesPin_35 : decode cX1_takesPin 35 = .ok (.aload_n 0, 1) := by decide +kernel
theorem dX1_takesPin_36 : decode cX1_takesPin 36 = .ok (.dup, 1) := by decide +kernel
theorem dX1_takesPin_37 : decode cX1_takesPin 37 = .ok (.getfield 9, 3) := by decide +kernel
theorem dX1_takesPin_40 : decode cX1_takesPin 40 = .ok (.iconst 1, 1) := by decide +kernel
theorem dX1_takesPin_41 : decode cX1_takesPin 41 = .ok (.isub, 1) := by decide +kernel
theorem dX1_takesPin_42 : decode cX1_takesPin 42 = .ok (.putfield 9, 3) := by decide +kernel
theorem dX1_takesPin_45 : decode cX1_takesPin 45 = .ok (.aload_n 1, 1) := by decide +kernel
theorem dX1_takesPin_46 : decode cX1_takesPin 46 = .ok (.getfield 80, 3) := by decide +kernel
theorem dX1_takesPin_49 : decode cX1_takesPin 49 = .ok (.bipush 9, 2) := by decide +kernel
theorem dX1_takesPin_51 : decode cX1_takesPin 51 = .ok (.laload, 1) := by decide +kernel
theorem dX1_takesPin_52 : decode cX1_takesPin 52 = .ok (.aload_n 0, 1) := by decide +kernel
theorem dX1_takesPin_53 : decode cX1_takesPin 53 = .ok (.getfield 32, 3) := by decide +kernel
theorem dX1_takesPin_56 : decode cX1_takesPin 56 = .ok (.i2l, 1) := by decide +kernel
theorem dX1_takesPin_57 : decode cX1_takesPin 57 = .ok (.lcmp, 1) := by decide +kernel
theorem dX1_takesPin_58 : decode cX1_takesPin 58 = .ok (.ifCond .eq 12, 3) := by decide +kernel
theorem dX1_takesPin_61 : decode cX1_takesPin 61 = .ok (.aload_n 0, 1) := by decide +kernel
theorem dX1_takesPin_62 : decode cX1_takesPin 62 = .ok (.aload_n 1, 1) := by decide +kernel
theorem dX1_takesPin_63 : decode cX1_takesPin 63 = .ok (.iconst 2, 1) := by decide +kernel
theorem dX1_takesPin_64 : decode cX1_takesPin 64 = .ok (.iconst 0, 1) := by decide +kernel
theorem dX1_takesPin_65 : decode cX1_takesPin 65 = .ok (.invokevirtual 102, 3) := by decide +kernel
theorem dX1_takesPin_68 : decode cX1_takesPin 68 = .ok (.iconst 1, 1) := by decide +kernel
theorem dX1_takesPin_69 : decode cX1_takesPin 69 = .ok (.ireturn, 1) := by decide +kernel
theorem dX1_takesPin_70 : decode cX1_takesPin 70 = .ok (.aload_n 0, 1) := by decide +kernel
theorem dX1_takesPin_71 : decode cX1_takesPin 71 = .ok (.invokevirtual 64, 3) := by decide +kernel
theorem dX1_takesPin_74 : decode cX1_takesPin 74 = .ok (.ifCond .eq 5, 3) := by decide +kernel
theorem dX1_takesPin_77 : decode cX1_takesPin 77 = .ok (.iconst 1, 1) := by decide +kernel
theorem dX1_takesPin_78 : decode cX1_takesPin 78 = .ok (.ireturn, 1) := by decide +kernel
theorem dX1_takesPin_79 : decode cX1_takesPin 79 = .ok (.aload_n 0, 1) := by decide +kernel
theorem dX1_takesPin_80 : decode cX1_takesPin 80 = .ok (.iconst 3, 1) := by decide +kernel
theorem dX1_takesPin_81 : decode cX1_takesPin 81 = .ok (.putfield 9, 3) := by decide +kernel
theorem dX1_takesPin_84 : decode cX1_takesPin 84 = .ok (.aload_n 0, 1) := by decide +kernel
theorem dX1_takesPin_85 : decode cX1_takesPin 85 = .ok (.aload_n 1, 1) := by decide +kernel
theorem dX1_takesPin_86 : decode cX1_takesPin 86 = .ok (.iconst 1, 1) := by decide +kernel
theorem dX1_takesPin_87 : decode cX1_takesPin 87 = .ok (.iconst 1, 1) := by decide +kernel
theorem dX1_takesPin_88 : decode cX1_takesPin 88 = .ok (.invokevirtual 102, 3) := by decide +kernel
theorem dX1_takesPin_91 : decode cX1_takesPin 91 = .ok (.iconst 1, 1) := by decide +kernel
theorem dX1_takesPin_92 : decode cX1_takesPin 92 = .ok (.ireturn, 1) := by decide +kernel
theorem dX1_replyPinned_0 : decode cX1_replyPinned 0 = .ok (.aload_n 0, 1) := by decide +kernel
theorem dX1_replyPinned_1 : decode cX1_replyPinned 1 = .ok (.iload_n 2, 1) := by decide +kernel
theorem dX1_replyPinned_2 : decode cX1_replyPinned 2 = .ok (.putfield 71, 3) := by decide +kernel
theorem dX1_replyPinned_5 : decode cX1_replyPinned 5 = .ok (.aload_n 0, 1) := by decide +kernel
theorem dX1_replyPinned_6 : decode cX1_replyPinned 6 = .ok (.getfield 25, 3) := by decide +kernel
theorem dX1_replyPinned_9 : decode cX1_replyPinned 9 = .ok (.getfield 74, 3) := by decide +kernel
theorem dX1_replyPinned_12 : decode cX1_replyPinned 12 = .ok (.getfield 80, 3) := by decide +kernel
theorem dX1_replyPinned_15 : decode cX1_replyPinned 15 = .ok (.bipush 6, 2) := by decide +kernel
theorem dX1_replyPinned_17 : decode cX1_replyPinned 17 = .ok (.iload_n 3, 1) := by decide +kernel
theorem dX1_replyPinned_18 : decode cX1_replyPinned 18 = .ok (.i2l, 1) := by decide +kernel
theorem dX1_replyPinned_19 : decode cX1_replyPinned 19 = .ok (.lastore, 1) := by decide +kernel
theorem dX1_replyPinned_20 : decode cX1_replyPinned 20 = .ok (.aload_n 0, 1) := by decide +kernel
theorem dX1_replyPinned_21 : decode cX1_replyPinned 21 = .ok (.aload_n 1, 1) := by decide +kernel
theorem dX1_replyPinned_22 : decode cX1_replyPinned 22 = .ok (.iconst 4, 1) := by decide +kernel
theorem dX1_replyPinned_23 : decode cX1_replyPinned 23 = .ok (.invokevirtual 98, 3) := by decide +kernel
theorem dX1_replyPinned_26 : decode cX1_replyPinned 26 = .ok (.return_, 1) := by decide +kernel
theorem dX1_takesAsk_0 : decode cX1_takesAsk 0 = .ok (.aload_n 0, 1) := by decide +kernel
theorem dX1_takesAsk_1 : decode cX1_takesAsk 1 = .ok (.getfield 68, 3) := by decide +kernel
theorem dX1_takesAsk_4 : decode cX1_takesAsk 4 = .ok (.iconst 1, 1) := by decide +kernel
theorem dX1_takesAsk_5 : decode cX1_takesAsk 5 = .ok (.if_icmp .eq 5, 3) := by decide +kernel
theorem dX1_takesAsk_8 : decode cX1_takesAsk 8 = .ok (.iconst 0, 1) := by decide +kernel
theorem dX1_takesAsk_9 : decode cX1_takesAsk 9 = .ok (.ireturn, 1) := by decide +kernel
theorem dX1_takesAsk_10 : decode cX1_takesAsk 10 = .ok (.aload_n 0, 1) := by decide +kernel
theorem dX1_takesAsk_11 : decode cX1_takesAsk 11 = .ok (.aload_n 1, 1) := by decide +kernel
theorem dX1_takesAsk_12 : decode cX1_takesAsk 12 = .ok (.bipush 7, 2) := by decide +kernel
theorem dX1_takesAsk_14 : decode cX1_takesAsk 14 = .ok (.invokevirtual 106, 3) := by decide +kernel
theorem dX1_takesAsk_17 : decode cX1_takesAsk 17 = .ok (.aload_n 1, 1) := by decide +kernel
theorem dX1_takesAsk_18 : decode cX1_takesAsk 18 = .ok (.getfield 80, 3) := by decide +kernel
theorem dX1_takesAsk_21 : decode cX1_takesAsk 21 = .ok (.iconst 3, 1) := by decide +kernel
theorem dX1_takesAsk_22 : decode cX1_takesAsk 22 = .ok (.laload, 1) := by decide +kernel
theorem dX1_takesAsk_23 : decode cX1_takesAsk 23 = .ok (.invokevirtual 110, 3) := by decide +kernel
theorem dX1_takesAsk_26 : decode cX1_takesAsk 26 = .ok (.istore_n 2, 1) := by decide +kernel
theorem dX1_takesAsk_27 : decode cX1_takesAsk 27 = .ok (.iload_n 2, 1) := by decide +kernel
theorem dX1_takesAsk_28 : decode cX1_takesAsk 28 = .ok (.iconst 2, 1) := by decide +kernel
theorem dX1_takesAsk_29 : decode cX1_takesAsk 29 = .ok (.if_icmp .ne 22, 3) := by decide +kernel
theorem dX1_takesAsk_32 : decode cX1_takesAsk 32 = .ok (.aload_n 0, 1) := by decide +kernel
theorem dX1_takesAsk_33 : decode cX1_takesAsk 33 = .ok (.invokevirtual 64, 3) := by decide +kernel
theorem dX1_takesAsk_36 : decode cX1_takesAsk 36 = .ok (.ifCond .eq 5, 3) := by decide +kernel
theorem dX1_takesAsk_39 : decode cX1_takesAsk 39 = .ok (.iconst 1, 1) := by decide +kernel
theorem dX1_takesAsk_40 : decode cX1_takesAsk 40 = .ok (.ireturn, 1) := by decide +kernel
theorem dX1_takesAsk_41 : decode cX1_takesAsk 41 = .ok (.aload_n 0, 1) := by decide +kernel
theorem dX1_takesAsk_42 : decode cX1_takesAsk 42 = .ok (.dup, 1) := by decide +kernel
theorem dX1_takesAsk_43 : decode cX1_takesAsk 43 = .ok (.getfield 114, 3) := by decide +kernel
theorem dX1_takesAsk_46 : decode cX1_takesAsk 46 = .ok (.iconst 1, 1) := by decide +kernel
theorem dX1_takesAsk_47 : decode cX1_takesAsk 47 = .ok (.iadd, 1) := by decide +kernel
theorem dX1_takesAsk_48 : decode cX1_takesAsk 48 = .ok (.putfield 114, 3) := by decide +kernel
theorem dX1_takesAsk_51 : decode cX1_takesAsk 51 = .ok (.aload_n 0, 1) := by decide +kernel
theorem dX1_takesAsk_52 : decode cX1_takesAsk 52 = .ok (.aload_n 1, 1) := by decide +kernel
theorem dX1_takesAsk_53 : decode cX1_takesAsk 53 = .ok (.iload_n 2, 1) := by decide +kernel
theorem dX1_takesAsk_54 : decode cX1_takesAsk 54 = .ok (.invokevirtual 117, 3) := by decide +kernel
theorem dX1_takesAsk_57 : decode cX1_takesAsk 57 = .ok (.aload_n 0, 1) := by decide +kernel
theorem dX1_takesAsk_58 : decode cX1_takesAsk 58 = .ok (.iload_n 2, 1) := by decide +kernel
theorem dX1_takesAsk_59 : decode cX1_takesAsk 59 = .ok (.iconst 1, 1) := by decide +kernel
theorem dX1_takesAsk_60 : decode cX1_takesAsk 60 = .ok (.if_icmp .ne 7, 3) := by decide +kernel
theorem dX1_takesAsk_63 : decode cX1_takesAsk 63 = .ok (.iconst 2, 1) := by decide +kernel
theorem dX1_takesAsk_64 : decode cX1_takesAsk 64 = .ok (.goto 4, 3) := by decide +kernel
theorem dX1_takesAsk_67 : decode cX1_takesAsk 67 = .ok (.iconst 0, 1) := by decide +kernel
theorem dX1_takesAsk_68 : decode cX1_takesAsk 68 = .ok (.putfield 68, 3) := by decide +kernel
theorem dX1_takesAsk_71 : decode cX1_takesAsk 71 = .ok (.aload_n 0, 1) := by decide +kernel
theorem dX1_takesAsk_72 : decode cX1_takesAsk 72 = .ok (.getfield 25, 3) := by decide +kernel
theorem dX1_takesAsk_75 : decode cX1_takesAsk 75 = .ok (.getfield 74, 3) := by decide +kernel
theorem dX1_takesAsk_78 : decode cX1_takesAsk 78 = .ok (.getfield 80, 3) := by decide +kernel
theorem dX1_takesAsk_81 : decode cX1_takesAsk 81 = .ok (.iconst 2, 1) := by decide +kernel
theorem dX1_takesAsk_82 : decode cX1_takesAsk 82 = .ok (.aload_n 0, 1) := by decide +kernel
theorem dX1_takesAsk_83 : decode cX1_takesAsk 83 = .ok (.getfield 60, 3) := by decide +kernel
theorem dX1_takesAsk_86 : decode cX1_takesAsk 86 = .ok (.i2l, 1) := by decide +kernel
theorem dX1_takesAsk_87 : decode cX1_takesAsk 87 = .ok (.lastore, 1) := by decide +kernel
theorem dX1_takesAsk_88 : decode cX1_takesAsk 88 = .ok (.aload_n 0, 1) := by decide +kernel
theorem dX1_takesAsk_89 : decode cX1_takesAsk 89 = .ok (.getfield 25, 3) := by decide +kernel
theorem dX1_takesAsk_92 : decode cX1_takesAsk 92 = .ok (.getfield 74, 3) := by decide +kernel
theorem dX1_takesAsk_95 : decode cX1_takesAsk 95 = .ok (.getfield 80, 3) := by decide +kernel
theorem dX1_takesAsk_98 : decode cX1_takesAsk 98 = .ok (.bipush 6, 2) := by decide +kernel
theorem dX1_takesAsk_100 : decode cX1_takesAsk 100 = .ok (.aload_n 0, 1) := by decide +kernel
theorem dX1_takesAsk_101 : decode cX1_takesAsk 101 = .ok (.getfield 71, 3) := by decide +kernel
theorem dX1_takesAsk_104 : decode cX1_takesAsk 104 = .ok (.i2l, 1) := by decide +kernel
theorem dX1_takesAsk_105 : decode cX1_takesAsk 105 = .ok (.lastore, 1) := by decide +kernel
theorem dX1_takesAsk_106 : decode cX1_takesAsk 106 = .ok (.aload_n 0, 1) := by decide +kernel
theorem dX1_takesAsk_107 : decode cX1_takesAsk 107 = .ok (.getfield 25, 3) := by decide +kernel
theorem dX1_takesAsk_110 : decode cX1_takesAsk 110 = .ok (.getfield 74, 3) := by decide +kernel
theorem dX1_takesAsk_113 : decode cX1_takesAsk 113 = .ok (.getfield 80, 3) := by decide +kernel
theorem dX1_takesAsk_116 : decode cX1_takesAsk 116 = .ok (.bipush 7, 2) := by decide +kernel
theorem dX1_takesAsk_118 : decode cX1_takesAsk 118 = .ok (.iload_n 2, 1) := by decide +kernel
theorem dX1_takesAsk_119 : decode cX1_takesAsk 119 = .ok (.i2l, 1) := by decide +kernel
theorem dX1_takesAsk_120 : decode cX1_takesAsk 120 = .ok (.lastore, 1) := by decide +kernel
theorem dX1_takesAsk_121 : decode cX1_takesAsk 121 = .ok (.aload_n 0, 1) := by decide +kernel
theorem dX1_takesAsk_122 : decode cX1_takesAsk 122 = .ok (.getfield 25, 3) := by decide +kernel
theorem dX1_takesAsk_125 : decode cX1_takesAsk 125 = .ok (.getfield 74, 3) := by decide +kernel
theorem dX1_takesAsk_128 : decode cX1_takesAsk 128 = .ok (.getfield 80, 3) := by decide +kernel
theorem dX1_takesAsk_131 : decode cX1_takesAsk 131 = .ok (.bipush 8, 2) := by decide +kernel
theorem dX1_takesAsk_133 : decode cX1_takesAsk 133 = .ok (.aload_n 0, 1) := by decide +kernel
theorem dX1_takesAsk_134 : decode cX1_takesAsk 134 = .ok (.getfield 25, 3) := by decide +kernel
theorem dX1_takesAsk_137 : decode cX1_takesAsk 137 = .ok (.getfield 84, 3) := by decide +kernel
theorem dX1_takesAsk_140 : decode cX1_takesAsk 140 = .ok (.aload_n 0, 1) := by decide +kernel
theorem dX1_takesAsk_141 : decode cX1_takesAsk 141 = .ok (.getfield 21, 3) := by decide +kernel
theorem dX1_takesAsk_144 : decode cX1_takesAsk 144 = .ok (.invokevirtual 120, 3) := by decide +kernel
theorem dX1_takesAsk_147 : decode cX1_takesAsk 147 = .ok (.invokevirtual 94, 3) := by decide +kernel
theorem dX1_takesAsk_150 : decode cX1_takesAsk 150 = .ok (.lastore, 1) := by decide +kernel
theorem dX1_takesAsk_151 : decode cX1_takesAsk 151 = .ok (.aload_n 0, 1) := by decide +kernel
theorem dX1_takesAsk_152 : decode cX1_takesAsk 152 = .ok (.aload_n 1, 1) := by decide +kernel
theorem dX1_takesAsk_153 : decode cX1_takesAsk 153 = .ok (.bipush 6, 2) := by decide +kernel
theorem dX1_takesAsk_155 : decode cX1_takesAsk 155 = .ok (.invokevirtual 98, 3) := by decide +kernel
theorem dX1_takesAsk_158 : decode cX1_takesAsk 158 = .ok (.iconst 1, 1) := by decide +kernel
theorem dX1_takesAsk_159 : decode cX1_takesAsk 159 = .ok (.ireturn, 1) := by decide +kernel
theorem dX1_answerTo_0 : decode cX1_answerTo 0 = .ok (.aload_n 0, 1) := by decide +kernel
theorem dX1_answerTo_1 : decode cX1_answerTo 1 = .ok (.getfield 9, 3) := by decide +kernel
theorem dX1_answerTo_4 : decode cX1_answerTo 4 = .ok (.ifCond .eq 7, 3) := by decide +kernel
theorem dX1_answerTo_7 : decode cX1_answerTo 7 = .ok (.iload_n 1, 1) := by decide +kernel
theorem dX1_answerTo_8 : decode cX1_answerTo 8 = .ok (.ifCond .ne 5, 3) := by decide +kernel
theorem dX1_answerTo_11 : decode cX1_answerTo 11 = .ok (.iconst 0, 1) := by decide +kernel
theorem dX1_answerTo_12 : decode cX1_answerTo 12 = .ok (.ireturn, 1) := by decide +kernel
theorem dX1_answerTo_13 : decode cX1_answerTo 13 = .ok (.iload_n 1, 1) := by decide +kernel
theorem dX1_answerTo_14 : decode cX1_answerTo 14 = .ok (.iconst 2, 1) := by decide +kernel
theorem dX1_answerTo_15 : decode cX1_answerTo 15 = .ok (.if_icmp .ne 27, 3) := by decide +kernel
theorem dX1_answerTo_18 : decode cX1_answerTo 18 = .ok (.lload_n 2, 1) := by decide +kernel
theorem dX1_answerTo_19 : decode cX1_answerTo 19 = .ok (.aload_n 0, 1) := by decide +kernel
theorem dX1_answerTo_20 : decode cX1_answerTo 20 = .ok (.getfield 35, 3) := by decide +kernel
theorem dX1_answerTo_23 : decode cX1_answerTo 23 = .ok (.lcmp, 1) := by decide +kernel
theorem dX1_answerTo_24 : decode cX1_answerTo 24 = .ok (.ifCond .gt 18, 3) := by decide +kernel
theorem dX1_answerTo_27 : decode cX1_answerTo 27 = .ok (.aload_n 0, 1) := by decide +kernel
theorem dX1_answerTo_28 : decode cX1_answerTo 28 = .ok (.getfield 114, 3) := by decide +kernel
theorem dX1_answerTo_31 : decode cX1_answerTo 31 = .ok (.aload_n 0, 1) := by decide +kernel
theorem dX1_answerTo_32 : decode cX1_answerTo 32 = .ok (.getfield 39, 3) := by decide +kernel
theorem dX1_answerTo_35 : decode cX1_answerTo 35 = .ok (.if_icmp .ge 7, 3) := by decide +kernel
theorem dX1_answerTo_38 : decode cX1_answerTo 38 = .ok (.iconst 2, 1) := by decide +kernel
theorem dX1_answerTo_39 : decode cX1_answerTo 39 = .ok (.goto 4, 3) := by decide +kernel
theorem dX1_answerTo_42 : decode cX1_answerTo 42 = .ok (.iconst 1, 1) := by decide +kernel
theorem dX1_answerTo_43 : decode cX1_answerTo 43 = .ok (.ireturn, 1) := by decide +kernel
theorem dX1_keepAsked_0 : decode cX1_keepAsked 0 = .ok (.aload_n 0, 1) := by decide +kernel
theorem dX1_keepAsked_1 : decode cX1_keepAsked 1 = .ok (.new 18, 3) := by decide +kernel
theorem dX1_keepAsked_4 : decode cX1_keepAsked 4 = .ok (.dup, 1) := by decide +kernel
theorem dX1_keepAsked_5 : decode cX1_keepAsked 5 = .ok (.invokespecial 20, 3) := by decide +kernel
theorem dX1_keepAsked_8 : decode cX1_keepAsked 8 = .ok (.putfield 21, 3) := by decide +kernel
theorem dX1_keepAsked_11 : decode cX1_keepAsked 11 = .ok (.aload_n 0, 1) := by decide +kernel
theorem dX1_keepAsked_12 : decode cX1_keepAsked 12 = .ok (.getfield 21, 3) := by decide +kernel
theorem dX1_keepAsked_15 : decode cX1_keepAsked 15 = .ok (.aload_n 0, 1) := by decide +kernel
theorem dX1_keepAsked_16 : decode cX1_keepAsked 16 = .ok (.getfield 29, 3) := by decide +kernel
theorem dX1_keepAsked_19 : decode cX1_keepAsked 19 = .ok (.putfield 124, 3) := by decide +kernel
theorem dX1_keepAsked_22 : decode cX1_keepAsked 22 = .ok (.aload_n 0, 1) := by decide +kernel
theorem dX1_keepAsked_23 : decode cX1_keepAsked 23 = .ok (.getfield 21, 3) := by decide +kernel
theorem dX1_keepAsked_26 : decode cX1_keepAsked 26 = .ok (.aload_n 0, 1) := by decide +kernel
theorem dX1_keepAsked_27 : decode cX1_keepAsked 27 = .ok (.getfield 60, 3) := by decide +kernel
theorem dX1_keepAsked_30 : decode cX1_keepAsked 30 = .ok (.putfield 127, 3) := by decide +kernel
theorem dX1_keepAsked_33 : decode cX1_keepAsked 33 = .ok (.aload_n 0, 1) := by decide +kernel
theorem dX1_keepAsked_34 : decode cX1_keepAsked 34 = .ok (.getfield 21, 3) := by decide +kernel
theorem dX1_keepAsked_37 : decode cX1_keepAsked 37 = .ok (.aload_n 1, 1) := by decide +kernel
theorem dX1_keepAsked_38 : decode cX1_keepAsked 38 = .ok (.getfield 80, 3) := by decide +kernel
theorem dX1_keepAsked_41 : decode cX1_keepAsked 41 = .ok (.iconst 3, 1) := by decide +kernel
theorem dX1_keepAsked_42 : decode cX1_keepAsked 42 = .ok (.laload, 1) := by decide +kernel
theorem dX1_keepAsked_43 : decode cX1_keepAsked 43 = .ok (.putfield 128, 3) := by decide +kernel
theorem dX1_keepAsked_46 : decode cX1_keepAsked 46 = .ok (.aload_n 0, 1) := by decide +kernel
theorem dX1_keepAsked_47 : decode cX1_keepAsked 47 = .ok (.getfield 21, 3) := by decide +kernel
theorem dX1_keepAsked_50 : decode cX1_keepAsked 50 = .ok (.aload_n 1, 1) := by decide +kernel
theorem dX1_keepAsked_51 : decode cX1_keepAsked 51 = .ok (.getfield 80, 3) := by decide +kernel
theorem dX1_keepAsked_54 : decode cX1_keepAsked 54 = .ok (.iconst 4, 1) := by decide +kernel
theorem dX1_keepAsked_55 : decode cX1_keepAsked 55 = .ok (.laload, 1) := by decide +kernel
theorem dX1_keepAsked_56 : decode cX1_keepAsked 56 = .ok (.putfield 131, 3) := by decide +kernel
theorem dX1_keepAsked_59 : decode cX1_keepAsked 59 = .ok (.aload_n 0, 1) := by decide +kernel
theorem dX1_keepAsked_60 : decode cX1_keepAsked 60 = .ok (.getfield 21, 3) := by decide +kernel
theorem dX1_keepAsked_63 : decode cX1_keepAsked 63 = .ok (.aload_n 1, 1) := by decide +kernel
theorem dX1_keepAsked_64 : decode cX1_keepAsked 64 = .ok (.iconst 5, 1) := by decide +kernel
theorem dX1_keepAsked_65 : decode cX1_keepAsked 65 = .ok (.invokevirtual 106, 3) := by decide +kernel
theorem dX1_keepAsked_68 : decode cX1_keepAsked 68 = .ok (.putfield 134, 3) := by decide +kernel
theorem dX1_keepAsked_71 : decode cX1_keepAsked 71 = .ok (.aload_n 0, 1) := by decide +kernel
theorem dX1_keepAsked_72 : decode cX1_keepAsked 72 = .ok (.getfield 21, 3) := by decide +kernel
theorem dX1_keepAsked_75 : decode cX1_keepAsked 75 = .ok (.aload_n 0, 1) := by decide +kernel
theorem dX1_keepAsked_76 : decode cX1_keepAsked 76 = .ok (.getfield 71, 3) := by decide +kernel
theorem dX1_keepAsked_79 : decode cX1_keepAsked 79 = .ok (.putfield 137, 3) := by decide +kernel
theorem dX1_keepAsked_82 : decode cX1_keepAsked 82 = .ok (.aload_n 0, 1) := by decide +kernel
theorem dX1_keepAsked_83 : decode cX1_keepAsked 83 = .ok (.getfield 21, 3) := by decide +kernel
theorem dX1_keepAsked_86 : decode cX1_keepAsked 86 = .ok (.iload_n 2, 1) := by decide +kernel
theorem dX1_keepAsked_87 : decode cX1_keepAsked 87 = .ok (.putfield 138, 3) := by decide +kernel
theorem dX1_keepAsked_90 : decode cX1_keepAsked 90 = .ok (.aload_n 0, 1) := by decide +kernel
theorem dX1_keepAsked_91 : decode cX1_keepAsked 91 = .ok (.getfield 25, 3) := by decide +kernel
theorem dX1_keepAsked_94 : decode cX1_keepAsked 94 = .ok (.getfield 141, 3) := by decide +kernel
theorem dX1_keepAsked_97 : decode cX1_keepAsked 97 = .ok (.aload_n 0, 1) := by decide +kernel
theorem dX1_keepAsked_98 : decode cX1_keepAsked 98 = .ok (.getfield 21, 3) := by decide +kernel
theorem dX1_keepAsked_101 : decode cX1_keepAsked 101 = .ok (.invokevirtual 145, 3) := by decide +kernel
theorem dX1_keepAsked_104 : decode cX1_keepAsked 104 = .ok (.pop, 1) := by decide +kernel
theorem dX1_keepAsked_105 : decode cX1_keepAsked 105 = .ok (.return_, 1) := by decide +kernel
theorem dX1_takesEnd_0 : decode cX1_takesEnd 0 = .ok (.aload_n 0, 1) := by decide +kernel
theorem dX1_takesEnd_1 : decode cX1_takesEnd 1 = .ok (.getfield 68, 3) := by decide +kernel
theorem dX1_takesEnd_4 : decode cX1_takesEnd 4 = .ok (.iconst 2, 1) := by decide +kernel
theorem dX1_takesEnd_5 : decode cX1_takesEnd 5 = .ok (.if_icmp .eq 5, 3) := by decide +kernel
theorem dX1_takesEnd_8 : decode cX1_takesEnd 8 = .ok (.iconst 0, 1) := by decide +kernel
theorem dX1_takesEnd_9 : decode cX1_takesEnd 9 = .ok (.ireturn, 1) := by decide +kernel
theorem dX1_takesEnd_10 : decode cX1_takesEnd 10 = .ok (.aload_n 0, 1) := by decide +kernel
theorem dX1_takesEnd_11 : decode cX1_takesEnd 11 = .ok (.aload_n 1, 1) := by decide +kernel
theorem dX1_takesEnd_12 : decode cX1_takesEnd 12 = .ok (.invokevirtual 151, 3) := by decide +kernel
theorem dX1_takesEnd_15 : decode cX1_takesEnd 15 = .ok (.ifCond .eq 7, 3) := by decide +kernel
theorem dX1_takesEnd_18 : decode cX1_takesEnd 18 = .ok (.iconst 2, 1) := by decide +kernel
theorem dX1_takesEnd_19 : decode cX1_takesEnd 19 = .ok (.goto 4, 3) := by decide +kernel
theorem dX1_takesEnd_22 : decode cX1_takesEnd 22 = .ok (.iconst 0, 1) := by decide +kernel
theorem dX1_takesEnd_23 : decode cX1_takesEnd 23 = .ok (.istore_n 2, 1) := by decide +kernel
theorem dX1_takesEnd_24 : decode cX1_takesEnd 24 = .ok (.iload_n 2, 1) := by decide +kernel
theorem dX1_takesEnd_25 : decode cX1_takesEnd 25 = .ok (.iconst 2, 1) := by decide +kernel
theorem dX1_takesEnd_26 : decode cX1_takesEnd 26 = .ok (.if_icmp .ne 17, 3) := by decide +kernel
theorem dX1_takesEnd_29 : decode cX1_takesEnd 29 = .ok (.aload_n 0, 1) := by decide +kernel
theorem dX1_takesEnd_30 : decode cX1_takesEnd 30 = .ok (.invokevirtual 64, 3) := by decide +kernel
theorem dX1_takesEnd_33 : decode cX1_takesEnd 33 = .ok (.ifCond .eq 5, 3) := by decide +kernel
theorem dX1_takesEnd_36 : decode cX1_takesEnd 36 = .ok (.iconst 1, 1) := by decide +kernel
theorem dX1_takesEnd_37 : decode cX1_takesEnd 37 = .ok (.ireturn, 1) := by decide +kernel
theorem dX1_takesEnd_38 : decode cX1_takesEnd 38 = .ok (.aload_n 0, 1) := by decide +kernel
theorem dX1_takesEnd_39 : decode cX1_takesEnd 39 = .ok (.iconst 0, 1) := by decide +kernel
theorem dX1_takesEnd_40 : decode cX1_takesEnd 40 = .ok (.putfield 114, 3) := by decide +kernel
theorem dX1_takesEnd_43 : decode cX1_takesEnd 43 = .ok (.aload_n 0, 1) := by decide +kernel
theorem dX1_takesEnd_44 : decode cX1_takesEnd 44 = .ok (.iconst 0, 1) := by decide +kernel
theorem dX1_takesEnd_45 : decode cX1_takesEnd 45 = .ok (.putfield 68, 3) := by decide +kernel
theorem dX1_takesEnd_48 : decode cX1_takesEnd 48 = .ok (.aload_n 0, 1) := by decide +kernel
theorem dX1_takesEnd_49 : decode cX1_takesEnd 49 = .ok (.getfield 25, 3) := by decide +kernel
theorem dX1_takesEnd_52 : decode cX1_takesEnd 52 = .ok (.getfield 74, 3) := by decide +kernel
theorem dX1_takesEnd_55 : decode cX1_takesEnd 55 = .ok (.getfield 80, 3) := by decide +kernel
theorem dX1_takesEnd_58 : decode cX1_takesEnd 58 = .ok (.bipush 7, 2) := by decide +kernel
theorem dX1_takesEnd_60 : decode cX1_takesEnd 60 = .ok (.iload_n 2, 1) := by decide +kernel
theorem dX1_takesEnd_61 : decode cX1_takesEnd 61 = .ok (.i2l, 1) := by decide +kernel
theorem dX1_takesEnd_62 : decode cX1_takesEnd 62 = .ok (.lastore, 1) := by decide +kernel
theorem dX1_takesEnd_63 : decode cX1_takesEnd 63 = .ok (.aload_n 0, 1) := by decide +kernel
theorem dX1_takesEnd_64 : decode cX1_takesEnd 64 = .ok (.getfield 25, 3) := by decide +kernel
theorem dX1_takesEnd_67 : decode cX1_takesEnd 67 = .ok (.getfield 74, 3) := by decide +kernel
theorem dX1_takesEnd_70 : decode cX1_takesEnd 70 = .ok (.getfield 80, 3) := by decide +kernel
theorem dX1_takesEnd_73 : decode cX1_takesEnd 73 = .ok (.bipush 8, 2) := by decide +kernel
theorem dX1_takesEnd_75 : decode cX1_takesEnd 75 = .ok (.aload_n 0, 1) := by decide +kernel
theorem dX1_takesEnd_76 : decode cX1_takesEnd 76 = .ok (.getfield 25, 3) := by decide +kernel
theorem dX1_takesEnd_79 : decode cX1_takesEnd 79 = .ok (.getfield 84, 3) := by decide +kernel
theorem dX1_takesEnd_82 : decode cX1_takesEnd 82 = .ok (.aload_n 0, 1) := by decide +kernel
theorem dX1_takesEnd_83 : decode cX1_takesEnd 83 = .ok (.getfield 21, 3) := by decide +kernel
theorem dX1_takesEnd_86 : decode cX1_takesEnd 86 = .ok (.iload_n 2, 1) := by decide +kernel
theorem dX1_takesEnd_87 : decode cX1_takesEnd 87 = .ok (.invokevirtual 154, 3) := by decide +kernel
theorem dX1_takesEnd_90 : decode cX1_takesEnd 90 = .ok (.invokevirtual 94, 3) := by decide +kernel
theorem dX1_takesEnd_93 : decode cX1_takesEnd 93 = .ok (.lastore, 1) := by decide +kernel
theorem dX1_takesEnd_94 : decode cX1_takesEnd 94 = .ok (.aload_n 0, 1) := by decide +kernel
theorem dX1_takesEnd_95 : decode cX1_takesEnd 95 = .ok (.aload_n 1, 1) := by decide +kernel
theorem dX1_takesEnd_96 : decode cX1_takesEnd 96 = .ok (.bipush 10, 2) := by decide +kernel
theorem dX1_takesEnd_98 : decode cX1_takesEnd 98 = .ok (.invokevirtual 98, 3) := by decide +kernel
theorem dX1_takesEnd_101 : decode cX1_takesEnd 101 = .ok (.iconst 1, 1) := by decide +kernel
theorem dX1_takesEnd_102 : decode cX1_takesEnd 102 = .ok (.ireturn, 1) := by decide +kernel
theorem dX1_isApproved_0 : decode cX1_isApproved 0 = .ok (.aload_n 1, 1) := by decide +kernel
theorem dX1_isApproved_1 : decode cX1_isApproved 1 = .ok (.getfield 80, 3) := by decide +kernel
theorem dX1_isApproved_4 : decode cX1_isApproved 4 = .ok (.bipush 10, 2) := by decide +kernel
theorem dX1_isApproved_6 : decode cX1_isApproved 6 = .ok (.laload, 1) := by decide +kernel
theorem dX1_isApproved_7 : decode cX1_isApproved 7 = .ok (.lconst 1, 1) := by decide +kernel
theorem dX1_isApproved_8 : decode cX1_isApproved 8 = .ok (.lcmp, 1) := by decide +kernel
theorem dX1_isApproved_9 : decode cX1_isApproved 9 = .ok (.ifCond .ne 39, 3) := by decide +kernel
theorem dX1_isApproved_12 : decode cX1_isApproved 12 = .ok (.aload_n 0, 1) := by decide +kernel
theorem dX1_isApproved_13 : decode cX1_isApproved 13 = .ok (.getfield 25, 3) := by decide +kernel
theorem dX1_isApproved_16 : decode cX1_isApproved 16 = .ok (.getfield 84, 3) := by decide +kernel
theorem dX1_isApproved_19 : decode cX1_isApproved 19 = .ok (.aload_n 0, 1) := by decide +kernel
theorem dX1_isApproved_20 : decode cX1_isApproved 20 = .ok (.getfield 29, 3) := by decide +kernel
theorem dX1_isApproved_23 : decode cX1_isApproved 23 = .ok (.aload_n 0, 1) := by decide +kernel
theorem dX1_isApproved_24 : decode cX1_isApproved 24 = .ok (.getfield 60, 3) := by decide +kernel
theorem dX1_isApproved_27 : decode cX1_isApproved 27 = .ok (.iconst 1, 1) := by decide +kernel
theorem dX1_isApproved_28 : decode cX1_isApproved 28 = .ok (.invokevirtual 158, 3) := by decide +kernel
theorem dX1_isApproved_31 : decode cX1_isApproved 31 = .ok (.aload_n 1, 1) := by decide +kernel
theorem dX1_isApproved_32 : decode cX1_isApproved 32 = .ok (.getfield 80, 3) := by decide +kernel
theorem dX1_isApproved_35 : decode cX1_isApproved 35 = .ok (.bipush 8, 2) := by decide +kernel
theorem dX1_isApproved_37 : decode cX1_isApproved 37 = .ok (.laload, 1) := by decide +kernel
theorem dX1_isApproved_38 : decode cX1_isApproved 38 = .ok (.invokevirtual 162, 3) := by decide +kernel
theorem dX1_isApproved_41 : decode cX1_isApproved 41 = .ok (.ifCond .eq 7, 3) := by decide +kernel
theorem dX1_isApproved_44 : decode cX1_isApproved 44 = .ok (.iconst 1, 1) := by decide +kernel
theorem dX1_isApproved_45 : decode cX1_isApproved 45 = .ok (.goto 4, 3) := by decide +kernel
theorem dX1_isApproved_48 : decode cX1_isApproved 48 = .ok (.iconst 0, 1) := by decide +kernel
theorem dX1_isApproved_49 : decode cX1_isApproved 49 = .ok (.ireturn, 1) := by decide +kernel
theorem dX1_reply_0 : decode cX1_reply 0 = .ok (.aload_n 0, 1) := by decide +kernel
theorem dX1_reply_1 : decode cX1_reply 1 = .ok (.getfield 25, 3) := by decide +kernel
theorem dX1_reply_4 : decode cX1_reply 4 = .ok (.iload_n 2, 1) := by decide +kernel
theorem dX1_reply_5 : decode cX1_reply 5 = .ok (.iconst 0, 1) := by decide +kernel
theorem dX1_reply_6 : decode cX1_reply 6 = .ok (.aload_n 0, 1) := by decide +kernel
theorem dX1_reply_7 : decode cX1_reply 7 = .ok (.getfield 29, 3) := by decide +kernel
theorem dX1_reply_10 : decode cX1_reply 10 = .ok (.aload_n 1, 1) := by decide +kernel
theorem dX1_reply_11 : decode cX1_reply 11 = .ok (.getfield 166, 3) := by decide +kernel
theorem dX1_reply_14 : decode cX1_reply 14 = .ok (.aload_n 1, 1) := by decide +kernel
theorem dX1_reply_15 : decode cX1_reply 15 = .ok (.getfield 169, 3) := by decide +kernel
theorem dX1_reply_18 : decode cX1_reply 18 = .ok (.invokevirtual 172, 3) := by decide +kernel
theorem dX1_reply_21 : decode cX1_reply 21 = .ok (.pop, 1) := by decide +kernel
theorem dX1_reply_22 : decode cX1_reply 22 = .ok (.return_, 1) := by decide +kernel
theorem dX1_losesPower_0 : decode cX1_losesPower 0 = .ok (.aload_n 0, 1) := by decide +kernel
theorem dX1_losesPower_1 : decode cX1_losesPower 1 = .ok (.getfield 15, 3) := by decide +kernel
theorem dX1_losesPower_4 : decode cX1_losesPower 4 = .ok (.iconst (-1), 1) := by decide +kernel
theorem dX1_losesPower_5 : decode cX1_losesPower 5 = .ok (.if_icmp .ne 5, 3) := by decide +kernel
theorem dX1_losesPower_8 : decode cX1_losesPower 8 = .ok (.iconst 0, 1) := by decide +kernel
theorem dX1_losesPower_9 : decode cX1_losesPower 9 = .ok (.ireturn, 1) := by decide +kernel
theorem dX1_losesPower_10 : decode cX1_losesPower 10 = .ok (.aload_n 0, 1) := by decide +kernel
theorem dX1_losesPower_11 : decode cX1_losesPower 11 = .ok (.dup, 1) := by decide +kernel
theorem dX1_losesPower_12 : decode cX1_losesPower 12 = .ok (.getfield 15, 3) := by decide +kernel
theorem dX1_losesPower_15 : decode cX1_losesPower 15 = .ok (.iconst 1, 1) := by decide +kernel
theorem dX1_losesPower_16 : decode cX1_losesPower 16 = .ok (.isub, 1) := by decide +kernel
theorem dX1_losesPower_17 : decode cX1_losesPower 17 = .ok (.putfield 15, 3) := by decide +kernel
theorem dX1_losesPower_20 : decode cX1_losesPower 20 = .ok (.aload_n 0, 1) := by decide +kernel
theorem dX1_losesPower_21 : decode cX1_losesPower 21 = .ok (.getfield 15, 3) := by decide +kernel
theorem dX1_losesPower_24 : decode cX1_losesPower 24 = .ok (.iconst (-1), 1) := by decide +kernel
theorem dX1_losesPower_25 : decode cX1_losesPower 25 = .ok (.if_icmp .eq 5, 3) := by decide +kernel
theorem dX1_losesPower_28 : decode cX1_losesPower 28 = .ok (.iconst 0, 1) := by decide +kernel
theorem dX1_losesPower_29 : decode cX1_losesPower 29 = .ok (.ireturn, 1) := by decide +kernel
theorem dX1_losesPower_30 : decode cX1_losesPower 30 = .ok (.aload_n 0, 1) := by decide +kernel
theorem dX1_losesPower_31 : decode cX1_losesPower 31 = .ok (.iconst 0, 1) := by decide +kernel
theorem dX1_losesPower_32 : decode cX1_losesPower 32 = .ok (.putfield 68, 3) := by decide +kernel
theorem dX1_losesPower_35 : decode cX1_losesPower 35 = .ok (.aload_n 0, 1) := by decide +kernel
theorem dX1_losesPower_36 : decode cX1_losesPower 36 = .ok (.iconst 0, 1) := by decide +kernel
theorem dX1_losesPower_37 : decode cX1_losesPower 37 = .ok (.putfield 71, 3) := by decide +kernel
theorem dX1_losesPower_40 : decode cX1_losesPower 40 = .ok (.aload_n 0, 1) := by decide +kernel
theorem dX1_losesPower_41 : decode cX1_losesPower 41 = .ok (.new 18, 3) := by decide +kernel
theorem dX1_losesPower_44 : decode cX1_losesPower 44 = .ok (.dup, 1) := by decide +kernel
theorem dX1_losesPower_45 : decode cX1_losesPower 45 = .ok (.invokespecial 20, 3) := by decide +kernel
theorem dX1_losesPower_48 : decode cX1_losesPower 48 = .ok (.putfield 21, 3) := by decide +kernel
theorem dX1_losesPower_51 : decode cX1_losesPower 51 = .ok (.iconst 1, 1) := by decide +kernel
theorem dX1_losesPower_52 : decode cX1_losesPower 52 = .ok (.ireturn, 1) := by decide +kernel
theorem dX2_init_0 : decode cX2_init 0 = .ok (.aload_n 0, 1) := by decide +kernel
theorem dX2_init_1 : decode cX2_init 1 = .ok (.invokespecial 3, 3) := by decide +kernel
theorem dX2_init_4 : decode cX2_init 4 = .ok (.aload_n 0, 1) := by decide +kernel
theorem dX2_init_5 : decode cX2_init 5 = .ok (.bipush 12, 2) := by decide +kernel
theorem dX2_init_7 : decode cX2_init 7 = .ok (.newarray .long, 2) := by decide +kernel
theorem dX2_init_9 : decode cX2_init 9 = .ok (.putfield 9, 3) := by decide +kernel
theorem dX2_init_12 : decode cX2_init 12 = .ok (.return_, 1) := by decide +kernel
theorem dX2_intField_0 : decode cX2_intField 0 = .ok (.aload_n 0, 1) := by decide +kernel
theorem dX2_intField_1 : decode cX2_intField 1 = .ok (.getfield 9, 3) := by decide +kernel
theorem dX2_intField_4 : decode cX2_intField 4 = .ok (.iload_n 1, 1) := by decide +kernel
theorem dX2_intField_5 : decode cX2_intField 5 = .ok (.laload, 1) := by decide +kernel
theorem dX2_intField_6 : decode cX2_intField 6 = .ok (.l2i, 1) := by decide +kernel
theorem dX2_intField_7 : decode cX2_intField 7 = .ok (.ireturn, 1) := by decide +kernel
theorem dX3_init_0 : decode cX3_init 0 = .ok (.aload_n 0, 1) := by decide +kernel
theorem dX3_init_1 : decode cX3_init 1 = .ok (.invokespecial 3, 3) := by decide +kernel
theorem dX3_init_4 : decode cX3_init 4 = .ok (.aload_n 0, 1) := by decide +kernel
theorem dX3_init_5 : decode cX3_init 5 = .ok (.new 9, 3) := by decide +kernel
theorem dX3_init_8 : decode cX3_init 8 = .ok (.dup, 1) := by decide +kernel
theorem dX3_init_9 : decode cX3_init 9 = .ok (.invokespecial 11, 3) := by decide +kernel
theorem dX3_init_12 : decode cX3_init 12 = .ok (.putfield 12, 3) := by decide +kernel
theorem dX3_init_15 : decode cX3_init 15 = .ok (.aload_n 0, 1) := by decide +kernel
theorem dX3_init_16 : decode cX3_init 16 = .ok (.new 9, 3) := by decide +kernel
theorem dX3_init_19 : decode cX3_init 19 = .ok (.dup, 1) := by decide +kernel
theorem dX3_init_20 : decode cX3_init 20 = .ok (.invokespecial 11, 3) := by decide +kernel
theorem dX3_init_23 : decode cX3_init 23 = .ok (.putfield 18, 3) := by decide +kernel
theorem dX3_init_26 : decode cX3_init 26 = .ok (.aload_n 0, 1) := by decide +kernel
theorem dX3_init_27 : decode cX3_init 27 = .ok (.aload_n 1, 1) := by decide +kernel
theorem dX3_init_28 : decode cX3_init 28 = .ok (.putfield 21, 3) := by decide +kernel
theorem dX3_init_31 : decode cX3_init 31 = .ok (.return_, 1) := by decide +kernel
theorem dX3_takes_0 : decode cX3_takes 0 = .ok (.aload_n 1, 1) := by decide +kernel
theorem dX3_takes_1 : decode cX3_takes 1 = .ok (.getfield 25, 3) := by decide +kernel
theorem dX3_takes_4 : decode cX3_takes 4 = .ok (.lookupswitch 40 #[(7, 28), (11, 34)], 28) := by decide +kernel
theorem dX3_takes_32 : decode cX3_takes 32 = .ok (.aload_n 0, 1) := by decide +kernel
theorem dX3_takes_33 : decode cX3_takes 33 = .ok (.aload_n 1, 1) := by decide +kernel
theorem dX3_takes_34 : decode cX3_takes 34 = .ok (.invokevirtual 31, 3) := by decide +kernel
theorem dX3_takes_37 : decode cX3_takes 37 = .ok (.ireturn, 1) := by decide +kernel
theorem dX3_takes_38 : decode cX3_takes 38 = .ok (.aload_n 0, 1) := by decide +kernel
theorem dX3_takes_39 : decode cX3_takes 39 = .ok (.aload_n 1, 1) := by decide +kernel
theorem dX3_takes_40 : decode cX3_takes 40 = .ok (.invokevirtual 35, 3) := by decide +kernel
theorem dX3_takes_43 : decode cX3_takes 43 = .ok (.ireturn, 1) := by decide +kernel
theorem dX3_takes_44 : decode cX3_takes 44 = .ok (.iconst 0, 1) := by decide +kernel
theorem dX3_takes_45 : decode cX3_takes 45 = .ok (.ireturn, 1) := by decide +kernel
theorem dX3_takesRequest_0 : decode cX3_takesRequest 0 = .ok (.aload_n 1, 1) := by decide +kernel
theorem dX3_takesRequest_1 : decode cX3_takesRequest 1 = .ok (.iconst 1, 1) := by decide +kernel
theorem dX3_takesRequest_2 : decode cX3_takesRequest 2 = .ok (.invokestatic 38, 3) := by decide +kernel
theorem dX3_takesRequest_5 : decode cX3_takesRequest 5 = .ok (.astore_n 2, 1) := by decide +kernel
theorem dX3_takesRequest_6 : decode cX3_takesRequest 6 = .ok (.aload_n 0, 1) := by decide +kernel
theorem dX3_takesRequest_7 : decode cX3_takesRequest 7 = .ok (.aload_n 1, 1) := by decide +kernel
theorem dX3_takesRequest_8 : decode cX3_takesRequest 8 = .ok (.aload_n 2, 1) := by decide +kernel
theorem dX3_takesRequest_9 : decode cX3_takesRequest 9 = .ok (.invokevirtual 42, 3) := by decide +kernel
theorem dX3_takesRequest_12 : decode cX3_takesRequest 12 = .ok (.ifCond .ne 5, 3) := by decide +kernel
theorem dX3_takesRequest_15 : decode cX3_takesRequest 15 = .ok (.iconst 0, 1) := by decide +kernel
theorem dX3_takesRequest_16 : decode cX3_takesRequest 16 = .ok (.ireturn, 1) := by decide +kernel
theorem dX3_takesRequest_17 : decode cX3_takesRequest 17 = .ok (.aload_n 0, 1) := by decide +kernel
theorem dX3_takesRequest_18 : decode cX3_takesRequest 18 = .ok (.aload_n 2, 1) := by decide +kernel
theorem dX3_takesRequest_19 : decode cX3_takesRequest 19 = .ok (.invokevirtual 46, 3) := by decide +kernel
theorem dX3_takesRequest_22 : decode cX3_takesRequest 22 = .ok (.istore_n 3, 1) := by decide +kernel
theorem dX3_takesRequest_23 : decode cX3_takesRequest 23 = .ok (.aload_n 0, 1) := by decide +kernel
theorem dX3_takesRequest_24 : decode cX3_takesRequest 24 = .ok (.getfield 21, 3) := by decide +kernel
theorem dX3_takesRequest_27 : decode cX3_takesRequest 27 = .ok (.getfield 50, 3) := by decide +kernel
theorem dX3_takesRequest_30 : decode cX3_takesRequest 30 = .ok (.getfield 56, 3) := by decide +kernel
theorem dX3_takesRequest_33 : decode cX3_takesRequest 33 = .ok (.iconst 1, 1) := by decide +kernel
theorem dX3_takesRequest_34 : decode cX3_takesRequest 34 = .ok (.aload_n 2, 1) := by decide +kernel
theorem dX3_takesRequest_35 : decode cX3_takesRequest 35 = .ok (.getfield 60, 3) := by decide +kernel
theorem dX3_takesRequest_38 : decode cX3_takesRequest 38 = .ok (.i2l, 1) := by decide +kernel
theorem dX3_takesRequest_39 : decode cX3_takesRequest 39 = .ok (.lastore, 1) := by decide +kernel
theorem dX3_takesRequest_40 : decode cX3_takesRequest 40 = .ok (.aload_n 0, 1) := by decide +kernel
theorem dX3_takesRequest_41 : decode cX3_takesRequest 41 = .ok (.getfield 21, 3) := by decide +kernel
theorem dX3_takesRequest_44 : decode cX3_takesRequest 44 = .ok (.getfield 50, 3) := by decide +kernel
theorem dX3_takesRequest_47 : decode cX3_takesRequest 47 = .ok (.getfield 56, 3) := by decide +kernel
theorem dX3_takesRequest_50 : decode cX3_takesRequest 50 = .ok (.iconst 2, 1) := by decide +kernel
theorem dX3_takesRequest_51 : decode cX3_takesRequest 51 = .ok (.aload_n 2, 1) := by decide +kernel
theorem dX3_takesRequest_52 : decode cX3_takesRequest 52 = .ok (.getfield 65, 3) := by decide +kernel
theorem dX3_takesRequest_55 : decode cX3_takesRequest 55 = .ok (.i2l, 1) := by decide +kernel
theorem dX3_takesRequest_56 : decode cX3_takesRequest 56 = .ok (.lastore, 1) := by decide +kernel
theorem dX3_takesRequest_57 : decode cX3_takesRequest 57 = .ok (.aload_n 0, 1) := by decide +kernel
theorem dX3_takesRequest_58 : decode cX3_takesRequest 58 = .ok (.getfield 21, 3) := by decide +kernel
theorem dX3_takesRequest_61 : decode cX3_takesRequest 61 = .ok (.getfield 50, 3) := by decide +kernel
theorem dX3_takesRequest_64 : decode cX3_takesRequest 64 = .ok (.getfield 56, 3) := by decide +kernel
theorem dX3_takesRequest_67 : decode cX3_takesRequest 67 = .ok (.bipush 8, 2) := by decide +kernel
theorem dX3_takesRequest_69 : decode cX3_takesRequest 69 = .ok (.aload_n 0, 1) := by decide +kernel
theorem dX3_takesRequest_70 : decode cX3_takesRequest 70 = .ok (.getfield 21, 3) := by decide +kernel
theorem dX3_takesRequest_73 : decode cX3_takesRequest 73 = .ok (.getfield 68, 3) := by decide +kernel
theorem dX3_takesRequest_76 : decode cX3_takesRequest 76 = .ok (.aload_n 2, 1) := by decide +kernel
theorem dX3_takesRequest_77 : decode cX3_takesRequest 77 = .ok (.getfield 60, 3) := by decide +kernel
theorem dX3_takesRequest_80 : decode cX3_takesRequest 80 = .ok (.aload_n 2, 1) := by decide +kernel
theorem dX3_takesRequest_81 : decode cX3_takesRequest 81 = .ok (.getfield 65, 3) := by decide +kernel
theorem dX3_takesRequest_84 : decode cX3_takesRequest 84 = .ok (.iload_n 3, 1) := by decide +kernel
theorem dX3_takesRequest_85 : decode cX3_takesRequest 85 = .ok (.invokevirtual 72, 3) := by decide +kernel
theorem dX3_takesRequest_88 : decode cX3_takesRequest 88 = .ok (.invokevirtual 78, 3) := by decide +kernel
theorem dX3_takesRequest_91 : decode cX3_takesRequest 91 = .ok (.lastore, 1) := by decide +kernel
theorem dX3_takesRequest_92 : decode cX3_takesRequest 92 = .ok (.aload_n 0, 1) := by decide +kernel
theorem dX3_takesRequest_93 : decode cX3_takesRequest 93 = .ok (.getfield 21, 3) := by decide +kernel
theorem dX3_takesRequest_96 : decode cX3_takesRequest 96 = .ok (.getfield 50, 3) := by decide +kernel
theorem dX3_takesRequest_99 : decode cX3_takesRequest 99 = .ok (.getfield 56, 3) := by decide +kernel
theorem dX3_takesRequest_102 : decode cX3_takesRequest 102 = .ok (.bipush 10, 2) := by decide +kernel
theorem dX3_takesRequest_104 : decode cX3_takesRequest 104 = .ok (.iload_n 3, 1) := by decide +kernel
theorem dX3_takesRequest_105 : decode cX3_takesRequest 105 = .ok (.i2l, 1) := by decide +kernel
theorem dX3_takesRequest_106 : decode cX3_takesRequest 106 = .ok (.lastore, 1) := by decide +kernel
theorem dX3_takesRequest_107 : decode cX3_takesRequest 107 = .ok (.aload_n 0, 1) := by decide +kernel
theorem dX3_takesRequest_108 : decode cX3_takesRequest 108 = .ok (.getfield 21, 3) := by decide +kernel
theorem dX3_takesRequest_111 : decode cX3_takesRequest 111 = .ok (.getfield 50, 3) := by decide +kernel
theorem dX3_takesRequest_114 : decode cX3_takesRequest 114 = .ok (.getfield 56, 3) := by decide +kernel
theorem dX3_takesRequest_117 : decode cX3_takesRequest 117 = .ok (.bipush 11, 2) := by decide +kernel
theorem dX3_takesRequest_119 : decode cX3_takesRequest 119 = .ok (.aload_n 0, 1) := by decide +kernel
theorem dX3_takesRequest_120 : decode cX3_takesRequest 120 = .ok (.getfield 21, 3) := by decide +kernel
theorem dX3_takesRequest_123 : decode cX3_takesRequest 123 = .ok (.getfield 68, 3) := by decide +kernel
theorem dX3_takesRequest_126 : decode cX3_takesRequest 126 = .ok (.aload_n 2, 1) := by decide +kernel
theorem dX3_takesRequest_127 : decode cX3_takesRequest 127 = .ok (.iload_n 3, 1) := by decide +kernel
theorem dX3_takesRequest_128 : decode cX3_takesRequest 128 = .ok (.invokevirtual 82, 3) := by decide +kernel
theorem dX3_takesRequest_131 : decode cX3_takesRequest 131 = .ok (.invokevirtual 78, 3) := by decide +kernel
theorem dX3_takesRequest_134 : decode cX3_takesRequest 134 = .ok (.lastore, 1) := by decide +kernel
theorem dX3_takesRequest_135 : decode cX3_takesRequest 135 = .ok (.aload_n 0, 1) := by decide +kernel
theorem dX3_takesRequest_136 : decode cX3_takesRequest 136 = .ok (.getfield 21, 3) := by decide +kernel
theorem dX3_takesRequest_139 : decode cX3_takesRequest 139 = .ok (.bipush 8, 2) := by decide +kernel
theorem dX3_takesRequest_141 : decode cX3_takesRequest 141 = .ok (.iconst 2, 1) := by decide +kernel
theorem dX3_takesRequest_142 : decode cX3_takesRequest 142 = .ok (.iconst 0, 1) := by decide +kernel
theorem dX3_takesRequest_143 : decode cX3_takesRequest 143 = .ok (.iconst 1, 1) := by decide +kernel
theorem dX3_takesRequest_144 : decode cX3_takesRequest 144 = .ok (.aload_n 2, 1) := by decide +kernel
theorem dX3_takesRequest_145 : decode cX3_takesRequest 145 = .ok (.getfield 86, 3) := by decide +kernel
theorem dX3_takesRequest_148 : decode cX3_takesRequest 148 = .ok (.invokevirtual 89, 3) := by decide +kernel
theorem dX3_takesRequest_151 : decode cX3_takesRequest 151 = .ok (.pop, 1) := by decide +kernel
theorem dX3_takesRequest_152 : decode cX3_takesRequest 152 = .ok (.iconst 1, 1) := by decide +kernel
theorem dX3_takesRequest_153 : decode cX3_takesRequest 153 = .ok (.ireturn, 1) := by decide +kernel
theorem dX3_wordFor_0 : decode cX3_wordFor 0 = .ok (.aload_n 0, 1) := by decide +kernel
theorem dX3_wordFor_1 : decode cX3_wordFor 1 = .ok (.aload_n 1, 1) := by decide +kernel
theorem dX3_wordFor_2 : decode cX3_wordFor 2 = .ok (.invokevirtual 93, 3) := by decide +kernel
theorem dX3_wordFor_5 : decode cX3_wordFor 5 = .ok (.ifCond .ne 5, 3) := by decide +kernel
theorem dX3_wordFor_8 : decode cX3_wordFor 8 = .ok (.iconst 0, 1) := by decide +kernel
theorem dX3_wordFor_9 : decode cX3_wordFor 9 = .ok (.ireturn, 1) := by decide +kernel
theorem dX3_wordFor_10 : decode cX3_wordFor 10 = .ok (.aload_n 0, 1) := by decide +kernel
theorem dX3_wordFor_11 : decode cX3_wordFor 11 = .ok (.getfield 12, 3) := by decide +kernel
theorem dX3_wordFor_14 : decode cX3_wordFor 14 = .ok (.aload_n 1, 1) := by decide +kernel
theorem dX3_wordFor_15 : decode cX3_wordFor 15 = .ok (.getfield 60, 3) := by decide +kernel
theorem dX3_wordFor_18 : decode cX3_wordFor 18 = .ok (.invokevirtual 97, 3) := by decide +kernel
theorem dX3_wordFor_21 : decode cX3_wordFor 21 = .ok (.checkcast 101, 3) := by decide +kernel
theorem dX3_wordFor_24 : decode cX3_wordFor 24 = .ok (.astore_n 2, 1) := by decide +kernel
theorem dX3_wordFor_25 : decode cX3_wordFor 25 = .ok (.aload_n 1, 1) := by decide +kernel
theorem dX3_wordFor_26 : decode cX3_wordFor 26 = .ok (.getfield 65, 3) := by decide +kernel
theorem dX3_wordFor_29 : decode cX3_wordFor 29 = .ok (.aload_n 2, 1) := by decide +kernel
theorem dX3_wordFor_30 : decode cX3_wordFor 30 = .ok (.getfield 103, 3) := by decide +kernel
theorem dX3_wordFor_33 : decode cX3_wordFor 33 = .ok (.if_icmp .gt 5, 3) := by decide +kernel
theorem dX3_wordFor_36 : decode cX3_wordFor 36 = .ok (.iconst 0, 1) := by decide +kernel
theorem dX3_wordFor_37 : decode cX3_wordFor 37 = .ok (.ireturn, 1) := by decide +kernel
theorem dX3_wordFor_38 : decode cX3_wordFor 38 = .ok (.aload_n 2, 1) := by decide +kernel
theorem dX3_wordFor_39 : decode cX3_wordFor 39 = .ok (.aload_n 1, 1) := by decide +kernel
theorem dX3_wordFor_40 : decode cX3_wordFor 40 = .ok (.getfield 65, 3) := by decide +kernel
theorem dX3_wordFor_43 : decode cX3_wordFor 43 = .ok (.putfield 103, 3) := by decide +kernel
theorem dX3_wordFor_46 : decode cX3_wordFor 46 = .ok (.aload_n 2, 1) := by decide +kernel
theorem dX3_wordFor_47 : decode cX3_wordFor 47 = .ok (.getfield 106, 3) := by decide +kernel
theorem dX3_wordFor_50 : decode cX3_wordFor 50 = .ok (.aload_n 1, 1) := by decide +kernel
theorem dX3_wordFor_51 : decode cX3_wordFor 51 = .ok (.getfield 110, 3) := by decide +kernel
theorem dX3_wordFor_54 : decode cX3_wordFor 54 = .ok (.lcmp, 1) := by decide +kernel
theorem dX3_wordFor_55 : decode cX3_wordFor 55 = .ok (.ifCond .ge 5, 3) := by decide +kernel
theorem dX3_wordFor_58 : decode cX3_wordFor 58 = .ok (.iconst 0, 1) := by decide +kernel
theorem dX3_wordFor_59 : decode cX3_wordFor 59 = .ok (.ireturn, 1) := by decide +kernel
theorem dX3_wordFor_60 : decode cX3_wordFor 60 = .ok (.aload_n 0, 1) := by decide +kernel
theorem dX3_wordFor_61 : decode cX3_wordFor 61 = .ok (.aload_n 2, 1) := by decide +kernel
theorem dX3_wordFor_62 : decode cX3_wordFor 62 = .ok (.aload_n 1, 1) := by decide +kernel
theorem dX3_wordFor_63 : decode cX3_wordFor 63 = .ok (.invokevirtual 113, 3) := by decide +kernel
theorem dX3_wordFor_66 : decode cX3_wordFor 66 = .ok (.iconst 1, 1) := by decide +kernel
theorem dX3_wordFor_67 : decode cX3_wordFor 67 = .ok (.ireturn, 1) := by decide +kernel
theorem dX3_takesClear_0 : decode cX3_takesClear 0 = .ok (.aload_n 1, 1) := by decide +kernel
theorem dX3_takesClear_1 : decode cX3_takesClear 1 = .ok (.iconst 2, 1) := by decide +kernel
theorem dX3_takesClear_2 : decode cX3_takesClear 2 = .ok (.invokestatic 38, 3) := by decide +kernel
theorem dX3_takesClear_5 : decode cX3_takesClear 5 = .ok (.astore_n 2, 1) := by decide +kernel
theorem dX3_takesClear_6 : decode cX3_takesClear 6 = .ok (.aload_n 0, 1) := by decide +kernel
theorem dX3_takesClear_7 : decode cX3_takesClear 7 = .ok (.aload_n 1, 1) := by decide +kernel
theorem dX3_takesClear_8 : decode cX3_takesClear 8 = .ok (.aload_n 2, 1) := by decide +kernel
theorem dX3_takesClear_9 : decode cX3_takesClear 9 = .ok (.invokevirtual 42, 3) := by decide +kernel
theorem dX3_takesClear_12 : decode cX3_takesClear 12 = .ok (.ifCond .eq 19, 3) := by decide +kernel
theorem dX3_takesClear_15 : decode cX3_takesClear 15 = .ok (.aload_n 0, 1) := by decide +kernel
theorem dX3_takesClear_16 : decode cX3_takesClear 16 = .ok (.aload_n 2, 1) := by decide +kernel
theorem dX3_takesClear_17 : decode cX3_takesClear 17 = .ok (.invokevirtual 93, 3) := by decide +kernel
theorem dX3_takesClear_20 : decode cX3_takesClear 20 = .ok (.ifCond .eq 11, 3) := by decide +kernel
theorem dX3_takesClear_23 : decode cX3_takesClear 23 = .ok (.aload_n 0, 1) := by decide +kernel
theorem dX3_takesClear_24 : decode cX3_takesClear 24 = .ok (.aload_n 2, 1) := by decide +kernel
theorem dX3_takesClear_25 : decode cX3_takesClear 25 = .ok (.invokevirtual 117, 3) := by decide +kernel
theorem dX3_takesClear_28 : decode cX3_takesClear 28 = .ok (.ifCond .le 5, 3) := by decide +kernel
theorem dX3_takesClear_31 : decode cX3_takesClear 31 = .ok (.iconst 0, 1) := by decide +kernel
theorem dX3_takesClear_32 : decode cX3_takesClear 32 = .ok (.ireturn, 1) := by decide +kernel
theorem dX3_takesClear_33 : decode cX3_takesClear 33 = .ok (.aload_n 0, 1) := by decide +kernel
theorem dX3_takesClear_34 : decode cX3_takesClear 34 = .ok (.aload_n 0, 1) := by decide +kernel
theorem dX3_takesClear_35 : decode cX3_takesClear 35 = .ok (.getfield 12, 3) := by decide +kernel
theorem dX3_takesClear_38 : decode cX3_takesClear 38 = .ok (.aload_n 2, 1) := by decide +kernel
theorem dX3_takesClear_39 : decode cX3_takesClear 39 = .ok (.getfield 60, 3) := by decide +kernel
theorem dX3_takesClear_42 : decode cX3_takesClear 42 = .ok (.invokevirtual 97, 3) := by decide +kernel
theorem dX3_takesClear_45 : decode cX3_takesClear 45 = .ok (.checkcast 101, 3) := by decide +kernel
theorem dX3_takesClear_48 : decode cX3_takesClear 48 = .ok (.aload_n 2, 1) := by decide +kernel
theorem dX3_takesClear_49 : decode cX3_takesClear 49 = .ok (.invokevirtual 113, 3) := by decide +kernel
theorem dX3_takesClear_52 : decode cX3_takesClear 52 = .ok (.iconst 1, 1) := by decide +kernel
theorem dX3_takesClear_53 : decode cX3_takesClear 53 = .ok (.ireturn, 1) := by decide +kernel
theorem dX3_take_0 : decode cX3_take 0 = .ok (.aload_n 1, 1) := by decide +kernel
theorem dX3_take_1 : decode cX3_take 1 = .ok (.dup, 1) := by decide +kernel
theorem dX3_take_2 : decode cX3_take 2 = .ok (.getfield 106, 3) := by decide +kernel
theorem dX3_take_5 : decode cX3_take 5 = .ok (.aload_n 2, 1) := by decide +kernel
theorem dX3_take_6 : decode cX3_take 6 = .ok (.getfield 110, 3) := by decide +kernel
theorem dX3_take_9 : decode cX3_take 9 = .ok (.lsub, 1) := by decide +kernel
theorem dX3_take_10 : decode cX3_take 10 = .ok (.putfield 106, 3) := by decide +kernel
theorem dX3_take_13 : decode cX3_take 13 = .ok (.aload_n 0, 1) := by decide +kernel
theorem dX3_take_14 : decode cX3_take 14 = .ok (.getfield 18, 3) := by decide +kernel
theorem dX3_take_17 : decode cX3_take 17 = .ok (.aload_n 2, 1) := by decide +kernel
theorem dX3_take_18 : decode cX3_take 18 = .ok (.invokevirtual 120, 3) := by decide +kernel
theorem dX3_take_21 : decode cX3_take 21 = .ok (.pop, 1) := by decide +kernel
theorem dX3_take_22 : decode cX3_take 22 = .ok (.return_, 1) := by decide +kernel
theorem dX3_paymentOf_0 : decode cX3_paymentOf 0 = .ok (.new 61, 3) := by decide +kernel
theorem dX3_paymentOf_3 : decode cX3_paymentOf 3 = .ok (.dup, 1) := by decide +kernel
theorem dX3_paymentOf_4 : decode cX3_paymentOf 4 = .ok (.invokespecial 124, 3) := by decide +kernel
theorem dX3_paymentOf_7 : decode cX3_paymentOf 7 = .ok (.astore_n 2, 1) := by decide +kernel
theorem dX3_paymentOf_8 : decode cX3_paymentOf 8 = .ok (.aload_n 2, 1) := by decide +kernel
theorem dX3_paymentOf_9 : decode cX3_paymentOf 9 = .ok (.aload_n 0, 1) := by decide +kernel
theorem dX3_paymentOf_10 : decode cX3_paymentOf 10 = .ok (.iconst 1, 1) := by decide +kernel
theorem dX3_paymentOf_11 : decode cX3_paymentOf 11 = .ok (.invokevirtual 125, 3) := by decide +kernel
theorem dX3_paymentOf_14 : decode cX3_paymentOf 14 = .ok (.putfield 60, 3) := by decide +kernel
theorem dX3_paymentOf_17 : decode cX3_paymentOf 17 = .ok (.aload_n 2, 1) := by decide +kernel
theorem dX3_paymentOf_18 : decode cX3_paymentOf 18 = .ok (.aload_n 0, 1) := by decide +kernel
theorem dX3_paymentOf_19 : decode cX3_paymentOf 19 = .ok (.iconst 2, 1) := by decide +kernel
theorem dX3_paymentOf_20 : decode cX3_paymentOf 20 = .ok (.invokevirtual 125, 3) := by decide +kernel
theorem dX3_paymentOf_23 : decode cX3_paymentOf 23 = .ok (.putfield 65, 3) := by decide +kernel
theorem dX3_paymentOf_26 : decode cX3_paymentOf 26 = .ok (.aload_n 2, 1) := by decide +kernel
theorem dX3_paymentOf_27 : decode cX3_paymentOf 27 = .ok (.aload_n 0, 1) := by decide +kernel
theorem dX3_paymentOf_28 : decode cX3_paymentOf 28 = .ok (.getfield 56, 3) := by decide +kernel
theorem dX3_paymentOf_31 : decode cX3_paymentOf 31 = .ok (.iconst 3, 1) := by decide +kernel
theorem dX3_paymentOf_32 : decode cX3_paymentOf 32 = .ok (.laload, 1) := by decide +kernel
theorem dX3_paymentOf_33 : decode cX3_paymentOf 33 = .ok (.putfield 110, 3) := by decide +kernel
theorem dX3_paymentOf_36 : decode cX3_paymentOf 36 = .ok (.aload_n 2, 1) := by decide +kernel
theorem dX3_paymentOf_37 : decode cX3_paymentOf 37 = .ok (.aload_n 0, 1) := by decide +kernel
theorem dX3_paymentOf_38 : decode cX3_paymentOf 38 = .ok (.getfield 56, 3) := by decide +kernel
theorem dX3_paymentOf_41 : decode cX3_paymentOf 41 = .ok (.iconst 4, 1) := by decide +kernel
theorem dX3_paymentOf_42 : decode cX3_paymentOf 42 = .ok (.laload, 1) := by decide +kernel
theorem dX3_paymentOf_43 : decode cX3_paymentOf 43 = .ok (.putfield 129, 3) := by decide +kernel
theorem dX3_paymentOf_46 : decode cX3_paymentOf 46 = .ok (.aload_n 2, 1) := by decide +kernel
theorem dX3_paymentOf_47 : decode cX3_paymentOf 47 = .ok (.aload_n 0, 1) := by decide +kernel
theorem dX3_paymentOf_48 : decode cX3_paymentOf 48 = .ok (.iconst 5, 1) := by decide +kernel
theorem dX3_paymentOf_49 : decode cX3_paymentOf 49 = .ok (.invokevirtual 125, 3) := by decide +kernel
theorem dX3_paymentOf_52 : decode cX3_paymentOf 52 = .ok (.putfield 86, 3) := by decide +kernel
theorem dX3_paymentOf_55 : decode cX3_paymentOf 55 = .ok (.aload_n 2, 1) := by decide +kernel
theorem dX3_paymentOf_56 : decode cX3_paymentOf 56 = .ok (.aload_n 0, 1) := by decide +kernel
theorem dX3_paymentOf_57 : decode cX3_paymentOf 57 = .ok (.bipush 6, 2) := by decide +kernel
theorem dX3_paymentOf_59 : decode cX3_paymentOf 59 = .ok (.invokevirtual 125, 3) := by decide +kernel
theorem dX3_paymentOf_62 : decode cX3_paymentOf 62 = .ok (.putfield 132, 3) := by decide +kernel
theorem dX3_paymentOf_65 : decode cX3_paymentOf 65 = .ok (.aload_n 2, 1) := by decide +kernel
theorem dX3_paymentOf_66 : decode cX3_paymentOf 66 = .ok (.iload_n 1, 1) := by decide +kernel
theorem dX3_paymentOf_67 : decode cX3_paymentOf 67 = .ok (.putfield 135, 3) := by decide +kernel
theorem dX3_paymentOf_70 : decode cX3_paymentOf 70 = .ok (.aload_n 2, 1) := by decide +kernel
theorem dX3_paymentOf_71 : decode cX3_paymentOf 71 = .ok (.aload_n 0, 1) := by decide +kernel
theorem dX3_paymentOf_72 : decode cX3_paymentOf 72 = .ok (.getfield 56, 3) := by decide +kernel
theorem dX3_paymentOf_75 : decode cX3_paymentOf 75 = .ok (.bipush 8, 2) := by decide +kernel
theorem dX3_paymentOf_77 : decode cX3_paymentOf 77 = .ok (.laload, 1) := by decide +kernel
theorem dX3_paymentOf_78 : decode cX3_paymentOf 78 = .ok (.putfield 138, 3) := by decide +kernel
theorem dX3_paymentOf_81 : decode cX3_paymentOf 81 = .ok (.aload_n 2, 1) := by decide +kernel
theorem dX3_paymentOf_82 : decode cX3_paymentOf 82 = .ok (.areturn, 1) := by decide +kernel
