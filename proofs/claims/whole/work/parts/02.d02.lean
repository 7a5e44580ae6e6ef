theorem dX8_takes_0 : decode cX8_takes 0 = .ok (.aload_n 1, 1) := by decide +kernel
theorem dX8_takes_1 : decode cX8_takes 1 = .ok (.getfield 93, 3) := by decide +kernel
theorem dX8_takes_4 : decode cX8_takes 4 = .ok (.aload_n 0, 1) := by decide +kernel
theorem dX8_takes_5 : decode cX8_takes 5 = .ok (.getfield 29, 3) := by decide +kernel
theorem dX8_takes_8 : decode cX8_takes 8 = .ok (.if_icmp .eq 5, 3) := by decide +kernel
theorem dX8_takes_11 : decode cX8_takes 11 = .ok (.iconst 0, 1) := by decide +kernel
theorem dX8_takes_12 : decode cX8_takes 12 = .ok (.ireturn, 1) := by decide +kernel
theorem dX8_takes_13 : decode cX8_takes 13 = .ok (.aload_n 1, 1) := by decide +kernel
theorem dX8_takes_14 : decode cX8_takes 14 = .ok (.getfield 93, 3) := by decide +kernel
theorem dX8_takes_17 : decode cX8_takes 17 = .ok (.tableswitch 85 2 10 #[51, 85, 58, 85, 65, 85, 72, 85, 78], 51) := by decide +kernel
theorem dX8_takes_68 : decode cX8_takes 68 = .ok (.aload_n 0, 1) := by decide +kernel
theorem dX8_takes_69 : decode cX8_takes 69 = .ok (.aload_n 1, 1) := by decide +kernel
theorem dX8_takes_70 : decode cX8_takes 70 = .ok (.invokevirtual 96, 3) := by decide +kernel
theorem dX8_takes_73 : decode cX8_takes 73 = .ok (.iconst 1, 1) := by decide +kernel
theorem dX8_takes_74 : decode cX8_takes 74 = .ok (.ireturn, 1) := by decide +kernel
theorem dX8_takes_75 : decode cX8_takes 75 = .ok (.aload_n 0, 1) := by decide +kernel
theorem dX8_takes_76 : decode cX8_takes 76 = .ok (.aload_n 1, 1) := by decide +kernel
theorem dX8_takes_77 : decode cX8_takes 77 = .ok (.invokevirtual 100, 3) := by decide +kernel
theorem dX8_takes_80 : decode cX8_takes 80 = .ok (.iconst 1, 1) := by decide +kernel
theorem dX8_takes_81 : decode cX8_takes 81 = .ok (.ireturn, 1) := by decide +kernel
theorem dX8_takes_82 : decode cX8_takes 82 = .ok (.aload_n 0, 1) := by decide +kernel
theorem dX8_takes_83 : decode cX8_takes 83 = .ok (.aload_n 1, 1) := by decide +kernel
theorem dX8_takes_84 : decode cX8_takes 84 = .ok (.invokevirtual 103, 3) := by decide +kernel
theorem dX8_takes_87 : decode cX8_takes 87 = .ok (.iconst 1, 1) := by decide +kernel
theorem dX8_takes_88 : decode cX8_takes 88 = .ok (.ireturn, 1) := by decide +kernel
theorem dX8_takes_89 : decode cX8_takes 89 = .ok (.aload_n 0, 1) := by decide +kernel
theorem dX8_takes_90 : decode cX8_takes 90 = .ok (.aload_n 1, 1) := by decide +kernel
theorem dX8_takes_91 : decode cX8_takes 91 = .ok (.invokevirtual 106, 3) := by decide +kernel
theorem dX8_takes_94 : decode cX8_takes 94 = .ok (.ireturn, 1) := by decide +kernel
theorem dX8_takes_95 : decode cX8_takes 95 = .ok (.aload_n 0, 1) := by decide +kernel
theorem dX8_takes_96 : decode cX8_takes 96 = .ok (.aload_n 1, 1) := by decide +kernel
theorem dX8_takes_97 : decode cX8_takes 97 = .ok (.invokevirtual 110, 3) := by decide +kernel
theorem dX8_takes_100 : decode cX8_takes 100 = .ok (.iconst 1, 1) := by decide +kernel
theorem dX8_takes_101 : decode cX8_takes 101 = .ok (.ireturn, 1) := by decide +kernel
theorem dX8_takes_102 : decode cX8_takes 102 = .ok (.iconst 0, 1) := by decide +kernel
theorem dX8_takes_103 : decode cX8_takes 103 = .ok (.ireturn, 1) := by decide +kernel
theorem dX8_takeCard_0 : decode cX8_takeCard 0 = .ok (.aload_n 1, 1) := by decide +kernel
theorem dX8_takeCard_1 : decode cX8_takeCard 1 = .ok (.iconst 1, 1) := by decide +kernel
theorem dX8_takeCard_2 : decode cX8_takeCard 2 = .ok (.invokevirtual 113, 3) := by decide +kernel
theorem dX8_takeCard_5 : decode cX8_takeCard 5 = .ok (.istore_n 2, 1) := by decide +kernel
theorem dX8_takeCard_6 : decode cX8_takeCard 6 = .ok (.aload_n 1, 1) := by decide +kernel
theorem dX8_takeCard_7 : decode cX8_takeCard 7 = .ok (.iconst 2, 1) := by decide +kernel
theorem dX8_takeCard_8 : decode cX8_takeCard 8 = .ok (.invokevirtual 113, 3) := by decide +kernel
theorem dX8_takeCard_11 : decode cX8_takeCard 11 = .ok (.istore_n 3, 1) := by decide +kernel
theorem dX8_takeCard_12 : decode cX8_takeCard 12 = .ok (.aload_n 0, 1) := by decide +kernel
theorem dX8_takeCard_13 : decode cX8_takeCard 13 = .ok (.getfield 32, 3) := by decide +kernel
theorem dX8_takeCard_16 : decode cX8_takeCard 16 = .ok (.iload_n 2, 1) := by decide +kernel
theorem dX8_takeCard_17 : decode cX8_takeCard 17 = .ok (.invokevirtual 117, 3) := by decide +kernel
theorem dX8_takeCard_20 : decode cX8_takeCard 20 = .ok (.ifCond .eq 35, 3) := by decide +kernel
theorem dX8_takeCard_23 : decode cX8_takeCard 23 = .ok (.aload_n 0, 1) := by decide +kernel
theorem dX8_takeCard_24 : decode cX8_takeCard 24 = .ok (.getfield 32, 3) := by decide +kernel
theorem dX8_takeCard_27 : decode cX8_takeCard 27 = .ok (.getfield 121, 3) := by decide +kernel
theorem dX8_takeCard_30 : decode cX8_takeCard 30 = .ok (.iload_n 2, 1) := by decide +kernel
theorem dX8_takeCard_31 : decode cX8_takeCard 31 = .ok (.iload_n 3, 1) := by decide +kernel
theorem dX8_takeCard_32 : decode cX8_takeCard 32 = .ok (.aload_n 0, 1) := by decide +kernel
theorem dX8_takeCard_33 : decode cX8_takeCard 33 = .ok (.getfield 25, 3) := by decide +kernel
theorem dX8_takeCard_36 : decode cX8_takeCard 36 = .ok (.getfield 67, 3) := by decide +kernel
theorem dX8_takeCard_39 : decode cX8_takeCard 39 = .ok (.invokevirtual 125, 3) := by decide +kernel
theorem dX8_takeCard_42 : decode cX8_takeCard 42 = .ok (.aload_n 1, 1) := by decide +kernel
theorem dX8_takeCard_43 : decode cX8_takeCard 43 = .ok (.getfield 83, 3) := by decide +kernel
theorem dX8_takeCard_46 : decode cX8_takeCard 46 = .ok (.bipush 8, 2) := by decide +kernel
theorem dX8_takeCard_48 : decode cX8_takeCard 48 = .ok (.laload, 1) := by decide +kernel
theorem dX8_takeCard_49 : decode cX8_takeCard 49 = .ok (.invokevirtual 131, 3) := by decide +kernel
theorem dX8_takeCard_52 : decode cX8_takeCard 52 = .ok (.ifCond .ne 9, 3) := by decide +kernel
theorem dX8_takeCard_55 : decode cX8_takeCard 55 = .ok (.aload_n 0, 1) := by decide +kernel
theorem dX8_takeCard_56 : decode cX8_takeCard 56 = .ok (.iconst 3, 1) := by decide +kernel
theorem dX8_takeCard_57 : decode cX8_takeCard 57 = .ok (.invokevirtual 135, 3) := by decide +kernel
theorem dX8_takeCard_60 : decode cX8_takeCard 60 = .ok (.return_, 1) := by decide +kernel
theorem dX8_takeCard_61 : decode cX8_takeCard 61 = .ok (.aload_n 0, 1) := by decide +kernel
theorem dX8_takeCard_62 : decode cX8_takeCard 62 = .ok (.getfield 25, 3) := by decide +kernel
theorem dX8_takeCard_65 : decode cX8_takeCard 65 = .ok (.iload_n 2, 1) := by decide +kernel
theorem dX8_takeCard_66 : decode cX8_takeCard 66 = .ok (.putfield 139, 3) := by decide +kernel
theorem dX8_takeCard_69 : decode cX8_takeCard 69 = .ok (.aload_n 0, 1) := by decide +kernel
theorem dX8_takeCard_70 : decode cX8_takeCard 70 = .ok (.iload_n 3, 1) := by decide +kernel
theorem dX8_takeCard_71 : decode cX8_takeCard 71 = .ok (.putfield 142, 3) := by decide +kernel
theorem dX8_takeCard_74 : decode cX8_takeCard 74 = .ok (.aload_n 0, 1) := by decide +kernel
theorem dX8_takeCard_75 : decode cX8_takeCard 75 = .ok (.getfield 25, 3) := by decide +kernel
theorem dX8_takeCard_78 : decode cX8_takeCard 78 = .ok (.getfield 64, 3) := by decide +kernel
theorem dX8_takeCard_81 : decode cX8_takeCard 81 = .ok (.aload_n 0, 1) := by decide +kernel
theorem dX8_takeCard_82 : decode cX8_takeCard 82 = .ok (.getfield 43, 3) := by decide +kernel
theorem dX8_takeCard_85 : decode cX8_takeCard 85 = .ok (.lcmp, 1) := by decide +kernel
theorem dX8_takeCard_86 : decode cX8_takeCard 86 = .ok (.ifCond .lt 30, 3) := by decide +kernel
theorem dX8_takeCard_89 : decode cX8_takeCard 89 = .ok (.aload_n 0, 1) := by decide +kernel
theorem dX8_takeCard_90 : decode cX8_takeCard 90 = .ok (.getfield 32, 3) := by decide +kernel
theorem dX8_takeCard_93 : decode cX8_takeCard 93 = .ok (.getfield 79, 3) := by decide +kernel
theorem dX8_takeCard_96 : decode cX8_takeCard 96 = .ok (.getfield 83, 3) := by decide +kernel
theorem dX8_takeCard_99 : decode cX8_takeCard 99 = .ok (.bipush 9, 2) := by decide +kernel
theorem dX8_takeCard_101 : decode cX8_takeCard 101 = .ok (.aload_n 0, 1) := by decide +kernel
theorem dX8_takeCard_102 : decode cX8_takeCard 102 = .ok (.getfield 58, 3) := by decide +kernel
theorem dX8_takeCard_105 : decode cX8_takeCard 105 = .ok (.i2l, 1) := by decide +kernel
theorem dX8_takeCard_106 : decode cX8_takeCard 106 = .ok (.lastore, 1) := by decide +kernel
theorem dX8_takeCard_107 : decode cX8_takeCard 107 = .ok (.aload_n 0, 1) := by decide +kernel
theorem dX8_takeCard_108 : decode cX8_takeCard 108 = .ok (.iconst 3, 1) := by decide +kernel
theorem dX8_takeCard_109 : decode cX8_takeCard 109 = .ok (.iconst 4, 1) := by decide +kernel
theorem dX8_takeCard_110 : decode cX8_takeCard 110 = .ok (.invokevirtual 89, 3) := by decide +kernel
theorem dX8_takeCard_113 : decode cX8_takeCard 113 = .ok (.goto 8, 3) := by decide +kernel
theorem dX8_takeCard_116 : decode cX8_takeCard 116 = .ok (.aload_n 0, 1) := by decide +kernel
theorem dX8_takeCard_117 : decode cX8_takeCard 117 = .ok (.iconst 0, 1) := by decide +kernel
theorem dX8_takeCard_118 : decode cX8_takeCard 118 = .ok (.invokevirtual 145, 3) := by decide +kernel
theorem dX8_takeCard_121 : decode cX8_takeCard 121 = .ok (.return_, 1) := by decide +kernel
theorem dX8_takePinned_0 : decode cX8_takePinned 0 = .ok (.aload_n 1, 1) := by decide +kernel
theorem dX8_takePinned_1 : decode cX8_takePinned 1 = .ok (.getfield 83, 3) := by decide +kernel
theorem dX8_takePinned_4 : decode cX8_takePinned 4 = .ok (.bipush 6, 2) := by decide +kernel
theorem dX8_takePinned_6 : decode cX8_takePinned 6 = .ok (.laload, 1) := by decide +kernel
theorem dX8_takePinned_7 : decode cX8_takePinned 7 = .ok (.lconst 1, 1) := by decide +kernel
theorem dX8_takePinned_8 : decode cX8_takePinned 8 = .ok (.lcmp, 1) := by decide +kernel
theorem dX8_takePinned_9 : decode cX8_takePinned 9 = .ok (.ifCond .ne 11, 3) := by decide +kernel
theorem dX8_takePinned_12 : decode cX8_takePinned 12 = .ok (.aload_n 0, 1) := by decide +kernel
theorem dX8_takePinned_13 : decode cX8_takePinned 13 = .ok (.iconst 1, 1) := by decide +kernel
theorem dX8_takePinned_14 : decode cX8_takePinned 14 = .ok (.invokevirtual 145, 3) := by decide +kernel
theorem dX8_takePinned_17 : decode cX8_takePinned 17 = .ok (.goto 8, 3) := by decide +kernel
theorem dX8_takePinned_20 : decode cX8_takePinned 20 = .ok (.aload_n 0, 1) := by decide +kernel
theorem dX8_takePinned_21 : decode cX8_takePinned 21 = .ok (.iconst 3, 1) := by decide +kernel
theorem dX8_takePinned_22 : decode cX8_takePinned 22 = .ok (.invokevirtual 135, 3) := by decide +kernel
theorem dX8_takePinned_25 : decode cX8_takePinned 25 = .ok (.return_, 1) := by decide +kernel
theorem dX8_ask_0 : decode cX8_ask 0 = .ok (.aload_n 0, 1) := by decide +kernel
theorem dX8_ask_1 : decode cX8_ask 1 = .ok (.getfield 25, 3) := by decide +kernel
theorem dX8_ask_4 : decode cX8_ask 4 = .ok (.iload_n 1, 1) := by decide +kernel
theorem dX8_ask_5 : decode cX8_ask 5 = .ok (.putfield 148, 3) := by decide +kernel
theorem dX8_ask_8 : decode cX8_ask 8 = .ok (.aload_n 0, 1) := by decide +kernel
theorem dX8_ask_9 : decode cX8_ask 9 = .ok (.getfield 32, 3) := by decide +kernel
theorem dX8_ask_12 : decode cX8_ask 12 = .ok (.getfield 79, 3) := by decide +kernel
theorem dX8_ask_15 : decode cX8_ask 15 = .ok (.getfield 83, 3) := by decide +kernel
theorem dX8_ask_18 : decode cX8_ask 18 = .ok (.iconst 3, 1) := by decide +kernel
theorem dX8_ask_19 : decode cX8_ask 19 = .ok (.aload_n 0, 1) := by decide +kernel
theorem dX8_ask_20 : decode cX8_ask 20 = .ok (.getfield 25, 3) := by decide +kernel
theorem dX8_ask_23 : decode cX8_ask 23 = .ok (.getfield 64, 3) := by decide +kernel
theorem dX8_ask_26 : decode cX8_ask 26 = .ok (.lastore, 1) := by decide +kernel
theorem dX8_ask_27 : decode cX8_ask 27 = .ok (.aload_n 0, 1) := by decide +kernel
theorem dX8_ask_28 : decode cX8_ask 28 = .ok (.getfield 32, 3) := by decide +kernel
theorem dX8_ask_31 : decode cX8_ask 31 = .ok (.getfield 79, 3) := by decide +kernel
theorem dX8_ask_34 : decode cX8_ask 34 = .ok (.getfield 83, 3) := by decide +kernel
theorem dX8_ask_37 : decode cX8_ask 37 = .ok (.iconst 4, 1) := by decide +kernel
theorem dX8_ask_38 : decode cX8_ask 38 = .ok (.aload_n 0, 1) := by decide +kernel
theorem dX8_ask_39 : decode cX8_ask 39 = .ok (.getfield 25, 3) := by decide +kernel
theorem dX8_ask_42 : decode cX8_ask 42 = .ok (.getfield 67, 3) := by decide +kernel
theorem dX8_ask_45 : decode cX8_ask 45 = .ok (.lastore, 1) := by decide +kernel
theorem dX8_ask_46 : decode cX8_ask 46 = .ok (.aload_n 0, 1) := by decide +kernel
theorem dX8_ask_47 : decode cX8_ask 47 = .ok (.getfield 32, 3) := by decide +kernel
theorem dX8_ask_50 : decode cX8_ask 50 = .ok (.getfield 79, 3) := by decide +kernel
theorem dX8_ask_53 : decode cX8_ask 53 = .ok (.getfield 83, 3) := by decide +kernel
theorem dX8_ask_56 : decode cX8_ask 56 = .ok (.iconst 5, 1) := by decide +kernel
theorem dX8_ask_57 : decode cX8_ask 57 = .ok (.aload_n 0, 1) := by decide +kernel
theorem dX8_ask_58 : decode cX8_ask 58 = .ok (.getfield 36, 3) := by decide +kernel
theorem dX8_ask_61 : decode cX8_ask 61 = .ok (.i2l, 1) := by decide +kernel
theorem dX8_ask_62 : decode cX8_ask 62 = .ok (.lastore, 1) := by decide +kernel
theorem dX8_ask_63 : decode cX8_ask 63 = .ok (.aload_n 0, 1) := by decide +kernel
theorem dX8_ask_64 : decode cX8_ask 64 = .ok (.getfield 32, 3) := by decide +kernel
theorem dX8_ask_67 : decode cX8_ask 67 = .ok (.getfield 79, 3) := by decide +kernel
theorem dX8_ask_70 : decode cX8_ask 70 = .ok (.getfield 83, 3) := by decide +kernel
theorem dX8_ask_73 : decode cX8_ask 73 = .ok (.bipush 7, 2) := by decide +kernel
theorem dX8_ask_75 : decode cX8_ask 75 = .ok (.aload_n 0, 1) := by decide +kernel
theorem dX8_ask_76 : decode cX8_ask 76 = .ok (.getfield 25, 3) := by decide +kernel
theorem dX8_ask_79 : decode cX8_ask 79 = .ok (.getfield 64, 3) := by decide +kernel
theorem dX8_ask_82 : decode cX8_ask 82 = .ok (.aload_n 0, 1) := by decide +kernel
theorem dX8_ask_83 : decode cX8_ask 83 = .ok (.getfield 39, 3) := by decide +kernel
theorem dX8_ask_86 : decode cX8_ask 86 = .ok (.lcmp, 1) := by decide +kernel
theorem dX8_ask_87 : decode cX8_ask 87 = .ok (.ifCond .gt 9, 3) := by decide +kernel
theorem dX8_ask_90 : decode cX8_ask 90 = .ok (.ldc2_w 151, 3) := by decide +kernel
theorem dX8_ask_93 : decode cX8_ask 93 = .ok (.goto 4, 3) := by decide +kernel
theorem dX8_ask_96 : decode cX8_ask 96 = .ok (.lconst 1, 1) := by decide +kernel
theorem dX8_ask_97 : decode cX8_ask 97 = .ok (.lastore, 1) := by decide +kernel
theorem dX8_ask_98 : decode cX8_ask 98 = .ok (.aload_n 0, 1) := by decide +kernel
theorem dX8_ask_99 : decode cX8_ask 99 = .ok (.iconst 5, 1) := by decide +kernel
theorem dX8_ask_100 : decode cX8_ask 100 = .ok (.bipush 6, 2) := by decide +kernel
theorem dX8_ask_102 : decode cX8_ask 102 = .ok (.invokevirtual 89, 3) := by decide +kernel
theorem dX8_ask_105 : decode cX8_ask 105 = .ok (.return_, 1) := by decide +kernel
theorem dX8_takeAnswer_0 : decode cX8_takeAnswer 0 = .ok (.aload_n 0, 1) := by decide +kernel
theorem dX8_takeAnswer_1 : decode cX8_takeAnswer 1 = .ok (.getfield 25, 3) := by decide +kernel
theorem dX8_takeAnswer_4 : decode cX8_takeAnswer 4 = .ok (.aload_n 1, 1) := by decide +kernel
theorem dX8_takeAnswer_5 : decode cX8_takeAnswer 5 = .ok (.iconst 2, 1) := by decide +kernel
theorem dX8_takeAnswer_6 : decode cX8_takeAnswer 6 = .ok (.invokevirtual 113, 3) := by decide +kernel
theorem dX8_takeAnswer_9 : decode cX8_takeAnswer 9 = .ok (.putfield 153, 3) := by decide +kernel
theorem dX8_takeAnswer_12 : decode cX8_takeAnswer 12 = .ok (.aload_n 0, 1) := by decide +kernel
theorem dX8_takeAnswer_13 : decode cX8_takeAnswer 13 = .ok (.getfield 25, 3) := by decide +kernel
theorem dX8_takeAnswer_16 : decode cX8_takeAnswer 16 = .ok (.aload_n 1, 1) := by decide +kernel
theorem dX8_takeAnswer_17 : decode cX8_takeAnswer 17 = .ok (.bipush 7, 2) := by decide +kernel
theorem dX8_takeAnswer_19 : decode cX8_takeAnswer 19 = .ok (.invokevirtual 113, 3) := by decide +kernel
theorem dX8_takeAnswer_22 : decode cX8_takeAnswer 22 = .ok (.putfield 156, 3) := by decide +kernel
theorem dX8_takeAnswer_25 : decode cX8_takeAnswer 25 = .ok (.aload_n 0, 1) := by decide +kernel
theorem dX8_takeAnswer_26 : decode cX8_takeAnswer 26 = .ok (.getfield 25, 3) := by decide +kernel
theorem dX8_takeAnswer_29 : decode cX8_takeAnswer 29 = .ok (.aload_n 1, 1) := by decide +kernel
theorem dX8_takeAnswer_30 : decode cX8_takeAnswer 30 = .ok (.getfield 83, 3) := by decide +kernel
theorem dX8_takeAnswer_33 : decode cX8_takeAnswer 33 = .ok (.bipush 8, 2) := by decide +kernel
theorem dX8_takeAnswer_35 : decode cX8_takeAnswer 35 = .ok (.laload, 1) := by decide +kernel
theorem dX8_takeAnswer_36 : decode cX8_takeAnswer 36 = .ok (.putfield 159, 3) := by decide +kernel
theorem dX8_takeAnswer_39 : decode cX8_takeAnswer 39 = .ok (.aload_n 0, 1) := by decide +kernel
theorem dX8_takeAnswer_40 : decode cX8_takeAnswer 40 = .ok (.getfield 25, 3) := by decide +kernel
theorem dX8_takeAnswer_43 : decode cX8_takeAnswer 43 = .ok (.getfield 156, 3) := by decide +kernel
theorem dX8_takeAnswer_46 : decode cX8_takeAnswer 46 = .ok (.iconst 1, 1) := by decide +kernel
theorem dX8_takeAnswer_47 : decode cX8_takeAnswer 47 = .ok (.if_icmp .ne 23, 3) := by decide +kernel
theorem dX8_takeAnswer_50 : decode cX8_takeAnswer 50 = .ok (.aload_n 0, 1) := by decide +kernel
theorem dX8_takeAnswer_51 : decode cX8_takeAnswer 51 = .ok (.bipush 7, 2) := by decide +kernel
theorem dX8_takeAnswer_53 : decode cX8_takeAnswer 53 = .ok (.aload_n 0, 1) := by decide +kernel
theorem dX8_takeAnswer_54 : decode cX8_takeAnswer 54 = .ok (.getfield 25, 3) := by decide +kernel
theorem dX8_takeAnswer_57 : decode cX8_takeAnswer 57 = .ok (.invokevirtual 162, 3) := by decide +kernel
theorem dX8_takeAnswer_60 : decode cX8_takeAnswer 60 = .ok (.pop, 1) := by decide +kernel
theorem dX8_takeAnswer_61 : decode cX8_takeAnswer 61 = .ok (.aload_n 0, 1) := by decide +kernel
theorem dX8_takeAnswer_62 : decode cX8_takeAnswer 62 = .ok (.bipush 8, 2) := by decide +kernel
theorem dX8_takeAnswer_64 : decode cX8_takeAnswer 64 = .ok (.invokevirtual 166, 3) := by decide +kernel
theorem dX8_takeAnswer_67 : decode cX8_takeAnswer 67 = .ok (.goto 47, 3) := by decide +kernel
theorem dX8_takeAnswer_70 : decode cX8_takeAnswer 70 = .ok (.aload_n 0, 1) := by decide +kernel
theorem dX8_takeAnswer_71 : decode cX8_takeAnswer 71 = .ok (.getfield 25, 3) := by decide +kernel
theorem dX8_takeAnswer_74 : decode cX8_takeAnswer 74 = .ok (.getfield 156, 3) := by decide +kernel
theorem dX8_takeAnswer_77 : decode cX8_takeAnswer 77 = .ok (.iconst 2, 1) := by decide +kernel
theorem dX8_takeAnswer_78 : decode cX8_takeAnswer 78 = .ok (.if_icmp .ne 31, 3) := by decide +kernel
theorem dX8_takeAnswer_81 : decode cX8_takeAnswer 81 = .ok (.aload_n 0, 1) := by decide +kernel
theorem dX8_takeAnswer_82 : decode cX8_takeAnswer 82 = .ok (.aload_n 1, 1) := by decide +kernel
theorem dX8_takeAnswer_83 : decode cX8_takeAnswer 83 = .ok (.invokevirtual 169, 3) := by decide +kernel
theorem dX8_takeAnswer_86 : decode cX8_takeAnswer 86 = .ok (.ifCond .eq 23, 3) := by decide +kernel
theorem dX8_takeAnswer_89 : decode cX8_takeAnswer 89 = .ok (.aload_n 0, 1) := by decide +kernel
theorem dX8_takeAnswer_90 : decode cX8_takeAnswer 90 = .ok (.getfield 12, 3) := by decide +kernel
theorem dX8_takeAnswer_93 : decode cX8_takeAnswer 93 = .ok (.aload_n 0, 1) := by decide +kernel
theorem dX8_takeAnswer_94 : decode cX8_takeAnswer 94 = .ok (.getfield 25, 3) := by decide +kernel
theorem dX8_takeAnswer_97 : decode cX8_takeAnswer 97 = .ok (.invokevirtual 75, 3) := by decide +kernel
theorem dX8_takeAnswer_100 : decode cX8_takeAnswer 100 = .ok (.pop, 1) := by decide +kernel
theorem dX8_takeAnswer_101 : decode cX8_takeAnswer 101 = .ok (.aload_n 0, 1) := by decide +kernel
theorem dX8_takeAnswer_102 : decode cX8_takeAnswer 102 = .ok (.iconst 2, 1) := by decide +kernel
theorem dX8_takeAnswer_103 : decode cX8_takeAnswer 103 = .ok (.invokevirtual 135, 3) := by decide +kernel
theorem dX8_takeAnswer_106 : decode cX8_takeAnswer 106 = .ok (.goto 8, 3) := by decide +kernel
theorem dX8_takeAnswer_109 : decode cX8_takeAnswer 109 = .ok (.aload_n 0, 1) := by decide +kernel
theorem dX8_takeAnswer_110 : decode cX8_takeAnswer 110 = .ok (.iconst 3, 1) := by decide +kernel
theorem dX8_takeAnswer_111 : decode cX8_takeAnswer 111 = .ok (.invokevirtual 135, 3) := by decide +kernel
theorem dX8_takeAnswer_114 : decode cX8_takeAnswer 114 = .ok (.return_, 1) := by decide +kernel
theorem dX8_isGoodWithoutHost_0 : decode cX8_isGoodWithoutHost 0 = .ok (.aload_n 0, 1) := by decide +kernel
theorem dX8_isGoodWithoutHost_1 : decode cX8_isGoodWithoutHost 1 = .ok (.getfield 25, 3) := by decide +kernel
theorem dX8_isGoodWithoutHost_4 : decode cX8_isGoodWithoutHost 4 = .ok (.getfield 153, 3) := by decide +kernel
theorem dX8_isGoodWithoutHost_7 : decode cX8_isGoodWithoutHost 7 = .ok (.aload_n 0, 1) := by decide +kernel
theorem dX8_isGoodWithoutHost_8 : decode cX8_isGoodWithoutHost 8 = .ok (.getfield 142, 3) := by decide +kernel
theorem dX8_isGoodWithoutHost_11 : decode cX8_isGoodWithoutHost 11 = .ok (.if_icmp .ne 53, 3) := by decide +kernel
theorem dX8_isGoodWithoutHost_14 : decode cX8_isGoodWithoutHost 14 = .ok (.aload_n 1, 1) := by decide +kernel
theorem dX8_isGoodWithoutHost_15 : decode cX8_isGoodWithoutHost 15 = .ok (.getfield 83, 3) := by decide +kernel
theorem dX8_isGoodWithoutHost_18 : decode cX8_isGoodWithoutHost 18 = .ok (.bipush 6, 2) := by decide +kernel
theorem dX8_isGoodWithoutHost_20 : decode cX8_isGoodWithoutHost 20 = .ok (.laload, 1) := by decide +kernel
theorem dX8_isGoodWithoutHost_21 : decode cX8_isGoodWithoutHost 21 = .ok (.aload_n 0, 1) := by decide +kernel
theorem dX8_isGoodWithoutHost_22 : decode cX8_isGoodWithoutHost 22 = .ok (.getfield 25, 3) := by decide +kernel
theorem dX8_isGoodWithoutHost_25 : decode cX8_isGoodWithoutHost 25 = .ok (.getfield 148, 3) := by decide +kernel
theorem dX8_isGoodWithoutHost_28 : decode cX8_isGoodWithoutHost 28 = .ok (.i2l, 1) := by decide +kernel
theorem dX8_isGoodWithoutHost_29 : decode cX8_isGoodWithoutHost 29 = .ok (.lcmp, 1) := by decide +kernel
theorem dX8_isGoodWithoutHost_30 : decode cX8_isGoodWithoutHost 30 = .ok (.ifCond .ne 34, 3) := by decide +kernel
theorem dX8_isGoodWithoutHost_33 : decode cX8_isGoodWithoutHost 33 = .ok (.aload_n 0, 1) := by decide +kernel
theorem dX8_isGoodWithoutHost_34 : decode cX8_isGoodWithoutHost 34 = .ok (.getfield 32, 3) := by decide +kernel
theorem dX8_isGoodWithoutHost_37 : decode cX8_isGoodWithoutHost 37 = .ok (.getfield 121, 3) := by decide +kernel
theorem dX8_isGoodWithoutHost_40 : decode cX8_isGoodWithoutHost 40 = .ok (.aload_n 0, 1) := by decide +kernel
theorem dX8_isGoodWithoutHost_41 : decode cX8_isGoodWithoutHost 41 = .ok (.getfield 25, 3) := by decide +kernel
theorem dX8_isGoodWithoutHost_44 : decode cX8_isGoodWithoutHost 44 = .ok (.invokevirtual 172, 3) := by decide +kernel
theorem dX8_isGoodWithoutHost_47 : decode cX8_isGoodWithoutHost 47 = .ok (.aload_n 0, 1) := by decide +kernel
theorem dX8_isGoodWithoutHost_48 : decode cX8_isGoodWithoutHost 48 = .ok (.getfield 25, 3) := by decide +kernel
theorem dX8_isGoodWithoutHost_51 : decode cX8_isGoodWithoutHost 51 = .ok (.getfield 159, 3) := by decide +kernel
theorem dX8_isGoodWithoutHost_54 : decode cX8_isGoodWithoutHost 54 = .ok (.invokevirtual 131, 3) := by decide +kernel
theorem dX8_isGoodWithoutHost_57 : decode cX8_isGoodWithoutHost 57 = .ok (.ifCond .eq 7, 3) := by decide +kernel
theorem dX8_isGoodWithoutHost_60 : decode cX8_isGoodWithoutHost 60 = .ok (.iconst 1, 1) := by decide +kernel
theorem dX8_isGoodWithoutHost_61 : decode cX8_isGoodWithoutHost 61 = .ok (.goto 4, 3) := by decide +kernel
theorem dX8_isGoodWithoutHost_64 : decode cX8_isGoodWithoutHost 64 = .ok (.iconst 0, 1) := by decide +kernel
theorem dX8_isGoodWithoutHost_65 : decode cX8_isGoodWithoutHost 65 = .ok (.ireturn, 1) := by decide +kernel
theorem dX8_takesWord_0 : decode cX8_takesWord 0 = .ok (.aload_n 1, 1) := by decide +kernel
theorem dX8_takesWord_1 : decode cX8_takesWord 1 = .ok (.bipush 10, 2) := by decide +kernel
theorem dX8_takesWord_3 : decode cX8_takesWord 3 = .ok (.invokevirtual 113, 3) := by decide +kernel
theorem dX8_takesWord_6 : decode cX8_takesWord 6 = .ok (.istore_n 2, 1) := by decide +kernel
theorem dX8_takesWord_7 : decode cX8_takesWord 7 = .ok (.aload_n 1, 1) := by decide +kernel
theorem dX8_takesWord_8 : decode cX8_takesWord 8 = .ok (.getfield 83, 3) := by decide +kernel
theorem dX8_takesWord_11 : decode cX8_takesWord 11 = .ok (.iconst 1, 1) := by decide +kernel
theorem dX8_takesWord_12 : decode cX8_takesWord 12 = .ok (.laload, 1) := by decide +kernel
theorem dX8_takesWord_13 : decode cX8_takesWord 13 = .ok (.aload_n 0, 1) := by decide +kernel
theorem dX8_takesWord_14 : decode cX8_takesWord 14 = .ok (.getfield 25, 3) := by decide +kernel
theorem dX8_takesWord_17 : decode cX8_takesWord 17 = .ok (.getfield 139, 3) := by decide +kernel
theorem dX8_takesWord_20 : decode cX8_takesWord 20 = .ok (.i2l, 1) := by decide +kernel
theorem dX8_takesWord_21 : decode cX8_takesWord 21 = .ok (.lcmp, 1) := by decide +kernel
theorem dX8_takesWord_22 : decode cX8_takesWord 22 = .ok (.ifCond .ne 49, 3) := by decide +kernel
theorem dX8_takesWord_25 : decode cX8_takesWord 25 = .ok (.aload_n 1, 1) := by decide +kernel
theorem dX8_takesWord_26 : decode cX8_takesWord 26 = .ok (.getfield 83, 3) := by decide +kernel
theorem dX8_takesWord_29 : decode cX8_takesWord 29 = .ok (.iconst 2, 1) := by decide +kernel
theorem dX8_takesWord_30 : decode cX8_takesWord 30 = .ok (.laload, 1) := by decide +kernel
theorem dX8_takesWord_31 : decode cX8_takesWord 31 = .ok (.aload_n 0, 1) := by decide +kernel
theorem dX8_takesWord_32 : decode cX8_takesWord 32 = .ok (.getfield 25, 3) := by decide +kernel
theorem dX8_takesWord_35 : decode cX8_takesWord 35 = .ok (.getfield 153, 3) := by decide +kernel
theorem dX8_takesWord_38 : decode cX8_takesWord 38 = .ok (.i2l, 1) := by decide +kernel
theorem dX8_takesWord_39 : decode cX8_takesWord 39 = .ok (.lcmp, 1) := by decide +kernel
theorem dX8_takesWord_40 : decode cX8_takesWord 40 = .ok (.ifCond .ne 31, 3) := by decide +kernel
theorem dX8_takesWord_43 : decode cX8_takesWord 43 = .ok (.aload_n 0, 1) := by decide +kernel
theorem dX8_takesWord_44 : decode cX8_takesWord 44 = .ok (.getfield 32, 3) := by decide +kernel
theorem dX8_takesWord_47 : decode cX8_takesWord 47 = .ok (.getfield 121, 3) := by decide +kernel
theorem dX8_takesWord_50 : decode cX8_takesWord 50 = .ok (.aload_n 0, 1) := by decide +kernel
theorem dX8_takesWord_51 : decode cX8_takesWord 51 = .ok (.getfield 25, 3) := by decide +kernel
theorem dX8_takesWord_54 : decode cX8_takesWord 54 = .ok (.iload_n 2, 1) := by decide +kernel
theorem dX8_takesWord_55 : decode cX8_takesWord 55 = .ok (.invokevirtual 176, 3) := by decide +kernel
theorem dX8_takesWord_58 : decode cX8_takesWord 58 = .ok (.aload_n 1, 1) := by decide +kernel
theorem dX8_takesWord_59 : decode cX8_takesWord 59 = .ok (.getfield 83, 3) := by decide +kernel
theorem dX8_takesWord_62 : decode cX8_takesWord 62 = .ok (.bipush 11, 2) := by decide +kernel
theorem dX8_takesWord_64 : decode cX8_takesWord 64 = .ok (.laload, 1) := by decide +kernel
theorem dX8_takesWord_65 : decode cX8_takesWord 65 = .ok (.invokevirtual 131, 3) := by decide +kernel
theorem dX8_takesWord_68 : decode cX8_takesWord 68 = .ok (.ifCond .ne 5, 3) := by decide +kernel
theorem dX8_takesWord_71 : decode cX8_takesWord 71 = .ok (.iconst 0, 1) := by decide +kernel
theorem dX8_takesWord_72 : decode cX8_takesWord 72 = .ok (.ireturn, 1) := by decide +kernel
theorem dX8_takesWord_73 : decode cX8_takesWord 73 = .ok (.aload_n 0, 1) := by decide +kernel
theorem dX8_takesWord_74 : decode cX8_takesWord 74 = .ok (.iload_n 2, 1) := by decide +kernel
theorem dX8_takesWord_75 : decode cX8_takesWord 75 = .ok (.putfield 180, 3) := by decide +kernel
theorem dX8_takesWord_78 : decode cX8_takesWord 78 = .ok (.aload_n 0, 1) := by decide +kernel
theorem dX8_takesWord_79 : decode cX8_takesWord 79 = .ok (.getfield 32, 3) := by decide +kernel
theorem dX8_takesWord_82 : decode cX8_takesWord 82 = .ok (.getfield 79, 3) := by decide +kernel
theorem dX8_takesWord_85 : decode cX8_takesWord 85 = .ok (.getfield 83, 3) := by decide +kernel
theorem dX8_takesWord_88 : decode cX8_takesWord 88 = .ok (.bipush 10, 2) := by decide +kernel
theorem dX8_takesWord_90 : decode cX8_takesWord 90 = .ok (.aload_n 0, 1) := by decide +kernel
theorem dX8_takesWord_91 : decode cX8_takesWord 91 = .ok (.getfield 180, 3) := by decide +kernel
theorem dX8_takesWord_94 : decode cX8_takesWord 94 = .ok (.i2l, 1) := by decide +kernel
theorem dX8_takesWord_95 : decode cX8_takesWord 95 = .ok (.lastore, 1) := by decide +kernel
theorem dX8_takesWord_96 : decode cX8_takesWord 96 = .ok (.aload_n 0, 1) := by decide +kernel
theorem dX8_takesWord_97 : decode cX8_takesWord 97 = .ok (.getfield 32, 3) := by decide +kernel
theorem dX8_takesWord_100 : decode cX8_takesWord 100 = .ok (.getfield 79, 3) := by decide +kernel
theorem dX8_takesWord_103 : decode cX8_takesWord 103 = .ok (.getfield 83, 3) := by decide +kernel
theorem dX8_takesWord_106 : decode cX8_takesWord 106 = .ok (.bipush 8, 2) := by decide +kernel
theorem dX8_takesWord_108 : decode cX8_takesWord 108 = .ok (.aload_n 1, 1) := by decide +kernel
theorem dX8_takesWord_109 : decode cX8_takesWord 109 = .ok (.getfield 83, 3) := by decide +kernel
theorem dX8_takesWord_112 : decode cX8_takesWord 112 = .ok (.bipush 8, 2) := by decide +kernel
theorem dX8_takesWord_114 : decode cX8_takesWord 114 = .ok (.laload, 1) := by decide +kernel
theorem dX8_takesWord_115 : decode cX8_takesWord 115 = .ok (.lastore, 1) := by decide +kernel
theorem dX8_takesWord_116 : decode cX8_takesWord 116 = .ok (.aload_n 0, 1) := by decide +kernel
theorem dX8_takesWord_117 : decode cX8_takesWord 117 = .ok (.bipush 9, 2) := by decide +kernel
theorem dX8_takesWord_119 : decode cX8_takesWord 119 = .ok (.bipush 10, 2) := by decide +kernel
theorem dX8_takesWord_121 : decode cX8_takesWord 121 = .ok (.invokevirtual 89, 3) := by decide +kernel
theorem dX8_takesWord_124 : decode cX8_takesWord 124 = .ok (.iconst 1, 1) := by decide +kernel
theorem dX8_takesWord_125 : decode cX8_takesWord 125 = .ok (.ireturn, 1) := by decide +kernel
theorem dX8_takeLast_0 : decode cX8_takeLast 0 = .ok (.aload_n 0, 1) := by decide +kernel
theorem dX8_takeLast_1 : decode cX8_takeLast 1 = .ok (.getfield 180, 3) := by decide +kernel
theorem dX8_takeLast_4 : decode cX8_takeLast 4 = .ok (.iconst 1, 1) := by decide +kernel
theorem dX8_takeLast_5 : decode cX8_takeLast 5 = .ok (.if_icmp .ne 49, 3) := by decide +kernel
theorem dX8_takeLast_8 : decode cX8_takeLast 8 = .ok (.aload_n 1, 1) := by decide +kernel
theorem dX8_takeLast_9 : decode cX8_takeLast 9 = .ok (.getfield 83, 3) := by decide +kernel
theorem dX8_takeLast_12 : decode cX8_takeLast 12 = .ok (.bipush 7, 2) := by decide +kernel
theorem dX8_takeLast_14 : decode cX8_takeLast 14 = .ok (.laload, 1) := by decide +kernel
theorem dX8_takeLast_15 : decode cX8_takeLast 15 = .ok (.ldc2_w 151, 3) := by decide +kernel
theorem dX8_takeLast_18 : decode cX8_takeLast 18 = .ok (.lcmp, 1) := by decide +kernel
theorem dX8_takeLast_19 : decode cX8_takeLast 19 = .ok (.ifCond .ne 35, 3) := by decide +kernel
theorem dX8_takeLast_22 : decode cX8_takeLast 22 = .ok (.aload_n 0, 1) := by decide +kernel
theorem dX8_takeLast_23 : decode cX8_takeLast 23 = .ok (.getfield 32, 3) := by decide +kernel
theorem dX8_takeLast_26 : decode cX8_takeLast 26 = .ok (.getfield 121, 3) := by decide +kernel
theorem dX8_takeLast_29 : decode cX8_takeLast 29 = .ok (.aload_n 0, 1) := by decide +kernel
theorem dX8_takeLast_30 : decode cX8_takeLast 30 = .ok (.getfield 25, 3) := by decide +kernel
theorem dX8_takeLast_33 : decode cX8_takeLast 33 = .ok (.iconst 2, 1) := by decide +kernel
theorem dX8_takeLast_34 : decode cX8_takeLast 34 = .ok (.invokevirtual 183, 3) := by decide +kernel
theorem dX8_takeLast_37 : decode cX8_takeLast 37 = .ok (.aload_n 1, 1) := by decide +kernel
theorem dX8_takeLast_38 : decode cX8_takeLast 38 = .ok (.getfield 83, 3) := by decide +kernel
theorem dX8_takeLast_41 : decode cX8_takeLast 41 = .ok (.bipush 8, 2) := by decide +kernel
theorem dX8_takeLast_43 : decode cX8_takeLast 43 = .ok (.laload, 1) := by decide +kernel
theorem dX8_takeLast_44 : decode cX8_takeLast 44 = .ok (.invokevirtual 131, 3) := by decide +kernel
theorem dX8_takeLast_47 : decode cX8_takeLast 47 = .ok (.ifCond .eq 7, 3) := by decide +kernel
theorem dX8_takeLast_50 : decode cX8_takeLast 50 = .ok (.iconst 1, 1) := by decide +kernel
theorem dX8_takeLast_51 : decode cX8_takeLast 51 = .ok (.goto 4, 3) := by decide +kernel
theorem dX8_takeLast_54 : decode cX8_takeLast 54 = .ok (.iconst 0, 1) := by decide +kernel
theorem dX8_takeLast_55 : decode cX8_takeLast 55 = .ok (.istore_n 2, 1) := by decide +kernel
theorem dX8_takeLast_56 : decode cX8_takeLast 56 = .ok (.aload_n 0, 1) := by decide +kernel
theorem dX8_takeLast_57 : decode cX8_takeLast 57 = .ok (.iload_n 2, 1) := by decide +kernel
theorem dX8_takeLast_58 : decode cX8_takeLast 58 = .ok (.ifCond .eq 7, 3) := by decide +kernel
theorem dX8_takeLast_61 : decode cX8_takeLast 61 = .ok (.iconst 1, 1) := by decide +kernel
theorem dX8_takeLast_62 : decode cX8_takeLast 62 = .ok (.goto 4, 3) := by decide +kernel
theorem dX8_takeLast_65 : decode cX8_takeLast 65 = .ok (.iconst 3, 1) := by decide +kernel
theorem dX8_takeLast_66 : decode cX8_takeLast 66 = .ok (.invokevirtual 135, 3) := by decide +kernel
theorem dX8_takeLast_69 : decode cX8_takeLast 69 = .ok (.return_, 1) := by decide +kernel
theorem dX8_sendBatch_0 : decode cX8_sendBatch 0 = .ok (.iconst 0, 1) := by decide +kernel
theorem dX8_sendBatch_1 : decode cX8_sendBatch 1 = .ok (.istore_n 1, 1) := by decide +kernel
theorem dX8_sendBatch_2 : decode cX8_sendBatch 2 = .ok (.iconst 0, 1) := by decide +kernel
theorem dX8_sendBatch_3 : decode cX8_sendBatch 3 = .ok (.istore_n 2, 1) := by decide +kernel
theorem dX8_sendBatch_4 : decode cX8_sendBatch 4 = .ok (.iload_n 2, 1) := by decide +kernel
theorem dX8_sendBatch_5 : decode cX8_sendBatch 5 = .ok (.aload_n 0, 1) := by decide +kernel
theorem dX8_sendBatch_6 : decode cX8_sendBatch 6 = .ok (.getfield 12, 3) := by decide +kernel
theorem dX8_sendBatch_9 : decode cX8_sendBatch 9 = .ok (.invokevirtual 186, 3) := by decide +kernel
theorem dX8_sendBatch_12 : decode cX8_sendBatch 12 = .ok (.if_icmp .ge 32, 3) := by decide +kernel
theorem dX8_sendBatch_15 : decode cX8_sendBatch 15 = .ok (.aload_n 0, 1) := by decide +kernel
theorem dX8_sendBatch_16 : decode cX8_sendBatch 16 = .ok (.bipush 11, 2) := by decide +kernel
theorem dX8_sendBatch_18 : decode cX8_sendBatch 18 = .ok (.aload_n 0, 1) := by decide +kernel
theorem dX8_sendBatch_19 : decode cX8_sendBatch 19 = .ok (.getfield 12, 3) := by decide +kernel
theorem dX8_sendBatch_22 : decode cX8_sendBatch 22 = .ok (.iload_n 2, 1) := by decide +kernel
theorem dX8_sendBatch_23 : decode cX8_sendBatch 23 = .ok (.invokevirtual 190, 3) := by decide +kernel
theorem dX8_sendBatch_26 : decode cX8_sendBatch 26 = .ok (.checkcast 22, 3) := by decide +kernel
theorem dX8_sendBatch_29 : decode cX8_sendBatch 29 = .ok (.invokevirtual 162, 3) := by decide +kernel
theorem dX8_sendBatch_32 : decode cX8_sendBatch 32 = .ok (.ifCond .eq 6, 3) := by decide +kernel
theorem dX8_sendBatch_35 : decode cX8_sendBatch 35 = .ok (.iinc 1 1, 3) := by decide +kernel
theorem dX8_sendBatch_38 : decode cX8_sendBatch 38 = .ok (.iinc 2 1, 3) := by decide +kernel
theorem dX8_sendBatch_41 : decode cX8_sendBatch 41 = .ok (.goto (-37), 3) := by decide +kernel
theorem dX8_sendBatch_44 : decode cX8_sendBatch 44 = .ok (.aload_n 0, 1) := by decide +kernel
theorem dX8_sendBatch_45 : decode cX8_sendBatch 45 = .ok (.getfield 12, 3) := by decide +kernel
theorem dX8_sendBatch_48 : decode cX8_sendBatch 48 = .ok (.invokevirtual 194, 3) := by decide +kernel
theorem dX8_sendBatch_51 : decode cX8_sendBatch 51 = .ok (.iload_n 1, 1) := by decide +kernel
theorem dX8_sendBatch_52 : decode cX8_sendBatch 52 = .ok (.ireturn, 1) := by decide +kernel
theorem dX8_sendToHost_0 : decode cX8_sendToHost 0 = .ok (.aload_n 0, 1) := by decide +kernel
theorem dX8_sendToHost_1 : decode cX8_sendToHost 1 = .ok (.getfield 32, 3) := by decide +kernel
theorem dX8_sendToHost_4 : decode cX8_sendToHost 4 = .ok (.getfield 79, 3) := by decide +kernel
theorem dX8_sendToHost_7 : decode cX8_sendToHost 7 = .ok (.getfield 83, 3) := by decide +kernel
theorem dX8_sendToHost_10 : decode cX8_sendToHost 10 = .ok (.astore_n 3, 1) := by decide +kernel
theorem dX8_sendToHost_11 : decode cX8_sendToHost 11 = .ok (.aload_n 3, 1) := by decide +kernel
theorem dX8_sendToHost_12 : decode cX8_sendToHost 12 = .ok (.iconst 1, 1) := by decide +kernel
theorem dX8_sendToHost_13 : decode cX8_sendToHost 13 = .ok (.aload_n 2, 1) := by decide +kernel
theorem dX8_sendToHost_14 : decode cX8_sendToHost 14 = .ok (.getfield 139, 3) := by decide +kernel
theorem dX8_sendToHost_17 : decode cX8_sendToHost 17 = .ok (.i2l, 1) := by decide +kernel
theorem dX8_sendToHost_18 : decode cX8_sendToHost 18 = .ok (.lastore, 1) := by decide +kernel
theorem dX8_sendToHost_19 : decode cX8_sendToHost 19 = .ok (.aload_n 3, 1) := by decide +kernel
theorem dX8_sendToHost_20 : decode cX8_sendToHost 20 = .ok (.iconst 2, 1) := by decide +kernel
theorem dX8_sendToHost_21 : decode cX8_sendToHost 21 = .ok (.aload_n 2, 1) := by decide +kernel
theorem dX8_sendToHost_22 : decode cX8_sendToHost 22 = .ok (.getfield 153, 3) := by decide +kernel
theorem dX8_sendToHost_25 : decode cX8_sendToHost 25 = .ok (.i2l, 1) := by decide +kernel
theorem dX8_sendToHost_26 : decode cX8_sendToHost 26 = .ok (.lastore, 1) := by decide +kernel
theorem dX8_sendToHost_27 : decode cX8_sendToHost 27 = .ok (.aload_n 3, 1) := by decide +kernel
theorem dX8_sendToHost_28 : decode cX8_sendToHost 28 = .ok (.iconst 3, 1) := by decide +kernel
theorem dX8_sendToHost_29 : decode cX8_sendToHost 29 = .ok (.aload_n 2, 1) := by decide +kernel
theorem dX8_sendToHost_30 : decode cX8_sendToHost 30 = .ok (.getfield 64, 3) := by decide +kernel
theorem dX8_sendToHost_33 : decode cX8_sendToHost 33 = .ok (.lastore, 1) := by decide +kernel
theorem dX8_sendToHost_34 : decode cX8_sendToHost 34 = .ok (.aload_n 3, 1) := by decide +kernel
theorem dX8_sendToHost_35 : decode cX8_sendToHost 35 = .ok (.iconst 4, 1) := by decide +kernel
theorem dX8_sendToHost_36 : decode cX8_sendToHost 36 = .ok (.aload_n 2, 1) := by decide +kernel
theorem dX8_sendToHost_37 : decode cX8_sendToHost 37 = .ok (.getfield 67, 3) := by decide +kernel
theorem dX8_sendToHost_40 : decode cX8_sendToHost 40 = .ok (.lastore, 1) := by decide +kernel
theorem dX8_sendToHost_41 : decode cX8_sendToHost 41 = .ok (.aload_n 3, 1) := by decide +kernel
theorem dX8_sendToHost_42 : decode cX8_sendToHost 42 = .ok (.iconst 5, 1) := by decide +kernel
theorem dX8_sendToHost_43 : decode cX8_sendToHost 43 = .ok (.aload_n 0, 1) := by decide +kernel
theorem dX8_sendToHost_44 : decode cX8_sendToHost 44 = .ok (.getfield 36, 3) := by decide +kernel
theorem dX8_sendToHost_47 : decode cX8_sendToHost 47 = .ok (.i2l, 1) := by decide +kernel
theorem dX8_sendToHost_48 : decode cX8_sendToHost 48 = .ok (.lastore, 1) := by decide +kernel
theorem dX8_sendToHost_49 : decode cX8_sendToHost 49 = .ok (.aload_n 3, 1) := by decide +kernel
theorem dX8_sendToHost_50 : decode cX8_sendToHost 50 = .ok (.bipush 6, 2) := by decide +kernel
theorem dX8_sendToHost_52 : decode cX8_sendToHost 52 = .ok (.aload_n 2, 1) := by decide +kernel
theorem dX8_sendToHost_53 : decode cX8_sendToHost 53 = .ok (.getfield 148, 3) := by decide +kernel
theorem dX8_sendToHost_56 : decode cX8_sendToHost 56 = .ok (.i2l, 1) := by decide +kernel
theorem dX8_sendToHost_57 : decode cX8_sendToHost 57 = .ok (.lastore, 1) := by decide +kernel
theorem dX8_sendToHost_58 : decode cX8_sendToHost 58 = .ok (.aload_n 3, 1) := by decide +kernel
theorem dX8_sendToHost_59 : decode cX8_sendToHost 59 = .ok (.bipush 8, 2) := by decide +kernel
theorem dX8_sendToHost_61 : decode cX8_sendToHost 61 = .ok (.aload_n 2, 1) := by decide +kernel
theorem dX8_sendToHost_62 : decode cX8_sendToHost 62 = .ok (.getfield 159, 3) := by decide +kernel
theorem dX8_sendToHost_65 : decode cX8_sendToHost 65 = .ok (.lastore, 1) := by decide +kernel
theorem dX8_sendToHost_66 : decode cX8_sendToHost 66 = .ok (.aload_n 3, 1) := by decide +kernel
theorem dX8_sendToHost_67 : decode cX8_sendToHost 67 = .ok (.bipush 11, 2) := by decide +kernel
theorem dX8_sendToHost_69 : decode cX8_sendToHost 69 = .ok (.aload_n 0, 1) := by decide +kernel
theorem dX8_sendToHost_70 : decode cX8_sendToHost 70 = .ok (.getfield 32, 3) := by decide +kernel
theorem dX8_sendToHost_73 : decode cX8_sendToHost 73 = .ok (.getfield 121, 3) := by decide +kernel
theorem dX8_sendToHost_76 : decode cX8_sendToHost 76 = .ok (.iload_n 1, 1) := by decide +kernel
theorem dX8_sendToHost_77 : decode cX8_sendToHost 77 = .ok (.aload_n 2, 1) := by decide +kernel
theorem dX8_sendToHost_78 : decode cX8_sendToHost 78 = .ok (.invokevirtual 197, 3) := by decide +kernel
theorem dX8_sendToHost_81 : decode cX8_sendToHost 81 = .ok (.invokevirtual 201, 3) := by decide +kernel
theorem dX8_sendToHost_84 : decode cX8_sendToHost 84 = .ok (.lastore, 1) := by decide +kernel
theorem dX8_sendToHost_85 : decode cX8_sendToHost 85 = .ok (.aload_n 0, 1) := by decide +kernel
theorem dX8_sendToHost_86 : decode cX8_sendToHost 86 = .ok (.getfield 32, 3) := by decide +kernel
theorem dX8_sendToHost_89 : decode cX8_sendToHost 89 = .ok (.iload_n 1, 1) := by decide +kernel
theorem dX8_sendToHost_90 : decode cX8_sendToHost 90 = .ok (.iconst 1, 1) := by decide +kernel
theorem dX8_sendToHost_91 : decode cX8_sendToHost 91 = .ok (.aload_n 0, 1) := by decide +kernel
theorem dX8_sendToHost_92 : decode cX8_sendToHost 92 = .ok (.getfield 36, 3) := by decide +kernel
theorem dX8_sendToHost_95 : decode cX8_sendToHost 95 = .ok (.iconst 2, 1) := by decide +kernel
theorem dX8_sendToHost_96 : decode cX8_sendToHost 96 = .ok (.iconst 0, 1) := by decide +kernel
theorem dX8_sendToHost_97 : decode cX8_sendToHost 97 = .ok (.invokevirtual 204, 3) := by decide +kernel
theorem dX8_sendToHost_100 : decode cX8_sendToHost 100 = .ok (.ireturn, 1) := by decide +kernel
theorem dX8_sendToCard_0 : decode cX8_sendToCard 0 = .ok (.aload_n 0, 1) := by decide +kernel
theorem dX8_sendToCard_1 : decode cX8_sendToCard 1 = .ok (.getfield 32, 3) := by decide +kernel
theorem dX8_sendToCard_4 : decode cX8_sendToCard 4 = .ok (.iload_n 1, 1) := by decide +kernel
theorem dX8_sendToCard_5 : decode cX8_sendToCard 5 = .ok (.iconst 1, 1) := by decide +kernel
theorem dX8_sendToCard_6 : decode cX8_sendToCard 6 = .ok (.aload_n 0, 1) := by decide +kernel
theorem dX8_sendToCard_7 : decode cX8_sendToCard 7 = .ok (.getfield 36, 3) := by decide +kernel
theorem dX8_sendToCard_10 : decode cX8_sendToCard 10 = .ok (.iconst 0, 1) := by decide +kernel
theorem dX8_sendToCard_11 : decode cX8_sendToCard 11 = .ok (.aload_n 0, 1) := by decide +kernel
theorem dX8_sendToCard_12 : decode cX8_sendToCard 12 = .ok (.getfield 55, 3) := by decide +kernel
theorem dX8_sendToCard_15 : decode cX8_sendToCard 15 = .ok (.invokevirtual 204, 3) := by decide +kernel
theorem dX8_sendToCard_18 : decode cX8_sendToCard 18 = .ok (.pop, 1) := by decide +kernel
theorem dX8_sendToCard_19 : decode cX8_sendToCard 19 = .ok (.aload_n 0, 1) := by decide +kernel
theorem dX8_sendToCard_20 : decode cX8_sendToCard 20 = .ok (.iload_n 2, 1) := by decide +kernel
theorem dX8_sendToCard_21 : decode cX8_sendToCard 21 = .ok (.invokevirtual 166, 3) := by decide +kernel
theorem dX8_sendToCard_24 : decode cX8_sendToCard 24 = .ok (.return_, 1) := by decide +kernel
theorem dX8_waitFor_0 : decode cX8_waitFor 0 = .ok (.aload_n 0, 1) := by decide +kernel
theorem dX8_waitFor_1 : decode cX8_waitFor 1 = .ok (.iload_n 1, 1) := by decide +kernel
theorem dX8_waitFor_2 : decode cX8_waitFor 2 = .ok (.putfield 29, 3) := by decide +kernel
theorem dX8_waitFor_5 : decode cX8_waitFor 5 = .ok (.aload_n 0, 1) := by decide +kernel
theorem dX8_waitFor_6 : decode cX8_waitFor 6 = .ok (.iconst 0, 1) := by decide +kernel
theorem dX8_waitFor_7 : decode cX8_waitFor 7 = .ok (.putfield 208, 3) := by decide +kernel
theorem dX8_waitFor_10 : decode cX8_waitFor 10 = .ok (.return_, 1) := by decide +kernel
theorem dX8_end_0 : decode cX8_end 0 = .ok (.aload_n 0, 1) := by decide +kernel
theorem dX8_end_1 : decode cX8_end 1 = .ok (.iload_n 1, 1) := by decide +kernel
theorem dX8_end_2 : decode cX8_end 2 = .ok (.putfield 18, 3) := by decide +kernel
theorem dX8_end_5 : decode cX8_end 5 = .ok (.aload_n 0, 1) := by decide +kernel
theorem dX8_end_6 : decode cX8_end 6 = .ok (.iconst 0, 1) := by decide +kernel
theorem dX8_end_7 : decode cX8_end 7 = .ok (.putfield 29, 3) := by decide +kernel
theorem dX8_end_10 : decode cX8_end 10 = .ok (.return_, 1) := by decide +kernel
theorem dX8_givesUpAfter_0 : decode cX8_givesUpAfter 0 = .ok (.aload_n 0, 1) := by decide +kernel
theorem dX8_givesUpAfter_1 : decode cX8_givesUpAfter 1 = .ok (.getfield 29, 3) := by decide +kernel
theorem dX8_givesUpAfter_4 : decode cX8_givesUpAfter 4 = .ok (.ifCond .ne 5, 3) := by decide +kernel
theorem dX8_givesUpAfter_7 : decode cX8_givesUpAfter 7 = .ok (.iconst 0, 1) := by decide +kernel
theorem dX8_givesUpAfter_8 : decode cX8_givesUpAfter 8 = .ok (.ireturn, 1) := by decide +kernel
theorem dX8_givesUpAfter_9 : decode cX8_givesUpAfter 9 = .ok (.aload_n 0, 1) := by decide +kernel
theorem dX8_givesUpAfter_10 : decode cX8_givesUpAfter 10 = .ok (.dup, 1) := by decide +kernel
theorem dX8_givesUpAfter_11 : decode cX8_givesUpAfter 11 = .ok (.getfield 208, 3) := by decide +kernel
theorem dX8_givesUpAfter_14 : decode cX8_givesUpAfter 14 = .ok (.iload_n 1, 1) := by decide +kernel
theorem dX8_givesUpAfter_15 : decode cX8_givesUpAfter 15 = .ok (.iadd, 1) := by decide +kernel
theorem dX8_givesUpAfter_16 : decode cX8_givesUpAfter 16 = .ok (.putfield 208, 3) := by decide +kernel
theorem dX8_givesUpAfter_19 : decode cX8_givesUpAfter 19 = .ok (.aload_n 0, 1) := by decide +kernel
theorem dX8_givesUpAfter_20 : decode cX8_givesUpAfter 20 = .ok (.getfield 208, 3) := by decide +kernel
theorem dX8_givesUpAfter_23 : decode cX8_givesUpAfter 23 = .ok (.bipush 20, 2) := by decide +kernel
theorem dX8_givesUpAfter_25 : decode cX8_givesUpAfter 25 = .ok (.if_icmp .gt 5, 3) := by decide +kernel
theorem dX8_givesUpAfter_28 : decode cX8_givesUpAfter 28 = .ok (.iconst 0, 1) := by decide +kernel
theorem dX8_givesUpAfter_29 : decode cX8_givesUpAfter 29 = .ok (.ireturn, 1) := by decide +kernel
theorem dX8_givesUpAfter_30 : decode cX8_givesUpAfter 30 = .ok (.aload_n 0, 1) := by decide +kernel
theorem dX8_givesUpAfter_31 : decode cX8_givesUpAfter 31 = .ok (.iconst 4, 1) := by decide +kernel
theorem dX8_givesUpAfter_32 : decode cX8_givesUpAfter 32 = .ok (.invokevirtual 135, 3) := by decide +kernel
theorem dX8_givesUpAfter_35 : decode cX8_givesUpAfter 35 = .ok (.iconst 1, 1) := by decide +kernel
theorem dX8_givesUpAfter_36 : decode cX8_givesUpAfter 36 = .ok (.ireturn, 1) := by decide +kernel
theorem dX9_init_0 : decode cX9_init 0 = .ok (.aload_n 0, 1) := by decide +kernel
theorem dX9_init_1 : decode cX9_init 1 = .ok (.invokespecial 3, 3) := by decide +kernel
theorem dX9_init_4 : decode cX9_init 4 = .ok (.aload_n 0, 1) := by decide +kernel
theorem dX9_init_5 : decode cX9_init 5 = .ok (.bipush 60, 2) := by decide +kernel
theorem dX9_init_7 : decode cX9_init 7 = .ok (.anewarray 9, 3) := by decide +kernel
theorem dX9_init_10 : decode cX9_init 10 = .ok (.putfield 11, 3) := by decide +kernel
theorem dX9_init_13 : decode cX9_init 13 = .ok (.return_, 1) := by decide +kernel
theorem dX9_get_0 : decode cX9_get 0 = .ok (.iload_n 1, 1) := by decide +kernel
theorem dX9_get_1 : decode cX9_get 1 = .ok (.ifCond .lt 20, 3) := by decide +kernel
theorem dX9_get_4 : decode cX9_get 4 = .ok (.iload_n 1, 1) := by decide +kernel
theorem dX9_get_5 : decode cX9_get 5 = .ok (.aload_n 0, 1) := by decide +kernel
theorem dX9_get_6 : decode cX9_get 6 = .ok (.getfield 17, 3) := by decide +kernel
theorem dX9_get_9 : decode cX9_get 9 = .ok (.if_icmp .ge 12, 3) := by decide +kernel
theorem dX9_get_12 : decode cX9_get 12 = .ok (.aload_n 0, 1) := by decide +kernel
theorem dX9_get_13 : decode cX9_get 13 = .ok (.getfield 11, 3) := by decide +kernel
theorem dX9_get_16 : decode cX9_get 16 = .ok (.iload_n 1, 1) := by decide +kernel
theorem dX9_get_17 : decode cX9_get 17 = .ok (.aaload, 1) := by decide +kernel
theorem dX9_get_18 : decode cX9_get 18 = .ok (.goto 4, 3) := by decide +kernel
theorem dX9_get_21 : decode cX9_get 21 = .ok (.aconst_null, 1) := by decide +kernel
theorem dX9_get_22 : decode cX9_get 22 = .ok (.areturn, 1) := by decide +kernel
theorem dX9_add_0 : decode cX9_add 0 = .ok (.aload_n 0, 1) := by decide +kernel
theorem dX9_add_1 : decode cX9_add 1 = .ok (.getfield 17, 3) := by decide +kernel
theorem dX9_add_4 : decode cX9_add 4 = .ok (.bipush 60, 2) := by decide +kernel
theorem dX9_add_6 : decode cX9_add 6 = .ok (.if_icmp .lt 5, 3) := by decide +kernel
theorem dX9_add_9 : decode cX9_add 9 = .ok (.aconst_null, 1) := by decide +kernel
theorem dX9_add_10 : decode cX9_add 10 = .ok (.areturn, 1) := by decide +kernel
theorem dX9_add_11 : decode cX9_add 11 = .ok (.aload_n 0, 1) := by decide +kernel
theorem dX9_add_12 : decode cX9_add 12 = .ok (.getfield 11, 3) := by decide +kernel
theorem dX9_add_15 : decode cX9_add 15 = .ok (.aload_n 0, 1) := by decide +kernel
theorem dX9_add_16 : decode cX9_add 16 = .ok (.getfield 17, 3) := by decide +kernel
theorem dX9_add_19 : decode cX9_add 19 = .ok (.aaload, 1) := by decide +kernel
theorem dX9_add_20 : decode cX9_add 20 = .ok (.ifnonnull 19, 3) := by decide +kernel
theorem dX9_add_23 : decode cX9_add 23 = .ok (.aload_n 0, 1) := by decide +kernel
theorem dX9_add_24 : decode cX9_add 24 = .ok (.getfield 11, 3) := by decide +kernel
theorem dX9_add_27 : decode cX9_add 27 = .ok (.aload_n 0, 1) := by decide +kernel
theorem dX9_add_28 : decode cX9_add 28 = .ok (.getfield 17, 3) := by decide +kernel
theorem dX9_add_31 : decode cX9_add 31 = .ok (.new 9, 3) := by decide +kernel
theorem dX9_add_34 : decode cX9_add 34 = .ok (.dup, 1) := by decide +kernel
theorem dX9_add_35 : decode cX9_add 35 = .ok (.invokespecial 21, 3) := by decide +kernel
theorem dX9_add_38 : decode cX9_add 38 = .ok (.aastore, 1) := by decide +kernel
theorem dX9_add_39 : decode cX9_add 39 = .ok (.aload_n 0, 1) := by decide +kernel
theorem dX9_add_40 : decode cX9_add 40 = .ok (.getfield 11, 3) := by decide +kernel
theorem dX9_add_43 : decode cX9_add 43 = .ok (.aload_n 0, 1) := by decide +kernel
theorem dX9_add_44 : decode cX9_add 44 = .ok (.getfield 17, 3) := by decide +kernel
theorem dX9_add_47 : decode cX9_add 47 = .ok (.aaload, 1) := by decide +kernel
theorem dX9_add_48 : decode cX9_add 48 = .ok (.astore 5, 2) := by decide +kernel
theorem dX9_add_50 : decode cX9_add 50 = .ok (.aload_n 0, 1) := by decide +kernel
theorem dX9_add_51 : decode cX9_add 51 = .ok (.dup, 1) := by decide +kernel
theorem dX9_add_52 : decode cX9_add 52 = .ok (.getfield 17, 3) := by decide +kernel
theorem dX9_add_55 : decode cX9_add 55 = .ok (.iconst 1, 1) := by decide +kernel
theorem dX9_add_56 : decode cX9_add 56 = .ok (.iadd, 1) := by decide +kernel
theorem dX9_add_57 : decode cX9_add 57 = .ok (.putfield 17, 3) := by decide +kernel
theorem dX9_add_60 : decode cX9_add 60 = .ok (.aload 5, 2) := by decide +kernel
theorem dX9_add_62 : decode cX9_add 62 = .ok (.iload_n 1, 1) := by decide +kernel
theorem dX9_add_63 : decode cX9_add 63 = .ok (.putfield 22, 3) := by decide +kernel
theorem dX9_add_66 : decode cX9_add 66 = .ok (.aload 5, 2) := by decide +kernel
theorem dX9_add_68 : decode cX9_add 68 = .ok (.iload_n 2, 1) := by decide +kernel
theorem dX9_add_69 : decode cX9_add 69 = .ok (.putfield 25, 3) := by decide +kernel
theorem dX9_add_72 : decode cX9_add 72 = .ok (.aload 5, 2) := by decide +kernel
theorem dX9_add_74 : decode cX9_add 74 = .ok (.iload_n 3, 1) := by decide +kernel
theorem dX9_add_75 : decode cX9_add 75 = .ok (.putfield 28, 3) := by decide +kernel
theorem dX9_add_78 : decode cX9_add 78 = .ok (.aload 5, 2) := by decide +kernel
theorem dX9_add_80 : decode cX9_add 80 = .ok (.iload 4, 2) := by decide +kernel
theorem dX9_add_82 : decode cX9_add 82 = .ok (.putfield 31, 3) := by decide +kernel
theorem dX9_add_85 : decode cX9_add 85 = .ok (.aload 5, 2) := by decide +kernel
theorem dX9_add_87 : decode cX9_add 87 = .ok (.areturn, 1) := by decide +kernel
theorem dX9_takeOff_0 : decode cX9_takeOff 0 = .ok (.aload_n 0, 1) := by decide +kernel
theorem dX9_takeOff_1 : decode cX9_takeOff 1 = .ok (.iload_n 1, 1) := by decide +kernel
theorem dX9_takeOff_2 : decode cX9_takeOff 2 = .ok (.invokevirtual 34, 3) := by decide +kernel
theorem dX9_takeOff_5 : decode cX9_takeOff 5 = .ok (.astore_n 2, 1) := by decide +kernel
theorem dX9_takeOff_6 : decode cX9_takeOff 6 = .ok (.aload_n 2, 1) := by decide +kernel
theorem dX9_takeOff_7 : decode cX9_takeOff 7 = .ok (.ifnonnull 5, 3) := by decide +kernel
theorem dX9_takeOff_10 : decode cX9_takeOff 10 = .ok (.aconst_null, 1) := by decide +kernel
theorem dX9_takeOff_11 : decode cX9_takeOff 11 = .ok (.areturn, 1) := by decide +kernel
theorem dX9_takeOff_12 : decode cX9_takeOff 12 = .ok (.iload_n 1, 1) := by decide +kernel
theorem dX9_takeOff_13 : decode cX9_takeOff 13 = .ok (.istore_n 3, 1) := by decide +kernel
theorem dX9_takeOff_14 : decode cX9_takeOff 14 = .ok (.iload_n 3, 1) := by decide +kernel
theorem dX9_takeOff_15 : decode cX9_takeOff 15 = .ok (.iconst 1, 1) := by decide +kernel
theorem dX9_takeOff_16 : decode cX9_takeOff 16 = .ok (.iadd, 1) := by decide +kernel
theorem dX9_takeOff_17 : decode cX9_takeOff 17 = .ok (.aload_n 0, 1) := by decide +kernel
theorem dX9_takeOff_18 : decode cX9_takeOff 18 = .ok (.getfield 17, 3) := by decide +kernel
theorem dX9_takeOff_21 : decode cX9_takeOff 21 = .ok (.if_icmp .ge 23, 3) := by decide +kernel
theorem dX9_takeOff_24 : decode cX9_takeOff 24 = .ok (.aload_n 0, 1) := by decide +kernel
theorem dX9_takeOff_25 : decode cX9_takeOff 25 = .ok (.getfield 11, 3) := by decide +kernel
theorem dX9_takeOff_28 : decode cX9_takeOff 28 = .ok (.iload_n 3, 1) := by decide +kernel
theorem dX9_takeOff_29 : decode cX9_takeOff 29 = .ok (.aload_n 0, 1) := by decide +kernel
theorem dX9_takeOff_30 : decode cX9_takeOff 30 = .ok (.getfield 11, 3) := by decide +kernel
theorem dX9_takeOff_33 : decode cX9_takeOff 33 = .ok (.iload_n 3, 1) := by decide +kernel
theorem dX9_takeOff_34 : decode cX9_takeOff 34 = .ok (.iconst 1, 1) := by decide +kernel
theorem dX9_takeOff_35 : decode cX9_takeOff 35 = .ok (.iadd, 1) := by decide +kernel
theorem dX9_takeOff_36 : decode cX9_takeOff 36 = .ok (.aaload, 1) := by decide +kernel
theorem dX9_takeOff_37 : decode cX9_takeOff 37 = .ok (.aastore, 1) := by decide +kernel
theorem dX9_takeOff_38 : decode cX9_takeOff 38 = .ok (.iinc 3 1, 3) := by decide +kernel
theorem dX9_takeOff_41 : decode cX9_takeOff 41 = .ok (.goto (-27), 3) := by decide +kernel
theorem dX9_takeOff_44 : decode cX9_takeOff 44 = .ok (.aload_n 0, 1) := by decide +kernel
theorem dX9_takeOff_45 : decode cX9_takeOff 45 = .ok (.dup, 1) := by decide +kernel
theorem dX9_takeOff_46 : decode cX9_takeOff 46 = .ok (.getfield 17, 3) := by decide +kernel
theorem dX9_takeOff_49 : decode cX9_takeOff 49 = .ok (.iconst 1, 1) := by decide +kernel
theorem dX9_takeOff_50 : decode cX9_takeOff 50 = .ok (.isub, 1) := by decide +kernel
theorem dX9_takeOff_51 : decode cX9_takeOff 51 = .ok (.putfield 17, 3) := by decide +kernel
theorem dX9_takeOff_54 : decode cX9_takeOff 54 = .ok (.aload_n 0, 1) := by decide +kernel
theorem dX9_takeOff_55 : decode cX9_takeOff 55 = .ok (.getfield 11, 3) := by decide +kernel
theorem dX9_takeOff_58 : decode cX9_takeOff 58 = .ok (.aload_n 0, 1) := by decide +kernel
theorem dX9_takeOff_59 : decode cX9_takeOff 59 = .ok (.getfield 17, 3) := by decide +kernel
theorem dX9_takeOff_62 : decode cX9_takeOff 62 = .ok (.aload_n 2, 1) := by decide +kernel
theorem dX9_takeOff_63 : decode cX9_takeOff 63 = .ok (.aastore, 1) := by decide +kernel
theorem dX9_takeOff_64 : decode cX9_takeOff 64 = .ok (.aload_n 2, 1) := by decide +kernel
theorem dX9_takeOff_65 : decode cX9_takeOff 65 = .ok (.areturn, 1) := by decide +kernel
theorem dX10_init_0 : decode cX10_init 0 = .ok (.aload_n 0, 1) := by decide +kernel
theorem dX10_init_1 : decode cX10_init 1 = .ok (.invokespecial 3, 3) := by decide +kernel
theorem dX10_init_4 : decode cX10_init 4 = .ok (.aload_n 0, 1) := by decide +kernel
theorem dX10_init_5 : decode cX10_init 5 = .ok (.new 9, 3) := by decide +kernel
theorem dX10_init_8 : decode cX10_init 8 = .ok (.dup, 1) := by decide +kernel
theorem dX10_init_9 : decode cX10_init 9 = .ok (.invokespecial 11, 3) := by decide +kernel
theorem dX10_init_12 : decode cX10_init 12 = .ok (.putfield 12, 3) := by decide +kernel
theorem dX10_init_15 : decode cX10_init 15 = .ok (.aload_n 0, 1) := by decide +kernel
theorem dX10_init_16 : decode cX10_init 16 = .ok (.new 18, 3) := by decide +kernel
theorem dX10_init_19 : decode cX10_init 19 = .ok (.dup, 1) := by decide +kernel
theorem dX10_init_20 : decode cX10_init 20 = .ok (.invokespecial 20, 3) := by decide +kernel
theorem dX10_init_23 : decode cX10_init 23 = .ok (.putfield 21, 3) := by decide +kernel
theorem dX10_init_26 : decode cX10_init 26 = .ok (.aload_n 0, 1) := by decide +kernel
theorem dX10_init_27 : decode cX10_init 27 = .ok (.new 25, 3) := by decide +kernel
theorem dX10_init_30 : decode cX10_init 30 = .ok (.dup, 1) := by decide +kernel
theorem dX10_init_31 : decode cX10_init 31 = .ok (.invokespecial 27, 3) := by decide +kernel
theorem dX10_init_34 : decode cX10_init 34 = .ok (.putfield 28, 3) := by decide +kernel
theorem dX10_init_37 : decode cX10_init 37 = .ok (.aload_n 0, 1) := by decide +kernel
theorem dX10_init_38 : decode cX10_init 38 = .ok (.new 25, 3) := by decide +kernel
theorem dX10_init_41 : decode cX10_init 41 = .ok (.dup, 1) := by decide +kernel
theorem dX10_init_42 : decode cX10_init 42 = .ok (.invokespecial 27, 3) := by decide +kernel
theorem dX10_init_45 : decode cX10_init 45 = .ok (.putfield 32, 3) := by decide +kernel
theorem dX10_init_48 : decode cX10_init 48 = .ok (.aload_n 0, 1) := by decide +kernel
theorem dX10_init_49 : decode cX10_init 49 = .ok (.new 25, 3) := by decide +kernel
theorem dX10_init_52 : decode cX10_init 52 = .ok (.dup, 1) := by decide +kernel
theorem dX10_init_53 : decode cX10_init 53 = .ok (.invokespecial 27, 3) := by decide +kernel
theorem dX10_init_56 : decode cX10_init 56 = .ok (.putfield 35, 3) := by decide +kernel
theorem dX10_init_59 : decode cX10_init 59 = .ok (.aload_n 0, 1) := by decide +kernel
theorem dX10_init_60 : decode cX10_init 60 = .ok (.new 25, 3) := by decide +kernel
theorem dX10_init_63 : decode cX10_init 63 = .ok (.dup, 1) := by decide +kernel
theorem dX10_init_64 : decode cX10_init 64 = .ok (.invokespecial 27, 3) := by decide +kernel
theorem dX10_init_67 : decode cX10_init 67 = .ok (.putfield 38, 3) := by decide +kernel
theorem dX10_init_70 : decode cX10_init 70 = .ok (.aload_n 0, 1) := by decide +kernel
theorem dX10_init_71 : decode cX10_init 71 = .ok (.new 41, 3) := by decide +kernel
theorem dX10_init_74 : decode cX10_init 74 = .ok (.dup, 1) := by decide +kernel
theorem dX10_init_75 : decode cX10_init 75 = .ok (.invokespecial 43, 3) := by decide +kernel
theorem dX10_init_78 : decode cX10_init 78 = .ok (.putfield 44, 3) := by decide +kernel
theorem dX10_init_81 : decode cX10_init 81 = .ok (.aload_n 0, 1) := by decide +kernel
theorem dX10_init_82 : decode cX10_init 82 = .ok (.new 41, 3) := by decide +kernel
theorem dX10_init_85 : decode cX10_init 85 = .ok (.dup, 1) := by decide +kernel
theorem dX10_init_86 : decode cX10_init 86 = .ok (.invokespecial 43, 3) := by decide +kernel
theorem dX10_init_89 : decode cX10_init 89 = .ok (.putfield 48, 3) := by decide +kernel
theorem dX10_init_92 : decode cX10_init 92 = .ok (.return_, 1) := by decide +kernel
theorem dX10_isCard_0 : decode cX10_isCard 0 = .ok (.iload_n 1, 1) := by decide +kernel
theorem dX10_isCard_1 : decode cX10_isCard 1 = .ok (.ifCond .lt 18, 3) := by decide +kernel
theorem dX10_isCard_4 : decode cX10_isCard 4 = .ok (.iload_n 1, 1) := by decide +kernel
theorem dX10_isCard_5 : decode cX10_isCard 5 = .ok (.aload_n 0, 1) := by decide +kernel
theorem dX10_isCard_6 : decode cX10_isCard 6 = .ok (.getfield 28, 3) := by decide +kernel
theorem dX10_isCard_9 : decode cX10_isCard 9 = .ok (.invokevirtual 51, 3) := by decide +kernel
theorem dX10_isCard_12 : decode cX10_isCard 12 = .ok (.if_icmp .ge 7, 3) := by decide +kernel
theorem dX10_isCard_15 : decode cX10_isCard 15 = .ok (.iconst 1, 1) := by decide +kernel
theorem dX10_isCard_16 : decode cX10_isCard 16 = .ok (.goto 4, 3) := by decide +kernel
theorem dX10_isCard_19 : decode cX10_isCard 19 = .ok (.iconst 0, 1) := by decide +kernel
theorem dX10_isCard_20 : decode cX10_isCard 20 = .ok (.ireturn, 1) := by decide +kernel
theorem dX10_isTerminal_0 : decode cX10_isTerminal 0 = .ok (.iload_n 1, 1) := by decide +kernel
theorem dX10_isTerminal_1 : decode cX10_isTerminal 1 = .ok (.ifCond .lt 18, 3) := by decide +kernel
theorem dX10_isTerminal_4 : decode cX10_isTerminal 4 = .ok (.iload_n 1, 1) := by decide +kernel
theorem dX10_isTerminal_5 : decode cX10_isTerminal 5 = .ok (.aload_n 0, 1) := by decide +kernel
theorem dX10_isTerminal_6 : decode cX10_isTerminal 6 = .ok (.getfield 32, 3) := by decide +kernel
theorem dX10_isTerminal_9 : decode cX10_isTerminal 9 = .ok (.invokevirtual 51, 3) := by decide +kernel
theorem dX10_isTerminal_12 : decode cX10_isTerminal 12 = .ok (.if_icmp .ge 7, 3) := by decide +kernel
theorem dX10_isTerminal_15 : decode cX10_isTerminal 15 = .ok (.iconst 1, 1) := by decide +kernel
theorem dX10_isTerminal_16 : decode cX10_isTerminal 16 = .ok (.goto 4, 3) := by decide +kernel
theorem dX10_isTerminal_19 : decode cX10_isTerminal 19 = .ok (.iconst 0, 1) := by decide +kernel
theorem dX10_isTerminal_20 : decode cX10_isTerminal 20 = .ok (.ireturn, 1) := by decide +kernel
theorem dX10_isSomebody_0 : decode cX10_isSomebody 0 = .ok (.iload_n 1, 1) := by decide +kernel
theorem dX10_isSomebody_1 : decode cX10_isSomebody 1 = .ok (.tableswitch 49 0 2 #[27, 33, 39], 27) := by decide +kernel
theorem dX10_isSomebody_28 : decode cX10_isSomebody 28 = .ok (.aload_n 0, 1) := by decide +kernel
theorem dX10_isSomebody_29 : decode cX10_isSomebody 29 = .ok (.iload_n 2, 1) := by decide +kernel
theorem dX10_isSomebody_30 : decode cX10_isSomebody 30 = .ok (.invokevirtual 55, 3) := by decide +kernel
theorem dX10_isSomebody_33 : decode cX10_isSomebody 33 = .ok (.ireturn, 1) := by decide +kernel
theorem dX10_isSomebody_34 : decode cX10_isSomebody 34 = .ok (.aload_n 0, 1) := by decide +kernel
theorem dX10_isSomebody_35 : decode cX10_isSomebody 35 = .ok (.iload_n 2, 1) := by decide +kernel
theorem dX10_isSomebody_36 : decode cX10_isSomebody 36 = .ok (.invokevirtual 59, 3) := by decide +kernel
theorem dX10_isSomebody_39 : decode cX10_isSomebody 39 = .ok (.ireturn, 1) := by decide +kernel
theorem dX10_isSomebody_40 : decode cX10_isSomebody 40 = .ok (.iload_n 2, 1) := by decide +kernel
theorem dX10_isSomebody_41 : decode cX10_isSomebody 41 = .ok (.ifCond .ne 7, 3) := by decide +kernel
theorem dX10_isSomebody_44 : decode cX10_isSomebody 44 = .ok (.iconst 1, 1) := by decide +kernel
theorem dX10_isSomebody_45 : decode cX10_isSomebody 45 = .ok (.goto 4, 3) := by decide +kernel
theorem dX10_isSomebody_48 : decode cX10_isSomebody 48 = .ok (.iconst 0, 1) := by decide +kernel
theorem dX10_isSomebody_49 : decode cX10_isSomebody 49 = .ok (.ireturn, 1) := by decide +kernel
theorem dX10_isSomebody_50 : decode cX10_isSomebody 50 = .ok (.iconst 0, 1) := by decide +kernel
theorem dX10_isSomebody_51 : decode cX10_isSomebody 51 = .ok (.ireturn, 1) := by decide +kernel
theorem dX10_send_0 : decode cX10_send 0 = .ok (.aload_n 0, 1) := by decide +kernel
theorem dX10_send_1 : decode cX10_send 1 = .ok (.getfield 12, 3) := by decide +kernel
theorem dX10_send_4 : decode cX10_send 4 = .ok (.iload_n 2, 1) := by decide +kernel
theorem dX10_send_5 : decode cX10_send 5 = .ok (.iload_n 3, 1) := by decide +kernel
theorem dX10_send_6 : decode cX10_send 6 = .ok (.iload 4, 2) := by decide +kernel
theorem dX10_send_8 : decode cX10_send 8 = .ok (.iload 5, 2) := by decide +kernel
theorem dX10_send_10 : decode cX10_send 10 = .ok (.invokevirtual 62, 3) := by decide +kernel
theorem dX10_send_13 : decode cX10_send 13 = .ok (.astore 6, 2) := by decide +kernel
theorem dX10_send_15 : decode cX10_send 15 = .ok (.aload 6, 2) := by decide +kernel
theorem dX10_send_17 : decode cX10_send 17 = .ok (.ifnonnull 5, 3) := by decide +kernel
theorem dX10_send_20 : decode cX10_send 20 = .ok (.iconst 0, 1) := by decide +kernel
theorem dX10_send_21 : decode cX10_send 21 = .ok (.ireturn, 1) := by decide +kernel
theorem dX10_send_22 : decode cX10_send 22 = .ok (.aload_n 0, 1) := by decide +kernel
theorem dX10_send_23 : decode cX10_send 23 = .ok (.getfield 48, 3) := by decide +kernel
theorem dX10_send_26 : decode cX10_send 26 = .ok (.iload_n 1, 1) := by decide +kernel
theorem dX10_send_27 : decode cX10_send 27 = .ok (.putfield 66, 3) := by decide +kernel
theorem dX10_send_30 : decode cX10_send 30 = .ok (.aload 6, 2) := by decide +kernel
theorem dX10_send_32 : decode cX10_send 32 = .ok (.aload_n 0, 1) := by decide +kernel
theorem dX10_send_33 : decode cX10_send 33 = .ok (.getfield 48, 3) := by decide +kernel
theorem dX10_send_36 : decode cX10_send 36 = .ok (.invokevirtual 70, 3) := by decide +kernel
theorem dX10_send_39 : decode cX10_send 39 = .ok (.iconst 1, 1) := by decide +kernel
theorem dX10_send_40 : decode cX10_send 40 = .ok (.ireturn, 1) := by decide +kernel
