theorem dX10_purchasesLike_0 : decode cX10_purchasesLike 0 = .ok (.iconst 0, 1) := by decide +kernel
theorem dX10_purchasesLike_1 : decode cX10_purchasesLike 1 = .ok (.istore_n 2, 1) := by decide +kernel
theorem dX10_purchasesLike_2 : decode cX10_purchasesLike 2 = .ok (.iconst 0, 1) := by decide +kernel
theorem dX10_purchasesLike_3 : decode cX10_purchasesLike 3 = .ok (.istore_n 3, 1) := by decide +kernel
theorem dX10_purchasesLike_4 : decode cX10_purchasesLike 4 = .ok (.iload_n 3, 1) := by decide +kernel
theorem dX10_purchasesLike_5 : decode cX10_purchasesLike 5 = .ok (.aload_n 0, 1) := by decide +kernel
theorem dX10_purchasesLike_6 : decode cX10_purchasesLike 6 = .ok (.getfield 35, 3) := by decide +kernel
theorem dX10_purchasesLike_9 : decode cX10_purchasesLike 9 = .ok (.invokevirtual 51, 3) := by decide +kernel
theorem dX10_purchasesLike_12 : decode cX10_purchasesLike 12 = .ok (.if_icmp .ge 63, 3) := by decide +kernel
theorem dX10_purchasesLike_15 : decode cX10_purchasesLike 15 = .ok (.aload_n 0, 1) := by decide +kernel
theorem dX10_purchasesLike_16 : decode cX10_purchasesLike 16 = .ok (.getfield 35, 3) := by decide +kernel
theorem dX10_purchasesLike_19 : decode cX10_purchasesLike 19 = .ok (.iload_n 3, 1) := by decide +kernel
theorem dX10_purchasesLike_20 : decode cX10_purchasesLike 20 = .ok (.invokevirtual 76, 3) := by decide +kernel
theorem dX10_purchasesLike_23 : decode cX10_purchasesLike 23 = .ok (.checkcast 80, 3) := by decide +kernel
theorem dX10_purchasesLike_26 : decode cX10_purchasesLike 26 = .ok (.astore 4, 2) := by decide +kernel
theorem dX10_purchasesLike_28 : decode cX10_purchasesLike 28 = .ok (.aload 4, 2) := by decide +kernel
theorem dX10_purchasesLike_30 : decode cX10_purchasesLike 30 = .ok (.getfield 82, 3) := by decide +kernel
theorem dX10_purchasesLike_33 : decode cX10_purchasesLike 33 = .ok (.aload_n 1, 1) := by decide +kernel
theorem dX10_purchasesLike_34 : decode cX10_purchasesLike 34 = .ok (.getfield 82, 3) := by decide +kernel
theorem dX10_purchasesLike_37 : decode cX10_purchasesLike 37 = .ok (.if_icmp .ne 32, 3) := by decide +kernel
theorem dX10_purchasesLike_40 : decode cX10_purchasesLike 40 = .ok (.aload 4, 2) := by decide +kernel
theorem dX10_purchasesLike_42 : decode cX10_purchasesLike 42 = .ok (.getfield 85, 3) := by decide +kernel
theorem dX10_purchasesLike_45 : decode cX10_purchasesLike 45 = .ok (.aload_n 1, 1) := by decide +kernel
theorem dX10_purchasesLike_46 : decode cX10_purchasesLike 46 = .ok (.getfield 85, 3) := by decide +kernel
theorem dX10_purchasesLike_49 : decode cX10_purchasesLike 49 = .ok (.lcmp, 1) := by decide +kernel
theorem dX10_purchasesLike_50 : decode cX10_purchasesLike 50 = .ok (.ifCond .ne 19, 3) := by decide +kernel
theorem dX10_purchasesLike_53 : decode cX10_purchasesLike 53 = .ok (.aload 4, 2) := by decide +kernel
theorem dX10_purchasesLike_55 : decode cX10_purchasesLike 55 = .ok (.getfield 89, 3) := by decide +kernel
theorem dX10_purchasesLike_58 : decode cX10_purchasesLike 58 = .ok (.aload_n 1, 1) := by decide +kernel
theorem dX10_purchasesLike_59 : decode cX10_purchasesLike 59 = .ok (.getfield 89, 3) := by decide +kernel
theorem dX10_purchasesLike_62 : decode cX10_purchasesLike 62 = .ok (.lcmp, 1) := by decide +kernel
theorem dX10_purchasesLike_63 : decode cX10_purchasesLike 63 = .ok (.ifCond .ne 6, 3) := by decide +kernel
theorem dX10_purchasesLike_66 : decode cX10_purchasesLike 66 = .ok (.iinc 2 1, 3) := by decide +kernel
theorem dX10_purchasesLike_69 : decode cX10_purchasesLike 69 = .ok (.iinc 3 1, 3) := by decide +kernel
theorem dX10_purchasesLike_72 : decode cX10_purchasesLike 72 = .ok (.goto (-68), 3) := by decide +kernel
theorem dX10_purchasesLike_75 : decode cX10_purchasesLike 75 = .ok (.iload_n 2, 1) := by decide +kernel
theorem dX10_purchasesLike_76 : decode cX10_purchasesLike 76 = .ok (.ireturn, 1) := by decide +kernel
theorem dX10_wasAnswered_0 : decode cX10_wasAnswered 0 = .ok (.iconst 0, 1) := by decide +kernel
theorem dX10_wasAnswered_1 : decode cX10_wasAnswered 1 = .ok (.istore_n 2, 1) := by decide +kernel
theorem dX10_wasAnswered_2 : decode cX10_wasAnswered 2 = .ok (.iload_n 2, 1) := by decide +kernel
theorem dX10_wasAnswered_3 : decode cX10_wasAnswered 3 = .ok (.aload_n 0, 1) := by decide +kernel
theorem dX10_wasAnswered_4 : decode cX10_wasAnswered 4 = .ok (.getfield 38, 3) := by decide +kernel
theorem dX10_wasAnswered_7 : decode cX10_wasAnswered 7 = .ok (.invokevirtual 51, 3) := by decide +kernel
theorem dX10_wasAnswered_10 : decode cX10_wasAnswered 10 = .ok (.if_icmp .ge 102, 3) := by decide +kernel
theorem dX10_wasAnswered_13 : decode cX10_wasAnswered 13 = .ok (.aload_n 0, 1) := by decide +kernel
theorem dX10_wasAnswered_14 : decode cX10_wasAnswered 14 = .ok (.getfield 38, 3) := by decide +kernel
theorem dX10_wasAnswered_17 : decode cX10_wasAnswered 17 = .ok (.iload_n 2, 1) := by decide +kernel
theorem dX10_wasAnswered_18 : decode cX10_wasAnswered 18 = .ok (.invokevirtual 76, 3) := by decide +kernel
theorem dX10_wasAnswered_21 : decode cX10_wasAnswered 21 = .ok (.checkcast 80, 3) := by decide +kernel
theorem dX10_wasAnswered_24 : decode cX10_wasAnswered 24 = .ok (.astore_n 3, 1) := by decide +kernel
theorem dX10_wasAnswered_25 : decode cX10_wasAnswered 25 = .ok (.aload_n 3, 1) := by decide +kernel
theorem dX10_wasAnswered_26 : decode cX10_wasAnswered 26 = .ok (.getfield 92, 3) := by decide +kernel
theorem dX10_wasAnswered_29 : decode cX10_wasAnswered 29 = .ok (.aload_n 1, 1) := by decide +kernel
theorem dX10_wasAnswered_30 : decode cX10_wasAnswered 30 = .ok (.getfield 92, 3) := by decide +kernel
theorem dX10_wasAnswered_33 : decode cX10_wasAnswered 33 = .ok (.if_icmp .ne 73, 3) := by decide +kernel
theorem dX10_wasAnswered_36 : decode cX10_wasAnswered 36 = .ok (.aload_n 3, 1) := by decide +kernel
theorem dX10_wasAnswered_37 : decode cX10_wasAnswered 37 = .ok (.getfield 95, 3) := by decide +kernel
theorem dX10_wasAnswered_40 : decode cX10_wasAnswered 40 = .ok (.aload_n 1, 1) := by decide +kernel
theorem dX10_wasAnswered_41 : decode cX10_wasAnswered 41 = .ok (.getfield 95, 3) := by decide +kernel
theorem dX10_wasAnswered_44 : decode cX10_wasAnswered 44 = .ok (.if_icmp .ne 62, 3) := by decide +kernel
theorem dX10_wasAnswered_47 : decode cX10_wasAnswered 47 = .ok (.aload_n 3, 1) := by decide +kernel
theorem dX10_wasAnswered_48 : decode cX10_wasAnswered 48 = .ok (.getfield 85, 3) := by decide +kernel
theorem dX10_wasAnswered_51 : decode cX10_wasAnswered 51 = .ok (.aload_n 1, 1) := by decide +kernel
theorem dX10_wasAnswered_52 : decode cX10_wasAnswered 52 = .ok (.getfield 85, 3) := by decide +kernel
theorem dX10_wasAnswered_55 : decode cX10_wasAnswered 55 = .ok (.lcmp, 1) := by decide +kernel
theorem dX10_wasAnswered_56 : decode cX10_wasAnswered 56 = .ok (.ifCond .ne 50, 3) := by decide +kernel
theorem dX10_wasAnswered_59 : decode cX10_wasAnswered 59 = .ok (.aload_n 3, 1) := by decide +kernel
theorem dX10_wasAnswered_60 : decode cX10_wasAnswered 60 = .ok (.getfield 89, 3) := by decide +kernel
theorem dX10_wasAnswered_63 : decode cX10_wasAnswered 63 = .ok (.aload_n 1, 1) := by decide +kernel
theorem dX10_wasAnswered_64 : decode cX10_wasAnswered 64 = .ok (.getfield 89, 3) := by decide +kernel
theorem dX10_wasAnswered_67 : decode cX10_wasAnswered 67 = .ok (.lcmp, 1) := by decide +kernel
theorem dX10_wasAnswered_68 : decode cX10_wasAnswered 68 = .ok (.ifCond .ne 38, 3) := by decide +kernel
theorem dX10_wasAnswered_71 : decode cX10_wasAnswered 71 = .ok (.aload_n 3, 1) := by decide +kernel
theorem dX10_wasAnswered_72 : decode cX10_wasAnswered 72 = .ok (.getfield 82, 3) := by decide +kernel
theorem dX10_wasAnswered_75 : decode cX10_wasAnswered 75 = .ok (.aload_n 1, 1) := by decide +kernel
theorem dX10_wasAnswered_76 : decode cX10_wasAnswered 76 = .ok (.getfield 82, 3) := by decide +kernel
theorem dX10_wasAnswered_79 : decode cX10_wasAnswered 79 = .ok (.if_icmp .ne 27, 3) := by decide +kernel
theorem dX10_wasAnswered_82 : decode cX10_wasAnswered 82 = .ok (.aload_n 3, 1) := by decide +kernel
theorem dX10_wasAnswered_83 : decode cX10_wasAnswered 83 = .ok (.getfield 98, 3) := by decide +kernel
theorem dX10_wasAnswered_86 : decode cX10_wasAnswered 86 = .ok (.aload_n 1, 1) := by decide +kernel
theorem dX10_wasAnswered_87 : decode cX10_wasAnswered 87 = .ok (.getfield 98, 3) := by decide +kernel
theorem dX10_wasAnswered_90 : decode cX10_wasAnswered 90 = .ok (.if_icmp .ne 16, 3) := by decide +kernel
theorem dX10_wasAnswered_93 : decode cX10_wasAnswered 93 = .ok (.aload_n 3, 1) := by decide +kernel
theorem dX10_wasAnswered_94 : decode cX10_wasAnswered 94 = .ok (.getfield 101, 3) := by decide +kernel
theorem dX10_wasAnswered_97 : decode cX10_wasAnswered 97 = .ok (.aload_n 1, 1) := by decide +kernel
theorem dX10_wasAnswered_98 : decode cX10_wasAnswered 98 = .ok (.getfield 101, 3) := by decide +kernel
theorem dX10_wasAnswered_101 : decode cX10_wasAnswered 101 = .ok (.if_icmp .ne 5, 3) := by decide +kernel
theorem dX10_wasAnswered_104 : decode cX10_wasAnswered 104 = .ok (.iconst 1, 1) := by decide +kernel
theorem dX10_wasAnswered_105 : decode cX10_wasAnswered 105 = .ok (.ireturn, 1) := by decide +kernel
theorem dX10_wasAnswered_106 : decode cX10_wasAnswered 106 = .ok (.iinc 2 1, 3) := by decide +kernel
theorem dX10_wasAnswered_109 : decode cX10_wasAnswered 109 = .ok (.goto (-107), 3) := by decide +kernel
theorem dX10_wasAnswered_112 : decode cX10_wasAnswered 112 = .ok (.iconst 0, 1) := by decide +kernel
theorem dX10_wasAnswered_113 : decode cX10_wasAnswered 113 = .ok (.ireturn, 1) := by decide +kernel
theorem dX11_init_0 : decode cX11_init 0 = .ok (.aload_n 0, 1) := by decide +kernel
theorem dX11_init_1 : decode cX11_init 1 = .ok (.invokespecial 1, 3) := by decide +kernel
theorem dX11_init_4 : decode cX11_init 4 = .ok (.aload_n 0, 1) := by decide +kernel
theorem dX11_init_5 : decode cX11_init 5 = .ok (.new 7, 3) := by decide +kernel
theorem dX11_init_8 : decode cX11_init 8 = .ok (.dup, 1) := by decide +kernel
theorem dX11_init_9 : decode cX11_init 9 = .ok (.invokespecial 9, 3) := by decide +kernel
theorem dX11_init_12 : decode cX11_init 12 = .ok (.putfield 10, 3) := by decide +kernel
theorem dX11_init_15 : decode cX11_init 15 = .ok (.aload_n 0, 1) := by decide +kernel
theorem dX11_init_16 : decode cX11_init 16 = .ok (.new 16, 3) := by decide +kernel
theorem dX11_init_19 : decode cX11_init 19 = .ok (.dup, 1) := by decide +kernel
theorem dX11_init_20 : decode cX11_init 20 = .ok (.aload_n 0, 1) := by decide +kernel
theorem dX11_init_21 : decode cX11_init 21 = .ok (.getfield 10, 3) := by decide +kernel
theorem dX11_init_24 : decode cX11_init 24 = .ok (.invokespecial 18, 3) := by decide +kernel
theorem dX11_init_27 : decode cX11_init 27 = .ok (.putfield 21, 3) := by decide +kernel
theorem dX11_init_30 : decode cX11_init 30 = .ok (.aload_n 0, 1) := by decide +kernel
theorem dX11_init_31 : decode cX11_init 31 = .ok (.bipush 64, 2) := by decide +kernel
theorem dX11_init_33 : decode cX11_init 33 = .ok (.newarray .int, 2) := by decide +kernel
theorem dX11_init_35 : decode cX11_init 35 = .ok (.putfield 25, 3) := by decide +kernel
theorem dX11_init_38 : decode cX11_init 38 = .ok (.aload_n 0, 1) := by decide +kernel
theorem dX11_init_39 : decode cX11_init 39 = .ok (.iconst 0, 1) := by decide +kernel
theorem dX11_init_40 : decode cX11_init 40 = .ok (.putfield 29, 3) := by decide +kernel
theorem dX11_init_43 : decode cX11_init 43 = .ok (.return_, 1) := by decide +kernel
theorem dX11_card_0 : decode cX11_card 0 = .ok (.aload_n 0, 1) := by decide +kernel
theorem dX11_card_1 : decode cX11_card 1 = .ok (.getfield 10, 3) := by decide +kernel
theorem dX11_card_4 : decode cX11_card 4 = .ok (.getfield 33, 3) := by decide +kernel
theorem dX11_card_7 : decode cX11_card 7 = .ok (.invokevirtual 37, 3) := by decide +kernel
theorem dX11_card_10 : decode cX11_card 10 = .ok (.istore 7, 2) := by decide +kernel
theorem dX11_card_12 : decode cX11_card 12 = .ok (.iload 7, 2) := by decide +kernel
theorem dX11_card_14 : decode cX11_card 14 = .ok (.bipush 16, 2) := by decide +kernel
theorem dX11_card_16 : decode cX11_card 16 = .ok (.if_icmp .ge 26, 3) := by decide +kernel
theorem dX11_card_19 : decode cX11_card 19 = .ok (.iload_n 1, 1) := by decide +kernel
theorem dX11_card_20 : decode cX11_card 20 = .ok (.i2l, 1) := by decide +kernel
theorem dX11_card_21 : decode cX11_card 21 = .ok (.lconst 0, 1) := by decide +kernel
theorem dX11_card_22 : decode cX11_card 22 = .ok (.ldc2_w 43, 3) := by decide +kernel
theorem dX11_card_25 : decode cX11_card 25 = .ok (.invokestatic 45, 3) := by decide +kernel
theorem dX11_card_28 : decode cX11_card 28 = .ok (.ifCond .eq 14, 3) := by decide +kernel
theorem dX11_card_31 : decode cX11_card 31 = .ok (.lload_n 2, 1) := by decide +kernel
theorem dX11_card_32 : decode cX11_card 32 = .ok (.lconst 0, 1) := by decide +kernel
theorem dX11_card_33 : decode cX11_card 33 = .ok (.ldc2_w 49, 3) := by decide +kernel
theorem dX11_card_36 : decode cX11_card 36 = .ok (.invokestatic 45, 3) := by decide +kernel
theorem dX11_card_39 : decode cX11_card 39 = .ok (.ifCond .ne 5, 3) := by decide +kernel
theorem dX11_card_42 : decode cX11_card 42 = .ok (.iconst (-1), 1) := by decide +kernel
theorem dX11_card_43 : decode cX11_card 43 = .ok (.ireturn, 1) := by decide +kernel
theorem dX11_card_44 : decode cX11_card 44 = .ok (.iload 4, 2) := by decide +kernel
theorem dX11_card_46 : decode cX11_card 46 = .ok (.i2l, 1) := by decide +kernel
theorem dX11_card_47 : decode cX11_card 47 = .ok (.lconst 0, 1) := by decide +kernel
theorem dX11_card_48 : decode cX11_card 48 = .ok (.ldc2_w 51, 3) := by decide +kernel
theorem dX11_card_51 : decode cX11_card 51 = .ok (.invokestatic 45, 3) := by decide +kernel
theorem dX11_card_54 : decode cX11_card 54 = .ok (.ifCond .eq 15, 3) := by decide +kernel
theorem dX11_card_57 : decode cX11_card 57 = .ok (.lload 5, 2) := by decide +kernel
theorem dX11_card_59 : decode cX11_card 59 = .ok (.lconst 0, 1) := by decide +kernel
theorem dX11_card_60 : decode cX11_card 60 = .ok (.ldc2_w 53, 3) := by decide +kernel
theorem dX11_card_63 : decode cX11_card 63 = .ok (.invokestatic 45, 3) := by decide +kernel
theorem dX11_card_66 : decode cX11_card 66 = .ok (.ifCond .ne 5, 3) := by decide +kernel
theorem dX11_card_69 : decode cX11_card 69 = .ok (.iconst (-1), 1) := by decide +kernel
theorem dX11_card_70 : decode cX11_card 70 = .ok (.ireturn, 1) := by decide +kernel
theorem dX11_card_71 : decode cX11_card 71 = .ok (.aload_n 0, 1) := by decide +kernel
theorem dX11_card_72 : decode cX11_card 72 = .ok (.getfield 10, 3) := by decide +kernel
theorem dX11_card_75 : decode cX11_card 75 = .ok (.getfield 33, 3) := by decide +kernel
theorem dX11_card_78 : decode cX11_card 78 = .ok (.new 55, 3) := by decide +kernel
theorem dX11_card_81 : decode cX11_card 81 = .ok (.dup, 1) := by decide +kernel
theorem dX11_card_82 : decode cX11_card 82 = .ok (.aload_n 0, 1) := by decide +kernel
theorem dX11_card_83 : decode cX11_card 83 = .ok (.getfield 10, 3) := by decide +kernel
theorem dX11_card_86 : decode cX11_card 86 = .ok (.iload 7, 2) := by decide +kernel
theorem dX11_card_88 : decode cX11_card 88 = .ok (.iload_n 1, 1) := by decide +kernel
theorem dX11_card_89 : decode cX11_card 89 = .ok (.lload_n 2, 1) := by decide +kernel
theorem dX11_card_90 : decode cX11_card 90 = .ok (.iload 4, 2) := by decide +kernel
theorem dX11_card_92 : decode cX11_card 92 = .ok (.invokespecial 57, 3) := by decide +kernel
theorem dX11_card_95 : decode cX11_card 95 = .ok (.invokevirtual 60, 3) := by decide +kernel
theorem dX11_card_98 : decode cX11_card 98 = .ok (.pop, 1) := by decide +kernel
theorem dX11_card_99 : decode cX11_card 99 = .ok (.aload_n 0, 1) := by decide +kernel
theorem dX11_card_100 : decode cX11_card 100 = .ok (.getfield 21, 3) := by decide +kernel
theorem dX11_card_103 : decode cX11_card 103 = .ok (.getfield 64, 3) := by decide +kernel
theorem dX11_card_106 : decode cX11_card 106 = .ok (.new 67, 3) := by decide +kernel
theorem dX11_card_109 : decode cX11_card 109 = .ok (.dup, 1) := by decide +kernel
theorem dX11_card_110 : decode cX11_card 110 = .ok (.lload 5, 2) := by decide +kernel
theorem dX11_card_112 : decode cX11_card 112 = .ok (.invokespecial 69, 3) := by decide +kernel
theorem dX11_card_115 : decode cX11_card 115 = .ok (.invokevirtual 60, 3) := by decide +kernel
theorem dX11_card_118 : decode cX11_card 118 = .ok (.pop, 1) := by decide +kernel
theorem dX11_card_119 : decode cX11_card 119 = .ok (.iload 7, 2) := by decide +kernel
theorem dX11_card_121 : decode cX11_card 121 = .ok (.ireturn, 1) := by decide +kernel
theorem dX11_terminal_0 : decode cX11_terminal 0 = .ok (.aload_n 0, 1) := by decide +kernel
theorem dX11_terminal_1 : decode cX11_terminal 1 = .ok (.getfield 10, 3) := by decide +kernel
theorem dX11_terminal_4 : decode cX11_terminal 4 = .ok (.getfield 72, 3) := by decide +kernel
theorem dX11_terminal_7 : decode cX11_terminal 7 = .ok (.invokevirtual 37, 3) := by decide +kernel
theorem dX11_terminal_10 : decode cX11_terminal 10 = .ok (.istore 5, 2) := by decide +kernel
theorem dX11_terminal_12 : decode cX11_terminal 12 = .ok (.iload 5, 2) := by decide +kernel
theorem dX11_terminal_14 : decode cX11_terminal 14 = .ok (.bipush 8, 2) := by decide +kernel
theorem dX11_terminal_16 : decode cX11_terminal 16 = .ok (.if_icmp .ge 25, 3) := by decide +kernel
theorem dX11_terminal_19 : decode cX11_terminal 19 = .ok (.lload_n 1, 1) := by decide +kernel
theorem dX11_terminal_20 : decode cX11_terminal 20 = .ok (.lconst 0, 1) := by decide +kernel
theorem dX11_terminal_21 : decode cX11_terminal 21 = .ok (.ldc2_w 49, 3) := by decide +kernel
theorem dX11_terminal_24 : decode cX11_terminal 24 = .ok (.invokestatic 45, 3) := by decide +kernel
theorem dX11_terminal_27 : decode cX11_terminal 27 = .ok (.ifCond .eq 14, 3) := by decide +kernel
theorem dX11_terminal_30 : decode cX11_terminal 30 = .ok (.lload_n 3, 1) := by decide +kernel
theorem dX11_terminal_31 : decode cX11_terminal 31 = .ok (.lconst 0, 1) := by decide +kernel
theorem dX11_terminal_32 : decode cX11_terminal 32 = .ok (.ldc2_w 49, 3) := by decide +kernel
theorem dX11_terminal_35 : decode cX11_terminal 35 = .ok (.invokestatic 45, 3) := by decide +kernel
theorem dX11_terminal_38 : decode cX11_terminal 38 = .ok (.ifCond .ne 5, 3) := by decide +kernel
theorem dX11_terminal_41 : decode cX11_terminal 41 = .ok (.iconst (-1), 1) := by decide +kernel
theorem dX11_terminal_42 : decode cX11_terminal 42 = .ok (.ireturn, 1) := by decide +kernel
theorem dX11_terminal_43 : decode cX11_terminal 43 = .ok (.aload_n 0, 1) := by decide +kernel
theorem dX11_terminal_44 : decode cX11_terminal 44 = .ok (.getfield 10, 3) := by decide +kernel
theorem dX11_terminal_47 : decode cX11_terminal 47 = .ok (.getfield 72, 3) := by decide +kernel
theorem dX11_terminal_50 : decode cX11_terminal 50 = .ok (.new 75, 3) := by decide +kernel
theorem dX11_terminal_53 : decode cX11_terminal 53 = .ok (.dup, 1) := by decide +kernel
theorem dX11_terminal_54 : decode cX11_terminal 54 = .ok (.aload_n 0, 1) := by decide +kernel
theorem dX11_terminal_55 : decode cX11_terminal 55 = .ok (.getfield 10, 3) := by decide +kernel
theorem dX11_terminal_58 : decode cX11_terminal 58 = .ok (.iload 5, 2) := by decide +kernel
theorem dX11_terminal_60 : decode cX11_terminal 60 = .ok (.lload_n 1, 1) := by decide +kernel
theorem dX11_terminal_61 : decode cX11_terminal 61 = .ok (.lload_n 3, 1) := by decide +kernel
theorem dX11_terminal_62 : decode cX11_terminal 62 = .ok (.invokespecial 77, 3) := by decide +kernel
theorem dX11_terminal_65 : decode cX11_terminal 65 = .ok (.invokevirtual 60, 3) := by decide +kernel
theorem dX11_terminal_68 : decode cX11_terminal 68 = .ok (.pop, 1) := by decide +kernel
theorem dX11_terminal_69 : decode cX11_terminal 69 = .ok (.iload 5, 2) := by decide +kernel
theorem dX11_terminal_71 : decode cX11_terminal 71 = .ok (.ireturn, 1) := by decide +kernel
theorem dX11_purchase_0 : decode cX11_purchase 0 = .ok (.aload_n 0, 1) := by decide +kernel
theorem dX11_purchase_1 : decode cX11_purchase 1 = .ok (.getfield 10, 3) := by decide +kernel
theorem dX11_purchase_4 : decode cX11_purchase 4 = .ok (.iload_n 1, 1) := by decide +kernel
theorem dX11_purchase_5 : decode cX11_purchase 5 = .ok (.invokevirtual 80, 3) := by decide +kernel
theorem dX11_purchase_8 : decode cX11_purchase 8 = .ok (.ifCond .eq 14, 3) := by decide +kernel
theorem dX11_purchase_11 : decode cX11_purchase 11 = .ok (.aload_n 0, 1) := by decide +kernel
theorem dX11_purchase_12 : decode cX11_purchase 12 = .ok (.getfield 10, 3) := by decide +kernel
theorem dX11_purchase_15 : decode cX11_purchase 15 = .ok (.iload_n 2, 1) := by decide +kernel
theorem dX11_purchase_16 : decode cX11_purchase 16 = .ok (.invokevirtual 84, 3) := by decide +kernel
theorem dX11_purchase_19 : decode cX11_purchase 19 = .ok (.ifCond .ne 5, 3) := by decide +kernel
theorem dX11_purchase_22 : decode cX11_purchase 22 = .ok (.iconst (-1), 1) := by decide +kernel
theorem dX11_purchase_23 : decode cX11_purchase 23 = .ok (.ireturn, 1) := by decide +kernel
theorem dX11_purchase_24 : decode cX11_purchase 24 = .ok (.lload_n 3, 1) := by decide +kernel
theorem dX11_purchase_25 : decode cX11_purchase 25 = .ok (.lconst 1, 1) := by decide +kernel
theorem dX11_purchase_26 : decode cX11_purchase 26 = .ok (.ldc2_w 49, 3) := by decide +kernel
theorem dX11_purchase_29 : decode cX11_purchase 29 = .ok (.invokestatic 45, 3) := by decide +kernel
theorem dX11_purchase_32 : decode cX11_purchase 32 = .ok (.ifCond .eq 16, 3) := by decide +kernel
theorem dX11_purchase_35 : decode cX11_purchase 35 = .ok (.iload 5, 2) := by decide +kernel
theorem dX11_purchase_37 : decode cX11_purchase 37 = .ok (.i2l, 1) := by decide +kernel
theorem dX11_purchase_38 : decode cX11_purchase 38 = .ok (.lconst 0, 1) := by decide +kernel
theorem dX11_purchase_39 : decode cX11_purchase 39 = .ok (.ldc2_w 43, 3) := by decide +kernel
theorem dX11_purchase_42 : decode cX11_purchase 42 = .ok (.invokestatic 45, 3) := by decide +kernel
theorem dX11_purchase_45 : decode cX11_purchase 45 = .ok (.ifCond .ne 5, 3) := by decide +kernel
theorem dX11_purchase_48 : decode cX11_purchase 48 = .ok (.iconst (-1), 1) := by decide +kernel
theorem dX11_purchase_49 : decode cX11_purchase 49 = .ok (.ireturn, 1) := by decide +kernel
theorem dX11_purchase_50 : decode cX11_purchase 50 = .ok (.aload_n 0, 1) := by decide +kernel
theorem dX11_purchase_51 : decode cX11_purchase 51 = .ok (.getfield 10, 3) := by decide +kernel
theorem dX11_purchase_54 : decode cX11_purchase 54 = .ok (.getfield 72, 3) := by decide +kernel
theorem dX11_purchase_57 : decode cX11_purchase 57 = .ok (.iload_n 1, 1) := by decide +kernel
theorem dX11_purchase_58 : decode cX11_purchase 58 = .ok (.invokevirtual 87, 3) := by decide +kernel
theorem dX11_purchase_61 : decode cX11_purchase 61 = .ok (.checkcast 75, 3) := by decide +kernel
theorem dX11_purchase_64 : decode cX11_purchase 64 = .ok (.iload_n 2, 1) := by decide +kernel
theorem dX11_purchase_65 : decode cX11_purchase 65 = .ok (.lload_n 3, 1) := by decide +kernel
theorem dX11_purchase_66 : decode cX11_purchase 66 = .ok (.iload 5, 2) := by decide +kernel
theorem dX11_purchase_68 : decode cX11_purchase 68 = .ok (.invokevirtual 91, 3) := by decide +kernel
theorem dX11_purchase_71 : decode cX11_purchase 71 = .ok (.ireturn, 1) := by decide +kernel
theorem dX11_deliver_0 : decode cX11_deliver 0 = .ok (.aload_n 0, 1) := by decide +kernel
theorem dX11_deliver_1 : decode cX11_deliver 1 = .ok (.getfield 10, 3) := by decide +kernel
theorem dX11_deliver_4 : decode cX11_deliver 4 = .ok (.getfield 95, 3) := by decide +kernel
theorem dX11_deliver_7 : decode cX11_deliver 7 = .ok (.iload_n 1, 1) := by decide +kernel
theorem dX11_deliver_8 : decode cX11_deliver 8 = .ok (.invokevirtual 99, 3) := by decide +kernel
theorem dX11_deliver_11 : decode cX11_deliver 11 = .ok (.astore_n 2, 1) := by decide +kernel
theorem dX11_deliver_12 : decode cX11_deliver 12 = .ok (.aload_n 2, 1) := by decide +kernel
theorem dX11_deliver_13 : decode cX11_deliver 13 = .ok (.ifnonnull 5, 3) := by decide +kernel
theorem dX11_deliver_16 : decode cX11_deliver 16 = .ok (.iconst (-1), 1) := by decide +kernel
theorem dX11_deliver_17 : decode cX11_deliver 17 = .ok (.ireturn, 1) := by decide +kernel
theorem dX11_deliver_18 : decode cX11_deliver 18 = .ok (.aload_n 0, 1) := by decide +kernel
theorem dX11_deliver_19 : decode cX11_deliver 19 = .ok (.getfield 10, 3) := by decide +kernel
theorem dX11_deliver_22 : decode cX11_deliver 22 = .ok (.getfield 105, 3) := by decide +kernel
theorem dX11_deliver_25 : decode cX11_deliver 25 = .ok (.astore_n 3, 1) := by decide +kernel
theorem dX11_deliver_26 : decode cX11_deliver 26 = .ok (.aload_n 2, 1) := by decide +kernel
theorem dX11_deliver_27 : decode cX11_deliver 27 = .ok (.aload_n 3, 1) := by decide +kernel
theorem dX11_deliver_28 : decode cX11_deliver 28 = .ok (.invokevirtual 109, 3) := by decide +kernel
theorem dX11_deliver_31 : decode cX11_deliver 31 = .ok (.ifCond .ne 5, 3) := by decide +kernel
theorem dX11_deliver_34 : decode cX11_deliver 34 = .ok (.iconst 0, 1) := by decide +kernel
theorem dX11_deliver_35 : decode cX11_deliver 35 = .ok (.ireturn, 1) := by decide +kernel
theorem dX11_deliver_36 : decode cX11_deliver 36 = .ok (.aload_n 2, 1) := by decide +kernel
theorem dX11_deliver_37 : decode cX11_deliver 37 = .ok (.getfield 115, 3) := by decide +kernel
theorem dX11_deliver_40 : decode cX11_deliver 40 = .ok (.iconst 2, 1) := by decide +kernel
theorem dX11_deliver_41 : decode cX11_deliver 41 = .ok (.if_icmp .ne 16, 3) := by decide +kernel
theorem dX11_deliver_44 : decode cX11_deliver 44 = .ok (.aload_n 0, 1) := by decide +kernel
theorem dX11_deliver_45 : decode cX11_deliver 45 = .ok (.getfield 21, 3) := by decide +kernel
theorem dX11_deliver_48 : decode cX11_deliver 48 = .ok (.aload_n 3, 1) := by decide +kernel
theorem dX11_deliver_49 : decode cX11_deliver 49 = .ok (.invokevirtual 118, 3) := by decide +kernel
theorem dX11_deliver_52 : decode cX11_deliver 52 = .ok (.istore 4, 2) := by decide +kernel
theorem dX11_deliver_54 : decode cX11_deliver 54 = .ok (.goto 104, 3) := by decide +kernel
theorem dX11_deliver_57 : decode cX11_deliver 57 = .ok (.aload_n 2, 1) := by decide +kernel
theorem dX11_deliver_58 : decode cX11_deliver 58 = .ok (.getfield 115, 3) := by decide +kernel
theorem dX11_deliver_61 : decode cX11_deliver 61 = .ok (.iconst 1, 1) := by decide +kernel
theorem dX11_deliver_62 : decode cX11_deliver 62 = .ok (.if_icmp .ne 51, 3) := by decide +kernel
theorem dX11_deliver_65 : decode cX11_deliver 65 = .ok (.aload_n 0, 1) := by decide +kernel
theorem dX11_deliver_66 : decode cX11_deliver 66 = .ok (.getfield 10, 3) := by decide +kernel
theorem dX11_deliver_69 : decode cX11_deliver 69 = .ok (.aload_n 2, 1) := by decide +kernel
theorem dX11_deliver_70 : decode cX11_deliver 70 = .ok (.getfield 121, 3) := by decide +kernel
theorem dX11_deliver_73 : decode cX11_deliver 73 = .ok (.invokevirtual 80, 3) := by decide +kernel
theorem dX11_deliver_76 : decode cX11_deliver 76 = .ok (.ifCond .eq 31, 3) := by decide +kernel
theorem dX11_deliver_79 : decode cX11_deliver 79 = .ok (.aload_n 0, 1) := by decide +kernel
theorem dX11_deliver_80 : decode cX11_deliver 80 = .ok (.getfield 10, 3) := by decide +kernel
theorem dX11_deliver_83 : decode cX11_deliver 83 = .ok (.getfield 72, 3) := by decide +kernel
theorem dX11_deliver_86 : decode cX11_deliver 86 = .ok (.aload_n 2, 1) := by decide +kernel
theorem dX11_deliver_87 : decode cX11_deliver 87 = .ok (.getfield 121, 3) := by decide +kernel
theorem dX11_deliver_90 : decode cX11_deliver 90 = .ok (.invokevirtual 87, 3) := by decide +kernel
theorem dX11_deliver_93 : decode cX11_deliver 93 = .ok (.checkcast 75, 3) := by decide +kernel
theorem dX11_deliver_96 : decode cX11_deliver 96 = .ok (.aload_n 3, 1) := by decide +kernel
theorem dX11_deliver_97 : decode cX11_deliver 97 = .ok (.invokevirtual 124, 3) := by decide +kernel
theorem dX11_deliver_100 : decode cX11_deliver 100 = .ok (.ifCond .eq 7, 3) := by decide +kernel
theorem dX11_deliver_103 : decode cX11_deliver 103 = .ok (.iconst 1, 1) := by decide +kernel
theorem dX11_deliver_104 : decode cX11_deliver 104 = .ok (.goto 4, 3) := by decide +kernel
theorem dX11_deliver_107 : decode cX11_deliver 107 = .ok (.iconst 0, 1) := by decide +kernel
theorem dX11_deliver_108 : decode cX11_deliver 108 = .ok (.istore 4, 2) := by decide +kernel
theorem dX11_deliver_110 : decode cX11_deliver 110 = .ok (.goto 48, 3) := by decide +kernel
theorem dX11_deliver_113 : decode cX11_deliver 113 = .ok (.aload_n 0, 1) := by decide +kernel
theorem dX11_deliver_114 : decode cX11_deliver 114 = .ok (.getfield 10, 3) := by decide +kernel
theorem dX11_deliver_117 : decode cX11_deliver 117 = .ok (.aload_n 2, 1) := by decide +kernel
theorem dX11_deliver_118 : decode cX11_deliver 118 = .ok (.getfield 121, 3) := by decide +kernel
theorem dX11_deliver_121 : decode cX11_deliver 121 = .ok (.invokevirtual 84, 3) := by decide +kernel
theorem dX11_deliver_124 : decode cX11_deliver 124 = .ok (.ifCond .eq 31, 3) := by decide +kernel
theorem dX11_deliver_127 : decode cX11_deliver 127 = .ok (.aload_n 0, 1) := by decide +kernel
theorem dX11_deliver_128 : decode cX11_deliver 128 = .ok (.getfield 10, 3) := by decide +kernel
theorem dX11_deliver_131 : decode cX11_deliver 131 = .ok (.getfield 33, 3) := by decide +kernel
theorem dX11_deliver_134 : decode cX11_deliver 134 = .ok (.aload_n 2, 1) := by decide +kernel
theorem dX11_deliver_135 : decode cX11_deliver 135 = .ok (.getfield 121, 3) := by decide +kernel
theorem dX11_deliver_138 : decode cX11_deliver 138 = .ok (.invokevirtual 87, 3) := by decide +kernel
theorem dX11_deliver_141 : decode cX11_deliver 141 = .ok (.checkcast 55, 3) := by decide +kernel
theorem dX11_deliver_144 : decode cX11_deliver 144 = .ok (.aload_n 3, 1) := by decide +kernel
theorem dX11_deliver_145 : decode cX11_deliver 145 = .ok (.invokevirtual 125, 3) := by decide +kernel
theorem dX11_deliver_148 : decode cX11_deliver 148 = .ok (.ifCond .eq 7, 3) := by decide +kernel
theorem dX11_deliver_151 : decode cX11_deliver 151 = .ok (.iconst 1, 1) := by decide +kernel
theorem dX11_deliver_152 : decode cX11_deliver 152 = .ok (.goto 4, 3) := by decide +kernel
theorem dX11_deliver_155 : decode cX11_deliver 155 = .ok (.iconst 0, 1) := by decide +kernel
theorem dX11_deliver_156 : decode cX11_deliver 156 = .ok (.istore 4, 2) := by decide +kernel
theorem dX11_deliver_158 : decode cX11_deliver 158 = .ok (.iload 4, 2) := by decide +kernel
theorem dX11_deliver_160 : decode cX11_deliver 160 = .ok (.ifCond .eq 7, 3) := by decide +kernel
theorem dX11_deliver_163 : decode cX11_deliver 163 = .ok (.iconst 1, 1) := by decide +kernel
theorem dX11_deliver_164 : decode cX11_deliver 164 = .ok (.goto 4, 3) := by decide +kernel
theorem dX11_deliver_167 : decode cX11_deliver 167 = .ok (.iconst 0, 1) := by decide +kernel
theorem dX11_deliver_168 : decode cX11_deliver 168 = .ok (.ireturn, 1) := by decide +kernel
theorem dX11_alter_0 : decode cX11_alter 0 = .ok (.aload_n 0, 1) := by decide +kernel
theorem dX11_alter_1 : decode cX11_alter 1 = .ok (.getfield 10, 3) := by decide +kernel
theorem dX11_alter_4 : decode cX11_alter 4 = .ok (.getfield 95, 3) := by decide +kernel
theorem dX11_alter_7 : decode cX11_alter 7 = .ok (.iload_n 1, 1) := by decide +kernel
theorem dX11_alter_8 : decode cX11_alter 8 = .ok (.invokevirtual 126, 3) := by decide +kernel
theorem dX11_alter_11 : decode cX11_alter 11 = .ok (.astore 4, 2) := by decide +kernel
theorem dX11_alter_13 : decode cX11_alter 13 = .ok (.aload 4, 2) := by decide +kernel
theorem dX11_alter_15 : decode cX11_alter 15 = .ok (.ifnull 24, 3) := by decide +kernel
theorem dX11_alter_18 : decode cX11_alter 18 = .ok (.aload 4, 2) := by decide +kernel
theorem dX11_alter_20 : decode cX11_alter 20 = .ok (.iload_n 2, 1) := by decide +kernel
theorem dX11_alter_21 : decode cX11_alter 21 = .ok (.invokevirtual 128, 3) := by decide +kernel
theorem dX11_alter_24 : decode cX11_alter 24 = .ok (.ifCond .eq 15, 3) := by decide +kernel
theorem dX11_alter_27 : decode cX11_alter 27 = .ok (.iload_n 3, 1) := by decide +kernel
theorem dX11_alter_28 : decode cX11_alter 28 = .ok (.i2l, 1) := by decide +kernel
theorem dX11_alter_29 : decode cX11_alter 29 = .ok (.lconst 0, 1) := by decide +kernel
theorem dX11_alter_30 : decode cX11_alter 30 = .ok (.ldc2_w 131, 3) := by decide +kernel
theorem dX11_alter_33 : decode cX11_alter 33 = .ok (.invokestatic 45, 3) := by decide +kernel
theorem dX11_alter_36 : decode cX11_alter 36 = .ok (.ifCond .ne 5, 3) := by decide +kernel
theorem dX11_alter_39 : decode cX11_alter 39 = .ok (.iconst 0, 1) := by decide +kernel
theorem dX11_alter_40 : decode cX11_alter 40 = .ok (.ireturn, 1) := by decide +kernel
theorem dX11_alter_41 : decode cX11_alter 41 = .ok (.aload 4, 2) := by decide +kernel
theorem dX11_alter_43 : decode cX11_alter 43 = .ok (.getfield 133, 3) := by decide +kernel
theorem dX11_alter_46 : decode cX11_alter 46 = .ok (.iload_n 2, 1) := by decide +kernel
theorem dX11_alter_47 : decode cX11_alter 47 = .ok (.iload_n 3, 1) := by decide +kernel
theorem dX11_alter_48 : decode cX11_alter 48 = .ok (.iastore, 1) := by decide +kernel
theorem dX11_alter_49 : decode cX11_alter 49 = .ok (.iconst 1, 1) := by decide +kernel
theorem dX11_alter_50 : decode cX11_alter 50 = .ok (.ireturn, 1) := by decide +kernel
theorem dX11_drop_0 : decode cX11_drop 0 = .ok (.aload_n 0, 1) := by decide +kernel
theorem dX11_drop_1 : decode cX11_drop 1 = .ok (.getfield 10, 3) := by decide +kernel
theorem dX11_drop_4 : decode cX11_drop 4 = .ok (.getfield 95, 3) := by decide +kernel
theorem dX11_drop_7 : decode cX11_drop 7 = .ok (.iload_n 1, 1) := by decide +kernel
theorem dX11_drop_8 : decode cX11_drop 8 = .ok (.invokevirtual 99, 3) := by decide +kernel
theorem dX11_drop_11 : decode cX11_drop 11 = .ok (.ifnull 7, 3) := by decide +kernel
theorem dX11_drop_14 : decode cX11_drop 14 = .ok (.iconst 1, 1) := by decide +kernel
theorem dX11_drop_15 : decode cX11_drop 15 = .ok (.goto 4, 3) := by decide +kernel
theorem dX11_drop_18 : decode cX11_drop 18 = .ok (.iconst 0, 1) := by decide +kernel
theorem dX11_drop_19 : decode cX11_drop 19 = .ok (.ireturn, 1) := by decide +kernel
theorem dX11_again_0 : decode cX11_again 0 = .ok (.aload_n 0, 1) := by decide +kernel
theorem dX11_again_1 : decode cX11_again 1 = .ok (.getfield 10, 3) := by decide +kernel
theorem dX11_again_4 : decode cX11_again 4 = .ok (.getfield 95, 3) := by decide +kernel
theorem dX11_again_7 : decode cX11_again 7 = .ok (.iload_n 1, 1) := by decide +kernel
theorem dX11_again_8 : decode cX11_again 8 = .ok (.invokevirtual 126, 3) := by decide +kernel
theorem dX11_again_11 : decode cX11_again 11 = .ok (.astore_n 2, 1) := by decide +kernel
theorem dX11_again_12 : decode cX11_again 12 = .ok (.aload_n 2, 1) := by decide +kernel
theorem dX11_again_13 : decode cX11_again 13 = .ok (.ifnonnull 5, 3) := by decide +kernel
theorem dX11_again_16 : decode cX11_again 16 = .ok (.iconst 0, 1) := by decide +kernel
theorem dX11_again_17 : decode cX11_again 17 = .ok (.ireturn, 1) := by decide +kernel
theorem dX11_again_18 : decode cX11_again 18 = .ok (.aload_n 0, 1) := by decide +kernel
theorem dX11_again_19 : decode cX11_again 19 = .ok (.getfield 10, 3) := by decide +kernel
theorem dX11_again_22 : decode cX11_again 22 = .ok (.getfield 95, 3) := by decide +kernel
theorem dX11_again_25 : decode cX11_again 25 = .ok (.aload_n 2, 1) := by decide +kernel
theorem dX11_again_26 : decode cX11_again 26 = .ok (.getfield 136, 3) := by decide +kernel
theorem dX11_again_29 : decode cX11_again 29 = .ok (.aload_n 2, 1) := by decide +kernel
theorem dX11_again_30 : decode cX11_again 30 = .ok (.getfield 139, 3) := by decide +kernel
theorem dX11_again_33 : decode cX11_again 33 = .ok (.aload_n 2, 1) := by decide +kernel
theorem dX11_again_34 : decode cX11_again 34 = .ok (.getfield 115, 3) := by decide +kernel
theorem dX11_again_37 : decode cX11_again 37 = .ok (.aload_n 2, 1) := by decide +kernel
theorem dX11_again_38 : decode cX11_again 38 = .ok (.getfield 121, 3) := by decide +kernel
theorem dX11_again_41 : decode cX11_again 41 = .ok (.invokevirtual 142, 3) := by decide +kernel
theorem dX11_again_44 : decode cX11_again 44 = .ok (.astore_n 3, 1) := by decide +kernel
theorem dX11_again_45 : decode cX11_again 45 = .ok (.aload_n 3, 1) := by decide +kernel
theorem dX11_again_46 : decode cX11_again 46 = .ok (.ifnonnull 5, 3) := by decide +kernel
theorem dX11_again_49 : decode cX11_again 49 = .ok (.iconst 0, 1) := by decide +kernel
theorem dX11_again_50 : decode cX11_again 50 = .ok (.ireturn, 1) := by decide +kernel
theorem dX11_again_51 : decode cX11_again 51 = .ok (.aload_n 3, 1) := by decide +kernel
theorem dX11_again_52 : decode cX11_again 52 = .ok (.aload_n 2, 1) := by decide +kernel
theorem dX11_again_53 : decode cX11_again 53 = .ok (.getfield 133, 3) := by decide +kernel
theorem dX11_again_56 : decode cX11_again 56 = .ok (.aload_n 2, 1) := by decide +kernel
theorem dX11_again_57 : decode cX11_again 57 = .ok (.getfield 145, 3) := by decide +kernel
theorem dX11_again_60 : decode cX11_again 60 = .ok (.invokevirtual 147, 3) := by decide +kernel
theorem dX11_again_63 : decode cX11_again 63 = .ok (.iconst 1, 1) := by decide +kernel
theorem dX11_again_64 : decode cX11_again 64 = .ok (.ireturn, 1) := by decide +kernel
theorem dX11_put_0 : decode cX11_put 0 = .ok (.aload_n 0, 1) := by decide +kernel
theorem dX11_put_1 : decode cX11_put 1 = .ok (.getfield 29, 3) := by decide +kernel
theorem dX11_put_4 : decode cX11_put 4 = .ok (.bipush 64, 2) := by decide +kernel
theorem dX11_put_6 : decode cX11_put 6 = .ok (.if_icmp .ge 15, 3) := by decide +kernel
theorem dX11_put_9 : decode cX11_put 9 = .ok (.iload_n 1, 1) := by decide +kernel
theorem dX11_put_10 : decode cX11_put 10 = .ok (.i2l, 1) := by decide +kernel
theorem dX11_put_11 : decode cX11_put 11 = .ok (.lconst 0, 1) := by decide +kernel
theorem dX11_put_12 : decode cX11_put 12 = .ok (.ldc2_w 131, 3) := by decide +kernel
theorem dX11_put_15 : decode cX11_put 15 = .ok (.invokestatic 45, 3) := by decide +kernel
theorem dX11_put_18 : decode cX11_put 18 = .ok (.ifCond .ne 5, 3) := by decide +kernel
theorem dX11_put_21 : decode cX11_put 21 = .ok (.iconst (-1), 1) := by decide +kernel
theorem dX11_put_22 : decode cX11_put 22 = .ok (.ireturn, 1) := by decide +kernel
theorem dX11_put_23 : decode cX11_put 23 = .ok (.aload_n 0, 1) := by decide +kernel
theorem dX11_put_24 : decode cX11_put 24 = .ok (.getfield 25, 3) := by decide +kernel
theorem dX11_put_27 : decode cX11_put 27 = .ok (.aload_n 0, 1) := by decide +kernel
theorem dX11_put_28 : decode cX11_put 28 = .ok (.getfield 29, 3) := by decide +kernel
theorem dX11_put_31 : decode cX11_put 31 = .ok (.iload_n 1, 1) := by decide +kernel
theorem dX11_put_32 : decode cX11_put 32 = .ok (.iastore, 1) := by decide +kernel
theorem dX11_put_33 : decode cX11_put 33 = .ok (.aload_n 0, 1) := by decide +kernel
theorem dX11_put_34 : decode cX11_put 34 = .ok (.dup, 1) := by decide +kernel
theorem dX11_put_35 : decode cX11_put 35 = .ok (.getfield 29, 3) := by decide +kernel
theorem dX11_put_38 : decode cX11_put 38 = .ok (.iconst 1, 1) := by decide +kernel
theorem dX11_put_39 : decode cX11_put 39 = .ok (.iadd, 1) := by decide +kernel
theorem dX11_put_40 : decode cX11_put 40 = .ok (.putfield 29, 3) := by decide +kernel
theorem dX11_put_43 : decode cX11_put 43 = .ok (.aload_n 0, 1) := by decide +kernel
theorem dX11_put_44 : decode cX11_put 44 = .ok (.getfield 29, 3) := by decide +kernel
theorem dX11_put_47 : decode cX11_put 47 = .ok (.ireturn, 1) := by decide +kernel
theorem dX11_inject_0 : decode cX11_inject 0 = .ok (.aload_n 0, 1) := by decide +kernel
theorem dX11_inject_1 : decode cX11_inject 1 = .ok (.getfield 29, 3) := by decide +kernel
theorem dX11_inject_4 : decode cX11_inject 4 = .ok (.ifCond .eq 28, 3) := by decide +kernel
theorem dX11_inject_7 : decode cX11_inject 7 = .ok (.aload_n 0, 1) := by decide +kernel
theorem dX11_inject_8 : decode cX11_inject 8 = .ok (.getfield 10, 3) := by decide +kernel
theorem dX11_inject_11 : decode cX11_inject 11 = .ok (.iload_n 1, 1) := by decide +kernel
theorem dX11_inject_12 : decode cX11_inject 12 = .ok (.iload_n 2, 1) := by decide +kernel
theorem dX11_inject_13 : decode cX11_inject 13 = .ok (.invokevirtual 151, 3) := by decide +kernel
theorem dX11_inject_16 : decode cX11_inject 16 = .ok (.ifCond .eq 16, 3) := by decide +kernel
theorem dX11_inject_19 : decode cX11_inject 19 = .ok (.aload_n 0, 1) := by decide +kernel
theorem dX11_inject_20 : decode cX11_inject 20 = .ok (.getfield 10, 3) := by decide +kernel
theorem dX11_inject_23 : decode cX11_inject 23 = .ok (.iload_n 3, 1) := by decide +kernel
theorem dX11_inject_24 : decode cX11_inject 24 = .ok (.iload 4, 2) := by decide +kernel
theorem dX11_inject_26 : decode cX11_inject 26 = .ok (.invokevirtual 151, 3) := by decide +kernel
theorem dX11_inject_29 : decode cX11_inject 29 = .ok (.ifCond .ne 5, 3) := by decide +kernel
theorem dX11_inject_32 : decode cX11_inject 32 = .ok (.iconst 0, 1) := by decide +kernel
theorem dX11_inject_33 : decode cX11_inject 33 = .ok (.ireturn, 1) := by decide +kernel
theorem dX11_inject_34 : decode cX11_inject 34 = .ok (.aload_n 0, 1) := by decide +kernel
theorem dX11_inject_35 : decode cX11_inject 35 = .ok (.getfield 10, 3) := by decide +kernel
theorem dX11_inject_38 : decode cX11_inject 38 = .ok (.getfield 95, 3) := by decide +kernel
theorem dX11_inject_41 : decode cX11_inject 41 = .ok (.iload_n 1, 1) := by decide +kernel
theorem dX11_inject_42 : decode cX11_inject 42 = .ok (.iload_n 2, 1) := by decide +kernel
theorem dX11_inject_43 : decode cX11_inject 43 = .ok (.iload_n 3, 1) := by decide +kernel
theorem dX11_inject_44 : decode cX11_inject 44 = .ok (.iload 4, 2) := by decide +kernel
theorem dX11_inject_46 : decode cX11_inject 46 = .ok (.invokevirtual 142, 3) := by decide +kernel
theorem dX11_inject_49 : decode cX11_inject 49 = .ok (.astore 5, 2) := by decide +kernel
theorem dX11_inject_51 : decode cX11_inject 51 = .ok (.aload 5, 2) := by decide +kernel
theorem dX11_inject_53 : decode cX11_inject 53 = .ok (.ifnonnull 5, 3) := by decide +kernel
theorem dX11_inject_56 : decode cX11_inject 56 = .ok (.iconst 0, 1) := by decide +kernel
theorem dX11_inject_57 : decode cX11_inject 57 = .ok (.ireturn, 1) := by decide +kernel
theorem dX11_inject_58 : decode cX11_inject 58 = .ok (.aload 5, 2) := by decide +kernel
theorem dX11_inject_60 : decode cX11_inject 60 = .ok (.aload_n 0, 1) := by decide +kernel
theorem dX11_inject_61 : decode cX11_inject 61 = .ok (.getfield 25, 3) := by decide +kernel
theorem dX11_inject_64 : decode cX11_inject 64 = .ok (.aload_n 0, 1) := by decide +kernel
theorem dX11_inject_65 : decode cX11_inject 65 = .ok (.getfield 29, 3) := by decide +kernel
theorem dX11_inject_68 : decode cX11_inject 68 = .ok (.invokevirtual 147, 3) := by decide +kernel
theorem dX11_inject_71 : decode cX11_inject 71 = .ok (.aload_n 0, 1) := by decide +kernel
theorem dX11_inject_72 : decode cX11_inject 72 = .ok (.iconst 0, 1) := by decide +kernel
theorem dX11_inject_73 : decode cX11_inject 73 = .ok (.putfield 29, 3) := by decide +kernel
theorem dX11_inject_76 : decode cX11_inject 76 = .ok (.iconst 1, 1) := by decide +kernel
theorem dX11_inject_77 : decode cX11_inject 77 = .ok (.ireturn, 1) := by decide +kernel
theorem dX11_power_0 : decode cX11_power 0 = .ok (.aload_n 0, 1) := by decide +kernel
theorem dX11_power_1 : decode cX11_power 1 = .ok (.getfield 10, 3) := by decide +kernel
theorem dX11_power_4 : decode cX11_power 4 = .ok (.iload_n 1, 1) := by decide +kernel
theorem dX11_power_5 : decode cX11_power 5 = .ok (.invokevirtual 84, 3) := by decide +kernel
theorem dX11_power_8 : decode cX11_power 8 = .ok (.ifCond .eq 15, 3) := by decide +kernel
theorem dX11_power_11 : decode cX11_power 11 = .ok (.iload_n 2, 1) := by decide +kernel
theorem dX11_power_12 : decode cX11_power 12 = .ok (.i2l, 1) := by decide +kernel
theorem dX11_power_13 : decode cX11_power 13 = .ok (.lconst 0, 1) := by decide +kernel
theorem dX11_power_14 : decode cX11_power 14 = .ok (.ldc2_w 51, 3) := by decide +kernel
theorem dX11_power_17 : decode cX11_power 17 = .ok (.invokestatic 45, 3) := by decide +kernel
theorem dX11_power_20 : decode cX11_power 20 = .ok (.ifCond .ne 5, 3) := by decide +kernel
theorem dX11_power_23 : decode cX11_power 23 = .ok (.iconst 0, 1) := by decide +kernel
theorem dX11_power_24 : decode cX11_power 24 = .ok (.ireturn, 1) := by decide +kernel
theorem dX11_power_25 : decode cX11_power 25 = .ok (.aload_n 0, 1) := by decide +kernel
theorem dX11_power_26 : decode cX11_power 26 = .ok (.getfield 10, 3) := by decide +kernel
theorem dX11_power_29 : decode cX11_power 29 = .ok (.getfield 33, 3) := by decide +kernel
theorem dX11_power_32 : decode cX11_power 32 = .ok (.iload_n 1, 1) := by decide +kernel
theorem dX11_power_33 : decode cX11_power 33 = .ok (.invokevirtual 87, 3) := by decide +kernel
theorem dX11_power_36 : decode cX11_power 36 = .ok (.checkcast 55, 3) := by decide +kernel
theorem dX11_power_39 : decode cX11_power 39 = .ok (.iload_n 2, 1) := by decide +kernel
theorem dX11_power_40 : decode cX11_power 40 = .ok (.putfield 155, 3) := by decide +kernel
theorem dX11_power_43 : decode cX11_power 43 = .ok (.iconst 1, 1) := by decide +kernel
theorem dX11_power_44 : decode cX11_power 44 = .ok (.ireturn, 1) := by decide +kernel
theorem dX11_tick_0 : decode cX11_tick 0 = .ok (.iload_n 1, 1) := by decide +kernel
theorem dX11_tick_1 : decode cX11_tick 1 = .ok (.i2l, 1) := by decide +kernel
theorem dX11_tick_2 : decode cX11_tick 2 = .ok (.lconst 1, 1) := by decide +kernel
theorem dX11_tick_3 : decode cX11_tick 3 = .ok (.ldc2_w 158, 3) := by decide +kernel
theorem dX11_tick_6 : decode cX11_tick 6 = .ok (.invokestatic 45, 3) := by decide +kernel
theorem dX11_tick_9 : decode cX11_tick 9 = .ok (.ifCond .ne 5, 3) := by decide +kernel
theorem dX11_tick_12 : decode cX11_tick 12 = .ok (.iconst (-1), 1) := by decide +kernel
theorem dX11_tick_13 : decode cX11_tick 13 = .ok (.ireturn, 1) := by decide +kernel
theorem dX11_tick_14 : decode cX11_tick 14 = .ok (.iconst 0, 1) := by decide +kernel
theorem dX11_tick_15 : decode cX11_tick 15 = .ok (.istore_n 2, 1) := by decide +kernel
theorem dX11_tick_16 : decode cX11_tick 16 = .ok (.iconst 0, 1) := by decide +kernel
theorem dX11_tick_17 : decode cX11_tick 17 = .ok (.istore_n 3, 1) := by decide +kernel
theorem dX11_tick_18 : decode cX11_tick 18 = .ok (.iload_n 3, 1) := by decide +kernel
theorem dX11_tick_19 : decode cX11_tick 19 = .ok (.aload_n 0, 1) := by decide +kernel
theorem dX11_tick_20 : decode cX11_tick 20 = .ok (.getfield 10, 3) := by decide +kernel
theorem dX11_tick_23 : decode cX11_tick 23 = .ok (.getfield 72, 3) := by decide +kernel
theorem dX11_tick_26 : decode cX11_tick 26 = .ok (.invokevirtual 37, 3) := by decide +kernel
theorem dX11_tick_29 : decode cX11_tick 29 = .ok (.if_icmp .ge 33, 3) := by decide +kernel
theorem dX11_tick_32 : decode cX11_tick 32 = .ok (.aload_n 0, 1) := by decide +kernel
theorem dX11_tick_33 : decode cX11_tick 33 = .ok (.getfield 10, 3) := by decide +kernel
theorem dX11_tick_36 : decode cX11_tick 36 = .ok (.getfield 72, 3) := by decide +kernel
theorem dX11_tick_39 : decode cX11_tick 39 = .ok (.iload_n 3, 1) := by decide +kernel
theorem dX11_tick_40 : decode cX11_tick 40 = .ok (.invokevirtual 87, 3) := by decide +kernel
theorem dX11_tick_43 : decode cX11_tick 43 = .ok (.checkcast 75, 3) := by decide +kernel
theorem dX11_tick_46 : decode cX11_tick 46 = .ok (.iload_n 1, 1) := by decide +kernel
theorem dX11_tick_47 : decode cX11_tick 47 = .ok (.invokevirtual 160, 3) := by decide +kernel
theorem dX11_tick_50 : decode cX11_tick 50 = .ok (.ifCond .eq 6, 3) := by decide +kernel
theorem dX11_tick_53 : decode cX11_tick 53 = .ok (.iinc 2 1, 3) := by decide +kernel
theorem dX11_tick_56 : decode cX11_tick 56 = .ok (.iinc 3 1, 3) := by decide +kernel
theorem dX11_tick_59 : decode cX11_tick 59 = .ok (.goto (-41), 3) := by decide +kernel
theorem dX11_tick_62 : decode cX11_tick 62 = .ok (.iload_n 2, 1) := by decide +kernel
theorem dX11_tick_63 : decode cX11_tick 63 = .ok (.ireturn, 1) := by decide +kernel
theorem dX11_clear_0 : decode cX11_clear 0 = .ok (.aload_n 0, 1) := by decide +kernel
theorem dX11_clear_1 : decode cX11_clear 1 = .ok (.getfield 10, 3) := by decide +kernel
theorem dX11_clear_4 : decode cX11_clear 4 = .ok (.iload_n 1, 1) := by decide +kernel
theorem dX11_clear_5 : decode cX11_clear 5 = .ok (.invokevirtual 80, 3) := by decide +kernel
theorem dX11_clear_8 : decode cX11_clear 8 = .ok (.ifCond .eq 23, 3) := by decide +kernel
theorem dX11_clear_11 : decode cX11_clear 11 = .ok (.aload_n 0, 1) := by decide +kernel
theorem dX11_clear_12 : decode cX11_clear 12 = .ok (.getfield 10, 3) := by decide +kernel
theorem dX11_clear_15 : decode cX11_clear 15 = .ok (.getfield 72, 3) := by decide +kernel
theorem dX11_clear_18 : decode cX11_clear 18 = .ok (.iload_n 1, 1) := by decide +kernel
theorem dX11_clear_19 : decode cX11_clear 19 = .ok (.invokevirtual 87, 3) := by decide +kernel
theorem dX11_clear_22 : decode cX11_clear 22 = .ok (.checkcast 75, 3) := by decide +kernel
theorem dX11_clear_25 : decode cX11_clear 25 = .ok (.invokevirtual 163, 3) := by decide +kernel
theorem dX11_clear_28 : decode cX11_clear 28 = .ok (.goto 4, 3) := by decide +kernel
theorem dX11_clear_31 : decode cX11_clear 31 = .ok (.iconst (-1), 1) := by decide +kernel
theorem dX11_clear_32 : decode cX11_clear 32 = .ok (.ireturn, 1) := by decide +kernel
theorem dX11_count_0 : decode cX11_count 0 = .ok (.iload_n 1, 1) := by decide +kernel
theorem dX11_count_1 : decode cX11_count 1 = .ok (.tableswitch 108 0 5 #[39, 50, 61, 72, 83, 97], 39) := by decide +kernel
theorem dX11_count_40 : decode cX11_count 40 = .ok (.aload_n 0, 1) := by decide +kernel
theorem dX11_count_41 : decode cX11_count 41 = .ok (.getfield 10, 3) := by decide +kernel
theorem dX11_count_44 : decode cX11_count 44 = .ok (.getfield 33, 3) := by decide +kernel
theorem dX11_count_47 : decode cX11_count 47 = .ok (.invokevirtual 37, 3) := by decide +kernel
theorem dX11_count_50 : decode cX11_count 50 = .ok (.ireturn, 1) := by decide +kernel
theorem dX11_count_51 : decode cX11_count 51 = .ok (.aload_n 0, 1) := by decide +kernel
theorem dX11_count_52 : decode cX11_count 52 = .ok (.getfield 10, 3) := by decide +kernel
theorem dX11_count_55 : decode cX11_count 55 = .ok (.getfield 72, 3) := by decide +kernel
theorem dX11_count_58 : decode cX11_count 58 = .ok (.invokevirtual 37, 3) := by decide +kernel
theorem dX11_count_61 : decode cX11_count 61 = .ok (.ireturn, 1) := by decide +kernel
theorem dX11_count_62 : decode cX11_count 62 = .ok (.aload_n 0, 1) := by decide +kernel
theorem dX11_count_63 : decode cX11_count 63 = .ok (.getfield 10, 3) := by decide +kernel
theorem dX11_count_66 : decode cX11_count 66 = .ok (.getfield 95, 3) := by decide +kernel
theorem dX11_count_69 : decode cX11_count 69 = .ok (.getfield 166, 3) := by decide +kernel
theorem dX11_count_72 : decode cX11_count 72 = .ok (.ireturn, 1) := by decide +kernel
theorem dX11_count_73 : decode cX11_count 73 = .ok (.aload_n 0, 1) := by decide +kernel
theorem dX11_count_74 : decode cX11_count 74 = .ok (.getfield 21, 3) := by decide +kernel
theorem dX11_count_77 : decode cX11_count 77 = .ok (.getfield 167, 3) := by decide +kernel
theorem dX11_count_80 : decode cX11_count 80 = .ok (.invokevirtual 37, 3) := by decide +kernel
theorem dX11_count_83 : decode cX11_count 83 = .ok (.ireturn, 1) := by decide +kernel
theorem dX11_count_84 : decode cX11_count 84 = .ok (.aload_n 0, 1) := by decide +kernel
theorem dX11_count_85 : decode cX11_count 85 = .ok (.getfield 10, 3) := by decide +kernel
theorem dX11_count_88 : decode cX11_count 88 = .ok (.getfield 170, 3) := by decide +kernel
theorem dX11_count_91 : decode cX11_count 91 = .ok (.getfield 174, 3) := by decide +kernel
theorem dX11_count_94 : decode cX11_count 94 = .ok (.invokevirtual 37, 3) := by decide +kernel
theorem dX11_count_97 : decode cX11_count 97 = .ok (.ireturn, 1) := by decide +kernel
theorem dX11_count_98 : decode cX11_count 98 = .ok (.aload_n 0, 1) := by decide +kernel
theorem dX11_count_99 : decode cX11_count 99 = .ok (.getfield 10, 3) := by decide +kernel
theorem dX11_count_102 : decode cX11_count 102 = .ok (.getfield 179, 3) := by decide +kernel
theorem dX11_count_105 : decode cX11_count 105 = .ok (.invokevirtual 37, 3) := by decide +kernel
theorem dX11_count_108 : decode cX11_count 108 = .ok (.ireturn, 1) := by decide +kernel
theorem dX11_count_109 : decode cX11_count 109 = .ok (.iconst (-1), 1) := by decide +kernel
theorem dX11_count_110 : decode cX11_count 110 = .ok (.ireturn, 1) := by decide +kernel
theorem dX11_outcome_0 : decode cX11_outcome 0 = .ok (.aload_n 0, 1) := by decide +kernel
theorem dX11_outcome_1 : decode cX11_outcome 1 = .ok (.getfield 10, 3) := by decide +kernel
theorem dX11_outcome_4 : decode cX11_outcome 4 = .ok (.iload_n 1, 1) := by decide +kernel
theorem dX11_outcome_5 : decode cX11_outcome 5 = .ok (.invokevirtual 80, 3) := by decide +kernel
theorem dX11_outcome_8 : decode cX11_outcome 8 = .ok (.ifCond .eq 23, 3) := by decide +kernel
theorem dX11_outcome_11 : decode cX11_outcome 11 = .ok (.aload_n 0, 1) := by decide +kernel
theorem dX11_outcome_12 : decode cX11_outcome 12 = .ok (.getfield 10, 3) := by decide +kernel
theorem dX11_outcome_15 : decode cX11_outcome 15 = .ok (.getfield 72, 3) := by decide +kernel
theorem dX11_outcome_18 : decode cX11_outcome 18 = .ok (.iload_n 1, 1) := by decide +kernel
theorem dX11_outcome_19 : decode cX11_outcome 19 = .ok (.invokevirtual 87, 3) := by decide +kernel
theorem dX11_outcome_22 : decode cX11_outcome 22 = .ok (.checkcast 75, 3) := by decide +kernel
theorem dX11_outcome_25 : decode cX11_outcome 25 = .ok (.getfield 182, 3) := by decide +kernel
theorem dX11_outcome_28 : decode cX11_outcome 28 = .ok (.goto 4, 3) := by decide +kernel
theorem dX11_outcome_31 : decode cX11_outcome 31 = .ok (.iconst (-1), 1) := by decide +kernel
theorem dX11_outcome_32 : decode cX11_outcome 32 = .ok (.ireturn, 1) := by decide +kernel
theorem dX11_told_0 : decode cX11_told 0 = .ok (.aload_n 0, 1) := by decide +kernel
theorem dX11_told_1 : decode cX11_told 1 = .ok (.getfield 10, 3) := by decide +kernel
theorem dX11_told_4 : decode cX11_told 4 = .ok (.iload_n 1, 1) := by decide +kernel
theorem dX11_told_5 : decode cX11_told 5 = .ok (.invokevirtual 84, 3) := by decide +kernel
theorem dX11_told_8 : decode cX11_told 8 = .ok (.ifCond .ne 5, 3) := by decide +kernel
theorem dX11_told_11 : decode cX11_told 11 = .ok (.iconst (-1), 1) := by decide +kernel
theorem dX11_told_12 : decode cX11_told 12 = .ok (.ireturn, 1) := by decide +kernel
theorem dX11_told_13 : decode cX11_told 13 = .ok (.aload_n 0, 1) := by decide +kernel
theorem dX11_told_14 : decode cX11_told 14 = .ok (.getfield 10, 3) := by decide +kernel
theorem dX11_told_17 : decode cX11_told 17 = .ok (.getfield 33, 3) := by decide +kernel
theorem dX11_told_20 : decode cX11_told 20 = .ok (.iload_n 1, 1) := by decide +kernel
theorem dX11_told_21 : decode cX11_told 21 = .ok (.invokevirtual 87, 3) := by decide +kernel
theorem dX11_told_24 : decode cX11_told 24 = .ok (.checkcast 55, 3) := by decide +kernel
theorem dX11_told_27 : decode cX11_told 27 = .ok (.astore_n 3, 1) := by decide +kernel
theorem dX11_told_28 : decode cX11_told 28 = .ok (.iload_n 2, 1) := by decide +kernel
theorem dX11_told_29 : decode cX11_told 29 = .ok (.tableswitch 51 0 3 #[31, 36, 41, 46], 31) := by decide +kernel
theorem dX11_told_60 : decode cX11_told 60 = .ok (.aload_n 3, 1) := by decide +kernel
theorem dX11_told_61 : decode cX11_told 61 = .ok (.getfield 185, 3) := by decide +kernel
theorem dX11_told_64 : decode cX11_told 64 = .ok (.ireturn, 1) := by decide +kernel
theorem dX11_told_65 : decode cX11_told 65 = .ok (.aload_n 3, 1) := by decide +kernel
theorem dX11_told_66 : decode cX11_told 66 = .ok (.getfield 188, 3) := by decide +kernel
theorem dX11_told_69 : decode cX11_told 69 = .ok (.ireturn, 1) := by decide +kernel
theorem dX11_told_70 : decode cX11_told 70 = .ok (.aload_n 3, 1) := by decide +kernel
theorem dX11_told_71 : decode cX11_told 71 = .ok (.getfield 191, 3) := by decide +kernel
theorem dX11_told_74 : decode cX11_told 74 = .ok (.ireturn, 1) := by decide +kernel
theorem dX11_told_75 : decode cX11_told 75 = .ok (.aload_n 3, 1) := by decide +kernel
theorem dX11_told_76 : decode cX11_told 76 = .ok (.getfield 194, 3) := by decide +kernel
theorem dX11_told_79 : decode cX11_told 79 = .ok (.ireturn, 1) := by decide +kernel
theorem dX11_told_80 : decode cX11_told 80 = .ok (.iconst (-1), 1) := by decide +kernel
theorem dX11_told_81 : decode cX11_told 81 = .ok (.ireturn, 1) := by decide +kernel
theorem dX11_account_0 : decode cX11_account 0 = .ok (.iload_n 1, 1) := by decide +kernel
theorem dX11_account_1 : decode cX11_account 1 = .ok (.ifCond .lt 37, 3) := by decide +kernel
theorem dX11_account_4 : decode cX11_account 4 = .ok (.iload_n 1, 1) := by decide +kernel
theorem dX11_account_5 : decode cX11_account 5 = .ok (.aload_n 0, 1) := by decide +kernel
theorem dX11_account_6 : decode cX11_account 6 = .ok (.getfield 21, 3) := by decide +kernel
theorem dX11_account_9 : decode cX11_account 9 = .ok (.getfield 64, 3) := by decide +kernel
theorem dX11_account_12 : decode cX11_account 12 = .ok (.invokevirtual 37, 3) := by decide +kernel
theorem dX11_account_15 : decode cX11_account 15 = .ok (.if_icmp .ge 23, 3) := by decide +kernel
theorem dX11_account_18 : decode cX11_account 18 = .ok (.aload_n 0, 1) := by decide +kernel
theorem dX11_account_19 : decode cX11_account 19 = .ok (.getfield 21, 3) := by decide +kernel
theorem dX11_account_22 : decode cX11_account 22 = .ok (.getfield 64, 3) := by decide +kernel
theorem dX11_account_25 : decode cX11_account 25 = .ok (.iload_n 1, 1) := by decide +kernel
theorem dX11_account_26 : decode cX11_account 26 = .ok (.invokevirtual 87, 3) := by decide +kernel
theorem dX11_account_29 : decode cX11_account 29 = .ok (.checkcast 67, 3) := by decide +kernel
theorem dX11_account_32 : decode cX11_account 32 = .ok (.getfield 197, 3) := by decide +kernel
theorem dX11_account_35 : decode cX11_account 35 = .ok (.goto 4, 3) := by decide +kernel
theorem dX11_account_38 : decode cX11_account 38 = .ok (.lconst 0, 1) := by decide +kernel
theorem dX11_account_39 : decode cX11_account 39 = .ok (.lreturn, 1) := by decide +kernel
theorem dX11_debit_0 : decode cX11_debit 0 = .ok (.iload_n 1, 1) := by decide +kernel
theorem dX11_debit_1 : decode cX11_debit 1 = .ok (.ifCond .lt 17, 3) := by decide +kernel
theorem dX11_debit_4 : decode cX11_debit 4 = .ok (.iload_n 1, 1) := by decide +kernel
theorem dX11_debit_5 : decode cX11_debit 5 = .ok (.aload_n 0, 1) := by decide +kernel
theorem dX11_debit_6 : decode cX11_debit 6 = .ok (.getfield 21, 3) := by decide +kernel
theorem dX11_debit_9 : decode cX11_debit 9 = .ok (.getfield 167, 3) := by decide +kernel
theorem dX11_debit_12 : decode cX11_debit 12 = .ok (.invokevirtual 37, 3) := by decide +kernel
theorem dX11_debit_15 : decode cX11_debit 15 = .ok (.if_icmp .lt 7, 3) := by decide +kernel
theorem dX11_debit_18 : decode cX11_debit 18 = .ok (.ldc2_w 201, 3) := by decide +kernel
theorem dX11_debit_21 : decode cX11_debit 21 = .ok (.lreturn, 1) := by decide +kernel
theorem dX11_debit_22 : decode cX11_debit 22 = .ok (.aload_n 0, 1) := by decide +kernel
theorem dX11_debit_23 : decode cX11_debit 23 = .ok (.getfield 21, 3) := by decide +kernel
theorem dX11_debit_26 : decode cX11_debit 26 = .ok (.getfield 167, 3) := by decide +kernel
theorem dX11_debit_29 : decode cX11_debit 29 = .ok (.iload_n 1, 1) := by decide +kernel
theorem dX11_debit_30 : decode cX11_debit 30 = .ok (.invokevirtual 87, 3) := by decide +kernel
theorem dX11_debit_33 : decode cX11_debit 33 = .ok (.checkcast 203, 3) := by decide +kernel
theorem dX11_debit_36 : decode cX11_debit 36 = .ok (.astore_n 3, 1) := by decide +kernel
theorem dX11_debit_37 : decode cX11_debit 37 = .ok (.iload_n 2, 1) := by decide +kernel
theorem dX11_debit_38 : decode cX11_debit 38 = .ok (.tableswitch 82 0 6 #[42, 48, 54, 59, 64, 70, 76], 42) := by decide +kernel
theorem dX11_debit_80 : decode cX11_debit 80 = .ok (.aload_n 3, 1) := by decide +kernel
theorem dX11_debit_81 : decode cX11_debit 81 = .ok (.getfield 205, 3) := by decide +kernel
theorem dX11_debit_84 : decode cX11_debit 84 = .ok (.i2l, 1) := by decide +kernel
theorem dX11_debit_85 : decode cX11_debit 85 = .ok (.lreturn, 1) := by decide +kernel
theorem dX11_debit_86 : decode cX11_debit 86 = .ok (.aload_n 3, 1) := by decide +kernel
theorem dX11_debit_87 : decode cX11_debit 87 = .ok (.getfield 208, 3) := by decide +kernel
theorem dX11_debit_90 : decode cX11_debit 90 = .ok (.i2l, 1) := by decide +kernel
theorem dX11_debit_91 : decode cX11_debit 91 = .ok (.lreturn, 1) := by decide +kernel
theorem dX11_debit_92 : decode cX11_debit 92 = .ok (.aload_n 3, 1) := by decide +kernel
theorem dX11_debit_93 : decode cX11_debit 93 = .ok (.getfield 209, 3) := by decide +kernel
theorem dX11_debit_96 : decode cX11_debit 96 = .ok (.lreturn, 1) := by decide +kernel
theorem dX11_debit_97 : decode cX11_debit 97 = .ok (.aload_n 3, 1) := by decide +kernel
theorem dX11_debit_98 : decode cX11_debit 98 = .ok (.getfield 212, 3) := by decide +kernel
theorem dX11_debit_101 : decode cX11_debit 101 = .ok (.lreturn, 1) := by decide +kernel
theorem dX11_debit_102 : decode cX11_debit 102 = .ok (.aload_n 3, 1) := by decide +kernel
theorem dX11_debit_103 : decode cX11_debit 103 = .ok (.getfield 215, 3) := by decide +kernel
theorem dX11_debit_106 : decode cX11_debit 106 = .ok (.i2l, 1) := by decide +kernel
theorem dX11_debit_107 : decode cX11_debit 107 = .ok (.lreturn, 1) := by decide +kernel
theorem dX11_debit_108 : decode cX11_debit 108 = .ok (.aload_n 3, 1) := by decide +kernel
theorem dX11_debit_109 : decode cX11_debit 109 = .ok (.getfield 218, 3) := by decide +kernel
theorem dX11_debit_112 : decode cX11_debit 112 = .ok (.i2l, 1) := by decide +kernel
theorem dX11_debit_113 : decode cX11_debit 113 = .ok (.lreturn, 1) := by decide +kernel
theorem dX11_debit_114 : decode cX11_debit 114 = .ok (.aload_n 3, 1) := by decide +kernel
theorem dX11_debit_115 : decode cX11_debit 115 = .ok (.getfield 221, 3) := by decide +kernel
theorem dX11_debit_118 : decode cX11_debit 118 = .ok (.i2l, 1) := by decide +kernel
theorem dX11_debit_119 : decode cX11_debit 119 = .ok (.lreturn, 1) := by decide +kernel
theorem dX11_debit_120 : decode cX11_debit 120 = .ok (.ldc2_w 201, 3) := by decide +kernel
theorem dX11_debit_123 : decode cX11_debit 123 = .ok (.lreturn, 1) := by decide +kernel
theorem dX11_message_0 : decode cX11_message 0 = .ok (.aload_n 0, 1) := by decide +kernel
theorem dX11_message_1 : decode cX11_message 1 = .ok (.getfield 10, 3) := by decide +kernel
theorem dX11_message_4 : decode cX11_message 4 = .ok (.getfield 95, 3) := by decide +kernel
theorem dX11_message_7 : decode cX11_message 7 = .ok (.iload_n 1, 1) := by decide +kernel
theorem dX11_message_8 : decode cX11_message 8 = .ok (.invokevirtual 126, 3) := by decide +kernel
theorem dX11_message_11 : decode cX11_message 11 = .ok (.astore_n 3, 1) := by decide +kernel
theorem dX11_message_12 : decode cX11_message 12 = .ok (.aload_n 3, 1) := by decide +kernel
theorem dX11_message_13 : decode cX11_message 13 = .ok (.ifnonnull 5, 3) := by decide +kernel
theorem dX11_message_16 : decode cX11_message 16 = .ok (.iconst (-1), 1) := by decide +kernel
theorem dX11_message_17 : decode cX11_message 17 = .ok (.ireturn, 1) := by decide +kernel
theorem dX11_message_18 : decode cX11_message 18 = .ok (.iload_n 2, 1) := by decide +kernel
theorem dX11_message_19 : decode cX11_message 19 = .ok (.tableswitch 58 0 4 #[33, 38, 43, 48, 53], 33) := by decide +kernel
theorem dX11_message_52 : decode cX11_message 52 = .ok (.aload_n 3, 1) := by decide +kernel
theorem dX11_message_53 : decode cX11_message 53 = .ok (.getfield 136, 3) := by decide +kernel
theorem dX11_message_56 : decode cX11_message 56 = .ok (.ireturn, 1) := by decide +kernel
theorem dX11_message_57 : decode cX11_message 57 = .ok (.aload_n 3, 1) := by decide +kernel
theorem dX11_message_58 : decode cX11_message 58 = .ok (.getfield 139, 3) := by decide +kernel
theorem dX11_message_61 : decode cX11_message 61 = .ok (.ireturn, 1) := by decide +kernel
theorem dX11_message_62 : decode cX11_message 62 = .ok (.aload_n 3, 1) := by decide +kernel
theorem dX11_message_63 : decode cX11_message 63 = .ok (.getfield 115, 3) := by decide +kernel
theorem dX11_message_66 : decode cX11_message 66 = .ok (.ireturn, 1) := by decide +kernel
theorem dX11_message_67 : decode cX11_message 67 = .ok (.aload_n 3, 1) := by decide +kernel
theorem dX11_message_68 : decode cX11_message 68 = .ok (.getfield 121, 3) := by decide +kernel
theorem dX11_message_71 : decode cX11_message 71 = .ok (.ireturn, 1) := by decide +kernel
theorem dX11_message_72 : decode cX11_message 72 = .ok (.aload_n 3, 1) := by decide +kernel
theorem dX11_message_73 : decode cX11_message 73 = .ok (.getfield 145, 3) := by decide +kernel
theorem dX11_message_76 : decode cX11_message 76 = .ok (.ireturn, 1) := by decide +kernel
theorem dX11_message_77 : decode cX11_message 77 = .ok (.iconst (-1), 1) := by decide +kernel
theorem dX11_message_78 : decode cX11_message 78 = .ok (.ireturn, 1) := by decide +kernel
