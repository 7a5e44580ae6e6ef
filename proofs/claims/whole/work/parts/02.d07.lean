theorem dX12_isSigned_0 : decode cX12_isSigned 0 = .ok (.aload_n 0, 1) := by decide +kernel
theorem dX12_isSigned_1 : decode cX12_isSigned 1 = .ok (.iload_n 1, 1) := by decide +kernel
theorem dX12_isSigned_2 : decode cX12_isSigned 2 = .ok (.i2l, 1) := by decide +kernel
theorem dX12_isSigned_3 : decode cX12_isSigned 3 = .ok (.invokevirtual 227, 3) := by decide +kernel
theorem dX12_isSigned_6 : decode cX12_isSigned 6 = .ok (.iconst 1, 1) := by decide +kernel
theorem dX12_isSigned_7 : decode cX12_isSigned 7 = .ok (.istore_n 2, 1) := by decide +kernel
theorem dX12_isSigned_8 : decode cX12_isSigned 8 = .ok (.iload_n 2, 1) := by decide +kernel
theorem dX12_isSigned_9 : decode cX12_isSigned 9 = .ok (.bipush 8, 2) := by decide +kernel
theorem dX12_isSigned_11 : decode cX12_isSigned 11 = .ok (.if_icmp .gt 25, 3) := by decide +kernel
theorem dX12_isSigned_14 : decode cX12_isSigned 14 = .ok (.iload_n 2, 1) := by decide +kernel
theorem dX12_isSigned_15 : decode cX12_isSigned 15 = .ok (.bipush 7, 2) := by decide +kernel
theorem dX12_isSigned_17 : decode cX12_isSigned 17 = .ok (.if_icmp .eq 13, 3) := by decide +kernel
theorem dX12_isSigned_20 : decode cX12_isSigned 20 = .ok (.aload_n 0, 1) := by decide +kernel
theorem dX12_isSigned_21 : decode cX12_isSigned 21 = .ok (.aload_n 0, 1) := by decide +kernel
theorem dX12_isSigned_22 : decode cX12_isSigned 22 = .ok (.getfield 45, 3) := by decide +kernel
theorem dX12_isSigned_25 : decode cX12_isSigned 25 = .ok (.iload_n 2, 1) := by decide +kernel
theorem dX12_isSigned_26 : decode cX12_isSigned 26 = .ok (.laload, 1) := by decide +kernel
theorem dX12_isSigned_27 : decode cX12_isSigned 27 = .ok (.invokevirtual 231, 3) := by decide +kernel
theorem dX12_isSigned_30 : decode cX12_isSigned 30 = .ok (.iinc 2 1, 3) := by decide +kernel
theorem dX12_isSigned_33 : decode cX12_isSigned 33 = .ok (.goto (-25), 3) := by decide +kernel
theorem dX12_isSigned_36 : decode cX12_isSigned 36 = .ok (.aload_n 0, 1) := by decide +kernel
theorem dX12_isSigned_37 : decode cX12_isSigned 37 = .ok (.getfield 45, 3) := by decide +kernel
theorem dX12_isSigned_40 : decode cX12_isSigned 40 = .ok (.iconst 5, 1) := by decide +kernel
theorem dX12_isSigned_41 : decode cX12_isSigned 41 = .ok (.laload, 1) := by decide +kernel
theorem dX12_isSigned_42 : decode cX12_isSigned 42 = .ok (.aload_n 0, 1) := by decide +kernel
theorem dX12_isSigned_43 : decode cX12_isSigned 43 = .ok (.getfield 299, 3) := by decide +kernel
theorem dX12_isSigned_46 : decode cX12_isSigned 46 = .ok (.i2l, 1) := by decide +kernel
theorem dX12_isSigned_47 : decode cX12_isSigned 47 = .ok (.lcmp, 1) := by decide +kernel
theorem dX12_isSigned_48 : decode cX12_isSigned 48 = .ok (.ifCond .ge 28, 3) := by decide +kernel
theorem dX12_isSigned_51 : decode cX12_isSigned 51 = .ok (.aload_n 0, 1) := by decide +kernel
theorem dX12_isSigned_52 : decode cX12_isSigned 52 = .ok (.iconst 1, 1) := by decide +kernel
theorem dX12_isSigned_53 : decode cX12_isSigned 53 = .ok (.aload_n 0, 1) := by decide +kernel
theorem dX12_isSigned_54 : decode cX12_isSigned 54 = .ok (.getfield 45, 3) := by decide +kernel
theorem dX12_isSigned_57 : decode cX12_isSigned 57 = .ok (.iconst 5, 1) := by decide +kernel
theorem dX12_isSigned_58 : decode cX12_isSigned 58 = .ok (.laload, 1) := by decide +kernel
theorem dX12_isSigned_59 : decode cX12_isSigned 59 = .ok (.aload_n 0, 1) := by decide +kernel
theorem dX12_isSigned_60 : decode cX12_isSigned 60 = .ok (.getfield 45, 3) := by decide +kernel
theorem dX12_isSigned_63 : decode cX12_isSigned 63 = .ok (.bipush 11, 2) := by decide +kernel
theorem dX12_isSigned_65 : decode cX12_isSigned 65 = .ok (.laload, 1) := by decide +kernel
theorem dX12_isSigned_66 : decode cX12_isSigned 66 = .ok (.invokevirtual 257, 3) := by decide +kernel
theorem dX12_isSigned_69 : decode cX12_isSigned 69 = .ok (.ifCond .eq 7, 3) := by decide +kernel
theorem dX12_isSigned_72 : decode cX12_isSigned 72 = .ok (.iconst 1, 1) := by decide +kernel
theorem dX12_isSigned_73 : decode cX12_isSigned 73 = .ok (.goto 4, 3) := by decide +kernel
theorem dX12_isSigned_76 : decode cX12_isSigned 76 = .ok (.iconst 0, 1) := by decide +kernel
theorem dX12_isSigned_77 : decode cX12_isSigned 77 = .ok (.ireturn, 1) := by decide +kernel
theorem dX12_isAnswer_0 : decode cX12_isAnswer 0 = .ok (.aload_n 0, 1) := by decide +kernel
theorem dX12_isAnswer_1 : decode cX12_isAnswer 1 = .ok (.ldc2_w 250, 3) := by decide +kernel
theorem dX12_isAnswer_4 : decode cX12_isAnswer 4 = .ok (.invokevirtual 227, 3) := by decide +kernel
theorem dX12_isAnswer_7 : decode cX12_isAnswer 7 = .ok (.aload_n 0, 1) := by decide +kernel
theorem dX12_isAnswer_8 : decode cX12_isAnswer 8 = .ok (.iload_n 1, 1) := by decide +kernel
theorem dX12_isAnswer_9 : decode cX12_isAnswer 9 = .ok (.i2l, 1) := by decide +kernel
theorem dX12_isAnswer_10 : decode cX12_isAnswer 10 = .ok (.invokevirtual 231, 3) := by decide +kernel
theorem dX12_isAnswer_13 : decode cX12_isAnswer 13 = .ok (.aload_n 0, 1) := by decide +kernel
theorem dX12_isAnswer_14 : decode cX12_isAnswer 14 = .ok (.aload_n 0, 1) := by decide +kernel
theorem dX12_isAnswer_15 : decode cX12_isAnswer 15 = .ok (.getfield 45, 3) := by decide +kernel
theorem dX12_isAnswer_18 : decode cX12_isAnswer 18 = .ok (.iconst 3, 1) := by decide +kernel
theorem dX12_isAnswer_19 : decode cX12_isAnswer 19 = .ok (.laload, 1) := by decide +kernel
theorem dX12_isAnswer_20 : decode cX12_isAnswer 20 = .ok (.invokevirtual 231, 3) := by decide +kernel
theorem dX12_isAnswer_23 : decode cX12_isAnswer 23 = .ok (.aload_n 0, 1) := by decide +kernel
theorem dX12_isAnswer_24 : decode cX12_isAnswer 24 = .ok (.aload_n 0, 1) := by decide +kernel
theorem dX12_isAnswer_25 : decode cX12_isAnswer 25 = .ok (.getfield 45, 3) := by decide +kernel
theorem dX12_isAnswer_28 : decode cX12_isAnswer 28 = .ok (.iconst 4, 1) := by decide +kernel
theorem dX12_isAnswer_29 : decode cX12_isAnswer 29 = .ok (.laload, 1) := by decide +kernel
theorem dX12_isAnswer_30 : decode cX12_isAnswer 30 = .ok (.invokevirtual 231, 3) := by decide +kernel
theorem dX12_isAnswer_33 : decode cX12_isAnswer 33 = .ok (.aload_n 0, 1) := by decide +kernel
theorem dX12_isAnswer_34 : decode cX12_isAnswer 34 = .ok (.aload_n 0, 1) := by decide +kernel
theorem dX12_isAnswer_35 : decode cX12_isAnswer 35 = .ok (.getfield 45, 3) := by decide +kernel
theorem dX12_isAnswer_38 : decode cX12_isAnswer 38 = .ok (.iconst 5, 1) := by decide +kernel
theorem dX12_isAnswer_39 : decode cX12_isAnswer 39 = .ok (.laload, 1) := by decide +kernel
theorem dX12_isAnswer_40 : decode cX12_isAnswer 40 = .ok (.invokevirtual 231, 3) := by decide +kernel
theorem dX12_isAnswer_43 : decode cX12_isAnswer 43 = .ok (.aload_n 0, 1) := by decide +kernel
theorem dX12_isAnswer_44 : decode cX12_isAnswer 44 = .ok (.aload_n 0, 1) := by decide +kernel
theorem dX12_isAnswer_45 : decode cX12_isAnswer 45 = .ok (.getfield 45, 3) := by decide +kernel
theorem dX12_isAnswer_48 : decode cX12_isAnswer 48 = .ok (.iconst 2, 1) := by decide +kernel
theorem dX12_isAnswer_49 : decode cX12_isAnswer 49 = .ok (.laload, 1) := by decide +kernel
theorem dX12_isAnswer_50 : decode cX12_isAnswer 50 = .ok (.invokevirtual 231, 3) := by decide +kernel
theorem dX12_isAnswer_53 : decode cX12_isAnswer 53 = .ok (.aload_n 0, 1) := by decide +kernel
theorem dX12_isAnswer_54 : decode cX12_isAnswer 54 = .ok (.aload_n 0, 1) := by decide +kernel
theorem dX12_isAnswer_55 : decode cX12_isAnswer 55 = .ok (.getfield 45, 3) := by decide +kernel
theorem dX12_isAnswer_58 : decode cX12_isAnswer 58 = .ok (.bipush 6, 2) := by decide +kernel
theorem dX12_isAnswer_60 : decode cX12_isAnswer 60 = .ok (.laload, 1) := by decide +kernel
theorem dX12_isAnswer_61 : decode cX12_isAnswer 61 = .ok (.invokevirtual 231, 3) := by decide +kernel
theorem dX12_isAnswer_64 : decode cX12_isAnswer 64 = .ok (.aload_n 0, 1) := by decide +kernel
theorem dX12_isAnswer_65 : decode cX12_isAnswer 65 = .ok (.getfield 45, 3) := by decide +kernel
theorem dX12_isAnswer_68 : decode cX12_isAnswer 68 = .ok (.iconst 1, 1) := by decide +kernel
theorem dX12_isAnswer_69 : decode cX12_isAnswer 69 = .ok (.laload, 1) := by decide +kernel
theorem dX12_isAnswer_70 : decode cX12_isAnswer 70 = .ok (.aload_n 0, 1) := by decide +kernel
theorem dX12_isAnswer_71 : decode cX12_isAnswer 71 = .ok (.getfield 286, 3) := by decide +kernel
theorem dX12_isAnswer_74 : decode cX12_isAnswer 74 = .ok (.i2l, 1) := by decide +kernel
theorem dX12_isAnswer_75 : decode cX12_isAnswer 75 = .ok (.lcmp, 1) := by decide +kernel
theorem dX12_isAnswer_76 : decode cX12_isAnswer 76 = .ok (.ifCond .ge 28, 3) := by decide +kernel
theorem dX12_isAnswer_79 : decode cX12_isAnswer 79 = .ok (.aload_n 0, 1) := by decide +kernel
theorem dX12_isAnswer_80 : decode cX12_isAnswer 80 = .ok (.iconst 0, 1) := by decide +kernel
theorem dX12_isAnswer_81 : decode cX12_isAnswer 81 = .ok (.aload_n 0, 1) := by decide +kernel
theorem dX12_isAnswer_82 : decode cX12_isAnswer 82 = .ok (.getfield 45, 3) := by decide +kernel
theorem dX12_isAnswer_85 : decode cX12_isAnswer 85 = .ok (.iconst 1, 1) := by decide +kernel
theorem dX12_isAnswer_86 : decode cX12_isAnswer 86 = .ok (.laload, 1) := by decide +kernel
theorem dX12_isAnswer_87 : decode cX12_isAnswer 87 = .ok (.aload_n 0, 1) := by decide +kernel
theorem dX12_isAnswer_88 : decode cX12_isAnswer 88 = .ok (.getfield 45, 3) := by decide +kernel
theorem dX12_isAnswer_91 : decode cX12_isAnswer 91 = .ok (.bipush 8, 2) := by decide +kernel
theorem dX12_isAnswer_93 : decode cX12_isAnswer 93 = .ok (.laload, 1) := by decide +kernel
theorem dX12_isAnswer_94 : decode cX12_isAnswer 94 = .ok (.invokevirtual 257, 3) := by decide +kernel
theorem dX12_isAnswer_97 : decode cX12_isAnswer 97 = .ok (.ifCond .eq 7, 3) := by decide +kernel
theorem dX12_isAnswer_100 : decode cX12_isAnswer 100 = .ok (.iconst 1, 1) := by decide +kernel
theorem dX12_isAnswer_101 : decode cX12_isAnswer 101 = .ok (.goto 4, 3) := by decide +kernel
theorem dX12_isAnswer_104 : decode cX12_isAnswer 104 = .ok (.iconst 0, 1) := by decide +kernel
theorem dX12_isAnswer_105 : decode cX12_isAnswer 105 = .ok (.ireturn, 1) := by decide +kernel
theorem dX12_debit_0 : decode cX12_debit 0 = .ok (.aload_n 0, 1) := by decide +kernel
theorem dX12_debit_1 : decode cX12_debit 1 = .ok (.getfield 45, 3) := by decide +kernel
theorem dX12_debit_4 : decode cX12_debit 4 = .ok (.iconst 1, 1) := by decide +kernel
theorem dX12_debit_5 : decode cX12_debit 5 = .ok (.laload, 1) := by decide +kernel
theorem dX12_debit_6 : decode cX12_debit 6 = .ok (.l2i, 1) := by decide +kernel
theorem dX12_debit_7 : decode cX12_debit 7 = .ok (.istore_n 2, 1) := by decide +kernel
theorem dX12_debit_8 : decode cX12_debit 8 = .ok (.aload_n 0, 1) := by decide +kernel
theorem dX12_debit_9 : decode cX12_debit 9 = .ok (.getfield 63, 3) := by decide +kernel
theorem dX12_debit_12 : decode cX12_debit 12 = .ok (.iload_n 2, 1) := by decide +kernel
theorem dX12_debit_13 : decode cX12_debit 13 = .ok (.dup2, 1) := by decide +kernel
theorem dX12_debit_14 : decode cX12_debit 14 = .ok (.laload, 1) := by decide +kernel
theorem dX12_debit_15 : decode cX12_debit 15 = .ok (.aload_n 0, 1) := by decide +kernel
theorem dX12_debit_16 : decode cX12_debit 16 = .ok (.getfield 45, 3) := by decide +kernel
theorem dX12_debit_19 : decode cX12_debit 19 = .ok (.iconst 3, 1) := by decide +kernel
theorem dX12_debit_20 : decode cX12_debit 20 = .ok (.laload, 1) := by decide +kernel
theorem dX12_debit_21 : decode cX12_debit 21 = .ok (.lsub, 1) := by decide +kernel
theorem dX12_debit_22 : decode cX12_debit 22 = .ok (.lastore, 1) := by decide +kernel
theorem dX12_debit_23 : decode cX12_debit 23 = .ok (.bipush 7, 2) := by decide +kernel
theorem dX12_debit_25 : decode cX12_debit 25 = .ok (.aload_n 0, 1) := by decide +kernel
theorem dX12_debit_26 : decode cX12_debit 26 = .ok (.getfield 302, 3) := by decide +kernel
theorem dX12_debit_29 : decode cX12_debit 29 = .ok (.imul, 1) := by decide +kernel
theorem dX12_debit_30 : decode cX12_debit 30 = .ok (.istore_n 3, 1) := by decide +kernel
theorem dX12_debit_31 : decode cX12_debit 31 = .ok (.aload_n 0, 1) := by decide +kernel
theorem dX12_debit_32 : decode cX12_debit 32 = .ok (.getfield 157, 3) := by decide +kernel
theorem dX12_debit_35 : decode cX12_debit 35 = .ok (.iload_n 3, 1) := by decide +kernel
theorem dX12_debit_36 : decode cX12_debit 36 = .ok (.iload_n 2, 1) := by decide +kernel
theorem dX12_debit_37 : decode cX12_debit 37 = .ok (.i2l, 1) := by decide +kernel
theorem dX12_debit_38 : decode cX12_debit 38 = .ok (.lastore, 1) := by decide +kernel
theorem dX12_debit_39 : decode cX12_debit 39 = .ok (.aload_n 0, 1) := by decide +kernel
theorem dX12_debit_40 : decode cX12_debit 40 = .ok (.getfield 157, 3) := by decide +kernel
theorem dX12_debit_43 : decode cX12_debit 43 = .ok (.iload_n 3, 1) := by decide +kernel
theorem dX12_debit_44 : decode cX12_debit 44 = .ok (.iconst 1, 1) := by decide +kernel
theorem dX12_debit_45 : decode cX12_debit 45 = .ok (.iadd, 1) := by decide +kernel
theorem dX12_debit_46 : decode cX12_debit 46 = .ok (.aload_n 0, 1) := by decide +kernel
theorem dX12_debit_47 : decode cX12_debit 47 = .ok (.getfield 45, 3) := by decide +kernel
theorem dX12_debit_50 : decode cX12_debit 50 = .ok (.iconst 2, 1) := by decide +kernel
theorem dX12_debit_51 : decode cX12_debit 51 = .ok (.laload, 1) := by decide +kernel
theorem dX12_debit_52 : decode cX12_debit 52 = .ok (.lastore, 1) := by decide +kernel
theorem dX12_debit_53 : decode cX12_debit 53 = .ok (.aload_n 0, 1) := by decide +kernel
theorem dX12_debit_54 : decode cX12_debit 54 = .ok (.getfield 157, 3) := by decide +kernel
theorem dX12_debit_57 : decode cX12_debit 57 = .ok (.iload_n 3, 1) := by decide +kernel
theorem dX12_debit_58 : decode cX12_debit 58 = .ok (.iconst 2, 1) := by decide +kernel
theorem dX12_debit_59 : decode cX12_debit 59 = .ok (.iadd, 1) := by decide +kernel
theorem dX12_debit_60 : decode cX12_debit 60 = .ok (.aload_n 0, 1) := by decide +kernel
theorem dX12_debit_61 : decode cX12_debit 61 = .ok (.getfield 45, 3) := by decide +kernel
theorem dX12_debit_64 : decode cX12_debit 64 = .ok (.iconst 3, 1) := by decide +kernel
theorem dX12_debit_65 : decode cX12_debit 65 = .ok (.laload, 1) := by decide +kernel
theorem dX12_debit_66 : decode cX12_debit 66 = .ok (.lastore, 1) := by decide +kernel
theorem dX12_debit_67 : decode cX12_debit 67 = .ok (.aload_n 0, 1) := by decide +kernel
theorem dX12_debit_68 : decode cX12_debit 68 = .ok (.getfield 157, 3) := by decide +kernel
theorem dX12_debit_71 : decode cX12_debit 71 = .ok (.iload_n 3, 1) := by decide +kernel
theorem dX12_debit_72 : decode cX12_debit 72 = .ok (.iconst 3, 1) := by decide +kernel
theorem dX12_debit_73 : decode cX12_debit 73 = .ok (.iadd, 1) := by decide +kernel
theorem dX12_debit_74 : decode cX12_debit 74 = .ok (.aload_n 0, 1) := by decide +kernel
theorem dX12_debit_75 : decode cX12_debit 75 = .ok (.getfield 45, 3) := by decide +kernel
theorem dX12_debit_78 : decode cX12_debit 78 = .ok (.iconst 4, 1) := by decide +kernel
theorem dX12_debit_79 : decode cX12_debit 79 = .ok (.laload, 1) := by decide +kernel
theorem dX12_debit_80 : decode cX12_debit 80 = .ok (.lastore, 1) := by decide +kernel
theorem dX12_debit_81 : decode cX12_debit 81 = .ok (.aload_n 0, 1) := by decide +kernel
theorem dX12_debit_82 : decode cX12_debit 82 = .ok (.getfield 157, 3) := by decide +kernel
theorem dX12_debit_85 : decode cX12_debit 85 = .ok (.iload_n 3, 1) := by decide +kernel
theorem dX12_debit_86 : decode cX12_debit 86 = .ok (.iconst 4, 1) := by decide +kernel
theorem dX12_debit_87 : decode cX12_debit 87 = .ok (.iadd, 1) := by decide +kernel
theorem dX12_debit_88 : decode cX12_debit 88 = .ok (.aload_n 0, 1) := by decide +kernel
theorem dX12_debit_89 : decode cX12_debit 89 = .ok (.getfield 45, 3) := by decide +kernel
theorem dX12_debit_92 : decode cX12_debit 92 = .ok (.iconst 5, 1) := by decide +kernel
theorem dX12_debit_93 : decode cX12_debit 93 = .ok (.laload, 1) := by decide +kernel
theorem dX12_debit_94 : decode cX12_debit 94 = .ok (.lastore, 1) := by decide +kernel
theorem dX12_debit_95 : decode cX12_debit 95 = .ok (.aload_n 0, 1) := by decide +kernel
theorem dX12_debit_96 : decode cX12_debit 96 = .ok (.getfield 157, 3) := by decide +kernel
theorem dX12_debit_99 : decode cX12_debit 99 = .ok (.iload_n 3, 1) := by decide +kernel
theorem dX12_debit_100 : decode cX12_debit 100 = .ok (.iconst 5, 1) := by decide +kernel
theorem dX12_debit_101 : decode cX12_debit 101 = .ok (.iadd, 1) := by decide +kernel
theorem dX12_debit_102 : decode cX12_debit 102 = .ok (.aload_n 0, 1) := by decide +kernel
theorem dX12_debit_103 : decode cX12_debit 103 = .ok (.getfield 45, 3) := by decide +kernel
theorem dX12_debit_106 : decode cX12_debit 106 = .ok (.bipush 6, 2) := by decide +kernel
theorem dX12_debit_108 : decode cX12_debit 108 = .ok (.laload, 1) := by decide +kernel
theorem dX12_debit_109 : decode cX12_debit 109 = .ok (.lastore, 1) := by decide +kernel
theorem dX12_debit_110 : decode cX12_debit 110 = .ok (.aload_n 0, 1) := by decide +kernel
theorem dX12_debit_111 : decode cX12_debit 111 = .ok (.getfield 157, 3) := by decide +kernel
theorem dX12_debit_114 : decode cX12_debit 114 = .ok (.iload_n 3, 1) := by decide +kernel
theorem dX12_debit_115 : decode cX12_debit 115 = .ok (.bipush 6, 2) := by decide +kernel
theorem dX12_debit_117 : decode cX12_debit 117 = .ok (.iadd, 1) := by decide +kernel
theorem dX12_debit_118 : decode cX12_debit 118 = .ok (.iload_n 1, 1) := by decide +kernel
theorem dX12_debit_119 : decode cX12_debit 119 = .ok (.i2l, 1) := by decide +kernel
theorem dX12_debit_120 : decode cX12_debit 120 = .ok (.lastore, 1) := by decide +kernel
theorem dX12_debit_121 : decode cX12_debit 121 = .ok (.aload_n 0, 1) := by decide +kernel
theorem dX12_debit_122 : decode cX12_debit 122 = .ok (.dup, 1) := by decide +kernel
theorem dX12_debit_123 : decode cX12_debit 123 = .ok (.getfield 302, 3) := by decide +kernel
theorem dX12_debit_126 : decode cX12_debit 126 = .ok (.iconst 1, 1) := by decide +kernel
theorem dX12_debit_127 : decode cX12_debit 127 = .ok (.iadd, 1) := by decide +kernel
theorem dX12_debit_128 : decode cX12_debit 128 = .ok (.putfield 302, 3) := by decide +kernel
theorem dX12_debit_131 : decode cX12_debit 131 = .ok (.return_, 1) := by decide +kernel
theorem dX12_toHost_0 : decode cX12_toHost 0 = .ok (.iload_n 1, 1) := by decide +kernel
theorem dX12_toHost_1 : decode cX12_toHost 1 = .ok (.bipush 7, 2) := by decide +kernel
theorem dX12_toHost_3 : decode cX12_toHost 3 = .ok (.if_icmp .eq 9, 3) := by decide +kernel
theorem dX12_toHost_6 : decode cX12_toHost 6 = .ok (.iload_n 1, 1) := by decide +kernel
theorem dX12_toHost_7 : decode cX12_toHost 7 = .ok (.bipush 11, 2) := by decide +kernel
theorem dX12_toHost_9 : decode cX12_toHost 9 = .ok (.if_icmp .ne 11, 3) := by decide +kernel
theorem dX12_toHost_12 : decode cX12_toHost 12 = .ok (.aload_n 0, 1) := by decide +kernel
theorem dX12_toHost_13 : decode cX12_toHost 13 = .ok (.iload_n 1, 1) := by decide +kernel
theorem dX12_toHost_14 : decode cX12_toHost 14 = .ok (.invokevirtual 305, 3) := by decide +kernel
theorem dX12_toHost_17 : decode cX12_toHost 17 = .ok (.ifCond .ne 5, 3) := by decide +kernel
theorem dX12_toHost_20 : decode cX12_toHost 20 = .ok (.iconst 0, 1) := by decide +kernel
theorem dX12_toHost_21 : decode cX12_toHost 21 = .ok (.ireturn, 1) := by decide +kernel
theorem dX12_toHost_22 : decode cX12_toHost 22 = .ok (.iload_n 1, 1) := by decide +kernel
theorem dX12_toHost_23 : decode cX12_toHost 23 = .ok (.bipush 11, 2) := by decide +kernel
theorem dX12_toHost_25 : decode cX12_toHost 25 = .ok (.if_icmp .ne 86, 3) := by decide +kernel
theorem dX12_toHost_28 : decode cX12_toHost 28 = .ok (.aload_n 0, 1) := by decide +kernel
theorem dX12_toHost_29 : decode cX12_toHost 29 = .ok (.iconst 2, 1) := by decide +kernel
theorem dX12_toHost_30 : decode cX12_toHost 30 = .ok (.invokevirtual 308, 3) := by decide +kernel
theorem dX12_toHost_33 : decode cX12_toHost 33 = .ok (.istore_n 2, 1) := by decide +kernel
theorem dX12_toHost_34 : decode cX12_toHost 34 = .ok (.iconst 0, 1) := by decide +kernel
theorem dX12_toHost_35 : decode cX12_toHost 35 = .ok (.istore_n 3, 1) := by decide +kernel
theorem dX12_toHost_36 : decode cX12_toHost 36 = .ok (.iload_n 3, 1) := by decide +kernel
theorem dX12_toHost_37 : decode cX12_toHost 37 = .ok (.aload_n 0, 1) := by decide +kernel
theorem dX12_toHost_38 : decode cX12_toHost 38 = .ok (.getfield 302, 3) := by decide +kernel
theorem dX12_toHost_41 : decode cX12_toHost 41 = .ok (.if_icmp .ge 59, 3) := by decide +kernel
theorem dX12_toHost_44 : decode cX12_toHost 44 = .ok (.iload_n 2, 1) := by decide +kernel
theorem dX12_toHost_45 : decode cX12_toHost 45 = .ok (.ifCond .eq 47, 3) := by decide +kernel
theorem dX12_toHost_48 : decode cX12_toHost 48 = .ok (.aload_n 0, 1) := by decide +kernel
theorem dX12_toHost_49 : decode cX12_toHost 49 = .ok (.getfield 157, 3) := by decide +kernel
theorem dX12_toHost_52 : decode cX12_toHost 52 = .ok (.bipush 7, 2) := by decide +kernel
theorem dX12_toHost_54 : decode cX12_toHost 54 = .ok (.iload_n 3, 1) := by decide +kernel
theorem dX12_toHost_55 : decode cX12_toHost 55 = .ok (.imul, 1) := by decide +kernel
theorem dX12_toHost_56 : decode cX12_toHost 56 = .ok (.laload, 1) := by decide +kernel
theorem dX12_toHost_57 : decode cX12_toHost 57 = .ok (.aload_n 0, 1) := by decide +kernel
theorem dX12_toHost_58 : decode cX12_toHost 58 = .ok (.getfield 45, 3) := by decide +kernel
theorem dX12_toHost_61 : decode cX12_toHost 61 = .ok (.iconst 1, 1) := by decide +kernel
theorem dX12_toHost_62 : decode cX12_toHost 62 = .ok (.laload, 1) := by decide +kernel
theorem dX12_toHost_63 : decode cX12_toHost 63 = .ok (.lcmp, 1) := by decide +kernel
theorem dX12_toHost_64 : decode cX12_toHost 64 = .ok (.ifCond .ne 24, 3) := by decide +kernel
theorem dX12_toHost_67 : decode cX12_toHost 67 = .ok (.aload_n 0, 1) := by decide +kernel
theorem dX12_toHost_68 : decode cX12_toHost 68 = .ok (.getfield 157, 3) := by decide +kernel
theorem dX12_toHost_71 : decode cX12_toHost 71 = .ok (.bipush 7, 2) := by decide +kernel
theorem dX12_toHost_73 : decode cX12_toHost 73 = .ok (.iload_n 3, 1) := by decide +kernel
theorem dX12_toHost_74 : decode cX12_toHost 74 = .ok (.imul, 1) := by decide +kernel
theorem dX12_toHost_75 : decode cX12_toHost 75 = .ok (.iconst 1, 1) := by decide +kernel
theorem dX12_toHost_76 : decode cX12_toHost 76 = .ok (.iadd, 1) := by decide +kernel
theorem dX12_toHost_77 : decode cX12_toHost 77 = .ok (.laload, 1) := by decide +kernel
theorem dX12_toHost_78 : decode cX12_toHost 78 = .ok (.aload_n 0, 1) := by decide +kernel
theorem dX12_toHost_79 : decode cX12_toHost 79 = .ok (.getfield 45, 3) := by decide +kernel
theorem dX12_toHost_82 : decode cX12_toHost 82 = .ok (.iconst 2, 1) := by decide +kernel
theorem dX12_toHost_83 : decode cX12_toHost 83 = .ok (.laload, 1) := by decide +kernel
theorem dX12_toHost_84 : decode cX12_toHost 84 = .ok (.lcmp, 1) := by decide +kernel
theorem dX12_toHost_85 : decode cX12_toHost 85 = .ok (.ifCond .eq 7, 3) := by decide +kernel
theorem dX12_toHost_88 : decode cX12_toHost 88 = .ok (.iconst 1, 1) := by decide +kernel
theorem dX12_toHost_89 : decode cX12_toHost 89 = .ok (.goto 4, 3) := by decide +kernel
theorem dX12_toHost_92 : decode cX12_toHost 92 = .ok (.iconst 0, 1) := by decide +kernel
theorem dX12_toHost_93 : decode cX12_toHost 93 = .ok (.istore_n 2, 1) := by decide +kernel
theorem dX12_toHost_94 : decode cX12_toHost 94 = .ok (.iinc 3 1, 3) := by decide +kernel
theorem dX12_toHost_97 : decode cX12_toHost 97 = .ok (.goto (-61), 3) := by decide +kernel
theorem dX12_toHost_100 : decode cX12_toHost 100 = .ok (.iload_n 2, 1) := by decide +kernel
theorem dX12_toHost_101 : decode cX12_toHost 101 = .ok (.ifCond .eq 8, 3) := by decide +kernel
theorem dX12_toHost_104 : decode cX12_toHost 104 = .ok (.aload_n 0, 1) := by decide +kernel
theorem dX12_toHost_105 : decode cX12_toHost 105 = .ok (.iconst 2, 1) := by decide +kernel
theorem dX12_toHost_106 : decode cX12_toHost 106 = .ok (.invokevirtual 311, 3) := by decide +kernel
theorem dX12_toHost_109 : decode cX12_toHost 109 = .ok (.iload_n 2, 1) := by decide +kernel
theorem dX12_toHost_110 : decode cX12_toHost 110 = .ok (.ireturn, 1) := by decide +kernel
theorem dX12_toHost_111 : decode cX12_toHost 111 = .ok (.aload_n 0, 1) := by decide +kernel
theorem dX12_toHost_112 : decode cX12_toHost 112 = .ok (.iconst 1, 1) := by decide +kernel
theorem dX12_toHost_113 : decode cX12_toHost 113 = .ok (.invokevirtual 308, 3) := by decide +kernel
theorem dX12_toHost_116 : decode cX12_toHost 116 = .ok (.ifCond .eq 30, 3) := by decide +kernel
theorem dX12_toHost_119 : decode cX12_toHost 119 = .ok (.aload_n 0, 1) := by decide +kernel
theorem dX12_toHost_120 : decode cX12_toHost 120 = .ok (.getfield 45, 3) := by decide +kernel
theorem dX12_toHost_123 : decode cX12_toHost 123 = .ok (.iconst 2, 1) := by decide +kernel
theorem dX12_toHost_124 : decode cX12_toHost 124 = .ok (.laload, 1) := by decide +kernel
theorem dX12_toHost_125 : decode cX12_toHost 125 = .ok (.aload_n 0, 1) := by decide +kernel
theorem dX12_toHost_126 : decode cX12_toHost 126 = .ok (.getfield 66, 3) := by decide +kernel
theorem dX12_toHost_129 : decode cX12_toHost 129 = .ok (.aload_n 0, 1) := by decide +kernel
theorem dX12_toHost_130 : decode cX12_toHost 130 = .ok (.getfield 45, 3) := by decide +kernel
theorem dX12_toHost_133 : decode cX12_toHost 133 = .ok (.iconst 1, 1) := by decide +kernel
theorem dX12_toHost_134 : decode cX12_toHost 134 = .ok (.laload, 1) := by decide +kernel
theorem dX12_toHost_135 : decode cX12_toHost 135 = .ok (.l2i, 1) := by decide +kernel
theorem dX12_toHost_136 : decode cX12_toHost 136 = .ok (.iaload, 1) := by decide +kernel
theorem dX12_toHost_137 : decode cX12_toHost 137 = .ok (.i2l, 1) := by decide +kernel
theorem dX12_toHost_138 : decode cX12_toHost 138 = .ok (.lcmp, 1) := by decide +kernel
theorem dX12_toHost_139 : decode cX12_toHost 139 = .ok (.ifCond .le 7, 3) := by decide +kernel
theorem dX12_toHost_142 : decode cX12_toHost 142 = .ok (.iconst 1, 1) := by decide +kernel
theorem dX12_toHost_143 : decode cX12_toHost 143 = .ok (.goto 4, 3) := by decide +kernel
theorem dX12_toHost_146 : decode cX12_toHost 146 = .ok (.iconst 0, 1) := by decide +kernel
theorem dX12_toHost_147 : decode cX12_toHost 147 = .ok (.istore_n 2, 1) := by decide +kernel
theorem dX12_toHost_148 : decode cX12_toHost 148 = .ok (.iconst 0, 1) := by decide +kernel
theorem dX12_toHost_149 : decode cX12_toHost 149 = .ok (.istore_n 3, 1) := by decide +kernel
theorem dX12_toHost_150 : decode cX12_toHost 150 = .ok (.iload_n 2, 1) := by decide +kernel
theorem dX12_toHost_151 : decode cX12_toHost 151 = .ok (.ifCond .eq 58, 3) := by decide +kernel
theorem dX12_toHost_154 : decode cX12_toHost 154 = .ok (.aload_n 0, 1) := by decide +kernel
theorem dX12_toHost_155 : decode cX12_toHost 155 = .ok (.getfield 45, 3) := by decide +kernel
theorem dX12_toHost_158 : decode cX12_toHost 158 = .ok (.iconst 1, 1) := by decide +kernel
theorem dX12_toHost_159 : decode cX12_toHost 159 = .ok (.laload, 1) := by decide +kernel
theorem dX12_toHost_160 : decode cX12_toHost 160 = .ok (.l2i, 1) := by decide +kernel
theorem dX12_toHost_161 : decode cX12_toHost 161 = .ok (.istore 4, 2) := by decide +kernel
theorem dX12_toHost_163 : decode cX12_toHost 163 = .ok (.aload_n 0, 1) := by decide +kernel
theorem dX12_toHost_164 : decode cX12_toHost 164 = .ok (.getfield 66, 3) := by decide +kernel
theorem dX12_toHost_167 : decode cX12_toHost 167 = .ok (.iload 4, 2) := by decide +kernel
theorem dX12_toHost_169 : decode cX12_toHost 169 = .ok (.aload_n 0, 1) := by decide +kernel
theorem dX12_toHost_170 : decode cX12_toHost 170 = .ok (.getfield 45, 3) := by decide +kernel
theorem dX12_toHost_173 : decode cX12_toHost 173 = .ok (.iconst 2, 1) := by decide +kernel
theorem dX12_toHost_174 : decode cX12_toHost 174 = .ok (.laload, 1) := by decide +kernel
theorem dX12_toHost_175 : decode cX12_toHost 175 = .ok (.l2i, 1) := by decide +kernel
theorem dX12_toHost_176 : decode cX12_toHost 176 = .ok (.iastore, 1) := by decide +kernel
theorem dX12_toHost_177 : decode cX12_toHost 177 = .ok (.aload_n 0, 1) := by decide +kernel
theorem dX12_toHost_178 : decode cX12_toHost 178 = .ok (.getfield 63, 3) := by decide +kernel
theorem dX12_toHost_181 : decode cX12_toHost 181 = .ok (.iload 4, 2) := by decide +kernel
theorem dX12_toHost_183 : decode cX12_toHost 183 = .ok (.laload, 1) := by decide +kernel
theorem dX12_toHost_184 : decode cX12_toHost 184 = .ok (.aload_n 0, 1) := by decide +kernel
theorem dX12_toHost_185 : decode cX12_toHost 185 = .ok (.getfield 45, 3) := by decide +kernel
theorem dX12_toHost_188 : decode cX12_toHost 188 = .ok (.iconst 3, 1) := by decide +kernel
theorem dX12_toHost_189 : decode cX12_toHost 189 = .ok (.laload, 1) := by decide +kernel
theorem dX12_toHost_190 : decode cX12_toHost 190 = .ok (.lcmp, 1) := by decide +kernel
theorem dX12_toHost_191 : decode cX12_toHost 191 = .ok (.ifCond .lt 7, 3) := by decide +kernel
theorem dX12_toHost_194 : decode cX12_toHost 194 = .ok (.iconst 1, 1) := by decide +kernel
theorem dX12_toHost_195 : decode cX12_toHost 195 = .ok (.goto 4, 3) := by decide +kernel
theorem dX12_toHost_198 : decode cX12_toHost 198 = .ok (.iconst 0, 1) := by decide +kernel
theorem dX12_toHost_199 : decode cX12_toHost 199 = .ok (.istore_n 3, 1) := by decide +kernel
theorem dX12_toHost_200 : decode cX12_toHost 200 = .ok (.iload_n 3, 1) := by decide +kernel
theorem dX12_toHost_201 : decode cX12_toHost 201 = .ok (.ifCond .eq 8, 3) := by decide +kernel
theorem dX12_toHost_204 : decode cX12_toHost 204 = .ok (.aload_n 0, 1) := by decide +kernel
theorem dX12_toHost_205 : decode cX12_toHost 205 = .ok (.iconst 1, 1) := by decide +kernel
theorem dX12_toHost_206 : decode cX12_toHost 206 = .ok (.invokevirtual 311, 3) := by decide +kernel
theorem dX12_toHost_209 : decode cX12_toHost 209 = .ok (.iload_n 3, 1) := by decide +kernel
theorem dX12_toHost_210 : decode cX12_toHost 210 = .ok (.ifCond .eq 7, 3) := by decide +kernel
theorem dX12_toHost_213 : decode cX12_toHost 213 = .ok (.lconst 1, 1) := by decide +kernel
theorem dX12_toHost_214 : decode cX12_toHost 214 = .ok (.goto 4, 3) := by decide +kernel
theorem dX12_toHost_217 : decode cX12_toHost 217 = .ok (.lconst 0, 1) := by decide +kernel
theorem dX12_toHost_218 : decode cX12_toHost 218 = .ok (.lstore 4, 2) := by decide +kernel
theorem dX12_toHost_220 : decode cX12_toHost 220 = .ok (.aload_n 0, 1) := by decide +kernel
theorem dX12_toHost_221 : decode cX12_toHost 221 = .ok (.getfield 48, 3) := by decide +kernel
theorem dX12_toHost_224 : decode cX12_toHost 224 = .ok (.iconst 1, 1) := by decide +kernel
theorem dX12_toHost_225 : decode cX12_toHost 225 = .ok (.aload_n 0, 1) := by decide +kernel
theorem dX12_toHost_226 : decode cX12_toHost 226 = .ok (.getfield 45, 3) := by decide +kernel
theorem dX12_toHost_229 : decode cX12_toHost 229 = .ok (.iconst 1, 1) := by decide +kernel
theorem dX12_toHost_230 : decode cX12_toHost 230 = .ok (.laload, 1) := by decide +kernel
theorem dX12_toHost_231 : decode cX12_toHost 231 = .ok (.lastore, 1) := by decide +kernel
theorem dX12_toHost_232 : decode cX12_toHost 232 = .ok (.aload_n 0, 1) := by decide +kernel
theorem dX12_toHost_233 : decode cX12_toHost 233 = .ok (.getfield 48, 3) := by decide +kernel
theorem dX12_toHost_236 : decode cX12_toHost 236 = .ok (.iconst 2, 1) := by decide +kernel
theorem dX12_toHost_237 : decode cX12_toHost 237 = .ok (.aload_n 0, 1) := by decide +kernel
theorem dX12_toHost_238 : decode cX12_toHost 238 = .ok (.getfield 45, 3) := by decide +kernel
theorem dX12_toHost_241 : decode cX12_toHost 241 = .ok (.iconst 2, 1) := by decide +kernel
theorem dX12_toHost_242 : decode cX12_toHost 242 = .ok (.laload, 1) := by decide +kernel
theorem dX12_toHost_243 : decode cX12_toHost 243 = .ok (.lastore, 1) := by decide +kernel
theorem dX12_toHost_244 : decode cX12_toHost 244 = .ok (.aload_n 0, 1) := by decide +kernel
theorem dX12_toHost_245 : decode cX12_toHost 245 = .ok (.ldc2_w 255, 3) := by decide +kernel
theorem dX12_toHost_248 : decode cX12_toHost 248 = .ok (.invokevirtual 227, 3) := by decide +kernel
theorem dX12_toHost_251 : decode cX12_toHost 251 = .ok (.aload_n 0, 1) := by decide +kernel
theorem dX12_toHost_252 : decode cX12_toHost 252 = .ok (.aload_n 0, 1) := by decide +kernel
theorem dX12_toHost_253 : decode cX12_toHost 253 = .ok (.getfield 45, 3) := by decide +kernel
theorem dX12_toHost_256 : decode cX12_toHost 256 = .ok (.iconst 1, 1) := by decide +kernel
theorem dX12_toHost_257 : decode cX12_toHost 257 = .ok (.laload, 1) := by decide +kernel
theorem dX12_toHost_258 : decode cX12_toHost 258 = .ok (.invokevirtual 231, 3) := by decide +kernel
theorem dX12_toHost_261 : decode cX12_toHost 261 = .ok (.aload_n 0, 1) := by decide +kernel
theorem dX12_toHost_262 : decode cX12_toHost 262 = .ok (.aload_n 0, 1) := by decide +kernel
theorem dX12_toHost_263 : decode cX12_toHost 263 = .ok (.getfield 45, 3) := by decide +kernel
theorem dX12_toHost_266 : decode cX12_toHost 266 = .ok (.iconst 2, 1) := by decide +kernel
theorem dX12_toHost_267 : decode cX12_toHost 267 = .ok (.laload, 1) := by decide +kernel
theorem dX12_toHost_268 : decode cX12_toHost 268 = .ok (.invokevirtual 231, 3) := by decide +kernel
theorem dX12_toHost_271 : decode cX12_toHost 271 = .ok (.aload_n 0, 1) := by decide +kernel
theorem dX12_toHost_272 : decode cX12_toHost 272 = .ok (.lload 4, 2) := by decide +kernel
theorem dX12_toHost_274 : decode cX12_toHost 274 = .ok (.invokevirtual 231, 3) := by decide +kernel
theorem dX12_toHost_277 : decode cX12_toHost 277 = .ok (.aload_n 0, 1) := by decide +kernel
theorem dX12_toHost_278 : decode cX12_toHost 278 = .ok (.getfield 48, 3) := by decide +kernel
theorem dX12_toHost_281 : decode cX12_toHost 281 = .ok (.bipush 8, 2) := by decide +kernel
theorem dX12_toHost_283 : decode cX12_toHost 283 = .ok (.aload_n 0, 1) := by decide +kernel
theorem dX12_toHost_284 : decode cX12_toHost 284 = .ok (.iconst 2, 1) := by decide +kernel
theorem dX12_toHost_285 : decode cX12_toHost 285 = .ok (.aload_n 0, 1) := by decide +kernel
theorem dX12_toHost_286 : decode cX12_toHost 286 = .ok (.getfield 45, 3) := by decide +kernel
theorem dX12_toHost_289 : decode cX12_toHost 289 = .ok (.iconst 1, 1) := by decide +kernel
theorem dX12_toHost_290 : decode cX12_toHost 290 = .ok (.laload, 1) := by decide +kernel
theorem dX12_toHost_291 : decode cX12_toHost 291 = .ok (.invokevirtual 234, 3) := by decide +kernel
theorem dX12_toHost_294 : decode cX12_toHost 294 = .ok (.i2l, 1) := by decide +kernel
theorem dX12_toHost_295 : decode cX12_toHost 295 = .ok (.lastore, 1) := by decide +kernel
theorem dX12_toHost_296 : decode cX12_toHost 296 = .ok (.aload_n 0, 1) := by decide +kernel
theorem dX12_toHost_297 : decode cX12_toHost 297 = .ok (.aload_n 0, 1) := by decide +kernel
theorem dX12_toHost_298 : decode cX12_toHost 298 = .ok (.getfield 45, 3) := by decide +kernel
theorem dX12_toHost_301 : decode cX12_toHost 301 = .ok (.iconst 3, 1) := by decide +kernel
theorem dX12_toHost_302 : decode cX12_toHost 302 = .ok (.laload, 1) := by decide +kernel
theorem dX12_toHost_303 : decode cX12_toHost 303 = .ok (.invokevirtual 231, 3) := by decide +kernel
theorem dX12_toHost_306 : decode cX12_toHost 306 = .ok (.aload_n 0, 1) := by decide +kernel
theorem dX12_toHost_307 : decode cX12_toHost 307 = .ok (.getfield 48, 3) := by decide +kernel
theorem dX12_toHost_310 : decode cX12_toHost 310 = .ok (.bipush 10, 2) := by decide +kernel
theorem dX12_toHost_312 : decode cX12_toHost 312 = .ok (.lload 4, 2) := by decide +kernel
theorem dX12_toHost_314 : decode cX12_toHost 314 = .ok (.lastore, 1) := by decide +kernel
theorem dX12_toHost_315 : decode cX12_toHost 315 = .ok (.aload_n 0, 1) := by decide +kernel
theorem dX12_toHost_316 : decode cX12_toHost 316 = .ok (.getfield 48, 3) := by decide +kernel
theorem dX12_toHost_319 : decode cX12_toHost 319 = .ok (.bipush 11, 2) := by decide +kernel
theorem dX12_toHost_321 : decode cX12_toHost 321 = .ok (.aload_n 0, 1) := by decide +kernel
theorem dX12_toHost_322 : decode cX12_toHost 322 = .ok (.iconst 1, 1) := by decide +kernel
theorem dX12_toHost_323 : decode cX12_toHost 323 = .ok (.aload_n 0, 1) := by decide +kernel
theorem dX12_toHost_324 : decode cX12_toHost 324 = .ok (.getfield 45, 3) := by decide +kernel
theorem dX12_toHost_327 : decode cX12_toHost 327 = .ok (.iconst 5, 1) := by decide +kernel
theorem dX12_toHost_328 : decode cX12_toHost 328 = .ok (.laload, 1) := by decide +kernel
theorem dX12_toHost_329 : decode cX12_toHost 329 = .ok (.invokevirtual 234, 3) := by decide +kernel
theorem dX12_toHost_332 : decode cX12_toHost 332 = .ok (.i2l, 1) := by decide +kernel
theorem dX12_toHost_333 : decode cX12_toHost 333 = .ok (.lastore, 1) := by decide +kernel
theorem dX12_toHost_334 : decode cX12_toHost 334 = .ok (.aload_n 0, 1) := by decide +kernel
theorem dX12_toHost_335 : decode cX12_toHost 335 = .ok (.bipush 8, 2) := by decide +kernel
theorem dX12_toHost_337 : decode cX12_toHost 337 = .ok (.iconst 2, 1) := by decide +kernel
theorem dX12_toHost_338 : decode cX12_toHost 338 = .ok (.iconst 0, 1) := by decide +kernel
theorem dX12_toHost_339 : decode cX12_toHost 339 = .ok (.iconst 1, 1) := by decide +kernel
theorem dX12_toHost_340 : decode cX12_toHost 340 = .ok (.aload_n 0, 1) := by decide +kernel
theorem dX12_toHost_341 : decode cX12_toHost 341 = .ok (.getfield 45, 3) := by decide +kernel
theorem dX12_toHost_344 : decode cX12_toHost 344 = .ok (.iconst 5, 1) := by decide +kernel
theorem dX12_toHost_345 : decode cX12_toHost 345 = .ok (.laload, 1) := by decide +kernel
theorem dX12_toHost_346 : decode cX12_toHost 346 = .ok (.l2i, 1) := by decide +kernel
theorem dX12_toHost_347 : decode cX12_toHost 347 = .ok (.invokevirtual 217, 3) := by decide +kernel
theorem dX12_toHost_350 : decode cX12_toHost 350 = .ok (.pop, 1) := by decide +kernel
theorem dX12_toHost_351 : decode cX12_toHost 351 = .ok (.iconst 1, 1) := by decide +kernel
theorem dX12_toHost_352 : decode cX12_toHost 352 = .ok (.ireturn, 1) := by decide +kernel
theorem dX12_card_0 : decode cX12_card 0 = .ok (.aload_n 0, 1) := by decide +kernel
theorem dX12_card_1 : decode cX12_card 1 = .ok (.getfield 286, 3) := by decide +kernel
theorem dX12_card_4 : decode cX12_card 4 = .ok (.bipush 16, 2) := by decide +kernel
theorem dX12_card_6 : decode cX12_card 6 = .ok (.if_icmp .eq 51, 3) := by decide +kernel
theorem dX12_card_9 : decode cX12_card 9 = .ok (.iload_n 1, 1) := by decide +kernel
theorem dX12_card_10 : decode cX12_card 10 = .ok (.i2l, 1) := by decide +kernel
theorem dX12_card_11 : decode cX12_card 11 = .ok (.lconst 0, 1) := by decide +kernel
theorem dX12_card_12 : decode cX12_card 12 = .ok (.ldc2_w 314, 3) := by decide +kernel
theorem dX12_card_15 : decode cX12_card 15 = .ok (.invokestatic 316, 3) := by decide +kernel
theorem dX12_card_18 : decode cX12_card 18 = .ok (.ifCond .eq 39, 3) := by decide +kernel
theorem dX12_card_21 : decode cX12_card 21 = .ok (.lload_n 2, 1) := by decide +kernel
theorem dX12_card_22 : decode cX12_card 22 = .ok (.lconst 0, 1) := by decide +kernel
theorem dX12_card_23 : decode cX12_card 23 = .ok (.ldc2_w 320, 3) := by decide +kernel
theorem dX12_card_26 : decode cX12_card 26 = .ok (.invokestatic 316, 3) := by decide +kernel
theorem dX12_card_29 : decode cX12_card 29 = .ok (.ifCond .eq 28, 3) := by decide +kernel
theorem dX12_card_32 : decode cX12_card 32 = .ok (.iload 4, 2) := by decide +kernel
theorem dX12_card_34 : decode cX12_card 34 = .ok (.i2l, 1) := by decide +kernel
theorem dX12_card_35 : decode cX12_card 35 = .ok (.lconst 0, 1) := by decide +kernel
theorem dX12_card_36 : decode cX12_card 36 = .ok (.ldc2_w 322, 3) := by decide +kernel
theorem dX12_card_39 : decode cX12_card 39 = .ok (.invokestatic 316, 3) := by decide +kernel
theorem dX12_card_42 : decode cX12_card 42 = .ok (.ifCond .eq 15, 3) := by decide +kernel
theorem dX12_card_45 : decode cX12_card 45 = .ok (.lload 5, 2) := by decide +kernel
theorem dX12_card_47 : decode cX12_card 47 = .ok (.lconst 0, 1) := by decide +kernel
theorem dX12_card_48 : decode cX12_card 48 = .ok (.ldc2_w 324, 3) := by decide +kernel
theorem dX12_card_51 : decode cX12_card 51 = .ok (.invokestatic 316, 3) := by decide +kernel
theorem dX12_card_54 : decode cX12_card 54 = .ok (.ifCond .ne 5, 3) := by decide +kernel
theorem dX12_card_57 : decode cX12_card 57 = .ok (.iconst (-1), 1) := by decide +kernel
theorem dX12_card_58 : decode cX12_card 58 = .ok (.ireturn, 1) := by decide +kernel
theorem dX12_card_59 : decode cX12_card 59 = .ok (.aload_n 0, 1) := by decide +kernel
theorem dX12_card_60 : decode cX12_card 60 = .ok (.getfield 54, 3) := by decide +kernel
theorem dX12_card_63 : decode cX12_card 63 = .ok (.aload_n 0, 1) := by decide +kernel
theorem dX12_card_64 : decode cX12_card 64 = .ok (.getfield 286, 3) := by decide +kernel
theorem dX12_card_67 : decode cX12_card 67 = .ok (.iload_n 1, 1) := by decide +kernel
theorem dX12_card_68 : decode cX12_card 68 = .ok (.iastore, 1) := by decide +kernel
theorem dX12_card_69 : decode cX12_card 69 = .ok (.aload_n 0, 1) := by decide +kernel
theorem dX12_card_70 : decode cX12_card 70 = .ok (.getfield 57, 3) := by decide +kernel
theorem dX12_card_73 : decode cX12_card 73 = .ok (.aload_n 0, 1) := by decide +kernel
theorem dX12_card_74 : decode cX12_card 74 = .ok (.getfield 286, 3) := by decide +kernel
theorem dX12_card_77 : decode cX12_card 77 = .ok (.lload_n 2, 1) := by decide +kernel
theorem dX12_card_78 : decode cX12_card 78 = .ok (.lastore, 1) := by decide +kernel
theorem dX12_card_79 : decode cX12_card 79 = .ok (.aload_n 0, 1) := by decide +kernel
theorem dX12_card_80 : decode cX12_card 80 = .ok (.getfield 60, 3) := by decide +kernel
theorem dX12_card_83 : decode cX12_card 83 = .ok (.aload_n 0, 1) := by decide +kernel
theorem dX12_card_84 : decode cX12_card 84 = .ok (.getfield 286, 3) := by decide +kernel
theorem dX12_card_87 : decode cX12_card 87 = .ok (.iload 4, 2) := by decide +kernel
theorem dX12_card_89 : decode cX12_card 89 = .ok (.iastore, 1) := by decide +kernel
theorem dX12_card_90 : decode cX12_card 90 = .ok (.aload_n 0, 1) := by decide +kernel
theorem dX12_card_91 : decode cX12_card 91 = .ok (.getfield 63, 3) := by decide +kernel
theorem dX12_card_94 : decode cX12_card 94 = .ok (.aload_n 0, 1) := by decide +kernel
theorem dX12_card_95 : decode cX12_card 95 = .ok (.getfield 286, 3) := by decide +kernel
theorem dX12_card_98 : decode cX12_card 98 = .ok (.lload 5, 2) := by decide +kernel
theorem dX12_card_100 : decode cX12_card 100 = .ok (.lastore, 1) := by decide +kernel
theorem dX12_card_101 : decode cX12_card 101 = .ok (.aload_n 0, 1) := by decide +kernel
theorem dX12_card_102 : decode cX12_card 102 = .ok (.getfield 72, 3) := by decide +kernel
theorem dX12_card_105 : decode cX12_card 105 = .ok (.aload_n 0, 1) := by decide +kernel
theorem dX12_card_106 : decode cX12_card 106 = .ok (.getfield 286, 3) := by decide +kernel
theorem dX12_card_109 : decode cX12_card 109 = .ok (.iconst 3, 1) := by decide +kernel
theorem dX12_card_110 : decode cX12_card 110 = .ok (.iastore, 1) := by decide +kernel
theorem dX12_card_111 : decode cX12_card 111 = .ok (.aload_n 0, 1) := by decide +kernel
theorem dX12_card_112 : decode cX12_card 112 = .ok (.getfield 93, 3) := by decide +kernel
theorem dX12_card_115 : decode cX12_card 115 = .ok (.aload_n 0, 1) := by decide +kernel
theorem dX12_card_116 : decode cX12_card 116 = .ok (.getfield 286, 3) := by decide +kernel
theorem dX12_card_119 : decode cX12_card 119 = .ok (.iconst (-1), 1) := by decide +kernel
theorem dX12_card_120 : decode cX12_card 120 = .ok (.iastore, 1) := by decide +kernel
theorem dX12_card_121 : decode cX12_card 121 = .ok (.aload_n 0, 1) := by decide +kernel
theorem dX12_card_122 : decode cX12_card 122 = .ok (.dup, 1) := by decide +kernel
theorem dX12_card_123 : decode cX12_card 123 = .ok (.getfield 286, 3) := by decide +kernel
theorem dX12_card_126 : decode cX12_card 126 = .ok (.iconst 1, 1) := by decide +kernel
theorem dX12_card_127 : decode cX12_card 127 = .ok (.iadd, 1) := by decide +kernel
theorem dX12_card_128 : decode cX12_card 128 = .ok (.putfield 286, 3) := by decide +kernel
theorem dX12_card_131 : decode cX12_card 131 = .ok (.aload_n 0, 1) := by decide +kernel
theorem dX12_card_132 : decode cX12_card 132 = .ok (.getfield 286, 3) := by decide +kernel
theorem dX12_card_135 : decode cX12_card 135 = .ok (.iconst 1, 1) := by decide +kernel
theorem dX12_card_136 : decode cX12_card 136 = .ok (.isub, 1) := by decide +kernel
theorem dX12_card_137 : decode cX12_card 137 = .ok (.ireturn, 1) := by decide +kernel
theorem dX12_terminal_0 : decode cX12_terminal 0 = .ok (.aload_n 0, 1) := by decide +kernel
theorem dX12_terminal_1 : decode cX12_terminal 1 = .ok (.getfield 299, 3) := by decide +kernel
theorem dX12_terminal_4 : decode cX12_terminal 4 = .ok (.bipush 8, 2) := by decide +kernel
theorem dX12_terminal_6 : decode cX12_terminal 6 = .ok (.if_icmp .eq 25, 3) := by decide +kernel
theorem dX12_terminal_9 : decode cX12_terminal 9 = .ok (.lload_n 1, 1) := by decide +kernel
theorem dX12_terminal_10 : decode cX12_terminal 10 = .ok (.lconst 0, 1) := by decide +kernel
theorem dX12_terminal_11 : decode cX12_terminal 11 = .ok (.ldc2_w 320, 3) := by decide +kernel
theorem dX12_terminal_14 : decode cX12_terminal 14 = .ok (.invokestatic 316, 3) := by decide +kernel
theorem dX12_terminal_17 : decode cX12_terminal 17 = .ok (.ifCond .eq 14, 3) := by decide +kernel
theorem dX12_terminal_20 : decode cX12_terminal 20 = .ok (.lload_n 3, 1) := by decide +kernel
theorem dX12_terminal_21 : decode cX12_terminal 21 = .ok (.lconst 0, 1) := by decide +kernel
theorem dX12_terminal_22 : decode cX12_terminal 22 = .ok (.ldc2_w 320, 3) := by decide +kernel
theorem dX12_terminal_25 : decode cX12_terminal 25 = .ok (.invokestatic 316, 3) := by decide +kernel
theorem dX12_terminal_28 : decode cX12_terminal 28 = .ok (.ifCond .ne 5, 3) := by decide +kernel
theorem dX12_terminal_31 : decode cX12_terminal 31 = .ok (.iconst (-1), 1) := by decide +kernel
theorem dX12_terminal_32 : decode cX12_terminal 32 = .ok (.ireturn, 1) := by decide +kernel
theorem dX12_terminal_33 : decode cX12_terminal 33 = .ok (.aload_n 0, 1) := by decide +kernel
theorem dX12_terminal_34 : decode cX12_terminal 34 = .ok (.getfield 96, 3) := by decide +kernel
theorem dX12_terminal_37 : decode cX12_terminal 37 = .ok (.aload_n 0, 1) := by decide +kernel
theorem dX12_terminal_38 : decode cX12_terminal 38 = .ok (.getfield 299, 3) := by decide +kernel
theorem dX12_terminal_41 : decode cX12_terminal 41 = .ok (.lload_n 1, 1) := by decide +kernel
theorem dX12_terminal_42 : decode cX12_terminal 42 = .ok (.lastore, 1) := by decide +kernel
theorem dX12_terminal_43 : decode cX12_terminal 43 = .ok (.aload_n 0, 1) := by decide +kernel
theorem dX12_terminal_44 : decode cX12_terminal 44 = .ok (.getfield 99, 3) := by decide +kernel
theorem dX12_terminal_47 : decode cX12_terminal 47 = .ok (.aload_n 0, 1) := by decide +kernel
theorem dX12_terminal_48 : decode cX12_terminal 48 = .ok (.getfield 299, 3) := by decide +kernel
theorem dX12_terminal_51 : decode cX12_terminal 51 = .ok (.lload_n 3, 1) := by decide +kernel
theorem dX12_terminal_52 : decode cX12_terminal 52 = .ok (.lastore, 1) := by decide +kernel
theorem dX12_terminal_53 : decode cX12_terminal 53 = .ok (.aload_n 0, 1) := by decide +kernel
theorem dX12_terminal_54 : decode cX12_terminal 54 = .ok (.getfield 102, 3) := by decide +kernel
theorem dX12_terminal_57 : decode cX12_terminal 57 = .ok (.aload_n 0, 1) := by decide +kernel
theorem dX12_terminal_58 : decode cX12_terminal 58 = .ok (.getfield 299, 3) := by decide +kernel
theorem dX12_terminal_61 : decode cX12_terminal 61 = .ok (.ldc2_w 326, 3) := by decide +kernel
theorem dX12_terminal_64 : decode cX12_terminal 64 = .ok (.aload_n 0, 1) := by decide +kernel
theorem dX12_terminal_65 : decode cX12_terminal 65 = .ok (.getfield 299, 3) := by decide +kernel
theorem dX12_terminal_68 : decode cX12_terminal 68 = .ok (.i2l, 1) := by decide +kernel
theorem dX12_terminal_69 : decode cX12_terminal 69 = .ok (.ladd, 1) := by decide +kernel
theorem dX12_terminal_70 : decode cX12_terminal 70 = .ok (.lastore, 1) := by decide +kernel
theorem dX12_terminal_71 : decode cX12_terminal 71 = .ok (.aload_n 0, 1) := by decide +kernel
theorem dX12_terminal_72 : decode cX12_terminal 72 = .ok (.dup, 1) := by decide +kernel
theorem dX12_terminal_73 : decode cX12_terminal 73 = .ok (.getfield 299, 3) := by decide +kernel
theorem dX12_terminal_76 : decode cX12_terminal 76 = .ok (.iconst 1, 1) := by decide +kernel
theorem dX12_terminal_77 : decode cX12_terminal 77 = .ok (.iadd, 1) := by decide +kernel
theorem dX12_terminal_78 : decode cX12_terminal 78 = .ok (.putfield 299, 3) := by decide +kernel
theorem dX12_terminal_81 : decode cX12_terminal 81 = .ok (.aload_n 0, 1) := by decide +kernel
theorem dX12_terminal_82 : decode cX12_terminal 82 = .ok (.getfield 299, 3) := by decide +kernel
theorem dX12_terminal_85 : decode cX12_terminal 85 = .ok (.iconst 1, 1) := by decide +kernel
theorem dX12_terminal_86 : decode cX12_terminal 86 = .ok (.isub, 1) := by decide +kernel
theorem dX12_terminal_87 : decode cX12_terminal 87 = .ok (.ireturn, 1) := by decide +kernel
theorem dX12_purchase_0 : decode cX12_purchase 0 = .ok (.iload_n 1, 1) := by decide +kernel
theorem dX12_purchase_1 : decode cX12_purchase 1 = .ok (.ifCond .lt 47, 3) := by decide +kernel
theorem dX12_purchase_4 : decode cX12_purchase 4 = .ok (.iload_n 1, 1) := by decide +kernel
theorem dX12_purchase_5 : decode cX12_purchase 5 = .ok (.aload_n 0, 1) := by decide +kernel
theorem dX12_purchase_6 : decode cX12_purchase 6 = .ok (.getfield 299, 3) := by decide +kernel
theorem dX12_purchase_9 : decode cX12_purchase 9 = .ok (.if_icmp .ge 39, 3) := by decide +kernel
theorem dX12_purchase_12 : decode cX12_purchase 12 = .ok (.iload_n 2, 1) := by decide +kernel
theorem dX12_purchase_13 : decode cX12_purchase 13 = .ok (.ifCond .lt 35, 3) := by decide +kernel
theorem dX12_purchase_16 : decode cX12_purchase 16 = .ok (.iload_n 2, 1) := by decide +kernel
theorem dX12_purchase_17 : decode cX12_purchase 17 = .ok (.aload_n 0, 1) := by decide +kernel
theorem dX12_purchase_18 : decode cX12_purchase 18 = .ok (.getfield 286, 3) := by decide +kernel
theorem dX12_purchase_21 : decode cX12_purchase 21 = .ok (.if_icmp .ge 27, 3) := by decide +kernel
theorem dX12_purchase_24 : decode cX12_purchase 24 = .ok (.lload_n 3, 1) := by decide +kernel
theorem dX12_purchase_25 : decode cX12_purchase 25 = .ok (.lconst 1, 1) := by decide +kernel
theorem dX12_purchase_26 : decode cX12_purchase 26 = .ok (.ldc2_w 320, 3) := by decide +kernel
theorem dX12_purchase_29 : decode cX12_purchase 29 = .ok (.invokestatic 316, 3) := by decide +kernel
theorem dX12_purchase_32 : decode cX12_purchase 32 = .ok (.ifCond .eq 16, 3) := by decide +kernel
theorem dX12_purchase_35 : decode cX12_purchase 35 = .ok (.iload 5, 2) := by decide +kernel
theorem dX12_purchase_37 : decode cX12_purchase 37 = .ok (.i2l, 1) := by decide +kernel
theorem dX12_purchase_38 : decode cX12_purchase 38 = .ok (.lconst 0, 1) := by decide +kernel
theorem dX12_purchase_39 : decode cX12_purchase 39 = .ok (.ldc2_w 314, 3) := by decide +kernel
theorem dX12_purchase_42 : decode cX12_purchase 42 = .ok (.invokestatic 316, 3) := by decide +kernel
theorem dX12_purchase_45 : decode cX12_purchase 45 = .ok (.ifCond .ne 5, 3) := by decide +kernel
theorem dX12_purchase_48 : decode cX12_purchase 48 = .ok (.iconst (-1), 1) := by decide +kernel
theorem dX12_purchase_49 : decode cX12_purchase 49 = .ok (.ireturn, 1) := by decide +kernel
theorem dX12_purchase_50 : decode cX12_purchase 50 = .ok (.aload_n 0, 1) := by decide +kernel
theorem dX12_purchase_51 : decode cX12_purchase 51 = .ok (.getfield 102, 3) := by decide +kernel
theorem dX12_purchase_54 : decode cX12_purchase 54 = .ok (.iload_n 1, 1) := by decide +kernel
theorem dX12_purchase_55 : decode cX12_purchase 55 = .ok (.aload_n 0, 1) := by decide +kernel
theorem dX12_purchase_56 : decode cX12_purchase 56 = .ok (.getfield 102, 3) := by decide +kernel
theorem dX12_purchase_59 : decode cX12_purchase 59 = .ok (.iload_n 1, 1) := by decide +kernel
theorem dX12_purchase_60 : decode cX12_purchase 60 = .ok (.laload, 1) := by decide +kernel
theorem dX12_purchase_61 : decode cX12_purchase 61 = .ok (.ldc2_w 328, 3) := by decide +kernel
theorem dX12_purchase_64 : decode cX12_purchase 64 = .ok (.lmul, 1) := by decide +kernel
theorem dX12_purchase_65 : decode cX12_purchase 65 = .ok (.ldc2_w 326, 3) := by decide +kernel
theorem dX12_purchase_68 : decode cX12_purchase 68 = .ok (.ladd, 1) := by decide +kernel
theorem dX12_purchase_69 : decode cX12_purchase 69 = .ok (.ldc2_w 330, 3) := by decide +kernel
theorem dX12_purchase_72 : decode cX12_purchase 72 = .ok (.lrem, 1) := by decide +kernel
theorem dX12_purchase_73 : decode cX12_purchase 73 = .ok (.lastore, 1) := by decide +kernel
theorem dX12_purchase_74 : decode cX12_purchase 74 = .ok (.aload_n 0, 1) := by decide +kernel
theorem dX12_purchase_75 : decode cX12_purchase 75 = .ok (.getfield 105, 3) := by decide +kernel
theorem dX12_purchase_78 : decode cX12_purchase 78 = .ok (.iload_n 1, 1) := by decide +kernel
theorem dX12_purchase_79 : decode cX12_purchase 79 = .ok (.iconst 0, 1) := by decide +kernel
theorem dX12_purchase_80 : decode cX12_purchase 80 = .ok (.iastore, 1) := by decide +kernel
theorem dX12_purchase_81 : decode cX12_purchase 81 = .ok (.aload_n 0, 1) := by decide +kernel
theorem dX12_purchase_82 : decode cX12_purchase 82 = .ok (.getfield 120, 3) := by decide +kernel
theorem dX12_purchase_85 : decode cX12_purchase 85 = .ok (.iload_n 1, 1) := by decide +kernel
theorem dX12_purchase_86 : decode cX12_purchase 86 = .ok (.aload_n 0, 1) := by decide +kernel
theorem dX12_purchase_87 : decode cX12_purchase 87 = .ok (.getfield 102, 3) := by decide +kernel
theorem dX12_purchase_90 : decode cX12_purchase 90 = .ok (.iload_n 1, 1) := by decide +kernel
theorem dX12_purchase_91 : decode cX12_purchase 91 = .ok (.laload, 1) := by decide +kernel
theorem dX12_purchase_92 : decode cX12_purchase 92 = .ok (.lastore, 1) := by decide +kernel
theorem dX12_purchase_93 : decode cX12_purchase 93 = .ok (.aload_n 0, 1) := by decide +kernel
theorem dX12_purchase_94 : decode cX12_purchase 94 = .ok (.getfield 117, 3) := by decide +kernel
theorem dX12_purchase_97 : decode cX12_purchase 97 = .ok (.iload_n 1, 1) := by decide +kernel
theorem dX12_purchase_98 : decode cX12_purchase 98 = .ok (.lload_n 3, 1) := by decide +kernel
theorem dX12_purchase_99 : decode cX12_purchase 99 = .ok (.lastore, 1) := by decide +kernel
theorem dX12_purchase_100 : decode cX12_purchase 100 = .ok (.aload_n 0, 1) := by decide +kernel
theorem dX12_purchase_101 : decode cX12_purchase 101 = .ok (.getfield 123, 3) := by decide +kernel
theorem dX12_purchase_104 : decode cX12_purchase 104 = .ok (.iload_n 1, 1) := by decide +kernel
theorem dX12_purchase_105 : decode cX12_purchase 105 = .ok (.iload 5, 2) := by decide +kernel
theorem dX12_purchase_107 : decode cX12_purchase 107 = .ok (.iastore, 1) := by decide +kernel
theorem dX12_purchase_108 : decode cX12_purchase 108 = .ok (.aload_n 0, 1) := by decide +kernel
theorem dX12_purchase_109 : decode cX12_purchase 109 = .ok (.getfield 114, 3) := by decide +kernel
theorem dX12_purchase_112 : decode cX12_purchase 112 = .ok (.iload_n 1, 1) := by decide +kernel
theorem dX12_purchase_113 : decode cX12_purchase 113 = .ok (.iload_n 2, 1) := by decide +kernel
theorem dX12_purchase_114 : decode cX12_purchase 114 = .ok (.iastore, 1) := by decide +kernel
theorem dX12_purchase_115 : decode cX12_purchase 115 = .ok (.aload_n 0, 1) := by decide +kernel
theorem dX12_purchase_116 : decode cX12_purchase 116 = .ok (.getfield 151, 3) := by decide +kernel
theorem dX12_purchase_119 : decode cX12_purchase 119 = .ok (.iconst 3, 1) := by decide +kernel
theorem dX12_purchase_120 : decode cX12_purchase 120 = .ok (.aload_n 0, 1) := by decide +kernel
theorem dX12_purchase_121 : decode cX12_purchase 121 = .ok (.getfield 332, 3) := by decide +kernel
theorem dX12_purchase_124 : decode cX12_purchase 124 = .ok (.imul, 1) := by decide +kernel
theorem dX12_purchase_125 : decode cX12_purchase 125 = .ok (.iload_n 1, 1) := by decide +kernel
theorem dX12_purchase_126 : decode cX12_purchase 126 = .ok (.i2l, 1) := by decide +kernel
theorem dX12_purchase_127 : decode cX12_purchase 127 = .ok (.lastore, 1) := by decide +kernel
theorem dX12_purchase_128 : decode cX12_purchase 128 = .ok (.aload_n 0, 1) := by decide +kernel
theorem dX12_purchase_129 : decode cX12_purchase 129 = .ok (.getfield 151, 3) := by decide +kernel
theorem dX12_purchase_132 : decode cX12_purchase 132 = .ok (.iconst 3, 1) := by decide +kernel
theorem dX12_purchase_133 : decode cX12_purchase 133 = .ok (.aload_n 0, 1) := by decide +kernel
theorem dX12_purchase_134 : decode cX12_purchase 134 = .ok (.getfield 332, 3) := by decide +kernel
theorem dX12_purchase_137 : decode cX12_purchase 137 = .ok (.imul, 1) := by decide +kernel
theorem dX12_purchase_138 : decode cX12_purchase 138 = .ok (.iconst 1, 1) := by decide +kernel
theorem dX12_purchase_139 : decode cX12_purchase 139 = .ok (.iadd, 1) := by decide +kernel
theorem dX12_purchase_140 : decode cX12_purchase 140 = .ok (.lload_n 3, 1) := by decide +kernel
theorem dX12_purchase_141 : decode cX12_purchase 141 = .ok (.lastore, 1) := by decide +kernel
theorem dX12_purchase_142 : decode cX12_purchase 142 = .ok (.aload_n 0, 1) := by decide +kernel
theorem dX12_purchase_143 : decode cX12_purchase 143 = .ok (.getfield 151, 3) := by decide +kernel
theorem dX12_purchase_146 : decode cX12_purchase 146 = .ok (.iconst 3, 1) := by decide +kernel
theorem dX12_purchase_147 : decode cX12_purchase 147 = .ok (.aload_n 0, 1) := by decide +kernel
theorem dX12_purchase_148 : decode cX12_purchase 148 = .ok (.getfield 332, 3) := by decide +kernel
theorem dX12_purchase_151 : decode cX12_purchase 151 = .ok (.imul, 1) := by decide +kernel
theorem dX12_purchase_152 : decode cX12_purchase 152 = .ok (.iconst 2, 1) := by decide +kernel
theorem dX12_purchase_153 : decode cX12_purchase 153 = .ok (.iadd, 1) := by decide +kernel
theorem dX12_purchase_154 : decode cX12_purchase 154 = .ok (.aload_n 0, 1) := by decide +kernel
theorem dX12_purchase_155 : decode cX12_purchase 155 = .ok (.getfield 120, 3) := by decide +kernel
theorem dX12_purchase_158 : decode cX12_purchase 158 = .ok (.iload_n 1, 1) := by decide +kernel
theorem dX12_purchase_159 : decode cX12_purchase 159 = .ok (.laload, 1) := by decide +kernel
theorem dX12_purchase_160 : decode cX12_purchase 160 = .ok (.lastore, 1) := by decide +kernel
theorem dX12_purchase_161 : decode cX12_purchase 161 = .ok (.aload_n 0, 1) := by decide +kernel
theorem dX12_purchase_162 : decode cX12_purchase 162 = .ok (.dup, 1) := by decide +kernel
theorem dX12_purchase_163 : decode cX12_purchase 163 = .ok (.getfield 332, 3) := by decide +kernel
theorem dX12_purchase_166 : decode cX12_purchase 166 = .ok (.iconst 1, 1) := by decide +kernel
theorem dX12_purchase_167 : decode cX12_purchase 167 = .ok (.iadd, 1) := by decide +kernel
theorem dX12_purchase_168 : decode cX12_purchase 168 = .ok (.putfield 332, 3) := by decide +kernel
theorem dX12_purchase_171 : decode cX12_purchase 171 = .ok (.aload_n 0, 1) := by decide +kernel
theorem dX12_purchase_172 : decode cX12_purchase 172 = .ok (.getfield 48, 3) := by decide +kernel
theorem dX12_purchase_175 : decode cX12_purchase 175 = .ok (.iconst 4, 1) := by decide +kernel
theorem dX12_purchase_176 : decode cX12_purchase 176 = .ok (.aload_n 0, 1) := by decide +kernel
theorem dX12_purchase_177 : decode cX12_purchase 177 = .ok (.getfield 120, 3) := by decide +kernel
theorem dX12_purchase_180 : decode cX12_purchase 180 = .ok (.iload_n 1, 1) := by decide +kernel
theorem dX12_purchase_181 : decode cX12_purchase 181 = .ok (.laload, 1) := by decide +kernel
theorem dX12_purchase_182 : decode cX12_purchase 182 = .ok (.lastore, 1) := by decide +kernel
theorem dX12_purchase_183 : decode cX12_purchase 183 = .ok (.aload_n 0, 1) := by decide +kernel
theorem dX12_purchase_184 : decode cX12_purchase 184 = .ok (.iload_n 1, 1) := by decide +kernel
theorem dX12_purchase_185 : decode cX12_purchase 185 = .ok (.iconst 1, 1) := by decide +kernel
theorem dX12_purchase_186 : decode cX12_purchase 186 = .ok (.iconst 2, 1) := by decide +kernel
theorem dX12_purchase_187 : decode cX12_purchase 187 = .ok (.invokevirtual 267, 3) := by decide +kernel
theorem dX12_purchase_190 : decode cX12_purchase 190 = .ok (.aload_n 0, 1) := by decide +kernel
theorem dX12_purchase_191 : decode cX12_purchase 191 = .ok (.getfield 120, 3) := by decide +kernel
theorem dX12_purchase_194 : decode cX12_purchase 194 = .ok (.iload_n 1, 1) := by decide +kernel
theorem dX12_purchase_195 : decode cX12_purchase 195 = .ok (.laload, 1) := by decide +kernel
theorem dX12_purchase_196 : decode cX12_purchase 196 = .ok (.l2i, 1) := by decide +kernel
theorem dX12_purchase_197 : decode cX12_purchase 197 = .ok (.ireturn, 1) := by decide +kernel
theorem dX12_alter_0 : decode cX12_alter 0 = .ok (.aload_n 0, 1) := by decide +kernel
theorem dX12_alter_1 : decode cX12_alter 1 = .ok (.iload_n 1, 1) := by decide +kernel
theorem dX12_alter_2 : decode cX12_alter 2 = .ok (.invokevirtual 191, 3) := by decide +kernel
theorem dX12_alter_5 : decode cX12_alter 5 = .ok (.ifCond .eq 29, 3) := by decide +kernel
theorem dX12_alter_8 : decode cX12_alter 8 = .ok (.iload_n 2, 1) := by decide +kernel
theorem dX12_alter_9 : decode cX12_alter 9 = .ok (.ifCond .lt 25, 3) := by decide +kernel
theorem dX12_alter_12 : decode cX12_alter 12 = .ok (.iload_n 2, 1) := by decide +kernel
theorem dX12_alter_13 : decode cX12_alter 13 = .ok (.aload_n 0, 1) := by decide +kernel
theorem dX12_alter_14 : decode cX12_alter 14 = .ok (.getfield 36, 3) := by decide +kernel
theorem dX12_alter_17 : decode cX12_alter 17 = .ok (.iload_n 1, 1) := by decide +kernel
theorem dX12_alter_18 : decode cX12_alter 18 = .ok (.iaload, 1) := by decide +kernel
theorem dX12_alter_19 : decode cX12_alter 19 = .ok (.if_icmp .ge 15, 3) := by decide +kernel
theorem dX12_alter_22 : decode cX12_alter 22 = .ok (.iload_n 3, 1) := by decide +kernel
theorem dX12_alter_23 : decode cX12_alter 23 = .ok (.i2l, 1) := by decide +kernel
theorem dX12_alter_24 : decode cX12_alter 24 = .ok (.lconst 0, 1) := by decide +kernel
theorem dX12_alter_25 : decode cX12_alter 25 = .ok (.ldc2_w 335, 3) := by decide +kernel
theorem dX12_alter_28 : decode cX12_alter 28 = .ok (.invokestatic 316, 3) := by decide +kernel
theorem dX12_alter_31 : decode cX12_alter 31 = .ok (.ifCond .ne 5, 3) := by decide +kernel
theorem dX12_alter_34 : decode cX12_alter 34 = .ok (.iconst 0, 1) := by decide +kernel
theorem dX12_alter_35 : decode cX12_alter 35 = .ok (.ireturn, 1) := by decide +kernel
theorem dX12_alter_36 : decode cX12_alter 36 = .ok (.aload_n 0, 1) := by decide +kernel
theorem dX12_alter_37 : decode cX12_alter 37 = .ok (.getfield 39, 3) := by decide +kernel
theorem dX12_alter_40 : decode cX12_alter 40 = .ok (.bipush 64, 2) := by decide +kernel
theorem dX12_alter_42 : decode cX12_alter 42 = .ok (.iload_n 1, 1) := by decide +kernel
theorem dX12_alter_43 : decode cX12_alter 43 = .ok (.imul, 1) := by decide +kernel
theorem dX12_alter_44 : decode cX12_alter 44 = .ok (.iload_n 2, 1) := by decide +kernel
theorem dX12_alter_45 : decode cX12_alter 45 = .ok (.iadd, 1) := by decide +kernel
theorem dX12_alter_46 : decode cX12_alter 46 = .ok (.iload_n 3, 1) := by decide +kernel
theorem dX12_alter_47 : decode cX12_alter 47 = .ok (.iastore, 1) := by decide +kernel
theorem dX12_alter_48 : decode cX12_alter 48 = .ok (.iconst 1, 1) := by decide +kernel
theorem dX12_alter_49 : decode cX12_alter 49 = .ok (.ireturn, 1) := by decide +kernel
theorem dX12_drop_0 : decode cX12_drop 0 = .ok (.aload_n 0, 1) := by decide +kernel
theorem dX12_drop_1 : decode cX12_drop 1 = .ok (.iload_n 1, 1) := by decide +kernel
theorem dX12_drop_2 : decode cX12_drop 2 = .ok (.invokevirtual 191, 3) := by decide +kernel
theorem dX12_drop_5 : decode cX12_drop 5 = .ok (.ifCond .ne 5, 3) := by decide +kernel
theorem dX12_drop_8 : decode cX12_drop 8 = .ok (.iconst 0, 1) := by decide +kernel
theorem dX12_drop_9 : decode cX12_drop 9 = .ok (.ireturn, 1) := by decide +kernel
theorem dX12_drop_10 : decode cX12_drop 10 = .ok (.aload_n 0, 1) := by decide +kernel
theorem dX12_drop_11 : decode cX12_drop 11 = .ok (.iload_n 1, 1) := by decide +kernel
theorem dX12_drop_12 : decode cX12_drop 12 = .ok (.invokevirtual 201, 3) := by decide +kernel
theorem dX12_drop_15 : decode cX12_drop 15 = .ok (.iconst 1, 1) := by decide +kernel
theorem dX12_drop_16 : decode cX12_drop 16 = .ok (.ireturn, 1) := by decide +kernel
