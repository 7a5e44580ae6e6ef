theorem dX12_isMessage_0 : decode cX12_isMessage 0 = .ok (.iload_n 1, 1) := by decide +kernel
theorem dX12_isMessage_1 : decode cX12_isMessage 1 = .ok (.ifCond .lt 15, 3) := by decide +kernel
theorem dX12_isMessage_4 : decode cX12_isMessage 4 = .ok (.iload_n 1, 1) := by decide +kernel
theorem dX12_isMessage_5 : decode cX12_isMessage 5 = .ok (.aload_n 0, 1) := by decide +kernel
theorem dX12_isMessage_6 : decode cX12_isMessage 6 = .ok (.getfield 171, 3) := by decide +kernel
theorem dX12_isMessage_9 : decode cX12_isMessage 9 = .ok (.if_icmp .ge 7, 3) := by decide +kernel
theorem dX12_isMessage_12 : decode cX12_isMessage 12 = .ok (.iconst 1, 1) := by decide +kernel
theorem dX12_isMessage_13 : decode cX12_isMessage 13 = .ok (.goto 4, 3) := by decide +kernel
theorem dX12_isMessage_16 : decode cX12_isMessage 16 = .ok (.iconst 0, 1) := by decide +kernel
theorem dX12_isMessage_17 : decode cX12_isMessage 17 = .ok (.ireturn, 1) := by decide +kernel
theorem dX12_remove_0 : decode cX12_remove 0 = .ok (.aload_n 0, 1) := by decide +kernel
theorem dX12_remove_1 : decode cX12_remove 1 = .ok (.dup, 1) := by decide +kernel
theorem dX12_remove_2 : decode cX12_remove 2 = .ok (.getfield 171, 3) := by decide +kernel
theorem dX12_remove_5 : decode cX12_remove 5 = .ok (.iconst 1, 1) := by decide +kernel
theorem dX12_remove_6 : decode cX12_remove 6 = .ok (.isub, 1) := by decide +kernel
theorem dX12_remove_7 : decode cX12_remove 7 = .ok (.putfield 171, 3) := by decide +kernel
theorem dX12_remove_10 : decode cX12_remove 10 = .ok (.iload_n 1, 1) := by decide +kernel
theorem dX12_remove_11 : decode cX12_remove 11 = .ok (.istore_n 2, 1) := by decide +kernel
theorem dX12_remove_12 : decode cX12_remove 12 = .ok (.iload_n 2, 1) := by decide +kernel
theorem dX12_remove_13 : decode cX12_remove 13 = .ok (.aload_n 0, 1) := by decide +kernel
theorem dX12_remove_14 : decode cX12_remove 14 = .ok (.getfield 171, 3) := by decide +kernel
theorem dX12_remove_17 : decode cX12_remove 17 = .ok (.if_icmp .ge 117, 3) := by decide +kernel
theorem dX12_remove_20 : decode cX12_remove 20 = .ok (.aload_n 0, 1) := by decide +kernel
theorem dX12_remove_21 : decode cX12_remove 21 = .ok (.getfield 24, 3) := by decide +kernel
theorem dX12_remove_24 : decode cX12_remove 24 = .ok (.iload_n 2, 1) := by decide +kernel
theorem dX12_remove_25 : decode cX12_remove 25 = .ok (.aload_n 0, 1) := by decide +kernel
theorem dX12_remove_26 : decode cX12_remove 26 = .ok (.getfield 24, 3) := by decide +kernel
theorem dX12_remove_29 : decode cX12_remove 29 = .ok (.iload_n 2, 1) := by decide +kernel
theorem dX12_remove_30 : decode cX12_remove 30 = .ok (.iconst 1, 1) := by decide +kernel
theorem dX12_remove_31 : decode cX12_remove 31 = .ok (.iadd, 1) := by decide +kernel
theorem dX12_remove_32 : decode cX12_remove 32 = .ok (.iaload, 1) := by decide +kernel
theorem dX12_remove_33 : decode cX12_remove 33 = .ok (.iastore, 1) := by decide +kernel
theorem dX12_remove_34 : decode cX12_remove 34 = .ok (.aload_n 0, 1) := by decide +kernel
theorem dX12_remove_35 : decode cX12_remove 35 = .ok (.getfield 27, 3) := by decide +kernel
theorem dX12_remove_38 : decode cX12_remove 38 = .ok (.iload_n 2, 1) := by decide +kernel
theorem dX12_remove_39 : decode cX12_remove 39 = .ok (.aload_n 0, 1) := by decide +kernel
theorem dX12_remove_40 : decode cX12_remove 40 = .ok (.getfield 27, 3) := by decide +kernel
theorem dX12_remove_43 : decode cX12_remove 43 = .ok (.iload_n 2, 1) := by decide +kernel
theorem dX12_remove_44 : decode cX12_remove 44 = .ok (.iconst 1, 1) := by decide +kernel
theorem dX12_remove_45 : decode cX12_remove 45 = .ok (.iadd, 1) := by decide +kernel
theorem dX12_remove_46 : decode cX12_remove 46 = .ok (.iaload, 1) := by decide +kernel
theorem dX12_remove_47 : decode cX12_remove 47 = .ok (.iastore, 1) := by decide +kernel
theorem dX12_remove_48 : decode cX12_remove 48 = .ok (.aload_n 0, 1) := by decide +kernel
theorem dX12_remove_49 : decode cX12_remove 49 = .ok (.getfield 30, 3) := by decide +kernel
theorem dX12_remove_52 : decode cX12_remove 52 = .ok (.iload_n 2, 1) := by decide +kernel
theorem dX12_remove_53 : decode cX12_remove 53 = .ok (.aload_n 0, 1) := by decide +kernel
theorem dX12_remove_54 : decode cX12_remove 54 = .ok (.getfield 30, 3) := by decide +kernel
theorem dX12_remove_57 : decode cX12_remove 57 = .ok (.iload_n 2, 1) := by decide +kernel
theorem dX12_remove_58 : decode cX12_remove 58 = .ok (.iconst 1, 1) := by decide +kernel
theorem dX12_remove_59 : decode cX12_remove 59 = .ok (.iadd, 1) := by decide +kernel
theorem dX12_remove_60 : decode cX12_remove 60 = .ok (.iaload, 1) := by decide +kernel
theorem dX12_remove_61 : decode cX12_remove 61 = .ok (.iastore, 1) := by decide +kernel
theorem dX12_remove_62 : decode cX12_remove 62 = .ok (.aload_n 0, 1) := by decide +kernel
theorem dX12_remove_63 : decode cX12_remove 63 = .ok (.getfield 33, 3) := by decide +kernel
theorem dX12_remove_66 : decode cX12_remove 66 = .ok (.iload_n 2, 1) := by decide +kernel
theorem dX12_remove_67 : decode cX12_remove 67 = .ok (.aload_n 0, 1) := by decide +kernel
theorem dX12_remove_68 : decode cX12_remove 68 = .ok (.getfield 33, 3) := by decide +kernel
theorem dX12_remove_71 : decode cX12_remove 71 = .ok (.iload_n 2, 1) := by decide +kernel
theorem dX12_remove_72 : decode cX12_remove 72 = .ok (.iconst 1, 1) := by decide +kernel
theorem dX12_remove_73 : decode cX12_remove 73 = .ok (.iadd, 1) := by decide +kernel
theorem dX12_remove_74 : decode cX12_remove 74 = .ok (.iaload, 1) := by decide +kernel
theorem dX12_remove_75 : decode cX12_remove 75 = .ok (.iastore, 1) := by decide +kernel
theorem dX12_remove_76 : decode cX12_remove 76 = .ok (.aload_n 0, 1) := by decide +kernel
theorem dX12_remove_77 : decode cX12_remove 77 = .ok (.getfield 36, 3) := by decide +kernel
theorem dX12_remove_80 : decode cX12_remove 80 = .ok (.iload_n 2, 1) := by decide +kernel
theorem dX12_remove_81 : decode cX12_remove 81 = .ok (.aload_n 0, 1) := by decide +kernel
theorem dX12_remove_82 : decode cX12_remove 82 = .ok (.getfield 36, 3) := by decide +kernel
theorem dX12_remove_85 : decode cX12_remove 85 = .ok (.iload_n 2, 1) := by decide +kernel
theorem dX12_remove_86 : decode cX12_remove 86 = .ok (.iconst 1, 1) := by decide +kernel
theorem dX12_remove_87 : decode cX12_remove 87 = .ok (.iadd, 1) := by decide +kernel
theorem dX12_remove_88 : decode cX12_remove 88 = .ok (.iaload, 1) := by decide +kernel
theorem dX12_remove_89 : decode cX12_remove 89 = .ok (.iastore, 1) := by decide +kernel
theorem dX12_remove_90 : decode cX12_remove 90 = .ok (.iconst 0, 1) := by decide +kernel
theorem dX12_remove_91 : decode cX12_remove 91 = .ok (.istore_n 3, 1) := by decide +kernel
theorem dX12_remove_92 : decode cX12_remove 92 = .ok (.iload_n 3, 1) := by decide +kernel
theorem dX12_remove_93 : decode cX12_remove 93 = .ok (.bipush 64, 2) := by decide +kernel
theorem dX12_remove_95 : decode cX12_remove 95 = .ok (.if_icmp .ge 33, 3) := by decide +kernel
theorem dX12_remove_98 : decode cX12_remove 98 = .ok (.aload_n 0, 1) := by decide +kernel
theorem dX12_remove_99 : decode cX12_remove 99 = .ok (.getfield 39, 3) := by decide +kernel
theorem dX12_remove_102 : decode cX12_remove 102 = .ok (.bipush 64, 2) := by decide +kernel
theorem dX12_remove_104 : decode cX12_remove 104 = .ok (.iload_n 2, 1) := by decide +kernel
theorem dX12_remove_105 : decode cX12_remove 105 = .ok (.imul, 1) := by decide +kernel
theorem dX12_remove_106 : decode cX12_remove 106 = .ok (.iload_n 3, 1) := by decide +kernel
theorem dX12_remove_107 : decode cX12_remove 107 = .ok (.iadd, 1) := by decide +kernel
theorem dX12_remove_108 : decode cX12_remove 108 = .ok (.aload_n 0, 1) := by decide +kernel
theorem dX12_remove_109 : decode cX12_remove 109 = .ok (.getfield 39, 3) := by decide +kernel
theorem dX12_remove_112 : decode cX12_remove 112 = .ok (.bipush 64, 2) := by decide +kernel
theorem dX12_remove_114 : decode cX12_remove 114 = .ok (.iload_n 2, 1) := by decide +kernel
theorem dX12_remove_115 : decode cX12_remove 115 = .ok (.iconst 1, 1) := by decide +kernel
theorem dX12_remove_116 : decode cX12_remove 116 = .ok (.iadd, 1) := by decide +kernel
theorem dX12_remove_117 : decode cX12_remove 117 = .ok (.imul, 1) := by decide +kernel
theorem dX12_remove_118 : decode cX12_remove 118 = .ok (.iload_n 3, 1) := by decide +kernel
theorem dX12_remove_119 : decode cX12_remove 119 = .ok (.iadd, 1) := by decide +kernel
theorem dX12_remove_120 : decode cX12_remove 120 = .ok (.iaload, 1) := by decide +kernel
theorem dX12_remove_121 : decode cX12_remove 121 = .ok (.iastore, 1) := by decide +kernel
theorem dX12_remove_122 : decode cX12_remove 122 = .ok (.iinc 3 1, 3) := by decide +kernel
theorem dX12_remove_125 : decode cX12_remove 125 = .ok (.goto (-33), 3) := by decide +kernel
theorem dX12_remove_128 : decode cX12_remove 128 = .ok (.iinc 2 1, 3) := by decide +kernel
theorem dX12_remove_131 : decode cX12_remove 131 = .ok (.goto (-119), 3) := by decide +kernel
theorem dX12_remove_134 : decode cX12_remove 134 = .ok (.return_, 1) := by decide +kernel
theorem dX12_read_0 : decode cX12_read 0 = .ok (.aload_n 0, 1) := by decide +kernel
theorem dX12_read_1 : decode cX12_read 1 = .ok (.getfield 42, 3) := by decide +kernel
theorem dX12_read_4 : decode cX12_read 4 = .ok (.iconst 0, 1) := by decide +kernel
theorem dX12_read_5 : decode cX12_read 5 = .ok (.iaload, 1) := by decide +kernel
theorem dX12_read_6 : decode cX12_read 6 = .ok (.istore_n 1, 1) := by decide +kernel
theorem dX12_read_7 : decode cX12_read 7 = .ok (.iconst 1, 1) := by decide +kernel
theorem dX12_read_8 : decode cX12_read 8 = .ok (.istore_n 2, 1) := by decide +kernel
theorem dX12_read_9 : decode cX12_read 9 = .ok (.iload_n 1, 1) := by decide +kernel
theorem dX12_read_10 : decode cX12_read 10 = .ok (.iconst 1, 1) := by decide +kernel
theorem dX12_read_11 : decode cX12_read 11 = .ok (.if_icmp .lt 9, 3) := by decide +kernel
theorem dX12_read_14 : decode cX12_read 14 = .ok (.iload_n 1, 1) := by decide +kernel
theorem dX12_read_15 : decode cX12_read 15 = .ok (.bipush 11, 2) := by decide +kernel
theorem dX12_read_17 : decode cX12_read 17 = .ok (.if_icmp .le 5, 3) := by decide +kernel
theorem dX12_read_20 : decode cX12_read 20 = .ok (.iconst 0, 1) := by decide +kernel
theorem dX12_read_21 : decode cX12_read 21 = .ok (.ireturn, 1) := by decide +kernel
theorem dX12_read_22 : decode cX12_read 22 = .ok (.iconst 1, 1) := by decide +kernel
theorem dX12_read_23 : decode cX12_read 23 = .ok (.istore_n 3, 1) := by decide +kernel
theorem dX12_read_24 : decode cX12_read 24 = .ok (.iload_n 3, 1) := by decide +kernel
theorem dX12_read_25 : decode cX12_read 25 = .ok (.bipush 11, 2) := by decide +kernel
theorem dX12_read_27 : decode cX12_read 27 = .ok (.if_icmp .gt 116, 3) := by decide +kernel
theorem dX12_read_30 : decode cX12_read 30 = .ok (.iload_n 1, 1) := by decide +kernel
theorem dX12_read_31 : decode cX12_read 31 = .ok (.iload_n 3, 1) := by decide +kernel
theorem dX12_read_32 : decode cX12_read 32 = .ok (.invokestatic 174, 3) := by decide +kernel
theorem dX12_read_35 : decode cX12_read 35 = .ok (.ifCond .eq 102, 3) := by decide +kernel
theorem dX12_read_38 : decode cX12_read 38 = .ok (.iload_n 3, 1) := by decide +kernel
theorem dX12_read_39 : decode cX12_read 39 = .ok (.invokestatic 178, 3) := by decide +kernel
theorem dX12_read_42 : decode cX12_read 42 = .ok (.istore 4, 2) := by decide +kernel
theorem dX12_read_44 : decode cX12_read 44 = .ok (.iload_n 2, 1) := by decide +kernel
theorem dX12_read_45 : decode cX12_read 45 = .ok (.iconst 2, 1) := by decide +kernel
theorem dX12_read_46 : decode cX12_read 46 = .ok (.iadd, 1) := by decide +kernel
theorem dX12_read_47 : decode cX12_read 47 = .ok (.iload 4, 2) := by decide +kernel
theorem dX12_read_49 : decode cX12_read 49 = .ok (.iadd, 1) := by decide +kernel
theorem dX12_read_50 : decode cX12_read 50 = .ok (.aload_n 0, 1) := by decide +kernel
theorem dX12_read_51 : decode cX12_read 51 = .ok (.getfield 186, 3) := by decide +kernel
theorem dX12_read_54 : decode cX12_read 54 = .ok (.if_icmp .gt 26, 3) := by decide +kernel
theorem dX12_read_57 : decode cX12_read 57 = .ok (.aload_n 0, 1) := by decide +kernel
theorem dX12_read_58 : decode cX12_read 58 = .ok (.getfield 42, 3) := by decide +kernel
theorem dX12_read_61 : decode cX12_read 61 = .ok (.iload_n 2, 1) := by decide +kernel
theorem dX12_read_62 : decode cX12_read 62 = .ok (.iaload, 1) := by decide +kernel
theorem dX12_read_63 : decode cX12_read 63 = .ok (.iload_n 3, 1) := by decide +kernel
theorem dX12_read_64 : decode cX12_read 64 = .ok (.if_icmp .ne 16, 3) := by decide +kernel
theorem dX12_read_67 : decode cX12_read 67 = .ok (.aload_n 0, 1) := by decide +kernel
theorem dX12_read_68 : decode cX12_read 68 = .ok (.getfield 42, 3) := by decide +kernel
theorem dX12_read_71 : decode cX12_read 71 = .ok (.iload_n 2, 1) := by decide +kernel
theorem dX12_read_72 : decode cX12_read 72 = .ok (.iconst 1, 1) := by decide +kernel
theorem dX12_read_73 : decode cX12_read 73 = .ok (.iadd, 1) := by decide +kernel
theorem dX12_read_74 : decode cX12_read 74 = .ok (.iaload, 1) := by decide +kernel
theorem dX12_read_75 : decode cX12_read 75 = .ok (.iload 4, 2) := by decide +kernel
theorem dX12_read_77 : decode cX12_read 77 = .ok (.if_icmp .eq 5, 3) := by decide +kernel
theorem dX12_read_80 : decode cX12_read 80 = .ok (.iconst 0, 1) := by decide +kernel
theorem dX12_read_81 : decode cX12_read 81 = .ok (.ireturn, 1) := by decide +kernel
theorem dX12_read_82 : decode cX12_read 82 = .ok (.lconst 0, 1) := by decide +kernel
theorem dX12_read_83 : decode cX12_read 83 = .ok (.lstore 5, 2) := by decide +kernel
theorem dX12_read_85 : decode cX12_read 85 = .ok (.iconst 0, 1) := by decide +kernel
theorem dX12_read_86 : decode cX12_read 86 = .ok (.istore 7, 2) := by decide +kernel
theorem dX12_read_88 : decode cX12_read 88 = .ok (.iload 7, 2) := by decide +kernel
theorem dX12_read_90 : decode cX12_read 90 = .ok (.iload 4, 2) := by decide +kernel
theorem dX12_read_92 : decode cX12_read 92 = .ok (.if_icmp .ge 30, 3) := by decide +kernel
theorem dX12_read_95 : decode cX12_read 95 = .ok (.ldc2_w 189, 3) := by decide +kernel
theorem dX12_read_98 : decode cX12_read 98 = .ok (.lload 5, 2) := by decide +kernel
theorem dX12_read_100 : decode cX12_read 100 = .ok (.lmul, 1) := by decide +kernel
theorem dX12_read_101 : decode cX12_read 101 = .ok (.aload_n 0, 1) := by decide +kernel
theorem dX12_read_102 : decode cX12_read 102 = .ok (.getfield 42, 3) := by decide +kernel
theorem dX12_read_105 : decode cX12_read 105 = .ok (.iload_n 2, 1) := by decide +kernel
theorem dX12_read_106 : decode cX12_read 106 = .ok (.iconst 2, 1) := by decide +kernel
theorem dX12_read_107 : decode cX12_read 107 = .ok (.iadd, 1) := by decide +kernel
theorem dX12_read_108 : decode cX12_read 108 = .ok (.iload 7, 2) := by decide +kernel
theorem dX12_read_110 : decode cX12_read 110 = .ok (.iadd, 1) := by decide +kernel
theorem dX12_read_111 : decode cX12_read 111 = .ok (.iaload, 1) := by decide +kernel
theorem dX12_read_112 : decode cX12_read 112 = .ok (.i2l, 1) := by decide +kernel
theorem dX12_read_113 : decode cX12_read 113 = .ok (.ladd, 1) := by decide +kernel
theorem dX12_read_114 : decode cX12_read 114 = .ok (.lstore 5, 2) := by decide +kernel
theorem dX12_read_116 : decode cX12_read 116 = .ok (.iinc 7 1, 3) := by decide +kernel
theorem dX12_read_119 : decode cX12_read 119 = .ok (.goto (-31), 3) := by decide +kernel
theorem dX12_read_122 : decode cX12_read 122 = .ok (.aload_n 0, 1) := by decide +kernel
theorem dX12_read_123 : decode cX12_read 123 = .ok (.getfield 45, 3) := by decide +kernel
theorem dX12_read_126 : decode cX12_read 126 = .ok (.iload_n 3, 1) := by decide +kernel
theorem dX12_read_127 : decode cX12_read 127 = .ok (.lload 5, 2) := by decide +kernel
theorem dX12_read_129 : decode cX12_read 129 = .ok (.lastore, 1) := by decide +kernel
theorem dX12_read_130 : decode cX12_read 130 = .ok (.iload_n 2, 1) := by decide +kernel
theorem dX12_read_131 : decode cX12_read 131 = .ok (.iconst 2, 1) := by decide +kernel
theorem dX12_read_132 : decode cX12_read 132 = .ok (.iload 4, 2) := by decide +kernel
theorem dX12_read_134 : decode cX12_read 134 = .ok (.iadd, 1) := by decide +kernel
theorem dX12_read_135 : decode cX12_read 135 = .ok (.iadd, 1) := by decide +kernel
theorem dX12_read_136 : decode cX12_read 136 = .ok (.istore_n 2, 1) := by decide +kernel
theorem dX12_read_137 : decode cX12_read 137 = .ok (.iinc 3 1, 3) := by decide +kernel
theorem dX12_read_140 : decode cX12_read 140 = .ok (.goto (-116), 3) := by decide +kernel
theorem dX12_read_143 : decode cX12_read 143 = .ok (.iload_n 2, 1) := by decide +kernel
theorem dX12_read_144 : decode cX12_read 144 = .ok (.aload_n 0, 1) := by decide +kernel
theorem dX12_read_145 : decode cX12_read 145 = .ok (.getfield 186, 3) := by decide +kernel
theorem dX12_read_148 : decode cX12_read 148 = .ok (.if_icmp .ne 7, 3) := by decide +kernel
theorem dX12_read_151 : decode cX12_read 151 = .ok (.iload_n 1, 1) := by decide +kernel
theorem dX12_read_152 : decode cX12_read 152 = .ok (.goto 4, 3) := by decide +kernel
theorem dX12_read_155 : decode cX12_read 155 = .ok (.iconst 0, 1) := by decide +kernel
theorem dX12_read_156 : decode cX12_read 156 = .ok (.ireturn, 1) := by decide +kernel
theorem dX12_deliver_0 : decode cX12_deliver 0 = .ok (.aload_n 0, 1) := by decide +kernel
theorem dX12_deliver_1 : decode cX12_deliver 1 = .ok (.iload_n 1, 1) := by decide +kernel
theorem dX12_deliver_2 : decode cX12_deliver 2 = .ok (.invokevirtual 191, 3) := by decide +kernel
theorem dX12_deliver_5 : decode cX12_deliver 5 = .ok (.ifCond .ne 5, 3) := by decide +kernel
theorem dX12_deliver_8 : decode cX12_deliver 8 = .ok (.iconst (-1), 1) := by decide +kernel
theorem dX12_deliver_9 : decode cX12_deliver 9 = .ok (.ireturn, 1) := by decide +kernel
theorem dX12_deliver_10 : decode cX12_deliver 10 = .ok (.aload_n 0, 1) := by decide +kernel
theorem dX12_deliver_11 : decode cX12_deliver 11 = .ok (.getfield 30, 3) := by decide +kernel
theorem dX12_deliver_14 : decode cX12_deliver 14 = .ok (.iload_n 1, 1) := by decide +kernel
theorem dX12_deliver_15 : decode cX12_deliver 15 = .ok (.iaload, 1) := by decide +kernel
theorem dX12_deliver_16 : decode cX12_deliver 16 = .ok (.istore_n 2, 1) := by decide +kernel
theorem dX12_deliver_17 : decode cX12_deliver 17 = .ok (.aload_n 0, 1) := by decide +kernel
theorem dX12_deliver_18 : decode cX12_deliver 18 = .ok (.getfield 33, 3) := by decide +kernel
theorem dX12_deliver_21 : decode cX12_deliver 21 = .ok (.iload_n 1, 1) := by decide +kernel
theorem dX12_deliver_22 : decode cX12_deliver 22 = .ok (.iaload, 1) := by decide +kernel
theorem dX12_deliver_23 : decode cX12_deliver 23 = .ok (.istore_n 3, 1) := by decide +kernel
theorem dX12_deliver_24 : decode cX12_deliver 24 = .ok (.aload_n 0, 1) := by decide +kernel
theorem dX12_deliver_25 : decode cX12_deliver 25 = .ok (.aload_n 0, 1) := by decide +kernel
theorem dX12_deliver_26 : decode cX12_deliver 26 = .ok (.getfield 24, 3) := by decide +kernel
theorem dX12_deliver_29 : decode cX12_deliver 29 = .ok (.iload_n 1, 1) := by decide +kernel
theorem dX12_deliver_30 : decode cX12_deliver 30 = .ok (.iaload, 1) := by decide +kernel
theorem dX12_deliver_31 : decode cX12_deliver 31 = .ok (.putfield 195, 3) := by decide +kernel
theorem dX12_deliver_34 : decode cX12_deliver 34 = .ok (.aload_n 0, 1) := by decide +kernel
theorem dX12_deliver_35 : decode cX12_deliver 35 = .ok (.aload_n 0, 1) := by decide +kernel
theorem dX12_deliver_36 : decode cX12_deliver 36 = .ok (.getfield 27, 3) := by decide +kernel
theorem dX12_deliver_39 : decode cX12_deliver 39 = .ok (.iload_n 1, 1) := by decide +kernel
theorem dX12_deliver_40 : decode cX12_deliver 40 = .ok (.iaload, 1) := by decide +kernel
theorem dX12_deliver_41 : decode cX12_deliver 41 = .ok (.putfield 198, 3) := by decide +kernel
theorem dX12_deliver_44 : decode cX12_deliver 44 = .ok (.aload_n 0, 1) := by decide +kernel
theorem dX12_deliver_45 : decode cX12_deliver 45 = .ok (.aload_n 0, 1) := by decide +kernel
theorem dX12_deliver_46 : decode cX12_deliver 46 = .ok (.getfield 36, 3) := by decide +kernel
theorem dX12_deliver_49 : decode cX12_deliver 49 = .ok (.iload_n 1, 1) := by decide +kernel
theorem dX12_deliver_50 : decode cX12_deliver 50 = .ok (.iaload, 1) := by decide +kernel
theorem dX12_deliver_51 : decode cX12_deliver 51 = .ok (.putfield 186, 3) := by decide +kernel
theorem dX12_deliver_54 : decode cX12_deliver 54 = .ok (.iconst 0, 1) := by decide +kernel
theorem dX12_deliver_55 : decode cX12_deliver 55 = .ok (.istore 4, 2) := by decide +kernel
theorem dX12_deliver_57 : decode cX12_deliver 57 = .ok (.iload 4, 2) := by decide +kernel
theorem dX12_deliver_59 : decode cX12_deliver 59 = .ok (.bipush 64, 2) := by decide +kernel
theorem dX12_deliver_61 : decode cX12_deliver 61 = .ok (.if_icmp .ge 28, 3) := by decide +kernel
theorem dX12_deliver_64 : decode cX12_deliver 64 = .ok (.aload_n 0, 1) := by decide +kernel
theorem dX12_deliver_65 : decode cX12_deliver 65 = .ok (.getfield 42, 3) := by decide +kernel
theorem dX12_deliver_68 : decode cX12_deliver 68 = .ok (.iload 4, 2) := by decide +kernel
theorem dX12_deliver_70 : decode cX12_deliver 70 = .ok (.aload_n 0, 1) := by decide +kernel
theorem dX12_deliver_71 : decode cX12_deliver 71 = .ok (.getfield 39, 3) := by decide +kernel
theorem dX12_deliver_74 : decode cX12_deliver 74 = .ok (.bipush 64, 2) := by decide +kernel
theorem dX12_deliver_76 : decode cX12_deliver 76 = .ok (.iload_n 1, 1) := by decide +kernel
theorem dX12_deliver_77 : decode cX12_deliver 77 = .ok (.imul, 1) := by decide +kernel
theorem dX12_deliver_78 : decode cX12_deliver 78 = .ok (.iload 4, 2) := by decide +kernel
theorem dX12_deliver_80 : decode cX12_deliver 80 = .ok (.iadd, 1) := by decide +kernel
theorem dX12_deliver_81 : decode cX12_deliver 81 = .ok (.iaload, 1) := by decide +kernel
theorem dX12_deliver_82 : decode cX12_deliver 82 = .ok (.iastore, 1) := by decide +kernel
theorem dX12_deliver_83 : decode cX12_deliver 83 = .ok (.iinc 4 1, 3) := by decide +kernel
theorem dX12_deliver_86 : decode cX12_deliver 86 = .ok (.goto (-29), 3) := by decide +kernel
theorem dX12_deliver_89 : decode cX12_deliver 89 = .ok (.aload_n 0, 1) := by decide +kernel
theorem dX12_deliver_90 : decode cX12_deliver 90 = .ok (.iload_n 1, 1) := by decide +kernel
theorem dX12_deliver_91 : decode cX12_deliver 91 = .ok (.invokevirtual 201, 3) := by decide +kernel
theorem dX12_deliver_94 : decode cX12_deliver 94 = .ok (.aload_n 0, 1) := by decide +kernel
theorem dX12_deliver_95 : decode cX12_deliver 95 = .ok (.invokevirtual 205, 3) := by decide +kernel
theorem dX12_deliver_98 : decode cX12_deliver 98 = .ok (.istore 4, 2) := by decide +kernel
theorem dX12_deliver_100 : decode cX12_deliver 100 = .ok (.iload 4, 2) := by decide +kernel
theorem dX12_deliver_102 : decode cX12_deliver 102 = .ok (.ifCond .eq 51, 3) := by decide +kernel
theorem dX12_deliver_105 : decode cX12_deliver 105 = .ok (.iload_n 2, 1) := by decide +kernel
theorem dX12_deliver_106 : decode cX12_deliver 106 = .ok (.ifCond .ne 16, 3) := by decide +kernel
theorem dX12_deliver_109 : decode cX12_deliver 109 = .ok (.aload_n 0, 1) := by decide +kernel
theorem dX12_deliver_110 : decode cX12_deliver 110 = .ok (.iload_n 3, 1) := by decide +kernel
theorem dX12_deliver_111 : decode cX12_deliver 111 = .ok (.iload 4, 2) := by decide +kernel
theorem dX12_deliver_113 : decode cX12_deliver 113 = .ok (.invokevirtual 209, 3) := by decide +kernel
theorem dX12_deliver_116 : decode cX12_deliver 116 = .ok (.ifCond .eq 37, 3) := by decide +kernel
theorem dX12_deliver_119 : decode cX12_deliver 119 = .ok (.goto 30, 3) := by decide +kernel
theorem dX12_deliver_122 : decode cX12_deliver 122 = .ok (.iload_n 2, 1) := by decide +kernel
theorem dX12_deliver_123 : decode cX12_deliver 123 = .ok (.iconst 1, 1) := by decide +kernel
theorem dX12_deliver_124 : decode cX12_deliver 124 = .ok (.if_icmp .ne 16, 3) := by decide +kernel
theorem dX12_deliver_127 : decode cX12_deliver 127 = .ok (.aload_n 0, 1) := by decide +kernel
theorem dX12_deliver_128 : decode cX12_deliver 128 = .ok (.iload_n 3, 1) := by decide +kernel
theorem dX12_deliver_129 : decode cX12_deliver 129 = .ok (.iload 4, 2) := by decide +kernel
theorem dX12_deliver_131 : decode cX12_deliver 131 = .ok (.invokevirtual 211, 3) := by decide +kernel
theorem dX12_deliver_134 : decode cX12_deliver 134 = .ok (.ifCond .eq 19, 3) := by decide +kernel
theorem dX12_deliver_137 : decode cX12_deliver 137 = .ok (.goto 12, 3) := by decide +kernel
theorem dX12_deliver_140 : decode cX12_deliver 140 = .ok (.aload_n 0, 1) := by decide +kernel
theorem dX12_deliver_141 : decode cX12_deliver 141 = .ok (.iload 4, 2) := by decide +kernel
theorem dX12_deliver_143 : decode cX12_deliver 143 = .ok (.invokevirtual 214, 3) := by decide +kernel
theorem dX12_deliver_146 : decode cX12_deliver 146 = .ok (.ifCond .eq 7, 3) := by decide +kernel
theorem dX12_deliver_149 : decode cX12_deliver 149 = .ok (.iconst 1, 1) := by decide +kernel
theorem dX12_deliver_150 : decode cX12_deliver 150 = .ok (.goto 4, 3) := by decide +kernel
theorem dX12_deliver_153 : decode cX12_deliver 153 = .ok (.iconst 0, 1) := by decide +kernel
theorem dX12_deliver_154 : decode cX12_deliver 154 = .ok (.istore 5, 2) := by decide +kernel
theorem dX12_deliver_156 : decode cX12_deliver 156 = .ok (.iload 5, 2) := by decide +kernel
theorem dX12_deliver_158 : decode cX12_deliver 158 = .ok (.ifCond .eq 7, 3) := by decide +kernel
theorem dX12_deliver_161 : decode cX12_deliver 161 = .ok (.iconst 1, 1) := by decide +kernel
theorem dX12_deliver_162 : decode cX12_deliver 162 = .ok (.goto 4, 3) := by decide +kernel
theorem dX12_deliver_165 : decode cX12_deliver 165 = .ok (.iconst 0, 1) := by decide +kernel
theorem dX12_deliver_166 : decode cX12_deliver 166 = .ok (.ireturn, 1) := by decide +kernel
theorem dX12_writes_0 : decode cX12_writes 0 = .ok (.aload_n 0, 1) := by decide +kernel
theorem dX12_writes_1 : decode cX12_writes 1 = .ok (.getfield 93, 3) := by decide +kernel
theorem dX12_writes_4 : decode cX12_writes 4 = .ok (.iload_n 1, 1) := by decide +kernel
theorem dX12_writes_5 : decode cX12_writes 5 = .ok (.iaload, 1) := by decide +kernel
theorem dX12_writes_6 : decode cX12_writes 6 = .ok (.ifCond .ne 47, 3) := by decide +kernel
theorem dX12_writes_9 : decode cX12_writes 9 = .ok (.aload_n 0, 1) := by decide +kernel
theorem dX12_writes_10 : decode cX12_writes 10 = .ok (.getfield 93, 3) := by decide +kernel
theorem dX12_writes_13 : decode cX12_writes 13 = .ok (.iload_n 1, 1) := by decide +kernel
theorem dX12_writes_14 : decode cX12_writes 14 = .ok (.iconst (-1), 1) := by decide +kernel
theorem dX12_writes_15 : decode cX12_writes 15 = .ok (.iastore, 1) := by decide +kernel
theorem dX12_writes_16 : decode cX12_writes 16 = .ok (.aload_n 0, 1) := by decide +kernel
theorem dX12_writes_17 : decode cX12_writes 17 = .ok (.getfield 78, 3) := by decide +kernel
theorem dX12_writes_20 : decode cX12_writes 20 = .ok (.iload_n 1, 1) := by decide +kernel
theorem dX12_writes_21 : decode cX12_writes 21 = .ok (.iconst 0, 1) := by decide +kernel
theorem dX12_writes_22 : decode cX12_writes 22 = .ok (.iastore, 1) := by decide +kernel
theorem dX12_writes_23 : decode cX12_writes 23 = .ok (.aload_n 0, 1) := by decide +kernel
theorem dX12_writes_24 : decode cX12_writes 24 = .ok (.getfield 81, 3) := by decide +kernel
theorem dX12_writes_27 : decode cX12_writes 27 = .ok (.iload_n 1, 1) := by decide +kernel
theorem dX12_writes_28 : decode cX12_writes 28 = .ok (.iconst 0, 1) := by decide +kernel
theorem dX12_writes_29 : decode cX12_writes 29 = .ok (.iastore, 1) := by decide +kernel
theorem dX12_writes_30 : decode cX12_writes 30 = .ok (.aload_n 0, 1) := by decide +kernel
theorem dX12_writes_31 : decode cX12_writes 31 = .ok (.getfield 84, 3) := by decide +kernel
theorem dX12_writes_34 : decode cX12_writes 34 = .ok (.iload_n 1, 1) := by decide +kernel
theorem dX12_writes_35 : decode cX12_writes 35 = .ok (.lconst 0, 1) := by decide +kernel
theorem dX12_writes_36 : decode cX12_writes 36 = .ok (.lastore, 1) := by decide +kernel
theorem dX12_writes_37 : decode cX12_writes 37 = .ok (.aload_n 0, 1) := by decide +kernel
theorem dX12_writes_38 : decode cX12_writes 38 = .ok (.getfield 87, 3) := by decide +kernel
theorem dX12_writes_41 : decode cX12_writes 41 = .ok (.iload_n 1, 1) := by decide +kernel
theorem dX12_writes_42 : decode cX12_writes 42 = .ok (.lconst 0, 1) := by decide +kernel
theorem dX12_writes_43 : decode cX12_writes 43 = .ok (.lastore, 1) := by decide +kernel
theorem dX12_writes_44 : decode cX12_writes 44 = .ok (.aload_n 0, 1) := by decide +kernel
theorem dX12_writes_45 : decode cX12_writes 45 = .ok (.getfield 90, 3) := by decide +kernel
theorem dX12_writes_48 : decode cX12_writes 48 = .ok (.iload_n 1, 1) := by decide +kernel
theorem dX12_writes_49 : decode cX12_writes 49 = .ok (.lconst 0, 1) := by decide +kernel
theorem dX12_writes_50 : decode cX12_writes 50 = .ok (.lastore, 1) := by decide +kernel
theorem dX12_writes_51 : decode cX12_writes 51 = .ok (.iconst 0, 1) := by decide +kernel
theorem dX12_writes_52 : decode cX12_writes 52 = .ok (.ireturn, 1) := by decide +kernel
theorem dX12_writes_53 : decode cX12_writes 53 = .ok (.aload_n 0, 1) := by decide +kernel
theorem dX12_writes_54 : decode cX12_writes 54 = .ok (.getfield 93, 3) := by decide +kernel
theorem dX12_writes_57 : decode cX12_writes 57 = .ok (.iload_n 1, 1) := by decide +kernel
theorem dX12_writes_58 : decode cX12_writes 58 = .ok (.aload_n 0, 1) := by decide +kernel
theorem dX12_writes_59 : decode cX12_writes 59 = .ok (.getfield 93, 3) := by decide +kernel
theorem dX12_writes_62 : decode cX12_writes 62 = .ok (.iload_n 1, 1) := by decide +kernel
theorem dX12_writes_63 : decode cX12_writes 63 = .ok (.iaload, 1) := by decide +kernel
theorem dX12_writes_64 : decode cX12_writes 64 = .ok (.ifCond .le 14, 3) := by decide +kernel
theorem dX12_writes_67 : decode cX12_writes 67 = .ok (.aload_n 0, 1) := by decide +kernel
theorem dX12_writes_68 : decode cX12_writes 68 = .ok (.getfield 93, 3) := by decide +kernel
theorem dX12_writes_71 : decode cX12_writes 71 = .ok (.iload_n 1, 1) := by decide +kernel
theorem dX12_writes_72 : decode cX12_writes 72 = .ok (.iaload, 1) := by decide +kernel
theorem dX12_writes_73 : decode cX12_writes 73 = .ok (.iconst 1, 1) := by decide +kernel
theorem dX12_writes_74 : decode cX12_writes 74 = .ok (.isub, 1) := by decide +kernel
theorem dX12_writes_75 : decode cX12_writes 75 = .ok (.goto 9, 3) := by decide +kernel
theorem dX12_writes_78 : decode cX12_writes 78 = .ok (.aload_n 0, 1) := by decide +kernel
theorem dX12_writes_79 : decode cX12_writes 79 = .ok (.getfield 93, 3) := by decide +kernel
theorem dX12_writes_82 : decode cX12_writes 82 = .ok (.iload_n 1, 1) := by decide +kernel
theorem dX12_writes_83 : decode cX12_writes 83 = .ok (.iaload, 1) := by decide +kernel
theorem dX12_writes_84 : decode cX12_writes 84 = .ok (.iastore, 1) := by decide +kernel
theorem dX12_writes_85 : decode cX12_writes 85 = .ok (.iconst 1, 1) := by decide +kernel
theorem dX12_writes_86 : decode cX12_writes 86 = .ok (.ireturn, 1) := by decide +kernel
theorem dX12_reply_0 : decode cX12_reply 0 = .ok (.aload_n 0, 1) := by decide +kernel
theorem dX12_reply_1 : decode cX12_reply 1 = .ok (.iload_n 1, 1) := by decide +kernel
theorem dX12_reply_2 : decode cX12_reply 2 = .ok (.iconst 0, 1) := by decide +kernel
theorem dX12_reply_3 : decode cX12_reply 3 = .ok (.iload_n 2, 1) := by decide +kernel
theorem dX12_reply_4 : decode cX12_reply 4 = .ok (.aload_n 0, 1) := by decide +kernel
theorem dX12_reply_5 : decode cX12_reply 5 = .ok (.getfield 195, 3) := by decide +kernel
theorem dX12_reply_8 : decode cX12_reply 8 = .ok (.aload_n 0, 1) := by decide +kernel
theorem dX12_reply_9 : decode cX12_reply 9 = .ok (.getfield 198, 3) := by decide +kernel
theorem dX12_reply_12 : decode cX12_reply 12 = .ok (.invokevirtual 217, 3) := by decide +kernel
theorem dX12_reply_15 : decode cX12_reply 15 = .ok (.pop, 1) := by decide +kernel
theorem dX12_reply_16 : decode cX12_reply 16 = .ok (.return_, 1) := by decide +kernel
theorem dX12_toCard_0 : decode cX12_toCard 0 = .ok (.iload_n 2, 1) := by decide +kernel
theorem dX12_toCard_1 : decode cX12_toCard 1 = .ok (.iconst 1, 1) := by decide +kernel
theorem dX12_toCard_2 : decode cX12_toCard 2 = .ok (.if_icmp .ne 124, 3) := by decide +kernel
theorem dX12_toCard_5 : decode cX12_toCard 5 = .ok (.aload_n 0, 1) := by decide +kernel
theorem dX12_toCard_6 : decode cX12_toCard 6 = .ok (.getfield 69, 3) := by decide +kernel
theorem dX12_toCard_9 : decode cX12_toCard 9 = .ok (.iload_n 1, 1) := by decide +kernel
theorem dX12_toCard_10 : decode cX12_toCard 10 = .ok (.iaload, 1) := by decide +kernel
theorem dX12_toCard_11 : decode cX12_toCard 11 = .ok (.ldc 221, 2) := by decide +kernel
theorem dX12_toCard_13 : decode cX12_toCard 13 = .ok (.if_icmp .ge 113, 3) := by decide +kernel
theorem dX12_toCard_16 : decode cX12_toCard 16 = .ok (.aload_n 0, 1) := by decide +kernel
theorem dX12_toCard_17 : decode cX12_toCard 17 = .ok (.iload_n 1, 1) := by decide +kernel
theorem dX12_toCard_18 : decode cX12_toCard 18 = .ok (.invokevirtual 222, 3) := by decide +kernel
theorem dX12_toCard_21 : decode cX12_toCard 21 = .ok (.ifCond .eq 103, 3) := by decide +kernel
theorem dX12_toCard_24 : decode cX12_toCard 24 = .ok (.aload_n 0, 1) := by decide +kernel
theorem dX12_toCard_25 : decode cX12_toCard 25 = .ok (.getfield 69, 3) := by decide +kernel
theorem dX12_toCard_28 : decode cX12_toCard 28 = .ok (.iload_n 1, 1) := by decide +kernel
theorem dX12_toCard_29 : decode cX12_toCard 29 = .ok (.dup2, 1) := by decide +kernel
theorem dX12_toCard_30 : decode cX12_toCard 30 = .ok (.iaload, 1) := by decide +kernel
theorem dX12_toCard_31 : decode cX12_toCard 31 = .ok (.iconst 1, 1) := by decide +kernel
theorem dX12_toCard_32 : decode cX12_toCard 32 = .ok (.iadd, 1) := by decide +kernel
theorem dX12_toCard_33 : decode cX12_toCard 33 = .ok (.iastore, 1) := by decide +kernel
theorem dX12_toCard_34 : decode cX12_toCard 34 = .ok (.aload_n 0, 1) := by decide +kernel
theorem dX12_toCard_35 : decode cX12_toCard 35 = .ok (.getfield 78, 3) := by decide +kernel
theorem dX12_toCard_38 : decode cX12_toCard 38 = .ok (.iload_n 1, 1) := by decide +kernel
theorem dX12_toCard_39 : decode cX12_toCard 39 = .ok (.iconst 1, 1) := by decide +kernel
theorem dX12_toCard_40 : decode cX12_toCard 40 = .ok (.iastore, 1) := by decide +kernel
theorem dX12_toCard_41 : decode cX12_toCard 41 = .ok (.aload_n 0, 1) := by decide +kernel
theorem dX12_toCard_42 : decode cX12_toCard 42 = .ok (.getfield 81, 3) := by decide +kernel
theorem dX12_toCard_45 : decode cX12_toCard 45 = .ok (.iload_n 1, 1) := by decide +kernel
theorem dX12_toCard_46 : decode cX12_toCard 46 = .ok (.iconst 0, 1) := by decide +kernel
theorem dX12_toCard_47 : decode cX12_toCard 47 = .ok (.iastore, 1) := by decide +kernel
theorem dX12_toCard_48 : decode cX12_toCard 48 = .ok (.aload_n 0, 1) := by decide +kernel
theorem dX12_toCard_49 : decode cX12_toCard 49 = .ok (.ldc2_w 225, 3) := by decide +kernel
theorem dX12_toCard_52 : decode cX12_toCard 52 = .ok (.invokevirtual 227, 3) := by decide +kernel
theorem dX12_toCard_55 : decode cX12_toCard 55 = .ok (.aload_n 0, 1) := by decide +kernel
theorem dX12_toCard_56 : decode cX12_toCard 56 = .ok (.iload_n 1, 1) := by decide +kernel
theorem dX12_toCard_57 : decode cX12_toCard 57 = .ok (.i2l, 1) := by decide +kernel
theorem dX12_toCard_58 : decode cX12_toCard 58 = .ok (.invokevirtual 231, 3) := by decide +kernel
theorem dX12_toCard_61 : decode cX12_toCard 61 = .ok (.aload_n 0, 1) := by decide +kernel
theorem dX12_toCard_62 : decode cX12_toCard 62 = .ok (.aload_n 0, 1) := by decide +kernel
theorem dX12_toCard_63 : decode cX12_toCard 63 = .ok (.getfield 69, 3) := by decide +kernel
theorem dX12_toCard_66 : decode cX12_toCard 66 = .ok (.iload_n 1, 1) := by decide +kernel
theorem dX12_toCard_67 : decode cX12_toCard 67 = .ok (.iaload, 1) := by decide +kernel
theorem dX12_toCard_68 : decode cX12_toCard 68 = .ok (.i2l, 1) := by decide +kernel
theorem dX12_toCard_69 : decode cX12_toCard 69 = .ok (.invokevirtual 231, 3) := by decide +kernel
theorem dX12_toCard_72 : decode cX12_toCard 72 = .ok (.aload_n 0, 1) := by decide +kernel
theorem dX12_toCard_73 : decode cX12_toCard 73 = .ok (.aload_n 0, 1) := by decide +kernel
theorem dX12_toCard_74 : decode cX12_toCard 74 = .ok (.getfield 45, 3) := by decide +kernel
theorem dX12_toCard_77 : decode cX12_toCard 77 = .ok (.iconst 4, 1) := by decide +kernel
theorem dX12_toCard_78 : decode cX12_toCard 78 = .ok (.laload, 1) := by decide +kernel
theorem dX12_toCard_79 : decode cX12_toCard 79 = .ok (.invokevirtual 231, 3) := by decide +kernel
theorem dX12_toCard_82 : decode cX12_toCard 82 = .ok (.aload_n 0, 1) := by decide +kernel
theorem dX12_toCard_83 : decode cX12_toCard 83 = .ok (.getfield 48, 3) := by decide +kernel
theorem dX12_toCard_86 : decode cX12_toCard 86 = .ok (.iconst 1, 1) := by decide +kernel
theorem dX12_toCard_87 : decode cX12_toCard 87 = .ok (.iload_n 1, 1) := by decide +kernel
theorem dX12_toCard_88 : decode cX12_toCard 88 = .ok (.i2l, 1) := by decide +kernel
theorem dX12_toCard_89 : decode cX12_toCard 89 = .ok (.lastore, 1) := by decide +kernel
theorem dX12_toCard_90 : decode cX12_toCard 90 = .ok (.aload_n 0, 1) := by decide +kernel
theorem dX12_toCard_91 : decode cX12_toCard 91 = .ok (.getfield 48, 3) := by decide +kernel
theorem dX12_toCard_94 : decode cX12_toCard 94 = .ok (.iconst 2, 1) := by decide +kernel
theorem dX12_toCard_95 : decode cX12_toCard 95 = .ok (.aload_n 0, 1) := by decide +kernel
theorem dX12_toCard_96 : decode cX12_toCard 96 = .ok (.getfield 69, 3) := by decide +kernel
theorem dX12_toCard_99 : decode cX12_toCard 99 = .ok (.iload_n 1, 1) := by decide +kernel
theorem dX12_toCard_100 : decode cX12_toCard 100 = .ok (.iaload, 1) := by decide +kernel
theorem dX12_toCard_101 : decode cX12_toCard 101 = .ok (.i2l, 1) := by decide +kernel
theorem dX12_toCard_102 : decode cX12_toCard 102 = .ok (.lastore, 1) := by decide +kernel
theorem dX12_toCard_103 : decode cX12_toCard 103 = .ok (.aload_n 0, 1) := by decide +kernel
theorem dX12_toCard_104 : decode cX12_toCard 104 = .ok (.getfield 48, 3) := by decide +kernel
theorem dX12_toCard_107 : decode cX12_toCard 107 = .ok (.bipush 8, 2) := by decide +kernel
theorem dX12_toCard_109 : decode cX12_toCard 109 = .ok (.aload_n 0, 1) := by decide +kernel
theorem dX12_toCard_110 : decode cX12_toCard 110 = .ok (.iconst 0, 1) := by decide +kernel
theorem dX12_toCard_111 : decode cX12_toCard 111 = .ok (.iload_n 1, 1) := by decide +kernel
theorem dX12_toCard_112 : decode cX12_toCard 112 = .ok (.i2l, 1) := by decide +kernel
theorem dX12_toCard_113 : decode cX12_toCard 113 = .ok (.invokevirtual 234, 3) := by decide +kernel
theorem dX12_toCard_116 : decode cX12_toCard 116 = .ok (.i2l, 1) := by decide +kernel
theorem dX12_toCard_117 : decode cX12_toCard 117 = .ok (.lastore, 1) := by decide +kernel
theorem dX12_toCard_118 : decode cX12_toCard 118 = .ok (.aload_n 0, 1) := by decide +kernel
theorem dX12_toCard_119 : decode cX12_toCard 119 = .ok (.iconst 2, 1) := by decide +kernel
theorem dX12_toCard_120 : decode cX12_toCard 120 = .ok (.iload_n 1, 1) := by decide +kernel
theorem dX12_toCard_121 : decode cX12_toCard 121 = .ok (.invokevirtual 237, 3) := by decide +kernel
theorem dX12_toCard_124 : decode cX12_toCard 124 = .ok (.iconst 1, 1) := by decide +kernel
theorem dX12_toCard_125 : decode cX12_toCard 125 = .ok (.ireturn, 1) := by decide +kernel
theorem dX12_toCard_126 : decode cX12_toCard 126 = .ok (.iload_n 2, 1) := by decide +kernel
theorem dX12_toCard_127 : decode cX12_toCard 127 = .ok (.iconst 3, 1) := by decide +kernel
theorem dX12_toCard_128 : decode cX12_toCard 128 = .ok (.if_icmp .ne 20, 3) := by decide +kernel
theorem dX12_toCard_131 : decode cX12_toCard 131 = .ok (.aload_n 0, 1) := by decide +kernel
theorem dX12_toCard_132 : decode cX12_toCard 132 = .ok (.getfield 78, 3) := by decide +kernel
theorem dX12_toCard_135 : decode cX12_toCard 135 = .ok (.iload_n 1, 1) := by decide +kernel
theorem dX12_toCard_136 : decode cX12_toCard 136 = .ok (.iaload, 1) := by decide +kernel
theorem dX12_toCard_137 : decode cX12_toCard 137 = .ok (.iconst 1, 1) := by decide +kernel
theorem dX12_toCard_138 : decode cX12_toCard 138 = .ok (.if_icmp .ne 10, 3) := by decide +kernel
theorem dX12_toCard_141 : decode cX12_toCard 141 = .ok (.aload_n 0, 1) := by decide +kernel
theorem dX12_toCard_142 : decode cX12_toCard 142 = .ok (.iload_n 1, 1) := by decide +kernel
theorem dX12_toCard_143 : decode cX12_toCard 143 = .ok (.invokevirtual 241, 3) := by decide +kernel
theorem dX12_toCard_146 : decode cX12_toCard 146 = .ok (.iconst 1, 1) := by decide +kernel
theorem dX12_toCard_147 : decode cX12_toCard 147 = .ok (.ireturn, 1) := by decide +kernel
theorem dX12_toCard_148 : decode cX12_toCard 148 = .ok (.iload_n 2, 1) := by decide +kernel
theorem dX12_toCard_149 : decode cX12_toCard 149 = .ok (.iconst 5, 1) := by decide +kernel
theorem dX12_toCard_150 : decode cX12_toCard 150 = .ok (.if_icmp .ne 20, 3) := by decide +kernel
theorem dX12_toCard_153 : decode cX12_toCard 153 = .ok (.aload_n 0, 1) := by decide +kernel
theorem dX12_toCard_154 : decode cX12_toCard 154 = .ok (.getfield 78, 3) := by decide +kernel
theorem dX12_toCard_157 : decode cX12_toCard 157 = .ok (.iload_n 1, 1) := by decide +kernel
theorem dX12_toCard_158 : decode cX12_toCard 158 = .ok (.iaload, 1) := by decide +kernel
theorem dX12_toCard_159 : decode cX12_toCard 159 = .ok (.iconst 1, 1) := by decide +kernel
theorem dX12_toCard_160 : decode cX12_toCard 160 = .ok (.if_icmp .ne 10, 3) := by decide +kernel
theorem dX12_toCard_163 : decode cX12_toCard 163 = .ok (.aload_n 0, 1) := by decide +kernel
theorem dX12_toCard_164 : decode cX12_toCard 164 = .ok (.iload_n 1, 1) := by decide +kernel
theorem dX12_toCard_165 : decode cX12_toCard 165 = .ok (.invokevirtual 244, 3) := by decide +kernel
theorem dX12_toCard_168 : decode cX12_toCard 168 = .ok (.iconst 1, 1) := by decide +kernel
theorem dX12_toCard_169 : decode cX12_toCard 169 = .ok (.ireturn, 1) := by decide +kernel
theorem dX12_toCard_170 : decode cX12_toCard 170 = .ok (.iload_n 2, 1) := by decide +kernel
theorem dX12_toCard_171 : decode cX12_toCard 171 = .ok (.bipush 9, 2) := by decide +kernel
theorem dX12_toCard_173 : decode cX12_toCard 173 = .ok (.if_icmp .ne 20, 3) := by decide +kernel
theorem dX12_toCard_176 : decode cX12_toCard 176 = .ok (.aload_n 0, 1) := by decide +kernel
theorem dX12_toCard_177 : decode cX12_toCard 177 = .ok (.getfield 78, 3) := by decide +kernel
theorem dX12_toCard_180 : decode cX12_toCard 180 = .ok (.iload_n 1, 1) := by decide +kernel
theorem dX12_toCard_181 : decode cX12_toCard 181 = .ok (.iaload, 1) := by decide +kernel
theorem dX12_toCard_182 : decode cX12_toCard 182 = .ok (.iconst 2, 1) := by decide +kernel
theorem dX12_toCard_183 : decode cX12_toCard 183 = .ok (.if_icmp .ne 10, 3) := by decide +kernel
theorem dX12_toCard_186 : decode cX12_toCard 186 = .ok (.aload_n 0, 1) := by decide +kernel
theorem dX12_toCard_187 : decode cX12_toCard 187 = .ok (.iload_n 1, 1) := by decide +kernel
theorem dX12_toCard_188 : decode cX12_toCard 188 = .ok (.invokevirtual 247, 3) := by decide +kernel
theorem dX12_toCard_191 : decode cX12_toCard 191 = .ok (.iconst 1, 1) := by decide +kernel
theorem dX12_toCard_192 : decode cX12_toCard 192 = .ok (.ireturn, 1) := by decide +kernel
theorem dX12_toCard_193 : decode cX12_toCard 193 = .ok (.iconst 0, 1) := by decide +kernel
theorem dX12_toCard_194 : decode cX12_toCard 194 = .ok (.ireturn, 1) := by decide +kernel
theorem dX12_typePin_0 : decode cX12_typePin 0 = .ok (.aload_n 0, 1) := by decide +kernel
theorem dX12_typePin_1 : decode cX12_typePin 1 = .ok (.getfield 72, 3) := by decide +kernel
theorem dX12_typePin_4 : decode cX12_typePin 4 = .ok (.iload_n 1, 1) := by decide +kernel
theorem dX12_typePin_5 : decode cX12_typePin 5 = .ok (.iaload, 1) := by decide +kernel
theorem dX12_typePin_6 : decode cX12_typePin 6 = .ok (.ifCond .ne 27, 3) := by decide +kernel
theorem dX12_typePin_9 : decode cX12_typePin 9 = .ok (.aload_n 0, 1) := by decide +kernel
theorem dX12_typePin_10 : decode cX12_typePin 10 = .ok (.getfield 81, 3) := by decide +kernel
theorem dX12_typePin_13 : decode cX12_typePin 13 = .ok (.iload_n 1, 1) := by decide +kernel
theorem dX12_typePin_14 : decode cX12_typePin 14 = .ok (.iconst 2, 1) := by decide +kernel
theorem dX12_typePin_15 : decode cX12_typePin 15 = .ok (.iastore, 1) := by decide +kernel
theorem dX12_typePin_16 : decode cX12_typePin 16 = .ok (.aload_n 0, 1) := by decide +kernel
theorem dX12_typePin_17 : decode cX12_typePin 17 = .ok (.getfield 48, 3) := by decide +kernel
theorem dX12_typePin_20 : decode cX12_typePin 20 = .ok (.bipush 6, 2) := by decide +kernel
theorem dX12_typePin_22 : decode cX12_typePin 22 = .ok (.ldc2_w 225, 3) := by decide +kernel
theorem dX12_typePin_25 : decode cX12_typePin 25 = .ok (.lastore, 1) := by decide +kernel
theorem dX12_typePin_26 : decode cX12_typePin 26 = .ok (.aload_n 0, 1) := by decide +kernel
theorem dX12_typePin_27 : decode cX12_typePin 27 = .ok (.iconst 4, 1) := by decide +kernel
theorem dX12_typePin_28 : decode cX12_typePin 28 = .ok (.iload_n 1, 1) := by decide +kernel
theorem dX12_typePin_29 : decode cX12_typePin 29 = .ok (.invokevirtual 237, 3) := by decide +kernel
theorem dX12_typePin_32 : decode cX12_typePin 32 = .ok (.return_, 1) := by decide +kernel
theorem dX12_typePin_33 : decode cX12_typePin 33 = .ok (.aload_n 0, 1) := by decide +kernel
theorem dX12_typePin_34 : decode cX12_typePin 34 = .ok (.iload_n 1, 1) := by decide +kernel
theorem dX12_typePin_35 : decode cX12_typePin 35 = .ok (.invokevirtual 222, 3) := by decide +kernel
theorem dX12_typePin_38 : decode cX12_typePin 38 = .ok (.ifCond .ne 4, 3) := by decide +kernel
theorem dX12_typePin_41 : decode cX12_typePin 41 = .ok (.return_, 1) := by decide +kernel
theorem dX12_typePin_42 : decode cX12_typePin 42 = .ok (.aload_n 0, 1) := by decide +kernel
theorem dX12_typePin_43 : decode cX12_typePin 43 = .ok (.getfield 72, 3) := by decide +kernel
theorem dX12_typePin_46 : decode cX12_typePin 46 = .ok (.iload_n 1, 1) := by decide +kernel
theorem dX12_typePin_47 : decode cX12_typePin 47 = .ok (.dup2, 1) := by decide +kernel
theorem dX12_typePin_48 : decode cX12_typePin 48 = .ok (.iaload, 1) := by decide +kernel
theorem dX12_typePin_49 : decode cX12_typePin 49 = .ok (.iconst 1, 1) := by decide +kernel
theorem dX12_typePin_50 : decode cX12_typePin 50 = .ok (.isub, 1) := by decide +kernel
theorem dX12_typePin_51 : decode cX12_typePin 51 = .ok (.iastore, 1) := by decide +kernel
theorem dX12_typePin_52 : decode cX12_typePin 52 = .ok (.aload_n 0, 1) := by decide +kernel
theorem dX12_typePin_53 : decode cX12_typePin 53 = .ok (.getfield 45, 3) := by decide +kernel
theorem dX12_typePin_56 : decode cX12_typePin 56 = .ok (.bipush 9, 2) := by decide +kernel
theorem dX12_typePin_58 : decode cX12_typePin 58 = .ok (.laload, 1) := by decide +kernel
theorem dX12_typePin_59 : decode cX12_typePin 59 = .ok (.aload_n 0, 1) := by decide +kernel
theorem dX12_typePin_60 : decode cX12_typePin 60 = .ok (.getfield 54, 3) := by decide +kernel
theorem dX12_typePin_63 : decode cX12_typePin 63 = .ok (.iload_n 1, 1) := by decide +kernel
theorem dX12_typePin_64 : decode cX12_typePin 64 = .ok (.iaload, 1) := by decide +kernel
theorem dX12_typePin_65 : decode cX12_typePin 65 = .ok (.i2l, 1) := by decide +kernel
theorem dX12_typePin_66 : decode cX12_typePin 66 = .ok (.lcmp, 1) := by decide +kernel
theorem dX12_typePin_67 : decode cX12_typePin 67 = .ok (.ifCond .ne 7, 3) := by decide +kernel
theorem dX12_typePin_70 : decode cX12_typePin 70 = .ok (.iconst 1, 1) := by decide +kernel
theorem dX12_typePin_71 : decode cX12_typePin 71 = .ok (.goto 4, 3) := by decide +kernel
theorem dX12_typePin_74 : decode cX12_typePin 74 = .ok (.iconst 0, 1) := by decide +kernel
theorem dX12_typePin_75 : decode cX12_typePin 75 = .ok (.istore_n 2, 1) := by decide +kernel
theorem dX12_typePin_76 : decode cX12_typePin 76 = .ok (.iload_n 2, 1) := by decide +kernel
theorem dX12_typePin_77 : decode cX12_typePin 77 = .ok (.ifCond .eq 19, 3) := by decide +kernel
theorem dX12_typePin_80 : decode cX12_typePin 80 = .ok (.aload_n 0, 1) := by decide +kernel
theorem dX12_typePin_81 : decode cX12_typePin 81 = .ok (.iload_n 1, 1) := by decide +kernel
theorem dX12_typePin_82 : decode cX12_typePin 82 = .ok (.invokevirtual 222, 3) := by decide +kernel
theorem dX12_typePin_85 : decode cX12_typePin 85 = .ok (.ifCond .ne 4, 3) := by decide +kernel
theorem dX12_typePin_88 : decode cX12_typePin 88 = .ok (.return_, 1) := by decide +kernel
theorem dX12_typePin_89 : decode cX12_typePin 89 = .ok (.aload_n 0, 1) := by decide +kernel
theorem dX12_typePin_90 : decode cX12_typePin 90 = .ok (.getfield 72, 3) := by decide +kernel
theorem dX12_typePin_93 : decode cX12_typePin 93 = .ok (.iload_n 1, 1) := by decide +kernel
theorem dX12_typePin_94 : decode cX12_typePin 94 = .ok (.iconst 3, 1) := by decide +kernel
theorem dX12_typePin_95 : decode cX12_typePin 95 = .ok (.iastore, 1) := by decide +kernel
theorem dX12_typePin_96 : decode cX12_typePin 96 = .ok (.aload_n 0, 1) := by decide +kernel
theorem dX12_typePin_97 : decode cX12_typePin 97 = .ok (.getfield 81, 3) := by decide +kernel
theorem dX12_typePin_100 : decode cX12_typePin 100 = .ok (.iload_n 1, 1) := by decide +kernel
theorem dX12_typePin_101 : decode cX12_typePin 101 = .ok (.iload_n 2, 1) := by decide +kernel
theorem dX12_typePin_102 : decode cX12_typePin 102 = .ok (.ifCond .eq 7, 3) := by decide +kernel
theorem dX12_typePin_105 : decode cX12_typePin 105 = .ok (.iconst 1, 1) := by decide +kernel
theorem dX12_typePin_106 : decode cX12_typePin 106 = .ok (.goto 4, 3) := by decide +kernel
theorem dX12_typePin_109 : decode cX12_typePin 109 = .ok (.iconst 2, 1) := by decide +kernel
theorem dX12_typePin_110 : decode cX12_typePin 110 = .ok (.iastore, 1) := by decide +kernel
theorem dX12_typePin_111 : decode cX12_typePin 111 = .ok (.aload_n 0, 1) := by decide +kernel
theorem dX12_typePin_112 : decode cX12_typePin 112 = .ok (.getfield 48, 3) := by decide +kernel
theorem dX12_typePin_115 : decode cX12_typePin 115 = .ok (.bipush 6, 2) := by decide +kernel
theorem dX12_typePin_117 : decode cX12_typePin 117 = .ok (.iload_n 2, 1) := by decide +kernel
theorem dX12_typePin_118 : decode cX12_typePin 118 = .ok (.ifCond .eq 7, 3) := by decide +kernel
theorem dX12_typePin_121 : decode cX12_typePin 121 = .ok (.lconst 1, 1) := by decide +kernel
theorem dX12_typePin_122 : decode cX12_typePin 122 = .ok (.goto 4, 3) := by decide +kernel
theorem dX12_typePin_125 : decode cX12_typePin 125 = .ok (.lconst 0, 1) := by decide +kernel
theorem dX12_typePin_126 : decode cX12_typePin 126 = .ok (.lastore, 1) := by decide +kernel
theorem dX12_typePin_127 : decode cX12_typePin 127 = .ok (.aload_n 0, 1) := by decide +kernel
theorem dX12_typePin_128 : decode cX12_typePin 128 = .ok (.iconst 4, 1) := by decide +kernel
theorem dX12_typePin_129 : decode cX12_typePin 129 = .ok (.iload_n 1, 1) := by decide +kernel
theorem dX12_typePin_130 : decode cX12_typePin 130 = .ok (.invokevirtual 237, 3) := by decide +kernel
theorem dX12_typePin_133 : decode cX12_typePin 133 = .ok (.return_, 1) := by decide +kernel
theorem dX12_answer_0 : decode cX12_answer 0 = .ok (.aload_n 0, 1) := by decide +kernel
theorem dX12_answer_1 : decode cX12_answer 1 = .ok (.getfield 45, 3) := by decide +kernel
theorem dX12_answer_4 : decode cX12_answer 4 = .ok (.bipush 7, 2) := by decide +kernel
theorem dX12_answer_6 : decode cX12_answer 6 = .ok (.laload, 1) := by decide +kernel
theorem dX12_answer_7 : decode cX12_answer 7 = .ok (.lstore_n 2, 1) := by decide +kernel
theorem dX12_answer_8 : decode cX12_answer 8 = .ok (.aload_n 0, 1) := by decide +kernel
theorem dX12_answer_9 : decode cX12_answer 9 = .ok (.getfield 45, 3) := by decide +kernel
theorem dX12_answer_12 : decode cX12_answer 12 = .ok (.iconst 3, 1) := by decide +kernel
theorem dX12_answer_13 : decode cX12_answer 13 = .ok (.laload, 1) := by decide +kernel
theorem dX12_answer_14 : decode cX12_answer 14 = .ok (.lstore 4, 2) := by decide +kernel
theorem dX12_answer_16 : decode cX12_answer 16 = .ok (.iconst 1, 1) := by decide +kernel
theorem dX12_answer_17 : decode cX12_answer 17 = .ok (.istore 6, 2) := by decide +kernel
theorem dX12_answer_19 : decode cX12_answer 19 = .ok (.aload_n 0, 1) := by decide +kernel
theorem dX12_answer_20 : decode cX12_answer 20 = .ok (.getfield 72, 3) := by decide +kernel
theorem dX12_answer_23 : decode cX12_answer 23 = .ok (.iload_n 1, 1) := by decide +kernel
theorem dX12_answer_24 : decode cX12_answer 24 = .ok (.iaload, 1) := by decide +kernel
theorem dX12_answer_25 : decode cX12_answer 25 = .ok (.ifCond .eq 9, 3) := by decide +kernel
theorem dX12_answer_28 : decode cX12_answer 28 = .ok (.lload_n 2, 1) := by decide +kernel
theorem dX12_answer_29 : decode cX12_answer 29 = .ok (.lconst 0, 1) := by decide +kernel
theorem dX12_answer_30 : decode cX12_answer 30 = .ok (.lcmp, 1) := by decide +kernel
theorem dX12_answer_31 : decode cX12_answer 31 = .ok (.ifCond .ne 9, 3) := by decide +kernel
theorem dX12_answer_34 : decode cX12_answer 34 = .ok (.iconst 0, 1) := by decide +kernel
theorem dX12_answer_35 : decode cX12_answer 35 = .ok (.istore 6, 2) := by decide +kernel
theorem dX12_answer_37 : decode cX12_answer 37 = .ok (.goto 60, 3) := by decide +kernel
theorem dX12_answer_40 : decode cX12_answer 40 = .ok (.lload_n 2, 1) := by decide +kernel
theorem dX12_answer_41 : decode cX12_answer 41 = .ok (.ldc2_w 225, 3) := by decide +kernel
theorem dX12_answer_44 : decode cX12_answer 44 = .ok (.lcmp, 1) := by decide +kernel
theorem dX12_answer_45 : decode cX12_answer 45 = .ok (.ifCond .ne 52, 3) := by decide +kernel
theorem dX12_answer_48 : decode cX12_answer 48 = .ok (.lload 4, 2) := by decide +kernel
theorem dX12_answer_50 : decode cX12_answer 50 = .ok (.aload_n 0, 1) := by decide +kernel
theorem dX12_answer_51 : decode cX12_answer 51 = .ok (.getfield 57, 3) := by decide +kernel
theorem dX12_answer_54 : decode cX12_answer 54 = .ok (.iload_n 1, 1) := by decide +kernel
theorem dX12_answer_55 : decode cX12_answer 55 = .ok (.laload, 1) := by decide +kernel
theorem dX12_answer_56 : decode cX12_answer 56 = .ok (.lcmp, 1) := by decide +kernel
theorem dX12_answer_57 : decode cX12_answer 57 = .ok (.ifCond .gt 40, 3) := by decide +kernel
theorem dX12_answer_60 : decode cX12_answer 60 = .ok (.aload_n 0, 1) := by decide +kernel
theorem dX12_answer_61 : decode cX12_answer 61 = .ok (.getfield 75, 3) := by decide +kernel
theorem dX12_answer_64 : decode cX12_answer 64 = .ok (.iload_n 1, 1) := by decide +kernel
theorem dX12_answer_65 : decode cX12_answer 65 = .ok (.iaload, 1) := by decide +kernel
theorem dX12_answer_66 : decode cX12_answer 66 = .ok (.aload_n 0, 1) := by decide +kernel
theorem dX12_answer_67 : decode cX12_answer 67 = .ok (.getfield 60, 3) := by decide +kernel
theorem dX12_answer_70 : decode cX12_answer 70 = .ok (.iload_n 1, 1) := by decide +kernel
theorem dX12_answer_71 : decode cX12_answer 71 = .ok (.iaload, 1) := by decide +kernel
theorem dX12_answer_72 : decode cX12_answer 72 = .ok (.if_icmp .ge 25, 3) := by decide +kernel
theorem dX12_answer_75 : decode cX12_answer 75 = .ok (.aload_n 0, 1) := by decide +kernel
theorem dX12_answer_76 : decode cX12_answer 76 = .ok (.iload_n 1, 1) := by decide +kernel
theorem dX12_answer_77 : decode cX12_answer 77 = .ok (.invokevirtual 222, 3) := by decide +kernel
theorem dX12_answer_80 : decode cX12_answer 80 = .ok (.ifCond .ne 4, 3) := by decide +kernel
theorem dX12_answer_83 : decode cX12_answer 83 = .ok (.return_, 1) := by decide +kernel
theorem dX12_answer_84 : decode cX12_answer 84 = .ok (.aload_n 0, 1) := by decide +kernel
theorem dX12_answer_85 : decode cX12_answer 85 = .ok (.getfield 75, 3) := by decide +kernel
theorem dX12_answer_88 : decode cX12_answer 88 = .ok (.iload_n 1, 1) := by decide +kernel
theorem dX12_answer_89 : decode cX12_answer 89 = .ok (.dup2, 1) := by decide +kernel
theorem dX12_answer_90 : decode cX12_answer 90 = .ok (.iaload, 1) := by decide +kernel
theorem dX12_answer_91 : decode cX12_answer 91 = .ok (.iconst 1, 1) := by decide +kernel
theorem dX12_answer_92 : decode cX12_answer 92 = .ok (.iadd, 1) := by decide +kernel
theorem dX12_answer_93 : decode cX12_answer 93 = .ok (.iastore, 1) := by decide +kernel
theorem dX12_answer_94 : decode cX12_answer 94 = .ok (.iconst 2, 1) := by decide +kernel
theorem dX12_answer_95 : decode cX12_answer 95 = .ok (.istore 6, 2) := by decide +kernel
theorem dX12_answer_97 : decode cX12_answer 97 = .ok (.aload_n 0, 1) := by decide +kernel
theorem dX12_answer_98 : decode cX12_answer 98 = .ok (.getfield 84, 3) := by decide +kernel
theorem dX12_answer_101 : decode cX12_answer 101 = .ok (.iload_n 1, 1) := by decide +kernel
theorem dX12_answer_102 : decode cX12_answer 102 = .ok (.lload 4, 2) := by decide +kernel
theorem dX12_answer_104 : decode cX12_answer 104 = .ok (.lastore, 1) := by decide +kernel
theorem dX12_answer_105 : decode cX12_answer 105 = .ok (.aload_n 0, 1) := by decide +kernel
theorem dX12_answer_106 : decode cX12_answer 106 = .ok (.getfield 87, 3) := by decide +kernel
theorem dX12_answer_109 : decode cX12_answer 109 = .ok (.iload_n 1, 1) := by decide +kernel
theorem dX12_answer_110 : decode cX12_answer 110 = .ok (.aload_n 0, 1) := by decide +kernel
theorem dX12_answer_111 : decode cX12_answer 111 = .ok (.getfield 45, 3) := by decide +kernel
theorem dX12_answer_114 : decode cX12_answer 114 = .ok (.iconst 4, 1) := by decide +kernel
theorem dX12_answer_115 : decode cX12_answer 115 = .ok (.laload, 1) := by decide +kernel
theorem dX12_answer_116 : decode cX12_answer 116 = .ok (.lastore, 1) := by decide +kernel
theorem dX12_answer_117 : decode cX12_answer 117 = .ok (.aload_n 0, 1) := by decide +kernel
theorem dX12_answer_118 : decode cX12_answer 118 = .ok (.getfield 90, 3) := by decide +kernel
theorem dX12_answer_121 : decode cX12_answer 121 = .ok (.iload_n 1, 1) := by decide +kernel
theorem dX12_answer_122 : decode cX12_answer 122 = .ok (.aload_n 0, 1) := by decide +kernel
theorem dX12_answer_123 : decode cX12_answer 123 = .ok (.getfield 45, 3) := by decide +kernel
theorem dX12_answer_126 : decode cX12_answer 126 = .ok (.iconst 5, 1) := by decide +kernel
theorem dX12_answer_127 : decode cX12_answer 127 = .ok (.laload, 1) := by decide +kernel
theorem dX12_answer_128 : decode cX12_answer 128 = .ok (.lastore, 1) := by decide +kernel
theorem dX12_answer_129 : decode cX12_answer 129 = .ok (.aload_n 0, 1) := by decide +kernel
theorem dX12_answer_130 : decode cX12_answer 130 = .ok (.ldc2_w 250, 3) := by decide +kernel
theorem dX12_answer_133 : decode cX12_answer 133 = .ok (.invokevirtual 227, 3) := by decide +kernel
theorem dX12_answer_136 : decode cX12_answer 136 = .ok (.aload_n 0, 1) := by decide +kernel
theorem dX12_answer_137 : decode cX12_answer 137 = .ok (.iload 6, 2) := by decide +kernel
theorem dX12_answer_139 : decode cX12_answer 139 = .ok (.i2l, 1) := by decide +kernel
theorem dX12_answer_140 : decode cX12_answer 140 = .ok (.invokevirtual 231, 3) := by decide +kernel
theorem dX12_answer_143 : decode cX12_answer 143 = .ok (.aload_n 0, 1) := by decide +kernel
theorem dX12_answer_144 : decode cX12_answer 144 = .ok (.lload 4, 2) := by decide +kernel
theorem dX12_answer_146 : decode cX12_answer 146 = .ok (.invokevirtual 231, 3) := by decide +kernel
theorem dX12_answer_149 : decode cX12_answer 149 = .ok (.aload_n 0, 1) := by decide +kernel
theorem dX12_answer_150 : decode cX12_answer 150 = .ok (.aload_n 0, 1) := by decide +kernel
theorem dX12_answer_151 : decode cX12_answer 151 = .ok (.getfield 45, 3) := by decide +kernel
theorem dX12_answer_154 : decode cX12_answer 154 = .ok (.iconst 4, 1) := by decide +kernel
theorem dX12_answer_155 : decode cX12_answer 155 = .ok (.laload, 1) := by decide +kernel
theorem dX12_answer_156 : decode cX12_answer 156 = .ok (.invokevirtual 231, 3) := by decide +kernel
theorem dX12_answer_159 : decode cX12_answer 159 = .ok (.aload_n 0, 1) := by decide +kernel
theorem dX12_answer_160 : decode cX12_answer 160 = .ok (.aload_n 0, 1) := by decide +kernel
theorem dX12_answer_161 : decode cX12_answer 161 = .ok (.getfield 45, 3) := by decide +kernel
theorem dX12_answer_164 : decode cX12_answer 164 = .ok (.iconst 5, 1) := by decide +kernel
theorem dX12_answer_165 : decode cX12_answer 165 = .ok (.laload, 1) := by decide +kernel
theorem dX12_answer_166 : decode cX12_answer 166 = .ok (.invokevirtual 231, 3) := by decide +kernel
theorem dX12_answer_169 : decode cX12_answer 169 = .ok (.aload_n 0, 1) := by decide +kernel
theorem dX12_answer_170 : decode cX12_answer 170 = .ok (.aload_n 0, 1) := by decide +kernel
theorem dX12_answer_171 : decode cX12_answer 171 = .ok (.getfield 69, 3) := by decide +kernel
theorem dX12_answer_174 : decode cX12_answer 174 = .ok (.iload_n 1, 1) := by decide +kernel
theorem dX12_answer_175 : decode cX12_answer 175 = .ok (.iaload, 1) := by decide +kernel
theorem dX12_answer_176 : decode cX12_answer 176 = .ok (.i2l, 1) := by decide +kernel
theorem dX12_answer_177 : decode cX12_answer 177 = .ok (.invokevirtual 231, 3) := by decide +kernel
theorem dX12_answer_180 : decode cX12_answer 180 = .ok (.aload_n 0, 1) := by decide +kernel
theorem dX12_answer_181 : decode cX12_answer 181 = .ok (.aload_n 0, 1) := by decide +kernel
theorem dX12_answer_182 : decode cX12_answer 182 = .ok (.getfield 81, 3) := by decide +kernel
theorem dX12_answer_185 : decode cX12_answer 185 = .ok (.iload_n 1, 1) := by decide +kernel
theorem dX12_answer_186 : decode cX12_answer 186 = .ok (.iaload, 1) := by decide +kernel
theorem dX12_answer_187 : decode cX12_answer 187 = .ok (.i2l, 1) := by decide +kernel
theorem dX12_answer_188 : decode cX12_answer 188 = .ok (.invokevirtual 231, 3) := by decide +kernel
theorem dX12_answer_191 : decode cX12_answer 191 = .ok (.aload_n 0, 1) := by decide +kernel
theorem dX12_answer_192 : decode cX12_answer 192 = .ok (.getfield 48, 3) := by decide +kernel
theorem dX12_answer_195 : decode cX12_answer 195 = .ok (.iconst 2, 1) := by decide +kernel
theorem dX12_answer_196 : decode cX12_answer 196 = .ok (.aload_n 0, 1) := by decide +kernel
theorem dX12_answer_197 : decode cX12_answer 197 = .ok (.getfield 69, 3) := by decide +kernel
theorem dX12_answer_200 : decode cX12_answer 200 = .ok (.iload_n 1, 1) := by decide +kernel
theorem dX12_answer_201 : decode cX12_answer 201 = .ok (.iaload, 1) := by decide +kernel
theorem dX12_answer_202 : decode cX12_answer 202 = .ok (.i2l, 1) := by decide +kernel
theorem dX12_answer_203 : decode cX12_answer 203 = .ok (.lastore, 1) := by decide +kernel
theorem dX12_answer_204 : decode cX12_answer 204 = .ok (.aload_n 0, 1) := by decide +kernel
theorem dX12_answer_205 : decode cX12_answer 205 = .ok (.getfield 48, 3) := by decide +kernel
theorem dX12_answer_208 : decode cX12_answer 208 = .ok (.bipush 6, 2) := by decide +kernel
theorem dX12_answer_210 : decode cX12_answer 210 = .ok (.aload_n 0, 1) := by decide +kernel
theorem dX12_answer_211 : decode cX12_answer 211 = .ok (.getfield 81, 3) := by decide +kernel
theorem dX12_answer_214 : decode cX12_answer 214 = .ok (.iload_n 1, 1) := by decide +kernel
theorem dX12_answer_215 : decode cX12_answer 215 = .ok (.iaload, 1) := by decide +kernel
theorem dX12_answer_216 : decode cX12_answer 216 = .ok (.i2l, 1) := by decide +kernel
theorem dX12_answer_217 : decode cX12_answer 217 = .ok (.lastore, 1) := by decide +kernel
theorem dX12_answer_218 : decode cX12_answer 218 = .ok (.aload_n 0, 1) := by decide +kernel
theorem dX12_answer_219 : decode cX12_answer 219 = .ok (.getfield 48, 3) := by decide +kernel
theorem dX12_answer_222 : decode cX12_answer 222 = .ok (.bipush 7, 2) := by decide +kernel
theorem dX12_answer_224 : decode cX12_answer 224 = .ok (.iload 6, 2) := by decide +kernel
theorem dX12_answer_226 : decode cX12_answer 226 = .ok (.i2l, 1) := by decide +kernel
theorem dX12_answer_227 : decode cX12_answer 227 = .ok (.lastore, 1) := by decide +kernel
theorem dX12_answer_228 : decode cX12_answer 228 = .ok (.aload_n 0, 1) := by decide +kernel
theorem dX12_answer_229 : decode cX12_answer 229 = .ok (.getfield 48, 3) := by decide +kernel
theorem dX12_answer_232 : decode cX12_answer 232 = .ok (.bipush 8, 2) := by decide +kernel
theorem dX12_answer_234 : decode cX12_answer 234 = .ok (.aload_n 0, 1) := by decide +kernel
theorem dX12_answer_235 : decode cX12_answer 235 = .ok (.iconst 0, 1) := by decide +kernel
theorem dX12_answer_236 : decode cX12_answer 236 = .ok (.iload_n 1, 1) := by decide +kernel
theorem dX12_answer_237 : decode cX12_answer 237 = .ok (.i2l, 1) := by decide +kernel
theorem dX12_answer_238 : decode cX12_answer 238 = .ok (.invokevirtual 234, 3) := by decide +kernel
theorem dX12_answer_241 : decode cX12_answer 241 = .ok (.i2l, 1) := by decide +kernel
theorem dX12_answer_242 : decode cX12_answer 242 = .ok (.lastore, 1) := by decide +kernel
theorem dX12_answer_243 : decode cX12_answer 243 = .ok (.bipush 7, 2) := by decide +kernel
theorem dX12_answer_245 : decode cX12_answer 245 = .ok (.aload_n 0, 1) := by decide +kernel
theorem dX12_answer_246 : decode cX12_answer 246 = .ok (.getfield 252, 3) := by decide +kernel
theorem dX12_answer_249 : decode cX12_answer 249 = .ok (.imul, 1) := by decide +kernel
theorem dX12_answer_250 : decode cX12_answer 250 = .ok (.istore 7, 2) := by decide +kernel
theorem dX12_answer_252 : decode cX12_answer 252 = .ok (.aload_n 0, 1) := by decide +kernel
theorem dX12_answer_253 : decode cX12_answer 253 = .ok (.getfield 154, 3) := by decide +kernel
theorem dX12_answer_256 : decode cX12_answer 256 = .ok (.iload 7, 2) := by decide +kernel
theorem dX12_answer_258 : decode cX12_answer 258 = .ok (.iload_n 1, 1) := by decide +kernel
theorem dX12_answer_259 : decode cX12_answer 259 = .ok (.i2l, 1) := by decide +kernel
theorem dX12_answer_260 : decode cX12_answer 260 = .ok (.lastore, 1) := by decide +kernel
theorem dX12_answer_261 : decode cX12_answer 261 = .ok (.aload_n 0, 1) := by decide +kernel
theorem dX12_answer_262 : decode cX12_answer 262 = .ok (.getfield 154, 3) := by decide +kernel
theorem dX12_answer_265 : decode cX12_answer 265 = .ok (.iload 7, 2) := by decide +kernel
theorem dX12_answer_267 : decode cX12_answer 267 = .ok (.iconst 1, 1) := by decide +kernel
theorem dX12_answer_268 : decode cX12_answer 268 = .ok (.iadd, 1) := by decide +kernel
theorem dX12_answer_269 : decode cX12_answer 269 = .ok (.aload_n 0, 1) := by decide +kernel
theorem dX12_answer_270 : decode cX12_answer 270 = .ok (.getfield 69, 3) := by decide +kernel
theorem dX12_answer_273 : decode cX12_answer 273 = .ok (.iload_n 1, 1) := by decide +kernel
theorem dX12_answer_274 : decode cX12_answer 274 = .ok (.iaload, 1) := by decide +kernel
theorem dX12_answer_275 : decode cX12_answer 275 = .ok (.i2l, 1) := by decide +kernel
theorem dX12_answer_276 : decode cX12_answer 276 = .ok (.lastore, 1) := by decide +kernel
theorem dX12_answer_277 : decode cX12_answer 277 = .ok (.aload_n 0, 1) := by decide +kernel
theorem dX12_answer_278 : decode cX12_answer 278 = .ok (.getfield 154, 3) := by decide +kernel
theorem dX12_answer_281 : decode cX12_answer 281 = .ok (.iload 7, 2) := by decide +kernel
theorem dX12_answer_283 : decode cX12_answer 283 = .ok (.iconst 2, 1) := by decide +kernel
theorem dX12_answer_284 : decode cX12_answer 284 = .ok (.iadd, 1) := by decide +kernel
theorem dX12_answer_285 : decode cX12_answer 285 = .ok (.lload 4, 2) := by decide +kernel
theorem dX12_answer_287 : decode cX12_answer 287 = .ok (.lastore, 1) := by decide +kernel
theorem dX12_answer_288 : decode cX12_answer 288 = .ok (.aload_n 0, 1) := by decide +kernel
theorem dX12_answer_289 : decode cX12_answer 289 = .ok (.getfield 154, 3) := by decide +kernel
theorem dX12_answer_292 : decode cX12_answer 292 = .ok (.iload 7, 2) := by decide +kernel
theorem dX12_answer_294 : decode cX12_answer 294 = .ok (.iconst 3, 1) := by decide +kernel
theorem dX12_answer_295 : decode cX12_answer 295 = .ok (.iadd, 1) := by decide +kernel
theorem dX12_answer_296 : decode cX12_answer 296 = .ok (.aload_n 0, 1) := by decide +kernel
theorem dX12_answer_297 : decode cX12_answer 297 = .ok (.getfield 45, 3) := by decide +kernel
theorem dX12_answer_300 : decode cX12_answer 300 = .ok (.iconst 4, 1) := by decide +kernel
theorem dX12_answer_301 : decode cX12_answer 301 = .ok (.laload, 1) := by decide +kernel
theorem dX12_answer_302 : decode cX12_answer 302 = .ok (.lastore, 1) := by decide +kernel
theorem dX12_answer_303 : decode cX12_answer 303 = .ok (.aload_n 0, 1) := by decide +kernel
theorem dX12_answer_304 : decode cX12_answer 304 = .ok (.getfield 154, 3) := by decide +kernel
theorem dX12_answer_307 : decode cX12_answer 307 = .ok (.iload 7, 2) := by decide +kernel
theorem dX12_answer_309 : decode cX12_answer 309 = .ok (.iconst 4, 1) := by decide +kernel
theorem dX12_answer_310 : decode cX12_answer 310 = .ok (.iadd, 1) := by decide +kernel
theorem dX12_answer_311 : decode cX12_answer 311 = .ok (.aload_n 0, 1) := by decide +kernel
theorem dX12_answer_312 : decode cX12_answer 312 = .ok (.getfield 45, 3) := by decide +kernel
theorem dX12_answer_315 : decode cX12_answer 315 = .ok (.iconst 5, 1) := by decide +kernel
theorem dX12_answer_316 : decode cX12_answer 316 = .ok (.laload, 1) := by decide +kernel
theorem dX12_answer_317 : decode cX12_answer 317 = .ok (.lastore, 1) := by decide +kernel
theorem dX12_answer_318 : decode cX12_answer 318 = .ok (.aload_n 0, 1) := by decide +kernel
theorem dX12_answer_319 : decode cX12_answer 319 = .ok (.getfield 154, 3) := by decide +kernel
theorem dX12_answer_322 : decode cX12_answer 322 = .ok (.iload 7, 2) := by decide +kernel
theorem dX12_answer_324 : decode cX12_answer 324 = .ok (.iconst 5, 1) := by decide +kernel
theorem dX12_answer_325 : decode cX12_answer 325 = .ok (.iadd, 1) := by decide +kernel
theorem dX12_answer_326 : decode cX12_answer 326 = .ok (.aload_n 0, 1) := by decide +kernel
theorem dX12_answer_327 : decode cX12_answer 327 = .ok (.getfield 81, 3) := by decide +kernel
theorem dX12_answer_330 : decode cX12_answer 330 = .ok (.iload_n 1, 1) := by decide +kernel
theorem dX12_answer_331 : decode cX12_answer 331 = .ok (.iaload, 1) := by decide +kernel
theorem dX12_answer_332 : decode cX12_answer 332 = .ok (.i2l, 1) := by decide +kernel
theorem dX12_answer_333 : decode cX12_answer 333 = .ok (.lastore, 1) := by decide +kernel
theorem dX12_answer_334 : decode cX12_answer 334 = .ok (.aload_n 0, 1) := by decide +kernel
theorem dX12_answer_335 : decode cX12_answer 335 = .ok (.getfield 154, 3) := by decide +kernel
theorem dX12_answer_338 : decode cX12_answer 338 = .ok (.iload 7, 2) := by decide +kernel
theorem dX12_answer_340 : decode cX12_answer 340 = .ok (.bipush 6, 2) := by decide +kernel
theorem dX12_answer_342 : decode cX12_answer 342 = .ok (.iadd, 1) := by decide +kernel
theorem dX12_answer_343 : decode cX12_answer 343 = .ok (.iload 6, 2) := by decide +kernel
theorem dX12_answer_345 : decode cX12_answer 345 = .ok (.i2l, 1) := by decide +kernel
theorem dX12_answer_346 : decode cX12_answer 346 = .ok (.lastore, 1) := by decide +kernel
theorem dX12_answer_347 : decode cX12_answer 347 = .ok (.aload_n 0, 1) := by decide +kernel
theorem dX12_answer_348 : decode cX12_answer 348 = .ok (.dup, 1) := by decide +kernel
theorem dX12_answer_349 : decode cX12_answer 349 = .ok (.getfield 252, 3) := by decide +kernel
theorem dX12_answer_352 : decode cX12_answer 352 = .ok (.iconst 1, 1) := by decide +kernel
theorem dX12_answer_353 : decode cX12_answer 353 = .ok (.iadd, 1) := by decide +kernel
theorem dX12_answer_354 : decode cX12_answer 354 = .ok (.putfield 252, 3) := by decide +kernel
theorem dX12_answer_357 : decode cX12_answer 357 = .ok (.aload_n 0, 1) := by decide +kernel
theorem dX12_answer_358 : decode cX12_answer 358 = .ok (.getfield 78, 3) := by decide +kernel
theorem dX12_answer_361 : decode cX12_answer 361 = .ok (.iload_n 1, 1) := by decide +kernel
theorem dX12_answer_362 : decode cX12_answer 362 = .ok (.iload 6, 2) := by decide +kernel
theorem dX12_answer_364 : decode cX12_answer 364 = .ok (.iconst 1, 1) := by decide +kernel
theorem dX12_answer_365 : decode cX12_answer 365 = .ok (.if_icmp .ne 7, 3) := by decide +kernel
theorem dX12_answer_368 : decode cX12_answer 368 = .ok (.iconst 2, 1) := by decide +kernel
theorem dX12_answer_369 : decode cX12_answer 369 = .ok (.goto 4, 3) := by decide +kernel
theorem dX12_answer_372 : decode cX12_answer 372 = .ok (.iconst 0, 1) := by decide +kernel
theorem dX12_answer_373 : decode cX12_answer 373 = .ok (.iastore, 1) := by decide +kernel
theorem dX12_answer_374 : decode cX12_answer 374 = .ok (.aload_n 0, 1) := by decide +kernel
theorem dX12_answer_375 : decode cX12_answer 375 = .ok (.bipush 6, 2) := by decide +kernel
theorem dX12_answer_377 : decode cX12_answer 377 = .ok (.iload_n 1, 1) := by decide +kernel
theorem dX12_answer_378 : decode cX12_answer 378 = .ok (.invokevirtual 237, 3) := by decide +kernel
theorem dX12_answer_381 : decode cX12_answer 381 = .ok (.return_, 1) := by decide +kernel
