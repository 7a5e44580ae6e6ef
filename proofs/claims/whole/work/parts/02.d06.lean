theorem dX12_finish_0 : decode cX12_finish 0 = .ok (.aload_n 0, 1) := by decide +kernel
theorem dX12_finish_1 : decode cX12_finish 1 = .ok (.ldc2_w 255, 3) := by decide +kernel
theorem dX12_finish_4 : decode cX12_finish 4 = .ok (.invokevirtual 227, 3) := by decide +kernel
theorem dX12_finish_7 : decode cX12_finish 7 = .ok (.aload_n 0, 1) := by decide +kernel
theorem dX12_finish_8 : decode cX12_finish 8 = .ok (.iload_n 1, 1) := by decide +kernel
theorem dX12_finish_9 : decode cX12_finish 9 = .ok (.i2l, 1) := by decide +kernel
theorem dX12_finish_10 : decode cX12_finish 10 = .ok (.invokevirtual 231, 3) := by decide +kernel
theorem dX12_finish_13 : decode cX12_finish 13 = .ok (.aload_n 0, 1) := by decide +kernel
theorem dX12_finish_14 : decode cX12_finish 14 = .ok (.aload_n 0, 1) := by decide +kernel
theorem dX12_finish_15 : decode cX12_finish 15 = .ok (.getfield 69, 3) := by decide +kernel
theorem dX12_finish_18 : decode cX12_finish 18 = .ok (.iload_n 1, 1) := by decide +kernel
theorem dX12_finish_19 : decode cX12_finish 19 = .ok (.iaload, 1) := by decide +kernel
theorem dX12_finish_20 : decode cX12_finish 20 = .ok (.i2l, 1) := by decide +kernel
theorem dX12_finish_21 : decode cX12_finish 21 = .ok (.invokevirtual 231, 3) := by decide +kernel
theorem dX12_finish_24 : decode cX12_finish 24 = .ok (.aload_n 0, 1) := by decide +kernel
theorem dX12_finish_25 : decode cX12_finish 25 = .ok (.aload_n 0, 1) := by decide +kernel
theorem dX12_finish_26 : decode cX12_finish 26 = .ok (.getfield 45, 3) := by decide +kernel
theorem dX12_finish_29 : decode cX12_finish 29 = .ok (.bipush 10, 2) := by decide +kernel
theorem dX12_finish_31 : decode cX12_finish 31 = .ok (.laload, 1) := by decide +kernel
theorem dX12_finish_32 : decode cX12_finish 32 = .ok (.invokevirtual 231, 3) := by decide +kernel
theorem dX12_finish_35 : decode cX12_finish 35 = .ok (.aload_n 0, 1) := by decide +kernel
theorem dX12_finish_36 : decode cX12_finish 36 = .ok (.getfield 45, 3) := by decide +kernel
theorem dX12_finish_39 : decode cX12_finish 39 = .ok (.bipush 10, 2) := by decide +kernel
theorem dX12_finish_41 : decode cX12_finish 41 = .ok (.laload, 1) := by decide +kernel
theorem dX12_finish_42 : decode cX12_finish 42 = .ok (.lconst 1, 1) := by decide +kernel
theorem dX12_finish_43 : decode cX12_finish 43 = .ok (.lcmp, 1) := by decide +kernel
theorem dX12_finish_44 : decode cX12_finish 44 = .ok (.ifCond .ne 24, 3) := by decide +kernel
theorem dX12_finish_47 : decode cX12_finish 47 = .ok (.aload_n 0, 1) := by decide +kernel
theorem dX12_finish_48 : decode cX12_finish 48 = .ok (.iconst 2, 1) := by decide +kernel
theorem dX12_finish_49 : decode cX12_finish 49 = .ok (.iload_n 1, 1) := by decide +kernel
theorem dX12_finish_50 : decode cX12_finish 50 = .ok (.i2l, 1) := by decide +kernel
theorem dX12_finish_51 : decode cX12_finish 51 = .ok (.aload_n 0, 1) := by decide +kernel
theorem dX12_finish_52 : decode cX12_finish 52 = .ok (.getfield 45, 3) := by decide +kernel
theorem dX12_finish_55 : decode cX12_finish 55 = .ok (.bipush 8, 2) := by decide +kernel
theorem dX12_finish_57 : decode cX12_finish 57 = .ok (.laload, 1) := by decide +kernel
theorem dX12_finish_58 : decode cX12_finish 58 = .ok (.invokevirtual 257, 3) := by decide +kernel
theorem dX12_finish_61 : decode cX12_finish 61 = .ok (.ifCond .eq 7, 3) := by decide +kernel
theorem dX12_finish_64 : decode cX12_finish 64 = .ok (.iconst 1, 1) := by decide +kernel
theorem dX12_finish_65 : decode cX12_finish 65 = .ok (.goto 4, 3) := by decide +kernel
theorem dX12_finish_68 : decode cX12_finish 68 = .ok (.iconst 0, 1) := by decide +kernel
theorem dX12_finish_69 : decode cX12_finish 69 = .ok (.istore_n 2, 1) := by decide +kernel
theorem dX12_finish_70 : decode cX12_finish 70 = .ok (.iload_n 2, 1) := by decide +kernel
theorem dX12_finish_71 : decode cX12_finish 71 = .ok (.ifCond .eq 19, 3) := by decide +kernel
theorem dX12_finish_74 : decode cX12_finish 74 = .ok (.aload_n 0, 1) := by decide +kernel
theorem dX12_finish_75 : decode cX12_finish 75 = .ok (.iload_n 1, 1) := by decide +kernel
theorem dX12_finish_76 : decode cX12_finish 76 = .ok (.invokevirtual 222, 3) := by decide +kernel
theorem dX12_finish_79 : decode cX12_finish 79 = .ok (.ifCond .ne 4, 3) := by decide +kernel
theorem dX12_finish_82 : decode cX12_finish 82 = .ok (.return_, 1) := by decide +kernel
theorem dX12_finish_83 : decode cX12_finish 83 = .ok (.aload_n 0, 1) := by decide +kernel
theorem dX12_finish_84 : decode cX12_finish 84 = .ok (.getfield 75, 3) := by decide +kernel
theorem dX12_finish_87 : decode cX12_finish 87 = .ok (.iload_n 1, 1) := by decide +kernel
theorem dX12_finish_88 : decode cX12_finish 88 = .ok (.iconst 0, 1) := by decide +kernel
theorem dX12_finish_89 : decode cX12_finish 89 = .ok (.iastore, 1) := by decide +kernel
theorem dX12_finish_90 : decode cX12_finish 90 = .ok (.iload_n 2, 1) := by decide +kernel
theorem dX12_finish_91 : decode cX12_finish 91 = .ok (.ifCond .eq 7, 3) := by decide +kernel
theorem dX12_finish_94 : decode cX12_finish 94 = .ok (.iconst 2, 1) := by decide +kernel
theorem dX12_finish_95 : decode cX12_finish 95 = .ok (.goto 4, 3) := by decide +kernel
theorem dX12_finish_98 : decode cX12_finish 98 = .ok (.iconst 0, 1) := by decide +kernel
theorem dX12_finish_99 : decode cX12_finish 99 = .ok (.istore_n 3, 1) := by decide +kernel
theorem dX12_finish_100 : decode cX12_finish 100 = .ok (.aload_n 0, 1) := by decide +kernel
theorem dX12_finish_101 : decode cX12_finish 101 = .ok (.ldc2_w 261, 3) := by decide +kernel
theorem dX12_finish_104 : decode cX12_finish 104 = .ok (.invokevirtual 227, 3) := by decide +kernel
theorem dX12_finish_107 : decode cX12_finish 107 = .ok (.aload_n 0, 1) := by decide +kernel
theorem dX12_finish_108 : decode cX12_finish 108 = .ok (.iload_n 3, 1) := by decide +kernel
theorem dX12_finish_109 : decode cX12_finish 109 = .ok (.i2l, 1) := by decide +kernel
theorem dX12_finish_110 : decode cX12_finish 110 = .ok (.invokevirtual 231, 3) := by decide +kernel
theorem dX12_finish_113 : decode cX12_finish 113 = .ok (.aload_n 0, 1) := by decide +kernel
theorem dX12_finish_114 : decode cX12_finish 114 = .ok (.aload_n 0, 1) := by decide +kernel
theorem dX12_finish_115 : decode cX12_finish 115 = .ok (.getfield 84, 3) := by decide +kernel
theorem dX12_finish_118 : decode cX12_finish 118 = .ok (.iload_n 1, 1) := by decide +kernel
theorem dX12_finish_119 : decode cX12_finish 119 = .ok (.laload, 1) := by decide +kernel
theorem dX12_finish_120 : decode cX12_finish 120 = .ok (.invokevirtual 231, 3) := by decide +kernel
theorem dX12_finish_123 : decode cX12_finish 123 = .ok (.aload_n 0, 1) := by decide +kernel
theorem dX12_finish_124 : decode cX12_finish 124 = .ok (.aload_n 0, 1) := by decide +kernel
theorem dX12_finish_125 : decode cX12_finish 125 = .ok (.getfield 87, 3) := by decide +kernel
theorem dX12_finish_128 : decode cX12_finish 128 = .ok (.iload_n 1, 1) := by decide +kernel
theorem dX12_finish_129 : decode cX12_finish 129 = .ok (.laload, 1) := by decide +kernel
theorem dX12_finish_130 : decode cX12_finish 130 = .ok (.invokevirtual 231, 3) := by decide +kernel
theorem dX12_finish_133 : decode cX12_finish 133 = .ok (.aload_n 0, 1) := by decide +kernel
theorem dX12_finish_134 : decode cX12_finish 134 = .ok (.aload_n 0, 1) := by decide +kernel
theorem dX12_finish_135 : decode cX12_finish 135 = .ok (.getfield 90, 3) := by decide +kernel
theorem dX12_finish_138 : decode cX12_finish 138 = .ok (.iload_n 1, 1) := by decide +kernel
theorem dX12_finish_139 : decode cX12_finish 139 = .ok (.laload, 1) := by decide +kernel
theorem dX12_finish_140 : decode cX12_finish 140 = .ok (.invokevirtual 231, 3) := by decide +kernel
theorem dX12_finish_143 : decode cX12_finish 143 = .ok (.aload_n 0, 1) := by decide +kernel
theorem dX12_finish_144 : decode cX12_finish 144 = .ok (.aload_n 0, 1) := by decide +kernel
theorem dX12_finish_145 : decode cX12_finish 145 = .ok (.getfield 69, 3) := by decide +kernel
theorem dX12_finish_148 : decode cX12_finish 148 = .ok (.iload_n 1, 1) := by decide +kernel
theorem dX12_finish_149 : decode cX12_finish 149 = .ok (.iaload, 1) := by decide +kernel
theorem dX12_finish_150 : decode cX12_finish 150 = .ok (.i2l, 1) := by decide +kernel
theorem dX12_finish_151 : decode cX12_finish 151 = .ok (.invokevirtual 231, 3) := by decide +kernel
theorem dX12_finish_154 : decode cX12_finish 154 = .ok (.aload_n 0, 1) := by decide +kernel
theorem dX12_finish_155 : decode cX12_finish 155 = .ok (.getfield 48, 3) := by decide +kernel
theorem dX12_finish_158 : decode cX12_finish 158 = .ok (.bipush 7, 2) := by decide +kernel
theorem dX12_finish_160 : decode cX12_finish 160 = .ok (.iload_n 3, 1) := by decide +kernel
theorem dX12_finish_161 : decode cX12_finish 161 = .ok (.i2l, 1) := by decide +kernel
theorem dX12_finish_162 : decode cX12_finish 162 = .ok (.lastore, 1) := by decide +kernel
theorem dX12_finish_163 : decode cX12_finish 163 = .ok (.aload_n 0, 1) := by decide +kernel
theorem dX12_finish_164 : decode cX12_finish 164 = .ok (.getfield 48, 3) := by decide +kernel
theorem dX12_finish_167 : decode cX12_finish 167 = .ok (.bipush 8, 2) := by decide +kernel
theorem dX12_finish_169 : decode cX12_finish 169 = .ok (.aload_n 0, 1) := by decide +kernel
theorem dX12_finish_170 : decode cX12_finish 170 = .ok (.iconst 0, 1) := by decide +kernel
theorem dX12_finish_171 : decode cX12_finish 171 = .ok (.iload_n 1, 1) := by decide +kernel
theorem dX12_finish_172 : decode cX12_finish 172 = .ok (.i2l, 1) := by decide +kernel
theorem dX12_finish_173 : decode cX12_finish 173 = .ok (.invokevirtual 234, 3) := by decide +kernel
theorem dX12_finish_176 : decode cX12_finish 176 = .ok (.i2l, 1) := by decide +kernel
theorem dX12_finish_177 : decode cX12_finish 177 = .ok (.lastore, 1) := by decide +kernel
theorem dX12_finish_178 : decode cX12_finish 178 = .ok (.aload_n 0, 1) := by decide +kernel
theorem dX12_finish_179 : decode cX12_finish 179 = .ok (.getfield 78, 3) := by decide +kernel
theorem dX12_finish_182 : decode cX12_finish 182 = .ok (.iload_n 1, 1) := by decide +kernel
theorem dX12_finish_183 : decode cX12_finish 183 = .ok (.iconst 0, 1) := by decide +kernel
theorem dX12_finish_184 : decode cX12_finish 184 = .ok (.iastore, 1) := by decide +kernel
theorem dX12_finish_185 : decode cX12_finish 185 = .ok (.aload_n 0, 1) := by decide +kernel
theorem dX12_finish_186 : decode cX12_finish 186 = .ok (.bipush 10, 2) := by decide +kernel
theorem dX12_finish_188 : decode cX12_finish 188 = .ok (.iload_n 1, 1) := by decide +kernel
theorem dX12_finish_189 : decode cX12_finish 189 = .ok (.invokevirtual 237, 3) := by decide +kernel
theorem dX12_finish_192 : decode cX12_finish 192 = .ok (.return_, 1) := by decide +kernel
theorem dX12_end_0 : decode cX12_end 0 = .ok (.aload_n 0, 1) := by decide +kernel
theorem dX12_end_1 : decode cX12_end 1 = .ok (.getfield 105, 3) := by decide +kernel
theorem dX12_end_4 : decode cX12_end 4 = .ok (.iload_n 1, 1) := by decide +kernel
theorem dX12_end_5 : decode cX12_end 5 = .ok (.iload_n 2, 1) := by decide +kernel
theorem dX12_end_6 : decode cX12_end 6 = .ok (.iastore, 1) := by decide +kernel
theorem dX12_end_7 : decode cX12_end 7 = .ok (.aload_n 0, 1) := by decide +kernel
theorem dX12_end_8 : decode cX12_end 8 = .ok (.getfield 108, 3) := by decide +kernel
theorem dX12_end_11 : decode cX12_end 11 = .ok (.iload_n 1, 1) := by decide +kernel
theorem dX12_end_12 : decode cX12_end 12 = .ok (.iconst 0, 1) := by decide +kernel
theorem dX12_end_13 : decode cX12_end 13 = .ok (.iastore, 1) := by decide +kernel
theorem dX12_end_14 : decode cX12_end 14 = .ok (.return_, 1) := by decide +kernel
theorem dX12_toItsCard_0 : decode cX12_toItsCard 0 = .ok (.aload_n 0, 1) := by decide +kernel
theorem dX12_toItsCard_1 : decode cX12_toItsCard 1 = .ok (.iload_n 2, 1) := by decide +kernel
theorem dX12_toItsCard_2 : decode cX12_toItsCard 2 = .ok (.iconst 1, 1) := by decide +kernel
theorem dX12_toItsCard_3 : decode cX12_toItsCard 3 = .ok (.iload_n 1, 1) := by decide +kernel
theorem dX12_toItsCard_4 : decode cX12_toItsCard 4 = .ok (.iconst 0, 1) := by decide +kernel
theorem dX12_toItsCard_5 : decode cX12_toItsCard 5 = .ok (.aload_n 0, 1) := by decide +kernel
theorem dX12_toItsCard_6 : decode cX12_toItsCard 6 = .ok (.getfield 114, 3) := by decide +kernel
theorem dX12_toItsCard_9 : decode cX12_toItsCard 9 = .ok (.iload_n 1, 1) := by decide +kernel
theorem dX12_toItsCard_10 : decode cX12_toItsCard 10 = .ok (.iaload, 1) := by decide +kernel
theorem dX12_toItsCard_11 : decode cX12_toItsCard 11 = .ok (.invokevirtual 217, 3) := by decide +kernel
theorem dX12_toItsCard_14 : decode cX12_toItsCard 14 = .ok (.pop, 1) := by decide +kernel
theorem dX12_toItsCard_15 : decode cX12_toItsCard 15 = .ok (.aload_n 0, 1) := by decide +kernel
theorem dX12_toItsCard_16 : decode cX12_toItsCard 16 = .ok (.getfield 108, 3) := by decide +kernel
theorem dX12_toItsCard_19 : decode cX12_toItsCard 19 = .ok (.iload_n 1, 1) := by decide +kernel
theorem dX12_toItsCard_20 : decode cX12_toItsCard 20 = .ok (.iload_n 3, 1) := by decide +kernel
theorem dX12_toItsCard_21 : decode cX12_toItsCard 21 = .ok (.iastore, 1) := by decide +kernel
theorem dX12_toItsCard_22 : decode cX12_toItsCard 22 = .ok (.aload_n 0, 1) := by decide +kernel
theorem dX12_toItsCard_23 : decode cX12_toItsCard 23 = .ok (.getfield 111, 3) := by decide +kernel
theorem dX12_toItsCard_26 : decode cX12_toItsCard 26 = .ok (.iload_n 1, 1) := by decide +kernel
theorem dX12_toItsCard_27 : decode cX12_toItsCard 27 = .ok (.aload_n 0, 1) := by decide +kernel
theorem dX12_toItsCard_28 : decode cX12_toItsCard 28 = .ok (.getfield 263, 3) := by decide +kernel
theorem dX12_toItsCard_31 : decode cX12_toItsCard 31 = .ok (.lastore, 1) := by decide +kernel
theorem dX12_toItsCard_32 : decode cX12_toItsCard 32 = .ok (.return_, 1) := by decide +kernel
theorem dX12_ask_0 : decode cX12_ask 0 = .ok (.aload_n 0, 1) := by decide +kernel
theorem dX12_ask_1 : decode cX12_ask 1 = .ok (.getfield 48, 3) := by decide +kernel
theorem dX12_ask_4 : decode cX12_ask 4 = .ok (.iconst 3, 1) := by decide +kernel
theorem dX12_ask_5 : decode cX12_ask 5 = .ok (.aload_n 0, 1) := by decide +kernel
theorem dX12_ask_6 : decode cX12_ask 6 = .ok (.getfield 117, 3) := by decide +kernel
theorem dX12_ask_9 : decode cX12_ask 9 = .ok (.iload_n 1, 1) := by decide +kernel
theorem dX12_ask_10 : decode cX12_ask 10 = .ok (.laload, 1) := by decide +kernel
theorem dX12_ask_11 : decode cX12_ask 11 = .ok (.lastore, 1) := by decide +kernel
theorem dX12_ask_12 : decode cX12_ask 12 = .ok (.aload_n 0, 1) := by decide +kernel
theorem dX12_ask_13 : decode cX12_ask 13 = .ok (.getfield 48, 3) := by decide +kernel
theorem dX12_ask_16 : decode cX12_ask 16 = .ok (.iconst 4, 1) := by decide +kernel
theorem dX12_ask_17 : decode cX12_ask 17 = .ok (.aload_n 0, 1) := by decide +kernel
theorem dX12_ask_18 : decode cX12_ask 18 = .ok (.getfield 120, 3) := by decide +kernel
theorem dX12_ask_21 : decode cX12_ask 21 = .ok (.iload_n 1, 1) := by decide +kernel
theorem dX12_ask_22 : decode cX12_ask 22 = .ok (.laload, 1) := by decide +kernel
theorem dX12_ask_23 : decode cX12_ask 23 = .ok (.lastore, 1) := by decide +kernel
theorem dX12_ask_24 : decode cX12_ask 24 = .ok (.aload_n 0, 1) := by decide +kernel
theorem dX12_ask_25 : decode cX12_ask 25 = .ok (.getfield 48, 3) := by decide +kernel
theorem dX12_ask_28 : decode cX12_ask 28 = .ok (.iconst 5, 1) := by decide +kernel
theorem dX12_ask_29 : decode cX12_ask 29 = .ok (.iload_n 1, 1) := by decide +kernel
theorem dX12_ask_30 : decode cX12_ask 30 = .ok (.i2l, 1) := by decide +kernel
theorem dX12_ask_31 : decode cX12_ask 31 = .ok (.lastore, 1) := by decide +kernel
theorem dX12_ask_32 : decode cX12_ask 32 = .ok (.aload_n 0, 1) := by decide +kernel
theorem dX12_ask_33 : decode cX12_ask 33 = .ok (.getfield 48, 3) := by decide +kernel
theorem dX12_ask_36 : decode cX12_ask 36 = .ok (.bipush 7, 2) := by decide +kernel
theorem dX12_ask_38 : decode cX12_ask 38 = .ok (.aload_n 0, 1) := by decide +kernel
theorem dX12_ask_39 : decode cX12_ask 39 = .ok (.getfield 117, 3) := by decide +kernel
theorem dX12_ask_42 : decode cX12_ask 42 = .ok (.iload_n 1, 1) := by decide +kernel
theorem dX12_ask_43 : decode cX12_ask 43 = .ok (.laload, 1) := by decide +kernel
theorem dX12_ask_44 : decode cX12_ask 44 = .ok (.aload_n 0, 1) := by decide +kernel
theorem dX12_ask_45 : decode cX12_ask 45 = .ok (.getfield 96, 3) := by decide +kernel
theorem dX12_ask_48 : decode cX12_ask 48 = .ok (.iload_n 1, 1) := by decide +kernel
theorem dX12_ask_49 : decode cX12_ask 49 = .ok (.laload, 1) := by decide +kernel
theorem dX12_ask_50 : decode cX12_ask 50 = .ok (.lcmp, 1) := by decide +kernel
theorem dX12_ask_51 : decode cX12_ask 51 = .ok (.ifCond .gt 9, 3) := by decide +kernel
theorem dX12_ask_54 : decode cX12_ask 54 = .ok (.ldc2_w 225, 3) := by decide +kernel
theorem dX12_ask_57 : decode cX12_ask 57 = .ok (.goto 4, 3) := by decide +kernel
theorem dX12_ask_60 : decode cX12_ask 60 = .ok (.lconst 1, 1) := by decide +kernel
theorem dX12_ask_61 : decode cX12_ask 61 = .ok (.lastore, 1) := by decide +kernel
theorem dX12_ask_62 : decode cX12_ask 62 = .ok (.aload_n 0, 1) := by decide +kernel
theorem dX12_ask_63 : decode cX12_ask 63 = .ok (.iload_n 1, 1) := by decide +kernel
theorem dX12_ask_64 : decode cX12_ask 64 = .ok (.iconst 5, 1) := by decide +kernel
theorem dX12_ask_65 : decode cX12_ask 65 = .ok (.bipush 6, 2) := by decide +kernel
theorem dX12_ask_67 : decode cX12_ask 67 = .ok (.invokevirtual 267, 3) := by decide +kernel
theorem dX12_ask_70 : decode cX12_ask 70 = .ok (.return_, 1) := by decide +kernel
theorem dX12_toTerminal_0 : decode cX12_toTerminal 0 = .ok (.aload_n 0, 1) := by decide +kernel
theorem dX12_toTerminal_1 : decode cX12_toTerminal 1 = .ok (.getfield 108, 3) := by decide +kernel
theorem dX12_toTerminal_4 : decode cX12_toTerminal 4 = .ok (.iload_n 1, 1) := by decide +kernel
theorem dX12_toTerminal_5 : decode cX12_toTerminal 5 = .ok (.iaload, 1) := by decide +kernel
theorem dX12_toTerminal_6 : decode cX12_toTerminal 6 = .ok (.iload_n 2, 1) := by decide +kernel
theorem dX12_toTerminal_7 : decode cX12_toTerminal 7 = .ok (.if_icmp .eq 5, 3) := by decide +kernel
theorem dX12_toTerminal_10 : decode cX12_toTerminal 10 = .ok (.iconst 0, 1) := by decide +kernel
theorem dX12_toTerminal_11 : decode cX12_toTerminal 11 = .ok (.ireturn, 1) := by decide +kernel
theorem dX12_toTerminal_12 : decode cX12_toTerminal 12 = .ok (.iload_n 2, 1) := by decide +kernel
theorem dX12_toTerminal_13 : decode cX12_toTerminal 13 = .ok (.tableswitch 98 2 8 #[43, 98, 50, 98, 85, 98, 92], 43) := by decide +kernel
theorem dX12_toTerminal_56 : decode cX12_toTerminal 56 = .ok (.aload_n 0, 1) := by decide +kernel
theorem dX12_toTerminal_57 : decode cX12_toTerminal 57 = .ok (.iload_n 1, 1) := by decide +kernel
theorem dX12_toTerminal_58 : decode cX12_toTerminal 58 = .ok (.invokevirtual 271, 3) := by decide +kernel
theorem dX12_toTerminal_61 : decode cX12_toTerminal 61 = .ok (.iconst 1, 1) := by decide +kernel
theorem dX12_toTerminal_62 : decode cX12_toTerminal 62 = .ok (.ireturn, 1) := by decide +kernel
theorem dX12_toTerminal_63 : decode cX12_toTerminal 63 = .ok (.aload_n 0, 1) := by decide +kernel
theorem dX12_toTerminal_64 : decode cX12_toTerminal 64 = .ok (.getfield 45, 3) := by decide +kernel
theorem dX12_toTerminal_67 : decode cX12_toTerminal 67 = .ok (.bipush 6, 2) := by decide +kernel
theorem dX12_toTerminal_69 : decode cX12_toTerminal 69 = .ok (.laload, 1) := by decide +kernel
theorem dX12_toTerminal_70 : decode cX12_toTerminal 70 = .ok (.lconst 1, 1) := by decide +kernel
theorem dX12_toTerminal_71 : decode cX12_toTerminal 71 = .ok (.lcmp, 1) := by decide +kernel
theorem dX12_toTerminal_72 : decode cX12_toTerminal 72 = .ok (.ifCond .ne 18, 3) := by decide +kernel
theorem dX12_toTerminal_75 : decode cX12_toTerminal 75 = .ok (.aload_n 0, 1) := by decide +kernel
theorem dX12_toTerminal_76 : decode cX12_toTerminal 76 = .ok (.getfield 132, 3) := by decide +kernel
theorem dX12_toTerminal_79 : decode cX12_toTerminal 79 = .ok (.iload_n 1, 1) := by decide +kernel
theorem dX12_toTerminal_80 : decode cX12_toTerminal 80 = .ok (.iconst 1, 1) := by decide +kernel
theorem dX12_toTerminal_81 : decode cX12_toTerminal 81 = .ok (.iastore, 1) := by decide +kernel
theorem dX12_toTerminal_82 : decode cX12_toTerminal 82 = .ok (.aload_n 0, 1) := by decide +kernel
theorem dX12_toTerminal_83 : decode cX12_toTerminal 83 = .ok (.iload_n 1, 1) := by decide +kernel
theorem dX12_toTerminal_84 : decode cX12_toTerminal 84 = .ok (.invokevirtual 274, 3) := by decide +kernel
theorem dX12_toTerminal_87 : decode cX12_toTerminal 87 = .ok (.goto 9, 3) := by decide +kernel
theorem dX12_toTerminal_90 : decode cX12_toTerminal 90 = .ok (.aload_n 0, 1) := by decide +kernel
theorem dX12_toTerminal_91 : decode cX12_toTerminal 91 = .ok (.iload_n 1, 1) := by decide +kernel
theorem dX12_toTerminal_92 : decode cX12_toTerminal 92 = .ok (.iconst 3, 1) := by decide +kernel
theorem dX12_toTerminal_93 : decode cX12_toTerminal 93 = .ok (.invokevirtual 277, 3) := by decide +kernel
theorem dX12_toTerminal_96 : decode cX12_toTerminal 96 = .ok (.iconst 1, 1) := by decide +kernel
theorem dX12_toTerminal_97 : decode cX12_toTerminal 97 = .ok (.ireturn, 1) := by decide +kernel
theorem dX12_toTerminal_98 : decode cX12_toTerminal 98 = .ok (.aload_n 0, 1) := by decide +kernel
theorem dX12_toTerminal_99 : decode cX12_toTerminal 99 = .ok (.iload_n 1, 1) := by decide +kernel
theorem dX12_toTerminal_100 : decode cX12_toTerminal 100 = .ok (.invokevirtual 280, 3) := by decide +kernel
theorem dX12_toTerminal_103 : decode cX12_toTerminal 103 = .ok (.iconst 1, 1) := by decide +kernel
theorem dX12_toTerminal_104 : decode cX12_toTerminal 104 = .ok (.ireturn, 1) := by decide +kernel
theorem dX12_toTerminal_105 : decode cX12_toTerminal 105 = .ok (.aload_n 0, 1) := by decide +kernel
theorem dX12_toTerminal_106 : decode cX12_toTerminal 106 = .ok (.iload_n 1, 1) := by decide +kernel
theorem dX12_toTerminal_107 : decode cX12_toTerminal 107 = .ok (.invokevirtual 283, 3) := by decide +kernel
theorem dX12_toTerminal_110 : decode cX12_toTerminal 110 = .ok (.ireturn, 1) := by decide +kernel
theorem dX12_toTerminal_111 : decode cX12_toTerminal 111 = .ok (.aload_n 0, 1) := by decide +kernel
theorem dX12_toTerminal_112 : decode cX12_toTerminal 112 = .ok (.ldc2_w 261, 3) := by decide +kernel
theorem dX12_toTerminal_115 : decode cX12_toTerminal 115 = .ok (.invokevirtual 227, 3) := by decide +kernel
theorem dX12_toTerminal_118 : decode cX12_toTerminal 118 = .ok (.aload_n 0, 1) := by decide +kernel
theorem dX12_toTerminal_119 : decode cX12_toTerminal 119 = .ok (.ldc2_w 225, 3) := by decide +kernel
theorem dX12_toTerminal_122 : decode cX12_toTerminal 122 = .ok (.invokevirtual 231, 3) := by decide +kernel
theorem dX12_toTerminal_125 : decode cX12_toTerminal 125 = .ok (.aload_n 0, 1) := by decide +kernel
theorem dX12_toTerminal_126 : decode cX12_toTerminal 126 = .ok (.aload_n 0, 1) := by decide +kernel
theorem dX12_toTerminal_127 : decode cX12_toTerminal 127 = .ok (.getfield 117, 3) := by decide +kernel
theorem dX12_toTerminal_130 : decode cX12_toTerminal 130 = .ok (.iload_n 1, 1) := by decide +kernel
theorem dX12_toTerminal_131 : decode cX12_toTerminal 131 = .ok (.laload, 1) := by decide +kernel
theorem dX12_toTerminal_132 : decode cX12_toTerminal 132 = .ok (.invokevirtual 231, 3) := by decide +kernel
theorem dX12_toTerminal_135 : decode cX12_toTerminal 135 = .ok (.aload_n 0, 1) := by decide +kernel
theorem dX12_toTerminal_136 : decode cX12_toTerminal 136 = .ok (.aload_n 0, 1) := by decide +kernel
theorem dX12_toTerminal_137 : decode cX12_toTerminal 137 = .ok (.getfield 120, 3) := by decide +kernel
theorem dX12_toTerminal_140 : decode cX12_toTerminal 140 = .ok (.iload_n 1, 1) := by decide +kernel
theorem dX12_toTerminal_141 : decode cX12_toTerminal 141 = .ok (.laload, 1) := by decide +kernel
theorem dX12_toTerminal_142 : decode cX12_toTerminal 142 = .ok (.invokevirtual 231, 3) := by decide +kernel
theorem dX12_toTerminal_145 : decode cX12_toTerminal 145 = .ok (.aload_n 0, 1) := by decide +kernel
theorem dX12_toTerminal_146 : decode cX12_toTerminal 146 = .ok (.iload_n 1, 1) := by decide +kernel
theorem dX12_toTerminal_147 : decode cX12_toTerminal 147 = .ok (.i2l, 1) := by decide +kernel
theorem dX12_toTerminal_148 : decode cX12_toTerminal 148 = .ok (.invokevirtual 231, 3) := by decide +kernel
theorem dX12_toTerminal_151 : decode cX12_toTerminal 151 = .ok (.aload_n 0, 1) := by decide +kernel
theorem dX12_toTerminal_152 : decode cX12_toTerminal 152 = .ok (.aload_n 0, 1) := by decide +kernel
theorem dX12_toTerminal_153 : decode cX12_toTerminal 153 = .ok (.getfield 135, 3) := by decide +kernel
theorem dX12_toTerminal_156 : decode cX12_toTerminal 156 = .ok (.iload_n 1, 1) := by decide +kernel
theorem dX12_toTerminal_157 : decode cX12_toTerminal 157 = .ok (.iaload, 1) := by decide +kernel
theorem dX12_toTerminal_158 : decode cX12_toTerminal 158 = .ok (.i2l, 1) := by decide +kernel
theorem dX12_toTerminal_159 : decode cX12_toTerminal 159 = .ok (.invokevirtual 231, 3) := by decide +kernel
theorem dX12_toTerminal_162 : decode cX12_toTerminal 162 = .ok (.aload_n 0, 1) := by decide +kernel
theorem dX12_toTerminal_163 : decode cX12_toTerminal 163 = .ok (.getfield 138, 3) := by decide +kernel
theorem dX12_toTerminal_166 : decode cX12_toTerminal 166 = .ok (.iload_n 1, 1) := by decide +kernel
theorem dX12_toTerminal_167 : decode cX12_toTerminal 167 = .ok (.iaload, 1) := by decide +kernel
theorem dX12_toTerminal_168 : decode cX12_toTerminal 168 = .ok (.iconst 1, 1) := by decide +kernel
theorem dX12_toTerminal_169 : decode cX12_toTerminal 169 = .ok (.if_icmp .ne 43, 3) := by decide +kernel
theorem dX12_toTerminal_172 : decode cX12_toTerminal 172 = .ok (.aload_n 0, 1) := by decide +kernel
theorem dX12_toTerminal_173 : decode cX12_toTerminal 173 = .ok (.getfield 45, 3) := by decide +kernel
theorem dX12_toTerminal_176 : decode cX12_toTerminal 176 = .ok (.bipush 7, 2) := by decide +kernel
theorem dX12_toTerminal_178 : decode cX12_toTerminal 178 = .ok (.laload, 1) := by decide +kernel
theorem dX12_toTerminal_179 : decode cX12_toTerminal 179 = .ok (.ldc2_w 225, 3) := by decide +kernel
theorem dX12_toTerminal_182 : decode cX12_toTerminal 182 = .ok (.lcmp, 1) := by decide +kernel
theorem dX12_toTerminal_183 : decode cX12_toTerminal 183 = .ok (.ifCond .ne 29, 3) := by decide +kernel
theorem dX12_toTerminal_186 : decode cX12_toTerminal 186 = .ok (.aload_n 0, 1) := by decide +kernel
theorem dX12_toTerminal_187 : decode cX12_toTerminal 187 = .ok (.iconst 0, 1) := by decide +kernel
theorem dX12_toTerminal_188 : decode cX12_toTerminal 188 = .ok (.aload_n 0, 1) := by decide +kernel
theorem dX12_toTerminal_189 : decode cX12_toTerminal 189 = .ok (.getfield 126, 3) := by decide +kernel
theorem dX12_toTerminal_192 : decode cX12_toTerminal 192 = .ok (.iload_n 1, 1) := by decide +kernel
theorem dX12_toTerminal_193 : decode cX12_toTerminal 193 = .ok (.iaload, 1) := by decide +kernel
theorem dX12_toTerminal_194 : decode cX12_toTerminal 194 = .ok (.i2l, 1) := by decide +kernel
theorem dX12_toTerminal_195 : decode cX12_toTerminal 195 = .ok (.aload_n 0, 1) := by decide +kernel
theorem dX12_toTerminal_196 : decode cX12_toTerminal 196 = .ok (.getfield 45, 3) := by decide +kernel
theorem dX12_toTerminal_199 : decode cX12_toTerminal 199 = .ok (.bipush 8, 2) := by decide +kernel
theorem dX12_toTerminal_201 : decode cX12_toTerminal 201 = .ok (.laload, 1) := by decide +kernel
theorem dX12_toTerminal_202 : decode cX12_toTerminal 202 = .ok (.invokevirtual 257, 3) := by decide +kernel
theorem dX12_toTerminal_205 : decode cX12_toTerminal 205 = .ok (.ifCond .eq 7, 3) := by decide +kernel
theorem dX12_toTerminal_208 : decode cX12_toTerminal 208 = .ok (.iconst 1, 1) := by decide +kernel
theorem dX12_toTerminal_209 : decode cX12_toTerminal 209 = .ok (.goto 4, 3) := by decide +kernel
theorem dX12_toTerminal_212 : decode cX12_toTerminal 212 = .ok (.iconst 0, 1) := by decide +kernel
theorem dX12_toTerminal_213 : decode cX12_toTerminal 213 = .ok (.istore_n 3, 1) := by decide +kernel
theorem dX12_toTerminal_214 : decode cX12_toTerminal 214 = .ok (.aload_n 0, 1) := by decide +kernel
theorem dX12_toTerminal_215 : decode cX12_toTerminal 215 = .ok (.iload_n 1, 1) := by decide +kernel
theorem dX12_toTerminal_216 : decode cX12_toTerminal 216 = .ok (.iload_n 3, 1) := by decide +kernel
theorem dX12_toTerminal_217 : decode cX12_toTerminal 217 = .ok (.ifCond .eq 7, 3) := by decide +kernel
theorem dX12_toTerminal_220 : decode cX12_toTerminal 220 = .ok (.iconst 1, 1) := by decide +kernel
theorem dX12_toTerminal_221 : decode cX12_toTerminal 221 = .ok (.goto 4, 3) := by decide +kernel
theorem dX12_toTerminal_224 : decode cX12_toTerminal 224 = .ok (.iconst 3, 1) := by decide +kernel
theorem dX12_toTerminal_225 : decode cX12_toTerminal 225 = .ok (.invokevirtual 277, 3) := by decide +kernel
theorem dX12_toTerminal_228 : decode cX12_toTerminal 228 = .ok (.iconst 1, 1) := by decide +kernel
theorem dX12_toTerminal_229 : decode cX12_toTerminal 229 = .ok (.ireturn, 1) := by decide +kernel
theorem dX12_takeCard_0 : decode cX12_takeCard 0 = .ok (.aload_n 0, 1) := by decide +kernel
theorem dX12_takeCard_1 : decode cX12_takeCard 1 = .ok (.ldc2_w 225, 3) := by decide +kernel
theorem dX12_takeCard_4 : decode cX12_takeCard 4 = .ok (.invokevirtual 227, 3) := by decide +kernel
theorem dX12_takeCard_7 : decode cX12_takeCard 7 = .ok (.aload_n 0, 1) := by decide +kernel
theorem dX12_takeCard_8 : decode cX12_takeCard 8 = .ok (.aload_n 0, 1) := by decide +kernel
theorem dX12_takeCard_9 : decode cX12_takeCard 9 = .ok (.getfield 45, 3) := by decide +kernel
theorem dX12_takeCard_12 : decode cX12_takeCard 12 = .ok (.iconst 1, 1) := by decide +kernel
theorem dX12_takeCard_13 : decode cX12_takeCard 13 = .ok (.laload, 1) := by decide +kernel
theorem dX12_takeCard_14 : decode cX12_takeCard 14 = .ok (.invokevirtual 231, 3) := by decide +kernel
theorem dX12_takeCard_17 : decode cX12_takeCard 17 = .ok (.aload_n 0, 1) := by decide +kernel
theorem dX12_takeCard_18 : decode cX12_takeCard 18 = .ok (.aload_n 0, 1) := by decide +kernel
theorem dX12_takeCard_19 : decode cX12_takeCard 19 = .ok (.getfield 45, 3) := by decide +kernel
theorem dX12_takeCard_22 : decode cX12_takeCard 22 = .ok (.iconst 2, 1) := by decide +kernel
theorem dX12_takeCard_23 : decode cX12_takeCard 23 = .ok (.laload, 1) := by decide +kernel
theorem dX12_takeCard_24 : decode cX12_takeCard 24 = .ok (.invokevirtual 231, 3) := by decide +kernel
theorem dX12_takeCard_27 : decode cX12_takeCard 27 = .ok (.aload_n 0, 1) := by decide +kernel
theorem dX12_takeCard_28 : decode cX12_takeCard 28 = .ok (.aload_n 0, 1) := by decide +kernel
theorem dX12_takeCard_29 : decode cX12_takeCard 29 = .ok (.getfield 120, 3) := by decide +kernel
theorem dX12_takeCard_32 : decode cX12_takeCard 32 = .ok (.iload_n 1, 1) := by decide +kernel
theorem dX12_takeCard_33 : decode cX12_takeCard 33 = .ok (.laload, 1) := by decide +kernel
theorem dX12_takeCard_34 : decode cX12_takeCard 34 = .ok (.invokevirtual 231, 3) := by decide +kernel
theorem dX12_takeCard_37 : decode cX12_takeCard 37 = .ok (.aload_n 0, 1) := by decide +kernel
theorem dX12_takeCard_38 : decode cX12_takeCard 38 = .ok (.getfield 45, 3) := by decide +kernel
theorem dX12_takeCard_41 : decode cX12_takeCard 41 = .ok (.iconst 1, 1) := by decide +kernel
theorem dX12_takeCard_42 : decode cX12_takeCard 42 = .ok (.laload, 1) := by decide +kernel
theorem dX12_takeCard_43 : decode cX12_takeCard 43 = .ok (.aload_n 0, 1) := by decide +kernel
theorem dX12_takeCard_44 : decode cX12_takeCard 44 = .ok (.getfield 286, 3) := by decide +kernel
theorem dX12_takeCard_47 : decode cX12_takeCard 47 = .ok (.i2l, 1) := by decide +kernel
theorem dX12_takeCard_48 : decode cX12_takeCard 48 = .ok (.lcmp, 1) := by decide +kernel
theorem dX12_takeCard_49 : decode cX12_takeCard 49 = .ok (.ifCond .ge 24, 3) := by decide +kernel
theorem dX12_takeCard_52 : decode cX12_takeCard 52 = .ok (.aload_n 0, 1) := by decide +kernel
theorem dX12_takeCard_53 : decode cX12_takeCard 53 = .ok (.iconst 0, 1) := by decide +kernel
theorem dX12_takeCard_54 : decode cX12_takeCard 54 = .ok (.aload_n 0, 1) := by decide +kernel
theorem dX12_takeCard_55 : decode cX12_takeCard 55 = .ok (.getfield 45, 3) := by decide +kernel
theorem dX12_takeCard_58 : decode cX12_takeCard 58 = .ok (.iconst 1, 1) := by decide +kernel
theorem dX12_takeCard_59 : decode cX12_takeCard 59 = .ok (.laload, 1) := by decide +kernel
theorem dX12_takeCard_60 : decode cX12_takeCard 60 = .ok (.aload_n 0, 1) := by decide +kernel
theorem dX12_takeCard_61 : decode cX12_takeCard 61 = .ok (.getfield 45, 3) := by decide +kernel
theorem dX12_takeCard_64 : decode cX12_takeCard 64 = .ok (.bipush 8, 2) := by decide +kernel
theorem dX12_takeCard_66 : decode cX12_takeCard 66 = .ok (.laload, 1) := by decide +kernel
theorem dX12_takeCard_67 : decode cX12_takeCard 67 = .ok (.invokevirtual 257, 3) := by decide +kernel
theorem dX12_takeCard_70 : decode cX12_takeCard 70 = .ok (.ifCond .ne 10, 3) := by decide +kernel
theorem dX12_takeCard_73 : decode cX12_takeCard 73 = .ok (.aload_n 0, 1) := by decide +kernel
theorem dX12_takeCard_74 : decode cX12_takeCard 74 = .ok (.iload_n 1, 1) := by decide +kernel
theorem dX12_takeCard_75 : decode cX12_takeCard 75 = .ok (.iconst 3, 1) := by decide +kernel
theorem dX12_takeCard_76 : decode cX12_takeCard 76 = .ok (.invokevirtual 277, 3) := by decide +kernel
theorem dX12_takeCard_79 : decode cX12_takeCard 79 = .ok (.return_, 1) := by decide +kernel
theorem dX12_takeCard_80 : decode cX12_takeCard 80 = .ok (.aload_n 0, 1) := by decide +kernel
theorem dX12_takeCard_81 : decode cX12_takeCard 81 = .ok (.getfield 126, 3) := by decide +kernel
theorem dX12_takeCard_84 : decode cX12_takeCard 84 = .ok (.iload_n 1, 1) := by decide +kernel
theorem dX12_takeCard_85 : decode cX12_takeCard 85 = .ok (.aload_n 0, 1) := by decide +kernel
theorem dX12_takeCard_86 : decode cX12_takeCard 86 = .ok (.getfield 45, 3) := by decide +kernel
theorem dX12_takeCard_89 : decode cX12_takeCard 89 = .ok (.iconst 1, 1) := by decide +kernel
theorem dX12_takeCard_90 : decode cX12_takeCard 90 = .ok (.laload, 1) := by decide +kernel
theorem dX12_takeCard_91 : decode cX12_takeCard 91 = .ok (.l2i, 1) := by decide +kernel
theorem dX12_takeCard_92 : decode cX12_takeCard 92 = .ok (.iastore, 1) := by decide +kernel
theorem dX12_takeCard_93 : decode cX12_takeCard 93 = .ok (.aload_n 0, 1) := by decide +kernel
theorem dX12_takeCard_94 : decode cX12_takeCard 94 = .ok (.getfield 129, 3) := by decide +kernel
theorem dX12_takeCard_97 : decode cX12_takeCard 97 = .ok (.iload_n 1, 1) := by decide +kernel
theorem dX12_takeCard_98 : decode cX12_takeCard 98 = .ok (.aload_n 0, 1) := by decide +kernel
theorem dX12_takeCard_99 : decode cX12_takeCard 99 = .ok (.getfield 45, 3) := by decide +kernel
theorem dX12_takeCard_102 : decode cX12_takeCard 102 = .ok (.iconst 2, 1) := by decide +kernel
theorem dX12_takeCard_103 : decode cX12_takeCard 103 = .ok (.laload, 1) := by decide +kernel
theorem dX12_takeCard_104 : decode cX12_takeCard 104 = .ok (.l2i, 1) := by decide +kernel
theorem dX12_takeCard_105 : decode cX12_takeCard 105 = .ok (.iastore, 1) := by decide +kernel
theorem dX12_takeCard_106 : decode cX12_takeCard 106 = .ok (.aload_n 0, 1) := by decide +kernel
theorem dX12_takeCard_107 : decode cX12_takeCard 107 = .ok (.getfield 117, 3) := by decide +kernel
theorem dX12_takeCard_110 : decode cX12_takeCard 110 = .ok (.iload_n 1, 1) := by decide +kernel
theorem dX12_takeCard_111 : decode cX12_takeCard 111 = .ok (.laload, 1) := by decide +kernel
theorem dX12_takeCard_112 : decode cX12_takeCard 112 = .ok (.aload_n 0, 1) := by decide +kernel
theorem dX12_takeCard_113 : decode cX12_takeCard 113 = .ok (.getfield 99, 3) := by decide +kernel
theorem dX12_takeCard_116 : decode cX12_takeCard 116 = .ok (.iload_n 1, 1) := by decide +kernel
theorem dX12_takeCard_117 : decode cX12_takeCard 117 = .ok (.laload, 1) := by decide +kernel
theorem dX12_takeCard_118 : decode cX12_takeCard 118 = .ok (.lcmp, 1) := by decide +kernel
theorem dX12_takeCard_119 : decode cX12_takeCard 119 = .ok (.ifCond .lt 27, 3) := by decide +kernel
theorem dX12_takeCard_122 : decode cX12_takeCard 122 = .ok (.aload_n 0, 1) := by decide +kernel
theorem dX12_takeCard_123 : decode cX12_takeCard 123 = .ok (.getfield 48, 3) := by decide +kernel
theorem dX12_takeCard_126 : decode cX12_takeCard 126 = .ok (.bipush 9, 2) := by decide +kernel
theorem dX12_takeCard_128 : decode cX12_takeCard 128 = .ok (.aload_n 0, 1) := by decide +kernel
theorem dX12_takeCard_129 : decode cX12_takeCard 129 = .ok (.getfield 123, 3) := by decide +kernel
theorem dX12_takeCard_132 : decode cX12_takeCard 132 = .ok (.iload_n 1, 1) := by decide +kernel
theorem dX12_takeCard_133 : decode cX12_takeCard 133 = .ok (.iaload, 1) := by decide +kernel
theorem dX12_takeCard_134 : decode cX12_takeCard 134 = .ok (.i2l, 1) := by decide +kernel
theorem dX12_takeCard_135 : decode cX12_takeCard 135 = .ok (.lastore, 1) := by decide +kernel
theorem dX12_takeCard_136 : decode cX12_takeCard 136 = .ok (.aload_n 0, 1) := by decide +kernel
theorem dX12_takeCard_137 : decode cX12_takeCard 137 = .ok (.iload_n 1, 1) := by decide +kernel
theorem dX12_takeCard_138 : decode cX12_takeCard 138 = .ok (.iconst 3, 1) := by decide +kernel
theorem dX12_takeCard_139 : decode cX12_takeCard 139 = .ok (.iconst 4, 1) := by decide +kernel
theorem dX12_takeCard_140 : decode cX12_takeCard 140 = .ok (.invokevirtual 267, 3) := by decide +kernel
theorem dX12_takeCard_143 : decode cX12_takeCard 143 = .ok (.goto 15, 3) := by decide +kernel
theorem dX12_takeCard_146 : decode cX12_takeCard 146 = .ok (.aload_n 0, 1) := by decide +kernel
theorem dX12_takeCard_147 : decode cX12_takeCard 147 = .ok (.getfield 132, 3) := by decide +kernel
theorem dX12_takeCard_150 : decode cX12_takeCard 150 = .ok (.iload_n 1, 1) := by decide +kernel
theorem dX12_takeCard_151 : decode cX12_takeCard 151 = .ok (.iconst 0, 1) := by decide +kernel
theorem dX12_takeCard_152 : decode cX12_takeCard 152 = .ok (.iastore, 1) := by decide +kernel
theorem dX12_takeCard_153 : decode cX12_takeCard 153 = .ok (.aload_n 0, 1) := by decide +kernel
theorem dX12_takeCard_154 : decode cX12_takeCard 154 = .ok (.iload_n 1, 1) := by decide +kernel
theorem dX12_takeCard_155 : decode cX12_takeCard 155 = .ok (.invokevirtual 274, 3) := by decide +kernel
theorem dX12_takeCard_158 : decode cX12_takeCard 158 = .ok (.return_, 1) := by decide +kernel
theorem dX12_fill_0 : decode cX12_fill 0 = .ok (.aload_n 0, 1) := by decide +kernel
theorem dX12_fill_1 : decode cX12_fill 1 = .ok (.getfield 48, 3) := by decide +kernel
theorem dX12_fill_4 : decode cX12_fill 4 = .ok (.iconst 1, 1) := by decide +kernel
theorem dX12_fill_5 : decode cX12_fill 5 = .ok (.aload_n 0, 1) := by decide +kernel
theorem dX12_fill_6 : decode cX12_fill 6 = .ok (.getfield 126, 3) := by decide +kernel
theorem dX12_fill_9 : decode cX12_fill 9 = .ok (.iload_n 1, 1) := by decide +kernel
theorem dX12_fill_10 : decode cX12_fill 10 = .ok (.iaload, 1) := by decide +kernel
theorem dX12_fill_11 : decode cX12_fill 11 = .ok (.i2l, 1) := by decide +kernel
theorem dX12_fill_12 : decode cX12_fill 12 = .ok (.lastore, 1) := by decide +kernel
theorem dX12_fill_13 : decode cX12_fill 13 = .ok (.aload_n 0, 1) := by decide +kernel
theorem dX12_fill_14 : decode cX12_fill 14 = .ok (.getfield 48, 3) := by decide +kernel
theorem dX12_fill_17 : decode cX12_fill 17 = .ok (.iconst 2, 1) := by decide +kernel
theorem dX12_fill_18 : decode cX12_fill 18 = .ok (.lload_n 2, 1) := by decide +kernel
theorem dX12_fill_19 : decode cX12_fill 19 = .ok (.lastore, 1) := by decide +kernel
theorem dX12_fill_20 : decode cX12_fill 20 = .ok (.aload_n 0, 1) := by decide +kernel
theorem dX12_fill_21 : decode cX12_fill 21 = .ok (.getfield 48, 3) := by decide +kernel
theorem dX12_fill_24 : decode cX12_fill 24 = .ok (.iconst 3, 1) := by decide +kernel
theorem dX12_fill_25 : decode cX12_fill 25 = .ok (.aload_n 0, 1) := by decide +kernel
theorem dX12_fill_26 : decode cX12_fill 26 = .ok (.getfield 117, 3) := by decide +kernel
theorem dX12_fill_29 : decode cX12_fill 29 = .ok (.iload_n 1, 1) := by decide +kernel
theorem dX12_fill_30 : decode cX12_fill 30 = .ok (.laload, 1) := by decide +kernel
theorem dX12_fill_31 : decode cX12_fill 31 = .ok (.lastore, 1) := by decide +kernel
theorem dX12_fill_32 : decode cX12_fill 32 = .ok (.aload_n 0, 1) := by decide +kernel
theorem dX12_fill_33 : decode cX12_fill 33 = .ok (.getfield 48, 3) := by decide +kernel
theorem dX12_fill_36 : decode cX12_fill 36 = .ok (.iconst 4, 1) := by decide +kernel
theorem dX12_fill_37 : decode cX12_fill 37 = .ok (.aload_n 0, 1) := by decide +kernel
theorem dX12_fill_38 : decode cX12_fill 38 = .ok (.getfield 120, 3) := by decide +kernel
theorem dX12_fill_41 : decode cX12_fill 41 = .ok (.iload_n 1, 1) := by decide +kernel
theorem dX12_fill_42 : decode cX12_fill 42 = .ok (.laload, 1) := by decide +kernel
theorem dX12_fill_43 : decode cX12_fill 43 = .ok (.lastore, 1) := by decide +kernel
theorem dX12_fill_44 : decode cX12_fill 44 = .ok (.aload_n 0, 1) := by decide +kernel
theorem dX12_fill_45 : decode cX12_fill 45 = .ok (.getfield 48, 3) := by decide +kernel
theorem dX12_fill_48 : decode cX12_fill 48 = .ok (.iconst 5, 1) := by decide +kernel
theorem dX12_fill_49 : decode cX12_fill 49 = .ok (.iload_n 1, 1) := by decide +kernel
theorem dX12_fill_50 : decode cX12_fill 50 = .ok (.i2l, 1) := by decide +kernel
theorem dX12_fill_51 : decode cX12_fill 51 = .ok (.lastore, 1) := by decide +kernel
theorem dX12_fill_52 : decode cX12_fill 52 = .ok (.aload_n 0, 1) := by decide +kernel
theorem dX12_fill_53 : decode cX12_fill 53 = .ok (.getfield 48, 3) := by decide +kernel
theorem dX12_fill_56 : decode cX12_fill 56 = .ok (.bipush 6, 2) := by decide +kernel
theorem dX12_fill_58 : decode cX12_fill 58 = .ok (.aload_n 0, 1) := by decide +kernel
theorem dX12_fill_59 : decode cX12_fill 59 = .ok (.getfield 132, 3) := by decide +kernel
theorem dX12_fill_62 : decode cX12_fill 62 = .ok (.iload_n 1, 1) := by decide +kernel
theorem dX12_fill_63 : decode cX12_fill 63 = .ok (.iaload, 1) := by decide +kernel
theorem dX12_fill_64 : decode cX12_fill 64 = .ok (.i2l, 1) := by decide +kernel
theorem dX12_fill_65 : decode cX12_fill 65 = .ok (.lastore, 1) := by decide +kernel
theorem dX12_fill_66 : decode cX12_fill 66 = .ok (.aload_n 0, 1) := by decide +kernel
theorem dX12_fill_67 : decode cX12_fill 67 = .ok (.getfield 48, 3) := by decide +kernel
theorem dX12_fill_70 : decode cX12_fill 70 = .ok (.bipush 8, 2) := by decide +kernel
theorem dX12_fill_72 : decode cX12_fill 72 = .ok (.lload 4, 2) := by decide +kernel
theorem dX12_fill_74 : decode cX12_fill 74 = .ok (.lastore, 1) := by decide +kernel
theorem dX12_fill_75 : decode cX12_fill 75 = .ok (.return_, 1) := by decide +kernel
theorem dX12_sign_0 : decode cX12_sign 0 = .ok (.aload_n 0, 1) := by decide +kernel
theorem dX12_sign_1 : decode cX12_sign 1 = .ok (.iload_n 2, 1) := by decide +kernel
theorem dX12_sign_2 : decode cX12_sign 2 = .ok (.i2l, 1) := by decide +kernel
theorem dX12_sign_3 : decode cX12_sign 3 = .ok (.invokevirtual 227, 3) := by decide +kernel
theorem dX12_sign_6 : decode cX12_sign 6 = .ok (.iconst 1, 1) := by decide +kernel
theorem dX12_sign_7 : decode cX12_sign 7 = .ok (.istore_n 3, 1) := by decide +kernel
theorem dX12_sign_8 : decode cX12_sign 8 = .ok (.iload_n 3, 1) := by decide +kernel
theorem dX12_sign_9 : decode cX12_sign 9 = .ok (.bipush 8, 2) := by decide +kernel
theorem dX12_sign_11 : decode cX12_sign 11 = .ok (.if_icmp .gt 25, 3) := by decide +kernel
theorem dX12_sign_14 : decode cX12_sign 14 = .ok (.iload_n 3, 1) := by decide +kernel
theorem dX12_sign_15 : decode cX12_sign 15 = .ok (.bipush 7, 2) := by decide +kernel
theorem dX12_sign_17 : decode cX12_sign 17 = .ok (.if_icmp .eq 13, 3) := by decide +kernel
theorem dX12_sign_20 : decode cX12_sign 20 = .ok (.aload_n 0, 1) := by decide +kernel
theorem dX12_sign_21 : decode cX12_sign 21 = .ok (.aload_n 0, 1) := by decide +kernel
theorem dX12_sign_22 : decode cX12_sign 22 = .ok (.getfield 48, 3) := by decide +kernel
theorem dX12_sign_25 : decode cX12_sign 25 = .ok (.iload_n 3, 1) := by decide +kernel
theorem dX12_sign_26 : decode cX12_sign 26 = .ok (.laload, 1) := by decide +kernel
theorem dX12_sign_27 : decode cX12_sign 27 = .ok (.invokevirtual 231, 3) := by decide +kernel
theorem dX12_sign_30 : decode cX12_sign 30 = .ok (.iinc 3 1, 3) := by decide +kernel
theorem dX12_sign_33 : decode cX12_sign 33 = .ok (.goto (-25), 3) := by decide +kernel
theorem dX12_sign_36 : decode cX12_sign 36 = .ok (.aload_n 0, 1) := by decide +kernel
theorem dX12_sign_37 : decode cX12_sign 37 = .ok (.getfield 48, 3) := by decide +kernel
theorem dX12_sign_40 : decode cX12_sign 40 = .ok (.bipush 11, 2) := by decide +kernel
theorem dX12_sign_42 : decode cX12_sign 42 = .ok (.aload_n 0, 1) := by decide +kernel
theorem dX12_sign_43 : decode cX12_sign 43 = .ok (.iconst 1, 1) := by decide +kernel
theorem dX12_sign_44 : decode cX12_sign 44 = .ok (.iload_n 1, 1) := by decide +kernel
theorem dX12_sign_45 : decode cX12_sign 45 = .ok (.i2l, 1) := by decide +kernel
theorem dX12_sign_46 : decode cX12_sign 46 = .ok (.invokevirtual 234, 3) := by decide +kernel
theorem dX12_sign_49 : decode cX12_sign 49 = .ok (.i2l, 1) := by decide +kernel
theorem dX12_sign_50 : decode cX12_sign 50 = .ok (.lastore, 1) := by decide +kernel
theorem dX12_sign_51 : decode cX12_sign 51 = .ok (.return_, 1) := by decide +kernel
theorem dX12_takeAnswer_0 : decode cX12_takeAnswer 0 = .ok (.aload_n 0, 1) := by decide +kernel
theorem dX12_takeAnswer_1 : decode cX12_takeAnswer 1 = .ok (.getfield 45, 3) := by decide +kernel
theorem dX12_takeAnswer_4 : decode cX12_takeAnswer 4 = .ok (.bipush 7, 2) := by decide +kernel
theorem dX12_takeAnswer_6 : decode cX12_takeAnswer 6 = .ok (.laload, 1) := by decide +kernel
theorem dX12_takeAnswer_7 : decode cX12_takeAnswer 7 = .ok (.lconst 0, 1) := by decide +kernel
theorem dX12_takeAnswer_8 : decode cX12_takeAnswer 8 = .ok (.lcmp, 1) := by decide +kernel
theorem dX12_takeAnswer_9 : decode cX12_takeAnswer 9 = .ok (.ifCond .eq 17, 3) := by decide +kernel
theorem dX12_takeAnswer_12 : decode cX12_takeAnswer 12 = .ok (.aload_n 0, 1) := by decide +kernel
theorem dX12_takeAnswer_13 : decode cX12_takeAnswer 13 = .ok (.getfield 45, 3) := by decide +kernel
theorem dX12_takeAnswer_16 : decode cX12_takeAnswer 16 = .ok (.bipush 7, 2) := by decide +kernel
theorem dX12_takeAnswer_18 : decode cX12_takeAnswer 18 = .ok (.laload, 1) := by decide +kernel
theorem dX12_takeAnswer_19 : decode cX12_takeAnswer 19 = .ok (.ldc2_w 225, 3) := by decide +kernel
theorem dX12_takeAnswer_22 : decode cX12_takeAnswer 22 = .ok (.lcmp, 1) := by decide +kernel
theorem dX12_takeAnswer_23 : decode cX12_takeAnswer 23 = .ok (.ifCond .le 10, 3) := by decide +kernel
theorem dX12_takeAnswer_26 : decode cX12_takeAnswer 26 = .ok (.aload_n 0, 1) := by decide +kernel
theorem dX12_takeAnswer_27 : decode cX12_takeAnswer 27 = .ok (.iload_n 1, 1) := by decide +kernel
theorem dX12_takeAnswer_28 : decode cX12_takeAnswer 28 = .ok (.iconst 3, 1) := by decide +kernel
theorem dX12_takeAnswer_29 : decode cX12_takeAnswer 29 = .ok (.invokevirtual 277, 3) := by decide +kernel
theorem dX12_takeAnswer_32 : decode cX12_takeAnswer 32 = .ok (.return_, 1) := by decide +kernel
theorem dX12_takeAnswer_33 : decode cX12_takeAnswer 33 = .ok (.aload_n 0, 1) := by decide +kernel
theorem dX12_takeAnswer_34 : decode cX12_takeAnswer 34 = .ok (.getfield 45, 3) := by decide +kernel
theorem dX12_takeAnswer_37 : decode cX12_takeAnswer 37 = .ok (.bipush 7, 2) := by decide +kernel
theorem dX12_takeAnswer_39 : decode cX12_takeAnswer 39 = .ok (.laload, 1) := by decide +kernel
theorem dX12_takeAnswer_40 : decode cX12_takeAnswer 40 = .ok (.lconst 1, 1) := by decide +kernel
theorem dX12_takeAnswer_41 : decode cX12_takeAnswer 41 = .ok (.lcmp, 1) := by decide +kernel
theorem dX12_takeAnswer_42 : decode cX12_takeAnswer 42 = .ok (.ifCond .ne 71, 3) := by decide +kernel
theorem dX12_takeAnswer_45 : decode cX12_takeAnswer 45 = .ok (.aload_n 0, 1) := by decide +kernel
theorem dX12_takeAnswer_46 : decode cX12_takeAnswer 46 = .ok (.iload_n 1, 1) := by decide +kernel
theorem dX12_takeAnswer_47 : decode cX12_takeAnswer 47 = .ok (.aload_n 0, 1) := by decide +kernel
theorem dX12_takeAnswer_48 : decode cX12_takeAnswer 48 = .ok (.getfield 45, 3) := by decide +kernel
theorem dX12_takeAnswer_51 : decode cX12_takeAnswer 51 = .ok (.iconst 2, 1) := by decide +kernel
theorem dX12_takeAnswer_52 : decode cX12_takeAnswer 52 = .ok (.laload, 1) := by decide +kernel
theorem dX12_takeAnswer_53 : decode cX12_takeAnswer 53 = .ok (.aload_n 0, 1) := by decide +kernel
theorem dX12_takeAnswer_54 : decode cX12_takeAnswer 54 = .ok (.getfield 45, 3) := by decide +kernel
theorem dX12_takeAnswer_57 : decode cX12_takeAnswer 57 = .ok (.bipush 8, 2) := by decide +kernel
theorem dX12_takeAnswer_59 : decode cX12_takeAnswer 59 = .ok (.laload, 1) := by decide +kernel
theorem dX12_takeAnswer_60 : decode cX12_takeAnswer 60 = .ok (.invokevirtual 289, 3) := by decide +kernel
theorem dX12_takeAnswer_63 : decode cX12_takeAnswer 63 = .ok (.aload_n 0, 1) := by decide +kernel
theorem dX12_takeAnswer_64 : decode cX12_takeAnswer 64 = .ok (.getfield 135, 3) := by decide +kernel
theorem dX12_takeAnswer_67 : decode cX12_takeAnswer 67 = .ok (.iload_n 1, 1) := by decide +kernel
theorem dX12_takeAnswer_68 : decode cX12_takeAnswer 68 = .ok (.aload_n 0, 1) := by decide +kernel
theorem dX12_takeAnswer_69 : decode cX12_takeAnswer 69 = .ok (.getfield 45, 3) := by decide +kernel
theorem dX12_takeAnswer_72 : decode cX12_takeAnswer 72 = .ok (.iconst 2, 1) := by decide +kernel
theorem dX12_takeAnswer_73 : decode cX12_takeAnswer 73 = .ok (.laload, 1) := by decide +kernel
theorem dX12_takeAnswer_74 : decode cX12_takeAnswer 74 = .ok (.l2i, 1) := by decide +kernel
theorem dX12_takeAnswer_75 : decode cX12_takeAnswer 75 = .ok (.iastore, 1) := by decide +kernel
theorem dX12_takeAnswer_76 : decode cX12_takeAnswer 76 = .ok (.aload_n 0, 1) := by decide +kernel
theorem dX12_takeAnswer_77 : decode cX12_takeAnswer 77 = .ok (.iload_n 1, 1) := by decide +kernel
theorem dX12_takeAnswer_78 : decode cX12_takeAnswer 78 = .ok (.bipush 7, 2) := by decide +kernel
theorem dX12_takeAnswer_80 : decode cX12_takeAnswer 80 = .ok (.invokevirtual 293, 3) := by decide +kernel
theorem dX12_takeAnswer_83 : decode cX12_takeAnswer 83 = .ok (.aload_n 0, 1) := by decide +kernel
theorem dX12_takeAnswer_84 : decode cX12_takeAnswer 84 = .ok (.bipush 7, 2) := by decide +kernel
theorem dX12_takeAnswer_86 : decode cX12_takeAnswer 86 = .ok (.iconst 1, 1) := by decide +kernel
theorem dX12_takeAnswer_87 : decode cX12_takeAnswer 87 = .ok (.iload_n 1, 1) := by decide +kernel
theorem dX12_takeAnswer_88 : decode cX12_takeAnswer 88 = .ok (.iconst 2, 1) := by decide +kernel
theorem dX12_takeAnswer_89 : decode cX12_takeAnswer 89 = .ok (.iconst 0, 1) := by decide +kernel
theorem dX12_takeAnswer_90 : decode cX12_takeAnswer 90 = .ok (.invokevirtual 217, 3) := by decide +kernel
theorem dX12_takeAnswer_93 : decode cX12_takeAnswer 93 = .ok (.pop, 1) := by decide +kernel
theorem dX12_takeAnswer_94 : decode cX12_takeAnswer 94 = .ok (.aload_n 0, 1) := by decide +kernel
theorem dX12_takeAnswer_95 : decode cX12_takeAnswer 95 = .ok (.getfield 108, 3) := by decide +kernel
theorem dX12_takeAnswer_98 : decode cX12_takeAnswer 98 = .ok (.iload_n 1, 1) := by decide +kernel
theorem dX12_takeAnswer_99 : decode cX12_takeAnswer 99 = .ok (.bipush 8, 2) := by decide +kernel
theorem dX12_takeAnswer_101 : decode cX12_takeAnswer 101 = .ok (.iastore, 1) := by decide +kernel
theorem dX12_takeAnswer_102 : decode cX12_takeAnswer 102 = .ok (.aload_n 0, 1) := by decide +kernel
theorem dX12_takeAnswer_103 : decode cX12_takeAnswer 103 = .ok (.getfield 111, 3) := by decide +kernel
theorem dX12_takeAnswer_106 : decode cX12_takeAnswer 106 = .ok (.iload_n 1, 1) := by decide +kernel
theorem dX12_takeAnswer_107 : decode cX12_takeAnswer 107 = .ok (.aload_n 0, 1) := by decide +kernel
theorem dX12_takeAnswer_108 : decode cX12_takeAnswer 108 = .ok (.getfield 263, 3) := by decide +kernel
theorem dX12_takeAnswer_111 : decode cX12_takeAnswer 111 = .ok (.lastore, 1) := by decide +kernel
theorem dX12_takeAnswer_112 : decode cX12_takeAnswer 112 = .ok (.return_, 1) := by decide +kernel
theorem dX12_takeAnswer_113 : decode cX12_takeAnswer 113 = .ok (.aload_n 0, 1) := by decide +kernel
theorem dX12_takeAnswer_114 : decode cX12_takeAnswer 114 = .ok (.ldc2_w 250, 3) := by decide +kernel
theorem dX12_takeAnswer_117 : decode cX12_takeAnswer 117 = .ok (.invokevirtual 227, 3) := by decide +kernel
theorem dX12_takeAnswer_120 : decode cX12_takeAnswer 120 = .ok (.aload_n 0, 1) := by decide +kernel
theorem dX12_takeAnswer_121 : decode cX12_takeAnswer 121 = .ok (.ldc2_w 225, 3) := by decide +kernel
theorem dX12_takeAnswer_124 : decode cX12_takeAnswer 124 = .ok (.invokevirtual 231, 3) := by decide +kernel
theorem dX12_takeAnswer_127 : decode cX12_takeAnswer 127 = .ok (.aload_n 0, 1) := by decide +kernel
theorem dX12_takeAnswer_128 : decode cX12_takeAnswer 128 = .ok (.aload_n 0, 1) := by decide +kernel
theorem dX12_takeAnswer_129 : decode cX12_takeAnswer 129 = .ok (.getfield 117, 3) := by decide +kernel
theorem dX12_takeAnswer_132 : decode cX12_takeAnswer 132 = .ok (.iload_n 1, 1) := by decide +kernel
theorem dX12_takeAnswer_133 : decode cX12_takeAnswer 133 = .ok (.laload, 1) := by decide +kernel
theorem dX12_takeAnswer_134 : decode cX12_takeAnswer 134 = .ok (.invokevirtual 231, 3) := by decide +kernel
theorem dX12_takeAnswer_137 : decode cX12_takeAnswer 137 = .ok (.aload_n 0, 1) := by decide +kernel
theorem dX12_takeAnswer_138 : decode cX12_takeAnswer 138 = .ok (.aload_n 0, 1) := by decide +kernel
theorem dX12_takeAnswer_139 : decode cX12_takeAnswer 139 = .ok (.getfield 120, 3) := by decide +kernel
theorem dX12_takeAnswer_142 : decode cX12_takeAnswer 142 = .ok (.iload_n 1, 1) := by decide +kernel
theorem dX12_takeAnswer_143 : decode cX12_takeAnswer 143 = .ok (.laload, 1) := by decide +kernel
theorem dX12_takeAnswer_144 : decode cX12_takeAnswer 144 = .ok (.invokevirtual 231, 3) := by decide +kernel
theorem dX12_takeAnswer_147 : decode cX12_takeAnswer 147 = .ok (.aload_n 0, 1) := by decide +kernel
theorem dX12_takeAnswer_148 : decode cX12_takeAnswer 148 = .ok (.iload_n 1, 1) := by decide +kernel
theorem dX12_takeAnswer_149 : decode cX12_takeAnswer 149 = .ok (.i2l, 1) := by decide +kernel
theorem dX12_takeAnswer_150 : decode cX12_takeAnswer 150 = .ok (.invokevirtual 231, 3) := by decide +kernel
theorem dX12_takeAnswer_153 : decode cX12_takeAnswer 153 = .ok (.aload_n 0, 1) := by decide +kernel
theorem dX12_takeAnswer_154 : decode cX12_takeAnswer 154 = .ok (.aload_n 0, 1) := by decide +kernel
theorem dX12_takeAnswer_155 : decode cX12_takeAnswer 155 = .ok (.getfield 45, 3) := by decide +kernel
theorem dX12_takeAnswer_158 : decode cX12_takeAnswer 158 = .ok (.iconst 2, 1) := by decide +kernel
theorem dX12_takeAnswer_159 : decode cX12_takeAnswer 159 = .ok (.laload, 1) := by decide +kernel
theorem dX12_takeAnswer_160 : decode cX12_takeAnswer 160 = .ok (.invokevirtual 231, 3) := by decide +kernel
theorem dX12_takeAnswer_163 : decode cX12_takeAnswer 163 = .ok (.aload_n 0, 1) := by decide +kernel
theorem dX12_takeAnswer_164 : decode cX12_takeAnswer 164 = .ok (.aload_n 0, 1) := by decide +kernel
theorem dX12_takeAnswer_165 : decode cX12_takeAnswer 165 = .ok (.getfield 132, 3) := by decide +kernel
theorem dX12_takeAnswer_168 : decode cX12_takeAnswer 168 = .ok (.iload_n 1, 1) := by decide +kernel
theorem dX12_takeAnswer_169 : decode cX12_takeAnswer 169 = .ok (.iaload, 1) := by decide +kernel
theorem dX12_takeAnswer_170 : decode cX12_takeAnswer 170 = .ok (.i2l, 1) := by decide +kernel
theorem dX12_takeAnswer_171 : decode cX12_takeAnswer 171 = .ok (.invokevirtual 231, 3) := by decide +kernel
theorem dX12_takeAnswer_174 : decode cX12_takeAnswer 174 = .ok (.aload_n 0, 1) := by decide +kernel
theorem dX12_takeAnswer_175 : decode cX12_takeAnswer 175 = .ok (.getfield 45, 3) := by decide +kernel
theorem dX12_takeAnswer_178 : decode cX12_takeAnswer 178 = .ok (.iconst 2, 1) := by decide +kernel
theorem dX12_takeAnswer_179 : decode cX12_takeAnswer 179 = .ok (.laload, 1) := by decide +kernel
theorem dX12_takeAnswer_180 : decode cX12_takeAnswer 180 = .ok (.aload_n 0, 1) := by decide +kernel
theorem dX12_takeAnswer_181 : decode cX12_takeAnswer 181 = .ok (.getfield 129, 3) := by decide +kernel
theorem dX12_takeAnswer_184 : decode cX12_takeAnswer 184 = .ok (.iload_n 1, 1) := by decide +kernel
theorem dX12_takeAnswer_185 : decode cX12_takeAnswer 185 = .ok (.iaload, 1) := by decide +kernel
theorem dX12_takeAnswer_186 : decode cX12_takeAnswer 186 = .ok (.i2l, 1) := by decide +kernel
theorem dX12_takeAnswer_187 : decode cX12_takeAnswer 187 = .ok (.lcmp, 1) := by decide +kernel
theorem dX12_takeAnswer_188 : decode cX12_takeAnswer 188 = .ok (.ifCond .ne 43, 3) := by decide +kernel
theorem dX12_takeAnswer_191 : decode cX12_takeAnswer 191 = .ok (.aload_n 0, 1) := by decide +kernel
theorem dX12_takeAnswer_192 : decode cX12_takeAnswer 192 = .ok (.getfield 45, 3) := by decide +kernel
theorem dX12_takeAnswer_195 : decode cX12_takeAnswer 195 = .ok (.bipush 6, 2) := by decide +kernel
theorem dX12_takeAnswer_197 : decode cX12_takeAnswer 197 = .ok (.laload, 1) := by decide +kernel
theorem dX12_takeAnswer_198 : decode cX12_takeAnswer 198 = .ok (.aload_n 0, 1) := by decide +kernel
theorem dX12_takeAnswer_199 : decode cX12_takeAnswer 199 = .ok (.getfield 132, 3) := by decide +kernel
theorem dX12_takeAnswer_202 : decode cX12_takeAnswer 202 = .ok (.iload_n 1, 1) := by decide +kernel
theorem dX12_takeAnswer_203 : decode cX12_takeAnswer 203 = .ok (.iaload, 1) := by decide +kernel
theorem dX12_takeAnswer_204 : decode cX12_takeAnswer 204 = .ok (.i2l, 1) := by decide +kernel
theorem dX12_takeAnswer_205 : decode cX12_takeAnswer 205 = .ok (.lcmp, 1) := by decide +kernel
theorem dX12_takeAnswer_206 : decode cX12_takeAnswer 206 = .ok (.ifCond .ne 25, 3) := by decide +kernel
theorem dX12_takeAnswer_209 : decode cX12_takeAnswer 209 = .ok (.aload_n 0, 1) := by decide +kernel
theorem dX12_takeAnswer_210 : decode cX12_takeAnswer 210 = .ok (.iconst 0, 1) := by decide +kernel
theorem dX12_takeAnswer_211 : decode cX12_takeAnswer 211 = .ok (.aload_n 0, 1) := by decide +kernel
theorem dX12_takeAnswer_212 : decode cX12_takeAnswer 212 = .ok (.getfield 126, 3) := by decide +kernel
theorem dX12_takeAnswer_215 : decode cX12_takeAnswer 215 = .ok (.iload_n 1, 1) := by decide +kernel
theorem dX12_takeAnswer_216 : decode cX12_takeAnswer 216 = .ok (.iaload, 1) := by decide +kernel
theorem dX12_takeAnswer_217 : decode cX12_takeAnswer 217 = .ok (.i2l, 1) := by decide +kernel
theorem dX12_takeAnswer_218 : decode cX12_takeAnswer 218 = .ok (.aload_n 0, 1) := by decide +kernel
theorem dX12_takeAnswer_219 : decode cX12_takeAnswer 219 = .ok (.getfield 45, 3) := by decide +kernel
theorem dX12_takeAnswer_222 : decode cX12_takeAnswer 222 = .ok (.bipush 8, 2) := by decide +kernel
theorem dX12_takeAnswer_224 : decode cX12_takeAnswer 224 = .ok (.laload, 1) := by decide +kernel
theorem dX12_takeAnswer_225 : decode cX12_takeAnswer 225 = .ok (.invokevirtual 257, 3) := by decide +kernel
theorem dX12_takeAnswer_228 : decode cX12_takeAnswer 228 = .ok (.ifCond .ne 10, 3) := by decide +kernel
theorem dX12_takeAnswer_231 : decode cX12_takeAnswer 231 = .ok (.aload_n 0, 1) := by decide +kernel
theorem dX12_takeAnswer_232 : decode cX12_takeAnswer 232 = .ok (.iload_n 1, 1) := by decide +kernel
theorem dX12_takeAnswer_233 : decode cX12_takeAnswer 233 = .ok (.iconst 3, 1) := by decide +kernel
theorem dX12_takeAnswer_234 : decode cX12_takeAnswer 234 = .ok (.invokevirtual 277, 3) := by decide +kernel
theorem dX12_takeAnswer_237 : decode cX12_takeAnswer 237 = .ok (.return_, 1) := by decide +kernel
theorem dX12_takeAnswer_238 : decode cX12_takeAnswer 238 = .ok (.aload_n 0, 1) := by decide +kernel
theorem dX12_takeAnswer_239 : decode cX12_takeAnswer 239 = .ok (.iload_n 1, 1) := by decide +kernel
theorem dX12_takeAnswer_240 : decode cX12_takeAnswer 240 = .ok (.aload_n 0, 1) := by decide +kernel
theorem dX12_takeAnswer_241 : decode cX12_takeAnswer 241 = .ok (.getfield 45, 3) := by decide +kernel
theorem dX12_takeAnswer_244 : decode cX12_takeAnswer 244 = .ok (.iconst 2, 1) := by decide +kernel
theorem dX12_takeAnswer_245 : decode cX12_takeAnswer 245 = .ok (.laload, 1) := by decide +kernel
theorem dX12_takeAnswer_246 : decode cX12_takeAnswer 246 = .ok (.aload_n 0, 1) := by decide +kernel
theorem dX12_takeAnswer_247 : decode cX12_takeAnswer 247 = .ok (.getfield 45, 3) := by decide +kernel
theorem dX12_takeAnswer_250 : decode cX12_takeAnswer 250 = .ok (.bipush 8, 2) := by decide +kernel
theorem dX12_takeAnswer_252 : decode cX12_takeAnswer 252 = .ok (.laload, 1) := by decide +kernel
theorem dX12_takeAnswer_253 : decode cX12_takeAnswer 253 = .ok (.invokevirtual 289, 3) := by decide +kernel
theorem dX12_takeAnswer_256 : decode cX12_takeAnswer 256 = .ok (.bipush 7, 2) := by decide +kernel
theorem dX12_takeAnswer_258 : decode cX12_takeAnswer 258 = .ok (.aload_n 0, 1) := by decide +kernel
theorem dX12_takeAnswer_259 : decode cX12_takeAnswer 259 = .ok (.getfield 296, 3) := by decide +kernel
theorem dX12_takeAnswer_262 : decode cX12_takeAnswer 262 = .ok (.imul, 1) := by decide +kernel
theorem dX12_takeAnswer_263 : decode cX12_takeAnswer 263 = .ok (.istore_n 2, 1) := by decide +kernel
theorem dX12_takeAnswer_264 : decode cX12_takeAnswer 264 = .ok (.iconst 0, 1) := by decide +kernel
theorem dX12_takeAnswer_265 : decode cX12_takeAnswer 265 = .ok (.istore_n 3, 1) := by decide +kernel
theorem dX12_takeAnswer_266 : decode cX12_takeAnswer 266 = .ok (.iload_n 3, 1) := by decide +kernel
theorem dX12_takeAnswer_267 : decode cX12_takeAnswer 267 = .ok (.bipush 7, 2) := by decide +kernel
theorem dX12_takeAnswer_269 : decode cX12_takeAnswer 269 = .ok (.if_icmp .ge 36, 3) := by decide +kernel
theorem dX12_takeAnswer_272 : decode cX12_takeAnswer 272 = .ok (.aload_n 0, 1) := by decide +kernel
theorem dX12_takeAnswer_273 : decode cX12_takeAnswer 273 = .ok (.getfield 148, 3) := by decide +kernel
theorem dX12_takeAnswer_276 : decode cX12_takeAnswer 276 = .ok (.iload_n 2, 1) := by decide +kernel
theorem dX12_takeAnswer_277 : decode cX12_takeAnswer 277 = .ok (.iload_n 3, 1) := by decide +kernel
theorem dX12_takeAnswer_278 : decode cX12_takeAnswer 278 = .ok (.iadd, 1) := by decide +kernel
theorem dX12_takeAnswer_279 : decode cX12_takeAnswer 279 = .ok (.aload_n 0, 1) := by decide +kernel
theorem dX12_takeAnswer_280 : decode cX12_takeAnswer 280 = .ok (.getfield 48, 3) := by decide +kernel
theorem dX12_takeAnswer_283 : decode cX12_takeAnswer 283 = .ok (.iload_n 3, 1) := by decide +kernel
theorem dX12_takeAnswer_284 : decode cX12_takeAnswer 284 = .ok (.bipush 6, 2) := by decide +kernel
theorem dX12_takeAnswer_286 : decode cX12_takeAnswer 286 = .ok (.if_icmp .ge 9, 3) := by decide +kernel
theorem dX12_takeAnswer_289 : decode cX12_takeAnswer 289 = .ok (.iload_n 3, 1) := by decide +kernel
theorem dX12_takeAnswer_290 : decode cX12_takeAnswer 290 = .ok (.iconst 1, 1) := by decide +kernel
theorem dX12_takeAnswer_291 : decode cX12_takeAnswer 291 = .ok (.iadd, 1) := by decide +kernel
theorem dX12_takeAnswer_292 : decode cX12_takeAnswer 292 = .ok (.goto 5, 3) := by decide +kernel
theorem dX12_takeAnswer_295 : decode cX12_takeAnswer 295 = .ok (.bipush 8, 2) := by decide +kernel
theorem dX12_takeAnswer_297 : decode cX12_takeAnswer 297 = .ok (.laload, 1) := by decide +kernel
theorem dX12_takeAnswer_298 : decode cX12_takeAnswer 298 = .ok (.lastore, 1) := by decide +kernel
theorem dX12_takeAnswer_299 : decode cX12_takeAnswer 299 = .ok (.iinc 3 1, 3) := by decide +kernel
theorem dX12_takeAnswer_302 : decode cX12_takeAnswer 302 = .ok (.goto (-36), 3) := by decide +kernel
theorem dX12_takeAnswer_305 : decode cX12_takeAnswer 305 = .ok (.aload_n 0, 1) := by decide +kernel
theorem dX12_takeAnswer_306 : decode cX12_takeAnswer 306 = .ok (.getfield 141, 3) := by decide +kernel
theorem dX12_takeAnswer_309 : decode cX12_takeAnswer 309 = .ok (.aload_n 0, 1) := by decide +kernel
theorem dX12_takeAnswer_310 : decode cX12_takeAnswer 310 = .ok (.getfield 296, 3) := by decide +kernel
theorem dX12_takeAnswer_313 : decode cX12_takeAnswer 313 = .ok (.iload_n 1, 1) := by decide +kernel
theorem dX12_takeAnswer_314 : decode cX12_takeAnswer 314 = .ok (.iastore, 1) := by decide +kernel
theorem dX12_takeAnswer_315 : decode cX12_takeAnswer 315 = .ok (.aload_n 0, 1) := by decide +kernel
theorem dX12_takeAnswer_316 : decode cX12_takeAnswer 316 = .ok (.getfield 144, 3) := by decide +kernel
theorem dX12_takeAnswer_319 : decode cX12_takeAnswer 319 = .ok (.aload_n 0, 1) := by decide +kernel
theorem dX12_takeAnswer_320 : decode cX12_takeAnswer 320 = .ok (.getfield 296, 3) := by decide +kernel
theorem dX12_takeAnswer_323 : decode cX12_takeAnswer 323 = .ok (.iconst 0, 1) := by decide +kernel
theorem dX12_takeAnswer_324 : decode cX12_takeAnswer 324 = .ok (.bastore, 1) := by decide +kernel
theorem dX12_takeAnswer_325 : decode cX12_takeAnswer 325 = .ok (.aload_n 0, 1) := by decide +kernel
theorem dX12_takeAnswer_326 : decode cX12_takeAnswer 326 = .ok (.dup, 1) := by decide +kernel
theorem dX12_takeAnswer_327 : decode cX12_takeAnswer 327 = .ok (.getfield 296, 3) := by decide +kernel
theorem dX12_takeAnswer_330 : decode cX12_takeAnswer 330 = .ok (.iconst 1, 1) := by decide +kernel
theorem dX12_takeAnswer_331 : decode cX12_takeAnswer 331 = .ok (.iadd, 1) := by decide +kernel
theorem dX12_takeAnswer_332 : decode cX12_takeAnswer 332 = .ok (.putfield 296, 3) := by decide +kernel
theorem dX12_takeAnswer_335 : decode cX12_takeAnswer 335 = .ok (.aload_n 0, 1) := by decide +kernel
theorem dX12_takeAnswer_336 : decode cX12_takeAnswer 336 = .ok (.iload_n 1, 1) := by decide +kernel
theorem dX12_takeAnswer_337 : decode cX12_takeAnswer 337 = .ok (.iconst 2, 1) := by decide +kernel
theorem dX12_takeAnswer_338 : decode cX12_takeAnswer 338 = .ok (.invokevirtual 277, 3) := by decide +kernel
theorem dX12_takeAnswer_341 : decode cX12_takeAnswer 341 = .ok (.return_, 1) := by decide +kernel
theorem dX12_takeWord_0 : decode cX12_takeWord 0 = .ok (.aload_n 0, 1) := by decide +kernel
theorem dX12_takeWord_1 : decode cX12_takeWord 1 = .ok (.ldc2_w 255, 3) := by decide +kernel
theorem dX12_takeWord_4 : decode cX12_takeWord 4 = .ok (.invokevirtual 227, 3) := by decide +kernel
theorem dX12_takeWord_7 : decode cX12_takeWord 7 = .ok (.aload_n 0, 1) := by decide +kernel
theorem dX12_takeWord_8 : decode cX12_takeWord 8 = .ok (.aload_n 0, 1) := by decide +kernel
theorem dX12_takeWord_9 : decode cX12_takeWord 9 = .ok (.getfield 45, 3) := by decide +kernel
theorem dX12_takeWord_12 : decode cX12_takeWord 12 = .ok (.iconst 1, 1) := by decide +kernel
theorem dX12_takeWord_13 : decode cX12_takeWord 13 = .ok (.laload, 1) := by decide +kernel
theorem dX12_takeWord_14 : decode cX12_takeWord 14 = .ok (.invokevirtual 231, 3) := by decide +kernel
theorem dX12_takeWord_17 : decode cX12_takeWord 17 = .ok (.aload_n 0, 1) := by decide +kernel
theorem dX12_takeWord_18 : decode cX12_takeWord 18 = .ok (.aload_n 0, 1) := by decide +kernel
theorem dX12_takeWord_19 : decode cX12_takeWord 19 = .ok (.getfield 45, 3) := by decide +kernel
theorem dX12_takeWord_22 : decode cX12_takeWord 22 = .ok (.iconst 2, 1) := by decide +kernel
theorem dX12_takeWord_23 : decode cX12_takeWord 23 = .ok (.laload, 1) := by decide +kernel
theorem dX12_takeWord_24 : decode cX12_takeWord 24 = .ok (.invokevirtual 231, 3) := by decide +kernel
theorem dX12_takeWord_27 : decode cX12_takeWord 27 = .ok (.aload_n 0, 1) := by decide +kernel
theorem dX12_takeWord_28 : decode cX12_takeWord 28 = .ok (.aload_n 0, 1) := by decide +kernel
theorem dX12_takeWord_29 : decode cX12_takeWord 29 = .ok (.getfield 45, 3) := by decide +kernel
theorem dX12_takeWord_32 : decode cX12_takeWord 32 = .ok (.bipush 10, 2) := by decide +kernel
theorem dX12_takeWord_34 : decode cX12_takeWord 34 = .ok (.laload, 1) := by decide +kernel
theorem dX12_takeWord_35 : decode cX12_takeWord 35 = .ok (.invokevirtual 231, 3) := by decide +kernel
theorem dX12_takeWord_38 : decode cX12_takeWord 38 = .ok (.aload_n 0, 1) := by decide +kernel
theorem dX12_takeWord_39 : decode cX12_takeWord 39 = .ok (.aload_n 0, 1) := by decide +kernel
theorem dX12_takeWord_40 : decode cX12_takeWord 40 = .ok (.getfield 117, 3) := by decide +kernel
theorem dX12_takeWord_43 : decode cX12_takeWord 43 = .ok (.iload_n 1, 1) := by decide +kernel
theorem dX12_takeWord_44 : decode cX12_takeWord 44 = .ok (.laload, 1) := by decide +kernel
theorem dX12_takeWord_45 : decode cX12_takeWord 45 = .ok (.invokevirtual 231, 3) := by decide +kernel
theorem dX12_takeWord_48 : decode cX12_takeWord 48 = .ok (.aload_n 0, 1) := by decide +kernel
theorem dX12_takeWord_49 : decode cX12_takeWord 49 = .ok (.getfield 45, 3) := by decide +kernel
theorem dX12_takeWord_52 : decode cX12_takeWord 52 = .ok (.iconst 1, 1) := by decide +kernel
theorem dX12_takeWord_53 : decode cX12_takeWord 53 = .ok (.laload, 1) := by decide +kernel
theorem dX12_takeWord_54 : decode cX12_takeWord 54 = .ok (.aload_n 0, 1) := by decide +kernel
theorem dX12_takeWord_55 : decode cX12_takeWord 55 = .ok (.getfield 126, 3) := by decide +kernel
theorem dX12_takeWord_58 : decode cX12_takeWord 58 = .ok (.iload_n 1, 1) := by decide +kernel
theorem dX12_takeWord_59 : decode cX12_takeWord 59 = .ok (.iaload, 1) := by decide +kernel
theorem dX12_takeWord_60 : decode cX12_takeWord 60 = .ok (.i2l, 1) := by decide +kernel
theorem dX12_takeWord_61 : decode cX12_takeWord 61 = .ok (.lcmp, 1) := by decide +kernel
theorem dX12_takeWord_62 : decode cX12_takeWord 62 = .ok (.ifCond .ne 37, 3) := by decide +kernel
theorem dX12_takeWord_65 : decode cX12_takeWord 65 = .ok (.aload_n 0, 1) := by decide +kernel
theorem dX12_takeWord_66 : decode cX12_takeWord 66 = .ok (.getfield 45, 3) := by decide +kernel
theorem dX12_takeWord_69 : decode cX12_takeWord 69 = .ok (.iconst 2, 1) := by decide +kernel
theorem dX12_takeWord_70 : decode cX12_takeWord 70 = .ok (.laload, 1) := by decide +kernel
theorem dX12_takeWord_71 : decode cX12_takeWord 71 = .ok (.aload_n 0, 1) := by decide +kernel
theorem dX12_takeWord_72 : decode cX12_takeWord 72 = .ok (.getfield 135, 3) := by decide +kernel
theorem dX12_takeWord_75 : decode cX12_takeWord 75 = .ok (.iload_n 1, 1) := by decide +kernel
theorem dX12_takeWord_76 : decode cX12_takeWord 76 = .ok (.iaload, 1) := by decide +kernel
theorem dX12_takeWord_77 : decode cX12_takeWord 77 = .ok (.i2l, 1) := by decide +kernel
theorem dX12_takeWord_78 : decode cX12_takeWord 78 = .ok (.lcmp, 1) := by decide +kernel
theorem dX12_takeWord_79 : decode cX12_takeWord 79 = .ok (.ifCond .ne 20, 3) := by decide +kernel
theorem dX12_takeWord_82 : decode cX12_takeWord 82 = .ok (.aload_n 0, 1) := by decide +kernel
theorem dX12_takeWord_83 : decode cX12_takeWord 83 = .ok (.iconst 1, 1) := by decide +kernel
theorem dX12_takeWord_84 : decode cX12_takeWord 84 = .ok (.iload_n 1, 1) := by decide +kernel
theorem dX12_takeWord_85 : decode cX12_takeWord 85 = .ok (.i2l, 1) := by decide +kernel
theorem dX12_takeWord_86 : decode cX12_takeWord 86 = .ok (.aload_n 0, 1) := by decide +kernel
theorem dX12_takeWord_87 : decode cX12_takeWord 87 = .ok (.getfield 45, 3) := by decide +kernel
theorem dX12_takeWord_90 : decode cX12_takeWord 90 = .ok (.bipush 11, 2) := by decide +kernel
theorem dX12_takeWord_92 : decode cX12_takeWord 92 = .ok (.laload, 1) := by decide +kernel
theorem dX12_takeWord_93 : decode cX12_takeWord 93 = .ok (.invokevirtual 257, 3) := by decide +kernel
theorem dX12_takeWord_96 : decode cX12_takeWord 96 = .ok (.ifCond .ne 5, 3) := by decide +kernel
theorem dX12_takeWord_99 : decode cX12_takeWord 99 = .ok (.iconst 0, 1) := by decide +kernel
theorem dX12_takeWord_100 : decode cX12_takeWord 100 = .ok (.ireturn, 1) := by decide +kernel
theorem dX12_takeWord_101 : decode cX12_takeWord 101 = .ok (.aload_n 0, 1) := by decide +kernel
theorem dX12_takeWord_102 : decode cX12_takeWord 102 = .ok (.getfield 138, 3) := by decide +kernel
theorem dX12_takeWord_105 : decode cX12_takeWord 105 = .ok (.iload_n 1, 1) := by decide +kernel
theorem dX12_takeWord_106 : decode cX12_takeWord 106 = .ok (.aload_n 0, 1) := by decide +kernel
theorem dX12_takeWord_107 : decode cX12_takeWord 107 = .ok (.getfield 45, 3) := by decide +kernel
theorem dX12_takeWord_110 : decode cX12_takeWord 110 = .ok (.bipush 10, 2) := by decide +kernel
theorem dX12_takeWord_112 : decode cX12_takeWord 112 = .ok (.laload, 1) := by decide +kernel
theorem dX12_takeWord_113 : decode cX12_takeWord 113 = .ok (.l2i, 1) := by decide +kernel
theorem dX12_takeWord_114 : decode cX12_takeWord 114 = .ok (.iastore, 1) := by decide +kernel
theorem dX12_takeWord_115 : decode cX12_takeWord 115 = .ok (.aload_n 0, 1) := by decide +kernel
theorem dX12_takeWord_116 : decode cX12_takeWord 116 = .ok (.getfield 48, 3) := by decide +kernel
theorem dX12_takeWord_119 : decode cX12_takeWord 119 = .ok (.bipush 8, 2) := by decide +kernel
theorem dX12_takeWord_121 : decode cX12_takeWord 121 = .ok (.aload_n 0, 1) := by decide +kernel
theorem dX12_takeWord_122 : decode cX12_takeWord 122 = .ok (.getfield 45, 3) := by decide +kernel
theorem dX12_takeWord_125 : decode cX12_takeWord 125 = .ok (.bipush 8, 2) := by decide +kernel
theorem dX12_takeWord_127 : decode cX12_takeWord 127 = .ok (.laload, 1) := by decide +kernel
theorem dX12_takeWord_128 : decode cX12_takeWord 128 = .ok (.lastore, 1) := by decide +kernel
theorem dX12_takeWord_129 : decode cX12_takeWord 129 = .ok (.aload_n 0, 1) := by decide +kernel
theorem dX12_takeWord_130 : decode cX12_takeWord 130 = .ok (.getfield 48, 3) := by decide +kernel
theorem dX12_takeWord_133 : decode cX12_takeWord 133 = .ok (.bipush 10, 2) := by decide +kernel
theorem dX12_takeWord_135 : decode cX12_takeWord 135 = .ok (.aload_n 0, 1) := by decide +kernel
theorem dX12_takeWord_136 : decode cX12_takeWord 136 = .ok (.getfield 45, 3) := by decide +kernel
theorem dX12_takeWord_139 : decode cX12_takeWord 139 = .ok (.bipush 10, 2) := by decide +kernel
theorem dX12_takeWord_141 : decode cX12_takeWord 141 = .ok (.laload, 1) := by decide +kernel
theorem dX12_takeWord_142 : decode cX12_takeWord 142 = .ok (.lastore, 1) := by decide +kernel
theorem dX12_takeWord_143 : decode cX12_takeWord 143 = .ok (.aload_n 0, 1) := by decide +kernel
theorem dX12_takeWord_144 : decode cX12_takeWord 144 = .ok (.iload_n 1, 1) := by decide +kernel
theorem dX12_takeWord_145 : decode cX12_takeWord 145 = .ok (.bipush 9, 2) := by decide +kernel
theorem dX12_takeWord_147 : decode cX12_takeWord 147 = .ok (.bipush 10, 2) := by decide +kernel
theorem dX12_takeWord_149 : decode cX12_takeWord 149 = .ok (.invokevirtual 267, 3) := by decide +kernel
theorem dX12_takeWord_152 : decode cX12_takeWord 152 = .ok (.iconst 1, 1) := by decide +kernel
theorem dX12_takeWord_153 : decode cX12_takeWord 153 = .ok (.ireturn, 1) := by decide +kernel
