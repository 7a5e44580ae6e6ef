theorem dX3_isFromTerminal_0 : decode cX3_isFromTerminal 0 = .ok (.aload_n 0, 1) := by decide +kernel
theorem dX3_isFromTerminal_1 : decode cX3_isFromTerminal 1 = .ok (.getfield 21, 3) := by decide +kernel
theorem dX3_isFromTerminal_4 : decode cX3_isFromTerminal 4 = .ok (.aload_n 2, 1) := by decide +kernel
theorem dX3_isFromTerminal_5 : decode cX3_isFromTerminal 5 = .ok (.getfield 86, 3) := by decide +kernel
theorem dX3_isFromTerminal_8 : decode cX3_isFromTerminal 8 = .ok (.invokevirtual 140, 3) := by decide +kernel
theorem dX3_isFromTerminal_11 : decode cX3_isFromTerminal 11 = .ok (.ifCond .eq 35, 3) := by decide +kernel
theorem dX3_isFromTerminal_14 : decode cX3_isFromTerminal 14 = .ok (.aload_n 0, 1) := by decide +kernel
theorem dX3_isFromTerminal_15 : decode cX3_isFromTerminal 15 = .ok (.getfield 21, 3) := by decide +kernel
theorem dX3_isFromTerminal_18 : decode cX3_isFromTerminal 18 = .ok (.getfield 68, 3) := by decide +kernel
theorem dX3_isFromTerminal_21 : decode cX3_isFromTerminal 21 = .ok (.aload_n 1, 1) := by decide +kernel
theorem dX3_isFromTerminal_22 : decode cX3_isFromTerminal 22 = .ok (.getfield 25, 3) := by decide +kernel
theorem dX3_isFromTerminal_25 : decode cX3_isFromTerminal 25 = .ok (.aload_n 2, 1) := by decide +kernel
theorem dX3_isFromTerminal_26 : decode cX3_isFromTerminal 26 = .ok (.invokevirtual 144, 3) := by decide +kernel
theorem dX3_isFromTerminal_29 : decode cX3_isFromTerminal 29 = .ok (.aload_n 1, 1) := by decide +kernel
theorem dX3_isFromTerminal_30 : decode cX3_isFromTerminal 30 = .ok (.getfield 56, 3) := by decide +kernel
theorem dX3_isFromTerminal_33 : decode cX3_isFromTerminal 33 = .ok (.bipush 11, 2) := by decide +kernel
theorem dX3_isFromTerminal_35 : decode cX3_isFromTerminal 35 = .ok (.laload, 1) := by decide +kernel
theorem dX3_isFromTerminal_36 : decode cX3_isFromTerminal 36 = .ok (.invokevirtual 148, 3) := by decide +kernel
theorem dX3_isFromTerminal_39 : decode cX3_isFromTerminal 39 = .ok (.ifCond .eq 7, 3) := by decide +kernel
theorem dX3_isFromTerminal_42 : decode cX3_isFromTerminal 42 = .ok (.iconst 1, 1) := by decide +kernel
theorem dX3_isFromTerminal_43 : decode cX3_isFromTerminal 43 = .ok (.goto 4, 3) := by decide +kernel
theorem dX3_isFromTerminal_46 : decode cX3_isFromTerminal 46 = .ok (.iconst 0, 1) := by decide +kernel
theorem dX3_isFromTerminal_47 : decode cX3_isFromTerminal 47 = .ok (.ireturn, 1) := by decide +kernel
theorem dX3_isAnswerOfCard_0 : decode cX3_isAnswerOfCard 0 = .ok (.aload_n 1, 1) := by decide +kernel
theorem dX3_isAnswerOfCard_1 : decode cX3_isAnswerOfCard 1 = .ok (.getfield 60, 3) := by decide +kernel
theorem dX3_isAnswerOfCard_4 : decode cX3_isAnswerOfCard 4 = .ok (.aload_n 0, 1) := by decide +kernel
theorem dX3_isAnswerOfCard_5 : decode cX3_isAnswerOfCard 5 = .ok (.getfield 12, 3) := by decide +kernel
theorem dX3_isAnswerOfCard_8 : decode cX3_isAnswerOfCard 8 = .ok (.invokevirtual 152, 3) := by decide +kernel
theorem dX3_isAnswerOfCard_11 : decode cX3_isAnswerOfCard 11 = .ok (.if_icmp .ge 28, 3) := by decide +kernel
theorem dX3_isAnswerOfCard_14 : decode cX3_isAnswerOfCard 14 = .ok (.aload_n 0, 1) := by decide +kernel
theorem dX3_isAnswerOfCard_15 : decode cX3_isAnswerOfCard 15 = .ok (.getfield 21, 3) := by decide +kernel
theorem dX3_isAnswerOfCard_18 : decode cX3_isAnswerOfCard 18 = .ok (.getfield 68, 3) := by decide +kernel
theorem dX3_isAnswerOfCard_21 : decode cX3_isAnswerOfCard 21 = .ok (.aload_n 1, 1) := by decide +kernel
theorem dX3_isAnswerOfCard_22 : decode cX3_isAnswerOfCard 22 = .ok (.invokevirtual 156, 3) := by decide +kernel
theorem dX3_isAnswerOfCard_25 : decode cX3_isAnswerOfCard 25 = .ok (.aload_n 1, 1) := by decide +kernel
theorem dX3_isAnswerOfCard_26 : decode cX3_isAnswerOfCard 26 = .ok (.getfield 138, 3) := by decide +kernel
theorem dX3_isAnswerOfCard_29 : decode cX3_isAnswerOfCard 29 = .ok (.invokevirtual 148, 3) := by decide +kernel
theorem dX3_isAnswerOfCard_32 : decode cX3_isAnswerOfCard 32 = .ok (.ifCond .eq 7, 3) := by decide +kernel
theorem dX3_isAnswerOfCard_35 : decode cX3_isAnswerOfCard 35 = .ok (.iconst 1, 1) := by decide +kernel
theorem dX3_isAnswerOfCard_36 : decode cX3_isAnswerOfCard 36 = .ok (.goto 4, 3) := by decide +kernel
theorem dX3_isAnswerOfCard_39 : decode cX3_isAnswerOfCard 39 = .ok (.iconst 0, 1) := by decide +kernel
theorem dX3_isAnswerOfCard_40 : decode cX3_isAnswerOfCard 40 = .ok (.ireturn, 1) := by decide +kernel
theorem dX3_debitsOfCounter_0 : decode cX3_debitsOfCounter 0 = .ok (.iconst 0, 1) := by decide +kernel
theorem dX3_debitsOfCounter_1 : decode cX3_debitsOfCounter 1 = .ok (.istore_n 2, 1) := by decide +kernel
theorem dX3_debitsOfCounter_2 : decode cX3_debitsOfCounter 2 = .ok (.iconst 0, 1) := by decide +kernel
theorem dX3_debitsOfCounter_3 : decode cX3_debitsOfCounter 3 = .ok (.istore_n 3, 1) := by decide +kernel
theorem dX3_debitsOfCounter_4 : decode cX3_debitsOfCounter 4 = .ok (.iload_n 3, 1) := by decide +kernel
theorem dX3_debitsOfCounter_5 : decode cX3_debitsOfCounter 5 = .ok (.aload_n 0, 1) := by decide +kernel
theorem dX3_debitsOfCounter_6 : decode cX3_debitsOfCounter 6 = .ok (.getfield 18, 3) := by decide +kernel
theorem dX3_debitsOfCounter_9 : decode cX3_debitsOfCounter 9 = .ok (.invokevirtual 152, 3) := by decide +kernel
theorem dX3_debitsOfCounter_12 : decode cX3_debitsOfCounter 12 = .ok (.if_icmp .ge 49, 3) := by decide +kernel
theorem dX3_debitsOfCounter_15 : decode cX3_debitsOfCounter 15 = .ok (.aload_n 0, 1) := by decide +kernel
theorem dX3_debitsOfCounter_16 : decode cX3_debitsOfCounter 16 = .ok (.getfield 18, 3) := by decide +kernel
theorem dX3_debitsOfCounter_19 : decode cX3_debitsOfCounter 19 = .ok (.iload_n 3, 1) := by decide +kernel
theorem dX3_debitsOfCounter_20 : decode cX3_debitsOfCounter 20 = .ok (.invokevirtual 97, 3) := by decide +kernel
theorem dX3_debitsOfCounter_23 : decode cX3_debitsOfCounter 23 = .ok (.checkcast 61, 3) := by decide +kernel
theorem dX3_debitsOfCounter_26 : decode cX3_debitsOfCounter 26 = .ok (.astore 4, 2) := by decide +kernel
theorem dX3_debitsOfCounter_28 : decode cX3_debitsOfCounter 28 = .ok (.aload 4, 2) := by decide +kernel
theorem dX3_debitsOfCounter_30 : decode cX3_debitsOfCounter 30 = .ok (.getfield 60, 3) := by decide +kernel
theorem dX3_debitsOfCounter_33 : decode cX3_debitsOfCounter 33 = .ok (.aload_n 1, 1) := by decide +kernel
theorem dX3_debitsOfCounter_34 : decode cX3_debitsOfCounter 34 = .ok (.getfield 60, 3) := by decide +kernel
theorem dX3_debitsOfCounter_37 : decode cX3_debitsOfCounter 37 = .ok (.if_icmp .ne 18, 3) := by decide +kernel
theorem dX3_debitsOfCounter_40 : decode cX3_debitsOfCounter 40 = .ok (.aload 4, 2) := by decide +kernel
theorem dX3_debitsOfCounter_42 : decode cX3_debitsOfCounter 42 = .ok (.getfield 65, 3) := by decide +kernel
theorem dX3_debitsOfCounter_45 : decode cX3_debitsOfCounter 45 = .ok (.aload_n 1, 1) := by decide +kernel
theorem dX3_debitsOfCounter_46 : decode cX3_debitsOfCounter 46 = .ok (.getfield 65, 3) := by decide +kernel
theorem dX3_debitsOfCounter_49 : decode cX3_debitsOfCounter 49 = .ok (.if_icmp .ne 6, 3) := by decide +kernel
theorem dX3_debitsOfCounter_52 : decode cX3_debitsOfCounter 52 = .ok (.iinc 2 1, 3) := by decide +kernel
theorem dX3_debitsOfCounter_55 : decode cX3_debitsOfCounter 55 = .ok (.iinc 3 1, 3) := by decide +kernel
theorem dX3_debitsOfCounter_58 : decode cX3_debitsOfCounter 58 = .ok (.goto (-54), 3) := by decide +kernel
theorem dX3_debitsOfCounter_61 : decode cX3_debitsOfCounter 61 = .ok (.iload_n 2, 1) := by decide +kernel
theorem dX3_debitsOfCounter_62 : decode cX3_debitsOfCounter 62 = .ok (.ireturn, 1) := by decide +kernel
theorem dX4_init_0 : decode cX4_init 0 = .ok (.aload_n 0, 1) := by decide +kernel
theorem dX4_init_1 : decode cX4_init 1 = .ok (.invokespecial 3, 3) := by decide +kernel
theorem dX4_init_4 : decode cX4_init 4 = .ok (.aload_n 0, 1) := by decide +kernel
theorem dX4_init_5 : decode cX4_init 5 = .ok (.bipush 64, 2) := by decide +kernel
theorem dX4_init_7 : decode cX4_init 7 = .ok (.newarray .int, 2) := by decide +kernel
theorem dX4_init_9 : decode cX4_init 9 = .ok (.putfield 9, 3) := by decide +kernel
theorem dX4_init_12 : decode cX4_init 12 = .ok (.return_, 1) := by decide +kernel
theorem dX4_has_0 : decode cX4_has 0 = .ok (.iload_n 1, 1) := by decide +kernel
theorem dX4_has_1 : decode cX4_has 1 = .ok (.ifCond .lt 15, 3) := by decide +kernel
theorem dX4_has_4 : decode cX4_has 4 = .ok (.iload_n 1, 1) := by decide +kernel
theorem dX4_has_5 : decode cX4_has 5 = .ok (.aload_n 0, 1) := by decide +kernel
theorem dX4_has_6 : decode cX4_has 6 = .ok (.getfield 15, 3) := by decide +kernel
theorem dX4_has_9 : decode cX4_has 9 = .ok (.if_icmp .ge 7, 3) := by decide +kernel
theorem dX4_has_12 : decode cX4_has 12 = .ok (.iconst 1, 1) := by decide +kernel
theorem dX4_has_13 : decode cX4_has 13 = .ok (.goto 4, 3) := by decide +kernel
theorem dX4_has_16 : decode cX4_has 16 = .ok (.iconst 0, 1) := by decide +kernel
theorem dX4_has_17 : decode cX4_has 17 = .ok (.ireturn, 1) := by decide +kernel
theorem dX4_copyBytes_0 : decode cX4_copyBytes 0 = .ok (.aload_n 0, 1) := by decide +kernel
theorem dX4_copyBytes_1 : decode cX4_copyBytes 1 = .ok (.iload_n 2, 1) := by decide +kernel
theorem dX4_copyBytes_2 : decode cX4_copyBytes 2 = .ok (.bipush 64, 2) := by decide +kernel
theorem dX4_copyBytes_4 : decode cX4_copyBytes 4 = .ok (.invokestatic 19, 3) := by decide +kernel
theorem dX4_copyBytes_7 : decode cX4_copyBytes 7 = .ok (.putfield 15, 3) := by decide +kernel
theorem dX4_copyBytes_10 : decode cX4_copyBytes 10 = .ok (.aload_n 1, 1) := by decide +kernel
theorem dX4_copyBytes_11 : decode cX4_copyBytes 11 = .ok (.iconst 0, 1) := by decide +kernel
theorem dX4_copyBytes_12 : decode cX4_copyBytes 12 = .ok (.aload_n 0, 1) := by decide +kernel
theorem dX4_copyBytes_13 : decode cX4_copyBytes 13 = .ok (.getfield 9, 3) := by decide +kernel
theorem dX4_copyBytes_16 : decode cX4_copyBytes 16 = .ok (.iconst 0, 1) := by decide +kernel
theorem dX4_copyBytes_17 : decode cX4_copyBytes 17 = .ok (.aload_n 0, 1) := by decide +kernel
theorem dX4_copyBytes_18 : decode cX4_copyBytes 18 = .ok (.getfield 15, 3) := by decide +kernel
theorem dX4_copyBytes_21 : decode cX4_copyBytes 21 = .ok (.invokestatic 25, 3) := by decide +kernel
theorem dX4_copyBytes_24 : decode cX4_copyBytes 24 = .ok (.return_, 1) := by decide +kernel
theorem dX4_write_0 : decode cX4_write 0 = .ok (.aload_n 0, 1) := by decide +kernel
theorem dX4_write_1 : decode cX4_write 1 = .ok (.getfield 9, 3) := by decide +kernel
theorem dX4_write_4 : decode cX4_write 4 = .ok (.iconst 0, 1) := by decide +kernel
theorem dX4_write_5 : decode cX4_write 5 = .ok (.aload_n 1, 1) := by decide +kernel
theorem dX4_write_6 : decode cX4_write 6 = .ok (.getfield 31, 3) := by decide +kernel
theorem dX4_write_9 : decode cX4_write 9 = .ok (.iastore, 1) := by decide +kernel
theorem dX4_write_10 : decode cX4_write 10 = .ok (.aload_n 0, 1) := by decide +kernel
theorem dX4_write_11 : decode cX4_write 11 = .ok (.iconst 1, 1) := by decide +kernel
theorem dX4_write_12 : decode cX4_write 12 = .ok (.putfield 15, 3) := by decide +kernel
theorem dX4_write_15 : decode cX4_write 15 = .ok (.iconst 1, 1) := by decide +kernel
theorem dX4_write_16 : decode cX4_write 16 = .ok (.istore_n 2, 1) := by decide +kernel
theorem dX4_write_17 : decode cX4_write 17 = .ok (.iload_n 2, 1) := by decide +kernel
theorem dX4_write_18 : decode cX4_write 18 = .ok (.bipush 12, 2) := by decide +kernel
theorem dX4_write_20 : decode cX4_write 20 = .ok (.if_icmp .ge 31, 3) := by decide +kernel
theorem dX4_write_23 : decode cX4_write 23 = .ok (.aload_n 1, 1) := by decide +kernel
theorem dX4_write_24 : decode cX4_write 24 = .ok (.getfield 31, 3) := by decide +kernel
theorem dX4_write_27 : decode cX4_write 27 = .ok (.iload_n 2, 1) := by decide +kernel
theorem dX4_write_28 : decode cX4_write 28 = .ok (.invokestatic 36, 3) := by decide +kernel
theorem dX4_write_31 : decode cX4_write 31 = .ok (.ifCond .eq 14, 3) := by decide +kernel
theorem dX4_write_34 : decode cX4_write 34 = .ok (.aload_n 0, 1) := by decide +kernel
theorem dX4_write_35 : decode cX4_write 35 = .ok (.iload_n 2, 1) := by decide +kernel
theorem dX4_write_36 : decode cX4_write 36 = .ok (.aload_n 1, 1) := by decide +kernel
theorem dX4_write_37 : decode cX4_write 37 = .ok (.getfield 40, 3) := by decide +kernel
theorem dX4_write_40 : decode cX4_write 40 = .ok (.iload_n 2, 1) := by decide +kernel
theorem dX4_write_41 : decode cX4_write 41 = .ok (.laload, 1) := by decide +kernel
theorem dX4_write_42 : decode cX4_write 42 = .ok (.invokevirtual 44, 3) := by decide +kernel
theorem dX4_write_45 : decode cX4_write 45 = .ok (.iinc 2 1, 3) := by decide +kernel
theorem dX4_write_48 : decode cX4_write 48 = .ok (.goto (-31), 3) := by decide +kernel
theorem dX4_write_51 : decode cX4_write 51 = .ok (.return_, 1) := by decide +kernel
theorem dX4_writeField_0 : decode cX4_writeField 0 = .ok (.getstatic 48, 3) := by decide +kernel
theorem dX4_writeField_3 : decode cX4_writeField 3 = .ok (.iload_n 1, 1) := by decide +kernel
theorem dX4_writeField_4 : decode cX4_writeField 4 = .ok (.iaload, 1) := by decide +kernel
theorem dX4_writeField_5 : decode cX4_writeField 5 = .ok (.istore 4, 2) := by decide +kernel
theorem dX4_writeField_7 : decode cX4_writeField 7 = .ok (.aload_n 0, 1) := by decide +kernel
theorem dX4_writeField_8 : decode cX4_writeField 8 = .ok (.getfield 15, 3) := by decide +kernel
theorem dX4_writeField_11 : decode cX4_writeField 11 = .ok (.iconst 2, 1) := by decide +kernel
theorem dX4_writeField_12 : decode cX4_writeField 12 = .ok (.iadd, 1) := by decide +kernel
theorem dX4_writeField_13 : decode cX4_writeField 13 = .ok (.iload 4, 2) := by decide +kernel
theorem dX4_writeField_15 : decode cX4_writeField 15 = .ok (.iadd, 1) := by decide +kernel
theorem dX4_writeField_16 : decode cX4_writeField 16 = .ok (.bipush 64, 2) := by decide +kernel
theorem dX4_writeField_18 : decode cX4_writeField 18 = .ok (.if_icmp .le 4, 3) := by decide +kernel
theorem dX4_writeField_21 : decode cX4_writeField 21 = .ok (.return_, 1) := by decide +kernel
theorem dX4_writeField_22 : decode cX4_writeField 22 = .ok (.aload_n 0, 1) := by decide +kernel
theorem dX4_writeField_23 : decode cX4_writeField 23 = .ok (.getfield 9, 3) := by decide +kernel
theorem dX4_writeField_26 : decode cX4_writeField 26 = .ok (.aload_n 0, 1) := by decide +kernel
theorem dX4_writeField_27 : decode cX4_writeField 27 = .ok (.getfield 15, 3) := by decide +kernel
theorem dX4_writeField_30 : decode cX4_writeField 30 = .ok (.iload_n 1, 1) := by decide +kernel
theorem dX4_writeField_31 : decode cX4_writeField 31 = .ok (.iastore, 1) := by decide +kernel
theorem dX4_writeField_32 : decode cX4_writeField 32 = .ok (.aload_n 0, 1) := by decide +kernel
theorem dX4_writeField_33 : decode cX4_writeField 33 = .ok (.getfield 9, 3) := by decide +kernel
theorem dX4_writeField_36 : decode cX4_writeField 36 = .ok (.aload_n 0, 1) := by decide +kernel
theorem dX4_writeField_37 : decode cX4_writeField 37 = .ok (.getfield 15, 3) := by decide +kernel
theorem dX4_writeField_40 : decode cX4_writeField 40 = .ok (.iconst 1, 1) := by decide +kernel
theorem dX4_writeField_41 : decode cX4_writeField 41 = .ok (.iadd, 1) := by decide +kernel
theorem dX4_writeField_42 : decode cX4_writeField 42 = .ok (.iload 4, 2) := by decide +kernel
theorem dX4_writeField_44 : decode cX4_writeField 44 = .ok (.iastore, 1) := by decide +kernel
theorem dX4_writeField_45 : decode cX4_writeField 45 = .ok (.iconst 0, 1) := by decide +kernel
theorem dX4_writeField_46 : decode cX4_writeField 46 = .ok (.istore 5, 2) := by decide +kernel
theorem dX4_writeField_48 : decode cX4_writeField 48 = .ok (.iload 5, 2) := by decide +kernel
theorem dX4_writeField_50 : decode cX4_writeField 50 = .ok (.iload 4, 2) := by decide +kernel
theorem dX4_writeField_52 : decode cX4_writeField 52 = .ok (.if_icmp .ge 40, 3) := by decide +kernel
theorem dX4_writeField_55 : decode cX4_writeField 55 = .ok (.aload_n 0, 1) := by decide +kernel
theorem dX4_writeField_56 : decode cX4_writeField 56 = .ok (.getfield 9, 3) := by decide +kernel
theorem dX4_writeField_59 : decode cX4_writeField 59 = .ok (.aload_n 0, 1) := by decide +kernel
theorem dX4_writeField_60 : decode cX4_writeField 60 = .ok (.getfield 15, 3) := by decide +kernel
theorem dX4_writeField_63 : decode cX4_writeField 63 = .ok (.iconst 2, 1) := by decide +kernel
theorem dX4_writeField_64 : decode cX4_writeField 64 = .ok (.iadd, 1) := by decide +kernel
theorem dX4_writeField_65 : decode cX4_writeField 65 = .ok (.iload 5, 2) := by decide +kernel
theorem dX4_writeField_67 : decode cX4_writeField 67 = .ok (.iadd, 1) := by decide +kernel
theorem dX4_writeField_68 : decode cX4_writeField 68 = .ok (.lload_n 2, 1) := by decide +kernel
theorem dX4_writeField_69 : decode cX4_writeField 69 = .ok (.bipush 8, 2) := by decide +kernel
theorem dX4_writeField_71 : decode cX4_writeField 71 = .ok (.iload 4, 2) := by decide +kernel
theorem dX4_writeField_73 : decode cX4_writeField 73 = .ok (.iconst 1, 1) := by decide +kernel
theorem dX4_writeField_74 : decode cX4_writeField 74 = .ok (.isub, 1) := by decide +kernel
theorem dX4_writeField_75 : decode cX4_writeField 75 = .ok (.iload 5, 2) := by decide +kernel
theorem dX4_writeField_77 : decode cX4_writeField 77 = .ok (.isub, 1) := by decide +kernel
theorem dX4_writeField_78 : decode cX4_writeField 78 = .ok (.imul, 1) := by decide +kernel
theorem dX4_writeField_79 : decode cX4_writeField 79 = .ok (.lshr, 1) := by decide +kernel
theorem dX4_writeField_80 : decode cX4_writeField 80 = .ok (.l2i, 1) := by decide +kernel
theorem dX4_writeField_81 : decode cX4_writeField 81 = .ok (.sipush 255, 3) := by decide +kernel
theorem dX4_writeField_84 : decode cX4_writeField 84 = .ok (.iand, 1) := by decide +kernel
theorem dX4_writeField_85 : decode cX4_writeField 85 = .ok (.iastore, 1) := by decide +kernel
theorem dX4_writeField_86 : decode cX4_writeField 86 = .ok (.iinc 5 1, 3) := by decide +kernel
theorem dX4_writeField_89 : decode cX4_writeField 89 = .ok (.goto (-41), 3) := by decide +kernel
theorem dX4_writeField_92 : decode cX4_writeField 92 = .ok (.aload_n 0, 1) := by decide +kernel
theorem dX4_writeField_93 : decode cX4_writeField 93 = .ok (.dup, 1) := by decide +kernel
theorem dX4_writeField_94 : decode cX4_writeField 94 = .ok (.getfield 15, 3) := by decide +kernel
theorem dX4_writeField_97 : decode cX4_writeField 97 = .ok (.iconst 2, 1) := by decide +kernel
theorem dX4_writeField_98 : decode cX4_writeField 98 = .ok (.iload 4, 2) := by decide +kernel
theorem dX4_writeField_100 : decode cX4_writeField 100 = .ok (.iadd, 1) := by decide +kernel
theorem dX4_writeField_101 : decode cX4_writeField 101 = .ok (.iadd, 1) := by decide +kernel
theorem dX4_writeField_102 : decode cX4_writeField 102 = .ok (.putfield 15, 3) := by decide +kernel
theorem dX4_writeField_105 : decode cX4_writeField 105 = .ok (.return_, 1) := by decide +kernel
theorem dX4_read_0 : decode cX4_read 0 = .ok (.aload_n 0, 1) := by decide +kernel
theorem dX4_read_1 : decode cX4_read 1 = .ok (.getfield 15, 3) := by decide +kernel
theorem dX4_read_4 : decode cX4_read 4 = .ok (.ifCond .eq 24, 3) := by decide +kernel
theorem dX4_read_7 : decode cX4_read 7 = .ok (.aload_n 0, 1) := by decide +kernel
theorem dX4_read_8 : decode cX4_read 8 = .ok (.getfield 9, 3) := by decide +kernel
theorem dX4_read_11 : decode cX4_read 11 = .ok (.iconst 0, 1) := by decide +kernel
theorem dX4_read_12 : decode cX4_read 12 = .ok (.iaload, 1) := by decide +kernel
theorem dX4_read_13 : decode cX4_read 13 = .ok (.iconst 1, 1) := by decide +kernel
theorem dX4_read_14 : decode cX4_read 14 = .ok (.if_icmp .lt 14, 3) := by decide +kernel
theorem dX4_read_17 : decode cX4_read 17 = .ok (.aload_n 0, 1) := by decide +kernel
theorem dX4_read_18 : decode cX4_read 18 = .ok (.getfield 9, 3) := by decide +kernel
theorem dX4_read_21 : decode cX4_read 21 = .ok (.iconst 0, 1) := by decide +kernel
theorem dX4_read_22 : decode cX4_read 22 = .ok (.iaload, 1) := by decide +kernel
theorem dX4_read_23 : decode cX4_read 23 = .ok (.bipush 11, 2) := by decide +kernel
theorem dX4_read_25 : decode cX4_read 25 = .ok (.if_icmp .le 5, 3) := by decide +kernel
theorem dX4_read_28 : decode cX4_read 28 = .ok (.iconst 0, 1) := by decide +kernel
theorem dX4_read_29 : decode cX4_read 29 = .ok (.ireturn, 1) := by decide +kernel
theorem dX4_read_30 : decode cX4_read 30 = .ok (.aload_n 1, 1) := by decide +kernel
theorem dX4_read_31 : decode cX4_read 31 = .ok (.aload_n 0, 1) := by decide +kernel
theorem dX4_read_32 : decode cX4_read 32 = .ok (.getfield 9, 3) := by decide +kernel
theorem dX4_read_35 : decode cX4_read 35 = .ok (.iconst 0, 1) := by decide +kernel
theorem dX4_read_36 : decode cX4_read 36 = .ok (.iaload, 1) := by decide +kernel
theorem dX4_read_37 : decode cX4_read 37 = .ok (.putfield 31, 3) := by decide +kernel
theorem dX4_read_40 : decode cX4_read 40 = .ok (.aload_n 1, 1) := by decide +kernel
theorem dX4_read_41 : decode cX4_read 41 = .ok (.aload_n 0, 1) := by decide +kernel
theorem dX4_read_42 : decode cX4_read 42 = .ok (.getfield 51, 3) := by decide +kernel
theorem dX4_read_45 : decode cX4_read 45 = .ok (.putfield 54, 3) := by decide +kernel
theorem dX4_read_48 : decode cX4_read 48 = .ok (.aload_n 1, 1) := by decide +kernel
theorem dX4_read_49 : decode cX4_read 49 = .ok (.aload_n 0, 1) := by decide +kernel
theorem dX4_read_50 : decode cX4_read 50 = .ok (.getfield 55, 3) := by decide +kernel
theorem dX4_read_53 : decode cX4_read 53 = .ok (.putfield 58, 3) := by decide +kernel
theorem dX4_read_56 : decode cX4_read 56 = .ok (.iconst 1, 1) := by decide +kernel
theorem dX4_read_57 : decode cX4_read 57 = .ok (.istore_n 2, 1) := by decide +kernel
theorem dX4_read_58 : decode cX4_read 58 = .ok (.iconst 1, 1) := by decide +kernel
theorem dX4_read_59 : decode cX4_read 59 = .ok (.istore_n 3, 1) := by decide +kernel
theorem dX4_read_60 : decode cX4_read 60 = .ok (.iload_n 3, 1) := by decide +kernel
theorem dX4_read_61 : decode cX4_read 61 = .ok (.bipush 12, 2) := by decide +kernel
theorem dX4_read_63 : decode cX4_read 63 = .ok (.if_icmp .ge 59, 3) := by decide +kernel
theorem dX4_read_66 : decode cX4_read 66 = .ok (.aload_n 1, 1) := by decide +kernel
theorem dX4_read_67 : decode cX4_read 67 = .ok (.getfield 31, 3) := by decide +kernel
theorem dX4_read_70 : decode cX4_read 70 = .ok (.iload_n 3, 1) := by decide +kernel
theorem dX4_read_71 : decode cX4_read 71 = .ok (.invokestatic 36, 3) := by decide +kernel
theorem dX4_read_74 : decode cX4_read 74 = .ok (.ifCond .eq 42, 3) := by decide +kernel
theorem dX4_read_77 : decode cX4_read 77 = .ok (.aload_n 0, 1) := by decide +kernel
theorem dX4_read_78 : decode cX4_read 78 = .ok (.iload_n 2, 1) := by decide +kernel
theorem dX4_read_79 : decode cX4_read 79 = .ok (.iload_n 3, 1) := by decide +kernel
theorem dX4_read_80 : decode cX4_read 80 = .ok (.invokevirtual 59, 3) := by decide +kernel
theorem dX4_read_83 : decode cX4_read 83 = .ok (.ifCond .ne 5, 3) := by decide +kernel
theorem dX4_read_86 : decode cX4_read 86 = .ok (.iconst 0, 1) := by decide +kernel
theorem dX4_read_87 : decode cX4_read 87 = .ok (.ireturn, 1) := by decide +kernel
theorem dX4_read_88 : decode cX4_read 88 = .ok (.aload_n 1, 1) := by decide +kernel
theorem dX4_read_89 : decode cX4_read 89 = .ok (.getfield 40, 3) := by decide +kernel
theorem dX4_read_92 : decode cX4_read 92 = .ok (.iload_n 3, 1) := by decide +kernel
theorem dX4_read_93 : decode cX4_read 93 = .ok (.aload_n 0, 1) := by decide +kernel
theorem dX4_read_94 : decode cX4_read 94 = .ok (.iload_n 2, 1) := by decide +kernel
theorem dX4_read_95 : decode cX4_read 95 = .ok (.iconst 2, 1) := by decide +kernel
theorem dX4_read_96 : decode cX4_read 96 = .ok (.iadd, 1) := by decide +kernel
theorem dX4_read_97 : decode cX4_read 97 = .ok (.getstatic 48, 3) := by decide +kernel
theorem dX4_read_100 : decode cX4_read 100 = .ok (.iload_n 3, 1) := by decide +kernel
theorem dX4_read_101 : decode cX4_read 101 = .ok (.iaload, 1) := by decide +kernel
theorem dX4_read_102 : decode cX4_read 102 = .ok (.invokevirtual 62, 3) := by decide +kernel
theorem dX4_read_105 : decode cX4_read 105 = .ok (.lastore, 1) := by decide +kernel
theorem dX4_read_106 : decode cX4_read 106 = .ok (.iload_n 2, 1) := by decide +kernel
theorem dX4_read_107 : decode cX4_read 107 = .ok (.iconst 2, 1) := by decide +kernel
theorem dX4_read_108 : decode cX4_read 108 = .ok (.getstatic 48, 3) := by decide +kernel
theorem dX4_read_111 : decode cX4_read 111 = .ok (.iload_n 3, 1) := by decide +kernel
theorem dX4_read_112 : decode cX4_read 112 = .ok (.iaload, 1) := by decide +kernel
theorem dX4_read_113 : decode cX4_read 113 = .ok (.iadd, 1) := by decide +kernel
theorem dX4_read_114 : decode cX4_read 114 = .ok (.iadd, 1) := by decide +kernel
theorem dX4_read_115 : decode cX4_read 115 = .ok (.istore_n 2, 1) := by decide +kernel
theorem dX4_read_116 : decode cX4_read 116 = .ok (.iinc 3 1, 3) := by decide +kernel
theorem dX4_read_119 : decode cX4_read 119 = .ok (.goto (-59), 3) := by decide +kernel
theorem dX4_read_122 : decode cX4_read 122 = .ok (.iload_n 2, 1) := by decide +kernel
theorem dX4_read_123 : decode cX4_read 123 = .ok (.aload_n 0, 1) := by decide +kernel
theorem dX4_read_124 : decode cX4_read 124 = .ok (.getfield 15, 3) := by decide +kernel
theorem dX4_read_127 : decode cX4_read 127 = .ok (.if_icmp .ne 7, 3) := by decide +kernel
theorem dX4_read_130 : decode cX4_read 130 = .ok (.iconst 1, 1) := by decide +kernel
theorem dX4_read_131 : decode cX4_read 131 = .ok (.goto 4, 3) := by decide +kernel
theorem dX4_read_134 : decode cX4_read 134 = .ok (.iconst 0, 1) := by decide +kernel
theorem dX4_read_135 : decode cX4_read 135 = .ok (.ireturn, 1) := by decide +kernel
theorem dX4_isFieldAt_0 : decode cX4_isFieldAt 0 = .ok (.iload_n 1, 1) := by decide +kernel
theorem dX4_isFieldAt_1 : decode cX4_isFieldAt 1 = .ok (.iconst 2, 1) := by decide +kernel
theorem dX4_isFieldAt_2 : decode cX4_isFieldAt 2 = .ok (.iadd, 1) := by decide +kernel
theorem dX4_isFieldAt_3 : decode cX4_isFieldAt 3 = .ok (.getstatic 48, 3) := by decide +kernel
theorem dX4_isFieldAt_6 : decode cX4_isFieldAt 6 = .ok (.iload_n 2, 1) := by decide +kernel
theorem dX4_isFieldAt_7 : decode cX4_isFieldAt 7 = .ok (.iaload, 1) := by decide +kernel
theorem dX4_isFieldAt_8 : decode cX4_isFieldAt 8 = .ok (.iadd, 1) := by decide +kernel
theorem dX4_isFieldAt_9 : decode cX4_isFieldAt 9 = .ok (.aload_n 0, 1) := by decide +kernel
theorem dX4_isFieldAt_10 : decode cX4_isFieldAt 10 = .ok (.getfield 15, 3) := by decide +kernel
theorem dX4_isFieldAt_13 : decode cX4_isFieldAt 13 = .ok (.if_icmp .gt 33, 3) := by decide +kernel
theorem dX4_isFieldAt_16 : decode cX4_isFieldAt 16 = .ok (.aload_n 0, 1) := by decide +kernel
theorem dX4_isFieldAt_17 : decode cX4_isFieldAt 17 = .ok (.getfield 9, 3) := by decide +kernel
theorem dX4_isFieldAt_20 : decode cX4_isFieldAt 20 = .ok (.iload_n 1, 1) := by decide +kernel
theorem dX4_isFieldAt_21 : decode cX4_isFieldAt 21 = .ok (.iaload, 1) := by decide +kernel
theorem dX4_isFieldAt_22 : decode cX4_isFieldAt 22 = .ok (.iload_n 2, 1) := by decide +kernel
theorem dX4_isFieldAt_23 : decode cX4_isFieldAt 23 = .ok (.if_icmp .ne 23, 3) := by decide +kernel
theorem dX4_isFieldAt_26 : decode cX4_isFieldAt 26 = .ok (.aload_n 0, 1) := by decide +kernel
theorem dX4_isFieldAt_27 : decode cX4_isFieldAt 27 = .ok (.getfield 9, 3) := by decide +kernel
theorem dX4_isFieldAt_30 : decode cX4_isFieldAt 30 = .ok (.iload_n 1, 1) := by decide +kernel
theorem dX4_isFieldAt_31 : decode cX4_isFieldAt 31 = .ok (.iconst 1, 1) := by decide +kernel
theorem dX4_isFieldAt_32 : decode cX4_isFieldAt 32 = .ok (.iadd, 1) := by decide +kernel
theorem dX4_isFieldAt_33 : decode cX4_isFieldAt 33 = .ok (.iaload, 1) := by decide +kernel
theorem dX4_isFieldAt_34 : decode cX4_isFieldAt 34 = .ok (.getstatic 48, 3) := by decide +kernel
theorem dX4_isFieldAt_37 : decode cX4_isFieldAt 37 = .ok (.iload_n 2, 1) := by decide +kernel
theorem dX4_isFieldAt_38 : decode cX4_isFieldAt 38 = .ok (.iaload, 1) := by decide +kernel
theorem dX4_isFieldAt_39 : decode cX4_isFieldAt 39 = .ok (.if_icmp .ne 7, 3) := by decide +kernel
theorem dX4_isFieldAt_42 : decode cX4_isFieldAt 42 = .ok (.iconst 1, 1) := by decide +kernel
theorem dX4_isFieldAt_43 : decode cX4_isFieldAt 43 = .ok (.goto 4, 3) := by decide +kernel
theorem dX4_isFieldAt_46 : decode cX4_isFieldAt 46 = .ok (.iconst 0, 1) := by decide +kernel
theorem dX4_isFieldAt_47 : decode cX4_isFieldAt 47 = .ok (.ireturn, 1) := by decide +kernel
theorem dX4_numberAt_0 : decode cX4_numberAt 0 = .ok (.lconst 0, 1) := by decide +kernel
theorem dX4_numberAt_1 : decode cX4_numberAt 1 = .ok (.lstore_n 3, 1) := by decide +kernel
theorem dX4_numberAt_2 : decode cX4_numberAt 2 = .ok (.iconst 0, 1) := by decide +kernel
theorem dX4_numberAt_3 : decode cX4_numberAt 3 = .ok (.istore 5, 2) := by decide +kernel
theorem dX4_numberAt_5 : decode cX4_numberAt 5 = .ok (.iload 5, 2) := by decide +kernel
theorem dX4_numberAt_7 : decode cX4_numberAt 7 = .ok (.iload_n 2, 1) := by decide +kernel
theorem dX4_numberAt_8 : decode cX4_numberAt 8 = .ok (.if_icmp .ge 26, 3) := by decide +kernel
theorem dX4_numberAt_11 : decode cX4_numberAt 11 = .ok (.lload_n 3, 1) := by decide +kernel
theorem dX4_numberAt_12 : decode cX4_numberAt 12 = .ok (.ldc2_w 66, 3) := by decide +kernel
theorem dX4_numberAt_15 : decode cX4_numberAt 15 = .ok (.lmul, 1) := by decide +kernel
theorem dX4_numberAt_16 : decode cX4_numberAt 16 = .ok (.aload_n 0, 1) := by decide +kernel
theorem dX4_numberAt_17 : decode cX4_numberAt 17 = .ok (.getfield 9, 3) := by decide +kernel
theorem dX4_numberAt_20 : decode cX4_numberAt 20 = .ok (.iload_n 1, 1) := by decide +kernel
theorem dX4_numberAt_21 : decode cX4_numberAt 21 = .ok (.iload 5, 2) := by decide +kernel
theorem dX4_numberAt_23 : decode cX4_numberAt 23 = .ok (.iadd, 1) := by decide +kernel
theorem dX4_numberAt_24 : decode cX4_numberAt 24 = .ok (.iaload, 1) := by decide +kernel
theorem dX4_numberAt_25 : decode cX4_numberAt 25 = .ok (.i2l, 1) := by decide +kernel
theorem dX4_numberAt_26 : decode cX4_numberAt 26 = .ok (.ladd, 1) := by decide +kernel
theorem dX4_numberAt_27 : decode cX4_numberAt 27 = .ok (.lstore_n 3, 1) := by decide +kernel
theorem dX4_numberAt_28 : decode cX4_numberAt 28 = .ok (.iinc 5 1, 3) := by decide +kernel
theorem dX4_numberAt_31 : decode cX4_numberAt 31 = .ok (.goto (-26), 3) := by decide +kernel
theorem dX4_numberAt_34 : decode cX4_numberAt 34 = .ok (.lload_n 3, 1) := by decide +kernel
theorem dX4_numberAt_35 : decode cX4_numberAt 35 = .ok (.lreturn, 1) := by decide +kernel
theorem dX4_hasField_0 : decode cX4_hasField 0 = .ok (.getstatic 68, 3) := by decide +kernel
theorem dX4_hasField_3 : decode cX4_hasField 3 = .ok (.iload_n 0, 1) := by decide +kernel
theorem dX4_hasField_4 : decode cX4_hasField 4 = .ok (.iaload, 1) := by decide +kernel
theorem dX4_hasField_5 : decode cX4_hasField 5 = .ok (.iload_n 1, 1) := by decide +kernel
theorem dX4_hasField_6 : decode cX4_hasField 6 = .ok (.ishr, 1) := by decide +kernel
theorem dX4_hasField_7 : decode cX4_hasField 7 = .ok (.iconst 1, 1) := by decide +kernel
theorem dX4_hasField_8 : decode cX4_hasField 8 = .ok (.iand, 1) := by decide +kernel
theorem dX4_hasField_9 : decode cX4_hasField 9 = .ok (.iconst 1, 1) := by decide +kernel
theorem dX4_hasField_10 : decode cX4_hasField 10 = .ok (.if_icmp .ne 7, 3) := by decide +kernel
theorem dX4_hasField_13 : decode cX4_hasField 13 = .ok (.iconst 1, 1) := by decide +kernel
theorem dX4_hasField_14 : decode cX4_hasField 14 = .ok (.goto 4, 3) := by decide +kernel
theorem dX4_hasField_17 : decode cX4_hasField 17 = .ok (.iconst 0, 1) := by decide +kernel
theorem dX4_hasField_18 : decode cX4_hasField 18 = .ok (.ireturn, 1) := by decide +kernel
theorem dX5_init_0 : decode cX5_init 0 = .ok (.aload_n 0, 1) := by decide +kernel
theorem dX5_init_1 : decode cX5_init 1 = .ok (.invokespecial 1, 3) := by decide +kernel
theorem dX5_init_4 : decode cX5_init 4 = .ok (.return_, 1) := by decide +kernel
theorem dX6_init_0 : decode cX6_init 0 = .ok (.aload_n 0, 1) := by decide +kernel
theorem dX6_init_1 : decode cX6_init 1 = .ok (.invokespecial 1, 3) := by decide +kernel
theorem dX6_init_4 : decode cX6_init 4 = .ok (.aload_n 0, 1) := by decide +kernel
theorem dX6_init_5 : decode cX6_init 5 = .ok (.iload_n 1, 1) := by decide +kernel
theorem dX6_init_6 : decode cX6_init 6 = .ok (.putfield 7, 3) := by decide +kernel
theorem dX6_init_9 : decode cX6_init 9 = .ok (.aload_n 0, 1) := by decide +kernel
theorem dX6_init_10 : decode cX6_init 10 = .ok (.iload_n 2, 1) := by decide +kernel
theorem dX6_init_11 : decode cX6_init 11 = .ok (.putfield 13, 3) := by decide +kernel
theorem dX6_init_14 : decode cX6_init 14 = .ok (.aload_n 0, 1) := by decide +kernel
theorem dX6_init_15 : decode cX6_init 15 = .ok (.aload_n 3, 1) := by decide +kernel
theorem dX6_init_16 : decode cX6_init 16 = .ok (.putfield 16, 3) := by decide +kernel
theorem dX6_init_19 : decode cX6_init 19 = .ok (.return_, 1) := by decide +kernel
theorem dX7_init_0 : decode cX7_init 0 = .ok (.aload_n 0, 1) := by decide +kernel
theorem dX7_init_1 : decode cX7_init 1 = .ok (.invokespecial 3, 3) := by decide +kernel
theorem dX7_init_4 : decode cX7_init 4 = .ok (.aload_n 0, 1) := by decide +kernel
theorem dX7_init_5 : decode cX7_init 5 = .ok (.new 9, 3) := by decide +kernel
theorem dX7_init_8 : decode cX7_init 8 = .ok (.dup, 1) := by decide +kernel
theorem dX7_init_9 : decode cX7_init 9 = .ok (.invokespecial 11, 3) := by decide +kernel
theorem dX7_init_12 : decode cX7_init 12 = .ok (.putfield 12, 3) := by decide +kernel
theorem dX7_init_15 : decode cX7_init 15 = .ok (.aload_n 0, 1) := by decide +kernel
theorem dX7_init_16 : decode cX7_init 16 = .ok (.bipush 8, 2) := by decide +kernel
theorem dX7_init_18 : decode cX7_init 18 = .ok (.newarray .long, 2) := by decide +kernel
theorem dX7_init_20 : decode cX7_init 20 = .ok (.putfield 18, 3) := by decide +kernel
theorem dX7_init_23 : decode cX7_init 23 = .ok (.return_, 1) := by decide +kernel
theorem dX7_ofCard_0 : decode cX7_ofCard 0 = .ok (.aload_n 0, 1) := by decide +kernel
theorem dX7_ofCard_1 : decode cX7_ofCard 1 = .ok (.iconst 0, 1) := by decide +kernel
theorem dX7_ofCard_2 : decode cX7_ofCard 2 = .ok (.iload_n 1, 1) := by decide +kernel
theorem dX7_ofCard_3 : decode cX7_ofCard 3 = .ok (.invokevirtual 22, 3) := by decide +kernel
theorem dX7_ofCard_6 : decode cX7_ofCard 6 = .ok (.ldc2_w 26, 3) := by decide +kernel
theorem dX7_ofCard_9 : decode cX7_ofCard 9 = .ok (.invokevirtual 28, 3) := by decide +kernel
theorem dX7_ofCard_12 : decode cX7_ofCard 12 = .ok (.iload_n 1, 1) := by decide +kernel
theorem dX7_ofCard_13 : decode cX7_ofCard 13 = .ok (.i2l, 1) := by decide +kernel
theorem dX7_ofCard_14 : decode cX7_ofCard 14 = .ok (.invokevirtual 28, 3) := by decide +kernel
theorem dX7_ofCard_17 : decode cX7_ofCard 17 = .ok (.iload_n 2, 1) := by decide +kernel
theorem dX7_ofCard_18 : decode cX7_ofCard 18 = .ok (.i2l, 1) := by decide +kernel
theorem dX7_ofCard_19 : decode cX7_ofCard 19 = .ok (.invokevirtual 28, 3) := by decide +kernel
theorem dX7_ofCard_22 : decode cX7_ofCard 22 = .ok (.lload_n 3, 1) := by decide +kernel
theorem dX7_ofCard_23 : decode cX7_ofCard 23 = .ok (.invokevirtual 28, 3) := by decide +kernel
theorem dX7_ofCard_26 : decode cX7_ofCard 26 = .ok (.areturn, 1) := by decide +kernel
theorem dX7_ofAnswer_0 : decode cX7_ofAnswer 0 = .ok (.aload_n 0, 1) := by decide +kernel
theorem dX7_ofAnswer_1 : decode cX7_ofAnswer 1 = .ok (.iconst 0, 1) := by decide +kernel
theorem dX7_ofAnswer_2 : decode cX7_ofAnswer 2 = .ok (.aload_n 1, 1) := by decide +kernel
theorem dX7_ofAnswer_3 : decode cX7_ofAnswer 3 = .ok (.getfield 32, 3) := by decide +kernel
theorem dX7_ofAnswer_6 : decode cX7_ofAnswer 6 = .ok (.invokevirtual 22, 3) := by decide +kernel
theorem dX7_ofAnswer_9 : decode cX7_ofAnswer 9 = .ok (.ldc2_w 38, 3) := by decide +kernel
theorem dX7_ofAnswer_12 : decode cX7_ofAnswer 12 = .ok (.invokevirtual 28, 3) := by decide +kernel
theorem dX7_ofAnswer_15 : decode cX7_ofAnswer 15 = .ok (.aload_n 1, 1) := by decide +kernel
theorem dX7_ofAnswer_16 : decode cX7_ofAnswer 16 = .ok (.getfield 40, 3) := by decide +kernel
theorem dX7_ofAnswer_19 : decode cX7_ofAnswer 19 = .ok (.i2l, 1) := by decide +kernel
theorem dX7_ofAnswer_20 : decode cX7_ofAnswer 20 = .ok (.invokevirtual 28, 3) := by decide +kernel
theorem dX7_ofAnswer_23 : decode cX7_ofAnswer 23 = .ok (.aload_n 1, 1) := by decide +kernel
theorem dX7_ofAnswer_24 : decode cX7_ofAnswer 24 = .ok (.getfield 43, 3) := by decide +kernel
theorem dX7_ofAnswer_27 : decode cX7_ofAnswer 27 = .ok (.invokevirtual 28, 3) := by decide +kernel
theorem dX7_ofAnswer_30 : decode cX7_ofAnswer 30 = .ok (.aload_n 1, 1) := by decide +kernel
theorem dX7_ofAnswer_31 : decode cX7_ofAnswer 31 = .ok (.getfield 47, 3) := by decide +kernel
theorem dX7_ofAnswer_34 : decode cX7_ofAnswer 34 = .ok (.invokevirtual 28, 3) := by decide +kernel
theorem dX7_ofAnswer_37 : decode cX7_ofAnswer 37 = .ok (.aload_n 1, 1) := by decide +kernel
theorem dX7_ofAnswer_38 : decode cX7_ofAnswer 38 = .ok (.getfield 50, 3) := by decide +kernel
theorem dX7_ofAnswer_41 : decode cX7_ofAnswer 41 = .ok (.i2l, 1) := by decide +kernel
theorem dX7_ofAnswer_42 : decode cX7_ofAnswer 42 = .ok (.invokevirtual 28, 3) := by decide +kernel
theorem dX7_ofAnswer_45 : decode cX7_ofAnswer 45 = .ok (.aload_n 1, 1) := by decide +kernel
theorem dX7_ofAnswer_46 : decode cX7_ofAnswer 46 = .ok (.getfield 53, 3) := by decide +kernel
theorem dX7_ofAnswer_49 : decode cX7_ofAnswer 49 = .ok (.i2l, 1) := by decide +kernel
theorem dX7_ofAnswer_50 : decode cX7_ofAnswer 50 = .ok (.invokevirtual 28, 3) := by decide +kernel
theorem dX7_ofAnswer_53 : decode cX7_ofAnswer 53 = .ok (.aload_n 1, 1) := by decide +kernel
theorem dX7_ofAnswer_54 : decode cX7_ofAnswer 54 = .ok (.getfield 56, 3) := by decide +kernel
theorem dX7_ofAnswer_57 : decode cX7_ofAnswer 57 = .ok (.i2l, 1) := by decide +kernel
theorem dX7_ofAnswer_58 : decode cX7_ofAnswer 58 = .ok (.invokevirtual 28, 3) := by decide +kernel
theorem dX7_ofAnswer_61 : decode cX7_ofAnswer 61 = .ok (.areturn, 1) := by decide +kernel
theorem dX7_ofLast_0 : decode cX7_ofLast 0 = .ok (.aload_n 0, 1) := by decide +kernel
theorem dX7_ofLast_1 : decode cX7_ofLast 1 = .ok (.iconst 0, 1) := by decide +kernel
theorem dX7_ofLast_2 : decode cX7_ofLast 2 = .ok (.aload_n 1, 1) := by decide +kernel
theorem dX7_ofLast_3 : decode cX7_ofLast 3 = .ok (.getfield 32, 3) := by decide +kernel
theorem dX7_ofLast_6 : decode cX7_ofLast 6 = .ok (.invokevirtual 22, 3) := by decide +kernel
theorem dX7_ofLast_9 : decode cX7_ofLast 9 = .ok (.ldc2_w 59, 3) := by decide +kernel
theorem dX7_ofLast_12 : decode cX7_ofLast 12 = .ok (.invokevirtual 28, 3) := by decide +kernel
theorem dX7_ofLast_15 : decode cX7_ofLast 15 = .ok (.iload_n 2, 1) := by decide +kernel
theorem dX7_ofLast_16 : decode cX7_ofLast 16 = .ok (.i2l, 1) := by decide +kernel
theorem dX7_ofLast_17 : decode cX7_ofLast 17 = .ok (.invokevirtual 28, 3) := by decide +kernel
theorem dX7_ofLast_20 : decode cX7_ofLast 20 = .ok (.aload_n 1, 1) := by decide +kernel
theorem dX7_ofLast_21 : decode cX7_ofLast 21 = .ok (.getfield 43, 3) := by decide +kernel
theorem dX7_ofLast_24 : decode cX7_ofLast 24 = .ok (.invokevirtual 28, 3) := by decide +kernel
theorem dX7_ofLast_27 : decode cX7_ofLast 27 = .ok (.aload_n 1, 1) := by decide +kernel
theorem dX7_ofLast_28 : decode cX7_ofLast 28 = .ok (.getfield 47, 3) := by decide +kernel
theorem dX7_ofLast_31 : decode cX7_ofLast 31 = .ok (.invokevirtual 28, 3) := by decide +kernel
theorem dX7_ofLast_34 : decode cX7_ofLast 34 = .ok (.aload_n 1, 1) := by decide +kernel
theorem dX7_ofLast_35 : decode cX7_ofLast 35 = .ok (.getfield 50, 3) := by decide +kernel
theorem dX7_ofLast_38 : decode cX7_ofLast 38 = .ok (.i2l, 1) := by decide +kernel
theorem dX7_ofLast_39 : decode cX7_ofLast 39 = .ok (.invokevirtual 28, 3) := by decide +kernel
theorem dX7_ofLast_42 : decode cX7_ofLast 42 = .ok (.aload_n 1, 1) := by decide +kernel
theorem dX7_ofLast_43 : decode cX7_ofLast 43 = .ok (.getfield 53, 3) := by decide +kernel
theorem dX7_ofLast_46 : decode cX7_ofLast 46 = .ok (.i2l, 1) := by decide +kernel
theorem dX7_ofLast_47 : decode cX7_ofLast 47 = .ok (.invokevirtual 28, 3) := by decide +kernel
theorem dX7_ofLast_50 : decode cX7_ofLast 50 = .ok (.areturn, 1) := by decide +kernel
theorem dX7_ofTerminal_0 : decode cX7_ofTerminal 0 = .ok (.aload_n 0, 1) := by decide +kernel
theorem dX7_ofTerminal_1 : decode cX7_ofTerminal 1 = .ok (.iconst 1, 1) := by decide +kernel
theorem dX7_ofTerminal_2 : decode cX7_ofTerminal 2 = .ok (.aload_n 2, 1) := by decide +kernel
theorem dX7_ofTerminal_3 : decode cX7_ofTerminal 3 = .ok (.getfield 50, 3) := by decide +kernel
theorem dX7_ofTerminal_6 : decode cX7_ofTerminal 6 = .ok (.invokevirtual 22, 3) := by decide +kernel
theorem dX7_ofTerminal_9 : decode cX7_ofTerminal 9 = .ok (.iload_n 1, 1) := by decide +kernel
theorem dX7_ofTerminal_10 : decode cX7_ofTerminal 10 = .ok (.i2l, 1) := by decide +kernel
theorem dX7_ofTerminal_11 : decode cX7_ofTerminal 11 = .ok (.invokevirtual 28, 3) := by decide +kernel
theorem dX7_ofTerminal_14 : decode cX7_ofTerminal 14 = .ok (.aload_n 2, 1) := by decide +kernel
theorem dX7_ofTerminal_15 : decode cX7_ofTerminal 15 = .ok (.getfield 32, 3) := by decide +kernel
theorem dX7_ofTerminal_18 : decode cX7_ofTerminal 18 = .ok (.i2l, 1) := by decide +kernel
theorem dX7_ofTerminal_19 : decode cX7_ofTerminal 19 = .ok (.invokevirtual 28, 3) := by decide +kernel
theorem dX7_ofTerminal_22 : decode cX7_ofTerminal 22 = .ok (.aload_n 2, 1) := by decide +kernel
theorem dX7_ofTerminal_23 : decode cX7_ofTerminal 23 = .ok (.getfield 53, 3) := by decide +kernel
theorem dX7_ofTerminal_26 : decode cX7_ofTerminal 26 = .ok (.i2l, 1) := by decide +kernel
theorem dX7_ofTerminal_27 : decode cX7_ofTerminal 27 = .ok (.invokevirtual 28, 3) := by decide +kernel
theorem dX7_ofTerminal_30 : decode cX7_ofTerminal 30 = .ok (.aload_n 2, 1) := by decide +kernel
theorem dX7_ofTerminal_31 : decode cX7_ofTerminal 31 = .ok (.getfield 43, 3) := by decide +kernel
theorem dX7_ofTerminal_34 : decode cX7_ofTerminal 34 = .ok (.invokevirtual 28, 3) := by decide +kernel
theorem dX7_ofTerminal_37 : decode cX7_ofTerminal 37 = .ok (.aload_n 2, 1) := by decide +kernel
theorem dX7_ofTerminal_38 : decode cX7_ofTerminal 38 = .ok (.getfield 47, 3) := by decide +kernel
theorem dX7_ofTerminal_41 : decode cX7_ofTerminal 41 = .ok (.invokevirtual 28, 3) := by decide +kernel
theorem dX7_ofTerminal_44 : decode cX7_ofTerminal 44 = .ok (.aload_n 2, 1) := by decide +kernel
theorem dX7_ofTerminal_45 : decode cX7_ofTerminal 45 = .ok (.getfield 50, 3) := by decide +kernel
theorem dX7_ofTerminal_48 : decode cX7_ofTerminal 48 = .ok (.i2l, 1) := by decide +kernel
theorem dX7_ofTerminal_49 : decode cX7_ofTerminal 49 = .ok (.invokevirtual 28, 3) := by decide +kernel
theorem dX7_ofTerminal_52 : decode cX7_ofTerminal 52 = .ok (.aload_n 2, 1) := by decide +kernel
theorem dX7_ofTerminal_53 : decode cX7_ofTerminal 53 = .ok (.getfield 56, 3) := by decide +kernel
theorem dX7_ofTerminal_56 : decode cX7_ofTerminal 56 = .ok (.i2l, 1) := by decide +kernel
theorem dX7_ofTerminal_57 : decode cX7_ofTerminal 57 = .ok (.invokevirtual 28, 3) := by decide +kernel
theorem dX7_ofTerminal_60 : decode cX7_ofTerminal 60 = .ok (.aload_n 2, 1) := by decide +kernel
theorem dX7_ofTerminal_61 : decode cX7_ofTerminal 61 = .ok (.getfield 61, 3) := by decide +kernel
theorem dX7_ofTerminal_64 : decode cX7_ofTerminal 64 = .ok (.invokevirtual 28, 3) := by decide +kernel
theorem dX7_ofTerminal_67 : decode cX7_ofTerminal 67 = .ok (.areturn, 1) := by decide +kernel
theorem dX7_ofWordToCard_0 : decode cX7_ofWordToCard 0 = .ok (.aload_n 0, 1) := by decide +kernel
theorem dX7_ofWordToCard_1 : decode cX7_ofWordToCard 1 = .ok (.iconst 2, 1) := by decide +kernel
theorem dX7_ofWordToCard_2 : decode cX7_ofWordToCard 2 = .ok (.iload_n 1, 1) := by decide +kernel
theorem dX7_ofWordToCard_3 : decode cX7_ofWordToCard 3 = .ok (.invokevirtual 22, 3) := by decide +kernel
theorem dX7_ofWordToCard_6 : decode cX7_ofWordToCard 6 = .ok (.ldc2_w 64, 3) := by decide +kernel
theorem dX7_ofWordToCard_9 : decode cX7_ofWordToCard 9 = .ok (.invokevirtual 28, 3) := by decide +kernel
theorem dX7_ofWordToCard_12 : decode cX7_ofWordToCard 12 = .ok (.iload_n 1, 1) := by decide +kernel
theorem dX7_ofWordToCard_13 : decode cX7_ofWordToCard 13 = .ok (.i2l, 1) := by decide +kernel
theorem dX7_ofWordToCard_14 : decode cX7_ofWordToCard 14 = .ok (.invokevirtual 28, 3) := by decide +kernel
theorem dX7_ofWordToCard_17 : decode cX7_ofWordToCard 17 = .ok (.iload_n 2, 1) := by decide +kernel
theorem dX7_ofWordToCard_18 : decode cX7_ofWordToCard 18 = .ok (.i2l, 1) := by decide +kernel
theorem dX7_ofWordToCard_19 : decode cX7_ofWordToCard 19 = .ok (.invokevirtual 28, 3) := by decide +kernel
theorem dX7_ofWordToCard_22 : decode cX7_ofWordToCard 22 = .ok (.iload_n 3, 1) := by decide +kernel
theorem dX7_ofWordToCard_23 : decode cX7_ofWordToCard 23 = .ok (.i2l, 1) := by decide +kernel
theorem dX7_ofWordToCard_24 : decode cX7_ofWordToCard 24 = .ok (.invokevirtual 28, 3) := by decide +kernel
theorem dX7_ofWordToCard_27 : decode cX7_ofWordToCard 27 = .ok (.areturn, 1) := by decide +kernel
theorem dX7_ofWordToTerminal_0 : decode cX7_ofWordToTerminal 0 = .ok (.aload_n 0, 1) := by decide +kernel
theorem dX7_ofWordToTerminal_1 : decode cX7_ofWordToTerminal 1 = .ok (.iconst 1, 1) := by decide +kernel
theorem dX7_ofWordToTerminal_2 : decode cX7_ofWordToTerminal 2 = .ok (.aload_n 1, 1) := by decide +kernel
theorem dX7_ofWordToTerminal_3 : decode cX7_ofWordToTerminal 3 = .ok (.getfield 50, 3) := by decide +kernel
theorem dX7_ofWordToTerminal_6 : decode cX7_ofWordToTerminal 6 = .ok (.invokevirtual 22, 3) := by decide +kernel
theorem dX7_ofWordToTerminal_9 : decode cX7_ofWordToTerminal 9 = .ok (.ldc2_w 64, 3) := by decide +kernel
theorem dX7_ofWordToTerminal_12 : decode cX7_ofWordToTerminal 12 = .ok (.invokevirtual 28, 3) := by decide +kernel
theorem dX7_ofWordToTerminal_15 : decode cX7_ofWordToTerminal 15 = .ok (.aload_n 1, 1) := by decide +kernel
theorem dX7_ofWordToTerminal_16 : decode cX7_ofWordToTerminal 16 = .ok (.getfield 32, 3) := by decide +kernel
theorem dX7_ofWordToTerminal_19 : decode cX7_ofWordToTerminal 19 = .ok (.i2l, 1) := by decide +kernel
theorem dX7_ofWordToTerminal_20 : decode cX7_ofWordToTerminal 20 = .ok (.invokevirtual 28, 3) := by decide +kernel
theorem dX7_ofWordToTerminal_23 : decode cX7_ofWordToTerminal 23 = .ok (.aload_n 1, 1) := by decide +kernel
theorem dX7_ofWordToTerminal_24 : decode cX7_ofWordToTerminal 24 = .ok (.getfield 53, 3) := by decide +kernel
theorem dX7_ofWordToTerminal_27 : decode cX7_ofWordToTerminal 27 = .ok (.i2l, 1) := by decide +kernel
theorem dX7_ofWordToTerminal_28 : decode cX7_ofWordToTerminal 28 = .ok (.invokevirtual 28, 3) := by decide +kernel
theorem dX7_ofWordToTerminal_31 : decode cX7_ofWordToTerminal 31 = .ok (.iload_n 2, 1) := by decide +kernel
theorem dX7_ofWordToTerminal_32 : decode cX7_ofWordToTerminal 32 = .ok (.i2l, 1) := by decide +kernel
theorem dX7_ofWordToTerminal_33 : decode cX7_ofWordToTerminal 33 = .ok (.invokevirtual 28, 3) := by decide +kernel
theorem dX7_ofWordToTerminal_36 : decode cX7_ofWordToTerminal 36 = .ok (.aload_n 1, 1) := by decide +kernel
theorem dX7_ofWordToTerminal_37 : decode cX7_ofWordToTerminal 37 = .ok (.getfield 43, 3) := by decide +kernel
theorem dX7_ofWordToTerminal_40 : decode cX7_ofWordToTerminal 40 = .ok (.invokevirtual 28, 3) := by decide +kernel
theorem dX7_ofWordToTerminal_43 : decode cX7_ofWordToTerminal 43 = .ok (.areturn, 1) := by decide +kernel
theorem dX7_seal_0 : decode cX7_seal 0 = .ok (.iconst 0, 1) := by decide +kernel
theorem dX7_seal_1 : decode cX7_seal 1 = .ok (.istore_n 1, 1) := by decide +kernel
theorem dX7_seal_2 : decode cX7_seal 2 = .ok (.iload_n 1, 1) := by decide +kernel
theorem dX7_seal_3 : decode cX7_seal 3 = .ok (.aload_n 0, 1) := by decide +kernel
theorem dX7_seal_4 : decode cX7_seal 4 = .ok (.getfield 12, 3) := by decide +kernel
theorem dX7_seal_7 : decode cX7_seal 7 = .ok (.invokevirtual 66, 3) := by decide +kernel
theorem dX7_seal_10 : decode cX7_seal 10 = .ok (.if_icmp .ge 32, 3) := by decide +kernel
theorem dX7_seal_13 : decode cX7_seal 13 = .ok (.aload_n 0, 1) := by decide +kernel
theorem dX7_seal_14 : decode cX7_seal 14 = .ok (.aload_n 0, 1) := by decide +kernel
theorem dX7_seal_15 : decode cX7_seal 15 = .ok (.getfield 12, 3) := by decide +kernel
theorem dX7_seal_18 : decode cX7_seal 18 = .ok (.iload_n 1, 1) := by decide +kernel
theorem dX7_seal_19 : decode cX7_seal 19 = .ok (.invokevirtual 70, 3) := by decide +kernel
theorem dX7_seal_22 : decode cX7_seal 22 = .ok (.checkcast 74, 3) := by decide +kernel
theorem dX7_seal_25 : decode cX7_seal 25 = .ok (.invokevirtual 76, 3) := by decide +kernel
theorem dX7_seal_28 : decode cX7_seal 28 = .ok (.ifCond .eq 8, 3) := by decide +kernel
theorem dX7_seal_31 : decode cX7_seal 31 = .ok (.iload_n 1, 1) := by decide +kernel
theorem dX7_seal_32 : decode cX7_seal 32 = .ok (.iconst 1, 1) := by decide +kernel
theorem dX7_seal_33 : decode cX7_seal 33 = .ok (.iadd, 1) := by decide +kernel
theorem dX7_seal_34 : decode cX7_seal 34 = .ok (.i2l, 1) := by decide +kernel
theorem dX7_seal_35 : decode cX7_seal 35 = .ok (.lreturn, 1) := by decide +kernel
theorem dX7_seal_36 : decode cX7_seal 36 = .ok (.iinc 1 1, 3) := by decide +kernel
theorem dX7_seal_39 : decode cX7_seal 39 = .ok (.goto (-37), 3) := by decide +kernel
theorem dX7_seal_42 : decode cX7_seal 42 = .ok (.aload_n 0, 1) := by decide +kernel
theorem dX7_seal_43 : decode cX7_seal 43 = .ok (.getfield 12, 3) := by decide +kernel
theorem dX7_seal_46 : decode cX7_seal 46 = .ok (.new 74, 3) := by decide +kernel
theorem dX7_seal_49 : decode cX7_seal 49 = .ok (.dup, 1) := by decide +kernel
theorem dX7_seal_50 : decode cX7_seal 50 = .ok (.aload_n 0, 1) := by decide +kernel
theorem dX7_seal_51 : decode cX7_seal 51 = .ok (.getfield 80, 3) := by decide +kernel
theorem dX7_seal_54 : decode cX7_seal 54 = .ok (.aload_n 0, 1) := by decide +kernel
theorem dX7_seal_55 : decode cX7_seal 55 = .ok (.getfield 83, 3) := by decide +kernel
theorem dX7_seal_58 : decode cX7_seal 58 = .ok (.aload_n 0, 1) := by decide +kernel
theorem dX7_seal_59 : decode cX7_seal 59 = .ok (.getfield 18, 3) := by decide +kernel
theorem dX7_seal_62 : decode cX7_seal 62 = .ok (.aload_n 0, 1) := by decide +kernel
theorem dX7_seal_63 : decode cX7_seal 63 = .ok (.getfield 86, 3) := by decide +kernel
theorem dX7_seal_66 : decode cX7_seal 66 = .ok (.invokestatic 88, 3) := by decide +kernel
theorem dX7_seal_69 : decode cX7_seal 69 = .ok (.invokespecial 94, 3) := by decide +kernel
theorem dX7_seal_72 : decode cX7_seal 72 = .ok (.invokevirtual 97, 3) := by decide +kernel
theorem dX7_seal_75 : decode cX7_seal 75 = .ok (.pop, 1) := by decide +kernel
theorem dX7_seal_76 : decode cX7_seal 76 = .ok (.aload_n 0, 1) := by decide +kernel
theorem dX7_seal_77 : decode cX7_seal 77 = .ok (.getfield 12, 3) := by decide +kernel
theorem dX7_seal_80 : decode cX7_seal 80 = .ok (.invokevirtual 66, 3) := by decide +kernel
theorem dX7_seal_83 : decode cX7_seal 83 = .ok (.i2l, 1) := by decide +kernel
theorem dX7_seal_84 : decode cX7_seal 84 = .ok (.lreturn, 1) := by decide +kernel
theorem dX7_isGood_0 : decode cX7_isGood 0 = .ok (.lload_n 1, 1) := by decide +kernel
theorem dX7_isGood_1 : decode cX7_isGood 1 = .ok (.lconst 1, 1) := by decide +kernel
theorem dX7_isGood_2 : decode cX7_isGood 2 = .ok (.lcmp, 1) := by decide +kernel
theorem dX7_isGood_3 : decode cX7_isGood 3 = .ok (.ifCond .lt 41, 3) := by decide +kernel
theorem dX7_isGood_6 : decode cX7_isGood 6 = .ok (.lload_n 1, 1) := by decide +kernel
theorem dX7_isGood_7 : decode cX7_isGood 7 = .ok (.aload_n 0, 1) := by decide +kernel
theorem dX7_isGood_8 : decode cX7_isGood 8 = .ok (.getfield 12, 3) := by decide +kernel
theorem dX7_isGood_11 : decode cX7_isGood 11 = .ok (.invokevirtual 66, 3) := by decide +kernel
theorem dX7_isGood_14 : decode cX7_isGood 14 = .ok (.i2l, 1) := by decide +kernel
theorem dX7_isGood_15 : decode cX7_isGood 15 = .ok (.lcmp, 1) := by decide +kernel
theorem dX7_isGood_16 : decode cX7_isGood 16 = .ok (.ifCond .gt 28, 3) := by decide +kernel
theorem dX7_isGood_19 : decode cX7_isGood 19 = .ok (.aload_n 0, 1) := by decide +kernel
theorem dX7_isGood_20 : decode cX7_isGood 20 = .ok (.aload_n 0, 1) := by decide +kernel
theorem dX7_isGood_21 : decode cX7_isGood 21 = .ok (.getfield 12, 3) := by decide +kernel
theorem dX7_isGood_24 : decode cX7_isGood 24 = .ok (.lload_n 1, 1) := by decide +kernel
theorem dX7_isGood_25 : decode cX7_isGood 25 = .ok (.l2i, 1) := by decide +kernel
theorem dX7_isGood_26 : decode cX7_isGood 26 = .ok (.iconst 1, 1) := by decide +kernel
theorem dX7_isGood_27 : decode cX7_isGood 27 = .ok (.isub, 1) := by decide +kernel
theorem dX7_isGood_28 : decode cX7_isGood 28 = .ok (.invokevirtual 70, 3) := by decide +kernel
theorem dX7_isGood_31 : decode cX7_isGood 31 = .ok (.checkcast 74, 3) := by decide +kernel
theorem dX7_isGood_34 : decode cX7_isGood 34 = .ok (.invokevirtual 76, 3) := by decide +kernel
theorem dX7_isGood_37 : decode cX7_isGood 37 = .ok (.ifCond .eq 7, 3) := by decide +kernel
theorem dX7_isGood_40 : decode cX7_isGood 40 = .ok (.iconst 1, 1) := by decide +kernel
theorem dX7_isGood_41 : decode cX7_isGood 41 = .ok (.goto 4, 3) := by decide +kernel
theorem dX7_isGood_44 : decode cX7_isGood 44 = .ok (.iconst 0, 1) := by decide +kernel
theorem dX7_isGood_45 : decode cX7_isGood 45 = .ok (.ireturn, 1) := by decide +kernel
theorem dX7_key_0 : decode cX7_key 0 = .ok (.aload_n 0, 1) := by decide +kernel
theorem dX7_key_1 : decode cX7_key 1 = .ok (.iload_n 1, 1) := by decide +kernel
theorem dX7_key_2 : decode cX7_key 2 = .ok (.putfield 80, 3) := by decide +kernel
theorem dX7_key_5 : decode cX7_key 5 = .ok (.aload_n 0, 1) := by decide +kernel
theorem dX7_key_6 : decode cX7_key 6 = .ok (.iload_n 2, 1) := by decide +kernel
theorem dX7_key_7 : decode cX7_key 7 = .ok (.putfield 83, 3) := by decide +kernel
theorem dX7_key_10 : decode cX7_key 10 = .ok (.aload_n 0, 1) := by decide +kernel
theorem dX7_key_11 : decode cX7_key 11 = .ok (.iconst 0, 1) := by decide +kernel
theorem dX7_key_12 : decode cX7_key 12 = .ok (.putfield 86, 3) := by decide +kernel
theorem dX7_key_15 : decode cX7_key 15 = .ok (.aload_n 0, 1) := by decide +kernel
theorem dX7_key_16 : decode cX7_key 16 = .ok (.areturn, 1) := by decide +kernel
theorem dX7_with_0 : decode cX7_with 0 = .ok (.aload_n 0, 1) := by decide +kernel
theorem dX7_with_1 : decode cX7_with 1 = .ok (.getfield 86, 3) := by decide +kernel
theorem dX7_with_4 : decode cX7_with 4 = .ok (.bipush 8, 2) := by decide +kernel
theorem dX7_with_6 : decode cX7_with 6 = .ok (.if_icmp .ge 23, 3) := by decide +kernel
theorem dX7_with_9 : decode cX7_with 9 = .ok (.aload_n 0, 1) := by decide +kernel
theorem dX7_with_10 : decode cX7_with 10 = .ok (.getfield 18, 3) := by decide +kernel
theorem dX7_with_13 : decode cX7_with 13 = .ok (.aload_n 0, 1) := by decide +kernel
theorem dX7_with_14 : decode cX7_with 14 = .ok (.getfield 86, 3) := by decide +kernel
theorem dX7_with_17 : decode cX7_with 17 = .ok (.lload_n 1, 1) := by decide +kernel
theorem dX7_with_18 : decode cX7_with 18 = .ok (.lastore, 1) := by decide +kernel
theorem dX7_with_19 : decode cX7_with 19 = .ok (.aload_n 0, 1) := by decide +kernel
theorem dX7_with_20 : decode cX7_with 20 = .ok (.dup, 1) := by decide +kernel
theorem dX7_with_21 : decode cX7_with 21 = .ok (.getfield 86, 3) := by decide +kernel
theorem dX7_with_24 : decode cX7_with 24 = .ok (.iconst 1, 1) := by decide +kernel
theorem dX7_with_25 : decode cX7_with 25 = .ok (.iadd, 1) := by decide +kernel
theorem dX7_with_26 : decode cX7_with 26 = .ok (.putfield 86, 3) := by decide +kernel
theorem dX7_with_29 : decode cX7_with 29 = .ok (.aload_n 0, 1) := by decide +kernel
theorem dX7_with_30 : decode cX7_with 30 = .ok (.areturn, 1) := by decide +kernel
theorem dX7_isTheirs_0 : decode cX7_isTheirs 0 = .ok (.aload_n 1, 1) := by decide +kernel
theorem dX7_isTheirs_1 : decode cX7_isTheirs 1 = .ok (.getfield 101, 3) := by decide +kernel
theorem dX7_isTheirs_4 : decode cX7_isTheirs 4 = .ok (.aload_n 0, 1) := by decide +kernel
theorem dX7_isTheirs_5 : decode cX7_isTheirs 5 = .ok (.getfield 80, 3) := by decide +kernel
theorem dX7_isTheirs_8 : decode cX7_isTheirs 8 = .ok (.if_icmp .ne 26, 3) := by decide +kernel
theorem dX7_isTheirs_11 : decode cX7_isTheirs 11 = .ok (.aload_n 1, 1) := by decide +kernel
theorem dX7_isTheirs_12 : decode cX7_isTheirs 12 = .ok (.getfield 102, 3) := by decide +kernel
theorem dX7_isTheirs_15 : decode cX7_isTheirs 15 = .ok (.aload_n 0, 1) := by decide +kernel
theorem dX7_isTheirs_16 : decode cX7_isTheirs 16 = .ok (.getfield 83, 3) := by decide +kernel
theorem dX7_isTheirs_19 : decode cX7_isTheirs 19 = .ok (.if_icmp .ne 15, 3) := by decide +kernel
theorem dX7_isTheirs_22 : decode cX7_isTheirs 22 = .ok (.aload_n 1, 1) := by decide +kernel
theorem dX7_isTheirs_23 : decode cX7_isTheirs 23 = .ok (.getfield 103, 3) := by decide +kernel
theorem dX7_isTheirs_26 : decode cX7_isTheirs 26 = .ok (.arraylength, 1) := by decide +kernel
theorem dX7_isTheirs_27 : decode cX7_isTheirs 27 = .ok (.aload_n 0, 1) := by decide +kernel
theorem dX7_isTheirs_28 : decode cX7_isTheirs 28 = .ok (.getfield 86, 3) := by decide +kernel
theorem dX7_isTheirs_31 : decode cX7_isTheirs 31 = .ok (.if_icmp .eq 5, 3) := by decide +kernel
theorem dX7_isTheirs_34 : decode cX7_isTheirs 34 = .ok (.iconst 0, 1) := by decide +kernel
theorem dX7_isTheirs_35 : decode cX7_isTheirs 35 = .ok (.ireturn, 1) := by decide +kernel
theorem dX7_isTheirs_36 : decode cX7_isTheirs 36 = .ok (.iconst 0, 1) := by decide +kernel
theorem dX7_isTheirs_37 : decode cX7_isTheirs 37 = .ok (.istore_n 2, 1) := by decide +kernel
theorem dX7_isTheirs_38 : decode cX7_isTheirs 38 = .ok (.iload_n 2, 1) := by decide +kernel
theorem dX7_isTheirs_39 : decode cX7_isTheirs 39 = .ok (.aload_n 0, 1) := by decide +kernel
theorem dX7_isTheirs_40 : decode cX7_isTheirs 40 = .ok (.getfield 86, 3) := by decide +kernel
theorem dX7_isTheirs_43 : decode cX7_isTheirs 43 = .ok (.if_icmp .ge 27, 3) := by decide +kernel
theorem dX7_isTheirs_46 : decode cX7_isTheirs 46 = .ok (.aload_n 1, 1) := by decide +kernel
theorem dX7_isTheirs_47 : decode cX7_isTheirs 47 = .ok (.getfield 103, 3) := by decide +kernel
theorem dX7_isTheirs_50 : decode cX7_isTheirs 50 = .ok (.iload_n 2, 1) := by decide +kernel
theorem dX7_isTheirs_51 : decode cX7_isTheirs 51 = .ok (.laload, 1) := by decide +kernel
theorem dX7_isTheirs_52 : decode cX7_isTheirs 52 = .ok (.aload_n 0, 1) := by decide +kernel
theorem dX7_isTheirs_53 : decode cX7_isTheirs 53 = .ok (.getfield 18, 3) := by decide +kernel
theorem dX7_isTheirs_56 : decode cX7_isTheirs 56 = .ok (.iload_n 2, 1) := by decide +kernel
theorem dX7_isTheirs_57 : decode cX7_isTheirs 57 = .ok (.laload, 1) := by decide +kernel
theorem dX7_isTheirs_58 : decode cX7_isTheirs 58 = .ok (.lcmp, 1) := by decide +kernel
theorem dX7_isTheirs_59 : decode cX7_isTheirs 59 = .ok (.ifCond .eq 5, 3) := by decide +kernel
theorem dX7_isTheirs_62 : decode cX7_isTheirs 62 = .ok (.iconst 0, 1) := by decide +kernel
theorem dX7_isTheirs_63 : decode cX7_isTheirs 63 = .ok (.ireturn, 1) := by decide +kernel
theorem dX7_isTheirs_64 : decode cX7_isTheirs 64 = .ok (.iinc 2 1, 3) := by decide +kernel
theorem dX7_isTheirs_67 : decode cX7_isTheirs 67 = .ok (.goto (-29), 3) := by decide +kernel
theorem dX7_isTheirs_70 : decode cX7_isTheirs 70 = .ok (.iconst 1, 1) := by decide +kernel
theorem dX7_isTheirs_71 : decode cX7_isTheirs 71 = .ok (.ireturn, 1) := by decide +kernel
theorem dX8_init_0 : decode cX8_init 0 = .ok (.aload_n 0, 1) := by decide +kernel
theorem dX8_init_1 : decode cX8_init 1 = .ok (.invokespecial 3, 3) := by decide +kernel
theorem dX8_init_4 : decode cX8_init 4 = .ok (.aload_n 0, 1) := by decide +kernel
theorem dX8_init_5 : decode cX8_init 5 = .ok (.new 9, 3) := by decide +kernel
theorem dX8_init_8 : decode cX8_init 8 = .ok (.dup, 1) := by decide +kernel
theorem dX8_init_9 : decode cX8_init 9 = .ok (.invokespecial 11, 3) := by decide +kernel
theorem dX8_init_12 : decode cX8_init 12 = .ok (.putfield 12, 3) := by decide +kernel
theorem dX8_init_15 : decode cX8_init 15 = .ok (.aload_n 0, 1) := by decide +kernel
theorem dX8_init_16 : decode cX8_init 16 = .ok (.iconst 0, 1) := by decide +kernel
theorem dX8_init_17 : decode cX8_init 17 = .ok (.putfield 18, 3) := by decide +kernel
theorem dX8_init_20 : decode cX8_init 20 = .ok (.aload_n 0, 1) := by decide +kernel
theorem dX8_init_21 : decode cX8_init 21 = .ok (.new 22, 3) := by decide +kernel
theorem dX8_init_24 : decode cX8_init 24 = .ok (.dup, 1) := by decide +kernel
theorem dX8_init_25 : decode cX8_init 25 = .ok (.invokespecial 24, 3) := by decide +kernel
theorem dX8_init_28 : decode cX8_init 28 = .ok (.putfield 25, 3) := by decide +kernel
theorem dX8_init_31 : decode cX8_init 31 = .ok (.aload_n 0, 1) := by decide +kernel
theorem dX8_init_32 : decode cX8_init 32 = .ok (.iconst 0, 1) := by decide +kernel
theorem dX8_init_33 : decode cX8_init 33 = .ok (.putfield 29, 3) := by decide +kernel
theorem dX8_init_36 : decode cX8_init 36 = .ok (.aload_n 0, 1) := by decide +kernel
theorem dX8_init_37 : decode cX8_init 37 = .ok (.aload_n 1, 1) := by decide +kernel
theorem dX8_init_38 : decode cX8_init 38 = .ok (.putfield 32, 3) := by decide +kernel
theorem dX8_init_41 : decode cX8_init 41 = .ok (.aload_n 0, 1) := by decide +kernel
theorem dX8_init_42 : decode cX8_init 42 = .ok (.iload_n 2, 1) := by decide +kernel
theorem dX8_init_43 : decode cX8_init 43 = .ok (.putfield 36, 3) := by decide +kernel
theorem dX8_init_46 : decode cX8_init 46 = .ok (.aload_n 0, 1) := by decide +kernel
theorem dX8_init_47 : decode cX8_init 47 = .ok (.lload_n 3, 1) := by decide +kernel
theorem dX8_init_48 : decode cX8_init 48 = .ok (.putfield 39, 3) := by decide +kernel
theorem dX8_init_51 : decode cX8_init 51 = .ok (.aload_n 0, 1) := by decide +kernel
theorem dX8_init_52 : decode cX8_init 52 = .ok (.lload 5, 2) := by decide +kernel
theorem dX8_init_54 : decode cX8_init 54 = .ok (.putfield 43, 3) := by decide +kernel
theorem dX8_init_57 : decode cX8_init 57 = .ok (.aload_n 0, 1) := by decide +kernel
theorem dX8_init_58 : decode cX8_init 58 = .ok (.sipush 12345, 3) := by decide +kernel
theorem dX8_init_61 : decode cX8_init 61 = .ok (.iload_n 2, 1) := by decide +kernel
theorem dX8_init_62 : decode cX8_init 62 = .ok (.iadd, 1) := by decide +kernel
theorem dX8_init_63 : decode cX8_init 63 = .ok (.i2l, 1) := by decide +kernel
theorem dX8_init_64 : decode cX8_init 64 = .ok (.putfield 46, 3) := by decide +kernel
theorem dX8_init_67 : decode cX8_init 67 = .ok (.return_, 1) := by decide +kernel
theorem dX8_start_0 : decode cX8_start 0 = .ok (.aload_n 0, 1) := by decide +kernel
theorem dX8_start_1 : decode cX8_start 1 = .ok (.aload_n 0, 1) := by decide +kernel
theorem dX8_start_2 : decode cX8_start 2 = .ok (.getfield 46, 3) := by decide +kernel
theorem dX8_start_5 : decode cX8_start 5 = .ok (.ldc2_w 49, 3) := by decide +kernel
theorem dX8_start_8 : decode cX8_start 8 = .ok (.lmul, 1) := by decide +kernel
theorem dX8_start_9 : decode cX8_start 9 = .ok (.ldc2_w 51, 3) := by decide +kernel
theorem dX8_start_12 : decode cX8_start 12 = .ok (.ladd, 1) := by decide +kernel
theorem dX8_start_13 : decode cX8_start 13 = .ok (.ldc2_w 53, 3) := by decide +kernel
theorem dX8_start_16 : decode cX8_start 16 = .ok (.lrem, 1) := by decide +kernel
theorem dX8_start_17 : decode cX8_start 17 = .ok (.putfield 46, 3) := by decide +kernel
theorem dX8_start_20 : decode cX8_start 20 = .ok (.aload_n 0, 1) := by decide +kernel
theorem dX8_start_21 : decode cX8_start 21 = .ok (.iload_n 1, 1) := by decide +kernel
theorem dX8_start_22 : decode cX8_start 22 = .ok (.putfield 55, 3) := by decide +kernel
theorem dX8_start_25 : decode cX8_start 25 = .ok (.aload_n 0, 1) := by decide +kernel
theorem dX8_start_26 : decode cX8_start 26 = .ok (.iload 4, 2) := by decide +kernel
theorem dX8_start_28 : decode cX8_start 28 = .ok (.putfield 58, 3) := by decide +kernel
theorem dX8_start_31 : decode cX8_start 31 = .ok (.aload_n 0, 1) := by decide +kernel
theorem dX8_start_32 : decode cX8_start 32 = .ok (.iconst 0, 1) := by decide +kernel
theorem dX8_start_33 : decode cX8_start 33 = .ok (.putfield 18, 3) := by decide +kernel
theorem dX8_start_36 : decode cX8_start 36 = .ok (.aload_n 0, 1) := by decide +kernel
theorem dX8_start_37 : decode cX8_start 37 = .ok (.new 22, 3) := by decide +kernel
theorem dX8_start_40 : decode cX8_start 40 = .ok (.dup, 1) := by decide +kernel
theorem dX8_start_41 : decode cX8_start 41 = .ok (.invokespecial 24, 3) := by decide +kernel
theorem dX8_start_44 : decode cX8_start 44 = .ok (.putfield 25, 3) := by decide +kernel
theorem dX8_start_47 : decode cX8_start 47 = .ok (.aload_n 0, 1) := by decide +kernel
theorem dX8_start_48 : decode cX8_start 48 = .ok (.getfield 25, 3) := by decide +kernel
theorem dX8_start_51 : decode cX8_start 51 = .ok (.aload_n 0, 1) := by decide +kernel
theorem dX8_start_52 : decode cX8_start 52 = .ok (.getfield 36, 3) := by decide +kernel
theorem dX8_start_55 : decode cX8_start 55 = .ok (.putfield 61, 3) := by decide +kernel
theorem dX8_start_58 : decode cX8_start 58 = .ok (.aload_n 0, 1) := by decide +kernel
theorem dX8_start_59 : decode cX8_start 59 = .ok (.getfield 25, 3) := by decide +kernel
theorem dX8_start_62 : decode cX8_start 62 = .ok (.lload_n 2, 1) := by decide +kernel
theorem dX8_start_63 : decode cX8_start 63 = .ok (.putfield 64, 3) := by decide +kernel
theorem dX8_start_66 : decode cX8_start 66 = .ok (.aload_n 0, 1) := by decide +kernel
theorem dX8_start_67 : decode cX8_start 67 = .ok (.getfield 25, 3) := by decide +kernel
theorem dX8_start_70 : decode cX8_start 70 = .ok (.aload_n 0, 1) := by decide +kernel
theorem dX8_start_71 : decode cX8_start 71 = .ok (.getfield 46, 3) := by decide +kernel
theorem dX8_start_74 : decode cX8_start 74 = .ok (.putfield 67, 3) := by decide +kernel
theorem dX8_start_77 : decode cX8_start 77 = .ok (.aload_n 0, 1) := by decide +kernel
theorem dX8_start_78 : decode cX8_start 78 = .ok (.getfield 32, 3) := by decide +kernel
theorem dX8_start_81 : decode cX8_start 81 = .ok (.getfield 70, 3) := by decide +kernel
theorem dX8_start_84 : decode cX8_start 84 = .ok (.aload_n 0, 1) := by decide +kernel
theorem dX8_start_85 : decode cX8_start 85 = .ok (.getfield 25, 3) := by decide +kernel
theorem dX8_start_88 : decode cX8_start 88 = .ok (.invokevirtual 75, 3) := by decide +kernel
theorem dX8_start_91 : decode cX8_start 91 = .ok (.pop, 1) := by decide +kernel
theorem dX8_start_92 : decode cX8_start 92 = .ok (.aload_n 0, 1) := by decide +kernel
theorem dX8_start_93 : decode cX8_start 93 = .ok (.getfield 32, 3) := by decide +kernel
theorem dX8_start_96 : decode cX8_start 96 = .ok (.getfield 79, 3) := by decide +kernel
theorem dX8_start_99 : decode cX8_start 99 = .ok (.getfield 83, 3) := by decide +kernel
theorem dX8_start_102 : decode cX8_start 102 = .ok (.iconst 4, 1) := by decide +kernel
theorem dX8_start_103 : decode cX8_start 103 = .ok (.aload_n 0, 1) := by decide +kernel
theorem dX8_start_104 : decode cX8_start 104 = .ok (.getfield 46, 3) := by decide +kernel
theorem dX8_start_107 : decode cX8_start 107 = .ok (.lastore, 1) := by decide +kernel
theorem dX8_start_108 : decode cX8_start 108 = .ok (.aload_n 0, 1) := by decide +kernel
theorem dX8_start_109 : decode cX8_start 109 = .ok (.iconst 1, 1) := by decide +kernel
theorem dX8_start_110 : decode cX8_start 110 = .ok (.iconst 2, 1) := by decide +kernel
theorem dX8_start_111 : decode cX8_start 111 = .ok (.invokevirtual 89, 3) := by decide +kernel
theorem dX8_start_114 : decode cX8_start 114 = .ok (.aload_n 0, 1) := by decide +kernel
theorem dX8_start_115 : decode cX8_start 115 = .ok (.getfield 46, 3) := by decide +kernel
theorem dX8_start_118 : decode cX8_start 118 = .ok (.l2i, 1) := by decide +kernel
theorem dX8_start_119 : decode cX8_start 119 = .ok (.ireturn, 1) := by decide +kernel
