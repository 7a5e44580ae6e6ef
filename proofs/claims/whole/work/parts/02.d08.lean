theorem dX12_again_0 : decode cX12_again 0 = .ok (.aload_n 0, 1) := by decide +kernel
theorem dX12_again_1 : decode cX12_again 1 = .ok (.iload_n 1, 1) := by decide +kernel
theorem dX12_again_2 : decode cX12_again 2 = .ok (.invokevirtual 191, 3) := by decide +kernel
theorem dX12_again_5 : decode cX12_again 5 = .ok (.ifCond .eq 12, 3) := by decide +kernel
theorem dX12_again_8 : decode cX12_again 8 = .ok (.aload_n 0, 1) := by decide +kernel
theorem dX12_again_9 : decode cX12_again 9 = .ok (.getfield 171, 3) := by decide +kernel
theorem dX12_again_12 : decode cX12_again 12 = .ok (.bipush 60, 2) := by decide +kernel
theorem dX12_again_14 : decode cX12_again 14 = .ok (.if_icmp .ne 5, 3) := by decide +kernel
theorem dX12_again_17 : decode cX12_again 17 = .ok (.iconst 0, 1) := by decide +kernel
theorem dX12_again_18 : decode cX12_again 18 = .ok (.ireturn, 1) := by decide +kernel
theorem dX12_again_19 : decode cX12_again 19 = .ok (.iconst 0, 1) := by decide +kernel
theorem dX12_again_20 : decode cX12_again 20 = .ok (.istore_n 2, 1) := by decide +kernel
theorem dX12_again_21 : decode cX12_again 21 = .ok (.iload_n 2, 1) := by decide +kernel
theorem dX12_again_22 : decode cX12_again 22 = .ok (.bipush 64, 2) := by decide +kernel
theorem dX12_again_24 : decode cX12_again 24 = .ok (.if_icmp .ge 34, 3) := by decide +kernel
theorem dX12_again_27 : decode cX12_again 27 = .ok (.aload_n 0, 1) := by decide +kernel
theorem dX12_again_28 : decode cX12_again 28 = .ok (.getfield 39, 3) := by decide +kernel
theorem dX12_again_31 : decode cX12_again 31 = .ok (.bipush 64, 2) := by decide +kernel
theorem dX12_again_33 : decode cX12_again 33 = .ok (.aload_n 0, 1) := by decide +kernel
theorem dX12_again_34 : decode cX12_again 34 = .ok (.getfield 171, 3) := by decide +kernel
theorem dX12_again_37 : decode cX12_again 37 = .ok (.imul, 1) := by decide +kernel
theorem dX12_again_38 : decode cX12_again 38 = .ok (.iload_n 2, 1) := by decide +kernel
theorem dX12_again_39 : decode cX12_again 39 = .ok (.iadd, 1) := by decide +kernel
theorem dX12_again_40 : decode cX12_again 40 = .ok (.aload_n 0, 1) := by decide +kernel
theorem dX12_again_41 : decode cX12_again 41 = .ok (.getfield 39, 3) := by decide +kernel
theorem dX12_again_44 : decode cX12_again 44 = .ok (.bipush 64, 2) := by decide +kernel
theorem dX12_again_46 : decode cX12_again 46 = .ok (.iload_n 1, 1) := by decide +kernel
theorem dX12_again_47 : decode cX12_again 47 = .ok (.imul, 1) := by decide +kernel
theorem dX12_again_48 : decode cX12_again 48 = .ok (.iload_n 2, 1) := by decide +kernel
theorem dX12_again_49 : decode cX12_again 49 = .ok (.iadd, 1) := by decide +kernel
theorem dX12_again_50 : decode cX12_again 50 = .ok (.iaload, 1) := by decide +kernel
theorem dX12_again_51 : decode cX12_again 51 = .ok (.iastore, 1) := by decide +kernel
theorem dX12_again_52 : decode cX12_again 52 = .ok (.iinc 2 1, 3) := by decide +kernel
theorem dX12_again_55 : decode cX12_again 55 = .ok (.goto (-34), 3) := by decide +kernel
theorem dX12_again_58 : decode cX12_again 58 = .ok (.aload_n 0, 1) := by decide +kernel
theorem dX12_again_59 : decode cX12_again 59 = .ok (.aload_n 0, 1) := by decide +kernel
theorem dX12_again_60 : decode cX12_again 60 = .ok (.getfield 24, 3) := by decide +kernel
theorem dX12_again_63 : decode cX12_again 63 = .ok (.iload_n 1, 1) := by decide +kernel
theorem dX12_again_64 : decode cX12_again 64 = .ok (.iaload, 1) := by decide +kernel
theorem dX12_again_65 : decode cX12_again 65 = .ok (.aload_n 0, 1) := by decide +kernel
theorem dX12_again_66 : decode cX12_again 66 = .ok (.getfield 27, 3) := by decide +kernel
theorem dX12_again_69 : decode cX12_again 69 = .ok (.iload_n 1, 1) := by decide +kernel
theorem dX12_again_70 : decode cX12_again 70 = .ok (.iaload, 1) := by decide +kernel
theorem dX12_again_71 : decode cX12_again 71 = .ok (.aload_n 0, 1) := by decide +kernel
theorem dX12_again_72 : decode cX12_again 72 = .ok (.getfield 30, 3) := by decide +kernel
theorem dX12_again_75 : decode cX12_again 75 = .ok (.iload_n 1, 1) := by decide +kernel
theorem dX12_again_76 : decode cX12_again 76 = .ok (.iaload, 1) := by decide +kernel
theorem dX12_again_77 : decode cX12_again 77 = .ok (.aload_n 0, 1) := by decide +kernel
theorem dX12_again_78 : decode cX12_again 78 = .ok (.getfield 33, 3) := by decide +kernel
theorem dX12_again_81 : decode cX12_again 81 = .ok (.iload_n 1, 1) := by decide +kernel
theorem dX12_again_82 : decode cX12_again 82 = .ok (.iaload, 1) := by decide +kernel
theorem dX12_again_83 : decode cX12_again 83 = .ok (.aload_n 0, 1) := by decide +kernel
theorem dX12_again_84 : decode cX12_again 84 = .ok (.getfield 36, 3) := by decide +kernel
theorem dX12_again_87 : decode cX12_again 87 = .ok (.iload_n 1, 1) := by decide +kernel
theorem dX12_again_88 : decode cX12_again 88 = .ok (.iaload, 1) := by decide +kernel
theorem dX12_again_89 : decode cX12_again 89 = .ok (.invokevirtual 182, 3) := by decide +kernel
theorem dX12_again_92 : decode cX12_again 92 = .ok (.iconst 1, 1) := by decide +kernel
theorem dX12_again_93 : decode cX12_again 93 = .ok (.ireturn, 1) := by decide +kernel
theorem dX12_put_0 : decode cX12_put 0 = .ok (.aload_n 0, 1) := by decide +kernel
theorem dX12_put_1 : decode cX12_put 1 = .ok (.getfield 337, 3) := by decide +kernel
theorem dX12_put_4 : decode cX12_put 4 = .ok (.bipush 64, 2) := by decide +kernel
theorem dX12_put_6 : decode cX12_put 6 = .ok (.if_icmp .eq 15, 3) := by decide +kernel
theorem dX12_put_9 : decode cX12_put 9 = .ok (.iload_n 1, 1) := by decide +kernel
theorem dX12_put_10 : decode cX12_put 10 = .ok (.i2l, 1) := by decide +kernel
theorem dX12_put_11 : decode cX12_put 11 = .ok (.lconst 0, 1) := by decide +kernel
theorem dX12_put_12 : decode cX12_put 12 = .ok (.ldc2_w 335, 3) := by decide +kernel
theorem dX12_put_15 : decode cX12_put 15 = .ok (.invokestatic 316, 3) := by decide +kernel
theorem dX12_put_18 : decode cX12_put 18 = .ok (.ifCond .ne 5, 3) := by decide +kernel
theorem dX12_put_21 : decode cX12_put 21 = .ok (.iconst (-1), 1) := by decide +kernel
theorem dX12_put_22 : decode cX12_put 22 = .ok (.ireturn, 1) := by decide +kernel
theorem dX12_put_23 : decode cX12_put 23 = .ok (.aload_n 0, 1) := by decide +kernel
theorem dX12_put_24 : decode cX12_put 24 = .ok (.getfield 51, 3) := by decide +kernel
theorem dX12_put_27 : decode cX12_put 27 = .ok (.aload_n 0, 1) := by decide +kernel
theorem dX12_put_28 : decode cX12_put 28 = .ok (.getfield 337, 3) := by decide +kernel
theorem dX12_put_31 : decode cX12_put 31 = .ok (.iload_n 1, 1) := by decide +kernel
theorem dX12_put_32 : decode cX12_put 32 = .ok (.iastore, 1) := by decide +kernel
theorem dX12_put_33 : decode cX12_put 33 = .ok (.aload_n 0, 1) := by decide +kernel
theorem dX12_put_34 : decode cX12_put 34 = .ok (.dup, 1) := by decide +kernel
theorem dX12_put_35 : decode cX12_put 35 = .ok (.getfield 337, 3) := by decide +kernel
theorem dX12_put_38 : decode cX12_put 38 = .ok (.iconst 1, 1) := by decide +kernel
theorem dX12_put_39 : decode cX12_put 39 = .ok (.iadd, 1) := by decide +kernel
theorem dX12_put_40 : decode cX12_put 40 = .ok (.putfield 337, 3) := by decide +kernel
theorem dX12_put_43 : decode cX12_put 43 = .ok (.aload_n 0, 1) := by decide +kernel
theorem dX12_put_44 : decode cX12_put 44 = .ok (.getfield 337, 3) := by decide +kernel
theorem dX12_put_47 : decode cX12_put 47 = .ok (.ireturn, 1) := by decide +kernel
theorem dX12_isThere_0 : decode cX12_isThere 0 = .ok (.iload_n 2, 1) := by decide +kernel
theorem dX12_isThere_1 : decode cX12_isThere 1 = .ok (.ifCond .lt 47, 3) := by decide +kernel
theorem dX12_isThere_4 : decode cX12_isThere 4 = .ok (.iload_n 1, 1) := by decide +kernel
theorem dX12_isThere_5 : decode cX12_isThere 5 = .ok (.ifCond .ne 14, 3) := by decide +kernel
theorem dX12_isThere_8 : decode cX12_isThere 8 = .ok (.iload_n 2, 1) := by decide +kernel
theorem dX12_isThere_9 : decode cX12_isThere 9 = .ok (.aload_n 0, 1) := by decide +kernel
theorem dX12_isThere_10 : decode cX12_isThere 10 = .ok (.getfield 286, 3) := by decide +kernel
theorem dX12_isThere_13 : decode cX12_isThere 13 = .ok (.if_icmp .ge 35, 3) := by decide +kernel
theorem dX12_isThere_16 : decode cX12_isThere 16 = .ok (.goto 28, 3) := by decide +kernel
theorem dX12_isThere_19 : decode cX12_isThere 19 = .ok (.iload_n 1, 1) := by decide +kernel
theorem dX12_isThere_20 : decode cX12_isThere 20 = .ok (.iconst 1, 1) := by decide +kernel
theorem dX12_isThere_21 : decode cX12_isThere 21 = .ok (.if_icmp .ne 14, 3) := by decide +kernel
theorem dX12_isThere_24 : decode cX12_isThere 24 = .ok (.iload_n 2, 1) := by decide +kernel
theorem dX12_isThere_25 : decode cX12_isThere 25 = .ok (.aload_n 0, 1) := by decide +kernel
theorem dX12_isThere_26 : decode cX12_isThere 26 = .ok (.getfield 299, 3) := by decide +kernel
theorem dX12_isThere_29 : decode cX12_isThere 29 = .ok (.if_icmp .ge 19, 3) := by decide +kernel
theorem dX12_isThere_32 : decode cX12_isThere 32 = .ok (.goto 12, 3) := by decide +kernel
theorem dX12_isThere_35 : decode cX12_isThere 35 = .ok (.iload_n 1, 1) := by decide +kernel
theorem dX12_isThere_36 : decode cX12_isThere 36 = .ok (.iconst 2, 1) := by decide +kernel
theorem dX12_isThere_37 : decode cX12_isThere 37 = .ok (.if_icmp .ne 11, 3) := by decide +kernel
theorem dX12_isThere_40 : decode cX12_isThere 40 = .ok (.iload_n 2, 1) := by decide +kernel
theorem dX12_isThere_41 : decode cX12_isThere 41 = .ok (.ifCond .ne 7, 3) := by decide +kernel
theorem dX12_isThere_44 : decode cX12_isThere 44 = .ok (.iconst 1, 1) := by decide +kernel
theorem dX12_isThere_45 : decode cX12_isThere 45 = .ok (.goto 4, 3) := by decide +kernel
theorem dX12_isThere_48 : decode cX12_isThere 48 = .ok (.iconst 0, 1) := by decide +kernel
theorem dX12_isThere_49 : decode cX12_isThere 49 = .ok (.ireturn, 1) := by decide +kernel
theorem dX12_inject_0 : decode cX12_inject 0 = .ok (.aload_n 0, 1) := by decide +kernel
theorem dX12_inject_1 : decode cX12_inject 1 = .ok (.iload_n 1, 1) := by decide +kernel
theorem dX12_inject_2 : decode cX12_inject 2 = .ok (.iload_n 2, 1) := by decide +kernel
theorem dX12_inject_3 : decode cX12_inject 3 = .ok (.invokevirtual 340, 3) := by decide +kernel
theorem dX12_inject_6 : decode cX12_inject 6 = .ok (.ifCond .eq 29, 3) := by decide +kernel
theorem dX12_inject_9 : decode cX12_inject 9 = .ok (.aload_n 0, 1) := by decide +kernel
theorem dX12_inject_10 : decode cX12_inject 10 = .ok (.iload_n 3, 1) := by decide +kernel
theorem dX12_inject_11 : decode cX12_inject 11 = .ok (.iload 4, 2) := by decide +kernel
theorem dX12_inject_13 : decode cX12_inject 13 = .ok (.invokevirtual 340, 3) := by decide +kernel
theorem dX12_inject_16 : decode cX12_inject 16 = .ok (.ifCond .eq 19, 3) := by decide +kernel
theorem dX12_inject_19 : decode cX12_inject 19 = .ok (.aload_n 0, 1) := by decide +kernel
theorem dX12_inject_20 : decode cX12_inject 20 = .ok (.getfield 337, 3) := by decide +kernel
theorem dX12_inject_23 : decode cX12_inject 23 = .ok (.ifCond .eq 12, 3) := by decide +kernel
theorem dX12_inject_26 : decode cX12_inject 26 = .ok (.aload_n 0, 1) := by decide +kernel
theorem dX12_inject_27 : decode cX12_inject 27 = .ok (.getfield 171, 3) := by decide +kernel
theorem dX12_inject_30 : decode cX12_inject 30 = .ok (.bipush 60, 2) := by decide +kernel
theorem dX12_inject_32 : decode cX12_inject 32 = .ok (.if_icmp .ne 5, 3) := by decide +kernel
theorem dX12_inject_35 : decode cX12_inject 35 = .ok (.iconst 0, 1) := by decide +kernel
theorem dX12_inject_36 : decode cX12_inject 36 = .ok (.ireturn, 1) := by decide +kernel
theorem dX12_inject_37 : decode cX12_inject 37 = .ok (.iconst 0, 1) := by decide +kernel
theorem dX12_inject_38 : decode cX12_inject 38 = .ok (.istore 5, 2) := by decide +kernel
theorem dX12_inject_40 : decode cX12_inject 40 = .ok (.iload 5, 2) := by decide +kernel
theorem dX12_inject_42 : decode cX12_inject 42 = .ok (.aload_n 0, 1) := by decide +kernel
theorem dX12_inject_43 : decode cX12_inject 43 = .ok (.getfield 337, 3) := by decide +kernel
theorem dX12_inject_46 : decode cX12_inject 46 = .ok (.if_icmp .ge 31, 3) := by decide +kernel
theorem dX12_inject_49 : decode cX12_inject 49 = .ok (.aload_n 0, 1) := by decide +kernel
theorem dX12_inject_50 : decode cX12_inject 50 = .ok (.getfield 39, 3) := by decide +kernel
theorem dX12_inject_53 : decode cX12_inject 53 = .ok (.bipush 64, 2) := by decide +kernel
theorem dX12_inject_55 : decode cX12_inject 55 = .ok (.aload_n 0, 1) := by decide +kernel
theorem dX12_inject_56 : decode cX12_inject 56 = .ok (.getfield 171, 3) := by decide +kernel
theorem dX12_inject_59 : decode cX12_inject 59 = .ok (.imul, 1) := by decide +kernel
theorem dX12_inject_60 : decode cX12_inject 60 = .ok (.iload 5, 2) := by decide +kernel
theorem dX12_inject_62 : decode cX12_inject 62 = .ok (.iadd, 1) := by decide +kernel
theorem dX12_inject_63 : decode cX12_inject 63 = .ok (.aload_n 0, 1) := by decide +kernel
theorem dX12_inject_64 : decode cX12_inject 64 = .ok (.getfield 51, 3) := by decide +kernel
theorem dX12_inject_67 : decode cX12_inject 67 = .ok (.iload 5, 2) := by decide +kernel
theorem dX12_inject_69 : decode cX12_inject 69 = .ok (.iaload, 1) := by decide +kernel
theorem dX12_inject_70 : decode cX12_inject 70 = .ok (.iastore, 1) := by decide +kernel
theorem dX12_inject_71 : decode cX12_inject 71 = .ok (.iinc 5 1, 3) := by decide +kernel
theorem dX12_inject_74 : decode cX12_inject 74 = .ok (.goto (-34), 3) := by decide +kernel
theorem dX12_inject_77 : decode cX12_inject 77 = .ok (.aload_n 0, 1) := by decide +kernel
theorem dX12_inject_78 : decode cX12_inject 78 = .ok (.iload_n 1, 1) := by decide +kernel
theorem dX12_inject_79 : decode cX12_inject 79 = .ok (.iload_n 2, 1) := by decide +kernel
theorem dX12_inject_80 : decode cX12_inject 80 = .ok (.iload_n 3, 1) := by decide +kernel
theorem dX12_inject_81 : decode cX12_inject 81 = .ok (.iload 4, 2) := by decide +kernel
theorem dX12_inject_83 : decode cX12_inject 83 = .ok (.aload_n 0, 1) := by decide +kernel
theorem dX12_inject_84 : decode cX12_inject 84 = .ok (.getfield 337, 3) := by decide +kernel
theorem dX12_inject_87 : decode cX12_inject 87 = .ok (.invokevirtual 182, 3) := by decide +kernel
theorem dX12_inject_90 : decode cX12_inject 90 = .ok (.aload_n 0, 1) := by decide +kernel
theorem dX12_inject_91 : decode cX12_inject 91 = .ok (.iconst 0, 1) := by decide +kernel
theorem dX12_inject_92 : decode cX12_inject 92 = .ok (.putfield 337, 3) := by decide +kernel
theorem dX12_inject_95 : decode cX12_inject 95 = .ok (.iconst 1, 1) := by decide +kernel
theorem dX12_inject_96 : decode cX12_inject 96 = .ok (.ireturn, 1) := by decide +kernel
theorem dX12_power_0 : decode cX12_power 0 = .ok (.iload_n 1, 1) := by decide +kernel
theorem dX12_power_1 : decode cX12_power 1 = .ok (.ifCond .lt 23, 3) := by decide +kernel
theorem dX12_power_4 : decode cX12_power 4 = .ok (.iload_n 1, 1) := by decide +kernel
theorem dX12_power_5 : decode cX12_power 5 = .ok (.aload_n 0, 1) := by decide +kernel
theorem dX12_power_6 : decode cX12_power 6 = .ok (.getfield 286, 3) := by decide +kernel
theorem dX12_power_9 : decode cX12_power 9 = .ok (.if_icmp .ge 15, 3) := by decide +kernel
theorem dX12_power_12 : decode cX12_power 12 = .ok (.iload_n 2, 1) := by decide +kernel
theorem dX12_power_13 : decode cX12_power 13 = .ok (.i2l, 1) := by decide +kernel
theorem dX12_power_14 : decode cX12_power 14 = .ok (.lconst 0, 1) := by decide +kernel
theorem dX12_power_15 : decode cX12_power 15 = .ok (.ldc2_w 322, 3) := by decide +kernel
theorem dX12_power_18 : decode cX12_power 18 = .ok (.invokestatic 316, 3) := by decide +kernel
theorem dX12_power_21 : decode cX12_power 21 = .ok (.ifCond .ne 5, 3) := by decide +kernel
theorem dX12_power_24 : decode cX12_power 24 = .ok (.iconst 0, 1) := by decide +kernel
theorem dX12_power_25 : decode cX12_power 25 = .ok (.ireturn, 1) := by decide +kernel
theorem dX12_power_26 : decode cX12_power 26 = .ok (.aload_n 0, 1) := by decide +kernel
theorem dX12_power_27 : decode cX12_power 27 = .ok (.getfield 93, 3) := by decide +kernel
theorem dX12_power_30 : decode cX12_power 30 = .ok (.iload_n 1, 1) := by decide +kernel
theorem dX12_power_31 : decode cX12_power 31 = .ok (.iload_n 2, 1) := by decide +kernel
theorem dX12_power_32 : decode cX12_power 32 = .ok (.iastore, 1) := by decide +kernel
theorem dX12_power_33 : decode cX12_power 33 = .ok (.iconst 1, 1) := by decide +kernel
theorem dX12_power_34 : decode cX12_power 34 = .ok (.ireturn, 1) := by decide +kernel
theorem dX12_tick_0 : decode cX12_tick 0 = .ok (.iload_n 1, 1) := by decide +kernel
theorem dX12_tick_1 : decode cX12_tick 1 = .ok (.i2l, 1) := by decide +kernel
theorem dX12_tick_2 : decode cX12_tick 2 = .ok (.lconst 1, 1) := by decide +kernel
theorem dX12_tick_3 : decode cX12_tick 3 = .ok (.ldc2_w 343, 3) := by decide +kernel
theorem dX12_tick_6 : decode cX12_tick 6 = .ok (.invokestatic 316, 3) := by decide +kernel
theorem dX12_tick_9 : decode cX12_tick 9 = .ok (.ifCond .ne 5, 3) := by decide +kernel
theorem dX12_tick_12 : decode cX12_tick 12 = .ok (.iconst (-1), 1) := by decide +kernel
theorem dX12_tick_13 : decode cX12_tick 13 = .ok (.ireturn, 1) := by decide +kernel
theorem dX12_tick_14 : decode cX12_tick 14 = .ok (.aload_n 0, 1) := by decide +kernel
theorem dX12_tick_15 : decode cX12_tick 15 = .ok (.dup, 1) := by decide +kernel
theorem dX12_tick_16 : decode cX12_tick 16 = .ok (.getfield 263, 3) := by decide +kernel
theorem dX12_tick_19 : decode cX12_tick 19 = .ok (.iload_n 1, 1) := by decide +kernel
theorem dX12_tick_20 : decode cX12_tick 20 = .ok (.i2l, 1) := by decide +kernel
theorem dX12_tick_21 : decode cX12_tick 21 = .ok (.ladd, 1) := by decide +kernel
theorem dX12_tick_22 : decode cX12_tick 22 = .ok (.putfield 263, 3) := by decide +kernel
theorem dX12_tick_25 : decode cX12_tick 25 = .ok (.iconst 0, 1) := by decide +kernel
theorem dX12_tick_26 : decode cX12_tick 26 = .ok (.istore_n 2, 1) := by decide +kernel
theorem dX12_tick_27 : decode cX12_tick 27 = .ok (.iconst 0, 1) := by decide +kernel
theorem dX12_tick_28 : decode cX12_tick 28 = .ok (.istore_n 3, 1) := by decide +kernel
theorem dX12_tick_29 : decode cX12_tick 29 = .ok (.iload_n 3, 1) := by decide +kernel
theorem dX12_tick_30 : decode cX12_tick 30 = .ok (.aload_n 0, 1) := by decide +kernel
theorem dX12_tick_31 : decode cX12_tick 31 = .ok (.getfield 299, 3) := by decide +kernel
theorem dX12_tick_34 : decode cX12_tick 34 = .ok (.if_icmp .ge 45, 3) := by decide +kernel
theorem dX12_tick_37 : decode cX12_tick 37 = .ok (.aload_n 0, 1) := by decide +kernel
theorem dX12_tick_38 : decode cX12_tick 38 = .ok (.getfield 108, 3) := by decide +kernel
theorem dX12_tick_41 : decode cX12_tick 41 = .ok (.iload_n 3, 1) := by decide +kernel
theorem dX12_tick_42 : decode cX12_tick 42 = .ok (.iaload, 1) := by decide +kernel
theorem dX12_tick_43 : decode cX12_tick 43 = .ok (.ifCond .eq 30, 3) := by decide +kernel
theorem dX12_tick_46 : decode cX12_tick 46 = .ok (.aload_n 0, 1) := by decide +kernel
theorem dX12_tick_47 : decode cX12_tick 47 = .ok (.getfield 263, 3) := by decide +kernel
theorem dX12_tick_50 : decode cX12_tick 50 = .ok (.aload_n 0, 1) := by decide +kernel
theorem dX12_tick_51 : decode cX12_tick 51 = .ok (.getfield 111, 3) := by decide +kernel
theorem dX12_tick_54 : decode cX12_tick 54 = .ok (.iload_n 3, 1) := by decide +kernel
theorem dX12_tick_55 : decode cX12_tick 55 = .ok (.laload, 1) := by decide +kernel
theorem dX12_tick_56 : decode cX12_tick 56 = .ok (.lsub, 1) := by decide +kernel
theorem dX12_tick_57 : decode cX12_tick 57 = .ok (.ldc2_w 345, 3) := by decide +kernel
theorem dX12_tick_60 : decode cX12_tick 60 = .ok (.lcmp, 1) := by decide +kernel
theorem dX12_tick_61 : decode cX12_tick 61 = .ok (.ifCond .le 12, 3) := by decide +kernel
theorem dX12_tick_64 : decode cX12_tick 64 = .ok (.aload_n 0, 1) := by decide +kernel
theorem dX12_tick_65 : decode cX12_tick 65 = .ok (.iload_n 3, 1) := by decide +kernel
theorem dX12_tick_66 : decode cX12_tick 66 = .ok (.iconst 4, 1) := by decide +kernel
theorem dX12_tick_67 : decode cX12_tick 67 = .ok (.invokevirtual 277, 3) := by decide +kernel
theorem dX12_tick_70 : decode cX12_tick 70 = .ok (.iinc 2 1, 3) := by decide +kernel
theorem dX12_tick_73 : decode cX12_tick 73 = .ok (.iinc 3 1, 3) := by decide +kernel
theorem dX12_tick_76 : decode cX12_tick 76 = .ok (.goto (-47), 3) := by decide +kernel
theorem dX12_tick_79 : decode cX12_tick 79 = .ok (.iload_n 2, 1) := by decide +kernel
theorem dX12_tick_80 : decode cX12_tick 80 = .ok (.ireturn, 1) := by decide +kernel
theorem dX12_clear_0 : decode cX12_clear 0 = .ok (.iload_n 1, 1) := by decide +kernel
theorem dX12_clear_1 : decode cX12_clear 1 = .ok (.ifCond .lt 11, 3) := by decide +kernel
theorem dX12_clear_4 : decode cX12_clear 4 = .ok (.iload_n 1, 1) := by decide +kernel
theorem dX12_clear_5 : decode cX12_clear 5 = .ok (.aload_n 0, 1) := by decide +kernel
theorem dX12_clear_6 : decode cX12_clear 6 = .ok (.getfield 299, 3) := by decide +kernel
theorem dX12_clear_9 : decode cX12_clear 9 = .ok (.if_icmp .lt 5, 3) := by decide +kernel
theorem dX12_clear_12 : decode cX12_clear 12 = .ok (.iconst (-1), 1) := by decide +kernel
theorem dX12_clear_13 : decode cX12_clear 13 = .ok (.ireturn, 1) := by decide +kernel
theorem dX12_clear_14 : decode cX12_clear 14 = .ok (.iconst 0, 1) := by decide +kernel
theorem dX12_clear_15 : decode cX12_clear 15 = .ok (.istore_n 2, 1) := by decide +kernel
theorem dX12_clear_16 : decode cX12_clear 16 = .ok (.iconst 0, 1) := by decide +kernel
theorem dX12_clear_17 : decode cX12_clear 17 = .ok (.istore_n 3, 1) := by decide +kernel
theorem dX12_clear_18 : decode cX12_clear 18 = .ok (.iload_n 3, 1) := by decide +kernel
theorem dX12_clear_19 : decode cX12_clear 19 = .ok (.aload_n 0, 1) := by decide +kernel
theorem dX12_clear_20 : decode cX12_clear 20 = .ok (.getfield 296, 3) := by decide +kernel
theorem dX12_clear_23 : decode cX12_clear 23 = .ok (.if_icmp .ge 112, 3) := by decide +kernel
theorem dX12_clear_26 : decode cX12_clear 26 = .ok (.aload_n 0, 1) := by decide +kernel
theorem dX12_clear_27 : decode cX12_clear 27 = .ok (.getfield 141, 3) := by decide +kernel
theorem dX12_clear_30 : decode cX12_clear 30 = .ok (.iload_n 3, 1) := by decide +kernel
theorem dX12_clear_31 : decode cX12_clear 31 = .ok (.iaload, 1) := by decide +kernel
theorem dX12_clear_32 : decode cX12_clear 32 = .ok (.iload_n 1, 1) := by decide +kernel
theorem dX12_clear_33 : decode cX12_clear 33 = .ok (.if_icmp .ne 96, 3) := by decide +kernel
theorem dX12_clear_36 : decode cX12_clear 36 = .ok (.aload_n 0, 1) := by decide +kernel
theorem dX12_clear_37 : decode cX12_clear 37 = .ok (.getfield 144, 3) := by decide +kernel
theorem dX12_clear_40 : decode cX12_clear 40 = .ok (.iload_n 3, 1) := by decide +kernel
theorem dX12_clear_41 : decode cX12_clear 41 = .ok (.baload, 1) := by decide +kernel
theorem dX12_clear_42 : decode cX12_clear 42 = .ok (.ifCond .ne 87, 3) := by decide +kernel
theorem dX12_clear_45 : decode cX12_clear 45 = .ok (.aload_n 0, 1) := by decide +kernel
theorem dX12_clear_46 : decode cX12_clear 46 = .ok (.getfield 144, 3) := by decide +kernel
theorem dX12_clear_49 : decode cX12_clear 49 = .ok (.iload_n 3, 1) := by decide +kernel
theorem dX12_clear_50 : decode cX12_clear 50 = .ok (.iconst 1, 1) := by decide +kernel
theorem dX12_clear_51 : decode cX12_clear 51 = .ok (.bastore, 1) := by decide +kernel
theorem dX12_clear_52 : decode cX12_clear 52 = .ok (.iconst 0, 1) := by decide +kernel
theorem dX12_clear_53 : decode cX12_clear 53 = .ok (.istore 4, 2) := by decide +kernel
theorem dX12_clear_55 : decode cX12_clear 55 = .ok (.iload 4, 2) := by decide +kernel
theorem dX12_clear_57 : decode cX12_clear 57 = .ok (.bipush 7, 2) := by decide +kernel
theorem dX12_clear_59 : decode cX12_clear 59 = .ok (.if_icmp .ge 42, 3) := by decide +kernel
theorem dX12_clear_62 : decode cX12_clear 62 = .ok (.aload_n 0, 1) := by decide +kernel
theorem dX12_clear_63 : decode cX12_clear 63 = .ok (.getfield 48, 3) := by decide +kernel
theorem dX12_clear_66 : decode cX12_clear 66 = .ok (.iload 4, 2) := by decide +kernel
theorem dX12_clear_68 : decode cX12_clear 68 = .ok (.bipush 6, 2) := by decide +kernel
theorem dX12_clear_70 : decode cX12_clear 70 = .ok (.if_icmp .ge 10, 3) := by decide +kernel
theorem dX12_clear_73 : decode cX12_clear 73 = .ok (.iload 4, 2) := by decide +kernel
theorem dX12_clear_75 : decode cX12_clear 75 = .ok (.iconst 1, 1) := by decide +kernel
theorem dX12_clear_76 : decode cX12_clear 76 = .ok (.iadd, 1) := by decide +kernel
theorem dX12_clear_77 : decode cX12_clear 77 = .ok (.goto 5, 3) := by decide +kernel
theorem dX12_clear_80 : decode cX12_clear 80 = .ok (.bipush 8, 2) := by decide +kernel
theorem dX12_clear_82 : decode cX12_clear 82 = .ok (.aload_n 0, 1) := by decide +kernel
theorem dX12_clear_83 : decode cX12_clear 83 = .ok (.getfield 148, 3) := by decide +kernel
theorem dX12_clear_86 : decode cX12_clear 86 = .ok (.bipush 7, 2) := by decide +kernel
theorem dX12_clear_88 : decode cX12_clear 88 = .ok (.iload_n 3, 1) := by decide +kernel
theorem dX12_clear_89 : decode cX12_clear 89 = .ok (.imul, 1) := by decide +kernel
theorem dX12_clear_90 : decode cX12_clear 90 = .ok (.iload 4, 2) := by decide +kernel
theorem dX12_clear_92 : decode cX12_clear 92 = .ok (.iadd, 1) := by decide +kernel
theorem dX12_clear_93 : decode cX12_clear 93 = .ok (.laload, 1) := by decide +kernel
theorem dX12_clear_94 : decode cX12_clear 94 = .ok (.lastore, 1) := by decide +kernel
theorem dX12_clear_95 : decode cX12_clear 95 = .ok (.iinc 4 1, 3) := by decide +kernel
theorem dX12_clear_98 : decode cX12_clear 98 = .ok (.goto (-43), 3) := by decide +kernel
theorem dX12_clear_101 : decode cX12_clear 101 = .ok (.aload_n 0, 1) := by decide +kernel
theorem dX12_clear_102 : decode cX12_clear 102 = .ok (.iload_n 1, 1) := by decide +kernel
theorem dX12_clear_103 : decode cX12_clear 103 = .ok (.bipush 11, 2) := by decide +kernel
theorem dX12_clear_105 : decode cX12_clear 105 = .ok (.invokevirtual 293, 3) := by decide +kernel
theorem dX12_clear_108 : decode cX12_clear 108 = .ok (.iload_n 2, 1) := by decide +kernel
theorem dX12_clear_109 : decode cX12_clear 109 = .ok (.aload_n 0, 1) := by decide +kernel
theorem dX12_clear_110 : decode cX12_clear 110 = .ok (.bipush 11, 2) := by decide +kernel
theorem dX12_clear_112 : decode cX12_clear 112 = .ok (.iconst 1, 1) := by decide +kernel
theorem dX12_clear_113 : decode cX12_clear 113 = .ok (.iload_n 1, 1) := by decide +kernel
theorem dX12_clear_114 : decode cX12_clear 114 = .ok (.iconst 2, 1) := by decide +kernel
theorem dX12_clear_115 : decode cX12_clear 115 = .ok (.iconst 0, 1) := by decide +kernel
theorem dX12_clear_116 : decode cX12_clear 116 = .ok (.invokevirtual 217, 3) := by decide +kernel
theorem dX12_clear_119 : decode cX12_clear 119 = .ok (.ifCond .eq 7, 3) := by decide +kernel
theorem dX12_clear_122 : decode cX12_clear 122 = .ok (.iconst 1, 1) := by decide +kernel
theorem dX12_clear_123 : decode cX12_clear 123 = .ok (.goto 4, 3) := by decide +kernel
theorem dX12_clear_126 : decode cX12_clear 126 = .ok (.iconst 0, 1) := by decide +kernel
theorem dX12_clear_127 : decode cX12_clear 127 = .ok (.iadd, 1) := by decide +kernel
theorem dX12_clear_128 : decode cX12_clear 128 = .ok (.istore_n 2, 1) := by decide +kernel
theorem dX12_clear_129 : decode cX12_clear 129 = .ok (.iinc 3 1, 3) := by decide +kernel
theorem dX12_clear_132 : decode cX12_clear 132 = .ok (.goto (-114), 3) := by decide +kernel
theorem dX12_clear_135 : decode cX12_clear 135 = .ok (.iload_n 2, 1) := by decide +kernel
theorem dX12_clear_136 : decode cX12_clear 136 = .ok (.ireturn, 1) := by decide +kernel
theorem dX12_count_0 : decode cX12_count 0 = .ok (.iload_n 1, 1) := by decide +kernel
theorem dX12_count_1 : decode cX12_count 1 = .ok (.ifCond .ne 10, 3) := by decide +kernel
theorem dX12_count_4 : decode cX12_count 4 = .ok (.aload_n 0, 1) := by decide +kernel
theorem dX12_count_5 : decode cX12_count 5 = .ok (.getfield 286, 3) := by decide +kernel
theorem dX12_count_8 : decode cX12_count 8 = .ok (.goto 64, 3) := by decide +kernel
theorem dX12_count_11 : decode cX12_count 11 = .ok (.iload_n 1, 1) := by decide +kernel
theorem dX12_count_12 : decode cX12_count 12 = .ok (.iconst 1, 1) := by decide +kernel
theorem dX12_count_13 : decode cX12_count 13 = .ok (.if_icmp .ne 10, 3) := by decide +kernel
theorem dX12_count_16 : decode cX12_count 16 = .ok (.aload_n 0, 1) := by decide +kernel
theorem dX12_count_17 : decode cX12_count 17 = .ok (.getfield 299, 3) := by decide +kernel
theorem dX12_count_20 : decode cX12_count 20 = .ok (.goto 52, 3) := by decide +kernel
theorem dX12_count_23 : decode cX12_count 23 = .ok (.iload_n 1, 1) := by decide +kernel
theorem dX12_count_24 : decode cX12_count 24 = .ok (.iconst 2, 1) := by decide +kernel
theorem dX12_count_25 : decode cX12_count 25 = .ok (.if_icmp .ne 10, 3) := by decide +kernel
theorem dX12_count_28 : decode cX12_count 28 = .ok (.aload_n 0, 1) := by decide +kernel
theorem dX12_count_29 : decode cX12_count 29 = .ok (.getfield 171, 3) := by decide +kernel
theorem dX12_count_32 : decode cX12_count 32 = .ok (.goto 40, 3) := by decide +kernel
theorem dX12_count_35 : decode cX12_count 35 = .ok (.iload_n 1, 1) := by decide +kernel
theorem dX12_count_36 : decode cX12_count 36 = .ok (.iconst 3, 1) := by decide +kernel
theorem dX12_count_37 : decode cX12_count 37 = .ok (.if_icmp .ne 10, 3) := by decide +kernel
theorem dX12_count_40 : decode cX12_count 40 = .ok (.aload_n 0, 1) := by decide +kernel
theorem dX12_count_41 : decode cX12_count 41 = .ok (.getfield 302, 3) := by decide +kernel
theorem dX12_count_44 : decode cX12_count 44 = .ok (.goto 28, 3) := by decide +kernel
theorem dX12_count_47 : decode cX12_count 47 = .ok (.iload_n 1, 1) := by decide +kernel
theorem dX12_count_48 : decode cX12_count 48 = .ok (.iconst 4, 1) := by decide +kernel
theorem dX12_count_49 : decode cX12_count 49 = .ok (.if_icmp .ne 10, 3) := by decide +kernel
theorem dX12_count_52 : decode cX12_count 52 = .ok (.aload_n 0, 1) := by decide +kernel
theorem dX12_count_53 : decode cX12_count 53 = .ok (.getfield 164, 3) := by decide +kernel
theorem dX12_count_56 : decode cX12_count 56 = .ok (.goto 16, 3) := by decide +kernel
theorem dX12_count_59 : decode cX12_count 59 = .ok (.iload_n 1, 1) := by decide +kernel
theorem dX12_count_60 : decode cX12_count 60 = .ok (.iconst 5, 1) := by decide +kernel
theorem dX12_count_61 : decode cX12_count 61 = .ok (.if_icmp .ne 10, 3) := by decide +kernel
theorem dX12_count_64 : decode cX12_count 64 = .ok (.aload_n 0, 1) := by decide +kernel
theorem dX12_count_65 : decode cX12_count 65 = .ok (.getfield 332, 3) := by decide +kernel
theorem dX12_count_68 : decode cX12_count 68 = .ok (.goto 4, 3) := by decide +kernel
theorem dX12_count_71 : decode cX12_count 71 = .ok (.iconst (-1), 1) := by decide +kernel
theorem dX12_count_72 : decode cX12_count 72 = .ok (.ireturn, 1) := by decide +kernel
theorem dX12_outcome_0 : decode cX12_outcome 0 = .ok (.iload_n 1, 1) := by decide +kernel
theorem dX12_outcome_1 : decode cX12_outcome 1 = .ok (.ifCond .lt 11, 3) := by decide +kernel
theorem dX12_outcome_4 : decode cX12_outcome 4 = .ok (.iload_n 1, 1) := by decide +kernel
theorem dX12_outcome_5 : decode cX12_outcome 5 = .ok (.aload_n 0, 1) := by decide +kernel
theorem dX12_outcome_6 : decode cX12_outcome 6 = .ok (.getfield 299, 3) := by decide +kernel
theorem dX12_outcome_9 : decode cX12_outcome 9 = .ok (.if_icmp .lt 7, 3) := by decide +kernel
theorem dX12_outcome_12 : decode cX12_outcome 12 = .ok (.iconst (-1), 1) := by decide +kernel
theorem dX12_outcome_13 : decode cX12_outcome 13 = .ok (.goto 9, 3) := by decide +kernel
theorem dX12_outcome_16 : decode cX12_outcome 16 = .ok (.aload_n 0, 1) := by decide +kernel
theorem dX12_outcome_17 : decode cX12_outcome 17 = .ok (.getfield 105, 3) := by decide +kernel
theorem dX12_outcome_20 : decode cX12_outcome 20 = .ok (.iload_n 1, 1) := by decide +kernel
theorem dX12_outcome_21 : decode cX12_outcome 21 = .ok (.iaload, 1) := by decide +kernel
theorem dX12_outcome_22 : decode cX12_outcome 22 = .ok (.ireturn, 1) := by decide +kernel
theorem dX12_told_0 : decode cX12_told 0 = .ok (.iload_n 1, 1) := by decide +kernel
theorem dX12_told_1 : decode cX12_told 1 = .ok (.ifCond .lt 11, 3) := by decide +kernel
theorem dX12_told_4 : decode cX12_told 4 = .ok (.iload_n 1, 1) := by decide +kernel
theorem dX12_told_5 : decode cX12_told 5 = .ok (.aload_n 0, 1) := by decide +kernel
theorem dX12_told_6 : decode cX12_told 6 = .ok (.getfield 286, 3) := by decide +kernel
theorem dX12_told_9 : decode cX12_told 9 = .ok (.if_icmp .lt 5, 3) := by decide +kernel
theorem dX12_told_12 : decode cX12_told 12 = .ok (.iconst (-1), 1) := by decide +kernel
theorem dX12_told_13 : decode cX12_told 13 = .ok (.ireturn, 1) := by decide +kernel
theorem dX12_told_14 : decode cX12_told 14 = .ok (.iload_n 2, 1) := by decide +kernel
theorem dX12_told_15 : decode cX12_told 15 = .ok (.ifCond .ne 12, 3) := by decide +kernel
theorem dX12_told_18 : decode cX12_told 18 = .ok (.aload_n 0, 1) := by decide +kernel
theorem dX12_told_19 : decode cX12_told 19 = .ok (.getfield 69, 3) := by decide +kernel
theorem dX12_told_22 : decode cX12_told 22 = .ok (.iload_n 1, 1) := by decide +kernel
theorem dX12_told_23 : decode cX12_told 23 = .ok (.iaload, 1) := by decide +kernel
theorem dX12_told_24 : decode cX12_told 24 = .ok (.goto 46, 3) := by decide +kernel
theorem dX12_told_27 : decode cX12_told 27 = .ok (.iload_n 2, 1) := by decide +kernel
theorem dX12_told_28 : decode cX12_told 28 = .ok (.iconst 1, 1) := by decide +kernel
theorem dX12_told_29 : decode cX12_told 29 = .ok (.if_icmp .ne 12, 3) := by decide +kernel
theorem dX12_told_32 : decode cX12_told 32 = .ok (.aload_n 0, 1) := by decide +kernel
theorem dX12_told_33 : decode cX12_told 33 = .ok (.getfield 72, 3) := by decide +kernel
theorem dX12_told_36 : decode cX12_told 36 = .ok (.iload_n 1, 1) := by decide +kernel
theorem dX12_told_37 : decode cX12_told 37 = .ok (.iaload, 1) := by decide +kernel
theorem dX12_told_38 : decode cX12_told 38 = .ok (.goto 32, 3) := by decide +kernel
theorem dX12_told_41 : decode cX12_told 41 = .ok (.iload_n 2, 1) := by decide +kernel
theorem dX12_told_42 : decode cX12_told 42 = .ok (.iconst 2, 1) := by decide +kernel
theorem dX12_told_43 : decode cX12_told 43 = .ok (.if_icmp .ne 12, 3) := by decide +kernel
theorem dX12_told_46 : decode cX12_told 46 = .ok (.aload_n 0, 1) := by decide +kernel
theorem dX12_told_47 : decode cX12_told 47 = .ok (.getfield 75, 3) := by decide +kernel
theorem dX12_told_50 : decode cX12_told 50 = .ok (.iload_n 1, 1) := by decide +kernel
theorem dX12_told_51 : decode cX12_told 51 = .ok (.iaload, 1) := by decide +kernel
theorem dX12_told_52 : decode cX12_told 52 = .ok (.goto 18, 3) := by decide +kernel
theorem dX12_told_55 : decode cX12_told 55 = .ok (.iload_n 2, 1) := by decide +kernel
theorem dX12_told_56 : decode cX12_told 56 = .ok (.iconst 3, 1) := by decide +kernel
theorem dX12_told_57 : decode cX12_told 57 = .ok (.if_icmp .ne 12, 3) := by decide +kernel
theorem dX12_told_60 : decode cX12_told 60 = .ok (.aload_n 0, 1) := by decide +kernel
theorem dX12_told_61 : decode cX12_told 61 = .ok (.getfield 78, 3) := by decide +kernel
theorem dX12_told_64 : decode cX12_told 64 = .ok (.iload_n 1, 1) := by decide +kernel
theorem dX12_told_65 : decode cX12_told 65 = .ok (.iaload, 1) := by decide +kernel
theorem dX12_told_66 : decode cX12_told 66 = .ok (.goto 4, 3) := by decide +kernel
theorem dX12_told_69 : decode cX12_told 69 = .ok (.iconst (-1), 1) := by decide +kernel
theorem dX12_told_70 : decode cX12_told 70 = .ok (.ireturn, 1) := by decide +kernel
theorem dX12_account_0 : decode cX12_account 0 = .ok (.iload_n 1, 1) := by decide +kernel
theorem dX12_account_1 : decode cX12_account 1 = .ok (.ifCond .lt 11, 3) := by decide +kernel
theorem dX12_account_4 : decode cX12_account 4 = .ok (.iload_n 1, 1) := by decide +kernel
theorem dX12_account_5 : decode cX12_account 5 = .ok (.aload_n 0, 1) := by decide +kernel
theorem dX12_account_6 : decode cX12_account 6 = .ok (.getfield 286, 3) := by decide +kernel
theorem dX12_account_9 : decode cX12_account 9 = .ok (.if_icmp .lt 7, 3) := by decide +kernel
theorem dX12_account_12 : decode cX12_account 12 = .ok (.lconst 0, 1) := by decide +kernel
theorem dX12_account_13 : decode cX12_account 13 = .ok (.goto 9, 3) := by decide +kernel
theorem dX12_account_16 : decode cX12_account 16 = .ok (.aload_n 0, 1) := by decide +kernel
theorem dX12_account_17 : decode cX12_account 17 = .ok (.getfield 63, 3) := by decide +kernel
theorem dX12_account_20 : decode cX12_account 20 = .ok (.iload_n 1, 1) := by decide +kernel
theorem dX12_account_21 : decode cX12_account 21 = .ok (.laload, 1) := by decide +kernel
theorem dX12_account_22 : decode cX12_account 22 = .ok (.lreturn, 1) := by decide +kernel
theorem dX12_debit__0 : decode cX12_debit_ 0 = .ok (.iload_n 1, 1) := by decide +kernel
theorem dX12_debit__1 : decode cX12_debit_ 1 = .ok (.ifCond .lt 21, 3) := by decide +kernel
theorem dX12_debit__4 : decode cX12_debit_ 4 = .ok (.iload_n 1, 1) := by decide +kernel
theorem dX12_debit__5 : decode cX12_debit_ 5 = .ok (.aload_n 0, 1) := by decide +kernel
theorem dX12_debit__6 : decode cX12_debit_ 6 = .ok (.getfield 302, 3) := by decide +kernel
theorem dX12_debit__9 : decode cX12_debit_ 9 = .ok (.if_icmp .ge 13, 3) := by decide +kernel
theorem dX12_debit__12 : decode cX12_debit_ 12 = .ok (.iload_n 2, 1) := by decide +kernel
theorem dX12_debit__13 : decode cX12_debit_ 13 = .ok (.ifCond .lt 9, 3) := by decide +kernel
theorem dX12_debit__16 : decode cX12_debit_ 16 = .ok (.iload_n 2, 1) := by decide +kernel
theorem dX12_debit__17 : decode cX12_debit_ 17 = .ok (.bipush 6, 2) := by decide +kernel
theorem dX12_debit__19 : decode cX12_debit_ 19 = .ok (.if_icmp .le 9, 3) := by decide +kernel
theorem dX12_debit__22 : decode cX12_debit_ 22 = .ok (.ldc2_w 347, 3) := by decide +kernel
theorem dX12_debit__25 : decode cX12_debit_ 25 = .ok (.goto 14, 3) := by decide +kernel
theorem dX12_debit__28 : decode cX12_debit_ 28 = .ok (.aload_n 0, 1) := by decide +kernel
theorem dX12_debit__29 : decode cX12_debit_ 29 = .ok (.getfield 157, 3) := by decide +kernel
theorem dX12_debit__32 : decode cX12_debit_ 32 = .ok (.bipush 7, 2) := by decide +kernel
theorem dX12_debit__34 : decode cX12_debit_ 34 = .ok (.iload_n 1, 1) := by decide +kernel
theorem dX12_debit__35 : decode cX12_debit_ 35 = .ok (.imul, 1) := by decide +kernel
theorem dX12_debit__36 : decode cX12_debit_ 36 = .ok (.iload_n 2, 1) := by decide +kernel
theorem dX12_debit__37 : decode cX12_debit_ 37 = .ok (.iadd, 1) := by decide +kernel
theorem dX12_debit__38 : decode cX12_debit_ 38 = .ok (.laload, 1) := by decide +kernel
theorem dX12_debit__39 : decode cX12_debit_ 39 = .ok (.lreturn, 1) := by decide +kernel
theorem dX12_message_0 : decode cX12_message 0 = .ok (.aload_n 0, 1) := by decide +kernel
theorem dX12_message_1 : decode cX12_message 1 = .ok (.iload_n 1, 1) := by decide +kernel
theorem dX12_message_2 : decode cX12_message 2 = .ok (.invokevirtual 191, 3) := by decide +kernel
theorem dX12_message_5 : decode cX12_message 5 = .ok (.ifCond .ne 5, 3) := by decide +kernel
theorem dX12_message_8 : decode cX12_message 8 = .ok (.iconst (-1), 1) := by decide +kernel
theorem dX12_message_9 : decode cX12_message 9 = .ok (.ireturn, 1) := by decide +kernel
theorem dX12_message_10 : decode cX12_message 10 = .ok (.iload_n 2, 1) := by decide +kernel
theorem dX12_message_11 : decode cX12_message 11 = .ok (.ifCond .ne 12, 3) := by decide +kernel
theorem dX12_message_14 : decode cX12_message 14 = .ok (.aload_n 0, 1) := by decide +kernel
theorem dX12_message_15 : decode cX12_message 15 = .ok (.getfield 24, 3) := by decide +kernel
theorem dX12_message_18 : decode cX12_message 18 = .ok (.iload_n 1, 1) := by decide +kernel
theorem dX12_message_19 : decode cX12_message 19 = .ok (.iaload, 1) := by decide +kernel
theorem dX12_message_20 : decode cX12_message 20 = .ok (.goto 60, 3) := by decide +kernel
theorem dX12_message_23 : decode cX12_message 23 = .ok (.iload_n 2, 1) := by decide +kernel
theorem dX12_message_24 : decode cX12_message 24 = .ok (.iconst 1, 1) := by decide +kernel
theorem dX12_message_25 : decode cX12_message 25 = .ok (.if_icmp .ne 12, 3) := by decide +kernel
theorem dX12_message_28 : decode cX12_message 28 = .ok (.aload_n 0, 1) := by decide +kernel
theorem dX12_message_29 : decode cX12_message 29 = .ok (.getfield 27, 3) := by decide +kernel
theorem dX12_message_32 : decode cX12_message 32 = .ok (.iload_n 1, 1) := by decide +kernel
theorem dX12_message_33 : decode cX12_message 33 = .ok (.iaload, 1) := by decide +kernel
theorem dX12_message_34 : decode cX12_message 34 = .ok (.goto 46, 3) := by decide +kernel
theorem dX12_message_37 : decode cX12_message 37 = .ok (.iload_n 2, 1) := by decide +kernel
theorem dX12_message_38 : decode cX12_message 38 = .ok (.iconst 2, 1) := by decide +kernel
theorem dX12_message_39 : decode cX12_message 39 = .ok (.if_icmp .ne 12, 3) := by decide +kernel
theorem dX12_message_42 : decode cX12_message 42 = .ok (.aload_n 0, 1) := by decide +kernel
theorem dX12_message_43 : decode cX12_message 43 = .ok (.getfield 30, 3) := by decide +kernel
theorem dX12_message_46 : decode cX12_message 46 = .ok (.iload_n 1, 1) := by decide +kernel
theorem dX12_message_47 : decode cX12_message 47 = .ok (.iaload, 1) := by decide +kernel
theorem dX12_message_48 : decode cX12_message 48 = .ok (.goto 32, 3) := by decide +kernel
theorem dX12_message_51 : decode cX12_message 51 = .ok (.iload_n 2, 1) := by decide +kernel
theorem dX12_message_52 : decode cX12_message 52 = .ok (.iconst 3, 1) := by decide +kernel
theorem dX12_message_53 : decode cX12_message 53 = .ok (.if_icmp .ne 12, 3) := by decide +kernel
theorem dX12_message_56 : decode cX12_message 56 = .ok (.aload_n 0, 1) := by decide +kernel
theorem dX12_message_57 : decode cX12_message 57 = .ok (.getfield 33, 3) := by decide +kernel
theorem dX12_message_60 : decode cX12_message 60 = .ok (.iload_n 1, 1) := by decide +kernel
theorem dX12_message_61 : decode cX12_message 61 = .ok (.iaload, 1) := by decide +kernel
theorem dX12_message_62 : decode cX12_message 62 = .ok (.goto 18, 3) := by decide +kernel
theorem dX12_message_65 : decode cX12_message 65 = .ok (.iload_n 2, 1) := by decide +kernel
theorem dX12_message_66 : decode cX12_message 66 = .ok (.iconst 4, 1) := by decide +kernel
theorem dX12_message_67 : decode cX12_message 67 = .ok (.if_icmp .ne 12, 3) := by decide +kernel
theorem dX12_message_70 : decode cX12_message 70 = .ok (.aload_n 0, 1) := by decide +kernel
theorem dX12_message_71 : decode cX12_message 71 = .ok (.getfield 36, 3) := by decide +kernel
theorem dX12_message_74 : decode cX12_message 74 = .ok (.iload_n 1, 1) := by decide +kernel
theorem dX12_message_75 : decode cX12_message 75 = .ok (.iaload, 1) := by decide +kernel
theorem dX12_message_76 : decode cX12_message 76 = .ok (.goto 4, 3) := by decide +kernel
theorem dX12_message_79 : decode cX12_message 79 = .ok (.iconst (-1), 1) := by decide +kernel
theorem dX12_message_80 : decode cX12_message 80 = .ok (.ireturn, 1) := by decide +kernel
theorem dX12_at_0 : decode cX12_at 0 = .ok (.aload_n 0, 1) := by decide +kernel
theorem dX12_at_1 : decode cX12_at 1 = .ok (.iload_n 1, 1) := by decide +kernel
theorem dX12_at_2 : decode cX12_at 2 = .ok (.invokevirtual 191, 3) := by decide +kernel
theorem dX12_at_5 : decode cX12_at 5 = .ok (.ifCond .eq 17, 3) := by decide +kernel
theorem dX12_at_8 : decode cX12_at 8 = .ok (.iload_n 2, 1) := by decide +kernel
theorem dX12_at_9 : decode cX12_at 9 = .ok (.ifCond .lt 13, 3) := by decide +kernel
theorem dX12_at_12 : decode cX12_at 12 = .ok (.iload_n 2, 1) := by decide +kernel
theorem dX12_at_13 : decode cX12_at 13 = .ok (.aload_n 0, 1) := by decide +kernel
theorem dX12_at_14 : decode cX12_at 14 = .ok (.getfield 36, 3) := by decide +kernel
theorem dX12_at_17 : decode cX12_at 17 = .ok (.iload_n 1, 1) := by decide +kernel
theorem dX12_at_18 : decode cX12_at 18 = .ok (.iaload, 1) := by decide +kernel
theorem dX12_at_19 : decode cX12_at 19 = .ok (.if_icmp .lt 7, 3) := by decide +kernel
theorem dX12_at_22 : decode cX12_at 22 = .ok (.iconst (-1), 1) := by decide +kernel
theorem dX12_at_23 : decode cX12_at 23 = .ok (.goto 14, 3) := by decide +kernel
theorem dX12_at_26 : decode cX12_at 26 = .ok (.aload_n 0, 1) := by decide +kernel
theorem dX12_at_27 : decode cX12_at 27 = .ok (.getfield 39, 3) := by decide +kernel
theorem dX12_at_30 : decode cX12_at 30 = .ok (.bipush 64, 2) := by decide +kernel
theorem dX12_at_32 : decode cX12_at 32 = .ok (.iload_n 1, 1) := by decide +kernel
theorem dX12_at_33 : decode cX12_at 33 = .ok (.imul, 1) := by decide +kernel
theorem dX12_at_34 : decode cX12_at 34 = .ok (.iload_n 2, 1) := by decide +kernel
theorem dX12_at_35 : decode cX12_at 35 = .ok (.iadd, 1) := by decide +kernel
theorem dX12_at_36 : decode cX12_at 36 = .ok (.iaload, 1) := by decide +kernel
theorem dX12_at_37 : decode cX12_at 37 = .ok (.ireturn, 1) := by decide +kernel
theorem dX12_matched_0 : decode cX12_matched 0 = .ok (.iconst 1, 1) := by decide +kernel
theorem dX12_matched_1 : decode cX12_matched 1 = .ok (.istore_n 1, 1) := by decide +kernel
theorem dX12_matched_2 : decode cX12_matched 2 = .ok (.iconst 0, 1) := by decide +kernel
theorem dX12_matched_3 : decode cX12_matched 3 = .ok (.istore_n 2, 1) := by decide +kernel
theorem dX12_matched_4 : decode cX12_matched 4 = .ok (.iload_n 2, 1) := by decide +kernel
theorem dX12_matched_5 : decode cX12_matched 5 = .ok (.aload_n 0, 1) := by decide +kernel
theorem dX12_matched_6 : decode cX12_matched 6 = .ok (.getfield 302, 3) := by decide +kernel
theorem dX12_matched_9 : decode cX12_matched 9 = .ok (.if_icmp .ge 297, 3) := by decide +kernel
theorem dX12_matched_12 : decode cX12_matched 12 = .ok (.iload_n 1, 1) := by decide +kernel
theorem dX12_matched_13 : decode cX12_matched 13 = .ok (.ifCond .eq 293, 3) := by decide +kernel
theorem dX12_matched_16 : decode cX12_matched 16 = .ok (.bipush 7, 2) := by decide +kernel
theorem dX12_matched_18 : decode cX12_matched 18 = .ok (.iload_n 2, 1) := by decide +kernel
theorem dX12_matched_19 : decode cX12_matched 19 = .ok (.imul, 1) := by decide +kernel
theorem dX12_matched_20 : decode cX12_matched 20 = .ok (.istore_n 3, 1) := by decide +kernel
theorem dX12_matched_21 : decode cX12_matched 21 = .ok (.iconst 0, 1) := by decide +kernel
theorem dX12_matched_22 : decode cX12_matched 22 = .ok (.istore 4, 2) := by decide +kernel
theorem dX12_matched_24 : decode cX12_matched 24 = .ok (.iconst 0, 1) := by decide +kernel
theorem dX12_matched_25 : decode cX12_matched 25 = .ok (.istore 5, 2) := by decide +kernel
theorem dX12_matched_27 : decode cX12_matched 27 = .ok (.iload 5, 2) := by decide +kernel
theorem dX12_matched_29 : decode cX12_matched 29 = .ok (.aload_n 0, 1) := by decide +kernel
theorem dX12_matched_30 : decode cX12_matched 30 = .ok (.getfield 332, 3) := by decide +kernel
theorem dX12_matched_33 : decode cX12_matched 33 = .ok (.if_icmp .ge 86, 3) := by decide +kernel
theorem dX12_matched_36 : decode cX12_matched 36 = .ok (.iload 4, 2) := by decide +kernel
theorem dX12_matched_38 : decode cX12_matched 38 = .ok (.aload_n 0, 1) := by decide +kernel
theorem dX12_matched_39 : decode cX12_matched 39 = .ok (.getfield 151, 3) := by decide +kernel
theorem dX12_matched_42 : decode cX12_matched 42 = .ok (.iconst 3, 1) := by decide +kernel
theorem dX12_matched_43 : decode cX12_matched 43 = .ok (.iload 5, 2) := by decide +kernel
theorem dX12_matched_45 : decode cX12_matched 45 = .ok (.imul, 1) := by decide +kernel
theorem dX12_matched_46 : decode cX12_matched 46 = .ok (.laload, 1) := by decide +kernel
theorem dX12_matched_47 : decode cX12_matched 47 = .ok (.aload_n 0, 1) := by decide +kernel
theorem dX12_matched_48 : decode cX12_matched 48 = .ok (.getfield 157, 3) := by decide +kernel
theorem dX12_matched_51 : decode cX12_matched 51 = .ok (.iload_n 3, 1) := by decide +kernel
theorem dX12_matched_52 : decode cX12_matched 52 = .ok (.iconst 4, 1) := by decide +kernel
theorem dX12_matched_53 : decode cX12_matched 53 = .ok (.iadd, 1) := by decide +kernel
theorem dX12_matched_54 : decode cX12_matched 54 = .ok (.laload, 1) := by decide +kernel
theorem dX12_matched_55 : decode cX12_matched 55 = .ok (.lcmp, 1) := by decide +kernel
theorem dX12_matched_56 : decode cX12_matched 56 = .ok (.ifCond .ne 53, 3) := by decide +kernel
theorem dX12_matched_59 : decode cX12_matched 59 = .ok (.aload_n 0, 1) := by decide +kernel
theorem dX12_matched_60 : decode cX12_matched 60 = .ok (.getfield 151, 3) := by decide +kernel
theorem dX12_matched_63 : decode cX12_matched 63 = .ok (.iconst 3, 1) := by decide +kernel
theorem dX12_matched_64 : decode cX12_matched 64 = .ok (.iload 5, 2) := by decide +kernel
theorem dX12_matched_66 : decode cX12_matched 66 = .ok (.imul, 1) := by decide +kernel
theorem dX12_matched_67 : decode cX12_matched 67 = .ok (.iconst 1, 1) := by decide +kernel
theorem dX12_matched_68 : decode cX12_matched 68 = .ok (.iadd, 1) := by decide +kernel
theorem dX12_matched_69 : decode cX12_matched 69 = .ok (.laload, 1) := by decide +kernel
theorem dX12_matched_70 : decode cX12_matched 70 = .ok (.aload_n 0, 1) := by decide +kernel
theorem dX12_matched_71 : decode cX12_matched 71 = .ok (.getfield 157, 3) := by decide +kernel
theorem dX12_matched_74 : decode cX12_matched 74 = .ok (.iload_n 3, 1) := by decide +kernel
theorem dX12_matched_75 : decode cX12_matched 75 = .ok (.iconst 2, 1) := by decide +kernel
theorem dX12_matched_76 : decode cX12_matched 76 = .ok (.iadd, 1) := by decide +kernel
theorem dX12_matched_77 : decode cX12_matched 77 = .ok (.laload, 1) := by decide +kernel
theorem dX12_matched_78 : decode cX12_matched 78 = .ok (.lcmp, 1) := by decide +kernel
theorem dX12_matched_79 : decode cX12_matched 79 = .ok (.ifCond .ne 30, 3) := by decide +kernel
theorem dX12_matched_82 : decode cX12_matched 82 = .ok (.aload_n 0, 1) := by decide +kernel
theorem dX12_matched_83 : decode cX12_matched 83 = .ok (.getfield 151, 3) := by decide +kernel
theorem dX12_matched_86 : decode cX12_matched 86 = .ok (.iconst 3, 1) := by decide +kernel
theorem dX12_matched_87 : decode cX12_matched 87 = .ok (.iload 5, 2) := by decide +kernel
theorem dX12_matched_89 : decode cX12_matched 89 = .ok (.imul, 1) := by decide +kernel
theorem dX12_matched_90 : decode cX12_matched 90 = .ok (.iconst 2, 1) := by decide +kernel
theorem dX12_matched_91 : decode cX12_matched 91 = .ok (.iadd, 1) := by decide +kernel
theorem dX12_matched_92 : decode cX12_matched 92 = .ok (.laload, 1) := by decide +kernel
theorem dX12_matched_93 : decode cX12_matched 93 = .ok (.aload_n 0, 1) := by decide +kernel
theorem dX12_matched_94 : decode cX12_matched 94 = .ok (.getfield 157, 3) := by decide +kernel
theorem dX12_matched_97 : decode cX12_matched 97 = .ok (.iload_n 3, 1) := by decide +kernel
theorem dX12_matched_98 : decode cX12_matched 98 = .ok (.iconst 3, 1) := by decide +kernel
theorem dX12_matched_99 : decode cX12_matched 99 = .ok (.iadd, 1) := by decide +kernel
theorem dX12_matched_100 : decode cX12_matched 100 = .ok (.laload, 1) := by decide +kernel
theorem dX12_matched_101 : decode cX12_matched 101 = .ok (.lcmp, 1) := by decide +kernel
theorem dX12_matched_102 : decode cX12_matched 102 = .ok (.ifCond .ne 7, 3) := by decide +kernel
theorem dX12_matched_105 : decode cX12_matched 105 = .ok (.iconst 1, 1) := by decide +kernel
theorem dX12_matched_106 : decode cX12_matched 106 = .ok (.goto 4, 3) := by decide +kernel
theorem dX12_matched_109 : decode cX12_matched 109 = .ok (.iconst 0, 1) := by decide +kernel
theorem dX12_matched_110 : decode cX12_matched 110 = .ok (.iadd, 1) := by decide +kernel
theorem dX12_matched_111 : decode cX12_matched 111 = .ok (.istore 4, 2) := by decide +kernel
theorem dX12_matched_113 : decode cX12_matched 113 = .ok (.iinc 5 1, 3) := by decide +kernel
theorem dX12_matched_116 : decode cX12_matched 116 = .ok (.goto (-89), 3) := by decide +kernel
theorem dX12_matched_119 : decode cX12_matched 119 = .ok (.iconst 0, 1) := by decide +kernel
theorem dX12_matched_120 : decode cX12_matched 120 = .ok (.istore 5, 2) := by decide +kernel
theorem dX12_matched_122 : decode cX12_matched 122 = .ok (.iconst 0, 1) := by decide +kernel
theorem dX12_matched_123 : decode cX12_matched 123 = .ok (.istore 6, 2) := by decide +kernel
theorem dX12_matched_125 : decode cX12_matched 125 = .ok (.iload 6, 2) := by decide +kernel
theorem dX12_matched_127 : decode cX12_matched 127 = .ok (.aload_n 0, 1) := by decide +kernel
theorem dX12_matched_128 : decode cX12_matched 128 = .ok (.getfield 252, 3) := by decide +kernel
theorem dX12_matched_131 : decode cX12_matched 131 = .ok (.if_icmp .ge 83, 3) := by decide +kernel
theorem dX12_matched_134 : decode cX12_matched 134 = .ok (.iconst 1, 1) := by decide +kernel
theorem dX12_matched_135 : decode cX12_matched 135 = .ok (.istore 7, 2) := by decide +kernel
theorem dX12_matched_137 : decode cX12_matched 137 = .ok (.iconst 0, 1) := by decide +kernel
theorem dX12_matched_138 : decode cX12_matched 138 = .ok (.istore 8, 2) := by decide +kernel
theorem dX12_matched_140 : decode cX12_matched 140 = .ok (.iload 8, 2) := by decide +kernel
theorem dX12_matched_142 : decode cX12_matched 142 = .ok (.bipush 7, 2) := by decide +kernel
theorem dX12_matched_144 : decode cX12_matched 144 = .ok (.if_icmp .ge 47, 3) := by decide +kernel
theorem dX12_matched_147 : decode cX12_matched 147 = .ok (.iload 7, 2) := by decide +kernel
theorem dX12_matched_149 : decode cX12_matched 149 = .ok (.ifCond .eq 33, 3) := by decide +kernel
theorem dX12_matched_152 : decode cX12_matched 152 = .ok (.aload_n 0, 1) := by decide +kernel
theorem dX12_matched_153 : decode cX12_matched 153 = .ok (.getfield 154, 3) := by decide +kernel
theorem dX12_matched_156 : decode cX12_matched 156 = .ok (.bipush 7, 2) := by decide +kernel
theorem dX12_matched_158 : decode cX12_matched 158 = .ok (.iload 6, 2) := by decide +kernel
theorem dX12_matched_160 : decode cX12_matched 160 = .ok (.imul, 1) := by decide +kernel
theorem dX12_matched_161 : decode cX12_matched 161 = .ok (.iload 8, 2) := by decide +kernel
theorem dX12_matched_163 : decode cX12_matched 163 = .ok (.iadd, 1) := by decide +kernel
theorem dX12_matched_164 : decode cX12_matched 164 = .ok (.laload, 1) := by decide +kernel
theorem dX12_matched_165 : decode cX12_matched 165 = .ok (.aload_n 0, 1) := by decide +kernel
theorem dX12_matched_166 : decode cX12_matched 166 = .ok (.getfield 157, 3) := by decide +kernel
theorem dX12_matched_169 : decode cX12_matched 169 = .ok (.iload_n 3, 1) := by decide +kernel
theorem dX12_matched_170 : decode cX12_matched 170 = .ok (.iload 8, 2) := by decide +kernel
theorem dX12_matched_172 : decode cX12_matched 172 = .ok (.iadd, 1) := by decide +kernel
theorem dX12_matched_173 : decode cX12_matched 173 = .ok (.laload, 1) := by decide +kernel
theorem dX12_matched_174 : decode cX12_matched 174 = .ok (.lcmp, 1) := by decide +kernel
theorem dX12_matched_175 : decode cX12_matched 175 = .ok (.ifCond .ne 7, 3) := by decide +kernel
theorem dX12_matched_178 : decode cX12_matched 178 = .ok (.iconst 1, 1) := by decide +kernel
theorem dX12_matched_179 : decode cX12_matched 179 = .ok (.goto 4, 3) := by decide +kernel
theorem dX12_matched_182 : decode cX12_matched 182 = .ok (.iconst 0, 1) := by decide +kernel
theorem dX12_matched_183 : decode cX12_matched 183 = .ok (.istore 7, 2) := by decide +kernel
theorem dX12_matched_185 : decode cX12_matched 185 = .ok (.iinc 8 1, 3) := by decide +kernel
theorem dX12_matched_188 : decode cX12_matched 188 = .ok (.goto (-48), 3) := by decide +kernel
theorem dX12_matched_191 : decode cX12_matched 191 = .ok (.iload 5, 2) := by decide +kernel
theorem dX12_matched_193 : decode cX12_matched 193 = .ok (.ifCond .ne 8, 3) := by decide +kernel
theorem dX12_matched_196 : decode cX12_matched 196 = .ok (.iload 7, 2) := by decide +kernel
theorem dX12_matched_198 : decode cX12_matched 198 = .ok (.ifCond .eq 7, 3) := by decide +kernel
theorem dX12_matched_201 : decode cX12_matched 201 = .ok (.iconst 1, 1) := by decide +kernel
theorem dX12_matched_202 : decode cX12_matched 202 = .ok (.goto 4, 3) := by decide +kernel
theorem dX12_matched_205 : decode cX12_matched 205 = .ok (.iconst 0, 1) := by decide +kernel
theorem dX12_matched_206 : decode cX12_matched 206 = .ok (.istore 5, 2) := by decide +kernel
theorem dX12_matched_208 : decode cX12_matched 208 = .ok (.iinc 6 1, 3) := by decide +kernel
theorem dX12_matched_211 : decode cX12_matched 211 = .ok (.goto (-86), 3) := by decide +kernel
theorem dX12_matched_214 : decode cX12_matched 214 = .ok (.iload 4, 2) := by decide +kernel
theorem dX12_matched_216 : decode cX12_matched 216 = .ok (.iconst 1, 1) := by decide +kernel
theorem dX12_matched_217 : decode cX12_matched 217 = .ok (.if_icmp .ne 12, 3) := by decide +kernel
theorem dX12_matched_220 : decode cX12_matched 220 = .ok (.iload 5, 2) := by decide +kernel
theorem dX12_matched_222 : decode cX12_matched 222 = .ok (.ifCond .eq 7, 3) := by decide +kernel
theorem dX12_matched_225 : decode cX12_matched 225 = .ok (.iconst 1, 1) := by decide +kernel
theorem dX12_matched_226 : decode cX12_matched 226 = .ok (.goto 4, 3) := by decide +kernel
theorem dX12_matched_229 : decode cX12_matched 229 = .ok (.iconst 0, 1) := by decide +kernel
theorem dX12_matched_230 : decode cX12_matched 230 = .ok (.istore_n 1, 1) := by decide +kernel
theorem dX12_matched_231 : decode cX12_matched 231 = .ok (.iconst 0, 1) := by decide +kernel
theorem dX12_matched_232 : decode cX12_matched 232 = .ok (.istore 6, 2) := by decide +kernel
theorem dX12_matched_234 : decode cX12_matched 234 = .ok (.iload 6, 2) := by decide +kernel
theorem dX12_matched_236 : decode cX12_matched 236 = .ok (.iload_n 2, 1) := by decide +kernel
theorem dX12_matched_237 : decode cX12_matched 237 = .ok (.if_icmp .ge 63, 3) := by decide +kernel
theorem dX12_matched_240 : decode cX12_matched 240 = .ok (.iload_n 1, 1) := by decide +kernel
theorem dX12_matched_241 : decode cX12_matched 241 = .ok (.ifCond .eq 51, 3) := by decide +kernel
theorem dX12_matched_244 : decode cX12_matched 244 = .ok (.aload_n 0, 1) := by decide +kernel
theorem dX12_matched_245 : decode cX12_matched 245 = .ok (.getfield 157, 3) := by decide +kernel
theorem dX12_matched_248 : decode cX12_matched 248 = .ok (.bipush 7, 2) := by decide +kernel
theorem dX12_matched_250 : decode cX12_matched 250 = .ok (.iload 6, 2) := by decide +kernel
theorem dX12_matched_252 : decode cX12_matched 252 = .ok (.imul, 1) := by decide +kernel
theorem dX12_matched_253 : decode cX12_matched 253 = .ok (.laload, 1) := by decide +kernel
theorem dX12_matched_254 : decode cX12_matched 254 = .ok (.aload_n 0, 1) := by decide +kernel
theorem dX12_matched_255 : decode cX12_matched 255 = .ok (.getfield 157, 3) := by decide +kernel
theorem dX12_matched_258 : decode cX12_matched 258 = .ok (.iload_n 3, 1) := by decide +kernel
theorem dX12_matched_259 : decode cX12_matched 259 = .ok (.laload, 1) := by decide +kernel
theorem dX12_matched_260 : decode cX12_matched 260 = .ok (.lcmp, 1) := by decide +kernel
theorem dX12_matched_261 : decode cX12_matched 261 = .ok (.ifCond .ne 27, 3) := by decide +kernel
theorem dX12_matched_264 : decode cX12_matched 264 = .ok (.aload_n 0, 1) := by decide +kernel
theorem dX12_matched_265 : decode cX12_matched 265 = .ok (.getfield 157, 3) := by decide +kernel
theorem dX12_matched_268 : decode cX12_matched 268 = .ok (.bipush 7, 2) := by decide +kernel
theorem dX12_matched_270 : decode cX12_matched 270 = .ok (.iload 6, 2) := by decide +kernel
theorem dX12_matched_272 : decode cX12_matched 272 = .ok (.imul, 1) := by decide +kernel
theorem dX12_matched_273 : decode cX12_matched 273 = .ok (.iconst 1, 1) := by decide +kernel
theorem dX12_matched_274 : decode cX12_matched 274 = .ok (.iadd, 1) := by decide +kernel
theorem dX12_matched_275 : decode cX12_matched 275 = .ok (.laload, 1) := by decide +kernel
theorem dX12_matched_276 : decode cX12_matched 276 = .ok (.aload_n 0, 1) := by decide +kernel
theorem dX12_matched_277 : decode cX12_matched 277 = .ok (.getfield 157, 3) := by decide +kernel
theorem dX12_matched_280 : decode cX12_matched 280 = .ok (.iload_n 3, 1) := by decide +kernel
theorem dX12_matched_281 : decode cX12_matched 281 = .ok (.iconst 1, 1) := by decide +kernel
theorem dX12_matched_282 : decode cX12_matched 282 = .ok (.iadd, 1) := by decide +kernel
theorem dX12_matched_283 : decode cX12_matched 283 = .ok (.laload, 1) := by decide +kernel
theorem dX12_matched_284 : decode cX12_matched 284 = .ok (.lcmp, 1) := by decide +kernel
theorem dX12_matched_285 : decode cX12_matched 285 = .ok (.ifCond .eq 7, 3) := by decide +kernel
theorem dX12_matched_288 : decode cX12_matched 288 = .ok (.iconst 1, 1) := by decide +kernel
theorem dX12_matched_289 : decode cX12_matched 289 = .ok (.goto 4, 3) := by decide +kernel
theorem dX12_matched_292 : decode cX12_matched 292 = .ok (.iconst 0, 1) := by decide +kernel
theorem dX12_matched_293 : decode cX12_matched 293 = .ok (.istore_n 1, 1) := by decide +kernel
theorem dX12_matched_294 : decode cX12_matched 294 = .ok (.iinc 6 1, 3) := by decide +kernel
theorem dX12_matched_297 : decode cX12_matched 297 = .ok (.goto (-63), 3) := by decide +kernel
theorem dX12_matched_300 : decode cX12_matched 300 = .ok (.iinc 2 1, 3) := by decide +kernel
theorem dX12_matched_303 : decode cX12_matched 303 = .ok (.goto (-299), 3) := by decide +kernel
theorem dX12_matched_306 : decode cX12_matched 306 = .ok (.iload_n 1, 1) := by decide +kernel
theorem dX12_matched_307 : decode cX12_matched 307 = .ok (.ireturn, 1) := by decide +kernel
theorem dJ9_max_7cf53_0 : decode cJ9_max_7cf53 0 = .ok (.iload_n 0, 1) := by decide +kernel
theorem dJ9_max_7cf53_1 : decode cJ9_max_7cf53 1 = .ok (.iload_n 1, 1) := by decide +kernel
theorem dJ9_max_7cf53_2 : decode cJ9_max_7cf53 2 = .ok (.if_icmp .lt 7, 3) := by decide +kernel
theorem dJ9_max_7cf53_5 : decode cJ9_max_7cf53 5 = .ok (.iload_n 0, 1) := by decide +kernel
theorem dJ9_max_7cf53_6 : decode cJ9_max_7cf53 6 = .ok (.goto 4, 3) := by decide +kernel
theorem dJ9_max_7cf53_9 : decode cJ9_max_7cf53 9 = .ok (.iload_n 1, 1) := by decide +kernel
theorem dJ9_max_7cf53_10 : decode cJ9_max_7cf53 10 = .ok (.ireturn, 1) := by decide +kernel
theorem dJ9_min_7cf53_0 : decode cJ9_min_7cf53 0 = .ok (.iload_n 0, 1) := by decide +kernel
theorem dJ9_min_7cf53_1 : decode cJ9_min_7cf53 1 = .ok (.iload_n 1, 1) := by decide +kernel
theorem dJ9_min_7cf53_2 : decode cJ9_min_7cf53 2 = .ok (.if_icmp .gt 7, 3) := by decide +kernel
theorem dJ9_min_7cf53_5 : decode cJ9_min_7cf53 5 = .ok (.iload_n 0, 1) := by decide +kernel
theorem dJ9_min_7cf53_6 : decode cJ9_min_7cf53 6 = .ok (.goto 4, 3) := by decide +kernel
theorem dJ9_min_7cf53_9 : decode cJ9_min_7cf53 9 = .ok (.iload_n 1, 1) := by decide +kernel
theorem dJ9_min_7cf53_10 : decode cJ9_min_7cf53 10 = .ok (.ireturn, 1) := by decide +kernel
