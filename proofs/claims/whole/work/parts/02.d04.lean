theorem dX11_at_0 : decode cX11_at 0 = .ok (.aload_n 0, 1) := by decide +kernel
theorem dX11_at_1 : decode cX11_at 1 = .ok (.getfield 10, 3) := by decide +kernel
theorem dX11_at_4 : decode cX11_at 4 = .ok (.getfield 95, 3) := by decide +kernel
theorem dX11_at_7 : decode cX11_at 7 = .ok (.iload_n 1, 1) := by decide +kernel
theorem dX11_at_8 : decode cX11_at 8 = .ok (.invokevirtual 126, 3) := by decide +kernel
theorem dX11_at_11 : decode cX11_at 11 = .ok (.astore_n 3, 1) := by decide +kernel
theorem dX11_at_12 : decode cX11_at 12 = .ok (.aload_n 3, 1) := by decide +kernel
theorem dX11_at_13 : decode cX11_at 13 = .ok (.ifnull 20, 3) := by decide +kernel
theorem dX11_at_16 : decode cX11_at 16 = .ok (.aload_n 3, 1) := by decide +kernel
theorem dX11_at_17 : decode cX11_at 17 = .ok (.iload_n 2, 1) := by decide +kernel
theorem dX11_at_18 : decode cX11_at 18 = .ok (.invokevirtual 128, 3) := by decide +kernel
theorem dX11_at_21 : decode cX11_at 21 = .ok (.ifCond .eq 12, 3) := by decide +kernel
theorem dX11_at_24 : decode cX11_at 24 = .ok (.aload_n 3, 1) := by decide +kernel
theorem dX11_at_25 : decode cX11_at 25 = .ok (.getfield 133, 3) := by decide +kernel
theorem dX11_at_28 : decode cX11_at 28 = .ok (.iload_n 2, 1) := by decide +kernel
theorem dX11_at_29 : decode cX11_at 29 = .ok (.iaload, 1) := by decide +kernel
theorem dX11_at_30 : decode cX11_at 30 = .ok (.goto 4, 3) := by decide +kernel
theorem dX11_at_33 : decode cX11_at 33 = .ok (.iconst (-1), 1) := by decide +kernel
theorem dX11_at_34 : decode cX11_at 34 = .ok (.ireturn, 1) := by decide +kernel
theorem dX11_matched_0 : decode cX11_matched 0 = .ok (.iconst 0, 1) := by decide +kernel
theorem dX11_matched_1 : decode cX11_matched 1 = .ok (.istore_n 1, 1) := by decide +kernel
theorem dX11_matched_2 : decode cX11_matched 2 = .ok (.iload_n 1, 1) := by decide +kernel
theorem dX11_matched_3 : decode cX11_matched 3 = .ok (.aload_n 0, 1) := by decide +kernel
theorem dX11_matched_4 : decode cX11_matched 4 = .ok (.getfield 21, 3) := by decide +kernel
theorem dX11_matched_7 : decode cX11_matched 7 = .ok (.getfield 167, 3) := by decide +kernel
theorem dX11_matched_10 : decode cX11_matched 10 = .ok (.invokevirtual 37, 3) := by decide +kernel
theorem dX11_matched_13 : decode cX11_matched 13 = .ok (.if_icmp .ge 61, 3) := by decide +kernel
theorem dX11_matched_16 : decode cX11_matched 16 = .ok (.aload_n 0, 1) := by decide +kernel
theorem dX11_matched_17 : decode cX11_matched 17 = .ok (.getfield 21, 3) := by decide +kernel
theorem dX11_matched_20 : decode cX11_matched 20 = .ok (.getfield 167, 3) := by decide +kernel
theorem dX11_matched_23 : decode cX11_matched 23 = .ok (.iload_n 1, 1) := by decide +kernel
theorem dX11_matched_24 : decode cX11_matched 24 = .ok (.invokevirtual 87, 3) := by decide +kernel
theorem dX11_matched_27 : decode cX11_matched 27 = .ok (.checkcast 203, 3) := by decide +kernel
theorem dX11_matched_30 : decode cX11_matched 30 = .ok (.astore_n 2, 1) := by decide +kernel
theorem dX11_matched_31 : decode cX11_matched 31 = .ok (.aload_n 0, 1) := by decide +kernel
theorem dX11_matched_32 : decode cX11_matched 32 = .ok (.getfield 10, 3) := by decide +kernel
theorem dX11_matched_35 : decode cX11_matched 35 = .ok (.aload_n 2, 1) := by decide +kernel
theorem dX11_matched_36 : decode cX11_matched 36 = .ok (.invokevirtual 224, 3) := by decide +kernel
theorem dX11_matched_39 : decode cX11_matched 39 = .ok (.iconst 1, 1) := by decide +kernel
theorem dX11_matched_40 : decode cX11_matched 40 = .ok (.if_icmp .ne 26, 3) := by decide +kernel
theorem dX11_matched_43 : decode cX11_matched 43 = .ok (.aload_n 0, 1) := by decide +kernel
theorem dX11_matched_44 : decode cX11_matched 44 = .ok (.getfield 10, 3) := by decide +kernel
theorem dX11_matched_47 : decode cX11_matched 47 = .ok (.aload_n 2, 1) := by decide +kernel
theorem dX11_matched_48 : decode cX11_matched 48 = .ok (.invokevirtual 228, 3) := by decide +kernel
theorem dX11_matched_51 : decode cX11_matched 51 = .ok (.ifCond .eq 15, 3) := by decide +kernel
theorem dX11_matched_54 : decode cX11_matched 54 = .ok (.aload_n 0, 1) := by decide +kernel
theorem dX11_matched_55 : decode cX11_matched 55 = .ok (.getfield 21, 3) := by decide +kernel
theorem dX11_matched_58 : decode cX11_matched 58 = .ok (.aload_n 2, 1) := by decide +kernel
theorem dX11_matched_59 : decode cX11_matched 59 = .ok (.invokevirtual 232, 3) := by decide +kernel
theorem dX11_matched_62 : decode cX11_matched 62 = .ok (.iconst 1, 1) := by decide +kernel
theorem dX11_matched_63 : decode cX11_matched 63 = .ok (.if_icmp .eq 5, 3) := by decide +kernel
theorem dX11_matched_66 : decode cX11_matched 66 = .ok (.iconst 0, 1) := by decide +kernel
theorem dX11_matched_67 : decode cX11_matched 67 = .ok (.ireturn, 1) := by decide +kernel
theorem dX11_matched_68 : decode cX11_matched 68 = .ok (.iinc 1 1, 3) := by decide +kernel
theorem dX11_matched_71 : decode cX11_matched 71 = .ok (.goto (-69), 3) := by decide +kernel
theorem dX11_matched_74 : decode cX11_matched 74 = .ok (.iconst 1, 1) := by decide +kernel
theorem dX11_matched_75 : decode cX11_matched 75 = .ok (.ireturn, 1) := by decide +kernel
theorem dX11_isWithin_0 : decode cX11_isWithin 0 = .ok (.lload_n 0, 1) := by decide +kernel
theorem dX11_isWithin_1 : decode cX11_isWithin 1 = .ok (.lload_n 2, 1) := by decide +kernel
theorem dX11_isWithin_2 : decode cX11_isWithin 2 = .ok (.lcmp, 1) := by decide +kernel
theorem dX11_isWithin_3 : decode cX11_isWithin 3 = .ok (.ifCond .lt 14, 3) := by decide +kernel
theorem dX11_isWithin_6 : decode cX11_isWithin 6 = .ok (.lload_n 0, 1) := by decide +kernel
theorem dX11_isWithin_7 : decode cX11_isWithin 7 = .ok (.lload 4, 2) := by decide +kernel
theorem dX11_isWithin_9 : decode cX11_isWithin 9 = .ok (.lcmp, 1) := by decide +kernel
theorem dX11_isWithin_10 : decode cX11_isWithin 10 = .ok (.ifCond .gt 7, 3) := by decide +kernel
theorem dX11_isWithin_13 : decode cX11_isWithin 13 = .ok (.iconst 1, 1) := by decide +kernel
theorem dX11_isWithin_14 : decode cX11_isWithin 14 = .ok (.goto 4, 3) := by decide +kernel
theorem dX11_isWithin_17 : decode cX11_isWithin 17 = .ok (.iconst 0, 1) := by decide +kernel
theorem dX11_isWithin_18 : decode cX11_isWithin 18 = .ok (.ireturn, 1) := by decide +kernel
theorem dX12_init_0 : decode cX12_init 0 = .ok (.aload_n 0, 1) := by decide +kernel
theorem dX12_init_1 : decode cX12_init 1 = .ok (.invokespecial 1, 3) := by decide +kernel
theorem dX12_init_4 : decode cX12_init 4 = .ok (.aload_n 0, 1) := by decide +kernel
theorem dX12_init_5 : decode cX12_init 5 = .ok (.sipush 4096, 3) := by decide +kernel
theorem dX12_init_8 : decode cX12_init 8 = .ok (.newarray .int, 2) := by decide +kernel
theorem dX12_init_10 : decode cX12_init 10 = .ok (.putfield 7, 3) := by decide +kernel
theorem dX12_init_13 : decode cX12_init 13 = .ok (.aload_n 0, 1) := by decide +kernel
theorem dX12_init_14 : decode cX12_init 14 = .ok (.sipush 4096, 3) := by decide +kernel
theorem dX12_init_17 : decode cX12_init 17 = .ok (.newarray .int, 2) := by decide +kernel
theorem dX12_init_19 : decode cX12_init 19 = .ok (.putfield 13, 3) := by decide +kernel
theorem dX12_init_22 : decode cX12_init 22 = .ok (.aload_n 0, 1) := by decide +kernel
theorem dX12_init_23 : decode cX12_init 23 = .ok (.ldc 16, 2) := by decide +kernel
theorem dX12_init_25 : decode cX12_init 25 = .ok (.newarray .long, 2) := by decide +kernel
theorem dX12_init_27 : decode cX12_init 27 = .ok (.putfield 17, 3) := by decide +kernel
theorem dX12_init_30 : decode cX12_init 30 = .ok (.aload_n 0, 1) := by decide +kernel
theorem dX12_init_31 : decode cX12_init 31 = .ok (.bipush 12, 2) := by decide +kernel
theorem dX12_init_33 : decode cX12_init 33 = .ok (.newarray .long, 2) := by decide +kernel
theorem dX12_init_35 : decode cX12_init 35 = .ok (.putfield 21, 3) := by decide +kernel
theorem dX12_init_38 : decode cX12_init 38 = .ok (.aload_n 0, 1) := by decide +kernel
theorem dX12_init_39 : decode cX12_init 39 = .ok (.bipush 60, 2) := by decide +kernel
theorem dX12_init_41 : decode cX12_init 41 = .ok (.newarray .int, 2) := by decide +kernel
theorem dX12_init_43 : decode cX12_init 43 = .ok (.putfield 24, 3) := by decide +kernel
theorem dX12_init_46 : decode cX12_init 46 = .ok (.aload_n 0, 1) := by decide +kernel
theorem dX12_init_47 : decode cX12_init 47 = .ok (.bipush 60, 2) := by decide +kernel
theorem dX12_init_49 : decode cX12_init 49 = .ok (.newarray .int, 2) := by decide +kernel
theorem dX12_init_51 : decode cX12_init 51 = .ok (.putfield 27, 3) := by decide +kernel
theorem dX12_init_54 : decode cX12_init 54 = .ok (.aload_n 0, 1) := by decide +kernel
theorem dX12_init_55 : decode cX12_init 55 = .ok (.bipush 60, 2) := by decide +kernel
theorem dX12_init_57 : decode cX12_init 57 = .ok (.newarray .int, 2) := by decide +kernel
theorem dX12_init_59 : decode cX12_init 59 = .ok (.putfield 30, 3) := by decide +kernel
theorem dX12_init_62 : decode cX12_init 62 = .ok (.aload_n 0, 1) := by decide +kernel
theorem dX12_init_63 : decode cX12_init 63 = .ok (.bipush 60, 2) := by decide +kernel
theorem dX12_init_65 : decode cX12_init 65 = .ok (.newarray .int, 2) := by decide +kernel
theorem dX12_init_67 : decode cX12_init 67 = .ok (.putfield 33, 3) := by decide +kernel
theorem dX12_init_70 : decode cX12_init 70 = .ok (.aload_n 0, 1) := by decide +kernel
theorem dX12_init_71 : decode cX12_init 71 = .ok (.bipush 60, 2) := by decide +kernel
theorem dX12_init_73 : decode cX12_init 73 = .ok (.newarray .int, 2) := by decide +kernel
theorem dX12_init_75 : decode cX12_init 75 = .ok (.putfield 36, 3) := by decide +kernel
theorem dX12_init_78 : decode cX12_init 78 = .ok (.aload_n 0, 1) := by decide +kernel
theorem dX12_init_79 : decode cX12_init 79 = .ok (.sipush 3840, 3) := by decide +kernel
theorem dX12_init_82 : decode cX12_init 82 = .ok (.newarray .int, 2) := by decide +kernel
theorem dX12_init_84 : decode cX12_init 84 = .ok (.putfield 39, 3) := by decide +kernel
theorem dX12_init_87 : decode cX12_init 87 = .ok (.aload_n 0, 1) := by decide +kernel
theorem dX12_init_88 : decode cX12_init 88 = .ok (.bipush 64, 2) := by decide +kernel
theorem dX12_init_90 : decode cX12_init 90 = .ok (.newarray .int, 2) := by decide +kernel
theorem dX12_init_92 : decode cX12_init 92 = .ok (.putfield 42, 3) := by decide +kernel
theorem dX12_init_95 : decode cX12_init 95 = .ok (.aload_n 0, 1) := by decide +kernel
theorem dX12_init_96 : decode cX12_init 96 = .ok (.bipush 12, 2) := by decide +kernel
theorem dX12_init_98 : decode cX12_init 98 = .ok (.newarray .long, 2) := by decide +kernel
theorem dX12_init_100 : decode cX12_init 100 = .ok (.putfield 45, 3) := by decide +kernel
theorem dX12_init_103 : decode cX12_init 103 = .ok (.aload_n 0, 1) := by decide +kernel
theorem dX12_init_104 : decode cX12_init 104 = .ok (.bipush 12, 2) := by decide +kernel
theorem dX12_init_106 : decode cX12_init 106 = .ok (.newarray .long, 2) := by decide +kernel
theorem dX12_init_108 : decode cX12_init 108 = .ok (.putfield 48, 3) := by decide +kernel
theorem dX12_init_111 : decode cX12_init 111 = .ok (.aload_n 0, 1) := by decide +kernel
theorem dX12_init_112 : decode cX12_init 112 = .ok (.bipush 64, 2) := by decide +kernel
theorem dX12_init_114 : decode cX12_init 114 = .ok (.newarray .int, 2) := by decide +kernel
theorem dX12_init_116 : decode cX12_init 116 = .ok (.putfield 51, 3) := by decide +kernel
theorem dX12_init_119 : decode cX12_init 119 = .ok (.aload_n 0, 1) := by decide +kernel
theorem dX12_init_120 : decode cX12_init 120 = .ok (.bipush 16, 2) := by decide +kernel
theorem dX12_init_122 : decode cX12_init 122 = .ok (.newarray .int, 2) := by decide +kernel
theorem dX12_init_124 : decode cX12_init 124 = .ok (.putfield 54, 3) := by decide +kernel
theorem dX12_init_127 : decode cX12_init 127 = .ok (.aload_n 0, 1) := by decide +kernel
theorem dX12_init_128 : decode cX12_init 128 = .ok (.bipush 16, 2) := by decide +kernel
theorem dX12_init_130 : decode cX12_init 130 = .ok (.newarray .long, 2) := by decide +kernel
theorem dX12_init_132 : decode cX12_init 132 = .ok (.putfield 57, 3) := by decide +kernel
theorem dX12_init_135 : decode cX12_init 135 = .ok (.aload_n 0, 1) := by decide +kernel
theorem dX12_init_136 : decode cX12_init 136 = .ok (.bipush 16, 2) := by decide +kernel
theorem dX12_init_138 : decode cX12_init 138 = .ok (.newarray .int, 2) := by decide +kernel
theorem dX12_init_140 : decode cX12_init 140 = .ok (.putfield 60, 3) := by decide +kernel
theorem dX12_init_143 : decode cX12_init 143 = .ok (.aload_n 0, 1) := by decide +kernel
theorem dX12_init_144 : decode cX12_init 144 = .ok (.bipush 16, 2) := by decide +kernel
theorem dX12_init_146 : decode cX12_init 146 = .ok (.newarray .long, 2) := by decide +kernel
theorem dX12_init_148 : decode cX12_init 148 = .ok (.putfield 63, 3) := by decide +kernel
theorem dX12_init_151 : decode cX12_init 151 = .ok (.aload_n 0, 1) := by decide +kernel
theorem dX12_init_152 : decode cX12_init 152 = .ok (.bipush 16, 2) := by decide +kernel
theorem dX12_init_154 : decode cX12_init 154 = .ok (.newarray .int, 2) := by decide +kernel
theorem dX12_init_156 : decode cX12_init 156 = .ok (.putfield 66, 3) := by decide +kernel
theorem dX12_init_159 : decode cX12_init 159 = .ok (.aload_n 0, 1) := by decide +kernel
theorem dX12_init_160 : decode cX12_init 160 = .ok (.bipush 16, 2) := by decide +kernel
theorem dX12_init_162 : decode cX12_init 162 = .ok (.newarray .int, 2) := by decide +kernel
theorem dX12_init_164 : decode cX12_init 164 = .ok (.putfield 69, 3) := by decide +kernel
theorem dX12_init_167 : decode cX12_init 167 = .ok (.aload_n 0, 1) := by decide +kernel
theorem dX12_init_168 : decode cX12_init 168 = .ok (.bipush 16, 2) := by decide +kernel
theorem dX12_init_170 : decode cX12_init 170 = .ok (.newarray .int, 2) := by decide +kernel
theorem dX12_init_172 : decode cX12_init 172 = .ok (.putfield 72, 3) := by decide +kernel
theorem dX12_init_175 : decode cX12_init 175 = .ok (.aload_n 0, 1) := by decide +kernel
theorem dX12_init_176 : decode cX12_init 176 = .ok (.bipush 16, 2) := by decide +kernel
theorem dX12_init_178 : decode cX12_init 178 = .ok (.newarray .int, 2) := by decide +kernel
theorem dX12_init_180 : decode cX12_init 180 = .ok (.putfield 75, 3) := by decide +kernel
theorem dX12_init_183 : decode cX12_init 183 = .ok (.aload_n 0, 1) := by decide +kernel
theorem dX12_init_184 : decode cX12_init 184 = .ok (.bipush 16, 2) := by decide +kernel
theorem dX12_init_186 : decode cX12_init 186 = .ok (.newarray .int, 2) := by decide +kernel
theorem dX12_init_188 : decode cX12_init 188 = .ok (.putfield 78, 3) := by decide +kernel
theorem dX12_init_191 : decode cX12_init 191 = .ok (.aload_n 0, 1) := by decide +kernel
theorem dX12_init_192 : decode cX12_init 192 = .ok (.bipush 16, 2) := by decide +kernel
theorem dX12_init_194 : decode cX12_init 194 = .ok (.newarray .int, 2) := by decide +kernel
theorem dX12_init_196 : decode cX12_init 196 = .ok (.putfield 81, 3) := by decide +kernel
theorem dX12_init_199 : decode cX12_init 199 = .ok (.aload_n 0, 1) := by decide +kernel
theorem dX12_init_200 : decode cX12_init 200 = .ok (.bipush 16, 2) := by decide +kernel
theorem dX12_init_202 : decode cX12_init 202 = .ok (.newarray .long, 2) := by decide +kernel
theorem dX12_init_204 : decode cX12_init 204 = .ok (.putfield 84, 3) := by decide +kernel
theorem dX12_init_207 : decode cX12_init 207 = .ok (.aload_n 0, 1) := by decide +kernel
theorem dX12_init_208 : decode cX12_init 208 = .ok (.bipush 16, 2) := by decide +kernel
theorem dX12_init_210 : decode cX12_init 210 = .ok (.newarray .long, 2) := by decide +kernel
theorem dX12_init_212 : decode cX12_init 212 = .ok (.putfield 87, 3) := by decide +kernel
theorem dX12_init_215 : decode cX12_init 215 = .ok (.aload_n 0, 1) := by decide +kernel
theorem dX12_init_216 : decode cX12_init 216 = .ok (.bipush 16, 2) := by decide +kernel
theorem dX12_init_218 : decode cX12_init 218 = .ok (.newarray .long, 2) := by decide +kernel
theorem dX12_init_220 : decode cX12_init 220 = .ok (.putfield 90, 3) := by decide +kernel
theorem dX12_init_223 : decode cX12_init 223 = .ok (.aload_n 0, 1) := by decide +kernel
theorem dX12_init_224 : decode cX12_init 224 = .ok (.bipush 16, 2) := by decide +kernel
theorem dX12_init_226 : decode cX12_init 226 = .ok (.newarray .int, 2) := by decide +kernel
theorem dX12_init_228 : decode cX12_init 228 = .ok (.putfield 93, 3) := by decide +kernel
theorem dX12_init_231 : decode cX12_init 231 = .ok (.aload_n 0, 1) := by decide +kernel
theorem dX12_init_232 : decode cX12_init 232 = .ok (.bipush 8, 2) := by decide +kernel
theorem dX12_init_234 : decode cX12_init 234 = .ok (.newarray .long, 2) := by decide +kernel
theorem dX12_init_236 : decode cX12_init 236 = .ok (.putfield 96, 3) := by decide +kernel
theorem dX12_init_239 : decode cX12_init 239 = .ok (.aload_n 0, 1) := by decide +kernel
theorem dX12_init_240 : decode cX12_init 240 = .ok (.bipush 8, 2) := by decide +kernel
theorem dX12_init_242 : decode cX12_init 242 = .ok (.newarray .long, 2) := by decide +kernel
theorem dX12_init_244 : decode cX12_init 244 = .ok (.putfield 99, 3) := by decide +kernel
theorem dX12_init_247 : decode cX12_init 247 = .ok (.aload_n 0, 1) := by decide +kernel
theorem dX12_init_248 : decode cX12_init 248 = .ok (.bipush 8, 2) := by decide +kernel
theorem dX12_init_250 : decode cX12_init 250 = .ok (.newarray .long, 2) := by decide +kernel
theorem dX12_init_252 : decode cX12_init 252 = .ok (.putfield 102, 3) := by decide +kernel
theorem dX12_init_255 : decode cX12_init 255 = .ok (.aload_n 0, 1) := by decide +kernel
theorem dX12_init_256 : decode cX12_init 256 = .ok (.bipush 8, 2) := by decide +kernel
theorem dX12_init_258 : decode cX12_init 258 = .ok (.newarray .int, 2) := by decide +kernel
theorem dX12_init_260 : decode cX12_init 260 = .ok (.putfield 105, 3) := by decide +kernel
theorem dX12_init_263 : decode cX12_init 263 = .ok (.aload_n 0, 1) := by decide +kernel
theorem dX12_init_264 : decode cX12_init 264 = .ok (.bipush 8, 2) := by decide +kernel
theorem dX12_init_266 : decode cX12_init 266 = .ok (.newarray .int, 2) := by decide +kernel
theorem dX12_init_268 : decode cX12_init 268 = .ok (.putfield 108, 3) := by decide +kernel
theorem dX12_init_271 : decode cX12_init 271 = .ok (.aload_n 0, 1) := by decide +kernel
theorem dX12_init_272 : decode cX12_init 272 = .ok (.bipush 8, 2) := by decide +kernel
theorem dX12_init_274 : decode cX12_init 274 = .ok (.newarray .long, 2) := by decide +kernel
theorem dX12_init_276 : decode cX12_init 276 = .ok (.putfield 111, 3) := by decide +kernel
theorem dX12_init_279 : decode cX12_init 279 = .ok (.aload_n 0, 1) := by decide +kernel
theorem dX12_init_280 : decode cX12_init 280 = .ok (.bipush 8, 2) := by decide +kernel
theorem dX12_init_282 : decode cX12_init 282 = .ok (.newarray .int, 2) := by decide +kernel
theorem dX12_init_284 : decode cX12_init 284 = .ok (.putfield 114, 3) := by decide +kernel
theorem dX12_init_287 : decode cX12_init 287 = .ok (.aload_n 0, 1) := by decide +kernel
theorem dX12_init_288 : decode cX12_init 288 = .ok (.bipush 8, 2) := by decide +kernel
theorem dX12_init_290 : decode cX12_init 290 = .ok (.newarray .long, 2) := by decide +kernel
theorem dX12_init_292 : decode cX12_init 292 = .ok (.putfield 117, 3) := by decide +kernel
theorem dX12_init_295 : decode cX12_init 295 = .ok (.aload_n 0, 1) := by decide +kernel
theorem dX12_init_296 : decode cX12_init 296 = .ok (.bipush 8, 2) := by decide +kernel
theorem dX12_init_298 : decode cX12_init 298 = .ok (.newarray .long, 2) := by decide +kernel
theorem dX12_init_300 : decode cX12_init 300 = .ok (.putfield 120, 3) := by decide +kernel
theorem dX12_init_303 : decode cX12_init 303 = .ok (.aload_n 0, 1) := by decide +kernel
theorem dX12_init_304 : decode cX12_init 304 = .ok (.bipush 8, 2) := by decide +kernel
theorem dX12_init_306 : decode cX12_init 306 = .ok (.newarray .int, 2) := by decide +kernel
theorem dX12_init_308 : decode cX12_init 308 = .ok (.putfield 123, 3) := by decide +kernel
theorem dX12_init_311 : decode cX12_init 311 = .ok (.aload_n 0, 1) := by decide +kernel
theorem dX12_init_312 : decode cX12_init 312 = .ok (.bipush 8, 2) := by decide +kernel
theorem dX12_init_314 : decode cX12_init 314 = .ok (.newarray .int, 2) := by decide +kernel
theorem dX12_init_316 : decode cX12_init 316 = .ok (.putfield 126, 3) := by decide +kernel
theorem dX12_init_319 : decode cX12_init 319 = .ok (.aload_n 0, 1) := by decide +kernel
theorem dX12_init_320 : decode cX12_init 320 = .ok (.bipush 8, 2) := by decide +kernel
theorem dX12_init_322 : decode cX12_init 322 = .ok (.newarray .int, 2) := by decide +kernel
theorem dX12_init_324 : decode cX12_init 324 = .ok (.putfield 129, 3) := by decide +kernel
theorem dX12_init_327 : decode cX12_init 327 = .ok (.aload_n 0, 1) := by decide +kernel
theorem dX12_init_328 : decode cX12_init 328 = .ok (.bipush 8, 2) := by decide +kernel
theorem dX12_init_330 : decode cX12_init 330 = .ok (.newarray .int, 2) := by decide +kernel
theorem dX12_init_332 : decode cX12_init 332 = .ok (.putfield 132, 3) := by decide +kernel
theorem dX12_init_335 : decode cX12_init 335 = .ok (.aload_n 0, 1) := by decide +kernel
theorem dX12_init_336 : decode cX12_init 336 = .ok (.bipush 8, 2) := by decide +kernel
theorem dX12_init_338 : decode cX12_init 338 = .ok (.newarray .int, 2) := by decide +kernel
theorem dX12_init_340 : decode cX12_init 340 = .ok (.putfield 135, 3) := by decide +kernel
theorem dX12_init_343 : decode cX12_init 343 = .ok (.aload_n 0, 1) := by decide +kernel
theorem dX12_init_344 : decode cX12_init 344 = .ok (.bipush 8, 2) := by decide +kernel
theorem dX12_init_346 : decode cX12_init 346 = .ok (.newarray .int, 2) := by decide +kernel
theorem dX12_init_348 : decode cX12_init 348 = .ok (.putfield 138, 3) := by decide +kernel
theorem dX12_init_351 : decode cX12_init 351 = .ok (.aload_n 0, 1) := by decide +kernel
theorem dX12_init_352 : decode cX12_init 352 = .ok (.sipush 600, 3) := by decide +kernel
theorem dX12_init_355 : decode cX12_init 355 = .ok (.newarray .int, 2) := by decide +kernel
theorem dX12_init_357 : decode cX12_init 357 = .ok (.putfield 141, 3) := by decide +kernel
theorem dX12_init_360 : decode cX12_init 360 = .ok (.aload_n 0, 1) := by decide +kernel
theorem dX12_init_361 : decode cX12_init 361 = .ok (.sipush 600, 3) := by decide +kernel
theorem dX12_init_364 : decode cX12_init 364 = .ok (.newarray .boolean, 2) := by decide +kernel
theorem dX12_init_366 : decode cX12_init 366 = .ok (.putfield 144, 3) := by decide +kernel
theorem dX12_init_369 : decode cX12_init 369 = .ok (.aload_n 0, 1) := by decide +kernel
theorem dX12_init_370 : decode cX12_init 370 = .ok (.sipush 4200, 3) := by decide +kernel
theorem dX12_init_373 : decode cX12_init 373 = .ok (.newarray .long, 2) := by decide +kernel
theorem dX12_init_375 : decode cX12_init 375 = .ok (.putfield 148, 3) := by decide +kernel
theorem dX12_init_378 : decode cX12_init 378 = .ok (.aload_n 0, 1) := by decide +kernel
theorem dX12_init_379 : decode cX12_init 379 = .ok (.sipush 1800, 3) := by decide +kernel
theorem dX12_init_382 : decode cX12_init 382 = .ok (.newarray .long, 2) := by decide +kernel
theorem dX12_init_384 : decode cX12_init 384 = .ok (.putfield 151, 3) := by decide +kernel
theorem dX12_init_387 : decode cX12_init 387 = .ok (.aload_n 0, 1) := by decide +kernel
theorem dX12_init_388 : decode cX12_init 388 = .ok (.sipush 4200, 3) := by decide +kernel
theorem dX12_init_391 : decode cX12_init 391 = .ok (.newarray .long, 2) := by decide +kernel
theorem dX12_init_393 : decode cX12_init 393 = .ok (.putfield 154, 3) := by decide +kernel
theorem dX12_init_396 : decode cX12_init 396 = .ok (.aload_n 0, 1) := by decide +kernel
theorem dX12_init_397 : decode cX12_init 397 = .ok (.sipush 4200, 3) := by decide +kernel
theorem dX12_init_400 : decode cX12_init 400 = .ok (.newarray .long, 2) := by decide +kernel
theorem dX12_init_402 : decode cX12_init 402 = .ok (.putfield 157, 3) := by decide +kernel
theorem dX12_init_405 : decode cX12_init 405 = .ok (.return_, 1) := by decide +kernel
theorem dX12_isIn_0 : decode cX12_isIn 0 = .ok (.lload_n 0, 1) := by decide +kernel
theorem dX12_isIn_1 : decode cX12_isIn 1 = .ok (.lload_n 2, 1) := by decide +kernel
theorem dX12_isIn_2 : decode cX12_isIn 2 = .ok (.lcmp, 1) := by decide +kernel
theorem dX12_isIn_3 : decode cX12_isIn 3 = .ok (.ifCond .lt 14, 3) := by decide +kernel
theorem dX12_isIn_6 : decode cX12_isIn 6 = .ok (.lload_n 0, 1) := by decide +kernel
theorem dX12_isIn_7 : decode cX12_isIn 7 = .ok (.lload 4, 2) := by decide +kernel
theorem dX12_isIn_9 : decode cX12_isIn 9 = .ok (.lcmp, 1) := by decide +kernel
theorem dX12_isIn_10 : decode cX12_isIn 10 = .ok (.ifCond .gt 7, 3) := by decide +kernel
theorem dX12_isIn_13 : decode cX12_isIn 13 = .ok (.iconst 1, 1) := by decide +kernel
theorem dX12_isIn_14 : decode cX12_isIn 14 = .ok (.goto 4, 3) := by decide +kernel
theorem dX12_isIn_17 : decode cX12_isIn 17 = .ok (.iconst 0, 1) := by decide +kernel
theorem dX12_isIn_18 : decode cX12_isIn 18 = .ok (.ireturn, 1) := by decide +kernel
theorem dX12_begin_0 : decode cX12_begin 0 = .ok (.aload_n 0, 1) := by decide +kernel
theorem dX12_begin_1 : decode cX12_begin 1 = .ok (.getfield 21, 3) := by decide +kernel
theorem dX12_begin_4 : decode cX12_begin 4 = .ok (.iconst 0, 1) := by decide +kernel
theorem dX12_begin_5 : decode cX12_begin 5 = .ok (.lload_n 1, 1) := by decide +kernel
theorem dX12_begin_6 : decode cX12_begin 6 = .ok (.lastore, 1) := by decide +kernel
theorem dX12_begin_7 : decode cX12_begin 7 = .ok (.aload_n 0, 1) := by decide +kernel
theorem dX12_begin_8 : decode cX12_begin 8 = .ok (.iconst 1, 1) := by decide +kernel
theorem dX12_begin_9 : decode cX12_begin 9 = .ok (.putfield 160, 3) := by decide +kernel
theorem dX12_begin_12 : decode cX12_begin 12 = .ok (.return_, 1) := by decide +kernel
theorem dX12_more_0 : decode cX12_more 0 = .ok (.aload_n 0, 1) := by decide +kernel
theorem dX12_more_1 : decode cX12_more 1 = .ok (.getfield 21, 3) := by decide +kernel
theorem dX12_more_4 : decode cX12_more 4 = .ok (.aload_n 0, 1) := by decide +kernel
theorem dX12_more_5 : decode cX12_more 5 = .ok (.getfield 160, 3) := by decide +kernel
theorem dX12_more_8 : decode cX12_more 8 = .ok (.lload_n 1, 1) := by decide +kernel
theorem dX12_more_9 : decode cX12_more 9 = .ok (.lastore, 1) := by decide +kernel
theorem dX12_more_10 : decode cX12_more 10 = .ok (.aload_n 0, 1) := by decide +kernel
theorem dX12_more_11 : decode cX12_more 11 = .ok (.dup, 1) := by decide +kernel
theorem dX12_more_12 : decode cX12_more 12 = .ok (.getfield 160, 3) := by decide +kernel
theorem dX12_more_15 : decode cX12_more 15 = .ok (.iconst 1, 1) := by decide +kernel
theorem dX12_more_16 : decode cX12_more 16 = .ok (.iadd, 1) := by decide +kernel
theorem dX12_more_17 : decode cX12_more 17 = .ok (.putfield 160, 3) := by decide +kernel
theorem dX12_more_20 : decode cX12_more 20 = .ok (.return_, 1) := by decide +kernel
theorem dX12_find_0 : decode cX12_find 0 = .ok (.sipush 256, 3) := by decide +kernel
theorem dX12_find_3 : decode cX12_find 3 = .ok (.iload_n 1, 1) := by decide +kernel
theorem dX12_find_4 : decode cX12_find 4 = .ok (.imul, 1) := by decide +kernel
theorem dX12_find_5 : decode cX12_find 5 = .ok (.lload_n 2, 1) := by decide +kernel
theorem dX12_find_6 : decode cX12_find 6 = .ok (.l2i, 1) := by decide +kernel
theorem dX12_find_7 : decode cX12_find 7 = .ok (.iadd, 1) := by decide +kernel
theorem dX12_find_8 : decode cX12_find 8 = .ok (.istore 4, 2) := by decide +kernel
theorem dX12_find_10 : decode cX12_find 10 = .ok (.iconst 0, 1) := by decide +kernel
theorem dX12_find_11 : decode cX12_find 11 = .ok (.istore 5, 2) := by decide +kernel
theorem dX12_find_13 : decode cX12_find 13 = .ok (.iload 5, 2) := by decide +kernel
theorem dX12_find_15 : decode cX12_find 15 = .ok (.aload_n 0, 1) := by decide +kernel
theorem dX12_find_16 : decode cX12_find 16 = .ok (.getfield 164, 3) := by decide +kernel
theorem dX12_find_19 : decode cX12_find 19 = .ok (.if_icmp .ge 106, 3) := by decide +kernel
theorem dX12_find_22 : decode cX12_find 22 = .ok (.aload_n 0, 1) := by decide +kernel
theorem dX12_find_23 : decode cX12_find 23 = .ok (.getfield 7, 3) := by decide +kernel
theorem dX12_find_26 : decode cX12_find 26 = .ok (.iload 5, 2) := by decide +kernel
theorem dX12_find_28 : decode cX12_find 28 = .ok (.iaload, 1) := by decide +kernel
theorem dX12_find_29 : decode cX12_find 29 = .ok (.iload 4, 2) := by decide +kernel
theorem dX12_find_31 : decode cX12_find 31 = .ok (.if_icmp .ne 21, 3) := by decide +kernel
theorem dX12_find_34 : decode cX12_find 34 = .ok (.aload_n 0, 1) := by decide +kernel
theorem dX12_find_35 : decode cX12_find 35 = .ok (.getfield 13, 3) := by decide +kernel
theorem dX12_find_38 : decode cX12_find 38 = .ok (.iload 5, 2) := by decide +kernel
theorem dX12_find_40 : decode cX12_find 40 = .ok (.iaload, 1) := by decide +kernel
theorem dX12_find_41 : decode cX12_find 41 = .ok (.aload_n 0, 1) := by decide +kernel
theorem dX12_find_42 : decode cX12_find 42 = .ok (.getfield 160, 3) := by decide +kernel
theorem dX12_find_45 : decode cX12_find 45 = .ok (.if_icmp .ne 7, 3) := by decide +kernel
theorem dX12_find_48 : decode cX12_find 48 = .ok (.iconst 1, 1) := by decide +kernel
theorem dX12_find_49 : decode cX12_find 49 = .ok (.goto 4, 3) := by decide +kernel
theorem dX12_find_52 : decode cX12_find 52 = .ok (.iconst 0, 1) := by decide +kernel
theorem dX12_find_53 : decode cX12_find 53 = .ok (.istore 6, 2) := by decide +kernel
theorem dX12_find_55 : decode cX12_find 55 = .ok (.iconst 0, 1) := by decide +kernel
theorem dX12_find_56 : decode cX12_find 56 = .ok (.istore 7, 2) := by decide +kernel
theorem dX12_find_58 : decode cX12_find 58 = .ok (.iload 7, 2) := by decide +kernel
theorem dX12_find_60 : decode cX12_find 60 = .ok (.aload_n 0, 1) := by decide +kernel
theorem dX12_find_61 : decode cX12_find 61 = .ok (.getfield 160, 3) := by decide +kernel
theorem dX12_find_64 : decode cX12_find 64 = .ok (.if_icmp .ge 45, 3) := by decide +kernel
theorem dX12_find_67 : decode cX12_find 67 = .ok (.iload 6, 2) := by decide +kernel
theorem dX12_find_69 : decode cX12_find 69 = .ok (.ifCond .eq 40, 3) := by decide +kernel
theorem dX12_find_72 : decode cX12_find 72 = .ok (.aload_n 0, 1) := by decide +kernel
theorem dX12_find_73 : decode cX12_find 73 = .ok (.getfield 17, 3) := by decide +kernel
theorem dX12_find_76 : decode cX12_find 76 = .ok (.bipush 12, 2) := by decide +kernel
theorem dX12_find_78 : decode cX12_find 78 = .ok (.iload 5, 2) := by decide +kernel
theorem dX12_find_80 : decode cX12_find 80 = .ok (.imul, 1) := by decide +kernel
theorem dX12_find_81 : decode cX12_find 81 = .ok (.iload 7, 2) := by decide +kernel
theorem dX12_find_83 : decode cX12_find 83 = .ok (.iadd, 1) := by decide +kernel
theorem dX12_find_84 : decode cX12_find 84 = .ok (.laload, 1) := by decide +kernel
theorem dX12_find_85 : decode cX12_find 85 = .ok (.aload_n 0, 1) := by decide +kernel
theorem dX12_find_86 : decode cX12_find 86 = .ok (.getfield 21, 3) := by decide +kernel
theorem dX12_find_89 : decode cX12_find 89 = .ok (.iload 7, 2) := by decide +kernel
theorem dX12_find_91 : decode cX12_find 91 = .ok (.laload, 1) := by decide +kernel
theorem dX12_find_92 : decode cX12_find 92 = .ok (.lcmp, 1) := by decide +kernel
theorem dX12_find_93 : decode cX12_find 93 = .ok (.ifCond .ne 7, 3) := by decide +kernel
theorem dX12_find_96 : decode cX12_find 96 = .ok (.iconst 1, 1) := by decide +kernel
theorem dX12_find_97 : decode cX12_find 97 = .ok (.goto 4, 3) := by decide +kernel
theorem dX12_find_100 : decode cX12_find 100 = .ok (.iconst 0, 1) := by decide +kernel
theorem dX12_find_101 : decode cX12_find 101 = .ok (.istore 6, 2) := by decide +kernel
theorem dX12_find_103 : decode cX12_find 103 = .ok (.iinc 7 1, 3) := by decide +kernel
theorem dX12_find_106 : decode cX12_find 106 = .ok (.goto (-48), 3) := by decide +kernel
theorem dX12_find_109 : decode cX12_find 109 = .ok (.iload 6, 2) := by decide +kernel
theorem dX12_find_111 : decode cX12_find 111 = .ok (.ifCond .eq 8, 3) := by decide +kernel
theorem dX12_find_114 : decode cX12_find 114 = .ok (.iload 5, 2) := by decide +kernel
theorem dX12_find_116 : decode cX12_find 116 = .ok (.iconst 1, 1) := by decide +kernel
theorem dX12_find_117 : decode cX12_find 117 = .ok (.iadd, 1) := by decide +kernel
theorem dX12_find_118 : decode cX12_find 118 = .ok (.ireturn, 1) := by decide +kernel
theorem dX12_find_119 : decode cX12_find 119 = .ok (.iinc 5 1, 3) := by decide +kernel
theorem dX12_find_122 : decode cX12_find 122 = .ok (.goto (-109), 3) := by decide +kernel
theorem dX12_find_125 : decode cX12_find 125 = .ok (.iconst 0, 1) := by decide +kernel
theorem dX12_find_126 : decode cX12_find 126 = .ok (.ireturn, 1) := by decide +kernel
theorem dX12_seal_0 : decode cX12_seal 0 = .ok (.aload_n 0, 1) := by decide +kernel
theorem dX12_seal_1 : decode cX12_seal 1 = .ok (.iload_n 1, 1) := by decide +kernel
theorem dX12_seal_2 : decode cX12_seal 2 = .ok (.lload_n 2, 1) := by decide +kernel
theorem dX12_seal_3 : decode cX12_seal 3 = .ok (.invokevirtual 167, 3) := by decide +kernel
theorem dX12_seal_6 : decode cX12_seal 6 = .ok (.istore 4, 2) := by decide +kernel
theorem dX12_seal_8 : decode cX12_seal 8 = .ok (.iload 4, 2) := by decide +kernel
theorem dX12_seal_10 : decode cX12_seal 10 = .ok (.ifCond .le 6, 3) := by decide +kernel
theorem dX12_seal_13 : decode cX12_seal 13 = .ok (.iload 4, 2) := by decide +kernel
theorem dX12_seal_15 : decode cX12_seal 15 = .ok (.ireturn, 1) := by decide +kernel
theorem dX12_seal_16 : decode cX12_seal 16 = .ok (.aload_n 0, 1) := by decide +kernel
theorem dX12_seal_17 : decode cX12_seal 17 = .ok (.getfield 7, 3) := by decide +kernel
theorem dX12_seal_20 : decode cX12_seal 20 = .ok (.aload_n 0, 1) := by decide +kernel
theorem dX12_seal_21 : decode cX12_seal 21 = .ok (.getfield 164, 3) := by decide +kernel
theorem dX12_seal_24 : decode cX12_seal 24 = .ok (.sipush 256, 3) := by decide +kernel
theorem dX12_seal_27 : decode cX12_seal 27 = .ok (.iload_n 1, 1) := by decide +kernel
theorem dX12_seal_28 : decode cX12_seal 28 = .ok (.imul, 1) := by decide +kernel
theorem dX12_seal_29 : decode cX12_seal 29 = .ok (.lload_n 2, 1) := by decide +kernel
theorem dX12_seal_30 : decode cX12_seal 30 = .ok (.l2i, 1) := by decide +kernel
theorem dX12_seal_31 : decode cX12_seal 31 = .ok (.iadd, 1) := by decide +kernel
theorem dX12_seal_32 : decode cX12_seal 32 = .ok (.iastore, 1) := by decide +kernel
theorem dX12_seal_33 : decode cX12_seal 33 = .ok (.aload_n 0, 1) := by decide +kernel
theorem dX12_seal_34 : decode cX12_seal 34 = .ok (.getfield 13, 3) := by decide +kernel
theorem dX12_seal_37 : decode cX12_seal 37 = .ok (.aload_n 0, 1) := by decide +kernel
theorem dX12_seal_38 : decode cX12_seal 38 = .ok (.getfield 164, 3) := by decide +kernel
theorem dX12_seal_41 : decode cX12_seal 41 = .ok (.aload_n 0, 1) := by decide +kernel
theorem dX12_seal_42 : decode cX12_seal 42 = .ok (.getfield 160, 3) := by decide +kernel
theorem dX12_seal_45 : decode cX12_seal 45 = .ok (.iastore, 1) := by decide +kernel
theorem dX12_seal_46 : decode cX12_seal 46 = .ok (.iconst 0, 1) := by decide +kernel
theorem dX12_seal_47 : decode cX12_seal 47 = .ok (.istore 5, 2) := by decide +kernel
theorem dX12_seal_49 : decode cX12_seal 49 = .ok (.iload 5, 2) := by decide +kernel
theorem dX12_seal_51 : decode cX12_seal 51 = .ok (.aload_n 0, 1) := by decide +kernel
theorem dX12_seal_52 : decode cX12_seal 52 = .ok (.getfield 160, 3) := by decide +kernel
theorem dX12_seal_55 : decode cX12_seal 55 = .ok (.if_icmp .ge 31, 3) := by decide +kernel
theorem dX12_seal_58 : decode cX12_seal 58 = .ok (.aload_n 0, 1) := by decide +kernel
theorem dX12_seal_59 : decode cX12_seal 59 = .ok (.getfield 17, 3) := by decide +kernel
theorem dX12_seal_62 : decode cX12_seal 62 = .ok (.bipush 12, 2) := by decide +kernel
theorem dX12_seal_64 : decode cX12_seal 64 = .ok (.aload_n 0, 1) := by decide +kernel
theorem dX12_seal_65 : decode cX12_seal 65 = .ok (.getfield 164, 3) := by decide +kernel
theorem dX12_seal_68 : decode cX12_seal 68 = .ok (.imul, 1) := by decide +kernel
theorem dX12_seal_69 : decode cX12_seal 69 = .ok (.iload 5, 2) := by decide +kernel
theorem dX12_seal_71 : decode cX12_seal 71 = .ok (.iadd, 1) := by decide +kernel
theorem dX12_seal_72 : decode cX12_seal 72 = .ok (.aload_n 0, 1) := by decide +kernel
theorem dX12_seal_73 : decode cX12_seal 73 = .ok (.getfield 21, 3) := by decide +kernel
theorem dX12_seal_76 : decode cX12_seal 76 = .ok (.iload 5, 2) := by decide +kernel
theorem dX12_seal_78 : decode cX12_seal 78 = .ok (.laload, 1) := by decide +kernel
theorem dX12_seal_79 : decode cX12_seal 79 = .ok (.lastore, 1) := by decide +kernel
theorem dX12_seal_80 : decode cX12_seal 80 = .ok (.iinc 5 1, 3) := by decide +kernel
theorem dX12_seal_83 : decode cX12_seal 83 = .ok (.goto (-34), 3) := by decide +kernel
theorem dX12_seal_86 : decode cX12_seal 86 = .ok (.aload_n 0, 1) := by decide +kernel
theorem dX12_seal_87 : decode cX12_seal 87 = .ok (.dup, 1) := by decide +kernel
theorem dX12_seal_88 : decode cX12_seal 88 = .ok (.getfield 164, 3) := by decide +kernel
theorem dX12_seal_91 : decode cX12_seal 91 = .ok (.iconst 1, 1) := by decide +kernel
theorem dX12_seal_92 : decode cX12_seal 92 = .ok (.iadd, 1) := by decide +kernel
theorem dX12_seal_93 : decode cX12_seal 93 = .ok (.putfield 164, 3) := by decide +kernel
theorem dX12_seal_96 : decode cX12_seal 96 = .ok (.aload_n 0, 1) := by decide +kernel
theorem dX12_seal_97 : decode cX12_seal 97 = .ok (.getfield 164, 3) := by decide +kernel
theorem dX12_seal_100 : decode cX12_seal 100 = .ok (.ireturn, 1) := by decide +kernel
theorem dX12_isGood_0 : decode cX12_isGood 0 = .ok (.lload 4, 2) := by decide +kernel
theorem dX12_isGood_2 : decode cX12_isGood 2 = .ok (.lconst 0, 1) := by decide +kernel
theorem dX12_isGood_3 : decode cX12_isGood 3 = .ok (.lcmp, 1) := by decide +kernel
theorem dX12_isGood_4 : decode cX12_isGood 4 = .ok (.ifCond .le 20, 3) := by decide +kernel
theorem dX12_isGood_7 : decode cX12_isGood 7 = .ok (.aload_n 0, 1) := by decide +kernel
theorem dX12_isGood_8 : decode cX12_isGood 8 = .ok (.iload_n 1, 1) := by decide +kernel
theorem dX12_isGood_9 : decode cX12_isGood 9 = .ok (.lload_n 2, 1) := by decide +kernel
theorem dX12_isGood_10 : decode cX12_isGood 10 = .ok (.invokevirtual 167, 3) := by decide +kernel
theorem dX12_isGood_13 : decode cX12_isGood 13 = .ok (.i2l, 1) := by decide +kernel
theorem dX12_isGood_14 : decode cX12_isGood 14 = .ok (.lload 4, 2) := by decide +kernel
theorem dX12_isGood_16 : decode cX12_isGood 16 = .ok (.lcmp, 1) := by decide +kernel
theorem dX12_isGood_17 : decode cX12_isGood 17 = .ok (.ifCond .ne 7, 3) := by decide +kernel
theorem dX12_isGood_20 : decode cX12_isGood 20 = .ok (.iconst 1, 1) := by decide +kernel
theorem dX12_isGood_21 : decode cX12_isGood 21 = .ok (.goto 4, 3) := by decide +kernel
theorem dX12_isGood_24 : decode cX12_isGood 24 = .ok (.iconst 0, 1) := by decide +kernel
theorem dX12_isGood_25 : decode cX12_isGood 25 = .ok (.ireturn, 1) := by decide +kernel
theorem dX12_lengthOf_0 : decode cX12_lengthOf 0 = .ok (.iload_n 0, 1) := by decide +kernel
theorem dX12_lengthOf_1 : decode cX12_lengthOf 1 = .ok (.tableswitch 67 1 11 #[59, 61, 63, 65, 59, 59, 59, 65, 61, 59, 65], 59) := by decide +kernel
theorem dX12_lengthOf_60 : decode cX12_lengthOf 60 = .ok (.iconst 1, 1) := by decide +kernel
theorem dX12_lengthOf_61 : decode cX12_lengthOf 61 = .ok (.ireturn, 1) := by decide +kernel
theorem dX12_lengthOf_62 : decode cX12_lengthOf 62 = .ok (.iconst 2, 1) := by decide +kernel
theorem dX12_lengthOf_63 : decode cX12_lengthOf 63 = .ok (.ireturn, 1) := by decide +kernel
theorem dX12_lengthOf_64 : decode cX12_lengthOf 64 = .ok (.iconst 5, 1) := by decide +kernel
theorem dX12_lengthOf_65 : decode cX12_lengthOf 65 = .ok (.ireturn, 1) := by decide +kernel
theorem dX12_lengthOf_66 : decode cX12_lengthOf 66 = .ok (.iconst 4, 1) := by decide +kernel
theorem dX12_lengthOf_67 : decode cX12_lengthOf 67 = .ok (.ireturn, 1) := by decide +kernel
theorem dX12_lengthOf_68 : decode cX12_lengthOf 68 = .ok (.iconst 0, 1) := by decide +kernel
theorem dX12_lengthOf_69 : decode cX12_lengthOf 69 = .ok (.ireturn, 1) := by decide +kernel
theorem dX12_has_0 : decode cX12_has 0 = .ok (.iload_n 0, 1) := by decide +kernel
theorem dX12_has_1 : decode cX12_has 1 = .ok (.tableswitch 266 1 11 #[59, 70, 92, 104, 116, 143, 172, 196, 230, 248, 172], 59) := by decide +kernel
theorem dX12_has_60 : decode cX12_has 60 = .ok (.iload_n 1, 1) := by decide +kernel
theorem dX12_has_61 : decode cX12_has 61 = .ok (.iconst 4, 1) := by decide +kernel
theorem dX12_has_62 : decode cX12_has 62 = .ok (.if_icmp .ne 7, 3) := by decide +kernel
theorem dX12_has_65 : decode cX12_has 65 = .ok (.iconst 1, 1) := by decide +kernel
theorem dX12_has_66 : decode cX12_has 66 = .ok (.goto 4, 3) := by decide +kernel
theorem dX12_has_69 : decode cX12_has 69 = .ok (.iconst 0, 1) := by decide +kernel
theorem dX12_has_70 : decode cX12_has 70 = .ok (.ireturn, 1) := by decide +kernel
theorem dX12_has_71 : decode cX12_has 71 = .ok (.iload_n 1, 1) := by decide +kernel
theorem dX12_has_72 : decode cX12_has 72 = .ok (.iconst 1, 1) := by decide +kernel
theorem dX12_has_73 : decode cX12_has 73 = .ok (.if_icmp .eq 14, 3) := by decide +kernel
theorem dX12_has_76 : decode cX12_has 76 = .ok (.iload_n 1, 1) := by decide +kernel
theorem dX12_has_77 : decode cX12_has 77 = .ok (.iconst 2, 1) := by decide +kernel
theorem dX12_has_78 : decode cX12_has 78 = .ok (.if_icmp .eq 9, 3) := by decide +kernel
theorem dX12_has_81 : decode cX12_has 81 = .ok (.iload_n 1, 1) := by decide +kernel
theorem dX12_has_82 : decode cX12_has 82 = .ok (.bipush 8, 2) := by decide +kernel
theorem dX12_has_84 : decode cX12_has 84 = .ok (.if_icmp .ne 7, 3) := by decide +kernel
theorem dX12_has_87 : decode cX12_has 87 = .ok (.iconst 1, 1) := by decide +kernel
theorem dX12_has_88 : decode cX12_has 88 = .ok (.goto 4, 3) := by decide +kernel
theorem dX12_has_91 : decode cX12_has 91 = .ok (.iconst 0, 1) := by decide +kernel
theorem dX12_has_92 : decode cX12_has 92 = .ok (.ireturn, 1) := by decide +kernel
theorem dX12_has_93 : decode cX12_has 93 = .ok (.iload_n 1, 1) := by decide +kernel
theorem dX12_has_94 : decode cX12_has 94 = .ok (.bipush 9, 2) := by decide +kernel
theorem dX12_has_96 : decode cX12_has 96 = .ok (.if_icmp .ne 7, 3) := by decide +kernel
theorem dX12_has_99 : decode cX12_has 99 = .ok (.iconst 1, 1) := by decide +kernel
theorem dX12_has_100 : decode cX12_has 100 = .ok (.goto 4, 3) := by decide +kernel
theorem dX12_has_103 : decode cX12_has 103 = .ok (.iconst 0, 1) := by decide +kernel
theorem dX12_has_104 : decode cX12_has 104 = .ok (.ireturn, 1) := by decide +kernel
theorem dX12_has_105 : decode cX12_has 105 = .ok (.iload_n 1, 1) := by decide +kernel
theorem dX12_has_106 : decode cX12_has 106 = .ok (.bipush 6, 2) := by decide +kernel
theorem dX12_has_108 : decode cX12_has 108 = .ok (.if_icmp .ne 7, 3) := by decide +kernel
theorem dX12_has_111 : decode cX12_has 111 = .ok (.iconst 1, 1) := by decide +kernel
theorem dX12_has_112 : decode cX12_has 112 = .ok (.goto 4, 3) := by decide +kernel
theorem dX12_has_115 : decode cX12_has 115 = .ok (.iconst 0, 1) := by decide +kernel
theorem dX12_has_116 : decode cX12_has 116 = .ok (.ireturn, 1) := by decide +kernel
theorem dX12_has_117 : decode cX12_has 117 = .ok (.iload_n 1, 1) := by decide +kernel
theorem dX12_has_118 : decode cX12_has 118 = .ok (.iconst 3, 1) := by decide +kernel
theorem dX12_has_119 : decode cX12_has 119 = .ok (.if_icmp .eq 19, 3) := by decide +kernel
theorem dX12_has_122 : decode cX12_has 122 = .ok (.iload_n 1, 1) := by decide +kernel
theorem dX12_has_123 : decode cX12_has 123 = .ok (.iconst 4, 1) := by decide +kernel
theorem dX12_has_124 : decode cX12_has 124 = .ok (.if_icmp .eq 14, 3) := by decide +kernel
theorem dX12_has_127 : decode cX12_has 127 = .ok (.iload_n 1, 1) := by decide +kernel
theorem dX12_has_128 : decode cX12_has 128 = .ok (.iconst 5, 1) := by decide +kernel
theorem dX12_has_129 : decode cX12_has 129 = .ok (.if_icmp .eq 9, 3) := by decide +kernel
theorem dX12_has_132 : decode cX12_has 132 = .ok (.iload_n 1, 1) := by decide +kernel
theorem dX12_has_133 : decode cX12_has 133 = .ok (.bipush 7, 2) := by decide +kernel
theorem dX12_has_135 : decode cX12_has 135 = .ok (.if_icmp .ne 7, 3) := by decide +kernel
theorem dX12_has_138 : decode cX12_has 138 = .ok (.iconst 1, 1) := by decide +kernel
theorem dX12_has_139 : decode cX12_has 139 = .ok (.goto 4, 3) := by decide +kernel
theorem dX12_has_142 : decode cX12_has 142 = .ok (.iconst 0, 1) := by decide +kernel
theorem dX12_has_143 : decode cX12_has 143 = .ok (.ireturn, 1) := by decide +kernel
theorem dX12_has_144 : decode cX12_has 144 = .ok (.iload_n 1, 1) := by decide +kernel
theorem dX12_has_145 : decode cX12_has 145 = .ok (.iconst 2, 1) := by decide +kernel
theorem dX12_has_146 : decode cX12_has 146 = .ok (.if_icmp .eq 21, 3) := by decide +kernel
theorem dX12_has_149 : decode cX12_has 149 = .ok (.iload_n 1, 1) := by decide +kernel
theorem dX12_has_150 : decode cX12_has 150 = .ok (.bipush 6, 2) := by decide +kernel
theorem dX12_has_152 : decode cX12_has 152 = .ok (.if_icmp .eq 15, 3) := by decide +kernel
theorem dX12_has_155 : decode cX12_has 155 = .ok (.iload_n 1, 1) := by decide +kernel
theorem dX12_has_156 : decode cX12_has 156 = .ok (.bipush 7, 2) := by decide +kernel
theorem dX12_has_158 : decode cX12_has 158 = .ok (.if_icmp .eq 9, 3) := by decide +kernel
theorem dX12_has_161 : decode cX12_has 161 = .ok (.iload_n 1, 1) := by decide +kernel
theorem dX12_has_162 : decode cX12_has 162 = .ok (.bipush 8, 2) := by decide +kernel
theorem dX12_has_164 : decode cX12_has 164 = .ok (.if_icmp .ne 7, 3) := by decide +kernel
theorem dX12_has_167 : decode cX12_has 167 = .ok (.iconst 1, 1) := by decide +kernel
theorem dX12_has_168 : decode cX12_has 168 = .ok (.goto 4, 3) := by decide +kernel
theorem dX12_has_171 : decode cX12_has 171 = .ok (.iconst 0, 1) := by decide +kernel
theorem dX12_has_172 : decode cX12_has 172 = .ok (.ireturn, 1) := by decide +kernel
theorem dX12_has_173 : decode cX12_has 173 = .ok (.iload_n 1, 1) := by decide +kernel
theorem dX12_has_174 : decode cX12_has 174 = .ok (.bipush 6, 2) := by decide +kernel
theorem dX12_has_176 : decode cX12_has 176 = .ok (.if_icmp .le 15, 3) := by decide +kernel
theorem dX12_has_179 : decode cX12_has 179 = .ok (.iload_n 1, 1) := by decide +kernel
theorem dX12_has_180 : decode cX12_has 180 = .ok (.bipush 8, 2) := by decide +kernel
theorem dX12_has_182 : decode cX12_has 182 = .ok (.if_icmp .eq 9, 3) := by decide +kernel
theorem dX12_has_185 : decode cX12_has 185 = .ok (.iload_n 1, 1) := by decide +kernel
theorem dX12_has_186 : decode cX12_has 186 = .ok (.bipush 11, 2) := by decide +kernel
theorem dX12_has_188 : decode cX12_has 188 = .ok (.if_icmp .ne 7, 3) := by decide +kernel
theorem dX12_has_191 : decode cX12_has 191 = .ok (.iconst 1, 1) := by decide +kernel
theorem dX12_has_192 : decode cX12_has 192 = .ok (.goto 4, 3) := by decide +kernel
theorem dX12_has_195 : decode cX12_has 195 = .ok (.iconst 0, 1) := by decide +kernel
theorem dX12_has_196 : decode cX12_has 196 = .ok (.ireturn, 1) := by decide +kernel
theorem dX12_has_197 : decode cX12_has 197 = .ok (.iload_n 1, 1) := by decide +kernel
theorem dX12_has_198 : decode cX12_has 198 = .ok (.iconst 1, 1) := by decide +kernel
theorem dX12_has_199 : decode cX12_has 199 = .ok (.if_icmp .eq 26, 3) := by decide +kernel
theorem dX12_has_202 : decode cX12_has 202 = .ok (.iload_n 1, 1) := by decide +kernel
theorem dX12_has_203 : decode cX12_has 203 = .ok (.iconst 2, 1) := by decide +kernel
theorem dX12_has_204 : decode cX12_has 204 = .ok (.if_icmp .eq 21, 3) := by decide +kernel
theorem dX12_has_207 : decode cX12_has 207 = .ok (.iload_n 1, 1) := by decide +kernel
theorem dX12_has_208 : decode cX12_has 208 = .ok (.bipush 8, 2) := by decide +kernel
theorem dX12_has_210 : decode cX12_has 210 = .ok (.if_icmp .eq 15, 3) := by decide +kernel
theorem dX12_has_213 : decode cX12_has 213 = .ok (.iload_n 1, 1) := by decide +kernel
theorem dX12_has_214 : decode cX12_has 214 = .ok (.bipush 10, 2) := by decide +kernel
theorem dX12_has_216 : decode cX12_has 216 = .ok (.if_icmp .eq 9, 3) := by decide +kernel
theorem dX12_has_219 : decode cX12_has 219 = .ok (.iload_n 1, 1) := by decide +kernel
theorem dX12_has_220 : decode cX12_has 220 = .ok (.bipush 11, 2) := by decide +kernel
theorem dX12_has_222 : decode cX12_has 222 = .ok (.if_icmp .ne 7, 3) := by decide +kernel
theorem dX12_has_225 : decode cX12_has 225 = .ok (.iconst 1, 1) := by decide +kernel
theorem dX12_has_226 : decode cX12_has 226 = .ok (.goto 4, 3) := by decide +kernel
theorem dX12_has_229 : decode cX12_has 229 = .ok (.iconst 0, 1) := by decide +kernel
theorem dX12_has_230 : decode cX12_has 230 = .ok (.ireturn, 1) := by decide +kernel
theorem dX12_has_231 : decode cX12_has 231 = .ok (.iload_n 1, 1) := by decide +kernel
theorem dX12_has_232 : decode cX12_has 232 = .ok (.bipush 8, 2) := by decide +kernel
theorem dX12_has_234 : decode cX12_has 234 = .ok (.if_icmp .eq 9, 3) := by decide +kernel
theorem dX12_has_237 : decode cX12_has 237 = .ok (.iload_n 1, 1) := by decide +kernel
theorem dX12_has_238 : decode cX12_has 238 = .ok (.bipush 10, 2) := by decide +kernel
theorem dX12_has_240 : decode cX12_has 240 = .ok (.if_icmp .ne 7, 3) := by decide +kernel
theorem dX12_has_243 : decode cX12_has 243 = .ok (.iconst 1, 1) := by decide +kernel
theorem dX12_has_244 : decode cX12_has 244 = .ok (.goto 4, 3) := by decide +kernel
theorem dX12_has_247 : decode cX12_has 247 = .ok (.iconst 0, 1) := by decide +kernel
theorem dX12_has_248 : decode cX12_has 248 = .ok (.ireturn, 1) := by decide +kernel
theorem dX12_has_249 : decode cX12_has 249 = .ok (.iload_n 1, 1) := by decide +kernel
theorem dX12_has_250 : decode cX12_has 250 = .ok (.bipush 7, 2) := by decide +kernel
theorem dX12_has_252 : decode cX12_has 252 = .ok (.if_icmp .eq 9, 3) := by decide +kernel
theorem dX12_has_255 : decode cX12_has 255 = .ok (.iload_n 1, 1) := by decide +kernel
theorem dX12_has_256 : decode cX12_has 256 = .ok (.bipush 8, 2) := by decide +kernel
theorem dX12_has_258 : decode cX12_has 258 = .ok (.if_icmp .ne 7, 3) := by decide +kernel
theorem dX12_has_261 : decode cX12_has 261 = .ok (.iconst 1, 1) := by decide +kernel
theorem dX12_has_262 : decode cX12_has 262 = .ok (.goto 4, 3) := by decide +kernel
theorem dX12_has_265 : decode cX12_has 265 = .ok (.iconst 0, 1) := by decide +kernel
theorem dX12_has_266 : decode cX12_has 266 = .ok (.ireturn, 1) := by decide +kernel
theorem dX12_has_267 : decode cX12_has 267 = .ok (.iconst 0, 1) := by decide +kernel
theorem dX12_has_268 : decode cX12_has 268 = .ok (.ireturn, 1) := by decide +kernel
theorem dX12_send_0 : decode cX12_send 0 = .ok (.aload_n 0, 1) := by decide +kernel
theorem dX12_send_1 : decode cX12_send 1 = .ok (.getfield 171, 3) := by decide +kernel
theorem dX12_send_4 : decode cX12_send 4 = .ok (.bipush 60, 2) := by decide +kernel
theorem dX12_send_6 : decode cX12_send 6 = .ok (.if_icmp .ne 5, 3) := by decide +kernel
theorem dX12_send_9 : decode cX12_send 9 = .ok (.iconst 0, 1) := by decide +kernel
theorem dX12_send_10 : decode cX12_send 10 = .ok (.ireturn, 1) := by decide +kernel
theorem dX12_send_11 : decode cX12_send 11 = .ok (.bipush 64, 2) := by decide +kernel
theorem dX12_send_13 : decode cX12_send 13 = .ok (.aload_n 0, 1) := by decide +kernel
theorem dX12_send_14 : decode cX12_send 14 = .ok (.getfield 171, 3) := by decide +kernel
theorem dX12_send_17 : decode cX12_send 17 = .ok (.imul, 1) := by decide +kernel
theorem dX12_send_18 : decode cX12_send 18 = .ok (.istore 6, 2) := by decide +kernel
theorem dX12_send_20 : decode cX12_send 20 = .ok (.aload_n 0, 1) := by decide +kernel
theorem dX12_send_21 : decode cX12_send 21 = .ok (.getfield 39, 3) := by decide +kernel
theorem dX12_send_24 : decode cX12_send 24 = .ok (.iload 6, 2) := by decide +kernel
theorem dX12_send_26 : decode cX12_send 26 = .ok (.iload_n 1, 1) := by decide +kernel
theorem dX12_send_27 : decode cX12_send 27 = .ok (.iastore, 1) := by decide +kernel
theorem dX12_send_28 : decode cX12_send 28 = .ok (.iconst 1, 1) := by decide +kernel
theorem dX12_send_29 : decode cX12_send 29 = .ok (.istore 7, 2) := by decide +kernel
theorem dX12_send_31 : decode cX12_send 31 = .ok (.iconst 1, 1) := by decide +kernel
theorem dX12_send_32 : decode cX12_send 32 = .ok (.istore 8, 2) := by decide +kernel
theorem dX12_send_34 : decode cX12_send 34 = .ok (.iload 8, 2) := by decide +kernel
theorem dX12_send_36 : decode cX12_send 36 = .ok (.bipush 11, 2) := by decide +kernel
theorem dX12_send_38 : decode cX12_send 38 = .ok (.if_icmp .gt 114, 3) := by decide +kernel
theorem dX12_send_41 : decode cX12_send 41 = .ok (.iload_n 1, 1) := by decide +kernel
theorem dX12_send_42 : decode cX12_send 42 = .ok (.iload 8, 2) := by decide +kernel
theorem dX12_send_44 : decode cX12_send 44 = .ok (.invokestatic 174, 3) := by decide +kernel
theorem dX12_send_47 : decode cX12_send 47 = .ok (.ifCond .eq 99, 3) := by decide +kernel
theorem dX12_send_50 : decode cX12_send 50 = .ok (.iload 8, 2) := by decide +kernel
theorem dX12_send_52 : decode cX12_send 52 = .ok (.invokestatic 178, 3) := by decide +kernel
theorem dX12_send_55 : decode cX12_send 55 = .ok (.istore 9, 2) := by decide +kernel
theorem dX12_send_57 : decode cX12_send 57 = .ok (.aload_n 0, 1) := by decide +kernel
theorem dX12_send_58 : decode cX12_send 58 = .ok (.getfield 39, 3) := by decide +kernel
theorem dX12_send_61 : decode cX12_send 61 = .ok (.iload 6, 2) := by decide +kernel
theorem dX12_send_63 : decode cX12_send 63 = .ok (.iload 7, 2) := by decide +kernel
theorem dX12_send_65 : decode cX12_send 65 = .ok (.iadd, 1) := by decide +kernel
theorem dX12_send_66 : decode cX12_send 66 = .ok (.iload 8, 2) := by decide +kernel
theorem dX12_send_68 : decode cX12_send 68 = .ok (.iastore, 1) := by decide +kernel
theorem dX12_send_69 : decode cX12_send 69 = .ok (.aload_n 0, 1) := by decide +kernel
theorem dX12_send_70 : decode cX12_send 70 = .ok (.getfield 39, 3) := by decide +kernel
theorem dX12_send_73 : decode cX12_send 73 = .ok (.iload 6, 2) := by decide +kernel
theorem dX12_send_75 : decode cX12_send 75 = .ok (.iload 7, 2) := by decide +kernel
theorem dX12_send_77 : decode cX12_send 77 = .ok (.iadd, 1) := by decide +kernel
theorem dX12_send_78 : decode cX12_send 78 = .ok (.iconst 1, 1) := by decide +kernel
theorem dX12_send_79 : decode cX12_send 79 = .ok (.iadd, 1) := by decide +kernel
theorem dX12_send_80 : decode cX12_send 80 = .ok (.iload 9, 2) := by decide +kernel
theorem dX12_send_82 : decode cX12_send 82 = .ok (.iastore, 1) := by decide +kernel
theorem dX12_send_83 : decode cX12_send 83 = .ok (.iconst 0, 1) := by decide +kernel
theorem dX12_send_84 : decode cX12_send 84 = .ok (.istore 10, 2) := by decide +kernel
theorem dX12_send_86 : decode cX12_send 86 = .ok (.iload 10, 2) := by decide +kernel
theorem dX12_send_88 : decode cX12_send 88 = .ok (.iload 9, 2) := by decide +kernel
theorem dX12_send_90 : decode cX12_send 90 = .ok (.if_icmp .ge 47, 3) := by decide +kernel
theorem dX12_send_93 : decode cX12_send 93 = .ok (.aload_n 0, 1) := by decide +kernel
theorem dX12_send_94 : decode cX12_send 94 = .ok (.getfield 39, 3) := by decide +kernel
theorem dX12_send_97 : decode cX12_send 97 = .ok (.iload 6, 2) := by decide +kernel
theorem dX12_send_99 : decode cX12_send 99 = .ok (.iload 7, 2) := by decide +kernel
theorem dX12_send_101 : decode cX12_send 101 = .ok (.iadd, 1) := by decide +kernel
theorem dX12_send_102 : decode cX12_send 102 = .ok (.iconst 2, 1) := by decide +kernel
theorem dX12_send_103 : decode cX12_send 103 = .ok (.iadd, 1) := by decide +kernel
theorem dX12_send_104 : decode cX12_send 104 = .ok (.iload 10, 2) := by decide +kernel
theorem dX12_send_106 : decode cX12_send 106 = .ok (.iadd, 1) := by decide +kernel
theorem dX12_send_107 : decode cX12_send 107 = .ok (.aload_n 0, 1) := by decide +kernel
theorem dX12_send_108 : decode cX12_send 108 = .ok (.getfield 48, 3) := by decide +kernel
theorem dX12_send_111 : decode cX12_send 111 = .ok (.iload 8, 2) := by decide +kernel
theorem dX12_send_113 : decode cX12_send 113 = .ok (.laload, 1) := by decide +kernel
theorem dX12_send_114 : decode cX12_send 114 = .ok (.bipush 8, 2) := by decide +kernel
theorem dX12_send_116 : decode cX12_send 116 = .ok (.iload 9, 2) := by decide +kernel
theorem dX12_send_118 : decode cX12_send 118 = .ok (.iconst 1, 1) := by decide +kernel
theorem dX12_send_119 : decode cX12_send 119 = .ok (.isub, 1) := by decide +kernel
theorem dX12_send_120 : decode cX12_send 120 = .ok (.iload 10, 2) := by decide +kernel
theorem dX12_send_122 : decode cX12_send 122 = .ok (.isub, 1) := by decide +kernel
theorem dX12_send_123 : decode cX12_send 123 = .ok (.imul, 1) := by decide +kernel
theorem dX12_send_124 : decode cX12_send 124 = .ok (.lshr, 1) := by decide +kernel
theorem dX12_send_125 : decode cX12_send 125 = .ok (.l2i, 1) := by decide +kernel
theorem dX12_send_126 : decode cX12_send 126 = .ok (.sipush 255, 3) := by decide +kernel
theorem dX12_send_129 : decode cX12_send 129 = .ok (.iand, 1) := by decide +kernel
theorem dX12_send_130 : decode cX12_send 130 = .ok (.iastore, 1) := by decide +kernel
theorem dX12_send_131 : decode cX12_send 131 = .ok (.iinc 10 1, 3) := by decide +kernel
theorem dX12_send_134 : decode cX12_send 134 = .ok (.goto (-48), 3) := by decide +kernel
theorem dX12_send_137 : decode cX12_send 137 = .ok (.iload 7, 2) := by decide +kernel
theorem dX12_send_139 : decode cX12_send 139 = .ok (.iconst 2, 1) := by decide +kernel
theorem dX12_send_140 : decode cX12_send 140 = .ok (.iload 9, 2) := by decide +kernel
theorem dX12_send_142 : decode cX12_send 142 = .ok (.iadd, 1) := by decide +kernel
theorem dX12_send_143 : decode cX12_send 143 = .ok (.iadd, 1) := by decide +kernel
theorem dX12_send_144 : decode cX12_send 144 = .ok (.istore 7, 2) := by decide +kernel
theorem dX12_send_146 : decode cX12_send 146 = .ok (.iinc 8 1, 3) := by decide +kernel
theorem dX12_send_149 : decode cX12_send 149 = .ok (.goto (-115), 3) := by decide +kernel
theorem dX12_send_152 : decode cX12_send 152 = .ok (.aload_n 0, 1) := by decide +kernel
theorem dX12_send_153 : decode cX12_send 153 = .ok (.iload_n 2, 1) := by decide +kernel
theorem dX12_send_154 : decode cX12_send 154 = .ok (.iload_n 3, 1) := by decide +kernel
theorem dX12_send_155 : decode cX12_send 155 = .ok (.iload 4, 2) := by decide +kernel
theorem dX12_send_157 : decode cX12_send 157 = .ok (.iload 5, 2) := by decide +kernel
theorem dX12_send_159 : decode cX12_send 159 = .ok (.iload 7, 2) := by decide +kernel
theorem dX12_send_161 : decode cX12_send 161 = .ok (.invokevirtual 182, 3) := by decide +kernel
theorem dX12_send_164 : decode cX12_send 164 = .ok (.iconst 1, 1) := by decide +kernel
theorem dX12_send_165 : decode cX12_send 165 = .ok (.ireturn, 1) := by decide +kernel
theorem dX12_lie_0 : decode cX12_lie 0 = .ok (.aload_n 0, 1) := by decide +kernel
theorem dX12_lie_1 : decode cX12_lie 1 = .ok (.getfield 24, 3) := by decide +kernel
theorem dX12_lie_4 : decode cX12_lie 4 = .ok (.aload_n 0, 1) := by decide +kernel
theorem dX12_lie_5 : decode cX12_lie 5 = .ok (.getfield 171, 3) := by decide +kernel
theorem dX12_lie_8 : decode cX12_lie 8 = .ok (.iload_n 1, 1) := by decide +kernel
theorem dX12_lie_9 : decode cX12_lie 9 = .ok (.iastore, 1) := by decide +kernel
theorem dX12_lie_10 : decode cX12_lie 10 = .ok (.aload_n 0, 1) := by decide +kernel
theorem dX12_lie_11 : decode cX12_lie 11 = .ok (.getfield 27, 3) := by decide +kernel
theorem dX12_lie_14 : decode cX12_lie 14 = .ok (.aload_n 0, 1) := by decide +kernel
theorem dX12_lie_15 : decode cX12_lie 15 = .ok (.getfield 171, 3) := by decide +kernel
theorem dX12_lie_18 : decode cX12_lie 18 = .ok (.iload_n 2, 1) := by decide +kernel
theorem dX12_lie_19 : decode cX12_lie 19 = .ok (.iastore, 1) := by decide +kernel
theorem dX12_lie_20 : decode cX12_lie 20 = .ok (.aload_n 0, 1) := by decide +kernel
theorem dX12_lie_21 : decode cX12_lie 21 = .ok (.getfield 30, 3) := by decide +kernel
theorem dX12_lie_24 : decode cX12_lie 24 = .ok (.aload_n 0, 1) := by decide +kernel
theorem dX12_lie_25 : decode cX12_lie 25 = .ok (.getfield 171, 3) := by decide +kernel
theorem dX12_lie_28 : decode cX12_lie 28 = .ok (.iload_n 3, 1) := by decide +kernel
theorem dX12_lie_29 : decode cX12_lie 29 = .ok (.iastore, 1) := by decide +kernel
theorem dX12_lie_30 : decode cX12_lie 30 = .ok (.aload_n 0, 1) := by decide +kernel
theorem dX12_lie_31 : decode cX12_lie 31 = .ok (.getfield 33, 3) := by decide +kernel
theorem dX12_lie_34 : decode cX12_lie 34 = .ok (.aload_n 0, 1) := by decide +kernel
theorem dX12_lie_35 : decode cX12_lie 35 = .ok (.getfield 171, 3) := by decide +kernel
theorem dX12_lie_38 : decode cX12_lie 38 = .ok (.iload 4, 2) := by decide +kernel
theorem dX12_lie_40 : decode cX12_lie 40 = .ok (.iastore, 1) := by decide +kernel
theorem dX12_lie_41 : decode cX12_lie 41 = .ok (.aload_n 0, 1) := by decide +kernel
theorem dX12_lie_42 : decode cX12_lie 42 = .ok (.getfield 36, 3) := by decide +kernel
theorem dX12_lie_45 : decode cX12_lie 45 = .ok (.aload_n 0, 1) := by decide +kernel
theorem dX12_lie_46 : decode cX12_lie 46 = .ok (.getfield 171, 3) := by decide +kernel
theorem dX12_lie_49 : decode cX12_lie 49 = .ok (.iload 5, 2) := by decide +kernel
theorem dX12_lie_51 : decode cX12_lie 51 = .ok (.iastore, 1) := by decide +kernel
theorem dX12_lie_52 : decode cX12_lie 52 = .ok (.aload_n 0, 1) := by decide +kernel
theorem dX12_lie_53 : decode cX12_lie 53 = .ok (.dup, 1) := by decide +kernel
theorem dX12_lie_54 : decode cX12_lie 54 = .ok (.getfield 171, 3) := by decide +kernel
theorem dX12_lie_57 : decode cX12_lie 57 = .ok (.iconst 1, 1) := by decide +kernel
theorem dX12_lie_58 : decode cX12_lie 58 = .ok (.iadd, 1) := by decide +kernel
theorem dX12_lie_59 : decode cX12_lie 59 = .ok (.putfield 171, 3) := by decide +kernel
theorem dX12_lie_62 : decode cX12_lie 62 = .ok (.return_, 1) := by decide +kernel
