theorem dX10_handOut_251 : decode cX10_handOut 251 = .ok (.iload 10, 2) := by decide +kernel
theorem dX10_handOut_253 : decode cX10_handOut 253 = .ok (.invokestatic 200, 3) := by decide +kernel
theorem dX10_handOut_256 : decode cX10_handOut 256 = .ok (.iadd, 1) := by decide +kernel
theorem dX10_handOut_257 : decode cX10_handOut 257 = .ok (.iconst 4, 1) := by decide +kernel
theorem dX10_handOut_258 : decode cX10_handOut 258 = .ok (.iload 6, 2) := by decide +kernel
theorem dX10_handOut_260 : decode cX10_handOut 260 = .ok (.iload 10, 2) := by decide +kernel
theorem dX10_handOut_262 : decode cX10_handOut 262 = .ok (.invokestatic 200, 3) := by decide +kernel
theorem dX10_handOut_265 : decode cX10_handOut 265 = .ok (.iadd, 1) := by decide +kernel
theorem dX10_handOut_266 : decode cX10_handOut 266 = .ok (.iconst 5, 1) := by decide +kernel
theorem dX10_handOut_267 : decode cX10_handOut 267 = .ok (.iload 4, 2) := by decide +kernel
theorem dX10_handOut_269 : decode cX10_handOut 269 = .ok (.iload 10, 2) := by decide +kernel
theorem dX10_handOut_271 : decode cX10_handOut 271 = .ok (.invokestatic 200, 3) := by decide +kernel
theorem dX10_handOut_274 : decode cX10_handOut 274 = .ok (.iadd, 1) := by decide +kernel
theorem dX10_handOut_275 : decode cX10_handOut 275 = .ok (.bipush 6, 2) := by decide +kernel
theorem dX10_handOut_277 : decode cX10_handOut 277 = .ok (.iload_n 3, 1) := by decide +kernel
theorem dX10_handOut_278 : decode cX10_handOut 278 = .ok (.iload 10, 2) := by decide +kernel
theorem dX10_handOut_280 : decode cX10_handOut 280 = .ok (.invokestatic 200, 3) := by decide +kernel
theorem dX10_handOut_283 : decode cX10_handOut 283 = .ok (.iadd, 1) := by decide +kernel
theorem dX10_handOut_284 : decode cX10_handOut 284 = .ok (.invokevirtual 174, 3) := by decide +kernel
theorem dX10_handOut_287 : decode cX10_handOut 287 = .ok (.iload 6, 2) := by decide +kernel
theorem dX10_handOut_289 : decode cX10_handOut 289 = .ok (.iload 7, 2) := by decide +kernel
theorem dX10_handOut_291 : decode cX10_handOut 291 = .ok (.iadd, 1) := by decide +kernel
theorem dX10_handOut_292 : decode cX10_handOut 292 = .ok (.iload 9, 2) := by decide +kernel
theorem dX10_handOut_294 : decode cX10_handOut 294 = .ok (.isub, 1) := by decide +kernel
theorem dX10_handOut_295 : decode cX10_handOut 295 = .ok (.ireturn, 1) := by decide +kernel
theorem dX10_firstWrongStop_0 : decode cX10_firstWrongStop 0 = .ok (.aload_n 0, 1) := by decide +kernel
theorem dX10_firstWrongStop_1 : decode cX10_firstWrongStop 1 = .ok (.getfield 21, 3) := by decide +kernel
theorem dX10_firstWrongStop_4 : decode cX10_firstWrongStop 4 = .ok (.getfield 203, 3) := by decide +kernel
theorem dX10_firstWrongStop_7 : decode cX10_firstWrongStop 7 = .ok (.iload_n 1, 1) := by decide +kernel
theorem dX10_firstWrongStop_8 : decode cX10_firstWrongStop 8 = .ok (.iaload, 1) := by decide +kernel
theorem dX10_firstWrongStop_9 : decode cX10_firstWrongStop 9 = .ok (.istore 4, 2) := by decide +kernel
theorem dX10_firstWrongStop_11 : decode cX10_firstWrongStop 11 = .ok (.aload_n 0, 1) := by decide +kernel
theorem dX10_firstWrongStop_12 : decode cX10_firstWrongStop 12 = .ok (.getfield 21, 3) := by decide +kernel
theorem dX10_firstWrongStop_15 : decode cX10_firstWrongStop 15 = .ok (.getfield 204, 3) := by decide +kernel
theorem dX10_firstWrongStop_18 : decode cX10_firstWrongStop 18 = .ok (.iload_n 1, 1) := by decide +kernel
theorem dX10_firstWrongStop_19 : decode cX10_firstWrongStop 19 = .ok (.iaload, 1) := by decide +kernel
theorem dX10_firstWrongStop_20 : decode cX10_firstWrongStop 20 = .ok (.istore 5, 2) := by decide +kernel
theorem dX10_firstWrongStop_22 : decode cX10_firstWrongStop 22 = .ok (.iload_n 2, 1) := by decide +kernel
theorem dX10_firstWrongStop_23 : decode cX10_firstWrongStop 23 = .ok (.istore 6, 2) := by decide +kernel
theorem dX10_firstWrongStop_25 : decode cX10_firstWrongStop 25 = .ok (.iconst 0, 1) := by decide +kernel
theorem dX10_firstWrongStop_26 : decode cX10_firstWrongStop 26 = .ok (.istore 7, 2) := by decide +kernel
theorem dX10_firstWrongStop_28 : decode cX10_firstWrongStop 28 = .ok (.iconst 0, 1) := by decide +kernel
theorem dX10_firstWrongStop_29 : decode cX10_firstWrongStop 29 = .ok (.istore 8, 2) := by decide +kernel
theorem dX10_firstWrongStop_31 : decode cX10_firstWrongStop 31 = .ok (.iload 8, 2) := by decide +kernel
theorem dX10_firstWrongStop_33 : decode cX10_firstWrongStop 33 = .ok (.aload_n 3, 1) := by decide +kernel
theorem dX10_firstWrongStop_34 : decode cX10_firstWrongStop 34 = .ok (.getfield 205, 3) := by decide +kernel
theorem dX10_firstWrongStop_37 : decode cX10_firstWrongStop 37 = .ok (.if_icmp .ge 127, 3) := by decide +kernel
theorem dX10_firstWrongStop_40 : decode cX10_firstWrongStop 40 = .ok (.aload_n 3, 1) := by decide +kernel
theorem dX10_firstWrongStop_41 : decode cX10_firstWrongStop 41 = .ok (.getfield 210, 3) := by decide +kernel
theorem dX10_firstWrongStop_44 : decode cX10_firstWrongStop 44 = .ok (.iload 8, 2) := by decide +kernel
theorem dX10_firstWrongStop_46 : decode cX10_firstWrongStop 46 = .ok (.iaload, 1) := by decide +kernel
theorem dX10_firstWrongStop_47 : decode cX10_firstWrongStop 47 = .ok (.istore 9, 2) := by decide +kernel
theorem dX10_firstWrongStop_49 : decode cX10_firstWrongStop 49 = .ok (.aload_n 0, 1) := by decide +kernel
theorem dX10_firstWrongStop_50 : decode cX10_firstWrongStop 50 = .ok (.getfield 12, 3) := by decide +kernel
theorem dX10_firstWrongStop_53 : decode cX10_firstWrongStop 53 = .ok (.iload 9, 2) := by decide +kernel
theorem dX10_firstWrongStop_55 : decode cX10_firstWrongStop 55 = .ok (.invokevirtual 213, 3) := by decide +kernel
theorem dX10_firstWrongStop_58 : decode cX10_firstWrongStop 58 = .ok (.ifCond .eq 14, 3) := by decide +kernel
theorem dX10_firstWrongStop_61 : decode cX10_firstWrongStop 61 = .ok (.iload 7, 2) := by decide +kernel
theorem dX10_firstWrongStop_63 : decode cX10_firstWrongStop 63 = .ok (.iload 9, 2) := by decide +kernel
theorem dX10_firstWrongStop_65 : decode cX10_firstWrongStop 65 = .ok (.ishr, 1) := by decide +kernel
theorem dX10_firstWrongStop_66 : decode cX10_firstWrongStop 66 = .ok (.iconst 1, 1) := by decide +kernel
theorem dX10_firstWrongStop_67 : decode cX10_firstWrongStop 67 = .ok (.iand, 1) := by decide +kernel
theorem dX10_firstWrongStop_68 : decode cX10_firstWrongStop 68 = .ok (.iconst 1, 1) := by decide +kernel
theorem dX10_firstWrongStop_69 : decode cX10_firstWrongStop 69 = .ok (.if_icmp .ne 6, 3) := by decide +kernel
theorem dX10_firstWrongStop_72 : decode cX10_firstWrongStop 72 = .ok (.iload 8, 2) := by decide +kernel
theorem dX10_firstWrongStop_74 : decode cX10_firstWrongStop 74 = .ok (.ireturn, 1) := by decide +kernel
theorem dX10_firstWrongStop_75 : decode cX10_firstWrongStop 75 = .ok (.iload 7, 2) := by decide +kernel
theorem dX10_firstWrongStop_77 : decode cX10_firstWrongStop 77 = .ok (.iconst 1, 1) := by decide +kernel
theorem dX10_firstWrongStop_78 : decode cX10_firstWrongStop 78 = .ok (.iload 9, 2) := by decide +kernel
theorem dX10_firstWrongStop_80 : decode cX10_firstWrongStop 80 = .ok (.ishl, 1) := by decide +kernel
theorem dX10_firstWrongStop_81 : decode cX10_firstWrongStop 81 = .ok (.ior, 1) := by decide +kernel
theorem dX10_firstWrongStop_82 : decode cX10_firstWrongStop 82 = .ok (.istore 7, 2) := by decide +kernel
theorem dX10_firstWrongStop_84 : decode cX10_firstWrongStop 84 = .ok (.iload 6, 2) := by decide +kernel
theorem dX10_firstWrongStop_86 : decode cX10_firstWrongStop 86 = .ok (.iload 4, 2) := by decide +kernel
theorem dX10_firstWrongStop_88 : decode cX10_firstWrongStop 88 = .ok (.iload 5, 2) := by decide +kernel
theorem dX10_firstWrongStop_90 : decode cX10_firstWrongStop 90 = .ok (.aload_n 0, 1) := by decide +kernel
theorem dX10_firstWrongStop_91 : decode cX10_firstWrongStop 91 = .ok (.getfield 12, 3) := by decide +kernel
theorem dX10_firstWrongStop_94 : decode cX10_firstWrongStop 94 = .ok (.getfield 122, 3) := by decide +kernel
theorem dX10_firstWrongStop_97 : decode cX10_firstWrongStop 97 = .ok (.iload 9, 2) := by decide +kernel
theorem dX10_firstWrongStop_99 : decode cX10_firstWrongStop 99 = .ok (.iaload, 1) := by decide +kernel
theorem dX10_firstWrongStop_100 : decode cX10_firstWrongStop 100 = .ok (.aload_n 0, 1) := by decide +kernel
theorem dX10_firstWrongStop_101 : decode cX10_firstWrongStop 101 = .ok (.getfield 12, 3) := by decide +kernel
theorem dX10_firstWrongStop_104 : decode cX10_firstWrongStop 104 = .ok (.getfield 125, 3) := by decide +kernel
theorem dX10_firstWrongStop_107 : decode cX10_firstWrongStop 107 = .ok (.iload 9, 2) := by decide +kernel
theorem dX10_firstWrongStop_109 : decode cX10_firstWrongStop 109 = .ok (.iaload, 1) := by decide +kernel
theorem dX10_firstWrongStop_110 : decode cX10_firstWrongStop 110 = .ok (.invokestatic 216, 3) := by decide +kernel
theorem dX10_firstWrongStop_113 : decode cX10_firstWrongStop 113 = .ok (.iadd, 1) := by decide +kernel
theorem dX10_firstWrongStop_114 : decode cX10_firstWrongStop 114 = .ok (.istore 6, 2) := by decide +kernel
theorem dX10_firstWrongStop_116 : decode cX10_firstWrongStop 116 = .ok (.aload_n 0, 1) := by decide +kernel
theorem dX10_firstWrongStop_117 : decode cX10_firstWrongStop 117 = .ok (.getfield 12, 3) := by decide +kernel
theorem dX10_firstWrongStop_120 : decode cX10_firstWrongStop 120 = .ok (.getfield 122, 3) := by decide +kernel
theorem dX10_firstWrongStop_123 : decode cX10_firstWrongStop 123 = .ok (.iload 9, 2) := by decide +kernel
theorem dX10_firstWrongStop_125 : decode cX10_firstWrongStop 125 = .ok (.iaload, 1) := by decide +kernel
theorem dX10_firstWrongStop_126 : decode cX10_firstWrongStop 126 = .ok (.istore 4, 2) := by decide +kernel
theorem dX10_firstWrongStop_128 : decode cX10_firstWrongStop 128 = .ok (.aload_n 0, 1) := by decide +kernel
theorem dX10_firstWrongStop_129 : decode cX10_firstWrongStop 129 = .ok (.getfield 12, 3) := by decide +kernel
theorem dX10_firstWrongStop_132 : decode cX10_firstWrongStop 132 = .ok (.getfield 125, 3) := by decide +kernel
theorem dX10_firstWrongStop_135 : decode cX10_firstWrongStop 135 = .ok (.iload 9, 2) := by decide +kernel
theorem dX10_firstWrongStop_137 : decode cX10_firstWrongStop 137 = .ok (.iaload, 1) := by decide +kernel
theorem dX10_firstWrongStop_138 : decode cX10_firstWrongStop 138 = .ok (.istore 5, 2) := by decide +kernel
theorem dX10_firstWrongStop_140 : decode cX10_firstWrongStop 140 = .ok (.iload 6, 2) := by decide +kernel
theorem dX10_firstWrongStop_142 : decode cX10_firstWrongStop 142 = .ok (.aload_n 0, 1) := by decide +kernel
theorem dX10_firstWrongStop_143 : decode cX10_firstWrongStop 143 = .ok (.getfield 12, 3) := by decide +kernel
theorem dX10_firstWrongStop_146 : decode cX10_firstWrongStop 146 = .ok (.getfield 219, 3) := by decide +kernel
theorem dX10_firstWrongStop_149 : decode cX10_firstWrongStop 149 = .ok (.iload 9, 2) := by decide +kernel
theorem dX10_firstWrongStop_151 : decode cX10_firstWrongStop 151 = .ok (.iaload, 1) := by decide +kernel
theorem dX10_firstWrongStop_152 : decode cX10_firstWrongStop 152 = .ok (.if_icmp .le 6, 3) := by decide +kernel
theorem dX10_firstWrongStop_155 : decode cX10_firstWrongStop 155 = .ok (.iload 8, 2) := by decide +kernel
theorem dX10_firstWrongStop_157 : decode cX10_firstWrongStop 157 = .ok (.ireturn, 1) := by decide +kernel
theorem dX10_firstWrongStop_158 : decode cX10_firstWrongStop 158 = .ok (.iinc 8 1, 3) := by decide +kernel
theorem dX10_firstWrongStop_161 : decode cX10_firstWrongStop 161 = .ok (.goto (-130), 3) := by decide +kernel
theorem dX10_firstWrongStop_164 : decode cX10_firstWrongStop 164 = .ok (.bipush (-4), 2) := by decide +kernel
theorem dX10_firstWrongStop_166 : decode cX10_firstWrongStop 166 = .ok (.ireturn, 1) := by decide +kernel
theorem dX11_init_0 : decode cX11_init 0 = .ok (.aload_n 0, 1) := by decide +kernel
theorem dX11_init_1 : decode cX11_init 1 = .ok (.invokespecial 3, 3) := by decide +kernel
theorem dX11_init_4 : decode cX11_init 4 = .ok (.aload_n 0, 1) := by decide +kernel
theorem dX11_init_5 : decode cX11_init 5 = .ok (.new 9, 3) := by decide +kernel
theorem dX11_init_8 : decode cX11_init 8 = .ok (.dup, 1) := by decide +kernel
theorem dX11_init_9 : decode cX11_init 9 = .ok (.invokespecial 11, 3) := by decide +kernel
theorem dX11_init_12 : decode cX11_init 12 = .ok (.putfield 12, 3) := by decide +kernel
theorem dX11_init_15 : decode cX11_init 15 = .ok (.aload_n 0, 1) := by decide +kernel
theorem dX11_init_16 : decode cX11_init 16 = .ok (.new 9, 3) := by decide +kernel
theorem dX11_init_19 : decode cX11_init 19 = .ok (.dup, 1) := by decide +kernel
theorem dX11_init_20 : decode cX11_init 20 = .ok (.invokespecial 11, 3) := by decide +kernel
theorem dX11_init_23 : decode cX11_init 23 = .ok (.putfield 16, 3) := by decide +kernel
theorem dX11_init_26 : decode cX11_init 26 = .ok (.aload_n 0, 1) := by decide +kernel
theorem dX11_init_27 : decode cX11_init 27 = .ok (.new 9, 3) := by decide +kernel
theorem dX11_init_30 : decode cX11_init 30 = .ok (.dup, 1) := by decide +kernel
theorem dX11_init_31 : decode cX11_init 31 = .ok (.invokespecial 11, 3) := by decide +kernel
theorem dX11_init_34 : decode cX11_init 34 = .ok (.putfield 19, 3) := by decide +kernel
theorem dX11_init_37 : decode cX11_init 37 = .ok (.aload_n 0, 1) := by decide +kernel
theorem dX11_init_38 : decode cX11_init 38 = .ok (.new 22, 3) := by decide +kernel
theorem dX11_init_41 : decode cX11_init 41 = .ok (.dup, 1) := by decide +kernel
theorem dX11_init_42 : decode cX11_init 42 = .ok (.invokespecial 24, 3) := by decide +kernel
theorem dX11_init_45 : decode cX11_init 45 = .ok (.putfield 25, 3) := by decide +kernel
theorem dX11_init_48 : decode cX11_init 48 = .ok (.aload_n 0, 1) := by decide +kernel
theorem dX11_init_49 : decode cX11_init 49 = .ok (.new 29, 3) := by decide +kernel
theorem dX11_init_52 : decode cX11_init 52 = .ok (.dup, 1) := by decide +kernel
theorem dX11_init_53 : decode cX11_init 53 = .ok (.invokespecial 31, 3) := by decide +kernel
theorem dX11_init_56 : decode cX11_init 56 = .ok (.putfield 32, 3) := by decide +kernel
theorem dX11_init_59 : decode cX11_init 59 = .ok (.aload_n 0, 1) := by decide +kernel
theorem dX11_init_60 : decode cX11_init 60 = .ok (.bipush 8, 2) := by decide +kernel
theorem dX11_init_62 : decode cX11_init 62 = .ok (.anewarray 36, 3) := by decide +kernel
theorem dX11_init_65 : decode cX11_init 65 = .ok (.putfield 38, 3) := by decide +kernel
theorem dX11_init_68 : decode cX11_init 68 = .ok (.iconst 0, 1) := by decide +kernel
theorem dX11_init_69 : decode cX11_init 69 = .ok (.istore_n 1, 1) := by decide +kernel
theorem dX11_init_70 : decode cX11_init 70 = .ok (.iload_n 1, 1) := by decide +kernel
theorem dX11_init_71 : decode cX11_init 71 = .ok (.bipush 8, 2) := by decide +kernel
theorem dX11_init_73 : decode cX11_init 73 = .ok (.if_icmp .ge 22, 3) := by decide +kernel
theorem dX11_init_76 : decode cX11_init 76 = .ok (.aload_n 0, 1) := by decide +kernel
theorem dX11_init_77 : decode cX11_init 77 = .ok (.getfield 38, 3) := by decide +kernel
theorem dX11_init_80 : decode cX11_init 80 = .ok (.iload_n 1, 1) := by decide +kernel
theorem dX11_init_81 : decode cX11_init 81 = .ok (.new 36, 3) := by decide +kernel
theorem dX11_init_84 : decode cX11_init 84 = .ok (.dup, 1) := by decide +kernel
theorem dX11_init_85 : decode cX11_init 85 = .ok (.invokespecial 42, 3) := by decide +kernel
theorem dX11_init_88 : decode cX11_init 88 = .ok (.aastore, 1) := by decide +kernel
theorem dX11_init_89 : decode cX11_init 89 = .ok (.iinc 1 1, 3) := by decide +kernel
theorem dX11_init_92 : decode cX11_init 92 = .ok (.goto (-22), 3) := by decide +kernel
theorem dX11_init_95 : decode cX11_init 95 = .ok (.return_, 1) := by decide +kernel
theorem dX11_school_0 : decode cX11_school 0 = .ok (.iload_n 1, 1) := by decide +kernel
theorem dX11_school_1 : decode cX11_school 1 = .ok (.iconst 0, 1) := by decide +kernel
theorem dX11_school_2 : decode cX11_school 2 = .ok (.iconst 3, 1) := by decide +kernel
theorem dX11_school_3 : decode cX11_school 3 = .ok (.invokestatic 43, 3) := by decide +kernel
theorem dX11_school_6 : decode cX11_school 6 = .ok (.ifCond .eq 14, 3) := by decide +kernel
theorem dX11_school_9 : decode cX11_school 9 = .ok (.iload_n 2, 1) := by decide +kernel
theorem dX11_school_10 : decode cX11_school 10 = .ok (.iconst 0, 1) := by decide +kernel
theorem dX11_school_11 : decode cX11_school 11 = .ok (.sipush 9999, 3) := by decide +kernel
theorem dX11_school_14 : decode cX11_school 14 = .ok (.invokestatic 43, 3) := by decide +kernel
theorem dX11_school_17 : decode cX11_school 17 = .ok (.ifCond .ne 5, 3) := by decide +kernel
theorem dX11_school_20 : decode cX11_school 20 = .ok (.iconst (-1), 1) := by decide +kernel
theorem dX11_school_21 : decode cX11_school 21 = .ok (.ireturn, 1) := by decide +kernel
theorem dX11_school_22 : decode cX11_school 22 = .ok (.aload_n 0, 1) := by decide +kernel
theorem dX11_school_23 : decode cX11_school 23 = .ok (.getfield 12, 3) := by decide +kernel
theorem dX11_school_26 : decode cX11_school 26 = .ok (.getfield 47, 3) := by decide +kernel
theorem dX11_school_29 : decode cX11_school 29 = .ok (.getfield 51, 3) := by decide +kernel
theorem dX11_school_32 : decode cX11_school 32 = .ok (.bipush 12, 2) := by decide +kernel
theorem dX11_school_34 : decode cX11_school 34 = .ok (.if_icmp .lt 6, 3) := by decide +kernel
theorem dX11_school_37 : decode cX11_school 37 = .ok (.bipush (-2), 2) := by decide +kernel
theorem dX11_school_39 : decode cX11_school 39 = .ok (.ireturn, 1) := by decide +kernel
theorem dX11_school_40 : decode cX11_school 40 = .ok (.aload_n 0, 1) := by decide +kernel
theorem dX11_school_41 : decode cX11_school 41 = .ok (.getfield 12, 3) := by decide +kernel
theorem dX11_school_44 : decode cX11_school 44 = .ok (.getfield 47, 3) := by decide +kernel
theorem dX11_school_47 : decode cX11_school 47 = .ok (.iload_n 1, 1) := by decide +kernel
theorem dX11_school_48 : decode cX11_school 48 = .ok (.iload_n 2, 1) := by decide +kernel
theorem dX11_school_49 : decode cX11_school 49 = .ok (.invokevirtual 57, 3) := by decide +kernel
theorem dX11_school_52 : decode cX11_school 52 = .ok (.ireturn, 1) := by decide +kernel
theorem dX11_set_0 : decode cX11_set 0 = .ok (.iload_n 2, 1) := by decide +kernel
theorem dX11_set_1 : decode cX11_set 1 = .ok (.iconst 2, 1) := by decide +kernel
theorem dX11_set_2 : decode cX11_set 2 = .ok (.if_icmp .ne 9, 3) := by decide +kernel
theorem dX11_set_5 : decode cX11_set 5 = .ok (.sipush 999, 3) := by decide +kernel
theorem dX11_set_8 : decode cX11_set 8 = .ok (.goto 5, 3) := by decide +kernel
theorem dX11_set_11 : decode cX11_set 11 = .ok (.bipush 100, 2) := by decide +kernel
theorem dX11_set_13 : decode cX11_set 13 = .ok (.istore 4, 2) := by decide +kernel
theorem dX11_set_15 : decode cX11_set 15 = .ok (.aload_n 0, 1) := by decide +kernel
theorem dX11_set_16 : decode cX11_set 16 = .ok (.getfield 12, 3) := by decide +kernel
theorem dX11_set_19 : decode cX11_set 19 = .ok (.getfield 47, 3) := by decide +kernel
theorem dX11_set_22 : decode cX11_set 22 = .ok (.iload_n 1, 1) := by decide +kernel
theorem dX11_set_23 : decode cX11_set 23 = .ok (.invokevirtual 61, 3) := by decide +kernel
theorem dX11_set_26 : decode cX11_set 26 = .ok (.ifCond .eq 22, 3) := by decide +kernel
theorem dX11_set_29 : decode cX11_set 29 = .ok (.iload_n 2, 1) := by decide +kernel
theorem dX11_set_30 : decode cX11_set 30 = .ok (.iconst 0, 1) := by decide +kernel
theorem dX11_set_31 : decode cX11_set 31 = .ok (.iconst 2, 1) := by decide +kernel
theorem dX11_set_32 : decode cX11_set 32 = .ok (.invokestatic 43, 3) := by decide +kernel
theorem dX11_set_35 : decode cX11_set 35 = .ok (.ifCond .eq 13, 3) := by decide +kernel
theorem dX11_set_38 : decode cX11_set 38 = .ok (.iload_n 3, 1) := by decide +kernel
theorem dX11_set_39 : decode cX11_set 39 = .ok (.iconst 0, 1) := by decide +kernel
theorem dX11_set_40 : decode cX11_set 40 = .ok (.iload 4, 2) := by decide +kernel
theorem dX11_set_42 : decode cX11_set 42 = .ok (.invokestatic 43, 3) := by decide +kernel
theorem dX11_set_45 : decode cX11_set 45 = .ok (.ifCond .ne 5, 3) := by decide +kernel
theorem dX11_set_48 : decode cX11_set 48 = .ok (.iconst (-1), 1) := by decide +kernel
theorem dX11_set_49 : decode cX11_set 49 = .ok (.ireturn, 1) := by decide +kernel
theorem dX11_set_50 : decode cX11_set 50 = .ok (.iload_n 2, 1) := by decide +kernel
theorem dX11_set_51 : decode cX11_set 51 = .ok (.ifCond .ne 16, 3) := by decide +kernel
theorem dX11_set_54 : decode cX11_set 54 = .ok (.aload_n 0, 1) := by decide +kernel
theorem dX11_set_55 : decode cX11_set 55 = .ok (.getfield 12, 3) := by decide +kernel
theorem dX11_set_58 : decode cX11_set 58 = .ok (.getfield 47, 3) := by decide +kernel
theorem dX11_set_61 : decode cX11_set 61 = .ok (.getfield 65, 3) := by decide +kernel
theorem dX11_set_64 : decode cX11_set 64 = .ok (.goto 31, 3) := by decide +kernel
theorem dX11_set_67 : decode cX11_set 67 = .ok (.iload_n 2, 1) := by decide +kernel
theorem dX11_set_68 : decode cX11_set 68 = .ok (.iconst 1, 1) := by decide +kernel
theorem dX11_set_69 : decode cX11_set 69 = .ok (.if_icmp .ne 16, 3) := by decide +kernel
theorem dX11_set_72 : decode cX11_set 72 = .ok (.aload_n 0, 1) := by decide +kernel
theorem dX11_set_73 : decode cX11_set 73 = .ok (.getfield 12, 3) := by decide +kernel
theorem dX11_set_76 : decode cX11_set 76 = .ok (.getfield 47, 3) := by decide +kernel
theorem dX11_set_79 : decode cX11_set 79 = .ok (.getfield 69, 3) := by decide +kernel
theorem dX11_set_82 : decode cX11_set 82 = .ok (.goto 13, 3) := by decide +kernel
theorem dX11_set_85 : decode cX11_set 85 = .ok (.aload_n 0, 1) := by decide +kernel
theorem dX11_set_86 : decode cX11_set 86 = .ok (.getfield 12, 3) := by decide +kernel
theorem dX11_set_89 : decode cX11_set 89 = .ok (.getfield 47, 3) := by decide +kernel
theorem dX11_set_92 : decode cX11_set 92 = .ok (.getfield 72, 3) := by decide +kernel
theorem dX11_set_95 : decode cX11_set 95 = .ok (.astore 5, 2) := by decide +kernel
theorem dX11_set_97 : decode cX11_set 97 = .ok (.aload 5, 2) := by decide +kernel
theorem dX11_set_99 : decode cX11_set 99 = .ok (.iload_n 1, 1) := by decide +kernel
theorem dX11_set_100 : decode cX11_set 100 = .ok (.iaload, 1) := by decide +kernel
theorem dX11_set_101 : decode cX11_set 101 = .ok (.istore 6, 2) := by decide +kernel
theorem dX11_set_103 : decode cX11_set 103 = .ok (.aload 5, 2) := by decide +kernel
theorem dX11_set_105 : decode cX11_set 105 = .ok (.iload_n 1, 1) := by decide +kernel
theorem dX11_set_106 : decode cX11_set 106 = .ok (.iload_n 3, 1) := by decide +kernel
theorem dX11_set_107 : decode cX11_set 107 = .ok (.iastore, 1) := by decide +kernel
theorem dX11_set_108 : decode cX11_set 108 = .ok (.iload 6, 2) := by decide +kernel
theorem dX11_set_110 : decode cX11_set 110 = .ok (.ireturn, 1) := by decide +kernel
theorem dX11_dairy_0 : decode cX11_dairy 0 = .ok (.iload_n 1, 1) := by decide +kernel
theorem dX11_dairy_1 : decode cX11_dairy 1 = .ok (.iconst 0, 1) := by decide +kernel
theorem dX11_dairy_2 : decode cX11_dairy 2 = .ok (.sipush 9999, 3) := by decide +kernel
theorem dX11_dairy_5 : decode cX11_dairy 5 = .ok (.invokestatic 43, 3) := by decide +kernel
theorem dX11_dairy_8 : decode cX11_dairy 8 = .ok (.ifCond .eq 25, 3) := by decide +kernel
theorem dX11_dairy_11 : decode cX11_dairy 11 = .ok (.iload_n 2, 1) := by decide +kernel
theorem dX11_dairy_12 : decode cX11_dairy 12 = .ok (.iconst 0, 1) := by decide +kernel
theorem dX11_dairy_13 : decode cX11_dairy 13 = .ok (.sipush 9999, 3) := by decide +kernel
theorem dX11_dairy_16 : decode cX11_dairy 16 = .ok (.invokestatic 43, 3) := by decide +kernel
theorem dX11_dairy_19 : decode cX11_dairy 19 = .ok (.ifCond .eq 14, 3) := by decide +kernel
theorem dX11_dairy_22 : decode cX11_dairy 22 = .ok (.iload_n 3, 1) := by decide +kernel
theorem dX11_dairy_23 : decode cX11_dairy 23 = .ok (.iconst 1, 1) := by decide +kernel
theorem dX11_dairy_24 : decode cX11_dairy 24 = .ok (.sipush 9999, 3) := by decide +kernel
theorem dX11_dairy_27 : decode cX11_dairy 27 = .ok (.invokestatic 43, 3) := by decide +kernel
theorem dX11_dairy_30 : decode cX11_dairy 30 = .ok (.ifCond .ne 5, 3) := by decide +kernel
theorem dX11_dairy_33 : decode cX11_dairy 33 = .ok (.iconst (-1), 1) := by decide +kernel
theorem dX11_dairy_34 : decode cX11_dairy 34 = .ok (.ireturn, 1) := by decide +kernel
theorem dX11_dairy_35 : decode cX11_dairy 35 = .ok (.aload_n 0, 1) := by decide +kernel
theorem dX11_dairy_36 : decode cX11_dairy 36 = .ok (.getfield 12, 3) := by decide +kernel
theorem dX11_dairy_39 : decode cX11_dairy 39 = .ok (.getfield 75, 3) := by decide +kernel
theorem dX11_dairy_42 : decode cX11_dairy 42 = .ok (.getfield 79, 3) := by decide +kernel
theorem dX11_dairy_45 : decode cX11_dairy 45 = .ok (.iconst 5, 1) := by decide +kernel
theorem dX11_dairy_46 : decode cX11_dairy 46 = .ok (.if_icmp .lt 6, 3) := by decide +kernel
theorem dX11_dairy_49 : decode cX11_dairy 49 = .ok (.bipush (-2), 2) := by decide +kernel
theorem dX11_dairy_51 : decode cX11_dairy 51 = .ok (.ireturn, 1) := by decide +kernel
theorem dX11_dairy_52 : decode cX11_dairy 52 = .ok (.aload_n 0, 1) := by decide +kernel
theorem dX11_dairy_53 : decode cX11_dairy 53 = .ok (.getfield 12, 3) := by decide +kernel
theorem dX11_dairy_56 : decode cX11_dairy 56 = .ok (.getfield 75, 3) := by decide +kernel
theorem dX11_dairy_59 : decode cX11_dairy 59 = .ok (.iload_n 1, 1) := by decide +kernel
theorem dX11_dairy_60 : decode cX11_dairy 60 = .ok (.iload_n 2, 1) := by decide +kernel
theorem dX11_dairy_61 : decode cX11_dairy 61 = .ok (.iload_n 3, 1) := by decide +kernel
theorem dX11_dairy_62 : decode cX11_dairy 62 = .ok (.invokevirtual 82, 3) := by decide +kernel
theorem dX11_dairy_65 : decode cX11_dairy 65 = .ok (.ireturn, 1) := by decide +kernel
theorem dX11_bid_0 : decode cX11_bid 0 = .ok (.aload_n 0, 1) := by decide +kernel
theorem dX11_bid_1 : decode cX11_bid 1 = .ok (.getfield 12, 3) := by decide +kernel
theorem dX11_bid_4 : decode cX11_bid 4 = .ok (.getfield 75, 3) := by decide +kernel
theorem dX11_bid_7 : decode cX11_bid 7 = .ok (.iload_n 1, 1) := by decide +kernel
theorem dX11_bid_8 : decode cX11_bid 8 = .ok (.invokevirtual 85, 3) := by decide +kernel
theorem dX11_bid_11 : decode cX11_bid 11 = .ok (.ifCond .eq 23, 3) := by decide +kernel
theorem dX11_bid_14 : decode cX11_bid 14 = .ok (.iload_n 2, 1) := by decide +kernel
theorem dX11_bid_15 : decode cX11_bid 15 = .ok (.iconst 0, 1) := by decide +kernel
theorem dX11_bid_16 : decode cX11_bid 16 = .ok (.iconst 3, 1) := by decide +kernel
theorem dX11_bid_17 : decode cX11_bid 17 = .ok (.invokestatic 43, 3) := by decide +kernel
theorem dX11_bid_20 : decode cX11_bid 20 = .ok (.ifCond .eq 14, 3) := by decide +kernel
theorem dX11_bid_23 : decode cX11_bid 23 = .ok (.iload_n 3, 1) := by decide +kernel
theorem dX11_bid_24 : decode cX11_bid 24 = .ok (.iconst (-1), 1) := by decide +kernel
theorem dX11_bid_25 : decode cX11_bid 25 = .ok (.sipush 999, 3) := by decide +kernel
theorem dX11_bid_28 : decode cX11_bid 28 = .ok (.invokestatic 43, 3) := by decide +kernel
theorem dX11_bid_31 : decode cX11_bid 31 = .ok (.ifCond .ne 5, 3) := by decide +kernel
theorem dX11_bid_34 : decode cX11_bid 34 = .ok (.iconst (-1), 1) := by decide +kernel
theorem dX11_bid_35 : decode cX11_bid 35 = .ok (.ireturn, 1) := by decide +kernel
theorem dX11_bid_36 : decode cX11_bid 36 = .ok (.iload_n 1, 1) := by decide +kernel
theorem dX11_bid_37 : decode cX11_bid 37 = .ok (.iconst 4, 1) := by decide +kernel
theorem dX11_bid_38 : decode cX11_bid 38 = .ok (.imul, 1) := by decide +kernel
theorem dX11_bid_39 : decode cX11_bid 39 = .ok (.iload_n 2, 1) := by decide +kernel
theorem dX11_bid_40 : decode cX11_bid 40 = .ok (.iadd, 1) := by decide +kernel
theorem dX11_bid_41 : decode cX11_bid 41 = .ok (.istore 4, 2) := by decide +kernel
theorem dX11_bid_43 : decode cX11_bid 43 = .ok (.aload_n 0, 1) := by decide +kernel
theorem dX11_bid_44 : decode cX11_bid 44 = .ok (.getfield 12, 3) := by decide +kernel
theorem dX11_bid_47 : decode cX11_bid 47 = .ok (.getfield 75, 3) := by decide +kernel
theorem dX11_bid_50 : decode cX11_bid 50 = .ok (.getfield 86, 3) := by decide +kernel
theorem dX11_bid_53 : decode cX11_bid 53 = .ok (.iload 4, 2) := by decide +kernel
theorem dX11_bid_55 : decode cX11_bid 55 = .ok (.iaload, 1) := by decide +kernel
theorem dX11_bid_56 : decode cX11_bid 56 = .ok (.istore 5, 2) := by decide +kernel
theorem dX11_bid_58 : decode cX11_bid 58 = .ok (.aload_n 0, 1) := by decide +kernel
theorem dX11_bid_59 : decode cX11_bid 59 = .ok (.getfield 12, 3) := by decide +kernel
theorem dX11_bid_62 : decode cX11_bid 62 = .ok (.getfield 75, 3) := by decide +kernel
theorem dX11_bid_65 : decode cX11_bid 65 = .ok (.getfield 86, 3) := by decide +kernel
theorem dX11_bid_68 : decode cX11_bid 68 = .ok (.iload 4, 2) := by decide +kernel
theorem dX11_bid_70 : decode cX11_bid 70 = .ok (.iload_n 3, 1) := by decide +kernel
theorem dX11_bid_71 : decode cX11_bid 71 = .ok (.iastore, 1) := by decide +kernel
theorem dX11_bid_72 : decode cX11_bid 72 = .ok (.iload 5, 2) := by decide +kernel
theorem dX11_bid_74 : decode cX11_bid 74 = .ok (.iconst (-1), 1) := by decide +kernel
theorem dX11_bid_75 : decode cX11_bid 75 = .ok (.if_icmp .ne 8, 3) := by decide +kernel
theorem dX11_bid_78 : decode cX11_bid 78 = .ok (.bipush (-4), 2) := by decide +kernel
theorem dX11_bid_80 : decode cX11_bid 80 = .ok (.goto 5, 3) := by decide +kernel
theorem dX11_bid_83 : decode cX11_bid 83 = .ok (.iload 5, 2) := by decide +kernel
theorem dX11_bid_85 : decode cX11_bid 85 = .ok (.ireturn, 1) := by decide +kernel
theorem dX11_won_0 : decode cX11_won 0 = .ok (.iload_n 1, 1) := by decide +kernel
theorem dX11_won_1 : decode cX11_won 1 = .ok (.iconst 0, 1) := by decide +kernel
theorem dX11_won_2 : decode cX11_won 2 = .ok (.iconst 3, 1) := by decide +kernel
theorem dX11_won_3 : decode cX11_won 3 = .ok (.invokestatic 43, 3) := by decide +kernel
theorem dX11_won_6 : decode cX11_won 6 = .ok (.ifCond .ne 5, 3) := by decide +kernel
theorem dX11_won_9 : decode cX11_won 9 = .ok (.iconst (-1), 1) := by decide +kernel
theorem dX11_won_10 : decode cX11_won 10 = .ok (.ireturn, 1) := by decide +kernel
theorem dX11_won_11 : decode cX11_won 11 = .ok (.aload_n 0, 1) := by decide +kernel
theorem dX11_won_12 : decode cX11_won 12 = .ok (.getfield 12, 3) := by decide +kernel
theorem dX11_won_15 : decode cX11_won 15 = .ok (.getfield 75, 3) := by decide +kernel
theorem dX11_won_18 : decode cX11_won 18 = .ok (.iload_n 1, 1) := by decide +kernel
theorem dX11_won_19 : decode cX11_won 19 = .ok (.invokevirtual 89, 3) := by decide +kernel
theorem dX11_won_22 : decode cX11_won 22 = .ok (.istore_n 2, 1) := by decide +kernel
theorem dX11_won_23 : decode cX11_won 23 = .ok (.iload_n 2, 1) := by decide +kernel
theorem dX11_won_24 : decode cX11_won 24 = .ok (.ifCond .ge 8, 3) := by decide +kernel
theorem dX11_won_27 : decode cX11_won 27 = .ok (.bipush (-4), 2) := by decide +kernel
theorem dX11_won_29 : decode cX11_won 29 = .ok (.goto 4, 3) := by decide +kernel
theorem dX11_won_32 : decode cX11_won 32 = .ok (.iload_n 2, 1) := by decide +kernel
theorem dX11_won_33 : decode cX11_won 33 = .ok (.ireturn, 1) := by decide +kernel
theorem dX11_bottles_0 : decode cX11_bottles 0 = .ok (.aload_n 0, 1) := by decide +kernel
theorem dX11_bottles_1 : decode cX11_bottles 1 = .ok (.getfield 12, 3) := by decide +kernel
theorem dX11_bottles_4 : decode cX11_bottles 4 = .ok (.getfield 75, 3) := by decide +kernel
theorem dX11_bottles_7 : decode cX11_bottles 7 = .ok (.iload_n 1, 1) := by decide +kernel
theorem dX11_bottles_8 : decode cX11_bottles 8 = .ok (.invokevirtual 85, 3) := by decide +kernel
theorem dX11_bottles_11 : decode cX11_bottles 11 = .ok (.ifCond .eq 18, 3) := by decide +kernel
theorem dX11_bottles_14 : decode cX11_bottles 14 = .ok (.aload_n 0, 1) := by decide +kernel
theorem dX11_bottles_15 : decode cX11_bottles 15 = .ok (.getfield 12, 3) := by decide +kernel
theorem dX11_bottles_18 : decode cX11_bottles 18 = .ok (.getfield 75, 3) := by decide +kernel
theorem dX11_bottles_21 : decode cX11_bottles 21 = .ok (.getfield 93, 3) := by decide +kernel
theorem dX11_bottles_24 : decode cX11_bottles 24 = .ok (.iload_n 1, 1) := by decide +kernel
theorem dX11_bottles_25 : decode cX11_bottles 25 = .ok (.iaload, 1) := by decide +kernel
theorem dX11_bottles_26 : decode cX11_bottles 26 = .ok (.goto 4, 3) := by decide +kernel
theorem dX11_bottles_29 : decode cX11_bottles 29 = .ok (.iconst (-1), 1) := by decide +kernel
theorem dX11_bottles_30 : decode cX11_bottles 30 = .ok (.ireturn, 1) := by decide +kernel
theorem dX11_month_0 : decode cX11_month 0 = .ok (.iload_n 2, 1) := by decide +kernel
theorem dX11_month_1 : decode cX11_month 1 = .ok (.ifCond .ne 8, 3) := by decide +kernel
theorem dX11_month_4 : decode cX11_month 4 = .ok (.bipush 100, 2) := by decide +kernel
theorem dX11_month_6 : decode cX11_month 6 = .ok (.goto 15, 3) := by decide +kernel
theorem dX11_month_9 : decode cX11_month 9 = .ok (.iload_n 2, 1) := by decide +kernel
theorem dX11_month_10 : decode cX11_month 10 = .ok (.iconst 1, 1) := by decide +kernel
theorem dX11_month_11 : decode cX11_month 11 = .ok (.if_icmp .ne 8, 3) := by decide +kernel
theorem dX11_month_14 : decode cX11_month 14 = .ok (.bipush 99, 2) := by decide +kernel
theorem dX11_month_16 : decode cX11_month 16 = .ok (.goto 5, 3) := by decide +kernel
theorem dX11_month_19 : decode cX11_month 19 = .ok (.ldc 96, 2) := by decide +kernel
theorem dX11_month_21 : decode cX11_month 21 = .ok (.istore 4, 2) := by decide +kernel
theorem dX11_month_23 : decode cX11_month 23 = .ok (.iload_n 1, 1) := by decide +kernel
theorem dX11_month_24 : decode cX11_month 24 = .ok (.iconst 0, 1) := by decide +kernel
theorem dX11_month_25 : decode cX11_month 25 = .ok (.bipush 11, 2) := by decide +kernel
theorem dX11_month_27 : decode cX11_month 27 = .ok (.invokestatic 43, 3) := by decide +kernel
theorem dX11_month_30 : decode cX11_month 30 = .ok (.ifCond .eq 22, 3) := by decide +kernel
theorem dX11_month_33 : decode cX11_month 33 = .ok (.iload_n 2, 1) := by decide +kernel
theorem dX11_month_34 : decode cX11_month 34 = .ok (.iconst 0, 1) := by decide +kernel
theorem dX11_month_35 : decode cX11_month 35 = .ok (.iconst 2, 1) := by decide +kernel
theorem dX11_month_36 : decode cX11_month 36 = .ok (.invokestatic 43, 3) := by decide +kernel
theorem dX11_month_39 : decode cX11_month 39 = .ok (.ifCond .eq 13, 3) := by decide +kernel
theorem dX11_month_42 : decode cX11_month 42 = .ok (.iload_n 3, 1) := by decide +kernel
theorem dX11_month_43 : decode cX11_month 43 = .ok (.iconst 0, 1) := by decide +kernel
theorem dX11_month_44 : decode cX11_month 44 = .ok (.iload 4, 2) := by decide +kernel
theorem dX11_month_46 : decode cX11_month 46 = .ok (.invokestatic 43, 3) := by decide +kernel
theorem dX11_month_49 : decode cX11_month 49 = .ok (.ifCond .ne 5, 3) := by decide +kernel
theorem dX11_month_52 : decode cX11_month 52 = .ok (.iconst (-1), 1) := by decide +kernel
theorem dX11_month_53 : decode cX11_month 53 = .ok (.ireturn, 1) := by decide +kernel
theorem dX11_month_54 : decode cX11_month 54 = .ok (.iload_n 1, 1) := by decide +kernel
theorem dX11_month_55 : decode cX11_month 55 = .ok (.iconst 3, 1) := by decide +kernel
theorem dX11_month_56 : decode cX11_month 56 = .ok (.imul, 1) := by decide +kernel
theorem dX11_month_57 : decode cX11_month 57 = .ok (.iload_n 2, 1) := by decide +kernel
theorem dX11_month_58 : decode cX11_month 58 = .ok (.iadd, 1) := by decide +kernel
theorem dX11_month_59 : decode cX11_month 59 = .ok (.istore 5, 2) := by decide +kernel
theorem dX11_month_61 : decode cX11_month 61 = .ok (.aload_n 0, 1) := by decide +kernel
theorem dX11_month_62 : decode cX11_month 62 = .ok (.getfield 12, 3) := by decide +kernel
theorem dX11_month_65 : decode cX11_month 65 = .ok (.getfield 97, 3) := by decide +kernel
theorem dX11_month_68 : decode cX11_month 68 = .ok (.iload 5, 2) := by decide +kernel
theorem dX11_month_70 : decode cX11_month 70 = .ok (.iaload, 1) := by decide +kernel
theorem dX11_month_71 : decode cX11_month 71 = .ok (.istore 6, 2) := by decide +kernel
theorem dX11_month_73 : decode cX11_month 73 = .ok (.aload_n 0, 1) := by decide +kernel
theorem dX11_month_74 : decode cX11_month 74 = .ok (.getfield 12, 3) := by decide +kernel
theorem dX11_month_77 : decode cX11_month 77 = .ok (.getfield 97, 3) := by decide +kernel
theorem dX11_month_80 : decode cX11_month 80 = .ok (.iload 5, 2) := by decide +kernel
theorem dX11_month_82 : decode cX11_month 82 = .ok (.iload_n 3, 1) := by decide +kernel
theorem dX11_month_83 : decode cX11_month 83 = .ok (.iastore, 1) := by decide +kernel
theorem dX11_month_84 : decode cX11_month 84 = .ok (.iload 6, 2) := by decide +kernel
theorem dX11_month_86 : decode cX11_month 86 = .ok (.ireturn, 1) := by decide +kernel
theorem dX11_heads_0 : decode cX11_heads 0 = .ok (.aload_n 0, 1) := by decide +kernel
theorem dX11_heads_1 : decode cX11_heads 1 = .ok (.iload_n 2, 1) := by decide +kernel
theorem dX11_heads_2 : decode cX11_heads 2 = .ok (.invokevirtual 100, 3) := by decide +kernel
theorem dX11_heads_5 : decode cX11_heads 5 = .ok (.astore_n 3, 1) := by decide +kernel
theorem dX11_heads_6 : decode cX11_heads 6 = .ok (.aload_n 3, 1) := by decide +kernel
theorem dX11_heads_7 : decode cX11_heads 7 = .ok (.ifnull 12, 3) := by decide +kernel
theorem dX11_heads_10 : decode cX11_heads 10 = .ok (.iload_n 1, 1) := by decide +kernel
theorem dX11_heads_11 : decode cX11_heads 11 = .ok (.iconst 0, 1) := by decide +kernel
theorem dX11_heads_12 : decode cX11_heads 12 = .ok (.iconst 2, 1) := by decide +kernel
theorem dX11_heads_13 : decode cX11_heads 13 = .ok (.invokestatic 43, 3) := by decide +kernel
theorem dX11_heads_16 : decode cX11_heads 16 = .ok (.ifCond .ne 5, 3) := by decide +kernel
theorem dX11_heads_19 : decode cX11_heads 19 = .ok (.iconst (-1), 1) := by decide +kernel
theorem dX11_heads_20 : decode cX11_heads 20 = .ok (.ireturn, 1) := by decide +kernel
theorem dX11_heads_21 : decode cX11_heads 21 = .ok (.aload_n 0, 1) := by decide +kernel
theorem dX11_heads_22 : decode cX11_heads 22 = .ok (.getfield 12, 3) := by decide +kernel
theorem dX11_heads_25 : decode cX11_heads 25 = .ok (.getfield 104, 3) := by decide +kernel
theorem dX11_heads_28 : decode cX11_heads 28 = .ok (.getfield 108, 3) := by decide +kernel
theorem dX11_heads_31 : decode cX11_heads 31 = .ok (.bipush 16, 2) := by decide +kernel
theorem dX11_heads_33 : decode cX11_heads 33 = .ok (.if_icmp .lt 6, 3) := by decide +kernel
theorem dX11_heads_36 : decode cX11_heads 36 = .ok (.bipush (-2), 2) := by decide +kernel
theorem dX11_heads_38 : decode cX11_heads 38 = .ok (.ireturn, 1) := by decide +kernel
theorem dX11_heads_39 : decode cX11_heads 39 = .ok (.aload_n 3, 1) := by decide +kernel
theorem dX11_heads_40 : decode cX11_heads 40 = .ok (.invokestatic 111, 3) := by decide +kernel
theorem dX11_heads_43 : decode cX11_heads 43 = .ok (.istore 4, 2) := by decide +kernel
theorem dX11_heads_45 : decode cX11_heads 45 = .ok (.iload 4, 2) := by decide +kernel
theorem dX11_heads_47 : decode cX11_heads 47 = .ok (.ifCond .eq 8, 3) := by decide +kernel
theorem dX11_heads_50 : decode cX11_heads 50 = .ok (.iload 4, 2) := by decide +kernel
theorem dX11_heads_52 : decode cX11_heads 52 = .ok (.goto 22, 3) := by decide +kernel
theorem dX11_heads_55 : decode cX11_heads 55 = .ok (.aload_n 0, 1) := by decide +kernel
theorem dX11_heads_56 : decode cX11_heads 56 = .ok (.getfield 12, 3) := by decide +kernel
theorem dX11_heads_59 : decode cX11_heads 59 = .ok (.getfield 104, 3) := by decide +kernel
theorem dX11_heads_62 : decode cX11_heads 62 = .ok (.iload_n 1, 1) := by decide +kernel
theorem dX11_heads_63 : decode cX11_heads 63 = .ok (.aload_n 3, 1) := by decide +kernel
theorem dX11_heads_64 : decode cX11_heads 64 = .ok (.aload_n 0, 1) := by decide +kernel
theorem dX11_heads_65 : decode cX11_heads 65 = .ok (.getfield 12, 3) := by decide +kernel
theorem dX11_heads_68 : decode cX11_heads 68 = .ok (.getfield 115, 3) := by decide +kernel
theorem dX11_heads_71 : decode cX11_heads 71 = .ok (.invokevirtual 118, 3) := by decide +kernel
theorem dX11_heads_74 : decode cX11_heads 74 = .ok (.ireturn, 1) := by decide +kernel
theorem dX11_head_0 : decode cX11_head 0 = .ok (.aload_n 0, 1) := by decide +kernel
theorem dX11_head_1 : decode cX11_head 1 = .ok (.getfield 12, 3) := by decide +kernel
theorem dX11_head_4 : decode cX11_head 4 = .ok (.getfield 47, 3) := by decide +kernel
theorem dX11_head_7 : decode cX11_head 7 = .ok (.iload_n 1, 1) := by decide +kernel
theorem dX11_head_8 : decode cX11_head 8 = .ok (.invokevirtual 61, 3) := by decide +kernel
theorem dX11_head_11 : decode cX11_head 11 = .ok (.ifCond .eq 12, 3) := by decide +kernel
theorem dX11_head_14 : decode cX11_head 14 = .ok (.iload_n 2, 1) := by decide +kernel
theorem dX11_head_15 : decode cX11_head 15 = .ok (.iconst 0, 1) := by decide +kernel
theorem dX11_head_16 : decode cX11_head 16 = .ok (.iconst 2, 1) := by decide +kernel
theorem dX11_head_17 : decode cX11_head 17 = .ok (.invokestatic 43, 3) := by decide +kernel
theorem dX11_head_20 : decode cX11_head 20 = .ok (.ifCond .ne 5, 3) := by decide +kernel
theorem dX11_head_23 : decode cX11_head 23 = .ok (.iconst (-1), 1) := by decide +kernel
theorem dX11_head_24 : decode cX11_head 24 = .ok (.ireturn, 1) := by decide +kernel
theorem dX11_head_25 : decode cX11_head 25 = .ok (.iload_n 3, 1) := by decide +kernel
theorem dX11_head_26 : decode cX11_head 26 = .ok (.iconst 0, 1) := by decide +kernel
theorem dX11_head_27 : decode cX11_head 27 = .ok (.sipush 400, 3) := by decide +kernel
theorem dX11_head_30 : decode cX11_head 30 = .ok (.invokestatic 43, 3) := by decide +kernel
theorem dX11_head_33 : decode cX11_head 33 = .ok (.ifCond .eq 15, 3) := by decide +kernel
theorem dX11_head_36 : decode cX11_head 36 = .ok (.iload 4, 2) := by decide +kernel
theorem dX11_head_38 : decode cX11_head 38 = .ok (.iconst 0, 1) := by decide +kernel
theorem dX11_head_39 : decode cX11_head 39 = .ok (.sipush 400, 3) := by decide +kernel
theorem dX11_head_42 : decode cX11_head 42 = .ok (.invokestatic 43, 3) := by decide +kernel
theorem dX11_head_45 : decode cX11_head 45 = .ok (.ifCond .ne 5, 3) := by decide +kernel
theorem dX11_head_48 : decode cX11_head 48 = .ok (.iconst (-1), 1) := by decide +kernel
theorem dX11_head_49 : decode cX11_head 49 = .ok (.ireturn, 1) := by decide +kernel
theorem dX11_head_50 : decode cX11_head 50 = .ok (.aload_n 0, 1) := by decide +kernel
theorem dX11_head_51 : decode cX11_head 51 = .ok (.getfield 12, 3) := by decide +kernel
theorem dX11_head_54 : decode cX11_head 54 = .ok (.getfield 104, 3) := by decide +kernel
theorem dX11_head_57 : decode cX11_head 57 = .ok (.iload_n 1, 1) := by decide +kernel
theorem dX11_head_58 : decode cX11_head 58 = .ok (.iload_n 2, 1) := by decide +kernel
theorem dX11_head_59 : decode cX11_head 59 = .ok (.iload_n 3, 1) := by decide +kernel
theorem dX11_head_60 : decode cX11_head 60 = .ok (.iload 4, 2) := by decide +kernel
theorem dX11_head_62 : decode cX11_head 62 = .ok (.invokevirtual 122, 3) := by decide +kernel
theorem dX11_head_65 : decode cX11_head 65 = .ok (.ireturn, 1) := by decide +kernel
theorem dX11_fault_0 : decode cX11_fault 0 = .ok (.aload_n 0, 1) := by decide +kernel
theorem dX11_fault_1 : decode cX11_fault 1 = .ok (.iload_n 1, 1) := by decide +kernel
theorem dX11_fault_2 : decode cX11_fault 2 = .ok (.invokevirtual 100, 3) := by decide +kernel
theorem dX11_fault_5 : decode cX11_fault 5 = .ok (.astore_n 2, 1) := by decide +kernel
theorem dX11_fault_6 : decode cX11_fault 6 = .ok (.aload_n 2, 1) := by decide +kernel
theorem dX11_fault_7 : decode cX11_fault 7 = .ok (.ifnonnull 5, 3) := by decide +kernel
theorem dX11_fault_10 : decode cX11_fault 10 = .ok (.iconst (-1), 1) := by decide +kernel
theorem dX11_fault_11 : decode cX11_fault 11 = .ok (.ireturn, 1) := by decide +kernel
theorem dX11_fault_12 : decode cX11_fault 12 = .ok (.aload_n 2, 1) := by decide +kernel
theorem dX11_fault_13 : decode cX11_fault 13 = .ok (.invokestatic 126, 3) := by decide +kernel
theorem dX11_fault_16 : decode cX11_fault 16 = .ok (.istore_n 3, 1) := by decide +kernel
theorem dX11_fault_17 : decode cX11_fault 17 = .ok (.iload_n 3, 1) := by decide +kernel
theorem dX11_fault_18 : decode cX11_fault 18 = .ok (.ifCond .eq 5, 3) := by decide +kernel
theorem dX11_fault_21 : decode cX11_fault 21 = .ok (.iload_n 3, 1) := by decide +kernel
theorem dX11_fault_22 : decode cX11_fault 22 = .ok (.ireturn, 1) := by decide +kernel
theorem dX11_fault_23 : decode cX11_fault 23 = .ok (.aload_n 0, 1) := by decide +kernel
theorem dX11_fault_24 : decode cX11_fault 24 = .ok (.getfield 25, 3) := by decide +kernel
theorem dX11_fault_27 : decode cX11_fault 27 = .ok (.aload_n 2, 1) := by decide +kernel
theorem dX11_fault_28 : decode cX11_fault 28 = .ok (.invokevirtual 129, 3) := by decide +kernel
theorem dX11_fault_31 : decode cX11_fault 31 = .ok (.istore 4, 2) := by decide +kernel
theorem dX11_fault_33 : decode cX11_fault 33 = .ok (.iload 4, 2) := by decide +kernel
theorem dX11_fault_35 : decode cX11_fault 35 = .ok (.ifCond .ge 8, 3) := by decide +kernel
theorem dX11_fault_38 : decode cX11_fault 38 = .ok (.bipush (-4), 2) := by decide +kernel
theorem dX11_fault_40 : decode cX11_fault 40 = .ok (.goto 5, 3) := by decide +kernel
theorem dX11_fault_43 : decode cX11_fault 43 = .ok (.iload 4, 2) := by decide +kernel
theorem dX11_fault_45 : decode cX11_fault 45 = .ok (.ireturn, 1) := by decide +kernel
theorem dX11_act_0 : decode cX11_act 0 = .ok (.aload_n 0, 1) := by decide +kernel
theorem dX11_act_1 : decode cX11_act 1 = .ok (.iload_n 1, 1) := by decide +kernel
theorem dX11_act_2 : decode cX11_act 2 = .ok (.invokevirtual 100, 3) := by decide +kernel
theorem dX11_act_5 : decode cX11_act 5 = .ok (.astore 4, 2) := by decide +kernel
theorem dX11_act_7 : decode cX11_act 7 = .ok (.aload 4, 2) := by decide +kernel
theorem dX11_act_9 : decode cX11_act 9 = .ok (.ifnull 29, 3) := by decide +kernel
theorem dX11_act_12 : decode cX11_act 12 = .ok (.iload_n 2, 1) := by decide +kernel
theorem dX11_act_13 : decode cX11_act 13 = .ok (.iconst (-1), 1) := by decide +kernel
theorem dX11_act_14 : decode cX11_act 14 = .ok (.iconst 3, 1) := by decide +kernel
theorem dX11_act_15 : decode cX11_act 15 = .ok (.invokestatic 43, 3) := by decide +kernel
theorem dX11_act_18 : decode cX11_act 18 = .ok (.ifCond .eq 20, 3) := by decide +kernel
theorem dX11_act_21 : decode cX11_act 21 = .ok (.iload_n 3, 1) := by decide +kernel
theorem dX11_act_22 : decode cX11_act 22 = .ok (.aload_n 0, 1) := by decide +kernel
theorem dX11_act_23 : decode cX11_act 23 = .ok (.getfield 12, 3) := by decide +kernel
theorem dX11_act_26 : decode cX11_act 26 = .ok (.getfield 115, 3) := by decide +kernel
theorem dX11_act_29 : decode cX11_act 29 = .ok (.sipush 400, 3) := by decide +kernel
theorem dX11_act_32 : decode cX11_act 32 = .ok (.invokestatic 43, 3) := by decide +kernel
theorem dX11_act_35 : decode cX11_act 35 = .ok (.ifCond .ne 5, 3) := by decide +kernel
theorem dX11_act_38 : decode cX11_act 38 = .ok (.iconst (-1), 1) := by decide +kernel
theorem dX11_act_39 : decode cX11_act 39 = .ok (.ireturn, 1) := by decide +kernel
theorem dX11_act_40 : decode cX11_act 40 = .ok (.aload_n 0, 1) := by decide +kernel
theorem dX11_act_41 : decode cX11_act 41 = .ok (.getfield 12, 3) := by decide +kernel
theorem dX11_act_44 : decode cX11_act 44 = .ok (.getfield 132, 3) := by decide +kernel
theorem dX11_act_47 : decode cX11_act 47 = .ok (.getfield 136, 3) := by decide +kernel
theorem dX11_act_50 : decode cX11_act 50 = .ok (.bipush 16, 2) := by decide +kernel
theorem dX11_act_52 : decode cX11_act 52 = .ok (.if_icmp .lt 6, 3) := by decide +kernel
theorem dX11_act_55 : decode cX11_act 55 = .ok (.bipush (-2), 2) := by decide +kernel
theorem dX11_act_57 : decode cX11_act 57 = .ok (.ireturn, 1) := by decide +kernel
theorem dX11_act_58 : decode cX11_act 58 = .ok (.aload 4, 2) := by decide +kernel
theorem dX11_act_60 : decode cX11_act 60 = .ok (.invokestatic 126, 3) := by decide +kernel
theorem dX11_act_63 : decode cX11_act 63 = .ok (.istore 5, 2) := by decide +kernel
theorem dX11_act_65 : decode cX11_act 65 = .ok (.iload 5, 2) := by decide +kernel
theorem dX11_act_67 : decode cX11_act 67 = .ok (.ifCond .eq 6, 3) := by decide +kernel
theorem dX11_act_70 : decode cX11_act 70 = .ok (.iload 5, 2) := by decide +kernel
theorem dX11_act_72 : decode cX11_act 72 = .ok (.ireturn, 1) := by decide +kernel
theorem dX11_act_73 : decode cX11_act 73 = .ok (.aload_n 0, 1) := by decide +kernel
theorem dX11_act_74 : decode cX11_act 74 = .ok (.getfield 25, 3) := by decide +kernel
theorem dX11_act_77 : decode cX11_act 77 = .ok (.aload 4, 2) := by decide +kernel
theorem dX11_act_79 : decode cX11_act 79 = .ok (.invokevirtual 129, 3) := by decide +kernel
theorem dX11_act_82 : decode cX11_act 82 = .ok (.istore 6, 2) := by decide +kernel
theorem dX11_act_84 : decode cX11_act 84 = .ok (.iload 6, 2) := by decide +kernel
theorem dX11_act_86 : decode cX11_act 86 = .ok (.ifCond .ge 25, 3) := by decide +kernel
theorem dX11_act_89 : decode cX11_act 89 = .ok (.aload_n 0, 1) := by decide +kernel
theorem dX11_act_90 : decode cX11_act 90 = .ok (.getfield 12, 3) := by decide +kernel
theorem dX11_act_93 : decode cX11_act 93 = .ok (.getfield 132, 3) := by decide +kernel
theorem dX11_act_96 : decode cX11_act 96 = .ok (.aload_n 0, 1) := by decide +kernel
theorem dX11_act_97 : decode cX11_act 97 = .ok (.getfield 25, 3) := by decide +kernel
theorem dX11_act_100 : decode cX11_act 100 = .ok (.iload_n 2, 1) := by decide +kernel
theorem dX11_act_101 : decode cX11_act 101 = .ok (.iload_n 3, 1) := by decide +kernel
theorem dX11_act_102 : decode cX11_act 102 = .ok (.invokevirtual 139, 3) := by decide +kernel
theorem dX11_act_105 : decode cX11_act 105 = .ok (.invokevirtual 143, 3) := by decide +kernel
theorem dX11_act_108 : decode cX11_act 108 = .ok (.goto 8, 3) := by decide +kernel
theorem dX11_act_111 : decode cX11_act 111 = .ok (.bipush (-100), 2) := by decide +kernel
theorem dX11_act_113 : decode cX11_act 113 = .ok (.iload 6, 2) := by decide +kernel
theorem dX11_act_115 : decode cX11_act 115 = .ok (.isub, 1) := by decide +kernel
theorem dX11_act_116 : decode cX11_act 116 = .ok (.ireturn, 1) := by decide +kernel
theorem dX11_strike_0 : decode cX11_strike 0 = .ok (.aload_n 0, 1) := by decide +kernel
theorem dX11_strike_1 : decode cX11_strike 1 = .ok (.getfield 12, 3) := by decide +kernel
theorem dX11_strike_4 : decode cX11_strike 4 = .ok (.getfield 132, 3) := by decide +kernel
theorem dX11_strike_7 : decode cX11_strike 7 = .ok (.iload_n 1, 1) := by decide +kernel
theorem dX11_strike_8 : decode cX11_strike 8 = .ok (.invokevirtual 146, 3) := by decide +kernel
theorem dX11_strike_11 : decode cX11_strike 11 = .ok (.ifCond .eq 20, 3) := by decide +kernel
theorem dX11_strike_14 : decode cX11_strike 14 = .ok (.iload_n 2, 1) := by decide +kernel
theorem dX11_strike_15 : decode cX11_strike 15 = .ok (.aload_n 0, 1) := by decide +kernel
theorem dX11_strike_16 : decode cX11_strike 16 = .ok (.getfield 12, 3) := by decide +kernel
theorem dX11_strike_19 : decode cX11_strike 19 = .ok (.getfield 115, 3) := by decide +kernel
theorem dX11_strike_22 : decode cX11_strike 22 = .ok (.sipush 400, 3) := by decide +kernel
theorem dX11_strike_25 : decode cX11_strike 25 = .ok (.invokestatic 43, 3) := by decide +kernel
theorem dX11_strike_28 : decode cX11_strike 28 = .ok (.ifCond .ne 5, 3) := by decide +kernel
theorem dX11_strike_31 : decode cX11_strike 31 = .ok (.iconst (-1), 1) := by decide +kernel
theorem dX11_strike_32 : decode cX11_strike 32 = .ok (.ireturn, 1) := by decide +kernel
theorem dX11_strike_33 : decode cX11_strike 33 = .ok (.aload_n 0, 1) := by decide +kernel
theorem dX11_strike_34 : decode cX11_strike 34 = .ok (.getfield 12, 3) := by decide +kernel
theorem dX11_strike_37 : decode cX11_strike 37 = .ok (.getfield 132, 3) := by decide +kernel
theorem dX11_strike_40 : decode cX11_strike 40 = .ok (.getfield 147, 3) := by decide +kernel
theorem dX11_strike_43 : decode cX11_strike 43 = .ok (.iload_n 1, 1) := by decide +kernel
theorem dX11_strike_44 : decode cX11_strike 44 = .ok (.iaload, 1) := by decide +kernel
theorem dX11_strike_45 : decode cX11_strike 45 = .ok (.sipush 401, 3) := by decide +kernel
theorem dX11_strike_48 : decode cX11_strike 48 = .ok (.if_icmp .eq 6, 3) := by decide +kernel
theorem dX11_strike_51 : decode cX11_strike 51 = .ok (.bipush (-3), 2) := by decide +kernel
theorem dX11_strike_53 : decode cX11_strike 53 = .ok (.ireturn, 1) := by decide +kernel
theorem dX11_strike_54 : decode cX11_strike 54 = .ok (.aload_n 0, 1) := by decide +kernel
theorem dX11_strike_55 : decode cX11_strike 55 = .ok (.getfield 12, 3) := by decide +kernel
theorem dX11_strike_58 : decode cX11_strike 58 = .ok (.getfield 132, 3) := by decide +kernel
theorem dX11_strike_61 : decode cX11_strike 61 = .ok (.getfield 147, 3) := by decide +kernel
theorem dX11_strike_64 : decode cX11_strike 64 = .ok (.iload_n 1, 1) := by decide +kernel
theorem dX11_strike_65 : decode cX11_strike 65 = .ok (.iload_n 2, 1) := by decide +kernel
theorem dX11_strike_66 : decode cX11_strike 66 = .ok (.iastore, 1) := by decide +kernel
theorem dX11_strike_67 : decode cX11_strike 67 = .ok (.iconst 1, 1) := by decide +kernel
theorem dX11_strike_68 : decode cX11_strike 68 = .ok (.ireturn, 1) := by decide +kernel
theorem dX11_force_0 : decode cX11_force 0 = .ok (.aload_n 0, 1) := by decide +kernel
theorem dX11_force_1 : decode cX11_force 1 = .ok (.iload_n 1, 1) := by decide +kernel
theorem dX11_force_2 : decode cX11_force 2 = .ok (.iload_n 2, 1) := by decide +kernel
theorem dX11_force_3 : decode cX11_force 3 = .ok (.iconst 0, 1) := by decide +kernel
theorem dX11_force_4 : decode cX11_force 4 = .ok (.iload_n 3, 1) := by decide +kernel
theorem dX11_force_5 : decode cX11_force 5 = .ok (.invokevirtual 150, 3) := by decide +kernel
theorem dX11_force_8 : decode cX11_force 8 = .ok (.ifCond .ne 5, 3) := by decide +kernel
theorem dX11_force_11 : decode cX11_force 11 = .ok (.iconst (-1), 1) := by decide +kernel
theorem dX11_force_12 : decode cX11_force 12 = .ok (.ireturn, 1) := by decide +kernel
theorem dX11_force_13 : decode cX11_force 13 = .ok (.aload_n 0, 1) := by decide +kernel
theorem dX11_force_14 : decode cX11_force 14 = .ok (.getfield 12, 3) := by decide +kernel
theorem dX11_force_17 : decode cX11_force 17 = .ok (.getfield 132, 3) := by decide +kernel
theorem dX11_force_20 : decode cX11_force 20 = .ok (.iload_n 1, 1) := by decide +kernel
theorem dX11_force_21 : decode cX11_force 21 = .ok (.aload_n 0, 1) := by decide +kernel
theorem dX11_force_22 : decode cX11_force 22 = .ok (.getfield 12, 3) := by decide +kernel
theorem dX11_force_25 : decode cX11_force 25 = .ok (.getfield 47, 3) := by decide +kernel
theorem dX11_force_28 : decode cX11_force 28 = .ok (.getfield 154, 3) := by decide +kernel
theorem dX11_force_31 : decode cX11_force 31 = .ok (.iload_n 2, 1) := by decide +kernel
theorem dX11_force_32 : decode cX11_force 32 = .ok (.iaload, 1) := by decide +kernel
theorem dX11_force_33 : decode cX11_force 33 = .ok (.iload_n 3, 1) := by decide +kernel
theorem dX11_force_34 : decode cX11_force 34 = .ok (.invokevirtual 157, 3) := by decide +kernel
theorem dX11_force_37 : decode cX11_force 37 = .ok (.istore 4, 2) := by decide +kernel
theorem dX11_force_39 : decode cX11_force 39 = .ok (.iload 4, 2) := by decide +kernel
theorem dX11_force_41 : decode cX11_force 41 = .ok (.ifCond .ge 8, 3) := by decide +kernel
theorem dX11_force_44 : decode cX11_force 44 = .ok (.bipush (-4), 2) := by decide +kernel
theorem dX11_force_46 : decode cX11_force 46 = .ok (.goto 5, 3) := by decide +kernel
theorem dX11_force_49 : decode cX11_force 49 = .ok (.iload 4, 2) := by decide +kernel
theorem dX11_force_51 : decode cX11_force 51 = .ok (.ireturn, 1) := by decide +kernel
theorem dX11_holds_0 : decode cX11_holds 0 = .ok (.aload_n 0, 1) := by decide +kernel
theorem dX11_holds_1 : decode cX11_holds 1 = .ok (.iload_n 1, 1) := by decide +kernel
theorem dX11_holds_2 : decode cX11_holds 2 = .ok (.iload_n 2, 1) := by decide +kernel
theorem dX11_holds_3 : decode cX11_holds 3 = .ok (.iload_n 3, 1) := by decide +kernel
theorem dX11_holds_4 : decode cX11_holds 4 = .ok (.iload 4, 2) := by decide +kernel
theorem dX11_holds_6 : decode cX11_holds 6 = .ok (.invokevirtual 150, 3) := by decide +kernel
theorem dX11_holds_9 : decode cX11_holds 9 = .ok (.ifCond .ne 5, 3) := by decide +kernel
theorem dX11_holds_12 : decode cX11_holds 12 = .ok (.iconst (-1), 1) := by decide +kernel
theorem dX11_holds_13 : decode cX11_holds 13 = .ok (.ireturn, 1) := by decide +kernel
theorem dX11_holds_14 : decode cX11_holds 14 = .ok (.aload_n 0, 1) := by decide +kernel
theorem dX11_holds_15 : decode cX11_holds 15 = .ok (.getfield 12, 3) := by decide +kernel
theorem dX11_holds_18 : decode cX11_holds 18 = .ok (.iload_n 1, 1) := by decide +kernel
theorem dX11_holds_19 : decode cX11_holds 19 = .ok (.iload_n 2, 1) := by decide +kernel
theorem dX11_holds_20 : decode cX11_holds 20 = .ok (.iload_n 3, 1) := by decide +kernel
theorem dX11_holds_21 : decode cX11_holds 21 = .ok (.iload 4, 2) := by decide +kernel
theorem dX11_holds_23 : decode cX11_holds 23 = .ok (.invokevirtual 160, 3) := by decide +kernel
theorem dX11_holds_26 : decode cX11_holds 26 = .ok (.ifCond .eq 7, 3) := by decide +kernel
theorem dX11_holds_29 : decode cX11_holds 29 = .ok (.iconst 1, 1) := by decide +kernel
theorem dX11_holds_30 : decode cX11_holds 30 = .ok (.goto 4, 3) := by decide +kernel
theorem dX11_holds_33 : decode cX11_holds 33 = .ok (.iconst 0, 1) := by decide +kernel
theorem dX11_holds_34 : decode cX11_holds 34 = .ok (.ireturn, 1) := by decide +kernel
theorem dX11_quarrel_0 : decode cX11_quarrel 0 = .ok (.aload_n 0, 1) := by decide +kernel
theorem dX11_quarrel_1 : decode cX11_quarrel 1 = .ok (.iload_n 1, 1) := by decide +kernel
theorem dX11_quarrel_2 : decode cX11_quarrel 2 = .ok (.iload_n 2, 1) := by decide +kernel
theorem dX11_quarrel_3 : decode cX11_quarrel 3 = .ok (.iload_n 3, 1) := by decide +kernel
theorem dX11_quarrel_4 : decode cX11_quarrel 4 = .ok (.iload 4, 2) := by decide +kernel
theorem dX11_quarrel_6 : decode cX11_quarrel 6 = .ok (.invokevirtual 150, 3) := by decide +kernel
theorem dX11_quarrel_9 : decode cX11_quarrel 9 = .ok (.ifCond .ne 5, 3) := by decide +kernel
theorem dX11_quarrel_12 : decode cX11_quarrel 12 = .ok (.iconst (-1), 1) := by decide +kernel
theorem dX11_quarrel_13 : decode cX11_quarrel 13 = .ok (.ireturn, 1) := by decide +kernel
theorem dX11_quarrel_14 : decode cX11_quarrel 14 = .ok (.aload_n 0, 1) := by decide +kernel
theorem dX11_quarrel_15 : decode cX11_quarrel 15 = .ok (.getfield 12, 3) := by decide +kernel
theorem dX11_quarrel_18 : decode cX11_quarrel 18 = .ok (.iconst 1, 1) := by decide +kernel
theorem dX11_quarrel_19 : decode cX11_quarrel 19 = .ok (.iload_n 1, 1) := by decide +kernel
theorem dX11_quarrel_20 : decode cX11_quarrel 20 = .ok (.iload_n 2, 1) := by decide +kernel
theorem dX11_quarrel_21 : decode cX11_quarrel 21 = .ok (.iload_n 3, 1) := by decide +kernel
theorem dX11_quarrel_22 : decode cX11_quarrel 22 = .ok (.iload 4, 2) := by decide +kernel
theorem dX11_quarrel_24 : decode cX11_quarrel 24 = .ok (.invokevirtual 163, 3) := by decide +kernel
theorem dX11_quarrel_27 : decode cX11_quarrel 27 = .ok (.istore 5, 2) := by decide +kernel
theorem dX11_quarrel_29 : decode cX11_quarrel 29 = .ok (.aload_n 0, 1) := by decide +kernel
theorem dX11_quarrel_30 : decode cX11_quarrel 30 = .ok (.getfield 12, 3) := by decide +kernel
theorem dX11_quarrel_33 : decode cX11_quarrel 33 = .ok (.iconst 0, 1) := by decide +kernel
theorem dX11_quarrel_34 : decode cX11_quarrel 34 = .ok (.iload_n 1, 1) := by decide +kernel
theorem dX11_quarrel_35 : decode cX11_quarrel 35 = .ok (.iload_n 2, 1) := by decide +kernel
theorem dX11_quarrel_36 : decode cX11_quarrel 36 = .ok (.iload_n 3, 1) := by decide +kernel
theorem dX11_quarrel_37 : decode cX11_quarrel 37 = .ok (.iload 4, 2) := by decide +kernel
theorem dX11_quarrel_39 : decode cX11_quarrel 39 = .ok (.invokevirtual 163, 3) := by decide +kernel
theorem dX11_quarrel_42 : decode cX11_quarrel 42 = .ok (.istore 6, 2) := by decide +kernel
theorem dX11_quarrel_44 : decode cX11_quarrel 44 = .ok (.iload 5, 2) := by decide +kernel
theorem dX11_quarrel_46 : decode cX11_quarrel 46 = .ok (.ifCond .lt 8, 3) := by decide +kernel
theorem dX11_quarrel_49 : decode cX11_quarrel 49 = .ok (.iload 6, 2) := by decide +kernel
theorem dX11_quarrel_51 : decode cX11_quarrel 51 = .ok (.ifCond .ge 8, 3) := by decide +kernel
theorem dX11_quarrel_54 : decode cX11_quarrel 54 = .ok (.bipush (-4), 2) := by decide +kernel
theorem dX11_quarrel_56 : decode cX11_quarrel 56 = .ok (.goto 11, 3) := by decide +kernel
theorem dX11_quarrel_59 : decode cX11_quarrel 59 = .ok (.bipush 100, 2) := by decide +kernel
theorem dX11_quarrel_61 : decode cX11_quarrel 61 = .ok (.iload 5, 2) := by decide +kernel
theorem dX11_quarrel_63 : decode cX11_quarrel 63 = .ok (.imul, 1) := by decide +kernel
theorem dX11_quarrel_64 : decode cX11_quarrel 64 = .ok (.iload 6, 2) := by decide +kernel
theorem dX11_quarrel_66 : decode cX11_quarrel 66 = .ok (.iadd, 1) := by decide +kernel
theorem dX11_quarrel_67 : decode cX11_quarrel 67 = .ok (.ireturn, 1) := by decide +kernel
theorem dX11_go_0 : decode cX11_go 0 = .ok (.iload_n 1, 1) := by decide +kernel
theorem dX11_go_1 : decode cX11_go 1 = .ok (.iconst 1, 1) := by decide +kernel
theorem dX11_go_2 : decode cX11_go 2 = .ok (.bipush 60, 2) := by decide +kernel
theorem dX11_go_4 : decode cX11_go 4 = .ok (.invokestatic 43, 3) := by decide +kernel
theorem dX11_go_7 : decode cX11_go 7 = .ok (.ifCond .ne 5, 3) := by decide +kernel
theorem dX11_go_10 : decode cX11_go 10 = .ok (.iconst (-1), 1) := by decide +kernel
theorem dX11_go_11 : decode cX11_go 11 = .ok (.ireturn, 1) := by decide +kernel
theorem dX11_go_12 : decode cX11_go 12 = .ok (.aload_n 0, 1) := by decide +kernel
theorem dX11_go_13 : decode cX11_go 13 = .ok (.getfield 12, 3) := by decide +kernel
theorem dX11_go_16 : decode cX11_go 16 = .ok (.getfield 115, 3) := by decide +kernel
theorem dX11_go_19 : decode cX11_go 19 = .ok (.iload_n 1, 1) := by decide +kernel
theorem dX11_go_20 : decode cX11_go 20 = .ok (.iadd, 1) := by decide +kernel
theorem dX11_go_21 : decode cX11_go 21 = .ok (.sipush 400, 3) := by decide +kernel
theorem dX11_go_24 : decode cX11_go 24 = .ok (.if_icmp .le 6, 3) := by decide +kernel
theorem dX11_go_27 : decode cX11_go 27 = .ok (.bipush (-2), 2) := by decide +kernel
theorem dX11_go_29 : decode cX11_go 29 = .ok (.ireturn, 1) := by decide +kernel
theorem dX11_go_30 : decode cX11_go 30 = .ok (.aload_n 0, 1) := by decide +kernel
theorem dX11_go_31 : decode cX11_go 31 = .ok (.getfield 12, 3) := by decide +kernel
theorem dX11_go_34 : decode cX11_go 34 = .ok (.iload_n 1, 1) := by decide +kernel
theorem dX11_go_35 : decode cX11_go 35 = .ok (.iconst (-1), 1) := by decide +kernel
theorem dX11_go_36 : decode cX11_go 36 = .ok (.invokevirtual 167, 3) := by decide +kernel
theorem dX11_go_39 : decode cX11_go 39 = .ok (.aload_n 0, 1) := by decide +kernel
theorem dX11_go_40 : decode cX11_go 40 = .ok (.getfield 12, 3) := by decide +kernel
theorem dX11_go_43 : decode cX11_go 43 = .ok (.getfield 115, 3) := by decide +kernel
theorem dX11_go_46 : decode cX11_go 46 = .ok (.ireturn, 1) := by decide +kernel
theorem dX11_of_0 : decode cX11_of 0 = .ok (.aload_n 0, 1) := by decide +kernel
theorem dX11_of_1 : decode cX11_of 1 = .ok (.getfield 12, 3) := by decide +kernel
theorem dX11_of_4 : decode cX11_of 4 = .ok (.getfield 47, 3) := by decide +kernel
theorem dX11_of_7 : decode cX11_of 7 = .ok (.iload_n 1, 1) := by decide +kernel
theorem dX11_of_8 : decode cX11_of 8 = .ok (.invokevirtual 61, 3) := by decide +kernel
theorem dX11_of_11 : decode cX11_of 11 = .ok (.ifCond .eq 13, 3) := by decide +kernel
theorem dX11_of_14 : decode cX11_of 14 = .ok (.iload_n 2, 1) := by decide +kernel
theorem dX11_of_15 : decode cX11_of 15 = .ok (.iconst 0, 1) := by decide +kernel
theorem dX11_of_16 : decode cX11_of 16 = .ok (.bipush 10, 2) := by decide +kernel
theorem dX11_of_18 : decode cX11_of 18 = .ok (.invokestatic 43, 3) := by decide +kernel
theorem dX11_of_21 : decode cX11_of 21 = .ok (.ifCond .ne 5, 3) := by decide +kernel
theorem dX11_of_24 : decode cX11_of 24 = .ok (.iconst (-1), 1) := by decide +kernel
theorem dX11_of_25 : decode cX11_of 25 = .ok (.ireturn, 1) := by decide +kernel
theorem dX11_of_26 : decode cX11_of 26 = .ok (.aload_n 0, 1) := by decide +kernel
theorem dX11_of_27 : decode cX11_of 27 = .ok (.getfield 12, 3) := by decide +kernel
theorem dX11_of_30 : decode cX11_of 30 = .ok (.getfield 47, 3) := by decide +kernel
theorem dX11_of_33 : decode cX11_of 33 = .ok (.getfield 171, 3) := by decide +kernel
theorem dX11_of_36 : decode cX11_of 36 = .ok (.iload_n 1, 1) := by decide +kernel
theorem dX11_of_37 : decode cX11_of 37 = .ok (.bipush 11, 2) := by decide +kernel
theorem dX11_of_39 : decode cX11_of 39 = .ok (.imul, 1) := by decide +kernel
theorem dX11_of_40 : decode cX11_of 40 = .ok (.iload_n 2, 1) := by decide +kernel
theorem dX11_of_41 : decode cX11_of 41 = .ok (.iadd, 1) := by decide +kernel
theorem dX11_of_42 : decode cX11_of 42 = .ok (.iaload, 1) := by decide +kernel
theorem dX11_of_43 : decode cX11_of 43 = .ok (.ireturn, 1) := by decide +kernel
theorem dX11_order_0 : decode cX11_order 0 = .ok (.aload_n 0, 1) := by decide +kernel
theorem dX11_order_1 : decode cX11_order 1 = .ok (.getfield 12, 3) := by decide +kernel
theorem dX11_order_4 : decode cX11_order 4 = .ok (.getfield 47, 3) := by decide +kernel
theorem dX11_order_7 : decode cX11_order 7 = .ok (.iload_n 1, 1) := by decide +kernel
theorem dX11_order_8 : decode cX11_order 8 = .ok (.invokevirtual 61, 3) := by decide +kernel
theorem dX11_order_11 : decode cX11_order 11 = .ok (.ifCond .eq 22, 3) := by decide +kernel
theorem dX11_order_14 : decode cX11_order 14 = .ok (.aload_n 0, 1) := by decide +kernel
theorem dX11_order_15 : decode cX11_order 15 = .ok (.getfield 12, 3) := by decide +kernel
theorem dX11_order_18 : decode cX11_order 18 = .ok (.iload_n 1, 1) := by decide +kernel
theorem dX11_order_19 : decode cX11_order 19 = .ok (.aload_n 0, 1) := by decide +kernel
theorem dX11_order_20 : decode cX11_order 20 = .ok (.getfield 12, 3) := by decide +kernel
theorem dX11_order_23 : decode cX11_order 23 = .ok (.getfield 115, 3) := by decide +kernel
theorem dX11_order_26 : decode cX11_order 26 = .ok (.iconst (-1), 1) := by decide +kernel
theorem dX11_order_27 : decode cX11_order 27 = .ok (.invokevirtual 174, 3) := by decide +kernel
theorem dX11_order_30 : decode cX11_order 30 = .ok (.goto 4, 3) := by decide +kernel
theorem dX11_order_33 : decode cX11_order 33 = .ok (.iconst (-1), 1) := by decide +kernel
theorem dX11_order_34 : decode cX11_order 34 = .ok (.ireturn, 1) := by decide +kernel
theorem dX11_look_0 : decode cX11_look 0 = .ok (.aload_n 0, 1) := by decide +kernel
theorem dX11_look_1 : decode cX11_look 1 = .ok (.getfield 12, 3) := by decide +kernel
theorem dX11_look_4 : decode cX11_look 4 = .ok (.getfield 47, 3) := by decide +kernel
theorem dX11_look_7 : decode cX11_look 7 = .ok (.iload_n 1, 1) := by decide +kernel
theorem dX11_look_8 : decode cX11_look 8 = .ok (.invokevirtual 61, 3) := by decide +kernel
theorem dX11_look_11 : decode cX11_look 11 = .ok (.ifCond .eq 31, 3) := by decide +kernel
theorem dX11_look_14 : decode cX11_look 14 = .ok (.iload_n 2, 1) := by decide +kernel
theorem dX11_look_15 : decode cX11_look 15 = .ok (.iconst 0, 1) := by decide +kernel
theorem dX11_look_16 : decode cX11_look 16 = .ok (.aload_n 0, 1) := by decide +kernel
theorem dX11_look_17 : decode cX11_look 17 = .ok (.getfield 12, 3) := by decide +kernel
theorem dX11_look_20 : decode cX11_look 20 = .ok (.getfield 115, 3) := by decide +kernel
theorem dX11_look_23 : decode cX11_look 23 = .ok (.iconst 1, 1) := by decide +kernel
theorem dX11_look_24 : decode cX11_look 24 = .ok (.isub, 1) := by decide +kernel
theorem dX11_look_25 : decode cX11_look 25 = .ok (.invokestatic 43, 3) := by decide +kernel
theorem dX11_look_28 : decode cX11_look 28 = .ok (.ifCond .eq 14, 3) := by decide +kernel
theorem dX11_look_31 : decode cX11_look 31 = .ok (.iload_n 3, 1) := by decide +kernel
theorem dX11_look_32 : decode cX11_look 32 = .ok (.iconst 0, 1) := by decide +kernel
theorem dX11_look_33 : decode cX11_look 33 = .ok (.sipush 999, 3) := by decide +kernel
theorem dX11_look_36 : decode cX11_look 36 = .ok (.invokestatic 43, 3) := by decide +kernel
theorem dX11_look_39 : decode cX11_look 39 = .ok (.ifCond .ne 5, 3) := by decide +kernel
theorem dX11_look_42 : decode cX11_look 42 = .ok (.iconst (-1), 1) := by decide +kernel
theorem dX11_look_43 : decode cX11_look 43 = .ok (.ireturn, 1) := by decide +kernel
theorem dX11_look_44 : decode cX11_look 44 = .ok (.aload_n 0, 1) := by decide +kernel
theorem dX11_look_45 : decode cX11_look 45 = .ok (.getfield 12, 3) := by decide +kernel
theorem dX11_look_48 : decode cX11_look 48 = .ok (.getfield 177, 3) := by decide +kernel
theorem dX11_look_51 : decode cX11_look 51 = .ok (.getfield 181, 3) := by decide +kernel
theorem dX11_look_54 : decode cX11_look 54 = .ok (.bipush 30, 2) := by decide +kernel
theorem dX11_look_56 : decode cX11_look 56 = .ok (.if_icmp .lt 6, 3) := by decide +kernel
theorem dX11_look_59 : decode cX11_look 59 = .ok (.bipush (-2), 2) := by decide +kernel
theorem dX11_look_61 : decode cX11_look 61 = .ok (.ireturn, 1) := by decide +kernel
theorem dX11_look_62 : decode cX11_look 62 = .ok (.aload_n 0, 1) := by decide +kernel
theorem dX11_look_63 : decode cX11_look 63 = .ok (.getfield 12, 3) := by decide +kernel
theorem dX11_look_66 : decode cX11_look 66 = .ok (.getfield 177, 3) := by decide +kernel
theorem dX11_look_69 : decode cX11_look 69 = .ok (.iload_n 1, 1) := by decide +kernel
theorem dX11_look_70 : decode cX11_look 70 = .ok (.iload_n 2, 1) := by decide +kernel
theorem dX11_look_71 : decode cX11_look 71 = .ok (.iload_n 3, 1) := by decide +kernel
theorem dX11_look_72 : decode cX11_look 72 = .ok (.invokevirtual 184, 3) := by decide +kernel
theorem dX11_look_75 : decode cX11_look 75 = .ok (.ireturn, 1) := by decide +kernel
theorem dX11_byHowMuch_0 : decode cX11_byHowMuch 0 = .ok (.iload_n 1, 1) := by decide +kernel
theorem dX11_byHowMuch_1 : decode cX11_byHowMuch 1 = .ok (.iconst 0, 1) := by decide +kernel
theorem dX11_byHowMuch_2 : decode cX11_byHowMuch 2 = .ok (.iconst 3, 1) := by decide +kernel
theorem dX11_byHowMuch_3 : decode cX11_byHowMuch 3 = .ok (.invokestatic 43, 3) := by decide +kernel
theorem dX11_byHowMuch_6 : decode cX11_byHowMuch 6 = .ok (.ifCond .eq 12, 3) := by decide +kernel
theorem dX11_byHowMuch_9 : decode cX11_byHowMuch 9 = .ok (.iload_n 2, 1) := by decide +kernel
theorem dX11_byHowMuch_10 : decode cX11_byHowMuch 10 = .ok (.iconst 0, 1) := by decide +kernel
theorem dX11_byHowMuch_11 : decode cX11_byHowMuch 11 = .ok (.iconst 2, 1) := by decide +kernel
theorem dX11_byHowMuch_12 : decode cX11_byHowMuch 12 = .ok (.invokestatic 43, 3) := by decide +kernel
theorem dX11_byHowMuch_15 : decode cX11_byHowMuch 15 = .ok (.ifCond .ne 6, 3) := by decide +kernel
theorem dX11_byHowMuch_18 : decode cX11_byHowMuch 18 = .ok (.ldc 187, 2) := by decide +kernel
theorem dX11_byHowMuch_20 : decode cX11_byHowMuch 20 = .ok (.ireturn, 1) := by decide +kernel
theorem dX11_byHowMuch_21 : decode cX11_byHowMuch 21 = .ok (.iconst 0, 1) := by decide +kernel
theorem dX11_byHowMuch_22 : decode cX11_byHowMuch 22 = .ok (.istore_n 3, 1) := by decide +kernel
theorem dX11_byHowMuch_23 : decode cX11_byHowMuch 23 = .ok (.iconst 0, 1) := by decide +kernel
theorem dX11_byHowMuch_24 : decode cX11_byHowMuch 24 = .ok (.istore 4, 2) := by decide +kernel
theorem dX11_byHowMuch_26 : decode cX11_byHowMuch 26 = .ok (.iconst 0, 1) := by decide +kernel
theorem dX11_byHowMuch_27 : decode cX11_byHowMuch 27 = .ok (.istore 5, 2) := by decide +kernel
theorem dX11_byHowMuch_29 : decode cX11_byHowMuch 29 = .ok (.iconst 0, 1) := by decide +kernel
theorem dX11_byHowMuch_30 : decode cX11_byHowMuch 30 = .ok (.istore 6, 2) := by decide +kernel
theorem dX11_byHowMuch_32 : decode cX11_byHowMuch 32 = .ok (.iconst 0, 1) := by decide +kernel
theorem dX11_byHowMuch_33 : decode cX11_byHowMuch 33 = .ok (.istore 7, 2) := by decide +kernel
theorem dX11_byHowMuch_35 : decode cX11_byHowMuch 35 = .ok (.iload 7, 2) := by decide +kernel
theorem dX11_byHowMuch_37 : decode cX11_byHowMuch 37 = .ok (.aload_n 0, 1) := by decide +kernel
theorem dX11_byHowMuch_38 : decode cX11_byHowMuch 38 = .ok (.getfield 12, 3) := by decide +kernel
theorem dX11_byHowMuch_41 : decode cX11_byHowMuch 41 = .ok (.getfield 177, 3) := by decide +kernel
theorem dX11_byHowMuch_44 : decode cX11_byHowMuch 44 = .ok (.getfield 181, 3) := by decide +kernel
theorem dX11_byHowMuch_47 : decode cX11_byHowMuch 47 = .ok (.if_icmp .ge 97, 3) := by decide +kernel
theorem dX11_byHowMuch_50 : decode cX11_byHowMuch 50 = .ok (.aload_n 0, 1) := by decide +kernel
theorem dX11_byHowMuch_51 : decode cX11_byHowMuch 51 = .ok (.getfield 12, 3) := by decide +kernel
theorem dX11_byHowMuch_54 : decode cX11_byHowMuch 54 = .ok (.getfield 47, 3) := by decide +kernel
theorem dX11_byHowMuch_57 : decode cX11_byHowMuch 57 = .ok (.getfield 154, 3) := by decide +kernel
theorem dX11_byHowMuch_60 : decode cX11_byHowMuch 60 = .ok (.aload_n 0, 1) := by decide +kernel
theorem dX11_byHowMuch_61 : decode cX11_byHowMuch 61 = .ok (.getfield 12, 3) := by decide +kernel
theorem dX11_byHowMuch_64 : decode cX11_byHowMuch 64 = .ok (.getfield 177, 3) := by decide +kernel
theorem dX11_byHowMuch_67 : decode cX11_byHowMuch 67 = .ok (.getfield 188, 3) := by decide +kernel
theorem dX11_byHowMuch_70 : decode cX11_byHowMuch 70 = .ok (.iload 7, 2) := by decide +kernel
theorem dX11_byHowMuch_72 : decode cX11_byHowMuch 72 = .ok (.iaload, 1) := by decide +kernel
theorem dX11_byHowMuch_73 : decode cX11_byHowMuch 73 = .ok (.iaload, 1) := by decide +kernel
theorem dX11_byHowMuch_74 : decode cX11_byHowMuch 74 = .ok (.iload_n 1, 1) := by decide +kernel
theorem dX11_byHowMuch_75 : decode cX11_byHowMuch 75 = .ok (.if_icmp .eq 6, 3) := by decide +kernel
theorem dX11_byHowMuch_78 : decode cX11_byHowMuch 78 = .ok (.goto 60, 3) := by decide +kernel
theorem dX11_byHowMuch_81 : decode cX11_byHowMuch 81 = .ok (.aload_n 0, 1) := by decide +kernel
theorem dX11_byHowMuch_82 : decode cX11_byHowMuch 82 = .ok (.getfield 12, 3) := by decide +kernel
theorem dX11_byHowMuch_85 : decode cX11_byHowMuch 85 = .ok (.iload 7, 2) := by decide +kernel
theorem dX11_byHowMuch_87 : decode cX11_byHowMuch 87 = .ok (.invokevirtual 191, 3) := by decide +kernel
theorem dX11_byHowMuch_90 : decode cX11_byHowMuch 90 = .ok (.istore 8, 2) := by decide +kernel
theorem dX11_byHowMuch_92 : decode cX11_byHowMuch 92 = .ok (.iload 4, 2) := by decide +kernel
theorem dX11_byHowMuch_94 : decode cX11_byHowMuch 94 = .ok (.iload 8, 2) := by decide +kernel
theorem dX11_byHowMuch_96 : decode cX11_byHowMuch 96 = .ok (.iadd, 1) := by decide +kernel
theorem dX11_byHowMuch_97 : decode cX11_byHowMuch 97 = .ok (.istore 4, 2) := by decide +kernel
theorem dX11_byHowMuch_99 : decode cX11_byHowMuch 99 = .ok (.iload_n 3, 1) := by decide +kernel
theorem dX11_byHowMuch_100 : decode cX11_byHowMuch 100 = .ok (.ifCond .ne 8, 3) := by decide +kernel
theorem dX11_byHowMuch_103 : decode cX11_byHowMuch 103 = .ok (.iload 8, 2) := by decide +kernel
theorem dX11_byHowMuch_105 : decode cX11_byHowMuch 105 = .ok (.goto 10, 3) := by decide +kernel
theorem dX11_byHowMuch_108 : decode cX11_byHowMuch 108 = .ok (.iload 5, 2) := by decide +kernel
theorem dX11_byHowMuch_110 : decode cX11_byHowMuch 110 = .ok (.iload 8, 2) := by decide +kernel
theorem dX11_byHowMuch_112 : decode cX11_byHowMuch 112 = .ok (.invokestatic 194, 3) := by decide +kernel
theorem dX11_byHowMuch_115 : decode cX11_byHowMuch 115 = .ok (.istore 5, 2) := by decide +kernel
theorem dX11_byHowMuch_117 : decode cX11_byHowMuch 117 = .ok (.iload_n 3, 1) := by decide +kernel
theorem dX11_byHowMuch_118 : decode cX11_byHowMuch 118 = .ok (.ifCond .ne 8, 3) := by decide +kernel
theorem dX11_byHowMuch_121 : decode cX11_byHowMuch 121 = .ok (.iload 8, 2) := by decide +kernel
theorem dX11_byHowMuch_123 : decode cX11_byHowMuch 123 = .ok (.goto 10, 3) := by decide +kernel
theorem dX11_byHowMuch_126 : decode cX11_byHowMuch 126 = .ok (.iload 6, 2) := by decide +kernel
theorem dX11_byHowMuch_128 : decode cX11_byHowMuch 128 = .ok (.iload 8, 2) := by decide +kernel
theorem dX11_byHowMuch_130 : decode cX11_byHowMuch 130 = .ok (.invokestatic 199, 3) := by decide +kernel
theorem dX11_byHowMuch_133 : decode cX11_byHowMuch 133 = .ok (.istore 6, 2) := by decide +kernel
theorem dX11_byHowMuch_135 : decode cX11_byHowMuch 135 = .ok (.iinc 3 1, 3) := by decide +kernel
theorem dX11_byHowMuch_138 : decode cX11_byHowMuch 138 = .ok (.iinc 7 1, 3) := by decide +kernel
theorem dX11_byHowMuch_141 : decode cX11_byHowMuch 141 = .ok (.goto (-106), 3) := by decide +kernel
theorem dX11_byHowMuch_144 : decode cX11_byHowMuch 144 = .ok (.iload_n 3, 1) := by decide +kernel
theorem dX11_byHowMuch_145 : decode cX11_byHowMuch 145 = .ok (.ifCond .ne 6, 3) := by decide +kernel
theorem dX11_byHowMuch_148 : decode cX11_byHowMuch 148 = .ok (.ldc 202, 2) := by decide +kernel
theorem dX11_byHowMuch_150 : decode cX11_byHowMuch 150 = .ok (.ireturn, 1) := by decide +kernel
theorem dX11_byHowMuch_151 : decode cX11_byHowMuch 151 = .ok (.iload_n 2, 1) := by decide +kernel
theorem dX11_byHowMuch_152 : decode cX11_byHowMuch 152 = .ok (.ifCond .ne 8, 3) := by decide +kernel
theorem dX11_byHowMuch_155 : decode cX11_byHowMuch 155 = .ok (.iload 4, 2) := by decide +kernel
theorem dX11_byHowMuch_157 : decode cX11_byHowMuch 157 = .ok (.goto 15, 3) := by decide +kernel
theorem dX11_byHowMuch_160 : decode cX11_byHowMuch 160 = .ok (.iload_n 2, 1) := by decide +kernel
theorem dX11_byHowMuch_161 : decode cX11_byHowMuch 161 = .ok (.iconst 1, 1) := by decide +kernel
theorem dX11_byHowMuch_162 : decode cX11_byHowMuch 162 = .ok (.if_icmp .ne 8, 3) := by decide +kernel
theorem dX11_byHowMuch_165 : decode cX11_byHowMuch 165 = .ok (.iload 5, 2) := by decide +kernel
theorem dX11_byHowMuch_167 : decode cX11_byHowMuch 167 = .ok (.goto 5, 3) := by decide +kernel
theorem dX11_byHowMuch_170 : decode cX11_byHowMuch 170 = .ok (.iload 6, 2) := by decide +kernel
theorem dX11_byHowMuch_172 : decode cX11_byHowMuch 172 = .ok (.ireturn, 1) := by decide +kernel
theorem dX11_round_0 : decode cX11_round 0 = .ok (.aload_n 0, 1) := by decide +kernel
theorem dX11_round_1 : decode cX11_round 1 = .ok (.iload_n 3, 1) := by decide +kernel
theorem dX11_round_2 : decode cX11_round 2 = .ok (.invokevirtual 100, 3) := by decide +kernel
theorem dX11_round_5 : decode cX11_round 5 = .ok (.astore 5, 2) := by decide +kernel
theorem dX11_round_7 : decode cX11_round 7 = .ok (.aload 5, 2) := by decide +kernel
theorem dX11_round_9 : decode cX11_round 9 = .ok (.ifnull 39, 3) := by decide +kernel
theorem dX11_round_12 : decode cX11_round 12 = .ok (.aload_n 0, 1) := by decide +kernel
theorem dX11_round_13 : decode cX11_round 13 = .ok (.getfield 12, 3) := by decide +kernel
theorem dX11_round_16 : decode cX11_round 16 = .ok (.getfield 75, 3) := by decide +kernel
theorem dX11_round_19 : decode cX11_round 19 = .ok (.iload_n 1, 1) := by decide +kernel
theorem dX11_round_20 : decode cX11_round 20 = .ok (.invokevirtual 85, 3) := by decide +kernel
theorem dX11_round_23 : decode cX11_round 23 = .ok (.ifCond .eq 25, 3) := by decide +kernel
theorem dX11_round_26 : decode cX11_round 26 = .ok (.iload_n 2, 1) := by decide +kernel
theorem dX11_round_27 : decode cX11_round 27 = .ok (.iconst 0, 1) := by decide +kernel
theorem dX11_round_28 : decode cX11_round 28 = .ok (.sipush 600, 3) := by decide +kernel
theorem dX11_round_31 : decode cX11_round 31 = .ok (.invokestatic 43, 3) := by decide +kernel
theorem dX11_round_34 : decode cX11_round 34 = .ok (.ifCond .eq 14, 3) := by decide +kernel
theorem dX11_round_37 : decode cX11_round 37 = .ok (.iload 4, 2) := by decide +kernel
theorem dX11_round_39 : decode cX11_round 39 = .ok (.iconst (-1), 1) := by decide +kernel
theorem dX11_round_40 : decode cX11_round 40 = .ok (.bipush 6, 2) := by decide +kernel
theorem dX11_round_42 : decode cX11_round 42 = .ok (.invokestatic 43, 3) := by decide +kernel
theorem dX11_round_45 : decode cX11_round 45 = .ok (.ifCond .ne 5, 3) := by decide +kernel
theorem dX11_round_48 : decode cX11_round 48 = .ok (.iconst (-1), 1) := by decide +kernel
theorem dX11_round_49 : decode cX11_round 49 = .ok (.ireturn, 1) := by decide +kernel
theorem dX11_round_50 : decode cX11_round 50 = .ok (.aload 5, 2) := by decide +kernel
theorem dX11_round_52 : decode cX11_round 52 = .ok (.invokestatic 126, 3) := by decide +kernel
theorem dX11_round_55 : decode cX11_round 55 = .ok (.istore 6, 2) := by decide +kernel
theorem dX11_round_57 : decode cX11_round 57 = .ok (.iload 6, 2) := by decide +kernel
theorem dX11_round_59 : decode cX11_round 59 = .ok (.ifCond .eq 6, 3) := by decide +kernel
theorem dX11_round_62 : decode cX11_round 62 = .ok (.iload 6, 2) := by decide +kernel
theorem dX11_round_64 : decode cX11_round 64 = .ok (.ireturn, 1) := by decide +kernel
theorem dX11_round_65 : decode cX11_round 65 = .ok (.aload_n 0, 1) := by decide +kernel
theorem dX11_round_66 : decode cX11_round 66 = .ok (.getfield 32, 3) := by decide +kernel
theorem dX11_round_69 : decode cX11_round 69 = .ok (.aload 5, 2) := by decide +kernel
theorem dX11_round_71 : decode cX11_round 71 = .ok (.aload_n 0, 1) := by decide +kernel
theorem dX11_round_72 : decode cX11_round 72 = .ok (.getfield 12, 3) := by decide +kernel
theorem dX11_round_75 : decode cX11_round 75 = .ok (.getfield 47, 3) := by decide +kernel
theorem dX11_round_78 : decode cX11_round 78 = .ok (.invokevirtual 203, 3) := by decide +kernel
theorem dX11_round_81 : decode cX11_round 81 = .ok (.ifCond .ne 6, 3) := by decide +kernel
theorem dX11_round_84 : decode cX11_round 84 = .ok (.bipush (-13), 2) := by decide +kernel
theorem dX11_round_86 : decode cX11_round 86 = .ok (.ireturn, 1) := by decide +kernel
theorem dX11_round_87 : decode cX11_round 87 = .ok (.aload_n 0, 1) := by decide +kernel
theorem dX11_round_88 : decode cX11_round 88 = .ok (.getfield 32, 3) := by decide +kernel
theorem dX11_round_91 : decode cX11_round 91 = .ok (.aload_n 0, 1) := by decide +kernel
theorem dX11_round_92 : decode cX11_round 92 = .ok (.getfield 12, 3) := by decide +kernel
theorem dX11_round_95 : decode cX11_round 95 = .ok (.getfield 75, 3) := by decide +kernel
theorem dX11_round_98 : decode cX11_round 98 = .ok (.getfield 207, 3) := by decide +kernel
theorem dX11_round_101 : decode cX11_round 101 = .ok (.iload_n 1, 1) := by decide +kernel
theorem dX11_round_102 : decode cX11_round 102 = .ok (.iaload, 1) := by decide +kernel
theorem dX11_round_103 : decode cX11_round 103 = .ok (.aload_n 0, 1) := by decide +kernel
theorem dX11_round_104 : decode cX11_round 104 = .ok (.getfield 12, 3) := by decide +kernel
theorem dX11_round_107 : decode cX11_round 107 = .ok (.getfield 75, 3) := by decide +kernel
theorem dX11_round_110 : decode cX11_round 110 = .ok (.getfield 210, 3) := by decide +kernel
theorem dX11_round_113 : decode cX11_round 113 = .ok (.iload_n 1, 1) := by decide +kernel
theorem dX11_round_114 : decode cX11_round 114 = .ok (.iaload, 1) := by decide +kernel
theorem dX11_round_115 : decode cX11_round 115 = .ok (.iload_n 2, 1) := by decide +kernel
theorem dX11_round_116 : decode cX11_round 116 = .ok (.invokevirtual 213, 3) := by decide +kernel
theorem dX11_round_119 : decode cX11_round 119 = .ok (.ifCond .ne 6, 3) := by decide +kernel
theorem dX11_round_122 : decode cX11_round 122 = .ok (.bipush (-4), 2) := by decide +kernel
theorem dX11_round_124 : decode cX11_round 124 = .ok (.ireturn, 1) := by decide +kernel
theorem dX11_round_125 : decode cX11_round 125 = .ok (.iload 4, 2) := by decide +kernel
theorem dX11_round_127 : decode cX11_round 127 = .ok (.ifCond .ge 13, 3) := by decide +kernel
theorem dX11_round_130 : decode cX11_round 130 = .ok (.aload_n 0, 1) := by decide +kernel
theorem dX11_round_131 : decode cX11_round 131 = .ok (.getfield 32, 3) := by decide +kernel
theorem dX11_round_134 : decode cX11_round 134 = .ok (.getfield 216, 3) := by decide +kernel
theorem dX11_round_137 : decode cX11_round 137 = .ok (.goto 12, 3) := by decide +kernel
theorem dX11_round_140 : decode cX11_round 140 = .ok (.aload_n 0, 1) := by decide +kernel
theorem dX11_round_141 : decode cX11_round 141 = .ok (.getfield 32, 3) := by decide +kernel
theorem dX11_round_144 : decode cX11_round 144 = .ok (.iload 4, 2) := by decide +kernel
theorem dX11_round_146 : decode cX11_round 146 = .ok (.invokevirtual 219, 3) := by decide +kernel
theorem dX11_round_149 : decode cX11_round 149 = .ok (.ireturn, 1) := by decide +kernel
theorem dX11_judge_0 : decode cX11_judge 0 = .ok (.aload_n 0, 1) := by decide +kernel
theorem dX11_judge_1 : decode cX11_judge 1 = .ok (.iload_n 3, 1) := by decide +kernel
theorem dX11_judge_2 : decode cX11_judge 2 = .ok (.invokevirtual 100, 3) := by decide +kernel
theorem dX11_judge_5 : decode cX11_judge 5 = .ok (.astore 4, 2) := by decide +kernel
theorem dX11_judge_7 : decode cX11_judge 7 = .ok (.aload 4, 2) := by decide +kernel
theorem dX11_judge_9 : decode cX11_judge 9 = .ok (.ifnull 28, 3) := by decide +kernel
theorem dX11_judge_12 : decode cX11_judge 12 = .ok (.aload_n 0, 1) := by decide +kernel
theorem dX11_judge_13 : decode cX11_judge 13 = .ok (.getfield 12, 3) := by decide +kernel
theorem dX11_judge_16 : decode cX11_judge 16 = .ok (.getfield 75, 3) := by decide +kernel
theorem dX11_judge_19 : decode cX11_judge 19 = .ok (.iload_n 1, 1) := by decide +kernel
theorem dX11_judge_20 : decode cX11_judge 20 = .ok (.invokevirtual 85, 3) := by decide +kernel
theorem dX11_judge_23 : decode cX11_judge 23 = .ok (.ifCond .eq 14, 3) := by decide +kernel
theorem dX11_judge_26 : decode cX11_judge 26 = .ok (.iload_n 2, 1) := by decide +kernel
theorem dX11_judge_27 : decode cX11_judge 27 = .ok (.iconst 0, 1) := by decide +kernel
theorem dX11_judge_28 : decode cX11_judge 28 = .ok (.sipush 600, 3) := by decide +kernel
theorem dX11_judge_31 : decode cX11_judge 31 = .ok (.invokestatic 43, 3) := by decide +kernel
theorem dX11_judge_34 : decode cX11_judge 34 = .ok (.ifCond .ne 5, 3) := by decide +kernel
theorem dX11_judge_37 : decode cX11_judge 37 = .ok (.iconst (-1), 1) := by decide +kernel
theorem dX11_judge_38 : decode cX11_judge 38 = .ok (.ireturn, 1) := by decide +kernel
theorem dX11_judge_39 : decode cX11_judge 39 = .ok (.aload 4, 2) := by decide +kernel
theorem dX11_judge_41 : decode cX11_judge 41 = .ok (.invokestatic 126, 3) := by decide +kernel
theorem dX11_judge_44 : decode cX11_judge 44 = .ok (.istore 5, 2) := by decide +kernel
theorem dX11_judge_46 : decode cX11_judge 46 = .ok (.iload 5, 2) := by decide +kernel
theorem dX11_judge_48 : decode cX11_judge 48 = .ok (.ifCond .eq 8, 3) := by decide +kernel
theorem dX11_judge_51 : decode cX11_judge 51 = .ok (.iload 5, 2) := by decide +kernel
theorem dX11_judge_53 : decode cX11_judge 53 = .ok (.goto 14, 3) := by decide +kernel
theorem dX11_judge_56 : decode cX11_judge 56 = .ok (.aload_n 0, 1) := by decide +kernel
theorem dX11_judge_57 : decode cX11_judge 57 = .ok (.getfield 12, 3) := by decide +kernel
theorem dX11_judge_60 : decode cX11_judge 60 = .ok (.iload_n 1, 1) := by decide +kernel
theorem dX11_judge_61 : decode cX11_judge 61 = .ok (.iload_n 2, 1) := by decide +kernel
theorem dX11_judge_62 : decode cX11_judge 62 = .ok (.aload 4, 2) := by decide +kernel
theorem dX11_judge_64 : decode cX11_judge 64 = .ok (.invokevirtual 222, 3) := by decide +kernel
theorem dX11_judge_67 : decode cX11_judge 67 = .ok (.ireturn, 1) := by decide +kernel
theorem dX11_bought_0 : decode cX11_bought 0 = .ok (.aload_n 0, 1) := by decide +kernel
theorem dX11_bought_1 : decode cX11_bought 1 = .ok (.getfield 12, 3) := by decide +kernel
theorem dX11_bought_4 : decode cX11_bought 4 = .ok (.getfield 75, 3) := by decide +kernel
theorem dX11_bought_7 : decode cX11_bought 7 = .ok (.iload_n 1, 1) := by decide +kernel
theorem dX11_bought_8 : decode cX11_bought 8 = .ok (.invokevirtual 85, 3) := by decide +kernel
theorem dX11_bought_11 : decode cX11_bought 11 = .ok (.ifCond .eq 13, 3) := by decide +kernel
theorem dX11_bought_14 : decode cX11_bought 14 = .ok (.iload_n 2, 1) := by decide +kernel
theorem dX11_bought_15 : decode cX11_bought 15 = .ok (.iconst 1, 1) := by decide +kernel
theorem dX11_bought_16 : decode cX11_bought 16 = .ok (.bipush 20, 2) := by decide +kernel
theorem dX11_bought_18 : decode cX11_bought 18 = .ok (.invokestatic 43, 3) := by decide +kernel
theorem dX11_bought_21 : decode cX11_bought 21 = .ok (.ifCond .ne 5, 3) := by decide +kernel
theorem dX11_bought_24 : decode cX11_bought 24 = .ok (.iconst (-1), 1) := by decide +kernel
theorem dX11_bought_25 : decode cX11_bought 25 = .ok (.ireturn, 1) := by decide +kernel
theorem dX11_bought_26 : decode cX11_bought 26 = .ok (.aload_n 0, 1) := by decide +kernel
theorem dX11_bought_27 : decode cX11_bought 27 = .ok (.getfield 12, 3) := by decide +kernel
theorem dX11_bought_30 : decode cX11_bought 30 = .ok (.getfield 115, 3) := by decide +kernel
theorem dX11_bought_33 : decode cX11_bought 33 = .ok (.iload_n 2, 1) := by decide +kernel
theorem dX11_bought_34 : decode cX11_bought 34 = .ok (.iadd, 1) := by decide +kernel
theorem dX11_bought_35 : decode cX11_bought 35 = .ok (.sipush 400, 3) := by decide +kernel
theorem dX11_bought_38 : decode cX11_bought 38 = .ok (.if_icmp .le 6, 3) := by decide +kernel
theorem dX11_bought_41 : decode cX11_bought 41 = .ok (.bipush (-2), 2) := by decide +kernel
theorem dX11_bought_43 : decode cX11_bought 43 = .ok (.ireturn, 1) := by decide +kernel
theorem dX11_bought_44 : decode cX11_bought 44 = .ok (.aload_n 0, 1) := by decide +kernel
theorem dX11_bought_45 : decode cX11_bought 45 = .ok (.getfield 19, 3) := by decide +kernel
theorem dX11_bought_48 : decode cX11_bought 48 = .ok (.aload_n 0, 1) := by decide +kernel
theorem dX11_bought_49 : decode cX11_bought 49 = .ok (.getfield 12, 3) := by decide +kernel
theorem dX11_bought_52 : decode cX11_bought 52 = .ok (.invokevirtual 226, 3) := by decide +kernel
theorem dX11_bought_55 : decode cX11_bought 55 = .ok (.aload_n 0, 1) := by decide +kernel
theorem dX11_bought_56 : decode cX11_bought 56 = .ok (.getfield 19, 3) := by decide +kernel
theorem dX11_bought_59 : decode cX11_bought 59 = .ok (.getfield 75, 3) := by decide +kernel
theorem dX11_bought_62 : decode cX11_bought 62 = .ok (.iload_n 1, 1) := by decide +kernel
theorem dX11_bought_63 : decode cX11_bought 63 = .ok (.sipush 1000, 3) := by decide +kernel
theorem dX11_bought_66 : decode cX11_bought 66 = .ok (.invokevirtual 230, 3) := by decide +kernel
theorem dX11_bought_69 : decode cX11_bought 69 = .ok (.aload_n 0, 1) := by decide +kernel
theorem dX11_bought_70 : decode cX11_bought 70 = .ok (.getfield 19, 3) := by decide +kernel
theorem dX11_bought_73 : decode cX11_bought 73 = .ok (.iload_n 2, 1) := by decide +kernel
theorem dX11_bought_74 : decode cX11_bought 74 = .ok (.iconst (-1), 1) := by decide +kernel
theorem dX11_bought_75 : decode cX11_bought 75 = .ok (.invokevirtual 167, 3) := by decide +kernel
theorem dX11_bought_78 : decode cX11_bought 78 = .ok (.iconst 0, 1) := by decide +kernel
theorem dX11_bought_79 : decode cX11_bought 79 = .ok (.istore_n 3, 1) := by decide +kernel
theorem dX11_bought_80 : decode cX11_bought 80 = .ok (.iload_n 3, 1) := by decide +kernel
theorem dX11_bought_81 : decode cX11_bought 81 = .ok (.aload_n 0, 1) := by decide +kernel
theorem dX11_bought_82 : decode cX11_bought 82 = .ok (.getfield 12, 3) := by decide +kernel
theorem dX11_bought_85 : decode cX11_bought 85 = .ok (.getfield 47, 3) := by decide +kernel
theorem dX11_bought_88 : decode cX11_bought 88 = .ok (.getfield 51, 3) := by decide +kernel
theorem dX11_bought_91 : decode cX11_bought 91 = .ok (.if_icmp .ge 87, 3) := by decide +kernel
theorem dX11_bought_94 : decode cX11_bought 94 = .ok (.iload_n 3, 1) := by decide +kernel
theorem dX11_bought_95 : decode cX11_bought 95 = .ok (.bipush 11, 2) := by decide +kernel
theorem dX11_bought_97 : decode cX11_bought 97 = .ok (.imul, 1) := by decide +kernel
theorem dX11_bought_98 : decode cX11_bought 98 = .ok (.iconst 2, 1) := by decide +kernel
theorem dX11_bought_99 : decode cX11_bought 99 = .ok (.iadd, 1) := by decide +kernel
theorem dX11_bought_100 : decode cX11_bought 100 = .ok (.istore 4, 2) := by decide +kernel
theorem dX11_bought_102 : decode cX11_bought 102 = .ok (.aload_n 0, 1) := by decide +kernel
theorem dX11_bought_103 : decode cX11_bought 103 = .ok (.getfield 12, 3) := by decide +kernel
theorem dX11_bought_106 : decode cX11_bought 106 = .ok (.getfield 75, 3) := by decide +kernel
theorem dX11_bought_109 : decode cX11_bought 109 = .ok (.aload_n 0, 1) := by decide +kernel
theorem dX11_bought_110 : decode cX11_bought 110 = .ok (.getfield 12, 3) := by decide +kernel
theorem dX11_bought_113 : decode cX11_bought 113 = .ok (.getfield 47, 3) := by decide +kernel
theorem dX11_bought_116 : decode cX11_bought 116 = .ok (.getfield 154, 3) := by decide +kernel
theorem dX11_bought_119 : decode cX11_bought 119 = .ok (.iload_n 3, 1) := by decide +kernel
theorem dX11_bought_120 : decode cX11_bought 120 = .ok (.iaload, 1) := by decide +kernel
theorem dX11_bought_121 : decode cX11_bought 121 = .ok (.invokevirtual 89, 3) := by decide +kernel
theorem dX11_bought_124 : decode cX11_bought 124 = .ok (.iload_n 1, 1) := by decide +kernel
theorem dX11_bought_125 : decode cX11_bought 125 = .ok (.if_icmp .ne 7, 3) := by decide +kernel
theorem dX11_bought_128 : decode cX11_bought 128 = .ok (.iconst 1, 1) := by decide +kernel
theorem dX11_bought_129 : decode cX11_bought 129 = .ok (.goto 4, 3) := by decide +kernel
theorem dX11_bought_132 : decode cX11_bought 132 = .ok (.iconst 0, 1) := by decide +kernel
theorem dX11_bought_133 : decode cX11_bought 133 = .ok (.istore 5, 2) := by decide +kernel
theorem dX11_bought_135 : decode cX11_bought 135 = .ok (.iload 5, 2) := by decide +kernel
theorem dX11_bought_137 : decode cX11_bought 137 = .ok (.ifCond .eq 35, 3) := by decide +kernel
theorem dX11_bought_140 : decode cX11_bought 140 = .ok (.aload_n 0, 1) := by decide +kernel
theorem dX11_bought_141 : decode cX11_bought 141 = .ok (.getfield 19, 3) := by decide +kernel
theorem dX11_bought_144 : decode cX11_bought 144 = .ok (.getfield 47, 3) := by decide +kernel
theorem dX11_bought_147 : decode cX11_bought 147 = .ok (.getfield 171, 3) := by decide +kernel
theorem dX11_bought_150 : decode cX11_bought 150 = .ok (.iload 4, 2) := by decide +kernel
theorem dX11_bought_152 : decode cX11_bought 152 = .ok (.iaload, 1) := by decide +kernel
theorem dX11_bought_153 : decode cX11_bought 153 = .ok (.aload_n 0, 1) := by decide +kernel
theorem dX11_bought_154 : decode cX11_bought 154 = .ok (.getfield 12, 3) := by decide +kernel
theorem dX11_bought_157 : decode cX11_bought 157 = .ok (.getfield 47, 3) := by decide +kernel
theorem dX11_bought_160 : decode cX11_bought 160 = .ok (.getfield 171, 3) := by decide +kernel
theorem dX11_bought_163 : decode cX11_bought 163 = .ok (.iload 4, 2) := by decide +kernel
theorem dX11_bought_165 : decode cX11_bought 165 = .ok (.iaload, 1) := by decide +kernel
theorem dX11_bought_166 : decode cX11_bought 166 = .ok (.if_icmp .eq 6, 3) := by decide +kernel
theorem dX11_bought_169 : decode cX11_bought 169 = .ok (.bipush (-4), 2) := by decide +kernel
theorem dX11_bought_171 : decode cX11_bought 171 = .ok (.ireturn, 1) := by decide +kernel
theorem dX11_bought_172 : decode cX11_bought 172 = .ok (.iinc 3 1, 3) := by decide +kernel
theorem dX11_bought_175 : decode cX11_bought 175 = .ok (.goto (-95), 3) := by decide +kernel
theorem dX11_bought_178 : decode cX11_bought 178 = .ok (.iconst 0, 1) := by decide +kernel
theorem dX11_bought_179 : decode cX11_bought 179 = .ok (.sipush 1000, 3) := by decide +kernel
theorem dX11_bought_182 : decode cX11_bought 182 = .ok (.aload_n 0, 1) := by decide +kernel
theorem dX11_bought_183 : decode cX11_bought 183 = .ok (.getfield 19, 3) := by decide +kernel
theorem dX11_bought_186 : decode cX11_bought 186 = .ok (.getfield 75, 3) := by decide +kernel
theorem dX11_bought_189 : decode cX11_bought 189 = .ok (.getfield 233, 3) := by decide +kernel
theorem dX11_bought_192 : decode cX11_bought 192 = .ok (.iload_n 1, 1) := by decide +kernel
theorem dX11_bought_193 : decode cX11_bought 193 = .ok (.iaload, 1) := by decide +kernel
theorem dX11_bought_194 : decode cX11_bought 194 = .ok (.isub, 1) := by decide +kernel
theorem dX11_bought_195 : decode cX11_bought 195 = .ok (.invokestatic 199, 3) := by decide +kernel
theorem dX11_bought_198 : decode cX11_bought 198 = .ok (.ireturn, 1) := by decide +kernel
theorem dX11_parted_0 : decode cX11_parted 0 = .ok (.iload_n 1, 1) := by decide +kernel
theorem dX11_parted_1 : decode cX11_parted 1 = .ok (.iconst 0, 1) := by decide +kernel
theorem dX11_parted_2 : decode cX11_parted 2 = .ok (.sipush 9999, 3) := by decide +kernel
theorem dX11_parted_5 : decode cX11_parted 5 = .ok (.invokestatic 43, 3) := by decide +kernel
theorem dX11_parted_8 : decode cX11_parted 8 = .ok (.ifCond .eq 20, 3) := by decide +kernel
theorem dX11_parted_11 : decode cX11_parted 11 = .ok (.iload_n 2, 1) := by decide +kernel
theorem dX11_parted_12 : decode cX11_parted 12 = .ok (.aload_n 0, 1) := by decide +kernel
theorem dX11_parted_13 : decode cX11_parted 13 = .ok (.getfield 12, 3) := by decide +kernel
theorem dX11_parted_16 : decode cX11_parted 16 = .ok (.getfield 115, 3) := by decide +kernel
theorem dX11_parted_19 : decode cX11_parted 19 = .ok (.sipush 400, 3) := by decide +kernel
theorem dX11_parted_22 : decode cX11_parted 22 = .ok (.invokestatic 43, 3) := by decide +kernel
theorem dX11_parted_25 : decode cX11_parted 25 = .ok (.ifCond .ne 5, 3) := by decide +kernel
theorem dX11_parted_28 : decode cX11_parted 28 = .ok (.iconst (-1), 1) := by decide +kernel
theorem dX11_parted_29 : decode cX11_parted 29 = .ok (.ireturn, 1) := by decide +kernel
theorem dX11_parted_30 : decode cX11_parted 30 = .ok (.iload_n 3, 1) := by decide +kernel
theorem dX11_parted_31 : decode cX11_parted 31 = .ok (.invokestatic 236, 3) := by decide +kernel
theorem dX11_parted_34 : decode cX11_parted 34 = .ok (.ifCond .eq 13, 3) := by decide +kernel
theorem dX11_parted_37 : decode cX11_parted 37 = .ok (.iload 4, 2) := by decide +kernel
theorem dX11_parted_39 : decode cX11_parted 39 = .ok (.iconst 0, 1) := by decide +kernel
theorem dX11_parted_40 : decode cX11_parted 40 = .ok (.iconst 3, 1) := by decide +kernel
theorem dX11_parted_41 : decode cX11_parted 41 = .ok (.invokestatic 43, 3) := by decide +kernel
theorem dX11_parted_44 : decode cX11_parted 44 = .ok (.ifCond .ne 5, 3) := by decide +kernel
theorem dX11_parted_47 : decode cX11_parted 47 = .ok (.iconst (-1), 1) := by decide +kernel
theorem dX11_parted_48 : decode cX11_parted 48 = .ok (.ireturn, 1) := by decide +kernel
theorem dX11_parted_49 : decode cX11_parted 49 = .ok (.iload_n 1, 1) := by decide +kernel
theorem dX11_parted_50 : decode cX11_parted 50 = .ok (.istore 5, 2) := by decide +kernel
theorem dX11_parted_52 : decode cX11_parted 52 = .ok (.iconst 0, 1) := by decide +kernel
theorem dX11_parted_53 : decode cX11_parted 53 = .ok (.istore 6, 2) := by decide +kernel
theorem dX11_parted_55 : decode cX11_parted 55 = .ok (.iload 6, 2) := by decide +kernel
theorem dX11_parted_57 : decode cX11_parted 57 = .ok (.iconst 4, 1) := by decide +kernel
theorem dX11_parted_58 : decode cX11_parted 58 = .ok (.if_icmp .ge 51, 3) := by decide +kernel
theorem dX11_parted_61 : decode cX11_parted 61 = .ok (.iload_n 3, 1) := by decide +kernel
theorem dX11_parted_62 : decode cX11_parted 62 = .ok (.iload 6, 2) := by decide +kernel
theorem dX11_parted_64 : decode cX11_parted 64 = .ok (.invokestatic 239, 3) := by decide +kernel
theorem dX11_parted_67 : decode cX11_parted 67 = .ok (.istore 7, 2) := by decide +kernel
theorem dX11_parted_69 : decode cX11_parted 69 = .ok (.iload 5, 2) := by decide +kernel
theorem dX11_parted_71 : decode cX11_parted 71 = .ok (.aload_n 0, 1) := by decide +kernel
theorem dX11_parted_72 : decode cX11_parted 72 = .ok (.getfield 12, 3) := by decide +kernel
theorem dX11_parted_75 : decode cX11_parted 75 = .ok (.iload 7, 2) := by decide +kernel
theorem dX11_parted_77 : decode cX11_parted 77 = .ok (.iload_n 2, 1) := by decide +kernel
theorem dX11_parted_78 : decode cX11_parted 78 = .ok (.invokevirtual 242, 3) := by decide +kernel
theorem dX11_parted_81 : decode cX11_parted 81 = .ok (.invokestatic 194, 3) := by decide +kernel
theorem dX11_parted_84 : decode cX11_parted 84 = .ok (.istore 8, 2) := by decide +kernel
theorem dX11_parted_86 : decode cX11_parted 86 = .ok (.iload 7, 2) := by decide +kernel
theorem dX11_parted_88 : decode cX11_parted 88 = .ok (.iload 4, 2) := by decide +kernel
theorem dX11_parted_90 : decode cX11_parted 90 = .ok (.if_icmp .ne 6, 3) := by decide +kernel
theorem dX11_parted_93 : decode cX11_parted 93 = .ok (.iload 8, 2) := by decide +kernel
theorem dX11_parted_95 : decode cX11_parted 95 = .ok (.ireturn, 1) := by decide +kernel
theorem dX11_parted_96 : decode cX11_parted 96 = .ok (.iload 5, 2) := by decide +kernel
theorem dX11_parted_98 : decode cX11_parted 98 = .ok (.iload 8, 2) := by decide +kernel
theorem dX11_parted_100 : decode cX11_parted 100 = .ok (.isub, 1) := by decide +kernel
theorem dX11_parted_101 : decode cX11_parted 101 = .ok (.istore 5, 2) := by decide +kernel
theorem dX11_parted_103 : decode cX11_parted 103 = .ok (.iinc 6 1, 3) := by decide +kernel
theorem dX11_parted_106 : decode cX11_parted 106 = .ok (.goto (-51), 3) := by decide +kernel
theorem dX11_parted_109 : decode cX11_parted 109 = .ok (.iconst 0, 1) := by decide +kernel
theorem dX11_parted_110 : decode cX11_parted 110 = .ok (.ireturn, 1) := by decide +kernel
theorem dX11_away_0 : decode cX11_away 0 = .ok (.iload_n 1, 1) := by decide +kernel
theorem dX11_away_1 : decode cX11_away 1 = .ok (.iconst 0, 1) := by decide +kernel
theorem dX11_away_2 : decode cX11_away 2 = .ok (.iconst 2, 1) := by decide +kernel
theorem dX11_away_3 : decode cX11_away 3 = .ok (.invokestatic 43, 3) := by decide +kernel
theorem dX11_away_6 : decode cX11_away 6 = .ok (.ifCond .eq 22, 3) := by decide +kernel
theorem dX11_away_9 : decode cX11_away 9 = .ok (.iload_n 2, 1) := by decide +kernel
theorem dX11_away_10 : decode cX11_away 10 = .ok (.iconst 1, 1) := by decide +kernel
theorem dX11_away_11 : decode cX11_away 11 = .ok (.bipush 60, 2) := by decide +kernel
theorem dX11_away_13 : decode cX11_away 13 = .ok (.invokestatic 43, 3) := by decide +kernel
theorem dX11_away_16 : decode cX11_away 16 = .ok (.ifCond .eq 12, 3) := by decide +kernel
theorem dX11_away_19 : decode cX11_away 19 = .ok (.iload_n 3, 1) := by decide +kernel
theorem dX11_away_20 : decode cX11_away 20 = .ok (.iconst 0, 1) := by decide +kernel
theorem dX11_away_21 : decode cX11_away 21 = .ok (.iconst 2, 1) := by decide +kernel
theorem dX11_away_22 : decode cX11_away 22 = .ok (.invokestatic 43, 3) := by decide +kernel
theorem dX11_away_25 : decode cX11_away 25 = .ok (.ifCond .ne 6, 3) := by decide +kernel
theorem dX11_away_28 : decode cX11_away 28 = .ok (.ldc 187, 2) := by decide +kernel
theorem dX11_away_30 : decode cX11_away 30 = .ok (.ireturn, 1) := by decide +kernel
theorem dX11_away_31 : decode cX11_away 31 = .ok (.aload_n 0, 1) := by decide +kernel
theorem dX11_away_32 : decode cX11_away 32 = .ok (.getfield 12, 3) := by decide +kernel
theorem dX11_away_35 : decode cX11_away 35 = .ok (.getfield 115, 3) := by decide +kernel
theorem dX11_away_38 : decode cX11_away 38 = .ok (.iload_n 2, 1) := by decide +kernel
theorem dX11_away_39 : decode cX11_away 39 = .ok (.iadd, 1) := by decide +kernel
theorem dX11_away_40 : decode cX11_away 40 = .ok (.sipush 400, 3) := by decide +kernel
theorem dX11_away_43 : decode cX11_away 43 = .ok (.if_icmp .le 6, 3) := by decide +kernel
theorem dX11_away_46 : decode cX11_away 46 = .ok (.ldc 245, 2) := by decide +kernel
theorem dX11_away_48 : decode cX11_away 48 = .ok (.ireturn, 1) := by decide +kernel
theorem dX11_away_49 : decode cX11_away 49 = .ok (.iload_n 3, 1) := by decide +kernel
theorem dX11_away_50 : decode cX11_away 50 = .ok (.ifCond .ne 7, 3) := by decide +kernel
theorem dX11_away_53 : decode cX11_away 53 = .ok (.iconst 5, 1) := by decide +kernel
theorem dX11_away_54 : decode cX11_away 54 = .ok (.goto 15, 3) := by decide +kernel
theorem dX11_away_57 : decode cX11_away 57 = .ok (.iload_n 3, 1) := by decide +kernel
theorem dX11_away_58 : decode cX11_away 58 = .ok (.iconst 1, 1) := by decide +kernel
theorem dX11_away_59 : decode cX11_away 59 = .ok (.if_icmp .ne 8, 3) := by decide +kernel
theorem dX11_away_62 : decode cX11_away 62 = .ok (.bipush 10, 2) := by decide +kernel
theorem dX11_away_64 : decode cX11_away 64 = .ok (.goto 5, 3) := by decide +kernel
theorem dX11_away_67 : decode cX11_away 67 = .ok (.bipush 8, 2) := by decide +kernel
theorem dX11_away_69 : decode cX11_away 69 = .ok (.istore 4, 2) := by decide +kernel
theorem dX11_away_71 : decode cX11_away 71 = .ok (.aload_n 0, 1) := by decide +kernel
theorem dX11_away_72 : decode cX11_away 72 = .ok (.getfield 19, 3) := by decide +kernel
theorem dX11_away_75 : decode cX11_away 75 = .ok (.aload_n 0, 1) := by decide +kernel
theorem dX11_away_76 : decode cX11_away 76 = .ok (.getfield 12, 3) := by decide +kernel
theorem dX11_away_79 : decode cX11_away 79 = .ok (.invokevirtual 226, 3) := by decide +kernel
theorem dX11_away_82 : decode cX11_away 82 = .ok (.aload_n 0, 1) := by decide +kernel
theorem dX11_away_83 : decode cX11_away 83 = .ok (.getfield 19, 3) := by decide +kernel
theorem dX11_away_86 : decode cX11_away 86 = .ok (.iload_n 2, 1) := by decide +kernel
theorem dX11_away_87 : decode cX11_away 87 = .ok (.iconst (-1), 1) := by decide +kernel
theorem dX11_away_88 : decode cX11_away 88 = .ok (.invokevirtual 167, 3) := by decide +kernel
theorem dX11_away_91 : decode cX11_away 91 = .ok (.aload_n 0, 1) := by decide +kernel
theorem dX11_away_92 : decode cX11_away 92 = .ok (.getfield 19, 3) := by decide +kernel
theorem dX11_away_95 : decode cX11_away 95 = .ok (.getfield 47, 3) := by decide +kernel
theorem dX11_away_98 : decode cX11_away 98 = .ok (.iload 4, 2) := by decide +kernel
theorem dX11_away_100 : decode cX11_away 100 = .ok (.invokevirtual 246, 3) := by decide +kernel
theorem dX11_away_103 : decode cX11_away 103 = .ok (.istore 5, 2) := by decide +kernel
theorem dX11_away_105 : decode cX11_away 105 = .ok (.aload_n 0, 1) := by decide +kernel
theorem dX11_away_106 : decode cX11_away 106 = .ok (.getfield 19, 3) := by decide +kernel
theorem dX11_away_109 : decode cX11_away 109 = .ok (.aload_n 0, 1) := by decide +kernel
theorem dX11_away_110 : decode cX11_away 110 = .ok (.getfield 12, 3) := by decide +kernel
theorem dX11_away_113 : decode cX11_away 113 = .ok (.invokevirtual 226, 3) := by decide +kernel
theorem dX11_away_116 : decode cX11_away 116 = .ok (.aload_n 0, 1) := by decide +kernel
theorem dX11_away_117 : decode cX11_away 117 = .ok (.getfield 19, 3) := by decide +kernel
theorem dX11_away_120 : decode cX11_away 120 = .ok (.iload_n 2, 1) := by decide +kernel
theorem dX11_away_121 : decode cX11_away 121 = .ok (.iload_n 1, 1) := by decide +kernel
theorem dX11_away_122 : decode cX11_away 122 = .ok (.invokevirtual 167, 3) := by decide +kernel
theorem dX11_away_125 : decode cX11_away 125 = .ok (.iload 5, 2) := by decide +kernel
theorem dX11_away_127 : decode cX11_away 127 = .ok (.aload_n 0, 1) := by decide +kernel
theorem dX11_away_128 : decode cX11_away 128 = .ok (.getfield 19, 3) := by decide +kernel
theorem dX11_away_131 : decode cX11_away 131 = .ok (.getfield 47, 3) := by decide +kernel
theorem dX11_away_134 : decode cX11_away 134 = .ok (.iload 4, 2) := by decide +kernel
theorem dX11_away_136 : decode cX11_away 136 = .ok (.invokevirtual 246, 3) := by decide +kernel
theorem dX11_away_139 : decode cX11_away 139 = .ok (.isub, 1) := by decide +kernel
theorem dX11_away_140 : decode cX11_away 140 = .ok (.ireturn, 1) := by decide +kernel
theorem dX11_beside_0 : decode cX11_beside 0 = .ok (.aload_n 0, 1) := by decide +kernel
theorem dX11_beside_1 : decode cX11_beside 1 = .ok (.iload_n 1, 1) := by decide +kernel
theorem dX11_beside_2 : decode cX11_beside 2 = .ok (.invokevirtual 100, 3) := by decide +kernel
theorem dX11_beside_5 : decode cX11_beside 5 = .ok (.astore 4, 2) := by decide +kernel
theorem dX11_beside_7 : decode cX11_beside 7 = .ok (.aload 4, 2) := by decide +kernel
theorem dX11_beside_9 : decode cX11_beside 9 = .ok (.ifnull 23, 3) := by decide +kernel
theorem dX11_beside_12 : decode cX11_beside 12 = .ok (.iload_n 2, 1) := by decide +kernel
theorem dX11_beside_13 : decode cX11_beside 13 = .ok (.iconst 0, 1) := by decide +kernel
theorem dX11_beside_14 : decode cX11_beside 14 = .ok (.sipush 600, 3) := by decide +kernel
theorem dX11_beside_17 : decode cX11_beside 17 = .ok (.invokestatic 43, 3) := by decide +kernel
theorem dX11_beside_20 : decode cX11_beside 20 = .ok (.ifCond .eq 12, 3) := by decide +kernel
theorem dX11_beside_23 : decode cX11_beside 23 = .ok (.iload_n 3, 1) := by decide +kernel
theorem dX11_beside_24 : decode cX11_beside 24 = .ok (.iconst 0, 1) := by decide +kernel
theorem dX11_beside_25 : decode cX11_beside 25 = .ok (.iconst 1, 1) := by decide +kernel
theorem dX11_beside_26 : decode cX11_beside 26 = .ok (.invokestatic 43, 3) := by decide +kernel
theorem dX11_beside_29 : decode cX11_beside 29 = .ok (.ifCond .ne 6, 3) := by decide +kernel
theorem dX11_beside_32 : decode cX11_beside 32 = .ok (.ldc 187, 2) := by decide +kernel
theorem dX11_beside_34 : decode cX11_beside 34 = .ok (.ireturn, 1) := by decide +kernel
theorem dX11_beside_35 : decode cX11_beside 35 = .ok (.aload 4, 2) := by decide +kernel
theorem dX11_beside_37 : decode cX11_beside 37 = .ok (.invokestatic 126, 3) := by decide +kernel
theorem dX11_beside_40 : decode cX11_beside 40 = .ok (.istore 5, 2) := by decide +kernel
theorem dX11_beside_42 : decode cX11_beside 42 = .ok (.iload 5, 2) := by decide +kernel
theorem dX11_beside_44 : decode cX11_beside 44 = .ok (.ifCond .eq 9, 3) := by decide +kernel
theorem dX11_beside_47 : decode cX11_beside 47 = .ok (.ldc 249, 2) := by decide +kernel
theorem dX11_beside_49 : decode cX11_beside 49 = .ok (.iload 5, 2) := by decide +kernel
theorem dX11_beside_51 : decode cX11_beside 51 = .ok (.iadd, 1) := by decide +kernel
theorem dX11_beside_52 : decode cX11_beside 52 = .ok (.ireturn, 1) := by decide +kernel
theorem dX11_beside_53 : decode cX11_beside 53 = .ok (.iconst 0, 1) := by decide +kernel
theorem dX11_beside_54 : decode cX11_beside 54 = .ok (.istore 6, 2) := by decide +kernel
theorem dX11_beside_56 : decode cX11_beside 56 = .ok (.iconst 0, 1) := by decide +kernel
theorem dX11_beside_57 : decode cX11_beside 57 = .ok (.istore 7, 2) := by decide +kernel
theorem dX11_beside_59 : decode cX11_beside 59 = .ok (.iconst 0, 1) := by decide +kernel
theorem dX11_beside_60 : decode cX11_beside 60 = .ok (.istore 8, 2) := by decide +kernel
theorem dX11_beside_62 : decode cX11_beside 62 = .ok (.iload 8, 2) := by decide +kernel
theorem dX11_beside_64 : decode cX11_beside 64 = .ok (.aload_n 0, 1) := by decide +kernel
theorem dX11_beside_65 : decode cX11_beside 65 = .ok (.getfield 12, 3) := by decide +kernel
theorem dX11_beside_68 : decode cX11_beside 68 = .ok (.getfield 47, 3) := by decide +kernel
theorem dX11_beside_71 : decode cX11_beside 71 = .ok (.getfield 51, 3) := by decide +kernel
theorem dX11_beside_74 : decode cX11_beside 74 = .ok (.if_icmp .ge 115, 3) := by decide +kernel
theorem dX11_beside_77 : decode cX11_beside 77 = .ok (.iconst 0, 1) := by decide +kernel
theorem dX11_beside_78 : decode cX11_beside 78 = .ok (.istore 9, 2) := by decide +kernel
theorem dX11_beside_80 : decode cX11_beside 80 = .ok (.iload 9, 2) := by decide +kernel
theorem dX11_beside_82 : decode cX11_beside 82 = .ok (.aload_n 0, 1) := by decide +kernel
theorem dX11_beside_83 : decode cX11_beside 83 = .ok (.getfield 12, 3) := by decide +kernel
theorem dX11_beside_86 : decode cX11_beside 86 = .ok (.getfield 47, 3) := by decide +kernel
theorem dX11_beside_89 : decode cX11_beside 89 = .ok (.getfield 51, 3) := by decide +kernel
theorem dX11_beside_92 : decode cX11_beside 92 = .ok (.if_icmp .ge 91, 3) := by decide +kernel
theorem dX11_beside_95 : decode cX11_beside 95 = .ok (.aload 4, 2) := by decide +kernel
theorem dX11_beside_97 : decode cX11_beside 97 = .ok (.iload 8, 2) := by decide +kernel
theorem dX11_beside_99 : decode cX11_beside 99 = .ok (.iconst 1, 1) := by decide +kernel
theorem dX11_beside_100 : decode cX11_beside 100 = .ok (.invokevirtual 250, 3) := by decide +kernel
theorem dX11_beside_103 : decode cX11_beside 103 = .ok (.ifCond .eq 74, 3) := by decide +kernel
theorem dX11_beside_106 : decode cX11_beside 106 = .ok (.aload 4, 2) := by decide +kernel
theorem dX11_beside_108 : decode cX11_beside 108 = .ok (.iload 9, 2) := by decide +kernel
theorem dX11_beside_110 : decode cX11_beside 110 = .ok (.iconst 0, 1) := by decide +kernel
theorem dX11_beside_111 : decode cX11_beside 111 = .ok (.invokevirtual 250, 3) := by decide +kernel
theorem dX11_beside_114 : decode cX11_beside 114 = .ok (.ifCond .eq 63, 3) := by decide +kernel
theorem dX11_beside_117 : decode cX11_beside 117 = .ok (.aload_n 0, 1) := by decide +kernel
theorem dX11_beside_118 : decode cX11_beside 118 = .ok (.getfield 12, 3) := by decide +kernel
theorem dX11_beside_121 : decode cX11_beside 121 = .ok (.iload 8, 2) := by decide +kernel
theorem dX11_beside_123 : decode cX11_beside 123 = .ok (.iload 9, 2) := by decide +kernel
theorem dX11_beside_125 : decode cX11_beside 125 = .ok (.iload_n 2, 1) := by decide +kernel
theorem dX11_beside_126 : decode cX11_beside 126 = .ok (.invokevirtual 254, 3) := by decide +kernel
theorem dX11_beside_129 : decode cX11_beside 129 = .ok (.ifCond .eq 48, 3) := by decide +kernel
theorem dX11_beside_132 : decode cX11_beside 132 = .ok (.iinc 6 1, 3) := by decide +kernel
theorem dX11_beside_135 : decode cX11_beside 135 = .ok (.iload 7, 2) := by decide +kernel
theorem dX11_beside_137 : decode cX11_beside 137 = .ok (.aload_n 0, 1) := by decide +kernel
theorem dX11_beside_138 : decode cX11_beside 138 = .ok (.getfield 12, 3) := by decide +kernel
theorem dX11_beside_141 : decode cX11_beside 141 = .ok (.getfield 47, 3) := by decide +kernel
theorem dX11_beside_144 : decode cX11_beside 144 = .ok (.getfield 171, 3) := by decide +kernel
theorem dX11_beside_147 : decode cX11_beside 147 = .ok (.iload 8, 2) := by decide +kernel
theorem dX11_beside_149 : decode cX11_beside 149 = .ok (.bipush 11, 2) := by decide +kernel
theorem dX11_beside_151 : decode cX11_beside 151 = .ok (.imul, 1) := by decide +kernel
theorem dX11_beside_152 : decode cX11_beside 152 = .ok (.iconst 5, 1) := by decide +kernel
theorem dX11_beside_153 : decode cX11_beside 153 = .ok (.iadd, 1) := by decide +kernel
theorem dX11_beside_154 : decode cX11_beside 154 = .ok (.iaload, 1) := by decide +kernel
theorem dX11_beside_155 : decode cX11_beside 155 = .ok (.aload_n 0, 1) := by decide +kernel
theorem dX11_beside_156 : decode cX11_beside 156 = .ok (.getfield 12, 3) := by decide +kernel
theorem dX11_beside_159 : decode cX11_beside 159 = .ok (.getfield 47, 3) := by decide +kernel
theorem dX11_beside_162 : decode cX11_beside 162 = .ok (.getfield 171, 3) := by decide +kernel
theorem dX11_beside_165 : decode cX11_beside 165 = .ok (.iload 9, 2) := by decide +kernel
theorem dX11_beside_167 : decode cX11_beside 167 = .ok (.bipush 11, 2) := by decide +kernel
theorem dX11_beside_169 : decode cX11_beside 169 = .ok (.imul, 1) := by decide +kernel
theorem dX11_beside_170 : decode cX11_beside 170 = .ok (.iconst 5, 1) := by decide +kernel
theorem dX11_beside_171 : decode cX11_beside 171 = .ok (.iadd, 1) := by decide +kernel
theorem dX11_beside_172 : decode cX11_beside 172 = .ok (.iaload, 1) := by decide +kernel
theorem dX11_beside_173 : decode cX11_beside 173 = .ok (.isub, 1) := by decide +kernel
theorem dX11_beside_174 : decode cX11_beside 174 = .ok (.iadd, 1) := by decide +kernel
theorem dX11_beside_175 : decode cX11_beside 175 = .ok (.istore 7, 2) := by decide +kernel
theorem dX11_beside_177 : decode cX11_beside 177 = .ok (.iinc 9 1, 3) := by decide +kernel
theorem dX11_beside_180 : decode cX11_beside 180 = .ok (.goto (-100), 3) := by decide +kernel
theorem dX11_beside_183 : decode cX11_beside 183 = .ok (.iinc 8 1, 3) := by decide +kernel
theorem dX11_beside_186 : decode cX11_beside 186 = .ok (.goto (-124), 3) := by decide +kernel
theorem dX11_beside_189 : decode cX11_beside 189 = .ok (.iload_n 3, 1) := by decide +kernel
theorem dX11_beside_190 : decode cX11_beside 190 = .ok (.ifCond .ne 8, 3) := by decide +kernel
theorem dX11_beside_193 : decode cX11_beside 193 = .ok (.iload 7, 2) := by decide +kernel
theorem dX11_beside_195 : decode cX11_beside 195 = .ok (.goto 5, 3) := by decide +kernel
theorem dX11_beside_198 : decode cX11_beside 198 = .ok (.iload 6, 2) := by decide +kernel
theorem dX11_beside_200 : decode cX11_beside 200 = .ok (.ireturn, 1) := by decide +kernel
theorem dX11_image_0 : decode cX11_image 0 = .ok (.aload_n 0, 1) := by decide +kernel
theorem dX11_image_1 : decode cX11_image 1 = .ok (.getfield 16, 3) := by decide +kernel
theorem dX11_image_4 : decode cX11_image 4 = .ok (.aload_n 0, 1) := by decide +kernel
theorem dX11_image_5 : decode cX11_image 5 = .ok (.getfield 12, 3) := by decide +kernel
theorem dX11_image_8 : decode cX11_image 8 = .ok (.invokevirtual 226, 3) := by decide +kernel
theorem dX11_image_11 : decode cX11_image 11 = .ok (.aload_n 0, 1) := by decide +kernel
theorem dX11_image_12 : decode cX11_image 12 = .ok (.iconst 1, 1) := by decide +kernel
theorem dX11_image_13 : decode cX11_image 13 = .ok (.putfield 257, 3) := by decide +kernel
theorem dX11_image_16 : decode cX11_image 16 = .ok (.aload_n 0, 1) := by decide +kernel
theorem dX11_image_17 : decode cX11_image 17 = .ok (.getfield 12, 3) := by decide +kernel
theorem dX11_image_20 : decode cX11_image 20 = .ok (.getfield 115, 3) := by decide +kernel
theorem dX11_image_23 : decode cX11_image 23 = .ok (.ireturn, 1) := by decide +kernel
theorem dX11_restore_0 : decode cX11_restore 0 = .ok (.aload_n 0, 1) := by decide +kernel
theorem dX11_restore_1 : decode cX11_restore 1 = .ok (.getfield 257, 3) := by decide +kernel
theorem dX11_restore_4 : decode cX11_restore 4 = .ok (.ifCond .ne 6, 3) := by decide +kernel
theorem dX11_restore_7 : decode cX11_restore 7 = .ok (.bipush (-3), 2) := by decide +kernel
theorem dX11_restore_9 : decode cX11_restore 9 = .ok (.ireturn, 1) := by decide +kernel
theorem dX11_restore_10 : decode cX11_restore 10 = .ok (.aload_n 0, 1) := by decide +kernel
theorem dX11_restore_11 : decode cX11_restore 11 = .ok (.getfield 12, 3) := by decide +kernel
theorem dX11_restore_14 : decode cX11_restore 14 = .ok (.aload_n 0, 1) := by decide +kernel
theorem dX11_restore_15 : decode cX11_restore 15 = .ok (.getfield 16, 3) := by decide +kernel
theorem dX11_restore_18 : decode cX11_restore 18 = .ok (.invokevirtual 226, 3) := by decide +kernel
theorem dX11_restore_21 : decode cX11_restore 21 = .ok (.aload_n 0, 1) := by decide +kernel
theorem dX11_restore_22 : decode cX11_restore 22 = .ok (.getfield 12, 3) := by decide +kernel
theorem dX11_restore_25 : decode cX11_restore 25 = .ok (.getfield 115, 3) := by decide +kernel
theorem dX11_restore_28 : decode cX11_restore 28 = .ok (.ireturn, 1) := by decide +kernel
theorem dX11_count_0 : decode cX11_count 0 = .ok (.iload_n 1, 1) := by decide +kernel
theorem dX11_count_1 : decode cX11_count 1 = .ok (.tableswitch 150 0 8 #[51, 62, 73, 84, 92, 103, 114, 127, 139], 51) := by decide +kernel
theorem dX11_count_52 : decode cX11_count 52 = .ok (.aload_n 0, 1) := by decide +kernel
theorem dX11_count_53 : decode cX11_count 53 = .ok (.getfield 12, 3) := by decide +kernel
theorem dX11_count_56 : decode cX11_count 56 = .ok (.getfield 47, 3) := by decide +kernel
theorem dX11_count_59 : decode cX11_count 59 = .ok (.getfield 51, 3) := by decide +kernel
theorem dX11_count_62 : decode cX11_count 62 = .ok (.ireturn, 1) := by decide +kernel
theorem dX11_count_63 : decode cX11_count 63 = .ok (.aload_n 0, 1) := by decide +kernel
theorem dX11_count_64 : decode cX11_count 64 = .ok (.getfield 12, 3) := by decide +kernel
theorem dX11_count_67 : decode cX11_count 67 = .ok (.getfield 75, 3) := by decide +kernel
theorem dX11_count_70 : decode cX11_count 70 = .ok (.getfield 79, 3) := by decide +kernel
theorem dX11_count_73 : decode cX11_count 73 = .ok (.ireturn, 1) := by decide +kernel
theorem dX11_count_74 : decode cX11_count 74 = .ok (.aload_n 0, 1) := by decide +kernel
theorem dX11_count_75 : decode cX11_count 75 = .ok (.getfield 12, 3) := by decide +kernel
theorem dX11_count_78 : decode cX11_count 78 = .ok (.getfield 132, 3) := by decide +kernel
theorem dX11_count_81 : decode cX11_count 81 = .ok (.getfield 136, 3) := by decide +kernel
theorem dX11_count_84 : decode cX11_count 84 = .ok (.ireturn, 1) := by decide +kernel
theorem dX11_count_85 : decode cX11_count 85 = .ok (.aload_n 0, 1) := by decide +kernel
theorem dX11_count_86 : decode cX11_count 86 = .ok (.getfield 12, 3) := by decide +kernel
theorem dX11_count_89 : decode cX11_count 89 = .ok (.getfield 115, 3) := by decide +kernel
theorem dX11_count_92 : decode cX11_count 92 = .ok (.ireturn, 1) := by decide +kernel
theorem dX11_count_93 : decode cX11_count 93 = .ok (.aload_n 0, 1) := by decide +kernel
theorem dX11_count_94 : decode cX11_count 94 = .ok (.getfield 12, 3) := by decide +kernel
theorem dX11_count_97 : decode cX11_count 97 = .ok (.getfield 177, 3) := by decide +kernel
theorem dX11_count_100 : decode cX11_count 100 = .ok (.getfield 181, 3) := by decide +kernel
theorem dX11_count_103 : decode cX11_count 103 = .ok (.ireturn, 1) := by decide +kernel
theorem dX11_count_104 : decode cX11_count 104 = .ok (.aload_n 0, 1) := by decide +kernel
theorem dX11_count_105 : decode cX11_count 105 = .ok (.getfield 12, 3) := by decide +kernel
theorem dX11_count_108 : decode cX11_count 108 = .ok (.getfield 75, 3) := by decide +kernel
theorem dX11_count_111 : decode cX11_count 111 = .ok (.invokevirtual 261, 3) := by decide +kernel
theorem dX11_count_114 : decode cX11_count 114 = .ok (.ireturn, 1) := by decide +kernel
theorem dX11_count_115 : decode cX11_count 115 = .ok (.aload_n 0, 1) := by decide +kernel
theorem dX11_count_116 : decode cX11_count 116 = .ok (.getfield 12, 3) := by decide +kernel
theorem dX11_count_119 : decode cX11_count 119 = .ok (.getfield 47, 3) := by decide +kernel
theorem dX11_count_122 : decode cX11_count 122 = .ok (.bipush 8, 2) := by decide +kernel
theorem dX11_count_124 : decode cX11_count 124 = .ok (.invokevirtual 246, 3) := by decide +kernel
theorem dX11_count_127 : decode cX11_count 127 = .ok (.ireturn, 1) := by decide +kernel
theorem dX11_count_128 : decode cX11_count 128 = .ok (.aload_n 0, 1) := by decide +kernel
theorem dX11_count_129 : decode cX11_count 129 = .ok (.getfield 12, 3) := by decide +kernel
theorem dX11_count_132 : decode cX11_count 132 = .ok (.getfield 47, 3) := by decide +kernel
theorem dX11_count_135 : decode cX11_count 135 = .ok (.iconst 3, 1) := by decide +kernel
theorem dX11_count_136 : decode cX11_count 136 = .ok (.invokevirtual 246, 3) := by decide +kernel
theorem dX11_count_139 : decode cX11_count 139 = .ok (.ireturn, 1) := by decide +kernel
theorem dX11_count_140 : decode cX11_count 140 = .ok (.aload_n 0, 1) := by decide +kernel
theorem dX11_count_141 : decode cX11_count 141 = .ok (.getfield 12, 3) := by decide +kernel
theorem dX11_count_144 : decode cX11_count 144 = .ok (.getfield 104, 3) := by decide +kernel
theorem dX11_count_147 : decode cX11_count 147 = .ok (.getfield 108, 3) := by decide +kernel
theorem dX11_count_150 : decode cX11_count 150 = .ok (.ireturn, 1) := by decide +kernel
theorem dX11_count_151 : decode cX11_count 151 = .ok (.iconst (-1), 1) := by decide +kernel
theorem dX11_count_152 : decode cX11_count 152 = .ok (.ireturn, 1) := by decide +kernel
theorem dX11_keep_0 : decode cX11_keep 0 = .ok (.aload_n 0, 1) := by decide +kernel
theorem dX11_keep_1 : decode cX11_keep 1 = .ok (.iload_n 1, 1) := by decide +kernel
theorem dX11_keep_2 : decode cX11_keep 2 = .ok (.invokevirtual 100, 3) := by decide +kernel
theorem dX11_keep_5 : decode cX11_keep 5 = .ok (.astore 6, 2) := by decide +kernel
theorem dX11_keep_7 : decode cX11_keep 7 = .ok (.aload 6, 2) := by decide +kernel
theorem dX11_keep_9 : decode cX11_keep 9 = .ok (.ifnull 12, 3) := by decide +kernel
theorem dX11_keep_12 : decode cX11_keep 12 = .ok (.iload_n 2, 1) := by decide +kernel
theorem dX11_keep_13 : decode cX11_keep 13 = .ok (.iconst 0, 1) := by decide +kernel
theorem dX11_keep_14 : decode cX11_keep 14 = .ok (.iconst 1, 1) := by decide +kernel
theorem dX11_keep_15 : decode cX11_keep 15 = .ok (.invokestatic 43, 3) := by decide +kernel
theorem dX11_keep_18 : decode cX11_keep 18 = .ok (.ifCond .ne 5, 3) := by decide +kernel
theorem dX11_keep_21 : decode cX11_keep 21 = .ok (.iconst (-1), 1) := by decide +kernel
theorem dX11_keep_22 : decode cX11_keep 22 = .ok (.ireturn, 1) := by decide +kernel
theorem dX11_keep_23 : decode cX11_keep 23 = .ok (.iload_n 2, 1) := by decide +kernel
theorem dX11_keep_24 : decode cX11_keep 24 = .ok (.ifCond .ne 10, 3) := by decide +kernel
theorem dX11_keep_27 : decode cX11_keep 27 = .ok (.aload 6, 2) := by decide +kernel
theorem dX11_keep_29 : decode cX11_keep 29 = .ok (.invokevirtual 265, 3) := by decide +kernel
theorem dX11_keep_32 : decode cX11_keep 32 = .ok (.iconst 0, 1) := by decide +kernel
theorem dX11_keep_33 : decode cX11_keep 33 = .ok (.ireturn, 1) := by decide +kernel
theorem dX11_keep_34 : decode cX11_keep 34 = .ok (.iload_n 3, 1) := by decide +kernel
theorem dX11_keep_35 : decode cX11_keep 35 = .ok (.iconst 0, 1) := by decide +kernel
theorem dX11_keep_36 : decode cX11_keep 36 = .ok (.bipush 6, 2) := by decide +kernel
theorem dX11_keep_38 : decode cX11_keep 38 = .ok (.invokestatic 43, 3) := by decide +kernel
theorem dX11_keep_41 : decode cX11_keep 41 = .ok (.ifCond .eq 26, 3) := by decide +kernel
theorem dX11_keep_44 : decode cX11_keep 44 = .ok (.iload 4, 2) := by decide +kernel
theorem dX11_keep_46 : decode cX11_keep 46 = .ok (.iconst 0, 1) := by decide +kernel
theorem dX11_keep_47 : decode cX11_keep 47 = .ok (.sipush 9999, 3) := by decide +kernel
theorem dX11_keep_50 : decode cX11_keep 50 = .ok (.invokestatic 43, 3) := by decide +kernel
theorem dX11_keep_53 : decode cX11_keep 53 = .ok (.ifCond .eq 14, 3) := by decide +kernel
theorem dX11_keep_56 : decode cX11_keep 56 = .ok (.iload 5, 2) := by decide +kernel
theorem dX11_keep_58 : decode cX11_keep 58 = .ok (.iconst 0, 1) := by decide +kernel
theorem dX11_keep_59 : decode cX11_keep 59 = .ok (.bipush 11, 2) := by decide +kernel
theorem dX11_keep_61 : decode cX11_keep 61 = .ok (.invokestatic 43, 3) := by decide +kernel
theorem dX11_keep_64 : decode cX11_keep 64 = .ok (.ifCond .ne 5, 3) := by decide +kernel
theorem dX11_keep_67 : decode cX11_keep 67 = .ok (.iconst (-1), 1) := by decide +kernel
theorem dX11_keep_68 : decode cX11_keep 68 = .ok (.ireturn, 1) := by decide +kernel
theorem dX11_keep_69 : decode cX11_keep 69 = .ok (.aload 6, 2) := by decide +kernel
theorem dX11_keep_71 : decode cX11_keep 71 = .ok (.iload_n 3, 1) := by decide +kernel
theorem dX11_keep_72 : decode cX11_keep 72 = .ok (.iload 4, 2) := by decide +kernel
theorem dX11_keep_74 : decode cX11_keep 74 = .ok (.iload 5, 2) := by decide +kernel
theorem dX11_keep_76 : decode cX11_keep 76 = .ok (.invokevirtual 270, 3) := by decide +kernel
theorem dX11_keep_79 : decode cX11_keep 79 = .ok (.iconst 0, 1) := by decide +kernel
theorem dX11_keep_80 : decode cX11_keep 80 = .ok (.ireturn, 1) := by decide +kernel
theorem dX11_row_0 : decode cX11_row 0 = .ok (.aload_n 0, 1) := by decide +kernel
theorem dX11_row_1 : decode cX11_row 1 = .ok (.iload_n 1, 1) := by decide +kernel
theorem dX11_row_2 : decode cX11_row 2 = .ok (.invokevirtual 100, 3) := by decide +kernel
theorem dX11_row_5 : decode cX11_row 5 = .ok (.astore 4, 2) := by decide +kernel
theorem dX11_row_7 : decode cX11_row 7 = .ok (.aload 4, 2) := by decide +kernel
theorem dX11_row_9 : decode cX11_row 9 = .ok (.ifnull 18, 3) := by decide +kernel
theorem dX11_row_12 : decode cX11_row 12 = .ok (.iload_n 2, 1) := by decide +kernel
theorem dX11_row_13 : decode cX11_row 13 = .ok (.iconst 0, 1) := by decide +kernel
theorem dX11_row_14 : decode cX11_row 14 = .ok (.iconst 2, 1) := by decide +kernel
theorem dX11_row_15 : decode cX11_row 15 = .ok (.invokestatic 43, 3) := by decide +kernel
theorem dX11_row_18 : decode cX11_row 18 = .ok (.ifCond .eq 9, 3) := by decide +kernel
theorem dX11_row_21 : decode cX11_row 21 = .ok (.iload_n 3, 1) := by decide +kernel
theorem dX11_row_22 : decode cX11_row 22 = .ok (.bipush 80, 2) := by decide +kernel
theorem dX11_row_24 : decode cX11_row 24 = .ok (.if_icmp .le 5, 3) := by decide +kernel
theorem dX11_row_27 : decode cX11_row 27 = .ok (.iconst (-1), 1) := by decide +kernel
theorem dX11_row_28 : decode cX11_row 28 = .ok (.ireturn, 1) := by decide +kernel
theorem dX11_row_29 : decode cX11_row 29 = .ok (.iload_n 3, 1) := by decide +kernel
theorem dX11_row_30 : decode cX11_row 30 = .ok (.ifCond .ge 6, 3) := by decide +kernel
theorem dX11_row_33 : decode cX11_row 33 = .ok (.bipush (-14), 2) := by decide +kernel
theorem dX11_row_35 : decode cX11_row 35 = .ok (.ireturn, 1) := by decide +kernel
theorem dX11_row_36 : decode cX11_row 36 = .ok (.aload 4, 2) := by decide +kernel
theorem dX11_row_38 : decode cX11_row 38 = .ok (.iload_n 2, 1) := by decide +kernel
theorem dX11_row_39 : decode cX11_row 39 = .ok (.iload_n 3, 1) := by decide +kernel
theorem dX11_row_40 : decode cX11_row 40 = .ok (.invokevirtual 274, 3) := by decide +kernel
theorem dX11_row_43 : decode cX11_row 43 = .ok (.iconst 0, 1) := by decide +kernel
theorem dX11_row_44 : decode cX11_row 44 = .ok (.ireturn, 1) := by decide +kernel
theorem dX11_put_0 : decode cX11_put 0 = .ok (.aload_n 0, 1) := by decide +kernel
theorem dX11_put_1 : decode cX11_put 1 = .ok (.iload_n 1, 1) := by decide +kernel
theorem dX11_put_2 : decode cX11_put 2 = .ok (.invokevirtual 100, 3) := by decide +kernel
theorem dX11_put_5 : decode cX11_put 5 = .ok (.astore 4, 2) := by decide +kernel
theorem dX11_put_7 : decode cX11_put 7 = .ok (.aload 4, 2) := by decide +kernel
theorem dX11_put_9 : decode cX11_put 9 = .ok (.ifnonnull 5, 3) := by decide +kernel
theorem dX11_put_12 : decode cX11_put 12 = .ok (.iconst (-1), 1) := by decide +kernel
theorem dX11_put_13 : decode cX11_put 13 = .ok (.ireturn, 1) := by decide +kernel
theorem dX11_put_14 : decode cX11_put 14 = .ok (.aload 4, 2) := by decide +kernel
theorem dX11_put_16 : decode cX11_put 16 = .ok (.invokestatic 111, 3) := by decide +kernel
theorem dX11_put_19 : decode cX11_put 19 = .ok (.istore 5, 2) := by decide +kernel
theorem dX11_put_21 : decode cX11_put 21 = .ok (.iload 5, 2) := by decide +kernel
theorem dX11_put_23 : decode cX11_put 23 = .ok (.ifCond .eq 6, 3) := by decide +kernel
theorem dX11_put_26 : decode cX11_put 26 = .ok (.iload 5, 2) := by decide +kernel
theorem dX11_put_28 : decode cX11_put 28 = .ok (.ireturn, 1) := by decide +kernel
theorem dX11_put_29 : decode cX11_put 29 = .ok (.aload 4, 2) := by decide +kernel
theorem dX11_put_31 : decode cX11_put 31 = .ok (.iload_n 2, 1) := by decide +kernel
theorem dX11_put_32 : decode cX11_put 32 = .ok (.invokevirtual 277, 3) := by decide +kernel
theorem dX11_put_35 : decode cX11_put 35 = .ok (.ifCond .ne 6, 3) := by decide +kernel
theorem dX11_put_38 : decode cX11_put 38 = .ok (.bipush (-13), 2) := by decide +kernel
theorem dX11_put_40 : decode cX11_put 40 = .ok (.ireturn, 1) := by decide +kernel
theorem dX11_put_41 : decode cX11_put 41 = .ok (.aload 4, 2) := by decide +kernel
theorem dX11_put_43 : decode cX11_put 43 = .ok (.iload_n 2, 1) := by decide +kernel
theorem dX11_put_44 : decode cX11_put 44 = .ok (.iload_n 3, 1) := by decide +kernel
theorem dX11_put_45 : decode cX11_put 45 = .ok (.invokevirtual 280, 3) := by decide +kernel
theorem dX11_put_48 : decode cX11_put 48 = .ok (.iconst 0, 1) := by decide +kernel
theorem dX11_put_49 : decode cX11_put 49 = .ok (.ireturn, 1) := by decide +kernel
theorem dX11_element_0 : decode cX11_element 0 = .ok (.aload_n 0, 1) := by decide +kernel
theorem dX11_element_1 : decode cX11_element 1 = .ok (.iload_n 1, 1) := by decide +kernel
theorem dX11_element_2 : decode cX11_element 2 = .ok (.invokevirtual 100, 3) := by decide +kernel
theorem dX11_element_5 : decode cX11_element 5 = .ok (.astore_n 3, 1) := by decide +kernel
theorem dX11_element_6 : decode cX11_element 6 = .ok (.aload_n 3, 1) := by decide +kernel
theorem dX11_element_7 : decode cX11_element 7 = .ok (.ifnonnull 14, 3) := by decide +kernel
theorem dX11_element_10 : decode cX11_element 10 = .ok (.new 283, 3) := by decide +kernel
theorem dX11_element_13 : decode cX11_element 13 = .ok (.dup, 1) := by decide +kernel
theorem dX11_element_14 : decode cX11_element 14 = .ok (.ldc_w 285, 3) := by decide +kernel
theorem dX11_element_17 : decode cX11_element 17 = .ok (.invokespecial 287, 3) := by decide +kernel
theorem dX11_element_20 : decode cX11_element 20 = .ok (.athrow, 1) := by decide +kernel
theorem dX11_element_21 : decode cX11_element 21 = .ok (.aload_n 3, 1) := by decide +kernel
theorem dX11_element_22 : decode cX11_element 22 = .ok (.invokestatic 111, 3) := by decide +kernel
theorem dX11_element_25 : decode cX11_element 25 = .ok (.ifCond .ne 11, 3) := by decide +kernel
theorem dX11_element_28 : decode cX11_element 28 = .ok (.aload_n 3, 1) := by decide +kernel
theorem dX11_element_29 : decode cX11_element 29 = .ok (.iload_n 2, 1) := by decide +kernel
theorem dX11_element_30 : decode cX11_element 30 = .ok (.invokevirtual 277, 3) := by decide +kernel
theorem dX11_element_33 : decode cX11_element 33 = .ok (.ifCond .ne 14, 3) := by decide +kernel
theorem dX11_element_36 : decode cX11_element 36 = .ok (.new 290, 3) := by decide +kernel
theorem dX11_element_39 : decode cX11_element 39 = .ok (.dup, 1) := by decide +kernel
theorem dX11_element_40 : decode cX11_element 40 = .ok (.ldc_w 292, 3) := by decide +kernel
theorem dX11_element_43 : decode cX11_element 43 = .ok (.invokespecial 294, 3) := by decide +kernel
theorem dX11_element_46 : decode cX11_element 46 = .ok (.athrow, 1) := by decide +kernel
theorem dX11_element_47 : decode cX11_element 47 = .ok (.aload_n 3, 1) := by decide +kernel
theorem dX11_element_48 : decode cX11_element 48 = .ok (.getfield 295, 3) := by decide +kernel
theorem dX11_element_51 : decode cX11_element 51 = .ok (.iload_n 2, 1) := by decide +kernel
theorem dX11_element_52 : decode cX11_element 52 = .ok (.iaload, 1) := by decide +kernel
theorem dX11_element_53 : decode cX11_element 53 = .ok (.i2l, 1) := by decide +kernel
theorem dX11_element_54 : decode cX11_element 54 = .ok (.lreturn, 1) := by decide +kernel
theorem dX11_copy_0 : decode cX11_copy 0 = .ok (.aload_n 0, 1) := by decide +kernel
theorem dX11_copy_1 : decode cX11_copy 1 = .ok (.iload_n 1, 1) := by decide +kernel
theorem dX11_copy_2 : decode cX11_copy 2 = .ok (.invokevirtual 100, 3) := by decide +kernel
theorem dX11_copy_5 : decode cX11_copy 5 = .ok (.astore 6, 2) := by decide +kernel
theorem dX11_copy_7 : decode cX11_copy 7 = .ok (.aload_n 0, 1) := by decide +kernel
theorem dX11_copy_8 : decode cX11_copy 8 = .ok (.iload_n 3, 1) := by decide +kernel
theorem dX11_copy_9 : decode cX11_copy 9 = .ok (.invokevirtual 100, 3) := by decide +kernel
theorem dX11_copy_12 : decode cX11_copy 12 = .ok (.astore 7, 2) := by decide +kernel
theorem dX11_copy_14 : decode cX11_copy 14 = .ok (.aload 6, 2) := by decide +kernel
theorem dX11_copy_16 : decode cX11_copy 16 = .ok (.ifnull 8, 3) := by decide +kernel
theorem dX11_copy_19 : decode cX11_copy 19 = .ok (.aload 7, 2) := by decide +kernel
theorem dX11_copy_21 : decode cX11_copy 21 = .ok (.ifnonnull 5, 3) := by decide +kernel
theorem dX11_copy_24 : decode cX11_copy 24 = .ok (.iconst (-1), 1) := by decide +kernel
theorem dX11_copy_25 : decode cX11_copy 25 = .ok (.ireturn, 1) := by decide +kernel
theorem dX11_copy_26 : decode cX11_copy 26 = .ok (.aload 6, 2) := by decide +kernel
theorem dX11_copy_28 : decode cX11_copy 28 = .ok (.invokevirtual 298, 3) := by decide +kernel
theorem dX11_copy_31 : decode cX11_copy 31 = .ok (.ifCond .ne 11, 3) := by decide +kernel
theorem dX11_copy_34 : decode cX11_copy 34 = .ok (.aload 7, 2) := by decide +kernel
theorem dX11_copy_36 : decode cX11_copy 36 = .ok (.invokevirtual 298, 3) := by decide +kernel
theorem dX11_copy_39 : decode cX11_copy 39 = .ok (.ifCond .eq 6, 3) := by decide +kernel
theorem dX11_copy_42 : decode cX11_copy 42 = .ok (.bipush (-11), 2) := by decide +kernel
theorem dX11_copy_44 : decode cX11_copy 44 = .ok (.ireturn, 1) := by decide +kernel
theorem dX11_copy_45 : decode cX11_copy 45 = .ok (.aload 6, 2) := by decide +kernel
theorem dX11_copy_47 : decode cX11_copy 47 = .ok (.invokevirtual 302, 3) := by decide +kernel
theorem dX11_copy_50 : decode cX11_copy 50 = .ok (.ifCond .eq 24, 3) := by decide +kernel
theorem dX11_copy_53 : decode cX11_copy 53 = .ok (.aload 7, 2) := by decide +kernel
theorem dX11_copy_55 : decode cX11_copy 55 = .ok (.invokevirtual 302, 3) := by decide +kernel
theorem dX11_copy_58 : decode cX11_copy 58 = .ok (.ifCond .eq 16, 3) := by decide +kernel
theorem dX11_copy_61 : decode cX11_copy 61 = .ok (.aload 6, 2) := by decide +kernel
theorem dX11_copy_63 : decode cX11_copy 63 = .ok (.getfield 305, 3) := by decide +kernel
theorem dX11_copy_66 : decode cX11_copy 66 = .ok (.aload 7, 2) := by decide +kernel
theorem dX11_copy_68 : decode cX11_copy 68 = .ok (.getfield 305, 3) := by decide +kernel
theorem dX11_copy_71 : decode cX11_copy 71 = .ok (.if_icmp .eq 6, 3) := by decide +kernel
theorem dX11_copy_74 : decode cX11_copy 74 = .ok (.bipush (-12), 2) := by decide +kernel
theorem dX11_copy_76 : decode cX11_copy 76 = .ok (.ireturn, 1) := by decide +kernel
theorem dX11_copy_77 : decode cX11_copy 77 = .ok (.aload 6, 2) := by decide +kernel
theorem dX11_copy_79 : decode cX11_copy 79 = .ok (.iload_n 2, 1) := by decide +kernel
theorem dX11_copy_80 : decode cX11_copy 80 = .ok (.iload 5, 2) := by decide +kernel
theorem dX11_copy_82 : decode cX11_copy 82 = .ok (.invokevirtual 308, 3) := by decide +kernel
theorem dX11_copy_85 : decode cX11_copy 85 = .ok (.ifCond .eq 15, 3) := by decide +kernel
theorem dX11_copy_88 : decode cX11_copy 88 = .ok (.aload 7, 2) := by decide +kernel
theorem dX11_copy_90 : decode cX11_copy 90 = .ok (.iload 4, 2) := by decide +kernel
theorem dX11_copy_92 : decode cX11_copy 92 = .ok (.iload 5, 2) := by decide +kernel
theorem dX11_copy_94 : decode cX11_copy 94 = .ok (.invokevirtual 308, 3) := by decide +kernel
theorem dX11_copy_97 : decode cX11_copy 97 = .ok (.ifCond .ne 6, 3) := by decide +kernel
theorem dX11_copy_100 : decode cX11_copy 100 = .ok (.bipush (-13), 2) := by decide +kernel
theorem dX11_copy_102 : decode cX11_copy 102 = .ok (.ireturn, 1) := by decide +kernel
theorem dX11_copy_103 : decode cX11_copy 103 = .ok (.aload 6, 2) := by decide +kernel
theorem dX11_copy_105 : decode cX11_copy 105 = .ok (.getfield 295, 3) := by decide +kernel
theorem dX11_copy_108 : decode cX11_copy 108 = .ok (.iload_n 2, 1) := by decide +kernel
theorem dX11_copy_109 : decode cX11_copy 109 = .ok (.aload 7, 2) := by decide +kernel
theorem dX11_copy_111 : decode cX11_copy 111 = .ok (.getfield 295, 3) := by decide +kernel
theorem dX11_copy_114 : decode cX11_copy 114 = .ok (.iload 4, 2) := by decide +kernel
theorem dX11_copy_116 : decode cX11_copy 116 = .ok (.iload 5, 2) := by decide +kernel
theorem dX11_copy_118 : decode cX11_copy 118 = .ok (.invokestatic 311, 3) := by decide +kernel
theorem dX11_copy_121 : decode cX11_copy 121 = .ok (.iload 5, 2) := by decide +kernel
theorem dX11_copy_123 : decode cX11_copy 123 = .ok (.ireturn, 1) := by decide +kernel
theorem dX11_crate_0 : decode cX11_crate 0 = .ok (.aload_n 0, 1) := by decide +kernel
theorem dX11_crate_1 : decode cX11_crate 1 = .ok (.iload_n 1, 1) := by decide +kernel
theorem dX11_crate_2 : decode cX11_crate 2 = .ok (.invokevirtual 100, 3) := by decide +kernel
theorem dX11_crate_5 : decode cX11_crate 5 = .ok (.astore 4, 2) := by decide +kernel
theorem dX11_crate_7 : decode cX11_crate 7 = .ok (.aload 4, 2) := by decide +kernel
theorem dX11_crate_9 : decode cX11_crate 9 = .ok (.ifnull 23, 3) := by decide +kernel
theorem dX11_crate_12 : decode cX11_crate 12 = .ok (.iload_n 2, 1) := by decide +kernel
theorem dX11_crate_13 : decode cX11_crate 13 = .ok (.iconst 0, 1) := by decide +kernel
theorem dX11_crate_14 : decode cX11_crate 14 = .ok (.iconst 1, 1) := by decide +kernel
theorem dX11_crate_15 : decode cX11_crate 15 = .ok (.invokestatic 43, 3) := by decide +kernel
theorem dX11_crate_18 : decode cX11_crate 18 = .ok (.ifCond .eq 14, 3) := by decide +kernel
theorem dX11_crate_21 : decode cX11_crate 21 = .ok (.iload_n 3, 1) := by decide +kernel
theorem dX11_crate_22 : decode cX11_crate 22 = .ok (.iconst 0, 1) := by decide +kernel
theorem dX11_crate_23 : decode cX11_crate 23 = .ok (.sipush 999, 3) := by decide +kernel
theorem dX11_crate_26 : decode cX11_crate 26 = .ok (.invokestatic 43, 3) := by decide +kernel
theorem dX11_crate_29 : decode cX11_crate 29 = .ok (.ifCond .ne 5, 3) := by decide +kernel
theorem dX11_crate_32 : decode cX11_crate 32 = .ok (.iconst (-1), 1) := by decide +kernel
theorem dX11_crate_33 : decode cX11_crate 33 = .ok (.ireturn, 1) := by decide +kernel
theorem dX11_crate_34 : decode cX11_crate 34 = .ok (.aload 4, 2) := by decide +kernel
theorem dX11_crate_36 : decode cX11_crate 36 = .ok (.invokestatic 317, 3) := by decide +kernel
theorem dX11_crate_39 : decode cX11_crate 39 = .ok (.istore 5, 2) := by decide +kernel
theorem dX11_crate_41 : decode cX11_crate 41 = .ok (.iload 5, 2) := by decide +kernel
theorem dX11_crate_43 : decode cX11_crate 43 = .ok (.ifCond .eq 6, 3) := by decide +kernel
theorem dX11_crate_46 : decode cX11_crate 46 = .ok (.iload 5, 2) := by decide +kernel
theorem dX11_crate_48 : decode cX11_crate 48 = .ok (.ireturn, 1) := by decide +kernel
theorem dX11_crate_49 : decode cX11_crate 49 = .ok (.iload_n 2, 1) := by decide +kernel
theorem dX11_crate_50 : decode cX11_crate 50 = .ok (.ifCond .ne 19, 3) := by decide +kernel
theorem dX11_crate_53 : decode cX11_crate 53 = .ok (.aload 4, 2) := by decide +kernel
theorem dX11_crate_55 : decode cX11_crate 55 = .ok (.getfield 320, 3) := by decide +kernel
theorem dX11_crate_58 : decode cX11_crate 58 = .ok (.aload 4, 2) := by decide +kernel
theorem dX11_crate_60 : decode cX11_crate 60 = .ok (.getfield 323, 3) := by decide +kernel
theorem dX11_crate_63 : decode cX11_crate 63 = .ok (.invokestatic 325, 3) := by decide +kernel
theorem dX11_crate_66 : decode cX11_crate 66 = .ok (.goto 17, 3) := by decide +kernel
theorem dX11_crate_69 : decode cX11_crate 69 = .ok (.aload 4, 2) := by decide +kernel
theorem dX11_crate_71 : decode cX11_crate 71 = .ok (.getfield 320, 3) := by decide +kernel
theorem dX11_crate_74 : decode cX11_crate 74 = .ok (.aload 4, 2) := by decide +kernel
theorem dX11_crate_76 : decode cX11_crate 76 = .ok (.getfield 323, 3) := by decide +kernel
theorem dX11_crate_79 : decode cX11_crate 79 = .ok (.iload_n 3, 1) := by decide +kernel
theorem dX11_crate_80 : decode cX11_crate 80 = .ok (.invokestatic 328, 3) := by decide +kernel
theorem dX11_crate_83 : decode cX11_crate 83 = .ok (.ireturn, 1) := by decide +kernel
theorem dX11_toss_0 : decode cX11_toss 0 = .ok (.aload_n 0, 1) := by decide +kernel
theorem dX11_toss_1 : decode cX11_toss 1 = .ok (.iload_n 1, 1) := by decide +kernel
theorem dX11_toss_2 : decode cX11_toss 2 = .ok (.invokevirtual 100, 3) := by decide +kernel
theorem dX11_toss_5 : decode cX11_toss 5 = .ok (.astore_n 2, 1) := by decide +kernel
theorem dX11_toss_6 : decode cX11_toss 6 = .ok (.aload_n 2, 1) := by decide +kernel
theorem dX11_toss_7 : decode cX11_toss 7 = .ok (.ifnonnull 5, 3) := by decide +kernel
theorem dX11_toss_10 : decode cX11_toss 10 = .ok (.iconst (-1), 1) := by decide +kernel
theorem dX11_toss_11 : decode cX11_toss 11 = .ok (.ireturn, 1) := by decide +kernel
theorem dX11_toss_12 : decode cX11_toss 12 = .ok (.aload_n 2, 1) := by decide +kernel
theorem dX11_toss_13 : decode cX11_toss 13 = .ok (.invokestatic 317, 3) := by decide +kernel
theorem dX11_toss_16 : decode cX11_toss 16 = .ok (.istore_n 3, 1) := by decide +kernel
theorem dX11_toss_17 : decode cX11_toss 17 = .ok (.iload_n 3, 1) := by decide +kernel
theorem dX11_toss_18 : decode cX11_toss 18 = .ok (.ifCond .eq 5, 3) := by decide +kernel
theorem dX11_toss_21 : decode cX11_toss 21 = .ok (.iload_n 3, 1) := by decide +kernel
theorem dX11_toss_22 : decode cX11_toss 22 = .ok (.ireturn, 1) := by decide +kernel
theorem dX11_toss_23 : decode cX11_toss 23 = .ok (.aload_n 2, 1) := by decide +kernel
theorem dX11_toss_24 : decode cX11_toss 24 = .ok (.getfield 320, 3) := by decide +kernel
theorem dX11_toss_27 : decode cX11_toss 27 = .ok (.aload_n 2, 1) := by decide +kernel
theorem dX11_toss_28 : decode cX11_toss 28 = .ok (.getfield 323, 3) := by decide +kernel
theorem dX11_toss_31 : decode cX11_toss 31 = .ok (.invokestatic 331, 3) := by decide +kernel
theorem dX11_toss_34 : decode cX11_toss 34 = .ok (.ifCond .ne 6, 3) := by decide +kernel
theorem dX11_toss_37 : decode cX11_toss 37 = .ok (.bipush (-15), 2) := by decide +kernel
theorem dX11_toss_39 : decode cX11_toss 39 = .ok (.ireturn, 1) := by decide +kernel
theorem dX11_toss_40 : decode cX11_toss 40 = .ok (.aload_n 2, 1) := by decide +kernel
theorem dX11_toss_41 : decode cX11_toss 41 = .ok (.getfield 320, 3) := by decide +kernel
theorem dX11_toss_44 : decode cX11_toss 44 = .ok (.invokestatic 334, 3) := by decide +kernel
theorem dX11_toss_47 : decode cX11_toss 47 = .ok (.goto 27, 3) := by decide +kernel
theorem dX11_toss_50 : decode cX11_toss 50 = .ok (.astore 4, 2) := by decide +kernel
theorem dX11_toss_52 : decode cX11_toss 52 = .ok (.aload_n 2, 1) := by decide +kernel
theorem dX11_toss_53 : decode cX11_toss 53 = .ok (.getfield 340, 3) := by decide +kernel
theorem dX11_toss_56 : decode cX11_toss 56 = .ok (.bipush 100, 2) := by decide +kernel
theorem dX11_toss_58 : decode cX11_toss 58 = .ok (.iadd, 1) := by decide +kernel
theorem dX11_toss_59 : decode cX11_toss 59 = .ok (.ireturn, 1) := by decide +kernel
theorem dX11_toss_60 : decode cX11_toss 60 = .ok (.astore 4, 2) := by decide +kernel
theorem dX11_toss_62 : decode cX11_toss 62 = .ok (.aload_n 2, 1) := by decide +kernel
theorem dX11_toss_63 : decode cX11_toss 63 = .ok (.getfield 323, 3) := by decide +kernel
theorem dX11_toss_66 : decode cX11_toss 66 = .ok (.ireturn, 1) := by decide +kernel
theorem dX11_toss_67 : decode cX11_toss 67 = .ok (.astore 4, 2) := by decide +kernel
theorem dX11_toss_69 : decode cX11_toss 69 = .ok (.aload_n 2, 1) := by decide +kernel
theorem dX11_toss_70 : decode cX11_toss 70 = .ok (.getfield 340, 3) := by decide +kernel
theorem dX11_toss_73 : decode cX11_toss 73 = .ok (.ireturn, 1) := by decide +kernel
theorem dX11_toss_74 : decode cX11_toss 74 = .ok (.bipush (-15), 2) := by decide +kernel
theorem dX11_toss_76 : decode cX11_toss 76 = .ok (.ireturn, 1) := by decide +kernel
theorem dX11_shelfAt_0 : decode cX11_shelfAt 0 = .ok (.iload_n 1, 1) := by decide +kernel
theorem dX11_shelfAt_1 : decode cX11_shelfAt 1 = .ok (.ifCond .lt 21, 3) := by decide +kernel
theorem dX11_shelfAt_4 : decode cX11_shelfAt 4 = .ok (.iload_n 1, 1) := by decide +kernel
theorem dX11_shelfAt_5 : decode cX11_shelfAt 5 = .ok (.aload_n 0, 1) := by decide +kernel
theorem dX11_shelfAt_6 : decode cX11_shelfAt 6 = .ok (.getfield 38, 3) := by decide +kernel
theorem dX11_shelfAt_9 : decode cX11_shelfAt 9 = .ok (.arraylength, 1) := by decide +kernel
theorem dX11_shelfAt_10 : decode cX11_shelfAt 10 = .ok (.if_icmp .ge 12, 3) := by decide +kernel
theorem dX11_shelfAt_13 : decode cX11_shelfAt 13 = .ok (.aload_n 0, 1) := by decide +kernel
theorem dX11_shelfAt_14 : decode cX11_shelfAt 14 = .ok (.getfield 38, 3) := by decide +kernel
theorem dX11_shelfAt_17 : decode cX11_shelfAt 17 = .ok (.iload_n 1, 1) := by decide +kernel
theorem dX11_shelfAt_18 : decode cX11_shelfAt 18 = .ok (.aaload, 1) := by decide +kernel
theorem dX11_shelfAt_19 : decode cX11_shelfAt 19 = .ok (.goto 4, 3) := by decide +kernel
theorem dX11_shelfAt_22 : decode cX11_shelfAt 22 = .ok (.aconst_null, 1) := by decide +kernel
theorem dX11_shelfAt_23 : decode cX11_shelfAt 23 = .ok (.areturn, 1) := by decide +kernel
theorem dX11_rowRefusal_0 : decode cX11_rowRefusal 0 = .ok (.aload_n 0, 1) := by decide +kernel
theorem dX11_rowRefusal_1 : decode cX11_rowRefusal 1 = .ok (.invokevirtual 298, 3) := by decide +kernel
theorem dX11_rowRefusal_4 : decode cX11_rowRefusal 4 = .ok (.ifCond .eq 6, 3) := by decide +kernel
theorem dX11_rowRefusal_7 : decode cX11_rowRefusal 7 = .ok (.bipush (-11), 2) := by decide +kernel
theorem dX11_rowRefusal_9 : decode cX11_rowRefusal 9 = .ok (.ireturn, 1) := by decide +kernel
theorem dX11_rowRefusal_10 : decode cX11_rowRefusal 10 = .ok (.aload_n 0, 1) := by decide +kernel
theorem dX11_rowRefusal_11 : decode cX11_rowRefusal 11 = .ok (.invokevirtual 302, 3) := by decide +kernel
theorem dX11_rowRefusal_14 : decode cX11_rowRefusal 14 = .ok (.ifCond .eq 7, 3) := by decide +kernel
theorem dX11_rowRefusal_17 : decode cX11_rowRefusal 17 = .ok (.iconst 0, 1) := by decide +kernel
theorem dX11_rowRefusal_18 : decode cX11_rowRefusal 18 = .ok (.goto 5, 3) := by decide +kernel
theorem dX11_rowRefusal_21 : decode cX11_rowRefusal 21 = .ok (.bipush (-12), 2) := by decide +kernel
theorem dX11_rowRefusal_23 : decode cX11_rowRefusal 23 = .ok (.ireturn, 1) := by decide +kernel
theorem dX11_byteRowRefusal_0 : decode cX11_byteRowRefusal 0 = .ok (.aload_n 0, 1) := by decide +kernel
theorem dX11_byteRowRefusal_1 : decode cX11_byteRowRefusal 1 = .ok (.invokestatic 111, 3) := by decide +kernel
theorem dX11_byteRowRefusal_4 : decode cX11_byteRowRefusal 4 = .ok (.istore_n 1, 1) := by decide +kernel
theorem dX11_byteRowRefusal_5 : decode cX11_byteRowRefusal 5 = .ok (.iload_n 1, 1) := by decide +kernel
theorem dX11_byteRowRefusal_6 : decode cX11_byteRowRefusal 6 = .ok (.ifCond .ne 15, 3) := by decide +kernel
theorem dX11_byteRowRefusal_9 : decode cX11_byteRowRefusal 9 = .ok (.aload_n 0, 1) := by decide +kernel
theorem dX11_byteRowRefusal_10 : decode cX11_byteRowRefusal 10 = .ok (.getfield 305, 3) := by decide +kernel
theorem dX11_byteRowRefusal_13 : decode cX11_byteRowRefusal 13 = .ok (.ifCond .eq 8, 3) := by decide +kernel
theorem dX11_byteRowRefusal_16 : decode cX11_byteRowRefusal 16 = .ok (.bipush (-12), 2) := by decide +kernel
theorem dX11_byteRowRefusal_18 : decode cX11_byteRowRefusal 18 = .ok (.goto 4, 3) := by decide +kernel
theorem dX11_byteRowRefusal_21 : decode cX11_byteRowRefusal 21 = .ok (.iload_n 1, 1) := by decide +kernel
theorem dX11_byteRowRefusal_22 : decode cX11_byteRowRefusal 22 = .ok (.ireturn, 1) := by decide +kernel
theorem dX11_crateRefusal_0 : decode cX11_crateRefusal 0 = .ok (.aload_n 0, 1) := by decide +kernel
theorem dX11_crateRefusal_1 : decode cX11_crateRefusal 1 = .ok (.invokevirtual 298, 3) := by decide +kernel
theorem dX11_crateRefusal_4 : decode cX11_crateRefusal 4 = .ok (.ifCond .eq 6, 3) := by decide +kernel
theorem dX11_crateRefusal_7 : decode cX11_crateRefusal 7 = .ok (.bipush (-11), 2) := by decide +kernel
theorem dX11_crateRefusal_9 : decode cX11_crateRefusal 9 = .ok (.ireturn, 1) := by decide +kernel
theorem dX11_crateRefusal_10 : decode cX11_crateRefusal 10 = .ok (.aload_n 0, 1) := by decide +kernel
theorem dX11_crateRefusal_11 : decode cX11_crateRefusal 11 = .ok (.invokevirtual 302, 3) := by decide +kernel
theorem dX11_crateRefusal_14 : decode cX11_crateRefusal 14 = .ok (.ifCond .eq 8, 3) := by decide +kernel
theorem dX11_crateRefusal_17 : decode cX11_crateRefusal 17 = .ok (.bipush (-12), 2) := by decide +kernel
theorem dX11_crateRefusal_19 : decode cX11_crateRefusal 19 = .ok (.goto 4, 3) := by decide +kernel
theorem dX11_crateRefusal_22 : decode cX11_crateRefusal 22 = .ok (.iconst 0, 1) := by decide +kernel
theorem dX11_crateRefusal_23 : decode cX11_crateRefusal 23 = .ok (.ireturn, 1) := by decide +kernel
theorem dX11_isCase_0 : decode cX11_isCase 0 = .ok (.iload_n 1, 1) := by decide +kernel
theorem dX11_isCase_1 : decode cX11_isCase 1 = .ok (.iconst 0, 1) := by decide +kernel
theorem dX11_isCase_2 : decode cX11_isCase 2 = .ok (.iconst 2, 1) := by decide +kernel
theorem dX11_isCase_3 : decode cX11_isCase 3 = .ok (.invokestatic 43, 3) := by decide +kernel
theorem dX11_isCase_6 : decode cX11_isCase 6 = .ok (.ifCond .eq 42, 3) := by decide +kernel
theorem dX11_isCase_9 : decode cX11_isCase 9 = .ok (.aload_n 0, 1) := by decide +kernel
theorem dX11_isCase_10 : decode cX11_isCase 10 = .ok (.getfield 12, 3) := by decide +kernel
theorem dX11_isCase_13 : decode cX11_isCase 13 = .ok (.getfield 47, 3) := by decide +kernel
theorem dX11_isCase_16 : decode cX11_isCase 16 = .ok (.iload_n 2, 1) := by decide +kernel
theorem dX11_isCase_17 : decode cX11_isCase 17 = .ok (.invokevirtual 61, 3) := by decide +kernel
theorem dX11_isCase_20 : decode cX11_isCase 20 = .ok (.ifCond .eq 28, 3) := by decide +kernel
theorem dX11_isCase_23 : decode cX11_isCase 23 = .ok (.iload_n 3, 1) := by decide +kernel
theorem dX11_isCase_24 : decode cX11_isCase 24 = .ok (.iconst 0, 1) := by decide +kernel
theorem dX11_isCase_25 : decode cX11_isCase 25 = .ok (.iconst 2, 1) := by decide +kernel
theorem dX11_isCase_26 : decode cX11_isCase 26 = .ok (.invokestatic 43, 3) := by decide +kernel
theorem dX11_isCase_29 : decode cX11_isCase 29 = .ok (.ifCond .eq 19, 3) := by decide +kernel
theorem dX11_isCase_32 : decode cX11_isCase 32 = .ok (.iload 4, 2) := by decide +kernel
theorem dX11_isCase_34 : decode cX11_isCase 34 = .ok (.iconst 0, 1) := by decide +kernel
theorem dX11_isCase_35 : decode cX11_isCase 35 = .ok (.sipush 400, 3) := by decide +kernel
theorem dX11_isCase_38 : decode cX11_isCase 38 = .ok (.invokestatic 43, 3) := by decide +kernel
theorem dX11_isCase_41 : decode cX11_isCase 41 = .ok (.ifCond .eq 7, 3) := by decide +kernel
theorem dX11_isCase_44 : decode cX11_isCase 44 = .ok (.iconst 1, 1) := by decide +kernel
theorem dX11_isCase_45 : decode cX11_isCase 45 = .ok (.goto 4, 3) := by decide +kernel
theorem dX11_isCase_48 : decode cX11_isCase 48 = .ok (.iconst 0, 1) := by decide +kernel
theorem dX11_isCase_49 : decode cX11_isCase 49 = .ok (.ireturn, 1) := by decide +kernel
theorem dX11_isShireOrder_0 : decode cX11_isShireOrder 0 = .ok (.iload_n 0, 1) := by decide +kernel
theorem dX11_isShireOrder_1 : decode cX11_isShireOrder 1 = .ok (.iconst 0, 1) := by decide +kernel
theorem dX11_isShireOrder_2 : decode cX11_isShireOrder 2 = .ok (.sipush 255, 3) := by decide +kernel
theorem dX11_isShireOrder_5 : decode cX11_isShireOrder 5 = .ok (.invokestatic 43, 3) := by decide +kernel
theorem dX11_isShireOrder_8 : decode cX11_isShireOrder 8 = .ok (.ifCond .ne 5, 3) := by decide +kernel
theorem dX11_isShireOrder_11 : decode cX11_isShireOrder 11 = .ok (.iconst 0, 1) := by decide +kernel
theorem dX11_isShireOrder_12 : decode cX11_isShireOrder 12 = .ok (.ireturn, 1) := by decide +kernel
theorem dX11_isShireOrder_13 : decode cX11_isShireOrder 13 = .ok (.iconst 0, 1) := by decide +kernel
theorem dX11_isShireOrder_14 : decode cX11_isShireOrder 14 = .ok (.istore_n 1, 1) := by decide +kernel
theorem dX11_isShireOrder_15 : decode cX11_isShireOrder 15 = .ok (.iconst 0, 1) := by decide +kernel
theorem dX11_isShireOrder_16 : decode cX11_isShireOrder 16 = .ok (.istore_n 2, 1) := by decide +kernel
theorem dX11_isShireOrder_17 : decode cX11_isShireOrder 17 = .ok (.iload_n 2, 1) := by decide +kernel
theorem dX11_isShireOrder_18 : decode cX11_isShireOrder 18 = .ok (.iconst 4, 1) := by decide +kernel
theorem dX11_isShireOrder_19 : decode cX11_isShireOrder 19 = .ok (.if_icmp .ge 19, 3) := by decide +kernel
theorem dX11_isShireOrder_22 : decode cX11_isShireOrder 22 = .ok (.iload_n 1, 1) := by decide +kernel
theorem dX11_isShireOrder_23 : decode cX11_isShireOrder 23 = .ok (.iconst 1, 1) := by decide +kernel
theorem dX11_isShireOrder_24 : decode cX11_isShireOrder 24 = .ok (.iload_n 0, 1) := by decide +kernel
theorem dX11_isShireOrder_25 : decode cX11_isShireOrder 25 = .ok (.iload_n 2, 1) := by decide +kernel
theorem dX11_isShireOrder_26 : decode cX11_isShireOrder 26 = .ok (.invokestatic 239, 3) := by decide +kernel
theorem dX11_isShireOrder_29 : decode cX11_isShireOrder 29 = .ok (.ishl, 1) := by decide +kernel
theorem dX11_isShireOrder_30 : decode cX11_isShireOrder 30 = .ok (.ior, 1) := by decide +kernel
theorem dX11_isShireOrder_31 : decode cX11_isShireOrder 31 = .ok (.istore_n 1, 1) := by decide +kernel
theorem dX11_isShireOrder_32 : decode cX11_isShireOrder 32 = .ok (.iinc 2 1, 3) := by decide +kernel
theorem dX11_isShireOrder_35 : decode cX11_isShireOrder 35 = .ok (.goto (-18), 3) := by decide +kernel
theorem dX11_isShireOrder_38 : decode cX11_isShireOrder 38 = .ok (.iload_n 1, 1) := by decide +kernel
theorem dX11_isShireOrder_39 : decode cX11_isShireOrder 39 = .ok (.bipush 15, 2) := by decide +kernel
theorem dX11_isShireOrder_41 : decode cX11_isShireOrder 41 = .ok (.if_icmp .ne 7, 3) := by decide +kernel
theorem dX11_isShireOrder_44 : decode cX11_isShireOrder 44 = .ok (.iconst 1, 1) := by decide +kernel
theorem dX11_isShireOrder_45 : decode cX11_isShireOrder 45 = .ok (.goto 4, 3) := by decide +kernel
theorem dX11_isShireOrder_48 : decode cX11_isShireOrder 48 = .ok (.iconst 0, 1) := by decide +kernel
theorem dX11_isShireOrder_49 : decode cX11_isShireOrder 49 = .ok (.ireturn, 1) := by decide +kernel
theorem dX11_digit_0 : decode cX11_digit 0 = .ok (.iload_n 0, 1) := by decide +kernel
theorem dX11_digit_1 : decode cX11_digit 1 = .ok (.iconst 2, 1) := by decide +kernel
theorem dX11_digit_2 : decode cX11_digit 2 = .ok (.iload_n 1, 1) := by decide +kernel
theorem dX11_digit_3 : decode cX11_digit 3 = .ok (.imul, 1) := by decide +kernel
theorem dX11_digit_4 : decode cX11_digit 4 = .ok (.ishr, 1) := by decide +kernel
theorem dX11_digit_5 : decode cX11_digit 5 = .ok (.iconst 3, 1) := by decide +kernel
theorem dX11_digit_6 : decode cX11_digit 6 = .ok (.iand, 1) := by decide +kernel
theorem dX11_digit_7 : decode cX11_digit 7 = .ok (.ireturn, 1) := by decide +kernel
theorem dX11_within_0 : decode cX11_within 0 = .ok (.iload_n 0, 1) := by decide +kernel
theorem dX11_within_1 : decode cX11_within 1 = .ok (.iload_n 1, 1) := by decide +kernel
theorem dX11_within_2 : decode cX11_within 2 = .ok (.if_icmp .lt 12, 3) := by decide +kernel
theorem dX11_within_5 : decode cX11_within 5 = .ok (.iload_n 0, 1) := by decide +kernel
theorem dX11_within_6 : decode cX11_within 6 = .ok (.iload_n 2, 1) := by decide +kernel
theorem dX11_within_7 : decode cX11_within 7 = .ok (.if_icmp .gt 7, 3) := by decide +kernel
theorem dX11_within_10 : decode cX11_within 10 = .ok (.iconst 1, 1) := by decide +kernel
theorem dX11_within_11 : decode cX11_within 11 = .ok (.goto 4, 3) := by decide +kernel
theorem dX11_within_14 : decode cX11_within 14 = .ok (.iconst 0, 1) := by decide +kernel
theorem dX11_within_15 : decode cX11_within 15 = .ok (.ireturn, 1) := by decide +kernel
theorem dX11_isSchoolDay_0 : decode cX11_isSchoolDay 0 = .ok (.iload_n 0, 1) := by decide +kernel
theorem dX11_isSchoolDay_1 : decode cX11_isSchoolDay 1 = .ok (.bipush 7, 2) := by decide +kernel
theorem dX11_isSchoolDay_3 : decode cX11_isSchoolDay 3 = .ok (.irem, 1) := by decide +kernel
theorem dX11_isSchoolDay_4 : decode cX11_isSchoolDay 4 = .ok (.iconst 5, 1) := by decide +kernel
theorem dX11_isSchoolDay_5 : decode cX11_isSchoolDay 5 = .ok (.if_icmp .ge 7, 3) := by decide +kernel
theorem dX11_isSchoolDay_8 : decode cX11_isSchoolDay 8 = .ok (.iconst 1, 1) := by decide +kernel
theorem dX11_isSchoolDay_9 : decode cX11_isSchoolDay 9 = .ok (.goto 4, 3) := by decide +kernel
theorem dX11_isSchoolDay_12 : decode cX11_isSchoolDay 12 = .ok (.iconst 0, 1) := by decide +kernel
theorem dX11_isSchoolDay_13 : decode cX11_isSchoolDay 13 = .ok (.ireturn, 1) := by decide +kernel
theorem dX11_monthOf_0 : decode cX11_monthOf 0 = .ok (.iload_n 0, 1) := by decide +kernel
theorem dX11_monthOf_1 : decode cX11_monthOf 1 = .ok (.bipush 30, 2) := by decide +kernel
theorem dX11_monthOf_3 : decode cX11_monthOf 3 = .ok (.idiv, 1) := by decide +kernel
theorem dX11_monthOf_4 : decode cX11_monthOf 4 = .ok (.bipush 12, 2) := by decide +kernel
theorem dX11_monthOf_6 : decode cX11_monthOf 6 = .ok (.irem, 1) := by decide +kernel
theorem dX11_monthOf_7 : decode cX11_monthOf 7 = .ok (.ireturn, 1) := by decide +kernel
theorem dX11_far_0 : decode cX11_far 0 = .ok (.iload_n 0, 1) := by decide +kernel
theorem dX11_far_1 : decode cX11_far 1 = .ok (.iload_n 2, 1) := by decide +kernel
theorem dX11_far_2 : decode cX11_far 2 = .ok (.isub, 1) := by decide +kernel
theorem dX11_far_3 : decode cX11_far 3 = .ok (.invokestatic 342, 3) := by decide +kernel
theorem dX11_far_6 : decode cX11_far 6 = .ok (.iload_n 1, 1) := by decide +kernel
theorem dX11_far_7 : decode cX11_far 7 = .ok (.iload_n 3, 1) := by decide +kernel
theorem dX11_far_8 : decode cX11_far 8 = .ok (.isub, 1) := by decide +kernel
theorem dX11_far_9 : decode cX11_far 9 = .ok (.invokestatic 342, 3) := by decide +kernel
theorem dX11_far_12 : decode cX11_far 12 = .ok (.iadd, 1) := by decide +kernel
theorem dX11_far_13 : decode cX11_far 13 = .ok (.ireturn, 1) := by decide +kernel
theorem dX11_copyAll_0 : decode cX11_copyAll 0 = .ok (.aload_n 0, 1) := by decide +kernel
theorem dX11_copyAll_1 : decode cX11_copyAll 1 = .ok (.iconst 0, 1) := by decide +kernel
theorem dX11_copyAll_2 : decode cX11_copyAll 2 = .ok (.aload_n 1, 1) := by decide +kernel
theorem dX11_copyAll_3 : decode cX11_copyAll 3 = .ok (.iconst 0, 1) := by decide +kernel
theorem dX11_copyAll_4 : decode cX11_copyAll 4 = .ok (.aload_n 0, 1) := by decide +kernel
theorem dX11_copyAll_5 : decode cX11_copyAll 5 = .ok (.arraylength, 1) := by decide +kernel
theorem dX11_copyAll_6 : decode cX11_copyAll 6 = .ok (.aload_n 1, 1) := by decide +kernel
theorem dX11_copyAll_7 : decode cX11_copyAll 7 = .ok (.arraylength, 1) := by decide +kernel
theorem dX11_copyAll_8 : decode cX11_copyAll 8 = .ok (.invokestatic 194, 3) := by decide +kernel
theorem dX11_copyAll_11 : decode cX11_copyAll 11 = .ok (.invokestatic 311, 3) := by decide +kernel
theorem dX11_copyAll_14 : decode cX11_copyAll 14 = .ok (.return_, 1) := by decide +kernel
theorem dX12_init_0 : decode cX12_init 0 = .ok (.aload_n 0, 1) := by decide +kernel
theorem dX12_init_1 : decode cX12_init 1 = .ok (.invokespecial 1, 3) := by decide +kernel
theorem dX12_init_4 : decode cX12_init 4 = .ok (.aload_n 0, 1) := by decide +kernel
theorem dX12_init_5 : decode cX12_init 5 = .ok (.sipush 320, 3) := by decide +kernel
theorem dX12_init_8 : decode cX12_init 8 = .ok (.newarray .int, 2) := by decide +kernel
theorem dX12_init_10 : decode cX12_init 10 = .ok (.putfield 7, 3) := by decide +kernel
theorem dX12_init_13 : decode cX12_init 13 = .ok (.aload_n 0, 1) := by decide +kernel
theorem dX12_init_14 : decode cX12_init 14 = .ok (.sipush 320, 3) := by decide +kernel
theorem dX12_init_17 : decode cX12_init 17 = .ok (.newarray .int, 2) := by decide +kernel
theorem dX12_init_19 : decode cX12_init 19 = .ok (.putfield 13, 3) := by decide +kernel
theorem dX12_init_22 : decode cX12_init 22 = .ok (.aload_n 0, 1) := by decide +kernel
theorem dX12_init_23 : decode cX12_init 23 = .ok (.sipush 320, 3) := by decide +kernel
theorem dX12_init_26 : decode cX12_init 26 = .ok (.newarray .int, 2) := by decide +kernel
theorem dX12_init_28 : decode cX12_init 28 = .ok (.putfield 16, 3) := by decide +kernel
theorem dX12_init_31 : decode cX12_init 31 = .ok (.aload_n 0, 1) := by decide +kernel
theorem dX12_init_32 : decode cX12_init 32 = .ok (.bipush 12, 2) := by decide +kernel
theorem dX12_init_34 : decode cX12_init 34 = .ok (.newarray .int, 2) := by decide +kernel
theorem dX12_init_36 : decode cX12_init 36 = .ok (.putfield 19, 3) := by decide +kernel
theorem dX12_init_39 : decode cX12_init 39 = .ok (.aload_n 0, 1) := by decide +kernel
theorem dX12_init_40 : decode cX12_init 40 = .ok (.bipush 12, 2) := by decide +kernel
theorem dX12_init_42 : decode cX12_init 42 = .ok (.newarray .int, 2) := by decide +kernel
theorem dX12_init_44 : decode cX12_init 44 = .ok (.putfield 22, 3) := by decide +kernel
theorem dX12_init_47 : decode cX12_init 47 = .ok (.aload_n 0, 1) := by decide +kernel
theorem dX12_init_48 : decode cX12_init 48 = .ok (.bipush 12, 2) := by decide +kernel
theorem dX12_init_50 : decode cX12_init 50 = .ok (.newarray .int, 2) := by decide +kernel
theorem dX12_init_52 : decode cX12_init 52 = .ok (.putfield 25, 3) := by decide +kernel
theorem dX12_init_55 : decode cX12_init 55 = .ok (.aload_n 0, 1) := by decide +kernel
theorem dX12_init_56 : decode cX12_init 56 = .ok (.iconst 5, 1) := by decide +kernel
theorem dX12_init_57 : decode cX12_init 57 = .ok (.newarray .int, 2) := by decide +kernel
theorem dX12_init_59 : decode cX12_init 59 = .ok (.putfield 28, 3) := by decide +kernel
theorem dX12_init_62 : decode cX12_init 62 = .ok (.aload_n 0, 1) := by decide +kernel
theorem dX12_init_63 : decode cX12_init 63 = .ok (.iconst 5, 1) := by decide +kernel
theorem dX12_init_64 : decode cX12_init 64 = .ok (.newarray .int, 2) := by decide +kernel
theorem dX12_init_66 : decode cX12_init 66 = .ok (.putfield 31, 3) := by decide +kernel
theorem dX12_init_69 : decode cX12_init 69 = .ok (.aload_n 0, 1) := by decide +kernel
theorem dX12_init_70 : decode cX12_init 70 = .ok (.iconst 5, 1) := by decide +kernel
theorem dX12_init_71 : decode cX12_init 71 = .ok (.newarray .int, 2) := by decide +kernel
theorem dX12_init_73 : decode cX12_init 73 = .ok (.putfield 34, 3) := by decide +kernel
theorem dX12_init_76 : decode cX12_init 76 = .ok (.aload_n 0, 1) := by decide +kernel
theorem dX12_init_77 : decode cX12_init 77 = .ok (.bipush 16, 2) := by decide +kernel
theorem dX12_init_79 : decode cX12_init 79 = .ok (.newarray .int, 2) := by decide +kernel
theorem dX12_init_81 : decode cX12_init 81 = .ok (.putfield 37, 3) := by decide +kernel
theorem dX12_init_84 : decode cX12_init 84 = .ok (.aload_n 0, 1) := by decide +kernel
theorem dX12_init_85 : decode cX12_init 85 = .ok (.bipush 16, 2) := by decide +kernel
theorem dX12_init_87 : decode cX12_init 87 = .ok (.newarray .int, 2) := by decide +kernel
theorem dX12_init_89 : decode cX12_init 89 = .ok (.putfield 40, 3) := by decide +kernel
theorem dX12_init_92 : decode cX12_init 92 = .ok (.aload_n 0, 1) := by decide +kernel
theorem dX12_init_93 : decode cX12_init 93 = .ok (.bipush 16, 2) := by decide +kernel
theorem dX12_init_95 : decode cX12_init 95 = .ok (.newarray .int, 2) := by decide +kernel
theorem dX12_init_97 : decode cX12_init 97 = .ok (.putfield 43, 3) := by decide +kernel
theorem dX12_init_100 : decode cX12_init 100 = .ok (.aload_n 0, 1) := by decide +kernel
theorem dX12_init_101 : decode cX12_init 101 = .ok (.sipush 192, 3) := by decide +kernel
theorem dX12_init_104 : decode cX12_init 104 = .ok (.newarray .int, 2) := by decide +kernel
theorem dX12_init_106 : decode cX12_init 106 = .ok (.putfield 46, 3) := by decide +kernel
theorem dX12_init_109 : decode cX12_init 109 = .ok (.aload_n 0, 1) := by decide +kernel
theorem dX12_init_110 : decode cX12_init 110 = .ok (.sipush 1280, 3) := by decide +kernel
theorem dX12_init_113 : decode cX12_init 113 = .ok (.newarray .int, 2) := by decide +kernel
theorem dX12_init_115 : decode cX12_init 115 = .ok (.putfield 49, 3) := by decide +kernel
theorem dX12_init_118 : decode cX12_init 118 = .ok (.aload_n 0, 1) := by decide +kernel
theorem dX12_init_119 : decode cX12_init 119 = .ok (.bipush 16, 2) := by decide +kernel
theorem dX12_init_121 : decode cX12_init 121 = .ok (.newarray .int, 2) := by decide +kernel
theorem dX12_init_123 : decode cX12_init 123 = .ok (.putfield 52, 3) := by decide +kernel
theorem dX12_init_126 : decode cX12_init 126 = .ok (.aload_n 0, 1) := by decide +kernel
theorem dX12_init_127 : decode cX12_init 127 = .ok (.bipush 16, 2) := by decide +kernel
theorem dX12_init_129 : decode cX12_init 129 = .ok (.newarray .int, 2) := by decide +kernel
theorem dX12_init_131 : decode cX12_init 131 = .ok (.putfield 55, 3) := by decide +kernel
theorem dX12_init_134 : decode cX12_init 134 = .ok (.aload_n 0, 1) := by decide +kernel
theorem dX12_init_135 : decode cX12_init 135 = .ok (.bipush 16, 2) := by decide +kernel
theorem dX12_init_137 : decode cX12_init 137 = .ok (.newarray .int, 2) := by decide +kernel
theorem dX12_init_139 : decode cX12_init 139 = .ok (.putfield 58, 3) := by decide +kernel
theorem dX12_init_142 : decode cX12_init 142 = .ok (.aload_n 0, 1) := by decide +kernel
theorem dX12_init_143 : decode cX12_init 143 = .ok (.bipush 30, 2) := by decide +kernel
theorem dX12_init_145 : decode cX12_init 145 = .ok (.newarray .int, 2) := by decide +kernel
theorem dX12_init_147 : decode cX12_init 147 = .ok (.putfield 61, 3) := by decide +kernel
theorem dX12_init_150 : decode cX12_init 150 = .ok (.aload_n 0, 1) := by decide +kernel
theorem dX12_init_151 : decode cX12_init 151 = .ok (.bipush 30, 2) := by decide +kernel
theorem dX12_init_153 : decode cX12_init 153 = .ok (.newarray .int, 2) := by decide +kernel
theorem dX12_init_155 : decode cX12_init 155 = .ok (.putfield 64, 3) := by decide +kernel
theorem dX12_init_158 : decode cX12_init 158 = .ok (.aload_n 0, 1) := by decide +kernel
theorem dX12_init_159 : decode cX12_init 159 = .ok (.bipush 30, 2) := by decide +kernel
theorem dX12_init_161 : decode cX12_init 161 = .ok (.newarray .int, 2) := by decide +kernel
theorem dX12_init_163 : decode cX12_init 163 = .ok (.putfield 67, 3) := by decide +kernel
theorem dX12_init_166 : decode cX12_init 166 = .ok (.aload_n 0, 1) := by decide +kernel
theorem dX12_init_167 : decode cX12_init 167 = .ok (.iconst (-1), 1) := by decide +kernel
theorem dX12_init_168 : decode cX12_init 168 = .ok (.putfield 70, 3) := by decide +kernel
theorem dX12_init_171 : decode cX12_init 171 = .ok (.aload_n 0, 1) := by decide +kernel
theorem dX12_init_172 : decode cX12_init 172 = .ok (.bipush 100, 2) := by decide +kernel
theorem dX12_init_174 : decode cX12_init 174 = .ok (.newarray .boolean, 2) := by decide +kernel
theorem dX12_init_176 : decode cX12_init 176 = .ok (.putfield 74, 3) := by decide +kernel
theorem dX12_init_179 : decode cX12_init 179 = .ok (.aload_n 0, 1) := by decide +kernel
theorem dX12_init_180 : decode cX12_init 180 = .ok (.sipush 200, 3) := by decide +kernel
theorem dX12_init_183 : decode cX12_init 183 = .ok (.newarray .int, 2) := by decide +kernel
theorem dX12_init_185 : decode cX12_init 185 = .ok (.putfield 78, 3) := by decide +kernel
theorem dX12_init_188 : decode cX12_init 188 = .ok (.aload_n 0, 1) := by decide +kernel
theorem dX12_init_189 : decode cX12_init 189 = .ok (.bipush 12, 2) := by decide +kernel
theorem dX12_init_191 : decode cX12_init 191 = .ok (.newarray .int, 2) := by decide +kernel
theorem dX12_init_193 : decode cX12_init 193 = .ok (.putfield 81, 3) := by decide +kernel
theorem dX12_init_196 : decode cX12_init 196 = .ok (.aload_n 0, 1) := by decide +kernel
theorem dX12_init_197 : decode cX12_init 197 = .ok (.iconst (-1), 1) := by decide +kernel
theorem dX12_init_198 : decode cX12_init 198 = .ok (.putfield 84, 3) := by decide +kernel
theorem dX12_init_201 : decode cX12_init 201 = .ok (.aload_n 0, 1) := by decide +kernel
theorem dX12_init_202 : decode cX12_init 202 = .ok (.iconst 5, 1) := by decide +kernel
theorem dX12_init_203 : decode cX12_init 203 = .ok (.newarray .int, 2) := by decide +kernel
theorem dX12_init_205 : decode cX12_init 205 = .ok (.putfield 87, 3) := by decide +kernel
theorem dX12_init_208 : decode cX12_init 208 = .ok (.aload_n 0, 1) := by decide +kernel
theorem dX12_init_209 : decode cX12_init 209 = .ok (.iconst 5, 1) := by decide +kernel
theorem dX12_init_210 : decode cX12_init 210 = .ok (.newarray .int, 2) := by decide +kernel
theorem dX12_init_212 : decode cX12_init 212 = .ok (.putfield 90, 3) := by decide +kernel
theorem dX12_init_215 : decode cX12_init 215 = .ok (.aload_n 0, 1) := by decide +kernel
theorem dX12_init_216 : decode cX12_init 216 = .ok (.bipush 7, 2) := by decide +kernel
theorem dX12_init_218 : decode cX12_init 218 = .ok (.newarray .int, 2) := by decide +kernel
theorem dX12_init_220 : decode cX12_init 220 = .ok (.putfield 93, 3) := by decide +kernel
theorem dX12_init_223 : decode cX12_init 223 = .ok (.aload_n 0, 1) := by decide +kernel
theorem dX12_init_224 : decode cX12_init 224 = .ok (.bipush 7, 2) := by decide +kernel
theorem dX12_init_226 : decode cX12_init 226 = .ok (.newarray .int, 2) := by decide +kernel
theorem dX12_init_228 : decode cX12_init 228 = .ok (.putfield 96, 3) := by decide +kernel
theorem dX12_init_231 : decode cX12_init 231 = .ok (.aload_n 0, 1) := by decide +kernel
theorem dX12_init_232 : decode cX12_init 232 = .ok (.bipush 7, 2) := by decide +kernel
theorem dX12_init_234 : decode cX12_init 234 = .ok (.newarray .int, 2) := by decide +kernel
theorem dX12_init_236 : decode cX12_init 236 = .ok (.putfield 99, 3) := by decide +kernel
theorem dX12_init_239 : decode cX12_init 239 = .ok (.aload_n 0, 1) := by decide +kernel
theorem dX12_init_240 : decode cX12_init 240 = .ok (.bipush 8, 2) := by decide +kernel
theorem dX12_init_242 : decode cX12_init 242 = .ok (.newarray .int, 2) := by decide +kernel
theorem dX12_init_244 : decode cX12_init 244 = .ok (.putfield 102, 3) := by decide +kernel
theorem dX12_init_247 : decode cX12_init 247 = .ok (.aload_n 0, 1) := by decide +kernel
theorem dX12_init_248 : decode cX12_init 248 = .ok (.bipush 8, 2) := by decide +kernel
theorem dX12_init_250 : decode cX12_init 250 = .ok (.newarray .int, 2) := by decide +kernel
theorem dX12_init_252 : decode cX12_init 252 = .ok (.putfield 105, 3) := by decide +kernel
theorem dX12_init_255 : decode cX12_init 255 = .ok (.aload_n 0, 1) := by decide +kernel
theorem dX12_init_256 : decode cX12_init 256 = .ok (.bipush 8, 2) := by decide +kernel
theorem dX12_init_258 : decode cX12_init 258 = .ok (.newarray .int, 2) := by decide +kernel
theorem dX12_init_260 : decode cX12_init 260 = .ok (.putfield 108, 3) := by decide +kernel
theorem dX12_init_263 : decode cX12_init 263 = .ok (.aload_n 0, 1) := by decide +kernel
theorem dX12_init_264 : decode cX12_init 264 = .ok (.bipush 8, 2) := by decide +kernel
theorem dX12_init_266 : decode cX12_init 266 = .ok (.newarray .int, 2) := by decide +kernel
theorem dX12_init_268 : decode cX12_init 268 = .ok (.putfield 111, 3) := by decide +kernel
theorem dX12_init_271 : decode cX12_init 271 = .ok (.aload_n 0, 1) := by decide +kernel
theorem dX12_init_272 : decode cX12_init 272 = .ok (.bipush 8, 2) := by decide +kernel
theorem dX12_init_274 : decode cX12_init 274 = .ok (.newarray .int, 2) := by decide +kernel
theorem dX12_init_276 : decode cX12_init 276 = .ok (.putfield 114, 3) := by decide +kernel
theorem dX12_init_279 : decode cX12_init 279 = .ok (.aload_n 0, 1) := by decide +kernel
theorem dX12_init_280 : decode cX12_init 280 = .ok (.bipush 8, 2) := by decide +kernel
theorem dX12_init_282 : decode cX12_init 282 = .ok (.newarray .int, 2) := by decide +kernel
theorem dX12_init_284 : decode cX12_init 284 = .ok (.putfield 117, 3) := by decide +kernel
theorem dX12_init_287 : decode cX12_init 287 = .ok (.aload_n 0, 1) := by decide +kernel
theorem dX12_init_288 : decode cX12_init 288 = .ok (.sipush 640, 3) := by decide +kernel
theorem dX12_init_291 : decode cX12_init 291 = .ok (.newarray .long, 2) := by decide +kernel
theorem dX12_init_293 : decode cX12_init 293 = .ok (.putfield 120, 3) := by decide +kernel
theorem dX12_init_296 : decode cX12_init 296 = .ok (.aload_n 0, 1) := by decide +kernel
theorem dX12_init_297 : decode cX12_init 297 = .ok (.bipush 80, 2) := by decide +kernel
theorem dX12_init_299 : decode cX12_init 299 = .ok (.newarray .long, 2) := by decide +kernel
theorem dX12_init_301 : decode cX12_init 301 = .ok (.putfield 124, 3) := by decide +kernel
theorem dX12_init_304 : decode cX12_init 304 = .ok (.iconst 0, 1) := by decide +kernel
theorem dX12_init_305 : decode cX12_init 305 = .ok (.istore_n 1, 1) := by decide +kernel
theorem dX12_init_306 : decode cX12_init 306 = .ok (.iload_n 1, 1) := by decide +kernel
theorem dX12_init_307 : decode cX12_init 307 = .ok (.bipush 12, 2) := by decide +kernel
theorem dX12_init_309 : decode cX12_init 309 = .ok (.if_icmp .ge 21, 3) := by decide +kernel
theorem dX12_init_312 : decode cX12_init 312 = .ok (.aload_n 0, 1) := by decide +kernel
theorem dX12_init_313 : decode cX12_init 313 = .ok (.getfield 7, 3) := by decide +kernel
theorem dX12_init_316 : decode cX12_init 316 = .ok (.bipush 50, 2) := by decide +kernel
theorem dX12_init_318 : decode cX12_init 318 = .ok (.iload_n 1, 1) := by decide +kernel
theorem dX12_init_319 : decode cX12_init 319 = .ok (.iadd, 1) := by decide +kernel
theorem dX12_init_320 : decode cX12_init 320 = .ok (.sipush 660, 3) := by decide +kernel
theorem dX12_init_323 : decode cX12_init 323 = .ok (.iastore, 1) := by decide +kernel
theorem dX12_init_324 : decode cX12_init 324 = .ok (.iinc 1 1, 3) := by decide +kernel
theorem dX12_init_327 : decode cX12_init 327 = .ok (.goto (-21), 3) := by decide +kernel
theorem dX12_init_330 : decode cX12_init 330 = .ok (.iconst 0, 1) := by decide +kernel
theorem dX12_init_331 : decode cX12_init 331 = .ok (.istore_n 1, 1) := by decide +kernel
theorem dX12_init_332 : decode cX12_init 332 = .ok (.iload_n 1, 1) := by decide +kernel
theorem dX12_init_333 : decode cX12_init 333 = .ok (.bipush 20, 2) := by decide +kernel
theorem dX12_init_335 : decode cX12_init 335 = .ok (.if_icmp .ge 19, 3) := by decide +kernel
theorem dX12_init_338 : decode cX12_init 338 = .ok (.aload_n 0, 1) := by decide +kernel
theorem dX12_init_339 : decode cX12_init 339 = .ok (.getfield 7, 3) := by decide +kernel
theorem dX12_init_342 : decode cX12_init 342 = .ok (.bipush 80, 2) := by decide +kernel
theorem dX12_init_344 : decode cX12_init 344 = .ok (.iload_n 1, 1) := by decide +kernel
theorem dX12_init_345 : decode cX12_init 345 = .ok (.iadd, 1) := by decide +kernel
theorem dX12_init_346 : decode cX12_init 346 = .ok (.iconst (-1), 1) := by decide +kernel
theorem dX12_init_347 : decode cX12_init 347 = .ok (.iastore, 1) := by decide +kernel
theorem dX12_init_348 : decode cX12_init 348 = .ok (.iinc 1 1, 3) := by decide +kernel
theorem dX12_init_351 : decode cX12_init 351 = .ok (.goto (-19), 3) := by decide +kernel
theorem dX12_init_354 : decode cX12_init 354 = .ok (.iconst 0, 1) := by decide +kernel
theorem dX12_init_355 : decode cX12_init 355 = .ok (.istore_n 1, 1) := by decide +kernel
theorem dX12_init_356 : decode cX12_init 356 = .ok (.iload_n 1, 1) := by decide +kernel
theorem dX12_init_357 : decode cX12_init 357 = .ok (.bipush 12, 2) := by decide +kernel
theorem dX12_init_359 : decode cX12_init 359 = .ok (.if_icmp .ge 21, 3) := by decide +kernel
theorem dX12_init_362 : decode cX12_init 362 = .ok (.aload_n 0, 1) := by decide +kernel
theorem dX12_init_363 : decode cX12_init 363 = .ok (.getfield 7, 3) := by decide +kernel
theorem dX12_init_366 : decode cX12_init 366 = .ok (.sipush 140, 3) := by decide +kernel
theorem dX12_init_369 : decode cX12_init 369 = .ok (.iload_n 1, 1) := by decide +kernel
theorem dX12_init_370 : decode cX12_init 370 = .ok (.iadd, 1) := by decide +kernel
theorem dX12_init_371 : decode cX12_init 371 = .ok (.ldc 127, 2) := by decide +kernel
theorem dX12_init_373 : decode cX12_init 373 = .ok (.iastore, 1) := by decide +kernel
theorem dX12_init_374 : decode cX12_init 374 = .ok (.iinc 1 1, 3) := by decide +kernel
theorem dX12_init_377 : decode cX12_init 377 = .ok (.goto (-21), 3) := by decide +kernel
theorem dX12_init_380 : decode cX12_init 380 = .ok (.return_, 1) := by decide +kernel
theorem dX12_thrown_0 : decode cX12_thrown 0 = .ok (.aload_n 0, 1) := by decide +kernel
theorem dX12_thrown_1 : decode cX12_thrown 1 = .ok (.getfield 128, 3) := by decide +kernel
theorem dX12_thrown_4 : decode cX12_thrown 4 = .ok (.ireturn, 1) := by decide +kernel
theorem dX12_in_0 : decode cX12_in 0 = .ok (.iload_n 0, 1) := by decide +kernel
theorem dX12_in_1 : decode cX12_in 1 = .ok (.iload_n 1, 1) := by decide +kernel
theorem dX12_in_2 : decode cX12_in 2 = .ok (.if_icmp .lt 12, 3) := by decide +kernel
theorem dX12_in_5 : decode cX12_in 5 = .ok (.iload_n 0, 1) := by decide +kernel
theorem dX12_in_6 : decode cX12_in 6 = .ok (.iload_n 2, 1) := by decide +kernel
theorem dX12_in_7 : decode cX12_in 7 = .ok (.if_icmp .gt 7, 3) := by decide +kernel
theorem dX12_in_10 : decode cX12_in 10 = .ok (.iconst 1, 1) := by decide +kernel
theorem dX12_in_11 : decode cX12_in 11 = .ok (.goto 4, 3) := by decide +kernel
theorem dX12_in_14 : decode cX12_in 14 = .ok (.iconst 0, 1) := by decide +kernel
theorem dX12_in_15 : decode cX12_in 15 = .ok (.ireturn, 1) := by decide +kernel
theorem dX12_isSchool_0 : decode cX12_isSchool 0 = .ok (.iload_n 1, 1) := by decide +kernel
theorem dX12_isSchool_1 : decode cX12_isSchool 1 = .ok (.iconst 0, 1) := by decide +kernel
theorem dX12_isSchool_2 : decode cX12_isSchool 2 = .ok (.aload_n 0, 1) := by decide +kernel
theorem dX12_isSchool_3 : decode cX12_isSchool 3 = .ok (.getfield 7, 3) := by decide +kernel
theorem dX12_isSchool_6 : decode cX12_isSchool 6 = .ok (.iconst 0, 1) := by decide +kernel
theorem dX12_isSchool_7 : decode cX12_isSchool 7 = .ok (.iaload, 1) := by decide +kernel
theorem dX12_isSchool_8 : decode cX12_isSchool 8 = .ok (.iconst 1, 1) := by decide +kernel
theorem dX12_isSchool_9 : decode cX12_isSchool 9 = .ok (.isub, 1) := by decide +kernel
theorem dX12_isSchool_10 : decode cX12_isSchool 10 = .ok (.invokestatic 131, 3) := by decide +kernel
theorem dX12_isSchool_13 : decode cX12_isSchool 13 = .ok (.ireturn, 1) := by decide +kernel
theorem dX12_isDairy_0 : decode cX12_isDairy 0 = .ok (.iload_n 1, 1) := by decide +kernel
theorem dX12_isDairy_1 : decode cX12_isDairy 1 = .ok (.iconst 0, 1) := by decide +kernel
theorem dX12_isDairy_2 : decode cX12_isDairy 2 = .ok (.aload_n 0, 1) := by decide +kernel
theorem dX12_isDairy_3 : decode cX12_isDairy 3 = .ok (.getfield 7, 3) := by decide +kernel
theorem dX12_isDairy_6 : decode cX12_isDairy 6 = .ok (.iconst 1, 1) := by decide +kernel
theorem dX12_isDairy_7 : decode cX12_isDairy 7 = .ok (.iaload, 1) := by decide +kernel
theorem dX12_isDairy_8 : decode cX12_isDairy 8 = .ok (.iconst 1, 1) := by decide +kernel
theorem dX12_isDairy_9 : decode cX12_isDairy 9 = .ok (.isub, 1) := by decide +kernel
theorem dX12_isDairy_10 : decode cX12_isDairy 10 = .ok (.invokestatic 131, 3) := by decide +kernel
theorem dX12_isDairy_13 : decode cX12_isDairy 13 = .ok (.ireturn, 1) := by decide +kernel
theorem dX12_isShire_0 : decode cX12_isShire 0 = .ok (.iload_n 0, 1) := by decide +kernel
theorem dX12_isShire_1 : decode cX12_isShire 1 = .ok (.iconst 0, 1) := by decide +kernel
theorem dX12_isShire_2 : decode cX12_isShire 2 = .ok (.iconst 3, 1) := by decide +kernel
theorem dX12_isShire_3 : decode cX12_isShire 3 = .ok (.invokestatic 131, 3) := by decide +kernel
theorem dX12_isShire_6 : decode cX12_isShire 6 = .ok (.ireturn, 1) := by decide +kernel
theorem dX12_isAge_0 : decode cX12_isAge 0 = .ok (.iload_n 0, 1) := by decide +kernel
theorem dX12_isAge_1 : decode cX12_isAge 1 = .ok (.iconst 0, 1) := by decide +kernel
theorem dX12_isAge_2 : decode cX12_isAge 2 = .ok (.iconst 2, 1) := by decide +kernel
theorem dX12_isAge_3 : decode cX12_isAge 3 = .ok (.invokestatic 131, 3) := by decide +kernel
theorem dX12_isAge_6 : decode cX12_isAge 6 = .ok (.ireturn, 1) := by decide +kernel
theorem dX12_isDay_0 : decode cX12_isDay 0 = .ok (.iload_n 0, 1) := by decide +kernel
theorem dX12_isDay_1 : decode cX12_isDay 1 = .ok (.iconst 0, 1) := by decide +kernel
theorem dX12_isDay_2 : decode cX12_isDay 2 = .ok (.sipush 400, 3) := by decide +kernel
theorem dX12_isDay_5 : decode cX12_isDay 5 = .ok (.invokestatic 131, 3) := by decide +kernel
theorem dX12_isDay_8 : decode cX12_isDay 8 = .ok (.ireturn, 1) := by decide +kernel
theorem dX12_school_0 : decode cX12_school 0 = .ok (.aload_n 0, 1) := by decide +kernel
theorem dX12_school_1 : decode cX12_school 1 = .ok (.iconst 0, 1) := by decide +kernel
theorem dX12_school_2 : decode cX12_school 2 = .ok (.putfield 128, 3) := by decide +kernel
theorem dX12_school_5 : decode cX12_school 5 = .ok (.iload_n 1, 1) := by decide +kernel
theorem dX12_school_6 : decode cX12_school 6 = .ok (.invokestatic 135, 3) := by decide +kernel
theorem dX12_school_9 : decode cX12_school 9 = .ok (.ifCond .eq 14, 3) := by decide +kernel
theorem dX12_school_12 : decode cX12_school 12 = .ok (.iload_n 2, 1) := by decide +kernel
theorem dX12_school_13 : decode cX12_school 13 = .ok (.iconst 0, 1) := by decide +kernel
theorem dX12_school_14 : decode cX12_school 14 = .ok (.sipush 9999, 3) := by decide +kernel
theorem dX12_school_17 : decode cX12_school 17 = .ok (.invokestatic 131, 3) := by decide +kernel
theorem dX12_school_20 : decode cX12_school 20 = .ok (.ifCond .ne 5, 3) := by decide +kernel
theorem dX12_school_23 : decode cX12_school 23 = .ok (.iconst (-1), 1) := by decide +kernel
theorem dX12_school_24 : decode cX12_school 24 = .ok (.ireturn, 1) := by decide +kernel
theorem dX12_school_25 : decode cX12_school 25 = .ok (.aload_n 0, 1) := by decide +kernel
theorem dX12_school_26 : decode cX12_school 26 = .ok (.getfield 7, 3) := by decide +kernel
theorem dX12_school_29 : decode cX12_school 29 = .ok (.iconst 0, 1) := by decide +kernel
theorem dX12_school_30 : decode cX12_school 30 = .ok (.iaload, 1) := by decide +kernel
theorem dX12_school_31 : decode cX12_school 31 = .ok (.bipush 12, 2) := by decide +kernel
theorem dX12_school_33 : decode cX12_school 33 = .ok (.if_icmp .ne 6, 3) := by decide +kernel
theorem dX12_school_36 : decode cX12_school 36 = .ok (.bipush (-2), 2) := by decide +kernel
theorem dX12_school_38 : decode cX12_school 38 = .ok (.ireturn, 1) := by decide +kernel
theorem dX12_school_39 : decode cX12_school 39 = .ok (.aload_n 0, 1) := by decide +kernel
theorem dX12_school_40 : decode cX12_school 40 = .ok (.getfield 7, 3) := by decide +kernel
theorem dX12_school_43 : decode cX12_school 43 = .ok (.iconst 0, 1) := by decide +kernel
theorem dX12_school_44 : decode cX12_school 44 = .ok (.iaload, 1) := by decide +kernel
theorem dX12_school_45 : decode cX12_school 45 = .ok (.istore_n 3, 1) := by decide +kernel
theorem dX12_school_46 : decode cX12_school 46 = .ok (.aload_n 0, 1) := by decide +kernel
theorem dX12_school_47 : decode cX12_school 47 = .ok (.getfield 19, 3) := by decide +kernel
theorem dX12_school_50 : decode cX12_school 50 = .ok (.iload_n 3, 1) := by decide +kernel
theorem dX12_school_51 : decode cX12_school 51 = .ok (.iload_n 1, 1) := by decide +kernel
theorem dX12_school_52 : decode cX12_school 52 = .ok (.iastore, 1) := by decide +kernel
theorem dX12_school_53 : decode cX12_school 53 = .ok (.aload_n 0, 1) := by decide +kernel
theorem dX12_school_54 : decode cX12_school 54 = .ok (.getfield 22, 3) := by decide +kernel
theorem dX12_school_57 : decode cX12_school 57 = .ok (.iload_n 3, 1) := by decide +kernel
theorem dX12_school_58 : decode cX12_school 58 = .ok (.iload_n 2, 1) := by decide +kernel
theorem dX12_school_59 : decode cX12_school 59 = .ok (.bipush 100, 2) := by decide +kernel
theorem dX12_school_61 : decode cX12_school 61 = .ok (.idiv, 1) := by decide +kernel
theorem dX12_school_62 : decode cX12_school 62 = .ok (.iastore, 1) := by decide +kernel
theorem dX12_school_63 : decode cX12_school 63 = .ok (.aload_n 0, 1) := by decide +kernel
theorem dX12_school_64 : decode cX12_school 64 = .ok (.getfield 25, 3) := by decide +kernel
theorem dX12_school_67 : decode cX12_school 67 = .ok (.iload_n 3, 1) := by decide +kernel
theorem dX12_school_68 : decode cX12_school 68 = .ok (.iload_n 2, 1) := by decide +kernel
theorem dX12_school_69 : decode cX12_school 69 = .ok (.bipush 100, 2) := by decide +kernel
theorem dX12_school_71 : decode cX12_school 71 = .ok (.irem, 1) := by decide +kernel
theorem dX12_school_72 : decode cX12_school 72 = .ok (.iastore, 1) := by decide +kernel
theorem dX12_school_73 : decode cX12_school 73 = .ok (.aload_n 0, 1) := by decide +kernel
theorem dX12_school_74 : decode cX12_school 74 = .ok (.getfield 7, 3) := by decide +kernel
theorem dX12_school_77 : decode cX12_school 77 = .ok (.bipush 10, 2) := by decide +kernel
theorem dX12_school_79 : decode cX12_school 79 = .ok (.iload_n 3, 1) := by decide +kernel
theorem dX12_school_80 : decode cX12_school 80 = .ok (.iadd, 1) := by decide +kernel
theorem dX12_school_81 : decode cX12_school 81 = .ok (.iconst 0, 1) := by decide +kernel
theorem dX12_school_82 : decode cX12_school 82 = .ok (.iastore, 1) := by decide +kernel
theorem dX12_school_83 : decode cX12_school 83 = .ok (.aload_n 0, 1) := by decide +kernel
theorem dX12_school_84 : decode cX12_school 84 = .ok (.getfield 7, 3) := by decide +kernel
theorem dX12_school_87 : decode cX12_school 87 = .ok (.bipush 30, 2) := by decide +kernel
theorem dX12_school_89 : decode cX12_school 89 = .ok (.iload_n 3, 1) := by decide +kernel
theorem dX12_school_90 : decode cX12_school 90 = .ok (.iadd, 1) := by decide +kernel
theorem dX12_school_91 : decode cX12_school 91 = .ok (.iconst 0, 1) := by decide +kernel
theorem dX12_school_92 : decode cX12_school 92 = .ok (.iastore, 1) := by decide +kernel
theorem dX12_school_93 : decode cX12_school 93 = .ok (.aload_n 0, 1) := by decide +kernel
theorem dX12_school_94 : decode cX12_school 94 = .ok (.getfield 7, 3) := by decide +kernel
theorem dX12_school_97 : decode cX12_school 97 = .ok (.bipush 50, 2) := by decide +kernel
theorem dX12_school_99 : decode cX12_school 99 = .ok (.iload_n 3, 1) := by decide +kernel
theorem dX12_school_100 : decode cX12_school 100 = .ok (.iadd, 1) := by decide +kernel
theorem dX12_school_101 : decode cX12_school 101 = .ok (.sipush 660, 3) := by decide +kernel
theorem dX12_school_104 : decode cX12_school 104 = .ok (.iastore, 1) := by decide +kernel
theorem dX12_school_105 : decode cX12_school 105 = .ok (.iconst 0, 1) := by decide +kernel
theorem dX12_school_106 : decode cX12_school 106 = .ok (.istore 4, 2) := by decide +kernel
theorem dX12_school_108 : decode cX12_school 108 = .ok (.iload 4, 2) := by decide +kernel
theorem dX12_school_110 : decode cX12_school 110 = .ok (.bipush 11, 2) := by decide +kernel
theorem dX12_school_112 : decode cX12_school 112 = .ok (.if_icmp .ge 26, 3) := by decide +kernel
theorem dX12_school_115 : decode cX12_school 115 = .ok (.aload_n 0, 1) := by decide +kernel
theorem dX12_school_116 : decode cX12_school 116 = .ok (.getfield 7, 3) := by decide +kernel
theorem dX12_school_119 : decode cX12_school 119 = .ok (.sipush 180, 3) := by decide +kernel
theorem dX12_school_122 : decode cX12_school 122 = .ok (.bipush 11, 2) := by decide +kernel
theorem dX12_school_124 : decode cX12_school 124 = .ok (.iload_n 3, 1) := by decide +kernel
theorem dX12_school_125 : decode cX12_school 125 = .ok (.imul, 1) := by decide +kernel
theorem dX12_school_126 : decode cX12_school 126 = .ok (.iadd, 1) := by decide +kernel
theorem dX12_school_127 : decode cX12_school 127 = .ok (.iload 4, 2) := by decide +kernel
theorem dX12_school_129 : decode cX12_school 129 = .ok (.iadd, 1) := by decide +kernel
theorem dX12_school_130 : decode cX12_school 130 = .ok (.iconst 0, 1) := by decide +kernel
theorem dX12_school_131 : decode cX12_school 131 = .ok (.iastore, 1) := by decide +kernel
theorem dX12_school_132 : decode cX12_school 132 = .ok (.iinc 4 1, 3) := by decide +kernel
theorem dX12_school_135 : decode cX12_school 135 = .ok (.goto (-27), 3) := by decide +kernel
theorem dX12_school_138 : decode cX12_school 138 = .ok (.aload_n 0, 1) := by decide +kernel
theorem dX12_school_139 : decode cX12_school 139 = .ok (.getfield 7, 3) := by decide +kernel
theorem dX12_school_142 : decode cX12_school 142 = .ok (.iconst 0, 1) := by decide +kernel
theorem dX12_school_143 : decode cX12_school 143 = .ok (.dup2, 1) := by decide +kernel
theorem dX12_school_144 : decode cX12_school 144 = .ok (.iaload, 1) := by decide +kernel
theorem dX12_school_145 : decode cX12_school 145 = .ok (.iconst 1, 1) := by decide +kernel
theorem dX12_school_146 : decode cX12_school 146 = .ok (.iadd, 1) := by decide +kernel
theorem dX12_school_147 : decode cX12_school 147 = .ok (.iastore, 1) := by decide +kernel
theorem dX12_school_148 : decode cX12_school 148 = .ok (.iload_n 3, 1) := by decide +kernel
theorem dX12_school_149 : decode cX12_school 149 = .ok (.ireturn, 1) := by decide +kernel
theorem dX12_set_0 : decode cX12_set 0 = .ok (.aload_n 0, 1) := by decide +kernel
theorem dX12_set_1 : decode cX12_set 1 = .ok (.iconst 0, 1) := by decide +kernel
theorem dX12_set_2 : decode cX12_set 2 = .ok (.putfield 128, 3) := by decide +kernel
theorem dX12_set_5 : decode cX12_set 5 = .ok (.aload_n 0, 1) := by decide +kernel
theorem dX12_set_6 : decode cX12_set 6 = .ok (.iload_n 1, 1) := by decide +kernel
theorem dX12_set_7 : decode cX12_set 7 = .ok (.invokevirtual 139, 3) := by decide +kernel
theorem dX12_set_10 : decode cX12_set 10 = .ok (.ifCond .eq 33, 3) := by decide +kernel
theorem dX12_set_13 : decode cX12_set 13 = .ok (.iload_n 2, 1) := by decide +kernel
theorem dX12_set_14 : decode cX12_set 14 = .ok (.iconst 0, 1) := by decide +kernel
theorem dX12_set_15 : decode cX12_set 15 = .ok (.iconst 2, 1) := by decide +kernel
theorem dX12_set_16 : decode cX12_set 16 = .ok (.invokestatic 131, 3) := by decide +kernel
theorem dX12_set_19 : decode cX12_set 19 = .ok (.ifCond .eq 24, 3) := by decide +kernel
theorem dX12_set_22 : decode cX12_set 22 = .ok (.iload_n 3, 1) := by decide +kernel
theorem dX12_set_23 : decode cX12_set 23 = .ok (.iconst 0, 1) := by decide +kernel
theorem dX12_set_24 : decode cX12_set 24 = .ok (.iload_n 2, 1) := by decide +kernel
theorem dX12_set_25 : decode cX12_set 25 = .ok (.iconst 2, 1) := by decide +kernel
theorem dX12_set_26 : decode cX12_set 26 = .ok (.if_icmp .ne 9, 3) := by decide +kernel
theorem dX12_set_29 : decode cX12_set 29 = .ok (.sipush 999, 3) := by decide +kernel
theorem dX12_set_32 : decode cX12_set 32 = .ok (.goto 5, 3) := by decide +kernel
theorem dX12_set_35 : decode cX12_set 35 = .ok (.bipush 100, 2) := by decide +kernel
theorem dX12_set_37 : decode cX12_set 37 = .ok (.invokestatic 131, 3) := by decide +kernel
theorem dX12_set_40 : decode cX12_set 40 = .ok (.ifCond .ne 5, 3) := by decide +kernel
theorem dX12_set_43 : decode cX12_set 43 = .ok (.iconst (-1), 1) := by decide +kernel
theorem dX12_set_44 : decode cX12_set 44 = .ok (.ireturn, 1) := by decide +kernel
theorem dX12_set_45 : decode cX12_set 45 = .ok (.iload_n 2, 1) := by decide +kernel
theorem dX12_set_46 : decode cX12_set 46 = .ok (.ifCond .ne 8, 3) := by decide +kernel
theorem dX12_set_49 : decode cX12_set 49 = .ok (.bipush 10, 2) := by decide +kernel
theorem dX12_set_51 : decode cX12_set 51 = .ok (.goto 15, 3) := by decide +kernel
theorem dX12_set_54 : decode cX12_set 54 = .ok (.iload_n 2, 1) := by decide +kernel
theorem dX12_set_55 : decode cX12_set 55 = .ok (.iconst 1, 1) := by decide +kernel
theorem dX12_set_56 : decode cX12_set 56 = .ok (.if_icmp .ne 8, 3) := by decide +kernel
theorem dX12_set_59 : decode cX12_set 59 = .ok (.bipush 30, 2) := by decide +kernel
theorem dX12_set_61 : decode cX12_set 61 = .ok (.goto 5, 3) := by decide +kernel
theorem dX12_set_64 : decode cX12_set 64 = .ok (.bipush 50, 2) := by decide +kernel
theorem dX12_set_66 : decode cX12_set 66 = .ok (.iload_n 1, 1) := by decide +kernel
theorem dX12_set_67 : decode cX12_set 67 = .ok (.iadd, 1) := by decide +kernel
theorem dX12_set_68 : decode cX12_set 68 = .ok (.istore 4, 2) := by decide +kernel
theorem dX12_set_70 : decode cX12_set 70 = .ok (.aload_n 0, 1) := by decide +kernel
theorem dX12_set_71 : decode cX12_set 71 = .ok (.getfield 7, 3) := by decide +kernel
theorem dX12_set_74 : decode cX12_set 74 = .ok (.iload 4, 2) := by decide +kernel
theorem dX12_set_76 : decode cX12_set 76 = .ok (.iaload, 1) := by decide +kernel
theorem dX12_set_77 : decode cX12_set 77 = .ok (.istore 5, 2) := by decide +kernel
theorem dX12_set_79 : decode cX12_set 79 = .ok (.aload_n 0, 1) := by decide +kernel
theorem dX12_set_80 : decode cX12_set 80 = .ok (.getfield 7, 3) := by decide +kernel
theorem dX12_set_83 : decode cX12_set 83 = .ok (.iload 4, 2) := by decide +kernel
theorem dX12_set_85 : decode cX12_set 85 = .ok (.iload_n 3, 1) := by decide +kernel
theorem dX12_set_86 : decode cX12_set 86 = .ok (.iastore, 1) := by decide +kernel
theorem dX12_set_87 : decode cX12_set 87 = .ok (.iload 5, 2) := by decide +kernel
theorem dX12_set_89 : decode cX12_set 89 = .ok (.ireturn, 1) := by decide +kernel
theorem dX12_dairy_0 : decode cX12_dairy 0 = .ok (.aload_n 0, 1) := by decide +kernel
theorem dX12_dairy_1 : decode cX12_dairy 1 = .ok (.iconst 0, 1) := by decide +kernel
theorem dX12_dairy_2 : decode cX12_dairy 2 = .ok (.putfield 128, 3) := by decide +kernel
theorem dX12_dairy_5 : decode cX12_dairy 5 = .ok (.iload_n 1, 1) := by decide +kernel
theorem dX12_dairy_6 : decode cX12_dairy 6 = .ok (.iconst 0, 1) := by decide +kernel
theorem dX12_dairy_7 : decode cX12_dairy 7 = .ok (.sipush 9999, 3) := by decide +kernel
theorem dX12_dairy_10 : decode cX12_dairy 10 = .ok (.invokestatic 131, 3) := by decide +kernel
theorem dX12_dairy_13 : decode cX12_dairy 13 = .ok (.ifCond .eq 25, 3) := by decide +kernel
theorem dX12_dairy_16 : decode cX12_dairy 16 = .ok (.iload_n 2, 1) := by decide +kernel
theorem dX12_dairy_17 : decode cX12_dairy 17 = .ok (.iconst 0, 1) := by decide +kernel
theorem dX12_dairy_18 : decode cX12_dairy 18 = .ok (.sipush 9999, 3) := by decide +kernel
theorem dX12_dairy_21 : decode cX12_dairy 21 = .ok (.invokestatic 131, 3) := by decide +kernel
theorem dX12_dairy_24 : decode cX12_dairy 24 = .ok (.ifCond .eq 14, 3) := by decide +kernel
theorem dX12_dairy_27 : decode cX12_dairy 27 = .ok (.iload_n 3, 1) := by decide +kernel
theorem dX12_dairy_28 : decode cX12_dairy 28 = .ok (.iconst 1, 1) := by decide +kernel
theorem dX12_dairy_29 : decode cX12_dairy 29 = .ok (.sipush 9999, 3) := by decide +kernel
theorem dX12_dairy_32 : decode cX12_dairy 32 = .ok (.invokestatic 131, 3) := by decide +kernel
theorem dX12_dairy_35 : decode cX12_dairy 35 = .ok (.ifCond .ne 5, 3) := by decide +kernel
theorem dX12_dairy_38 : decode cX12_dairy 38 = .ok (.iconst (-1), 1) := by decide +kernel
theorem dX12_dairy_39 : decode cX12_dairy 39 = .ok (.ireturn, 1) := by decide +kernel
theorem dX12_dairy_40 : decode cX12_dairy 40 = .ok (.aload_n 0, 1) := by decide +kernel
theorem dX12_dairy_41 : decode cX12_dairy 41 = .ok (.getfield 7, 3) := by decide +kernel
theorem dX12_dairy_44 : decode cX12_dairy 44 = .ok (.iconst 1, 1) := by decide +kernel
theorem dX12_dairy_45 : decode cX12_dairy 45 = .ok (.iaload, 1) := by decide +kernel
theorem dX12_dairy_46 : decode cX12_dairy 46 = .ok (.iconst 5, 1) := by decide +kernel
theorem dX12_dairy_47 : decode cX12_dairy 47 = .ok (.if_icmp .ne 6, 3) := by decide +kernel
theorem dX12_dairy_50 : decode cX12_dairy 50 = .ok (.bipush (-2), 2) := by decide +kernel
theorem dX12_dairy_52 : decode cX12_dairy 52 = .ok (.ireturn, 1) := by decide +kernel
theorem dX12_dairy_53 : decode cX12_dairy 53 = .ok (.aload_n 0, 1) := by decide +kernel
theorem dX12_dairy_54 : decode cX12_dairy 54 = .ok (.getfield 7, 3) := by decide +kernel
theorem dX12_dairy_57 : decode cX12_dairy 57 = .ok (.iconst 1, 1) := by decide +kernel
theorem dX12_dairy_58 : decode cX12_dairy 58 = .ok (.iaload, 1) := by decide +kernel
theorem dX12_dairy_59 : decode cX12_dairy 59 = .ok (.istore 4, 2) := by decide +kernel
theorem dX12_dairy_61 : decode cX12_dairy 61 = .ok (.aload_n 0, 1) := by decide +kernel
theorem dX12_dairy_62 : decode cX12_dairy 62 = .ok (.getfield 28, 3) := by decide +kernel
theorem dX12_dairy_65 : decode cX12_dairy 65 = .ok (.iload 4, 2) := by decide +kernel
theorem dX12_dairy_67 : decode cX12_dairy 67 = .ok (.iload_n 1, 1) := by decide +kernel
theorem dX12_dairy_68 : decode cX12_dairy 68 = .ok (.bipush 100, 2) := by decide +kernel
theorem dX12_dairy_70 : decode cX12_dairy 70 = .ok (.idiv, 1) := by decide +kernel
theorem dX12_dairy_71 : decode cX12_dairy 71 = .ok (.iastore, 1) := by decide +kernel
theorem dX12_dairy_72 : decode cX12_dairy 72 = .ok (.aload_n 0, 1) := by decide +kernel
theorem dX12_dairy_73 : decode cX12_dairy 73 = .ok (.getfield 31, 3) := by decide +kernel
theorem dX12_dairy_76 : decode cX12_dairy 76 = .ok (.iload 4, 2) := by decide +kernel
theorem dX12_dairy_78 : decode cX12_dairy 78 = .ok (.iload_n 1, 1) := by decide +kernel
theorem dX12_dairy_79 : decode cX12_dairy 79 = .ok (.bipush 100, 2) := by decide +kernel
theorem dX12_dairy_81 : decode cX12_dairy 81 = .ok (.irem, 1) := by decide +kernel
theorem dX12_dairy_82 : decode cX12_dairy 82 = .ok (.iastore, 1) := by decide +kernel
theorem dX12_dairy_83 : decode cX12_dairy 83 = .ok (.aload_n 0, 1) := by decide +kernel
theorem dX12_dairy_84 : decode cX12_dairy 84 = .ok (.getfield 34, 3) := by decide +kernel
theorem dX12_dairy_87 : decode cX12_dairy 87 = .ok (.iload 4, 2) := by decide +kernel
theorem dX12_dairy_89 : decode cX12_dairy 89 = .ok (.iload_n 3, 1) := by decide +kernel
theorem dX12_dairy_90 : decode cX12_dairy 90 = .ok (.iastore, 1) := by decide +kernel
theorem dX12_dairy_91 : decode cX12_dairy 91 = .ok (.aload_n 0, 1) := by decide +kernel
theorem dX12_dairy_92 : decode cX12_dairy 92 = .ok (.getfield 7, 3) := by decide +kernel
theorem dX12_dairy_95 : decode cX12_dairy 95 = .ok (.bipush 70, 2) := by decide +kernel
theorem dX12_dairy_97 : decode cX12_dairy 97 = .ok (.iload 4, 2) := by decide +kernel
theorem dX12_dairy_99 : decode cX12_dairy 99 = .ok (.iadd, 1) := by decide +kernel
theorem dX12_dairy_100 : decode cX12_dairy 100 = .ok (.iload_n 2, 1) := by decide +kernel
theorem dX12_dairy_101 : decode cX12_dairy 101 = .ok (.iastore, 1) := by decide +kernel
theorem dX12_dairy_102 : decode cX12_dairy 102 = .ok (.iconst 0, 1) := by decide +kernel
theorem dX12_dairy_103 : decode cX12_dairy 103 = .ok (.istore 5, 2) := by decide +kernel
theorem dX12_dairy_105 : decode cX12_dairy 105 = .ok (.iload 5, 2) := by decide +kernel
theorem dX12_dairy_107 : decode cX12_dairy 107 = .ok (.iconst 4, 1) := by decide +kernel
theorem dX12_dairy_108 : decode cX12_dairy 108 = .ok (.if_icmp .ge 25, 3) := by decide +kernel
theorem dX12_dairy_111 : decode cX12_dairy 111 = .ok (.aload_n 0, 1) := by decide +kernel
theorem dX12_dairy_112 : decode cX12_dairy 112 = .ok (.getfield 7, 3) := by decide +kernel
theorem dX12_dairy_115 : decode cX12_dairy 115 = .ok (.bipush 80, 2) := by decide +kernel
theorem dX12_dairy_117 : decode cX12_dairy 117 = .ok (.iconst 4, 1) := by decide +kernel
theorem dX12_dairy_118 : decode cX12_dairy 118 = .ok (.iload 4, 2) := by decide +kernel
theorem dX12_dairy_120 : decode cX12_dairy 120 = .ok (.imul, 1) := by decide +kernel
theorem dX12_dairy_121 : decode cX12_dairy 121 = .ok (.iadd, 1) := by decide +kernel
theorem dX12_dairy_122 : decode cX12_dairy 122 = .ok (.iload 5, 2) := by decide +kernel
theorem dX12_dairy_124 : decode cX12_dairy 124 = .ok (.iadd, 1) := by decide +kernel
theorem dX12_dairy_125 : decode cX12_dairy 125 = .ok (.iconst (-1), 1) := by decide +kernel
theorem dX12_dairy_126 : decode cX12_dairy 126 = .ok (.iastore, 1) := by decide +kernel
theorem dX12_dairy_127 : decode cX12_dairy 127 = .ok (.iinc 5 1, 3) := by decide +kernel
theorem dX12_dairy_130 : decode cX12_dairy 130 = .ok (.goto (-25), 3) := by decide +kernel
theorem dX12_dairy_133 : decode cX12_dairy 133 = .ok (.aload_n 0, 1) := by decide +kernel
theorem dX12_dairy_134 : decode cX12_dairy 134 = .ok (.getfield 7, 3) := by decide +kernel
theorem dX12_dairy_137 : decode cX12_dairy 137 = .ok (.iconst 1, 1) := by decide +kernel
theorem dX12_dairy_138 : decode cX12_dairy 138 = .ok (.dup2, 1) := by decide +kernel
theorem dX12_dairy_139 : decode cX12_dairy 139 = .ok (.iaload, 1) := by decide +kernel
theorem dX12_dairy_140 : decode cX12_dairy 140 = .ok (.iconst 1, 1) := by decide +kernel
theorem dX12_dairy_141 : decode cX12_dairy 141 = .ok (.iadd, 1) := by decide +kernel
theorem dX12_dairy_142 : decode cX12_dairy 142 = .ok (.iastore, 1) := by decide +kernel
theorem dX12_dairy_143 : decode cX12_dairy 143 = .ok (.iload 4, 2) := by decide +kernel
theorem dX12_dairy_145 : decode cX12_dairy 145 = .ok (.ireturn, 1) := by decide +kernel
theorem dX12_bid_0 : decode cX12_bid 0 = .ok (.aload_n 0, 1) := by decide +kernel
theorem dX12_bid_1 : decode cX12_bid 1 = .ok (.iconst 0, 1) := by decide +kernel
theorem dX12_bid_2 : decode cX12_bid 2 = .ok (.putfield 128, 3) := by decide +kernel
theorem dX12_bid_5 : decode cX12_bid 5 = .ok (.aload_n 0, 1) := by decide +kernel
theorem dX12_bid_6 : decode cX12_bid 6 = .ok (.iload_n 1, 1) := by decide +kernel
theorem dX12_bid_7 : decode cX12_bid 7 = .ok (.invokevirtual 142, 3) := by decide +kernel
theorem dX12_bid_10 : decode cX12_bid 10 = .ok (.ifCond .eq 21, 3) := by decide +kernel
theorem dX12_bid_13 : decode cX12_bid 13 = .ok (.iload_n 2, 1) := by decide +kernel
theorem dX12_bid_14 : decode cX12_bid 14 = .ok (.invokestatic 135, 3) := by decide +kernel
theorem dX12_bid_17 : decode cX12_bid 17 = .ok (.ifCond .eq 14, 3) := by decide +kernel
theorem dX12_bid_20 : decode cX12_bid 20 = .ok (.iload_n 3, 1) := by decide +kernel
theorem dX12_bid_21 : decode cX12_bid 21 = .ok (.iconst (-1), 1) := by decide +kernel
theorem dX12_bid_22 : decode cX12_bid 22 = .ok (.sipush 999, 3) := by decide +kernel
theorem dX12_bid_25 : decode cX12_bid 25 = .ok (.invokestatic 131, 3) := by decide +kernel
theorem dX12_bid_28 : decode cX12_bid 28 = .ok (.ifCond .ne 5, 3) := by decide +kernel
theorem dX12_bid_31 : decode cX12_bid 31 = .ok (.iconst (-1), 1) := by decide +kernel
theorem dX12_bid_32 : decode cX12_bid 32 = .ok (.ireturn, 1) := by decide +kernel
theorem dX12_bid_33 : decode cX12_bid 33 = .ok (.aload_n 0, 1) := by decide +kernel
theorem dX12_bid_34 : decode cX12_bid 34 = .ok (.getfield 7, 3) := by decide +kernel
theorem dX12_bid_37 : decode cX12_bid 37 = .ok (.bipush 80, 2) := by decide +kernel
theorem dX12_bid_39 : decode cX12_bid 39 = .ok (.iconst 4, 1) := by decide +kernel
theorem dX12_bid_40 : decode cX12_bid 40 = .ok (.iload_n 1, 1) := by decide +kernel
theorem dX12_bid_41 : decode cX12_bid 41 = .ok (.imul, 1) := by decide +kernel
theorem dX12_bid_42 : decode cX12_bid 42 = .ok (.iadd, 1) := by decide +kernel
theorem dX12_bid_43 : decode cX12_bid 43 = .ok (.iload_n 2, 1) := by decide +kernel
theorem dX12_bid_44 : decode cX12_bid 44 = .ok (.iadd, 1) := by decide +kernel
theorem dX12_bid_45 : decode cX12_bid 45 = .ok (.iaload, 1) := by decide +kernel
theorem dX12_bid_46 : decode cX12_bid 46 = .ok (.istore 4, 2) := by decide +kernel
theorem dX12_bid_48 : decode cX12_bid 48 = .ok (.aload_n 0, 1) := by decide +kernel
theorem dX12_bid_49 : decode cX12_bid 49 = .ok (.getfield 7, 3) := by decide +kernel
theorem dX12_bid_52 : decode cX12_bid 52 = .ok (.bipush 80, 2) := by decide +kernel
theorem dX12_bid_54 : decode cX12_bid 54 = .ok (.iconst 4, 1) := by decide +kernel
theorem dX12_bid_55 : decode cX12_bid 55 = .ok (.iload_n 1, 1) := by decide +kernel
theorem dX12_bid_56 : decode cX12_bid 56 = .ok (.imul, 1) := by decide +kernel
theorem dX12_bid_57 : decode cX12_bid 57 = .ok (.iadd, 1) := by decide +kernel
theorem dX12_bid_58 : decode cX12_bid 58 = .ok (.iload_n 2, 1) := by decide +kernel
theorem dX12_bid_59 : decode cX12_bid 59 = .ok (.iadd, 1) := by decide +kernel
theorem dX12_bid_60 : decode cX12_bid 60 = .ok (.iload_n 3, 1) := by decide +kernel
theorem dX12_bid_61 : decode cX12_bid 61 = .ok (.iastore, 1) := by decide +kernel
theorem dX12_bid_62 : decode cX12_bid 62 = .ok (.iload 4, 2) := by decide +kernel
theorem dX12_bid_64 : decode cX12_bid 64 = .ok (.ifCond .ge 8, 3) := by decide +kernel
theorem dX12_bid_67 : decode cX12_bid 67 = .ok (.bipush (-4), 2) := by decide +kernel
theorem dX12_bid_69 : decode cX12_bid 69 = .ok (.goto 5, 3) := by decide +kernel
theorem dX12_bid_72 : decode cX12_bid 72 = .ok (.iload 4, 2) := by decide +kernel
theorem dX12_bid_74 : decode cX12_bid 74 = .ok (.ireturn, 1) := by decide +kernel
theorem dX12_wonBy_0 : decode cX12_wonBy 0 = .ok (.bipush (-4), 2) := by decide +kernel
theorem dX12_wonBy_2 : decode cX12_wonBy 2 = .ok (.istore_n 2, 1) := by decide +kernel
theorem dX12_wonBy_3 : decode cX12_wonBy 3 = .ok (.iconst 0, 1) := by decide +kernel
theorem dX12_wonBy_4 : decode cX12_wonBy 4 = .ok (.istore_n 3, 1) := by decide +kernel
theorem dX12_wonBy_5 : decode cX12_wonBy 5 = .ok (.iload_n 3, 1) := by decide +kernel
theorem dX12_wonBy_6 : decode cX12_wonBy 6 = .ok (.aload_n 0, 1) := by decide +kernel
theorem dX12_wonBy_7 : decode cX12_wonBy 7 = .ok (.getfield 7, 3) := by decide +kernel
theorem dX12_wonBy_10 : decode cX12_wonBy 10 = .ok (.iconst 1, 1) := by decide +kernel
theorem dX12_wonBy_11 : decode cX12_wonBy 11 = .ok (.iaload, 1) := by decide +kernel
theorem dX12_wonBy_12 : decode cX12_wonBy 12 = .ok (.if_icmp .ge 57, 3) := by decide +kernel
theorem dX12_wonBy_15 : decode cX12_wonBy 15 = .ok (.aload_n 0, 1) := by decide +kernel
theorem dX12_wonBy_16 : decode cX12_wonBy 16 = .ok (.getfield 7, 3) := by decide +kernel
theorem dX12_wonBy_19 : decode cX12_wonBy 19 = .ok (.bipush 80, 2) := by decide +kernel
theorem dX12_wonBy_21 : decode cX12_wonBy 21 = .ok (.iconst 4, 1) := by decide +kernel
theorem dX12_wonBy_22 : decode cX12_wonBy 22 = .ok (.iload_n 3, 1) := by decide +kernel
theorem dX12_wonBy_23 : decode cX12_wonBy 23 = .ok (.imul, 1) := by decide +kernel
theorem dX12_wonBy_24 : decode cX12_wonBy 24 = .ok (.iadd, 1) := by decide +kernel
theorem dX12_wonBy_25 : decode cX12_wonBy 25 = .ok (.iload_n 1, 1) := by decide +kernel
theorem dX12_wonBy_26 : decode cX12_wonBy 26 = .ok (.iadd, 1) := by decide +kernel
theorem dX12_wonBy_27 : decode cX12_wonBy 27 = .ok (.iaload, 1) := by decide +kernel
theorem dX12_wonBy_28 : decode cX12_wonBy 28 = .ok (.istore 4, 2) := by decide +kernel
theorem dX12_wonBy_30 : decode cX12_wonBy 30 = .ok (.iload 4, 2) := by decide +kernel
theorem dX12_wonBy_32 : decode cX12_wonBy 32 = .ok (.ifCond .lt 29, 3) := by decide +kernel
theorem dX12_wonBy_35 : decode cX12_wonBy 35 = .ok (.iload_n 2, 1) := by decide +kernel
theorem dX12_wonBy_36 : decode cX12_wonBy 36 = .ok (.ifCond .lt 21, 3) := by decide +kernel
theorem dX12_wonBy_39 : decode cX12_wonBy 39 = .ok (.iload 4, 2) := by decide +kernel
theorem dX12_wonBy_41 : decode cX12_wonBy 41 = .ok (.aload_n 0, 1) := by decide +kernel
theorem dX12_wonBy_42 : decode cX12_wonBy 42 = .ok (.getfield 7, 3) := by decide +kernel
theorem dX12_wonBy_45 : decode cX12_wonBy 45 = .ok (.bipush 80, 2) := by decide +kernel
theorem dX12_wonBy_47 : decode cX12_wonBy 47 = .ok (.iconst 4, 1) := by decide +kernel
theorem dX12_wonBy_48 : decode cX12_wonBy 48 = .ok (.iload_n 2, 1) := by decide +kernel
theorem dX12_wonBy_49 : decode cX12_wonBy 49 = .ok (.imul, 1) := by decide +kernel
theorem dX12_wonBy_50 : decode cX12_wonBy 50 = .ok (.iadd, 1) := by decide +kernel
theorem dX12_wonBy_51 : decode cX12_wonBy 51 = .ok (.iload_n 1, 1) := by decide +kernel
theorem dX12_wonBy_52 : decode cX12_wonBy 52 = .ok (.iadd, 1) := by decide +kernel
theorem dX12_wonBy_53 : decode cX12_wonBy 53 = .ok (.iaload, 1) := by decide +kernel
theorem dX12_wonBy_54 : decode cX12_wonBy 54 = .ok (.if_icmp .ge 7, 3) := by decide +kernel
theorem dX12_wonBy_57 : decode cX12_wonBy 57 = .ok (.iload_n 3, 1) := by decide +kernel
theorem dX12_wonBy_58 : decode cX12_wonBy 58 = .ok (.goto 4, 3) := by decide +kernel
theorem dX12_wonBy_61 : decode cX12_wonBy 61 = .ok (.iload_n 2, 1) := by decide +kernel
theorem dX12_wonBy_62 : decode cX12_wonBy 62 = .ok (.istore_n 2, 1) := by decide +kernel
theorem dX12_wonBy_63 : decode cX12_wonBy 63 = .ok (.iinc 3 1, 3) := by decide +kernel
theorem dX12_wonBy_66 : decode cX12_wonBy 66 = .ok (.goto (-61), 3) := by decide +kernel
theorem dX12_wonBy_69 : decode cX12_wonBy 69 = .ok (.iload_n 2, 1) := by decide +kernel
theorem dX12_wonBy_70 : decode cX12_wonBy 70 = .ok (.ireturn, 1) := by decide +kernel
theorem dX12_won_0 : decode cX12_won 0 = .ok (.aload_n 0, 1) := by decide +kernel
theorem dX12_won_1 : decode cX12_won 1 = .ok (.iconst 0, 1) := by decide +kernel
theorem dX12_won_2 : decode cX12_won 2 = .ok (.putfield 128, 3) := by decide +kernel
theorem dX12_won_5 : decode cX12_won 5 = .ok (.iload_n 1, 1) := by decide +kernel
theorem dX12_won_6 : decode cX12_won 6 = .ok (.invokestatic 135, 3) := by decide +kernel
theorem dX12_won_9 : decode cX12_won 9 = .ok (.ifCond .eq 11, 3) := by decide +kernel
theorem dX12_won_12 : decode cX12_won 12 = .ok (.aload_n 0, 1) := by decide +kernel
theorem dX12_won_13 : decode cX12_won 13 = .ok (.iload_n 1, 1) := by decide +kernel
theorem dX12_won_14 : decode cX12_won 14 = .ok (.invokevirtual 145, 3) := by decide +kernel
theorem dX12_won_17 : decode cX12_won 17 = .ok (.goto 4, 3) := by decide +kernel
theorem dX12_won_20 : decode cX12_won 20 = .ok (.iconst (-1), 1) := by decide +kernel
theorem dX12_won_21 : decode cX12_won 21 = .ok (.ireturn, 1) := by decide +kernel
theorem dX12_bottles_0 : decode cX12_bottles 0 = .ok (.aload_n 0, 1) := by decide +kernel
theorem dX12_bottles_1 : decode cX12_bottles 1 = .ok (.iconst 0, 1) := by decide +kernel
theorem dX12_bottles_2 : decode cX12_bottles 2 = .ok (.putfield 128, 3) := by decide +kernel
theorem dX12_bottles_5 : decode cX12_bottles 5 = .ok (.aload_n 0, 1) := by decide +kernel
theorem dX12_bottles_6 : decode cX12_bottles 6 = .ok (.iload_n 1, 1) := by decide +kernel
theorem dX12_bottles_7 : decode cX12_bottles 7 = .ok (.invokevirtual 142, 3) := by decide +kernel
theorem dX12_bottles_10 : decode cX12_bottles 10 = .ok (.ifCond .eq 15, 3) := by decide +kernel
theorem dX12_bottles_13 : decode cX12_bottles 13 = .ok (.aload_n 0, 1) := by decide +kernel
theorem dX12_bottles_14 : decode cX12_bottles 14 = .ok (.getfield 7, 3) := by decide +kernel
theorem dX12_bottles_17 : decode cX12_bottles 17 = .ok (.bipush 70, 2) := by decide +kernel
theorem dX12_bottles_19 : decode cX12_bottles 19 = .ok (.iload_n 1, 1) := by decide +kernel
theorem dX12_bottles_20 : decode cX12_bottles 20 = .ok (.iadd, 1) := by decide +kernel
theorem dX12_bottles_21 : decode cX12_bottles 21 = .ok (.iaload, 1) := by decide +kernel
theorem dX12_bottles_22 : decode cX12_bottles 22 = .ok (.goto 4, 3) := by decide +kernel
theorem dX12_bottles_25 : decode cX12_bottles 25 = .ok (.iconst (-1), 1) := by decide +kernel
theorem dX12_bottles_26 : decode cX12_bottles 26 = .ok (.ireturn, 1) := by decide +kernel
theorem dX12_month_0 : decode cX12_month 0 = .ok (.aload_n 0, 1) := by decide +kernel
theorem dX12_month_1 : decode cX12_month 1 = .ok (.iconst 0, 1) := by decide +kernel
theorem dX12_month_2 : decode cX12_month 2 = .ok (.putfield 128, 3) := by decide +kernel
theorem dX12_month_5 : decode cX12_month 5 = .ok (.iload_n 1, 1) := by decide +kernel
theorem dX12_month_6 : decode cX12_month 6 = .ok (.iconst 0, 1) := by decide +kernel
theorem dX12_month_7 : decode cX12_month 7 = .ok (.bipush 11, 2) := by decide +kernel
theorem dX12_month_9 : decode cX12_month 9 = .ok (.invokestatic 131, 3) := by decide +kernel
theorem dX12_month_12 : decode cX12_month 12 = .ok (.ifCond .eq 41, 3) := by decide +kernel
theorem dX12_month_15 : decode cX12_month 15 = .ok (.iload_n 2, 1) := by decide +kernel
theorem dX12_month_16 : decode cX12_month 16 = .ok (.iconst 0, 1) := by decide +kernel
theorem dX12_month_17 : decode cX12_month 17 = .ok (.iconst 2, 1) := by decide +kernel
theorem dX12_month_18 : decode cX12_month 18 = .ok (.invokestatic 131, 3) := by decide +kernel
theorem dX12_month_21 : decode cX12_month 21 = .ok (.ifCond .eq 32, 3) := by decide +kernel
theorem dX12_month_24 : decode cX12_month 24 = .ok (.iload_n 3, 1) := by decide +kernel
theorem dX12_month_25 : decode cX12_month 25 = .ok (.iconst 0, 1) := by decide +kernel
theorem dX12_month_26 : decode cX12_month 26 = .ok (.iload_n 2, 1) := by decide +kernel
theorem dX12_month_27 : decode cX12_month 27 = .ok (.ifCond .ne 8, 3) := by decide +kernel
theorem dX12_month_30 : decode cX12_month 30 = .ok (.bipush 100, 2) := by decide +kernel
theorem dX12_month_32 : decode cX12_month 32 = .ok (.goto 15, 3) := by decide +kernel
theorem dX12_month_35 : decode cX12_month 35 = .ok (.iload_n 2, 1) := by decide +kernel
theorem dX12_month_36 : decode cX12_month 36 = .ok (.iconst 1, 1) := by decide +kernel
theorem dX12_month_37 : decode cX12_month 37 = .ok (.if_icmp .ne 8, 3) := by decide +kernel
theorem dX12_month_40 : decode cX12_month 40 = .ok (.bipush 99, 2) := by decide +kernel
theorem dX12_month_42 : decode cX12_month 42 = .ok (.goto 5, 3) := by decide +kernel
theorem dX12_month_45 : decode cX12_month 45 = .ok (.ldc 127, 2) := by decide +kernel
theorem dX12_month_47 : decode cX12_month 47 = .ok (.invokestatic 131, 3) := by decide +kernel
theorem dX12_month_50 : decode cX12_month 50 = .ok (.ifCond .ne 5, 3) := by decide +kernel
theorem dX12_month_53 : decode cX12_month 53 = .ok (.iconst (-1), 1) := by decide +kernel
theorem dX12_month_54 : decode cX12_month 54 = .ok (.ireturn, 1) := by decide +kernel
theorem dX12_month_55 : decode cX12_month 55 = .ok (.iload_n 2, 1) := by decide +kernel
theorem dX12_month_56 : decode cX12_month 56 = .ok (.ifCond .ne 8, 3) := by decide +kernel
theorem dX12_month_59 : decode cX12_month 59 = .ok (.bipush 100, 2) := by decide +kernel
theorem dX12_month_61 : decode cX12_month 61 = .ok (.goto 16, 3) := by decide +kernel
theorem dX12_month_64 : decode cX12_month 64 = .ok (.iload_n 2, 1) := by decide +kernel
theorem dX12_month_65 : decode cX12_month 65 = .ok (.iconst 1, 1) := by decide +kernel
theorem dX12_month_66 : decode cX12_month 66 = .ok (.if_icmp .ne 8, 3) := by decide +kernel
theorem dX12_month_69 : decode cX12_month 69 = .ok (.bipush 120, 2) := by decide +kernel
theorem dX12_month_71 : decode cX12_month 71 = .ok (.goto 6, 3) := by decide +kernel
theorem dX12_month_74 : decode cX12_month 74 = .ok (.sipush 140, 3) := by decide +kernel
theorem dX12_month_77 : decode cX12_month 77 = .ok (.iload_n 1, 1) := by decide +kernel
theorem dX12_month_78 : decode cX12_month 78 = .ok (.iadd, 1) := by decide +kernel
theorem dX12_month_79 : decode cX12_month 79 = .ok (.istore 4, 2) := by decide +kernel
theorem dX12_month_81 : decode cX12_month 81 = .ok (.aload_n 0, 1) := by decide +kernel
theorem dX12_month_82 : decode cX12_month 82 = .ok (.getfield 7, 3) := by decide +kernel
theorem dX12_month_85 : decode cX12_month 85 = .ok (.iload 4, 2) := by decide +kernel
theorem dX12_month_87 : decode cX12_month 87 = .ok (.iaload, 1) := by decide +kernel
theorem dX12_month_88 : decode cX12_month 88 = .ok (.istore 5, 2) := by decide +kernel
theorem dX12_month_90 : decode cX12_month 90 = .ok (.aload_n 0, 1) := by decide +kernel
theorem dX12_month_91 : decode cX12_month 91 = .ok (.getfield 7, 3) := by decide +kernel
theorem dX12_month_94 : decode cX12_month 94 = .ok (.iload 4, 2) := by decide +kernel
theorem dX12_month_96 : decode cX12_month 96 = .ok (.iload_n 3, 1) := by decide +kernel
theorem dX12_month_97 : decode cX12_month 97 = .ok (.iastore, 1) := by decide +kernel
theorem dX12_month_98 : decode cX12_month 98 = .ok (.iload 5, 2) := by decide +kernel
theorem dX12_month_100 : decode cX12_month 100 = .ok (.ireturn, 1) := by decide +kernel
theorem dX12_heads_0 : decode cX12_heads 0 = .ok (.aload_n 0, 1) := by decide +kernel
theorem dX12_heads_1 : decode cX12_heads 1 = .ok (.iconst 0, 1) := by decide +kernel
theorem dX12_heads_2 : decode cX12_heads 2 = .ok (.putfield 128, 3) := by decide +kernel
theorem dX12_heads_5 : decode cX12_heads 5 = .ok (.iload_n 1, 1) := by decide +kernel
theorem dX12_heads_6 : decode cX12_heads 6 = .ok (.invokestatic 149, 3) := by decide +kernel
theorem dX12_heads_9 : decode cX12_heads 9 = .ok (.ifCond .eq 13, 3) := by decide +kernel
theorem dX12_heads_12 : decode cX12_heads 12 = .ok (.iload_n 2, 1) := by decide +kernel
theorem dX12_heads_13 : decode cX12_heads 13 = .ok (.iconst 0, 1) := by decide +kernel
theorem dX12_heads_14 : decode cX12_heads 14 = .ok (.bipush 7, 2) := by decide +kernel
theorem dX12_heads_16 : decode cX12_heads 16 = .ok (.invokestatic 131, 3) := by decide +kernel
theorem dX12_heads_19 : decode cX12_heads 19 = .ok (.ifCond .ne 5, 3) := by decide +kernel
theorem dX12_heads_22 : decode cX12_heads 22 = .ok (.iconst (-1), 1) := by decide +kernel
theorem dX12_heads_23 : decode cX12_heads 23 = .ok (.ireturn, 1) := by decide +kernel
theorem dX12_heads_24 : decode cX12_heads 24 = .ok (.aload_n 0, 1) := by decide +kernel
theorem dX12_heads_25 : decode cX12_heads 25 = .ok (.getfield 7, 3) := by decide +kernel
theorem dX12_heads_28 : decode cX12_heads 28 = .ok (.iconst 5, 1) := by decide +kernel
theorem dX12_heads_29 : decode cX12_heads 29 = .ok (.iaload, 1) := by decide +kernel
theorem dX12_heads_30 : decode cX12_heads 30 = .ok (.bipush 16, 2) := by decide +kernel
theorem dX12_heads_32 : decode cX12_heads 32 = .ok (.if_icmp .ne 6, 3) := by decide +kernel
theorem dX12_heads_35 : decode cX12_heads 35 = .ok (.bipush (-2), 2) := by decide +kernel
theorem dX12_heads_37 : decode cX12_heads 37 = .ok (.ireturn, 1) := by decide +kernel
theorem dX12_heads_38 : decode cX12_heads 38 = .ok (.aload_n 0, 1) := by decide +kernel
theorem dX12_heads_39 : decode cX12_heads 39 = .ok (.getfield 102, 3) := by decide +kernel
theorem dX12_heads_42 : decode cX12_heads 42 = .ok (.iload_n 2, 1) := by decide +kernel
theorem dX12_heads_43 : decode cX12_heads 43 = .ok (.iaload, 1) := by decide +kernel
theorem dX12_heads_44 : decode cX12_heads 44 = .ok (.ifCond .ne 6, 3) := by decide +kernel
theorem dX12_heads_47 : decode cX12_heads 47 = .ok (.bipush (-11), 2) := by decide +kernel
theorem dX12_heads_49 : decode cX12_heads 49 = .ok (.ireturn, 1) := by decide +kernel
theorem dX12_heads_50 : decode cX12_heads 50 = .ok (.aload_n 0, 1) := by decide +kernel
theorem dX12_heads_51 : decode cX12_heads 51 = .ok (.getfield 102, 3) := by decide +kernel
theorem dX12_heads_54 : decode cX12_heads 54 = .ok (.iload_n 2, 1) := by decide +kernel
theorem dX12_heads_55 : decode cX12_heads 55 = .ok (.iaload, 1) := by decide +kernel
theorem dX12_heads_56 : decode cX12_heads 56 = .ok (.iconst 2, 1) := by decide +kernel
theorem dX12_heads_57 : decode cX12_heads 57 = .ok (.if_icmp .eq 6, 3) := by decide +kernel
theorem dX12_heads_60 : decode cX12_heads 60 = .ok (.bipush (-12), 2) := by decide +kernel
theorem dX12_heads_62 : decode cX12_heads 62 = .ok (.ireturn, 1) := by decide +kernel
theorem dX12_heads_63 : decode cX12_heads 63 = .ok (.aload_n 0, 1) := by decide +kernel
theorem dX12_heads_64 : decode cX12_heads 64 = .ok (.getfield 7, 3) := by decide +kernel
theorem dX12_heads_67 : decode cX12_heads 67 = .ok (.iconst 5, 1) := by decide +kernel
theorem dX12_heads_68 : decode cX12_heads 68 = .ok (.iaload, 1) := by decide +kernel
theorem dX12_heads_69 : decode cX12_heads 69 = .ok (.istore_n 3, 1) := by decide +kernel
theorem dX12_heads_70 : decode cX12_heads 70 = .ok (.aload_n 0, 1) := by decide +kernel
theorem dX12_heads_71 : decode cX12_heads 71 = .ok (.getfield 114, 3) := by decide +kernel
theorem dX12_heads_74 : decode cX12_heads 74 = .ok (.iload_n 2, 1) := by decide +kernel
theorem dX12_heads_75 : decode cX12_heads 75 = .ok (.iaload, 1) := by decide +kernel
theorem dX12_heads_76 : decode cX12_heads 76 = .ok (.ifCond .ne 9, 3) := by decide +kernel
theorem dX12_heads_79 : decode cX12_heads 79 = .ok (.ldc2_w 152, 3) := by decide +kernel
theorem dX12_heads_82 : decode cX12_heads 82 = .ok (.goto 22, 3) := by decide +kernel
theorem dX12_heads_85 : decode cX12_heads 85 = .ok (.aload_n 0, 1) := by decide +kernel
theorem dX12_heads_86 : decode cX12_heads 86 = .ok (.getfield 114, 3) := by decide +kernel
theorem dX12_heads_89 : decode cX12_heads 89 = .ok (.iload_n 2, 1) := by decide +kernel
theorem dX12_heads_90 : decode cX12_heads 90 = .ok (.iaload, 1) := by decide +kernel
theorem dX12_heads_91 : decode cX12_heads 91 = .ok (.iconst 1, 1) := by decide +kernel
theorem dX12_heads_92 : decode cX12_heads 92 = .ok (.if_icmp .ne 9, 3) := by decide +kernel
theorem dX12_heads_95 : decode cX12_heads 95 = .ok (.ldc2_w 154, 3) := by decide +kernel
theorem dX12_heads_98 : decode cX12_heads 98 = .ok (.goto 6, 3) := by decide +kernel
theorem dX12_heads_101 : decode cX12_heads 101 = .ok (.ldc2_w 156, 3) := by decide +kernel
theorem dX12_heads_104 : decode cX12_heads 104 = .ok (.lstore 4, 2) := by decide +kernel
theorem dX12_heads_106 : decode cX12_heads 106 = .ok (.aload_n 0, 1) := by decide +kernel
theorem dX12_heads_107 : decode cX12_heads 107 = .ok (.getfield 37, 3) := by decide +kernel
theorem dX12_heads_110 : decode cX12_heads 110 = .ok (.iload_n 3, 1) := by decide +kernel
theorem dX12_heads_111 : decode cX12_heads 111 = .ok (.iload_n 1, 1) := by decide +kernel
theorem dX12_heads_112 : decode cX12_heads 112 = .ok (.iastore, 1) := by decide +kernel
theorem dX12_heads_113 : decode cX12_heads 113 = .ok (.aload_n 0, 1) := by decide +kernel
theorem dX12_heads_114 : decode cX12_heads 114 = .ok (.getfield 40, 3) := by decide +kernel
theorem dX12_heads_117 : decode cX12_heads 117 = .ok (.iload_n 3, 1) := by decide +kernel
theorem dX12_heads_118 : decode cX12_heads 118 = .ok (.aload_n 0, 1) := by decide +kernel
theorem dX12_heads_119 : decode cX12_heads 119 = .ok (.getfield 7, 3) := by decide +kernel
theorem dX12_heads_122 : decode cX12_heads 122 = .ok (.iconst 3, 1) := by decide +kernel
theorem dX12_heads_123 : decode cX12_heads 123 = .ok (.iaload, 1) := by decide +kernel
theorem dX12_heads_124 : decode cX12_heads 124 = .ok (.iastore, 1) := by decide +kernel
theorem dX12_heads_125 : decode cX12_heads 125 = .ok (.aload_n 0, 1) := by decide +kernel
theorem dX12_heads_126 : decode cX12_heads 126 = .ok (.getfield 43, 3) := by decide +kernel
theorem dX12_heads_129 : decode cX12_heads 129 = .ok (.iload_n 3, 1) := by decide +kernel
theorem dX12_heads_130 : decode cX12_heads 130 = .ok (.aload_n 0, 1) := by decide +kernel
theorem dX12_heads_131 : decode cX12_heads 131 = .ok (.getfield 7, 3) := by decide +kernel
theorem dX12_heads_134 : decode cX12_heads 134 = .ok (.iconst 3, 1) := by decide +kernel
theorem dX12_heads_135 : decode cX12_heads 135 = .ok (.iaload, 1) := by decide +kernel
theorem dX12_heads_136 : decode cX12_heads 136 = .ok (.bipush 10, 2) := by decide +kernel
theorem dX12_heads_138 : decode cX12_heads 138 = .ok (.aload_n 0, 1) := by decide +kernel
theorem dX12_heads_139 : decode cX12_heads 139 = .ok (.getfield 7, 3) := by decide +kernel
theorem dX12_heads_142 : decode cX12_heads 142 = .ok (.iconst 3, 1) := by decide +kernel
theorem dX12_heads_143 : decode cX12_heads 143 = .ok (.iaload, 1) := by decide +kernel
theorem dX12_heads_144 : decode cX12_heads 144 = .ok (.bipush 7, 2) := by decide +kernel
theorem dX12_heads_146 : decode cX12_heads 146 = .ok (.irem, 1) := by decide +kernel
theorem dX12_heads_147 : decode cX12_heads 147 = .ok (.isub, 1) := by decide +kernel
theorem dX12_heads_148 : decode cX12_heads 148 = .ok (.bipush 7, 2) := by decide +kernel
theorem dX12_heads_150 : decode cX12_heads 150 = .ok (.irem, 1) := by decide +kernel
theorem dX12_heads_151 : decode cX12_heads 151 = .ok (.iadd, 1) := by decide +kernel
theorem dX12_heads_152 : decode cX12_heads 152 = .ok (.iconst 4, 1) := by decide +kernel
theorem dX12_heads_153 : decode cX12_heads 153 = .ok (.iadd, 1) := by decide +kernel
theorem dX12_heads_154 : decode cX12_heads 154 = .ok (.iastore, 1) := by decide +kernel
theorem dX12_heads_155 : decode cX12_heads 155 = .ok (.iconst 0, 1) := by decide +kernel
theorem dX12_heads_156 : decode cX12_heads 156 = .ok (.istore 6, 2) := by decide +kernel
theorem dX12_heads_158 : decode cX12_heads 158 = .ok (.iload 6, 2) := by decide +kernel
theorem dX12_heads_160 : decode cX12_heads 160 = .ok (.bipush 12, 2) := by decide +kernel
theorem dX12_heads_162 : decode cX12_heads 162 = .ok (.if_icmp .ge 92, 3) := by decide +kernel
theorem dX12_heads_165 : decode cX12_heads 165 = .ok (.iload 6, 2) := by decide +kernel
theorem dX12_heads_167 : decode cX12_heads 167 = .ok (.aload_n 0, 1) := by decide +kernel
theorem dX12_heads_168 : decode cX12_heads 168 = .ok (.getfield 117, 3) := by decide +kernel
theorem dX12_heads_171 : decode cX12_heads 171 = .ok (.iload_n 2, 1) := by decide +kernel
theorem dX12_heads_172 : decode cX12_heads 172 = .ok (.iaload, 1) := by decide +kernel
theorem dX12_heads_173 : decode cX12_heads 173 = .ok (.if_icmp .ge 18, 3) := by decide +kernel
theorem dX12_heads_176 : decode cX12_heads 176 = .ok (.aload_n 0, 1) := by decide +kernel
theorem dX12_heads_177 : decode cX12_heads 177 = .ok (.getfield 120, 3) := by decide +kernel
theorem dX12_heads_180 : decode cX12_heads 180 = .ok (.bipush 80, 2) := by decide +kernel
theorem dX12_heads_182 : decode cX12_heads 182 = .ok (.iload_n 2, 1) := by decide +kernel
theorem dX12_heads_183 : decode cX12_heads 183 = .ok (.imul, 1) := by decide +kernel
theorem dX12_heads_184 : decode cX12_heads 184 = .ok (.iload 6, 2) := by decide +kernel
theorem dX12_heads_186 : decode cX12_heads 186 = .ok (.iadd, 1) := by decide +kernel
theorem dX12_heads_187 : decode cX12_heads 187 = .ok (.laload, 1) := by decide +kernel
theorem dX12_heads_188 : decode cX12_heads 188 = .ok (.goto 5, 3) := by decide +kernel
theorem dX12_heads_191 : decode cX12_heads 191 = .ok (.lload 4, 2) := by decide +kernel
theorem dX12_heads_193 : decode cX12_heads 193 = .ok (.lstore 7, 2) := by decide +kernel
theorem dX12_heads_195 : decode cX12_heads 195 = .ok (.aload_n 0, 1) := by decide +kernel
theorem dX12_heads_196 : decode cX12_heads 196 = .ok (.getfield 46, 3) := by decide +kernel
theorem dX12_heads_199 : decode cX12_heads 199 = .ok (.bipush 12, 2) := by decide +kernel
theorem dX12_heads_201 : decode cX12_heads 201 = .ok (.iload_n 3, 1) := by decide +kernel
theorem dX12_heads_202 : decode cX12_heads 202 = .ok (.imul, 1) := by decide +kernel
theorem dX12_heads_203 : decode cX12_heads 203 = .ok (.iload 6, 2) := by decide +kernel
theorem dX12_heads_205 : decode cX12_heads 205 = .ok (.iadd, 1) := by decide +kernel
theorem dX12_heads_206 : decode cX12_heads 206 = .ok (.lload 7, 2) := by decide +kernel
theorem dX12_heads_208 : decode cX12_heads 208 = .ok (.lload 4, 2) := by decide +kernel
theorem dX12_heads_210 : decode cX12_heads 210 = .ok (.lcmp, 1) := by decide +kernel
theorem dX12_heads_211 : decode cX12_heads 211 = .ok (.ifCond .ne 7, 3) := by decide +kernel
theorem dX12_heads_214 : decode cX12_heads 214 = .ok (.iconst (-1), 1) := by decide +kernel
theorem dX12_heads_215 : decode cX12_heads 215 = .ok (.goto 32, 3) := by decide +kernel
theorem dX12_heads_218 : decode cX12_heads 218 = .ok (.lload 7, 2) := by decide +kernel
theorem dX12_heads_220 : decode cX12_heads 220 = .ok (.lconst 0, 1) := by decide +kernel
theorem dX12_heads_221 : decode cX12_heads 221 = .ok (.lcmp, 1) := by decide +kernel
theorem dX12_heads_222 : decode cX12_heads 222 = .ok (.ifCond .ge 7, 3) := by decide +kernel
theorem dX12_heads_225 : decode cX12_heads 225 = .ok (.iconst 0, 1) := by decide +kernel
theorem dX12_heads_226 : decode cX12_heads 226 = .ok (.goto 21, 3) := by decide +kernel
theorem dX12_heads_229 : decode cX12_heads 229 = .ok (.lload 7, 2) := by decide +kernel
theorem dX12_heads_231 : decode cX12_heads 231 = .ok (.ldc2_w 158, 3) := by decide +kernel
theorem dX12_heads_234 : decode cX12_heads 234 = .ok (.lcmp, 1) := by decide +kernel
theorem dX12_heads_235 : decode cX12_heads 235 = .ok (.ifCond .le 9, 3) := by decide +kernel
theorem dX12_heads_238 : decode cX12_heads 238 = .ok (.sipush 200, 3) := by decide +kernel
theorem dX12_heads_241 : decode cX12_heads 241 = .ok (.goto 6, 3) := by decide +kernel
theorem dX12_heads_244 : decode cX12_heads 244 = .ok (.lload 7, 2) := by decide +kernel
theorem dX12_heads_246 : decode cX12_heads 246 = .ok (.l2i, 1) := by decide +kernel
theorem dX12_heads_247 : decode cX12_heads 247 = .ok (.iastore, 1) := by decide +kernel
theorem dX12_heads_248 : decode cX12_heads 248 = .ok (.iinc 6 1, 3) := by decide +kernel
theorem dX12_heads_251 : decode cX12_heads 251 = .ok (.goto (-93), 3) := by decide +kernel
theorem dX12_heads_254 : decode cX12_heads 254 = .ok (.aload_n 0, 1) := by decide +kernel
theorem dX12_heads_255 : decode cX12_heads 255 = .ok (.getfield 7, 3) := by decide +kernel
theorem dX12_heads_258 : decode cX12_heads 258 = .ok (.iconst 5, 1) := by decide +kernel
theorem dX12_heads_259 : decode cX12_heads 259 = .ok (.dup2, 1) := by decide +kernel
theorem dX12_heads_260 : decode cX12_heads 260 = .ok (.iaload, 1) := by decide +kernel
theorem dX12_heads_261 : decode cX12_heads 261 = .ok (.iconst 1, 1) := by decide +kernel
theorem dX12_heads_262 : decode cX12_heads 262 = .ok (.iadd, 1) := by decide +kernel
theorem dX12_heads_263 : decode cX12_heads 263 = .ok (.iastore, 1) := by decide +kernel
theorem dX12_heads_264 : decode cX12_heads 264 = .ok (.aload_n 0, 1) := by decide +kernel
theorem dX12_heads_265 : decode cX12_heads 265 = .ok (.getfield 43, 3) := by decide +kernel
theorem dX12_heads_268 : decode cX12_heads 268 = .ok (.iload_n 3, 1) := by decide +kernel
theorem dX12_heads_269 : decode cX12_heads 269 = .ok (.iaload, 1) := by decide +kernel
theorem dX12_heads_270 : decode cX12_heads 270 = .ok (.ireturn, 1) := by decide +kernel
theorem dX12_headOf_0 : decode cX12_headOf 0 = .ok (.iconst 0, 1) := by decide +kernel
theorem dX12_headOf_1 : decode cX12_headOf 1 = .ok (.istore 5, 2) := by decide +kernel
theorem dX12_headOf_3 : decode cX12_headOf 3 = .ok (.aload_n 0, 1) := by decide +kernel
theorem dX12_headOf_4 : decode cX12_headOf 4 = .ok (.getfield 7, 3) := by decide +kernel
theorem dX12_headOf_7 : decode cX12_headOf 7 = .ok (.iconst 5, 1) := by decide +kernel
theorem dX12_headOf_8 : decode cX12_headOf 8 = .ok (.iaload, 1) := by decide +kernel
theorem dX12_headOf_9 : decode cX12_headOf 9 = .ok (.iconst 1, 1) := by decide +kernel
theorem dX12_headOf_10 : decode cX12_headOf 10 = .ok (.isub, 1) := by decide +kernel
theorem dX12_headOf_11 : decode cX12_headOf 11 = .ok (.istore 6, 2) := by decide +kernel
theorem dX12_headOf_13 : decode cX12_headOf 13 = .ok (.iload 6, 2) := by decide +kernel
theorem dX12_headOf_15 : decode cX12_headOf 15 = .ok (.ifCond .lt 88, 3) := by decide +kernel
theorem dX12_headOf_18 : decode cX12_headOf 18 = .ok (.aload_n 0, 1) := by decide +kernel
theorem dX12_headOf_19 : decode cX12_headOf 19 = .ok (.getfield 37, 3) := by decide +kernel
theorem dX12_headOf_22 : decode cX12_headOf 22 = .ok (.iload 6, 2) := by decide +kernel
theorem dX12_headOf_24 : decode cX12_headOf 24 = .ok (.iaload, 1) := by decide +kernel
theorem dX12_headOf_25 : decode cX12_headOf 25 = .ok (.iload_n 2, 1) := by decide +kernel
theorem dX12_headOf_26 : decode cX12_headOf 26 = .ok (.if_icmp .ne 71, 3) := by decide +kernel
theorem dX12_headOf_29 : decode cX12_headOf 29 = .ok (.iload 5, 2) := by decide +kernel
theorem dX12_headOf_31 : decode cX12_headOf 31 = .ok (.ifCond .ne 26, 3) := by decide +kernel
theorem dX12_headOf_34 : decode cX12_headOf 34 = .ok (.aload_n 0, 1) := by decide +kernel
theorem dX12_headOf_35 : decode cX12_headOf 35 = .ok (.getfield 43, 3) := by decide +kernel
theorem dX12_headOf_38 : decode cX12_headOf 38 = .ok (.iload 6, 2) := by decide +kernel
theorem dX12_headOf_40 : decode cX12_headOf 40 = .ok (.iaload, 1) := by decide +kernel
theorem dX12_headOf_41 : decode cX12_headOf 41 = .ok (.iload_n 3, 1) := by decide +kernel
theorem dX12_headOf_42 : decode cX12_headOf 42 = .ok (.if_icmp .gt 19, 3) := by decide +kernel
theorem dX12_headOf_45 : decode cX12_headOf 45 = .ok (.aload_n 0, 1) := by decide +kernel
theorem dX12_headOf_46 : decode cX12_headOf 46 = .ok (.getfield 40, 3) := by decide +kernel
theorem dX12_headOf_49 : decode cX12_headOf 49 = .ok (.iload 6, 2) := by decide +kernel
theorem dX12_headOf_51 : decode cX12_headOf 51 = .ok (.iaload, 1) := by decide +kernel
theorem dX12_headOf_52 : decode cX12_headOf 52 = .ok (.iload 4, 2) := by decide +kernel
theorem dX12_headOf_54 : decode cX12_headOf 54 = .ok (.if_icmp .gt 7, 3) := by decide +kernel
theorem dX12_headOf_57 : decode cX12_headOf 57 = .ok (.iconst 1, 1) := by decide +kernel
theorem dX12_headOf_58 : decode cX12_headOf 58 = .ok (.goto 4, 3) := by decide +kernel
theorem dX12_headOf_61 : decode cX12_headOf 61 = .ok (.iconst 0, 1) := by decide +kernel
theorem dX12_headOf_62 : decode cX12_headOf 62 = .ok (.istore 5, 2) := by decide +kernel
theorem dX12_headOf_64 : decode cX12_headOf 64 = .ok (.iload 5, 2) := by decide +kernel
theorem dX12_headOf_66 : decode cX12_headOf 66 = .ok (.ifCond .eq 31, 3) := by decide +kernel
theorem dX12_headOf_69 : decode cX12_headOf 69 = .ok (.aload_n 0, 1) := by decide +kernel
theorem dX12_headOf_70 : decode cX12_headOf 70 = .ok (.getfield 46, 3) := by decide +kernel
theorem dX12_headOf_73 : decode cX12_headOf 73 = .ok (.bipush 12, 2) := by decide +kernel
theorem dX12_headOf_75 : decode cX12_headOf 75 = .ok (.iload 6, 2) := by decide +kernel
theorem dX12_headOf_77 : decode cX12_headOf 77 = .ok (.imul, 1) := by decide +kernel
theorem dX12_headOf_78 : decode cX12_headOf 78 = .ok (.iload_n 1, 1) := by decide +kernel
theorem dX12_headOf_79 : decode cX12_headOf 79 = .ok (.iadd, 1) := by decide +kernel
theorem dX12_headOf_80 : decode cX12_headOf 80 = .ok (.iaload, 1) := by decide +kernel
theorem dX12_headOf_81 : decode cX12_headOf 81 = .ok (.ifCond .lt 16, 3) := by decide +kernel
theorem dX12_headOf_84 : decode cX12_headOf 84 = .ok (.aload_n 0, 1) := by decide +kernel
theorem dX12_headOf_85 : decode cX12_headOf 85 = .ok (.getfield 46, 3) := by decide +kernel
theorem dX12_headOf_88 : decode cX12_headOf 88 = .ok (.bipush 12, 2) := by decide +kernel
theorem dX12_headOf_90 : decode cX12_headOf 90 = .ok (.iload 6, 2) := by decide +kernel
theorem dX12_headOf_92 : decode cX12_headOf 92 = .ok (.imul, 1) := by decide +kernel
theorem dX12_headOf_93 : decode cX12_headOf 93 = .ok (.iload_n 1, 1) := by decide +kernel
theorem dX12_headOf_94 : decode cX12_headOf 94 = .ok (.iadd, 1) := by decide +kernel
theorem dX12_headOf_95 : decode cX12_headOf 95 = .ok (.iaload, 1) := by decide +kernel
theorem dX12_headOf_96 : decode cX12_headOf 96 = .ok (.ireturn, 1) := by decide +kernel
theorem dX12_headOf_97 : decode cX12_headOf 97 = .ok (.iinc 6 (-1), 3) := by decide +kernel
theorem dX12_headOf_100 : decode cX12_headOf 100 = .ok (.goto (-87), 3) := by decide +kernel
theorem dX12_headOf_103 : decode cX12_headOf 103 = .ok (.iconst 0, 1) := by decide +kernel
theorem dX12_headOf_104 : decode cX12_headOf 104 = .ok (.ireturn, 1) := by decide +kernel
theorem dX12_headsOf_0 : decode cX12_headsOf 0 = .ok (.aload_n 0, 1) := by decide +kernel
theorem dX12_headsOf_1 : decode cX12_headsOf 1 = .ok (.iload_n 1, 1) := by decide +kernel
theorem dX12_headsOf_2 : decode cX12_headsOf 2 = .ok (.iconst 0, 1) := by decide +kernel
theorem dX12_headsOf_3 : decode cX12_headsOf 3 = .ok (.iload_n 2, 1) := by decide +kernel
theorem dX12_headsOf_4 : decode cX12_headsOf 4 = .ok (.sipush 400, 3) := by decide +kernel
theorem dX12_headsOf_7 : decode cX12_headsOf 7 = .ok (.invokevirtual 160, 3) := by decide +kernel
theorem dX12_headsOf_10 : decode cX12_headsOf 10 = .ok (.aload_n 0, 1) := by decide +kernel
theorem dX12_headsOf_11 : decode cX12_headsOf 11 = .ok (.iload_n 1, 1) := by decide +kernel
theorem dX12_headsOf_12 : decode cX12_headsOf 12 = .ok (.iconst 1, 1) := by decide +kernel
theorem dX12_headsOf_13 : decode cX12_headsOf 13 = .ok (.iload_n 2, 1) := by decide +kernel
theorem dX12_headsOf_14 : decode cX12_headsOf 14 = .ok (.sipush 400, 3) := by decide +kernel
theorem dX12_headsOf_17 : decode cX12_headsOf 17 = .ok (.invokevirtual 160, 3) := by decide +kernel
theorem dX12_headsOf_20 : decode cX12_headsOf 20 = .ok (.iadd, 1) := by decide +kernel
theorem dX12_headsOf_21 : decode cX12_headsOf 21 = .ok (.aload_n 0, 1) := by decide +kernel
theorem dX12_headsOf_22 : decode cX12_headsOf 22 = .ok (.iload_n 1, 1) := by decide +kernel
theorem dX12_headsOf_23 : decode cX12_headsOf 23 = .ok (.iconst 2, 1) := by decide +kernel
theorem dX12_headsOf_24 : decode cX12_headsOf 24 = .ok (.iload_n 2, 1) := by decide +kernel
theorem dX12_headsOf_25 : decode cX12_headsOf 25 = .ok (.sipush 400, 3) := by decide +kernel
theorem dX12_headsOf_28 : decode cX12_headsOf 28 = .ok (.invokevirtual 160, 3) := by decide +kernel
theorem dX12_headsOf_31 : decode cX12_headsOf 31 = .ok (.iadd, 1) := by decide +kernel
theorem dX12_headsOf_32 : decode cX12_headsOf 32 = .ok (.ireturn, 1) := by decide +kernel
theorem dX12_head_0 : decode cX12_head 0 = .ok (.aload_n 0, 1) := by decide +kernel
theorem dX12_head_1 : decode cX12_head 1 = .ok (.iconst 0, 1) := by decide +kernel
theorem dX12_head_2 : decode cX12_head 2 = .ok (.putfield 128, 3) := by decide +kernel
theorem dX12_head_5 : decode cX12_head 5 = .ok (.aload_n 0, 1) := by decide +kernel
theorem dX12_head_6 : decode cX12_head 6 = .ok (.iload_n 1, 1) := by decide +kernel
theorem dX12_head_7 : decode cX12_head 7 = .ok (.invokevirtual 139, 3) := by decide +kernel
theorem dX12_head_10 : decode cX12_head 10 = .ok (.ifCond .eq 37, 3) := by decide +kernel
theorem dX12_head_13 : decode cX12_head 13 = .ok (.iload_n 2, 1) := by decide +kernel
theorem dX12_head_14 : decode cX12_head 14 = .ok (.invokestatic 149, 3) := by decide +kernel
theorem dX12_head_17 : decode cX12_head 17 = .ok (.ifCond .eq 30, 3) := by decide +kernel
theorem dX12_head_20 : decode cX12_head 20 = .ok (.iload_n 3, 1) := by decide +kernel
theorem dX12_head_21 : decode cX12_head 21 = .ok (.invokestatic 164, 3) := by decide +kernel
theorem dX12_head_24 : decode cX12_head 24 = .ok (.ifCond .eq 23, 3) := by decide +kernel
theorem dX12_head_27 : decode cX12_head 27 = .ok (.iload 4, 2) := by decide +kernel
theorem dX12_head_29 : decode cX12_head 29 = .ok (.invokestatic 164, 3) := by decide +kernel
theorem dX12_head_32 : decode cX12_head 32 = .ok (.ifCond .eq 15, 3) := by decide +kernel
theorem dX12_head_35 : decode cX12_head 35 = .ok (.aload_n 0, 1) := by decide +kernel
theorem dX12_head_36 : decode cX12_head 36 = .ok (.iload_n 1, 1) := by decide +kernel
theorem dX12_head_37 : decode cX12_head 37 = .ok (.iload_n 2, 1) := by decide +kernel
theorem dX12_head_38 : decode cX12_head 38 = .ok (.iload_n 3, 1) := by decide +kernel
theorem dX12_head_39 : decode cX12_head 39 = .ok (.iload 4, 2) := by decide +kernel
theorem dX12_head_41 : decode cX12_head 41 = .ok (.invokevirtual 160, 3) := by decide +kernel
theorem dX12_head_44 : decode cX12_head 44 = .ok (.goto 4, 3) := by decide +kernel
