theorem dX0_init_0 : decode cX0_init 0 = .ok (.aload_n 0, 1) := by decide +kernel
theorem dX0_init_1 : decode cX0_init 1 = .ok (.invokespecial 1, 3) := by decide +kernel
theorem dX0_init_4 : decode cX0_init 4 = .ok (.aload_n 0, 1) := by decide +kernel
theorem dX0_init_5 : decode cX0_init 5 = .ok (.iload_n 1, 1) := by decide +kernel
theorem dX0_init_6 : decode cX0_init 6 = .ok (.putfield 7, 3) := by decide +kernel
theorem dX0_init_9 : decode cX0_init 9 = .ok (.aload_n 0, 1) := by decide +kernel
theorem dX0_init_10 : decode cX0_init 10 = .ok (.iload_n 2, 1) := by decide +kernel
theorem dX0_init_11 : decode cX0_init 11 = .ok (.putfield 13, 3) := by decide +kernel
theorem dX0_init_14 : decode cX0_init 14 = .ok (.aload_n 0, 1) := by decide +kernel
theorem dX0_init_15 : decode cX0_init 15 = .ok (.iload_n 3, 1) := by decide +kernel
theorem dX0_init_16 : decode cX0_init 16 = .ok (.putfield 16, 3) := by decide +kernel
theorem dX0_init_19 : decode cX0_init 19 = .ok (.iconst 0, 1) := by decide +kernel
theorem dX0_init_20 : decode cX0_init 20 = .ok (.iload 5, 2) := by decide +kernel
theorem dX0_init_22 : decode cX0_init 22 = .ok (.aload 4, 2) := by decide +kernel
theorem dX0_init_24 : decode cX0_init 24 = .ok (.arraylength, 1) := by decide +kernel
theorem dX0_init_25 : decode cX0_init 25 = .ok (.invokestatic 19, 3) := by decide +kernel
theorem dX0_init_28 : decode cX0_init 28 = .ok (.invokestatic 25, 3) := by decide +kernel
theorem dX0_init_31 : decode cX0_init 31 = .ok (.istore 6, 2) := by decide +kernel
theorem dX0_init_33 : decode cX0_init 33 = .ok (.aload_n 0, 1) := by decide +kernel
theorem dX0_init_34 : decode cX0_init 34 = .ok (.iload 6, 2) := by decide +kernel
theorem dX0_init_36 : decode cX0_init 36 = .ok (.newarray .int, 2) := by decide +kernel
theorem dX0_init_38 : decode cX0_init 38 = .ok (.putfield 28, 3) := by decide +kernel
theorem dX0_init_41 : decode cX0_init 41 = .ok (.aload 4, 2) := by decide +kernel
theorem dX0_init_43 : decode cX0_init 43 = .ok (.iconst 0, 1) := by decide +kernel
theorem dX0_init_44 : decode cX0_init 44 = .ok (.aload_n 0, 1) := by decide +kernel
theorem dX0_init_45 : decode cX0_init 45 = .ok (.getfield 28, 3) := by decide +kernel
theorem dX0_init_48 : decode cX0_init 48 = .ok (.iconst 0, 1) := by decide +kernel
theorem dX0_init_49 : decode cX0_init 49 = .ok (.iload 6, 2) := by decide +kernel
theorem dX0_init_51 : decode cX0_init 51 = .ok (.invokestatic 32, 3) := by decide +kernel
theorem dX0_init_54 : decode cX0_init 54 = .ok (.return_, 1) := by decide +kernel
theorem dX0_isMet_0 : decode cX0_isMet 0 = .ok (.iconst 0, 1) := by decide +kernel
theorem dX0_isMet_1 : decode cX0_isMet 1 = .ok (.istore_n 3, 1) := by decide +kernel
theorem dX0_isMet_2 : decode cX0_isMet 2 = .ok (.iconst 0, 1) := by decide +kernel
theorem dX0_isMet_3 : decode cX0_isMet 3 = .ok (.istore 4, 2) := by decide +kernel
theorem dX0_isMet_5 : decode cX0_isMet 5 = .ok (.iload 4, 2) := by decide +kernel
theorem dX0_isMet_7 : decode cX0_isMet 7 = .ok (.aload_n 0, 1) := by decide +kernel
theorem dX0_isMet_8 : decode cX0_isMet 8 = .ok (.getfield 28, 3) := by decide +kernel
theorem dX0_isMet_11 : decode cX0_isMet 11 = .ok (.arraylength, 1) := by decide +kernel
theorem dX0_isMet_12 : decode cX0_isMet 12 = .ok (.if_icmp .ge 98, 3) := by decide +kernel
theorem dX0_isMet_15 : decode cX0_isMet 15 = .ok (.aload_n 0, 1) := by decide +kernel
theorem dX0_isMet_16 : decode cX0_isMet 16 = .ok (.getfield 28, 3) := by decide +kernel
theorem dX0_isMet_19 : decode cX0_isMet 19 = .ok (.iload 4, 2) := by decide +kernel
theorem dX0_isMet_21 : decode cX0_isMet 21 = .ok (.iaload, 1) := by decide +kernel
theorem dX0_isMet_22 : decode cX0_isMet 22 = .ok (.istore 5, 2) := by decide +kernel
theorem dX0_isMet_24 : decode cX0_isMet 24 = .ok (.iload 5, 2) := by decide +kernel
theorem dX0_isMet_26 : decode cX0_isMet 26 = .ok (.ifCond .lt 24, 3) := by decide +kernel
theorem dX0_isMet_29 : decode cX0_isMet 29 = .ok (.iload_n 3, 1) := by decide +kernel
theorem dX0_isMet_30 : decode cX0_isMet 30 = .ok (.aload_n 2, 1) := by decide +kernel
theorem dX0_isMet_31 : decode cX0_isMet 31 = .ok (.arraylength, 1) := by decide +kernel
theorem dX0_isMet_32 : decode cX0_isMet 32 = .ok (.if_icmp .ge 18, 3) := by decide +kernel
theorem dX0_isMet_35 : decode cX0_isMet 35 = .ok (.aload_n 2, 1) := by decide +kernel
theorem dX0_isMet_36 : decode cX0_isMet 36 = .ok (.iload_n 3, 1) := by decide +kernel
theorem dX0_isMet_37 : decode cX0_isMet 37 = .ok (.iload 5, 2) := by decide +kernel
theorem dX0_isMet_39 : decode cX0_isMet 39 = .ok (.aload_n 1, 1) := by decide +kernel
theorem dX0_isMet_40 : decode cX0_isMet 40 = .ok (.invokestatic 38, 3) := by decide +kernel
theorem dX0_isMet_43 : decode cX0_isMet 43 = .ok (.iastore, 1) := by decide +kernel
theorem dX0_isMet_44 : decode cX0_isMet 44 = .ok (.iinc 3 1, 3) := by decide +kernel
theorem dX0_isMet_47 : decode cX0_isMet 47 = .ok (.goto 57, 3) := by decide +kernel
theorem dX0_isMet_50 : decode cX0_isMet 50 = .ok (.iload 5, 2) := by decide +kernel
theorem dX0_isMet_52 : decode cX0_isMet 52 = .ok (.bipush (-33), 2) := by decide +kernel
theorem dX0_isMet_54 : decode cX0_isMet 54 = .ok (.if_icmp .ne 23, 3) := by decide +kernel
theorem dX0_isMet_57 : decode cX0_isMet 57 = .ok (.iload_n 3, 1) := by decide +kernel
theorem dX0_isMet_58 : decode cX0_isMet 58 = .ok (.iconst 1, 1) := by decide +kernel
theorem dX0_isMet_59 : decode cX0_isMet 59 = .ok (.if_icmp .lt 18, 3) := by decide +kernel
theorem dX0_isMet_62 : decode cX0_isMet 62 = .ok (.aload_n 2, 1) := by decide +kernel
theorem dX0_isMet_63 : decode cX0_isMet 63 = .ok (.iload_n 3, 1) := by decide +kernel
theorem dX0_isMet_64 : decode cX0_isMet 64 = .ok (.iconst 1, 1) := by decide +kernel
theorem dX0_isMet_65 : decode cX0_isMet 65 = .ok (.isub, 1) := by decide +kernel
theorem dX0_isMet_66 : decode cX0_isMet 66 = .ok (.iconst 1, 1) := by decide +kernel
theorem dX0_isMet_67 : decode cX0_isMet 67 = .ok (.aload_n 2, 1) := by decide +kernel
theorem dX0_isMet_68 : decode cX0_isMet 68 = .ok (.iload_n 3, 1) := by decide +kernel
theorem dX0_isMet_69 : decode cX0_isMet 69 = .ok (.iconst 1, 1) := by decide +kernel
theorem dX0_isMet_70 : decode cX0_isMet 70 = .ok (.isub, 1) := by decide +kernel
theorem dX0_isMet_71 : decode cX0_isMet 71 = .ok (.iaload, 1) := by decide +kernel
theorem dX0_isMet_72 : decode cX0_isMet 72 = .ok (.isub, 1) := by decide +kernel
theorem dX0_isMet_73 : decode cX0_isMet 73 = .ok (.iastore, 1) := by decide +kernel
theorem dX0_isMet_74 : decode cX0_isMet 74 = .ok (.goto 30, 3) := by decide +kernel
theorem dX0_isMet_77 : decode cX0_isMet 77 = .ok (.iload_n 3, 1) := by decide +kernel
theorem dX0_isMet_78 : decode cX0_isMet 78 = .ok (.iconst 2, 1) := by decide +kernel
theorem dX0_isMet_79 : decode cX0_isMet 79 = .ok (.if_icmp .lt 25, 3) := by decide +kernel
theorem dX0_isMet_82 : decode cX0_isMet 82 = .ok (.iinc 3 (-1), 3) := by decide +kernel
theorem dX0_isMet_85 : decode cX0_isMet 85 = .ok (.aload_n 2, 1) := by decide +kernel
theorem dX0_isMet_86 : decode cX0_isMet 86 = .ok (.iload_n 3, 1) := by decide +kernel
theorem dX0_isMet_87 : decode cX0_isMet 87 = .ok (.iconst 1, 1) := by decide +kernel
theorem dX0_isMet_88 : decode cX0_isMet 88 = .ok (.isub, 1) := by decide +kernel
theorem dX0_isMet_89 : decode cX0_isMet 89 = .ok (.iload 5, 2) := by decide +kernel
theorem dX0_isMet_91 : decode cX0_isMet 91 = .ok (.ineg, 1) := by decide +kernel
theorem dX0_isMet_92 : decode cX0_isMet 92 = .ok (.aload_n 2, 1) := by decide +kernel
theorem dX0_isMet_93 : decode cX0_isMet 93 = .ok (.iload_n 3, 1) := by decide +kernel
theorem dX0_isMet_94 : decode cX0_isMet 94 = .ok (.iconst 1, 1) := by decide +kernel
theorem dX0_isMet_95 : decode cX0_isMet 95 = .ok (.isub, 1) := by decide +kernel
theorem dX0_isMet_96 : decode cX0_isMet 96 = .ok (.iaload, 1) := by decide +kernel
theorem dX0_isMet_97 : decode cX0_isMet 97 = .ok (.aload_n 2, 1) := by decide +kernel
theorem dX0_isMet_98 : decode cX0_isMet 98 = .ok (.iload_n 3, 1) := by decide +kernel
theorem dX0_isMet_99 : decode cX0_isMet 99 = .ok (.iaload, 1) := by decide +kernel
theorem dX0_isMet_100 : decode cX0_isMet 100 = .ok (.invokestatic 42, 3) := by decide +kernel
theorem dX0_isMet_103 : decode cX0_isMet 103 = .ok (.iastore, 1) := by decide +kernel
theorem dX0_isMet_104 : decode cX0_isMet 104 = .ok (.iinc 4 1, 3) := by decide +kernel
theorem dX0_isMet_107 : decode cX0_isMet 107 = .ok (.goto (-102), 3) := by decide +kernel
theorem dX0_isMet_110 : decode cX0_isMet 110 = .ok (.iload_n 3, 1) := by decide +kernel
theorem dX0_isMet_111 : decode cX0_isMet 111 = .ok (.iconst 1, 1) := by decide +kernel
theorem dX0_isMet_112 : decode cX0_isMet 112 = .ok (.if_icmp .ne 14, 3) := by decide +kernel
theorem dX0_isMet_115 : decode cX0_isMet 115 = .ok (.aload_n 2, 1) := by decide +kernel
theorem dX0_isMet_116 : decode cX0_isMet 116 = .ok (.iconst 0, 1) := by decide +kernel
theorem dX0_isMet_117 : decode cX0_isMet 117 = .ok (.iaload, 1) := by decide +kernel
theorem dX0_isMet_118 : decode cX0_isMet 118 = .ok (.iconst 1, 1) := by decide +kernel
theorem dX0_isMet_119 : decode cX0_isMet 119 = .ok (.if_icmp .ne 7, 3) := by decide +kernel
theorem dX0_isMet_122 : decode cX0_isMet 122 = .ok (.iconst 1, 1) := by decide +kernel
theorem dX0_isMet_123 : decode cX0_isMet 123 = .ok (.goto 4, 3) := by decide +kernel
theorem dX0_isMet_126 : decode cX0_isMet 126 = .ok (.iconst 0, 1) := by decide +kernel
theorem dX0_isMet_127 : decode cX0_isMet 127 = .ok (.ireturn, 1) := by decide +kernel
theorem dX0_valueOf_0 : decode cX0_valueOf 0 = .ok (.iload_n 0, 1) := by decide +kernel
theorem dX0_valueOf_1 : decode cX0_valueOf 1 = .ok (.sipush 10000, 3) := by decide +kernel
theorem dX0_valueOf_4 : decode cX0_valueOf 4 = .ok (.isub, 1) := by decide +kernel
theorem dX0_valueOf_5 : decode cX0_valueOf 5 = .ok (.istore_n 2, 1) := by decide +kernel
theorem dX0_valueOf_6 : decode cX0_valueOf 6 = .ok (.iload_n 2, 1) := by decide +kernel
theorem dX0_valueOf_7 : decode cX0_valueOf 7 = .ok (.ifCond .lt 15, 3) := by decide +kernel
theorem dX0_valueOf_10 : decode cX0_valueOf 10 = .ok (.iload_n 2, 1) := by decide +kernel
theorem dX0_valueOf_11 : decode cX0_valueOf 11 = .ok (.aload_n 1, 1) := by decide +kernel
theorem dX0_valueOf_12 : decode cX0_valueOf 12 = .ok (.arraylength, 1) := by decide +kernel
theorem dX0_valueOf_13 : decode cX0_valueOf 13 = .ok (.if_icmp .ge 9, 3) := by decide +kernel
theorem dX0_valueOf_16 : decode cX0_valueOf 16 = .ok (.aload_n 1, 1) := by decide +kernel
theorem dX0_valueOf_17 : decode cX0_valueOf 17 = .ok (.iload_n 2, 1) := by decide +kernel
theorem dX0_valueOf_18 : decode cX0_valueOf 18 = .ok (.iaload, 1) := by decide +kernel
theorem dX0_valueOf_19 : decode cX0_valueOf 19 = .ok (.goto 4, 3) := by decide +kernel
theorem dX0_valueOf_22 : decode cX0_valueOf 22 = .ok (.iload_n 0, 1) := by decide +kernel
theorem dX0_valueOf_23 : decode cX0_valueOf 23 = .ok (.ireturn, 1) := by decide +kernel
theorem dX0_joined_0 : decode cX0_joined 0 = .ok (.iload_n 0, 1) := by decide +kernel
theorem dX0_joined_1 : decode cX0_joined 1 = .ok (.lookupswitch 104 #[(38, 100), (43, 59), (45, 63), (60, 67), (61, 89), (62, 78)], 59) := by decide +kernel
theorem dX0_joined_60 : decode cX0_joined 60 = .ok (.iload_n 1, 1) := by decide +kernel
theorem dX0_joined_61 : decode cX0_joined 61 = .ok (.iload_n 2, 1) := by decide +kernel
theorem dX0_joined_62 : decode cX0_joined 62 = .ok (.iadd, 1) := by decide +kernel
theorem dX0_joined_63 : decode cX0_joined 63 = .ok (.ireturn, 1) := by decide +kernel
theorem dX0_joined_64 : decode cX0_joined 64 = .ok (.iload_n 1, 1) := by decide +kernel
theorem dX0_joined_65 : decode cX0_joined 65 = .ok (.iload_n 2, 1) := by decide +kernel
theorem dX0_joined_66 : decode cX0_joined 66 = .ok (.isub, 1) := by decide +kernel
theorem dX0_joined_67 : decode cX0_joined 67 = .ok (.ireturn, 1) := by decide +kernel
theorem dX0_joined_68 : decode cX0_joined 68 = .ok (.iload_n 1, 1) := by decide +kernel
theorem dX0_joined_69 : decode cX0_joined 69 = .ok (.iload_n 2, 1) := by decide +kernel
theorem dX0_joined_70 : decode cX0_joined 70 = .ok (.if_icmp .ge 7, 3) := by decide +kernel
theorem dX0_joined_73 : decode cX0_joined 73 = .ok (.iconst 1, 1) := by decide +kernel
theorem dX0_joined_74 : decode cX0_joined 74 = .ok (.goto 4, 3) := by decide +kernel
theorem dX0_joined_77 : decode cX0_joined 77 = .ok (.iconst 0, 1) := by decide +kernel
theorem dX0_joined_78 : decode cX0_joined 78 = .ok (.ireturn, 1) := by decide +kernel
theorem dX0_joined_79 : decode cX0_joined 79 = .ok (.iload_n 1, 1) := by decide +kernel
theorem dX0_joined_80 : decode cX0_joined 80 = .ok (.iload_n 2, 1) := by decide +kernel
theorem dX0_joined_81 : decode cX0_joined 81 = .ok (.if_icmp .le 7, 3) := by decide +kernel
theorem dX0_joined_84 : decode cX0_joined 84 = .ok (.iconst 1, 1) := by decide +kernel
theorem dX0_joined_85 : decode cX0_joined 85 = .ok (.goto 4, 3) := by decide +kernel
theorem dX0_joined_88 : decode cX0_joined 88 = .ok (.iconst 0, 1) := by decide +kernel
theorem dX0_joined_89 : decode cX0_joined 89 = .ok (.ireturn, 1) := by decide +kernel
theorem dX0_joined_90 : decode cX0_joined 90 = .ok (.iload_n 1, 1) := by decide +kernel
theorem dX0_joined_91 : decode cX0_joined 91 = .ok (.iload_n 2, 1) := by decide +kernel
theorem dX0_joined_92 : decode cX0_joined 92 = .ok (.if_icmp .ne 7, 3) := by decide +kernel
theorem dX0_joined_95 : decode cX0_joined 95 = .ok (.iconst 1, 1) := by decide +kernel
theorem dX0_joined_96 : decode cX0_joined 96 = .ok (.goto 4, 3) := by decide +kernel
theorem dX0_joined_99 : decode cX0_joined 99 = .ok (.iconst 0, 1) := by decide +kernel
theorem dX0_joined_100 : decode cX0_joined 100 = .ok (.ireturn, 1) := by decide +kernel
theorem dX0_joined_101 : decode cX0_joined 101 = .ok (.iload_n 1, 1) := by decide +kernel
theorem dX0_joined_102 : decode cX0_joined 102 = .ok (.iload_n 2, 1) := by decide +kernel
theorem dX0_joined_103 : decode cX0_joined 103 = .ok (.iand, 1) := by decide +kernel
theorem dX0_joined_104 : decode cX0_joined 104 = .ok (.ireturn, 1) := by decide +kernel
theorem dX0_joined_105 : decode cX0_joined 105 = .ok (.iload_n 1, 1) := by decide +kernel
theorem dX0_joined_106 : decode cX0_joined 106 = .ok (.iload_n 2, 1) := by decide +kernel
theorem dX0_joined_107 : decode cX0_joined 107 = .ok (.ior, 1) := by decide +kernel
theorem dX0_joined_108 : decode cX0_joined 108 = .ok (.ireturn, 1) := by decide +kernel
theorem dX1_init_0 : decode cX1_init 0 = .ok (.aload_n 0, 1) := by decide +kernel
theorem dX1_init_1 : decode cX1_init 1 = .ok (.invokespecial 3, 3) := by decide +kernel
theorem dX1_init_4 : decode cX1_init 4 = .ok (.aload_n 0, 1) := by decide +kernel
theorem dX1_init_5 : decode cX1_init 5 = .ok (.bipush 16, 2) := by decide +kernel
theorem dX1_init_7 : decode cX1_init 7 = .ok (.anewarray 9, 3) := by decide +kernel
theorem dX1_init_10 : decode cX1_init 10 = .ok (.putfield 11, 3) := by decide +kernel
theorem dX1_init_13 : decode cX1_init 13 = .ok (.aload_n 0, 1) := by decide +kernel
theorem dX1_init_14 : decode cX1_init 14 = .ok (.bipush 16, 2) := by decide +kernel
theorem dX1_init_16 : decode cX1_init 16 = .ok (.newarray .int, 2) := by decide +kernel
theorem dX1_init_18 : decode cX1_init 18 = .ok (.putfield 17, 3) := by decide +kernel
theorem dX1_init_21 : decode cX1_init 21 = .ok (.return_, 1) := by decide +kernel
theorem dX1_has_0 : decode cX1_has 0 = .ok (.iload_n 1, 1) := by decide +kernel
theorem dX1_has_1 : decode cX1_has 1 = .ok (.ifCond .lt 15, 3) := by decide +kernel
theorem dX1_has_4 : decode cX1_has 4 = .ok (.iload_n 1, 1) := by decide +kernel
theorem dX1_has_5 : decode cX1_has 5 = .ok (.aload_n 0, 1) := by decide +kernel
theorem dX1_has_6 : decode cX1_has 6 = .ok (.getfield 21, 3) := by decide +kernel
theorem dX1_has_9 : decode cX1_has 9 = .ok (.if_icmp .ge 7, 3) := by decide +kernel
theorem dX1_has_12 : decode cX1_has 12 = .ok (.iconst 1, 1) := by decide +kernel
theorem dX1_has_13 : decode cX1_has 13 = .ok (.goto 4, 3) := by decide +kernel
theorem dX1_has_16 : decode cX1_has 16 = .ok (.iconst 0, 1) := by decide +kernel
theorem dX1_has_17 : decode cX1_has 17 = .ok (.ireturn, 1) := by decide +kernel
theorem dX1_tell_0 : decode cX1_tell 0 = .ok (.aload_n 0, 1) := by decide +kernel
theorem dX1_tell_1 : decode cX1_tell 1 = .ok (.getfield 11, 3) := by decide +kernel
theorem dX1_tell_4 : decode cX1_tell 4 = .ok (.aload_n 0, 1) := by decide +kernel
theorem dX1_tell_5 : decode cX1_tell 5 = .ok (.getfield 21, 3) := by decide +kernel
theorem dX1_tell_8 : decode cX1_tell 8 = .ok (.aload_n 1, 1) := by decide +kernel
theorem dX1_tell_9 : decode cX1_tell 9 = .ok (.aastore, 1) := by decide +kernel
theorem dX1_tell_10 : decode cX1_tell 10 = .ok (.aload_n 0, 1) := by decide +kernel
theorem dX1_tell_11 : decode cX1_tell 11 = .ok (.getfield 17, 3) := by decide +kernel
theorem dX1_tell_14 : decode cX1_tell 14 = .ok (.aload_n 0, 1) := by decide +kernel
theorem dX1_tell_15 : decode cX1_tell 15 = .ok (.getfield 21, 3) := by decide +kernel
theorem dX1_tell_18 : decode cX1_tell 18 = .ok (.sipush 401, 3) := by decide +kernel
theorem dX1_tell_21 : decode cX1_tell 21 = .ok (.iastore, 1) := by decide +kernel
theorem dX1_tell_22 : decode cX1_tell 22 = .ok (.aload_n 0, 1) := by decide +kernel
theorem dX1_tell_23 : decode cX1_tell 23 = .ok (.dup, 1) := by decide +kernel
theorem dX1_tell_24 : decode cX1_tell 24 = .ok (.getfield 21, 3) := by decide +kernel
theorem dX1_tell_27 : decode cX1_tell 27 = .ok (.iconst 1, 1) := by decide +kernel
theorem dX1_tell_28 : decode cX1_tell 28 = .ok (.iadd, 1) := by decide +kernel
theorem dX1_tell_29 : decode cX1_tell 29 = .ok (.putfield 21, 3) := by decide +kernel
theorem dX1_tell_32 : decode cX1_tell 32 = .ok (.aload_n 0, 1) := by decide +kernel
theorem dX1_tell_33 : decode cX1_tell 33 = .ok (.getfield 21, 3) := by decide +kernel
theorem dX1_tell_36 : decode cX1_tell 36 = .ok (.iconst 1, 1) := by decide +kernel
theorem dX1_tell_37 : decode cX1_tell 37 = .ok (.isub, 1) := by decide +kernel
theorem dX1_tell_38 : decode cX1_tell 38 = .ok (.ireturn, 1) := by decide +kernel
theorem dX1_meets_0 : decode cX1_meets 0 = .ok (.aload_n 0, 1) := by decide +kernel
theorem dX1_meets_1 : decode cX1_meets 1 = .ok (.iload_n 1, 1) := by decide +kernel
theorem dX1_meets_2 : decode cX1_meets 2 = .ok (.invokevirtual 25, 3) := by decide +kernel
theorem dX1_meets_5 : decode cX1_meets 5 = .ok (.ifCond .eq 12, 3) := by decide +kernel
theorem dX1_meets_8 : decode cX1_meets 8 = .ok (.aload_n 0, 1) := by decide +kernel
theorem dX1_meets_9 : decode cX1_meets 9 = .ok (.getfield 11, 3) := by decide +kernel
theorem dX1_meets_12 : decode cX1_meets 12 = .ok (.iload_n 1, 1) := by decide +kernel
theorem dX1_meets_13 : decode cX1_meets 13 = .ok (.aaload, 1) := by decide +kernel
theorem dX1_meets_14 : decode cX1_meets 14 = .ok (.goto 4, 3) := by decide +kernel
theorem dX1_meets_17 : decode cX1_meets 17 = .ok (.aconst_null, 1) := by decide +kernel
theorem dX1_meets_18 : decode cX1_meets 18 = .ok (.astore 4, 2) := by decide +kernel
theorem dX1_meets_20 : decode cX1_meets 20 = .ok (.aload 4, 2) := by decide +kernel
theorem dX1_meets_22 : decode cX1_meets 22 = .ok (.ifnull 17, 3) := by decide +kernel
theorem dX1_meets_25 : decode cX1_meets 25 = .ok (.aload 4, 2) := by decide +kernel
theorem dX1_meets_27 : decode cX1_meets 27 = .ok (.aload_n 2, 1) := by decide +kernel
theorem dX1_meets_28 : decode cX1_meets 28 = .ok (.aload_n 3, 1) := by decide +kernel
theorem dX1_meets_29 : decode cX1_meets 29 = .ok (.invokevirtual 29, 3) := by decide +kernel
theorem dX1_meets_32 : decode cX1_meets 32 = .ok (.ifCond .eq 7, 3) := by decide +kernel
theorem dX1_meets_35 : decode cX1_meets 35 = .ok (.iconst 1, 1) := by decide +kernel
theorem dX1_meets_36 : decode cX1_meets 36 = .ok (.goto 4, 3) := by decide +kernel
theorem dX1_meets_39 : decode cX1_meets 39 = .ok (.iconst 0, 1) := by decide +kernel
theorem dX1_meets_40 : decode cX1_meets 40 = .ok (.ireturn, 1) := by decide +kernel
theorem dX1_couldBeInForce_0 : decode cX1_couldBeInForce 0 = .ok (.aload_n 0, 1) := by decide +kernel
theorem dX1_couldBeInForce_1 : decode cX1_couldBeInForce 1 = .ok (.iload_n 1, 1) := by decide +kernel
theorem dX1_couldBeInForce_2 : decode cX1_couldBeInForce 2 = .ok (.invokevirtual 25, 3) := by decide +kernel
theorem dX1_couldBeInForce_5 : decode cX1_couldBeInForce 5 = .ok (.ifCond .eq 12, 3) := by decide +kernel
theorem dX1_couldBeInForce_8 : decode cX1_couldBeInForce 8 = .ok (.aload_n 0, 1) := by decide +kernel
theorem dX1_couldBeInForce_9 : decode cX1_couldBeInForce 9 = .ok (.getfield 11, 3) := by decide +kernel
theorem dX1_couldBeInForce_12 : decode cX1_couldBeInForce 12 = .ok (.iload_n 1, 1) := by decide +kernel
theorem dX1_couldBeInForce_13 : decode cX1_couldBeInForce 13 = .ok (.aaload, 1) := by decide +kernel
theorem dX1_couldBeInForce_14 : decode cX1_couldBeInForce 14 = .ok (.goto 4, 3) := by decide +kernel
theorem dX1_couldBeInForce_17 : decode cX1_couldBeInForce 17 = .ok (.aconst_null, 1) := by decide +kernel
theorem dX1_couldBeInForce_18 : decode cX1_couldBeInForce 18 = .ok (.astore 5, 2) := by decide +kernel
theorem dX1_couldBeInForce_20 : decode cX1_couldBeInForce 20 = .ok (.aload 5, 2) := by decide +kernel
theorem dX1_couldBeInForce_22 : decode cX1_couldBeInForce 22 = .ok (.ifnull 55, 3) := by decide +kernel
theorem dX1_couldBeInForce_25 : decode cX1_couldBeInForce 25 = .ok (.aload 5, 2) := by decide +kernel
theorem dX1_couldBeInForce_27 : decode cX1_couldBeInForce 27 = .ok (.getfield 33, 3) := by decide +kernel
theorem dX1_couldBeInForce_30 : decode cX1_couldBeInForce 30 = .ok (.iload_n 2, 1) := by decide +kernel
theorem dX1_couldBeInForce_31 : decode cX1_couldBeInForce 31 = .ok (.if_icmp .ne 46, 3) := by decide +kernel
theorem dX1_couldBeInForce_34 : decode cX1_couldBeInForce 34 = .ok (.aload 5, 2) := by decide +kernel
theorem dX1_couldBeInForce_36 : decode cX1_couldBeInForce 36 = .ok (.getfield 36, 3) := by decide +kernel
theorem dX1_couldBeInForce_39 : decode cX1_couldBeInForce 39 = .ok (.iconst (-1), 1) := by decide +kernel
theorem dX1_couldBeInForce_40 : decode cX1_couldBeInForce 40 = .ok (.if_icmp .eq 12, 3) := by decide +kernel
theorem dX1_couldBeInForce_43 : decode cX1_couldBeInForce 43 = .ok (.aload 5, 2) := by decide +kernel
theorem dX1_couldBeInForce_45 : decode cX1_couldBeInForce 45 = .ok (.getfield 36, 3) := by decide +kernel
theorem dX1_couldBeInForce_48 : decode cX1_couldBeInForce 48 = .ok (.iload_n 3, 1) := by decide +kernel
theorem dX1_couldBeInForce_49 : decode cX1_couldBeInForce 49 = .ok (.if_icmp .ne 28, 3) := by decide +kernel
theorem dX1_couldBeInForce_52 : decode cX1_couldBeInForce 52 = .ok (.aload 5, 2) := by decide +kernel
theorem dX1_couldBeInForce_54 : decode cX1_couldBeInForce 54 = .ok (.getfield 39, 3) := by decide +kernel
theorem dX1_couldBeInForce_57 : decode cX1_couldBeInForce 57 = .ok (.iload 4, 2) := by decide +kernel
theorem dX1_couldBeInForce_59 : decode cX1_couldBeInForce 59 = .ok (.if_icmp .gt 18, 3) := by decide +kernel
theorem dX1_couldBeInForce_62 : decode cX1_couldBeInForce 62 = .ok (.iload 4, 2) := by decide +kernel
theorem dX1_couldBeInForce_64 : decode cX1_couldBeInForce 64 = .ok (.aload_n 0, 1) := by decide +kernel
theorem dX1_couldBeInForce_65 : decode cX1_couldBeInForce 65 = .ok (.getfield 17, 3) := by decide +kernel
theorem dX1_couldBeInForce_68 : decode cX1_couldBeInForce 68 = .ok (.iload_n 1, 1) := by decide +kernel
theorem dX1_couldBeInForce_69 : decode cX1_couldBeInForce 69 = .ok (.iaload, 1) := by decide +kernel
theorem dX1_couldBeInForce_70 : decode cX1_couldBeInForce 70 = .ok (.if_icmp .ge 7, 3) := by decide +kernel
theorem dX1_couldBeInForce_73 : decode cX1_couldBeInForce 73 = .ok (.iconst 1, 1) := by decide +kernel
theorem dX1_couldBeInForce_74 : decode cX1_couldBeInForce 74 = .ok (.goto 4, 3) := by decide +kernel
theorem dX1_couldBeInForce_77 : decode cX1_couldBeInForce 77 = .ok (.iconst 0, 1) := by decide +kernel
theorem dX1_couldBeInForce_78 : decode cX1_couldBeInForce 78 = .ok (.ireturn, 1) := by decide +kernel
theorem dX1_inForce_0 : decode cX1_inForce 0 = .ok (.iconst (-1), 1) := by decide +kernel
theorem dX1_inForce_1 : decode cX1_inForce 1 = .ok (.istore 4, 2) := by decide +kernel
theorem dX1_inForce_3 : decode cX1_inForce 3 = .ok (.iconst 0, 1) := by decide +kernel
theorem dX1_inForce_4 : decode cX1_inForce 4 = .ok (.istore 5, 2) := by decide +kernel
theorem dX1_inForce_6 : decode cX1_inForce 6 = .ok (.iconst 0, 1) := by decide +kernel
theorem dX1_inForce_7 : decode cX1_inForce 7 = .ok (.istore 6, 2) := by decide +kernel
theorem dX1_inForce_9 : decode cX1_inForce 9 = .ok (.iload 6, 2) := by decide +kernel
theorem dX1_inForce_11 : decode cX1_inForce 11 = .ok (.aload_n 0, 1) := by decide +kernel
theorem dX1_inForce_12 : decode cX1_inForce 12 = .ok (.getfield 21, 3) := by decide +kernel
theorem dX1_inForce_15 : decode cX1_inForce 15 = .ok (.if_icmp .ge 56, 3) := by decide +kernel
theorem dX1_inForce_18 : decode cX1_inForce 18 = .ok (.aload_n 0, 1) := by decide +kernel
theorem dX1_inForce_19 : decode cX1_inForce 19 = .ok (.getfield 11, 3) := by decide +kernel
theorem dX1_inForce_22 : decode cX1_inForce 22 = .ok (.iload 6, 2) := by decide +kernel
theorem dX1_inForce_24 : decode cX1_inForce 24 = .ok (.aaload, 1) := by decide +kernel
theorem dX1_inForce_25 : decode cX1_inForce 25 = .ok (.astore 7, 2) := by decide +kernel
theorem dX1_inForce_27 : decode cX1_inForce 27 = .ok (.aload 7, 2) := by decide +kernel
theorem dX1_inForce_29 : decode cX1_inForce 29 = .ok (.ifnull 36, 3) := by decide +kernel
theorem dX1_inForce_32 : decode cX1_inForce 32 = .ok (.aload_n 0, 1) := by decide +kernel
theorem dX1_inForce_33 : decode cX1_inForce 33 = .ok (.iload 6, 2) := by decide +kernel
theorem dX1_inForce_35 : decode cX1_inForce 35 = .ok (.iload_n 1, 1) := by decide +kernel
theorem dX1_inForce_36 : decode cX1_inForce 36 = .ok (.iload_n 2, 1) := by decide +kernel
theorem dX1_inForce_37 : decode cX1_inForce 37 = .ok (.iload_n 3, 1) := by decide +kernel
theorem dX1_inForce_38 : decode cX1_inForce 38 = .ok (.invokevirtual 42, 3) := by decide +kernel
theorem dX1_inForce_41 : decode cX1_inForce 41 = .ok (.ifCond .eq 24, 3) := by decide +kernel
theorem dX1_inForce_44 : decode cX1_inForce 44 = .ok (.aload 7, 2) := by decide +kernel
theorem dX1_inForce_46 : decode cX1_inForce 46 = .ok (.getfield 39, 3) := by decide +kernel
theorem dX1_inForce_49 : decode cX1_inForce 49 = .ok (.iload 5, 2) := by decide +kernel
theorem dX1_inForce_51 : decode cX1_inForce 51 = .ok (.if_icmp .lt 14, 3) := by decide +kernel
theorem dX1_inForce_54 : decode cX1_inForce 54 = .ok (.iload 6, 2) := by decide +kernel
theorem dX1_inForce_56 : decode cX1_inForce 56 = .ok (.istore 4, 2) := by decide +kernel
theorem dX1_inForce_58 : decode cX1_inForce 58 = .ok (.aload 7, 2) := by decide +kernel
theorem dX1_inForce_60 : decode cX1_inForce 60 = .ok (.getfield 39, 3) := by decide +kernel
theorem dX1_inForce_63 : decode cX1_inForce 63 = .ok (.istore 5, 2) := by decide +kernel
theorem dX1_inForce_65 : decode cX1_inForce 65 = .ok (.iinc 6 1, 3) := by decide +kernel
theorem dX1_inForce_68 : decode cX1_inForce 68 = .ok (.goto (-59), 3) := by decide +kernel
theorem dX1_inForce_71 : decode cX1_inForce 71 = .ok (.iload 4, 2) := by decide +kernel
theorem dX1_inForce_73 : decode cX1_inForce 73 = .ok (.ireturn, 1) := by decide +kernel
theorem dX1_copyFrom_0 : decode cX1_copyFrom 0 = .ok (.aload_n 0, 1) := by decide +kernel
theorem dX1_copyFrom_1 : decode cX1_copyFrom 1 = .ok (.aload_n 1, 1) := by decide +kernel
theorem dX1_copyFrom_2 : decode cX1_copyFrom 2 = .ok (.getfield 21, 3) := by decide +kernel
theorem dX1_copyFrom_5 : decode cX1_copyFrom 5 = .ok (.putfield 21, 3) := by decide +kernel
theorem dX1_copyFrom_8 : decode cX1_copyFrom 8 = .ok (.iconst 0, 1) := by decide +kernel
theorem dX1_copyFrom_9 : decode cX1_copyFrom 9 = .ok (.istore_n 2, 1) := by decide +kernel
theorem dX1_copyFrom_10 : decode cX1_copyFrom 10 = .ok (.iload_n 2, 1) := by decide +kernel
theorem dX1_copyFrom_11 : decode cX1_copyFrom 11 = .ok (.bipush 16, 2) := by decide +kernel
theorem dX1_copyFrom_13 : decode cX1_copyFrom 13 = .ok (.if_icmp .ge 21, 3) := by decide +kernel
theorem dX1_copyFrom_16 : decode cX1_copyFrom 16 = .ok (.aload_n 0, 1) := by decide +kernel
theorem dX1_copyFrom_17 : decode cX1_copyFrom 17 = .ok (.getfield 11, 3) := by decide +kernel
theorem dX1_copyFrom_20 : decode cX1_copyFrom 20 = .ok (.iload_n 2, 1) := by decide +kernel
theorem dX1_copyFrom_21 : decode cX1_copyFrom 21 = .ok (.aload_n 1, 1) := by decide +kernel
theorem dX1_copyFrom_22 : decode cX1_copyFrom 22 = .ok (.getfield 11, 3) := by decide +kernel
theorem dX1_copyFrom_25 : decode cX1_copyFrom 25 = .ok (.iload_n 2, 1) := by decide +kernel
theorem dX1_copyFrom_26 : decode cX1_copyFrom 26 = .ok (.aaload, 1) := by decide +kernel
theorem dX1_copyFrom_27 : decode cX1_copyFrom 27 = .ok (.aastore, 1) := by decide +kernel
theorem dX1_copyFrom_28 : decode cX1_copyFrom 28 = .ok (.iinc 2 1, 3) := by decide +kernel
theorem dX1_copyFrom_31 : decode cX1_copyFrom 31 = .ok (.goto (-21), 3) := by decide +kernel
theorem dX1_copyFrom_34 : decode cX1_copyFrom 34 = .ok (.aload_n 1, 1) := by decide +kernel
theorem dX1_copyFrom_35 : decode cX1_copyFrom 35 = .ok (.getfield 17, 3) := by decide +kernel
theorem dX1_copyFrom_38 : decode cX1_copyFrom 38 = .ok (.aload_n 0, 1) := by decide +kernel
theorem dX1_copyFrom_39 : decode cX1_copyFrom 39 = .ok (.getfield 17, 3) := by decide +kernel
theorem dX1_copyFrom_42 : decode cX1_copyFrom 42 = .ok (.invokestatic 46, 3) := by decide +kernel
theorem dX1_copyFrom_45 : decode cX1_copyFrom 45 = .ok (.return_, 1) := by decide +kernel
theorem dX2_init_0 : decode cX2_init 0 = .ok (.aload_n 0, 1) := by decide +kernel
theorem dX2_init_1 : decode cX2_init 1 = .ok (.invokespecial 3, 3) := by decide +kernel
theorem dX2_init_4 : decode cX2_init 4 = .ok (.aload_n 0, 1) := by decide +kernel
theorem dX2_init_5 : decode cX2_init 5 = .ok (.bipush 80, 2) := by decide +kernel
theorem dX2_init_7 : decode cX2_init 7 = .ok (.newarray .int, 2) := by decide +kernel
theorem dX2_init_9 : decode cX2_init 9 = .ok (.putfield 9, 3) := by decide +kernel
theorem dX2_init_12 : decode cX2_init 12 = .ok (.aload_n 0, 1) := by decide +kernel
theorem dX2_init_13 : decode cX2_init 13 = .ok (.iconst 0, 1) := by decide +kernel
theorem dX2_init_14 : decode cX2_init 14 = .ok (.newarray .int, 2) := by decide +kernel
theorem dX2_init_16 : decode cX2_init 16 = .ok (.putfield 15, 3) := by decide +kernel
theorem dX2_init_19 : decode cX2_init 19 = .ok (.return_, 1) := by decide +kernel
theorem dX2_firstFault_0 : decode cX2_firstFault 0 = .ok (.aload_n 0, 1) := by decide +kernel
theorem dX2_firstFault_1 : decode cX2_firstFault 1 = .ok (.aload_n 1, 1) := by decide +kernel
theorem dX2_firstFault_2 : decode cX2_firstFault 2 = .ok (.getfield 18, 3) := by decide +kernel
theorem dX2_firstFault_5 : decode cX2_firstFault 5 = .ok (.putfield 15, 3) := by decide +kernel
theorem dX2_firstFault_8 : decode cX2_firstFault 8 = .ok (.aload_n 0, 1) := by decide +kernel
theorem dX2_firstFault_9 : decode cX2_firstFault 9 = .ok (.aload_n 1, 1) := by decide +kernel
theorem dX2_firstFault_10 : decode cX2_firstFault 10 = .ok (.getfield 23, 3) := by decide +kernel
theorem dX2_firstFault_13 : decode cX2_firstFault 13 = .ok (.aload_n 0, 1) := by decide +kernel
theorem dX2_firstFault_14 : decode cX2_firstFault 14 = .ok (.getfield 15, 3) := by decide +kernel
theorem dX2_firstFault_17 : decode cX2_firstFault 17 = .ok (.arraylength, 1) := by decide +kernel
theorem dX2_firstFault_18 : decode cX2_firstFault 18 = .ok (.invokestatic 27, 3) := by decide +kernel
theorem dX2_firstFault_21 : decode cX2_firstFault 21 = .ok (.putfield 33, 3) := by decide +kernel
theorem dX2_firstFault_24 : decode cX2_firstFault 24 = .ok (.aload_n 0, 1) := by decide +kernel
theorem dX2_firstFault_25 : decode cX2_firstFault 25 = .ok (.iconst 0, 1) := by decide +kernel
theorem dX2_firstFault_26 : decode cX2_firstFault 26 = .ok (.putfield 34, 3) := by decide +kernel
theorem dX2_firstFault_29 : decode cX2_firstFault 29 = .ok (.aload_n 0, 1) := by decide +kernel
theorem dX2_firstFault_30 : decode cX2_firstFault 30 = .ok (.iconst (-1), 1) := by decide +kernel
theorem dX2_firstFault_31 : decode cX2_firstFault 31 = .ok (.putfield 37, 3) := by decide +kernel
theorem dX2_firstFault_34 : decode cX2_firstFault 34 = .ok (.aload_n 0, 1) := by decide +kernel
theorem dX2_firstFault_35 : decode cX2_firstFault 35 = .ok (.iconst 0, 1) := by decide +kernel
theorem dX2_firstFault_36 : decode cX2_firstFault 36 = .ok (.putfield 40, 3) := by decide +kernel
theorem dX2_firstFault_39 : decode cX2_firstFault 39 = .ok (.aload_n 0, 1) := by decide +kernel
theorem dX2_firstFault_40 : decode cX2_firstFault 40 = .ok (.aload_n 0, 1) := by decide +kernel
theorem dX2_firstFault_41 : decode cX2_firstFault 41 = .ok (.invokevirtual 43, 3) := by decide +kernel
theorem dX2_firstFault_44 : decode cX2_firstFault 44 = .ok (.ldc 47, 2) := by decide +kernel
theorem dX2_firstFault_46 : decode cX2_firstFault 46 = .ok (.invokestatic 49, 3) := by decide +kernel
theorem dX2_firstFault_49 : decode cX2_firstFault 49 = .ok (.putfield 53, 3) := by decide +kernel
theorem dX2_firstFault_52 : decode cX2_firstFault 52 = .ok (.aload_n 0, 1) := by decide +kernel
theorem dX2_firstFault_53 : decode cX2_firstFault 53 = .ok (.getfield 53, 3) := by decide +kernel
theorem dX2_firstFault_56 : decode cX2_firstFault 56 = .ok (.ifCond .ge 5, 3) := by decide +kernel
theorem dX2_firstFault_59 : decode cX2_firstFault 59 = .ok (.iconst 0, 1) := by decide +kernel
theorem dX2_firstFault_60 : decode cX2_firstFault 60 = .ok (.ireturn, 1) := by decide +kernel
theorem dX2_firstFault_61 : decode cX2_firstFault 61 = .ok (.aload_n 0, 1) := by decide +kernel
theorem dX2_firstFault_62 : decode cX2_firstFault 62 = .ok (.dup, 1) := by decide +kernel
theorem dX2_firstFault_63 : decode cX2_firstFault 63 = .ok (.getfield 34, 3) := by decide +kernel
theorem dX2_firstFault_66 : decode cX2_firstFault 66 = .ok (.iconst 1, 1) := by decide +kernel
theorem dX2_firstFault_67 : decode cX2_firstFault 67 = .ok (.iadd, 1) := by decide +kernel
theorem dX2_firstFault_68 : decode cX2_firstFault 68 = .ok (.putfield 34, 3) := by decide +kernel
theorem dX2_firstFault_71 : decode cX2_firstFault 71 = .ok (.aload_n 0, 1) := by decide +kernel
theorem dX2_firstFault_72 : decode cX2_firstFault 72 = .ok (.bipush 58, 2) := by decide +kernel
theorem dX2_firstFault_74 : decode cX2_firstFault 74 = .ok (.invokevirtual 56, 3) := by decide +kernel
theorem dX2_firstFault_77 : decode cX2_firstFault 77 = .ok (.aload_n 0, 1) := by decide +kernel
theorem dX2_firstFault_78 : decode cX2_firstFault 78 = .ok (.iconst 0, 1) := by decide +kernel
theorem dX2_firstFault_79 : decode cX2_firstFault 79 = .ok (.invokevirtual 60, 3) := by decide +kernel
theorem dX2_firstFault_82 : decode cX2_firstFault 82 = .ok (.aload_n 0, 1) := by decide +kernel
theorem dX2_firstFault_83 : decode cX2_firstFault 83 = .ok (.getfield 37, 3) := by decide +kernel
theorem dX2_firstFault_86 : decode cX2_firstFault 86 = .ok (.ifCond .ge 39, 3) := by decide +kernel
theorem dX2_firstFault_89 : decode cX2_firstFault 89 = .ok (.aload_n 0, 1) := by decide +kernel
theorem dX2_firstFault_90 : decode cX2_firstFault 90 = .ok (.invokevirtual 43, 3) := by decide +kernel
theorem dX2_firstFault_93 : decode cX2_firstFault 93 = .ok (.bipush 117, 2) := by decide +kernel
theorem dX2_firstFault_95 : decode cX2_firstFault 95 = .ok (.if_icmp .ne 30, 3) := by decide +kernel
theorem dX2_firstFault_98 : decode cX2_firstFault 98 = .ok (.aload_n 0, 1) := by decide +kernel
theorem dX2_firstFault_99 : decode cX2_firstFault 99 = .ok (.dup, 1) := by decide +kernel
theorem dX2_firstFault_100 : decode cX2_firstFault 100 = .ok (.getfield 34, 3) := by decide +kernel
theorem dX2_firstFault_103 : decode cX2_firstFault 103 = .ok (.iconst 1, 1) := by decide +kernel
theorem dX2_firstFault_104 : decode cX2_firstFault 104 = .ok (.iadd, 1) := by decide +kernel
theorem dX2_firstFault_105 : decode cX2_firstFault 105 = .ok (.putfield 34, 3) := by decide +kernel
theorem dX2_firstFault_108 : decode cX2_firstFault 108 = .ok (.aload_n 0, 1) := by decide +kernel
theorem dX2_firstFault_109 : decode cX2_firstFault 109 = .ok (.iconst 0, 1) := by decide +kernel
theorem dX2_firstFault_110 : decode cX2_firstFault 110 = .ok (.invokevirtual 60, 3) := by decide +kernel
theorem dX2_firstFault_113 : decode cX2_firstFault 113 = .ok (.aload_n 0, 1) := by decide +kernel
theorem dX2_firstFault_114 : decode cX2_firstFault 114 = .ok (.bipush (-33), 2) := by decide +kernel
theorem dX2_firstFault_116 : decode cX2_firstFault 116 = .ok (.invokevirtual 63, 3) := by decide +kernel
theorem dX2_firstFault_119 : decode cX2_firstFault 119 = .ok (.aload_n 0, 1) := by decide +kernel
theorem dX2_firstFault_120 : decode cX2_firstFault 120 = .ok (.bipush (-38), 2) := by decide +kernel
theorem dX2_firstFault_122 : decode cX2_firstFault 122 = .ok (.invokevirtual 63, 3) := by decide +kernel
theorem dX2_firstFault_125 : decode cX2_firstFault 125 = .ok (.aload_n 0, 1) := by decide +kernel
theorem dX2_firstFault_126 : decode cX2_firstFault 126 = .ok (.getfield 37, 3) := by decide +kernel
theorem dX2_firstFault_129 : decode cX2_firstFault 129 = .ok (.ifCond .ge 21, 3) := by decide +kernel
theorem dX2_firstFault_132 : decode cX2_firstFault 132 = .ok (.aload_n 0, 1) := by decide +kernel
theorem dX2_firstFault_133 : decode cX2_firstFault 133 = .ok (.getfield 34, 3) := by decide +kernel
theorem dX2_firstFault_136 : decode cX2_firstFault 136 = .ok (.aload_n 0, 1) := by decide +kernel
theorem dX2_firstFault_137 : decode cX2_firstFault 137 = .ok (.getfield 33, 3) := by decide +kernel
theorem dX2_firstFault_140 : decode cX2_firstFault 140 = .ok (.if_icmp .ge 10, 3) := by decide +kernel
theorem dX2_firstFault_143 : decode cX2_firstFault 143 = .ok (.aload_n 0, 1) := by decide +kernel
theorem dX2_firstFault_144 : decode cX2_firstFault 144 = .ok (.getfield 34, 3) := by decide +kernel
theorem dX2_firstFault_147 : decode cX2_firstFault 147 = .ok (.goto 7, 3) := by decide +kernel
theorem dX2_firstFault_150 : decode cX2_firstFault 150 = .ok (.aload_n 0, 1) := by decide +kernel
theorem dX2_firstFault_151 : decode cX2_firstFault 151 = .ok (.getfield 37, 3) := by decide +kernel
theorem dX2_firstFault_154 : decode cX2_firstFault 154 = .ok (.ireturn, 1) := by decide +kernel
theorem dX2_toAct_0 : decode cX2_toAct 0 = .ok (.new 66, 3) := by decide +kernel
theorem dX2_toAct_3 : decode cX2_toAct 3 = .ok (.dup, 1) := by decide +kernel
theorem dX2_toAct_4 : decode cX2_toAct 4 = .ok (.aload_n 0, 1) := by decide +kernel
theorem dX2_toAct_5 : decode cX2_toAct 5 = .ok (.getfield 53, 3) := by decide +kernel
theorem dX2_toAct_8 : decode cX2_toAct 8 = .ok (.iload_n 1, 1) := by decide +kernel
theorem dX2_toAct_9 : decode cX2_toAct 9 = .ok (.iload_n 2, 1) := by decide +kernel
theorem dX2_toAct_10 : decode cX2_toAct 10 = .ok (.aload_n 0, 1) := by decide +kernel
theorem dX2_toAct_11 : decode cX2_toAct 11 = .ok (.getfield 9, 3) := by decide +kernel
theorem dX2_toAct_14 : decode cX2_toAct 14 = .ok (.aload_n 0, 1) := by decide +kernel
theorem dX2_toAct_15 : decode cX2_toAct 15 = .ok (.getfield 40, 3) := by decide +kernel
theorem dX2_toAct_18 : decode cX2_toAct 18 = .ok (.invokespecial 68, 3) := by decide +kernel
theorem dX2_toAct_21 : decode cX2_toAct 21 = .ok (.areturn, 1) := by decide +kernel
theorem dX2_here_0 : decode cX2_here 0 = .ok (.aload_n 0, 1) := by decide +kernel
theorem dX2_here_1 : decode cX2_here 1 = .ok (.getfield 34, 3) := by decide +kernel
theorem dX2_here_4 : decode cX2_here 4 = .ok (.ifCond .lt 26, 3) := by decide +kernel
theorem dX2_here_7 : decode cX2_here 7 = .ok (.aload_n 0, 1) := by decide +kernel
theorem dX2_here_8 : decode cX2_here 8 = .ok (.getfield 34, 3) := by decide +kernel
theorem dX2_here_11 : decode cX2_here 11 = .ok (.aload_n 0, 1) := by decide +kernel
theorem dX2_here_12 : decode cX2_here 12 = .ok (.getfield 33, 3) := by decide +kernel
theorem dX2_here_15 : decode cX2_here 15 = .ok (.if_icmp .ge 15, 3) := by decide +kernel
theorem dX2_here_18 : decode cX2_here 18 = .ok (.aload_n 0, 1) := by decide +kernel
theorem dX2_here_19 : decode cX2_here 19 = .ok (.getfield 15, 3) := by decide +kernel
theorem dX2_here_22 : decode cX2_here 22 = .ok (.aload_n 0, 1) := by decide +kernel
theorem dX2_here_23 : decode cX2_here 23 = .ok (.getfield 34, 3) := by decide +kernel
theorem dX2_here_26 : decode cX2_here 26 = .ok (.iaload, 1) := by decide +kernel
theorem dX2_here_27 : decode cX2_here 27 = .ok (.goto 6, 3) := by decide +kernel
theorem dX2_here_30 : decode cX2_here 30 = .ok (.sipush (-1000), 3) := by decide +kernel
theorem dX2_here_33 : decode cX2_here 33 = .ok (.ireturn, 1) := by decide +kernel
theorem dX2_placeOf_0 : decode cX2_placeOf 0 = .ok (.iload_n 0, 1) := by decide +kernel
theorem dX2_placeOf_1 : decode cX2_placeOf 1 = .ok (.ifCond .ge 7, 3) := by decide +kernel
theorem dX2_placeOf_4 : decode cX2_placeOf 4 = .ok (.iconst (-1), 1) := by decide +kernel
theorem dX2_placeOf_5 : decode cX2_placeOf 5 = .ok (.goto 9, 3) := by decide +kernel
theorem dX2_placeOf_8 : decode cX2_placeOf 8 = .ok (.aload_n 1, 1) := by decide +kernel
theorem dX2_placeOf_9 : decode cX2_placeOf 9 = .ok (.iload_n 0, 1) := by decide +kernel
theorem dX2_placeOf_10 : decode cX2_placeOf 10 = .ok (.i2c, 1) := by decide +kernel
theorem dX2_placeOf_11 : decode cX2_placeOf 11 = .ok (.invokevirtual 71, 3) := by decide +kernel
theorem dX2_placeOf_14 : decode cX2_placeOf 14 = .ok (.ireturn, 1) := by decide +kernel
theorem dX2_fail_0 : decode cX2_fail 0 = .ok (.aload_n 0, 1) := by decide +kernel
theorem dX2_fail_1 : decode cX2_fail 1 = .ok (.getfield 37, 3) := by decide +kernel
theorem dX2_fail_4 : decode cX2_fail 4 = .ok (.ifCond .ge 11, 3) := by decide +kernel
theorem dX2_fail_7 : decode cX2_fail 7 = .ok (.aload_n 0, 1) := by decide +kernel
theorem dX2_fail_8 : decode cX2_fail 8 = .ok (.aload_n 0, 1) := by decide +kernel
theorem dX2_fail_9 : decode cX2_fail 9 = .ok (.getfield 34, 3) := by decide +kernel
theorem dX2_fail_12 : decode cX2_fail 12 = .ok (.putfield 37, 3) := by decide +kernel
theorem dX2_fail_15 : decode cX2_fail 15 = .ok (.return_, 1) := by decide +kernel
theorem dX2_addStep_0 : decode cX2_addStep 0 = .ok (.aload_n 0, 1) := by decide +kernel
theorem dX2_addStep_1 : decode cX2_addStep 1 = .ok (.getfield 40, 3) := by decide +kernel
theorem dX2_addStep_4 : decode cX2_addStep 4 = .ok (.aload_n 0, 1) := by decide +kernel
theorem dX2_addStep_5 : decode cX2_addStep 5 = .ok (.getfield 9, 3) := by decide +kernel
theorem dX2_addStep_8 : decode cX2_addStep 8 = .ok (.arraylength, 1) := by decide +kernel
theorem dX2_addStep_9 : decode cX2_addStep 9 = .ok (.if_icmp .ge 23, 3) := by decide +kernel
theorem dX2_addStep_12 : decode cX2_addStep 12 = .ok (.aload_n 0, 1) := by decide +kernel
theorem dX2_addStep_13 : decode cX2_addStep 13 = .ok (.getfield 9, 3) := by decide +kernel
theorem dX2_addStep_16 : decode cX2_addStep 16 = .ok (.aload_n 0, 1) := by decide +kernel
theorem dX2_addStep_17 : decode cX2_addStep 17 = .ok (.getfield 40, 3) := by decide +kernel
theorem dX2_addStep_20 : decode cX2_addStep 20 = .ok (.iload_n 1, 1) := by decide +kernel
theorem dX2_addStep_21 : decode cX2_addStep 21 = .ok (.iastore, 1) := by decide +kernel
theorem dX2_addStep_22 : decode cX2_addStep 22 = .ok (.aload_n 0, 1) := by decide +kernel
theorem dX2_addStep_23 : decode cX2_addStep 23 = .ok (.dup, 1) := by decide +kernel
theorem dX2_addStep_24 : decode cX2_addStep 24 = .ok (.getfield 40, 3) := by decide +kernel
theorem dX2_addStep_27 : decode cX2_addStep 27 = .ok (.iconst 1, 1) := by decide +kernel
theorem dX2_addStep_28 : decode cX2_addStep 28 = .ok (.iadd, 1) := by decide +kernel
theorem dX2_addStep_29 : decode cX2_addStep 29 = .ok (.putfield 40, 3) := by decide +kernel
theorem dX2_addStep_32 : decode cX2_addStep 32 = .ok (.return_, 1) := by decide +kernel
theorem dX2_readSign_0 : decode cX2_readSign 0 = .ok (.aload_n 0, 1) := by decide +kernel
theorem dX2_readSign_1 : decode cX2_readSign 1 = .ok (.getfield 37, 3) := by decide +kernel
theorem dX2_readSign_4 : decode cX2_readSign 4 = .ok (.ifCond .ge 24, 3) := by decide +kernel
theorem dX2_readSign_7 : decode cX2_readSign 7 = .ok (.aload_n 0, 1) := by decide +kernel
theorem dX2_readSign_8 : decode cX2_readSign 8 = .ok (.invokevirtual 43, 3) := by decide +kernel
theorem dX2_readSign_11 : decode cX2_readSign 11 = .ok (.iload_n 1, 1) := by decide +kernel
theorem dX2_readSign_12 : decode cX2_readSign 12 = .ok (.if_icmp .ne 16, 3) := by decide +kernel
theorem dX2_readSign_15 : decode cX2_readSign 15 = .ok (.aload_n 0, 1) := by decide +kernel
theorem dX2_readSign_16 : decode cX2_readSign 16 = .ok (.dup, 1) := by decide +kernel
theorem dX2_readSign_17 : decode cX2_readSign 17 = .ok (.getfield 34, 3) := by decide +kernel
theorem dX2_readSign_20 : decode cX2_readSign 20 = .ok (.iconst 1, 1) := by decide +kernel
theorem dX2_readSign_21 : decode cX2_readSign 21 = .ok (.iadd, 1) := by decide +kernel
theorem dX2_readSign_22 : decode cX2_readSign 22 = .ok (.putfield 34, 3) := by decide +kernel
theorem dX2_readSign_25 : decode cX2_readSign 25 = .ok (.goto 7, 3) := by decide +kernel
theorem dX2_readSign_28 : decode cX2_readSign 28 = .ok (.aload_n 0, 1) := by decide +kernel
theorem dX2_readSign_29 : decode cX2_readSign 29 = .ok (.invokevirtual 77, 3) := by decide +kernel
theorem dX2_readSign_32 : decode cX2_readSign 32 = .ok (.return_, 1) := by decide +kernel
theorem dX2_readOr_0 : decode cX2_readOr 0 = .ok (.aload_n 0, 1) := by decide +kernel
theorem dX2_readOr_1 : decode cX2_readOr 1 = .ok (.iload_n 1, 1) := by decide +kernel
theorem dX2_readOr_2 : decode cX2_readOr 2 = .ok (.invokevirtual 80, 3) := by decide +kernel
theorem dX2_readOr_5 : decode cX2_readOr 5 = .ok (.iconst 0, 1) := by decide +kernel
theorem dX2_readOr_6 : decode cX2_readOr 6 = .ok (.istore_n 2, 1) := by decide +kernel
theorem dX2_readOr_7 : decode cX2_readOr 7 = .ok (.iload_n 2, 1) := by decide +kernel
theorem dX2_readOr_8 : decode cX2_readOr 8 = .ok (.aload_n 0, 1) := by decide +kernel
theorem dX2_readOr_9 : decode cX2_readOr 9 = .ok (.getfield 33, 3) := by decide +kernel
theorem dX2_readOr_12 : decode cX2_readOr 12 = .ok (.if_icmp .ge 46, 3) := by decide +kernel
theorem dX2_readOr_15 : decode cX2_readOr 15 = .ok (.aload_n 0, 1) := by decide +kernel
theorem dX2_readOr_16 : decode cX2_readOr 16 = .ok (.getfield 37, 3) := by decide +kernel
theorem dX2_readOr_19 : decode cX2_readOr 19 = .ok (.ifCond .ge 39, 3) := by decide +kernel
theorem dX2_readOr_22 : decode cX2_readOr 22 = .ok (.aload_n 0, 1) := by decide +kernel
theorem dX2_readOr_23 : decode cX2_readOr 23 = .ok (.invokevirtual 43, 3) := by decide +kernel
theorem dX2_readOr_26 : decode cX2_readOr 26 = .ok (.bipush 124, 2) := by decide +kernel
theorem dX2_readOr_28 : decode cX2_readOr 28 = .ok (.if_icmp .ne 30, 3) := by decide +kernel
theorem dX2_readOr_31 : decode cX2_readOr 31 = .ok (.aload_n 0, 1) := by decide +kernel
theorem dX2_readOr_32 : decode cX2_readOr 32 = .ok (.dup, 1) := by decide +kernel
theorem dX2_readOr_33 : decode cX2_readOr 33 = .ok (.getfield 34, 3) := by decide +kernel
theorem dX2_readOr_36 : decode cX2_readOr 36 = .ok (.iconst 1, 1) := by decide +kernel
theorem dX2_readOr_37 : decode cX2_readOr 37 = .ok (.iadd, 1) := by decide +kernel
theorem dX2_readOr_38 : decode cX2_readOr 38 = .ok (.putfield 34, 3) := by decide +kernel
theorem dX2_readOr_41 : decode cX2_readOr 41 = .ok (.aload_n 0, 1) := by decide +kernel
theorem dX2_readOr_42 : decode cX2_readOr 42 = .ok (.iload_n 1, 1) := by decide +kernel
theorem dX2_readOr_43 : decode cX2_readOr 43 = .ok (.invokevirtual 80, 3) := by decide +kernel
theorem dX2_readOr_46 : decode cX2_readOr 46 = .ok (.aload_n 0, 1) := by decide +kernel
theorem dX2_readOr_47 : decode cX2_readOr 47 = .ok (.bipush (-124), 2) := by decide +kernel
theorem dX2_readOr_49 : decode cX2_readOr 49 = .ok (.invokevirtual 63, 3) := by decide +kernel
theorem dX2_readOr_52 : decode cX2_readOr 52 = .ok (.iinc 2 1, 3) := by decide +kernel
theorem dX2_readOr_55 : decode cX2_readOr 55 = .ok (.goto (-48), 3) := by decide +kernel
theorem dX2_readOr_58 : decode cX2_readOr 58 = .ok (.return_, 1) := by decide +kernel
theorem dX2_readAnd_0 : decode cX2_readAnd 0 = .ok (.aload_n 0, 1) := by decide +kernel
theorem dX2_readAnd_1 : decode cX2_readAnd 1 = .ok (.iload_n 1, 1) := by decide +kernel
theorem dX2_readAnd_2 : decode cX2_readAnd 2 = .ok (.invokevirtual 83, 3) := by decide +kernel
theorem dX2_readAnd_5 : decode cX2_readAnd 5 = .ok (.iconst 0, 1) := by decide +kernel
theorem dX2_readAnd_6 : decode cX2_readAnd 6 = .ok (.istore_n 2, 1) := by decide +kernel
theorem dX2_readAnd_7 : decode cX2_readAnd 7 = .ok (.iload_n 2, 1) := by decide +kernel
theorem dX2_readAnd_8 : decode cX2_readAnd 8 = .ok (.aload_n 0, 1) := by decide +kernel
theorem dX2_readAnd_9 : decode cX2_readAnd 9 = .ok (.getfield 33, 3) := by decide +kernel
theorem dX2_readAnd_12 : decode cX2_readAnd 12 = .ok (.if_icmp .ge 46, 3) := by decide +kernel
theorem dX2_readAnd_15 : decode cX2_readAnd 15 = .ok (.aload_n 0, 1) := by decide +kernel
theorem dX2_readAnd_16 : decode cX2_readAnd 16 = .ok (.getfield 37, 3) := by decide +kernel
theorem dX2_readAnd_19 : decode cX2_readAnd 19 = .ok (.ifCond .ge 39, 3) := by decide +kernel
theorem dX2_readAnd_22 : decode cX2_readAnd 22 = .ok (.aload_n 0, 1) := by decide +kernel
theorem dX2_readAnd_23 : decode cX2_readAnd 23 = .ok (.invokevirtual 43, 3) := by decide +kernel
theorem dX2_readAnd_26 : decode cX2_readAnd 26 = .ok (.bipush 38, 2) := by decide +kernel
theorem dX2_readAnd_28 : decode cX2_readAnd 28 = .ok (.if_icmp .ne 30, 3) := by decide +kernel
theorem dX2_readAnd_31 : decode cX2_readAnd 31 = .ok (.aload_n 0, 1) := by decide +kernel
theorem dX2_readAnd_32 : decode cX2_readAnd 32 = .ok (.dup, 1) := by decide +kernel
theorem dX2_readAnd_33 : decode cX2_readAnd 33 = .ok (.getfield 34, 3) := by decide +kernel
theorem dX2_readAnd_36 : decode cX2_readAnd 36 = .ok (.iconst 1, 1) := by decide +kernel
theorem dX2_readAnd_37 : decode cX2_readAnd 37 = .ok (.iadd, 1) := by decide +kernel
theorem dX2_readAnd_38 : decode cX2_readAnd 38 = .ok (.putfield 34, 3) := by decide +kernel
theorem dX2_readAnd_41 : decode cX2_readAnd 41 = .ok (.aload_n 0, 1) := by decide +kernel
theorem dX2_readAnd_42 : decode cX2_readAnd 42 = .ok (.iload_n 1, 1) := by decide +kernel
theorem dX2_readAnd_43 : decode cX2_readAnd 43 = .ok (.invokevirtual 83, 3) := by decide +kernel
theorem dX2_readAnd_46 : decode cX2_readAnd 46 = .ok (.aload_n 0, 1) := by decide +kernel
theorem dX2_readAnd_47 : decode cX2_readAnd 47 = .ok (.bipush (-38), 2) := by decide +kernel
theorem dX2_readAnd_49 : decode cX2_readAnd 49 = .ok (.invokevirtual 63, 3) := by decide +kernel
theorem dX2_readAnd_52 : decode cX2_readAnd 52 = .ok (.iinc 2 1, 3) := by decide +kernel
theorem dX2_readAnd_55 : decode cX2_readAnd 55 = .ok (.goto (-48), 3) := by decide +kernel
theorem dX2_readAnd_58 : decode cX2_readAnd 58 = .ok (.return_, 1) := by decide +kernel
theorem dX2_readTest_0 : decode cX2_readTest 0 = .ok (.iconst 0, 1) := by decide +kernel
theorem dX2_readTest_1 : decode cX2_readTest 1 = .ok (.istore_n 2, 1) := by decide +kernel
theorem dX2_readTest_2 : decode cX2_readTest 2 = .ok (.iconst 0, 1) := by decide +kernel
theorem dX2_readTest_3 : decode cX2_readTest 3 = .ok (.istore_n 3, 1) := by decide +kernel
theorem dX2_readTest_4 : decode cX2_readTest 4 = .ok (.iload_n 3, 1) := by decide +kernel
theorem dX2_readTest_5 : decode cX2_readTest 5 = .ok (.aload_n 0, 1) := by decide +kernel
theorem dX2_readTest_6 : decode cX2_readTest 6 = .ok (.getfield 33, 3) := by decide +kernel
theorem dX2_readTest_9 : decode cX2_readTest 9 = .ok (.if_icmp .ge 45, 3) := by decide +kernel
theorem dX2_readTest_12 : decode cX2_readTest 12 = .ok (.aload_n 0, 1) := by decide +kernel
theorem dX2_readTest_13 : decode cX2_readTest 13 = .ok (.getfield 37, 3) := by decide +kernel
theorem dX2_readTest_16 : decode cX2_readTest 16 = .ok (.ifCond .ge 38, 3) := by decide +kernel
theorem dX2_readTest_19 : decode cX2_readTest 19 = .ok (.aload_n 0, 1) := by decide +kernel
theorem dX2_readTest_20 : decode cX2_readTest 20 = .ok (.invokevirtual 43, 3) := by decide +kernel
theorem dX2_readTest_23 : decode cX2_readTest 23 = .ok (.bipush 33, 2) := by decide +kernel
theorem dX2_readTest_25 : decode cX2_readTest 25 = .ok (.if_icmp .ne 29, 3) := by decide +kernel
theorem dX2_readTest_28 : decode cX2_readTest 28 = .ok (.aload_n 0, 1) := by decide +kernel
theorem dX2_readTest_29 : decode cX2_readTest 29 = .ok (.dup, 1) := by decide +kernel
theorem dX2_readTest_30 : decode cX2_readTest 30 = .ok (.getfield 34, 3) := by decide +kernel
theorem dX2_readTest_33 : decode cX2_readTest 33 = .ok (.iconst 1, 1) := by decide +kernel
theorem dX2_readTest_34 : decode cX2_readTest 34 = .ok (.iadd, 1) := by decide +kernel
theorem dX2_readTest_35 : decode cX2_readTest 35 = .ok (.putfield 34, 3) := by decide +kernel
theorem dX2_readTest_38 : decode cX2_readTest 38 = .ok (.iload_n 2, 1) := by decide +kernel
theorem dX2_readTest_39 : decode cX2_readTest 39 = .ok (.ifCond .ne 7, 3) := by decide +kernel
theorem dX2_readTest_42 : decode cX2_readTest 42 = .ok (.iconst 1, 1) := by decide +kernel
theorem dX2_readTest_43 : decode cX2_readTest 43 = .ok (.goto 4, 3) := by decide +kernel
theorem dX2_readTest_46 : decode cX2_readTest 46 = .ok (.iconst 0, 1) := by decide +kernel
theorem dX2_readTest_47 : decode cX2_readTest 47 = .ok (.istore_n 2, 1) := by decide +kernel
theorem dX2_readTest_48 : decode cX2_readTest 48 = .ok (.iinc 3 1, 3) := by decide +kernel
theorem dX2_readTest_51 : decode cX2_readTest 51 = .ok (.goto (-47), 3) := by decide +kernel
theorem dX2_readTest_54 : decode cX2_readTest 54 = .ok (.aload_n 0, 1) := by decide +kernel
theorem dX2_readTest_55 : decode cX2_readTest 55 = .ok (.invokevirtual 43, 3) := by decide +kernel
theorem dX2_readTest_58 : decode cX2_readTest 58 = .ok (.bipush 40, 2) := by decide +kernel
theorem dX2_readTest_60 : decode cX2_readTest 60 = .ok (.if_icmp .ne 18, 3) := by decide +kernel
theorem dX2_readTest_63 : decode cX2_readTest 63 = .ok (.aload_n 0, 1) := by decide +kernel
theorem dX2_readTest_64 : decode cX2_readTest 64 = .ok (.getfield 37, 3) := by decide +kernel
theorem dX2_readTest_67 : decode cX2_readTest 67 = .ok (.ifCond .ge 11, 3) := by decide +kernel
theorem dX2_readTest_70 : decode cX2_readTest 70 = .ok (.aload_n 0, 1) := by decide +kernel
theorem dX2_readTest_71 : decode cX2_readTest 71 = .ok (.iload_n 1, 1) := by decide +kernel
theorem dX2_readTest_72 : decode cX2_readTest 72 = .ok (.invokevirtual 86, 3) := by decide +kernel
theorem dX2_readTest_75 : decode cX2_readTest 75 = .ok (.goto 7, 3) := by decide +kernel
theorem dX2_readTest_78 : decode cX2_readTest 78 = .ok (.aload_n 0, 1) := by decide +kernel
theorem dX2_readTest_79 : decode cX2_readTest 79 = .ok (.invokevirtual 89, 3) := by decide +kernel
theorem dX2_readTest_82 : decode cX2_readTest 82 = .ok (.iload_n 2, 1) := by decide +kernel
theorem dX2_readTest_83 : decode cX2_readTest 83 = .ok (.ifCond .eq 9, 3) := by decide +kernel
theorem dX2_readTest_86 : decode cX2_readTest 86 = .ok (.aload_n 0, 1) := by decide +kernel
theorem dX2_readTest_87 : decode cX2_readTest 87 = .ok (.bipush (-33), 2) := by decide +kernel
theorem dX2_readTest_89 : decode cX2_readTest 89 = .ok (.invokevirtual 63, 3) := by decide +kernel
theorem dX2_readTest_92 : decode cX2_readTest 92 = .ok (.return_, 1) := by decide +kernel
theorem dX2_readBracket_0 : decode cX2_readBracket 0 = .ok (.iload_n 1, 1) := by decide +kernel
theorem dX2_readBracket_1 : decode cX2_readBracket 1 = .ok (.bipush 8, 2) := by decide +kernel
theorem dX2_readBracket_3 : decode cX2_readBracket 3 = .ok (.if_icmp .lt 8, 3) := by decide +kernel
theorem dX2_readBracket_6 : decode cX2_readBracket 6 = .ok (.aload_n 0, 1) := by decide +kernel
theorem dX2_readBracket_7 : decode cX2_readBracket 7 = .ok (.invokevirtual 77, 3) := by decide +kernel
theorem dX2_readBracket_10 : decode cX2_readBracket 10 = .ok (.return_, 1) := by decide +kernel
theorem dX2_readBracket_11 : decode cX2_readBracket 11 = .ok (.aload_n 0, 1) := by decide +kernel
theorem dX2_readBracket_12 : decode cX2_readBracket 12 = .ok (.dup, 1) := by decide +kernel
theorem dX2_readBracket_13 : decode cX2_readBracket 13 = .ok (.getfield 34, 3) := by decide +kernel
theorem dX2_readBracket_16 : decode cX2_readBracket 16 = .ok (.iconst 1, 1) := by decide +kernel
theorem dX2_readBracket_17 : decode cX2_readBracket 17 = .ok (.iadd, 1) := by decide +kernel
theorem dX2_readBracket_18 : decode cX2_readBracket 18 = .ok (.putfield 34, 3) := by decide +kernel
theorem dX2_readBracket_21 : decode cX2_readBracket 21 = .ok (.aload_n 0, 1) := by decide +kernel
theorem dX2_readBracket_22 : decode cX2_readBracket 22 = .ok (.iload_n 1, 1) := by decide +kernel
theorem dX2_readBracket_23 : decode cX2_readBracket 23 = .ok (.iconst 1, 1) := by decide +kernel
theorem dX2_readBracket_24 : decode cX2_readBracket 24 = .ok (.iadd, 1) := by decide +kernel
theorem dX2_readBracket_25 : decode cX2_readBracket 25 = .ok (.invokevirtual 60, 3) := by decide +kernel
theorem dX2_readBracket_28 : decode cX2_readBracket 28 = .ok (.aload_n 0, 1) := by decide +kernel
theorem dX2_readBracket_29 : decode cX2_readBracket 29 = .ok (.bipush 41, 2) := by decide +kernel
theorem dX2_readBracket_31 : decode cX2_readBracket 31 = .ok (.invokevirtual 56, 3) := by decide +kernel
theorem dX2_readBracket_34 : decode cX2_readBracket 34 = .ok (.return_, 1) := by decide +kernel
theorem dX2_readComparison_0 : decode cX2_readComparison 0 = .ok (.aload_n 0, 1) := by decide +kernel
theorem dX2_readComparison_1 : decode cX2_readComparison 1 = .ok (.invokevirtual 92, 3) := by decide +kernel
theorem dX2_readComparison_4 : decode cX2_readComparison 4 = .ok (.aload_n 0, 1) := by decide +kernel
theorem dX2_readComparison_5 : decode cX2_readComparison 5 = .ok (.invokevirtual 43, 3) := by decide +kernel
theorem dX2_readComparison_8 : decode cX2_readComparison 8 = .ok (.istore_n 1, 1) := by decide +kernel
theorem dX2_readComparison_9 : decode cX2_readComparison 9 = .ok (.aload_n 0, 1) := by decide +kernel
theorem dX2_readComparison_10 : decode cX2_readComparison 10 = .ok (.getfield 37, 3) := by decide +kernel
theorem dX2_readComparison_13 : decode cX2_readComparison 13 = .ok (.ifCond .ge 12, 3) := by decide +kernel
theorem dX2_readComparison_16 : decode cX2_readComparison 16 = .ok (.iload_n 1, 1) := by decide +kernel
theorem dX2_readComparison_17 : decode cX2_readComparison 17 = .ok (.ldc 95, 2) := by decide +kernel
theorem dX2_readComparison_19 : decode cX2_readComparison 19 = .ok (.invokestatic 49, 3) := by decide +kernel
theorem dX2_readComparison_22 : decode cX2_readComparison 22 = .ok (.ifCond .ge 8, 3) := by decide +kernel
theorem dX2_readComparison_25 : decode cX2_readComparison 25 = .ok (.aload_n 0, 1) := by decide +kernel
theorem dX2_readComparison_26 : decode cX2_readComparison 26 = .ok (.invokevirtual 77, 3) := by decide +kernel
theorem dX2_readComparison_29 : decode cX2_readComparison 29 = .ok (.return_, 1) := by decide +kernel
theorem dX2_readComparison_30 : decode cX2_readComparison 30 = .ok (.aload_n 0, 1) := by decide +kernel
theorem dX2_readComparison_31 : decode cX2_readComparison 31 = .ok (.dup, 1) := by decide +kernel
theorem dX2_readComparison_32 : decode cX2_readComparison 32 = .ok (.getfield 34, 3) := by decide +kernel
theorem dX2_readComparison_35 : decode cX2_readComparison 35 = .ok (.iconst 1, 1) := by decide +kernel
theorem dX2_readComparison_36 : decode cX2_readComparison 36 = .ok (.iadd, 1) := by decide +kernel
theorem dX2_readComparison_37 : decode cX2_readComparison 37 = .ok (.putfield 34, 3) := by decide +kernel
theorem dX2_readComparison_40 : decode cX2_readComparison 40 = .ok (.aload_n 0, 1) := by decide +kernel
theorem dX2_readComparison_41 : decode cX2_readComparison 41 = .ok (.invokevirtual 92, 3) := by decide +kernel
theorem dX2_readComparison_44 : decode cX2_readComparison 44 = .ok (.aload_n 0, 1) := by decide +kernel
theorem dX2_readComparison_45 : decode cX2_readComparison 45 = .ok (.iload_n 1, 1) := by decide +kernel
theorem dX2_readComparison_46 : decode cX2_readComparison 46 = .ok (.ineg, 1) := by decide +kernel
theorem dX2_readComparison_47 : decode cX2_readComparison 47 = .ok (.invokevirtual 63, 3) := by decide +kernel
theorem dX2_readComparison_50 : decode cX2_readComparison 50 = .ok (.return_, 1) := by decide +kernel
theorem dX2_readSum_0 : decode cX2_readSum 0 = .ok (.aload_n 0, 1) := by decide +kernel
theorem dX2_readSum_1 : decode cX2_readSum 1 = .ok (.invokevirtual 97, 3) := by decide +kernel
theorem dX2_readSum_4 : decode cX2_readSum 4 = .ok (.iconst 0, 1) := by decide +kernel
theorem dX2_readSum_5 : decode cX2_readSum 5 = .ok (.istore_n 1, 1) := by decide +kernel
theorem dX2_readSum_6 : decode cX2_readSum 6 = .ok (.iload_n 1, 1) := by decide +kernel
theorem dX2_readSum_7 : decode cX2_readSum 7 = .ok (.aload_n 0, 1) := by decide +kernel
theorem dX2_readSum_8 : decode cX2_readSum 8 = .ok (.getfield 33, 3) := by decide +kernel
theorem dX2_readSum_11 : decode cX2_readSum 11 = .ok (.if_icmp .ge 53, 3) := by decide +kernel
theorem dX2_readSum_14 : decode cX2_readSum 14 = .ok (.aload_n 0, 1) := by decide +kernel
theorem dX2_readSum_15 : decode cX2_readSum 15 = .ok (.getfield 37, 3) := by decide +kernel
theorem dX2_readSum_18 : decode cX2_readSum 18 = .ok (.ifCond .ge 46, 3) := by decide +kernel
theorem dX2_readSum_21 : decode cX2_readSum 21 = .ok (.aload_n 0, 1) := by decide +kernel
theorem dX2_readSum_22 : decode cX2_readSum 22 = .ok (.invokevirtual 43, 3) := by decide +kernel
theorem dX2_readSum_25 : decode cX2_readSum 25 = .ok (.ldc 100, 2) := by decide +kernel
theorem dX2_readSum_27 : decode cX2_readSum 27 = .ok (.invokestatic 49, 3) := by decide +kernel
theorem dX2_readSum_30 : decode cX2_readSum 30 = .ok (.ifCond .lt 34, 3) := by decide +kernel
theorem dX2_readSum_33 : decode cX2_readSum 33 = .ok (.aload_n 0, 1) := by decide +kernel
theorem dX2_readSum_34 : decode cX2_readSum 34 = .ok (.invokevirtual 43, 3) := by decide +kernel
theorem dX2_readSum_37 : decode cX2_readSum 37 = .ok (.istore_n 2, 1) := by decide +kernel
theorem dX2_readSum_38 : decode cX2_readSum 38 = .ok (.aload_n 0, 1) := by decide +kernel
theorem dX2_readSum_39 : decode cX2_readSum 39 = .ok (.dup, 1) := by decide +kernel
theorem dX2_readSum_40 : decode cX2_readSum 40 = .ok (.getfield 34, 3) := by decide +kernel
theorem dX2_readSum_43 : decode cX2_readSum 43 = .ok (.iconst 1, 1) := by decide +kernel
theorem dX2_readSum_44 : decode cX2_readSum 44 = .ok (.iadd, 1) := by decide +kernel
theorem dX2_readSum_45 : decode cX2_readSum 45 = .ok (.putfield 34, 3) := by decide +kernel
theorem dX2_readSum_48 : decode cX2_readSum 48 = .ok (.aload_n 0, 1) := by decide +kernel
theorem dX2_readSum_49 : decode cX2_readSum 49 = .ok (.invokevirtual 97, 3) := by decide +kernel
theorem dX2_readSum_52 : decode cX2_readSum 52 = .ok (.aload_n 0, 1) := by decide +kernel
theorem dX2_readSum_53 : decode cX2_readSum 53 = .ok (.iload_n 2, 1) := by decide +kernel
theorem dX2_readSum_54 : decode cX2_readSum 54 = .ok (.ineg, 1) := by decide +kernel
theorem dX2_readSum_55 : decode cX2_readSum 55 = .ok (.invokevirtual 63, 3) := by decide +kernel
theorem dX2_readSum_58 : decode cX2_readSum 58 = .ok (.iinc 1 1, 3) := by decide +kernel
theorem dX2_readSum_61 : decode cX2_readSum 61 = .ok (.goto (-55), 3) := by decide +kernel
theorem dX2_readSum_64 : decode cX2_readSum 64 = .ok (.return_, 1) := by decide +kernel
theorem dX2_readAtom_0 : decode cX2_readAtom 0 = .ok (.aload_n 0, 1) := by decide +kernel
theorem dX2_readAtom_1 : decode cX2_readAtom 1 = .ok (.getfield 37, 3) := by decide +kernel
theorem dX2_readAtom_4 : decode cX2_readAtom 4 = .ok (.ifCond .lt 4, 3) := by decide +kernel
theorem dX2_readAtom_7 : decode cX2_readAtom 7 = .ok (.return_, 1) := by decide +kernel
theorem dX2_readAtom_8 : decode cX2_readAtom 8 = .ok (.aload_n 0, 1) := by decide +kernel
theorem dX2_readAtom_9 : decode cX2_readAtom 9 = .ok (.invokevirtual 43, 3) := by decide +kernel
theorem dX2_readAtom_12 : decode cX2_readAtom 12 = .ok (.ldc 102, 2) := by decide +kernel
theorem dX2_readAtom_14 : decode cX2_readAtom 14 = .ok (.invokestatic 49, 3) := by decide +kernel
theorem dX2_readAtom_17 : decode cX2_readAtom 17 = .ok (.istore_n 1, 1) := by decide +kernel
theorem dX2_readAtom_18 : decode cX2_readAtom 18 = .ok (.aload_n 0, 1) := by decide +kernel
theorem dX2_readAtom_19 : decode cX2_readAtom 19 = .ok (.invokevirtual 43, 3) := by decide +kernel
theorem dX2_readAtom_22 : decode cX2_readAtom 22 = .ok (.invokestatic 104, 3) := by decide +kernel
theorem dX2_readAtom_25 : decode cX2_readAtom 25 = .ok (.ifCond .eq 10, 3) := by decide +kernel
theorem dX2_readAtom_28 : decode cX2_readAtom 28 = .ok (.aload_n 0, 1) := by decide +kernel
theorem dX2_readAtom_29 : decode cX2_readAtom 29 = .ok (.invokevirtual 108, 3) := by decide +kernel
theorem dX2_readAtom_32 : decode cX2_readAtom 32 = .ok (.goto 33, 3) := by decide +kernel
theorem dX2_readAtom_35 : decode cX2_readAtom 35 = .ok (.iload_n 1, 1) := by decide +kernel
theorem dX2_readAtom_36 : decode cX2_readAtom 36 = .ok (.ifCond .lt 25, 3) := by decide +kernel
theorem dX2_readAtom_39 : decode cX2_readAtom 39 = .ok (.aload_n 0, 1) := by decide +kernel
theorem dX2_readAtom_40 : decode cX2_readAtom 40 = .ok (.sipush 10000, 3) := by decide +kernel
theorem dX2_readAtom_43 : decode cX2_readAtom 43 = .ok (.iload_n 1, 1) := by decide +kernel
theorem dX2_readAtom_44 : decode cX2_readAtom 44 = .ok (.iadd, 1) := by decide +kernel
theorem dX2_readAtom_45 : decode cX2_readAtom 45 = .ok (.invokevirtual 63, 3) := by decide +kernel
theorem dX2_readAtom_48 : decode cX2_readAtom 48 = .ok (.aload_n 0, 1) := by decide +kernel
theorem dX2_readAtom_49 : decode cX2_readAtom 49 = .ok (.dup, 1) := by decide +kernel
theorem dX2_readAtom_50 : decode cX2_readAtom 50 = .ok (.getfield 34, 3) := by decide +kernel
theorem dX2_readAtom_53 : decode cX2_readAtom 53 = .ok (.iconst 1, 1) := by decide +kernel
theorem dX2_readAtom_54 : decode cX2_readAtom 54 = .ok (.iadd, 1) := by decide +kernel
theorem dX2_readAtom_55 : decode cX2_readAtom 55 = .ok (.putfield 34, 3) := by decide +kernel
theorem dX2_readAtom_58 : decode cX2_readAtom 58 = .ok (.goto 7, 3) := by decide +kernel
theorem dX2_readAtom_61 : decode cX2_readAtom 61 = .ok (.aload_n 0, 1) := by decide +kernel
theorem dX2_readAtom_62 : decode cX2_readAtom 62 = .ok (.invokevirtual 77, 3) := by decide +kernel
theorem dX2_readAtom_65 : decode cX2_readAtom 65 = .ok (.return_, 1) := by decide +kernel
theorem dX2_readNumber_0 : decode cX2_readNumber 0 = .ok (.aload_n 0, 1) := by decide +kernel
theorem dX2_readNumber_1 : decode cX2_readNumber 1 = .ok (.invokevirtual 43, 3) := by decide +kernel
theorem dX2_readNumber_4 : decode cX2_readNumber 4 = .ok (.bipush 48, 2) := by decide +kernel
theorem dX2_readNumber_6 : decode cX2_readNumber 6 = .ok (.if_icmp .ne 7, 3) := by decide +kernel
theorem dX2_readNumber_9 : decode cX2_readNumber 9 = .ok (.iconst 1, 1) := by decide +kernel
theorem dX2_readNumber_10 : decode cX2_readNumber 10 = .ok (.goto 4, 3) := by decide +kernel
theorem dX2_readNumber_13 : decode cX2_readNumber 13 = .ok (.iconst 4, 1) := by decide +kernel
theorem dX2_readNumber_14 : decode cX2_readNumber 14 = .ok (.istore_n 1, 1) := by decide +kernel
theorem dX2_readNumber_15 : decode cX2_readNumber 15 = .ok (.iconst 0, 1) := by decide +kernel
theorem dX2_readNumber_16 : decode cX2_readNumber 16 = .ok (.istore_n 2, 1) := by decide +kernel
theorem dX2_readNumber_17 : decode cX2_readNumber 17 = .ok (.iconst 0, 1) := by decide +kernel
theorem dX2_readNumber_18 : decode cX2_readNumber 18 = .ok (.istore_n 3, 1) := by decide +kernel
theorem dX2_readNumber_19 : decode cX2_readNumber 19 = .ok (.iload_n 3, 1) := by decide +kernel
theorem dX2_readNumber_20 : decode cX2_readNumber 20 = .ok (.iload_n 1, 1) := by decide +kernel
theorem dX2_readNumber_21 : decode cX2_readNumber 21 = .ok (.if_icmp .ge 42, 3) := by decide +kernel
theorem dX2_readNumber_24 : decode cX2_readNumber 24 = .ok (.aload_n 0, 1) := by decide +kernel
theorem dX2_readNumber_25 : decode cX2_readNumber 25 = .ok (.invokevirtual 43, 3) := by decide +kernel
theorem dX2_readNumber_28 : decode cX2_readNumber 28 = .ok (.invokestatic 104, 3) := by decide +kernel
theorem dX2_readNumber_31 : decode cX2_readNumber 31 = .ok (.ifCond .eq 32, 3) := by decide +kernel
theorem dX2_readNumber_34 : decode cX2_readNumber 34 = .ok (.iload_n 2, 1) := by decide +kernel
theorem dX2_readNumber_35 : decode cX2_readNumber 35 = .ok (.bipush 10, 2) := by decide +kernel
theorem dX2_readNumber_37 : decode cX2_readNumber 37 = .ok (.imul, 1) := by decide +kernel
theorem dX2_readNumber_38 : decode cX2_readNumber 38 = .ok (.aload_n 0, 1) := by decide +kernel
theorem dX2_readNumber_39 : decode cX2_readNumber 39 = .ok (.invokevirtual 43, 3) := by decide +kernel
theorem dX2_readNumber_42 : decode cX2_readNumber 42 = .ok (.iadd, 1) := by decide +kernel
theorem dX2_readNumber_43 : decode cX2_readNumber 43 = .ok (.bipush 48, 2) := by decide +kernel
theorem dX2_readNumber_45 : decode cX2_readNumber 45 = .ok (.isub, 1) := by decide +kernel
theorem dX2_readNumber_46 : decode cX2_readNumber 46 = .ok (.istore_n 2, 1) := by decide +kernel
theorem dX2_readNumber_47 : decode cX2_readNumber 47 = .ok (.aload_n 0, 1) := by decide +kernel
theorem dX2_readNumber_48 : decode cX2_readNumber 48 = .ok (.dup, 1) := by decide +kernel
theorem dX2_readNumber_49 : decode cX2_readNumber 49 = .ok (.getfield 34, 3) := by decide +kernel
theorem dX2_readNumber_52 : decode cX2_readNumber 52 = .ok (.iconst 1, 1) := by decide +kernel
theorem dX2_readNumber_53 : decode cX2_readNumber 53 = .ok (.iadd, 1) := by decide +kernel
theorem dX2_readNumber_54 : decode cX2_readNumber 54 = .ok (.putfield 34, 3) := by decide +kernel
theorem dX2_readNumber_57 : decode cX2_readNumber 57 = .ok (.iinc 3 1, 3) := by decide +kernel
theorem dX2_readNumber_60 : decode cX2_readNumber 60 = .ok (.goto (-41), 3) := by decide +kernel
theorem dX2_readNumber_63 : decode cX2_readNumber 63 = .ok (.aload_n 0, 1) := by decide +kernel
theorem dX2_readNumber_64 : decode cX2_readNumber 64 = .ok (.iload_n 2, 1) := by decide +kernel
theorem dX2_readNumber_65 : decode cX2_readNumber 65 = .ok (.invokevirtual 63, 3) := by decide +kernel
theorem dX2_readNumber_68 : decode cX2_readNumber 68 = .ok (.return_, 1) := by decide +kernel
theorem dX2_isDigit_0 : decode cX2_isDigit 0 = .ok (.iload_n 0, 1) := by decide +kernel
theorem dX2_isDigit_1 : decode cX2_isDigit 1 = .ok (.bipush 48, 2) := by decide +kernel
theorem dX2_isDigit_3 : decode cX2_isDigit 3 = .ok (.if_icmp .lt 13, 3) := by decide +kernel
theorem dX2_isDigit_6 : decode cX2_isDigit 6 = .ok (.iload_n 0, 1) := by decide +kernel
theorem dX2_isDigit_7 : decode cX2_isDigit 7 = .ok (.bipush 57, 2) := by decide +kernel
theorem dX2_isDigit_9 : decode cX2_isDigit 9 = .ok (.if_icmp .gt 7, 3) := by decide +kernel
theorem dX2_isDigit_12 : decode cX2_isDigit 12 = .ok (.iconst 1, 1) := by decide +kernel
theorem dX2_isDigit_13 : decode cX2_isDigit 13 = .ok (.goto 4, 3) := by decide +kernel
theorem dX2_isDigit_16 : decode cX2_isDigit 16 = .ok (.iconst 0, 1) := by decide +kernel
theorem dX2_isDigit_17 : decode cX2_isDigit 17 = .ok (.ireturn, 1) := by decide +kernel
theorem dX3_drunk_0 : decode cX3_drunk 0 = .ok (.iload_n 0, 1) := by decide +kernel
theorem dX3_drunk_1 : decode cX3_drunk 1 = .ok (.tableswitch 45 0 3 #[31, 35, 37, 41], 31) := by decide +kernel
theorem dX3_drunk_32 : decode cX3_drunk 32 = .ok (.iconst 3, 1) := by decide +kernel
theorem dX3_drunk_33 : decode cX3_drunk 33 = .ok (.iload_n 1, 1) := by decide +kernel
theorem dX3_drunk_34 : decode cX3_drunk 34 = .ok (.imul, 1) := by decide +kernel
theorem dX3_drunk_35 : decode cX3_drunk 35 = .ok (.ireturn, 1) := by decide +kernel
theorem dX3_drunk_36 : decode cX3_drunk 36 = .ok (.iload_n 1, 1) := by decide +kernel
theorem dX3_drunk_37 : decode cX3_drunk 37 = .ok (.ireturn, 1) := by decide +kernel
theorem dX3_drunk_38 : decode cX3_drunk 38 = .ok (.iconst 2, 1) := by decide +kernel
theorem dX3_drunk_39 : decode cX3_drunk 39 = .ok (.iload_n 1, 1) := by decide +kernel
theorem dX3_drunk_40 : decode cX3_drunk 40 = .ok (.imul, 1) := by decide +kernel
theorem dX3_drunk_41 : decode cX3_drunk 41 = .ok (.ireturn, 1) := by decide +kernel
theorem dX3_drunk_42 : decode cX3_drunk 42 = .ok (.iload_n 1, 1) := by decide +kernel
theorem dX3_drunk_43 : decode cX3_drunk 43 = .ok (.iconst 2, 1) := by decide +kernel
theorem dX3_drunk_44 : decode cX3_drunk 44 = .ok (.idiv, 1) := by decide +kernel
theorem dX3_drunk_45 : decode cX3_drunk 45 = .ok (.ireturn, 1) := by decide +kernel
theorem dX3_drunk_46 : decode cX3_drunk 46 = .ok (.iconst 0, 1) := by decide +kernel
theorem dX3_drunk_47 : decode cX3_drunk 47 = .ok (.ireturn, 1) := by decide +kernel
theorem dX3_paid_0 : decode cX3_paid 0 = .ok (.iload_n 1, 1) := by decide +kernel
theorem dX3_paid_1 : decode cX3_paid 1 = .ok (.iload_n 2, 1) := by decide +kernel
theorem dX3_paid_2 : decode cX3_paid 2 = .ok (.imul, 1) := by decide +kernel
theorem dX3_paid_3 : decode cX3_paid 3 = .ok (.bipush 100, 2) := by decide +kernel
theorem dX3_paid_5 : decode cX3_paid 5 = .ok (.idiv, 1) := by decide +kernel
theorem dX3_paid_6 : decode cX3_paid 6 = .ok (.istore_n 3, 1) := by decide +kernel
theorem dX3_paid_7 : decode cX3_paid 7 = .ok (.iload_n 1, 1) := by decide +kernel
theorem dX3_paid_8 : decode cX3_paid 8 = .ok (.ifCond .le 9, 3) := by decide +kernel
theorem dX3_paid_11 : decode cX3_paid 11 = .ok (.iload_n 3, 1) := by decide +kernel
theorem dX3_paid_12 : decode cX3_paid 12 = .ok (.iconst 1, 1) := by decide +kernel
theorem dX3_paid_13 : decode cX3_paid 13 = .ok (.iadd, 1) := by decide +kernel
theorem dX3_paid_14 : decode cX3_paid 14 = .ok (.goto 4, 3) := by decide +kernel
theorem dX3_paid_17 : decode cX3_paid 17 = .ok (.iload_n 3, 1) := by decide +kernel
theorem dX3_paid_18 : decode cX3_paid 18 = .ok (.istore 4, 2) := by decide +kernel
theorem dX3_paid_20 : decode cX3_paid 20 = .ok (.iload_n 0, 1) := by decide +kernel
theorem dX3_paid_21 : decode cX3_paid 21 = .ok (.tableswitch 74 0 6 #[43, 74, 45, 74, 49, 54, 59], 43) := by decide +kernel
theorem dX3_paid_64 : decode cX3_paid 64 = .ok (.iload_n 3, 1) := by decide +kernel
theorem dX3_paid_65 : decode cX3_paid 65 = .ok (.ireturn, 1) := by decide +kernel
theorem dX3_paid_66 : decode cX3_paid 66 = .ok (.iload_n 3, 1) := by decide +kernel
theorem dX3_paid_67 : decode cX3_paid 67 = .ok (.iconst 2, 1) := by decide +kernel
theorem dX3_paid_68 : decode cX3_paid 68 = .ok (.idiv, 1) := by decide +kernel
theorem dX3_paid_69 : decode cX3_paid 69 = .ok (.ireturn, 1) := by decide +kernel
theorem dX3_paid_70 : decode cX3_paid 70 = .ok (.iload 4, 2) := by decide +kernel
theorem dX3_paid_72 : decode cX3_paid 72 = .ok (.iconst 2, 1) := by decide +kernel
theorem dX3_paid_73 : decode cX3_paid 73 = .ok (.idiv, 1) := by decide +kernel
theorem dX3_paid_74 : decode cX3_paid 74 = .ok (.ireturn, 1) := by decide +kernel
theorem dX3_paid_75 : decode cX3_paid 75 = .ok (.iload 4, 2) := by decide +kernel
theorem dX3_paid_77 : decode cX3_paid 77 = .ok (.iconst 2, 1) := by decide +kernel
theorem dX3_paid_78 : decode cX3_paid 78 = .ok (.idiv, 1) := by decide +kernel
theorem dX3_paid_79 : decode cX3_paid 79 = .ok (.ireturn, 1) := by decide +kernel
theorem dX3_paid_80 : decode cX3_paid 80 = .ok (.iload 4, 2) := by decide +kernel
theorem dX3_paid_82 : decode cX3_paid 82 = .ok (.ifCond .le 10, 3) := by decide +kernel
theorem dX3_paid_85 : decode cX3_paid 85 = .ok (.iload 4, 2) := by decide +kernel
theorem dX3_paid_87 : decode cX3_paid 87 = .ok (.iconst 1, 1) := by decide +kernel
theorem dX3_paid_88 : decode cX3_paid 88 = .ok (.isub, 1) := by decide +kernel
theorem dX3_paid_89 : decode cX3_paid 89 = .ok (.goto 5, 3) := by decide +kernel
theorem dX3_paid_92 : decode cX3_paid 92 = .ok (.iload 4, 2) := by decide +kernel
theorem dX3_paid_94 : decode cX3_paid 94 = .ok (.ireturn, 1) := by decide +kernel
theorem dX3_paid_95 : decode cX3_paid 95 = .ok (.iload 4, 2) := by decide +kernel
theorem dX3_paid_97 : decode cX3_paid 97 = .ok (.ireturn, 1) := by decide +kernel
theorem dX3_canFail_0 : decode cX3_canFail 0 = .ok (.iload_n 0, 1) := by decide +kernel
theorem dX3_canFail_1 : decode cX3_canFail 1 = .ok (.iconst 2, 1) := by decide +kernel
theorem dX3_canFail_2 : decode cX3_canFail 2 = .ok (.if_icmp .eq 11, 3) := by decide +kernel
theorem dX3_canFail_5 : decode cX3_canFail 5 = .ok (.iload_n 1, 1) := by decide +kernel
theorem dX3_canFail_6 : decode cX3_canFail 6 = .ok (.ifCond .le 7, 3) := by decide +kernel
theorem dX3_canFail_9 : decode cX3_canFail 9 = .ok (.iconst 1, 1) := by decide +kernel
theorem dX3_canFail_10 : decode cX3_canFail 10 = .ok (.goto 4, 3) := by decide +kernel
theorem dX3_canFail_13 : decode cX3_canFail 13 = .ok (.iconst 0, 1) := by decide +kernel
theorem dX3_canFail_14 : decode cX3_canFail 14 = .ok (.ireturn, 1) := by decide +kernel
theorem dX3_fail_0 : decode cX3_fail 0 = .ok (.iload_n 0, 1) := by decide +kernel
theorem dX3_fail_1 : decode cX3_fail 1 = .ok (.bipush 6, 2) := by decide +kernel
theorem dX3_fail_3 : decode cX3_fail 3 = .ok (.if_icmp .ne 13, 3) := by decide +kernel
theorem dX3_fail_6 : decode cX3_fail 6 = .ok (.new 9, 3) := by decide +kernel
theorem dX3_fail_9 : decode cX3_fail 9 = .ok (.dup, 1) := by decide +kernel
theorem dX3_fail_10 : decode cX3_fail 10 = .ok (.ldc 11, 2) := by decide +kernel
theorem dX3_fail_12 : decode cX3_fail 12 = .ok (.invokespecial 13, 3) := by decide +kernel
theorem dX3_fail_15 : decode cX3_fail 15 = .ok (.athrow, 1) := by decide +kernel
theorem dX3_fail_16 : decode cX3_fail 16 = .ok (.iload_n 0, 1) := by decide +kernel
theorem dX3_fail_17 : decode cX3_fail 17 = .ok (.iconst 5, 1) := by decide +kernel
theorem dX3_fail_18 : decode cX3_fail 18 = .ok (.if_icmp .ne 13, 3) := by decide +kernel
theorem dX3_fail_21 : decode cX3_fail 21 = .ok (.new 16, 3) := by decide +kernel
theorem dX3_fail_24 : decode cX3_fail 24 = .ok (.dup, 1) := by decide +kernel
theorem dX3_fail_25 : decode cX3_fail 25 = .ok (.ldc 18, 2) := by decide +kernel
theorem dX3_fail_27 : decode cX3_fail 27 = .ok (.invokespecial 20, 3) := by decide +kernel
theorem dX3_fail_30 : decode cX3_fail 30 = .ok (.athrow, 1) := by decide +kernel
theorem dX3_fail_31 : decode cX3_fail 31 = .ok (.new 21, 3) := by decide +kernel
theorem dX3_fail_34 : decode cX3_fail 34 = .ok (.dup, 1) := by decide +kernel
theorem dX3_fail_35 : decode cX3_fail 35 = .ok (.ldc 23, 2) := by decide +kernel
theorem dX3_fail_37 : decode cX3_fail 37 = .ok (.invokespecial 25, 3) := by decide +kernel
theorem dX3_fail_40 : decode cX3_fail 40 = .ok (.athrow, 1) := by decide +kernel
theorem dX4_init_0 : decode cX4_init 0 = .ok (.aload_n 0, 1) := by decide +kernel
theorem dX4_init_1 : decode cX4_init 1 = .ok (.invokespecial 3, 3) := by decide +kernel
theorem dX4_init_4 : decode cX4_init 4 = .ok (.aload_n 0, 1) := by decide +kernel
theorem dX4_init_5 : decode cX4_init 5 = .ok (.iconst 5, 1) := by decide +kernel
theorem dX4_init_6 : decode cX4_init 6 = .ok (.newarray .int, 2) := by decide +kernel
theorem dX4_init_8 : decode cX4_init 8 = .ok (.putfield 9, 3) := by decide +kernel
theorem dX4_init_11 : decode cX4_init 11 = .ok (.aload_n 0, 1) := by decide +kernel
theorem dX4_init_12 : decode cX4_init 12 = .ok (.iconst 5, 1) := by decide +kernel
theorem dX4_init_13 : decode cX4_init 13 = .ok (.newarray .int, 2) := by decide +kernel
theorem dX4_init_15 : decode cX4_init 15 = .ok (.putfield 15, 3) := by decide +kernel
theorem dX4_init_18 : decode cX4_init 18 = .ok (.aload_n 0, 1) := by decide +kernel
theorem dX4_init_19 : decode cX4_init 19 = .ok (.iconst 5, 1) := by decide +kernel
theorem dX4_init_20 : decode cX4_init 20 = .ok (.newarray .int, 2) := by decide +kernel
theorem dX4_init_22 : decode cX4_init 22 = .ok (.putfield 18, 3) := by decide +kernel
theorem dX4_init_25 : decode cX4_init 25 = .ok (.aload_n 0, 1) := by decide +kernel
theorem dX4_init_26 : decode cX4_init 26 = .ok (.iconst 5, 1) := by decide +kernel
theorem dX4_init_27 : decode cX4_init 27 = .ok (.newarray .int, 2) := by decide +kernel
theorem dX4_init_29 : decode cX4_init 29 = .ok (.putfield 21, 3) := by decide +kernel
theorem dX4_init_32 : decode cX4_init 32 = .ok (.aload_n 0, 1) := by decide +kernel
theorem dX4_init_33 : decode cX4_init 33 = .ok (.bipush 20, 2) := by decide +kernel
theorem dX4_init_35 : decode cX4_init 35 = .ok (.newarray .int, 2) := by decide +kernel
theorem dX4_init_37 : decode cX4_init 37 = .ok (.putfield 24, 3) := by decide +kernel
theorem dX4_init_40 : decode cX4_init 40 = .ok (.aload_n 0, 1) := by decide +kernel
theorem dX4_init_41 : decode cX4_init 41 = .ok (.iconst 5, 1) := by decide +kernel
theorem dX4_init_42 : decode cX4_init 42 = .ok (.newarray .int, 2) := by decide +kernel
theorem dX4_init_44 : decode cX4_init 44 = .ok (.putfield 27, 3) := by decide +kernel
theorem dX4_init_47 : decode cX4_init 47 = .ok (.aload_n 0, 1) := by decide +kernel
theorem dX4_init_48 : decode cX4_init 48 = .ok (.iconst 5, 1) := by decide +kernel
theorem dX4_init_49 : decode cX4_init 49 = .ok (.newarray .int, 2) := by decide +kernel
theorem dX4_init_51 : decode cX4_init 51 = .ok (.putfield 30, 3) := by decide +kernel
theorem dX4_init_54 : decode cX4_init 54 = .ok (.aload_n 0, 1) := by decide +kernel
theorem dX4_init_55 : decode cX4_init 55 = .ok (.iconst 5, 1) := by decide +kernel
theorem dX4_init_56 : decode cX4_init 56 = .ok (.newarray .int, 2) := by decide +kernel
theorem dX4_init_58 : decode cX4_init 58 = .ok (.putfield 33, 3) := by decide +kernel
theorem dX4_init_61 : decode cX4_init 61 = .ok (.return_, 1) := by decide +kernel
theorem dX4_has_0 : decode cX4_has 0 = .ok (.iload_n 1, 1) := by decide +kernel
theorem dX4_has_1 : decode cX4_has 1 = .ok (.ifCond .lt 15, 3) := by decide +kernel
theorem dX4_has_4 : decode cX4_has 4 = .ok (.iload_n 1, 1) := by decide +kernel
theorem dX4_has_5 : decode cX4_has 5 = .ok (.aload_n 0, 1) := by decide +kernel
theorem dX4_has_6 : decode cX4_has 6 = .ok (.getfield 36, 3) := by decide +kernel
theorem dX4_has_9 : decode cX4_has 9 = .ok (.if_icmp .ge 7, 3) := by decide +kernel
theorem dX4_has_12 : decode cX4_has 12 = .ok (.iconst 1, 1) := by decide +kernel
theorem dX4_has_13 : decode cX4_has 13 = .ok (.goto 4, 3) := by decide +kernel
theorem dX4_has_16 : decode cX4_has 16 = .ok (.iconst 0, 1) := by decide +kernel
theorem dX4_has_17 : decode cX4_has 17 = .ok (.ireturn, 1) := by decide +kernel
theorem dX4_come_0 : decode cX4_come 0 = .ok (.aload_n 0, 1) := by decide +kernel
theorem dX4_come_1 : decode cX4_come 1 = .ok (.getfield 36, 3) := by decide +kernel
theorem dX4_come_4 : decode cX4_come 4 = .ok (.istore 4, 2) := by decide +kernel
theorem dX4_come_6 : decode cX4_come 6 = .ok (.aload_n 0, 1) := by decide +kernel
theorem dX4_come_7 : decode cX4_come 7 = .ok (.getfield 9, 3) := by decide +kernel
theorem dX4_come_10 : decode cX4_come 10 = .ok (.iload 4, 2) := by decide +kernel
theorem dX4_come_12 : decode cX4_come 12 = .ok (.iload_n 1, 1) := by decide +kernel
theorem dX4_come_13 : decode cX4_come 13 = .ok (.bipush 100, 2) := by decide +kernel
theorem dX4_come_15 : decode cX4_come 15 = .ok (.idiv, 1) := by decide +kernel
theorem dX4_come_16 : decode cX4_come 16 = .ok (.iastore, 1) := by decide +kernel
theorem dX4_come_17 : decode cX4_come 17 = .ok (.aload_n 0, 1) := by decide +kernel
theorem dX4_come_18 : decode cX4_come 18 = .ok (.getfield 15, 3) := by decide +kernel
theorem dX4_come_21 : decode cX4_come 21 = .ok (.iload 4, 2) := by decide +kernel
theorem dX4_come_23 : decode cX4_come 23 = .ok (.iload_n 1, 1) := by decide +kernel
theorem dX4_come_24 : decode cX4_come 24 = .ok (.bipush 100, 2) := by decide +kernel
theorem dX4_come_26 : decode cX4_come 26 = .ok (.irem, 1) := by decide +kernel
theorem dX4_come_27 : decode cX4_come 27 = .ok (.iastore, 1) := by decide +kernel
theorem dX4_come_28 : decode cX4_come 28 = .ok (.aload_n 0, 1) := by decide +kernel
theorem dX4_come_29 : decode cX4_come 29 = .ok (.getfield 18, 3) := by decide +kernel
theorem dX4_come_32 : decode cX4_come 32 = .ok (.iload 4, 2) := by decide +kernel
theorem dX4_come_34 : decode cX4_come 34 = .ok (.iload_n 2, 1) := by decide +kernel
theorem dX4_come_35 : decode cX4_come 35 = .ok (.iastore, 1) := by decide +kernel
theorem dX4_come_36 : decode cX4_come 36 = .ok (.aload_n 0, 1) := by decide +kernel
theorem dX4_come_37 : decode cX4_come 37 = .ok (.getfield 21, 3) := by decide +kernel
theorem dX4_come_40 : decode cX4_come 40 = .ok (.iload 4, 2) := by decide +kernel
theorem dX4_come_42 : decode cX4_come 42 = .ok (.iload_n 3, 1) := by decide +kernel
theorem dX4_come_43 : decode cX4_come 43 = .ok (.iastore, 1) := by decide +kernel
theorem dX4_come_44 : decode cX4_come 44 = .ok (.iconst 0, 1) := by decide +kernel
theorem dX4_come_45 : decode cX4_come 45 = .ok (.istore 5, 2) := by decide +kernel
theorem dX4_come_47 : decode cX4_come 47 = .ok (.iload 5, 2) := by decide +kernel
theorem dX4_come_49 : decode cX4_come 49 = .ok (.iconst 4, 1) := by decide +kernel
theorem dX4_come_50 : decode cX4_come 50 = .ok (.if_icmp .ge 22, 3) := by decide +kernel
theorem dX4_come_53 : decode cX4_come 53 = .ok (.aload_n 0, 1) := by decide +kernel
theorem dX4_come_54 : decode cX4_come 54 = .ok (.getfield 24, 3) := by decide +kernel
theorem dX4_come_57 : decode cX4_come 57 = .ok (.iload 4, 2) := by decide +kernel
theorem dX4_come_59 : decode cX4_come 59 = .ok (.iconst 4, 1) := by decide +kernel
theorem dX4_come_60 : decode cX4_come 60 = .ok (.imul, 1) := by decide +kernel
theorem dX4_come_61 : decode cX4_come 61 = .ok (.iload 5, 2) := by decide +kernel
theorem dX4_come_63 : decode cX4_come 63 = .ok (.iadd, 1) := by decide +kernel
theorem dX4_come_64 : decode cX4_come 64 = .ok (.iconst (-1), 1) := by decide +kernel
theorem dX4_come_65 : decode cX4_come 65 = .ok (.iastore, 1) := by decide +kernel
theorem dX4_come_66 : decode cX4_come 66 = .ok (.iinc 5 1, 3) := by decide +kernel
theorem dX4_come_69 : decode cX4_come 69 = .ok (.goto (-22), 3) := by decide +kernel
theorem dX4_come_72 : decode cX4_come 72 = .ok (.aload_n 0, 1) := by decide +kernel
theorem dX4_come_73 : decode cX4_come 73 = .ok (.dup, 1) := by decide +kernel
theorem dX4_come_74 : decode cX4_come 74 = .ok (.getfield 36, 3) := by decide +kernel
theorem dX4_come_77 : decode cX4_come 77 = .ok (.iconst 1, 1) := by decide +kernel
theorem dX4_come_78 : decode cX4_come 78 = .ok (.iadd, 1) := by decide +kernel
theorem dX4_come_79 : decode cX4_come 79 = .ok (.putfield 36, 3) := by decide +kernel
theorem dX4_come_82 : decode cX4_come 82 = .ok (.iload 4, 2) := by decide +kernel
theorem dX4_come_84 : decode cX4_come 84 = .ok (.ireturn, 1) := by decide +kernel
theorem dX4_winner_0 : decode cX4_winner 0 = .ok (.iconst (-1), 1) := by decide +kernel
theorem dX4_winner_1 : decode cX4_winner 1 = .ok (.istore_n 2, 1) := by decide +kernel
theorem dX4_winner_2 : decode cX4_winner 2 = .ok (.iconst 0, 1) := by decide +kernel
theorem dX4_winner_3 : decode cX4_winner 3 = .ok (.istore_n 3, 1) := by decide +kernel
theorem dX4_winner_4 : decode cX4_winner 4 = .ok (.iconst 0, 1) := by decide +kernel
theorem dX4_winner_5 : decode cX4_winner 5 = .ok (.istore 4, 2) := by decide +kernel
theorem dX4_winner_7 : decode cX4_winner 7 = .ok (.iload 4, 2) := by decide +kernel
theorem dX4_winner_9 : decode cX4_winner 9 = .ok (.aload_n 0, 1) := by decide +kernel
theorem dX4_winner_10 : decode cX4_winner 10 = .ok (.getfield 36, 3) := by decide +kernel
theorem dX4_winner_13 : decode cX4_winner 13 = .ok (.if_icmp .ge 44, 3) := by decide +kernel
theorem dX4_winner_16 : decode cX4_winner 16 = .ok (.aload_n 0, 1) := by decide +kernel
theorem dX4_winner_17 : decode cX4_winner 17 = .ok (.getfield 24, 3) := by decide +kernel
theorem dX4_winner_20 : decode cX4_winner 20 = .ok (.iload 4, 2) := by decide +kernel
theorem dX4_winner_22 : decode cX4_winner 22 = .ok (.iconst 4, 1) := by decide +kernel
theorem dX4_winner_23 : decode cX4_winner 23 = .ok (.imul, 1) := by decide +kernel
theorem dX4_winner_24 : decode cX4_winner 24 = .ok (.iload_n 1, 1) := by decide +kernel
theorem dX4_winner_25 : decode cX4_winner 25 = .ok (.iadd, 1) := by decide +kernel
theorem dX4_winner_26 : decode cX4_winner 26 = .ok (.iaload, 1) := by decide +kernel
theorem dX4_winner_27 : decode cX4_winner 27 = .ok (.istore 5, 2) := by decide +kernel
theorem dX4_winner_29 : decode cX4_winner 29 = .ok (.iload 5, 2) := by decide +kernel
theorem dX4_winner_31 : decode cX4_winner 31 = .ok (.iconst (-1), 1) := by decide +kernel
theorem dX4_winner_32 : decode cX4_winner 32 = .ok (.if_icmp .eq 19, 3) := by decide +kernel
theorem dX4_winner_35 : decode cX4_winner 35 = .ok (.iload_n 2, 1) := by decide +kernel
theorem dX4_winner_36 : decode cX4_winner 36 = .ok (.ifCond .lt 9, 3) := by decide +kernel
theorem dX4_winner_39 : decode cX4_winner 39 = .ok (.iload 5, 2) := by decide +kernel
theorem dX4_winner_41 : decode cX4_winner 41 = .ok (.iload_n 3, 1) := by decide +kernel
theorem dX4_winner_42 : decode cX4_winner 42 = .ok (.if_icmp .ge 9, 3) := by decide +kernel
theorem dX4_winner_45 : decode cX4_winner 45 = .ok (.iload 4, 2) := by decide +kernel
theorem dX4_winner_47 : decode cX4_winner 47 = .ok (.istore_n 2, 1) := by decide +kernel
theorem dX4_winner_48 : decode cX4_winner 48 = .ok (.iload 5, 2) := by decide +kernel
theorem dX4_winner_50 : decode cX4_winner 50 = .ok (.istore_n 3, 1) := by decide +kernel
theorem dX4_winner_51 : decode cX4_winner 51 = .ok (.iinc 4 1, 3) := by decide +kernel
theorem dX4_winner_54 : decode cX4_winner 54 = .ok (.goto (-47), 3) := by decide +kernel
theorem dX4_winner_57 : decode cX4_winner 57 = .ok (.iload_n 2, 1) := by decide +kernel
theorem dX4_winner_58 : decode cX4_winner 58 = .ok (.ireturn, 1) := by decide +kernel
theorem dX4_price_0 : decode cX4_price 0 = .ok (.aload_n 0, 1) := by decide +kernel
theorem dX4_price_1 : decode cX4_price 1 = .ok (.iload_n 1, 1) := by decide +kernel
theorem dX4_price_2 : decode cX4_price 2 = .ok (.invokevirtual 40, 3) := by decide +kernel
theorem dX4_price_5 : decode cX4_price 5 = .ok (.istore_n 2, 1) := by decide +kernel
theorem dX4_price_6 : decode cX4_price 6 = .ok (.iload_n 2, 1) := by decide +kernel
theorem dX4_price_7 : decode cX4_price 7 = .ok (.ifCond .ge 7, 3) := by decide +kernel
theorem dX4_price_10 : decode cX4_price 10 = .ok (.iconst 0, 1) := by decide +kernel
theorem dX4_price_11 : decode cX4_price 11 = .ok (.goto 13, 3) := by decide +kernel
theorem dX4_price_14 : decode cX4_price 14 = .ok (.aload_n 0, 1) := by decide +kernel
theorem dX4_price_15 : decode cX4_price 15 = .ok (.getfield 24, 3) := by decide +kernel
theorem dX4_price_18 : decode cX4_price 18 = .ok (.iload_n 2, 1) := by decide +kernel
theorem dX4_price_19 : decode cX4_price 19 = .ok (.iconst 4, 1) := by decide +kernel
theorem dX4_price_20 : decode cX4_price 20 = .ok (.imul, 1) := by decide +kernel
theorem dX4_price_21 : decode cX4_price 21 = .ok (.iload_n 1, 1) := by decide +kernel
theorem dX4_price_22 : decode cX4_price 22 = .ok (.iadd, 1) := by decide +kernel
theorem dX4_price_23 : decode cX4_price 23 = .ok (.iaload, 1) := by decide +kernel
theorem dX4_price_24 : decode cX4_price 24 = .ok (.ireturn, 1) := by decide +kernel
theorem dX4_allBottles_0 : decode cX4_allBottles 0 = .ok (.iconst 0, 1) := by decide +kernel
theorem dX4_allBottles_1 : decode cX4_allBottles 1 = .ok (.istore_n 1, 1) := by decide +kernel
theorem dX4_allBottles_2 : decode cX4_allBottles 2 = .ok (.iconst 0, 1) := by decide +kernel
theorem dX4_allBottles_3 : decode cX4_allBottles 3 = .ok (.istore_n 2, 1) := by decide +kernel
theorem dX4_allBottles_4 : decode cX4_allBottles 4 = .ok (.iload_n 2, 1) := by decide +kernel
theorem dX4_allBottles_5 : decode cX4_allBottles 5 = .ok (.aload_n 0, 1) := by decide +kernel
theorem dX4_allBottles_6 : decode cX4_allBottles 6 = .ok (.getfield 36, 3) := by decide +kernel
theorem dX4_allBottles_9 : decode cX4_allBottles 9 = .ok (.if_icmp .ge 18, 3) := by decide +kernel
theorem dX4_allBottles_12 : decode cX4_allBottles 12 = .ok (.iload_n 1, 1) := by decide +kernel
theorem dX4_allBottles_13 : decode cX4_allBottles 13 = .ok (.aload_n 0, 1) := by decide +kernel
theorem dX4_allBottles_14 : decode cX4_allBottles 14 = .ok (.getfield 18, 3) := by decide +kernel
theorem dX4_allBottles_17 : decode cX4_allBottles 17 = .ok (.iload_n 2, 1) := by decide +kernel
theorem dX4_allBottles_18 : decode cX4_allBottles 18 = .ok (.iaload, 1) := by decide +kernel
theorem dX4_allBottles_19 : decode cX4_allBottles 19 = .ok (.iadd, 1) := by decide +kernel
theorem dX4_allBottles_20 : decode cX4_allBottles 20 = .ok (.istore_n 1, 1) := by decide +kernel
theorem dX4_allBottles_21 : decode cX4_allBottles 21 = .ok (.iinc 2 1, 3) := by decide +kernel
theorem dX4_allBottles_24 : decode cX4_allBottles 24 = .ok (.goto (-20), 3) := by decide +kernel
theorem dX4_allBottles_27 : decode cX4_allBottles 27 = .ok (.iload_n 1, 1) := by decide +kernel
theorem dX4_allBottles_28 : decode cX4_allBottles 28 = .ok (.ireturn, 1) := by decide +kernel
theorem dX4_stock_0 : decode cX4_stock 0 = .ok (.aload_n 0, 1) := by decide +kernel
theorem dX4_stock_1 : decode cX4_stock 1 = .ok (.getfield 18, 3) := by decide +kernel
theorem dX4_stock_4 : decode cX4_stock 4 = .ok (.iload_n 1, 1) := by decide +kernel
theorem dX4_stock_5 : decode cX4_stock 5 = .ok (.dup2, 1) := by decide +kernel
theorem dX4_stock_6 : decode cX4_stock 6 = .ok (.iaload, 1) := by decide +kernel
theorem dX4_stock_7 : decode cX4_stock 7 = .ok (.iload_n 2, 1) := by decide +kernel
theorem dX4_stock_8 : decode cX4_stock 8 = .ok (.iadd, 1) := by decide +kernel
theorem dX4_stock_9 : decode cX4_stock 9 = .ok (.iastore, 1) := by decide +kernel
theorem dX4_stock_10 : decode cX4_stock 10 = .ok (.aload_n 0, 1) := by decide +kernel
theorem dX4_stock_11 : decode cX4_stock 11 = .ok (.getfield 30, 3) := by decide +kernel
theorem dX4_stock_14 : decode cX4_stock 14 = .ok (.iload_n 1, 1) := by decide +kernel
theorem dX4_stock_15 : decode cX4_stock 15 = .ok (.aload_n 0, 1) := by decide +kernel
theorem dX4_stock_16 : decode cX4_stock 16 = .ok (.getfield 18, 3) := by decide +kernel
theorem dX4_stock_19 : decode cX4_stock 19 = .ok (.iload_n 1, 1) := by decide +kernel
theorem dX4_stock_20 : decode cX4_stock 20 = .ok (.iaload, 1) := by decide +kernel
theorem dX4_stock_21 : decode cX4_stock 21 = .ok (.iastore, 1) := by decide +kernel
theorem dX4_stock_22 : decode cX4_stock 22 = .ok (.return_, 1) := by decide +kernel
theorem dX4_openDay_0 : decode cX4_openDay 0 = .ok (.iconst 0, 1) := by decide +kernel
theorem dX4_openDay_1 : decode cX4_openDay 1 = .ok (.istore_n 1, 1) := by decide +kernel
theorem dX4_openDay_2 : decode cX4_openDay 2 = .ok (.iload_n 1, 1) := by decide +kernel
theorem dX4_openDay_3 : decode cX4_openDay 3 = .ok (.aload_n 0, 1) := by decide +kernel
theorem dX4_openDay_4 : decode cX4_openDay 4 = .ok (.getfield 36, 3) := by decide +kernel
theorem dX4_openDay_7 : decode cX4_openDay 7 = .ok (.if_icmp .ge 28, 3) := by decide +kernel
theorem dX4_openDay_10 : decode cX4_openDay 10 = .ok (.aload_n 0, 1) := by decide +kernel
theorem dX4_openDay_11 : decode cX4_openDay 11 = .ok (.getfield 33, 3) := by decide +kernel
theorem dX4_openDay_14 : decode cX4_openDay 14 = .ok (.iload_n 1, 1) := by decide +kernel
theorem dX4_openDay_15 : decode cX4_openDay 15 = .ok (.aload_n 0, 1) := by decide +kernel
theorem dX4_openDay_16 : decode cX4_openDay 16 = .ok (.getfield 21, 3) := by decide +kernel
theorem dX4_openDay_19 : decode cX4_openDay 19 = .ok (.iload_n 1, 1) := by decide +kernel
theorem dX4_openDay_20 : decode cX4_openDay 20 = .ok (.iaload, 1) := by decide +kernel
theorem dX4_openDay_21 : decode cX4_openDay 21 = .ok (.iastore, 1) := by decide +kernel
theorem dX4_openDay_22 : decode cX4_openDay 22 = .ok (.aload_n 0, 1) := by decide +kernel
theorem dX4_openDay_23 : decode cX4_openDay 23 = .ok (.getfield 27, 3) := by decide +kernel
theorem dX4_openDay_26 : decode cX4_openDay 26 = .ok (.iload_n 1, 1) := by decide +kernel
theorem dX4_openDay_27 : decode cX4_openDay 27 = .ok (.iconst 0, 1) := by decide +kernel
theorem dX4_openDay_28 : decode cX4_openDay 28 = .ok (.iastore, 1) := by decide +kernel
theorem dX4_openDay_29 : decode cX4_openDay 29 = .ok (.iinc 1 1, 3) := by decide +kernel
theorem dX4_openDay_32 : decode cX4_openDay 32 = .ok (.goto (-30), 3) := by decide +kernel
theorem dX4_openDay_35 : decode cX4_openDay 35 = .ok (.return_, 1) := by decide +kernel
theorem dX4_send_0 : decode cX4_send 0 = .ok (.iload_n 2, 1) := by decide +kernel
theorem dX4_send_1 : decode cX4_send 1 = .ok (.aload_n 0, 1) := by decide +kernel
theorem dX4_send_2 : decode cX4_send 2 = .ok (.getfield 33, 3) := by decide +kernel
theorem dX4_send_5 : decode cX4_send 5 = .ok (.iload_n 1, 1) := by decide +kernel
theorem dX4_send_6 : decode cX4_send 6 = .ok (.iaload, 1) := by decide +kernel
theorem dX4_send_7 : decode cX4_send 7 = .ok (.aload_n 0, 1) := by decide +kernel
theorem dX4_send_8 : decode cX4_send 8 = .ok (.getfield 18, 3) := by decide +kernel
theorem dX4_send_11 : decode cX4_send 11 = .ok (.iload_n 1, 1) := by decide +kernel
theorem dX4_send_12 : decode cX4_send 12 = .ok (.iaload, 1) := by decide +kernel
theorem dX4_send_13 : decode cX4_send 13 = .ok (.invokestatic 44, 3) := by decide +kernel
theorem dX4_send_16 : decode cX4_send 16 = .ok (.invokestatic 44, 3) := by decide +kernel
theorem dX4_send_19 : decode cX4_send 19 = .ok (.istore_n 3, 1) := by decide +kernel
theorem dX4_send_20 : decode cX4_send 20 = .ok (.aload_n 0, 1) := by decide +kernel
theorem dX4_send_21 : decode cX4_send 21 = .ok (.getfield 33, 3) := by decide +kernel
theorem dX4_send_24 : decode cX4_send 24 = .ok (.iload_n 1, 1) := by decide +kernel
theorem dX4_send_25 : decode cX4_send 25 = .ok (.dup2, 1) := by decide +kernel
theorem dX4_send_26 : decode cX4_send 26 = .ok (.iaload, 1) := by decide +kernel
theorem dX4_send_27 : decode cX4_send 27 = .ok (.iload_n 3, 1) := by decide +kernel
theorem dX4_send_28 : decode cX4_send 28 = .ok (.isub, 1) := by decide +kernel
theorem dX4_send_29 : decode cX4_send 29 = .ok (.iastore, 1) := by decide +kernel
theorem dX4_send_30 : decode cX4_send 30 = .ok (.aload_n 0, 1) := by decide +kernel
theorem dX4_send_31 : decode cX4_send 31 = .ok (.getfield 18, 3) := by decide +kernel
theorem dX4_send_34 : decode cX4_send 34 = .ok (.iload_n 1, 1) := by decide +kernel
theorem dX4_send_35 : decode cX4_send 35 = .ok (.dup2, 1) := by decide +kernel
theorem dX4_send_36 : decode cX4_send 36 = .ok (.iaload, 1) := by decide +kernel
theorem dX4_send_37 : decode cX4_send 37 = .ok (.iload_n 3, 1) := by decide +kernel
theorem dX4_send_38 : decode cX4_send 38 = .ok (.isub, 1) := by decide +kernel
theorem dX4_send_39 : decode cX4_send 39 = .ok (.iastore, 1) := by decide +kernel
theorem dX4_send_40 : decode cX4_send 40 = .ok (.aload_n 0, 1) := by decide +kernel
theorem dX4_send_41 : decode cX4_send 41 = .ok (.getfield 30, 3) := by decide +kernel
theorem dX4_send_44 : decode cX4_send 44 = .ok (.iload_n 1, 1) := by decide +kernel
theorem dX4_send_45 : decode cX4_send 45 = .ok (.aload_n 0, 1) := by decide +kernel
theorem dX4_send_46 : decode cX4_send 46 = .ok (.getfield 30, 3) := by decide +kernel
theorem dX4_send_49 : decode cX4_send 49 = .ok (.iload_n 1, 1) := by decide +kernel
theorem dX4_send_50 : decode cX4_send 50 = .ok (.iaload, 1) := by decide +kernel
theorem dX4_send_51 : decode cX4_send 51 = .ok (.aload_n 0, 1) := by decide +kernel
theorem dX4_send_52 : decode cX4_send 52 = .ok (.getfield 18, 3) := by decide +kernel
theorem dX4_send_55 : decode cX4_send 55 = .ok (.iload_n 1, 1) := by decide +kernel
theorem dX4_send_56 : decode cX4_send 56 = .ok (.iaload, 1) := by decide +kernel
theorem dX4_send_57 : decode cX4_send 57 = .ok (.invokestatic 44, 3) := by decide +kernel
theorem dX4_send_60 : decode cX4_send 60 = .ok (.iastore, 1) := by decide +kernel
theorem dX4_send_61 : decode cX4_send 61 = .ok (.iload_n 3, 1) := by decide +kernel
theorem dX4_send_62 : decode cX4_send 62 = .ok (.ireturn, 1) := by decide +kernel
theorem dX4_closeDay_0 : decode cX4_closeDay 0 = .ok (.iconst 0, 1) := by decide +kernel
theorem dX4_closeDay_1 : decode cX4_closeDay 1 = .ok (.istore_n 1, 1) := by decide +kernel
theorem dX4_closeDay_2 : decode cX4_closeDay 2 = .ok (.iload_n 1, 1) := by decide +kernel
theorem dX4_closeDay_3 : decode cX4_closeDay 3 = .ok (.aload_n 0, 1) := by decide +kernel
theorem dX4_closeDay_4 : decode cX4_closeDay 4 = .ok (.getfield 36, 3) := by decide +kernel
theorem dX4_closeDay_7 : decode cX4_closeDay 7 = .ok (.if_icmp .ge 24, 3) := by decide +kernel
theorem dX4_closeDay_10 : decode cX4_closeDay 10 = .ok (.aload_n 0, 1) := by decide +kernel
theorem dX4_closeDay_11 : decode cX4_closeDay 11 = .ok (.getfield 18, 3) := by decide +kernel
theorem dX4_closeDay_14 : decode cX4_closeDay 14 = .ok (.iload_n 1, 1) := by decide +kernel
theorem dX4_closeDay_15 : decode cX4_closeDay 15 = .ok (.dup2, 1) := by decide +kernel
theorem dX4_closeDay_16 : decode cX4_closeDay 16 = .ok (.iaload, 1) := by decide +kernel
theorem dX4_closeDay_17 : decode cX4_closeDay 17 = .ok (.aload_n 0, 1) := by decide +kernel
theorem dX4_closeDay_18 : decode cX4_closeDay 18 = .ok (.getfield 27, 3) := by decide +kernel
theorem dX4_closeDay_21 : decode cX4_closeDay 21 = .ok (.iload_n 1, 1) := by decide +kernel
theorem dX4_closeDay_22 : decode cX4_closeDay 22 = .ok (.iaload, 1) := by decide +kernel
theorem dX4_closeDay_23 : decode cX4_closeDay 23 = .ok (.iadd, 1) := by decide +kernel
theorem dX4_closeDay_24 : decode cX4_closeDay 24 = .ok (.iastore, 1) := by decide +kernel
theorem dX4_closeDay_25 : decode cX4_closeDay 25 = .ok (.iinc 1 1, 3) := by decide +kernel
theorem dX4_closeDay_28 : decode cX4_closeDay 28 = .ok (.goto (-26), 3) := by decide +kernel
theorem dX4_closeDay_31 : decode cX4_closeDay 31 = .ok (.return_, 1) := by decide +kernel
theorem dX4_copyFrom_0 : decode cX4_copyFrom 0 = .ok (.aload_n 0, 1) := by decide +kernel
theorem dX4_copyFrom_1 : decode cX4_copyFrom 1 = .ok (.aload_n 1, 1) := by decide +kernel
theorem dX4_copyFrom_2 : decode cX4_copyFrom 2 = .ok (.getfield 36, 3) := by decide +kernel
theorem dX4_copyFrom_5 : decode cX4_copyFrom 5 = .ok (.putfield 36, 3) := by decide +kernel
theorem dX4_copyFrom_8 : decode cX4_copyFrom 8 = .ok (.aload_n 1, 1) := by decide +kernel
theorem dX4_copyFrom_9 : decode cX4_copyFrom 9 = .ok (.getfield 9, 3) := by decide +kernel
theorem dX4_copyFrom_12 : decode cX4_copyFrom 12 = .ok (.aload_n 0, 1) := by decide +kernel
theorem dX4_copyFrom_13 : decode cX4_copyFrom 13 = .ok (.getfield 9, 3) := by decide +kernel
theorem dX4_copyFrom_16 : decode cX4_copyFrom 16 = .ok (.invokestatic 50, 3) := by decide +kernel
theorem dX4_copyFrom_19 : decode cX4_copyFrom 19 = .ok (.aload_n 1, 1) := by decide +kernel
theorem dX4_copyFrom_20 : decode cX4_copyFrom 20 = .ok (.getfield 15, 3) := by decide +kernel
theorem dX4_copyFrom_23 : decode cX4_copyFrom 23 = .ok (.aload_n 0, 1) := by decide +kernel
theorem dX4_copyFrom_24 : decode cX4_copyFrom 24 = .ok (.getfield 15, 3) := by decide +kernel
theorem dX4_copyFrom_27 : decode cX4_copyFrom 27 = .ok (.invokestatic 50, 3) := by decide +kernel
theorem dX4_copyFrom_30 : decode cX4_copyFrom 30 = .ok (.aload_n 1, 1) := by decide +kernel
theorem dX4_copyFrom_31 : decode cX4_copyFrom 31 = .ok (.getfield 18, 3) := by decide +kernel
theorem dX4_copyFrom_34 : decode cX4_copyFrom 34 = .ok (.aload_n 0, 1) := by decide +kernel
theorem dX4_copyFrom_35 : decode cX4_copyFrom 35 = .ok (.getfield 18, 3) := by decide +kernel
theorem dX4_copyFrom_38 : decode cX4_copyFrom 38 = .ok (.invokestatic 50, 3) := by decide +kernel
theorem dX4_copyFrom_41 : decode cX4_copyFrom 41 = .ok (.aload_n 1, 1) := by decide +kernel
theorem dX4_copyFrom_42 : decode cX4_copyFrom 42 = .ok (.getfield 21, 3) := by decide +kernel
theorem dX4_copyFrom_45 : decode cX4_copyFrom 45 = .ok (.aload_n 0, 1) := by decide +kernel
theorem dX4_copyFrom_46 : decode cX4_copyFrom 46 = .ok (.getfield 21, 3) := by decide +kernel
theorem dX4_copyFrom_49 : decode cX4_copyFrom 49 = .ok (.invokestatic 50, 3) := by decide +kernel
theorem dX4_copyFrom_52 : decode cX4_copyFrom 52 = .ok (.aload_n 1, 1) := by decide +kernel
theorem dX4_copyFrom_53 : decode cX4_copyFrom 53 = .ok (.getfield 24, 3) := by decide +kernel
theorem dX4_copyFrom_56 : decode cX4_copyFrom 56 = .ok (.aload_n 0, 1) := by decide +kernel
theorem dX4_copyFrom_57 : decode cX4_copyFrom 57 = .ok (.getfield 24, 3) := by decide +kernel
theorem dX4_copyFrom_60 : decode cX4_copyFrom 60 = .ok (.invokestatic 50, 3) := by decide +kernel
theorem dX4_copyFrom_63 : decode cX4_copyFrom 63 = .ok (.return_, 1) := by decide +kernel
theorem dX5_init_0 : decode cX5_init 0 = .ok (.aload_n 0, 1) := by decide +kernel
theorem dX5_init_1 : decode cX5_init 1 = .ok (.invokespecial 3, 3) := by decide +kernel
theorem dX5_init_4 : decode cX5_init 4 = .ok (.aload_n 0, 1) := by decide +kernel
theorem dX5_init_5 : decode cX5_init 5 = .ok (.bipush 16, 2) := by decide +kernel
theorem dX5_init_7 : decode cX5_init 7 = .ok (.newarray .int, 2) := by decide +kernel
theorem dX5_init_9 : decode cX5_init 9 = .ok (.putfield 9, 3) := by decide +kernel
theorem dX5_init_12 : decode cX5_init 12 = .ok (.aload_n 0, 1) := by decide +kernel
theorem dX5_init_13 : decode cX5_init 13 = .ok (.bipush 16, 2) := by decide +kernel
theorem dX5_init_15 : decode cX5_init 15 = .ok (.newarray .int, 2) := by decide +kernel
theorem dX5_init_17 : decode cX5_init 17 = .ok (.putfield 15, 3) := by decide +kernel
theorem dX5_init_20 : decode cX5_init 20 = .ok (.aload_n 0, 1) := by decide +kernel
theorem dX5_init_21 : decode cX5_init 21 = .ok (.bipush 16, 2) := by decide +kernel
theorem dX5_init_23 : decode cX5_init 23 = .ok (.newarray .int, 2) := by decide +kernel
theorem dX5_init_25 : decode cX5_init 25 = .ok (.putfield 18, 3) := by decide +kernel
theorem dX5_init_28 : decode cX5_init 28 = .ok (.aload_n 0, 1) := by decide +kernel
theorem dX5_init_29 : decode cX5_init 29 = .ok (.sipush 192, 3) := by decide +kernel
theorem dX5_init_32 : decode cX5_init 32 = .ok (.newarray .int, 2) := by decide +kernel
theorem dX5_init_34 : decode cX5_init 34 = .ok (.putfield 21, 3) := by decide +kernel
theorem dX5_init_37 : decode cX5_init 37 = .ok (.return_, 1) := by decide +kernel
theorem dX5_tell_0 : decode cX5_tell 0 = .ok (.aload_n 0, 1) := by decide +kernel
theorem dX5_tell_1 : decode cX5_tell 1 = .ok (.iload_n 1, 1) := by decide +kernel
theorem dX5_tell_2 : decode cX5_tell 2 = .ok (.invokevirtual 24, 3) := by decide +kernel
theorem dX5_tell_5 : decode cX5_tell 5 = .ok (.istore 4, 2) := by decide +kernel
theorem dX5_tell_7 : decode cX5_tell 7 = .ok (.iload_n 3, 1) := by decide +kernel
theorem dX5_tell_8 : decode cX5_tell 8 = .ok (.iconst 3, 1) := by decide +kernel
theorem dX5_tell_9 : decode cX5_tell 9 = .ok (.iload_n 3, 1) := by decide +kernel
theorem dX5_tell_10 : decode cX5_tell 10 = .ok (.bipush 7, 2) := by decide +kernel
theorem dX5_tell_12 : decode cX5_tell 12 = .ok (.irem, 1) := by decide +kernel
theorem dX5_tell_13 : decode cX5_tell 13 = .ok (.isub, 1) := by decide +kernel
theorem dX5_tell_14 : decode cX5_tell 14 = .ok (.bipush 7, 2) := by decide +kernel
theorem dX5_tell_16 : decode cX5_tell 16 = .ok (.iadd, 1) := by decide +kernel
theorem dX5_tell_17 : decode cX5_tell 17 = .ok (.bipush 7, 2) := by decide +kernel
theorem dX5_tell_19 : decode cX5_tell 19 = .ok (.irem, 1) := by decide +kernel
theorem dX5_tell_20 : decode cX5_tell 20 = .ok (.iadd, 1) := by decide +kernel
theorem dX5_tell_21 : decode cX5_tell 21 = .ok (.istore 5, 2) := by decide +kernel
theorem dX5_tell_23 : decode cX5_tell 23 = .ok (.aload_n 0, 1) := by decide +kernel
theorem dX5_tell_24 : decode cX5_tell 24 = .ok (.getfield 9, 3) := by decide +kernel
theorem dX5_tell_27 : decode cX5_tell 27 = .ok (.aload_n 0, 1) := by decide +kernel
theorem dX5_tell_28 : decode cX5_tell 28 = .ok (.getfield 28, 3) := by decide +kernel
theorem dX5_tell_31 : decode cX5_tell 31 = .ok (.iload_n 1, 1) := by decide +kernel
theorem dX5_tell_32 : decode cX5_tell 32 = .ok (.iastore, 1) := by decide +kernel
theorem dX5_tell_33 : decode cX5_tell 33 = .ok (.aload_n 0, 1) := by decide +kernel
theorem dX5_tell_34 : decode cX5_tell 34 = .ok (.getfield 15, 3) := by decide +kernel
theorem dX5_tell_37 : decode cX5_tell 37 = .ok (.aload_n 0, 1) := by decide +kernel
theorem dX5_tell_38 : decode cX5_tell 38 = .ok (.getfield 28, 3) := by decide +kernel
theorem dX5_tell_41 : decode cX5_tell 41 = .ok (.iload_n 3, 1) := by decide +kernel
theorem dX5_tell_42 : decode cX5_tell 42 = .ok (.iastore, 1) := by decide +kernel
theorem dX5_tell_43 : decode cX5_tell 43 = .ok (.aload_n 0, 1) := by decide +kernel
theorem dX5_tell_44 : decode cX5_tell 44 = .ok (.getfield 18, 3) := by decide +kernel
theorem dX5_tell_47 : decode cX5_tell 47 = .ok (.aload_n 0, 1) := by decide +kernel
theorem dX5_tell_48 : decode cX5_tell 48 = .ok (.getfield 28, 3) := by decide +kernel
theorem dX5_tell_51 : decode cX5_tell 51 = .ok (.iload 5, 2) := by decide +kernel
theorem dX5_tell_53 : decode cX5_tell 53 = .ok (.iconst 4, 1) := by decide +kernel
theorem dX5_tell_54 : decode cX5_tell 54 = .ok (.iadd, 1) := by decide +kernel
theorem dX5_tell_55 : decode cX5_tell 55 = .ok (.iastore, 1) := by decide +kernel
theorem dX5_tell_56 : decode cX5_tell 56 = .ok (.iconst 0, 1) := by decide +kernel
theorem dX5_tell_57 : decode cX5_tell 57 = .ok (.istore 6, 2) := by decide +kernel
theorem dX5_tell_59 : decode cX5_tell 59 = .ok (.iload 6, 2) := by decide +kernel
theorem dX5_tell_61 : decode cX5_tell 61 = .ok (.bipush 12, 2) := by decide +kernel
theorem dX5_tell_63 : decode cX5_tell 63 = .ok (.if_icmp .ge 105, 3) := by decide +kernel
theorem dX5_tell_66 : decode cX5_tell 66 = .ok (.iload 4, 2) := by decide +kernel
theorem dX5_tell_68 : decode cX5_tell 68 = .ok (.ifCond .ge 7, 3) := by decide +kernel
theorem dX5_tell_71 : decode cX5_tell 71 = .ok (.iconst 0, 1) := by decide +kernel
theorem dX5_tell_72 : decode cX5_tell 72 = .ok (.goto 16, 3) := by decide +kernel
theorem dX5_tell_75 : decode cX5_tell 75 = .ok (.aload_n 0, 1) := by decide +kernel
theorem dX5_tell_76 : decode cX5_tell 76 = .ok (.getfield 21, 3) := by decide +kernel
theorem dX5_tell_79 : decode cX5_tell 79 = .ok (.iload 4, 2) := by decide +kernel
theorem dX5_tell_81 : decode cX5_tell 81 = .ok (.bipush 12, 2) := by decide +kernel
theorem dX5_tell_83 : decode cX5_tell 83 = .ok (.imul, 1) := by decide +kernel
theorem dX5_tell_84 : decode cX5_tell 84 = .ok (.iload 6, 2) := by decide +kernel
theorem dX5_tell_86 : decode cX5_tell 86 = .ok (.iadd, 1) := by decide +kernel
theorem dX5_tell_87 : decode cX5_tell 87 = .ok (.iaload, 1) := by decide +kernel
theorem dX5_tell_88 : decode cX5_tell 88 = .ok (.istore 7, 2) := by decide +kernel
theorem dX5_tell_90 : decode cX5_tell 90 = .ok (.iload 6, 2) := by decide +kernel
theorem dX5_tell_92 : decode cX5_tell 92 = .ok (.aload_n 2, 1) := by decide +kernel
theorem dX5_tell_93 : decode cX5_tell 93 = .ok (.getfield 32, 3) := by decide +kernel
theorem dX5_tell_96 : decode cX5_tell 96 = .ok (.if_icmp .ge 17, 3) := by decide +kernel
theorem dX5_tell_99 : decode cX5_tell 99 = .ok (.aload_n 2, 1) := by decide +kernel
theorem dX5_tell_100 : decode cX5_tell 100 = .ok (.getfield 37, 3) := by decide +kernel
theorem dX5_tell_103 : decode cX5_tell 103 = .ok (.iload 6, 2) := by decide +kernel
theorem dX5_tell_105 : decode cX5_tell 105 = .ok (.iaload, 1) := by decide +kernel
theorem dX5_tell_106 : decode cX5_tell 106 = .ok (.aload_n 2, 1) := by decide +kernel
theorem dX5_tell_107 : decode cX5_tell 107 = .ok (.invokevirtual 40, 3) := by decide +kernel
theorem dX5_tell_110 : decode cX5_tell 110 = .ok (.if_icmp .ne 7, 3) := by decide +kernel
theorem dX5_tell_113 : decode cX5_tell 113 = .ok (.iconst 1, 1) := by decide +kernel
theorem dX5_tell_114 : decode cX5_tell 114 = .ok (.goto 4, 3) := by decide +kernel
theorem dX5_tell_117 : decode cX5_tell 117 = .ok (.iconst 0, 1) := by decide +kernel
theorem dX5_tell_118 : decode cX5_tell 118 = .ok (.istore 8, 2) := by decide +kernel
theorem dX5_tell_120 : decode cX5_tell 120 = .ok (.aload_n 0, 1) := by decide +kernel
theorem dX5_tell_121 : decode cX5_tell 121 = .ok (.getfield 21, 3) := by decide +kernel
theorem dX5_tell_124 : decode cX5_tell 124 = .ok (.aload_n 0, 1) := by decide +kernel
theorem dX5_tell_125 : decode cX5_tell 125 = .ok (.getfield 28, 3) := by decide +kernel
theorem dX5_tell_128 : decode cX5_tell 128 = .ok (.bipush 12, 2) := by decide +kernel
theorem dX5_tell_130 : decode cX5_tell 130 = .ok (.imul, 1) := by decide +kernel
theorem dX5_tell_131 : decode cX5_tell 131 = .ok (.iload 6, 2) := by decide +kernel
theorem dX5_tell_133 : decode cX5_tell 133 = .ok (.iadd, 1) := by decide +kernel
theorem dX5_tell_134 : decode cX5_tell 134 = .ok (.iload 8, 2) := by decide +kernel
theorem dX5_tell_136 : decode cX5_tell 136 = .ok (.ifCond .eq 8, 3) := by decide +kernel
theorem dX5_tell_139 : decode cX5_tell 139 = .ok (.iload 7, 2) := by decide +kernel
theorem dX5_tell_141 : decode cX5_tell 141 = .ok (.goto 20, 3) := by decide +kernel
theorem dX5_tell_144 : decode cX5_tell 144 = .ok (.iconst 0, 1) := by decide +kernel
theorem dX5_tell_145 : decode cX5_tell 145 = .ok (.sipush 200, 3) := by decide +kernel
theorem dX5_tell_148 : decode cX5_tell 148 = .ok (.aload_n 2, 1) := by decide +kernel
theorem dX5_tell_149 : decode cX5_tell 149 = .ok (.getfield 37, 3) := by decide +kernel
theorem dX5_tell_152 : decode cX5_tell 152 = .ok (.iload 6, 2) := by decide +kernel
theorem dX5_tell_154 : decode cX5_tell 154 = .ok (.iaload, 1) := by decide +kernel
theorem dX5_tell_155 : decode cX5_tell 155 = .ok (.invokestatic 44, 3) := by decide +kernel
theorem dX5_tell_158 : decode cX5_tell 158 = .ok (.invokestatic 50, 3) := by decide +kernel
theorem dX5_tell_161 : decode cX5_tell 161 = .ok (.iastore, 1) := by decide +kernel
theorem dX5_tell_162 : decode cX5_tell 162 = .ok (.iinc 6 1, 3) := by decide +kernel
theorem dX5_tell_165 : decode cX5_tell 165 = .ok (.goto (-106), 3) := by decide +kernel
theorem dX5_tell_168 : decode cX5_tell 168 = .ok (.aload_n 0, 1) := by decide +kernel
theorem dX5_tell_169 : decode cX5_tell 169 = .ok (.dup, 1) := by decide +kernel
theorem dX5_tell_170 : decode cX5_tell 170 = .ok (.getfield 28, 3) := by decide +kernel
theorem dX5_tell_173 : decode cX5_tell 173 = .ok (.iconst 1, 1) := by decide +kernel
theorem dX5_tell_174 : decode cX5_tell 174 = .ok (.iadd, 1) := by decide +kernel
theorem dX5_tell_175 : decode cX5_tell 175 = .ok (.putfield 28, 3) := by decide +kernel
theorem dX5_tell_178 : decode cX5_tell 178 = .ok (.iload 5, 2) := by decide +kernel
theorem dX5_tell_180 : decode cX5_tell 180 = .ok (.iconst 4, 1) := by decide +kernel
theorem dX5_tell_181 : decode cX5_tell 181 = .ok (.iadd, 1) := by decide +kernel
theorem dX5_tell_182 : decode cX5_tell 182 = .ok (.ireturn, 1) := by decide +kernel
theorem dX5_lastOf_0 : decode cX5_lastOf 0 = .ok (.aload_n 0, 1) := by decide +kernel
theorem dX5_lastOf_1 : decode cX5_lastOf 1 = .ok (.getfield 28, 3) := by decide +kernel
theorem dX5_lastOf_4 : decode cX5_lastOf 4 = .ok (.iconst 1, 1) := by decide +kernel
theorem dX5_lastOf_5 : decode cX5_lastOf 5 = .ok (.isub, 1) := by decide +kernel
theorem dX5_lastOf_6 : decode cX5_lastOf 6 = .ok (.istore_n 2, 1) := by decide +kernel
theorem dX5_lastOf_7 : decode cX5_lastOf 7 = .ok (.iload_n 2, 1) := by decide +kernel
theorem dX5_lastOf_8 : decode cX5_lastOf 8 = .ok (.ifCond .lt 21, 3) := by decide +kernel
theorem dX5_lastOf_11 : decode cX5_lastOf 11 = .ok (.aload_n 0, 1) := by decide +kernel
theorem dX5_lastOf_12 : decode cX5_lastOf 12 = .ok (.getfield 9, 3) := by decide +kernel
theorem dX5_lastOf_15 : decode cX5_lastOf 15 = .ok (.iload_n 2, 1) := by decide +kernel
theorem dX5_lastOf_16 : decode cX5_lastOf 16 = .ok (.iaload, 1) := by decide +kernel
theorem dX5_lastOf_17 : decode cX5_lastOf 17 = .ok (.iload_n 1, 1) := by decide +kernel
theorem dX5_lastOf_18 : decode cX5_lastOf 18 = .ok (.if_icmp .ne 5, 3) := by decide +kernel
theorem dX5_lastOf_21 : decode cX5_lastOf 21 = .ok (.iload_n 2, 1) := by decide +kernel
theorem dX5_lastOf_22 : decode cX5_lastOf 22 = .ok (.ireturn, 1) := by decide +kernel
theorem dX5_lastOf_23 : decode cX5_lastOf 23 = .ok (.iinc 2 (-1), 3) := by decide +kernel
theorem dX5_lastOf_26 : decode cX5_lastOf 26 = .ok (.goto (-19), 3) := by decide +kernel
theorem dX5_lastOf_29 : decode cX5_lastOf 29 = .ok (.iconst (-1), 1) := by decide +kernel
theorem dX5_lastOf_30 : decode cX5_lastOf 30 = .ok (.ireturn, 1) := by decide +kernel
theorem dX5_counting_0 : decode cX5_counting 0 = .ok (.aload_n 0, 1) := by decide +kernel
theorem dX5_counting_1 : decode cX5_counting 1 = .ok (.getfield 28, 3) := by decide +kernel
theorem dX5_counting_4 : decode cX5_counting 4 = .ok (.iconst 1, 1) := by decide +kernel
theorem dX5_counting_5 : decode cX5_counting 5 = .ok (.isub, 1) := by decide +kernel
theorem dX5_counting_6 : decode cX5_counting 6 = .ok (.istore 5, 2) := by decide +kernel
theorem dX5_counting_8 : decode cX5_counting 8 = .ok (.iload 5, 2) := by decide +kernel
theorem dX5_counting_10 : decode cX5_counting 10 = .ok (.ifCond .lt 56, 3) := by decide +kernel
theorem dX5_counting_13 : decode cX5_counting 13 = .ok (.aload_n 0, 1) := by decide +kernel
theorem dX5_counting_14 : decode cX5_counting 14 = .ok (.getfield 9, 3) := by decide +kernel
theorem dX5_counting_17 : decode cX5_counting 17 = .ok (.iload 5, 2) := by decide +kernel
theorem dX5_counting_19 : decode cX5_counting 19 = .ok (.iaload, 1) := by decide +kernel
theorem dX5_counting_20 : decode cX5_counting 20 = .ok (.iload_n 2, 1) := by decide +kernel
theorem dX5_counting_21 : decode cX5_counting 21 = .ok (.if_icmp .ne 39, 3) := by decide +kernel
theorem dX5_counting_24 : decode cX5_counting 24 = .ok (.aload_n 0, 1) := by decide +kernel
theorem dX5_counting_25 : decode cX5_counting 25 = .ok (.getfield 15, 3) := by decide +kernel
theorem dX5_counting_28 : decode cX5_counting 28 = .ok (.iload 5, 2) := by decide +kernel
theorem dX5_counting_30 : decode cX5_counting 30 = .ok (.iaload, 1) := by decide +kernel
theorem dX5_counting_31 : decode cX5_counting 31 = .ok (.iload 4, 2) := by decide +kernel
theorem dX5_counting_33 : decode cX5_counting 33 = .ok (.if_icmp .gt 27, 3) := by decide +kernel
theorem dX5_counting_36 : decode cX5_counting 36 = .ok (.aload_n 0, 1) := by decide +kernel
theorem dX5_counting_37 : decode cX5_counting 37 = .ok (.getfield 18, 3) := by decide +kernel
theorem dX5_counting_40 : decode cX5_counting 40 = .ok (.iload 5, 2) := by decide +kernel
theorem dX5_counting_42 : decode cX5_counting 42 = .ok (.iaload, 1) := by decide +kernel
theorem dX5_counting_43 : decode cX5_counting 43 = .ok (.iload_n 3, 1) := by decide +kernel
theorem dX5_counting_44 : decode cX5_counting 44 = .ok (.if_icmp .gt 16, 3) := by decide +kernel
theorem dX5_counting_47 : decode cX5_counting 47 = .ok (.aload_n 0, 1) := by decide +kernel
theorem dX5_counting_48 : decode cX5_counting 48 = .ok (.getfield 21, 3) := by decide +kernel
theorem dX5_counting_51 : decode cX5_counting 51 = .ok (.iload 5, 2) := by decide +kernel
theorem dX5_counting_53 : decode cX5_counting 53 = .ok (.bipush 12, 2) := by decide +kernel
theorem dX5_counting_55 : decode cX5_counting 55 = .ok (.imul, 1) := by decide +kernel
theorem dX5_counting_56 : decode cX5_counting 56 = .ok (.iload_n 1, 1) := by decide +kernel
theorem dX5_counting_57 : decode cX5_counting 57 = .ok (.iadd, 1) := by decide +kernel
theorem dX5_counting_58 : decode cX5_counting 58 = .ok (.iaload, 1) := by decide +kernel
theorem dX5_counting_59 : decode cX5_counting 59 = .ok (.ireturn, 1) := by decide +kernel
theorem dX5_counting_60 : decode cX5_counting 60 = .ok (.iinc 5 (-1), 3) := by decide +kernel
theorem dX5_counting_63 : decode cX5_counting 63 = .ok (.goto (-55), 3) := by decide +kernel
theorem dX5_counting_66 : decode cX5_counting 66 = .ok (.iconst 0, 1) := by decide +kernel
theorem dX5_counting_67 : decode cX5_counting 67 = .ok (.ireturn, 1) := by decide +kernel
theorem dX5_copyFrom_0 : decode cX5_copyFrom 0 = .ok (.aload_n 0, 1) := by decide +kernel
theorem dX5_copyFrom_1 : decode cX5_copyFrom 1 = .ok (.aload_n 1, 1) := by decide +kernel
theorem dX5_copyFrom_2 : decode cX5_copyFrom 2 = .ok (.getfield 28, 3) := by decide +kernel
theorem dX5_copyFrom_5 : decode cX5_copyFrom 5 = .ok (.putfield 28, 3) := by decide +kernel
theorem dX5_copyFrom_8 : decode cX5_copyFrom 8 = .ok (.aload_n 1, 1) := by decide +kernel
theorem dX5_copyFrom_9 : decode cX5_copyFrom 9 = .ok (.getfield 9, 3) := by decide +kernel
theorem dX5_copyFrom_12 : decode cX5_copyFrom 12 = .ok (.aload_n 0, 1) := by decide +kernel
theorem dX5_copyFrom_13 : decode cX5_copyFrom 13 = .ok (.getfield 9, 3) := by decide +kernel
theorem dX5_copyFrom_16 : decode cX5_copyFrom 16 = .ok (.invokestatic 53, 3) := by decide +kernel
theorem dX5_copyFrom_19 : decode cX5_copyFrom 19 = .ok (.aload_n 1, 1) := by decide +kernel
theorem dX5_copyFrom_20 : decode cX5_copyFrom 20 = .ok (.getfield 15, 3) := by decide +kernel
theorem dX5_copyFrom_23 : decode cX5_copyFrom 23 = .ok (.aload_n 0, 1) := by decide +kernel
theorem dX5_copyFrom_24 : decode cX5_copyFrom 24 = .ok (.getfield 15, 3) := by decide +kernel
theorem dX5_copyFrom_27 : decode cX5_copyFrom 27 = .ok (.invokestatic 53, 3) := by decide +kernel
theorem dX5_copyFrom_30 : decode cX5_copyFrom 30 = .ok (.aload_n 1, 1) := by decide +kernel
theorem dX5_copyFrom_31 : decode cX5_copyFrom 31 = .ok (.getfield 18, 3) := by decide +kernel
theorem dX5_copyFrom_34 : decode cX5_copyFrom 34 = .ok (.aload_n 0, 1) := by decide +kernel
theorem dX5_copyFrom_35 : decode cX5_copyFrom 35 = .ok (.getfield 18, 3) := by decide +kernel
theorem dX5_copyFrom_38 : decode cX5_copyFrom 38 = .ok (.invokestatic 53, 3) := by decide +kernel
theorem dX5_copyFrom_41 : decode cX5_copyFrom 41 = .ok (.aload_n 1, 1) := by decide +kernel
theorem dX5_copyFrom_42 : decode cX5_copyFrom 42 = .ok (.getfield 21, 3) := by decide +kernel
theorem dX5_copyFrom_45 : decode cX5_copyFrom 45 = .ok (.aload_n 0, 1) := by decide +kernel
theorem dX5_copyFrom_46 : decode cX5_copyFrom 46 = .ok (.getfield 21, 3) := by decide +kernel
theorem dX5_copyFrom_49 : decode cX5_copyFrom 49 = .ok (.invokestatic 53, 3) := by decide +kernel
theorem dX5_copyFrom_52 : decode cX5_copyFrom 52 = .ok (.return_, 1) := by decide +kernel
theorem dX6_init_0 : decode cX6_init 0 = .ok (.aload_n 0, 1) := by decide +kernel
theorem dX6_init_1 : decode cX6_init 1 = .ok (.invokespecial 3, 3) := by decide +kernel
theorem dX6_init_4 : decode cX6_init 4 = .ok (.aload_n 0, 1) := by decide +kernel
theorem dX6_init_5 : decode cX6_init 5 = .ok (.bipush 30, 2) := by decide +kernel
theorem dX6_init_7 : decode cX6_init 7 = .ok (.newarray .int, 2) := by decide +kernel
theorem dX6_init_9 : decode cX6_init 9 = .ok (.putfield 9, 3) := by decide +kernel
theorem dX6_init_12 : decode cX6_init 12 = .ok (.aload_n 0, 1) := by decide +kernel
theorem dX6_init_13 : decode cX6_init 13 = .ok (.bipush 30, 2) := by decide +kernel
theorem dX6_init_15 : decode cX6_init 15 = .ok (.newarray .int, 2) := by decide +kernel
theorem dX6_init_17 : decode cX6_init 17 = .ok (.putfield 15, 3) := by decide +kernel
theorem dX6_init_20 : decode cX6_init 20 = .ok (.aload_n 0, 1) := by decide +kernel
theorem dX6_init_21 : decode cX6_init 21 = .ok (.bipush 30, 2) := by decide +kernel
theorem dX6_init_23 : decode cX6_init 23 = .ok (.newarray .int, 2) := by decide +kernel
theorem dX6_init_25 : decode cX6_init 25 = .ok (.putfield 18, 3) := by decide +kernel
theorem dX6_init_28 : decode cX6_init 28 = .ok (.return_, 1) := by decide +kernel
theorem dX6_draw_0 : decode cX6_draw 0 = .ok (.aload_n 0, 1) := by decide +kernel
theorem dX6_draw_1 : decode cX6_draw 1 = .ok (.getfield 9, 3) := by decide +kernel
theorem dX6_draw_4 : decode cX6_draw 4 = .ok (.aload_n 0, 1) := by decide +kernel
theorem dX6_draw_5 : decode cX6_draw 5 = .ok (.getfield 21, 3) := by decide +kernel
theorem dX6_draw_8 : decode cX6_draw 8 = .ok (.iload_n 1, 1) := by decide +kernel
theorem dX6_draw_9 : decode cX6_draw 9 = .ok (.iastore, 1) := by decide +kernel
theorem dX6_draw_10 : decode cX6_draw 10 = .ok (.aload_n 0, 1) := by decide +kernel
theorem dX6_draw_11 : decode cX6_draw 11 = .ok (.getfield 15, 3) := by decide +kernel
theorem dX6_draw_14 : decode cX6_draw 14 = .ok (.aload_n 0, 1) := by decide +kernel
theorem dX6_draw_15 : decode cX6_draw 15 = .ok (.getfield 21, 3) := by decide +kernel
theorem dX6_draw_18 : decode cX6_draw 18 = .ok (.iload_n 2, 1) := by decide +kernel
theorem dX6_draw_19 : decode cX6_draw 19 = .ok (.iastore, 1) := by decide +kernel
theorem dX6_draw_20 : decode cX6_draw 20 = .ok (.aload_n 0, 1) := by decide +kernel
theorem dX6_draw_21 : decode cX6_draw 21 = .ok (.getfield 18, 3) := by decide +kernel
theorem dX6_draw_24 : decode cX6_draw 24 = .ok (.aload_n 0, 1) := by decide +kernel
theorem dX6_draw_25 : decode cX6_draw 25 = .ok (.getfield 21, 3) := by decide +kernel
theorem dX6_draw_28 : decode cX6_draw 28 = .ok (.iload_n 3, 1) := by decide +kernel
theorem dX6_draw_29 : decode cX6_draw 29 = .ok (.iastore, 1) := by decide +kernel
theorem dX6_draw_30 : decode cX6_draw 30 = .ok (.aload_n 0, 1) := by decide +kernel
theorem dX6_draw_31 : decode cX6_draw 31 = .ok (.dup, 1) := by decide +kernel
theorem dX6_draw_32 : decode cX6_draw 32 = .ok (.getfield 21, 3) := by decide +kernel
theorem dX6_draw_35 : decode cX6_draw 35 = .ok (.iconst 1, 1) := by decide +kernel
theorem dX6_draw_36 : decode cX6_draw 36 = .ok (.iadd, 1) := by decide +kernel
theorem dX6_draw_37 : decode cX6_draw 37 = .ok (.putfield 21, 3) := by decide +kernel
theorem dX6_draw_40 : decode cX6_draw 40 = .ok (.aload_n 0, 1) := by decide +kernel
theorem dX6_draw_41 : decode cX6_draw 41 = .ok (.getfield 21, 3) := by decide +kernel
theorem dX6_draw_44 : decode cX6_draw 44 = .ok (.ireturn, 1) := by decide +kernel
theorem dX6_copyFrom_0 : decode cX6_copyFrom 0 = .ok (.aload_n 0, 1) := by decide +kernel
theorem dX6_copyFrom_1 : decode cX6_copyFrom 1 = .ok (.aload_n 1, 1) := by decide +kernel
theorem dX6_copyFrom_2 : decode cX6_copyFrom 2 = .ok (.getfield 21, 3) := by decide +kernel
theorem dX6_copyFrom_5 : decode cX6_copyFrom 5 = .ok (.putfield 21, 3) := by decide +kernel
theorem dX6_copyFrom_8 : decode cX6_copyFrom 8 = .ok (.aload_n 1, 1) := by decide +kernel
theorem dX6_copyFrom_9 : decode cX6_copyFrom 9 = .ok (.getfield 9, 3) := by decide +kernel
theorem dX6_copyFrom_12 : decode cX6_copyFrom 12 = .ok (.aload_n 0, 1) := by decide +kernel
theorem dX6_copyFrom_13 : decode cX6_copyFrom 13 = .ok (.getfield 9, 3) := by decide +kernel
theorem dX6_copyFrom_16 : decode cX6_copyFrom 16 = .ok (.invokestatic 25, 3) := by decide +kernel
theorem dX6_copyFrom_19 : decode cX6_copyFrom 19 = .ok (.aload_n 1, 1) := by decide +kernel
theorem dX6_copyFrom_20 : decode cX6_copyFrom 20 = .ok (.getfield 15, 3) := by decide +kernel
theorem dX6_copyFrom_23 : decode cX6_copyFrom 23 = .ok (.aload_n 0, 1) := by decide +kernel
theorem dX6_copyFrom_24 : decode cX6_copyFrom 24 = .ok (.getfield 15, 3) := by decide +kernel
theorem dX6_copyFrom_27 : decode cX6_copyFrom 27 = .ok (.invokestatic 25, 3) := by decide +kernel
theorem dX6_copyFrom_30 : decode cX6_copyFrom 30 = .ok (.aload_n 1, 1) := by decide +kernel
theorem dX6_copyFrom_31 : decode cX6_copyFrom 31 = .ok (.getfield 18, 3) := by decide +kernel
theorem dX6_copyFrom_34 : decode cX6_copyFrom 34 = .ok (.aload_n 0, 1) := by decide +kernel
theorem dX6_copyFrom_35 : decode cX6_copyFrom 35 = .ok (.getfield 18, 3) := by decide +kernel
theorem dX6_copyFrom_38 : decode cX6_copyFrom 38 = .ok (.invokestatic 25, 3) := by decide +kernel
theorem dX6_copyFrom_41 : decode cX6_copyFrom 41 = .ok (.return_, 1) := by decide +kernel
theorem dX7_init_0 : decode cX7_init 0 = .ok (.aload_n 0, 1) := by decide +kernel
theorem dX7_init_1 : decode cX7_init 1 = .ok (.invokespecial 3, 3) := by decide +kernel
theorem dX7_init_4 : decode cX7_init 4 = .ok (.aload_n 0, 1) := by decide +kernel
theorem dX7_init_5 : decode cX7_init 5 = .ok (.bipush 7, 2) := by decide +kernel
theorem dX7_init_7 : decode cX7_init 7 = .ok (.newarray .int, 2) := by decide +kernel
theorem dX7_init_9 : decode cX7_init 9 = .ok (.putfield 9, 3) := by decide +kernel
theorem dX7_init_12 : decode cX7_init 12 = .ok (.aload_n 0, 1) := by decide +kernel
theorem dX7_init_13 : decode cX7_init 13 = .ok (.bipush 7, 2) := by decide +kernel
theorem dX7_init_15 : decode cX7_init 15 = .ok (.newarray .int, 2) := by decide +kernel
theorem dX7_init_17 : decode cX7_init 17 = .ok (.putfield 15, 3) := by decide +kernel
theorem dX7_init_20 : decode cX7_init 20 = .ok (.aload_n 0, 1) := by decide +kernel
theorem dX7_init_21 : decode cX7_init 21 = .ok (.bipush 7, 2) := by decide +kernel
theorem dX7_init_23 : decode cX7_init 23 = .ok (.newarray .int, 2) := by decide +kernel
theorem dX7_init_25 : decode cX7_init 25 = .ok (.putfield 18, 3) := by decide +kernel
theorem dX7_init_28 : decode cX7_init 28 = .ok (.aload_n 0, 1) := by decide +kernel
theorem dX7_init_29 : decode cX7_init 29 = .ok (.bipush 7, 2) := by decide +kernel
theorem dX7_init_31 : decode cX7_init 31 = .ok (.newarray .int, 2) := by decide +kernel
theorem dX7_init_33 : decode cX7_init 33 = .ok (.putfield 21, 3) := by decide +kernel
theorem dX7_init_36 : decode cX7_init 36 = .ok (.aload_n 0, 1) := by decide +kernel
theorem dX7_init_37 : decode cX7_init 37 = .ok (.bipush 7, 2) := by decide +kernel
theorem dX7_init_39 : decode cX7_init 39 = .ok (.newarray .int, 2) := by decide +kernel
theorem dX7_init_41 : decode cX7_init 41 = .ok (.putfield 24, 3) := by decide +kernel
theorem dX7_init_44 : decode cX7_init 44 = .ok (.aload_n 0, 1) := by decide +kernel
theorem dX7_init_45 : decode cX7_init 45 = .ok (.bipush 7, 2) := by decide +kernel
theorem dX7_init_47 : decode cX7_init 47 = .ok (.newarray .int, 2) := by decide +kernel
theorem dX7_init_49 : decode cX7_init 49 = .ok (.putfield 27, 3) := by decide +kernel
theorem dX7_init_52 : decode cX7_init 52 = .ok (.return_, 1) := by decide +kernel
theorem dX7_takeStops_0 : decode cX7_takeStops 0 = .ok (.aload_n 0, 1) := by decide +kernel
theorem dX7_takeStops_1 : decode cX7_takeStops 1 = .ok (.iconst 0, 1) := by decide +kernel
theorem dX7_takeStops_2 : decode cX7_takeStops 2 = .ok (.putfield 30, 3) := by decide +kernel
theorem dX7_takeStops_5 : decode cX7_takeStops 5 = .ok (.aload_n 1, 1) := by decide +kernel
theorem dX7_takeStops_6 : decode cX7_takeStops 6 = .ok (.getfield 34, 3) := by decide +kernel
theorem dX7_takeStops_9 : decode cX7_takeStops 9 = .ok (.iconst 1, 1) := by decide +kernel
theorem dX7_takeStops_10 : decode cX7_takeStops 10 = .ok (.if_icmp .lt 12, 3) := by decide +kernel
theorem dX7_takeStops_13 : decode cX7_takeStops 13 = .ok (.aload_n 1, 1) := by decide +kernel
theorem dX7_takeStops_14 : decode cX7_takeStops 14 = .ok (.getfield 34, 3) := by decide +kernel
theorem dX7_takeStops_17 : decode cX7_takeStops 17 = .ok (.bipush 7, 2) := by decide +kernel
theorem dX7_takeStops_19 : decode cX7_takeStops 19 = .ok (.if_icmp .le 5, 3) := by decide +kernel
theorem dX7_takeStops_22 : decode cX7_takeStops 22 = .ok (.iconst 0, 1) := by decide +kernel
theorem dX7_takeStops_23 : decode cX7_takeStops 23 = .ok (.ireturn, 1) := by decide +kernel
theorem dX7_takeStops_24 : decode cX7_takeStops 24 = .ok (.iconst 0, 1) := by decide +kernel
theorem dX7_takeStops_25 : decode cX7_takeStops 25 = .ok (.istore_n 3, 1) := by decide +kernel
theorem dX7_takeStops_26 : decode cX7_takeStops 26 = .ok (.iconst 0, 1) := by decide +kernel
theorem dX7_takeStops_27 : decode cX7_takeStops 27 = .ok (.istore 4, 2) := by decide +kernel
theorem dX7_takeStops_29 : decode cX7_takeStops 29 = .ok (.iload 4, 2) := by decide +kernel
theorem dX7_takeStops_31 : decode cX7_takeStops 31 = .ok (.aload_n 1, 1) := by decide +kernel
theorem dX7_takeStops_32 : decode cX7_takeStops 32 = .ok (.getfield 34, 3) := by decide +kernel
theorem dX7_takeStops_35 : decode cX7_takeStops 35 = .ok (.if_icmp .ge 46, 3) := by decide +kernel
theorem dX7_takeStops_38 : decode cX7_takeStops 38 = .ok (.aload_n 1, 1) := by decide +kernel
theorem dX7_takeStops_39 : decode cX7_takeStops 39 = .ok (.getfield 39, 3) := by decide +kernel
theorem dX7_takeStops_42 : decode cX7_takeStops 42 = .ok (.iload 4, 2) := by decide +kernel
theorem dX7_takeStops_44 : decode cX7_takeStops 44 = .ok (.iaload, 1) := by decide +kernel
theorem dX7_takeStops_45 : decode cX7_takeStops 45 = .ok (.istore 5, 2) := by decide +kernel
theorem dX7_takeStops_47 : decode cX7_takeStops 47 = .ok (.aload_n 2, 1) := by decide +kernel
theorem dX7_takeStops_48 : decode cX7_takeStops 48 = .ok (.iload 5, 2) := by decide +kernel
theorem dX7_takeStops_50 : decode cX7_takeStops 50 = .ok (.invokevirtual 42, 3) := by decide +kernel
theorem dX7_takeStops_53 : decode cX7_takeStops 53 = .ok (.ifCond .eq 13, 3) := by decide +kernel
theorem dX7_takeStops_56 : decode cX7_takeStops 56 = .ok (.iload_n 3, 1) := by decide +kernel
theorem dX7_takeStops_57 : decode cX7_takeStops 57 = .ok (.iload 5, 2) := by decide +kernel
theorem dX7_takeStops_59 : decode cX7_takeStops 59 = .ok (.ishr, 1) := by decide +kernel
theorem dX7_takeStops_60 : decode cX7_takeStops 60 = .ok (.iconst 1, 1) := by decide +kernel
theorem dX7_takeStops_61 : decode cX7_takeStops 61 = .ok (.iand, 1) := by decide +kernel
theorem dX7_takeStops_62 : decode cX7_takeStops 62 = .ok (.iconst 1, 1) := by decide +kernel
theorem dX7_takeStops_63 : decode cX7_takeStops 63 = .ok (.if_icmp .ne 5, 3) := by decide +kernel
theorem dX7_takeStops_66 : decode cX7_takeStops 66 = .ok (.iconst 0, 1) := by decide +kernel
theorem dX7_takeStops_67 : decode cX7_takeStops 67 = .ok (.ireturn, 1) := by decide +kernel
theorem dX7_takeStops_68 : decode cX7_takeStops 68 = .ok (.iload_n 3, 1) := by decide +kernel
theorem dX7_takeStops_69 : decode cX7_takeStops 69 = .ok (.iconst 1, 1) := by decide +kernel
theorem dX7_takeStops_70 : decode cX7_takeStops 70 = .ok (.iload 5, 2) := by decide +kernel
theorem dX7_takeStops_72 : decode cX7_takeStops 72 = .ok (.ishl, 1) := by decide +kernel
theorem dX7_takeStops_73 : decode cX7_takeStops 73 = .ok (.ior, 1) := by decide +kernel
theorem dX7_takeStops_74 : decode cX7_takeStops 74 = .ok (.istore_n 3, 1) := by decide +kernel
theorem dX7_takeStops_75 : decode cX7_takeStops 75 = .ok (.iinc 4 1, 3) := by decide +kernel
theorem dX7_takeStops_78 : decode cX7_takeStops 78 = .ok (.goto (-49), 3) := by decide +kernel
theorem dX7_takeStops_81 : decode cX7_takeStops 81 = .ok (.iconst 0, 1) := by decide +kernel
theorem dX7_takeStops_82 : decode cX7_takeStops 82 = .ok (.istore 4, 2) := by decide +kernel
theorem dX7_takeStops_84 : decode cX7_takeStops 84 = .ok (.iload 4, 2) := by decide +kernel
theorem dX7_takeStops_86 : decode cX7_takeStops 86 = .ok (.aload_n 2, 1) := by decide +kernel
theorem dX7_takeStops_87 : decode cX7_takeStops 87 = .ok (.getfield 48, 3) := by decide +kernel
theorem dX7_takeStops_90 : decode cX7_takeStops 90 = .ok (.if_icmp .ge 97, 3) := by decide +kernel
theorem dX7_takeStops_93 : decode cX7_takeStops 93 = .ok (.aload_n 0, 1) := by decide +kernel
theorem dX7_takeStops_94 : decode cX7_takeStops 94 = .ok (.getfield 30, 3) := by decide +kernel
theorem dX7_takeStops_97 : decode cX7_takeStops 97 = .ok (.bipush 7, 2) := by decide +kernel
theorem dX7_takeStops_99 : decode cX7_takeStops 99 = .ok (.if_icmp .ge 88, 3) := by decide +kernel
theorem dX7_takeStops_102 : decode cX7_takeStops 102 = .ok (.iload_n 3, 1) := by decide +kernel
theorem dX7_takeStops_103 : decode cX7_takeStops 103 = .ok (.iload 4, 2) := by decide +kernel
theorem dX7_takeStops_105 : decode cX7_takeStops 105 = .ok (.ishr, 1) := by decide +kernel
theorem dX7_takeStops_106 : decode cX7_takeStops 106 = .ok (.iconst 1, 1) := by decide +kernel
theorem dX7_takeStops_107 : decode cX7_takeStops 107 = .ok (.iand, 1) := by decide +kernel
theorem dX7_takeStops_108 : decode cX7_takeStops 108 = .ok (.iconst 1, 1) := by decide +kernel
theorem dX7_takeStops_109 : decode cX7_takeStops 109 = .ok (.if_icmp .ne 72, 3) := by decide +kernel
theorem dX7_takeStops_112 : decode cX7_takeStops 112 = .ok (.aload_n 0, 1) := by decide +kernel
theorem dX7_takeStops_113 : decode cX7_takeStops 113 = .ok (.getfield 18, 3) := by decide +kernel
theorem dX7_takeStops_116 : decode cX7_takeStops 116 = .ok (.aload_n 0, 1) := by decide +kernel
theorem dX7_takeStops_117 : decode cX7_takeStops 117 = .ok (.getfield 30, 3) := by decide +kernel
theorem dX7_takeStops_120 : decode cX7_takeStops 120 = .ok (.iload 4, 2) := by decide +kernel
theorem dX7_takeStops_122 : decode cX7_takeStops 122 = .ok (.iastore, 1) := by decide +kernel
theorem dX7_takeStops_123 : decode cX7_takeStops 123 = .ok (.aload_n 0, 1) := by decide +kernel
theorem dX7_takeStops_124 : decode cX7_takeStops 124 = .ok (.getfield 21, 3) := by decide +kernel
theorem dX7_takeStops_127 : decode cX7_takeStops 127 = .ok (.aload_n 0, 1) := by decide +kernel
theorem dX7_takeStops_128 : decode cX7_takeStops 128 = .ok (.getfield 30, 3) := by decide +kernel
theorem dX7_takeStops_131 : decode cX7_takeStops 131 = .ok (.aload_n 2, 1) := by decide +kernel
theorem dX7_takeStops_132 : decode cX7_takeStops 132 = .ok (.getfield 49, 3) := by decide +kernel
theorem dX7_takeStops_135 : decode cX7_takeStops 135 = .ok (.iload 4, 2) := by decide +kernel
theorem dX7_takeStops_137 : decode cX7_takeStops 137 = .ok (.iaload, 1) := by decide +kernel
theorem dX7_takeStops_138 : decode cX7_takeStops 138 = .ok (.iastore, 1) := by decide +kernel
theorem dX7_takeStops_139 : decode cX7_takeStops 139 = .ok (.aload_n 0, 1) := by decide +kernel
theorem dX7_takeStops_140 : decode cX7_takeStops 140 = .ok (.getfield 24, 3) := by decide +kernel
theorem dX7_takeStops_143 : decode cX7_takeStops 143 = .ok (.aload_n 0, 1) := by decide +kernel
theorem dX7_takeStops_144 : decode cX7_takeStops 144 = .ok (.getfield 30, 3) := by decide +kernel
theorem dX7_takeStops_147 : decode cX7_takeStops 147 = .ok (.aload_n 2, 1) := by decide +kernel
theorem dX7_takeStops_148 : decode cX7_takeStops 148 = .ok (.getfield 52, 3) := by decide +kernel
theorem dX7_takeStops_151 : decode cX7_takeStops 151 = .ok (.iload 4, 2) := by decide +kernel
theorem dX7_takeStops_153 : decode cX7_takeStops 153 = .ok (.iaload, 1) := by decide +kernel
theorem dX7_takeStops_154 : decode cX7_takeStops 154 = .ok (.iastore, 1) := by decide +kernel
theorem dX7_takeStops_155 : decode cX7_takeStops 155 = .ok (.aload_n 0, 1) := by decide +kernel
theorem dX7_takeStops_156 : decode cX7_takeStops 156 = .ok (.getfield 27, 3) := by decide +kernel
theorem dX7_takeStops_159 : decode cX7_takeStops 159 = .ok (.aload_n 0, 1) := by decide +kernel
theorem dX7_takeStops_160 : decode cX7_takeStops 160 = .ok (.getfield 30, 3) := by decide +kernel
theorem dX7_takeStops_163 : decode cX7_takeStops 163 = .ok (.aload_n 2, 1) := by decide +kernel
theorem dX7_takeStops_164 : decode cX7_takeStops 164 = .ok (.getfield 55, 3) := by decide +kernel
theorem dX7_takeStops_167 : decode cX7_takeStops 167 = .ok (.iload 4, 2) := by decide +kernel
theorem dX7_takeStops_169 : decode cX7_takeStops 169 = .ok (.iaload, 1) := by decide +kernel
theorem dX7_takeStops_170 : decode cX7_takeStops 170 = .ok (.iastore, 1) := by decide +kernel
theorem dX7_takeStops_171 : decode cX7_takeStops 171 = .ok (.aload_n 0, 1) := by decide +kernel
theorem dX7_takeStops_172 : decode cX7_takeStops 172 = .ok (.dup, 1) := by decide +kernel
theorem dX7_takeStops_173 : decode cX7_takeStops 173 = .ok (.getfield 30, 3) := by decide +kernel
theorem dX7_takeStops_176 : decode cX7_takeStops 176 = .ok (.iconst 1, 1) := by decide +kernel
theorem dX7_takeStops_177 : decode cX7_takeStops 177 = .ok (.iadd, 1) := by decide +kernel
theorem dX7_takeStops_178 : decode cX7_takeStops 178 = .ok (.putfield 30, 3) := by decide +kernel
theorem dX7_takeStops_181 : decode cX7_takeStops 181 = .ok (.iinc 4 1, 3) := by decide +kernel
theorem dX7_takeStops_184 : decode cX7_takeStops 184 = .ok (.goto (-100), 3) := by decide +kernel
theorem dX7_takeStops_187 : decode cX7_takeStops 187 = .ok (.iconst 1, 1) := by decide +kernel
theorem dX7_takeStops_188 : decode cX7_takeStops 188 = .ok (.ireturn, 1) := by decide +kernel
theorem dX7_find_0 : decode cX7_find 0 = .ok (.aload_n 0, 1) := by decide +kernel
theorem dX7_find_1 : decode cX7_find 1 = .ok (.iload_n 1, 1) := by decide +kernel
theorem dX7_find_2 : decode cX7_find 2 = .ok (.putfield 56, 3) := by decide +kernel
theorem dX7_find_5 : decode cX7_find 5 = .ok (.aload_n 0, 1) := by decide +kernel
theorem dX7_find_6 : decode cX7_find 6 = .ok (.iload_n 2, 1) := by decide +kernel
theorem dX7_find_7 : decode cX7_find 7 = .ok (.putfield 59, 3) := by decide +kernel
theorem dX7_find_10 : decode cX7_find 10 = .ok (.aload_n 0, 1) := by decide +kernel
theorem dX7_find_11 : decode cX7_find 11 = .ok (.iload_n 3, 1) := by decide +kernel
theorem dX7_find_12 : decode cX7_find 12 = .ok (.putfield 62, 3) := by decide +kernel
theorem dX7_find_15 : decode cX7_find 15 = .ok (.aload_n 0, 1) := by decide +kernel
theorem dX7_find_16 : decode cX7_find 16 = .ok (.iconst 0, 1) := by decide +kernel
theorem dX7_find_17 : decode cX7_find 17 = .ok (.putfield 65, 3) := by decide +kernel
theorem dX7_find_20 : decode cX7_find 20 = .ok (.aload_n 0, 1) := by decide +kernel
theorem dX7_find_21 : decode cX7_find 21 = .ok (.ldc 68, 2) := by decide +kernel
theorem dX7_find_23 : decode cX7_find 23 = .ok (.putfield 69, 3) := by decide +kernel
theorem dX7_find_26 : decode cX7_find 26 = .ok (.aload_n 0, 1) := by decide +kernel
theorem dX7_find_27 : decode cX7_find 27 = .ok (.iconst 0, 1) := by decide +kernel
theorem dX7_find_28 : decode cX7_find 28 = .ok (.aload_n 0, 1) := by decide +kernel
theorem dX7_find_29 : decode cX7_find 29 = .ok (.getfield 56, 3) := by decide +kernel
theorem dX7_find_32 : decode cX7_find 32 = .ok (.aload_n 0, 1) := by decide +kernel
theorem dX7_find_33 : decode cX7_find 33 = .ok (.getfield 59, 3) := by decide +kernel
theorem dX7_find_36 : decode cX7_find 36 = .ok (.iconst 0, 1) := by decide +kernel
theorem dX7_find_37 : decode cX7_find 37 = .ok (.invokevirtual 72, 3) := by decide +kernel
theorem dX7_find_40 : decode cX7_find 40 = .ok (.aload_n 0, 1) := by decide +kernel
theorem dX7_find_41 : decode cX7_find 41 = .ok (.getfield 69, 3) := by decide +kernel
theorem dX7_find_44 : decode cX7_find 44 = .ok (.ldc 68, 2) := by decide +kernel
theorem dX7_find_46 : decode cX7_find 46 = .ok (.if_icmp .ge 7, 3) := by decide +kernel
theorem dX7_find_49 : decode cX7_find 49 = .ok (.iconst 1, 1) := by decide +kernel
theorem dX7_find_50 : decode cX7_find 50 = .ok (.goto 4, 3) := by decide +kernel
theorem dX7_find_53 : decode cX7_find 53 = .ok (.iconst 0, 1) := by decide +kernel
theorem dX7_find_54 : decode cX7_find 54 = .ok (.ireturn, 1) := by decide +kernel
theorem dX7_bestStop_0 : decode cX7_bestStop 0 = .ok (.iload_n 1, 1) := by decide +kernel
theorem dX7_bestStop_1 : decode cX7_bestStop 1 = .ok (.ifCond .lt 20, 3) := by decide +kernel
theorem dX7_bestStop_4 : decode cX7_bestStop 4 = .ok (.iload_n 1, 1) := by decide +kernel
theorem dX7_bestStop_5 : decode cX7_bestStop 5 = .ok (.aload_n 0, 1) := by decide +kernel
theorem dX7_bestStop_6 : decode cX7_bestStop 6 = .ok (.getfield 30, 3) := by decide +kernel
theorem dX7_bestStop_9 : decode cX7_bestStop 9 = .ok (.if_icmp .ge 12, 3) := by decide +kernel
theorem dX7_bestStop_12 : decode cX7_bestStop 12 = .ok (.aload_n 0, 1) := by decide +kernel
theorem dX7_bestStop_13 : decode cX7_bestStop 13 = .ok (.getfield 9, 3) := by decide +kernel
theorem dX7_bestStop_16 : decode cX7_bestStop 16 = .ok (.iload_n 1, 1) := by decide +kernel
theorem dX7_bestStop_17 : decode cX7_bestStop 17 = .ok (.iaload, 1) := by decide +kernel
theorem dX7_bestStop_18 : decode cX7_bestStop 18 = .ok (.goto 5, 3) := by decide +kernel
theorem dX7_bestStop_21 : decode cX7_bestStop 21 = .ok (.bipush (-4), 2) := by decide +kernel
theorem dX7_bestStop_23 : decode cX7_bestStop 23 = .ok (.ireturn, 1) := by decide +kernel
theorem dX7_goOn_0 : decode cX7_goOn 0 = .ok (.iload_n 1, 1) := by decide +kernel
theorem dX7_goOn_1 : decode cX7_goOn 1 = .ok (.aload_n 0, 1) := by decide +kernel
theorem dX7_goOn_2 : decode cX7_goOn 2 = .ok (.getfield 30, 3) := by decide +kernel
theorem dX7_goOn_5 : decode cX7_goOn 5 = .ok (.if_icmp .lt 35, 3) := by decide +kernel
theorem dX7_goOn_8 : decode cX7_goOn 8 = .ok (.aload_n 0, 1) := by decide +kernel
theorem dX7_goOn_9 : decode cX7_goOn 9 = .ok (.iload 4, 2) := by decide +kernel
theorem dX7_goOn_11 : decode cX7_goOn 11 = .ok (.iload_n 2, 1) := by decide +kernel
theorem dX7_goOn_12 : decode cX7_goOn 12 = .ok (.iload_n 3, 1) := by decide +kernel
theorem dX7_goOn_13 : decode cX7_goOn 13 = .ok (.aload_n 0, 1) := by decide +kernel
theorem dX7_goOn_14 : decode cX7_goOn 14 = .ok (.getfield 56, 3) := by decide +kernel
theorem dX7_goOn_17 : decode cX7_goOn 17 = .ok (.aload_n 0, 1) := by decide +kernel
theorem dX7_goOn_18 : decode cX7_goOn 18 = .ok (.getfield 59, 3) := by decide +kernel
theorem dX7_goOn_21 : decode cX7_goOn 21 = .ok (.invokestatic 76, 3) := by decide +kernel
theorem dX7_goOn_24 : decode cX7_goOn 24 = .ok (.iadd, 1) := by decide +kernel
theorem dX7_goOn_25 : decode cX7_goOn 25 = .ok (.putfield 69, 3) := by decide +kernel
theorem dX7_goOn_28 : decode cX7_goOn 28 = .ok (.aload_n 0, 1) := by decide +kernel
theorem dX7_goOn_29 : decode cX7_goOn 29 = .ok (.getfield 15, 3) := by decide +kernel
theorem dX7_goOn_32 : decode cX7_goOn 32 = .ok (.aload_n 0, 1) := by decide +kernel
theorem dX7_goOn_33 : decode cX7_goOn 33 = .ok (.getfield 9, 3) := by decide +kernel
theorem dX7_goOn_36 : decode cX7_goOn 36 = .ok (.invokestatic 80, 3) := by decide +kernel
theorem dX7_goOn_39 : decode cX7_goOn 39 = .ok (.return_, 1) := by decide +kernel
theorem dX7_goOn_40 : decode cX7_goOn 40 = .ok (.iconst 0, 1) := by decide +kernel
theorem dX7_goOn_41 : decode cX7_goOn 41 = .ok (.istore 5, 2) := by decide +kernel
theorem dX7_goOn_43 : decode cX7_goOn 43 = .ok (.iload 5, 2) := by decide +kernel
theorem dX7_goOn_45 : decode cX7_goOn 45 = .ok (.aload_n 0, 1) := by decide +kernel
theorem dX7_goOn_46 : decode cX7_goOn 46 = .ok (.getfield 30, 3) := by decide +kernel
theorem dX7_goOn_49 : decode cX7_goOn 49 = .ok (.if_icmp .ge 32, 3) := by decide +kernel
theorem dX7_goOn_52 : decode cX7_goOn 52 = .ok (.aload_n 0, 1) := by decide +kernel
theorem dX7_goOn_53 : decode cX7_goOn 53 = .ok (.getfield 65, 3) := by decide +kernel
theorem dX7_goOn_56 : decode cX7_goOn 56 = .ok (.iload 5, 2) := by decide +kernel
theorem dX7_goOn_58 : decode cX7_goOn 58 = .ok (.ishr, 1) := by decide +kernel
theorem dX7_goOn_59 : decode cX7_goOn 59 = .ok (.iconst 1, 1) := by decide +kernel
theorem dX7_goOn_60 : decode cX7_goOn 60 = .ok (.iand, 1) := by decide +kernel
theorem dX7_goOn_61 : decode cX7_goOn 61 = .ok (.ifCond .ne 14, 3) := by decide +kernel
theorem dX7_goOn_64 : decode cX7_goOn 64 = .ok (.aload_n 0, 1) := by decide +kernel
theorem dX7_goOn_65 : decode cX7_goOn 65 = .ok (.iload 5, 2) := by decide +kernel
theorem dX7_goOn_67 : decode cX7_goOn 67 = .ok (.iload_n 1, 1) := by decide +kernel
theorem dX7_goOn_68 : decode cX7_goOn 68 = .ok (.iload_n 2, 1) := by decide +kernel
theorem dX7_goOn_69 : decode cX7_goOn 69 = .ok (.iload_n 3, 1) := by decide +kernel
theorem dX7_goOn_70 : decode cX7_goOn 70 = .ok (.iload 4, 2) := by decide +kernel
theorem dX7_goOn_72 : decode cX7_goOn 72 = .ok (.invokevirtual 84, 3) := by decide +kernel
theorem dX7_goOn_75 : decode cX7_goOn 75 = .ok (.iinc 5 1, 3) := by decide +kernel
theorem dX7_goOn_78 : decode cX7_goOn 78 = .ok (.goto (-35), 3) := by decide +kernel
theorem dX7_goOn_81 : decode cX7_goOn 81 = .ok (.return_, 1) := by decide +kernel
theorem dX7_visit_0 : decode cX7_visit 0 = .ok (.iload 5, 2) := by decide +kernel
theorem dX7_visit_2 : decode cX7_visit 2 = .ok (.iload_n 3, 1) := by decide +kernel
theorem dX7_visit_3 : decode cX7_visit 3 = .ok (.iload 4, 2) := by decide +kernel
theorem dX7_visit_5 : decode cX7_visit 5 = .ok (.aload_n 0, 1) := by decide +kernel
theorem dX7_visit_6 : decode cX7_visit 6 = .ok (.getfield 21, 3) := by decide +kernel
theorem dX7_visit_9 : decode cX7_visit 9 = .ok (.iload_n 1, 1) := by decide +kernel
theorem dX7_visit_10 : decode cX7_visit 10 = .ok (.iaload, 1) := by decide +kernel
theorem dX7_visit_11 : decode cX7_visit 11 = .ok (.aload_n 0, 1) := by decide +kernel
theorem dX7_visit_12 : decode cX7_visit 12 = .ok (.getfield 24, 3) := by decide +kernel
theorem dX7_visit_15 : decode cX7_visit 15 = .ok (.iload_n 1, 1) := by decide +kernel
theorem dX7_visit_16 : decode cX7_visit 16 = .ok (.iaload, 1) := by decide +kernel
theorem dX7_visit_17 : decode cX7_visit 17 = .ok (.invokestatic 76, 3) := by decide +kernel
theorem dX7_visit_20 : decode cX7_visit 20 = .ok (.iadd, 1) := by decide +kernel
theorem dX7_visit_21 : decode cX7_visit 21 = .ok (.istore 6, 2) := by decide +kernel
theorem dX7_visit_23 : decode cX7_visit 23 = .ok (.iload 6, 2) := by decide +kernel
theorem dX7_visit_25 : decode cX7_visit 25 = .ok (.aload_n 0, 1) := by decide +kernel
theorem dX7_visit_26 : decode cX7_visit 26 = .ok (.getfield 21, 3) := by decide +kernel
theorem dX7_visit_29 : decode cX7_visit 29 = .ok (.iload_n 1, 1) := by decide +kernel
theorem dX7_visit_30 : decode cX7_visit 30 = .ok (.iaload, 1) := by decide +kernel
theorem dX7_visit_31 : decode cX7_visit 31 = .ok (.aload_n 0, 1) := by decide +kernel
theorem dX7_visit_32 : decode cX7_visit 32 = .ok (.getfield 24, 3) := by decide +kernel
theorem dX7_visit_35 : decode cX7_visit 35 = .ok (.iload_n 1, 1) := by decide +kernel
theorem dX7_visit_36 : decode cX7_visit 36 = .ok (.iaload, 1) := by decide +kernel
theorem dX7_visit_37 : decode cX7_visit 37 = .ok (.aload_n 0, 1) := by decide +kernel
theorem dX7_visit_38 : decode cX7_visit 38 = .ok (.getfield 56, 3) := by decide +kernel
theorem dX7_visit_41 : decode cX7_visit 41 = .ok (.aload_n 0, 1) := by decide +kernel
theorem dX7_visit_42 : decode cX7_visit 42 = .ok (.getfield 59, 3) := by decide +kernel
theorem dX7_visit_45 : decode cX7_visit 45 = .ok (.invokestatic 76, 3) := by decide +kernel
theorem dX7_visit_48 : decode cX7_visit 48 = .ok (.iadd, 1) := by decide +kernel
theorem dX7_visit_49 : decode cX7_visit 49 = .ok (.istore 7, 2) := by decide +kernel
theorem dX7_visit_51 : decode cX7_visit 51 = .ok (.aload_n 0, 1) := by decide +kernel
theorem dX7_visit_52 : decode cX7_visit 52 = .ok (.getfield 62, 3) := by decide +kernel
theorem dX7_visit_55 : decode cX7_visit 55 = .ok (.iload 6, 2) := by decide +kernel
theorem dX7_visit_57 : decode cX7_visit 57 = .ok (.iadd, 1) := by decide +kernel
theorem dX7_visit_58 : decode cX7_visit 58 = .ok (.aload_n 0, 1) := by decide +kernel
theorem dX7_visit_59 : decode cX7_visit 59 = .ok (.getfield 27, 3) := by decide +kernel
theorem dX7_visit_62 : decode cX7_visit 62 = .ok (.iload_n 1, 1) := by decide +kernel
theorem dX7_visit_63 : decode cX7_visit 63 = .ok (.iaload, 1) := by decide +kernel
theorem dX7_visit_64 : decode cX7_visit 64 = .ok (.if_icmp .gt 12, 3) := by decide +kernel
theorem dX7_visit_67 : decode cX7_visit 67 = .ok (.iload 7, 2) := by decide +kernel
theorem dX7_visit_69 : decode cX7_visit 69 = .ok (.aload_n 0, 1) := by decide +kernel
theorem dX7_visit_70 : decode cX7_visit 70 = .ok (.getfield 69, 3) := by decide +kernel
theorem dX7_visit_73 : decode cX7_visit 73 = .ok (.if_icmp .lt 4, 3) := by decide +kernel
theorem dX7_visit_76 : decode cX7_visit 76 = .ok (.return_, 1) := by decide +kernel
theorem dX7_visit_77 : decode cX7_visit 77 = .ok (.aload_n 0, 1) := by decide +kernel
theorem dX7_visit_78 : decode cX7_visit 78 = .ok (.getfield 15, 3) := by decide +kernel
theorem dX7_visit_81 : decode cX7_visit 81 = .ok (.iload_n 2, 1) := by decide +kernel
theorem dX7_visit_82 : decode cX7_visit 82 = .ok (.aload_n 0, 1) := by decide +kernel
theorem dX7_visit_83 : decode cX7_visit 83 = .ok (.getfield 18, 3) := by decide +kernel
theorem dX7_visit_86 : decode cX7_visit 86 = .ok (.iload_n 1, 1) := by decide +kernel
theorem dX7_visit_87 : decode cX7_visit 87 = .ok (.iaload, 1) := by decide +kernel
theorem dX7_visit_88 : decode cX7_visit 88 = .ok (.iastore, 1) := by decide +kernel
theorem dX7_visit_89 : decode cX7_visit 89 = .ok (.aload_n 0, 1) := by decide +kernel
theorem dX7_visit_90 : decode cX7_visit 90 = .ok (.dup, 1) := by decide +kernel
theorem dX7_visit_91 : decode cX7_visit 91 = .ok (.getfield 65, 3) := by decide +kernel
theorem dX7_visit_94 : decode cX7_visit 94 = .ok (.iconst 1, 1) := by decide +kernel
theorem dX7_visit_95 : decode cX7_visit 95 = .ok (.iload_n 1, 1) := by decide +kernel
theorem dX7_visit_96 : decode cX7_visit 96 = .ok (.ishl, 1) := by decide +kernel
theorem dX7_visit_97 : decode cX7_visit 97 = .ok (.ior, 1) := by decide +kernel
theorem dX7_visit_98 : decode cX7_visit 98 = .ok (.putfield 65, 3) := by decide +kernel
theorem dX7_visit_101 : decode cX7_visit 101 = .ok (.aload_n 0, 1) := by decide +kernel
theorem dX7_visit_102 : decode cX7_visit 102 = .ok (.iload_n 2, 1) := by decide +kernel
theorem dX7_visit_103 : decode cX7_visit 103 = .ok (.iconst 1, 1) := by decide +kernel
theorem dX7_visit_104 : decode cX7_visit 104 = .ok (.iadd, 1) := by decide +kernel
theorem dX7_visit_105 : decode cX7_visit 105 = .ok (.aload_n 0, 1) := by decide +kernel
theorem dX7_visit_106 : decode cX7_visit 106 = .ok (.getfield 21, 3) := by decide +kernel
theorem dX7_visit_109 : decode cX7_visit 109 = .ok (.iload_n 1, 1) := by decide +kernel
theorem dX7_visit_110 : decode cX7_visit 110 = .ok (.iaload, 1) := by decide +kernel
theorem dX7_visit_111 : decode cX7_visit 111 = .ok (.aload_n 0, 1) := by decide +kernel
theorem dX7_visit_112 : decode cX7_visit 112 = .ok (.getfield 24, 3) := by decide +kernel
theorem dX7_visit_115 : decode cX7_visit 115 = .ok (.iload_n 1, 1) := by decide +kernel
theorem dX7_visit_116 : decode cX7_visit 116 = .ok (.iaload, 1) := by decide +kernel
theorem dX7_visit_117 : decode cX7_visit 117 = .ok (.iload 6, 2) := by decide +kernel
theorem dX7_visit_119 : decode cX7_visit 119 = .ok (.invokevirtual 72, 3) := by decide +kernel
theorem dX7_visit_122 : decode cX7_visit 122 = .ok (.aload_n 0, 1) := by decide +kernel
theorem dX7_visit_123 : decode cX7_visit 123 = .ok (.dup, 1) := by decide +kernel
theorem dX7_visit_124 : decode cX7_visit 124 = .ok (.getfield 65, 3) := by decide +kernel
theorem dX7_visit_127 : decode cX7_visit 127 = .ok (.iconst 1, 1) := by decide +kernel
theorem dX7_visit_128 : decode cX7_visit 128 = .ok (.iload_n 1, 1) := by decide +kernel
theorem dX7_visit_129 : decode cX7_visit 129 = .ok (.ishl, 1) := by decide +kernel
theorem dX7_visit_130 : decode cX7_visit 130 = .ok (.iconst (-1), 1) := by decide +kernel
theorem dX7_visit_131 : decode cX7_visit 131 = .ok (.ixor, 1) := by decide +kernel
theorem dX7_visit_132 : decode cX7_visit 132 = .ok (.iand, 1) := by decide +kernel
theorem dX7_visit_133 : decode cX7_visit 133 = .ok (.putfield 65, 3) := by decide +kernel
theorem dX7_visit_136 : decode cX7_visit 136 = .ok (.return_, 1) := by decide +kernel
theorem dX8_init_0 : decode cX8_init 0 = .ok (.aload_n 0, 1) := by decide +kernel
theorem dX8_init_1 : decode cX8_init 1 = .ok (.invokespecial 3, 3) := by decide +kernel
theorem dX8_init_4 : decode cX8_init 4 = .ok (.aload_n 0, 1) := by decide +kernel
theorem dX8_init_5 : decode cX8_init 5 = .ok (.bipush 12, 2) := by decide +kernel
theorem dX8_init_7 : decode cX8_init 7 = .ok (.newarray .int, 2) := by decide +kernel
theorem dX8_init_9 : decode cX8_init 9 = .ok (.putfield 9, 3) := by decide +kernel
theorem dX8_init_12 : decode cX8_init 12 = .ok (.aload_n 0, 1) := by decide +kernel
theorem dX8_init_13 : decode cX8_init 13 = .ok (.bipush 12, 2) := by decide +kernel
theorem dX8_init_15 : decode cX8_init 15 = .ok (.newarray .int, 2) := by decide +kernel
theorem dX8_init_17 : decode cX8_init 17 = .ok (.putfield 15, 3) := by decide +kernel
theorem dX8_init_20 : decode cX8_init 20 = .ok (.aload_n 0, 1) := by decide +kernel
theorem dX8_init_21 : decode cX8_init 21 = .ok (.bipush 12, 2) := by decide +kernel
theorem dX8_init_23 : decode cX8_init 23 = .ok (.newarray .int, 2) := by decide +kernel
theorem dX8_init_25 : decode cX8_init 25 = .ok (.putfield 18, 3) := by decide +kernel
theorem dX8_init_28 : decode cX8_init 28 = .ok (.aload_n 0, 1) := by decide +kernel
theorem dX8_init_29 : decode cX8_init 29 = .ok (.bipush 12, 2) := by decide +kernel
theorem dX8_init_31 : decode cX8_init 31 = .ok (.newarray .int, 2) := by decide +kernel
theorem dX8_init_33 : decode cX8_init 33 = .ok (.putfield 21, 3) := by decide +kernel
theorem dX8_init_36 : decode cX8_init 36 = .ok (.aload_n 0, 1) := by decide +kernel
theorem dX8_init_37 : decode cX8_init 37 = .ok (.bipush 12, 2) := by decide +kernel
theorem dX8_init_39 : decode cX8_init 39 = .ok (.newarray .int, 2) := by decide +kernel
theorem dX8_init_41 : decode cX8_init 41 = .ok (.putfield 24, 3) := by decide +kernel
theorem dX8_init_44 : decode cX8_init 44 = .ok (.aload_n 0, 1) := by decide +kernel
theorem dX8_init_45 : decode cX8_init 45 = .ok (.bipush 12, 2) := by decide +kernel
theorem dX8_init_47 : decode cX8_init 47 = .ok (.newarray .int, 2) := by decide +kernel
theorem dX8_init_49 : decode cX8_init 49 = .ok (.putfield 27, 3) := by decide +kernel
theorem dX8_init_52 : decode cX8_init 52 = .ok (.aload_n 0, 1) := by decide +kernel
theorem dX8_init_53 : decode cX8_init 53 = .ok (.sipush 132, 3) := by decide +kernel
theorem dX8_init_56 : decode cX8_init 56 = .ok (.newarray .int, 2) := by decide +kernel
theorem dX8_init_58 : decode cX8_init 58 = .ok (.putfield 30, 3) := by decide +kernel
theorem dX8_init_61 : decode cX8_init 61 = .ok (.return_, 1) := by decide +kernel
theorem dX8_has_0 : decode cX8_has 0 = .ok (.iload_n 1, 1) := by decide +kernel
theorem dX8_has_1 : decode cX8_has 1 = .ok (.ifCond .lt 15, 3) := by decide +kernel
theorem dX8_has_4 : decode cX8_has 4 = .ok (.iload_n 1, 1) := by decide +kernel
theorem dX8_has_5 : decode cX8_has 5 = .ok (.aload_n 0, 1) := by decide +kernel
theorem dX8_has_6 : decode cX8_has 6 = .ok (.getfield 33, 3) := by decide +kernel
theorem dX8_has_9 : decode cX8_has 9 = .ok (.if_icmp .ge 7, 3) := by decide +kernel
theorem dX8_has_12 : decode cX8_has 12 = .ok (.iconst 1, 1) := by decide +kernel
theorem dX8_has_13 : decode cX8_has 13 = .ok (.goto 4, 3) := by decide +kernel
theorem dX8_has_16 : decode cX8_has 16 = .ok (.iconst 0, 1) := by decide +kernel
theorem dX8_has_17 : decode cX8_has 17 = .ok (.ireturn, 1) := by decide +kernel
theorem dX8_come_0 : decode cX8_come 0 = .ok (.aload_n 0, 1) := by decide +kernel
theorem dX8_come_1 : decode cX8_come 1 = .ok (.getfield 33, 3) := by decide +kernel
theorem dX8_come_4 : decode cX8_come 4 = .ok (.istore_n 3, 1) := by decide +kernel
theorem dX8_come_5 : decode cX8_come 5 = .ok (.aload_n 0, 1) := by decide +kernel
theorem dX8_come_6 : decode cX8_come 6 = .ok (.getfield 9, 3) := by decide +kernel
theorem dX8_come_9 : decode cX8_come 9 = .ok (.iload_n 3, 1) := by decide +kernel
theorem dX8_come_10 : decode cX8_come 10 = .ok (.iload_n 1, 1) := by decide +kernel
theorem dX8_come_11 : decode cX8_come 11 = .ok (.iastore, 1) := by decide +kernel
theorem dX8_come_12 : decode cX8_come 12 = .ok (.aload_n 0, 1) := by decide +kernel
theorem dX8_come_13 : decode cX8_come 13 = .ok (.getfield 15, 3) := by decide +kernel
theorem dX8_come_16 : decode cX8_come 16 = .ok (.iload_n 3, 1) := by decide +kernel
theorem dX8_come_17 : decode cX8_come 17 = .ok (.iload_n 2, 1) := by decide +kernel
theorem dX8_come_18 : decode cX8_come 18 = .ok (.bipush 100, 2) := by decide +kernel
theorem dX8_come_20 : decode cX8_come 20 = .ok (.idiv, 1) := by decide +kernel
theorem dX8_come_21 : decode cX8_come 21 = .ok (.iastore, 1) := by decide +kernel
theorem dX8_come_22 : decode cX8_come 22 = .ok (.aload_n 0, 1) := by decide +kernel
theorem dX8_come_23 : decode cX8_come 23 = .ok (.getfield 18, 3) := by decide +kernel
theorem dX8_come_26 : decode cX8_come 26 = .ok (.iload_n 3, 1) := by decide +kernel
theorem dX8_come_27 : decode cX8_come 27 = .ok (.iload_n 2, 1) := by decide +kernel
theorem dX8_come_28 : decode cX8_come 28 = .ok (.bipush 100, 2) := by decide +kernel
theorem dX8_come_30 : decode cX8_come 30 = .ok (.irem, 1) := by decide +kernel
theorem dX8_come_31 : decode cX8_come 31 = .ok (.iastore, 1) := by decide +kernel
theorem dX8_come_32 : decode cX8_come 32 = .ok (.aload_n 0, 1) := by decide +kernel
theorem dX8_come_33 : decode cX8_come 33 = .ok (.getfield 27, 3) := by decide +kernel
theorem dX8_come_36 : decode cX8_come 36 = .ok (.iload_n 3, 1) := by decide +kernel
theorem dX8_come_37 : decode cX8_come 37 = .ok (.sipush 660, 3) := by decide +kernel
theorem dX8_come_40 : decode cX8_come 40 = .ok (.iastore, 1) := by decide +kernel
theorem dX8_come_41 : decode cX8_come 41 = .ok (.aload_n 0, 1) := by decide +kernel
theorem dX8_come_42 : decode cX8_come 42 = .ok (.dup, 1) := by decide +kernel
theorem dX8_come_43 : decode cX8_come 43 = .ok (.getfield 33, 3) := by decide +kernel
theorem dX8_come_46 : decode cX8_come 46 = .ok (.iconst 1, 1) := by decide +kernel
theorem dX8_come_47 : decode cX8_come 47 = .ok (.iadd, 1) := by decide +kernel
theorem dX8_come_48 : decode cX8_come 48 = .ok (.putfield 33, 3) := by decide +kernel
theorem dX8_come_51 : decode cX8_come 51 = .ok (.iload_n 3, 1) := by decide +kernel
theorem dX8_come_52 : decode cX8_come 52 = .ok (.ireturn, 1) := by decide +kernel
theorem dX8_addTo_0 : decode cX8_addTo 0 = .ok (.aload_n 0, 1) := by decide +kernel
theorem dX8_addTo_1 : decode cX8_addTo 1 = .ok (.getfield 30, 3) := by decide +kernel
theorem dX8_addTo_4 : decode cX8_addTo 4 = .ok (.iload_n 1, 1) := by decide +kernel
theorem dX8_addTo_5 : decode cX8_addTo 5 = .ok (.bipush 11, 2) := by decide +kernel
theorem dX8_addTo_7 : decode cX8_addTo 7 = .ok (.imul, 1) := by decide +kernel
theorem dX8_addTo_8 : decode cX8_addTo 8 = .ok (.iload_n 2, 1) := by decide +kernel
theorem dX8_addTo_9 : decode cX8_addTo 9 = .ok (.iadd, 1) := by decide +kernel
theorem dX8_addTo_10 : decode cX8_addTo 10 = .ok (.dup2, 1) := by decide +kernel
theorem dX8_addTo_11 : decode cX8_addTo 11 = .ok (.iaload, 1) := by decide +kernel
theorem dX8_addTo_12 : decode cX8_addTo 12 = .ok (.iload_n 3, 1) := by decide +kernel
theorem dX8_addTo_13 : decode cX8_addTo 13 = .ok (.iadd, 1) := by decide +kernel
theorem dX8_addTo_14 : decode cX8_addTo 14 = .ok (.iastore, 1) := by decide +kernel
theorem dX8_addTo_15 : decode cX8_addTo 15 = .ok (.return_, 1) := by decide +kernel
theorem dX8_all_0 : decode cX8_all 0 = .ok (.iconst 0, 1) := by decide +kernel
theorem dX8_all_1 : decode cX8_all 1 = .ok (.istore_n 2, 1) := by decide +kernel
theorem dX8_all_2 : decode cX8_all 2 = .ok (.iconst 0, 1) := by decide +kernel
theorem dX8_all_3 : decode cX8_all 3 = .ok (.istore_n 3, 1) := by decide +kernel
theorem dX8_all_4 : decode cX8_all 4 = .ok (.iload_n 3, 1) := by decide +kernel
theorem dX8_all_5 : decode cX8_all 5 = .ok (.aload_n 0, 1) := by decide +kernel
theorem dX8_all_6 : decode cX8_all 6 = .ok (.getfield 33, 3) := by decide +kernel
theorem dX8_all_9 : decode cX8_all 9 = .ok (.if_icmp .ge 23, 3) := by decide +kernel
theorem dX8_all_12 : decode cX8_all 12 = .ok (.iload_n 2, 1) := by decide +kernel
theorem dX8_all_13 : decode cX8_all 13 = .ok (.aload_n 0, 1) := by decide +kernel
theorem dX8_all_14 : decode cX8_all 14 = .ok (.getfield 30, 3) := by decide +kernel
theorem dX8_all_17 : decode cX8_all 17 = .ok (.iload_n 3, 1) := by decide +kernel
theorem dX8_all_18 : decode cX8_all 18 = .ok (.bipush 11, 2) := by decide +kernel
theorem dX8_all_20 : decode cX8_all 20 = .ok (.imul, 1) := by decide +kernel
theorem dX8_all_21 : decode cX8_all 21 = .ok (.iload_n 1, 1) := by decide +kernel
theorem dX8_all_22 : decode cX8_all 22 = .ok (.iadd, 1) := by decide +kernel
theorem dX8_all_23 : decode cX8_all 23 = .ok (.iaload, 1) := by decide +kernel
theorem dX8_all_24 : decode cX8_all 24 = .ok (.iadd, 1) := by decide +kernel
theorem dX8_all_25 : decode cX8_all 25 = .ok (.istore_n 2, 1) := by decide +kernel
theorem dX8_all_26 : decode cX8_all 26 = .ok (.iinc 3 1, 3) := by decide +kernel
theorem dX8_all_29 : decode cX8_all 29 = .ok (.goto (-25), 3) := by decide +kernel
theorem dX8_all_32 : decode cX8_all 32 = .ok (.iload_n 2, 1) := by decide +kernel
theorem dX8_all_33 : decode cX8_all 33 = .ok (.ireturn, 1) := by decide +kernel
theorem dX8_copyFrom_0 : decode cX8_copyFrom 0 = .ok (.aload_n 0, 1) := by decide +kernel
theorem dX8_copyFrom_1 : decode cX8_copyFrom 1 = .ok (.aload_n 1, 1) := by decide +kernel
theorem dX8_copyFrom_2 : decode cX8_copyFrom 2 = .ok (.getfield 33, 3) := by decide +kernel
theorem dX8_copyFrom_5 : decode cX8_copyFrom 5 = .ok (.putfield 33, 3) := by decide +kernel
theorem dX8_copyFrom_8 : decode cX8_copyFrom 8 = .ok (.aload_n 1, 1) := by decide +kernel
theorem dX8_copyFrom_9 : decode cX8_copyFrom 9 = .ok (.getfield 9, 3) := by decide +kernel
theorem dX8_copyFrom_12 : decode cX8_copyFrom 12 = .ok (.aload_n 0, 1) := by decide +kernel
theorem dX8_copyFrom_13 : decode cX8_copyFrom 13 = .ok (.getfield 9, 3) := by decide +kernel
theorem dX8_copyFrom_16 : decode cX8_copyFrom 16 = .ok (.invokestatic 37, 3) := by decide +kernel
theorem dX8_copyFrom_19 : decode cX8_copyFrom 19 = .ok (.aload_n 1, 1) := by decide +kernel
theorem dX8_copyFrom_20 : decode cX8_copyFrom 20 = .ok (.getfield 15, 3) := by decide +kernel
theorem dX8_copyFrom_23 : decode cX8_copyFrom 23 = .ok (.aload_n 0, 1) := by decide +kernel
theorem dX8_copyFrom_24 : decode cX8_copyFrom 24 = .ok (.getfield 15, 3) := by decide +kernel
theorem dX8_copyFrom_27 : decode cX8_copyFrom 27 = .ok (.invokestatic 37, 3) := by decide +kernel
theorem dX8_copyFrom_30 : decode cX8_copyFrom 30 = .ok (.aload_n 1, 1) := by decide +kernel
theorem dX8_copyFrom_31 : decode cX8_copyFrom 31 = .ok (.getfield 18, 3) := by decide +kernel
theorem dX8_copyFrom_34 : decode cX8_copyFrom 34 = .ok (.aload_n 0, 1) := by decide +kernel
theorem dX8_copyFrom_35 : decode cX8_copyFrom 35 = .ok (.getfield 18, 3) := by decide +kernel
theorem dX8_copyFrom_38 : decode cX8_copyFrom 38 = .ok (.invokestatic 37, 3) := by decide +kernel
theorem dX8_copyFrom_41 : decode cX8_copyFrom 41 = .ok (.aload_n 1, 1) := by decide +kernel
theorem dX8_copyFrom_42 : decode cX8_copyFrom 42 = .ok (.getfield 21, 3) := by decide +kernel
theorem dX8_copyFrom_45 : decode cX8_copyFrom 45 = .ok (.aload_n 0, 1) := by decide +kernel
theorem dX8_copyFrom_46 : decode cX8_copyFrom 46 = .ok (.getfield 21, 3) := by decide +kernel
theorem dX8_copyFrom_49 : decode cX8_copyFrom 49 = .ok (.invokestatic 37, 3) := by decide +kernel
theorem dX8_copyFrom_52 : decode cX8_copyFrom 52 = .ok (.aload_n 1, 1) := by decide +kernel
theorem dX8_copyFrom_53 : decode cX8_copyFrom 53 = .ok (.getfield 24, 3) := by decide +kernel
theorem dX8_copyFrom_56 : decode cX8_copyFrom 56 = .ok (.aload_n 0, 1) := by decide +kernel
theorem dX8_copyFrom_57 : decode cX8_copyFrom 57 = .ok (.getfield 24, 3) := by decide +kernel
theorem dX8_copyFrom_60 : decode cX8_copyFrom 60 = .ok (.invokestatic 37, 3) := by decide +kernel
theorem dX8_copyFrom_63 : decode cX8_copyFrom 63 = .ok (.aload_n 1, 1) := by decide +kernel
theorem dX8_copyFrom_64 : decode cX8_copyFrom 64 = .ok (.getfield 27, 3) := by decide +kernel
theorem dX8_copyFrom_67 : decode cX8_copyFrom 67 = .ok (.aload_n 0, 1) := by decide +kernel
theorem dX8_copyFrom_68 : decode cX8_copyFrom 68 = .ok (.getfield 27, 3) := by decide +kernel
theorem dX8_copyFrom_71 : decode cX8_copyFrom 71 = .ok (.invokestatic 37, 3) := by decide +kernel
theorem dX8_copyFrom_74 : decode cX8_copyFrom 74 = .ok (.aload_n 1, 1) := by decide +kernel
theorem dX8_copyFrom_75 : decode cX8_copyFrom 75 = .ok (.getfield 30, 3) := by decide +kernel
theorem dX8_copyFrom_78 : decode cX8_copyFrom 78 = .ok (.aload_n 0, 1) := by decide +kernel
theorem dX8_copyFrom_79 : decode cX8_copyFrom 79 = .ok (.getfield 30, 3) := by decide +kernel
theorem dX8_copyFrom_82 : decode cX8_copyFrom 82 = .ok (.invokestatic 37, 3) := by decide +kernel
theorem dX8_copyFrom_85 : decode cX8_copyFrom 85 = .ok (.return_, 1) := by decide +kernel
theorem dX9_init_0 : decode cX9_init 0 = .ok (.aload_n 0, 1) := by decide +kernel
theorem dX9_init_1 : decode cX9_init 1 = .ok (.invokespecial 3, 3) := by decide +kernel
theorem dX9_init_4 : decode cX9_init 4 = .ok (.aload_n 0, 1) := by decide +kernel
theorem dX9_init_5 : decode cX9_init 5 = .ok (.bipush 80, 2) := by decide +kernel
theorem dX9_init_7 : decode cX9_init 7 = .ok (.newarray .int, 2) := by decide +kernel
theorem dX9_init_9 : decode cX9_init 9 = .ok (.putfield 9, 3) := by decide +kernel
theorem dX9_init_12 : decode cX9_init 12 = .ok (.return_, 1) := by decide +kernel
theorem dX9_isEmpty_0 : decode cX9_isEmpty 0 = .ok (.aload_n 0, 1) := by decide +kernel
theorem dX9_isEmpty_1 : decode cX9_isEmpty 1 = .ok (.getfield 15, 3) := by decide +kernel
theorem dX9_isEmpty_4 : decode cX9_isEmpty 4 = .ok (.ifCond .ne 7, 3) := by decide +kernel
theorem dX9_isEmpty_7 : decode cX9_isEmpty 7 = .ok (.iconst 1, 1) := by decide +kernel
theorem dX9_isEmpty_8 : decode cX9_isEmpty 8 = .ok (.goto 4, 3) := by decide +kernel
theorem dX9_isEmpty_11 : decode cX9_isEmpty 11 = .ok (.iconst 0, 1) := by decide +kernel
theorem dX9_isEmpty_12 : decode cX9_isEmpty 12 = .ok (.ireturn, 1) := by decide +kernel
theorem dX9_isRow_0 : decode cX9_isRow 0 = .ok (.aload_n 0, 1) := by decide +kernel
theorem dX9_isRow_1 : decode cX9_isRow 1 = .ok (.getfield 15, 3) := by decide +kernel
theorem dX9_isRow_4 : decode cX9_isRow 4 = .ok (.iconst 2, 1) := by decide +kernel
theorem dX9_isRow_5 : decode cX9_isRow 5 = .ok (.if_icmp .ne 7, 3) := by decide +kernel
theorem dX9_isRow_8 : decode cX9_isRow 8 = .ok (.iconst 1, 1) := by decide +kernel
theorem dX9_isRow_9 : decode cX9_isRow 9 = .ok (.goto 4, 3) := by decide +kernel
theorem dX9_isRow_12 : decode cX9_isRow 12 = .ok (.iconst 0, 1) := by decide +kernel
theorem dX9_isRow_13 : decode cX9_isRow 13 = .ok (.ireturn, 1) := by decide +kernel
theorem dX9_clear_0 : decode cX9_clear 0 = .ok (.aload_n 0, 1) := by decide +kernel
theorem dX9_clear_1 : decode cX9_clear 1 = .ok (.iconst 0, 1) := by decide +kernel
theorem dX9_clear_2 : decode cX9_clear 2 = .ok (.putfield 15, 3) := by decide +kernel
theorem dX9_clear_5 : decode cX9_clear 5 = .ok (.return_, 1) := by decide +kernel
theorem dX9_holdCrate_0 : decode cX9_holdCrate 0 = .ok (.aload_n 0, 1) := by decide +kernel
theorem dX9_holdCrate_1 : decode cX9_holdCrate 1 = .ok (.iconst 1, 1) := by decide +kernel
theorem dX9_holdCrate_2 : decode cX9_holdCrate 2 = .ok (.putfield 15, 3) := by decide +kernel
theorem dX9_holdCrate_5 : decode cX9_holdCrate 5 = .ok (.aload_n 0, 1) := by decide +kernel
theorem dX9_holdCrate_6 : decode cX9_holdCrate 6 = .ok (.iload_n 1, 1) := by decide +kernel
theorem dX9_holdCrate_7 : decode cX9_holdCrate 7 = .ok (.putfield 19, 3) := by decide +kernel
theorem dX9_holdCrate_10 : decode cX9_holdCrate 10 = .ok (.aload_n 0, 1) := by decide +kernel
theorem dX9_holdCrate_11 : decode cX9_holdCrate 11 = .ok (.iload_n 2, 1) := by decide +kernel
theorem dX9_holdCrate_12 : decode cX9_holdCrate 12 = .ok (.putfield 22, 3) := by decide +kernel
theorem dX9_holdCrate_15 : decode cX9_holdCrate 15 = .ok (.aload_n 0, 1) := by decide +kernel
theorem dX9_holdCrate_16 : decode cX9_holdCrate 16 = .ok (.iload_n 3, 1) := by decide +kernel
theorem dX9_holdCrate_17 : decode cX9_holdCrate 17 = .ok (.putfield 25, 3) := by decide +kernel
theorem dX9_holdCrate_20 : decode cX9_holdCrate 20 = .ok (.return_, 1) := by decide +kernel
theorem dX9_holdRow_0 : decode cX9_holdRow 0 = .ok (.aload_n 0, 1) := by decide +kernel
theorem dX9_holdRow_1 : decode cX9_holdRow 1 = .ok (.iconst 2, 1) := by decide +kernel
theorem dX9_holdRow_2 : decode cX9_holdRow 2 = .ok (.putfield 15, 3) := by decide +kernel
theorem dX9_holdRow_5 : decode cX9_holdRow 5 = .ok (.aload_n 0, 1) := by decide +kernel
theorem dX9_holdRow_6 : decode cX9_holdRow 6 = .ok (.iload_n 1, 1) := by decide +kernel
theorem dX9_holdRow_7 : decode cX9_holdRow 7 = .ok (.putfield 28, 3) := by decide +kernel
theorem dX9_holdRow_10 : decode cX9_holdRow 10 = .ok (.aload_n 0, 1) := by decide +kernel
theorem dX9_holdRow_11 : decode cX9_holdRow 11 = .ok (.iload_n 2, 1) := by decide +kernel
theorem dX9_holdRow_12 : decode cX9_holdRow 12 = .ok (.putfield 31, 3) := by decide +kernel
theorem dX9_holdRow_15 : decode cX9_holdRow 15 = .ok (.iconst 0, 1) := by decide +kernel
theorem dX9_holdRow_16 : decode cX9_holdRow 16 = .ok (.istore_n 3, 1) := by decide +kernel
theorem dX9_holdRow_17 : decode cX9_holdRow 17 = .ok (.iload_n 3, 1) := by decide +kernel
theorem dX9_holdRow_18 : decode cX9_holdRow 18 = .ok (.aload_n 0, 1) := by decide +kernel
theorem dX9_holdRow_19 : decode cX9_holdRow 19 = .ok (.getfield 9, 3) := by decide +kernel
theorem dX9_holdRow_22 : decode cX9_holdRow 22 = .ok (.arraylength, 1) := by decide +kernel
theorem dX9_holdRow_23 : decode cX9_holdRow 23 = .ok (.if_icmp .ge 16, 3) := by decide +kernel
theorem dX9_holdRow_26 : decode cX9_holdRow 26 = .ok (.aload_n 0, 1) := by decide +kernel
theorem dX9_holdRow_27 : decode cX9_holdRow 27 = .ok (.getfield 9, 3) := by decide +kernel
theorem dX9_holdRow_30 : decode cX9_holdRow 30 = .ok (.iload_n 3, 1) := by decide +kernel
theorem dX9_holdRow_31 : decode cX9_holdRow 31 = .ok (.iconst 0, 1) := by decide +kernel
theorem dX9_holdRow_32 : decode cX9_holdRow 32 = .ok (.iastore, 1) := by decide +kernel
theorem dX9_holdRow_33 : decode cX9_holdRow 33 = .ok (.iinc 3 1, 3) := by decide +kernel
theorem dX9_holdRow_36 : decode cX9_holdRow 36 = .ok (.goto (-19), 3) := by decide +kernel
theorem dX9_holdRow_39 : decode cX9_holdRow 39 = .ok (.return_, 1) := by decide +kernel
theorem dX9_hasPlace_0 : decode cX9_hasPlace 0 = .ok (.iload_n 1, 1) := by decide +kernel
theorem dX9_hasPlace_1 : decode cX9_hasPlace 1 = .ok (.ifCond .lt 15, 3) := by decide +kernel
theorem dX9_hasPlace_4 : decode cX9_hasPlace 4 = .ok (.iload_n 1, 1) := by decide +kernel
theorem dX9_hasPlace_5 : decode cX9_hasPlace 5 = .ok (.aload_n 0, 1) := by decide +kernel
theorem dX9_hasPlace_6 : decode cX9_hasPlace 6 = .ok (.getfield 31, 3) := by decide +kernel
theorem dX9_hasPlace_9 : decode cX9_hasPlace 9 = .ok (.if_icmp .ge 7, 3) := by decide +kernel
theorem dX9_hasPlace_12 : decode cX9_hasPlace 12 = .ok (.iconst 1, 1) := by decide +kernel
theorem dX9_hasPlace_13 : decode cX9_hasPlace 13 = .ok (.goto 4, 3) := by decide +kernel
theorem dX9_hasPlace_16 : decode cX9_hasPlace 16 = .ok (.iconst 0, 1) := by decide +kernel
theorem dX9_hasPlace_17 : decode cX9_hasPlace 17 = .ok (.ireturn, 1) := by decide +kernel
theorem dX9_hasPlaces_0 : decode cX9_hasPlaces 0 = .ok (.iload_n 1, 1) := by decide +kernel
theorem dX9_hasPlaces_1 : decode cX9_hasPlaces 1 = .ok (.ifCond .lt 25, 3) := by decide +kernel
theorem dX9_hasPlaces_4 : decode cX9_hasPlaces 4 = .ok (.iload_n 2, 1) := by decide +kernel
theorem dX9_hasPlaces_5 : decode cX9_hasPlaces 5 = .ok (.ifCond .lt 21, 3) := by decide +kernel
theorem dX9_hasPlaces_8 : decode cX9_hasPlaces 8 = .ok (.iload_n 1, 1) := by decide +kernel
theorem dX9_hasPlaces_9 : decode cX9_hasPlaces 9 = .ok (.i2l, 1) := by decide +kernel
theorem dX9_hasPlaces_10 : decode cX9_hasPlaces 10 = .ok (.iload_n 2, 1) := by decide +kernel
theorem dX9_hasPlaces_11 : decode cX9_hasPlaces 11 = .ok (.i2l, 1) := by decide +kernel
theorem dX9_hasPlaces_12 : decode cX9_hasPlaces 12 = .ok (.ladd, 1) := by decide +kernel
theorem dX9_hasPlaces_13 : decode cX9_hasPlaces 13 = .ok (.aload_n 0, 1) := by decide +kernel
theorem dX9_hasPlaces_14 : decode cX9_hasPlaces 14 = .ok (.getfield 31, 3) := by decide +kernel
theorem dX9_hasPlaces_17 : decode cX9_hasPlaces 17 = .ok (.i2l, 1) := by decide +kernel
theorem dX9_hasPlaces_18 : decode cX9_hasPlaces 18 = .ok (.lcmp, 1) := by decide +kernel
theorem dX9_hasPlaces_19 : decode cX9_hasPlaces 19 = .ok (.ifCond .gt 7, 3) := by decide +kernel
theorem dX9_hasPlaces_22 : decode cX9_hasPlaces 22 = .ok (.iconst 1, 1) := by decide +kernel
theorem dX9_hasPlaces_23 : decode cX9_hasPlaces 23 = .ok (.goto 4, 3) := by decide +kernel
theorem dX9_hasPlaces_26 : decode cX9_hasPlaces 26 = .ok (.iconst 0, 1) := by decide +kernel
theorem dX9_hasPlaces_27 : decode cX9_hasPlaces 27 = .ok (.ireturn, 1) := by decide +kernel
theorem dX9_isAt_0 : decode cX9_isAt 0 = .ok (.aload_n 0, 1) := by decide +kernel
theorem dX9_isAt_1 : decode cX9_isAt 1 = .ok (.iload_n 1, 1) := by decide +kernel
theorem dX9_isAt_2 : decode cX9_isAt 2 = .ok (.invokevirtual 34, 3) := by decide +kernel
theorem dX9_isAt_5 : decode cX9_isAt 5 = .ok (.ifCond .eq 17, 3) := by decide +kernel
theorem dX9_isAt_8 : decode cX9_isAt 8 = .ok (.aload_n 0, 1) := by decide +kernel
theorem dX9_isAt_9 : decode cX9_isAt 9 = .ok (.getfield 9, 3) := by decide +kernel
theorem dX9_isAt_12 : decode cX9_isAt 12 = .ok (.iload_n 1, 1) := by decide +kernel
theorem dX9_isAt_13 : decode cX9_isAt 13 = .ok (.iaload, 1) := by decide +kernel
theorem dX9_isAt_14 : decode cX9_isAt 14 = .ok (.iload_n 2, 1) := by decide +kernel
theorem dX9_isAt_15 : decode cX9_isAt 15 = .ok (.if_icmp .ne 7, 3) := by decide +kernel
theorem dX9_isAt_18 : decode cX9_isAt 18 = .ok (.iconst 1, 1) := by decide +kernel
theorem dX9_isAt_19 : decode cX9_isAt 19 = .ok (.goto 4, 3) := by decide +kernel
theorem dX9_isAt_22 : decode cX9_isAt 22 = .ok (.iconst 0, 1) := by decide +kernel
theorem dX9_isAt_23 : decode cX9_isAt 23 = .ok (.ireturn, 1) := by decide +kernel
theorem dX9_write_0 : decode cX9_write 0 = .ok (.aload_n 0, 1) := by decide +kernel
theorem dX9_write_1 : decode cX9_write 1 = .ok (.getfield 9, 3) := by decide +kernel
theorem dX9_write_4 : decode cX9_write 4 = .ok (.iload_n 1, 1) := by decide +kernel
theorem dX9_write_5 : decode cX9_write 5 = .ok (.aload_n 0, 1) := by decide +kernel
theorem dX9_write_6 : decode cX9_write 6 = .ok (.getfield 28, 3) := by decide +kernel
theorem dX9_write_9 : decode cX9_write 9 = .ok (.ifCond .ne 8, 3) := by decide +kernel
theorem dX9_write_12 : decode cX9_write 12 = .ok (.iload_n 2, 1) := by decide +kernel
theorem dX9_write_13 : decode cX9_write 13 = .ok (.i2b, 1) := by decide +kernel
theorem dX9_write_14 : decode cX9_write 14 = .ok (.goto 17, 3) := by decide +kernel
theorem dX9_write_17 : decode cX9_write 17 = .ok (.aload_n 0, 1) := by decide +kernel
theorem dX9_write_18 : decode cX9_write 18 = .ok (.getfield 28, 3) := by decide +kernel
theorem dX9_write_21 : decode cX9_write 21 = .ok (.iconst 1, 1) := by decide +kernel
theorem dX9_write_22 : decode cX9_write 22 = .ok (.if_icmp .ne 8, 3) := by decide +kernel
theorem dX9_write_25 : decode cX9_write 25 = .ok (.iload_n 2, 1) := by decide +kernel
theorem dX9_write_26 : decode cX9_write 26 = .ok (.i2s, 1) := by decide +kernel
theorem dX9_write_27 : decode cX9_write 27 = .ok (.goto 4, 3) := by decide +kernel
theorem dX9_write_30 : decode cX9_write 30 = .ok (.iload_n 2, 1) := by decide +kernel
theorem dX9_write_31 : decode cX9_write 31 = .ok (.iastore, 1) := by decide +kernel
theorem dX9_write_32 : decode cX9_write 32 = .ok (.return_, 1) := by decide +kernel
theorem dX9_leastOfSort_0 : decode cX9_leastOfSort 0 = .ok (.aload_n 0, 1) := by decide +kernel
theorem dX9_leastOfSort_1 : decode cX9_leastOfSort 1 = .ok (.getfield 28, 3) := by decide +kernel
theorem dX9_leastOfSort_4 : decode cX9_leastOfSort 4 = .ok (.ifCond .ne 8, 3) := by decide +kernel
theorem dX9_leastOfSort_7 : decode cX9_leastOfSort 7 = .ok (.bipush (-128), 2) := by decide +kernel
theorem dX9_leastOfSort_9 : decode cX9_leastOfSort 9 = .ok (.goto 19, 3) := by decide +kernel
theorem dX9_leastOfSort_12 : decode cX9_leastOfSort 12 = .ok (.aload_n 0, 1) := by decide +kernel
theorem dX9_leastOfSort_13 : decode cX9_leastOfSort 13 = .ok (.getfield 28, 3) := by decide +kernel
theorem dX9_leastOfSort_16 : decode cX9_leastOfSort 16 = .ok (.iconst 1, 1) := by decide +kernel
theorem dX9_leastOfSort_17 : decode cX9_leastOfSort 17 = .ok (.if_icmp .ne 9, 3) := by decide +kernel
theorem dX9_leastOfSort_20 : decode cX9_leastOfSort 20 = .ok (.sipush (-32768), 3) := by decide +kernel
theorem dX9_leastOfSort_23 : decode cX9_leastOfSort 23 = .ok (.goto 5, 3) := by decide +kernel
theorem dX9_leastOfSort_26 : decode cX9_leastOfSort 26 = .ok (.ldc 38, 2) := by decide +kernel
theorem dX9_leastOfSort_28 : decode cX9_leastOfSort 28 = .ok (.ireturn, 1) := by decide +kernel
theorem dX10_init_0 : decode cX10_init 0 = .ok (.aload_n 0, 1) := by decide +kernel
theorem dX10_init_1 : decode cX10_init 1 = .ok (.invokespecial 3, 3) := by decide +kernel
theorem dX10_init_4 : decode cX10_init 4 = .ok (.aload_n 0, 1) := by decide +kernel
theorem dX10_init_5 : decode cX10_init 5 = .ok (.new 9, 3) := by decide +kernel
theorem dX10_init_8 : decode cX10_init 8 = .ok (.dup, 1) := by decide +kernel
theorem dX10_init_9 : decode cX10_init 9 = .ok (.invokespecial 11, 3) := by decide +kernel
theorem dX10_init_12 : decode cX10_init 12 = .ok (.putfield 12, 3) := by decide +kernel
theorem dX10_init_15 : decode cX10_init 15 = .ok (.aload_n 0, 1) := by decide +kernel
theorem dX10_init_16 : decode cX10_init 16 = .ok (.new 18, 3) := by decide +kernel
theorem dX10_init_19 : decode cX10_init 19 = .ok (.dup, 1) := by decide +kernel
theorem dX10_init_20 : decode cX10_init 20 = .ok (.invokespecial 20, 3) := by decide +kernel
theorem dX10_init_23 : decode cX10_init 23 = .ok (.putfield 21, 3) := by decide +kernel
theorem dX10_init_26 : decode cX10_init 26 = .ok (.aload_n 0, 1) := by decide +kernel
theorem dX10_init_27 : decode cX10_init 27 = .ok (.new 25, 3) := by decide +kernel
theorem dX10_init_30 : decode cX10_init 30 = .ok (.dup, 1) := by decide +kernel
theorem dX10_init_31 : decode cX10_init 31 = .ok (.invokespecial 27, 3) := by decide +kernel
theorem dX10_init_34 : decode cX10_init 34 = .ok (.putfield 28, 3) := by decide +kernel
theorem dX10_init_37 : decode cX10_init 37 = .ok (.aload_n 0, 1) := by decide +kernel
theorem dX10_init_38 : decode cX10_init 38 = .ok (.new 32, 3) := by decide +kernel
theorem dX10_init_41 : decode cX10_init 41 = .ok (.dup, 1) := by decide +kernel
theorem dX10_init_42 : decode cX10_init 42 = .ok (.invokespecial 34, 3) := by decide +kernel
theorem dX10_init_45 : decode cX10_init 45 = .ok (.putfield 35, 3) := by decide +kernel
theorem dX10_init_48 : decode cX10_init 48 = .ok (.aload_n 0, 1) := by decide +kernel
theorem dX10_init_49 : decode cX10_init 49 = .ok (.new 39, 3) := by decide +kernel
theorem dX10_init_52 : decode cX10_init 52 = .ok (.dup, 1) := by decide +kernel
theorem dX10_init_53 : decode cX10_init 53 = .ok (.invokespecial 41, 3) := by decide +kernel
theorem dX10_init_56 : decode cX10_init 56 = .ok (.putfield 42, 3) := by decide +kernel
theorem dX10_init_59 : decode cX10_init 59 = .ok (.aload_n 0, 1) := by decide +kernel
theorem dX10_init_60 : decode cX10_init 60 = .ok (.bipush 36, 2) := by decide +kernel
theorem dX10_init_62 : decode cX10_init 62 = .ok (.newarray .int, 2) := by decide +kernel
theorem dX10_init_64 : decode cX10_init 64 = .ok (.putfield 46, 3) := by decide +kernel
theorem dX10_init_67 : decode cX10_init 67 = .ok (.aload_n 0, 1) := by decide +kernel
theorem dX10_init_68 : decode cX10_init 68 = .ok (.ldc 52, 2) := by decide +kernel
theorem dX10_init_70 : decode cX10_init 70 = .ok (.invokevirtual 54, 3) := by decide +kernel
theorem dX10_init_73 : decode cX10_init 73 = .ok (.newarray .int, 2) := by decide +kernel
theorem dX10_init_75 : decode cX10_init 75 = .ok (.putfield 60, 3) := by decide +kernel
theorem dX10_init_78 : decode cX10_init 78 = .ok (.aload_n 0, 1) := by decide +kernel
theorem dX10_init_79 : decode cX10_init 79 = .ok (.bipush 80, 2) := by decide +kernel
theorem dX10_init_81 : decode cX10_init 81 = .ok (.newarray .int, 2) := by decide +kernel
theorem dX10_init_83 : decode cX10_init 83 = .ok (.putfield 63, 3) := by decide +kernel
theorem dX10_init_86 : decode cX10_init 86 = .ok (.iconst 0, 1) := by decide +kernel
theorem dX10_init_87 : decode cX10_init 87 = .ok (.istore_n 1, 1) := by decide +kernel
theorem dX10_init_88 : decode cX10_init 88 = .ok (.iload_n 1, 1) := by decide +kernel
theorem dX10_init_89 : decode cX10_init 89 = .ok (.bipush 12, 2) := by decide +kernel
theorem dX10_init_91 : decode cX10_init 91 = .ok (.if_icmp .ge 21, 3) := by decide +kernel
theorem dX10_init_94 : decode cX10_init 94 = .ok (.aload_n 0, 1) := by decide +kernel
theorem dX10_init_95 : decode cX10_init 95 = .ok (.getfield 46, 3) := by decide +kernel
theorem dX10_init_98 : decode cX10_init 98 = .ok (.iload_n 1, 1) := by decide +kernel
theorem dX10_init_99 : decode cX10_init 99 = .ok (.iconst 3, 1) := by decide +kernel
theorem dX10_init_100 : decode cX10_init 100 = .ok (.imul, 1) := by decide +kernel
theorem dX10_init_101 : decode cX10_init 101 = .ok (.iconst 2, 1) := by decide +kernel
theorem dX10_init_102 : decode cX10_init 102 = .ok (.iadd, 1) := by decide +kernel
theorem dX10_init_103 : decode cX10_init 103 = .ok (.ldc 66, 2) := by decide +kernel
theorem dX10_init_105 : decode cX10_init 105 = .ok (.iastore, 1) := by decide +kernel
theorem dX10_init_106 : decode cX10_init 106 = .ok (.iinc 1 1, 3) := by decide +kernel
theorem dX10_init_109 : decode cX10_init 109 = .ok (.goto (-21), 3) := by decide +kernel
theorem dX10_init_112 : decode cX10_init 112 = .ok (.return_, 1) := by decide +kernel
theorem dX10_copyFrom_0 : decode cX10_copyFrom 0 = .ok (.aload_n 0, 1) := by decide +kernel
theorem dX10_copyFrom_1 : decode cX10_copyFrom 1 = .ok (.aload_n 1, 1) := by decide +kernel
theorem dX10_copyFrom_2 : decode cX10_copyFrom 2 = .ok (.getfield 67, 3) := by decide +kernel
theorem dX10_copyFrom_5 : decode cX10_copyFrom 5 = .ok (.putfield 67, 3) := by decide +kernel
theorem dX10_copyFrom_8 : decode cX10_copyFrom 8 = .ok (.aload_n 0, 1) := by decide +kernel
theorem dX10_copyFrom_9 : decode cX10_copyFrom 9 = .ok (.getfield 12, 3) := by decide +kernel
theorem dX10_copyFrom_12 : decode cX10_copyFrom 12 = .ok (.aload_n 1, 1) := by decide +kernel
theorem dX10_copyFrom_13 : decode cX10_copyFrom 13 = .ok (.getfield 12, 3) := by decide +kernel
theorem dX10_copyFrom_16 : decode cX10_copyFrom 16 = .ok (.invokevirtual 71, 3) := by decide +kernel
theorem dX10_copyFrom_19 : decode cX10_copyFrom 19 = .ok (.aload_n 0, 1) := by decide +kernel
theorem dX10_copyFrom_20 : decode cX10_copyFrom 20 = .ok (.getfield 21, 3) := by decide +kernel
theorem dX10_copyFrom_23 : decode cX10_copyFrom 23 = .ok (.aload_n 1, 1) := by decide +kernel
theorem dX10_copyFrom_24 : decode cX10_copyFrom 24 = .ok (.getfield 21, 3) := by decide +kernel
theorem dX10_copyFrom_27 : decode cX10_copyFrom 27 = .ok (.invokevirtual 75, 3) := by decide +kernel
theorem dX10_copyFrom_30 : decode cX10_copyFrom 30 = .ok (.aload_n 0, 1) := by decide +kernel
theorem dX10_copyFrom_31 : decode cX10_copyFrom 31 = .ok (.getfield 28, 3) := by decide +kernel
theorem dX10_copyFrom_34 : decode cX10_copyFrom 34 = .ok (.aload_n 1, 1) := by decide +kernel
theorem dX10_copyFrom_35 : decode cX10_copyFrom 35 = .ok (.getfield 28, 3) := by decide +kernel
theorem dX10_copyFrom_38 : decode cX10_copyFrom 38 = .ok (.invokevirtual 78, 3) := by decide +kernel
theorem dX10_copyFrom_41 : decode cX10_copyFrom 41 = .ok (.aload_n 0, 1) := by decide +kernel
theorem dX10_copyFrom_42 : decode cX10_copyFrom 42 = .ok (.getfield 35, 3) := by decide +kernel
theorem dX10_copyFrom_45 : decode cX10_copyFrom 45 = .ok (.aload_n 1, 1) := by decide +kernel
theorem dX10_copyFrom_46 : decode cX10_copyFrom 46 = .ok (.getfield 35, 3) := by decide +kernel
theorem dX10_copyFrom_49 : decode cX10_copyFrom 49 = .ok (.invokevirtual 81, 3) := by decide +kernel
theorem dX10_copyFrom_52 : decode cX10_copyFrom 52 = .ok (.aload_n 0, 1) := by decide +kernel
theorem dX10_copyFrom_53 : decode cX10_copyFrom 53 = .ok (.getfield 42, 3) := by decide +kernel
theorem dX10_copyFrom_56 : decode cX10_copyFrom 56 = .ok (.aload_n 1, 1) := by decide +kernel
theorem dX10_copyFrom_57 : decode cX10_copyFrom 57 = .ok (.getfield 42, 3) := by decide +kernel
theorem dX10_copyFrom_60 : decode cX10_copyFrom 60 = .ok (.invokevirtual 84, 3) := by decide +kernel
theorem dX10_copyFrom_63 : decode cX10_copyFrom 63 = .ok (.aload_n 1, 1) := by decide +kernel
theorem dX10_copyFrom_64 : decode cX10_copyFrom 64 = .ok (.getfield 46, 3) := by decide +kernel
theorem dX10_copyFrom_67 : decode cX10_copyFrom 67 = .ok (.aload_n 0, 1) := by decide +kernel
theorem dX10_copyFrom_68 : decode cX10_copyFrom 68 = .ok (.getfield 46, 3) := by decide +kernel
theorem dX10_copyFrom_71 : decode cX10_copyFrom 71 = .ok (.invokestatic 87, 3) := by decide +kernel
theorem dX10_copyFrom_74 : decode cX10_copyFrom 74 = .ok (.return_, 1) := by decide +kernel
theorem dX10_headsOfAll_0 : decode cX10_headsOfAll 0 = .ok (.iconst 0, 1) := by decide +kernel
theorem dX10_headsOfAll_1 : decode cX10_headsOfAll 1 = .ok (.istore_n 3, 1) := by decide +kernel
theorem dX10_headsOfAll_2 : decode cX10_headsOfAll 2 = .ok (.iconst 0, 1) := by decide +kernel
theorem dX10_headsOfAll_3 : decode cX10_headsOfAll 3 = .ok (.istore 4, 2) := by decide +kernel
theorem dX10_headsOfAll_5 : decode cX10_headsOfAll 5 = .ok (.iload 4, 2) := by decide +kernel
theorem dX10_headsOfAll_7 : decode cX10_headsOfAll 7 = .ok (.iconst 3, 1) := by decide +kernel
theorem dX10_headsOfAll_8 : decode cX10_headsOfAll 8 = .ok (.if_icmp .ge 26, 3) := by decide +kernel
theorem dX10_headsOfAll_11 : decode cX10_headsOfAll 11 = .ok (.iload_n 3, 1) := by decide +kernel
theorem dX10_headsOfAll_12 : decode cX10_headsOfAll 12 = .ok (.aload_n 0, 1) := by decide +kernel
theorem dX10_headsOfAll_13 : decode cX10_headsOfAll 13 = .ok (.getfield 28, 3) := by decide +kernel
theorem dX10_headsOfAll_16 : decode cX10_headsOfAll 16 = .ok (.iload_n 1, 1) := by decide +kernel
theorem dX10_headsOfAll_17 : decode cX10_headsOfAll 17 = .ok (.iload 4, 2) := by decide +kernel
theorem dX10_headsOfAll_19 : decode cX10_headsOfAll 19 = .ok (.iload_n 2, 1) := by decide +kernel
theorem dX10_headsOfAll_20 : decode cX10_headsOfAll 20 = .ok (.sipush 400, 3) := by decide +kernel
theorem dX10_headsOfAll_23 : decode cX10_headsOfAll 23 = .ok (.invokevirtual 91, 3) := by decide +kernel
theorem dX10_headsOfAll_26 : decode cX10_headsOfAll 26 = .ok (.iadd, 1) := by decide +kernel
theorem dX10_headsOfAll_27 : decode cX10_headsOfAll 27 = .ok (.istore_n 3, 1) := by decide +kernel
theorem dX10_headsOfAll_28 : decode cX10_headsOfAll 28 = .ok (.iinc 4 1, 3) := by decide +kernel
theorem dX10_headsOfAll_31 : decode cX10_headsOfAll 31 = .ok (.goto (-26), 3) := by decide +kernel
theorem dX10_headsOfAll_34 : decode cX10_headsOfAll 34 = .ok (.iload_n 3, 1) := by decide +kernel
theorem dX10_headsOfAll_35 : decode cX10_headsOfAll 35 = .ok (.ireturn, 1) := by decide +kernel
theorem dX10_toldTooMany_0 : decode cX10_toldTooMany 0 = .ok (.aload_n 0, 1) := by decide +kernel
theorem dX10_toldTooMany_1 : decode cX10_toldTooMany 1 = .ok (.aload_n 0, 1) := by decide +kernel
theorem dX10_toldTooMany_2 : decode cX10_toldTooMany 2 = .ok (.getfield 42, 3) := by decide +kernel
theorem dX10_toldTooMany_5 : decode cX10_toldTooMany 5 = .ok (.getfield 95, 3) := by decide +kernel
theorem dX10_toldTooMany_8 : decode cX10_toldTooMany 8 = .ok (.iload_n 1, 1) := by decide +kernel
theorem dX10_toldTooMany_9 : decode cX10_toldTooMany 9 = .ok (.iaload, 1) := by decide +kernel
theorem dX10_toldTooMany_10 : decode cX10_toldTooMany 10 = .ok (.aload_n 0, 1) := by decide +kernel
theorem dX10_toldTooMany_11 : decode cX10_toldTooMany 11 = .ok (.getfield 42, 3) := by decide +kernel
theorem dX10_toldTooMany_14 : decode cX10_toldTooMany 14 = .ok (.getfield 98, 3) := by decide +kernel
theorem dX10_toldTooMany_17 : decode cX10_toldTooMany 17 = .ok (.iload_n 1, 1) := by decide +kernel
theorem dX10_toldTooMany_18 : decode cX10_toldTooMany 18 = .ok (.iaload, 1) := by decide +kernel
theorem dX10_toldTooMany_19 : decode cX10_toldTooMany 19 = .ok (.invokevirtual 100, 3) := by decide +kernel
theorem dX10_toldTooMany_22 : decode cX10_toldTooMany 22 = .ok (.aload_n 0, 1) := by decide +kernel
theorem dX10_toldTooMany_23 : decode cX10_toldTooMany 23 = .ok (.getfield 42, 3) := by decide +kernel
theorem dX10_toldTooMany_26 : decode cX10_toldTooMany 26 = .ok (.getfield 104, 3) := by decide +kernel
theorem dX10_toldTooMany_29 : decode cX10_toldTooMany 29 = .ok (.iload_n 1, 1) := by decide +kernel
theorem dX10_toldTooMany_30 : decode cX10_toldTooMany 30 = .ok (.iaload, 1) := by decide +kernel
theorem dX10_toldTooMany_31 : decode cX10_toldTooMany 31 = .ok (.isub, 1) := by decide +kernel
theorem dX10_toldTooMany_32 : decode cX10_toldTooMany 32 = .ok (.ireturn, 1) := by decide +kernel
theorem dX10_areLike_0 : decode cX10_areLike 0 = .ok (.aload_n 0, 1) := by decide +kernel
theorem dX10_areLike_1 : decode cX10_areLike 1 = .ok (.getfield 12, 3) := by decide +kernel
theorem dX10_areLike_4 : decode cX10_areLike 4 = .ok (.getfield 107, 3) := by decide +kernel
theorem dX10_areLike_7 : decode cX10_areLike 7 = .ok (.iload_n 1, 1) := by decide +kernel
theorem dX10_areLike_8 : decode cX10_areLike 8 = .ok (.iaload, 1) := by decide +kernel
theorem dX10_areLike_9 : decode cX10_areLike 9 = .ok (.aload_n 0, 1) := by decide +kernel
theorem dX10_areLike_10 : decode cX10_areLike 10 = .ok (.getfield 12, 3) := by decide +kernel
theorem dX10_areLike_13 : decode cX10_areLike 13 = .ok (.getfield 107, 3) := by decide +kernel
theorem dX10_areLike_16 : decode cX10_areLike 16 = .ok (.iload_n 2, 1) := by decide +kernel
theorem dX10_areLike_17 : decode cX10_areLike 17 = .ok (.iaload, 1) := by decide +kernel
theorem dX10_areLike_18 : decode cX10_areLike 18 = .ok (.if_icmp .ne 33, 3) := by decide +kernel
theorem dX10_areLike_21 : decode cX10_areLike 21 = .ok (.aload_n 0, 1) := by decide +kernel
theorem dX10_areLike_22 : decode cX10_areLike 22 = .ok (.iload_n 1, 1) := by decide +kernel
theorem dX10_areLike_23 : decode cX10_areLike 23 = .ok (.aload_n 0, 1) := by decide +kernel
theorem dX10_areLike_24 : decode cX10_areLike 24 = .ok (.getfield 67, 3) := by decide +kernel
theorem dX10_areLike_27 : decode cX10_areLike 27 = .ok (.invokevirtual 100, 3) := by decide +kernel
theorem dX10_areLike_30 : decode cX10_areLike 30 = .ok (.aload_n 0, 1) := by decide +kernel
theorem dX10_areLike_31 : decode cX10_areLike 31 = .ok (.iload_n 2, 1) := by decide +kernel
theorem dX10_areLike_32 : decode cX10_areLike 32 = .ok (.aload_n 0, 1) := by decide +kernel
theorem dX10_areLike_33 : decode cX10_areLike 33 = .ok (.getfield 67, 3) := by decide +kernel
theorem dX10_areLike_36 : decode cX10_areLike 36 = .ok (.invokevirtual 100, 3) := by decide +kernel
theorem dX10_areLike_39 : decode cX10_areLike 39 = .ok (.isub, 1) := by decide +kernel
theorem dX10_areLike_40 : decode cX10_areLike 40 = .ok (.invokestatic 110, 3) := by decide +kernel
theorem dX10_areLike_43 : decode cX10_areLike 43 = .ok (.iload_n 3, 1) := by decide +kernel
theorem dX10_areLike_44 : decode cX10_areLike 44 = .ok (.if_icmp .gt 7, 3) := by decide +kernel
theorem dX10_areLike_47 : decode cX10_areLike 47 = .ok (.iconst 1, 1) := by decide +kernel
theorem dX10_areLike_48 : decode cX10_areLike 48 = .ok (.goto 4, 3) := by decide +kernel
theorem dX10_areLike_51 : decode cX10_areLike 51 = .ok (.iconst 0, 1) := by decide +kernel
theorem dX10_areLike_52 : decode cX10_areLike 52 = .ok (.ireturn, 1) := by decide +kernel
theorem dX10_monthFact_0 : decode cX10_monthFact 0 = .ok (.aload_n 0, 1) := by decide +kernel
theorem dX10_monthFact_1 : decode cX10_monthFact 1 = .ok (.getfield 46, 3) := by decide +kernel
theorem dX10_monthFact_4 : decode cX10_monthFact 4 = .ok (.iload_n 1, 1) := by decide +kernel
theorem dX10_monthFact_5 : decode cX10_monthFact 5 = .ok (.invokestatic 116, 3) := by decide +kernel
theorem dX10_monthFact_8 : decode cX10_monthFact 8 = .ok (.iconst 3, 1) := by decide +kernel
theorem dX10_monthFact_9 : decode cX10_monthFact 9 = .ok (.imul, 1) := by decide +kernel
theorem dX10_monthFact_10 : decode cX10_monthFact 10 = .ok (.iload_n 2, 1) := by decide +kernel
theorem dX10_monthFact_11 : decode cX10_monthFact 11 = .ok (.iadd, 1) := by decide +kernel
theorem dX10_monthFact_12 : decode cX10_monthFact 12 = .ok (.iaload, 1) := by decide +kernel
theorem dX10_monthFact_13 : decode cX10_monthFact 13 = .ok (.ireturn, 1) := by decide +kernel
theorem dX10_readFields_0 : decode cX10_readFields 0 = .ok (.aload_n 0, 1) := by decide +kernel
theorem dX10_readFields_1 : decode cX10_readFields 1 = .ok (.getfield 60, 3) := by decide +kernel
theorem dX10_readFields_4 : decode cX10_readFields 4 = .ok (.iconst 0, 1) := by decide +kernel
theorem dX10_readFields_5 : decode cX10_readFields 5 = .ok (.iload_n 2, 1) := by decide +kernel
theorem dX10_readFields_6 : decode cX10_readFields 6 = .ok (.iastore, 1) := by decide +kernel
theorem dX10_readFields_7 : decode cX10_readFields 7 = .ok (.aload_n 0, 1) := by decide +kernel
theorem dX10_readFields_8 : decode cX10_readFields 8 = .ok (.getfield 60, 3) := by decide +kernel
theorem dX10_readFields_11 : decode cX10_readFields 11 = .ok (.iconst 1, 1) := by decide +kernel
theorem dX10_readFields_12 : decode cX10_readFields 12 = .ok (.aload_n 0, 1) := by decide +kernel
theorem dX10_readFields_13 : decode cX10_readFields 13 = .ok (.getfield 12, 3) := by decide +kernel
theorem dX10_readFields_16 : decode cX10_readFields 16 = .ok (.getfield 107, 3) := by decide +kernel
theorem dX10_readFields_19 : decode cX10_readFields 19 = .ok (.iload_n 1, 1) := by decide +kernel
theorem dX10_readFields_20 : decode cX10_readFields 20 = .ok (.iaload, 1) := by decide +kernel
theorem dX10_readFields_21 : decode cX10_readFields 21 = .ok (.iastore, 1) := by decide +kernel
theorem dX10_readFields_22 : decode cX10_readFields 22 = .ok (.aload_n 0, 1) := by decide +kernel
theorem dX10_readFields_23 : decode cX10_readFields 23 = .ok (.getfield 60, 3) := by decide +kernel
theorem dX10_readFields_26 : decode cX10_readFields 26 = .ok (.iconst 2, 1) := by decide +kernel
theorem dX10_readFields_27 : decode cX10_readFields 27 = .ok (.iload_n 3, 1) := by decide +kernel
theorem dX10_readFields_28 : decode cX10_readFields 28 = .ok (.invokestatic 116, 3) := by decide +kernel
theorem dX10_readFields_31 : decode cX10_readFields 31 = .ok (.iastore, 1) := by decide +kernel
theorem dX10_readFields_32 : decode cX10_readFields 32 = .ok (.aload_n 0, 1) := by decide +kernel
theorem dX10_readFields_33 : decode cX10_readFields 33 = .ok (.getfield 60, 3) := by decide +kernel
theorem dX10_readFields_36 : decode cX10_readFields 36 = .ok (.iconst 3, 1) := by decide +kernel
theorem dX10_readFields_37 : decode cX10_readFields 37 = .ok (.iload_n 3, 1) := by decide +kernel
theorem dX10_readFields_38 : decode cX10_readFields 38 = .ok (.bipush 7, 2) := by decide +kernel
theorem dX10_readFields_40 : decode cX10_readFields 40 = .ok (.irem, 1) := by decide +kernel
theorem dX10_readFields_41 : decode cX10_readFields 41 = .ok (.iastore, 1) := by decide +kernel
theorem dX10_readFields_42 : decode cX10_readFields 42 = .ok (.aload_n 0, 1) := by decide +kernel
theorem dX10_readFields_43 : decode cX10_readFields 43 = .ok (.getfield 60, 3) := by decide +kernel
theorem dX10_readFields_46 : decode cX10_readFields 46 = .ok (.iconst 4, 1) := by decide +kernel
theorem dX10_readFields_47 : decode cX10_readFields 47 = .ok (.iload_n 3, 1) := by decide +kernel
theorem dX10_readFields_48 : decode cX10_readFields 48 = .ok (.bipush 7, 2) := by decide +kernel
theorem dX10_readFields_50 : decode cX10_readFields 50 = .ok (.idiv, 1) := by decide +kernel
theorem dX10_readFields_51 : decode cX10_readFields 51 = .ok (.iastore, 1) := by decide +kernel
theorem dX10_readFields_52 : decode cX10_readFields 52 = .ok (.aload_n 0, 1) := by decide +kernel
theorem dX10_readFields_53 : decode cX10_readFields 53 = .ok (.getfield 60, 3) := by decide +kernel
theorem dX10_readFields_56 : decode cX10_readFields 56 = .ok (.iconst 5, 1) := by decide +kernel
theorem dX10_readFields_57 : decode cX10_readFields 57 = .ok (.aload_n 0, 1) := by decide +kernel
theorem dX10_readFields_58 : decode cX10_readFields 58 = .ok (.iload_n 3, 1) := by decide +kernel
theorem dX10_readFields_59 : decode cX10_readFields 59 = .ok (.iconst 1, 1) := by decide +kernel
theorem dX10_readFields_60 : decode cX10_readFields 60 = .ok (.invokevirtual 119, 3) := by decide +kernel
theorem dX10_readFields_63 : decode cX10_readFields 63 = .ok (.iastore, 1) := by decide +kernel
theorem dX10_readFields_64 : decode cX10_readFields 64 = .ok (.aload_n 0, 1) := by decide +kernel
theorem dX10_readFields_65 : decode cX10_readFields 65 = .ok (.getfield 60, 3) := by decide +kernel
theorem dX10_readFields_68 : decode cX10_readFields 68 = .ok (.bipush 6, 2) := by decide +kernel
theorem dX10_readFields_70 : decode cX10_readFields 70 = .ok (.aload_n 0, 1) := by decide +kernel
theorem dX10_readFields_71 : decode cX10_readFields 71 = .ok (.iload_n 1, 1) := by decide +kernel
theorem dX10_readFields_72 : decode cX10_readFields 72 = .ok (.iload_n 3, 1) := by decide +kernel
theorem dX10_readFields_73 : decode cX10_readFields 73 = .ok (.invokevirtual 100, 3) := by decide +kernel
theorem dX10_readFields_76 : decode cX10_readFields 76 = .ok (.iastore, 1) := by decide +kernel
theorem dX10_readFields_77 : decode cX10_readFields 77 = .ok (.aload_n 0, 1) := by decide +kernel
theorem dX10_readFields_78 : decode cX10_readFields 78 = .ok (.getfield 60, 3) := by decide +kernel
theorem dX10_readFields_81 : decode cX10_readFields 81 = .ok (.bipush 7, 2) := by decide +kernel
theorem dX10_readFields_83 : decode cX10_readFields 83 = .ok (.aload_n 0, 1) := by decide +kernel
theorem dX10_readFields_84 : decode cX10_readFields 84 = .ok (.getfield 12, 3) := by decide +kernel
theorem dX10_readFields_87 : decode cX10_readFields 87 = .ok (.getfield 122, 3) := by decide +kernel
theorem dX10_readFields_90 : decode cX10_readFields 90 = .ok (.iload_n 1, 1) := by decide +kernel
theorem dX10_readFields_91 : decode cX10_readFields 91 = .ok (.iaload, 1) := by decide +kernel
theorem dX10_readFields_92 : decode cX10_readFields 92 = .ok (.iastore, 1) := by decide +kernel
theorem dX10_readFields_93 : decode cX10_readFields 93 = .ok (.aload_n 0, 1) := by decide +kernel
theorem dX10_readFields_94 : decode cX10_readFields 94 = .ok (.getfield 60, 3) := by decide +kernel
theorem dX10_readFields_97 : decode cX10_readFields 97 = .ok (.bipush 8, 2) := by decide +kernel
theorem dX10_readFields_99 : decode cX10_readFields 99 = .ok (.aload_n 0, 1) := by decide +kernel
theorem dX10_readFields_100 : decode cX10_readFields 100 = .ok (.getfield 12, 3) := by decide +kernel
theorem dX10_readFields_103 : decode cX10_readFields 103 = .ok (.getfield 125, 3) := by decide +kernel
theorem dX10_readFields_106 : decode cX10_readFields 106 = .ok (.iload_n 1, 1) := by decide +kernel
theorem dX10_readFields_107 : decode cX10_readFields 107 = .ok (.iaload, 1) := by decide +kernel
theorem dX10_readFields_108 : decode cX10_readFields 108 = .ok (.iastore, 1) := by decide +kernel
theorem dX10_readFields_109 : decode cX10_readFields 109 = .ok (.aload_n 0, 1) := by decide +kernel
theorem dX10_readFields_110 : decode cX10_readFields 110 = .ok (.getfield 60, 3) := by decide +kernel
theorem dX10_readFields_113 : decode cX10_readFields 113 = .ok (.bipush 9, 2) := by decide +kernel
theorem dX10_readFields_115 : decode cX10_readFields 115 = .ok (.iload_n 1, 1) := by decide +kernel
theorem dX10_readFields_116 : decode cX10_readFields 116 = .ok (.iastore, 1) := by decide +kernel
theorem dX10_readFields_117 : decode cX10_readFields 117 = .ok (.return_, 1) := by decide +kernel
theorem dX10_purposeHolds_0 : decode cX10_purposeHolds 0 = .ok (.aload_n 0, 1) := by decide +kernel
theorem dX10_purposeHolds_1 : decode cX10_purposeHolds 1 = .ok (.getfield 35, 3) := by decide +kernel
theorem dX10_purposeHolds_4 : decode cX10_purposeHolds 4 = .ok (.iload_n 1, 1) := by decide +kernel
theorem dX10_purposeHolds_5 : decode cX10_purposeHolds 5 = .ok (.aload_n 0, 1) := by decide +kernel
theorem dX10_purposeHolds_6 : decode cX10_purposeHolds 6 = .ok (.getfield 12, 3) := by decide +kernel
theorem dX10_purposeHolds_9 : decode cX10_purposeHolds 9 = .ok (.getfield 107, 3) := by decide +kernel
theorem dX10_purposeHolds_12 : decode cX10_purposeHolds 12 = .ok (.iload_n 2, 1) := by decide +kernel
theorem dX10_purposeHolds_13 : decode cX10_purposeHolds 13 = .ok (.iaload, 1) := by decide +kernel
theorem dX10_purposeHolds_14 : decode cX10_purposeHolds 14 = .ok (.iload 4, 2) := by decide +kernel
theorem dX10_purposeHolds_16 : decode cX10_purposeHolds 16 = .ok (.invokevirtual 128, 3) := by decide +kernel
theorem dX10_purposeHolds_19 : decode cX10_purposeHolds 19 = .ok (.istore 5, 2) := by decide +kernel
theorem dX10_purposeHolds_21 : decode cX10_purposeHolds 21 = .ok (.iload 5, 2) := by decide +kernel
theorem dX10_purposeHolds_23 : decode cX10_purposeHolds 23 = .ok (.ifCond .ge 13, 3) := by decide +kernel
theorem dX10_purposeHolds_26 : decode cX10_purposeHolds 26 = .ok (.iload_n 1, 1) := by decide +kernel
theorem dX10_purposeHolds_27 : decode cX10_purposeHolds 27 = .ok (.ifCond .ne 7, 3) := by decide +kernel
theorem dX10_purposeHolds_30 : decode cX10_purposeHolds 30 = .ok (.iconst 1, 1) := by decide +kernel
theorem dX10_purposeHolds_31 : decode cX10_purposeHolds 31 = .ok (.goto 4, 3) := by decide +kernel
theorem dX10_purposeHolds_34 : decode cX10_purposeHolds 34 = .ok (.iconst 0, 1) := by decide +kernel
theorem dX10_purposeHolds_35 : decode cX10_purposeHolds 35 = .ok (.ireturn, 1) := by decide +kernel
theorem dX10_purposeHolds_36 : decode cX10_purposeHolds 36 = .ok (.aload_n 0, 1) := by decide +kernel
theorem dX10_purposeHolds_37 : decode cX10_purposeHolds 37 = .ok (.iload_n 2, 1) := by decide +kernel
theorem dX10_purposeHolds_38 : decode cX10_purposeHolds 38 = .ok (.iload_n 1, 1) := by decide +kernel
theorem dX10_purposeHolds_39 : decode cX10_purposeHolds 39 = .ok (.ifCond .ne 7, 3) := by decide +kernel
theorem dX10_purposeHolds_42 : decode cX10_purposeHolds 42 = .ok (.iload_n 3, 1) := by decide +kernel
theorem dX10_purposeHolds_43 : decode cX10_purposeHolds 43 = .ok (.goto 4, 3) := by decide +kernel
theorem dX10_purposeHolds_46 : decode cX10_purposeHolds 46 = .ok (.iconst 0, 1) := by decide +kernel
theorem dX10_purposeHolds_47 : decode cX10_purposeHolds 47 = .ok (.iload 4, 2) := by decide +kernel
theorem dX10_purposeHolds_49 : decode cX10_purposeHolds 49 = .ok (.invokevirtual 132, 3) := by decide +kernel
theorem dX10_purposeHolds_52 : decode cX10_purposeHolds 52 = .ok (.aload_n 0, 1) := by decide +kernel
theorem dX10_purposeHolds_53 : decode cX10_purposeHolds 53 = .ok (.getfield 35, 3) := by decide +kernel
theorem dX10_purposeHolds_56 : decode cX10_purposeHolds 56 = .ok (.iload 5, 2) := by decide +kernel
theorem dX10_purposeHolds_58 : decode cX10_purposeHolds 58 = .ok (.aload_n 0, 1) := by decide +kernel
theorem dX10_purposeHolds_59 : decode cX10_purposeHolds 59 = .ok (.getfield 60, 3) := by decide +kernel
theorem dX10_purposeHolds_62 : decode cX10_purposeHolds 62 = .ok (.aload_n 0, 1) := by decide +kernel
theorem dX10_purposeHolds_63 : decode cX10_purposeHolds 63 = .ok (.getfield 63, 3) := by decide +kernel
theorem dX10_purposeHolds_66 : decode cX10_purposeHolds 66 = .ok (.invokevirtual 136, 3) := by decide +kernel
theorem dX10_purposeHolds_69 : decode cX10_purposeHolds 69 = .ok (.ireturn, 1) := by decide +kernel
theorem dX10_firstThat_0 : decode cX10_firstThat 0 = .ok (.aload_n 0, 1) := by decide +kernel
theorem dX10_firstThat_1 : decode cX10_firstThat 1 = .ok (.iload_n 3, 1) := by decide +kernel
theorem dX10_firstThat_2 : decode cX10_firstThat 2 = .ok (.iload_n 2, 1) := by decide +kernel
theorem dX10_firstThat_3 : decode cX10_firstThat 3 = .ok (.ifCond .ne 8, 3) := by decide +kernel
theorem dX10_firstThat_6 : decode cX10_firstThat 6 = .ok (.iload 4, 2) := by decide +kernel
theorem dX10_firstThat_8 : decode cX10_firstThat 8 = .ok (.goto 4, 3) := by decide +kernel
theorem dX10_firstThat_11 : decode cX10_firstThat 11 = .ok (.iconst 0, 1) := by decide +kernel
theorem dX10_firstThat_12 : decode cX10_firstThat 12 = .ok (.iload 5, 2) := by decide +kernel
theorem dX10_firstThat_14 : decode cX10_firstThat 14 = .ok (.invokevirtual 132, 3) := by decide +kernel
theorem dX10_firstThat_17 : decode cX10_firstThat 17 = .ok (.iconst 0, 1) := by decide +kernel
theorem dX10_firstThat_18 : decode cX10_firstThat 18 = .ok (.istore 6, 2) := by decide +kernel
theorem dX10_firstThat_20 : decode cX10_firstThat 20 = .ok (.iload 6, 2) := by decide +kernel
theorem dX10_firstThat_22 : decode cX10_firstThat 22 = .ok (.aload_n 0, 1) := by decide +kernel
theorem dX10_firstThat_23 : decode cX10_firstThat 23 = .ok (.getfield 35, 3) := by decide +kernel
theorem dX10_firstThat_26 : decode cX10_firstThat 26 = .ok (.getfield 140, 3) := by decide +kernel
theorem dX10_firstThat_29 : decode cX10_firstThat 29 = .ok (.if_icmp .ge 57, 3) := by decide +kernel
theorem dX10_firstThat_32 : decode cX10_firstThat 32 = .ok (.aload_n 0, 1) := by decide +kernel
theorem dX10_firstThat_33 : decode cX10_firstThat 33 = .ok (.getfield 35, 3) := by decide +kernel
theorem dX10_firstThat_36 : decode cX10_firstThat 36 = .ok (.iload 6, 2) := by decide +kernel
theorem dX10_firstThat_38 : decode cX10_firstThat 38 = .ok (.iload_n 2, 1) := by decide +kernel
theorem dX10_firstThat_39 : decode cX10_firstThat 39 = .ok (.aload_n 0, 1) := by decide +kernel
theorem dX10_firstThat_40 : decode cX10_firstThat 40 = .ok (.getfield 12, 3) := by decide +kernel
theorem dX10_firstThat_43 : decode cX10_firstThat 43 = .ok (.getfield 107, 3) := by decide +kernel
theorem dX10_firstThat_46 : decode cX10_firstThat 46 = .ok (.iload_n 3, 1) := by decide +kernel
theorem dX10_firstThat_47 : decode cX10_firstThat 47 = .ok (.iaload, 1) := by decide +kernel
theorem dX10_firstThat_48 : decode cX10_firstThat 48 = .ok (.iload 5, 2) := by decide +kernel
theorem dX10_firstThat_50 : decode cX10_firstThat 50 = .ok (.invokevirtual 143, 3) := by decide +kernel
theorem dX10_firstThat_53 : decode cX10_firstThat 53 = .ok (.ifCond .eq 27, 3) := by decide +kernel
theorem dX10_firstThat_56 : decode cX10_firstThat 56 = .ok (.aload_n 0, 1) := by decide +kernel
theorem dX10_firstThat_57 : decode cX10_firstThat 57 = .ok (.getfield 35, 3) := by decide +kernel
theorem dX10_firstThat_60 : decode cX10_firstThat 60 = .ok (.iload 6, 2) := by decide +kernel
theorem dX10_firstThat_62 : decode cX10_firstThat 62 = .ok (.aload_n 0, 1) := by decide +kernel
theorem dX10_firstThat_63 : decode cX10_firstThat 63 = .ok (.getfield 60, 3) := by decide +kernel
theorem dX10_firstThat_66 : decode cX10_firstThat 66 = .ok (.aload_n 0, 1) := by decide +kernel
theorem dX10_firstThat_67 : decode cX10_firstThat 67 = .ok (.getfield 63, 3) := by decide +kernel
theorem dX10_firstThat_70 : decode cX10_firstThat 70 = .ok (.invokevirtual 136, 3) := by decide +kernel
theorem dX10_firstThat_73 : decode cX10_firstThat 73 = .ok (.iload_n 1, 1) := by decide +kernel
theorem dX10_firstThat_74 : decode cX10_firstThat 74 = .ok (.if_icmp .ne 6, 3) := by decide +kernel
theorem dX10_firstThat_77 : decode cX10_firstThat 77 = .ok (.iload 6, 2) := by decide +kernel
theorem dX10_firstThat_79 : decode cX10_firstThat 79 = .ok (.ireturn, 1) := by decide +kernel
theorem dX10_firstThat_80 : decode cX10_firstThat 80 = .ok (.iinc 6 1, 3) := by decide +kernel
theorem dX10_firstThat_83 : decode cX10_firstThat 83 = .ok (.goto (-63), 3) := by decide +kernel
theorem dX10_firstThat_86 : decode cX10_firstThat 86 = .ok (.iconst (-1), 1) := by decide +kernel
theorem dX10_firstThat_87 : decode cX10_firstThat 87 = .ok (.ireturn, 1) := by decide +kernel
theorem dX10_ordered_0 : decode cX10_ordered 0 = .ok (.iload_n 2, 1) := by decide +kernel
theorem dX10_ordered_1 : decode cX10_ordered 1 = .ok (.invokestatic 147, 3) := by decide +kernel
theorem dX10_ordered_4 : decode cX10_ordered 4 = .ok (.ifCond .ne 5, 3) := by decide +kernel
theorem dX10_ordered_7 : decode cX10_ordered 7 = .ok (.iconst 0, 1) := by decide +kernel
theorem dX10_ordered_8 : decode cX10_ordered 8 = .ok (.ireturn, 1) := by decide +kernel
theorem dX10_ordered_9 : decode cX10_ordered 9 = .ok (.aload_n 0, 1) := by decide +kernel
theorem dX10_ordered_10 : decode cX10_ordered 10 = .ok (.getfield 35, 3) := by decide +kernel
theorem dX10_ordered_13 : decode cX10_ordered 13 = .ok (.iconst 0, 1) := by decide +kernel
theorem dX10_ordered_14 : decode cX10_ordered 14 = .ok (.aload_n 0, 1) := by decide +kernel
theorem dX10_ordered_15 : decode cX10_ordered 15 = .ok (.getfield 12, 3) := by decide +kernel
theorem dX10_ordered_18 : decode cX10_ordered 18 = .ok (.getfield 107, 3) := by decide +kernel
theorem dX10_ordered_21 : decode cX10_ordered 21 = .ok (.iload_n 1, 1) := by decide +kernel
theorem dX10_ordered_22 : decode cX10_ordered 22 = .ok (.iaload, 1) := by decide +kernel
theorem dX10_ordered_23 : decode cX10_ordered 23 = .ok (.iload_n 2, 1) := by decide +kernel
theorem dX10_ordered_24 : decode cX10_ordered 24 = .ok (.invokevirtual 128, 3) := by decide +kernel
theorem dX10_ordered_27 : decode cX10_ordered 27 = .ok (.istore 4, 2) := by decide +kernel
theorem dX10_ordered_29 : decode cX10_ordered 29 = .ok (.aload_n 0, 1) := by decide +kernel
theorem dX10_ordered_30 : decode cX10_ordered 30 = .ok (.iload_n 1, 1) := by decide +kernel
theorem dX10_ordered_31 : decode cX10_ordered 31 = .ok (.iconst 0, 1) := by decide +kernel
theorem dX10_ordered_32 : decode cX10_ordered 32 = .ok (.iload_n 2, 1) := by decide +kernel
theorem dX10_ordered_33 : decode cX10_ordered 33 = .ok (.invokevirtual 132, 3) := by decide +kernel
theorem dX10_ordered_36 : decode cX10_ordered 36 = .ok (.iconst 0, 1) := by decide +kernel
theorem dX10_ordered_37 : decode cX10_ordered 37 = .ok (.istore 5, 2) := by decide +kernel
theorem dX10_ordered_39 : decode cX10_ordered 39 = .ok (.iconst 0, 1) := by decide +kernel
theorem dX10_ordered_40 : decode cX10_ordered 40 = .ok (.istore 6, 2) := by decide +kernel
theorem dX10_ordered_42 : decode cX10_ordered 42 = .ok (.iload 6, 2) := by decide +kernel
theorem dX10_ordered_44 : decode cX10_ordered 44 = .ok (.iconst 3, 1) := by decide +kernel
theorem dX10_ordered_45 : decode cX10_ordered 45 = .ok (.if_icmp .ge 67, 3) := by decide +kernel
theorem dX10_ordered_48 : decode cX10_ordered 48 = .ok (.aload_n 0, 1) := by decide +kernel
theorem dX10_ordered_49 : decode cX10_ordered 49 = .ok (.getfield 60, 3) := by decide +kernel
theorem dX10_ordered_52 : decode cX10_ordered 52 = .ok (.iconst 0, 1) := by decide +kernel
theorem dX10_ordered_53 : decode cX10_ordered 53 = .ok (.iload 6, 2) := by decide +kernel
theorem dX10_ordered_55 : decode cX10_ordered 55 = .ok (.iastore, 1) := by decide +kernel
theorem dX10_ordered_56 : decode cX10_ordered 56 = .ok (.iload 6, 2) := by decide +kernel
theorem dX10_ordered_58 : decode cX10_ordered 58 = .ok (.iload_n 3, 1) := by decide +kernel
theorem dX10_ordered_59 : decode cX10_ordered 59 = .ok (.if_icmp .eq 47, 3) := by decide +kernel
theorem dX10_ordered_62 : decode cX10_ordered 62 = .ok (.iload 4, 2) := by decide +kernel
theorem dX10_ordered_64 : decode cX10_ordered 64 = .ok (.ifCond .lt 23, 3) := by decide +kernel
theorem dX10_ordered_67 : decode cX10_ordered 67 = .ok (.aload_n 0, 1) := by decide +kernel
theorem dX10_ordered_68 : decode cX10_ordered 68 = .ok (.getfield 35, 3) := by decide +kernel
theorem dX10_ordered_71 : decode cX10_ordered 71 = .ok (.iload 4, 2) := by decide +kernel
theorem dX10_ordered_73 : decode cX10_ordered 73 = .ok (.aload_n 0, 1) := by decide +kernel
theorem dX10_ordered_74 : decode cX10_ordered 74 = .ok (.getfield 60, 3) := by decide +kernel
theorem dX10_ordered_77 : decode cX10_ordered 77 = .ok (.aload_n 0, 1) := by decide +kernel
theorem dX10_ordered_78 : decode cX10_ordered 78 = .ok (.getfield 63, 3) := by decide +kernel
theorem dX10_ordered_81 : decode cX10_ordered 81 = .ok (.invokevirtual 136, 3) := by decide +kernel
theorem dX10_ordered_84 : decode cX10_ordered 84 = .ok (.ifCond .eq 22, 3) := by decide +kernel
theorem dX10_ordered_87 : decode cX10_ordered 87 = .ok (.iload 5, 2) := by decide +kernel
theorem dX10_ordered_89 : decode cX10_ordered 89 = .ok (.aload_n 0, 1) := by decide +kernel
theorem dX10_ordered_90 : decode cX10_ordered 90 = .ok (.getfield 28, 3) := by decide +kernel
theorem dX10_ordered_93 : decode cX10_ordered 93 = .ok (.iload_n 1, 1) := by decide +kernel
theorem dX10_ordered_94 : decode cX10_ordered 94 = .ok (.iload 6, 2) := by decide +kernel
theorem dX10_ordered_96 : decode cX10_ordered 96 = .ok (.iload_n 2, 1) := by decide +kernel
theorem dX10_ordered_97 : decode cX10_ordered 97 = .ok (.sipush 400, 3) := by decide +kernel
theorem dX10_ordered_100 : decode cX10_ordered 100 = .ok (.invokevirtual 91, 3) := by decide +kernel
theorem dX10_ordered_103 : decode cX10_ordered 103 = .ok (.iadd, 1) := by decide +kernel
theorem dX10_ordered_104 : decode cX10_ordered 104 = .ok (.istore 5, 2) := by decide +kernel
theorem dX10_ordered_106 : decode cX10_ordered 106 = .ok (.iinc 6 1, 3) := by decide +kernel
theorem dX10_ordered_109 : decode cX10_ordered 109 = .ok (.goto (-67), 3) := by decide +kernel
theorem dX10_ordered_112 : decode cX10_ordered 112 = .ok (.iload 5, 2) := by decide +kernel
theorem dX10_ordered_114 : decode cX10_ordered 114 = .ok (.ireturn, 1) := by decide +kernel
theorem dX10_orderedInShire_0 : decode cX10_orderedInShire 0 = .ok (.iconst 0, 1) := by decide +kernel
theorem dX10_orderedInShire_1 : decode cX10_orderedInShire 1 = .ok (.istore_n 3, 1) := by decide +kernel
theorem dX10_orderedInShire_2 : decode cX10_orderedInShire 2 = .ok (.iconst 0, 1) := by decide +kernel
theorem dX10_orderedInShire_3 : decode cX10_orderedInShire 3 = .ok (.istore 4, 2) := by decide +kernel
theorem dX10_orderedInShire_5 : decode cX10_orderedInShire 5 = .ok (.iload 4, 2) := by decide +kernel
theorem dX10_orderedInShire_7 : decode cX10_orderedInShire 7 = .ok (.aload_n 0, 1) := by decide +kernel
theorem dX10_orderedInShire_8 : decode cX10_orderedInShire 8 = .ok (.getfield 12, 3) := by decide +kernel
theorem dX10_orderedInShire_11 : decode cX10_orderedInShire 11 = .ok (.getfield 151, 3) := by decide +kernel
theorem dX10_orderedInShire_14 : decode cX10_orderedInShire 14 = .ok (.if_icmp .ge 34, 3) := by decide +kernel
theorem dX10_orderedInShire_17 : decode cX10_orderedInShire 17 = .ok (.aload_n 0, 1) := by decide +kernel
theorem dX10_orderedInShire_18 : decode cX10_orderedInShire 18 = .ok (.getfield 12, 3) := by decide +kernel
theorem dX10_orderedInShire_21 : decode cX10_orderedInShire 21 = .ok (.getfield 107, 3) := by decide +kernel
theorem dX10_orderedInShire_24 : decode cX10_orderedInShire 24 = .ok (.iload 4, 2) := by decide +kernel
theorem dX10_orderedInShire_26 : decode cX10_orderedInShire 26 = .ok (.iaload, 1) := by decide +kernel
theorem dX10_orderedInShire_27 : decode cX10_orderedInShire 27 = .ok (.iload_n 1, 1) := by decide +kernel
theorem dX10_orderedInShire_28 : decode cX10_orderedInShire 28 = .ok (.if_icmp .ne 14, 3) := by decide +kernel
theorem dX10_orderedInShire_31 : decode cX10_orderedInShire 31 = .ok (.iload_n 3, 1) := by decide +kernel
theorem dX10_orderedInShire_32 : decode cX10_orderedInShire 32 = .ok (.aload_n 0, 1) := by decide +kernel
theorem dX10_orderedInShire_33 : decode cX10_orderedInShire 33 = .ok (.iload 4, 2) := by decide +kernel
theorem dX10_orderedInShire_35 : decode cX10_orderedInShire 35 = .ok (.iload_n 2, 1) := by decide +kernel
theorem dX10_orderedInShire_36 : decode cX10_orderedInShire 36 = .ok (.iconst (-1), 1) := by decide +kernel
theorem dX10_orderedInShire_37 : decode cX10_orderedInShire 37 = .ok (.invokevirtual 152, 3) := by decide +kernel
theorem dX10_orderedInShire_40 : decode cX10_orderedInShire 40 = .ok (.iadd, 1) := by decide +kernel
theorem dX10_orderedInShire_41 : decode cX10_orderedInShire 41 = .ok (.istore_n 3, 1) := by decide +kernel
theorem dX10_orderedInShire_42 : decode cX10_orderedInShire 42 = .ok (.iinc 4 1, 3) := by decide +kernel
theorem dX10_orderedInShire_45 : decode cX10_orderedInShire 45 = .ok (.goto (-40), 3) := by decide +kernel
theorem dX10_orderedInShire_48 : decode cX10_orderedInShire 48 = .ok (.iload_n 3, 1) := by decide +kernel
theorem dX10_orderedInShire_49 : decode cX10_orderedInShire 49 = .ok (.ireturn, 1) := by decide +kernel
theorem dX10_passDays_0 : decode cX10_passDays 0 = .ok (.iconst 0, 1) := by decide +kernel
theorem dX10_passDays_1 : decode cX10_passDays 1 = .ok (.istore_n 3, 1) := by decide +kernel
theorem dX10_passDays_2 : decode cX10_passDays 2 = .ok (.iload_n 3, 1) := by decide +kernel
theorem dX10_passDays_3 : decode cX10_passDays 3 = .ok (.iload_n 1, 1) := by decide +kernel
theorem dX10_passDays_4 : decode cX10_passDays 4 = .ok (.if_icmp .ge 34, 3) := by decide +kernel
theorem dX10_passDays_7 : decode cX10_passDays 7 = .ok (.aload_n 0, 1) := by decide +kernel
theorem dX10_passDays_8 : decode cX10_passDays 8 = .ok (.getfield 67, 3) := by decide +kernel
theorem dX10_passDays_11 : decode cX10_passDays 11 = .ok (.invokestatic 147, 3) := by decide +kernel
theorem dX10_passDays_14 : decode cX10_passDays 14 = .ok (.ifCond .eq 8, 3) := by decide +kernel
theorem dX10_passDays_17 : decode cX10_passDays 17 = .ok (.aload_n 0, 1) := by decide +kernel
theorem dX10_passDays_18 : decode cX10_passDays 18 = .ok (.iload_n 2, 1) := by decide +kernel
theorem dX10_passDays_19 : decode cX10_passDays 19 = .ok (.invokevirtual 155, 3) := by decide +kernel
theorem dX10_passDays_22 : decode cX10_passDays 22 = .ok (.aload_n 0, 1) := by decide +kernel
theorem dX10_passDays_23 : decode cX10_passDays 23 = .ok (.dup, 1) := by decide +kernel
theorem dX10_passDays_24 : decode cX10_passDays 24 = .ok (.getfield 67, 3) := by decide +kernel
theorem dX10_passDays_27 : decode cX10_passDays 27 = .ok (.iconst 1, 1) := by decide +kernel
theorem dX10_passDays_28 : decode cX10_passDays 28 = .ok (.iadd, 1) := by decide +kernel
theorem dX10_passDays_29 : decode cX10_passDays 29 = .ok (.putfield 67, 3) := by decide +kernel
theorem dX10_passDays_32 : decode cX10_passDays 32 = .ok (.iinc 3 1, 3) := by decide +kernel
theorem dX10_passDays_35 : decode cX10_passDays 35 = .ok (.goto (-33), 3) := by decide +kernel
theorem dX10_passDays_38 : decode cX10_passDays 38 = .ok (.return_, 1) := by decide +kernel
theorem dX10_passSchoolDay_0 : decode cX10_passSchoolDay 0 = .ok (.aload_n 0, 1) := by decide +kernel
theorem dX10_passSchoolDay_1 : decode cX10_passSchoolDay 1 = .ok (.aload_n 0, 1) := by decide +kernel
theorem dX10_passSchoolDay_2 : decode cX10_passSchoolDay 2 = .ok (.aload_n 0, 1) := by decide +kernel
theorem dX10_passSchoolDay_3 : decode cX10_passSchoolDay 3 = .ok (.getfield 67, 3) := by decide +kernel
theorem dX10_passSchoolDay_6 : decode cX10_passSchoolDay 6 = .ok (.iconst 2, 1) := by decide +kernel
theorem dX10_passSchoolDay_7 : decode cX10_passSchoolDay 7 = .ok (.invokevirtual 119, 3) := by decide +kernel
theorem dX10_passSchoolDay_10 : decode cX10_passSchoolDay 10 = .ok (.putfield 159, 3) := by decide +kernel
theorem dX10_passSchoolDay_13 : decode cX10_passSchoolDay 13 = .ok (.aload_n 0, 1) := by decide +kernel
theorem dX10_passSchoolDay_14 : decode cX10_passSchoolDay 14 = .ok (.getfield 21, 3) := by decide +kernel
theorem dX10_passSchoolDay_17 : decode cX10_passSchoolDay 17 = .ok (.invokevirtual 162, 3) := by decide +kernel
theorem dX10_passSchoolDay_20 : decode cX10_passSchoolDay 20 = .ok (.iconst 0, 1) := by decide +kernel
theorem dX10_passSchoolDay_21 : decode cX10_passSchoolDay 21 = .ok (.istore_n 2, 1) := by decide +kernel
theorem dX10_passSchoolDay_22 : decode cX10_passSchoolDay 22 = .ok (.iload_n 2, 1) := by decide +kernel
theorem dX10_passSchoolDay_23 : decode cX10_passSchoolDay 23 = .ok (.aload_n 0, 1) := by decide +kernel
theorem dX10_passSchoolDay_24 : decode cX10_passSchoolDay 24 = .ok (.getfield 12, 3) := by decide +kernel
theorem dX10_passSchoolDay_27 : decode cX10_passSchoolDay 27 = .ok (.getfield 151, 3) := by decide +kernel
theorem dX10_passSchoolDay_30 : decode cX10_passSchoolDay 30 = .ok (.if_icmp .ge 144, 3) := by decide +kernel
theorem dX10_passSchoolDay_33 : decode cX10_passSchoolDay 33 = .ok (.aload_n 0, 1) := by decide +kernel
theorem dX10_passSchoolDay_34 : decode cX10_passSchoolDay 34 = .ok (.iload_n 2, 1) := by decide +kernel
theorem dX10_passSchoolDay_35 : decode cX10_passSchoolDay 35 = .ok (.aload_n 0, 1) := by decide +kernel
theorem dX10_passSchoolDay_36 : decode cX10_passSchoolDay 36 = .ok (.getfield 67, 3) := by decide +kernel
theorem dX10_passSchoolDay_39 : decode cX10_passSchoolDay 39 = .ok (.iload_n 1, 1) := by decide +kernel
theorem dX10_passSchoolDay_40 : decode cX10_passSchoolDay 40 = .ok (.invokevirtual 152, 3) := by decide +kernel
theorem dX10_passSchoolDay_43 : decode cX10_passSchoolDay 43 = .ok (.istore_n 3, 1) := by decide +kernel
theorem dX10_passSchoolDay_44 : decode cX10_passSchoolDay 44 = .ok (.aload_n 0, 1) := by decide +kernel
theorem dX10_passSchoolDay_45 : decode cX10_passSchoolDay 45 = .ok (.getfield 21, 3) := by decide +kernel
theorem dX10_passSchoolDay_48 : decode cX10_passSchoolDay 48 = .ok (.aload_n 0, 1) := by decide +kernel
theorem dX10_passSchoolDay_49 : decode cX10_passSchoolDay 49 = .ok (.getfield 12, 3) := by decide +kernel
theorem dX10_passSchoolDay_52 : decode cX10_passSchoolDay 52 = .ok (.getfield 107, 3) := by decide +kernel
theorem dX10_passSchoolDay_55 : decode cX10_passSchoolDay 55 = .ok (.iload_n 2, 1) := by decide +kernel
theorem dX10_passSchoolDay_56 : decode cX10_passSchoolDay 56 = .ok (.iaload, 1) := by decide +kernel
theorem dX10_passSchoolDay_57 : decode cX10_passSchoolDay 57 = .ok (.invokevirtual 165, 3) := by decide +kernel
theorem dX10_passSchoolDay_60 : decode cX10_passSchoolDay 60 = .ok (.istore 4, 2) := by decide +kernel
theorem dX10_passSchoolDay_62 : decode cX10_passSchoolDay 62 = .ok (.iload 4, 2) := by decide +kernel
theorem dX10_passSchoolDay_64 : decode cX10_passSchoolDay 64 = .ok (.ifCond .ge 7, 3) := by decide +kernel
theorem dX10_passSchoolDay_67 : decode cX10_passSchoolDay 67 = .ok (.iconst 0, 1) := by decide +kernel
theorem dX10_passSchoolDay_68 : decode cX10_passSchoolDay 68 = .ok (.goto 20, 3) := by decide +kernel
theorem dX10_passSchoolDay_71 : decode cX10_passSchoolDay 71 = .ok (.aload_n 0, 1) := by decide +kernel
theorem dX10_passSchoolDay_72 : decode cX10_passSchoolDay 72 = .ok (.getfield 21, 3) := by decide +kernel
theorem dX10_passSchoolDay_75 : decode cX10_passSchoolDay 75 = .ok (.iload 4, 2) := by decide +kernel
theorem dX10_passSchoolDay_77 : decode cX10_passSchoolDay 77 = .ok (.iload_n 3, 1) := by decide +kernel
theorem dX10_passSchoolDay_78 : decode cX10_passSchoolDay 78 = .ok (.aload_n 0, 1) := by decide +kernel
theorem dX10_passSchoolDay_79 : decode cX10_passSchoolDay 79 = .ok (.getfield 159, 3) := by decide +kernel
theorem dX10_passSchoolDay_82 : decode cX10_passSchoolDay 82 = .ok (.invokestatic 168, 3) := by decide +kernel
theorem dX10_passSchoolDay_85 : decode cX10_passSchoolDay 85 = .ok (.invokevirtual 171, 3) := by decide +kernel
theorem dX10_passSchoolDay_88 : decode cX10_passSchoolDay 88 = .ok (.istore 5, 2) := by decide +kernel
theorem dX10_passSchoolDay_90 : decode cX10_passSchoolDay 90 = .ok (.aload_n 0, 1) := by decide +kernel
theorem dX10_passSchoolDay_91 : decode cX10_passSchoolDay 91 = .ok (.dup, 1) := by decide +kernel
theorem dX10_passSchoolDay_92 : decode cX10_passSchoolDay 92 = .ok (.getfield 159, 3) := by decide +kernel
theorem dX10_passSchoolDay_95 : decode cX10_passSchoolDay 95 = .ok (.iload 5, 2) := by decide +kernel
theorem dX10_passSchoolDay_97 : decode cX10_passSchoolDay 97 = .ok (.isub, 1) := by decide +kernel
theorem dX10_passSchoolDay_98 : decode cX10_passSchoolDay 98 = .ok (.putfield 159, 3) := by decide +kernel
theorem dX10_passSchoolDay_101 : decode cX10_passSchoolDay 101 = .ok (.aload_n 0, 1) := by decide +kernel
theorem dX10_passSchoolDay_102 : decode cX10_passSchoolDay 102 = .ok (.getfield 12, 3) := by decide +kernel
theorem dX10_passSchoolDay_105 : decode cX10_passSchoolDay 105 = .ok (.iload_n 2, 1) := by decide +kernel
theorem dX10_passSchoolDay_106 : decode cX10_passSchoolDay 106 = .ok (.iconst 0, 1) := by decide +kernel
theorem dX10_passSchoolDay_107 : decode cX10_passSchoolDay 107 = .ok (.iload_n 3, 1) := by decide +kernel
theorem dX10_passSchoolDay_108 : decode cX10_passSchoolDay 108 = .ok (.invokevirtual 174, 3) := by decide +kernel
theorem dX10_passSchoolDay_111 : decode cX10_passSchoolDay 111 = .ok (.aload_n 0, 1) := by decide +kernel
theorem dX10_passSchoolDay_112 : decode cX10_passSchoolDay 112 = .ok (.getfield 12, 3) := by decide +kernel
theorem dX10_passSchoolDay_115 : decode cX10_passSchoolDay 115 = .ok (.iload_n 2, 1) := by decide +kernel
theorem dX10_passSchoolDay_116 : decode cX10_passSchoolDay 116 = .ok (.iconst 1, 1) := by decide +kernel
theorem dX10_passSchoolDay_117 : decode cX10_passSchoolDay 117 = .ok (.iload 5, 2) := by decide +kernel
theorem dX10_passSchoolDay_119 : decode cX10_passSchoolDay 119 = .ok (.invokevirtual 174, 3) := by decide +kernel
theorem dX10_passSchoolDay_122 : decode cX10_passSchoolDay 122 = .ok (.aload_n 0, 1) := by decide +kernel
theorem dX10_passSchoolDay_123 : decode cX10_passSchoolDay 123 = .ok (.getfield 12, 3) := by decide +kernel
theorem dX10_passSchoolDay_126 : decode cX10_passSchoolDay 126 = .ok (.iload_n 2, 1) := by decide +kernel
theorem dX10_passSchoolDay_127 : decode cX10_passSchoolDay 127 = .ok (.iconst 2, 1) := by decide +kernel
theorem dX10_passSchoolDay_128 : decode cX10_passSchoolDay 128 = .ok (.iload_n 3, 1) := by decide +kernel
theorem dX10_passSchoolDay_129 : decode cX10_passSchoolDay 129 = .ok (.iload 5, 2) := by decide +kernel
theorem dX10_passSchoolDay_131 : decode cX10_passSchoolDay 131 = .ok (.isub, 1) := by decide +kernel
theorem dX10_passSchoolDay_132 : decode cX10_passSchoolDay 132 = .ok (.invokevirtual 174, 3) := by decide +kernel
theorem dX10_passSchoolDay_135 : decode cX10_passSchoolDay 135 = .ok (.aload_n 0, 1) := by decide +kernel
theorem dX10_passSchoolDay_136 : decode cX10_passSchoolDay 136 = .ok (.iload_n 2, 1) := by decide +kernel
theorem dX10_passSchoolDay_137 : decode cX10_passSchoolDay 137 = .ok (.iload 5, 2) := by decide +kernel
theorem dX10_passSchoolDay_139 : decode cX10_passSchoolDay 139 = .ok (.iload_n 3, 1) := by decide +kernel
theorem dX10_passSchoolDay_140 : decode cX10_passSchoolDay 140 = .ok (.iload 5, 2) := by decide +kernel
theorem dX10_passSchoolDay_142 : decode cX10_passSchoolDay 142 = .ok (.isub, 1) := by decide +kernel
theorem dX10_passSchoolDay_143 : decode cX10_passSchoolDay 143 = .ok (.invokevirtual 177, 3) := by decide +kernel
theorem dX10_passSchoolDay_146 : decode cX10_passSchoolDay 146 = .ok (.istore 6, 2) := by decide +kernel
theorem dX10_passSchoolDay_148 : decode cX10_passSchoolDay 148 = .ok (.iload 4, 2) := by decide +kernel
theorem dX10_passSchoolDay_150 : decode cX10_passSchoolDay 150 = .ok (.ifCond .lt 18, 3) := by decide +kernel
theorem dX10_passSchoolDay_153 : decode cX10_passSchoolDay 153 = .ok (.aload_n 0, 1) := by decide +kernel
theorem dX10_passSchoolDay_154 : decode cX10_passSchoolDay 154 = .ok (.getfield 21, 3) := by decide +kernel
theorem dX10_passSchoolDay_157 : decode cX10_passSchoolDay 157 = .ok (.getfield 180, 3) := by decide +kernel
theorem dX10_passSchoolDay_160 : decode cX10_passSchoolDay 160 = .ok (.iload 4, 2) := by decide +kernel
theorem dX10_passSchoolDay_162 : decode cX10_passSchoolDay 162 = .ok (.dup2, 1) := by decide +kernel
theorem dX10_passSchoolDay_163 : decode cX10_passSchoolDay 163 = .ok (.iaload, 1) := by decide +kernel
theorem dX10_passSchoolDay_164 : decode cX10_passSchoolDay 164 = .ok (.iload 6, 2) := by decide +kernel
theorem dX10_passSchoolDay_166 : decode cX10_passSchoolDay 166 = .ok (.iadd, 1) := by decide +kernel
theorem dX10_passSchoolDay_167 : decode cX10_passSchoolDay 167 = .ok (.iastore, 1) := by decide +kernel
theorem dX10_passSchoolDay_168 : decode cX10_passSchoolDay 168 = .ok (.iinc 2 1, 3) := by decide +kernel
theorem dX10_passSchoolDay_171 : decode cX10_passSchoolDay 171 = .ok (.goto (-149), 3) := by decide +kernel
theorem dX10_passSchoolDay_174 : decode cX10_passSchoolDay 174 = .ok (.aload_n 0, 1) := by decide +kernel
theorem dX10_passSchoolDay_175 : decode cX10_passSchoolDay 175 = .ok (.getfield 21, 3) := by decide +kernel
theorem dX10_passSchoolDay_178 : decode cX10_passSchoolDay 178 = .ok (.invokevirtual 183, 3) := by decide +kernel
theorem dX10_passSchoolDay_181 : decode cX10_passSchoolDay 181 = .ok (.return_, 1) := by decide +kernel
theorem dX10_handOut_0 : decode cX10_handOut 0 = .ok (.iload_n 2, 1) := by decide +kernel
theorem dX10_handOut_1 : decode cX10_handOut 1 = .ok (.aload_n 0, 1) := by decide +kernel
theorem dX10_handOut_2 : decode cX10_handOut 2 = .ok (.aload_n 0, 1) := by decide +kernel
theorem dX10_handOut_3 : decode cX10_handOut 3 = .ok (.getfield 67, 3) := by decide +kernel
theorem dX10_handOut_6 : decode cX10_handOut 6 = .ok (.iconst 0, 1) := by decide +kernel
theorem dX10_handOut_7 : decode cX10_handOut 7 = .ok (.invokevirtual 119, 3) := by decide +kernel
theorem dX10_handOut_10 : decode cX10_handOut 10 = .ok (.imul, 1) := by decide +kernel
theorem dX10_handOut_11 : decode cX10_handOut 11 = .ok (.bipush 100, 2) := by decide +kernel
theorem dX10_handOut_13 : decode cX10_handOut 13 = .ok (.idiv, 1) := by decide +kernel
theorem dX10_handOut_14 : decode cX10_handOut 14 = .ok (.istore 4, 2) := by decide +kernel
theorem dX10_handOut_16 : decode cX10_handOut 16 = .ok (.aload_n 0, 1) := by decide +kernel
theorem dX10_handOut_17 : decode cX10_handOut 17 = .ok (.aload_n 0, 1) := by decide +kernel
theorem dX10_handOut_18 : decode cX10_handOut 18 = .ok (.getfield 67, 3) := by decide +kernel
theorem dX10_handOut_21 : decode cX10_handOut 21 = .ok (.iconst 1, 1) := by decide +kernel
theorem dX10_handOut_22 : decode cX10_handOut 22 = .ok (.invokevirtual 119, 3) := by decide +kernel
theorem dX10_handOut_25 : decode cX10_handOut 25 = .ok (.bipush 20, 2) := by decide +kernel
theorem dX10_handOut_27 : decode cX10_handOut 27 = .ok (.if_icmp .lt 21, 3) := by decide +kernel
theorem dX10_handOut_30 : decode cX10_handOut 30 = .ok (.aload_n 0, 1) := by decide +kernel
theorem dX10_handOut_31 : decode cX10_handOut 31 = .ok (.iconst 1, 1) := by decide +kernel
theorem dX10_handOut_32 : decode cX10_handOut 32 = .ok (.iload_n 1, 1) := by decide +kernel
theorem dX10_handOut_33 : decode cX10_handOut 33 = .ok (.iconst 0, 1) := by decide +kernel
theorem dX10_handOut_34 : decode cX10_handOut 34 = .ok (.aload_n 0, 1) := by decide +kernel
theorem dX10_handOut_35 : decode cX10_handOut 35 = .ok (.getfield 67, 3) := by decide +kernel
theorem dX10_handOut_38 : decode cX10_handOut 38 = .ok (.invokevirtual 186, 3) := by decide +kernel
theorem dX10_handOut_41 : decode cX10_handOut 41 = .ok (.ifCond .eq 7, 3) := by decide +kernel
theorem dX10_handOut_44 : decode cX10_handOut 44 = .ok (.iconst 1, 1) := by decide +kernel
theorem dX10_handOut_45 : decode cX10_handOut 45 = .ok (.goto 4, 3) := by decide +kernel
theorem dX10_handOut_48 : decode cX10_handOut 48 = .ok (.iconst 0, 1) := by decide +kernel
theorem dX10_handOut_49 : decode cX10_handOut 49 = .ok (.istore 5, 2) := by decide +kernel
theorem dX10_handOut_51 : decode cX10_handOut 51 = .ok (.iload 5, 2) := by decide +kernel
theorem dX10_handOut_53 : decode cX10_handOut 53 = .ok (.ifCond .eq 10, 3) := by decide +kernel
theorem dX10_handOut_56 : decode cX10_handOut 56 = .ok (.iload_n 2, 1) := by decide +kernel
theorem dX10_handOut_57 : decode cX10_handOut 57 = .ok (.iload 4, 2) := by decide +kernel
theorem dX10_handOut_59 : decode cX10_handOut 59 = .ok (.isub, 1) := by decide +kernel
theorem dX10_handOut_60 : decode cX10_handOut 60 = .ok (.goto 4, 3) := by decide +kernel
theorem dX10_handOut_63 : decode cX10_handOut 63 = .ok (.iconst 0, 1) := by decide +kernel
theorem dX10_handOut_64 : decode cX10_handOut 64 = .ok (.istore 6, 2) := by decide +kernel
theorem dX10_handOut_66 : decode cX10_handOut 66 = .ok (.iload_n 2, 1) := by decide +kernel
theorem dX10_handOut_67 : decode cX10_handOut 67 = .ok (.iload 4, 2) := by decide +kernel
theorem dX10_handOut_69 : decode cX10_handOut 69 = .ok (.isub, 1) := by decide +kernel
theorem dX10_handOut_70 : decode cX10_handOut 70 = .ok (.iload 6, 2) := by decide +kernel
theorem dX10_handOut_72 : decode cX10_handOut 72 = .ok (.isub, 1) := by decide +kernel
theorem dX10_handOut_73 : decode cX10_handOut 73 = .ok (.istore 7, 2) := by decide +kernel
theorem dX10_handOut_75 : decode cX10_handOut 75 = .ok (.iload 7, 2) := by decide +kernel
theorem dX10_handOut_77 : decode cX10_handOut 77 = .ok (.aload_n 0, 1) := by decide +kernel
theorem dX10_handOut_78 : decode cX10_handOut 78 = .ok (.getfield 12, 3) := by decide +kernel
theorem dX10_handOut_81 : decode cX10_handOut 81 = .ok (.getfield 189, 3) := by decide +kernel
theorem dX10_handOut_84 : decode cX10_handOut 84 = .ok (.iload_n 1, 1) := by decide +kernel
theorem dX10_handOut_85 : decode cX10_handOut 85 = .ok (.iaload, 1) := by decide +kernel
theorem dX10_handOut_86 : decode cX10_handOut 86 = .ok (.imul, 1) := by decide +kernel
theorem dX10_handOut_87 : decode cX10_handOut 87 = .ok (.bipush 100, 2) := by decide +kernel
theorem dX10_handOut_89 : decode cX10_handOut 89 = .ok (.idiv, 1) := by decide +kernel
theorem dX10_handOut_90 : decode cX10_handOut 90 = .ok (.istore 8, 2) := by decide +kernel
theorem dX10_handOut_92 : decode cX10_handOut 92 = .ok (.iload 7, 2) := by decide +kernel
theorem dX10_handOut_94 : decode cX10_handOut 94 = .ok (.aload_n 0, 1) := by decide +kernel
theorem dX10_handOut_95 : decode cX10_handOut 95 = .ok (.getfield 12, 3) := by decide +kernel
theorem dX10_handOut_98 : decode cX10_handOut 98 = .ok (.getfield 192, 3) := by decide +kernel
theorem dX10_handOut_101 : decode cX10_handOut 101 = .ok (.iload_n 1, 1) := by decide +kernel
theorem dX10_handOut_102 : decode cX10_handOut 102 = .ok (.iaload, 1) := by decide +kernel
theorem dX10_handOut_103 : decode cX10_handOut 103 = .ok (.imul, 1) := by decide +kernel
theorem dX10_handOut_104 : decode cX10_handOut 104 = .ok (.bipush 100, 2) := by decide +kernel
theorem dX10_handOut_106 : decode cX10_handOut 106 = .ok (.idiv, 1) := by decide +kernel
theorem dX10_handOut_107 : decode cX10_handOut 107 = .ok (.istore 9, 2) := by decide +kernel
theorem dX10_handOut_109 : decode cX10_handOut 109 = .ok (.aload_n 0, 1) := by decide +kernel
theorem dX10_handOut_110 : decode cX10_handOut 110 = .ok (.getfield 12, 3) := by decide +kernel
theorem dX10_handOut_113 : decode cX10_handOut 113 = .ok (.iload_n 1, 1) := by decide +kernel
theorem dX10_handOut_114 : decode cX10_handOut 114 = .ok (.iconst 3, 1) := by decide +kernel
theorem dX10_handOut_115 : decode cX10_handOut 115 = .ok (.iload 4, 2) := by decide +kernel
theorem dX10_handOut_117 : decode cX10_handOut 117 = .ok (.invokevirtual 174, 3) := by decide +kernel
theorem dX10_handOut_120 : decode cX10_handOut 120 = .ok (.aload_n 0, 1) := by decide +kernel
theorem dX10_handOut_121 : decode cX10_handOut 121 = .ok (.getfield 12, 3) := by decide +kernel
theorem dX10_handOut_124 : decode cX10_handOut 124 = .ok (.iload_n 1, 1) := by decide +kernel
theorem dX10_handOut_125 : decode cX10_handOut 125 = .ok (.iconst 4, 1) := by decide +kernel
theorem dX10_handOut_126 : decode cX10_handOut 126 = .ok (.iload 6, 2) := by decide +kernel
theorem dX10_handOut_128 : decode cX10_handOut 128 = .ok (.invokevirtual 174, 3) := by decide +kernel
theorem dX10_handOut_131 : decode cX10_handOut 131 = .ok (.aload_n 0, 1) := by decide +kernel
theorem dX10_handOut_132 : decode cX10_handOut 132 = .ok (.getfield 12, 3) := by decide +kernel
theorem dX10_handOut_135 : decode cX10_handOut 135 = .ok (.iload_n 1, 1) := by decide +kernel
theorem dX10_handOut_136 : decode cX10_handOut 136 = .ok (.iconst 5, 1) := by decide +kernel
theorem dX10_handOut_137 : decode cX10_handOut 137 = .ok (.iload 7, 2) := by decide +kernel
theorem dX10_handOut_139 : decode cX10_handOut 139 = .ok (.invokevirtual 174, 3) := by decide +kernel
theorem dX10_handOut_142 : decode cX10_handOut 142 = .ok (.aload_n 0, 1) := by decide +kernel
theorem dX10_handOut_143 : decode cX10_handOut 143 = .ok (.getfield 12, 3) := by decide +kernel
theorem dX10_handOut_146 : decode cX10_handOut 146 = .ok (.iload_n 1, 1) := by decide +kernel
theorem dX10_handOut_147 : decode cX10_handOut 147 = .ok (.bipush 6, 2) := by decide +kernel
theorem dX10_handOut_149 : decode cX10_handOut 149 = .ok (.iload 8, 2) := by decide +kernel
theorem dX10_handOut_151 : decode cX10_handOut 151 = .ok (.invokevirtual 174, 3) := by decide +kernel
theorem dX10_handOut_154 : decode cX10_handOut 154 = .ok (.aload_n 0, 1) := by decide +kernel
theorem dX10_handOut_155 : decode cX10_handOut 155 = .ok (.getfield 12, 3) := by decide +kernel
theorem dX10_handOut_158 : decode cX10_handOut 158 = .ok (.iload_n 1, 1) := by decide +kernel
theorem dX10_handOut_159 : decode cX10_handOut 159 = .ok (.bipush 7, 2) := by decide +kernel
theorem dX10_handOut_161 : decode cX10_handOut 161 = .ok (.iload 7, 2) := by decide +kernel
theorem dX10_handOut_163 : decode cX10_handOut 163 = .ok (.iload 9, 2) := by decide +kernel
theorem dX10_handOut_165 : decode cX10_handOut 165 = .ok (.isub, 1) := by decide +kernel
theorem dX10_handOut_166 : decode cX10_handOut 166 = .ok (.invokevirtual 174, 3) := by decide +kernel
theorem dX10_handOut_169 : decode cX10_handOut 169 = .ok (.aload_n 0, 1) := by decide +kernel
theorem dX10_handOut_170 : decode cX10_handOut 170 = .ok (.getfield 12, 3) := by decide +kernel
theorem dX10_handOut_173 : decode cX10_handOut 173 = .ok (.iload_n 1, 1) := by decide +kernel
theorem dX10_handOut_174 : decode cX10_handOut 174 = .ok (.bipush 8, 2) := by decide +kernel
theorem dX10_handOut_176 : decode cX10_handOut 176 = .ok (.iload 9, 2) := by decide +kernel
theorem dX10_handOut_178 : decode cX10_handOut 178 = .ok (.invokevirtual 174, 3) := by decide +kernel
theorem dX10_handOut_181 : decode cX10_handOut 181 = .ok (.iload 9, 2) := by decide +kernel
theorem dX10_handOut_183 : decode cX10_handOut 183 = .ok (.ifCond .le 29, 3) := by decide +kernel
theorem dX10_handOut_186 : decode cX10_handOut 186 = .ok (.aload_n 0, 1) := by decide +kernel
theorem dX10_handOut_187 : decode cX10_handOut 187 = .ok (.iconst 2, 1) := by decide +kernel
theorem dX10_handOut_188 : decode cX10_handOut 188 = .ok (.iload_n 1, 1) := by decide +kernel
theorem dX10_handOut_189 : decode cX10_handOut 189 = .ok (.iconst 0, 1) := by decide +kernel
theorem dX10_handOut_190 : decode cX10_handOut 190 = .ok (.aload_n 0, 1) := by decide +kernel
theorem dX10_handOut_191 : decode cX10_handOut 191 = .ok (.getfield 67, 3) := by decide +kernel
theorem dX10_handOut_194 : decode cX10_handOut 194 = .ok (.invokevirtual 186, 3) := by decide +kernel
theorem dX10_handOut_197 : decode cX10_handOut 197 = .ok (.ifCond .eq 15, 3) := by decide +kernel
theorem dX10_handOut_200 : decode cX10_handOut 200 = .ok (.aload_n 0, 1) := by decide +kernel
theorem dX10_handOut_201 : decode cX10_handOut 201 = .ok (.getfield 12, 3) := by decide +kernel
theorem dX10_handOut_204 : decode cX10_handOut 204 = .ok (.iload_n 1, 1) := by decide +kernel
theorem dX10_handOut_205 : decode cX10_handOut 205 = .ok (.bipush 9, 2) := by decide +kernel
theorem dX10_handOut_207 : decode cX10_handOut 207 = .ok (.iload 9, 2) := by decide +kernel
theorem dX10_handOut_209 : decode cX10_handOut 209 = .ok (.invokevirtual 174, 3) := by decide +kernel
theorem dX10_handOut_212 : decode cX10_handOut 212 = .ok (.aload_n 0, 1) := by decide +kernel
theorem dX10_handOut_213 : decode cX10_handOut 213 = .ok (.getfield 21, 3) := by decide +kernel
theorem dX10_handOut_216 : decode cX10_handOut 216 = .ok (.aload_n 0, 1) := by decide +kernel
theorem dX10_handOut_217 : decode cX10_handOut 217 = .ok (.getfield 12, 3) := by decide +kernel
theorem dX10_handOut_220 : decode cX10_handOut 220 = .ok (.getfield 107, 3) := by decide +kernel
theorem dX10_handOut_223 : decode cX10_handOut 223 = .ok (.iload_n 1, 1) := by decide +kernel
theorem dX10_handOut_224 : decode cX10_handOut 224 = .ok (.iaload, 1) := by decide +kernel
theorem dX10_handOut_225 : decode cX10_handOut 225 = .ok (.invokevirtual 195, 3) := by decide +kernel
theorem dX10_handOut_228 : decode cX10_handOut 228 = .ok (.istore 10, 2) := by decide +kernel
theorem dX10_handOut_230 : decode cX10_handOut 230 = .ok (.aload_n 0, 1) := by decide +kernel
theorem dX10_handOut_231 : decode cX10_handOut 231 = .ok (.getfield 12, 3) := by decide +kernel
theorem dX10_handOut_234 : decode cX10_handOut 234 = .ok (.iload_n 1, 1) := by decide +kernel
theorem dX10_handOut_235 : decode cX10_handOut 235 = .ok (.bipush 10, 2) := by decide +kernel
theorem dX10_handOut_237 : decode cX10_handOut 237 = .ok (.iconst 1, 1) := by decide +kernel
theorem dX10_handOut_238 : decode cX10_handOut 238 = .ok (.iload 7, 2) := by decide +kernel
theorem dX10_handOut_240 : decode cX10_handOut 240 = .ok (.iload 8, 2) := by decide +kernel
theorem dX10_handOut_242 : decode cX10_handOut 242 = .ok (.isub, 1) := by decide +kernel
theorem dX10_handOut_243 : decode cX10_handOut 243 = .ok (.iload 10, 2) := by decide +kernel
theorem dX10_handOut_245 : decode cX10_handOut 245 = .ok (.invokestatic 200, 3) := by decide +kernel
theorem dX10_handOut_248 : decode cX10_handOut 248 = .ok (.iconst 3, 1) := by decide +kernel
theorem dX10_handOut_249 : decode cX10_handOut 249 = .ok (.iload 8, 2) := by decide +kernel
