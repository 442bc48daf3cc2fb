theorem dX12_head_47 : decode cX12_head 47 = .ok (.iconst (-1), 1) := by decide +kernel
theorem dX12_head_48 : decode cX12_head 48 = .ok (.ireturn, 1) := by decide +kernel
theorem dX12_here_0 : decode cX12_here 0 = .ok (.aload_n 0, 1) := by decide +kernel
theorem dX12_here_1 : decode cX12_here 1 = .ok (.getfield 167, 3) := by decide +kernel
theorem dX12_here_4 : decode cX12_here 4 = .ok (.aload_n 0, 1) := by decide +kernel
theorem dX12_here_5 : decode cX12_here 5 = .ok (.getfield 170, 3) := by decide +kernel
theorem dX12_here_8 : decode cX12_here 8 = .ok (.if_icmp .lt 7, 3) := by decide +kernel
theorem dX12_here_11 : decode cX12_here 11 = .ok (.iconst (-1), 1) := by decide +kernel
theorem dX12_here_12 : decode cX12_here 12 = .ok (.goto 46, 3) := by decide +kernel
theorem dX12_here_15 : decode cX12_here 15 = .ok (.aload_n 0, 1) := by decide +kernel
theorem dX12_here_16 : decode cX12_here 16 = .ok (.getfield 173, 3) := by decide +kernel
theorem dX12_here_19 : decode cX12_here 19 = .ok (.ifCond .eq 25, 3) := by decide +kernel
theorem dX12_here_22 : decode cX12_here 22 = .ok (.aload_n 0, 1) := by decide +kernel
theorem dX12_here_23 : decode cX12_here 23 = .ok (.getfield 120, 3) := by decide +kernel
theorem dX12_here_26 : decode cX12_here 26 = .ok (.aload_n 0, 1) := by decide +kernel
theorem dX12_here_27 : decode cX12_here 27 = .ok (.getfield 177, 3) := by decide +kernel
theorem dX12_here_30 : decode cX12_here 30 = .ok (.aload_n 0, 1) := by decide +kernel
theorem dX12_here_31 : decode cX12_here 31 = .ok (.getfield 167, 3) := by decide +kernel
theorem dX12_here_34 : decode cX12_here 34 = .ok (.iadd, 1) := by decide +kernel
theorem dX12_here_35 : decode cX12_here 35 = .ok (.laload, 1) := by decide +kernel
theorem dX12_here_36 : decode cX12_here 36 = .ok (.l2i, 1) := by decide +kernel
theorem dX12_here_37 : decode cX12_here 37 = .ok (.sipush 255, 3) := by decide +kernel
theorem dX12_here_40 : decode cX12_here 40 = .ok (.iand, 1) := by decide +kernel
theorem dX12_here_41 : decode cX12_here 41 = .ok (.goto 17, 3) := by decide +kernel
theorem dX12_here_44 : decode cX12_here 44 = .ok (.aload_n 0, 1) := by decide +kernel
theorem dX12_here_45 : decode cX12_here 45 = .ok (.getfield 49, 3) := by decide +kernel
theorem dX12_here_48 : decode cX12_here 48 = .ok (.aload_n 0, 1) := by decide +kernel
theorem dX12_here_49 : decode cX12_here 49 = .ok (.getfield 177, 3) := by decide +kernel
theorem dX12_here_52 : decode cX12_here 52 = .ok (.aload_n 0, 1) := by decide +kernel
theorem dX12_here_53 : decode cX12_here 53 = .ok (.getfield 167, 3) := by decide +kernel
theorem dX12_here_56 : decode cX12_here 56 = .ok (.iadd, 1) := by decide +kernel
theorem dX12_here_57 : decode cX12_here 57 = .ok (.iaload, 1) := by decide +kernel
theorem dX12_here_58 : decode cX12_here 58 = .ok (.ireturn, 1) := by decide +kernel
theorem dX12_monthOf_0 : decode cX12_monthOf 0 = .ok (.iload_n 0, 1) := by decide +kernel
theorem dX12_monthOf_1 : decode cX12_monthOf 1 = .ok (.bipush 30, 2) := by decide +kernel
theorem dX12_monthOf_3 : decode cX12_monthOf 3 = .ok (.idiv, 1) := by decide +kernel
theorem dX12_monthOf_4 : decode cX12_monthOf 4 = .ok (.bipush 12, 2) := by decide +kernel
theorem dX12_monthOf_6 : decode cX12_monthOf 6 = .ok (.irem, 1) := by decide +kernel
theorem dX12_monthOf_7 : decode cX12_monthOf 7 = .ok (.ireturn, 1) := by decide +kernel
theorem dX12_isField_0 : decode cX12_isField 0 = .ok (.iload_n 0, 1) := by decide +kernel
theorem dX12_isField_1 : decode cX12_isField 1 = .ok (.tableswitch 117 97 121 #[115, 117, 115, 115, 117, 117, 117, 115, 117, 117, 117, 117, 115, 115, 117, 117, 117, 117, 115, 117, 117, 117, 115, 115, 115], 115) := by decide +kernel
theorem dX12_isField_116 : decode cX12_isField 116 = .ok (.iconst 1, 1) := by decide +kernel
theorem dX12_isField_117 : decode cX12_isField 117 = .ok (.ireturn, 1) := by decide +kernel
theorem dX12_isField_118 : decode cX12_isField 118 = .ok (.iconst 0, 1) := by decide +kernel
theorem dX12_isField_119 : decode cX12_isField 119 = .ok (.ireturn, 1) := by decide +kernel
theorem dX12_field_0 : decode cX12_field 0 = .ok (.iload_n 1, 1) := by decide +kernel
theorem dX12_field_1 : decode cX12_field 1 = .ok (.tableswitch 203 97 121 #[115, 203, 203, 138, 203, 203, 203, 154, 203, 203, 203, 203, 130, 170, 203, 203, 203, 203, 120, 203, 203, 203, 146, 183, 193], 115) := by decide +kernel
theorem dX12_field_116 : decode cX12_field 116 = .ok (.aload_n 0, 1) := by decide +kernel
theorem dX12_field_117 : decode cX12_field 117 = .ok (.getfield 180, 3) := by decide +kernel
theorem dX12_field_120 : decode cX12_field 120 = .ok (.ireturn, 1) := by decide +kernel
theorem dX12_field_121 : decode cX12_field 121 = .ok (.aload_n 0, 1) := by decide +kernel
theorem dX12_field_122 : decode cX12_field 122 = .ok (.getfield 19, 3) := by decide +kernel
theorem dX12_field_125 : decode cX12_field 125 = .ok (.aload_n 0, 1) := by decide +kernel
theorem dX12_field_126 : decode cX12_field 126 = .ok (.getfield 183, 3) := by decide +kernel
theorem dX12_field_129 : decode cX12_field 129 = .ok (.iaload, 1) := by decide +kernel
theorem dX12_field_130 : decode cX12_field 130 = .ok (.ireturn, 1) := by decide +kernel
theorem dX12_field_131 : decode cX12_field 131 = .ok (.aload_n 0, 1) := by decide +kernel
theorem dX12_field_132 : decode cX12_field 132 = .ok (.getfield 186, 3) := by decide +kernel
theorem dX12_field_135 : decode cX12_field 135 = .ok (.invokestatic 189, 3) := by decide +kernel
theorem dX12_field_138 : decode cX12_field 138 = .ok (.ireturn, 1) := by decide +kernel
theorem dX12_field_139 : decode cX12_field 139 = .ok (.aload_n 0, 1) := by decide +kernel
theorem dX12_field_140 : decode cX12_field 140 = .ok (.getfield 186, 3) := by decide +kernel
theorem dX12_field_143 : decode cX12_field 143 = .ok (.bipush 7, 2) := by decide +kernel
theorem dX12_field_145 : decode cX12_field 145 = .ok (.irem, 1) := by decide +kernel
theorem dX12_field_146 : decode cX12_field 146 = .ok (.ireturn, 1) := by decide +kernel
theorem dX12_field_147 : decode cX12_field 147 = .ok (.aload_n 0, 1) := by decide +kernel
theorem dX12_field_148 : decode cX12_field 148 = .ok (.getfield 186, 3) := by decide +kernel
theorem dX12_field_151 : decode cX12_field 151 = .ok (.bipush 7, 2) := by decide +kernel
theorem dX12_field_153 : decode cX12_field 153 = .ok (.idiv, 1) := by decide +kernel
theorem dX12_field_154 : decode cX12_field 154 = .ok (.ireturn, 1) := by decide +kernel
theorem dX12_field_155 : decode cX12_field 155 = .ok (.aload_n 0, 1) := by decide +kernel
theorem dX12_field_156 : decode cX12_field 156 = .ok (.getfield 7, 3) := by decide +kernel
theorem dX12_field_159 : decode cX12_field 159 = .ok (.bipush 120, 2) := by decide +kernel
theorem dX12_field_161 : decode cX12_field 161 = .ok (.aload_n 0, 1) := by decide +kernel
theorem dX12_field_162 : decode cX12_field 162 = .ok (.getfield 186, 3) := by decide +kernel
theorem dX12_field_165 : decode cX12_field 165 = .ok (.invokestatic 189, 3) := by decide +kernel
theorem dX12_field_168 : decode cX12_field 168 = .ok (.iadd, 1) := by decide +kernel
theorem dX12_field_169 : decode cX12_field 169 = .ok (.iaload, 1) := by decide +kernel
theorem dX12_field_170 : decode cX12_field 170 = .ok (.ireturn, 1) := by decide +kernel
theorem dX12_field_171 : decode cX12_field 171 = .ok (.aload_n 0, 1) := by decide +kernel
theorem dX12_field_172 : decode cX12_field 172 = .ok (.aload_n 0, 1) := by decide +kernel
theorem dX12_field_173 : decode cX12_field 173 = .ok (.getfield 183, 3) := by decide +kernel
theorem dX12_field_176 : decode cX12_field 176 = .ok (.aload_n 0, 1) := by decide +kernel
theorem dX12_field_177 : decode cX12_field 177 = .ok (.getfield 186, 3) := by decide +kernel
theorem dX12_field_180 : decode cX12_field 180 = .ok (.invokevirtual 192, 3) := by decide +kernel
theorem dX12_field_183 : decode cX12_field 183 = .ok (.ireturn, 1) := by decide +kernel
theorem dX12_field_184 : decode cX12_field 184 = .ok (.aload_n 0, 1) := by decide +kernel
theorem dX12_field_185 : decode cX12_field 185 = .ok (.getfield 22, 3) := by decide +kernel
theorem dX12_field_188 : decode cX12_field 188 = .ok (.aload_n 0, 1) := by decide +kernel
theorem dX12_field_189 : decode cX12_field 189 = .ok (.getfield 183, 3) := by decide +kernel
theorem dX12_field_192 : decode cX12_field 192 = .ok (.iaload, 1) := by decide +kernel
theorem dX12_field_193 : decode cX12_field 193 = .ok (.ireturn, 1) := by decide +kernel
theorem dX12_field_194 : decode cX12_field 194 = .ok (.aload_n 0, 1) := by decide +kernel
theorem dX12_field_195 : decode cX12_field 195 = .ok (.getfield 25, 3) := by decide +kernel
theorem dX12_field_198 : decode cX12_field 198 = .ok (.aload_n 0, 1) := by decide +kernel
theorem dX12_field_199 : decode cX12_field 199 = .ok (.getfield 183, 3) := by decide +kernel
theorem dX12_field_202 : decode cX12_field 202 = .ok (.iaload, 1) := by decide +kernel
theorem dX12_field_203 : decode cX12_field 203 = .ok (.ireturn, 1) := by decide +kernel
theorem dX12_field_204 : decode cX12_field 204 = .ok (.aload_n 0, 1) := by decide +kernel
theorem dX12_field_205 : decode cX12_field 205 = .ok (.getfield 183, 3) := by decide +kernel
theorem dX12_field_208 : decode cX12_field 208 = .ok (.ireturn, 1) := by decide +kernel
theorem dX12_readAtom_0 : decode cX12_readAtom 0 = .ok (.aload_n 0, 1) := by decide +kernel
theorem dX12_readAtom_1 : decode cX12_readAtom 1 = .ok (.invokevirtual 196, 3) := by decide +kernel
theorem dX12_readAtom_4 : decode cX12_readAtom 4 = .ok (.istore_n 1, 1) := by decide +kernel
theorem dX12_readAtom_5 : decode cX12_readAtom 5 = .ok (.iload_n 1, 1) := by decide +kernel
theorem dX12_readAtom_6 : decode cX12_readAtom 6 = .ok (.invokestatic 200, 3) := by decide +kernel
theorem dX12_readAtom_9 : decode cX12_readAtom 9 = .ok (.ifCond .eq 30, 3) := by decide +kernel
theorem dX12_readAtom_12 : decode cX12_readAtom 12 = .ok (.aload_n 0, 1) := by decide +kernel
theorem dX12_readAtom_13 : decode cX12_readAtom 13 = .ok (.dup, 1) := by decide +kernel
theorem dX12_readAtom_14 : decode cX12_readAtom 14 = .ok (.getfield 167, 3) := by decide +kernel
theorem dX12_readAtom_17 : decode cX12_readAtom 17 = .ok (.iconst 1, 1) := by decide +kernel
theorem dX12_readAtom_18 : decode cX12_readAtom 18 = .ok (.iadd, 1) := by decide +kernel
theorem dX12_readAtom_19 : decode cX12_readAtom 19 = .ok (.putfield 167, 3) := by decide +kernel
theorem dX12_readAtom_22 : decode cX12_readAtom 22 = .ok (.aload_n 0, 1) := by decide +kernel
theorem dX12_readAtom_23 : decode cX12_readAtom 23 = .ok (.getfield 173, 3) := by decide +kernel
theorem dX12_readAtom_26 : decode cX12_readAtom 26 = .ok (.ifCond .eq 7, 3) := by decide +kernel
theorem dX12_readAtom_29 : decode cX12_readAtom 29 = .ok (.iconst 0, 1) := by decide +kernel
theorem dX12_readAtom_30 : decode cX12_readAtom 30 = .ok (.goto 8, 3) := by decide +kernel
theorem dX12_readAtom_33 : decode cX12_readAtom 33 = .ok (.aload_n 0, 1) := by decide +kernel
theorem dX12_readAtom_34 : decode cX12_readAtom 34 = .ok (.iload_n 1, 1) := by decide +kernel
theorem dX12_readAtom_35 : decode cX12_readAtom 35 = .ok (.invokevirtual 203, 3) := by decide +kernel
theorem dX12_readAtom_38 : decode cX12_readAtom 38 = .ok (.ireturn, 1) := by decide +kernel
theorem dX12_readAtom_39 : decode cX12_readAtom 39 = .ok (.iload_n 1, 1) := by decide +kernel
theorem dX12_readAtom_40 : decode cX12_readAtom 40 = .ok (.bipush 48, 2) := by decide +kernel
theorem dX12_readAtom_42 : decode cX12_readAtom 42 = .ok (.bipush 57, 2) := by decide +kernel
theorem dX12_readAtom_44 : decode cX12_readAtom 44 = .ok (.invokestatic 131, 3) := by decide +kernel
theorem dX12_readAtom_47 : decode cX12_readAtom 47 = .ok (.ifCond .ne 10, 3) := by decide +kernel
theorem dX12_readAtom_50 : decode cX12_readAtom 50 = .ok (.aload_n 0, 1) := by decide +kernel
theorem dX12_readAtom_51 : decode cX12_readAtom 51 = .ok (.iconst 1, 1) := by decide +kernel
theorem dX12_readAtom_52 : decode cX12_readAtom 52 = .ok (.putfield 206, 3) := by decide +kernel
theorem dX12_readAtom_55 : decode cX12_readAtom 55 = .ok (.iconst 0, 1) := by decide +kernel
theorem dX12_readAtom_56 : decode cX12_readAtom 56 = .ok (.ireturn, 1) := by decide +kernel
theorem dX12_readAtom_57 : decode cX12_readAtom 57 = .ok (.iload_n 1, 1) := by decide +kernel
theorem dX12_readAtom_58 : decode cX12_readAtom 58 = .ok (.bipush 48, 2) := by decide +kernel
theorem dX12_readAtom_60 : decode cX12_readAtom 60 = .ok (.isub, 1) := by decide +kernel
theorem dX12_readAtom_61 : decode cX12_readAtom 61 = .ok (.istore_n 2, 1) := by decide +kernel
theorem dX12_readAtom_62 : decode cX12_readAtom 62 = .ok (.aload_n 0, 1) := by decide +kernel
theorem dX12_readAtom_63 : decode cX12_readAtom 63 = .ok (.dup, 1) := by decide +kernel
theorem dX12_readAtom_64 : decode cX12_readAtom 64 = .ok (.getfield 167, 3) := by decide +kernel
theorem dX12_readAtom_67 : decode cX12_readAtom 67 = .ok (.iconst 1, 1) := by decide +kernel
theorem dX12_readAtom_68 : decode cX12_readAtom 68 = .ok (.iadd, 1) := by decide +kernel
theorem dX12_readAtom_69 : decode cX12_readAtom 69 = .ok (.putfield 167, 3) := by decide +kernel
theorem dX12_readAtom_72 : decode cX12_readAtom 72 = .ok (.iconst 1, 1) := by decide +kernel
theorem dX12_readAtom_73 : decode cX12_readAtom 73 = .ok (.istore_n 3, 1) := by decide +kernel
theorem dX12_readAtom_74 : decode cX12_readAtom 74 = .ok (.iload_n 3, 1) := by decide +kernel
theorem dX12_readAtom_75 : decode cX12_readAtom 75 = .ok (.iconst 4, 1) := by decide +kernel
theorem dX12_readAtom_76 : decode cX12_readAtom 76 = .ok (.if_icmp .ge 52, 3) := by decide +kernel
theorem dX12_readAtom_79 : decode cX12_readAtom 79 = .ok (.iload_n 1, 1) := by decide +kernel
theorem dX12_readAtom_80 : decode cX12_readAtom 80 = .ok (.bipush 48, 2) := by decide +kernel
theorem dX12_readAtom_82 : decode cX12_readAtom 82 = .ok (.if_icmp .eq 46, 3) := by decide +kernel
theorem dX12_readAtom_85 : decode cX12_readAtom 85 = .ok (.aload_n 0, 1) := by decide +kernel
theorem dX12_readAtom_86 : decode cX12_readAtom 86 = .ok (.invokevirtual 196, 3) := by decide +kernel
theorem dX12_readAtom_89 : decode cX12_readAtom 89 = .ok (.bipush 48, 2) := by decide +kernel
theorem dX12_readAtom_91 : decode cX12_readAtom 91 = .ok (.bipush 57, 2) := by decide +kernel
theorem dX12_readAtom_93 : decode cX12_readAtom 93 = .ok (.invokestatic 131, 3) := by decide +kernel
theorem dX12_readAtom_96 : decode cX12_readAtom 96 = .ok (.ifCond .eq 32, 3) := by decide +kernel
theorem dX12_readAtom_99 : decode cX12_readAtom 99 = .ok (.bipush 10, 2) := by decide +kernel
theorem dX12_readAtom_101 : decode cX12_readAtom 101 = .ok (.iload_n 2, 1) := by decide +kernel
theorem dX12_readAtom_102 : decode cX12_readAtom 102 = .ok (.imul, 1) := by decide +kernel
theorem dX12_readAtom_103 : decode cX12_readAtom 103 = .ok (.aload_n 0, 1) := by decide +kernel
theorem dX12_readAtom_104 : decode cX12_readAtom 104 = .ok (.invokevirtual 196, 3) := by decide +kernel
theorem dX12_readAtom_107 : decode cX12_readAtom 107 = .ok (.iadd, 1) := by decide +kernel
theorem dX12_readAtom_108 : decode cX12_readAtom 108 = .ok (.bipush 48, 2) := by decide +kernel
theorem dX12_readAtom_110 : decode cX12_readAtom 110 = .ok (.isub, 1) := by decide +kernel
theorem dX12_readAtom_111 : decode cX12_readAtom 111 = .ok (.istore_n 2, 1) := by decide +kernel
theorem dX12_readAtom_112 : decode cX12_readAtom 112 = .ok (.aload_n 0, 1) := by decide +kernel
theorem dX12_readAtom_113 : decode cX12_readAtom 113 = .ok (.dup, 1) := by decide +kernel
theorem dX12_readAtom_114 : decode cX12_readAtom 114 = .ok (.getfield 167, 3) := by decide +kernel
theorem dX12_readAtom_117 : decode cX12_readAtom 117 = .ok (.iconst 1, 1) := by decide +kernel
theorem dX12_readAtom_118 : decode cX12_readAtom 118 = .ok (.iadd, 1) := by decide +kernel
theorem dX12_readAtom_119 : decode cX12_readAtom 119 = .ok (.putfield 167, 3) := by decide +kernel
theorem dX12_readAtom_122 : decode cX12_readAtom 122 = .ok (.iinc 3 1, 3) := by decide +kernel
theorem dX12_readAtom_125 : decode cX12_readAtom 125 = .ok (.goto (-51), 3) := by decide +kernel
theorem dX12_readAtom_128 : decode cX12_readAtom 128 = .ok (.iload_n 2, 1) := by decide +kernel
theorem dX12_readAtom_129 : decode cX12_readAtom 129 = .ok (.ireturn, 1) := by decide +kernel
theorem dX12_readSum_0 : decode cX12_readSum 0 = .ok (.aload_n 0, 1) := by decide +kernel
theorem dX12_readSum_1 : decode cX12_readSum 1 = .ok (.invokevirtual 209, 3) := by decide +kernel
theorem dX12_readSum_4 : decode cX12_readSum 4 = .ok (.istore_n 1, 1) := by decide +kernel
theorem dX12_readSum_5 : decode cX12_readSum 5 = .ok (.aload_n 0, 1) := by decide +kernel
theorem dX12_readSum_6 : decode cX12_readSum 6 = .ok (.getfield 206, 3) := by decide +kernel
theorem dX12_readSum_9 : decode cX12_readSum 9 = .ok (.ifCond .ne 60, 3) := by decide +kernel
theorem dX12_readSum_12 : decode cX12_readSum 12 = .ok (.aload_n 0, 1) := by decide +kernel
theorem dX12_readSum_13 : decode cX12_readSum 13 = .ok (.invokevirtual 196, 3) := by decide +kernel
theorem dX12_readSum_16 : decode cX12_readSum 16 = .ok (.bipush 43, 2) := by decide +kernel
theorem dX12_readSum_18 : decode cX12_readSum 18 = .ok (.if_icmp .eq 12, 3) := by decide +kernel
theorem dX12_readSum_21 : decode cX12_readSum 21 = .ok (.aload_n 0, 1) := by decide +kernel
theorem dX12_readSum_22 : decode cX12_readSum 22 = .ok (.invokevirtual 196, 3) := by decide +kernel
theorem dX12_readSum_25 : decode cX12_readSum 25 = .ok (.bipush 45, 2) := by decide +kernel
theorem dX12_readSum_27 : decode cX12_readSum 27 = .ok (.if_icmp .ne 42, 3) := by decide +kernel
theorem dX12_readSum_30 : decode cX12_readSum 30 = .ok (.aload_n 0, 1) := by decide +kernel
theorem dX12_readSum_31 : decode cX12_readSum 31 = .ok (.invokevirtual 196, 3) := by decide +kernel
theorem dX12_readSum_34 : decode cX12_readSum 34 = .ok (.istore_n 2, 1) := by decide +kernel
theorem dX12_readSum_35 : decode cX12_readSum 35 = .ok (.aload_n 0, 1) := by decide +kernel
theorem dX12_readSum_36 : decode cX12_readSum 36 = .ok (.dup, 1) := by decide +kernel
theorem dX12_readSum_37 : decode cX12_readSum 37 = .ok (.getfield 167, 3) := by decide +kernel
theorem dX12_readSum_40 : decode cX12_readSum 40 = .ok (.iconst 1, 1) := by decide +kernel
theorem dX12_readSum_41 : decode cX12_readSum 41 = .ok (.iadd, 1) := by decide +kernel
theorem dX12_readSum_42 : decode cX12_readSum 42 = .ok (.putfield 167, 3) := by decide +kernel
theorem dX12_readSum_45 : decode cX12_readSum 45 = .ok (.aload_n 0, 1) := by decide +kernel
theorem dX12_readSum_46 : decode cX12_readSum 46 = .ok (.invokevirtual 209, 3) := by decide +kernel
theorem dX12_readSum_49 : decode cX12_readSum 49 = .ok (.istore_n 3, 1) := by decide +kernel
theorem dX12_readSum_50 : decode cX12_readSum 50 = .ok (.iload_n 2, 1) := by decide +kernel
theorem dX12_readSum_51 : decode cX12_readSum 51 = .ok (.bipush 43, 2) := by decide +kernel
theorem dX12_readSum_53 : decode cX12_readSum 53 = .ok (.if_icmp .ne 9, 3) := by decide +kernel
theorem dX12_readSum_56 : decode cX12_readSum 56 = .ok (.iload_n 1, 1) := by decide +kernel
theorem dX12_readSum_57 : decode cX12_readSum 57 = .ok (.iload_n 3, 1) := by decide +kernel
theorem dX12_readSum_58 : decode cX12_readSum 58 = .ok (.iadd, 1) := by decide +kernel
theorem dX12_readSum_59 : decode cX12_readSum 59 = .ok (.goto 6, 3) := by decide +kernel
theorem dX12_readSum_62 : decode cX12_readSum 62 = .ok (.iload_n 1, 1) := by decide +kernel
theorem dX12_readSum_63 : decode cX12_readSum 63 = .ok (.iload_n 3, 1) := by decide +kernel
theorem dX12_readSum_64 : decode cX12_readSum 64 = .ok (.isub, 1) := by decide +kernel
theorem dX12_readSum_65 : decode cX12_readSum 65 = .ok (.istore_n 1, 1) := by decide +kernel
theorem dX12_readSum_66 : decode cX12_readSum 66 = .ok (.goto (-61), 3) := by decide +kernel
theorem dX12_readSum_69 : decode cX12_readSum 69 = .ok (.iload_n 1, 1) := by decide +kernel
theorem dX12_readSum_70 : decode cX12_readSum 70 = .ok (.ireturn, 1) := by decide +kernel
theorem dX12_readTest_0 : decode cX12_readTest 0 = .ok (.aload_n 0, 1) := by decide +kernel
theorem dX12_readTest_1 : decode cX12_readTest 1 = .ok (.invokevirtual 212, 3) := by decide +kernel
theorem dX12_readTest_4 : decode cX12_readTest 4 = .ok (.istore_n 1, 1) := by decide +kernel
theorem dX12_readTest_5 : decode cX12_readTest 5 = .ok (.aload_n 0, 1) := by decide +kernel
theorem dX12_readTest_6 : decode cX12_readTest 6 = .ok (.invokevirtual 196, 3) := by decide +kernel
theorem dX12_readTest_9 : decode cX12_readTest 9 = .ok (.istore_n 2, 1) := by decide +kernel
theorem dX12_readTest_10 : decode cX12_readTest 10 = .ok (.aload_n 0, 1) := by decide +kernel
theorem dX12_readTest_11 : decode cX12_readTest 11 = .ok (.getfield 206, 3) := by decide +kernel
theorem dX12_readTest_14 : decode cX12_readTest 14 = .ok (.ifCond .ne 21, 3) := by decide +kernel
theorem dX12_readTest_17 : decode cX12_readTest 17 = .ok (.iload_n 2, 1) := by decide +kernel
theorem dX12_readTest_18 : decode cX12_readTest 18 = .ok (.bipush 60, 2) := by decide +kernel
theorem dX12_readTest_20 : decode cX12_readTest 20 = .ok (.if_icmp .eq 22, 3) := by decide +kernel
theorem dX12_readTest_23 : decode cX12_readTest 23 = .ok (.iload_n 2, 1) := by decide +kernel
theorem dX12_readTest_24 : decode cX12_readTest 24 = .ok (.bipush 62, 2) := by decide +kernel
theorem dX12_readTest_26 : decode cX12_readTest 26 = .ok (.if_icmp .eq 16, 3) := by decide +kernel
theorem dX12_readTest_29 : decode cX12_readTest 29 = .ok (.iload_n 2, 1) := by decide +kernel
theorem dX12_readTest_30 : decode cX12_readTest 30 = .ok (.bipush 61, 2) := by decide +kernel
theorem dX12_readTest_32 : decode cX12_readTest 32 = .ok (.if_icmp .eq 10, 3) := by decide +kernel
theorem dX12_readTest_35 : decode cX12_readTest 35 = .ok (.aload_n 0, 1) := by decide +kernel
theorem dX12_readTest_36 : decode cX12_readTest 36 = .ok (.iconst 1, 1) := by decide +kernel
theorem dX12_readTest_37 : decode cX12_readTest 37 = .ok (.putfield 206, 3) := by decide +kernel
theorem dX12_readTest_40 : decode cX12_readTest 40 = .ok (.iconst 0, 1) := by decide +kernel
theorem dX12_readTest_41 : decode cX12_readTest 41 = .ok (.ireturn, 1) := by decide +kernel
theorem dX12_readTest_42 : decode cX12_readTest 42 = .ok (.aload_n 0, 1) := by decide +kernel
theorem dX12_readTest_43 : decode cX12_readTest 43 = .ok (.dup, 1) := by decide +kernel
theorem dX12_readTest_44 : decode cX12_readTest 44 = .ok (.getfield 167, 3) := by decide +kernel
theorem dX12_readTest_47 : decode cX12_readTest 47 = .ok (.iconst 1, 1) := by decide +kernel
theorem dX12_readTest_48 : decode cX12_readTest 48 = .ok (.iadd, 1) := by decide +kernel
theorem dX12_readTest_49 : decode cX12_readTest 49 = .ok (.putfield 167, 3) := by decide +kernel
theorem dX12_readTest_52 : decode cX12_readTest 52 = .ok (.aload_n 0, 1) := by decide +kernel
theorem dX12_readTest_53 : decode cX12_readTest 53 = .ok (.invokevirtual 212, 3) := by decide +kernel
theorem dX12_readTest_56 : decode cX12_readTest 56 = .ok (.istore_n 3, 1) := by decide +kernel
theorem dX12_readTest_57 : decode cX12_readTest 57 = .ok (.iload_n 2, 1) := by decide +kernel
theorem dX12_readTest_58 : decode cX12_readTest 58 = .ok (.bipush 60, 2) := by decide +kernel
theorem dX12_readTest_60 : decode cX12_readTest 60 = .ok (.if_icmp .ne 16, 3) := by decide +kernel
theorem dX12_readTest_63 : decode cX12_readTest 63 = .ok (.iload_n 1, 1) := by decide +kernel
theorem dX12_readTest_64 : decode cX12_readTest 64 = .ok (.iload_n 3, 1) := by decide +kernel
theorem dX12_readTest_65 : decode cX12_readTest 65 = .ok (.if_icmp .ge 7, 3) := by decide +kernel
theorem dX12_readTest_68 : decode cX12_readTest 68 = .ok (.iconst 1, 1) := by decide +kernel
theorem dX12_readTest_69 : decode cX12_readTest 69 = .ok (.goto 36, 3) := by decide +kernel
theorem dX12_readTest_72 : decode cX12_readTest 72 = .ok (.iconst 0, 1) := by decide +kernel
theorem dX12_readTest_73 : decode cX12_readTest 73 = .ok (.goto 32, 3) := by decide +kernel
theorem dX12_readTest_76 : decode cX12_readTest 76 = .ok (.iload_n 2, 1) := by decide +kernel
theorem dX12_readTest_77 : decode cX12_readTest 77 = .ok (.bipush 62, 2) := by decide +kernel
theorem dX12_readTest_79 : decode cX12_readTest 79 = .ok (.if_icmp .ne 16, 3) := by decide +kernel
theorem dX12_readTest_82 : decode cX12_readTest 82 = .ok (.iload_n 1, 1) := by decide +kernel
theorem dX12_readTest_83 : decode cX12_readTest 83 = .ok (.iload_n 3, 1) := by decide +kernel
theorem dX12_readTest_84 : decode cX12_readTest 84 = .ok (.if_icmp .le 7, 3) := by decide +kernel
theorem dX12_readTest_87 : decode cX12_readTest 87 = .ok (.iconst 1, 1) := by decide +kernel
theorem dX12_readTest_88 : decode cX12_readTest 88 = .ok (.goto 17, 3) := by decide +kernel
theorem dX12_readTest_91 : decode cX12_readTest 91 = .ok (.iconst 0, 1) := by decide +kernel
theorem dX12_readTest_92 : decode cX12_readTest 92 = .ok (.goto 13, 3) := by decide +kernel
theorem dX12_readTest_95 : decode cX12_readTest 95 = .ok (.iload_n 1, 1) := by decide +kernel
theorem dX12_readTest_96 : decode cX12_readTest 96 = .ok (.iload_n 3, 1) := by decide +kernel
theorem dX12_readTest_97 : decode cX12_readTest 97 = .ok (.if_icmp .ne 7, 3) := by decide +kernel
theorem dX12_readTest_100 : decode cX12_readTest 100 = .ok (.iconst 1, 1) := by decide +kernel
theorem dX12_readTest_101 : decode cX12_readTest 101 = .ok (.goto 4, 3) := by decide +kernel
theorem dX12_readTest_104 : decode cX12_readTest 104 = .ok (.iconst 0, 1) := by decide +kernel
theorem dX12_readTest_105 : decode cX12_readTest 105 = .ok (.ireturn, 1) := by decide +kernel
theorem dX12_topSign_0 : decode cX12_topSign 0 = .ok (.aload_n 0, 1) := by decide +kernel
theorem dX12_topSign_1 : decode cX12_topSign 1 = .ok (.getfield 215, 3) := by decide +kernel
theorem dX12_topSign_4 : decode cX12_topSign 4 = .ok (.ifCond .ne 7, 3) := by decide +kernel
theorem dX12_topSign_7 : decode cX12_topSign 7 = .ok (.iconst 0, 1) := by decide +kernel
theorem dX12_topSign_8 : decode cX12_topSign 8 = .ok (.goto 14, 3) := by decide +kernel
theorem dX12_topSign_11 : decode cX12_topSign 11 = .ok (.aload_n 0, 1) := by decide +kernel
theorem dX12_topSign_12 : decode cX12_topSign 12 = .ok (.getfield 78, 3) := by decide +kernel
theorem dX12_topSign_15 : decode cX12_topSign 15 = .ok (.aload_n 0, 1) := by decide +kernel
theorem dX12_topSign_16 : decode cX12_topSign 16 = .ok (.getfield 215, 3) := by decide +kernel
theorem dX12_topSign_19 : decode cX12_topSign 19 = .ok (.iconst 1, 1) := by decide +kernel
theorem dX12_topSign_20 : decode cX12_topSign 20 = .ok (.isub, 1) := by decide +kernel
theorem dX12_topSign_21 : decode cX12_topSign 21 = .ok (.iaload, 1) := by decide +kernel
theorem dX12_topSign_22 : decode cX12_topSign 22 = .ok (.ireturn, 1) := by decide +kernel
theorem dX12_testEnds_0 : decode cX12_testEnds 0 = .ok (.aload_n 0, 1) := by decide +kernel
theorem dX12_testEnds_1 : decode cX12_testEnds 1 = .ok (.invokevirtual 218, 3) := by decide +kernel
theorem dX12_testEnds_4 : decode cX12_testEnds 4 = .ok (.bipush 33, 2) := by decide +kernel
theorem dX12_testEnds_6 : decode cX12_testEnds 6 = .ok (.if_icmp .ne 46, 3) := by decide +kernel
theorem dX12_testEnds_9 : decode cX12_testEnds 9 = .ok (.aload_n 0, 1) := by decide +kernel
theorem dX12_testEnds_10 : decode cX12_testEnds 10 = .ok (.getfield 74, 3) := by decide +kernel
theorem dX12_testEnds_13 : decode cX12_testEnds 13 = .ok (.aload_n 0, 1) := by decide +kernel
theorem dX12_testEnds_14 : decode cX12_testEnds 14 = .ok (.getfield 221, 3) := by decide +kernel
theorem dX12_testEnds_17 : decode cX12_testEnds 17 = .ok (.iconst 1, 1) := by decide +kernel
theorem dX12_testEnds_18 : decode cX12_testEnds 18 = .ok (.isub, 1) := by decide +kernel
theorem dX12_testEnds_19 : decode cX12_testEnds 19 = .ok (.aload_n 0, 1) := by decide +kernel
theorem dX12_testEnds_20 : decode cX12_testEnds 20 = .ok (.getfield 74, 3) := by decide +kernel
theorem dX12_testEnds_23 : decode cX12_testEnds 23 = .ok (.aload_n 0, 1) := by decide +kernel
theorem dX12_testEnds_24 : decode cX12_testEnds 24 = .ok (.getfield 221, 3) := by decide +kernel
theorem dX12_testEnds_27 : decode cX12_testEnds 27 = .ok (.iconst 1, 1) := by decide +kernel
theorem dX12_testEnds_28 : decode cX12_testEnds 28 = .ok (.isub, 1) := by decide +kernel
theorem dX12_testEnds_29 : decode cX12_testEnds 29 = .ok (.baload, 1) := by decide +kernel
theorem dX12_testEnds_30 : decode cX12_testEnds 30 = .ok (.ifCond .ne 7, 3) := by decide +kernel
theorem dX12_testEnds_33 : decode cX12_testEnds 33 = .ok (.iconst 1, 1) := by decide +kernel
theorem dX12_testEnds_34 : decode cX12_testEnds 34 = .ok (.goto 4, 3) := by decide +kernel
theorem dX12_testEnds_37 : decode cX12_testEnds 37 = .ok (.iconst 0, 1) := by decide +kernel
theorem dX12_testEnds_38 : decode cX12_testEnds 38 = .ok (.bastore, 1) := by decide +kernel
theorem dX12_testEnds_39 : decode cX12_testEnds 39 = .ok (.aload_n 0, 1) := by decide +kernel
theorem dX12_testEnds_40 : decode cX12_testEnds 40 = .ok (.dup, 1) := by decide +kernel
theorem dX12_testEnds_41 : decode cX12_testEnds 41 = .ok (.getfield 215, 3) := by decide +kernel
theorem dX12_testEnds_44 : decode cX12_testEnds 44 = .ok (.iconst 1, 1) := by decide +kernel
theorem dX12_testEnds_45 : decode cX12_testEnds 45 = .ok (.isub, 1) := by decide +kernel
theorem dX12_testEnds_46 : decode cX12_testEnds 46 = .ok (.putfield 215, 3) := by decide +kernel
theorem dX12_testEnds_49 : decode cX12_testEnds 49 = .ok (.goto (-49), 3) := by decide +kernel
theorem dX12_testEnds_52 : decode cX12_testEnds 52 = .ok (.return_, 1) := by decide +kernel
theorem dX12_join_0 : decode cX12_join 0 = .ok (.aload_n 0, 1) := by decide +kernel
theorem dX12_join_1 : decode cX12_join 1 = .ok (.invokevirtual 218, 3) := by decide +kernel
theorem dX12_join_4 : decode cX12_join 4 = .ok (.iload_n 1, 1) := by decide +kernel
theorem dX12_join_5 : decode cX12_join 5 = .ok (.if_icmp .ne 108, 3) := by decide +kernel
theorem dX12_join_8 : decode cX12_join 8 = .ok (.aload_n 0, 1) := by decide +kernel
theorem dX12_join_9 : decode cX12_join 9 = .ok (.dup, 1) := by decide +kernel
theorem dX12_join_10 : decode cX12_join 10 = .ok (.getfield 221, 3) := by decide +kernel
theorem dX12_join_13 : decode cX12_join 13 = .ok (.iconst 1, 1) := by decide +kernel
theorem dX12_join_14 : decode cX12_join 14 = .ok (.isub, 1) := by decide +kernel
theorem dX12_join_15 : decode cX12_join 15 = .ok (.putfield 221, 3) := by decide +kernel
theorem dX12_join_18 : decode cX12_join 18 = .ok (.aload_n 0, 1) := by decide +kernel
theorem dX12_join_19 : decode cX12_join 19 = .ok (.getfield 74, 3) := by decide +kernel
theorem dX12_join_22 : decode cX12_join 22 = .ok (.aload_n 0, 1) := by decide +kernel
theorem dX12_join_23 : decode cX12_join 23 = .ok (.getfield 221, 3) := by decide +kernel
theorem dX12_join_26 : decode cX12_join 26 = .ok (.iconst 1, 1) := by decide +kernel
theorem dX12_join_27 : decode cX12_join 27 = .ok (.isub, 1) := by decide +kernel
theorem dX12_join_28 : decode cX12_join 28 = .ok (.iload_n 1, 1) := by decide +kernel
theorem dX12_join_29 : decode cX12_join 29 = .ok (.bipush 38, 2) := by decide +kernel
theorem dX12_join_31 : decode cX12_join 31 = .ok (.if_icmp .ne 37, 3) := by decide +kernel
theorem dX12_join_34 : decode cX12_join 34 = .ok (.aload_n 0, 1) := by decide +kernel
theorem dX12_join_35 : decode cX12_join 35 = .ok (.getfield 74, 3) := by decide +kernel
theorem dX12_join_38 : decode cX12_join 38 = .ok (.aload_n 0, 1) := by decide +kernel
theorem dX12_join_39 : decode cX12_join 39 = .ok (.getfield 221, 3) := by decide +kernel
theorem dX12_join_42 : decode cX12_join 42 = .ok (.iconst 1, 1) := by decide +kernel
theorem dX12_join_43 : decode cX12_join 43 = .ok (.isub, 1) := by decide +kernel
theorem dX12_join_44 : decode cX12_join 44 = .ok (.baload, 1) := by decide +kernel
theorem dX12_join_45 : decode cX12_join 45 = .ok (.ifCond .eq 19, 3) := by decide +kernel
theorem dX12_join_48 : decode cX12_join 48 = .ok (.aload_n 0, 1) := by decide +kernel
theorem dX12_join_49 : decode cX12_join 49 = .ok (.getfield 74, 3) := by decide +kernel
theorem dX12_join_52 : decode cX12_join 52 = .ok (.aload_n 0, 1) := by decide +kernel
theorem dX12_join_53 : decode cX12_join 53 = .ok (.getfield 221, 3) := by decide +kernel
theorem dX12_join_56 : decode cX12_join 56 = .ok (.baload, 1) := by decide +kernel
theorem dX12_join_57 : decode cX12_join 57 = .ok (.ifCond .eq 7, 3) := by decide +kernel
theorem dX12_join_60 : decode cX12_join 60 = .ok (.iconst 1, 1) := by decide +kernel
theorem dX12_join_61 : decode cX12_join 61 = .ok (.goto 38, 3) := by decide +kernel
theorem dX12_join_64 : decode cX12_join 64 = .ok (.iconst 0, 1) := by decide +kernel
theorem dX12_join_65 : decode cX12_join 65 = .ok (.goto 34, 3) := by decide +kernel
theorem dX12_join_68 : decode cX12_join 68 = .ok (.aload_n 0, 1) := by decide +kernel
theorem dX12_join_69 : decode cX12_join 69 = .ok (.getfield 74, 3) := by decide +kernel
theorem dX12_join_72 : decode cX12_join 72 = .ok (.aload_n 0, 1) := by decide +kernel
theorem dX12_join_73 : decode cX12_join 73 = .ok (.getfield 221, 3) := by decide +kernel
theorem dX12_join_76 : decode cX12_join 76 = .ok (.iconst 1, 1) := by decide +kernel
theorem dX12_join_77 : decode cX12_join 77 = .ok (.isub, 1) := by decide +kernel
theorem dX12_join_78 : decode cX12_join 78 = .ok (.baload, 1) := by decide +kernel
theorem dX12_join_79 : decode cX12_join 79 = .ok (.ifCond .ne 15, 3) := by decide +kernel
theorem dX12_join_82 : decode cX12_join 82 = .ok (.aload_n 0, 1) := by decide +kernel
theorem dX12_join_83 : decode cX12_join 83 = .ok (.getfield 74, 3) := by decide +kernel
theorem dX12_join_86 : decode cX12_join 86 = .ok (.aload_n 0, 1) := by decide +kernel
theorem dX12_join_87 : decode cX12_join 87 = .ok (.getfield 221, 3) := by decide +kernel
theorem dX12_join_90 : decode cX12_join 90 = .ok (.baload, 1) := by decide +kernel
theorem dX12_join_91 : decode cX12_join 91 = .ok (.ifCond .eq 7, 3) := by decide +kernel
theorem dX12_join_94 : decode cX12_join 94 = .ok (.iconst 1, 1) := by decide +kernel
theorem dX12_join_95 : decode cX12_join 95 = .ok (.goto 4, 3) := by decide +kernel
theorem dX12_join_98 : decode cX12_join 98 = .ok (.iconst 0, 1) := by decide +kernel
theorem dX12_join_99 : decode cX12_join 99 = .ok (.bastore, 1) := by decide +kernel
theorem dX12_join_100 : decode cX12_join 100 = .ok (.aload_n 0, 1) := by decide +kernel
theorem dX12_join_101 : decode cX12_join 101 = .ok (.dup, 1) := by decide +kernel
theorem dX12_join_102 : decode cX12_join 102 = .ok (.getfield 215, 3) := by decide +kernel
theorem dX12_join_105 : decode cX12_join 105 = .ok (.iconst 1, 1) := by decide +kernel
theorem dX12_join_106 : decode cX12_join 106 = .ok (.isub, 1) := by decide +kernel
theorem dX12_join_107 : decode cX12_join 107 = .ok (.putfield 215, 3) := by decide +kernel
theorem dX12_join_110 : decode cX12_join 110 = .ok (.goto (-110), 3) := by decide +kernel
theorem dX12_join_113 : decode cX12_join 113 = .ok (.return_, 1) := by decide +kernel
theorem dX12_readOr_0 : decode cX12_readOr 0 = .ok (.aload_n 0, 1) := by decide +kernel
theorem dX12_readOr_1 : decode cX12_readOr 1 = .ok (.iconst 0, 1) := by decide +kernel
theorem dX12_readOr_2 : decode cX12_readOr 2 = .ok (.putfield 224, 3) := by decide +kernel
theorem dX12_readOr_5 : decode cX12_readOr 5 = .ok (.aload_n 0, 1) := by decide +kernel
theorem dX12_readOr_6 : decode cX12_readOr 6 = .ok (.iconst 0, 1) := by decide +kernel
theorem dX12_readOr_7 : decode cX12_readOr 7 = .ok (.putfield 221, 3) := by decide +kernel
theorem dX12_readOr_10 : decode cX12_readOr 10 = .ok (.aload_n 0, 1) := by decide +kernel
theorem dX12_readOr_11 : decode cX12_readOr 11 = .ok (.iconst 0, 1) := by decide +kernel
theorem dX12_readOr_12 : decode cX12_readOr 12 = .ok (.putfield 215, 3) := by decide +kernel
theorem dX12_readOr_15 : decode cX12_readOr 15 = .ok (.iconst 1, 1) := by decide +kernel
theorem dX12_readOr_16 : decode cX12_readOr 16 = .ok (.istore_n 2, 1) := by decide +kernel
theorem dX12_readOr_17 : decode cX12_readOr 17 = .ok (.iconst 0, 1) := by decide +kernel
theorem dX12_readOr_18 : decode cX12_readOr 18 = .ok (.istore_n 3, 1) := by decide +kernel
theorem dX12_readOr_19 : decode cX12_readOr 19 = .ok (.aload_n 0, 1) := by decide +kernel
theorem dX12_readOr_20 : decode cX12_readOr 20 = .ok (.getfield 206, 3) := by decide +kernel
theorem dX12_readOr_23 : decode cX12_readOr 23 = .ok (.ifCond .ne 351, 3) := by decide +kernel
theorem dX12_readOr_26 : decode cX12_readOr 26 = .ok (.iload_n 3, 1) := by decide +kernel
theorem dX12_readOr_27 : decode cX12_readOr 27 = .ok (.ifCond .ne 347, 3) := by decide +kernel
theorem dX12_readOr_30 : decode cX12_readOr 30 = .ok (.iload_n 2, 1) := by decide +kernel
theorem dX12_readOr_31 : decode cX12_readOr 31 = .ok (.ifCond .ne 14, 3) := by decide +kernel
theorem dX12_readOr_34 : decode cX12_readOr 34 = .ok (.aload_n 0, 1) := by decide +kernel
theorem dX12_readOr_35 : decode cX12_readOr 35 = .ok (.getfield 167, 3) := by decide +kernel
theorem dX12_readOr_38 : decode cX12_readOr 38 = .ok (.aload_n 0, 1) := by decide +kernel
theorem dX12_readOr_39 : decode cX12_readOr 39 = .ok (.getfield 170, 3) := by decide +kernel
theorem dX12_readOr_42 : decode cX12_readOr 42 = .ok (.if_icmp .ge 332, 3) := by decide +kernel
theorem dX12_readOr_45 : decode cX12_readOr 45 = .ok (.aload_n 0, 1) := by decide +kernel
theorem dX12_readOr_46 : decode cX12_readOr 46 = .ok (.invokevirtual 196, 3) := by decide +kernel
theorem dX12_readOr_49 : decode cX12_readOr 49 = .ok (.istore 4, 2) := by decide +kernel
theorem dX12_readOr_51 : decode cX12_readOr 51 = .ok (.iload_n 2, 1) := by decide +kernel
theorem dX12_readOr_52 : decode cX12_readOr 52 = .ok (.ifCond .eq 104, 3) := by decide +kernel
theorem dX12_readOr_55 : decode cX12_readOr 55 = .ok (.iload 4, 2) := by decide +kernel
theorem dX12_readOr_57 : decode cX12_readOr 57 = .ok (.bipush 33, 2) := by decide +kernel
theorem dX12_readOr_59 : decode cX12_readOr 59 = .ok (.if_icmp .eq 10, 3) := by decide +kernel
theorem dX12_readOr_62 : decode cX12_readOr 62 = .ok (.iload 4, 2) := by decide +kernel
theorem dX12_readOr_64 : decode cX12_readOr 64 = .ok (.bipush 40, 2) := by decide +kernel
theorem dX12_readOr_66 : decode cX12_readOr 66 = .ok (.if_icmp .ne 90, 3) := by decide +kernel
theorem dX12_readOr_69 : decode cX12_readOr 69 = .ok (.aload_n 0, 1) := by decide +kernel
theorem dX12_readOr_70 : decode cX12_readOr 70 = .ok (.iload 4, 2) := by decide +kernel
theorem dX12_readOr_72 : decode cX12_readOr 72 = .ok (.bipush 40, 2) := by decide +kernel
theorem dX12_readOr_74 : decode cX12_readOr 74 = .ok (.if_icmp .ne 16, 3) := by decide +kernel
theorem dX12_readOr_77 : decode cX12_readOr 77 = .ok (.aload_n 0, 1) := by decide +kernel
theorem dX12_readOr_78 : decode cX12_readOr 78 = .ok (.getfield 224, 3) := by decide +kernel
theorem dX12_readOr_81 : decode cX12_readOr 81 = .ok (.bipush 8, 2) := by decide +kernel
theorem dX12_readOr_83 : decode cX12_readOr 83 = .ok (.if_icmp .ne 7, 3) := by decide +kernel
theorem dX12_readOr_86 : decode cX12_readOr 86 = .ok (.iconst 1, 1) := by decide +kernel
theorem dX12_readOr_87 : decode cX12_readOr 87 = .ok (.goto 4, 3) := by decide +kernel
theorem dX12_readOr_90 : decode cX12_readOr 90 = .ok (.iconst 0, 1) := by decide +kernel
theorem dX12_readOr_91 : decode cX12_readOr 91 = .ok (.putfield 206, 3) := by decide +kernel
theorem dX12_readOr_94 : decode cX12_readOr 94 = .ok (.aload_n 0, 1) := by decide +kernel
theorem dX12_readOr_95 : decode cX12_readOr 95 = .ok (.getfield 206, 3) := by decide +kernel
theorem dX12_readOr_98 : decode cX12_readOr 98 = .ok (.ifCond .ne 273, 3) := by decide +kernel
theorem dX12_readOr_101 : decode cX12_readOr 101 = .ok (.aload_n 0, 1) := by decide +kernel
theorem dX12_readOr_102 : decode cX12_readOr 102 = .ok (.dup, 1) := by decide +kernel
theorem dX12_readOr_103 : decode cX12_readOr 103 = .ok (.getfield 224, 3) := by decide +kernel
theorem dX12_readOr_106 : decode cX12_readOr 106 = .ok (.iload 4, 2) := by decide +kernel
theorem dX12_readOr_108 : decode cX12_readOr 108 = .ok (.bipush 40, 2) := by decide +kernel
theorem dX12_readOr_110 : decode cX12_readOr 110 = .ok (.if_icmp .ne 7, 3) := by decide +kernel
theorem dX12_readOr_113 : decode cX12_readOr 113 = .ok (.iconst 1, 1) := by decide +kernel
theorem dX12_readOr_114 : decode cX12_readOr 114 = .ok (.goto 4, 3) := by decide +kernel
theorem dX12_readOr_117 : decode cX12_readOr 117 = .ok (.iconst 0, 1) := by decide +kernel
theorem dX12_readOr_118 : decode cX12_readOr 118 = .ok (.iadd, 1) := by decide +kernel
theorem dX12_readOr_119 : decode cX12_readOr 119 = .ok (.putfield 224, 3) := by decide +kernel
theorem dX12_readOr_122 : decode cX12_readOr 122 = .ok (.aload_n 0, 1) := by decide +kernel
theorem dX12_readOr_123 : decode cX12_readOr 123 = .ok (.getfield 78, 3) := by decide +kernel
theorem dX12_readOr_126 : decode cX12_readOr 126 = .ok (.aload_n 0, 1) := by decide +kernel
theorem dX12_readOr_127 : decode cX12_readOr 127 = .ok (.getfield 215, 3) := by decide +kernel
theorem dX12_readOr_130 : decode cX12_readOr 130 = .ok (.iload 4, 2) := by decide +kernel
theorem dX12_readOr_132 : decode cX12_readOr 132 = .ok (.iastore, 1) := by decide +kernel
theorem dX12_readOr_133 : decode cX12_readOr 133 = .ok (.aload_n 0, 1) := by decide +kernel
theorem dX12_readOr_134 : decode cX12_readOr 134 = .ok (.dup, 1) := by decide +kernel
theorem dX12_readOr_135 : decode cX12_readOr 135 = .ok (.getfield 215, 3) := by decide +kernel
theorem dX12_readOr_138 : decode cX12_readOr 138 = .ok (.iconst 1, 1) := by decide +kernel
theorem dX12_readOr_139 : decode cX12_readOr 139 = .ok (.iadd, 1) := by decide +kernel
theorem dX12_readOr_140 : decode cX12_readOr 140 = .ok (.putfield 215, 3) := by decide +kernel
theorem dX12_readOr_143 : decode cX12_readOr 143 = .ok (.aload_n 0, 1) := by decide +kernel
theorem dX12_readOr_144 : decode cX12_readOr 144 = .ok (.dup, 1) := by decide +kernel
theorem dX12_readOr_145 : decode cX12_readOr 145 = .ok (.getfield 167, 3) := by decide +kernel
theorem dX12_readOr_148 : decode cX12_readOr 148 = .ok (.iconst 1, 1) := by decide +kernel
theorem dX12_readOr_149 : decode cX12_readOr 149 = .ok (.iadd, 1) := by decide +kernel
theorem dX12_readOr_150 : decode cX12_readOr 150 = .ok (.putfield 167, 3) := by decide +kernel
theorem dX12_readOr_153 : decode cX12_readOr 153 = .ok (.goto 218, 3) := by decide +kernel
theorem dX12_readOr_156 : decode cX12_readOr 156 = .ok (.iload_n 2, 1) := by decide +kernel
theorem dX12_readOr_157 : decode cX12_readOr 157 = .ok (.ifCond .eq 35, 3) := by decide +kernel
theorem dX12_readOr_160 : decode cX12_readOr 160 = .ok (.aload_n 0, 1) := by decide +kernel
theorem dX12_readOr_161 : decode cX12_readOr 161 = .ok (.getfield 74, 3) := by decide +kernel
theorem dX12_readOr_164 : decode cX12_readOr 164 = .ok (.aload_n 0, 1) := by decide +kernel
theorem dX12_readOr_165 : decode cX12_readOr 165 = .ok (.getfield 221, 3) := by decide +kernel
theorem dX12_readOr_168 : decode cX12_readOr 168 = .ok (.aload_n 0, 1) := by decide +kernel
theorem dX12_readOr_169 : decode cX12_readOr 169 = .ok (.invokevirtual 227, 3) := by decide +kernel
theorem dX12_readOr_172 : decode cX12_readOr 172 = .ok (.bastore, 1) := by decide +kernel
theorem dX12_readOr_173 : decode cX12_readOr 173 = .ok (.aload_n 0, 1) := by decide +kernel
theorem dX12_readOr_174 : decode cX12_readOr 174 = .ok (.dup, 1) := by decide +kernel
theorem dX12_readOr_175 : decode cX12_readOr 175 = .ok (.getfield 221, 3) := by decide +kernel
theorem dX12_readOr_178 : decode cX12_readOr 178 = .ok (.iconst 1, 1) := by decide +kernel
theorem dX12_readOr_179 : decode cX12_readOr 179 = .ok (.iadd, 1) := by decide +kernel
theorem dX12_readOr_180 : decode cX12_readOr 180 = .ok (.putfield 221, 3) := by decide +kernel
theorem dX12_readOr_183 : decode cX12_readOr 183 = .ok (.iconst 0, 1) := by decide +kernel
theorem dX12_readOr_184 : decode cX12_readOr 184 = .ok (.istore_n 2, 1) := by decide +kernel
theorem dX12_readOr_185 : decode cX12_readOr 185 = .ok (.aload_n 0, 1) := by decide +kernel
theorem dX12_readOr_186 : decode cX12_readOr 186 = .ok (.invokevirtual 231, 3) := by decide +kernel
theorem dX12_readOr_189 : decode cX12_readOr 189 = .ok (.goto 182, 3) := by decide +kernel
theorem dX12_readOr_192 : decode cX12_readOr 192 = .ok (.iload 4, 2) := by decide +kernel
theorem dX12_readOr_194 : decode cX12_readOr 194 = .ok (.bipush 38, 2) := by decide +kernel
theorem dX12_readOr_196 : decode cX12_readOr 196 = .ok (.if_icmp .eq 10, 3) := by decide +kernel
theorem dX12_readOr_199 : decode cX12_readOr 199 = .ok (.iload 4, 2) := by decide +kernel
theorem dX12_readOr_201 : decode cX12_readOr 201 = .ok (.bipush 124, 2) := by decide +kernel
theorem dX12_readOr_203 : decode cX12_readOr 203 = .ok (.if_icmp .ne 58, 3) := by decide +kernel
theorem dX12_readOr_206 : decode cX12_readOr 206 = .ok (.aload_n 0, 1) := by decide +kernel
theorem dX12_readOr_207 : decode cX12_readOr 207 = .ok (.bipush 38, 2) := by decide +kernel
theorem dX12_readOr_209 : decode cX12_readOr 209 = .ok (.invokevirtual 234, 3) := by decide +kernel
theorem dX12_readOr_212 : decode cX12_readOr 212 = .ok (.iload 4, 2) := by decide +kernel
theorem dX12_readOr_214 : decode cX12_readOr 214 = .ok (.bipush 124, 2) := by decide +kernel
theorem dX12_readOr_216 : decode cX12_readOr 216 = .ok (.if_icmp .ne 9, 3) := by decide +kernel
theorem dX12_readOr_219 : decode cX12_readOr 219 = .ok (.aload_n 0, 1) := by decide +kernel
theorem dX12_readOr_220 : decode cX12_readOr 220 = .ok (.bipush 124, 2) := by decide +kernel
theorem dX12_readOr_222 : decode cX12_readOr 222 = .ok (.invokevirtual 234, 3) := by decide +kernel
theorem dX12_readOr_225 : decode cX12_readOr 225 = .ok (.aload_n 0, 1) := by decide +kernel
theorem dX12_readOr_226 : decode cX12_readOr 226 = .ok (.getfield 78, 3) := by decide +kernel
theorem dX12_readOr_229 : decode cX12_readOr 229 = .ok (.aload_n 0, 1) := by decide +kernel
theorem dX12_readOr_230 : decode cX12_readOr 230 = .ok (.getfield 215, 3) := by decide +kernel
theorem dX12_readOr_233 : decode cX12_readOr 233 = .ok (.iload 4, 2) := by decide +kernel
theorem dX12_readOr_235 : decode cX12_readOr 235 = .ok (.iastore, 1) := by decide +kernel
theorem dX12_readOr_236 : decode cX12_readOr 236 = .ok (.aload_n 0, 1) := by decide +kernel
theorem dX12_readOr_237 : decode cX12_readOr 237 = .ok (.dup, 1) := by decide +kernel
theorem dX12_readOr_238 : decode cX12_readOr 238 = .ok (.getfield 215, 3) := by decide +kernel
theorem dX12_readOr_241 : decode cX12_readOr 241 = .ok (.iconst 1, 1) := by decide +kernel
theorem dX12_readOr_242 : decode cX12_readOr 242 = .ok (.iadd, 1) := by decide +kernel
theorem dX12_readOr_243 : decode cX12_readOr 243 = .ok (.putfield 215, 3) := by decide +kernel
theorem dX12_readOr_246 : decode cX12_readOr 246 = .ok (.aload_n 0, 1) := by decide +kernel
theorem dX12_readOr_247 : decode cX12_readOr 247 = .ok (.dup, 1) := by decide +kernel
theorem dX12_readOr_248 : decode cX12_readOr 248 = .ok (.getfield 167, 3) := by decide +kernel
theorem dX12_readOr_251 : decode cX12_readOr 251 = .ok (.iconst 1, 1) := by decide +kernel
theorem dX12_readOr_252 : decode cX12_readOr 252 = .ok (.iadd, 1) := by decide +kernel
theorem dX12_readOr_253 : decode cX12_readOr 253 = .ok (.putfield 167, 3) := by decide +kernel
theorem dX12_readOr_256 : decode cX12_readOr 256 = .ok (.iconst 1, 1) := by decide +kernel
theorem dX12_readOr_257 : decode cX12_readOr 257 = .ok (.istore_n 2, 1) := by decide +kernel
theorem dX12_readOr_258 : decode cX12_readOr 258 = .ok (.goto 113, 3) := by decide +kernel
theorem dX12_readOr_261 : decode cX12_readOr 261 = .ok (.aload_n 0, 1) := by decide +kernel
theorem dX12_readOr_262 : decode cX12_readOr 262 = .ok (.bipush 38, 2) := by decide +kernel
theorem dX12_readOr_264 : decode cX12_readOr 264 = .ok (.invokevirtual 234, 3) := by decide +kernel
theorem dX12_readOr_267 : decode cX12_readOr 267 = .ok (.aload_n 0, 1) := by decide +kernel
theorem dX12_readOr_268 : decode cX12_readOr 268 = .ok (.bipush 124, 2) := by decide +kernel
theorem dX12_readOr_270 : decode cX12_readOr 270 = .ok (.invokevirtual 234, 3) := by decide +kernel
theorem dX12_readOr_273 : decode cX12_readOr 273 = .ok (.iload 4, 2) := by decide +kernel
theorem dX12_readOr_275 : decode cX12_readOr 275 = .ok (.bipush 117, 2) := by decide +kernel
theorem dX12_readOr_277 : decode cX12_readOr 277 = .ok (.if_icmp .ne 18, 3) := by decide +kernel
theorem dX12_readOr_280 : decode cX12_readOr 280 = .ok (.iload_n 1, 1) := by decide +kernel
theorem dX12_readOr_281 : decode cX12_readOr 281 = .ok (.ifCond .eq 14, 3) := by decide +kernel
theorem dX12_readOr_284 : decode cX12_readOr 284 = .ok (.aload_n 0, 1) := by decide +kernel
theorem dX12_readOr_285 : decode cX12_readOr 285 = .ok (.getfield 215, 3) := by decide +kernel
theorem dX12_readOr_288 : decode cX12_readOr 288 = .ok (.ifCond .ne 7, 3) := by decide +kernel
theorem dX12_readOr_291 : decode cX12_readOr 291 = .ok (.iconst 1, 1) := by decide +kernel
theorem dX12_readOr_292 : decode cX12_readOr 292 = .ok (.goto 4, 3) := by decide +kernel
theorem dX12_readOr_295 : decode cX12_readOr 295 = .ok (.iconst 0, 1) := by decide +kernel
theorem dX12_readOr_296 : decode cX12_readOr 296 = .ok (.istore_n 3, 1) := by decide +kernel
theorem dX12_readOr_297 : decode cX12_readOr 297 = .ok (.aload_n 0, 1) := by decide +kernel
theorem dX12_readOr_298 : decode cX12_readOr 298 = .ok (.iload_n 3, 1) := by decide +kernel
theorem dX12_readOr_299 : decode cX12_readOr 299 = .ok (.ifCond .ne 23, 3) := by decide +kernel
theorem dX12_readOr_302 : decode cX12_readOr 302 = .ok (.iload 4, 2) := by decide +kernel
theorem dX12_readOr_304 : decode cX12_readOr 304 = .ok (.bipush 41, 2) := by decide +kernel
theorem dX12_readOr_306 : decode cX12_readOr 306 = .ok (.if_icmp .ne 12, 3) := by decide +kernel
theorem dX12_readOr_309 : decode cX12_readOr 309 = .ok (.aload_n 0, 1) := by decide +kernel
theorem dX12_readOr_310 : decode cX12_readOr 310 = .ok (.invokevirtual 218, 3) := by decide +kernel
theorem dX12_readOr_313 : decode cX12_readOr 313 = .ok (.bipush 40, 2) := by decide +kernel
theorem dX12_readOr_315 : decode cX12_readOr 315 = .ok (.if_icmp .eq 7, 3) := by decide +kernel
theorem dX12_readOr_318 : decode cX12_readOr 318 = .ok (.iconst 1, 1) := by decide +kernel
theorem dX12_readOr_319 : decode cX12_readOr 319 = .ok (.goto 4, 3) := by decide +kernel
theorem dX12_readOr_322 : decode cX12_readOr 322 = .ok (.iconst 0, 1) := by decide +kernel
theorem dX12_readOr_323 : decode cX12_readOr 323 = .ok (.putfield 206, 3) := by decide +kernel
theorem dX12_readOr_326 : decode cX12_readOr 326 = .ok (.aload_n 0, 1) := by decide +kernel
theorem dX12_readOr_327 : decode cX12_readOr 327 = .ok (.getfield 206, 3) := by decide +kernel
theorem dX12_readOr_330 : decode cX12_readOr 330 = .ok (.ifCond .ne 41, 3) := by decide +kernel
theorem dX12_readOr_333 : decode cX12_readOr 333 = .ok (.iload_n 3, 1) := by decide +kernel
theorem dX12_readOr_334 : decode cX12_readOr 334 = .ok (.ifCond .ne 37, 3) := by decide +kernel
theorem dX12_readOr_337 : decode cX12_readOr 337 = .ok (.aload_n 0, 1) := by decide +kernel
theorem dX12_readOr_338 : decode cX12_readOr 338 = .ok (.dup, 1) := by decide +kernel
theorem dX12_readOr_339 : decode cX12_readOr 339 = .ok (.getfield 215, 3) := by decide +kernel
theorem dX12_readOr_342 : decode cX12_readOr 342 = .ok (.iconst 1, 1) := by decide +kernel
theorem dX12_readOr_343 : decode cX12_readOr 343 = .ok (.isub, 1) := by decide +kernel
theorem dX12_readOr_344 : decode cX12_readOr 344 = .ok (.putfield 215, 3) := by decide +kernel
theorem dX12_readOr_347 : decode cX12_readOr 347 = .ok (.aload_n 0, 1) := by decide +kernel
theorem dX12_readOr_348 : decode cX12_readOr 348 = .ok (.dup, 1) := by decide +kernel
theorem dX12_readOr_349 : decode cX12_readOr 349 = .ok (.getfield 224, 3) := by decide +kernel
theorem dX12_readOr_352 : decode cX12_readOr 352 = .ok (.iconst 1, 1) := by decide +kernel
theorem dX12_readOr_353 : decode cX12_readOr 353 = .ok (.isub, 1) := by decide +kernel
theorem dX12_readOr_354 : decode cX12_readOr 354 = .ok (.putfield 224, 3) := by decide +kernel
theorem dX12_readOr_357 : decode cX12_readOr 357 = .ok (.aload_n 0, 1) := by decide +kernel
theorem dX12_readOr_358 : decode cX12_readOr 358 = .ok (.dup, 1) := by decide +kernel
theorem dX12_readOr_359 : decode cX12_readOr 359 = .ok (.getfield 167, 3) := by decide +kernel
theorem dX12_readOr_362 : decode cX12_readOr 362 = .ok (.iconst 1, 1) := by decide +kernel
theorem dX12_readOr_363 : decode cX12_readOr 363 = .ok (.iadd, 1) := by decide +kernel
theorem dX12_readOr_364 : decode cX12_readOr 364 = .ok (.putfield 167, 3) := by decide +kernel
theorem dX12_readOr_367 : decode cX12_readOr 367 = .ok (.aload_n 0, 1) := by decide +kernel
theorem dX12_readOr_368 : decode cX12_readOr 368 = .ok (.invokevirtual 231, 3) := by decide +kernel
theorem dX12_readOr_371 : decode cX12_readOr 371 = .ok (.goto (-352), 3) := by decide +kernel
theorem dX12_readOr_374 : decode cX12_readOr 374 = .ok (.aload_n 0, 1) := by decide +kernel
theorem dX12_readOr_375 : decode cX12_readOr 375 = .ok (.getfield 206, 3) := by decide +kernel
theorem dX12_readOr_378 : decode cX12_readOr 378 = .ok (.ifCond .ne 31, 3) := by decide +kernel
theorem dX12_readOr_381 : decode cX12_readOr 381 = .ok (.aload_n 0, 1) := by decide +kernel
theorem dX12_readOr_382 : decode cX12_readOr 382 = .ok (.bipush 38, 2) := by decide +kernel
theorem dX12_readOr_384 : decode cX12_readOr 384 = .ok (.invokevirtual 234, 3) := by decide +kernel
theorem dX12_readOr_387 : decode cX12_readOr 387 = .ok (.aload_n 0, 1) := by decide +kernel
theorem dX12_readOr_388 : decode cX12_readOr 388 = .ok (.bipush 124, 2) := by decide +kernel
theorem dX12_readOr_390 : decode cX12_readOr 390 = .ok (.invokevirtual 234, 3) := by decide +kernel
theorem dX12_readOr_393 : decode cX12_readOr 393 = .ok (.aload_n 0, 1) := by decide +kernel
theorem dX12_readOr_394 : decode cX12_readOr 394 = .ok (.aload_n 0, 1) := by decide +kernel
theorem dX12_readOr_395 : decode cX12_readOr 395 = .ok (.getfield 215, 3) := by decide +kernel
theorem dX12_readOr_398 : decode cX12_readOr 398 = .ok (.ifCond .le 7, 3) := by decide +kernel
theorem dX12_readOr_401 : decode cX12_readOr 401 = .ok (.iconst 1, 1) := by decide +kernel
theorem dX12_readOr_402 : decode cX12_readOr 402 = .ok (.goto 4, 3) := by decide +kernel
theorem dX12_readOr_405 : decode cX12_readOr 405 = .ok (.iconst 0, 1) := by decide +kernel
theorem dX12_readOr_406 : decode cX12_readOr 406 = .ok (.putfield 206, 3) := by decide +kernel
theorem dX12_readOr_409 : decode cX12_readOr 409 = .ok (.aload_n 0, 1) := by decide +kernel
theorem dX12_readOr_410 : decode cX12_readOr 410 = .ok (.getfield 206, 3) := by decide +kernel
theorem dX12_readOr_413 : decode cX12_readOr 413 = .ok (.ifCond .ne 16, 3) := by decide +kernel
theorem dX12_readOr_416 : decode cX12_readOr 416 = .ok (.aload_n 0, 1) := by decide +kernel
theorem dX12_readOr_417 : decode cX12_readOr 417 = .ok (.getfield 74, 3) := by decide +kernel
theorem dX12_readOr_420 : decode cX12_readOr 420 = .ok (.iconst 0, 1) := by decide +kernel
theorem dX12_readOr_421 : decode cX12_readOr 421 = .ok (.baload, 1) := by decide +kernel
theorem dX12_readOr_422 : decode cX12_readOr 422 = .ok (.ifCond .eq 7, 3) := by decide +kernel
theorem dX12_readOr_425 : decode cX12_readOr 425 = .ok (.iconst 1, 1) := by decide +kernel
theorem dX12_readOr_426 : decode cX12_readOr 426 = .ok (.goto 4, 3) := by decide +kernel
theorem dX12_readOr_429 : decode cX12_readOr 429 = .ok (.iconst 0, 1) := by decide +kernel
theorem dX12_readOr_430 : decode cX12_readOr 430 = .ok (.ireturn, 1) := by decide +kernel
theorem dX12_readAct_0 : decode cX12_readAct 0 = .ok (.aload_n 0, 1) := by decide +kernel
theorem dX12_readAct_1 : decode cX12_readAct 1 = .ok (.iconst 0, 1) := by decide +kernel
theorem dX12_readAct_2 : decode cX12_readAct 2 = .ok (.putfield 167, 3) := by decide +kernel
theorem dX12_readAct_5 : decode cX12_readAct 5 = .ok (.aload_n 0, 1) := by decide +kernel
theorem dX12_readAct_6 : decode cX12_readAct 6 = .ok (.aload_n 0, 1) := by decide +kernel
theorem dX12_readAct_7 : decode cX12_readAct 7 = .ok (.invokevirtual 196, 3) := by decide +kernel
theorem dX12_readAct_10 : decode cX12_readAct 10 = .ok (.bipush 101, 2) := by decide +kernel
theorem dX12_readAct_12 : decode cX12_readAct 12 = .ok (.if_icmp .eq 25, 3) := by decide +kernel
theorem dX12_readAct_15 : decode cX12_readAct 15 = .ok (.aload_n 0, 1) := by decide +kernel
theorem dX12_readAct_16 : decode cX12_readAct 16 = .ok (.invokevirtual 196, 3) := by decide +kernel
theorem dX12_readAct_19 : decode cX12_readAct 19 = .ok (.bipush 114, 2) := by decide +kernel
theorem dX12_readAct_21 : decode cX12_readAct 21 = .ok (.if_icmp .eq 16, 3) := by decide +kernel
theorem dX12_readAct_24 : decode cX12_readAct 24 = .ok (.aload_n 0, 1) := by decide +kernel
theorem dX12_readAct_25 : decode cX12_readAct 25 = .ok (.invokevirtual 196, 3) := by decide +kernel
theorem dX12_readAct_28 : decode cX12_readAct 28 = .ok (.bipush 111, 2) := by decide +kernel
theorem dX12_readAct_30 : decode cX12_readAct 30 = .ok (.if_icmp .eq 7, 3) := by decide +kernel
theorem dX12_readAct_33 : decode cX12_readAct 33 = .ok (.iconst 1, 1) := by decide +kernel
theorem dX12_readAct_34 : decode cX12_readAct 34 = .ok (.goto 4, 3) := by decide +kernel
theorem dX12_readAct_37 : decode cX12_readAct 37 = .ok (.iconst 0, 1) := by decide +kernel
theorem dX12_readAct_38 : decode cX12_readAct 38 = .ok (.putfield 206, 3) := by decide +kernel
theorem dX12_readAct_41 : decode cX12_readAct 41 = .ok (.aload_n 0, 1) := by decide +kernel
theorem dX12_readAct_42 : decode cX12_readAct 42 = .ok (.dup, 1) := by decide +kernel
theorem dX12_readAct_43 : decode cX12_readAct 43 = .ok (.getfield 167, 3) := by decide +kernel
theorem dX12_readAct_46 : decode cX12_readAct 46 = .ok (.aload_n 0, 1) := by decide +kernel
theorem dX12_readAct_47 : decode cX12_readAct 47 = .ok (.getfield 206, 3) := by decide +kernel
theorem dX12_readAct_50 : decode cX12_readAct 50 = .ok (.ifCond .eq 7, 3) := by decide +kernel
theorem dX12_readAct_53 : decode cX12_readAct 53 = .ok (.iconst 0, 1) := by decide +kernel
theorem dX12_readAct_54 : decode cX12_readAct 54 = .ok (.goto 4, 3) := by decide +kernel
theorem dX12_readAct_57 : decode cX12_readAct 57 = .ok (.iconst 1, 1) := by decide +kernel
theorem dX12_readAct_58 : decode cX12_readAct 58 = .ok (.iadd, 1) := by decide +kernel
theorem dX12_readAct_59 : decode cX12_readAct 59 = .ok (.putfield 167, 3) := by decide +kernel
theorem dX12_readAct_62 : decode cX12_readAct 62 = .ok (.aload_n 0, 1) := by decide +kernel
theorem dX12_readAct_63 : decode cX12_readAct 63 = .ok (.aload_n 0, 1) := by decide +kernel
theorem dX12_readAct_64 : decode cX12_readAct 64 = .ok (.getfield 206, 3) := by decide +kernel
theorem dX12_readAct_67 : decode cX12_readAct 67 = .ok (.ifCond .ne 12, 3) := by decide +kernel
theorem dX12_readAct_70 : decode cX12_readAct 70 = .ok (.aload_n 0, 1) := by decide +kernel
theorem dX12_readAct_71 : decode cX12_readAct 71 = .ok (.invokevirtual 196, 3) := by decide +kernel
theorem dX12_readAct_74 : decode cX12_readAct 74 = .ok (.bipush 58, 2) := by decide +kernel
theorem dX12_readAct_76 : decode cX12_readAct 76 = .ok (.if_icmp .eq 7, 3) := by decide +kernel
theorem dX12_readAct_79 : decode cX12_readAct 79 = .ok (.iconst 1, 1) := by decide +kernel
theorem dX12_readAct_80 : decode cX12_readAct 80 = .ok (.goto 4, 3) := by decide +kernel
theorem dX12_readAct_83 : decode cX12_readAct 83 = .ok (.iconst 0, 1) := by decide +kernel
theorem dX12_readAct_84 : decode cX12_readAct 84 = .ok (.putfield 206, 3) := by decide +kernel
theorem dX12_readAct_87 : decode cX12_readAct 87 = .ok (.aload_n 0, 1) := by decide +kernel
theorem dX12_readAct_88 : decode cX12_readAct 88 = .ok (.dup, 1) := by decide +kernel
theorem dX12_readAct_89 : decode cX12_readAct 89 = .ok (.getfield 167, 3) := by decide +kernel
theorem dX12_readAct_92 : decode cX12_readAct 92 = .ok (.aload_n 0, 1) := by decide +kernel
theorem dX12_readAct_93 : decode cX12_readAct 93 = .ok (.getfield 206, 3) := by decide +kernel
theorem dX12_readAct_96 : decode cX12_readAct 96 = .ok (.ifCond .eq 7, 3) := by decide +kernel
theorem dX12_readAct_99 : decode cX12_readAct 99 = .ok (.iconst 0, 1) := by decide +kernel
theorem dX12_readAct_100 : decode cX12_readAct 100 = .ok (.goto 4, 3) := by decide +kernel
theorem dX12_readAct_103 : decode cX12_readAct 103 = .ok (.iconst 1, 1) := by decide +kernel
theorem dX12_readAct_104 : decode cX12_readAct 104 = .ok (.iadd, 1) := by decide +kernel
theorem dX12_readAct_105 : decode cX12_readAct 105 = .ok (.putfield 167, 3) := by decide +kernel
theorem dX12_readAct_108 : decode cX12_readAct 108 = .ok (.aload_n 0, 1) := by decide +kernel
theorem dX12_readAct_109 : decode cX12_readAct 109 = .ok (.getfield 206, 3) := by decide +kernel
theorem dX12_readAct_112 : decode cX12_readAct 112 = .ok (.ifCond .ne 15, 3) := by decide +kernel
theorem dX12_readAct_115 : decode cX12_readAct 115 = .ok (.aload_n 0, 1) := by decide +kernel
theorem dX12_readAct_116 : decode cX12_readAct 116 = .ok (.iconst 1, 1) := by decide +kernel
theorem dX12_readAct_117 : decode cX12_readAct 117 = .ok (.invokevirtual 238, 3) := by decide +kernel
theorem dX12_readAct_120 : decode cX12_readAct 120 = .ok (.ifCond .eq 7, 3) := by decide +kernel
theorem dX12_readAct_123 : decode cX12_readAct 123 = .ok (.iconst 1, 1) := by decide +kernel
theorem dX12_readAct_124 : decode cX12_readAct 124 = .ok (.goto 4, 3) := by decide +kernel
theorem dX12_readAct_127 : decode cX12_readAct 127 = .ok (.iconst 0, 1) := by decide +kernel
theorem dX12_readAct_128 : decode cX12_readAct 128 = .ok (.istore_n 1, 1) := by decide +kernel
theorem dX12_readAct_129 : decode cX12_readAct 129 = .ok (.aload_n 0, 1) := by decide +kernel
theorem dX12_readAct_130 : decode cX12_readAct 130 = .ok (.getfield 206, 3) := by decide +kernel
theorem dX12_readAct_133 : decode cX12_readAct 133 = .ok (.ifCond .ne 44, 3) := by decide +kernel
theorem dX12_readAct_136 : decode cX12_readAct 136 = .ok (.aload_n 0, 1) := by decide +kernel
theorem dX12_readAct_137 : decode cX12_readAct 137 = .ok (.getfield 167, 3) := by decide +kernel
theorem dX12_readAct_140 : decode cX12_readAct 140 = .ok (.aload_n 0, 1) := by decide +kernel
theorem dX12_readAct_141 : decode cX12_readAct 141 = .ok (.getfield 170, 3) := by decide +kernel
theorem dX12_readAct_144 : decode cX12_readAct 144 = .ok (.if_icmp .ge 33, 3) := by decide +kernel
theorem dX12_readAct_147 : decode cX12_readAct 147 = .ok (.aload_n 0, 1) := by decide +kernel
theorem dX12_readAct_148 : decode cX12_readAct 148 = .ok (.dup, 1) := by decide +kernel
theorem dX12_readAct_149 : decode cX12_readAct 149 = .ok (.getfield 167, 3) := by decide +kernel
theorem dX12_readAct_152 : decode cX12_readAct 152 = .ok (.iconst 1, 1) := by decide +kernel
theorem dX12_readAct_153 : decode cX12_readAct 153 = .ok (.iadd, 1) := by decide +kernel
theorem dX12_readAct_154 : decode cX12_readAct 154 = .ok (.putfield 167, 3) := by decide +kernel
theorem dX12_readAct_157 : decode cX12_readAct 157 = .ok (.aload_n 0, 1) := by decide +kernel
theorem dX12_readAct_158 : decode cX12_readAct 158 = .ok (.iconst 0, 1) := by decide +kernel
theorem dX12_readAct_159 : decode cX12_readAct 159 = .ok (.invokevirtual 238, 3) := by decide +kernel
theorem dX12_readAct_162 : decode cX12_readAct 162 = .ok (.istore_n 2, 1) := by decide +kernel
theorem dX12_readAct_163 : decode cX12_readAct 163 = .ok (.iload_n 1, 1) := by decide +kernel
theorem dX12_readAct_164 : decode cX12_readAct 164 = .ok (.ifCond .eq 11, 3) := by decide +kernel
theorem dX12_readAct_167 : decode cX12_readAct 167 = .ok (.iload_n 2, 1) := by decide +kernel
theorem dX12_readAct_168 : decode cX12_readAct 168 = .ok (.ifCond .ne 7, 3) := by decide +kernel
theorem dX12_readAct_171 : decode cX12_readAct 171 = .ok (.iconst 1, 1) := by decide +kernel
theorem dX12_readAct_172 : decode cX12_readAct 172 = .ok (.goto 4, 3) := by decide +kernel
theorem dX12_readAct_175 : decode cX12_readAct 175 = .ok (.iconst 0, 1) := by decide +kernel
theorem dX12_readAct_176 : decode cX12_readAct 176 = .ok (.istore_n 1, 1) := by decide +kernel
theorem dX12_readAct_177 : decode cX12_readAct 177 = .ok (.aload_n 0, 1) := by decide +kernel
theorem dX12_readAct_178 : decode cX12_readAct 178 = .ok (.getfield 206, 3) := by decide +kernel
theorem dX12_readAct_181 : decode cX12_readAct 181 = .ok (.ifCond .ne 11, 3) := by decide +kernel
theorem dX12_readAct_184 : decode cX12_readAct 184 = .ok (.iload_n 1, 1) := by decide +kernel
theorem dX12_readAct_185 : decode cX12_readAct 185 = .ok (.ifCond .eq 7, 3) := by decide +kernel
theorem dX12_readAct_188 : decode cX12_readAct 188 = .ok (.iconst 1, 1) := by decide +kernel
theorem dX12_readAct_189 : decode cX12_readAct 189 = .ok (.goto 4, 3) := by decide +kernel
theorem dX12_readAct_192 : decode cX12_readAct 192 = .ok (.iconst 0, 1) := by decide +kernel
theorem dX12_readAct_193 : decode cX12_readAct 193 = .ok (.ireturn, 1) := by decide +kernel
theorem dX12_lacks_0 : decode cX12_lacks 0 = .ok (.iload_n 1, 1) := by decide +kernel
theorem dX12_lacks_1 : decode cX12_lacks 1 = .ok (.iconst 0, 1) := by decide +kernel
theorem dX12_lacks_2 : decode cX12_lacks 2 = .ok (.bipush 7, 2) := by decide +kernel
theorem dX12_lacks_4 : decode cX12_lacks 4 = .ok (.invokestatic 131, 3) := by decide +kernel
theorem dX12_lacks_7 : decode cX12_lacks 7 = .ok (.ifCond .ne 5, 3) := by decide +kernel
theorem dX12_lacks_10 : decode cX12_lacks 10 = .ok (.iconst (-1), 1) := by decide +kernel
theorem dX12_lacks_11 : decode cX12_lacks 11 = .ok (.ireturn, 1) := by decide +kernel
theorem dX12_lacks_12 : decode cX12_lacks 12 = .ok (.aload_n 0, 1) := by decide +kernel
theorem dX12_lacks_13 : decode cX12_lacks 13 = .ok (.getfield 102, 3) := by decide +kernel
theorem dX12_lacks_16 : decode cX12_lacks 16 = .ok (.iload_n 1, 1) := by decide +kernel
theorem dX12_lacks_17 : decode cX12_lacks 17 = .ok (.iaload, 1) := by decide +kernel
theorem dX12_lacks_18 : decode cX12_lacks 18 = .ok (.ifCond .ne 8, 3) := by decide +kernel
theorem dX12_lacks_21 : decode cX12_lacks 21 = .ok (.bipush (-11), 2) := by decide +kernel
theorem dX12_lacks_23 : decode cX12_lacks 23 = .ok (.goto 29, 3) := by decide +kernel
theorem dX12_lacks_26 : decode cX12_lacks 26 = .ok (.aload_n 0, 1) := by decide +kernel
theorem dX12_lacks_27 : decode cX12_lacks 27 = .ok (.getfield 102, 3) := by decide +kernel
theorem dX12_lacks_30 : decode cX12_lacks 30 = .ok (.iload_n 1, 1) := by decide +kernel
theorem dX12_lacks_31 : decode cX12_lacks 31 = .ok (.iaload, 1) := by decide +kernel
theorem dX12_lacks_32 : decode cX12_lacks 32 = .ok (.iconst 2, 1) := by decide +kernel
theorem dX12_lacks_33 : decode cX12_lacks 33 = .ok (.if_icmp .ne 13, 3) := by decide +kernel
theorem dX12_lacks_36 : decode cX12_lacks 36 = .ok (.aload_n 0, 1) := by decide +kernel
theorem dX12_lacks_37 : decode cX12_lacks 37 = .ok (.getfield 114, 3) := by decide +kernel
theorem dX12_lacks_40 : decode cX12_lacks 40 = .ok (.iload_n 1, 1) := by decide +kernel
theorem dX12_lacks_41 : decode cX12_lacks 41 = .ok (.iaload, 1) := by decide +kernel
theorem dX12_lacks_42 : decode cX12_lacks 42 = .ok (.iload_n 2, 1) := by decide +kernel
theorem dX12_lacks_43 : decode cX12_lacks 43 = .ok (.if_icmp .eq 8, 3) := by decide +kernel
theorem dX12_lacks_46 : decode cX12_lacks 46 = .ok (.bipush (-12), 2) := by decide +kernel
theorem dX12_lacks_48 : decode cX12_lacks 48 = .ok (.goto 4, 3) := by decide +kernel
theorem dX12_lacks_51 : decode cX12_lacks 51 = .ok (.iconst 0, 1) := by decide +kernel
theorem dX12_lacks_52 : decode cX12_lacks 52 = .ok (.ireturn, 1) := by decide +kernel
theorem dX12_faultOf_0 : decode cX12_faultOf 0 = .ok (.aload_n 0, 1) := by decide +kernel
theorem dX12_faultOf_1 : decode cX12_faultOf 1 = .ok (.iconst 1, 1) := by decide +kernel
theorem dX12_faultOf_2 : decode cX12_faultOf 2 = .ok (.putfield 173, 3) := by decide +kernel
theorem dX12_faultOf_5 : decode cX12_faultOf 5 = .ok (.aload_n 0, 1) := by decide +kernel
theorem dX12_faultOf_6 : decode cX12_faultOf 6 = .ok (.bipush 80, 2) := by decide +kernel
theorem dX12_faultOf_8 : decode cX12_faultOf 8 = .ok (.iload_n 1, 1) := by decide +kernel
theorem dX12_faultOf_9 : decode cX12_faultOf 9 = .ok (.imul, 1) := by decide +kernel
theorem dX12_faultOf_10 : decode cX12_faultOf 10 = .ok (.putfield 177, 3) := by decide +kernel
theorem dX12_faultOf_13 : decode cX12_faultOf 13 = .ok (.aload_n 0, 1) := by decide +kernel
theorem dX12_faultOf_14 : decode cX12_faultOf 14 = .ok (.aload_n 0, 1) := by decide +kernel
theorem dX12_faultOf_15 : decode cX12_faultOf 15 = .ok (.getfield 117, 3) := by decide +kernel
theorem dX12_faultOf_18 : decode cX12_faultOf 18 = .ok (.iload_n 1, 1) := by decide +kernel
theorem dX12_faultOf_19 : decode cX12_faultOf 19 = .ok (.iaload, 1) := by decide +kernel
theorem dX12_faultOf_20 : decode cX12_faultOf 20 = .ok (.putfield 170, 3) := by decide +kernel
theorem dX12_faultOf_23 : decode cX12_faultOf 23 = .ok (.aload_n 0, 1) := by decide +kernel
theorem dX12_faultOf_24 : decode cX12_faultOf 24 = .ok (.invokevirtual 242, 3) := by decide +kernel
theorem dX12_faultOf_27 : decode cX12_faultOf 27 = .ok (.pop, 1) := by decide +kernel
theorem dX12_faultOf_28 : decode cX12_faultOf 28 = .ok (.aload_n 0, 1) := by decide +kernel
theorem dX12_faultOf_29 : decode cX12_faultOf 29 = .ok (.getfield 206, 3) := by decide +kernel
theorem dX12_faultOf_32 : decode cX12_faultOf 32 = .ok (.ifCond .eq 10, 3) := by decide +kernel
theorem dX12_faultOf_35 : decode cX12_faultOf 35 = .ok (.aload_n 0, 1) := by decide +kernel
theorem dX12_faultOf_36 : decode cX12_faultOf 36 = .ok (.getfield 167, 3) := by decide +kernel
theorem dX12_faultOf_39 : decode cX12_faultOf 39 = .ok (.goto 4, 3) := by decide +kernel
theorem dX12_faultOf_42 : decode cX12_faultOf 42 = .ok (.iconst (-1), 1) := by decide +kernel
theorem dX12_faultOf_43 : decode cX12_faultOf 43 = .ok (.ireturn, 1) := by decide +kernel
theorem dX12_fault_0 : decode cX12_fault 0 = .ok (.aload_n 0, 1) := by decide +kernel
theorem dX12_fault_1 : decode cX12_fault 1 = .ok (.iconst 0, 1) := by decide +kernel
theorem dX12_fault_2 : decode cX12_fault 2 = .ok (.putfield 128, 3) := by decide +kernel
theorem dX12_fault_5 : decode cX12_fault 5 = .ok (.aload_n 0, 1) := by decide +kernel
theorem dX12_fault_6 : decode cX12_fault 6 = .ok (.iload_n 1, 1) := by decide +kernel
theorem dX12_fault_7 : decode cX12_fault 7 = .ok (.iconst 0, 1) := by decide +kernel
theorem dX12_fault_8 : decode cX12_fault 8 = .ok (.invokevirtual 245, 3) := by decide +kernel
theorem dX12_fault_11 : decode cX12_fault 11 = .ok (.istore_n 2, 1) := by decide +kernel
theorem dX12_fault_12 : decode cX12_fault 12 = .ok (.iload_n 2, 1) := by decide +kernel
theorem dX12_fault_13 : decode cX12_fault 13 = .ok (.ifCond .ge 5, 3) := by decide +kernel
theorem dX12_fault_16 : decode cX12_fault 16 = .ok (.iload_n 2, 1) := by decide +kernel
theorem dX12_fault_17 : decode cX12_fault 17 = .ok (.ireturn, 1) := by decide +kernel
theorem dX12_fault_18 : decode cX12_fault 18 = .ok (.aload_n 0, 1) := by decide +kernel
theorem dX12_fault_19 : decode cX12_fault 19 = .ok (.iload_n 1, 1) := by decide +kernel
theorem dX12_fault_20 : decode cX12_fault 20 = .ok (.invokevirtual 248, 3) := by decide +kernel
theorem dX12_fault_23 : decode cX12_fault 23 = .ok (.istore_n 3, 1) := by decide +kernel
theorem dX12_fault_24 : decode cX12_fault 24 = .ok (.iload_n 3, 1) := by decide +kernel
theorem dX12_fault_25 : decode cX12_fault 25 = .ok (.ifCond .ge 8, 3) := by decide +kernel
theorem dX12_fault_28 : decode cX12_fault 28 = .ok (.bipush (-4), 2) := by decide +kernel
theorem dX12_fault_30 : decode cX12_fault 30 = .ok (.goto 4, 3) := by decide +kernel
theorem dX12_fault_33 : decode cX12_fault 33 = .ok (.iload_n 3, 1) := by decide +kernel
theorem dX12_fault_34 : decode cX12_fault 34 = .ok (.ireturn, 1) := by decide +kernel
theorem dX12_act_0 : decode cX12_act 0 = .ok (.aload_n 0, 1) := by decide +kernel
theorem dX12_act_1 : decode cX12_act 1 = .ok (.iconst 0, 1) := by decide +kernel
theorem dX12_act_2 : decode cX12_act 2 = .ok (.putfield 128, 3) := by decide +kernel
theorem dX12_act_5 : decode cX12_act 5 = .ok (.iload_n 1, 1) := by decide +kernel
theorem dX12_act_6 : decode cX12_act 6 = .ok (.iconst 0, 1) := by decide +kernel
theorem dX12_act_7 : decode cX12_act 7 = .ok (.bipush 7, 2) := by decide +kernel
theorem dX12_act_9 : decode cX12_act 9 = .ok (.invokestatic 131, 3) := by decide +kernel
theorem dX12_act_12 : decode cX12_act 12 = .ok (.ifCond .eq 28, 3) := by decide +kernel
theorem dX12_act_15 : decode cX12_act 15 = .ok (.iload_n 2, 1) := by decide +kernel
theorem dX12_act_16 : decode cX12_act 16 = .ok (.iconst (-1), 1) := by decide +kernel
theorem dX12_act_17 : decode cX12_act 17 = .ok (.iconst 3, 1) := by decide +kernel
theorem dX12_act_18 : decode cX12_act 18 = .ok (.invokestatic 131, 3) := by decide +kernel
theorem dX12_act_21 : decode cX12_act 21 = .ok (.ifCond .eq 19, 3) := by decide +kernel
theorem dX12_act_24 : decode cX12_act 24 = .ok (.iload_n 3, 1) := by decide +kernel
theorem dX12_act_25 : decode cX12_act 25 = .ok (.aload_n 0, 1) := by decide +kernel
theorem dX12_act_26 : decode cX12_act 26 = .ok (.getfield 7, 3) := by decide +kernel
theorem dX12_act_29 : decode cX12_act 29 = .ok (.iconst 3, 1) := by decide +kernel
theorem dX12_act_30 : decode cX12_act 30 = .ok (.iaload, 1) := by decide +kernel
theorem dX12_act_31 : decode cX12_act 31 = .ok (.sipush 400, 3) := by decide +kernel
theorem dX12_act_34 : decode cX12_act 34 = .ok (.invokestatic 131, 3) := by decide +kernel
theorem dX12_act_37 : decode cX12_act 37 = .ok (.ifCond .ne 5, 3) := by decide +kernel
theorem dX12_act_40 : decode cX12_act 40 = .ok (.iconst (-1), 1) := by decide +kernel
theorem dX12_act_41 : decode cX12_act 41 = .ok (.ireturn, 1) := by decide +kernel
theorem dX12_act_42 : decode cX12_act 42 = .ok (.aload_n 0, 1) := by decide +kernel
theorem dX12_act_43 : decode cX12_act 43 = .ok (.getfield 7, 3) := by decide +kernel
theorem dX12_act_46 : decode cX12_act 46 = .ok (.iconst 2, 1) := by decide +kernel
theorem dX12_act_47 : decode cX12_act 47 = .ok (.iaload, 1) := by decide +kernel
theorem dX12_act_48 : decode cX12_act 48 = .ok (.bipush 16, 2) := by decide +kernel
theorem dX12_act_50 : decode cX12_act 50 = .ok (.if_icmp .ne 6, 3) := by decide +kernel
theorem dX12_act_53 : decode cX12_act 53 = .ok (.bipush (-2), 2) := by decide +kernel
theorem dX12_act_55 : decode cX12_act 55 = .ok (.ireturn, 1) := by decide +kernel
theorem dX12_act_56 : decode cX12_act 56 = .ok (.aload_n 0, 1) := by decide +kernel
theorem dX12_act_57 : decode cX12_act 57 = .ok (.iload_n 1, 1) := by decide +kernel
theorem dX12_act_58 : decode cX12_act 58 = .ok (.iconst 0, 1) := by decide +kernel
theorem dX12_act_59 : decode cX12_act 59 = .ok (.invokevirtual 245, 3) := by decide +kernel
theorem dX12_act_62 : decode cX12_act 62 = .ok (.istore 4, 2) := by decide +kernel
theorem dX12_act_64 : decode cX12_act 64 = .ok (.iload 4, 2) := by decide +kernel
theorem dX12_act_66 : decode cX12_act 66 = .ok (.ifCond .ge 6, 3) := by decide +kernel
theorem dX12_act_69 : decode cX12_act 69 = .ok (.iload 4, 2) := by decide +kernel
theorem dX12_act_71 : decode cX12_act 71 = .ok (.ireturn, 1) := by decide +kernel
theorem dX12_act_72 : decode cX12_act 72 = .ok (.aload_n 0, 1) := by decide +kernel
theorem dX12_act_73 : decode cX12_act 73 = .ok (.iload_n 1, 1) := by decide +kernel
theorem dX12_act_74 : decode cX12_act 74 = .ok (.invokevirtual 248, 3) := by decide +kernel
theorem dX12_act_77 : decode cX12_act 77 = .ok (.istore 5, 2) := by decide +kernel
theorem dX12_act_79 : decode cX12_act 79 = .ok (.iload 5, 2) := by decide +kernel
theorem dX12_act_81 : decode cX12_act 81 = .ok (.ifCond .lt 9, 3) := by decide +kernel
theorem dX12_act_84 : decode cX12_act 84 = .ok (.bipush (-100), 2) := by decide +kernel
theorem dX12_act_86 : decode cX12_act 86 = .ok (.iload 5, 2) := by decide +kernel
theorem dX12_act_88 : decode cX12_act 88 = .ok (.isub, 1) := by decide +kernel
theorem dX12_act_89 : decode cX12_act 89 = .ok (.ireturn, 1) := by decide +kernel
theorem dX12_act_90 : decode cX12_act 90 = .ok (.aload_n 0, 1) := by decide +kernel
theorem dX12_act_91 : decode cX12_act 91 = .ok (.getfield 7, 3) := by decide +kernel
theorem dX12_act_94 : decode cX12_act 94 = .ok (.iconst 2, 1) := by decide +kernel
theorem dX12_act_95 : decode cX12_act 95 = .ok (.iaload, 1) := by decide +kernel
theorem dX12_act_96 : decode cX12_act 96 = .ok (.istore 6, 2) := by decide +kernel
theorem dX12_act_98 : decode cX12_act 98 = .ok (.iconst 0, 1) := by decide +kernel
theorem dX12_act_99 : decode cX12_act 99 = .ok (.istore 7, 2) := by decide +kernel
theorem dX12_act_101 : decode cX12_act 101 = .ok (.iload 7, 2) := by decide +kernel
theorem dX12_act_103 : decode cX12_act 103 = .ok (.aload_n 0, 1) := by decide +kernel
theorem dX12_act_104 : decode cX12_act 104 = .ok (.getfield 117, 3) := by decide +kernel
theorem dX12_act_107 : decode cX12_act 107 = .ok (.iload_n 1, 1) := by decide +kernel
theorem dX12_act_108 : decode cX12_act 108 = .ok (.iaload, 1) := by decide +kernel
theorem dX12_act_109 : decode cX12_act 109 = .ok (.if_icmp .ge 39, 3) := by decide +kernel
theorem dX12_act_112 : decode cX12_act 112 = .ok (.aload_n 0, 1) := by decide +kernel
theorem dX12_act_113 : decode cX12_act 113 = .ok (.getfield 49, 3) := by decide +kernel
theorem dX12_act_116 : decode cX12_act 116 = .ok (.bipush 80, 2) := by decide +kernel
theorem dX12_act_118 : decode cX12_act 118 = .ok (.iload 6, 2) := by decide +kernel
theorem dX12_act_120 : decode cX12_act 120 = .ok (.imul, 1) := by decide +kernel
theorem dX12_act_121 : decode cX12_act 121 = .ok (.iload 7, 2) := by decide +kernel
theorem dX12_act_123 : decode cX12_act 123 = .ok (.iadd, 1) := by decide +kernel
theorem dX12_act_124 : decode cX12_act 124 = .ok (.aload_n 0, 1) := by decide +kernel
theorem dX12_act_125 : decode cX12_act 125 = .ok (.getfield 120, 3) := by decide +kernel
theorem dX12_act_128 : decode cX12_act 128 = .ok (.bipush 80, 2) := by decide +kernel
theorem dX12_act_130 : decode cX12_act 130 = .ok (.iload_n 1, 1) := by decide +kernel
theorem dX12_act_131 : decode cX12_act 131 = .ok (.imul, 1) := by decide +kernel
theorem dX12_act_132 : decode cX12_act 132 = .ok (.iload 7, 2) := by decide +kernel
theorem dX12_act_134 : decode cX12_act 134 = .ok (.iadd, 1) := by decide +kernel
theorem dX12_act_135 : decode cX12_act 135 = .ok (.laload, 1) := by decide +kernel
theorem dX12_act_136 : decode cX12_act 136 = .ok (.l2i, 1) := by decide +kernel
theorem dX12_act_137 : decode cX12_act 137 = .ok (.sipush 255, 3) := by decide +kernel
theorem dX12_act_140 : decode cX12_act 140 = .ok (.iand, 1) := by decide +kernel
theorem dX12_act_141 : decode cX12_act 141 = .ok (.iastore, 1) := by decide +kernel
theorem dX12_act_142 : decode cX12_act 142 = .ok (.iinc 7 1, 3) := by decide +kernel
theorem dX12_act_145 : decode cX12_act 145 = .ok (.goto (-44), 3) := by decide +kernel
theorem dX12_act_148 : decode cX12_act 148 = .ok (.aload_n 0, 1) := by decide +kernel
theorem dX12_act_149 : decode cX12_act 149 = .ok (.getfield 52, 3) := by decide +kernel
theorem dX12_act_152 : decode cX12_act 152 = .ok (.iload 6, 2) := by decide +kernel
theorem dX12_act_154 : decode cX12_act 154 = .ok (.aload_n 0, 1) := by decide +kernel
theorem dX12_act_155 : decode cX12_act 155 = .ok (.getfield 117, 3) := by decide +kernel
theorem dX12_act_158 : decode cX12_act 158 = .ok (.iload_n 1, 1) := by decide +kernel
theorem dX12_act_159 : decode cX12_act 159 = .ok (.iaload, 1) := by decide +kernel
theorem dX12_act_160 : decode cX12_act 160 = .ok (.iastore, 1) := by decide +kernel
theorem dX12_act_161 : decode cX12_act 161 = .ok (.aload_n 0, 1) := by decide +kernel
theorem dX12_act_162 : decode cX12_act 162 = .ok (.getfield 55, 3) := by decide +kernel
theorem dX12_act_165 : decode cX12_act 165 = .ok (.iload 6, 2) := by decide +kernel
theorem dX12_act_167 : decode cX12_act 167 = .ok (.iload_n 2, 1) := by decide +kernel
theorem dX12_act_168 : decode cX12_act 168 = .ok (.iastore, 1) := by decide +kernel
theorem dX12_act_169 : decode cX12_act 169 = .ok (.aload_n 0, 1) := by decide +kernel
theorem dX12_act_170 : decode cX12_act 170 = .ok (.getfield 58, 3) := by decide +kernel
theorem dX12_act_173 : decode cX12_act 173 = .ok (.iload 6, 2) := by decide +kernel
theorem dX12_act_175 : decode cX12_act 175 = .ok (.iload_n 3, 1) := by decide +kernel
theorem dX12_act_176 : decode cX12_act 176 = .ok (.iastore, 1) := by decide +kernel
theorem dX12_act_177 : decode cX12_act 177 = .ok (.aload_n 0, 1) := by decide +kernel
theorem dX12_act_178 : decode cX12_act 178 = .ok (.getfield 7, 3) := by decide +kernel
theorem dX12_act_181 : decode cX12_act 181 = .ok (.sipush 160, 3) := by decide +kernel
theorem dX12_act_184 : decode cX12_act 184 = .ok (.iload 6, 2) := by decide +kernel
theorem dX12_act_186 : decode cX12_act 186 = .ok (.iadd, 1) := by decide +kernel
theorem dX12_act_187 : decode cX12_act 187 = .ok (.ldc 251, 2) := by decide +kernel
theorem dX12_act_189 : decode cX12_act 189 = .ok (.iastore, 1) := by decide +kernel
theorem dX12_act_190 : decode cX12_act 190 = .ok (.aload_n 0, 1) := by decide +kernel
theorem dX12_act_191 : decode cX12_act 191 = .ok (.getfield 7, 3) := by decide +kernel
theorem dX12_act_194 : decode cX12_act 194 = .ok (.iconst 2, 1) := by decide +kernel
theorem dX12_act_195 : decode cX12_act 195 = .ok (.dup2, 1) := by decide +kernel
theorem dX12_act_196 : decode cX12_act 196 = .ok (.iaload, 1) := by decide +kernel
theorem dX12_act_197 : decode cX12_act 197 = .ok (.iconst 1, 1) := by decide +kernel
theorem dX12_act_198 : decode cX12_act 198 = .ok (.iadd, 1) := by decide +kernel
theorem dX12_act_199 : decode cX12_act 199 = .ok (.iastore, 1) := by decide +kernel
theorem dX12_act_200 : decode cX12_act 200 = .ok (.aload_n 0, 1) := by decide +kernel
theorem dX12_act_201 : decode cX12_act 201 = .ok (.iconst (-1), 1) := by decide +kernel
theorem dX12_act_202 : decode cX12_act 202 = .ok (.putfield 84, 3) := by decide +kernel
theorem dX12_act_205 : decode cX12_act 205 = .ok (.iload 6, 2) := by decide +kernel
theorem dX12_act_207 : decode cX12_act 207 = .ok (.ireturn, 1) := by decide +kernel
theorem dX12_strike_0 : decode cX12_strike 0 = .ok (.aload_n 0, 1) := by decide +kernel
theorem dX12_strike_1 : decode cX12_strike 1 = .ok (.iconst 0, 1) := by decide +kernel
theorem dX12_strike_2 : decode cX12_strike 2 = .ok (.putfield 128, 3) := by decide +kernel
theorem dX12_strike_5 : decode cX12_strike 5 = .ok (.iload_n 1, 1) := by decide +kernel
theorem dX12_strike_6 : decode cX12_strike 6 = .ok (.iconst 0, 1) := by decide +kernel
theorem dX12_strike_7 : decode cX12_strike 7 = .ok (.aload_n 0, 1) := by decide +kernel
theorem dX12_strike_8 : decode cX12_strike 8 = .ok (.getfield 7, 3) := by decide +kernel
theorem dX12_strike_11 : decode cX12_strike 11 = .ok (.iconst 2, 1) := by decide +kernel
theorem dX12_strike_12 : decode cX12_strike 12 = .ok (.iaload, 1) := by decide +kernel
theorem dX12_strike_13 : decode cX12_strike 13 = .ok (.iconst 1, 1) := by decide +kernel
theorem dX12_strike_14 : decode cX12_strike 14 = .ok (.isub, 1) := by decide +kernel
theorem dX12_strike_15 : decode cX12_strike 15 = .ok (.invokestatic 131, 3) := by decide +kernel
theorem dX12_strike_18 : decode cX12_strike 18 = .ok (.ifCond .eq 19, 3) := by decide +kernel
theorem dX12_strike_21 : decode cX12_strike 21 = .ok (.iload_n 2, 1) := by decide +kernel
theorem dX12_strike_22 : decode cX12_strike 22 = .ok (.aload_n 0, 1) := by decide +kernel
theorem dX12_strike_23 : decode cX12_strike 23 = .ok (.getfield 7, 3) := by decide +kernel
theorem dX12_strike_26 : decode cX12_strike 26 = .ok (.iconst 3, 1) := by decide +kernel
theorem dX12_strike_27 : decode cX12_strike 27 = .ok (.iaload, 1) := by decide +kernel
theorem dX12_strike_28 : decode cX12_strike 28 = .ok (.sipush 400, 3) := by decide +kernel
theorem dX12_strike_31 : decode cX12_strike 31 = .ok (.invokestatic 131, 3) := by decide +kernel
theorem dX12_strike_34 : decode cX12_strike 34 = .ok (.ifCond .ne 5, 3) := by decide +kernel
theorem dX12_strike_37 : decode cX12_strike 37 = .ok (.iconst (-1), 1) := by decide +kernel
theorem dX12_strike_38 : decode cX12_strike 38 = .ok (.ireturn, 1) := by decide +kernel
theorem dX12_strike_39 : decode cX12_strike 39 = .ok (.aload_n 0, 1) := by decide +kernel
theorem dX12_strike_40 : decode cX12_strike 40 = .ok (.getfield 7, 3) := by decide +kernel
theorem dX12_strike_43 : decode cX12_strike 43 = .ok (.sipush 160, 3) := by decide +kernel
theorem dX12_strike_46 : decode cX12_strike 46 = .ok (.iload_n 1, 1) := by decide +kernel
theorem dX12_strike_47 : decode cX12_strike 47 = .ok (.iadd, 1) := by decide +kernel
theorem dX12_strike_48 : decode cX12_strike 48 = .ok (.iaload, 1) := by decide +kernel
theorem dX12_strike_49 : decode cX12_strike 49 = .ok (.ldc 251, 2) := by decide +kernel
theorem dX12_strike_51 : decode cX12_strike 51 = .ok (.if_icmp .ge 6, 3) := by decide +kernel
theorem dX12_strike_54 : decode cX12_strike 54 = .ok (.bipush (-3), 2) := by decide +kernel
theorem dX12_strike_56 : decode cX12_strike 56 = .ok (.ireturn, 1) := by decide +kernel
theorem dX12_strike_57 : decode cX12_strike 57 = .ok (.aload_n 0, 1) := by decide +kernel
theorem dX12_strike_58 : decode cX12_strike 58 = .ok (.getfield 7, 3) := by decide +kernel
theorem dX12_strike_61 : decode cX12_strike 61 = .ok (.sipush 160, 3) := by decide +kernel
theorem dX12_strike_64 : decode cX12_strike 64 = .ok (.iload_n 1, 1) := by decide +kernel
theorem dX12_strike_65 : decode cX12_strike 65 = .ok (.iadd, 1) := by decide +kernel
theorem dX12_strike_66 : decode cX12_strike 66 = .ok (.iload_n 2, 1) := by decide +kernel
theorem dX12_strike_67 : decode cX12_strike 67 = .ok (.iastore, 1) := by decide +kernel
theorem dX12_strike_68 : decode cX12_strike 68 = .ok (.aload_n 0, 1) := by decide +kernel
theorem dX12_strike_69 : decode cX12_strike 69 = .ok (.iconst (-1), 1) := by decide +kernel
theorem dX12_strike_70 : decode cX12_strike 70 = .ok (.putfield 84, 3) := by decide +kernel
theorem dX12_strike_73 : decode cX12_strike 73 = .ok (.iconst 1, 1) := by decide +kernel
theorem dX12_strike_74 : decode cX12_strike 74 = .ok (.ireturn, 1) := by decide +kernel
theorem dX12_letterOf_0 : decode cX12_letterOf 0 = .ok (.iload_n 0, 1) := by decide +kernel
theorem dX12_letterOf_1 : decode cX12_letterOf 1 = .ok (.ifCond .ne 8, 3) := by decide +kernel
theorem dX12_letterOf_4 : decode cX12_letterOf 4 = .ok (.bipush 101, 2) := by decide +kernel
theorem dX12_letterOf_6 : decode cX12_letterOf 6 = .ok (.goto 15, 3) := by decide +kernel
theorem dX12_letterOf_9 : decode cX12_letterOf 9 = .ok (.iload_n 0, 1) := by decide +kernel
theorem dX12_letterOf_10 : decode cX12_letterOf 10 = .ok (.iconst 1, 1) := by decide +kernel
theorem dX12_letterOf_11 : decode cX12_letterOf 11 = .ok (.if_icmp .ne 8, 3) := by decide +kernel
theorem dX12_letterOf_14 : decode cX12_letterOf 14 = .ok (.bipush 114, 2) := by decide +kernel
theorem dX12_letterOf_16 : decode cX12_letterOf 16 = .ok (.goto 5, 3) := by decide +kernel
theorem dX12_letterOf_19 : decode cX12_letterOf 19 = .ok (.bipush 111, 2) := by decide +kernel
theorem dX12_letterOf_21 : decode cX12_letterOf 21 = .ok (.ireturn, 1) := by decide +kernel
theorem dX12_couldBe_0 : decode cX12_couldBe 0 = .ok (.aload_n 0, 1) := by decide +kernel
theorem dX12_couldBe_1 : decode cX12_couldBe 1 = .ok (.iload_n 1, 1) := by decide +kernel
theorem dX12_couldBe_2 : decode cX12_couldBe 2 = .ok (.iload_n 2, 1) := by decide +kernel
theorem dX12_couldBe_3 : decode cX12_couldBe 3 = .ok (.aload_n 0, 1) := by decide +kernel
theorem dX12_couldBe_4 : decode cX12_couldBe 4 = .ok (.getfield 19, 3) := by decide +kernel
theorem dX12_couldBe_7 : decode cX12_couldBe 7 = .ok (.iload_n 3, 1) := by decide +kernel
theorem dX12_couldBe_8 : decode cX12_couldBe 8 = .ok (.iaload, 1) := by decide +kernel
theorem dX12_couldBe_9 : decode cX12_couldBe 9 = .ok (.iload 4, 2) := by decide +kernel
theorem dX12_couldBe_11 : decode cX12_couldBe 11 = .ok (.invokevirtual 252, 3) := by decide +kernel
theorem dX12_couldBe_14 : decode cX12_couldBe 14 = .ok (.ireturn, 1) := by decide +kernel
theorem dX12_isOf_0 : decode cX12_isOf 0 = .ok (.aload_n 0, 1) := by decide +kernel
theorem dX12_isOf_1 : decode cX12_isOf 1 = .ok (.getfield 49, 3) := by decide +kernel
theorem dX12_isOf_4 : decode cX12_isOf 4 = .ok (.bipush 80, 2) := by decide +kernel
theorem dX12_isOf_6 : decode cX12_isOf 6 = .ok (.iload_n 1, 1) := by decide +kernel
theorem dX12_isOf_7 : decode cX12_isOf 7 = .ok (.imul, 1) := by decide +kernel
theorem dX12_isOf_8 : decode cX12_isOf 8 = .ok (.iaload, 1) := by decide +kernel
theorem dX12_isOf_9 : decode cX12_isOf 9 = .ok (.iload_n 2, 1) := by decide +kernel
theorem dX12_isOf_10 : decode cX12_isOf 10 = .ok (.invokestatic 256, 3) := by decide +kernel
theorem dX12_isOf_13 : decode cX12_isOf 13 = .ok (.if_icmp .ne 53, 3) := by decide +kernel
theorem dX12_isOf_16 : decode cX12_isOf 16 = .ok (.aload_n 0, 1) := by decide +kernel
theorem dX12_isOf_17 : decode cX12_isOf 17 = .ok (.getfield 55, 3) := by decide +kernel
theorem dX12_isOf_20 : decode cX12_isOf 20 = .ok (.iload_n 1, 1) := by decide +kernel
theorem dX12_isOf_21 : decode cX12_isOf 21 = .ok (.iaload, 1) := by decide +kernel
theorem dX12_isOf_22 : decode cX12_isOf 22 = .ok (.iconst (-1), 1) := by decide +kernel
theorem dX12_isOf_23 : decode cX12_isOf 23 = .ok (.if_icmp .eq 13, 3) := by decide +kernel
theorem dX12_isOf_26 : decode cX12_isOf 26 = .ok (.aload_n 0, 1) := by decide +kernel
theorem dX12_isOf_27 : decode cX12_isOf 27 = .ok (.getfield 55, 3) := by decide +kernel
theorem dX12_isOf_30 : decode cX12_isOf 30 = .ok (.iload_n 1, 1) := by decide +kernel
theorem dX12_isOf_31 : decode cX12_isOf 31 = .ok (.iaload, 1) := by decide +kernel
theorem dX12_isOf_32 : decode cX12_isOf 32 = .ok (.iload_n 3, 1) := by decide +kernel
theorem dX12_isOf_33 : decode cX12_isOf 33 = .ok (.if_icmp .ne 33, 3) := by decide +kernel
theorem dX12_isOf_36 : decode cX12_isOf 36 = .ok (.aload_n 0, 1) := by decide +kernel
theorem dX12_isOf_37 : decode cX12_isOf 37 = .ok (.getfield 58, 3) := by decide +kernel
theorem dX12_isOf_40 : decode cX12_isOf 40 = .ok (.iload_n 1, 1) := by decide +kernel
theorem dX12_isOf_41 : decode cX12_isOf 41 = .ok (.iaload, 1) := by decide +kernel
theorem dX12_isOf_42 : decode cX12_isOf 42 = .ok (.iload 4, 2) := by decide +kernel
theorem dX12_isOf_44 : decode cX12_isOf 44 = .ok (.if_icmp .gt 22, 3) := by decide +kernel
theorem dX12_isOf_47 : decode cX12_isOf 47 = .ok (.iload 4, 2) := by decide +kernel
theorem dX12_isOf_49 : decode cX12_isOf 49 = .ok (.aload_n 0, 1) := by decide +kernel
theorem dX12_isOf_50 : decode cX12_isOf 50 = .ok (.getfield 7, 3) := by decide +kernel
theorem dX12_isOf_53 : decode cX12_isOf 53 = .ok (.sipush 160, 3) := by decide +kernel
theorem dX12_isOf_56 : decode cX12_isOf 56 = .ok (.iload_n 1, 1) := by decide +kernel
theorem dX12_isOf_57 : decode cX12_isOf 57 = .ok (.iadd, 1) := by decide +kernel
theorem dX12_isOf_58 : decode cX12_isOf 58 = .ok (.iaload, 1) := by decide +kernel
theorem dX12_isOf_59 : decode cX12_isOf 59 = .ok (.if_icmp .ge 7, 3) := by decide +kernel
theorem dX12_isOf_62 : decode cX12_isOf 62 = .ok (.iconst 1, 1) := by decide +kernel
theorem dX12_isOf_63 : decode cX12_isOf 63 = .ok (.goto 4, 3) := by decide +kernel
theorem dX12_isOf_66 : decode cX12_isOf 66 = .ok (.iconst 0, 1) := by decide +kernel
theorem dX12_isOf_67 : decode cX12_isOf 67 = .ok (.ireturn, 1) := by decide +kernel
theorem dX12_forceOf_0 : decode cX12_forceOf 0 = .ok (.iconst 0, 1) := by decide +kernel
theorem dX12_forceOf_1 : decode cX12_forceOf 1 = .ok (.istore 4, 2) := by decide +kernel
theorem dX12_forceOf_3 : decode cX12_forceOf 3 = .ok (.iload 4, 2) := by decide +kernel
theorem dX12_forceOf_5 : decode cX12_forceOf 5 = .ok (.bipush 12, 2) := by decide +kernel
theorem dX12_forceOf_7 : decode cX12_forceOf 7 = .ok (.if_icmp .ge 99, 3) := by decide +kernel
theorem dX12_forceOf_10 : decode cX12_forceOf 10 = .ok (.aload_n 0, 1) := by decide +kernel
theorem dX12_forceOf_11 : decode cX12_forceOf 11 = .ok (.getfield 84, 3) := by decide +kernel
theorem dX12_forceOf_14 : decode cX12_forceOf 14 = .ok (.iload_n 3, 1) := by decide +kernel
theorem dX12_forceOf_15 : decode cX12_forceOf 15 = .ok (.if_icmp .eq 91, 3) := by decide +kernel
theorem dX12_forceOf_18 : decode cX12_forceOf 18 = .ok (.bipush (-4), 2) := by decide +kernel
theorem dX12_forceOf_20 : decode cX12_forceOf 20 = .ok (.istore 5, 2) := by decide +kernel
theorem dX12_forceOf_22 : decode cX12_forceOf 22 = .ok (.iconst 0, 1) := by decide +kernel
theorem dX12_forceOf_23 : decode cX12_forceOf 23 = .ok (.istore 6, 2) := by decide +kernel
theorem dX12_forceOf_25 : decode cX12_forceOf 25 = .ok (.iload 6, 2) := by decide +kernel
theorem dX12_forceOf_27 : decode cX12_forceOf 27 = .ok (.aload_n 0, 1) := by decide +kernel
theorem dX12_forceOf_28 : decode cX12_forceOf 28 = .ok (.getfield 7, 3) := by decide +kernel
theorem dX12_forceOf_31 : decode cX12_forceOf 31 = .ok (.iconst 2, 1) := by decide +kernel
theorem dX12_forceOf_32 : decode cX12_forceOf 32 = .ok (.iaload, 1) := by decide +kernel
theorem dX12_forceOf_33 : decode cX12_forceOf 33 = .ok (.if_icmp .ge 58, 3) := by decide +kernel
theorem dX12_forceOf_36 : decode cX12_forceOf 36 = .ok (.aload_n 0, 1) := by decide +kernel
theorem dX12_forceOf_37 : decode cX12_forceOf 37 = .ok (.iload 6, 2) := by decide +kernel
theorem dX12_forceOf_39 : decode cX12_forceOf 39 = .ok (.iload 4, 2) := by decide +kernel
theorem dX12_forceOf_41 : decode cX12_forceOf 41 = .ok (.iconst 4, 1) := by decide +kernel
theorem dX12_forceOf_42 : decode cX12_forceOf 42 = .ok (.idiv, 1) := by decide +kernel
theorem dX12_forceOf_43 : decode cX12_forceOf 43 = .ok (.iload 4, 2) := by decide +kernel
theorem dX12_forceOf_45 : decode cX12_forceOf 45 = .ok (.iconst 4, 1) := by decide +kernel
theorem dX12_forceOf_46 : decode cX12_forceOf 46 = .ok (.irem, 1) := by decide +kernel
theorem dX12_forceOf_47 : decode cX12_forceOf 47 = .ok (.iload_n 3, 1) := by decide +kernel
theorem dX12_forceOf_48 : decode cX12_forceOf 48 = .ok (.invokevirtual 252, 3) := by decide +kernel
theorem dX12_forceOf_51 : decode cX12_forceOf 51 = .ok (.ifCond .eq 30, 3) := by decide +kernel
theorem dX12_forceOf_54 : decode cX12_forceOf 54 = .ok (.iload 5, 2) := by decide +kernel
theorem dX12_forceOf_56 : decode cX12_forceOf 56 = .ok (.ifCond .lt 20, 3) := by decide +kernel
theorem dX12_forceOf_59 : decode cX12_forceOf 59 = .ok (.aload_n 0, 1) := by decide +kernel
theorem dX12_forceOf_60 : decode cX12_forceOf 60 = .ok (.getfield 58, 3) := by decide +kernel
theorem dX12_forceOf_63 : decode cX12_forceOf 63 = .ok (.iload 6, 2) := by decide +kernel
theorem dX12_forceOf_65 : decode cX12_forceOf 65 = .ok (.iaload, 1) := by decide +kernel
theorem dX12_forceOf_66 : decode cX12_forceOf 66 = .ok (.aload_n 0, 1) := by decide +kernel
theorem dX12_forceOf_67 : decode cX12_forceOf 67 = .ok (.getfield 58, 3) := by decide +kernel
theorem dX12_forceOf_70 : decode cX12_forceOf 70 = .ok (.iload 5, 2) := by decide +kernel
theorem dX12_forceOf_72 : decode cX12_forceOf 72 = .ok (.iaload, 1) := by decide +kernel
theorem dX12_forceOf_73 : decode cX12_forceOf 73 = .ok (.if_icmp .lt 8, 3) := by decide +kernel
theorem dX12_forceOf_76 : decode cX12_forceOf 76 = .ok (.iload 6, 2) := by decide +kernel
theorem dX12_forceOf_78 : decode cX12_forceOf 78 = .ok (.goto 5, 3) := by decide +kernel
theorem dX12_forceOf_81 : decode cX12_forceOf 81 = .ok (.iload 5, 2) := by decide +kernel
theorem dX12_forceOf_83 : decode cX12_forceOf 83 = .ok (.istore 5, 2) := by decide +kernel
theorem dX12_forceOf_85 : decode cX12_forceOf 85 = .ok (.iinc 6 1, 3) := by decide +kernel
theorem dX12_forceOf_88 : decode cX12_forceOf 88 = .ok (.goto (-63), 3) := by decide +kernel
theorem dX12_forceOf_91 : decode cX12_forceOf 91 = .ok (.aload_n 0, 1) := by decide +kernel
theorem dX12_forceOf_92 : decode cX12_forceOf 92 = .ok (.getfield 81, 3) := by decide +kernel
theorem dX12_forceOf_95 : decode cX12_forceOf 95 = .ok (.iload 4, 2) := by decide +kernel
theorem dX12_forceOf_97 : decode cX12_forceOf 97 = .ok (.iload 5, 2) := by decide +kernel
theorem dX12_forceOf_99 : decode cX12_forceOf 99 = .ok (.iastore, 1) := by decide +kernel
theorem dX12_forceOf_100 : decode cX12_forceOf 100 = .ok (.iinc 4 1, 3) := by decide +kernel
theorem dX12_forceOf_103 : decode cX12_forceOf 103 = .ok (.goto (-100), 3) := by decide +kernel
theorem dX12_forceOf_106 : decode cX12_forceOf 106 = .ok (.aload_n 0, 1) := by decide +kernel
theorem dX12_forceOf_107 : decode cX12_forceOf 107 = .ok (.iload_n 3, 1) := by decide +kernel
theorem dX12_forceOf_108 : decode cX12_forceOf 108 = .ok (.putfield 84, 3) := by decide +kernel
theorem dX12_forceOf_111 : decode cX12_forceOf 111 = .ok (.aload_n 0, 1) := by decide +kernel
theorem dX12_forceOf_112 : decode cX12_forceOf 112 = .ok (.getfield 81, 3) := by decide +kernel
theorem dX12_forceOf_115 : decode cX12_forceOf 115 = .ok (.iconst 4, 1) := by decide +kernel
theorem dX12_forceOf_116 : decode cX12_forceOf 116 = .ok (.iload_n 1, 1) := by decide +kernel
theorem dX12_forceOf_117 : decode cX12_forceOf 117 = .ok (.imul, 1) := by decide +kernel
theorem dX12_forceOf_118 : decode cX12_forceOf 118 = .ok (.aload_n 0, 1) := by decide +kernel
theorem dX12_forceOf_119 : decode cX12_forceOf 119 = .ok (.getfield 19, 3) := by decide +kernel
theorem dX12_forceOf_122 : decode cX12_forceOf 122 = .ok (.iload_n 2, 1) := by decide +kernel
theorem dX12_forceOf_123 : decode cX12_forceOf 123 = .ok (.iaload, 1) := by decide +kernel
theorem dX12_forceOf_124 : decode cX12_forceOf 124 = .ok (.iadd, 1) := by decide +kernel
theorem dX12_forceOf_125 : decode cX12_forceOf 125 = .ok (.iaload, 1) := by decide +kernel
theorem dX12_forceOf_126 : decode cX12_forceOf 126 = .ok (.ireturn, 1) := by decide +kernel
theorem dX12_force_0 : decode cX12_force 0 = .ok (.aload_n 0, 1) := by decide +kernel
theorem dX12_force_1 : decode cX12_force 1 = .ok (.iconst 0, 1) := by decide +kernel
theorem dX12_force_2 : decode cX12_force 2 = .ok (.putfield 128, 3) := by decide +kernel
theorem dX12_force_5 : decode cX12_force 5 = .ok (.iload_n 1, 1) := by decide +kernel
theorem dX12_force_6 : decode cX12_force 6 = .ok (.iconst 0, 1) := by decide +kernel
theorem dX12_force_7 : decode cX12_force 7 = .ok (.iconst 2, 1) := by decide +kernel
theorem dX12_force_8 : decode cX12_force 8 = .ok (.invokestatic 131, 3) := by decide +kernel
theorem dX12_force_11 : decode cX12_force 11 = .ok (.ifCond .eq 28, 3) := by decide +kernel
theorem dX12_force_14 : decode cX12_force 14 = .ok (.aload_n 0, 1) := by decide +kernel
theorem dX12_force_15 : decode cX12_force 15 = .ok (.iload_n 2, 1) := by decide +kernel
theorem dX12_force_16 : decode cX12_force 16 = .ok (.invokevirtual 139, 3) := by decide +kernel
theorem dX12_force_19 : decode cX12_force 19 = .ok (.ifCond .eq 20, 3) := by decide +kernel
theorem dX12_force_22 : decode cX12_force 22 = .ok (.iload_n 3, 1) := by decide +kernel
theorem dX12_force_23 : decode cX12_force 23 = .ok (.invokestatic 164, 3) := by decide +kernel
theorem dX12_force_26 : decode cX12_force 26 = .ok (.ifCond .eq 13, 3) := by decide +kernel
theorem dX12_force_29 : decode cX12_force 29 = .ok (.aload_n 0, 1) := by decide +kernel
theorem dX12_force_30 : decode cX12_force 30 = .ok (.iload_n 1, 1) := by decide +kernel
theorem dX12_force_31 : decode cX12_force 31 = .ok (.iload_n 2, 1) := by decide +kernel
theorem dX12_force_32 : decode cX12_force 32 = .ok (.iload_n 3, 1) := by decide +kernel
theorem dX12_force_33 : decode cX12_force 33 = .ok (.invokevirtual 259, 3) := by decide +kernel
theorem dX12_force_36 : decode cX12_force 36 = .ok (.goto 4, 3) := by decide +kernel
theorem dX12_force_39 : decode cX12_force 39 = .ok (.iconst (-1), 1) := by decide +kernel
theorem dX12_force_40 : decode cX12_force 40 = .ok (.ireturn, 1) := by decide +kernel
theorem dX12_doesHold_0 : decode cX12_doesHold 0 = .ok (.aload_n 0, 1) := by decide +kernel
theorem dX12_doesHold_1 : decode cX12_doesHold 1 = .ok (.iconst 0, 1) := by decide +kernel
theorem dX12_doesHold_2 : decode cX12_doesHold 2 = .ok (.putfield 173, 3) := by decide +kernel
theorem dX12_doesHold_5 : decode cX12_doesHold 5 = .ok (.aload_n 0, 1) := by decide +kernel
theorem dX12_doesHold_6 : decode cX12_doesHold 6 = .ok (.bipush 80, 2) := by decide +kernel
theorem dX12_doesHold_8 : decode cX12_doesHold 8 = .ok (.iload_n 1, 1) := by decide +kernel
theorem dX12_doesHold_9 : decode cX12_doesHold 9 = .ok (.imul, 1) := by decide +kernel
theorem dX12_doesHold_10 : decode cX12_doesHold 10 = .ok (.putfield 177, 3) := by decide +kernel
theorem dX12_doesHold_13 : decode cX12_doesHold 13 = .ok (.aload_n 0, 1) := by decide +kernel
theorem dX12_doesHold_14 : decode cX12_doesHold 14 = .ok (.aload_n 0, 1) := by decide +kernel
theorem dX12_doesHold_15 : decode cX12_doesHold 15 = .ok (.getfield 52, 3) := by decide +kernel
theorem dX12_doesHold_18 : decode cX12_doesHold 18 = .ok (.iload_n 1, 1) := by decide +kernel
theorem dX12_doesHold_19 : decode cX12_doesHold 19 = .ok (.iaload, 1) := by decide +kernel
theorem dX12_doesHold_20 : decode cX12_doesHold 20 = .ok (.putfield 170, 3) := by decide +kernel
theorem dX12_doesHold_23 : decode cX12_doesHold 23 = .ok (.aload_n 0, 1) := by decide +kernel
theorem dX12_doesHold_24 : decode cX12_doesHold 24 = .ok (.iload_n 2, 1) := by decide +kernel
theorem dX12_doesHold_25 : decode cX12_doesHold 25 = .ok (.putfield 183, 3) := by decide +kernel
theorem dX12_doesHold_28 : decode cX12_doesHold 28 = .ok (.aload_n 0, 1) := by decide +kernel
theorem dX12_doesHold_29 : decode cX12_doesHold 29 = .ok (.aload_n 0, 1) := by decide +kernel
theorem dX12_doesHold_30 : decode cX12_doesHold 30 = .ok (.getfield 49, 3) := by decide +kernel
theorem dX12_doesHold_33 : decode cX12_doesHold 33 = .ok (.bipush 80, 2) := by decide +kernel
theorem dX12_doesHold_35 : decode cX12_doesHold 35 = .ok (.iload_n 1, 1) := by decide +kernel
theorem dX12_doesHold_36 : decode cX12_doesHold 36 = .ok (.imul, 1) := by decide +kernel
theorem dX12_doesHold_37 : decode cX12_doesHold 37 = .ok (.iaload, 1) := by decide +kernel
theorem dX12_doesHold_38 : decode cX12_doesHold 38 = .ok (.bipush 101, 2) := by decide +kernel
theorem dX12_doesHold_40 : decode cX12_doesHold 40 = .ok (.if_icmp .ne 7, 3) := by decide +kernel
theorem dX12_doesHold_43 : decode cX12_doesHold 43 = .ok (.iload_n 3, 1) := by decide +kernel
theorem dX12_doesHold_44 : decode cX12_doesHold 44 = .ok (.goto 4, 3) := by decide +kernel
theorem dX12_doesHold_47 : decode cX12_doesHold 47 = .ok (.iconst 0, 1) := by decide +kernel
theorem dX12_doesHold_48 : decode cX12_doesHold 48 = .ok (.putfield 180, 3) := by decide +kernel
theorem dX12_doesHold_51 : decode cX12_doesHold 51 = .ok (.aload_n 0, 1) := by decide +kernel
theorem dX12_doesHold_52 : decode cX12_doesHold 52 = .ok (.iload 4, 2) := by decide +kernel
theorem dX12_doesHold_54 : decode cX12_doesHold 54 = .ok (.putfield 186, 3) := by decide +kernel
theorem dX12_doesHold_57 : decode cX12_doesHold 57 = .ok (.aload_n 0, 1) := by decide +kernel
theorem dX12_doesHold_58 : decode cX12_doesHold 58 = .ok (.invokevirtual 242, 3) := by decide +kernel
theorem dX12_doesHold_61 : decode cX12_doesHold 61 = .ok (.ireturn, 1) := by decide +kernel
theorem dX12_holdsFor_0 : decode cX12_holdsFor 0 = .ok (.aload_n 0, 1) := by decide +kernel
theorem dX12_holdsFor_1 : decode cX12_holdsFor 1 = .ok (.iload_n 1, 1) := by decide +kernel
theorem dX12_holdsFor_2 : decode cX12_holdsFor 2 = .ok (.iload_n 2, 1) := by decide +kernel
theorem dX12_holdsFor_3 : decode cX12_holdsFor 3 = .ok (.iload 4, 2) := by decide +kernel
theorem dX12_holdsFor_5 : decode cX12_holdsFor 5 = .ok (.invokevirtual 259, 3) := by decide +kernel
theorem dX12_holdsFor_8 : decode cX12_holdsFor 8 = .ok (.istore 5, 2) := by decide +kernel
theorem dX12_holdsFor_10 : decode cX12_holdsFor 10 = .ok (.iload 5, 2) := by decide +kernel
theorem dX12_holdsFor_12 : decode cX12_holdsFor 12 = .ok (.ifCond .ge 15, 3) := by decide +kernel
theorem dX12_holdsFor_15 : decode cX12_holdsFor 15 = .ok (.iload_n 1, 1) := by decide +kernel
theorem dX12_holdsFor_16 : decode cX12_holdsFor 16 = .ok (.ifCond .ne 7, 3) := by decide +kernel
theorem dX12_holdsFor_19 : decode cX12_holdsFor 19 = .ok (.iconst 1, 1) := by decide +kernel
theorem dX12_holdsFor_20 : decode cX12_holdsFor 20 = .ok (.goto 17, 3) := by decide +kernel
theorem dX12_holdsFor_23 : decode cX12_holdsFor 23 = .ok (.iconst 0, 1) := by decide +kernel
theorem dX12_holdsFor_24 : decode cX12_holdsFor 24 = .ok (.goto 13, 3) := by decide +kernel
theorem dX12_holdsFor_27 : decode cX12_holdsFor 27 = .ok (.aload_n 0, 1) := by decide +kernel
theorem dX12_holdsFor_28 : decode cX12_holdsFor 28 = .ok (.iload 5, 2) := by decide +kernel
theorem dX12_holdsFor_30 : decode cX12_holdsFor 30 = .ok (.iload_n 2, 1) := by decide +kernel
theorem dX12_holdsFor_31 : decode cX12_holdsFor 31 = .ok (.iload_n 3, 1) := by decide +kernel
theorem dX12_holdsFor_32 : decode cX12_holdsFor 32 = .ok (.iload 4, 2) := by decide +kernel
theorem dX12_holdsFor_34 : decode cX12_holdsFor 34 = .ok (.invokevirtual 263, 3) := by decide +kernel
theorem dX12_holdsFor_37 : decode cX12_holdsFor 37 = .ok (.ireturn, 1) := by decide +kernel
theorem dX12_holds_0 : decode cX12_holds 0 = .ok (.aload_n 0, 1) := by decide +kernel
theorem dX12_holds_1 : decode cX12_holds 1 = .ok (.iconst 0, 1) := by decide +kernel
theorem dX12_holds_2 : decode cX12_holds 2 = .ok (.putfield 128, 3) := by decide +kernel
theorem dX12_holds_5 : decode cX12_holds 5 = .ok (.iload_n 1, 1) := by decide +kernel
theorem dX12_holds_6 : decode cX12_holds 6 = .ok (.iconst 0, 1) := by decide +kernel
theorem dX12_holds_7 : decode cX12_holds 7 = .ok (.iconst 2, 1) := by decide +kernel
theorem dX12_holds_8 : decode cX12_holds 8 = .ok (.invokestatic 131, 3) := by decide +kernel
theorem dX12_holds_11 : decode cX12_holds 11 = .ok (.ifCond .eq 26, 3) := by decide +kernel
theorem dX12_holds_14 : decode cX12_holds 14 = .ok (.aload_n 0, 1) := by decide +kernel
theorem dX12_holds_15 : decode cX12_holds 15 = .ok (.iload_n 2, 1) := by decide +kernel
theorem dX12_holds_16 : decode cX12_holds 16 = .ok (.invokevirtual 139, 3) := by decide +kernel
theorem dX12_holds_19 : decode cX12_holds 19 = .ok (.ifCond .eq 18, 3) := by decide +kernel
theorem dX12_holds_22 : decode cX12_holds 22 = .ok (.iload_n 3, 1) := by decide +kernel
theorem dX12_holds_23 : decode cX12_holds 23 = .ok (.invokestatic 149, 3) := by decide +kernel
theorem dX12_holds_26 : decode cX12_holds 26 = .ok (.ifCond .eq 11, 3) := by decide +kernel
theorem dX12_holds_29 : decode cX12_holds 29 = .ok (.iload 4, 2) := by decide +kernel
theorem dX12_holds_31 : decode cX12_holds 31 = .ok (.invokestatic 164, 3) := by decide +kernel
theorem dX12_holds_34 : decode cX12_holds 34 = .ok (.ifCond .ne 5, 3) := by decide +kernel
theorem dX12_holds_37 : decode cX12_holds 37 = .ok (.iconst (-1), 1) := by decide +kernel
theorem dX12_holds_38 : decode cX12_holds 38 = .ok (.ireturn, 1) := by decide +kernel
theorem dX12_holds_39 : decode cX12_holds 39 = .ok (.aload_n 0, 1) := by decide +kernel
theorem dX12_holds_40 : decode cX12_holds 40 = .ok (.iload_n 1, 1) := by decide +kernel
theorem dX12_holds_41 : decode cX12_holds 41 = .ok (.iload_n 2, 1) := by decide +kernel
theorem dX12_holds_42 : decode cX12_holds 42 = .ok (.iload_n 3, 1) := by decide +kernel
theorem dX12_holds_43 : decode cX12_holds 43 = .ok (.iload 4, 2) := by decide +kernel
theorem dX12_holds_45 : decode cX12_holds 45 = .ok (.invokevirtual 266, 3) := by decide +kernel
theorem dX12_holds_48 : decode cX12_holds 48 = .ok (.ifCond .eq 7, 3) := by decide +kernel
theorem dX12_holds_51 : decode cX12_holds 51 = .ok (.iconst 1, 1) := by decide +kernel
theorem dX12_holds_52 : decode cX12_holds 52 = .ok (.goto 4, 3) := by decide +kernel
theorem dX12_holds_55 : decode cX12_holds 55 = .ok (.iconst 0, 1) := by decide +kernel
theorem dX12_holds_56 : decode cX12_holds 56 = .ok (.ireturn, 1) := by decide +kernel
theorem dX12_quarrel_0 : decode cX12_quarrel 0 = .ok (.aload_n 0, 1) := by decide +kernel
theorem dX12_quarrel_1 : decode cX12_quarrel 1 = .ok (.iconst 0, 1) := by decide +kernel
theorem dX12_quarrel_2 : decode cX12_quarrel 2 = .ok (.putfield 128, 3) := by decide +kernel
theorem dX12_quarrel_5 : decode cX12_quarrel 5 = .ok (.iload_n 1, 1) := by decide +kernel
theorem dX12_quarrel_6 : decode cX12_quarrel 6 = .ok (.iconst 0, 1) := by decide +kernel
theorem dX12_quarrel_7 : decode cX12_quarrel 7 = .ok (.iconst 2, 1) := by decide +kernel
theorem dX12_quarrel_8 : decode cX12_quarrel 8 = .ok (.invokestatic 131, 3) := by decide +kernel
theorem dX12_quarrel_11 : decode cX12_quarrel 11 = .ok (.ifCond .eq 26, 3) := by decide +kernel
theorem dX12_quarrel_14 : decode cX12_quarrel 14 = .ok (.aload_n 0, 1) := by decide +kernel
theorem dX12_quarrel_15 : decode cX12_quarrel 15 = .ok (.iload_n 2, 1) := by decide +kernel
theorem dX12_quarrel_16 : decode cX12_quarrel 16 = .ok (.invokevirtual 139, 3) := by decide +kernel
theorem dX12_quarrel_19 : decode cX12_quarrel 19 = .ok (.ifCond .eq 18, 3) := by decide +kernel
theorem dX12_quarrel_22 : decode cX12_quarrel 22 = .ok (.iload_n 3, 1) := by decide +kernel
theorem dX12_quarrel_23 : decode cX12_quarrel 23 = .ok (.invokestatic 149, 3) := by decide +kernel
theorem dX12_quarrel_26 : decode cX12_quarrel 26 = .ok (.ifCond .eq 11, 3) := by decide +kernel
theorem dX12_quarrel_29 : decode cX12_quarrel 29 = .ok (.iload 4, 2) := by decide +kernel
theorem dX12_quarrel_31 : decode cX12_quarrel 31 = .ok (.invokestatic 164, 3) := by decide +kernel
theorem dX12_quarrel_34 : decode cX12_quarrel 34 = .ok (.ifCond .ne 5, 3) := by decide +kernel
theorem dX12_quarrel_37 : decode cX12_quarrel 37 = .ok (.iconst (-1), 1) := by decide +kernel
theorem dX12_quarrel_38 : decode cX12_quarrel 38 = .ok (.ireturn, 1) := by decide +kernel
theorem dX12_quarrel_39 : decode cX12_quarrel 39 = .ok (.bipush (-4), 2) := by decide +kernel
theorem dX12_quarrel_41 : decode cX12_quarrel 41 = .ok (.istore 5, 2) := by decide +kernel
theorem dX12_quarrel_43 : decode cX12_quarrel 43 = .ok (.bipush (-4), 2) := by decide +kernel
theorem dX12_quarrel_45 : decode cX12_quarrel 45 = .ok (.istore 6, 2) := by decide +kernel
theorem dX12_quarrel_47 : decode cX12_quarrel 47 = .ok (.aload_n 0, 1) := by decide +kernel
theorem dX12_quarrel_48 : decode cX12_quarrel 48 = .ok (.getfield 7, 3) := by decide +kernel
theorem dX12_quarrel_51 : decode cX12_quarrel 51 = .ok (.iconst 2, 1) := by decide +kernel
theorem dX12_quarrel_52 : decode cX12_quarrel 52 = .ok (.iaload, 1) := by decide +kernel
theorem dX12_quarrel_53 : decode cX12_quarrel 53 = .ok (.iconst 1, 1) := by decide +kernel
theorem dX12_quarrel_54 : decode cX12_quarrel 54 = .ok (.isub, 1) := by decide +kernel
theorem dX12_quarrel_55 : decode cX12_quarrel 55 = .ok (.istore 7, 2) := by decide +kernel
theorem dX12_quarrel_57 : decode cX12_quarrel 57 = .ok (.iload 7, 2) := by decide +kernel
theorem dX12_quarrel_59 : decode cX12_quarrel 59 = .ok (.ifCond .lt 62, 3) := by decide +kernel
theorem dX12_quarrel_62 : decode cX12_quarrel 62 = .ok (.aload_n 0, 1) := by decide +kernel
theorem dX12_quarrel_63 : decode cX12_quarrel 63 = .ok (.iload 7, 2) := by decide +kernel
theorem dX12_quarrel_65 : decode cX12_quarrel 65 = .ok (.iload_n 1, 1) := by decide +kernel
theorem dX12_quarrel_66 : decode cX12_quarrel 66 = .ok (.iload_n 2, 1) := by decide +kernel
theorem dX12_quarrel_67 : decode cX12_quarrel 67 = .ok (.iload 4, 2) := by decide +kernel
theorem dX12_quarrel_69 : decode cX12_quarrel 69 = .ok (.invokevirtual 269, 3) := by decide +kernel
theorem dX12_quarrel_72 : decode cX12_quarrel 72 = .ok (.ifCond .eq 43, 3) := by decide +kernel
theorem dX12_quarrel_75 : decode cX12_quarrel 75 = .ok (.aload_n 0, 1) := by decide +kernel
theorem dX12_quarrel_76 : decode cX12_quarrel 76 = .ok (.iload 7, 2) := by decide +kernel
theorem dX12_quarrel_78 : decode cX12_quarrel 78 = .ok (.iload_n 2, 1) := by decide +kernel
theorem dX12_quarrel_79 : decode cX12_quarrel 79 = .ok (.iload_n 3, 1) := by decide +kernel
theorem dX12_quarrel_80 : decode cX12_quarrel 80 = .ok (.iload 4, 2) := by decide +kernel
theorem dX12_quarrel_82 : decode cX12_quarrel 82 = .ok (.invokevirtual 263, 3) := by decide +kernel
theorem dX12_quarrel_85 : decode cX12_quarrel 85 = .ok (.istore 8, 2) := by decide +kernel
theorem dX12_quarrel_87 : decode cX12_quarrel 87 = .ok (.iload 8, 2) := by decide +kernel
theorem dX12_quarrel_89 : decode cX12_quarrel 89 = .ok (.ifCond .eq 8, 3) := by decide +kernel
theorem dX12_quarrel_92 : decode cX12_quarrel 92 = .ok (.iload 7, 2) := by decide +kernel
theorem dX12_quarrel_94 : decode cX12_quarrel 94 = .ok (.goto 5, 3) := by decide +kernel
theorem dX12_quarrel_97 : decode cX12_quarrel 97 = .ok (.iload 5, 2) := by decide +kernel
theorem dX12_quarrel_99 : decode cX12_quarrel 99 = .ok (.istore 5, 2) := by decide +kernel
theorem dX12_quarrel_101 : decode cX12_quarrel 101 = .ok (.iload 8, 2) := by decide +kernel
theorem dX12_quarrel_103 : decode cX12_quarrel 103 = .ok (.ifCond .eq 8, 3) := by decide +kernel
theorem dX12_quarrel_106 : decode cX12_quarrel 106 = .ok (.iload 6, 2) := by decide +kernel
theorem dX12_quarrel_108 : decode cX12_quarrel 108 = .ok (.goto 5, 3) := by decide +kernel
theorem dX12_quarrel_111 : decode cX12_quarrel 111 = .ok (.iload 7, 2) := by decide +kernel
theorem dX12_quarrel_113 : decode cX12_quarrel 113 = .ok (.istore 6, 2) := by decide +kernel
theorem dX12_quarrel_115 : decode cX12_quarrel 115 = .ok (.iinc 7 (-1), 3) := by decide +kernel
theorem dX12_quarrel_118 : decode cX12_quarrel 118 = .ok (.goto (-61), 3) := by decide +kernel
theorem dX12_quarrel_121 : decode cX12_quarrel 121 = .ok (.iload 5, 2) := by decide +kernel
theorem dX12_quarrel_123 : decode cX12_quarrel 123 = .ok (.ifCond .lt 8, 3) := by decide +kernel
theorem dX12_quarrel_126 : decode cX12_quarrel 126 = .ok (.iload 6, 2) := by decide +kernel
theorem dX12_quarrel_128 : decode cX12_quarrel 128 = .ok (.ifCond .ge 8, 3) := by decide +kernel
theorem dX12_quarrel_131 : decode cX12_quarrel 131 = .ok (.bipush (-4), 2) := by decide +kernel
theorem dX12_quarrel_133 : decode cX12_quarrel 133 = .ok (.goto 11, 3) := by decide +kernel
theorem dX12_quarrel_136 : decode cX12_quarrel 136 = .ok (.bipush 100, 2) := by decide +kernel
theorem dX12_quarrel_138 : decode cX12_quarrel 138 = .ok (.iload 5, 2) := by decide +kernel
theorem dX12_quarrel_140 : decode cX12_quarrel 140 = .ok (.imul, 1) := by decide +kernel
theorem dX12_quarrel_141 : decode cX12_quarrel 141 = .ok (.iload 6, 2) := by decide +kernel
theorem dX12_quarrel_143 : decode cX12_quarrel 143 = .ok (.iadd, 1) := by decide +kernel
theorem dX12_quarrel_144 : decode cX12_quarrel 144 = .ok (.ireturn, 1) := by decide +kernel
theorem dX12_hundreds_0 : decode cX12_hundreds 0 = .ok (.iload_n 0, 1) := by decide +kernel
theorem dX12_hundreds_1 : decode cX12_hundreds 1 = .ok (.iload_n 1, 1) := by decide +kernel
theorem dX12_hundreds_2 : decode cX12_hundreds 2 = .ok (.imul, 1) := by decide +kernel
theorem dX12_hundreds_3 : decode cX12_hundreds 3 = .ok (.bipush 100, 2) := by decide +kernel
theorem dX12_hundreds_5 : decode cX12_hundreds 5 = .ok (.idiv, 1) := by decide +kernel
theorem dX12_hundreds_6 : decode cX12_hundreds 6 = .ok (.ireturn, 1) := by decide +kernel
theorem dX12_paid_0 : decode cX12_paid 0 = .ok (.iload_n 1, 1) := by decide +kernel
theorem dX12_paid_1 : decode cX12_paid 1 = .ok (.iload_n 2, 1) := by decide +kernel
theorem dX12_paid_2 : decode cX12_paid 2 = .ok (.invokestatic 272, 3) := by decide +kernel
theorem dX12_paid_5 : decode cX12_paid 5 = .ok (.iload_n 1, 1) := by decide +kernel
theorem dX12_paid_6 : decode cX12_paid 6 = .ok (.ifCond .le 7, 3) := by decide +kernel
theorem dX12_paid_9 : decode cX12_paid 9 = .ok (.iconst 1, 1) := by decide +kernel
theorem dX12_paid_10 : decode cX12_paid 10 = .ok (.goto 4, 3) := by decide +kernel
theorem dX12_paid_13 : decode cX12_paid 13 = .ok (.iconst 0, 1) := by decide +kernel
theorem dX12_paid_14 : decode cX12_paid 14 = .ok (.iadd, 1) := by decide +kernel
theorem dX12_paid_15 : decode cX12_paid 15 = .ok (.istore_n 3, 1) := by decide +kernel
theorem dX12_paid_16 : decode cX12_paid 16 = .ok (.iload_n 0, 1) := by decide +kernel
theorem dX12_paid_17 : decode cX12_paid 17 = .ok (.tableswitch 59 0 5 #[39, 45, 47, 45, 55, 55], 39) := by decide +kernel
theorem dX12_paid_56 : decode cX12_paid 56 = .ok (.iload_n 1, 1) := by decide +kernel
theorem dX12_paid_57 : decode cX12_paid 57 = .ok (.iload_n 2, 1) := by decide +kernel
theorem dX12_paid_58 : decode cX12_paid 58 = .ok (.invokestatic 272, 3) := by decide +kernel
theorem dX12_paid_61 : decode cX12_paid 61 = .ok (.ireturn, 1) := by decide +kernel
theorem dX12_paid_62 : decode cX12_paid 62 = .ok (.iload_n 3, 1) := by decide +kernel
theorem dX12_paid_63 : decode cX12_paid 63 = .ok (.ireturn, 1) := by decide +kernel
theorem dX12_paid_64 : decode cX12_paid 64 = .ok (.iload_n 1, 1) := by decide +kernel
theorem dX12_paid_65 : decode cX12_paid 65 = .ok (.iload_n 2, 1) := by decide +kernel
theorem dX12_paid_66 : decode cX12_paid 66 = .ok (.invokestatic 272, 3) := by decide +kernel
theorem dX12_paid_69 : decode cX12_paid 69 = .ok (.iconst 2, 1) := by decide +kernel
theorem dX12_paid_70 : decode cX12_paid 70 = .ok (.idiv, 1) := by decide +kernel
theorem dX12_paid_71 : decode cX12_paid 71 = .ok (.ireturn, 1) := by decide +kernel
theorem dX12_paid_72 : decode cX12_paid 72 = .ok (.iload_n 3, 1) := by decide +kernel
theorem dX12_paid_73 : decode cX12_paid 73 = .ok (.iconst 2, 1) := by decide +kernel
theorem dX12_paid_74 : decode cX12_paid 74 = .ok (.idiv, 1) := by decide +kernel
theorem dX12_paid_75 : decode cX12_paid 75 = .ok (.ireturn, 1) := by decide +kernel
theorem dX12_paid_76 : decode cX12_paid 76 = .ok (.iload_n 3, 1) := by decide +kernel
theorem dX12_paid_77 : decode cX12_paid 77 = .ok (.ifCond .le 9, 3) := by decide +kernel
theorem dX12_paid_80 : decode cX12_paid 80 = .ok (.iload_n 3, 1) := by decide +kernel
theorem dX12_paid_81 : decode cX12_paid 81 = .ok (.iconst 1, 1) := by decide +kernel
theorem dX12_paid_82 : decode cX12_paid 82 = .ok (.isub, 1) := by decide +kernel
theorem dX12_paid_83 : decode cX12_paid 83 = .ok (.goto 4, 3) := by decide +kernel
theorem dX12_paid_86 : decode cX12_paid 86 = .ok (.iconst 0, 1) := by decide +kernel
theorem dX12_paid_87 : decode cX12_paid 87 = .ok (.ireturn, 1) := by decide +kernel
theorem dX12_orderOf_0 : decode cX12_orderOf 0 = .ok (.iconst 0, 1) := by decide +kernel
theorem dX12_orderOf_1 : decode cX12_orderOf 1 = .ok (.istore_n 3, 1) := by decide +kernel
theorem dX12_orderOf_2 : decode cX12_orderOf 2 = .ok (.iconst 0, 1) := by decide +kernel
theorem dX12_orderOf_3 : decode cX12_orderOf 3 = .ok (.istore 4, 2) := by decide +kernel
theorem dX12_orderOf_5 : decode cX12_orderOf 5 = .ok (.iload 4, 2) := by decide +kernel
theorem dX12_orderOf_7 : decode cX12_orderOf 7 = .ok (.iconst 3, 1) := by decide +kernel
theorem dX12_orderOf_8 : decode cX12_orderOf 8 = .ok (.if_icmp .ge 69, 3) := by decide +kernel
theorem dX12_orderOf_11 : decode cX12_orderOf 11 = .ok (.iload_n 2, 1) := by decide +kernel
theorem dX12_orderOf_12 : decode cX12_orderOf 12 = .ok (.bipush 7, 2) := by decide +kernel
theorem dX12_orderOf_14 : decode cX12_orderOf 14 = .ok (.irem, 1) := by decide +kernel
theorem dX12_orderOf_15 : decode cX12_orderOf 15 = .ok (.iconst 5, 1) := by decide +kernel
theorem dX12_orderOf_16 : decode cX12_orderOf 16 = .ok (.if_icmp .ge 61, 3) := by decide +kernel
theorem dX12_orderOf_19 : decode cX12_orderOf 19 = .ok (.iload 4, 2) := by decide +kernel
theorem dX12_orderOf_21 : decode cX12_orderOf 21 = .ok (.aload_n 0, 1) := by decide +kernel
theorem dX12_orderOf_22 : decode cX12_orderOf 22 = .ok (.getfield 70, 3) := by decide +kernel
theorem dX12_orderOf_25 : decode cX12_orderOf 25 = .ok (.if_icmp .ne 7, 3) := by decide +kernel
theorem dX12_orderOf_28 : decode cX12_orderOf 28 = .ok (.iconst 0, 1) := by decide +kernel
theorem dX12_orderOf_29 : decode cX12_orderOf 29 = .ok (.goto 14, 3) := by decide +kernel
theorem dX12_orderOf_32 : decode cX12_orderOf 32 = .ok (.aload_n 0, 1) := by decide +kernel
theorem dX12_orderOf_33 : decode cX12_orderOf 33 = .ok (.iload_n 1, 1) := by decide +kernel
theorem dX12_orderOf_34 : decode cX12_orderOf 34 = .ok (.iload 4, 2) := by decide +kernel
theorem dX12_orderOf_36 : decode cX12_orderOf 36 = .ok (.iload_n 2, 1) := by decide +kernel
theorem dX12_orderOf_37 : decode cX12_orderOf 37 = .ok (.sipush 400, 3) := by decide +kernel
theorem dX12_orderOf_40 : decode cX12_orderOf 40 = .ok (.invokevirtual 160, 3) := by decide +kernel
theorem dX12_orderOf_43 : decode cX12_orderOf 43 = .ok (.istore 5, 2) := by decide +kernel
theorem dX12_orderOf_45 : decode cX12_orderOf 45 = .ok (.iload_n 3, 1) := by decide +kernel
theorem dX12_orderOf_46 : decode cX12_orderOf 46 = .ok (.iload 5, 2) := by decide +kernel
theorem dX12_orderOf_48 : decode cX12_orderOf 48 = .ok (.ifCond .le 20, 3) := by decide +kernel
theorem dX12_orderOf_51 : decode cX12_orderOf 51 = .ok (.aload_n 0, 1) := by decide +kernel
theorem dX12_orderOf_52 : decode cX12_orderOf 52 = .ok (.iconst 0, 1) := by decide +kernel
theorem dX12_orderOf_53 : decode cX12_orderOf 53 = .ok (.iload_n 1, 1) := by decide +kernel
theorem dX12_orderOf_54 : decode cX12_orderOf 54 = .ok (.iload 4, 2) := by decide +kernel
theorem dX12_orderOf_56 : decode cX12_orderOf 56 = .ok (.iload_n 2, 1) := by decide +kernel
theorem dX12_orderOf_57 : decode cX12_orderOf 57 = .ok (.invokevirtual 266, 3) := by decide +kernel
theorem dX12_orderOf_60 : decode cX12_orderOf 60 = .ok (.ifCond .eq 8, 3) := by decide +kernel
theorem dX12_orderOf_63 : decode cX12_orderOf 63 = .ok (.iload 5, 2) := by decide +kernel
theorem dX12_orderOf_65 : decode cX12_orderOf 65 = .ok (.goto 4, 3) := by decide +kernel
theorem dX12_orderOf_68 : decode cX12_orderOf 68 = .ok (.iconst 0, 1) := by decide +kernel
theorem dX12_orderOf_69 : decode cX12_orderOf 69 = .ok (.iadd, 1) := by decide +kernel
theorem dX12_orderOf_70 : decode cX12_orderOf 70 = .ok (.istore_n 3, 1) := by decide +kernel
theorem dX12_orderOf_71 : decode cX12_orderOf 71 = .ok (.iinc 4 1, 3) := by decide +kernel
theorem dX12_orderOf_74 : decode cX12_orderOf 74 = .ok (.goto (-69), 3) := by decide +kernel
theorem dX12_orderOf_77 : decode cX12_orderOf 77 = .ok (.iload_n 3, 1) := by decide +kernel
theorem dX12_orderOf_78 : decode cX12_orderOf 78 = .ok (.ireturn, 1) := by decide +kernel
theorem dX12_add_0 : decode cX12_add 0 = .ok (.aload_n 0, 1) := by decide +kernel
theorem dX12_add_1 : decode cX12_add 1 = .ok (.getfield 7, 3) := by decide +kernel
theorem dX12_add_4 : decode cX12_add 4 = .ok (.sipush 180, 3) := by decide +kernel
theorem dX12_add_7 : decode cX12_add 7 = .ok (.bipush 11, 2) := by decide +kernel
theorem dX12_add_9 : decode cX12_add 9 = .ok (.iload_n 1, 1) := by decide +kernel
theorem dX12_add_10 : decode cX12_add 10 = .ok (.imul, 1) := by decide +kernel
theorem dX12_add_11 : decode cX12_add 11 = .ok (.iadd, 1) := by decide +kernel
theorem dX12_add_12 : decode cX12_add 12 = .ok (.iload_n 2, 1) := by decide +kernel
theorem dX12_add_13 : decode cX12_add 13 = .ok (.iadd, 1) := by decide +kernel
theorem dX12_add_14 : decode cX12_add 14 = .ok (.dup2, 1) := by decide +kernel
theorem dX12_add_15 : decode cX12_add 15 = .ok (.iaload, 1) := by decide +kernel
theorem dX12_add_16 : decode cX12_add 16 = .ok (.iload_n 3, 1) := by decide +kernel
theorem dX12_add_17 : decode cX12_add 17 = .ok (.iadd, 1) := by decide +kernel
theorem dX12_add_18 : decode cX12_add 18 = .ok (.iastore, 1) := by decide +kernel
theorem dX12_add_19 : decode cX12_add 19 = .ok (.return_, 1) := by decide +kernel
theorem dX12_serve_0 : decode cX12_serve 0 = .ok (.aload_n 0, 1) := by decide +kernel
theorem dX12_serve_1 : decode cX12_serve 1 = .ok (.aload_n 0, 1) := by decide +kernel
theorem dX12_serve_2 : decode cX12_serve 2 = .ok (.getfield 19, 3) := by decide +kernel
theorem dX12_serve_5 : decode cX12_serve 5 = .ok (.iload_n 1, 1) := by decide +kernel
theorem dX12_serve_6 : decode cX12_serve 6 = .ok (.iaload, 1) := by decide +kernel
theorem dX12_serve_7 : decode cX12_serve 7 = .ok (.invokevirtual 145, 3) := by decide +kernel
theorem dX12_serve_10 : decode cX12_serve 10 = .ok (.istore_n 3, 1) := by decide +kernel
theorem dX12_serve_11 : decode cX12_serve 11 = .ok (.iload_n 3, 1) := by decide +kernel
theorem dX12_serve_12 : decode cX12_serve 12 = .ok (.ifCond .ge 7, 3) := by decide +kernel
theorem dX12_serve_15 : decode cX12_serve 15 = .ok (.iconst 0, 1) := by decide +kernel
theorem dX12_serve_16 : decode cX12_serve 16 = .ok (.goto 21, 3) := by decide +kernel
theorem dX12_serve_19 : decode cX12_serve 19 = .ok (.aload_n 0, 1) := by decide +kernel
theorem dX12_serve_20 : decode cX12_serve 20 = .ok (.getfield 7, 3) := by decide +kernel
theorem dX12_serve_23 : decode cX12_serve 23 = .ok (.bipush 80, 2) := by decide +kernel
theorem dX12_serve_25 : decode cX12_serve 25 = .ok (.iconst 4, 1) := by decide +kernel
theorem dX12_serve_26 : decode cX12_serve 26 = .ok (.iload_n 3, 1) := by decide +kernel
theorem dX12_serve_27 : decode cX12_serve 27 = .ok (.imul, 1) := by decide +kernel
theorem dX12_serve_28 : decode cX12_serve 28 = .ok (.iadd, 1) := by decide +kernel
theorem dX12_serve_29 : decode cX12_serve 29 = .ok (.aload_n 0, 1) := by decide +kernel
theorem dX12_serve_30 : decode cX12_serve 30 = .ok (.getfield 19, 3) := by decide +kernel
theorem dX12_serve_33 : decode cX12_serve 33 = .ok (.iload_n 1, 1) := by decide +kernel
theorem dX12_serve_34 : decode cX12_serve 34 = .ok (.iaload, 1) := by decide +kernel
theorem dX12_serve_35 : decode cX12_serve 35 = .ok (.iadd, 1) := by decide +kernel
theorem dX12_serve_36 : decode cX12_serve 36 = .ok (.iaload, 1) := by decide +kernel
theorem dX12_serve_37 : decode cX12_serve 37 = .ok (.istore 4, 2) := by decide +kernel
theorem dX12_serve_39 : decode cX12_serve 39 = .ok (.aload_n 0, 1) := by decide +kernel
theorem dX12_serve_40 : decode cX12_serve 40 = .ok (.iload_n 1, 1) := by decide +kernel
theorem dX12_serve_41 : decode cX12_serve 41 = .ok (.iload_n 2, 1) := by decide +kernel
theorem dX12_serve_42 : decode cX12_serve 42 = .ok (.invokevirtual 275, 3) := by decide +kernel
theorem dX12_serve_45 : decode cX12_serve 45 = .ok (.istore 5, 2) := by decide +kernel
theorem dX12_serve_47 : decode cX12_serve 47 = .ok (.iload_n 3, 1) := by decide +kernel
theorem dX12_serve_48 : decode cX12_serve 48 = .ok (.ifCond .ge 7, 3) := by decide +kernel
theorem dX12_serve_51 : decode cX12_serve 51 = .ok (.iconst 0, 1) := by decide +kernel
theorem dX12_serve_52 : decode cX12_serve 52 = .ok (.goto 5, 3) := by decide +kernel
theorem dX12_serve_55 : decode cX12_serve 55 = .ok (.iload 5, 2) := by decide +kernel
theorem dX12_serve_57 : decode cX12_serve 57 = .ok (.istore 6, 2) := by decide +kernel
theorem dX12_serve_59 : decode cX12_serve 59 = .ok (.iload_n 3, 1) := by decide +kernel
theorem dX12_serve_60 : decode cX12_serve 60 = .ok (.ifCond .lt 113, 3) := by decide +kernel
theorem dX12_serve_63 : decode cX12_serve 63 = .ok (.aload_n 0, 1) := by decide +kernel
theorem dX12_serve_64 : decode cX12_serve 64 = .ok (.getfield 87, 3) := by decide +kernel
theorem dX12_serve_67 : decode cX12_serve 67 = .ok (.iload_n 3, 1) := by decide +kernel
theorem dX12_serve_68 : decode cX12_serve 68 = .ok (.iaload, 1) := by decide +kernel
theorem dX12_serve_69 : decode cX12_serve 69 = .ok (.iload 6, 2) := by decide +kernel
theorem dX12_serve_71 : decode cX12_serve 71 = .ok (.if_icmp .ge 12, 3) := by decide +kernel
theorem dX12_serve_74 : decode cX12_serve 74 = .ok (.aload_n 0, 1) := by decide +kernel
theorem dX12_serve_75 : decode cX12_serve 75 = .ok (.getfield 87, 3) := by decide +kernel
theorem dX12_serve_78 : decode cX12_serve 78 = .ok (.iload_n 3, 1) := by decide +kernel
theorem dX12_serve_79 : decode cX12_serve 79 = .ok (.iaload, 1) := by decide +kernel
theorem dX12_serve_80 : decode cX12_serve 80 = .ok (.goto 5, 3) := by decide +kernel
theorem dX12_serve_83 : decode cX12_serve 83 = .ok (.iload 6, 2) := by decide +kernel
theorem dX12_serve_85 : decode cX12_serve 85 = .ok (.istore 6, 2) := by decide +kernel
theorem dX12_serve_87 : decode cX12_serve 87 = .ok (.aload_n 0, 1) := by decide +kernel
theorem dX12_serve_88 : decode cX12_serve 88 = .ok (.getfield 7, 3) := by decide +kernel
theorem dX12_serve_91 : decode cX12_serve 91 = .ok (.bipush 70, 2) := by decide +kernel
theorem dX12_serve_93 : decode cX12_serve 93 = .ok (.iload_n 3, 1) := by decide +kernel
theorem dX12_serve_94 : decode cX12_serve 94 = .ok (.iadd, 1) := by decide +kernel
theorem dX12_serve_95 : decode cX12_serve 95 = .ok (.iaload, 1) := by decide +kernel
theorem dX12_serve_96 : decode cX12_serve 96 = .ok (.iload 6, 2) := by decide +kernel
theorem dX12_serve_98 : decode cX12_serve 98 = .ok (.if_icmp .ge 15, 3) := by decide +kernel
theorem dX12_serve_101 : decode cX12_serve 101 = .ok (.aload_n 0, 1) := by decide +kernel
theorem dX12_serve_102 : decode cX12_serve 102 = .ok (.getfield 7, 3) := by decide +kernel
theorem dX12_serve_105 : decode cX12_serve 105 = .ok (.bipush 70, 2) := by decide +kernel
theorem dX12_serve_107 : decode cX12_serve 107 = .ok (.iload_n 3, 1) := by decide +kernel
theorem dX12_serve_108 : decode cX12_serve 108 = .ok (.iadd, 1) := by decide +kernel
theorem dX12_serve_109 : decode cX12_serve 109 = .ok (.iaload, 1) := by decide +kernel
theorem dX12_serve_110 : decode cX12_serve 110 = .ok (.goto 5, 3) := by decide +kernel
theorem dX12_serve_113 : decode cX12_serve 113 = .ok (.iload 6, 2) := by decide +kernel
theorem dX12_serve_115 : decode cX12_serve 115 = .ok (.istore 6, 2) := by decide +kernel
theorem dX12_serve_117 : decode cX12_serve 117 = .ok (.aload_n 0, 1) := by decide +kernel
theorem dX12_serve_118 : decode cX12_serve 118 = .ok (.getfield 278, 3) := by decide +kernel
theorem dX12_serve_121 : decode cX12_serve 121 = .ok (.iload 6, 2) := by decide +kernel
theorem dX12_serve_123 : decode cX12_serve 123 = .ok (.if_icmp .ge 10, 3) := by decide +kernel
theorem dX12_serve_126 : decode cX12_serve 126 = .ok (.aload_n 0, 1) := by decide +kernel
theorem dX12_serve_127 : decode cX12_serve 127 = .ok (.getfield 278, 3) := by decide +kernel
theorem dX12_serve_130 : decode cX12_serve 130 = .ok (.goto 5, 3) := by decide +kernel
theorem dX12_serve_133 : decode cX12_serve 133 = .ok (.iload 6, 2) := by decide +kernel
theorem dX12_serve_135 : decode cX12_serve 135 = .ok (.istore 6, 2) := by decide +kernel
theorem dX12_serve_137 : decode cX12_serve 137 = .ok (.aload_n 0, 1) := by decide +kernel
theorem dX12_serve_138 : decode cX12_serve 138 = .ok (.getfield 87, 3) := by decide +kernel
theorem dX12_serve_141 : decode cX12_serve 141 = .ok (.iload_n 3, 1) := by decide +kernel
theorem dX12_serve_142 : decode cX12_serve 142 = .ok (.dup2, 1) := by decide +kernel
theorem dX12_serve_143 : decode cX12_serve 143 = .ok (.iaload, 1) := by decide +kernel
theorem dX12_serve_144 : decode cX12_serve 144 = .ok (.iload 6, 2) := by decide +kernel
theorem dX12_serve_146 : decode cX12_serve 146 = .ok (.isub, 1) := by decide +kernel
theorem dX12_serve_147 : decode cX12_serve 147 = .ok (.iastore, 1) := by decide +kernel
theorem dX12_serve_148 : decode cX12_serve 148 = .ok (.aload_n 0, 1) := by decide +kernel
theorem dX12_serve_149 : decode cX12_serve 149 = .ok (.getfield 7, 3) := by decide +kernel
theorem dX12_serve_152 : decode cX12_serve 152 = .ok (.bipush 70, 2) := by decide +kernel
theorem dX12_serve_154 : decode cX12_serve 154 = .ok (.iload_n 3, 1) := by decide +kernel
theorem dX12_serve_155 : decode cX12_serve 155 = .ok (.iadd, 1) := by decide +kernel
theorem dX12_serve_156 : decode cX12_serve 156 = .ok (.dup2, 1) := by decide +kernel
theorem dX12_serve_157 : decode cX12_serve 157 = .ok (.iaload, 1) := by decide +kernel
theorem dX12_serve_158 : decode cX12_serve 158 = .ok (.iload 6, 2) := by decide +kernel
theorem dX12_serve_160 : decode cX12_serve 160 = .ok (.isub, 1) := by decide +kernel
theorem dX12_serve_161 : decode cX12_serve 161 = .ok (.iastore, 1) := by decide +kernel
theorem dX12_serve_162 : decode cX12_serve 162 = .ok (.aload_n 0, 1) := by decide +kernel
theorem dX12_serve_163 : decode cX12_serve 163 = .ok (.dup, 1) := by decide +kernel
theorem dX12_serve_164 : decode cX12_serve 164 = .ok (.getfield 278, 3) := by decide +kernel
theorem dX12_serve_167 : decode cX12_serve 167 = .ok (.iload 6, 2) := by decide +kernel
theorem dX12_serve_169 : decode cX12_serve 169 = .ok (.isub, 1) := by decide +kernel
theorem dX12_serve_170 : decode cX12_serve 170 = .ok (.putfield 278, 3) := by decide +kernel
theorem dX12_serve_173 : decode cX12_serve 173 = .ok (.iload 6, 2) := by decide +kernel
theorem dX12_serve_175 : decode cX12_serve 175 = .ok (.aload_n 0, 1) := by decide +kernel
theorem dX12_serve_176 : decode cX12_serve 176 = .ok (.getfield 7, 3) := by decide +kernel
theorem dX12_serve_179 : decode cX12_serve 179 = .ok (.bipush 100, 2) := by decide +kernel
theorem dX12_serve_181 : decode cX12_serve 181 = .ok (.iload_n 2, 1) := by decide +kernel
theorem dX12_serve_182 : decode cX12_serve 182 = .ok (.invokestatic 189, 3) := by decide +kernel
theorem dX12_serve_185 : decode cX12_serve 185 = .ok (.iadd, 1) := by decide +kernel
theorem dX12_serve_186 : decode cX12_serve 186 = .ok (.iaload, 1) := by decide +kernel
theorem dX12_serve_187 : decode cX12_serve 187 = .ok (.imul, 1) := by decide +kernel
theorem dX12_serve_188 : decode cX12_serve 188 = .ok (.bipush 100, 2) := by decide +kernel
theorem dX12_serve_190 : decode cX12_serve 190 = .ok (.idiv, 1) := by decide +kernel
theorem dX12_serve_191 : decode cX12_serve 191 = .ok (.istore 7, 2) := by decide +kernel
theorem dX12_serve_193 : decode cX12_serve 193 = .ok (.iload 6, 2) := by decide +kernel
theorem dX12_serve_195 : decode cX12_serve 195 = .ok (.ifCond .le 35, 3) := by decide +kernel
theorem dX12_serve_198 : decode cX12_serve 198 = .ok (.aload_n 0, 1) := by decide +kernel
theorem dX12_serve_199 : decode cX12_serve 199 = .ok (.getfield 7, 3) := by decide +kernel
theorem dX12_serve_202 : decode cX12_serve 202 = .ok (.bipush 120, 2) := by decide +kernel
theorem dX12_serve_204 : decode cX12_serve 204 = .ok (.iload_n 2, 1) := by decide +kernel
theorem dX12_serve_205 : decode cX12_serve 205 = .ok (.invokestatic 189, 3) := by decide +kernel
theorem dX12_serve_208 : decode cX12_serve 208 = .ok (.iadd, 1) := by decide +kernel
theorem dX12_serve_209 : decode cX12_serve 209 = .ok (.iaload, 1) := by decide +kernel
theorem dX12_serve_210 : decode cX12_serve 210 = .ok (.bipush 20, 2) := by decide +kernel
theorem dX12_serve_212 : decode cX12_serve 212 = .ok (.if_icmp .lt 18, 3) := by decide +kernel
theorem dX12_serve_215 : decode cX12_serve 215 = .ok (.aload_n 0, 1) := by decide +kernel
theorem dX12_serve_216 : decode cX12_serve 216 = .ok (.iconst 1, 1) := by decide +kernel
theorem dX12_serve_217 : decode cX12_serve 217 = .ok (.iload_n 1, 1) := by decide +kernel
theorem dX12_serve_218 : decode cX12_serve 218 = .ok (.iconst 0, 1) := by decide +kernel
theorem dX12_serve_219 : decode cX12_serve 219 = .ok (.iload_n 2, 1) := by decide +kernel
theorem dX12_serve_220 : decode cX12_serve 220 = .ok (.invokevirtual 266, 3) := by decide +kernel
theorem dX12_serve_223 : decode cX12_serve 223 = .ok (.ifCond .eq 7, 3) := by decide +kernel
theorem dX12_serve_226 : decode cX12_serve 226 = .ok (.iconst 1, 1) := by decide +kernel
theorem dX12_serve_227 : decode cX12_serve 227 = .ok (.goto 4, 3) := by decide +kernel
theorem dX12_serve_230 : decode cX12_serve 230 = .ok (.iconst 0, 1) := by decide +kernel
theorem dX12_serve_231 : decode cX12_serve 231 = .ok (.istore 8, 2) := by decide +kernel
theorem dX12_serve_233 : decode cX12_serve 233 = .ok (.iload 8, 2) := by decide +kernel
theorem dX12_serve_235 : decode cX12_serve 235 = .ok (.ifCond .eq 11, 3) := by decide +kernel
theorem dX12_serve_238 : decode cX12_serve 238 = .ok (.iload 6, 2) := by decide +kernel
theorem dX12_serve_240 : decode cX12_serve 240 = .ok (.iload 7, 2) := by decide +kernel
theorem dX12_serve_242 : decode cX12_serve 242 = .ok (.isub, 1) := by decide +kernel
theorem dX12_serve_243 : decode cX12_serve 243 = .ok (.goto 4, 3) := by decide +kernel
theorem dX12_serve_246 : decode cX12_serve 246 = .ok (.iconst 0, 1) := by decide +kernel
theorem dX12_serve_247 : decode cX12_serve 247 = .ok (.istore 9, 2) := by decide +kernel
theorem dX12_serve_249 : decode cX12_serve 249 = .ok (.iload 8, 2) := by decide +kernel
theorem dX12_serve_251 : decode cX12_serve 251 = .ok (.ifCond .eq 7, 3) := by decide +kernel
theorem dX12_serve_254 : decode cX12_serve 254 = .ok (.iconst 0, 1) := by decide +kernel
theorem dX12_serve_255 : decode cX12_serve 255 = .ok (.goto 8, 3) := by decide +kernel
theorem dX12_serve_258 : decode cX12_serve 258 = .ok (.iload 6, 2) := by decide +kernel
theorem dX12_serve_260 : decode cX12_serve 260 = .ok (.iload 7, 2) := by decide +kernel
theorem dX12_serve_262 : decode cX12_serve 262 = .ok (.isub, 1) := by decide +kernel
theorem dX12_serve_263 : decode cX12_serve 263 = .ok (.istore 10, 2) := by decide +kernel
theorem dX12_serve_265 : decode cX12_serve 265 = .ok (.iload 10, 2) := by decide +kernel
theorem dX12_serve_267 : decode cX12_serve 267 = .ok (.aload_n 0, 1) := by decide +kernel
theorem dX12_serve_268 : decode cX12_serve 268 = .ok (.getfield 7, 3) := by decide +kernel
theorem dX12_serve_271 : decode cX12_serve 271 = .ok (.bipush 10, 2) := by decide +kernel
theorem dX12_serve_273 : decode cX12_serve 273 = .ok (.iload_n 1, 1) := by decide +kernel
theorem dX12_serve_274 : decode cX12_serve 274 = .ok (.iadd, 1) := by decide +kernel
theorem dX12_serve_275 : decode cX12_serve 275 = .ok (.iaload, 1) := by decide +kernel
theorem dX12_serve_276 : decode cX12_serve 276 = .ok (.imul, 1) := by decide +kernel
theorem dX12_serve_277 : decode cX12_serve 277 = .ok (.bipush 100, 2) := by decide +kernel
theorem dX12_serve_279 : decode cX12_serve 279 = .ok (.idiv, 1) := by decide +kernel
theorem dX12_serve_280 : decode cX12_serve 280 = .ok (.istore 11, 2) := by decide +kernel
theorem dX12_serve_282 : decode cX12_serve 282 = .ok (.iload 10, 2) := by decide +kernel
theorem dX12_serve_284 : decode cX12_serve 284 = .ok (.aload_n 0, 1) := by decide +kernel
theorem dX12_serve_285 : decode cX12_serve 285 = .ok (.getfield 7, 3) := by decide +kernel
theorem dX12_serve_288 : decode cX12_serve 288 = .ok (.bipush 30, 2) := by decide +kernel
theorem dX12_serve_290 : decode cX12_serve 290 = .ok (.iload_n 1, 1) := by decide +kernel
theorem dX12_serve_291 : decode cX12_serve 291 = .ok (.iadd, 1) := by decide +kernel
theorem dX12_serve_292 : decode cX12_serve 292 = .ok (.iaload, 1) := by decide +kernel
theorem dX12_serve_293 : decode cX12_serve 293 = .ok (.imul, 1) := by decide +kernel
theorem dX12_serve_294 : decode cX12_serve 294 = .ok (.bipush 100, 2) := by decide +kernel
theorem dX12_serve_296 : decode cX12_serve 296 = .ok (.idiv, 1) := by decide +kernel
theorem dX12_serve_297 : decode cX12_serve 297 = .ok (.istore 12, 2) := by decide +kernel
theorem dX12_serve_299 : decode cX12_serve 299 = .ok (.aload_n 0, 1) := by decide +kernel
theorem dX12_serve_300 : decode cX12_serve 300 = .ok (.iload_n 1, 1) := by decide +kernel
theorem dX12_serve_301 : decode cX12_serve 301 = .ok (.iconst 0, 1) := by decide +kernel
theorem dX12_serve_302 : decode cX12_serve 302 = .ok (.iload 5, 2) := by decide +kernel
theorem dX12_serve_304 : decode cX12_serve 304 = .ok (.invokevirtual 281, 3) := by decide +kernel
theorem dX12_serve_307 : decode cX12_serve 307 = .ok (.aload_n 0, 1) := by decide +kernel
theorem dX12_serve_308 : decode cX12_serve 308 = .ok (.iload_n 1, 1) := by decide +kernel
theorem dX12_serve_309 : decode cX12_serve 309 = .ok (.iconst 1, 1) := by decide +kernel
theorem dX12_serve_310 : decode cX12_serve 310 = .ok (.iload 6, 2) := by decide +kernel
theorem dX12_serve_312 : decode cX12_serve 312 = .ok (.invokevirtual 281, 3) := by decide +kernel
theorem dX12_serve_315 : decode cX12_serve 315 = .ok (.aload_n 0, 1) := by decide +kernel
theorem dX12_serve_316 : decode cX12_serve 316 = .ok (.iload_n 1, 1) := by decide +kernel
theorem dX12_serve_317 : decode cX12_serve 317 = .ok (.iconst 2, 1) := by decide +kernel
theorem dX12_serve_318 : decode cX12_serve 318 = .ok (.iload 5, 2) := by decide +kernel
theorem dX12_serve_320 : decode cX12_serve 320 = .ok (.iload 6, 2) := by decide +kernel
theorem dX12_serve_322 : decode cX12_serve 322 = .ok (.isub, 1) := by decide +kernel
theorem dX12_serve_323 : decode cX12_serve 323 = .ok (.invokevirtual 281, 3) := by decide +kernel
theorem dX12_serve_326 : decode cX12_serve 326 = .ok (.aload_n 0, 1) := by decide +kernel
theorem dX12_serve_327 : decode cX12_serve 327 = .ok (.iload_n 1, 1) := by decide +kernel
theorem dX12_serve_328 : decode cX12_serve 328 = .ok (.iconst 3, 1) := by decide +kernel
theorem dX12_serve_329 : decode cX12_serve 329 = .ok (.iload 7, 2) := by decide +kernel
theorem dX12_serve_331 : decode cX12_serve 331 = .ok (.invokevirtual 281, 3) := by decide +kernel
theorem dX12_serve_334 : decode cX12_serve 334 = .ok (.aload_n 0, 1) := by decide +kernel
theorem dX12_serve_335 : decode cX12_serve 335 = .ok (.iload_n 1, 1) := by decide +kernel
theorem dX12_serve_336 : decode cX12_serve 336 = .ok (.iconst 4, 1) := by decide +kernel
theorem dX12_serve_337 : decode cX12_serve 337 = .ok (.iload 9, 2) := by decide +kernel
theorem dX12_serve_339 : decode cX12_serve 339 = .ok (.invokevirtual 281, 3) := by decide +kernel
theorem dX12_serve_342 : decode cX12_serve 342 = .ok (.aload_n 0, 1) := by decide +kernel
theorem dX12_serve_343 : decode cX12_serve 343 = .ok (.iload_n 1, 1) := by decide +kernel
theorem dX12_serve_344 : decode cX12_serve 344 = .ok (.iconst 5, 1) := by decide +kernel
theorem dX12_serve_345 : decode cX12_serve 345 = .ok (.iload 10, 2) := by decide +kernel
theorem dX12_serve_347 : decode cX12_serve 347 = .ok (.invokevirtual 281, 3) := by decide +kernel
theorem dX12_serve_350 : decode cX12_serve 350 = .ok (.aload_n 0, 1) := by decide +kernel
theorem dX12_serve_351 : decode cX12_serve 351 = .ok (.iload_n 1, 1) := by decide +kernel
theorem dX12_serve_352 : decode cX12_serve 352 = .ok (.bipush 6, 2) := by decide +kernel
theorem dX12_serve_354 : decode cX12_serve 354 = .ok (.iload 11, 2) := by decide +kernel
theorem dX12_serve_356 : decode cX12_serve 356 = .ok (.invokevirtual 281, 3) := by decide +kernel
theorem dX12_serve_359 : decode cX12_serve 359 = .ok (.aload_n 0, 1) := by decide +kernel
theorem dX12_serve_360 : decode cX12_serve 360 = .ok (.iload_n 1, 1) := by decide +kernel
theorem dX12_serve_361 : decode cX12_serve 361 = .ok (.bipush 7, 2) := by decide +kernel
theorem dX12_serve_363 : decode cX12_serve 363 = .ok (.iload 10, 2) := by decide +kernel
theorem dX12_serve_365 : decode cX12_serve 365 = .ok (.iload 12, 2) := by decide +kernel
theorem dX12_serve_367 : decode cX12_serve 367 = .ok (.isub, 1) := by decide +kernel
theorem dX12_serve_368 : decode cX12_serve 368 = .ok (.invokevirtual 281, 3) := by decide +kernel
theorem dX12_serve_371 : decode cX12_serve 371 = .ok (.aload_n 0, 1) := by decide +kernel
theorem dX12_serve_372 : decode cX12_serve 372 = .ok (.iload_n 1, 1) := by decide +kernel
theorem dX12_serve_373 : decode cX12_serve 373 = .ok (.bipush 8, 2) := by decide +kernel
theorem dX12_serve_375 : decode cX12_serve 375 = .ok (.iload 12, 2) := by decide +kernel
theorem dX12_serve_377 : decode cX12_serve 377 = .ok (.invokevirtual 281, 3) := by decide +kernel
theorem dX12_serve_380 : decode cX12_serve 380 = .ok (.aload_n 0, 1) := by decide +kernel
theorem dX12_serve_381 : decode cX12_serve 381 = .ok (.iload_n 1, 1) := by decide +kernel
theorem dX12_serve_382 : decode cX12_serve 382 = .ok (.bipush 9, 2) := by decide +kernel
theorem dX12_serve_384 : decode cX12_serve 384 = .ok (.iload 12, 2) := by decide +kernel
theorem dX12_serve_386 : decode cX12_serve 386 = .ok (.ifCond .le 19, 3) := by decide +kernel
theorem dX12_serve_389 : decode cX12_serve 389 = .ok (.aload_n 0, 1) := by decide +kernel
theorem dX12_serve_390 : decode cX12_serve 390 = .ok (.iconst 2, 1) := by decide +kernel
theorem dX12_serve_391 : decode cX12_serve 391 = .ok (.iload_n 1, 1) := by decide +kernel
theorem dX12_serve_392 : decode cX12_serve 392 = .ok (.iconst 0, 1) := by decide +kernel
theorem dX12_serve_393 : decode cX12_serve 393 = .ok (.iload_n 2, 1) := by decide +kernel
theorem dX12_serve_394 : decode cX12_serve 394 = .ok (.invokevirtual 266, 3) := by decide +kernel
theorem dX12_serve_397 : decode cX12_serve 397 = .ok (.ifCond .eq 8, 3) := by decide +kernel
theorem dX12_serve_400 : decode cX12_serve 400 = .ok (.iload 12, 2) := by decide +kernel
theorem dX12_serve_402 : decode cX12_serve 402 = .ok (.goto 4, 3) := by decide +kernel
theorem dX12_serve_405 : decode cX12_serve 405 = .ok (.iconst 0, 1) := by decide +kernel
theorem dX12_serve_406 : decode cX12_serve 406 = .ok (.invokevirtual 281, 3) := by decide +kernel
theorem dX12_serve_409 : decode cX12_serve 409 = .ok (.aload_n 0, 1) := by decide +kernel
theorem dX12_serve_410 : decode cX12_serve 410 = .ok (.iload_n 1, 1) := by decide +kernel
theorem dX12_serve_411 : decode cX12_serve 411 = .ok (.bipush 10, 2) := by decide +kernel
theorem dX12_serve_413 : decode cX12_serve 413 = .ok (.iconst 1, 1) := by decide +kernel
theorem dX12_serve_414 : decode cX12_serve 414 = .ok (.iload 10, 2) := by decide +kernel
theorem dX12_serve_416 : decode cX12_serve 416 = .ok (.iload 11, 2) := by decide +kernel
theorem dX12_serve_418 : decode cX12_serve 418 = .ok (.isub, 1) := by decide +kernel
theorem dX12_serve_419 : decode cX12_serve 419 = .ok (.iload 4, 2) := by decide +kernel
theorem dX12_serve_421 : decode cX12_serve 421 = .ok (.invokestatic 285, 3) := by decide +kernel
theorem dX12_serve_424 : decode cX12_serve 424 = .ok (.iconst 3, 1) := by decide +kernel
theorem dX12_serve_425 : decode cX12_serve 425 = .ok (.iload 11, 2) := by decide +kernel
theorem dX12_serve_427 : decode cX12_serve 427 = .ok (.iload 4, 2) := by decide +kernel
theorem dX12_serve_429 : decode cX12_serve 429 = .ok (.invokestatic 285, 3) := by decide +kernel
theorem dX12_serve_432 : decode cX12_serve 432 = .ok (.iadd, 1) := by decide +kernel
theorem dX12_serve_433 : decode cX12_serve 433 = .ok (.iconst 4, 1) := by decide +kernel
theorem dX12_serve_434 : decode cX12_serve 434 = .ok (.iload 9, 2) := by decide +kernel
theorem dX12_serve_436 : decode cX12_serve 436 = .ok (.iload 4, 2) := by decide +kernel
theorem dX12_serve_438 : decode cX12_serve 438 = .ok (.invokestatic 285, 3) := by decide +kernel
theorem dX12_serve_441 : decode cX12_serve 441 = .ok (.iadd, 1) := by decide +kernel
theorem dX12_serve_442 : decode cX12_serve 442 = .ok (.iconst 5, 1) := by decide +kernel
theorem dX12_serve_443 : decode cX12_serve 443 = .ok (.iload 7, 2) := by decide +kernel
theorem dX12_serve_445 : decode cX12_serve 445 = .ok (.iload 4, 2) := by decide +kernel
theorem dX12_serve_447 : decode cX12_serve 447 = .ok (.invokestatic 285, 3) := by decide +kernel
theorem dX12_serve_450 : decode cX12_serve 450 = .ok (.iadd, 1) := by decide +kernel
theorem dX12_serve_451 : decode cX12_serve 451 = .ok (.bipush 6, 2) := by decide +kernel
theorem dX12_serve_453 : decode cX12_serve 453 = .ok (.iload 5, 2) := by decide +kernel
theorem dX12_serve_455 : decode cX12_serve 455 = .ok (.iload 6, 2) := by decide +kernel
theorem dX12_serve_457 : decode cX12_serve 457 = .ok (.isub, 1) := by decide +kernel
theorem dX12_serve_458 : decode cX12_serve 458 = .ok (.iload 4, 2) := by decide +kernel
theorem dX12_serve_460 : decode cX12_serve 460 = .ok (.invokestatic 285, 3) := by decide +kernel
theorem dX12_serve_463 : decode cX12_serve 463 = .ok (.iadd, 1) := by decide +kernel
theorem dX12_serve_464 : decode cX12_serve 464 = .ok (.invokevirtual 281, 3) := by decide +kernel
theorem dX12_serve_467 : decode cX12_serve 467 = .ok (.iload_n 3, 1) := by decide +kernel
theorem dX12_serve_468 : decode cX12_serve 468 = .ok (.ifCond .lt 20, 3) := by decide +kernel
theorem dX12_serve_471 : decode cX12_serve 471 = .ok (.aload_n 0, 1) := by decide +kernel
theorem dX12_serve_472 : decode cX12_serve 472 = .ok (.getfield 90, 3) := by decide +kernel
theorem dX12_serve_475 : decode cX12_serve 475 = .ok (.iload_n 3, 1) := by decide +kernel
theorem dX12_serve_476 : decode cX12_serve 476 = .ok (.dup2, 1) := by decide +kernel
theorem dX12_serve_477 : decode cX12_serve 477 = .ok (.iaload, 1) := by decide +kernel
theorem dX12_serve_478 : decode cX12_serve 478 = .ok (.iload 9, 2) := by decide +kernel
theorem dX12_serve_480 : decode cX12_serve 480 = .ok (.iload 10, 2) := by decide +kernel
theorem dX12_serve_482 : decode cX12_serve 482 = .ok (.iadd, 1) := by decide +kernel
theorem dX12_serve_483 : decode cX12_serve 483 = .ok (.iload 12, 2) := by decide +kernel
theorem dX12_serve_485 : decode cX12_serve 485 = .ok (.isub, 1) := by decide +kernel
theorem dX12_serve_486 : decode cX12_serve 486 = .ok (.iadd, 1) := by decide +kernel
theorem dX12_serve_487 : decode cX12_serve 487 = .ok (.iastore, 1) := by decide +kernel
theorem dX12_serve_488 : decode cX12_serve 488 = .ok (.return_, 1) := by decide +kernel
theorem dX12_pass_0 : decode cX12_pass 0 = .ok (.aload_n 0, 1) := by decide +kernel
theorem dX12_pass_1 : decode cX12_pass 1 = .ok (.getfield 7, 3) := by decide +kernel
theorem dX12_pass_4 : decode cX12_pass 4 = .ok (.iconst 3, 1) := by decide +kernel
theorem dX12_pass_5 : decode cX12_pass 5 = .ok (.iaload, 1) := by decide +kernel
theorem dX12_pass_6 : decode cX12_pass 6 = .ok (.istore_n 1, 1) := by decide +kernel
theorem dX12_pass_7 : decode cX12_pass 7 = .ok (.iconst 0, 1) := by decide +kernel
theorem dX12_pass_8 : decode cX12_pass 8 = .ok (.istore_n 2, 1) := by decide +kernel
theorem dX12_pass_9 : decode cX12_pass 9 = .ok (.iload_n 2, 1) := by decide +kernel
theorem dX12_pass_10 : decode cX12_pass 10 = .ok (.iconst 5, 1) := by decide +kernel
theorem dX12_pass_11 : decode cX12_pass 11 = .ok (.if_icmp .ge 28, 3) := by decide +kernel
theorem dX12_pass_14 : decode cX12_pass 14 = .ok (.aload_n 0, 1) := by decide +kernel
theorem dX12_pass_15 : decode cX12_pass 15 = .ok (.getfield 87, 3) := by decide +kernel
theorem dX12_pass_18 : decode cX12_pass 18 = .ok (.iload_n 2, 1) := by decide +kernel
theorem dX12_pass_19 : decode cX12_pass 19 = .ok (.aload_n 0, 1) := by decide +kernel
theorem dX12_pass_20 : decode cX12_pass 20 = .ok (.getfield 34, 3) := by decide +kernel
theorem dX12_pass_23 : decode cX12_pass 23 = .ok (.iload_n 2, 1) := by decide +kernel
theorem dX12_pass_24 : decode cX12_pass 24 = .ok (.iaload, 1) := by decide +kernel
theorem dX12_pass_25 : decode cX12_pass 25 = .ok (.iastore, 1) := by decide +kernel
theorem dX12_pass_26 : decode cX12_pass 26 = .ok (.aload_n 0, 1) := by decide +kernel
theorem dX12_pass_27 : decode cX12_pass 27 = .ok (.getfield 90, 3) := by decide +kernel
theorem dX12_pass_30 : decode cX12_pass 30 = .ok (.iload_n 2, 1) := by decide +kernel
theorem dX12_pass_31 : decode cX12_pass 31 = .ok (.iconst 0, 1) := by decide +kernel
theorem dX12_pass_32 : decode cX12_pass 32 = .ok (.iastore, 1) := by decide +kernel
theorem dX12_pass_33 : decode cX12_pass 33 = .ok (.iinc 2 1, 3) := by decide +kernel
theorem dX12_pass_36 : decode cX12_pass 36 = .ok (.goto (-27), 3) := by decide +kernel
theorem dX12_pass_39 : decode cX12_pass 39 = .ok (.aload_n 0, 1) := by decide +kernel
theorem dX12_pass_40 : decode cX12_pass 40 = .ok (.aload_n 0, 1) := by decide +kernel
theorem dX12_pass_41 : decode cX12_pass 41 = .ok (.getfield 7, 3) := by decide +kernel
theorem dX12_pass_44 : decode cX12_pass 44 = .ok (.sipush 140, 3) := by decide +kernel
theorem dX12_pass_47 : decode cX12_pass 47 = .ok (.iload_n 1, 1) := by decide +kernel
theorem dX12_pass_48 : decode cX12_pass 48 = .ok (.invokestatic 189, 3) := by decide +kernel
theorem dX12_pass_51 : decode cX12_pass 51 = .ok (.iadd, 1) := by decide +kernel
theorem dX12_pass_52 : decode cX12_pass 52 = .ok (.iaload, 1) := by decide +kernel
theorem dX12_pass_53 : decode cX12_pass 53 = .ok (.putfield 278, 3) := by decide +kernel
theorem dX12_pass_56 : decode cX12_pass 56 = .ok (.iconst 0, 1) := by decide +kernel
theorem dX12_pass_57 : decode cX12_pass 57 = .ok (.istore_n 2, 1) := by decide +kernel
theorem dX12_pass_58 : decode cX12_pass 58 = .ok (.iload_n 2, 1) := by decide +kernel
theorem dX12_pass_59 : decode cX12_pass 59 = .ok (.aload_n 0, 1) := by decide +kernel
theorem dX12_pass_60 : decode cX12_pass 60 = .ok (.getfield 7, 3) := by decide +kernel
theorem dX12_pass_63 : decode cX12_pass 63 = .ok (.iconst 0, 1) := by decide +kernel
theorem dX12_pass_64 : decode cX12_pass 64 = .ok (.iaload, 1) := by decide +kernel
theorem dX12_pass_65 : decode cX12_pass 65 = .ok (.if_icmp .ge 23, 3) := by decide +kernel
theorem dX12_pass_68 : decode cX12_pass 68 = .ok (.iload_n 1, 1) := by decide +kernel
theorem dX12_pass_69 : decode cX12_pass 69 = .ok (.bipush 7, 2) := by decide +kernel
theorem dX12_pass_71 : decode cX12_pass 71 = .ok (.irem, 1) := by decide +kernel
theorem dX12_pass_72 : decode cX12_pass 72 = .ok (.iconst 5, 1) := by decide +kernel
theorem dX12_pass_73 : decode cX12_pass 73 = .ok (.if_icmp .ge 15, 3) := by decide +kernel
theorem dX12_pass_76 : decode cX12_pass 76 = .ok (.aload_n 0, 1) := by decide +kernel
theorem dX12_pass_77 : decode cX12_pass 77 = .ok (.iload_n 2, 1) := by decide +kernel
theorem dX12_pass_78 : decode cX12_pass 78 = .ok (.iload_n 1, 1) := by decide +kernel
theorem dX12_pass_79 : decode cX12_pass 79 = .ok (.invokevirtual 288, 3) := by decide +kernel
theorem dX12_pass_82 : decode cX12_pass 82 = .ok (.iinc 2 1, 3) := by decide +kernel
theorem dX12_pass_85 : decode cX12_pass 85 = .ok (.goto (-27), 3) := by decide +kernel
theorem dX12_pass_88 : decode cX12_pass 88 = .ok (.iconst 0, 1) := by decide +kernel
theorem dX12_pass_89 : decode cX12_pass 89 = .ok (.istore_n 2, 1) := by decide +kernel
theorem dX12_pass_90 : decode cX12_pass 90 = .ok (.iload_n 2, 1) := by decide +kernel
theorem dX12_pass_91 : decode cX12_pass 91 = .ok (.aload_n 0, 1) := by decide +kernel
theorem dX12_pass_92 : decode cX12_pass 92 = .ok (.getfield 7, 3) := by decide +kernel
theorem dX12_pass_95 : decode cX12_pass 95 = .ok (.iconst 1, 1) := by decide +kernel
theorem dX12_pass_96 : decode cX12_pass 96 = .ok (.iaload, 1) := by decide +kernel
theorem dX12_pass_97 : decode cX12_pass 97 = .ok (.if_icmp .ge 27, 3) := by decide +kernel
theorem dX12_pass_100 : decode cX12_pass 100 = .ok (.aload_n 0, 1) := by decide +kernel
theorem dX12_pass_101 : decode cX12_pass 101 = .ok (.getfield 7, 3) := by decide +kernel
theorem dX12_pass_104 : decode cX12_pass 104 = .ok (.bipush 70, 2) := by decide +kernel
theorem dX12_pass_106 : decode cX12_pass 106 = .ok (.iload_n 2, 1) := by decide +kernel
theorem dX12_pass_107 : decode cX12_pass 107 = .ok (.iadd, 1) := by decide +kernel
theorem dX12_pass_108 : decode cX12_pass 108 = .ok (.dup2, 1) := by decide +kernel
theorem dX12_pass_109 : decode cX12_pass 109 = .ok (.iaload, 1) := by decide +kernel
theorem dX12_pass_110 : decode cX12_pass 110 = .ok (.aload_n 0, 1) := by decide +kernel
theorem dX12_pass_111 : decode cX12_pass 111 = .ok (.getfield 90, 3) := by decide +kernel
theorem dX12_pass_114 : decode cX12_pass 114 = .ok (.iload_n 2, 1) := by decide +kernel
theorem dX12_pass_115 : decode cX12_pass 115 = .ok (.iaload, 1) := by decide +kernel
theorem dX12_pass_116 : decode cX12_pass 116 = .ok (.iadd, 1) := by decide +kernel
theorem dX12_pass_117 : decode cX12_pass 117 = .ok (.iastore, 1) := by decide +kernel
theorem dX12_pass_118 : decode cX12_pass 118 = .ok (.iinc 2 1, 3) := by decide +kernel
theorem dX12_pass_121 : decode cX12_pass 121 = .ok (.goto (-31), 3) := by decide +kernel
theorem dX12_pass_124 : decode cX12_pass 124 = .ok (.aload_n 0, 1) := by decide +kernel
theorem dX12_pass_125 : decode cX12_pass 125 = .ok (.getfield 7, 3) := by decide +kernel
theorem dX12_pass_128 : decode cX12_pass 128 = .ok (.iconst 3, 1) := by decide +kernel
theorem dX12_pass_129 : decode cX12_pass 129 = .ok (.dup2, 1) := by decide +kernel
theorem dX12_pass_130 : decode cX12_pass 130 = .ok (.iaload, 1) := by decide +kernel
theorem dX12_pass_131 : decode cX12_pass 131 = .ok (.iconst 1, 1) := by decide +kernel
theorem dX12_pass_132 : decode cX12_pass 132 = .ok (.iadd, 1) := by decide +kernel
theorem dX12_pass_133 : decode cX12_pass 133 = .ok (.iastore, 1) := by decide +kernel
theorem dX12_pass_134 : decode cX12_pass 134 = .ok (.return_, 1) := by decide +kernel
theorem dX12_wrongDays_0 : decode cX12_wrongDays 0 = .ok (.iload_n 1, 1) := by decide +kernel
theorem dX12_wrongDays_1 : decode cX12_wrongDays 1 = .ok (.iconst 1, 1) := by decide +kernel
theorem dX12_wrongDays_2 : decode cX12_wrongDays 2 = .ok (.iload_n 2, 1) := by decide +kernel
theorem dX12_wrongDays_3 : decode cX12_wrongDays 3 = .ok (.invokestatic 131, 3) := by decide +kernel
theorem dX12_wrongDays_6 : decode cX12_wrongDays 6 = .ok (.ifCond .ne 7, 3) := by decide +kernel
theorem dX12_wrongDays_9 : decode cX12_wrongDays 9 = .ok (.iconst (-1), 1) := by decide +kernel
theorem dX12_wrongDays_10 : decode cX12_wrongDays 10 = .ok (.goto 23, 3) := by decide +kernel
theorem dX12_wrongDays_13 : decode cX12_wrongDays 13 = .ok (.aload_n 0, 1) := by decide +kernel
theorem dX12_wrongDays_14 : decode cX12_wrongDays 14 = .ok (.getfield 7, 3) := by decide +kernel
theorem dX12_wrongDays_17 : decode cX12_wrongDays 17 = .ok (.iconst 3, 1) := by decide +kernel
theorem dX12_wrongDays_18 : decode cX12_wrongDays 18 = .ok (.iaload, 1) := by decide +kernel
theorem dX12_wrongDays_19 : decode cX12_wrongDays 19 = .ok (.iload_n 1, 1) := by decide +kernel
theorem dX12_wrongDays_20 : decode cX12_wrongDays 20 = .ok (.iadd, 1) := by decide +kernel
theorem dX12_wrongDays_21 : decode cX12_wrongDays 21 = .ok (.sipush 400, 3) := by decide +kernel
theorem dX12_wrongDays_24 : decode cX12_wrongDays 24 = .ok (.if_icmp .le 8, 3) := by decide +kernel
theorem dX12_wrongDays_27 : decode cX12_wrongDays 27 = .ok (.bipush (-2), 2) := by decide +kernel
theorem dX12_wrongDays_29 : decode cX12_wrongDays 29 = .ok (.goto 4, 3) := by decide +kernel
theorem dX12_wrongDays_32 : decode cX12_wrongDays 32 = .ok (.iconst 0, 1) := by decide +kernel
theorem dX12_wrongDays_33 : decode cX12_wrongDays 33 = .ok (.ireturn, 1) := by decide +kernel
theorem dX12_go_0 : decode cX12_go 0 = .ok (.aload_n 0, 1) := by decide +kernel
theorem dX12_go_1 : decode cX12_go 1 = .ok (.iconst 0, 1) := by decide +kernel
theorem dX12_go_2 : decode cX12_go 2 = .ok (.putfield 128, 3) := by decide +kernel
theorem dX12_go_5 : decode cX12_go 5 = .ok (.aload_n 0, 1) := by decide +kernel
theorem dX12_go_6 : decode cX12_go 6 = .ok (.iload_n 1, 1) := by decide +kernel
theorem dX12_go_7 : decode cX12_go 7 = .ok (.bipush 60, 2) := by decide +kernel
theorem dX12_go_9 : decode cX12_go 9 = .ok (.invokevirtual 292, 3) := by decide +kernel
theorem dX12_go_12 : decode cX12_go 12 = .ok (.istore_n 2, 1) := by decide +kernel
theorem dX12_go_13 : decode cX12_go 13 = .ok (.iconst 0, 1) := by decide +kernel
theorem dX12_go_14 : decode cX12_go 14 = .ok (.istore_n 3, 1) := by decide +kernel
theorem dX12_go_15 : decode cX12_go 15 = .ok (.iload_n 3, 1) := by decide +kernel
theorem dX12_go_16 : decode cX12_go 16 = .ok (.iload_n 1, 1) := by decide +kernel
theorem dX12_go_17 : decode cX12_go 17 = .ok (.if_icmp .ge 17, 3) := by decide +kernel
theorem dX12_go_20 : decode cX12_go 20 = .ok (.iload_n 2, 1) := by decide +kernel
theorem dX12_go_21 : decode cX12_go 21 = .ok (.ifCond .ne 13, 3) := by decide +kernel
theorem dX12_go_24 : decode cX12_go 24 = .ok (.aload_n 0, 1) := by decide +kernel
theorem dX12_go_25 : decode cX12_go 25 = .ok (.invokevirtual 295, 3) := by decide +kernel
theorem dX12_go_28 : decode cX12_go 28 = .ok (.iinc 3 1, 3) := by decide +kernel
theorem dX12_go_31 : decode cX12_go 31 = .ok (.goto (-16), 3) := by decide +kernel
theorem dX12_go_34 : decode cX12_go 34 = .ok (.iload_n 2, 1) := by decide +kernel
theorem dX12_go_35 : decode cX12_go 35 = .ok (.ifCond .ge 7, 3) := by decide +kernel
theorem dX12_go_38 : decode cX12_go 38 = .ok (.iload_n 2, 1) := by decide +kernel
theorem dX12_go_39 : decode cX12_go 39 = .ok (.goto 9, 3) := by decide +kernel
theorem dX12_go_42 : decode cX12_go 42 = .ok (.aload_n 0, 1) := by decide +kernel
theorem dX12_go_43 : decode cX12_go 43 = .ok (.getfield 7, 3) := by decide +kernel
theorem dX12_go_46 : decode cX12_go 46 = .ok (.iconst 3, 1) := by decide +kernel
theorem dX12_go_47 : decode cX12_go 47 = .ok (.iaload, 1) := by decide +kernel
theorem dX12_go_48 : decode cX12_go 48 = .ok (.ireturn, 1) := by decide +kernel
theorem dX12_of_0 : decode cX12_of 0 = .ok (.aload_n 0, 1) := by decide +kernel
theorem dX12_of_1 : decode cX12_of 1 = .ok (.iconst 0, 1) := by decide +kernel
theorem dX12_of_2 : decode cX12_of 2 = .ok (.putfield 128, 3) := by decide +kernel
theorem dX12_of_5 : decode cX12_of 5 = .ok (.aload_n 0, 1) := by decide +kernel
theorem dX12_of_6 : decode cX12_of 6 = .ok (.iload_n 1, 1) := by decide +kernel
theorem dX12_of_7 : decode cX12_of 7 = .ok (.invokevirtual 139, 3) := by decide +kernel
theorem dX12_of_10 : decode cX12_of 10 = .ok (.ifCond .eq 31, 3) := by decide +kernel
theorem dX12_of_13 : decode cX12_of 13 = .ok (.iload_n 2, 1) := by decide +kernel
theorem dX12_of_14 : decode cX12_of 14 = .ok (.iconst 0, 1) := by decide +kernel
theorem dX12_of_15 : decode cX12_of 15 = .ok (.bipush 10, 2) := by decide +kernel
theorem dX12_of_17 : decode cX12_of 17 = .ok (.invokestatic 131, 3) := by decide +kernel
theorem dX12_of_20 : decode cX12_of 20 = .ok (.ifCond .eq 21, 3) := by decide +kernel
theorem dX12_of_23 : decode cX12_of 23 = .ok (.aload_n 0, 1) := by decide +kernel
theorem dX12_of_24 : decode cX12_of 24 = .ok (.getfield 7, 3) := by decide +kernel
theorem dX12_of_27 : decode cX12_of 27 = .ok (.sipush 180, 3) := by decide +kernel
theorem dX12_of_30 : decode cX12_of 30 = .ok (.bipush 11, 2) := by decide +kernel
theorem dX12_of_32 : decode cX12_of 32 = .ok (.iload_n 1, 1) := by decide +kernel
theorem dX12_of_33 : decode cX12_of 33 = .ok (.imul, 1) := by decide +kernel
theorem dX12_of_34 : decode cX12_of 34 = .ok (.iadd, 1) := by decide +kernel
theorem dX12_of_35 : decode cX12_of 35 = .ok (.iload_n 2, 1) := by decide +kernel
theorem dX12_of_36 : decode cX12_of 36 = .ok (.iadd, 1) := by decide +kernel
theorem dX12_of_37 : decode cX12_of 37 = .ok (.iaload, 1) := by decide +kernel
theorem dX12_of_38 : decode cX12_of 38 = .ok (.goto 4, 3) := by decide +kernel
theorem dX12_of_41 : decode cX12_of 41 = .ok (.iconst (-1), 1) := by decide +kernel
theorem dX12_of_42 : decode cX12_of 42 = .ok (.ireturn, 1) := by decide +kernel
theorem dX12_order_0 : decode cX12_order 0 = .ok (.aload_n 0, 1) := by decide +kernel
theorem dX12_order_1 : decode cX12_order 1 = .ok (.iconst 0, 1) := by decide +kernel
theorem dX12_order_2 : decode cX12_order 2 = .ok (.putfield 128, 3) := by decide +kernel
theorem dX12_order_5 : decode cX12_order 5 = .ok (.aload_n 0, 1) := by decide +kernel
theorem dX12_order_6 : decode cX12_order 6 = .ok (.iload_n 1, 1) := by decide +kernel
theorem dX12_order_7 : decode cX12_order 7 = .ok (.invokevirtual 139, 3) := by decide +kernel
theorem dX12_order_10 : decode cX12_order 10 = .ok (.ifCond .eq 17, 3) := by decide +kernel
theorem dX12_order_13 : decode cX12_order 13 = .ok (.aload_n 0, 1) := by decide +kernel
theorem dX12_order_14 : decode cX12_order 14 = .ok (.iload_n 1, 1) := by decide +kernel
theorem dX12_order_15 : decode cX12_order 15 = .ok (.aload_n 0, 1) := by decide +kernel
theorem dX12_order_16 : decode cX12_order 16 = .ok (.getfield 7, 3) := by decide +kernel
theorem dX12_order_19 : decode cX12_order 19 = .ok (.iconst 3, 1) := by decide +kernel
theorem dX12_order_20 : decode cX12_order 20 = .ok (.iaload, 1) := by decide +kernel
theorem dX12_order_21 : decode cX12_order 21 = .ok (.invokevirtual 275, 3) := by decide +kernel
theorem dX12_order_24 : decode cX12_order 24 = .ok (.goto 4, 3) := by decide +kernel
theorem dX12_order_27 : decode cX12_order 27 = .ok (.iconst (-1), 1) := by decide +kernel
theorem dX12_order_28 : decode cX12_order 28 = .ok (.ireturn, 1) := by decide +kernel
theorem dX12_look_0 : decode cX12_look 0 = .ok (.aload_n 0, 1) := by decide +kernel
theorem dX12_look_1 : decode cX12_look 1 = .ok (.iconst 0, 1) := by decide +kernel
theorem dX12_look_2 : decode cX12_look 2 = .ok (.putfield 128, 3) := by decide +kernel
theorem dX12_look_5 : decode cX12_look 5 = .ok (.aload_n 0, 1) := by decide +kernel
theorem dX12_look_6 : decode cX12_look 6 = .ok (.iload_n 1, 1) := by decide +kernel
theorem dX12_look_7 : decode cX12_look 7 = .ok (.invokevirtual 139, 3) := by decide +kernel
theorem dX12_look_10 : decode cX12_look 10 = .ok (.ifCond .eq 30, 3) := by decide +kernel
theorem dX12_look_13 : decode cX12_look 13 = .ok (.iload_n 2, 1) := by decide +kernel
theorem dX12_look_14 : decode cX12_look 14 = .ok (.iconst 0, 1) := by decide +kernel
theorem dX12_look_15 : decode cX12_look 15 = .ok (.aload_n 0, 1) := by decide +kernel
theorem dX12_look_16 : decode cX12_look 16 = .ok (.getfield 7, 3) := by decide +kernel
theorem dX12_look_19 : decode cX12_look 19 = .ok (.iconst 3, 1) := by decide +kernel
theorem dX12_look_20 : decode cX12_look 20 = .ok (.iaload, 1) := by decide +kernel
theorem dX12_look_21 : decode cX12_look 21 = .ok (.iconst 1, 1) := by decide +kernel
theorem dX12_look_22 : decode cX12_look 22 = .ok (.isub, 1) := by decide +kernel
theorem dX12_look_23 : decode cX12_look 23 = .ok (.invokestatic 131, 3) := by decide +kernel
theorem dX12_look_26 : decode cX12_look 26 = .ok (.ifCond .eq 14, 3) := by decide +kernel
theorem dX12_look_29 : decode cX12_look 29 = .ok (.iload_n 3, 1) := by decide +kernel
theorem dX12_look_30 : decode cX12_look 30 = .ok (.iconst 0, 1) := by decide +kernel
theorem dX12_look_31 : decode cX12_look 31 = .ok (.sipush 999, 3) := by decide +kernel
theorem dX12_look_34 : decode cX12_look 34 = .ok (.invokestatic 131, 3) := by decide +kernel
theorem dX12_look_37 : decode cX12_look 37 = .ok (.ifCond .ne 5, 3) := by decide +kernel
theorem dX12_look_40 : decode cX12_look 40 = .ok (.iconst (-1), 1) := by decide +kernel
theorem dX12_look_41 : decode cX12_look 41 = .ok (.ireturn, 1) := by decide +kernel
theorem dX12_look_42 : decode cX12_look 42 = .ok (.aload_n 0, 1) := by decide +kernel
theorem dX12_look_43 : decode cX12_look 43 = .ok (.getfield 7, 3) := by decide +kernel
theorem dX12_look_46 : decode cX12_look 46 = .ok (.iconst 4, 1) := by decide +kernel
theorem dX12_look_47 : decode cX12_look 47 = .ok (.iaload, 1) := by decide +kernel
theorem dX12_look_48 : decode cX12_look 48 = .ok (.bipush 30, 2) := by decide +kernel
theorem dX12_look_50 : decode cX12_look 50 = .ok (.if_icmp .ne 6, 3) := by decide +kernel
theorem dX12_look_53 : decode cX12_look 53 = .ok (.bipush (-2), 2) := by decide +kernel
theorem dX12_look_55 : decode cX12_look 55 = .ok (.ireturn, 1) := by decide +kernel
theorem dX12_look_56 : decode cX12_look 56 = .ok (.aload_n 0, 1) := by decide +kernel
theorem dX12_look_57 : decode cX12_look 57 = .ok (.getfield 61, 3) := by decide +kernel
theorem dX12_look_60 : decode cX12_look 60 = .ok (.aload_n 0, 1) := by decide +kernel
theorem dX12_look_61 : decode cX12_look 61 = .ok (.getfield 7, 3) := by decide +kernel
theorem dX12_look_64 : decode cX12_look 64 = .ok (.iconst 4, 1) := by decide +kernel
theorem dX12_look_65 : decode cX12_look 65 = .ok (.iaload, 1) := by decide +kernel
theorem dX12_look_66 : decode cX12_look 66 = .ok (.iload_n 1, 1) := by decide +kernel
theorem dX12_look_67 : decode cX12_look 67 = .ok (.iastore, 1) := by decide +kernel
theorem dX12_look_68 : decode cX12_look 68 = .ok (.aload_n 0, 1) := by decide +kernel
theorem dX12_look_69 : decode cX12_look 69 = .ok (.getfield 64, 3) := by decide +kernel
theorem dX12_look_72 : decode cX12_look 72 = .ok (.aload_n 0, 1) := by decide +kernel
theorem dX12_look_73 : decode cX12_look 73 = .ok (.getfield 7, 3) := by decide +kernel
theorem dX12_look_76 : decode cX12_look 76 = .ok (.iconst 4, 1) := by decide +kernel
theorem dX12_look_77 : decode cX12_look 77 = .ok (.iaload, 1) := by decide +kernel
theorem dX12_look_78 : decode cX12_look 78 = .ok (.iload_n 2, 1) := by decide +kernel
theorem dX12_look_79 : decode cX12_look 79 = .ok (.iastore, 1) := by decide +kernel
theorem dX12_look_80 : decode cX12_look 80 = .ok (.aload_n 0, 1) := by decide +kernel
theorem dX12_look_81 : decode cX12_look 81 = .ok (.getfield 67, 3) := by decide +kernel
theorem dX12_look_84 : decode cX12_look 84 = .ok (.aload_n 0, 1) := by decide +kernel
theorem dX12_look_85 : decode cX12_look 85 = .ok (.getfield 7, 3) := by decide +kernel
theorem dX12_look_88 : decode cX12_look 88 = .ok (.iconst 4, 1) := by decide +kernel
theorem dX12_look_89 : decode cX12_look 89 = .ok (.iaload, 1) := by decide +kernel
theorem dX12_look_90 : decode cX12_look 90 = .ok (.iload_n 3, 1) := by decide +kernel
theorem dX12_look_91 : decode cX12_look 91 = .ok (.iastore, 1) := by decide +kernel
theorem dX12_look_92 : decode cX12_look 92 = .ok (.aload_n 0, 1) := by decide +kernel
theorem dX12_look_93 : decode cX12_look 93 = .ok (.getfield 7, 3) := by decide +kernel
theorem dX12_look_96 : decode cX12_look 96 = .ok (.iconst 4, 1) := by decide +kernel
theorem dX12_look_97 : decode cX12_look 97 = .ok (.dup2, 1) := by decide +kernel
theorem dX12_look_98 : decode cX12_look 98 = .ok (.iaload, 1) := by decide +kernel
theorem dX12_look_99 : decode cX12_look 99 = .ok (.iconst 1, 1) := by decide +kernel
theorem dX12_look_100 : decode cX12_look 100 = .ok (.iadd, 1) := by decide +kernel
theorem dX12_look_101 : decode cX12_look 101 = .ok (.iastore, 1) := by decide +kernel
theorem dX12_look_102 : decode cX12_look 102 = .ok (.aload_n 0, 1) := by decide +kernel
theorem dX12_look_103 : decode cX12_look 103 = .ok (.getfield 7, 3) := by decide +kernel
theorem dX12_look_106 : decode cX12_look 106 = .ok (.iconst 4, 1) := by decide +kernel
theorem dX12_look_107 : decode cX12_look 107 = .ok (.iaload, 1) := by decide +kernel
theorem dX12_look_108 : decode cX12_look 108 = .ok (.ireturn, 1) := by decide +kernel
theorem dX12_byHowMuch_0 : decode cX12_byHowMuch 0 = .ok (.aload_n 0, 1) := by decide +kernel
theorem dX12_byHowMuch_1 : decode cX12_byHowMuch 1 = .ok (.iconst 0, 1) := by decide +kernel
theorem dX12_byHowMuch_2 : decode cX12_byHowMuch 2 = .ok (.putfield 128, 3) := by decide +kernel
theorem dX12_byHowMuch_5 : decode cX12_byHowMuch 5 = .ok (.iload_n 1, 1) := by decide +kernel
theorem dX12_byHowMuch_6 : decode cX12_byHowMuch 6 = .ok (.invokestatic 135, 3) := by decide +kernel
theorem dX12_byHowMuch_9 : decode cX12_byHowMuch 9 = .ok (.ifCond .eq 12, 3) := by decide +kernel
theorem dX12_byHowMuch_12 : decode cX12_byHowMuch 12 = .ok (.iload_n 2, 1) := by decide +kernel
theorem dX12_byHowMuch_13 : decode cX12_byHowMuch 13 = .ok (.iconst 0, 1) := by decide +kernel
theorem dX12_byHowMuch_14 : decode cX12_byHowMuch 14 = .ok (.iconst 2, 1) := by decide +kernel
theorem dX12_byHowMuch_15 : decode cX12_byHowMuch 15 = .ok (.invokestatic 131, 3) := by decide +kernel
theorem dX12_byHowMuch_18 : decode cX12_byHowMuch 18 = .ok (.ifCond .ne 7, 3) := by decide +kernel
theorem dX12_byHowMuch_21 : decode cX12_byHowMuch 21 = .ok (.ldc_w 298, 3) := by decide +kernel
theorem dX12_byHowMuch_24 : decode cX12_byHowMuch 24 = .ok (.ireturn, 1) := by decide +kernel
theorem dX12_byHowMuch_25 : decode cX12_byHowMuch 25 = .ok (.iconst 0, 1) := by decide +kernel
theorem dX12_byHowMuch_26 : decode cX12_byHowMuch 26 = .ok (.istore_n 3, 1) := by decide +kernel
theorem dX12_byHowMuch_27 : decode cX12_byHowMuch 27 = .ok (.iconst 0, 1) := by decide +kernel
theorem dX12_byHowMuch_28 : decode cX12_byHowMuch 28 = .ok (.istore 4, 2) := by decide +kernel
theorem dX12_byHowMuch_30 : decode cX12_byHowMuch 30 = .ok (.iconst 0, 1) := by decide +kernel
theorem dX12_byHowMuch_31 : decode cX12_byHowMuch 31 = .ok (.istore 5, 2) := by decide +kernel
theorem dX12_byHowMuch_33 : decode cX12_byHowMuch 33 = .ok (.iconst 0, 1) := by decide +kernel
theorem dX12_byHowMuch_34 : decode cX12_byHowMuch 34 = .ok (.istore 6, 2) := by decide +kernel
theorem dX12_byHowMuch_36 : decode cX12_byHowMuch 36 = .ok (.iconst 0, 1) := by decide +kernel
theorem dX12_byHowMuch_37 : decode cX12_byHowMuch 37 = .ok (.istore 7, 2) := by decide +kernel
theorem dX12_byHowMuch_39 : decode cX12_byHowMuch 39 = .ok (.iload 7, 2) := by decide +kernel
theorem dX12_byHowMuch_41 : decode cX12_byHowMuch 41 = .ok (.aload_n 0, 1) := by decide +kernel
theorem dX12_byHowMuch_42 : decode cX12_byHowMuch 42 = .ok (.getfield 7, 3) := by decide +kernel
theorem dX12_byHowMuch_45 : decode cX12_byHowMuch 45 = .ok (.iconst 4, 1) := by decide +kernel
theorem dX12_byHowMuch_46 : decode cX12_byHowMuch 46 = .ok (.iaload, 1) := by decide +kernel
theorem dX12_byHowMuch_47 : decode cX12_byHowMuch 47 = .ok (.if_icmp .ge 103, 3) := by decide +kernel
theorem dX12_byHowMuch_50 : decode cX12_byHowMuch 50 = .ok (.aload_n 0, 1) := by decide +kernel
theorem dX12_byHowMuch_51 : decode cX12_byHowMuch 51 = .ok (.getfield 19, 3) := by decide +kernel
theorem dX12_byHowMuch_54 : decode cX12_byHowMuch 54 = .ok (.aload_n 0, 1) := by decide +kernel
theorem dX12_byHowMuch_55 : decode cX12_byHowMuch 55 = .ok (.getfield 61, 3) := by decide +kernel
theorem dX12_byHowMuch_58 : decode cX12_byHowMuch 58 = .ok (.iload 7, 2) := by decide +kernel
theorem dX12_byHowMuch_60 : decode cX12_byHowMuch 60 = .ok (.iaload, 1) := by decide +kernel
theorem dX12_byHowMuch_61 : decode cX12_byHowMuch 61 = .ok (.iaload, 1) := by decide +kernel
theorem dX12_byHowMuch_62 : decode cX12_byHowMuch 62 = .ok (.iload_n 1, 1) := by decide +kernel
theorem dX12_byHowMuch_63 : decode cX12_byHowMuch 63 = .ok (.if_icmp .ne 81, 3) := by decide +kernel
theorem dX12_byHowMuch_66 : decode cX12_byHowMuch 66 = .ok (.aload_n 0, 1) := by decide +kernel
theorem dX12_byHowMuch_67 : decode cX12_byHowMuch 67 = .ok (.aload_n 0, 1) := by decide +kernel
theorem dX12_byHowMuch_68 : decode cX12_byHowMuch 68 = .ok (.getfield 61, 3) := by decide +kernel
theorem dX12_byHowMuch_71 : decode cX12_byHowMuch 71 = .ok (.iload 7, 2) := by decide +kernel
theorem dX12_byHowMuch_73 : decode cX12_byHowMuch 73 = .ok (.iaload, 1) := by decide +kernel
theorem dX12_byHowMuch_74 : decode cX12_byHowMuch 74 = .ok (.aload_n 0, 1) := by decide +kernel
theorem dX12_byHowMuch_75 : decode cX12_byHowMuch 75 = .ok (.getfield 64, 3) := by decide +kernel
theorem dX12_byHowMuch_78 : decode cX12_byHowMuch 78 = .ok (.iload 7, 2) := by decide +kernel
theorem dX12_byHowMuch_80 : decode cX12_byHowMuch 80 = .ok (.iaload, 1) := by decide +kernel
theorem dX12_byHowMuch_81 : decode cX12_byHowMuch 81 = .ok (.invokevirtual 192, 3) := by decide +kernel
theorem dX12_byHowMuch_84 : decode cX12_byHowMuch 84 = .ok (.aload_n 0, 1) := by decide +kernel
theorem dX12_byHowMuch_85 : decode cX12_byHowMuch 85 = .ok (.getfield 67, 3) := by decide +kernel
theorem dX12_byHowMuch_88 : decode cX12_byHowMuch 88 = .ok (.iload 7, 2) := by decide +kernel
theorem dX12_byHowMuch_90 : decode cX12_byHowMuch 90 = .ok (.iaload, 1) := by decide +kernel
theorem dX12_byHowMuch_91 : decode cX12_byHowMuch 91 = .ok (.isub, 1) := by decide +kernel
theorem dX12_byHowMuch_92 : decode cX12_byHowMuch 92 = .ok (.istore 8, 2) := by decide +kernel
theorem dX12_byHowMuch_94 : decode cX12_byHowMuch 94 = .ok (.iload 4, 2) := by decide +kernel
theorem dX12_byHowMuch_96 : decode cX12_byHowMuch 96 = .ok (.iload 8, 2) := by decide +kernel
theorem dX12_byHowMuch_98 : decode cX12_byHowMuch 98 = .ok (.iadd, 1) := by decide +kernel
theorem dX12_byHowMuch_99 : decode cX12_byHowMuch 99 = .ok (.istore 4, 2) := by decide +kernel
theorem dX12_byHowMuch_101 : decode cX12_byHowMuch 101 = .ok (.iload_n 3, 1) := by decide +kernel
theorem dX12_byHowMuch_102 : decode cX12_byHowMuch 102 = .ok (.ifCond .eq 10, 3) := by decide +kernel
theorem dX12_byHowMuch_105 : decode cX12_byHowMuch 105 = .ok (.iload 8, 2) := by decide +kernel
theorem dX12_byHowMuch_107 : decode cX12_byHowMuch 107 = .ok (.iload 5, 2) := by decide +kernel
theorem dX12_byHowMuch_109 : decode cX12_byHowMuch 109 = .ok (.if_icmp .ge 8, 3) := by decide +kernel
theorem dX12_byHowMuch_112 : decode cX12_byHowMuch 112 = .ok (.iload 8, 2) := by decide +kernel
theorem dX12_byHowMuch_114 : decode cX12_byHowMuch 114 = .ok (.goto 5, 3) := by decide +kernel
theorem dX12_byHowMuch_117 : decode cX12_byHowMuch 117 = .ok (.iload 5, 2) := by decide +kernel
theorem dX12_byHowMuch_119 : decode cX12_byHowMuch 119 = .ok (.istore 5, 2) := by decide +kernel
theorem dX12_byHowMuch_121 : decode cX12_byHowMuch 121 = .ok (.iload_n 3, 1) := by decide +kernel
theorem dX12_byHowMuch_122 : decode cX12_byHowMuch 122 = .ok (.ifCond .eq 10, 3) := by decide +kernel
theorem dX12_byHowMuch_125 : decode cX12_byHowMuch 125 = .ok (.iload 8, 2) := by decide +kernel
theorem dX12_byHowMuch_127 : decode cX12_byHowMuch 127 = .ok (.iload 6, 2) := by decide +kernel
theorem dX12_byHowMuch_129 : decode cX12_byHowMuch 129 = .ok (.if_icmp .le 8, 3) := by decide +kernel
theorem dX12_byHowMuch_132 : decode cX12_byHowMuch 132 = .ok (.iload 8, 2) := by decide +kernel
theorem dX12_byHowMuch_134 : decode cX12_byHowMuch 134 = .ok (.goto 5, 3) := by decide +kernel
theorem dX12_byHowMuch_137 : decode cX12_byHowMuch 137 = .ok (.iload 6, 2) := by decide +kernel
theorem dX12_byHowMuch_139 : decode cX12_byHowMuch 139 = .ok (.istore 6, 2) := by decide +kernel
theorem dX12_byHowMuch_141 : decode cX12_byHowMuch 141 = .ok (.iinc 3 1, 3) := by decide +kernel
theorem dX12_byHowMuch_144 : decode cX12_byHowMuch 144 = .ok (.iinc 7 1, 3) := by decide +kernel
theorem dX12_byHowMuch_147 : decode cX12_byHowMuch 147 = .ok (.goto (-108), 3) := by decide +kernel
theorem dX12_byHowMuch_150 : decode cX12_byHowMuch 150 = .ok (.iload_n 3, 1) := by decide +kernel
theorem dX12_byHowMuch_151 : decode cX12_byHowMuch 151 = .ok (.ifCond .ne 9, 3) := by decide +kernel
theorem dX12_byHowMuch_154 : decode cX12_byHowMuch 154 = .ok (.ldc_w 299, 3) := by decide +kernel
theorem dX12_byHowMuch_157 : decode cX12_byHowMuch 157 = .ok (.goto 24, 3) := by decide +kernel
theorem dX12_byHowMuch_160 : decode cX12_byHowMuch 160 = .ok (.iload_n 2, 1) := by decide +kernel
theorem dX12_byHowMuch_161 : decode cX12_byHowMuch 161 = .ok (.ifCond .ne 8, 3) := by decide +kernel
theorem dX12_byHowMuch_164 : decode cX12_byHowMuch 164 = .ok (.iload 4, 2) := by decide +kernel
theorem dX12_byHowMuch_166 : decode cX12_byHowMuch 166 = .ok (.goto 15, 3) := by decide +kernel
theorem dX12_byHowMuch_169 : decode cX12_byHowMuch 169 = .ok (.iload_n 2, 1) := by decide +kernel
theorem dX12_byHowMuch_170 : decode cX12_byHowMuch 170 = .ok (.iconst 1, 1) := by decide +kernel
theorem dX12_byHowMuch_171 : decode cX12_byHowMuch 171 = .ok (.if_icmp .ne 8, 3) := by decide +kernel
theorem dX12_byHowMuch_174 : decode cX12_byHowMuch 174 = .ok (.iload 5, 2) := by decide +kernel
theorem dX12_byHowMuch_176 : decode cX12_byHowMuch 176 = .ok (.goto 5, 3) := by decide +kernel
theorem dX12_byHowMuch_179 : decode cX12_byHowMuch 179 = .ok (.iload 6, 2) := by decide +kernel
theorem dX12_byHowMuch_181 : decode cX12_byHowMuch 181 = .ok (.ireturn, 1) := by decide +kernel
theorem dX12_apart_0 : decode cX12_apart 0 = .ok (.iload_n 0, 1) := by decide +kernel
theorem dX12_apart_1 : decode cX12_apart 1 = .ok (.iload_n 1, 1) := by decide +kernel
theorem dX12_apart_2 : decode cX12_apart 2 = .ok (.if_icmp .ge 9, 3) := by decide +kernel
theorem dX12_apart_5 : decode cX12_apart 5 = .ok (.iload_n 1, 1) := by decide +kernel
theorem dX12_apart_6 : decode cX12_apart 6 = .ok (.iload_n 0, 1) := by decide +kernel
theorem dX12_apart_7 : decode cX12_apart 7 = .ok (.isub, 1) := by decide +kernel
theorem dX12_apart_8 : decode cX12_apart 8 = .ok (.goto 6, 3) := by decide +kernel
theorem dX12_apart_11 : decode cX12_apart 11 = .ok (.iload_n 0, 1) := by decide +kernel
theorem dX12_apart_12 : decode cX12_apart 12 = .ok (.iload_n 1, 1) := by decide +kernel
theorem dX12_apart_13 : decode cX12_apart 13 = .ok (.isub, 1) := by decide +kernel
theorem dX12_apart_14 : decode cX12_apart 14 = .ok (.ireturn, 1) := by decide +kernel
theorem dX12_farOf_0 : decode cX12_farOf 0 = .ok (.iload_n 2, 1) := by decide +kernel
theorem dX12_farOf_1 : decode cX12_farOf 1 = .ok (.ifCond .ge 12, 3) := by decide +kernel
theorem dX12_farOf_4 : decode cX12_farOf 4 = .ok (.aload_n 0, 1) := by decide +kernel
theorem dX12_farOf_5 : decode cX12_farOf 5 = .ok (.getfield 28, 3) := by decide +kernel
theorem dX12_farOf_8 : decode cX12_farOf 8 = .ok (.iload_n 1, 1) := by decide +kernel
theorem dX12_farOf_9 : decode cX12_farOf 9 = .ok (.iaload, 1) := by decide +kernel
theorem dX12_farOf_10 : decode cX12_farOf 10 = .ok (.goto 9, 3) := by decide +kernel
theorem dX12_farOf_13 : decode cX12_farOf 13 = .ok (.aload_n 0, 1) := by decide +kernel
theorem dX12_farOf_14 : decode cX12_farOf 14 = .ok (.getfield 22, 3) := by decide +kernel
theorem dX12_farOf_17 : decode cX12_farOf 17 = .ok (.iload_n 2, 1) := by decide +kernel
theorem dX12_farOf_18 : decode cX12_farOf 18 = .ok (.iaload, 1) := by decide +kernel
theorem dX12_farOf_19 : decode cX12_farOf 19 = .ok (.istore 4, 2) := by decide +kernel
theorem dX12_farOf_21 : decode cX12_farOf 21 = .ok (.iload_n 2, 1) := by decide +kernel
theorem dX12_farOf_22 : decode cX12_farOf 22 = .ok (.ifCond .ge 12, 3) := by decide +kernel
theorem dX12_farOf_25 : decode cX12_farOf 25 = .ok (.aload_n 0, 1) := by decide +kernel
theorem dX12_farOf_26 : decode cX12_farOf 26 = .ok (.getfield 31, 3) := by decide +kernel
theorem dX12_farOf_29 : decode cX12_farOf 29 = .ok (.iload_n 1, 1) := by decide +kernel
theorem dX12_farOf_30 : decode cX12_farOf 30 = .ok (.iaload, 1) := by decide +kernel
theorem dX12_farOf_31 : decode cX12_farOf 31 = .ok (.goto 9, 3) := by decide +kernel
theorem dX12_farOf_34 : decode cX12_farOf 34 = .ok (.aload_n 0, 1) := by decide +kernel
theorem dX12_farOf_35 : decode cX12_farOf 35 = .ok (.getfield 25, 3) := by decide +kernel
theorem dX12_farOf_38 : decode cX12_farOf 38 = .ok (.iload_n 2, 1) := by decide +kernel
theorem dX12_farOf_39 : decode cX12_farOf 39 = .ok (.iaload, 1) := by decide +kernel
theorem dX12_farOf_40 : decode cX12_farOf 40 = .ok (.istore 5, 2) := by decide +kernel
theorem dX12_farOf_42 : decode cX12_farOf 42 = .ok (.iload_n 3, 1) := by decide +kernel
theorem dX12_farOf_43 : decode cX12_farOf 43 = .ok (.ifCond .ge 12, 3) := by decide +kernel
theorem dX12_farOf_46 : decode cX12_farOf 46 = .ok (.aload_n 0, 1) := by decide +kernel
theorem dX12_farOf_47 : decode cX12_farOf 47 = .ok (.getfield 28, 3) := by decide +kernel
theorem dX12_farOf_50 : decode cX12_farOf 50 = .ok (.iload_n 1, 1) := by decide +kernel
theorem dX12_farOf_51 : decode cX12_farOf 51 = .ok (.iaload, 1) := by decide +kernel
theorem dX12_farOf_52 : decode cX12_farOf 52 = .ok (.goto 9, 3) := by decide +kernel
theorem dX12_farOf_55 : decode cX12_farOf 55 = .ok (.aload_n 0, 1) := by decide +kernel
theorem dX12_farOf_56 : decode cX12_farOf 56 = .ok (.getfield 22, 3) := by decide +kernel
theorem dX12_farOf_59 : decode cX12_farOf 59 = .ok (.iload_n 3, 1) := by decide +kernel
theorem dX12_farOf_60 : decode cX12_farOf 60 = .ok (.iaload, 1) := by decide +kernel
theorem dX12_farOf_61 : decode cX12_farOf 61 = .ok (.istore 6, 2) := by decide +kernel
theorem dX12_farOf_63 : decode cX12_farOf 63 = .ok (.iload_n 3, 1) := by decide +kernel
theorem dX12_farOf_64 : decode cX12_farOf 64 = .ok (.ifCond .ge 12, 3) := by decide +kernel
theorem dX12_farOf_67 : decode cX12_farOf 67 = .ok (.aload_n 0, 1) := by decide +kernel
theorem dX12_farOf_68 : decode cX12_farOf 68 = .ok (.getfield 31, 3) := by decide +kernel
theorem dX12_farOf_71 : decode cX12_farOf 71 = .ok (.iload_n 1, 1) := by decide +kernel
theorem dX12_farOf_72 : decode cX12_farOf 72 = .ok (.iaload, 1) := by decide +kernel
theorem dX12_farOf_73 : decode cX12_farOf 73 = .ok (.goto 9, 3) := by decide +kernel
theorem dX12_farOf_76 : decode cX12_farOf 76 = .ok (.aload_n 0, 1) := by decide +kernel
theorem dX12_farOf_77 : decode cX12_farOf 77 = .ok (.getfield 25, 3) := by decide +kernel
theorem dX12_farOf_80 : decode cX12_farOf 80 = .ok (.iload_n 3, 1) := by decide +kernel
theorem dX12_farOf_81 : decode cX12_farOf 81 = .ok (.iaload, 1) := by decide +kernel
theorem dX12_farOf_82 : decode cX12_farOf 82 = .ok (.istore 7, 2) := by decide +kernel
theorem dX12_farOf_84 : decode cX12_farOf 84 = .ok (.iload 4, 2) := by decide +kernel
theorem dX12_farOf_86 : decode cX12_farOf 86 = .ok (.iload 6, 2) := by decide +kernel
theorem dX12_farOf_88 : decode cX12_farOf 88 = .ok (.invokestatic 300, 3) := by decide +kernel
theorem dX12_farOf_91 : decode cX12_farOf 91 = .ok (.iload 5, 2) := by decide +kernel
theorem dX12_farOf_93 : decode cX12_farOf 93 = .ok (.iload 7, 2) := by decide +kernel
theorem dX12_farOf_95 : decode cX12_farOf 95 = .ok (.invokestatic 300, 3) := by decide +kernel
theorem dX12_farOf_98 : decode cX12_farOf 98 = .ok (.iadd, 1) := by decide +kernel
theorem dX12_farOf_99 : decode cX12_farOf 99 = .ok (.ireturn, 1) := by decide +kernel
theorem dX12_findRound_0 : decode cX12_findRound 0 = .ok (.bipush (-4), 2) := by decide +kernel
theorem dX12_findRound_2 : decode cX12_findRound 2 = .ok (.istore_n 3, 1) := by decide +kernel
theorem dX12_findRound_3 : decode cX12_findRound 3 = .ok (.iconst 1, 1) := by decide +kernel
theorem dX12_findRound_4 : decode cX12_findRound 4 = .ok (.istore 4, 2) := by decide +kernel
theorem dX12_findRound_6 : decode cX12_findRound 6 = .ok (.iconst 0, 1) := by decide +kernel
theorem dX12_findRound_7 : decode cX12_findRound 7 = .ok (.istore 5, 2) := by decide +kernel
theorem dX12_findRound_9 : decode cX12_findRound 9 = .ok (.iload 5, 2) := by decide +kernel
theorem dX12_findRound_11 : decode cX12_findRound 11 = .ok (.aload_n 0, 1) := by decide +kernel
theorem dX12_findRound_12 : decode cX12_findRound 12 = .ok (.getfield 303, 3) := by decide +kernel
theorem dX12_findRound_15 : decode cX12_findRound 15 = .ok (.if_icmp .ge 18, 3) := by decide +kernel
theorem dX12_findRound_18 : decode cX12_findRound 18 = .ok (.iload 4, 2) := by decide +kernel
theorem dX12_findRound_20 : decode cX12_findRound 20 = .ok (.aload_n 0, 1) := by decide +kernel
theorem dX12_findRound_21 : decode cX12_findRound 21 = .ok (.getfield 303, 3) := by decide +kernel
theorem dX12_findRound_24 : decode cX12_findRound 24 = .ok (.imul, 1) := by decide +kernel
theorem dX12_findRound_25 : decode cX12_findRound 25 = .ok (.istore 4, 2) := by decide +kernel
theorem dX12_findRound_27 : decode cX12_findRound 27 = .ok (.iinc 5 1, 3) := by decide +kernel
theorem dX12_findRound_30 : decode cX12_findRound 30 = .ok (.goto (-21), 3) := by decide +kernel
theorem dX12_findRound_33 : decode cX12_findRound 33 = .ok (.iconst 0, 1) := by decide +kernel
theorem dX12_findRound_34 : decode cX12_findRound 34 = .ok (.istore 5, 2) := by decide +kernel
theorem dX12_findRound_36 : decode cX12_findRound 36 = .ok (.iload 5, 2) := by decide +kernel
theorem dX12_findRound_38 : decode cX12_findRound 38 = .ok (.iload 4, 2) := by decide +kernel
theorem dX12_findRound_40 : decode cX12_findRound 40 = .ok (.if_icmp .ge 265, 3) := by decide +kernel
theorem dX12_findRound_43 : decode cX12_findRound 43 = .ok (.iload 5, 2) := by decide +kernel
theorem dX12_findRound_45 : decode cX12_findRound 45 = .ok (.istore 6, 2) := by decide +kernel
theorem dX12_findRound_47 : decode cX12_findRound 47 = .ok (.iconst 0, 1) := by decide +kernel
theorem dX12_findRound_48 : decode cX12_findRound 48 = .ok (.istore 7, 2) := by decide +kernel
theorem dX12_findRound_50 : decode cX12_findRound 50 = .ok (.iconst 1, 1) := by decide +kernel
theorem dX12_findRound_51 : decode cX12_findRound 51 = .ok (.istore 8, 2) := by decide +kernel
theorem dX12_findRound_53 : decode cX12_findRound 53 = .ok (.aload_n 0, 1) := by decide +kernel
theorem dX12_findRound_54 : decode cX12_findRound 54 = .ok (.getfield 303, 3) := by decide +kernel
theorem dX12_findRound_57 : decode cX12_findRound 57 = .ok (.iconst 1, 1) := by decide +kernel
theorem dX12_findRound_58 : decode cX12_findRound 58 = .ok (.isub, 1) := by decide +kernel
theorem dX12_findRound_59 : decode cX12_findRound 59 = .ok (.istore 9, 2) := by decide +kernel
theorem dX12_findRound_61 : decode cX12_findRound 61 = .ok (.iload 9, 2) := by decide +kernel
theorem dX12_findRound_63 : decode cX12_findRound 63 = .ok (.ifCond .lt 78, 3) := by decide +kernel
theorem dX12_findRound_66 : decode cX12_findRound 66 = .ok (.aload_n 0, 1) := by decide +kernel
theorem dX12_findRound_67 : decode cX12_findRound 67 = .ok (.getfield 96, 3) := by decide +kernel
theorem dX12_findRound_70 : decode cX12_findRound 70 = .ok (.iload 9, 2) := by decide +kernel
theorem dX12_findRound_72 : decode cX12_findRound 72 = .ok (.aload_n 0, 1) := by decide +kernel
theorem dX12_findRound_73 : decode cX12_findRound 73 = .ok (.getfield 93, 3) := by decide +kernel
theorem dX12_findRound_76 : decode cX12_findRound 76 = .ok (.iload 6, 2) := by decide +kernel
theorem dX12_findRound_78 : decode cX12_findRound 78 = .ok (.aload_n 0, 1) := by decide +kernel
theorem dX12_findRound_79 : decode cX12_findRound 79 = .ok (.getfield 303, 3) := by decide +kernel
theorem dX12_findRound_82 : decode cX12_findRound 82 = .ok (.irem, 1) := by decide +kernel
theorem dX12_findRound_83 : decode cX12_findRound 83 = .ok (.iaload, 1) := by decide +kernel
theorem dX12_findRound_84 : decode cX12_findRound 84 = .ok (.iastore, 1) := by decide +kernel
theorem dX12_findRound_85 : decode cX12_findRound 85 = .ok (.iload 8, 2) := by decide +kernel
theorem dX12_findRound_87 : decode cX12_findRound 87 = .ok (.ifCond .eq 22, 3) := by decide +kernel
theorem dX12_findRound_90 : decode cX12_findRound 90 = .ok (.iload 7, 2) := by decide +kernel
theorem dX12_findRound_92 : decode cX12_findRound 92 = .ok (.iload 6, 2) := by decide +kernel
theorem dX12_findRound_94 : decode cX12_findRound 94 = .ok (.aload_n 0, 1) := by decide +kernel
theorem dX12_findRound_95 : decode cX12_findRound 95 = .ok (.getfield 303, 3) := by decide +kernel
theorem dX12_findRound_98 : decode cX12_findRound 98 = .ok (.irem, 1) := by decide +kernel
theorem dX12_findRound_99 : decode cX12_findRound 99 = .ok (.ishr, 1) := by decide +kernel
theorem dX12_findRound_100 : decode cX12_findRound 100 = .ok (.iconst 1, 1) := by decide +kernel
theorem dX12_findRound_101 : decode cX12_findRound 101 = .ok (.iand, 1) := by decide +kernel
theorem dX12_findRound_102 : decode cX12_findRound 102 = .ok (.ifCond .ne 7, 3) := by decide +kernel
theorem dX12_findRound_105 : decode cX12_findRound 105 = .ok (.iconst 1, 1) := by decide +kernel
theorem dX12_findRound_106 : decode cX12_findRound 106 = .ok (.goto 4, 3) := by decide +kernel
theorem dX12_findRound_109 : decode cX12_findRound 109 = .ok (.iconst 0, 1) := by decide +kernel
theorem dX12_findRound_110 : decode cX12_findRound 110 = .ok (.istore 8, 2) := by decide +kernel
theorem dX12_findRound_112 : decode cX12_findRound 112 = .ok (.iload 7, 2) := by decide +kernel
theorem dX12_findRound_114 : decode cX12_findRound 114 = .ok (.iconst 1, 1) := by decide +kernel
theorem dX12_findRound_115 : decode cX12_findRound 115 = .ok (.iload 6, 2) := by decide +kernel
theorem dX12_findRound_117 : decode cX12_findRound 117 = .ok (.aload_n 0, 1) := by decide +kernel
theorem dX12_findRound_118 : decode cX12_findRound 118 = .ok (.getfield 303, 3) := by decide +kernel
theorem dX12_findRound_121 : decode cX12_findRound 121 = .ok (.irem, 1) := by decide +kernel
theorem dX12_findRound_122 : decode cX12_findRound 122 = .ok (.ishl, 1) := by decide +kernel
theorem dX12_findRound_123 : decode cX12_findRound 123 = .ok (.ior, 1) := by decide +kernel
theorem dX12_findRound_124 : decode cX12_findRound 124 = .ok (.istore 7, 2) := by decide +kernel
theorem dX12_findRound_126 : decode cX12_findRound 126 = .ok (.iload 6, 2) := by decide +kernel
theorem dX12_findRound_128 : decode cX12_findRound 128 = .ok (.aload_n 0, 1) := by decide +kernel
theorem dX12_findRound_129 : decode cX12_findRound 129 = .ok (.getfield 303, 3) := by decide +kernel
theorem dX12_findRound_132 : decode cX12_findRound 132 = .ok (.idiv, 1) := by decide +kernel
theorem dX12_findRound_133 : decode cX12_findRound 133 = .ok (.istore 6, 2) := by decide +kernel
theorem dX12_findRound_135 : decode cX12_findRound 135 = .ok (.iinc 9 (-1), 3) := by decide +kernel
theorem dX12_findRound_138 : decode cX12_findRound 138 = .ok (.goto (-77), 3) := by decide +kernel
theorem dX12_findRound_141 : decode cX12_findRound 141 = .ok (.iconst 0, 1) := by decide +kernel
theorem dX12_findRound_142 : decode cX12_findRound 142 = .ok (.istore 9, 2) := by decide +kernel
theorem dX12_findRound_144 : decode cX12_findRound 144 = .ok (.iconst (-1), 1) := by decide +kernel
theorem dX12_findRound_145 : decode cX12_findRound 145 = .ok (.istore 10, 2) := by decide +kernel
theorem dX12_findRound_147 : decode cX12_findRound 147 = .ok (.iconst 0, 1) := by decide +kernel
theorem dX12_findRound_148 : decode cX12_findRound 148 = .ok (.istore 11, 2) := by decide +kernel
theorem dX12_findRound_150 : decode cX12_findRound 150 = .ok (.iload 11, 2) := by decide +kernel
theorem dX12_findRound_152 : decode cX12_findRound 152 = .ok (.aload_n 0, 1) := by decide +kernel
theorem dX12_findRound_153 : decode cX12_findRound 153 = .ok (.getfield 303, 3) := by decide +kernel
theorem dX12_findRound_156 : decode cX12_findRound 156 = .ok (.if_icmp .ge 71, 3) := by decide +kernel
theorem dX12_findRound_159 : decode cX12_findRound 159 = .ok (.iload 8, 2) := by decide +kernel
theorem dX12_findRound_161 : decode cX12_findRound 161 = .ok (.ifCond .eq 66, 3) := by decide +kernel
theorem dX12_findRound_164 : decode cX12_findRound 164 = .ok (.iload 9, 2) := by decide +kernel
theorem dX12_findRound_166 : decode cX12_findRound 166 = .ok (.aload_n 0, 1) := by decide +kernel
theorem dX12_findRound_167 : decode cX12_findRound 167 = .ok (.iload_n 1, 1) := by decide +kernel
theorem dX12_findRound_168 : decode cX12_findRound 168 = .ok (.iload 10, 2) := by decide +kernel
theorem dX12_findRound_170 : decode cX12_findRound 170 = .ok (.aload_n 0, 1) := by decide +kernel
theorem dX12_findRound_171 : decode cX12_findRound 171 = .ok (.getfield 96, 3) := by decide +kernel
theorem dX12_findRound_174 : decode cX12_findRound 174 = .ok (.iload 11, 2) := by decide +kernel
theorem dX12_findRound_176 : decode cX12_findRound 176 = .ok (.iaload, 1) := by decide +kernel
theorem dX12_findRound_177 : decode cX12_findRound 177 = .ok (.invokevirtual 306, 3) := by decide +kernel
theorem dX12_findRound_180 : decode cX12_findRound 180 = .ok (.iadd, 1) := by decide +kernel
theorem dX12_findRound_181 : decode cX12_findRound 181 = .ok (.istore 9, 2) := by decide +kernel
theorem dX12_findRound_183 : decode cX12_findRound 183 = .ok (.aload_n 0, 1) := by decide +kernel
theorem dX12_findRound_184 : decode cX12_findRound 184 = .ok (.getfield 96, 3) := by decide +kernel
theorem dX12_findRound_187 : decode cX12_findRound 187 = .ok (.iload 11, 2) := by decide +kernel
theorem dX12_findRound_189 : decode cX12_findRound 189 = .ok (.iaload, 1) := by decide +kernel
theorem dX12_findRound_190 : decode cX12_findRound 190 = .ok (.istore 10, 2) := by decide +kernel
theorem dX12_findRound_192 : decode cX12_findRound 192 = .ok (.iload_n 2, 1) := by decide +kernel
theorem dX12_findRound_193 : decode cX12_findRound 193 = .ok (.iload 9, 2) := by decide +kernel
theorem dX12_findRound_195 : decode cX12_findRound 195 = .ok (.iadd, 1) := by decide +kernel
theorem dX12_findRound_196 : decode cX12_findRound 196 = .ok (.aload_n 0, 1) := by decide +kernel
theorem dX12_findRound_197 : decode cX12_findRound 197 = .ok (.getfield 7, 3) := by decide +kernel
theorem dX12_findRound_200 : decode cX12_findRound 200 = .ok (.bipush 50, 2) := by decide +kernel
theorem dX12_findRound_202 : decode cX12_findRound 202 = .ok (.aload_n 0, 1) := by decide +kernel
theorem dX12_findRound_203 : decode cX12_findRound 203 = .ok (.getfield 96, 3) := by decide +kernel
theorem dX12_findRound_206 : decode cX12_findRound 206 = .ok (.iload 11, 2) := by decide +kernel
theorem dX12_findRound_208 : decode cX12_findRound 208 = .ok (.iaload, 1) := by decide +kernel
theorem dX12_findRound_209 : decode cX12_findRound 209 = .ok (.iadd, 1) := by decide +kernel
theorem dX12_findRound_210 : decode cX12_findRound 210 = .ok (.iaload, 1) := by decide +kernel
theorem dX12_findRound_211 : decode cX12_findRound 211 = .ok (.if_icmp .gt 7, 3) := by decide +kernel
theorem dX12_findRound_214 : decode cX12_findRound 214 = .ok (.iconst 1, 1) := by decide +kernel
theorem dX12_findRound_215 : decode cX12_findRound 215 = .ok (.goto 4, 3) := by decide +kernel
theorem dX12_findRound_218 : decode cX12_findRound 218 = .ok (.iconst 0, 1) := by decide +kernel
theorem dX12_findRound_219 : decode cX12_findRound 219 = .ok (.istore 8, 2) := by decide +kernel
theorem dX12_findRound_221 : decode cX12_findRound 221 = .ok (.iinc 11 1, 3) := by decide +kernel
theorem dX12_findRound_224 : decode cX12_findRound 224 = .ok (.goto (-74), 3) := by decide +kernel
theorem dX12_findRound_227 : decode cX12_findRound 227 = .ok (.iload 9, 2) := by decide +kernel
theorem dX12_findRound_229 : decode cX12_findRound 229 = .ok (.iload 8, 2) := by decide +kernel
theorem dX12_findRound_231 : decode cX12_findRound 231 = .ok (.ifCond .eq 14, 3) := by decide +kernel
theorem dX12_findRound_234 : decode cX12_findRound 234 = .ok (.aload_n 0, 1) := by decide +kernel
theorem dX12_findRound_235 : decode cX12_findRound 235 = .ok (.iload_n 1, 1) := by decide +kernel
theorem dX12_findRound_236 : decode cX12_findRound 236 = .ok (.iload 10, 2) := by decide +kernel
theorem dX12_findRound_238 : decode cX12_findRound 238 = .ok (.iconst (-1), 1) := by decide +kernel
theorem dX12_findRound_239 : decode cX12_findRound 239 = .ok (.invokevirtual 306, 3) := by decide +kernel
theorem dX12_findRound_242 : decode cX12_findRound 242 = .ok (.goto 4, 3) := by decide +kernel
theorem dX12_findRound_245 : decode cX12_findRound 245 = .ok (.iconst 0, 1) := by decide +kernel
theorem dX12_findRound_246 : decode cX12_findRound 246 = .ok (.iadd, 1) := by decide +kernel
theorem dX12_findRound_247 : decode cX12_findRound 247 = .ok (.istore 9, 2) := by decide +kernel
theorem dX12_findRound_249 : decode cX12_findRound 249 = .ok (.iload 8, 2) := by decide +kernel
theorem dX12_findRound_251 : decode cX12_findRound 251 = .ok (.ifCond .eq 48, 3) := by decide +kernel
theorem dX12_findRound_254 : decode cX12_findRound 254 = .ok (.iload_n 3, 1) := by decide +kernel
theorem dX12_findRound_255 : decode cX12_findRound 255 = .ok (.ifCond .lt 9, 3) := by decide +kernel
theorem dX12_findRound_258 : decode cX12_findRound 258 = .ok (.iload 9, 2) := by decide +kernel
theorem dX12_findRound_260 : decode cX12_findRound 260 = .ok (.iload_n 3, 1) := by decide +kernel
theorem dX12_findRound_261 : decode cX12_findRound 261 = .ok (.if_icmp .ge 38, 3) := by decide +kernel
theorem dX12_findRound_264 : decode cX12_findRound 264 = .ok (.iload 9, 2) := by decide +kernel
theorem dX12_findRound_266 : decode cX12_findRound 266 = .ok (.istore_n 3, 1) := by decide +kernel
theorem dX12_findRound_267 : decode cX12_findRound 267 = .ok (.iconst 0, 1) := by decide +kernel
theorem dX12_findRound_268 : decode cX12_findRound 268 = .ok (.istore 11, 2) := by decide +kernel
theorem dX12_findRound_270 : decode cX12_findRound 270 = .ok (.iload 11, 2) := by decide +kernel
theorem dX12_findRound_272 : decode cX12_findRound 272 = .ok (.aload_n 0, 1) := by decide +kernel
theorem dX12_findRound_273 : decode cX12_findRound 273 = .ok (.getfield 303, 3) := by decide +kernel
theorem dX12_findRound_276 : decode cX12_findRound 276 = .ok (.if_icmp .ge 23, 3) := by decide +kernel
theorem dX12_findRound_279 : decode cX12_findRound 279 = .ok (.aload_n 0, 1) := by decide +kernel
theorem dX12_findRound_280 : decode cX12_findRound 280 = .ok (.getfield 99, 3) := by decide +kernel
theorem dX12_findRound_283 : decode cX12_findRound 283 = .ok (.iload 11, 2) := by decide +kernel
theorem dX12_findRound_285 : decode cX12_findRound 285 = .ok (.aload_n 0, 1) := by decide +kernel
theorem dX12_findRound_286 : decode cX12_findRound 286 = .ok (.getfield 96, 3) := by decide +kernel
theorem dX12_findRound_289 : decode cX12_findRound 289 = .ok (.iload 11, 2) := by decide +kernel
theorem dX12_findRound_291 : decode cX12_findRound 291 = .ok (.iaload, 1) := by decide +kernel
theorem dX12_findRound_292 : decode cX12_findRound 292 = .ok (.iastore, 1) := by decide +kernel
theorem dX12_findRound_293 : decode cX12_findRound 293 = .ok (.iinc 11 1, 3) := by decide +kernel
theorem dX12_findRound_296 : decode cX12_findRound 296 = .ok (.goto (-26), 3) := by decide +kernel
theorem dX12_findRound_299 : decode cX12_findRound 299 = .ok (.iinc 5 1, 3) := by decide +kernel
theorem dX12_findRound_302 : decode cX12_findRound 302 = .ok (.goto (-266), 3) := by decide +kernel
theorem dX12_findRound_305 : decode cX12_findRound 305 = .ok (.iload_n 3, 1) := by decide +kernel
theorem dX12_findRound_306 : decode cX12_findRound 306 = .ok (.ireturn, 1) := by decide +kernel
theorem dX12_findStops_0 : decode cX12_findStops 0 = .ok (.aload_n 0, 1) := by decide +kernel
theorem dX12_findStops_1 : decode cX12_findStops 1 = .ok (.iconst 0, 1) := by decide +kernel
theorem dX12_findStops_2 : decode cX12_findStops 2 = .ok (.putfield 303, 3) := by decide +kernel
theorem dX12_findStops_5 : decode cX12_findStops 5 = .ok (.aload_n 0, 1) := by decide +kernel
theorem dX12_findStops_6 : decode cX12_findStops 6 = .ok (.getfield 117, 3) := by decide +kernel
theorem dX12_findStops_9 : decode cX12_findStops 9 = .ok (.iload_n 1, 1) := by decide +kernel
theorem dX12_findStops_10 : decode cX12_findStops 10 = .ok (.iaload, 1) := by decide +kernel
theorem dX12_findStops_11 : decode cX12_findStops 11 = .ok (.iconst 1, 1) := by decide +kernel
theorem dX12_findStops_12 : decode cX12_findStops 12 = .ok (.bipush 7, 2) := by decide +kernel
theorem dX12_findStops_14 : decode cX12_findStops 14 = .ok (.invokestatic 131, 3) := by decide +kernel
theorem dX12_findStops_17 : decode cX12_findStops 17 = .ok (.ifCond .ne 6, 3) := by decide +kernel
theorem dX12_findStops_20 : decode cX12_findStops 20 = .ok (.bipush (-13), 2) := by decide +kernel
theorem dX12_findStops_22 : decode cX12_findStops 22 = .ok (.ireturn, 1) := by decide +kernel
theorem dX12_findStops_23 : decode cX12_findStops 23 = .ok (.iconst 0, 1) := by decide +kernel
theorem dX12_findStops_24 : decode cX12_findStops 24 = .ok (.istore_n 2, 1) := by decide +kernel
theorem dX12_findStops_25 : decode cX12_findStops 25 = .ok (.iload_n 2, 1) := by decide +kernel
theorem dX12_findStops_26 : decode cX12_findStops 26 = .ok (.aload_n 0, 1) := by decide +kernel
theorem dX12_findStops_27 : decode cX12_findStops 27 = .ok (.getfield 117, 3) := by decide +kernel
theorem dX12_findStops_30 : decode cX12_findStops 30 = .ok (.iload_n 1, 1) := by decide +kernel
theorem dX12_findStops_31 : decode cX12_findStops 31 = .ok (.iaload, 1) := by decide +kernel
theorem dX12_findStops_32 : decode cX12_findStops 32 = .ok (.if_icmp .ge 118, 3) := by decide +kernel
theorem dX12_findStops_35 : decode cX12_findStops 35 = .ok (.aload_n 0, 1) := by decide +kernel
theorem dX12_findStops_36 : decode cX12_findStops 36 = .ok (.getfield 120, 3) := by decide +kernel
theorem dX12_findStops_39 : decode cX12_findStops 39 = .ok (.bipush 80, 2) := by decide +kernel
theorem dX12_findStops_41 : decode cX12_findStops 41 = .ok (.iload_n 1, 1) := by decide +kernel
theorem dX12_findStops_42 : decode cX12_findStops 42 = .ok (.imul, 1) := by decide +kernel
theorem dX12_findStops_43 : decode cX12_findStops 43 = .ok (.iload_n 2, 1) := by decide +kernel
theorem dX12_findStops_44 : decode cX12_findStops 44 = .ok (.iadd, 1) := by decide +kernel
theorem dX12_findStops_45 : decode cX12_findStops 45 = .ok (.laload, 1) := by decide +kernel
theorem dX12_findStops_46 : decode cX12_findStops 46 = .ok (.l2i, 1) := by decide +kernel
theorem dX12_findStops_47 : decode cX12_findStops 47 = .ok (.istore_n 3, 1) := by decide +kernel
theorem dX12_findStops_48 : decode cX12_findStops 48 = .ok (.aload_n 0, 1) := by decide +kernel
theorem dX12_findStops_49 : decode cX12_findStops 49 = .ok (.iload_n 3, 1) := by decide +kernel
theorem dX12_findStops_50 : decode cX12_findStops 50 = .ok (.invokevirtual 139, 3) := by decide +kernel
theorem dX12_findStops_53 : decode cX12_findStops 53 = .ok (.ifCond .ne 6, 3) := by decide +kernel
theorem dX12_findStops_56 : decode cX12_findStops 56 = .ok (.bipush (-13), 2) := by decide +kernel
theorem dX12_findStops_58 : decode cX12_findStops 58 = .ok (.ireturn, 1) := by decide +kernel
theorem dX12_findStops_59 : decode cX12_findStops 59 = .ok (.aload_n 0, 1) := by decide +kernel
theorem dX12_findStops_60 : decode cX12_findStops 60 = .ok (.getfield 303, 3) := by decide +kernel
theorem dX12_findStops_63 : decode cX12_findStops 63 = .ok (.istore 4, 2) := by decide +kernel
theorem dX12_findStops_65 : decode cX12_findStops 65 = .ok (.iload 4, 2) := by decide +kernel
theorem dX12_findStops_67 : decode cX12_findStops 67 = .ok (.ifCond .le 38, 3) := by decide +kernel
theorem dX12_findStops_70 : decode cX12_findStops 70 = .ok (.aload_n 0, 1) := by decide +kernel
theorem dX12_findStops_71 : decode cX12_findStops 71 = .ok (.getfield 93, 3) := by decide +kernel
theorem dX12_findStops_74 : decode cX12_findStops 74 = .ok (.iload 4, 2) := by decide +kernel
theorem dX12_findStops_76 : decode cX12_findStops 76 = .ok (.iconst 1, 1) := by decide +kernel
theorem dX12_findStops_77 : decode cX12_findStops 77 = .ok (.isub, 1) := by decide +kernel
theorem dX12_findStops_78 : decode cX12_findStops 78 = .ok (.iaload, 1) := by decide +kernel
theorem dX12_findStops_79 : decode cX12_findStops 79 = .ok (.iload_n 3, 1) := by decide +kernel
theorem dX12_findStops_80 : decode cX12_findStops 80 = .ok (.if_icmp .le 25, 3) := by decide +kernel
theorem dX12_findStops_83 : decode cX12_findStops 83 = .ok (.aload_n 0, 1) := by decide +kernel
theorem dX12_findStops_84 : decode cX12_findStops 84 = .ok (.getfield 93, 3) := by decide +kernel
theorem dX12_findStops_87 : decode cX12_findStops 87 = .ok (.iload 4, 2) := by decide +kernel
theorem dX12_findStops_89 : decode cX12_findStops 89 = .ok (.aload_n 0, 1) := by decide +kernel
theorem dX12_findStops_90 : decode cX12_findStops 90 = .ok (.getfield 93, 3) := by decide +kernel
theorem dX12_findStops_93 : decode cX12_findStops 93 = .ok (.iload 4, 2) := by decide +kernel
theorem dX12_findStops_95 : decode cX12_findStops 95 = .ok (.iconst 1, 1) := by decide +kernel
theorem dX12_findStops_96 : decode cX12_findStops 96 = .ok (.isub, 1) := by decide +kernel
theorem dX12_findStops_97 : decode cX12_findStops 97 = .ok (.iaload, 1) := by decide +kernel
theorem dX12_findStops_98 : decode cX12_findStops 98 = .ok (.iastore, 1) := by decide +kernel
theorem dX12_findStops_99 : decode cX12_findStops 99 = .ok (.iinc 4 (-1), 3) := by decide +kernel
theorem dX12_findStops_102 : decode cX12_findStops 102 = .ok (.goto (-37), 3) := by decide +kernel
theorem dX12_findStops_105 : decode cX12_findStops 105 = .ok (.iload 4, 2) := by decide +kernel
theorem dX12_findStops_107 : decode cX12_findStops 107 = .ok (.ifCond .le 19, 3) := by decide +kernel
theorem dX12_findStops_110 : decode cX12_findStops 110 = .ok (.aload_n 0, 1) := by decide +kernel
theorem dX12_findStops_111 : decode cX12_findStops 111 = .ok (.getfield 93, 3) := by decide +kernel
theorem dX12_findStops_114 : decode cX12_findStops 114 = .ok (.iload 4, 2) := by decide +kernel
theorem dX12_findStops_116 : decode cX12_findStops 116 = .ok (.iconst 1, 1) := by decide +kernel
theorem dX12_findStops_117 : decode cX12_findStops 117 = .ok (.isub, 1) := by decide +kernel
theorem dX12_findStops_118 : decode cX12_findStops 118 = .ok (.iaload, 1) := by decide +kernel
theorem dX12_findStops_119 : decode cX12_findStops 119 = .ok (.iload_n 3, 1) := by decide +kernel
theorem dX12_findStops_120 : decode cX12_findStops 120 = .ok (.if_icmp .ne 6, 3) := by decide +kernel
theorem dX12_findStops_123 : decode cX12_findStops 123 = .ok (.bipush (-13), 2) := by decide +kernel
theorem dX12_findStops_125 : decode cX12_findStops 125 = .ok (.ireturn, 1) := by decide +kernel
theorem dX12_findStops_126 : decode cX12_findStops 126 = .ok (.aload_n 0, 1) := by decide +kernel
theorem dX12_findStops_127 : decode cX12_findStops 127 = .ok (.getfield 93, 3) := by decide +kernel
theorem dX12_findStops_130 : decode cX12_findStops 130 = .ok (.iload 4, 2) := by decide +kernel
theorem dX12_findStops_132 : decode cX12_findStops 132 = .ok (.iload_n 3, 1) := by decide +kernel
theorem dX12_findStops_133 : decode cX12_findStops 133 = .ok (.iastore, 1) := by decide +kernel
theorem dX12_findStops_134 : decode cX12_findStops 134 = .ok (.aload_n 0, 1) := by decide +kernel
theorem dX12_findStops_135 : decode cX12_findStops 135 = .ok (.dup, 1) := by decide +kernel
theorem dX12_findStops_136 : decode cX12_findStops 136 = .ok (.getfield 303, 3) := by decide +kernel
theorem dX12_findStops_139 : decode cX12_findStops 139 = .ok (.iconst 1, 1) := by decide +kernel
theorem dX12_findStops_140 : decode cX12_findStops 140 = .ok (.iadd, 1) := by decide +kernel
theorem dX12_findStops_141 : decode cX12_findStops 141 = .ok (.putfield 303, 3) := by decide +kernel
theorem dX12_findStops_144 : decode cX12_findStops 144 = .ok (.iinc 2 1, 3) := by decide +kernel
theorem dX12_findStops_147 : decode cX12_findStops 147 = .ok (.goto (-122), 3) := by decide +kernel
theorem dX12_findStops_150 : decode cX12_findStops 150 = .ok (.iconst 0, 1) := by decide +kernel
theorem dX12_findStops_151 : decode cX12_findStops 151 = .ok (.ireturn, 1) := by decide +kernel
theorem dX12_round_0 : decode cX12_round 0 = .ok (.aload_n 0, 1) := by decide +kernel
theorem dX12_round_1 : decode cX12_round 1 = .ok (.iconst 0, 1) := by decide +kernel
theorem dX12_round_2 : decode cX12_round 2 = .ok (.putfield 128, 3) := by decide +kernel
theorem dX12_round_5 : decode cX12_round 5 = .ok (.aload_n 0, 1) := by decide +kernel
theorem dX12_round_6 : decode cX12_round 6 = .ok (.iload_n 1, 1) := by decide +kernel
theorem dX12_round_7 : decode cX12_round 7 = .ok (.invokevirtual 142, 3) := by decide +kernel
theorem dX12_round_10 : decode cX12_round 10 = .ok (.ifCond .eq 35, 3) := by decide +kernel
theorem dX12_round_13 : decode cX12_round 13 = .ok (.iload_n 2, 1) := by decide +kernel
theorem dX12_round_14 : decode cX12_round 14 = .ok (.iconst 0, 1) := by decide +kernel
theorem dX12_round_15 : decode cX12_round 15 = .ok (.sipush 600, 3) := by decide +kernel
theorem dX12_round_18 : decode cX12_round 18 = .ok (.invokestatic 131, 3) := by decide +kernel
theorem dX12_round_21 : decode cX12_round 21 = .ok (.ifCond .eq 24, 3) := by decide +kernel
theorem dX12_round_24 : decode cX12_round 24 = .ok (.iload_n 3, 1) := by decide +kernel
theorem dX12_round_25 : decode cX12_round 25 = .ok (.iconst 0, 1) := by decide +kernel
theorem dX12_round_26 : decode cX12_round 26 = .ok (.bipush 7, 2) := by decide +kernel
theorem dX12_round_28 : decode cX12_round 28 = .ok (.invokestatic 131, 3) := by decide +kernel
theorem dX12_round_31 : decode cX12_round 31 = .ok (.ifCond .eq 14, 3) := by decide +kernel
theorem dX12_round_34 : decode cX12_round 34 = .ok (.iload 4, 2) := by decide +kernel
theorem dX12_round_36 : decode cX12_round 36 = .ok (.iconst (-1), 1) := by decide +kernel
theorem dX12_round_37 : decode cX12_round 37 = .ok (.bipush 6, 2) := by decide +kernel
theorem dX12_round_39 : decode cX12_round 39 = .ok (.invokestatic 131, 3) := by decide +kernel
theorem dX12_round_42 : decode cX12_round 42 = .ok (.ifCond .ne 5, 3) := by decide +kernel
theorem dX12_round_45 : decode cX12_round 45 = .ok (.iconst (-1), 1) := by decide +kernel
theorem dX12_round_46 : decode cX12_round 46 = .ok (.ireturn, 1) := by decide +kernel
theorem dX12_round_47 : decode cX12_round 47 = .ok (.aload_n 0, 1) := by decide +kernel
theorem dX12_round_48 : decode cX12_round 48 = .ok (.iload_n 3, 1) := by decide +kernel
theorem dX12_round_49 : decode cX12_round 49 = .ok (.iconst 0, 1) := by decide +kernel
theorem dX12_round_50 : decode cX12_round 50 = .ok (.invokevirtual 245, 3) := by decide +kernel
theorem dX12_round_53 : decode cX12_round 53 = .ok (.istore 5, 2) := by decide +kernel
theorem dX12_round_55 : decode cX12_round 55 = .ok (.iload 5, 2) := by decide +kernel
theorem dX12_round_57 : decode cX12_round 57 = .ok (.ifCond .ne 11, 3) := by decide +kernel
theorem dX12_round_60 : decode cX12_round 60 = .ok (.aload_n 0, 1) := by decide +kernel
theorem dX12_round_61 : decode cX12_round 61 = .ok (.iload_n 3, 1) := by decide +kernel
theorem dX12_round_62 : decode cX12_round 62 = .ok (.invokevirtual 309, 3) := by decide +kernel
theorem dX12_round_65 : decode cX12_round 65 = .ok (.goto 5, 3) := by decide +kernel
theorem dX12_round_68 : decode cX12_round 68 = .ok (.iload 5, 2) := by decide +kernel
theorem dX12_round_70 : decode cX12_round 70 = .ok (.istore 5, 2) := by decide +kernel
theorem dX12_round_72 : decode cX12_round 72 = .ok (.iload 5, 2) := by decide +kernel
theorem dX12_round_74 : decode cX12_round 74 = .ok (.ifCond .ge 6, 3) := by decide +kernel
theorem dX12_round_77 : decode cX12_round 77 = .ok (.iload 5, 2) := by decide +kernel
theorem dX12_round_79 : decode cX12_round 79 = .ok (.ireturn, 1) := by decide +kernel
theorem dX12_round_80 : decode cX12_round 80 = .ok (.iload 4, 2) := by decide +kernel
theorem dX12_round_82 : decode cX12_round 82 = .ok (.aload_n 0, 1) := by decide +kernel
theorem dX12_round_83 : decode cX12_round 83 = .ok (.getfield 303, 3) := by decide +kernel
theorem dX12_round_86 : decode cX12_round 86 = .ok (.if_icmp .lt 6, 3) := by decide +kernel
theorem dX12_round_89 : decode cX12_round 89 = .ok (.bipush (-4), 2) := by decide +kernel
theorem dX12_round_91 : decode cX12_round 91 = .ok (.ireturn, 1) := by decide +kernel
theorem dX12_round_92 : decode cX12_round 92 = .ok (.aload_n 0, 1) := by decide +kernel
theorem dX12_round_93 : decode cX12_round 93 = .ok (.iload_n 1, 1) := by decide +kernel
theorem dX12_round_94 : decode cX12_round 94 = .ok (.iload_n 2, 1) := by decide +kernel
theorem dX12_round_95 : decode cX12_round 95 = .ok (.invokevirtual 312, 3) := by decide +kernel
theorem dX12_round_98 : decode cX12_round 98 = .ok (.istore 6, 2) := by decide +kernel
theorem dX12_round_100 : decode cX12_round 100 = .ok (.iload 6, 2) := by decide +kernel
theorem dX12_round_102 : decode cX12_round 102 = .ok (.ifCond .ge 8, 3) := by decide +kernel
theorem dX12_round_105 : decode cX12_round 105 = .ok (.bipush (-4), 2) := by decide +kernel
theorem dX12_round_107 : decode cX12_round 107 = .ok (.goto 21, 3) := by decide +kernel
theorem dX12_round_110 : decode cX12_round 110 = .ok (.iload 4, 2) := by decide +kernel
theorem dX12_round_112 : decode cX12_round 112 = .ok (.iconst (-1), 1) := by decide +kernel
theorem dX12_round_113 : decode cX12_round 113 = .ok (.if_icmp .ne 8, 3) := by decide +kernel
theorem dX12_round_116 : decode cX12_round 116 = .ok (.iload 6, 2) := by decide +kernel
theorem dX12_round_118 : decode cX12_round 118 = .ok (.goto 10, 3) := by decide +kernel
theorem dX12_round_121 : decode cX12_round 121 = .ok (.aload_n 0, 1) := by decide +kernel
theorem dX12_round_122 : decode cX12_round 122 = .ok (.getfield 99, 3) := by decide +kernel
theorem dX12_round_125 : decode cX12_round 125 = .ok (.iload 4, 2) := by decide +kernel
theorem dX12_round_127 : decode cX12_round 127 = .ok (.iaload, 1) := by decide +kernel
theorem dX12_round_128 : decode cX12_round 128 = .ok (.ireturn, 1) := by decide +kernel
theorem dX12_judge_0 : decode cX12_judge 0 = .ok (.aload_n 0, 1) := by decide +kernel
theorem dX12_judge_1 : decode cX12_judge 1 = .ok (.iconst 0, 1) := by decide +kernel
theorem dX12_judge_2 : decode cX12_judge 2 = .ok (.putfield 128, 3) := by decide +kernel
theorem dX12_judge_5 : decode cX12_judge 5 = .ok (.aload_n 0, 1) := by decide +kernel
theorem dX12_judge_6 : decode cX12_judge 6 = .ok (.iload_n 1, 1) := by decide +kernel
theorem dX12_judge_7 : decode cX12_judge 7 = .ok (.invokevirtual 142, 3) := by decide +kernel
theorem dX12_judge_10 : decode cX12_judge 10 = .ok (.ifCond .eq 24, 3) := by decide +kernel
theorem dX12_judge_13 : decode cX12_judge 13 = .ok (.iload_n 2, 1) := by decide +kernel
theorem dX12_judge_14 : decode cX12_judge 14 = .ok (.iconst 0, 1) := by decide +kernel
theorem dX12_judge_15 : decode cX12_judge 15 = .ok (.sipush 600, 3) := by decide +kernel
theorem dX12_judge_18 : decode cX12_judge 18 = .ok (.invokestatic 131, 3) := by decide +kernel
theorem dX12_judge_21 : decode cX12_judge 21 = .ok (.ifCond .eq 13, 3) := by decide +kernel
theorem dX12_judge_24 : decode cX12_judge 24 = .ok (.iload_n 3, 1) := by decide +kernel
theorem dX12_judge_25 : decode cX12_judge 25 = .ok (.iconst 0, 1) := by decide +kernel
theorem dX12_judge_26 : decode cX12_judge 26 = .ok (.bipush 7, 2) := by decide +kernel
theorem dX12_judge_28 : decode cX12_judge 28 = .ok (.invokestatic 131, 3) := by decide +kernel
theorem dX12_judge_31 : decode cX12_judge 31 = .ok (.ifCond .ne 5, 3) := by decide +kernel
theorem dX12_judge_34 : decode cX12_judge 34 = .ok (.iconst (-1), 1) := by decide +kernel
theorem dX12_judge_35 : decode cX12_judge 35 = .ok (.ireturn, 1) := by decide +kernel
theorem dX12_judge_36 : decode cX12_judge 36 = .ok (.aload_n 0, 1) := by decide +kernel
theorem dX12_judge_37 : decode cX12_judge 37 = .ok (.iload_n 3, 1) := by decide +kernel
theorem dX12_judge_38 : decode cX12_judge 38 = .ok (.iconst 0, 1) := by decide +kernel
theorem dX12_judge_39 : decode cX12_judge 39 = .ok (.invokevirtual 245, 3) := by decide +kernel
theorem dX12_judge_42 : decode cX12_judge 42 = .ok (.istore 4, 2) := by decide +kernel
theorem dX12_judge_44 : decode cX12_judge 44 = .ok (.iload 4, 2) := by decide +kernel
theorem dX12_judge_46 : decode cX12_judge 46 = .ok (.ifCond .ge 6, 3) := by decide +kernel
theorem dX12_judge_49 : decode cX12_judge 49 = .ok (.iload 4, 2) := by decide +kernel
theorem dX12_judge_51 : decode cX12_judge 51 = .ok (.ireturn, 1) := by decide +kernel
theorem dX12_judge_52 : decode cX12_judge 52 = .ok (.iconst 0, 1) := by decide +kernel
theorem dX12_judge_53 : decode cX12_judge 53 = .ok (.istore 5, 2) := by decide +kernel
theorem dX12_judge_55 : decode cX12_judge 55 = .ok (.iload_n 2, 1) := by decide +kernel
theorem dX12_judge_56 : decode cX12_judge 56 = .ok (.istore 6, 2) := by decide +kernel
theorem dX12_judge_58 : decode cX12_judge 58 = .ok (.iconst (-1), 1) := by decide +kernel
theorem dX12_judge_59 : decode cX12_judge 59 = .ok (.istore 7, 2) := by decide +kernel
theorem dX12_judge_61 : decode cX12_judge 61 = .ok (.iconst 0, 1) := by decide +kernel
theorem dX12_judge_62 : decode cX12_judge 62 = .ok (.istore 8, 2) := by decide +kernel
theorem dX12_judge_64 : decode cX12_judge 64 = .ok (.iload 8, 2) := by decide +kernel
theorem dX12_judge_66 : decode cX12_judge 66 = .ok (.aload_n 0, 1) := by decide +kernel
theorem dX12_judge_67 : decode cX12_judge 67 = .ok (.getfield 117, 3) := by decide +kernel
theorem dX12_judge_70 : decode cX12_judge 70 = .ok (.iload_n 3, 1) := by decide +kernel
theorem dX12_judge_71 : decode cX12_judge 71 = .ok (.iaload, 1) := by decide +kernel
theorem dX12_judge_72 : decode cX12_judge 72 = .ok (.if_icmp .ge 92, 3) := by decide +kernel
theorem dX12_judge_75 : decode cX12_judge 75 = .ok (.aload_n 0, 1) := by decide +kernel
theorem dX12_judge_76 : decode cX12_judge 76 = .ok (.getfield 120, 3) := by decide +kernel
theorem dX12_judge_79 : decode cX12_judge 79 = .ok (.bipush 80, 2) := by decide +kernel
theorem dX12_judge_81 : decode cX12_judge 81 = .ok (.iload_n 3, 1) := by decide +kernel
theorem dX12_judge_82 : decode cX12_judge 82 = .ok (.imul, 1) := by decide +kernel
theorem dX12_judge_83 : decode cX12_judge 83 = .ok (.iload 8, 2) := by decide +kernel
theorem dX12_judge_85 : decode cX12_judge 85 = .ok (.iadd, 1) := by decide +kernel
theorem dX12_judge_86 : decode cX12_judge 86 = .ok (.laload, 1) := by decide +kernel
theorem dX12_judge_87 : decode cX12_judge 87 = .ok (.l2i, 1) := by decide +kernel
theorem dX12_judge_88 : decode cX12_judge 88 = .ok (.istore 9, 2) := by decide +kernel
theorem dX12_judge_90 : decode cX12_judge 90 = .ok (.aload_n 0, 1) := by decide +kernel
theorem dX12_judge_91 : decode cX12_judge 91 = .ok (.iload 9, 2) := by decide +kernel
theorem dX12_judge_93 : decode cX12_judge 93 = .ok (.invokevirtual 139, 3) := by decide +kernel
theorem dX12_judge_96 : decode cX12_judge 96 = .ok (.ifCond .eq 14, 3) := by decide +kernel
theorem dX12_judge_99 : decode cX12_judge 99 = .ok (.iload 5, 2) := by decide +kernel
theorem dX12_judge_101 : decode cX12_judge 101 = .ok (.iload 9, 2) := by decide +kernel
theorem dX12_judge_103 : decode cX12_judge 103 = .ok (.ishr, 1) := by decide +kernel
theorem dX12_judge_104 : decode cX12_judge 104 = .ok (.iconst 1, 1) := by decide +kernel
theorem dX12_judge_105 : decode cX12_judge 105 = .ok (.iand, 1) := by decide +kernel
theorem dX12_judge_106 : decode cX12_judge 106 = .ok (.iconst 1, 1) := by decide +kernel
theorem dX12_judge_107 : decode cX12_judge 107 = .ok (.if_icmp .ne 6, 3) := by decide +kernel
theorem dX12_judge_110 : decode cX12_judge 110 = .ok (.iload 8, 2) := by decide +kernel
theorem dX12_judge_112 : decode cX12_judge 112 = .ok (.ireturn, 1) := by decide +kernel
theorem dX12_judge_113 : decode cX12_judge 113 = .ok (.iload 6, 2) := by decide +kernel
theorem dX12_judge_115 : decode cX12_judge 115 = .ok (.aload_n 0, 1) := by decide +kernel
theorem dX12_judge_116 : decode cX12_judge 116 = .ok (.iload_n 1, 1) := by decide +kernel
theorem dX12_judge_117 : decode cX12_judge 117 = .ok (.iload 7, 2) := by decide +kernel
theorem dX12_judge_119 : decode cX12_judge 119 = .ok (.iload 9, 2) := by decide +kernel
theorem dX12_judge_121 : decode cX12_judge 121 = .ok (.invokevirtual 306, 3) := by decide +kernel
theorem dX12_judge_124 : decode cX12_judge 124 = .ok (.iadd, 1) := by decide +kernel
theorem dX12_judge_125 : decode cX12_judge 125 = .ok (.istore 6, 2) := by decide +kernel
theorem dX12_judge_127 : decode cX12_judge 127 = .ok (.iload 6, 2) := by decide +kernel
theorem dX12_judge_129 : decode cX12_judge 129 = .ok (.aload_n 0, 1) := by decide +kernel
theorem dX12_judge_130 : decode cX12_judge 130 = .ok (.getfield 7, 3) := by decide +kernel
theorem dX12_judge_133 : decode cX12_judge 133 = .ok (.bipush 50, 2) := by decide +kernel
theorem dX12_judge_135 : decode cX12_judge 135 = .ok (.iload 9, 2) := by decide +kernel
theorem dX12_judge_137 : decode cX12_judge 137 = .ok (.iadd, 1) := by decide +kernel
theorem dX12_judge_138 : decode cX12_judge 138 = .ok (.iaload, 1) := by decide +kernel
theorem dX12_judge_139 : decode cX12_judge 139 = .ok (.if_icmp .le 6, 3) := by decide +kernel
theorem dX12_judge_142 : decode cX12_judge 142 = .ok (.iload 8, 2) := by decide +kernel
theorem dX12_judge_144 : decode cX12_judge 144 = .ok (.ireturn, 1) := by decide +kernel
theorem dX12_judge_145 : decode cX12_judge 145 = .ok (.iload 5, 2) := by decide +kernel
theorem dX12_judge_147 : decode cX12_judge 147 = .ok (.iconst 1, 1) := by decide +kernel
theorem dX12_judge_148 : decode cX12_judge 148 = .ok (.iload 9, 2) := by decide +kernel
theorem dX12_judge_150 : decode cX12_judge 150 = .ok (.ishl, 1) := by decide +kernel
theorem dX12_judge_151 : decode cX12_judge 151 = .ok (.ior, 1) := by decide +kernel
theorem dX12_judge_152 : decode cX12_judge 152 = .ok (.istore 5, 2) := by decide +kernel
theorem dX12_judge_154 : decode cX12_judge 154 = .ok (.iload 9, 2) := by decide +kernel
theorem dX12_judge_156 : decode cX12_judge 156 = .ok (.istore 7, 2) := by decide +kernel
theorem dX12_judge_158 : decode cX12_judge 158 = .ok (.iinc 8 1, 3) := by decide +kernel
theorem dX12_judge_161 : decode cX12_judge 161 = .ok (.goto (-97), 3) := by decide +kernel
theorem dX12_judge_164 : decode cX12_judge 164 = .ok (.bipush (-4), 2) := by decide +kernel
theorem dX12_judge_166 : decode cX12_judge 166 = .ok (.ireturn, 1) := by decide +kernel
theorem dX12_begin_0 : decode cX12_begin 0 = .ok (.iconst 0, 1) := by decide +kernel
theorem dX12_begin_1 : decode cX12_begin 1 = .ok (.istore_n 1, 1) := by decide +kernel
theorem dX12_begin_2 : decode cX12_begin 2 = .ok (.iload_n 1, 1) := by decide +kernel
theorem dX12_begin_3 : decode cX12_begin 3 = .ok (.sipush 320, 3) := by decide +kernel
theorem dX12_begin_6 : decode cX12_begin 6 = .ok (.if_icmp .ge 21, 3) := by decide +kernel
theorem dX12_begin_9 : decode cX12_begin 9 = .ok (.aload_n 0, 1) := by decide +kernel
theorem dX12_begin_10 : decode cX12_begin 10 = .ok (.getfield 16, 3) := by decide +kernel
theorem dX12_begin_13 : decode cX12_begin 13 = .ok (.iload_n 1, 1) := by decide +kernel
theorem dX12_begin_14 : decode cX12_begin 14 = .ok (.aload_n 0, 1) := by decide +kernel
theorem dX12_begin_15 : decode cX12_begin 15 = .ok (.getfield 7, 3) := by decide +kernel
theorem dX12_begin_18 : decode cX12_begin 18 = .ok (.iload_n 1, 1) := by decide +kernel
theorem dX12_begin_19 : decode cX12_begin 19 = .ok (.iaload, 1) := by decide +kernel
theorem dX12_begin_20 : decode cX12_begin 20 = .ok (.iastore, 1) := by decide +kernel
theorem dX12_begin_21 : decode cX12_begin 21 = .ok (.iinc 1 1, 3) := by decide +kernel
theorem dX12_begin_24 : decode cX12_begin 24 = .ok (.goto (-22), 3) := by decide +kernel
theorem dX12_begin_27 : decode cX12_begin 27 = .ok (.return_, 1) := by decide +kernel
theorem dX12_comeBack_0 : decode cX12_comeBack 0 = .ok (.iconst 0, 1) := by decide +kernel
theorem dX12_comeBack_1 : decode cX12_comeBack 1 = .ok (.istore_n 1, 1) := by decide +kernel
theorem dX12_comeBack_2 : decode cX12_comeBack 2 = .ok (.iload_n 1, 1) := by decide +kernel
theorem dX12_comeBack_3 : decode cX12_comeBack 3 = .ok (.sipush 320, 3) := by decide +kernel
theorem dX12_comeBack_6 : decode cX12_comeBack 6 = .ok (.if_icmp .ge 21, 3) := by decide +kernel
theorem dX12_comeBack_9 : decode cX12_comeBack 9 = .ok (.aload_n 0, 1) := by decide +kernel
theorem dX12_comeBack_10 : decode cX12_comeBack 10 = .ok (.getfield 7, 3) := by decide +kernel
theorem dX12_comeBack_13 : decode cX12_comeBack 13 = .ok (.iload_n 1, 1) := by decide +kernel
theorem dX12_comeBack_14 : decode cX12_comeBack 14 = .ok (.aload_n 0, 1) := by decide +kernel
theorem dX12_comeBack_15 : decode cX12_comeBack 15 = .ok (.getfield 16, 3) := by decide +kernel
theorem dX12_comeBack_18 : decode cX12_comeBack 18 = .ok (.iload_n 1, 1) := by decide +kernel
theorem dX12_comeBack_19 : decode cX12_comeBack 19 = .ok (.iaload, 1) := by decide +kernel
theorem dX12_comeBack_20 : decode cX12_comeBack 20 = .ok (.iastore, 1) := by decide +kernel
theorem dX12_comeBack_21 : decode cX12_comeBack 21 = .ok (.iinc 1 1, 3) := by decide +kernel
theorem dX12_comeBack_24 : decode cX12_comeBack 24 = .ok (.goto (-22), 3) := by decide +kernel
theorem dX12_comeBack_27 : decode cX12_comeBack 27 = .ok (.return_, 1) := by decide +kernel
theorem dX12_isEnough_0 : decode cX12_isEnough 0 = .ok (.aload_n 0, 1) := by decide +kernel
theorem dX12_isEnough_1 : decode cX12_isEnough 1 = .ok (.invokevirtual 315, 3) := by decide +kernel
theorem dX12_isEnough_4 : decode cX12_isEnough 4 = .ok (.aload_n 0, 1) := by decide +kernel
theorem dX12_isEnough_5 : decode cX12_isEnough 5 = .ok (.getfield 7, 3) := by decide +kernel
theorem dX12_isEnough_8 : decode cX12_isEnough 8 = .ok (.bipush 70, 2) := by decide +kernel
theorem dX12_isEnough_10 : decode cX12_isEnough 10 = .ok (.iload_n 1, 1) := by decide +kernel
theorem dX12_isEnough_11 : decode cX12_isEnough 11 = .ok (.iadd, 1) := by decide +kernel
theorem dX12_isEnough_12 : decode cX12_isEnough 12 = .ok (.dup2, 1) := by decide +kernel
theorem dX12_isEnough_13 : decode cX12_isEnough 13 = .ok (.iaload, 1) := by decide +kernel
theorem dX12_isEnough_14 : decode cX12_isEnough 14 = .ok (.iload_n 3, 1) := by decide +kernel
theorem dX12_isEnough_15 : decode cX12_isEnough 15 = .ok (.iadd, 1) := by decide +kernel
theorem dX12_isEnough_16 : decode cX12_isEnough 16 = .ok (.iastore, 1) := by decide +kernel
theorem dX12_isEnough_17 : decode cX12_isEnough 17 = .ok (.iconst 0, 1) := by decide +kernel
theorem dX12_isEnough_18 : decode cX12_isEnough 18 = .ok (.istore 4, 2) := by decide +kernel
theorem dX12_isEnough_20 : decode cX12_isEnough 20 = .ok (.iload 4, 2) := by decide +kernel
theorem dX12_isEnough_22 : decode cX12_isEnough 22 = .ok (.iload_n 2, 1) := by decide +kernel
theorem dX12_isEnough_23 : decode cX12_isEnough 23 = .ok (.if_icmp .ge 13, 3) := by decide +kernel
theorem dX12_isEnough_26 : decode cX12_isEnough 26 = .ok (.aload_n 0, 1) := by decide +kernel
theorem dX12_isEnough_27 : decode cX12_isEnough 27 = .ok (.invokevirtual 295, 3) := by decide +kernel
theorem dX12_isEnough_30 : decode cX12_isEnough 30 = .ok (.iinc 4 1, 3) := by decide +kernel
theorem dX12_isEnough_33 : decode cX12_isEnough 33 = .ok (.goto (-13), 3) := by decide +kernel
theorem dX12_isEnough_36 : decode cX12_isEnough 36 = .ok (.iconst 1, 1) := by decide +kernel
theorem dX12_isEnough_37 : decode cX12_isEnough 37 = .ok (.istore 4, 2) := by decide +kernel
theorem dX12_isEnough_39 : decode cX12_isEnough 39 = .ok (.iconst 0, 1) := by decide +kernel
theorem dX12_isEnough_40 : decode cX12_isEnough 40 = .ok (.istore 5, 2) := by decide +kernel
theorem dX12_isEnough_42 : decode cX12_isEnough 42 = .ok (.iload 5, 2) := by decide +kernel
theorem dX12_isEnough_44 : decode cX12_isEnough 44 = .ok (.aload_n 0, 1) := by decide +kernel
theorem dX12_isEnough_45 : decode cX12_isEnough 45 = .ok (.getfield 7, 3) := by decide +kernel
theorem dX12_isEnough_48 : decode cX12_isEnough 48 = .ok (.iconst 0, 1) := by decide +kernel
theorem dX12_isEnough_49 : decode cX12_isEnough 49 = .ok (.iaload, 1) := by decide +kernel
theorem dX12_isEnough_50 : decode cX12_isEnough 50 = .ok (.if_icmp .ge 71, 3) := by decide +kernel
theorem dX12_isEnough_53 : decode cX12_isEnough 53 = .ok (.iload 4, 2) := by decide +kernel
theorem dX12_isEnough_55 : decode cX12_isEnough 55 = .ok (.ifCond .eq 57, 3) := by decide +kernel
theorem dX12_isEnough_58 : decode cX12_isEnough 58 = .ok (.aload_n 0, 1) := by decide +kernel
theorem dX12_isEnough_59 : decode cX12_isEnough 59 = .ok (.aload_n 0, 1) := by decide +kernel
theorem dX12_isEnough_60 : decode cX12_isEnough 60 = .ok (.getfield 19, 3) := by decide +kernel
theorem dX12_isEnough_63 : decode cX12_isEnough 63 = .ok (.iload 5, 2) := by decide +kernel
theorem dX12_isEnough_65 : decode cX12_isEnough 65 = .ok (.iaload, 1) := by decide +kernel
theorem dX12_isEnough_66 : decode cX12_isEnough 66 = .ok (.invokevirtual 145, 3) := by decide +kernel
theorem dX12_isEnough_69 : decode cX12_isEnough 69 = .ok (.iload_n 1, 1) := by decide +kernel
theorem dX12_isEnough_70 : decode cX12_isEnough 70 = .ok (.if_icmp .ne 38, 3) := by decide +kernel
theorem dX12_isEnough_73 : decode cX12_isEnough 73 = .ok (.aload_n 0, 1) := by decide +kernel
theorem dX12_isEnough_74 : decode cX12_isEnough 74 = .ok (.getfield 7, 3) := by decide +kernel
theorem dX12_isEnough_77 : decode cX12_isEnough 77 = .ok (.sipush 180, 3) := by decide +kernel
theorem dX12_isEnough_80 : decode cX12_isEnough 80 = .ok (.bipush 11, 2) := by decide +kernel
theorem dX12_isEnough_82 : decode cX12_isEnough 82 = .ok (.iload 5, 2) := by decide +kernel
theorem dX12_isEnough_84 : decode cX12_isEnough 84 = .ok (.imul, 1) := by decide +kernel
theorem dX12_isEnough_85 : decode cX12_isEnough 85 = .ok (.iadd, 1) := by decide +kernel
theorem dX12_isEnough_86 : decode cX12_isEnough 86 = .ok (.iconst 2, 1) := by decide +kernel
theorem dX12_isEnough_87 : decode cX12_isEnough 87 = .ok (.iadd, 1) := by decide +kernel
theorem dX12_isEnough_88 : decode cX12_isEnough 88 = .ok (.iaload, 1) := by decide +kernel
theorem dX12_isEnough_89 : decode cX12_isEnough 89 = .ok (.aload_n 0, 1) := by decide +kernel
theorem dX12_isEnough_90 : decode cX12_isEnough 90 = .ok (.getfield 16, 3) := by decide +kernel
theorem dX12_isEnough_93 : decode cX12_isEnough 93 = .ok (.sipush 180, 3) := by decide +kernel
theorem dX12_isEnough_96 : decode cX12_isEnough 96 = .ok (.bipush 11, 2) := by decide +kernel
theorem dX12_isEnough_98 : decode cX12_isEnough 98 = .ok (.iload 5, 2) := by decide +kernel
theorem dX12_isEnough_100 : decode cX12_isEnough 100 = .ok (.imul, 1) := by decide +kernel
theorem dX12_isEnough_101 : decode cX12_isEnough 101 = .ok (.iadd, 1) := by decide +kernel
theorem dX12_isEnough_102 : decode cX12_isEnough 102 = .ok (.iconst 2, 1) := by decide +kernel
theorem dX12_isEnough_103 : decode cX12_isEnough 103 = .ok (.iadd, 1) := by decide +kernel
theorem dX12_isEnough_104 : decode cX12_isEnough 104 = .ok (.iaload, 1) := by decide +kernel
theorem dX12_isEnough_105 : decode cX12_isEnough 105 = .ok (.if_icmp .ne 7, 3) := by decide +kernel
theorem dX12_isEnough_108 : decode cX12_isEnough 108 = .ok (.iconst 1, 1) := by decide +kernel
theorem dX12_isEnough_109 : decode cX12_isEnough 109 = .ok (.goto 4, 3) := by decide +kernel
theorem dX12_isEnough_112 : decode cX12_isEnough 112 = .ok (.iconst 0, 1) := by decide +kernel
theorem dX12_isEnough_113 : decode cX12_isEnough 113 = .ok (.istore 4, 2) := by decide +kernel
theorem dX12_isEnough_115 : decode cX12_isEnough 115 = .ok (.iinc 5 1, 3) := by decide +kernel
theorem dX12_isEnough_118 : decode cX12_isEnough 118 = .ok (.goto (-76), 3) := by decide +kernel
theorem dX12_isEnough_121 : decode cX12_isEnough 121 = .ok (.aload_n 0, 1) := by decide +kernel
theorem dX12_isEnough_122 : decode cX12_isEnough 122 = .ok (.invokevirtual 318, 3) := by decide +kernel
theorem dX12_isEnough_125 : decode cX12_isEnough 125 = .ok (.iload 4, 2) := by decide +kernel
theorem dX12_isEnough_127 : decode cX12_isEnough 127 = .ok (.ireturn, 1) := by decide +kernel
theorem dX12_bought_0 : decode cX12_bought 0 = .ok (.aload_n 0, 1) := by decide +kernel
theorem dX12_bought_1 : decode cX12_bought 1 = .ok (.iconst 0, 1) := by decide +kernel
theorem dX12_bought_2 : decode cX12_bought 2 = .ok (.putfield 128, 3) := by decide +kernel
theorem dX12_bought_5 : decode cX12_bought 5 = .ok (.aload_n 0, 1) := by decide +kernel
theorem dX12_bought_6 : decode cX12_bought 6 = .ok (.iload_n 1, 1) := by decide +kernel
theorem dX12_bought_7 : decode cX12_bought 7 = .ok (.invokevirtual 142, 3) := by decide +kernel
theorem dX12_bought_10 : decode cX12_bought 10 = .ok (.ifCond .ne 5, 3) := by decide +kernel
theorem dX12_bought_13 : decode cX12_bought 13 = .ok (.iconst (-1), 1) := by decide +kernel
theorem dX12_bought_14 : decode cX12_bought 14 = .ok (.ireturn, 1) := by decide +kernel
theorem dX12_bought_15 : decode cX12_bought 15 = .ok (.aload_n 0, 1) := by decide +kernel
theorem dX12_bought_16 : decode cX12_bought 16 = .ok (.iload_n 2, 1) := by decide +kernel
theorem dX12_bought_17 : decode cX12_bought 17 = .ok (.bipush 20, 2) := by decide +kernel
theorem dX12_bought_19 : decode cX12_bought 19 = .ok (.invokevirtual 292, 3) := by decide +kernel
theorem dX12_bought_22 : decode cX12_bought 22 = .ok (.istore_n 3, 1) := by decide +kernel
theorem dX12_bought_23 : decode cX12_bought 23 = .ok (.iload_n 3, 1) := by decide +kernel
theorem dX12_bought_24 : decode cX12_bought 24 = .ok (.ifCond .ge 5, 3) := by decide +kernel
theorem dX12_bought_27 : decode cX12_bought 27 = .ok (.iload_n 3, 1) := by decide +kernel
theorem dX12_bought_28 : decode cX12_bought 28 = .ok (.ireturn, 1) := by decide +kernel
theorem dX12_bought_29 : decode cX12_bought 29 = .ok (.aload_n 0, 1) := by decide +kernel
theorem dX12_bought_30 : decode cX12_bought 30 = .ok (.iload_n 1, 1) := by decide +kernel
theorem dX12_bought_31 : decode cX12_bought 31 = .ok (.iload_n 2, 1) := by decide +kernel
theorem dX12_bought_32 : decode cX12_bought 32 = .ok (.iconst 0, 1) := by decide +kernel
theorem dX12_bought_33 : decode cX12_bought 33 = .ok (.invokevirtual 321, 3) := by decide +kernel
theorem dX12_bought_36 : decode cX12_bought 36 = .ok (.ifCond .eq 5, 3) := by decide +kernel
theorem dX12_bought_39 : decode cX12_bought 39 = .ok (.iconst 0, 1) := by decide +kernel
theorem dX12_bought_40 : decode cX12_bought 40 = .ok (.ireturn, 1) := by decide +kernel
theorem dX12_bought_41 : decode cX12_bought 41 = .ok (.aload_n 0, 1) := by decide +kernel
theorem dX12_bought_42 : decode cX12_bought 42 = .ok (.iload_n 1, 1) := by decide +kernel
theorem dX12_bought_43 : decode cX12_bought 43 = .ok (.iload_n 2, 1) := by decide +kernel
theorem dX12_bought_44 : decode cX12_bought 44 = .ok (.sipush 1000, 3) := by decide +kernel
theorem dX12_bought_47 : decode cX12_bought 47 = .ok (.invokevirtual 321, 3) := by decide +kernel
theorem dX12_bought_50 : decode cX12_bought 50 = .ok (.ifCond .ne 6, 3) := by decide +kernel
theorem dX12_bought_53 : decode cX12_bought 53 = .ok (.bipush (-4), 2) := by decide +kernel
theorem dX12_bought_55 : decode cX12_bought 55 = .ok (.ireturn, 1) := by decide +kernel
theorem dX12_bought_56 : decode cX12_bought 56 = .ok (.iconst 0, 1) := by decide +kernel
theorem dX12_bought_57 : decode cX12_bought 57 = .ok (.istore 4, 2) := by decide +kernel
theorem dX12_bought_59 : decode cX12_bought 59 = .ok (.sipush 1000, 3) := by decide +kernel
theorem dX12_bought_62 : decode cX12_bought 62 = .ok (.istore 5, 2) := by decide +kernel
theorem dX12_bought_64 : decode cX12_bought 64 = .ok (.iload 5, 2) := by decide +kernel
theorem dX12_bought_66 : decode cX12_bought 66 = .ok (.iload 4, 2) := by decide +kernel
theorem dX12_bought_68 : decode cX12_bought 68 = .ok (.iconst 1, 1) := by decide +kernel
theorem dX12_bought_69 : decode cX12_bought 69 = .ok (.iadd, 1) := by decide +kernel
theorem dX12_bought_70 : decode cX12_bought 70 = .ok (.if_icmp .le 37, 3) := by decide +kernel
theorem dX12_bought_73 : decode cX12_bought 73 = .ok (.iload 4, 2) := by decide +kernel
theorem dX12_bought_75 : decode cX12_bought 75 = .ok (.iload 5, 2) := by decide +kernel
theorem dX12_bought_77 : decode cX12_bought 77 = .ok (.iadd, 1) := by decide +kernel
theorem dX12_bought_78 : decode cX12_bought 78 = .ok (.iconst 2, 1) := by decide +kernel
theorem dX12_bought_79 : decode cX12_bought 79 = .ok (.idiv, 1) := by decide +kernel
theorem dX12_bought_80 : decode cX12_bought 80 = .ok (.istore 6, 2) := by decide +kernel
theorem dX12_bought_82 : decode cX12_bought 82 = .ok (.aload_n 0, 1) := by decide +kernel
theorem dX12_bought_83 : decode cX12_bought 83 = .ok (.iload_n 1, 1) := by decide +kernel
theorem dX12_bought_84 : decode cX12_bought 84 = .ok (.iload_n 2, 1) := by decide +kernel
theorem dX12_bought_85 : decode cX12_bought 85 = .ok (.iload 6, 2) := by decide +kernel
theorem dX12_bought_87 : decode cX12_bought 87 = .ok (.invokevirtual 321, 3) := by decide +kernel
theorem dX12_bought_90 : decode cX12_bought 90 = .ok (.ifCond .eq 10, 3) := by decide +kernel
theorem dX12_bought_93 : decode cX12_bought 93 = .ok (.iload 6, 2) := by decide +kernel
theorem dX12_bought_95 : decode cX12_bought 95 = .ok (.istore 5, 2) := by decide +kernel
theorem dX12_bought_97 : decode cX12_bought 97 = .ok (.goto 7, 3) := by decide +kernel
theorem dX12_bought_100 : decode cX12_bought 100 = .ok (.iload 6, 2) := by decide +kernel
theorem dX12_bought_102 : decode cX12_bought 102 = .ok (.istore 4, 2) := by decide +kernel
theorem dX12_bought_104 : decode cX12_bought 104 = .ok (.goto (-40), 3) := by decide +kernel
theorem dX12_bought_107 : decode cX12_bought 107 = .ok (.iload 5, 2) := by decide +kernel
theorem dX12_bought_109 : decode cX12_bought 109 = .ok (.ireturn, 1) := by decide +kernel
theorem dX12_isPermutation_0 : decode cX12_isPermutation 0 = .ok (.iconst 0, 1) := by decide +kernel
theorem dX12_isPermutation_1 : decode cX12_isPermutation 1 = .ok (.istore_n 1, 1) := by decide +kernel
theorem dX12_isPermutation_2 : decode cX12_isPermutation 2 = .ok (.iconst 0, 1) := by decide +kernel
theorem dX12_isPermutation_3 : decode cX12_isPermutation 3 = .ok (.istore_n 2, 1) := by decide +kernel
theorem dX12_isPermutation_4 : decode cX12_isPermutation 4 = .ok (.iload_n 2, 1) := by decide +kernel
theorem dX12_isPermutation_5 : decode cX12_isPermutation 5 = .ok (.iconst 4, 1) := by decide +kernel
theorem dX12_isPermutation_6 : decode cX12_isPermutation 6 = .ok (.if_icmp .ge 21, 3) := by decide +kernel
theorem dX12_isPermutation_9 : decode cX12_isPermutation 9 = .ok (.iload_n 1, 1) := by decide +kernel
theorem dX12_isPermutation_10 : decode cX12_isPermutation 10 = .ok (.iconst 1, 1) := by decide +kernel
theorem dX12_isPermutation_11 : decode cX12_isPermutation 11 = .ok (.iload_n 0, 1) := by decide +kernel
theorem dX12_isPermutation_12 : decode cX12_isPermutation 12 = .ok (.iconst 2, 1) := by decide +kernel
theorem dX12_isPermutation_13 : decode cX12_isPermutation 13 = .ok (.iload_n 2, 1) := by decide +kernel
theorem dX12_isPermutation_14 : decode cX12_isPermutation 14 = .ok (.imul, 1) := by decide +kernel
theorem dX12_isPermutation_15 : decode cX12_isPermutation 15 = .ok (.ishr, 1) := by decide +kernel
theorem dX12_isPermutation_16 : decode cX12_isPermutation 16 = .ok (.iconst 3, 1) := by decide +kernel
theorem dX12_isPermutation_17 : decode cX12_isPermutation 17 = .ok (.iand, 1) := by decide +kernel
theorem dX12_isPermutation_18 : decode cX12_isPermutation 18 = .ok (.ishl, 1) := by decide +kernel
theorem dX12_isPermutation_19 : decode cX12_isPermutation 19 = .ok (.ior, 1) := by decide +kernel
theorem dX12_isPermutation_20 : decode cX12_isPermutation 20 = .ok (.istore_n 1, 1) := by decide +kernel
theorem dX12_isPermutation_21 : decode cX12_isPermutation 21 = .ok (.iinc 2 1, 3) := by decide +kernel
theorem dX12_isPermutation_24 : decode cX12_isPermutation 24 = .ok (.goto (-20), 3) := by decide +kernel
theorem dX12_isPermutation_27 : decode cX12_isPermutation 27 = .ok (.iload_n 0, 1) := by decide +kernel
theorem dX12_isPermutation_28 : decode cX12_isPermutation 28 = .ok (.iconst 0, 1) := by decide +kernel
theorem dX12_isPermutation_29 : decode cX12_isPermutation 29 = .ok (.sipush 255, 3) := by decide +kernel
theorem dX12_isPermutation_32 : decode cX12_isPermutation 32 = .ok (.invokestatic 131, 3) := by decide +kernel
theorem dX12_isPermutation_35 : decode cX12_isPermutation 35 = .ok (.ifCond .eq 13, 3) := by decide +kernel
theorem dX12_isPermutation_38 : decode cX12_isPermutation 38 = .ok (.iload_n 1, 1) := by decide +kernel
theorem dX12_isPermutation_39 : decode cX12_isPermutation 39 = .ok (.bipush 15, 2) := by decide +kernel
theorem dX12_isPermutation_41 : decode cX12_isPermutation 41 = .ok (.if_icmp .ne 7, 3) := by decide +kernel
theorem dX12_isPermutation_44 : decode cX12_isPermutation 44 = .ok (.iconst 1, 1) := by decide +kernel
theorem dX12_isPermutation_45 : decode cX12_isPermutation 45 = .ok (.goto 4, 3) := by decide +kernel
theorem dX12_isPermutation_48 : decode cX12_isPermutation 48 = .ok (.iconst 0, 1) := by decide +kernel
theorem dX12_isPermutation_49 : decode cX12_isPermutation 49 = .ok (.ireturn, 1) := by decide +kernel
theorem dX12_parted_0 : decode cX12_parted 0 = .ok (.aload_n 0, 1) := by decide +kernel
theorem dX12_parted_1 : decode cX12_parted 1 = .ok (.iconst 0, 1) := by decide +kernel
theorem dX12_parted_2 : decode cX12_parted 2 = .ok (.putfield 128, 3) := by decide +kernel
theorem dX12_parted_5 : decode cX12_parted 5 = .ok (.iload_n 1, 1) := by decide +kernel
theorem dX12_parted_6 : decode cX12_parted 6 = .ok (.iconst 0, 1) := by decide +kernel
theorem dX12_parted_7 : decode cX12_parted 7 = .ok (.sipush 9999, 3) := by decide +kernel
theorem dX12_parted_10 : decode cX12_parted 10 = .ok (.invokestatic 131, 3) := by decide +kernel
theorem dX12_parted_13 : decode cX12_parted 13 = .ok (.ifCond .eq 34, 3) := by decide +kernel
theorem dX12_parted_16 : decode cX12_parted 16 = .ok (.iload_n 2, 1) := by decide +kernel
theorem dX12_parted_17 : decode cX12_parted 17 = .ok (.aload_n 0, 1) := by decide +kernel
theorem dX12_parted_18 : decode cX12_parted 18 = .ok (.getfield 7, 3) := by decide +kernel
theorem dX12_parted_21 : decode cX12_parted 21 = .ok (.iconst 3, 1) := by decide +kernel
theorem dX12_parted_22 : decode cX12_parted 22 = .ok (.iaload, 1) := by decide +kernel
theorem dX12_parted_23 : decode cX12_parted 23 = .ok (.sipush 400, 3) := by decide +kernel
theorem dX12_parted_26 : decode cX12_parted 26 = .ok (.invokestatic 131, 3) := by decide +kernel
theorem dX12_parted_29 : decode cX12_parted 29 = .ok (.ifCond .eq 18, 3) := by decide +kernel
theorem dX12_parted_32 : decode cX12_parted 32 = .ok (.iload_n 3, 1) := by decide +kernel
theorem dX12_parted_33 : decode cX12_parted 33 = .ok (.invokestatic 324, 3) := by decide +kernel
theorem dX12_parted_36 : decode cX12_parted 36 = .ok (.ifCond .eq 11, 3) := by decide +kernel
theorem dX12_parted_39 : decode cX12_parted 39 = .ok (.iload 4, 2) := by decide +kernel
theorem dX12_parted_41 : decode cX12_parted 41 = .ok (.invokestatic 135, 3) := by decide +kernel
theorem dX12_parted_44 : decode cX12_parted 44 = .ok (.ifCond .ne 5, 3) := by decide +kernel
theorem dX12_parted_47 : decode cX12_parted 47 = .ok (.iconst (-1), 1) := by decide +kernel
theorem dX12_parted_48 : decode cX12_parted 48 = .ok (.ireturn, 1) := by decide +kernel
theorem dX12_parted_49 : decode cX12_parted 49 = .ok (.iload_n 1, 1) := by decide +kernel
theorem dX12_parted_50 : decode cX12_parted 50 = .ok (.istore 5, 2) := by decide +kernel
theorem dX12_parted_52 : decode cX12_parted 52 = .ok (.iconst 0, 1) := by decide +kernel
theorem dX12_parted_53 : decode cX12_parted 53 = .ok (.istore 6, 2) := by decide +kernel
theorem dX12_parted_55 : decode cX12_parted 55 = .ok (.iconst 0, 1) := by decide +kernel
theorem dX12_parted_56 : decode cX12_parted 56 = .ok (.istore 7, 2) := by decide +kernel
theorem dX12_parted_58 : decode cX12_parted 58 = .ok (.iload 7, 2) := by decide +kernel
theorem dX12_parted_60 : decode cX12_parted 60 = .ok (.iconst 4, 1) := by decide +kernel
theorem dX12_parted_61 : decode cX12_parted 61 = .ok (.if_icmp .ge 109, 3) := by decide +kernel
theorem dX12_parted_64 : decode cX12_parted 64 = .ok (.iload_n 3, 1) := by decide +kernel
