theorem dX10_init_0 : decode cX10_init 0 = .ok (.aload_n 0, 1) := by decide +kernel
theorem dX10_init_1 : decode cX10_init 1 = .ok (.invokespecial 1, 3) := by decide +kernel
theorem dX10_init_4 : decode cX10_init 4 = .ok (.aload_n 0, 1) := by decide +kernel
theorem dX10_init_5 : decode cX10_init 5 = .ok (.iconst 3, 1) := by decide +kernel
theorem dX10_init_6 : decode cX10_init 6 = .ok (.newarray .int, 2) := by decide +kernel
theorem dX10_init_8 : decode cX10_init 8 = .ok (.putfield 7, 3) := by decide +kernel
theorem dX10_init_11 : decode cX10_init 11 = .ok (.aload_n 0, 1) := by decide +kernel
theorem dX10_init_12 : decode cX10_init 12 = .ok (.iconst 3, 1) := by decide +kernel
theorem dX10_init_13 : decode cX10_init 13 = .ok (.newarray .int, 2) := by decide +kernel
theorem dX10_init_15 : decode cX10_init 15 = .ok (.putfield 13, 3) := by decide +kernel
theorem dX10_init_18 : decode cX10_init 18 = .ok (.aload_n 0, 1) := by decide +kernel
theorem dX10_init_19 : decode cX10_init 19 = .ok (.iconst 3, 1) := by decide +kernel
theorem dX10_init_20 : decode cX10_init 20 = .ok (.newarray .int, 2) := by decide +kernel
theorem dX10_init_22 : decode cX10_init 22 = .ok (.putfield 16, 3) := by decide +kernel
theorem dX10_init_25 : decode cX10_init 25 = .ok (.aload_n 0, 1) := by decide +kernel
theorem dX10_init_26 : decode cX10_init 26 = .ok (.iconst 3, 1) := by decide +kernel
theorem dX10_init_27 : decode cX10_init 27 = .ok (.newarray .int, 2) := by decide +kernel
theorem dX10_init_29 : decode cX10_init 29 = .ok (.putfield 19, 3) := by decide +kernel
theorem dX10_init_32 : decode cX10_init 32 = .ok (.aload_n 0, 1) := by decide +kernel
theorem dX10_init_33 : decode cX10_init 33 = .ok (.bipush 72, 2) := by decide +kernel
theorem dX10_init_35 : decode cX10_init 35 = .ok (.newarray .int, 2) := by decide +kernel
theorem dX10_init_37 : decode cX10_init 37 = .ok (.putfield 22, 3) := by decide +kernel
theorem dX10_init_40 : decode cX10_init 40 = .ok (.aload_n 0, 1) := by decide +kernel
theorem dX10_init_41 : decode cX10_init 41 = .ok (.sipush 432, 3) := by decide +kernel
theorem dX10_init_44 : decode cX10_init 44 = .ok (.newarray .int, 2) := by decide +kernel
theorem dX10_init_46 : decode cX10_init 46 = .ok (.putfield 25, 3) := by decide +kernel
theorem dX10_init_49 : decode cX10_init 49 = .ok (.aload_n 0, 1) := by decide +kernel
theorem dX10_init_50 : decode cX10_init 50 = .ok (.sipush 180, 3) := by decide +kernel
theorem dX10_init_53 : decode cX10_init 53 = .ok (.newarray .int, 2) := by decide +kernel
theorem dX10_init_55 : decode cX10_init 55 = .ok (.putfield 28, 3) := by decide +kernel
theorem dX10_init_58 : decode cX10_init 58 = .ok (.aload_n 0, 1) := by decide +kernel
theorem dX10_init_59 : decode cX10_init 59 = .ok (.sipush 288, 3) := by decide +kernel
theorem dX10_init_62 : decode cX10_init 62 = .ok (.newarray .int, 2) := by decide +kernel
theorem dX10_init_64 : decode cX10_init 64 = .ok (.putfield 31, 3) := by decide +kernel
theorem dX10_init_67 : decode cX10_init 67 = .ok (.aload_n 0, 1) := by decide +kernel
theorem dX10_init_68 : decode cX10_init 68 = .ok (.bipush 48, 2) := by decide +kernel
theorem dX10_init_70 : decode cX10_init 70 = .ok (.newarray .int, 2) := by decide +kernel
theorem dX10_init_72 : decode cX10_init 72 = .ok (.putfield 34, 3) := by decide +kernel
theorem dX10_init_75 : decode cX10_init 75 = .ok (.aload_n 0, 1) := by decide +kernel
theorem dX10_init_76 : decode cX10_init 76 = .ok (.bipush 36, 2) := by decide +kernel
theorem dX10_init_78 : decode cX10_init 78 = .ok (.newarray .int, 2) := by decide +kernel
theorem dX10_init_80 : decode cX10_init 80 = .ok (.putfield 37, 3) := by decide +kernel
theorem dX10_init_83 : decode cX10_init 83 = .ok (.aload_n 0, 1) := by decide +kernel
theorem dX10_init_84 : decode cX10_init 84 = .ok (.iconst 3, 1) := by decide +kernel
theorem dX10_init_85 : decode cX10_init 85 = .ok (.newarray .boolean, 2) := by decide +kernel
theorem dX10_init_87 : decode cX10_init 87 = .ok (.putfield 40, 3) := by decide +kernel
theorem dX10_init_90 : decode cX10_init 90 = .ok (.aload_n 0, 1) := by decide +kernel
theorem dX10_init_91 : decode cX10_init 91 = .ok (.iconst 1, 1) := by decide +kernel
theorem dX10_init_92 : decode cX10_init 92 = .ok (.putfield 44, 3) := by decide +kernel
theorem dX10_init_95 : decode cX10_init 95 = .ok (.aload_n 0, 1) := by decide +kernel
theorem dX10_init_96 : decode cX10_init 96 = .ok (.iconst 3, 1) := by decide +kernel
theorem dX10_init_97 : decode cX10_init 97 = .ok (.newarray .int, 2) := by decide +kernel
theorem dX10_init_99 : decode cX10_init 99 = .ok (.putfield 48, 3) := by decide +kernel
theorem dX10_init_102 : decode cX10_init 102 = .ok (.aload_n 0, 1) := by decide +kernel
theorem dX10_init_103 : decode cX10_init 103 = .ok (.sipush 402, 3) := by decide +kernel
theorem dX10_init_106 : decode cX10_init 106 = .ok (.newarray .int, 2) := by decide +kernel
theorem dX10_init_108 : decode cX10_init 108 = .ok (.putfield 51, 3) := by decide +kernel
theorem dX10_init_111 : decode cX10_init 111 = .ok (.aload_n 0, 1) := by decide +kernel
theorem dX10_init_112 : decode cX10_init 112 = .ok (.iconst 5, 1) := by decide +kernel
theorem dX10_init_113 : decode cX10_init 113 = .ok (.newarray .int, 2) := by decide +kernel
theorem dX10_init_115 : decode cX10_init 115 = .ok (.putfield 54, 3) := by decide +kernel
theorem dX10_init_118 : decode cX10_init 118 = .ok (.aload_n 0, 1) := by decide +kernel
theorem dX10_init_119 : decode cX10_init 119 = .ok (.sipush 3216, 3) := by decide +kernel
theorem dX10_init_122 : decode cX10_init 122 = .ok (.newarray .int, 2) := by decide +kernel
theorem dX10_init_124 : decode cX10_init 124 = .ok (.putfield 57, 3) := by decide +kernel
theorem dX10_init_127 : decode cX10_init 127 = .ok (.aload_n 0, 1) := by decide +kernel
theorem dX10_init_128 : decode cX10_init 128 = .ok (.sipush 1024, 3) := by decide +kernel
theorem dX10_init_131 : decode cX10_init 131 = .ok (.newarray .int, 2) := by decide +kernel
theorem dX10_init_133 : decode cX10_init 133 = .ok (.putfield 60, 3) := by decide +kernel
theorem dX10_init_136 : decode cX10_init 136 = .ok (.aload_n 0, 1) := by decide +kernel
theorem dX10_init_137 : decode cX10_init 137 = .ok (.bipush 16, 2) := by decide +kernel
theorem dX10_init_139 : decode cX10_init 139 = .ok (.newarray .int, 2) := by decide +kernel
theorem dX10_init_141 : decode cX10_init 141 = .ok (.putfield 63, 3) := by decide +kernel
theorem dX10_init_144 : decode cX10_init 144 = .ok (.aload_n 0, 1) := by decide +kernel
theorem dX10_init_145 : decode cX10_init 145 = .ok (.iconst 4, 1) := by decide +kernel
theorem dX10_init_146 : decode cX10_init 146 = .ok (.newarray .int, 2) := by decide +kernel
theorem dX10_init_148 : decode cX10_init 148 = .ok (.putfield 66, 3) := by decide +kernel
theorem dX10_init_151 : decode cX10_init 151 = .ok (.aload_n 0, 1) := by decide +kernel
theorem dX10_init_152 : decode cX10_init 152 = .ok (.bipush 24, 2) := by decide +kernel
theorem dX10_init_154 : decode cX10_init 154 = .ok (.newarray .int, 2) := by decide +kernel
theorem dX10_init_156 : decode cX10_init 156 = .ok (.putfield 69, 3) := by decide +kernel
theorem dX10_init_159 : decode cX10_init 159 = .ok (.aload_n 0, 1) := by decide +kernel
theorem dX10_init_160 : decode cX10_init 160 = .ok (.bipush 24, 2) := by decide +kernel
theorem dX10_init_162 : decode cX10_init 162 = .ok (.newarray .int, 2) := by decide +kernel
theorem dX10_init_164 : decode cX10_init 164 = .ok (.putfield 72, 3) := by decide +kernel
theorem dX10_init_167 : decode cX10_init 167 = .ok (.aload_n 0, 1) := by decide +kernel
theorem dX10_init_168 : decode cX10_init 168 = .ok (.bipush 48, 2) := by decide +kernel
theorem dX10_init_170 : decode cX10_init 170 = .ok (.newarray .int, 2) := by decide +kernel
theorem dX10_init_172 : decode cX10_init 172 = .ok (.putfield 75, 3) := by decide +kernel
theorem dX10_init_175 : decode cX10_init 175 = .ok (.iconst 0, 1) := by decide +kernel
theorem dX10_init_176 : decode cX10_init 176 = .ok (.istore_n 1, 1) := by decide +kernel
theorem dX10_init_177 : decode cX10_init 177 = .ok (.iload_n 1, 1) := by decide +kernel
theorem dX10_init_178 : decode cX10_init 178 = .ok (.bipush 10, 2) := by decide +kernel
theorem dX10_init_180 : decode cX10_init 180 = .ok (.if_icmp .ge 19, 3) := by decide +kernel
theorem dX10_init_183 : decode cX10_init 183 = .ok (.aload_n 0, 1) := by decide +kernel
theorem dX10_init_184 : decode cX10_init 184 = .ok (.getfield 34, 3) := by decide +kernel
theorem dX10_init_187 : decode cX10_init 187 = .ok (.bipush 6, 2) := by decide +kernel
theorem dX10_init_189 : decode cX10_init 189 = .ok (.iload_n 1, 1) := by decide +kernel
theorem dX10_init_190 : decode cX10_init 190 = .ok (.iadd, 1) := by decide +kernel
theorem dX10_init_191 : decode cX10_init 191 = .ok (.iconst (-1), 1) := by decide +kernel
theorem dX10_init_192 : decode cX10_init 192 = .ok (.iastore, 1) := by decide +kernel
theorem dX10_init_193 : decode cX10_init 193 = .ok (.iinc 1 1, 3) := by decide +kernel
theorem dX10_init_196 : decode cX10_init 196 = .ok (.goto (-19), 3) := by decide +kernel
theorem dX10_init_199 : decode cX10_init 199 = .ok (.iconst 0, 1) := by decide +kernel
theorem dX10_init_200 : decode cX10_init 200 = .ok (.istore_n 1, 1) := by decide +kernel
theorem dX10_init_201 : decode cX10_init 201 = .ok (.iload_n 1, 1) := by decide +kernel
theorem dX10_init_202 : decode cX10_init 202 = .ok (.iconst 4, 1) := by decide +kernel
theorem dX10_init_203 : decode cX10_init 203 = .ok (.if_icmp .ge 20, 3) := by decide +kernel
theorem dX10_init_206 : decode cX10_init 206 = .ok (.aload_n 0, 1) := by decide +kernel
theorem dX10_init_207 : decode cX10_init 207 = .ok (.getfield 37, 3) := by decide +kernel
theorem dX10_init_210 : decode cX10_init 210 = .ok (.bipush 6, 2) := by decide +kernel
theorem dX10_init_212 : decode cX10_init 212 = .ok (.iload_n 1, 1) := by decide +kernel
theorem dX10_init_213 : decode cX10_init 213 = .ok (.iadd, 1) := by decide +kernel
theorem dX10_init_214 : decode cX10_init 214 = .ok (.bipush (-2), 2) := by decide +kernel
theorem dX10_init_216 : decode cX10_init 216 = .ok (.iastore, 1) := by decide +kernel
theorem dX10_init_217 : decode cX10_init 217 = .ok (.iinc 1 1, 3) := by decide +kernel
theorem dX10_init_220 : decode cX10_init 220 = .ok (.goto (-19), 3) := by decide +kernel
theorem dX10_init_223 : decode cX10_init 223 = .ok (.aload_n 0, 1) := by decide +kernel
theorem dX10_init_224 : decode cX10_init 224 = .ok (.getfield 37, 3) := by decide +kernel
theorem dX10_init_227 : decode cX10_init 227 = .ok (.bipush 10, 2) := by decide +kernel
theorem dX10_init_229 : decode cX10_init 229 = .ok (.iconst 2, 1) := by decide +kernel
theorem dX10_init_230 : decode cX10_init 230 = .ok (.iastore, 1) := by decide +kernel
theorem dX10_init_231 : decode cX10_init 231 = .ok (.aload_n 0, 1) := by decide +kernel
theorem dX10_init_232 : decode cX10_init 232 = .ok (.getfield 37, 3) := by decide +kernel
theorem dX10_init_235 : decode cX10_init 235 = .ok (.bipush 11, 2) := by decide +kernel
theorem dX10_init_237 : decode cX10_init 237 = .ok (.iconst 1, 1) := by decide +kernel
theorem dX10_init_238 : decode cX10_init 238 = .ok (.iastore, 1) := by decide +kernel
theorem dX10_init_239 : decode cX10_init 239 = .ok (.return_, 1) := by decide +kernel
theorem dX10_between_0 : decode cX10_between 0 = .ok (.iload_n 0, 1) := by decide +kernel
theorem dX10_between_1 : decode cX10_between 1 = .ok (.iload_n 1, 1) := by decide +kernel
theorem dX10_between_2 : decode cX10_between 2 = .ok (.if_icmp .lt 12, 3) := by decide +kernel
theorem dX10_between_5 : decode cX10_between 5 = .ok (.iload_n 0, 1) := by decide +kernel
theorem dX10_between_6 : decode cX10_between 6 = .ok (.iload_n 2, 1) := by decide +kernel
theorem dX10_between_7 : decode cX10_between 7 = .ok (.if_icmp .gt 7, 3) := by decide +kernel
theorem dX10_between_10 : decode cX10_between 10 = .ok (.iconst 1, 1) := by decide +kernel
theorem dX10_between_11 : decode cX10_between 11 = .ok (.goto 4, 3) := by decide +kernel
theorem dX10_between_14 : decode cX10_between 14 = .ok (.iconst 0, 1) := by decide +kernel
theorem dX10_between_15 : decode cX10_between 15 = .ok (.ireturn, 1) := by decide +kernel
theorem dX10_bad_0 : decode cX10_bad 0 = .ok (.aload_n 0, 1) := by decide +kernel
theorem dX10_bad_1 : decode cX10_bad 1 = .ok (.getfield 48, 3) := by decide +kernel
theorem dX10_bad_4 : decode cX10_bad 4 = .ok (.iconst 0, 1) := by decide +kernel
theorem dX10_bad_5 : decode cX10_bad 5 = .ok (.dup2, 1) := by decide +kernel
theorem dX10_bad_6 : decode cX10_bad 6 = .ok (.iaload, 1) := by decide +kernel
theorem dX10_bad_7 : decode cX10_bad 7 = .ok (.iconst 1, 1) := by decide +kernel
theorem dX10_bad_8 : decode cX10_bad 8 = .ok (.iadd, 1) := by decide +kernel
theorem dX10_bad_9 : decode cX10_bad 9 = .ok (.iastore, 1) := by decide +kernel
theorem dX10_bad_10 : decode cX10_bad 10 = .ok (.iload_n 1, 1) := by decide +kernel
theorem dX10_bad_11 : decode cX10_bad 11 = .ok (.ireturn, 1) := by decide +kernel
theorem dX10_no_0 : decode cX10_no 0 = .ok (.aload_n 0, 1) := by decide +kernel
theorem dX10_no_1 : decode cX10_no 1 = .ok (.getfield 48, 3) := by decide +kernel
theorem dX10_no_4 : decode cX10_no 4 = .ok (.iconst 1, 1) := by decide +kernel
theorem dX10_no_5 : decode cX10_no 5 = .ok (.dup2, 1) := by decide +kernel
theorem dX10_no_6 : decode cX10_no 6 = .ok (.iaload, 1) := by decide +kernel
theorem dX10_no_7 : decode cX10_no 7 = .ok (.iconst 1, 1) := by decide +kernel
theorem dX10_no_8 : decode cX10_no 8 = .ok (.iadd, 1) := by decide +kernel
theorem dX10_no_9 : decode cX10_no 9 = .ok (.iastore, 1) := by decide +kernel
theorem dX10_no_10 : decode cX10_no 10 = .ok (.iload_n 1, 1) := by decide +kernel
theorem dX10_no_11 : decode cX10_no 11 = .ok (.ireturn, 1) := by decide +kernel
theorem dX10_full_0 : decode cX10_full 0 = .ok (.aload_n 0, 1) := by decide +kernel
theorem dX10_full_1 : decode cX10_full 1 = .ok (.getfield 48, 3) := by decide +kernel
theorem dX10_full_4 : decode cX10_full 4 = .ok (.iconst 2, 1) := by decide +kernel
theorem dX10_full_5 : decode cX10_full 5 = .ok (.dup2, 1) := by decide +kernel
theorem dX10_full_6 : decode cX10_full 6 = .ok (.iaload, 1) := by decide +kernel
theorem dX10_full_7 : decode cX10_full 7 = .ok (.iconst 1, 1) := by decide +kernel
theorem dX10_full_8 : decode cX10_full 8 = .ok (.iadd, 1) := by decide +kernel
theorem dX10_full_9 : decode cX10_full 9 = .ok (.iastore, 1) := by decide +kernel
theorem dX10_full_10 : decode cX10_full 10 = .ok (.bipush (-4), 2) := by decide +kernel
theorem dX10_full_12 : decode cX10_full 12 = .ok (.ireturn, 1) := by decide +kernel
theorem dX10_bits_0 : decode cX10_bits 0 = .ok (.iconst 0, 1) := by decide +kernel
theorem dX10_bits_1 : decode cX10_bits 1 = .ok (.istore_n 1, 1) := by decide +kernel
theorem dX10_bits_2 : decode cX10_bits 2 = .ok (.iconst 0, 1) := by decide +kernel
theorem dX10_bits_3 : decode cX10_bits 3 = .ok (.istore_n 2, 1) := by decide +kernel
theorem dX10_bits_4 : decode cX10_bits 4 = .ok (.iload_n 2, 1) := by decide +kernel
theorem dX10_bits_5 : decode cX10_bits 5 = .ok (.bipush 8, 2) := by decide +kernel
theorem dX10_bits_7 : decode cX10_bits 7 = .ok (.if_icmp .ge 17, 3) := by decide +kernel
theorem dX10_bits_10 : decode cX10_bits 10 = .ok (.iload_n 1, 1) := by decide +kernel
theorem dX10_bits_11 : decode cX10_bits 11 = .ok (.iload_n 0, 1) := by decide +kernel
theorem dX10_bits_12 : decode cX10_bits 12 = .ok (.iload_n 2, 1) := by decide +kernel
theorem dX10_bits_13 : decode cX10_bits 13 = .ok (.ishr, 1) := by decide +kernel
theorem dX10_bits_14 : decode cX10_bits 14 = .ok (.iconst 1, 1) := by decide +kernel
theorem dX10_bits_15 : decode cX10_bits 15 = .ok (.iand, 1) := by decide +kernel
theorem dX10_bits_16 : decode cX10_bits 16 = .ok (.iadd, 1) := by decide +kernel
theorem dX10_bits_17 : decode cX10_bits 17 = .ok (.istore_n 1, 1) := by decide +kernel
theorem dX10_bits_18 : decode cX10_bits 18 = .ok (.iinc 2 1, 3) := by decide +kernel
theorem dX10_bits_21 : decode cX10_bits 21 = .ok (.goto (-17), 3) := by decide +kernel
theorem dX10_bits_24 : decode cX10_bits 24 = .ok (.iload_n 1, 1) := by decide +kernel
theorem dX10_bits_25 : decode cX10_bits 25 = .ok (.ireturn, 1) := by decide +kernel
theorem dX10_isTongue_0 : decode cX10_isTongue 0 = .ok (.iload_n 1, 1) := by decide +kernel
theorem dX10_isTongue_1 : decode cX10_isTongue 1 = .ok (.iconst 0, 1) := by decide +kernel
theorem dX10_isTongue_2 : decode cX10_isTongue 2 = .ok (.aload_n 0, 1) := by decide +kernel
theorem dX10_isTongue_3 : decode cX10_isTongue 3 = .ok (.getfield 7, 3) := by decide +kernel
theorem dX10_isTongue_6 : decode cX10_isTongue 6 = .ok (.iconst 0, 1) := by decide +kernel
theorem dX10_isTongue_7 : decode cX10_isTongue 7 = .ok (.iaload, 1) := by decide +kernel
theorem dX10_isTongue_8 : decode cX10_isTongue 8 = .ok (.iconst 1, 1) := by decide +kernel
theorem dX10_isTongue_9 : decode cX10_isTongue 9 = .ok (.isub, 1) := by decide +kernel
theorem dX10_isTongue_10 : decode cX10_isTongue 10 = .ok (.invokestatic 78, 3) := by decide +kernel
theorem dX10_isTongue_13 : decode cX10_isTongue 13 = .ok (.ireturn, 1) := by decide +kernel
theorem dX10_isWord_0 : decode cX10_isWord 0 = .ok (.aload_n 0, 1) := by decide +kernel
theorem dX10_isWord_1 : decode cX10_isWord 1 = .ok (.iload_n 1, 1) := by decide +kernel
theorem dX10_isWord_2 : decode cX10_isWord 2 = .ok (.invokevirtual 82, 3) := by decide +kernel
theorem dX10_isWord_5 : decode cX10_isWord 5 = .ok (.ifCond .eq 27, 3) := by decide +kernel
theorem dX10_isWord_8 : decode cX10_isWord 8 = .ok (.iload_n 2, 1) := by decide +kernel
theorem dX10_isWord_9 : decode cX10_isWord 9 = .ok (.iconst 0, 1) := by decide +kernel
theorem dX10_isWord_10 : decode cX10_isWord 10 = .ok (.aload_n 0, 1) := by decide +kernel
theorem dX10_isWord_11 : decode cX10_isWord 11 = .ok (.getfield 22, 3) := by decide +kernel
theorem dX10_isWord_14 : decode cX10_isWord 14 = .ok (.iconst 4, 1) := by decide +kernel
theorem dX10_isWord_15 : decode cX10_isWord 15 = .ok (.iload_n 1, 1) := by decide +kernel
theorem dX10_isWord_16 : decode cX10_isWord 16 = .ok (.imul, 1) := by decide +kernel
theorem dX10_isWord_17 : decode cX10_isWord 17 = .ok (.iconst 3, 1) := by decide +kernel
theorem dX10_isWord_18 : decode cX10_isWord 18 = .ok (.iadd, 1) := by decide +kernel
theorem dX10_isWord_19 : decode cX10_isWord 19 = .ok (.iaload, 1) := by decide +kernel
theorem dX10_isWord_20 : decode cX10_isWord 20 = .ok (.iconst 1, 1) := by decide +kernel
theorem dX10_isWord_21 : decode cX10_isWord 21 = .ok (.isub, 1) := by decide +kernel
theorem dX10_isWord_22 : decode cX10_isWord 22 = .ok (.invokestatic 78, 3) := by decide +kernel
theorem dX10_isWord_25 : decode cX10_isWord 25 = .ok (.ifCond .eq 7, 3) := by decide +kernel
theorem dX10_isWord_28 : decode cX10_isWord 28 = .ok (.iconst 1, 1) := by decide +kernel
theorem dX10_isWord_29 : decode cX10_isWord 29 = .ok (.goto 4, 3) := by decide +kernel
theorem dX10_isWord_32 : decode cX10_isWord 32 = .ok (.iconst 0, 1) := by decide +kernel
theorem dX10_isWord_33 : decode cX10_isWord 33 = .ok (.ireturn, 1) := by decide +kernel
theorem dX10_speaks_0 : decode cX10_speaks 0 = .ok (.aload_n 0, 1) := by decide +kernel
theorem dX10_speaks_1 : decode cX10_speaks 1 = .ok (.iload_n 1, 1) := by decide +kernel
theorem dX10_speaks_2 : decode cX10_speaks 2 = .ok (.invokevirtual 82, 3) := by decide +kernel
theorem dX10_speaks_5 : decode cX10_speaks 5 = .ok (.ifCond .eq 20, 3) := by decide +kernel
theorem dX10_speaks_8 : decode cX10_speaks 8 = .ok (.aload_n 0, 1) := by decide +kernel
theorem dX10_speaks_9 : decode cX10_speaks 9 = .ok (.getfield 22, 3) := by decide +kernel
theorem dX10_speaks_12 : decode cX10_speaks 12 = .ok (.iconst 4, 1) := by decide +kernel
theorem dX10_speaks_13 : decode cX10_speaks 13 = .ok (.iload_n 1, 1) := by decide +kernel
theorem dX10_speaks_14 : decode cX10_speaks 14 = .ok (.imul, 1) := by decide +kernel
theorem dX10_speaks_15 : decode cX10_speaks 15 = .ok (.iconst 3, 1) := by decide +kernel
theorem dX10_speaks_16 : decode cX10_speaks 16 = .ok (.iadd, 1) := by decide +kernel
theorem dX10_speaks_17 : decode cX10_speaks 17 = .ok (.iaload, 1) := by decide +kernel
theorem dX10_speaks_18 : decode cX10_speaks 18 = .ok (.ifCond .le 7, 3) := by decide +kernel
theorem dX10_speaks_21 : decode cX10_speaks 21 = .ok (.iconst 1, 1) := by decide +kernel
theorem dX10_speaks_22 : decode cX10_speaks 22 = .ok (.goto 4, 3) := by decide +kernel
theorem dX10_speaks_25 : decode cX10_speaks 25 = .ok (.iconst 0, 1) := by decide +kernel
theorem dX10_speaks_26 : decode cX10_speaks 26 = .ok (.ireturn, 1) := by decide +kernel
theorem dX10_tongue_0 : decode cX10_tongue 0 = .ok (.iload_n 1, 1) := by decide +kernel
theorem dX10_tongue_1 : decode cX10_tongue 1 = .ok (.iconst 0, 1) := by decide +kernel
theorem dX10_tongue_2 : decode cX10_tongue 2 = .ok (.bipush 15, 2) := by decide +kernel
theorem dX10_tongue_4 : decode cX10_tongue 4 = .ok (.invokestatic 78, 3) := by decide +kernel
theorem dX10_tongue_7 : decode cX10_tongue 7 = .ok (.ifCond .eq 31, 3) := by decide +kernel
theorem dX10_tongue_10 : decode cX10_tongue 10 = .ok (.iload_n 2, 1) := by decide +kernel
theorem dX10_tongue_11 : decode cX10_tongue 11 = .ok (.iconst 0, 1) := by decide +kernel
theorem dX10_tongue_12 : decode cX10_tongue 12 = .ok (.bipush 15, 2) := by decide +kernel
theorem dX10_tongue_14 : decode cX10_tongue 14 = .ok (.invokestatic 78, 3) := by decide +kernel
theorem dX10_tongue_17 : decode cX10_tongue 17 = .ok (.ifCond .eq 21, 3) := by decide +kernel
theorem dX10_tongue_20 : decode cX10_tongue 20 = .ok (.iload_n 3, 1) := by decide +kernel
theorem dX10_tongue_21 : decode cX10_tongue 21 = .ok (.iconst 0, 1) := by decide +kernel
theorem dX10_tongue_22 : decode cX10_tongue 22 = .ok (.bipush 15, 2) := by decide +kernel
theorem dX10_tongue_24 : decode cX10_tongue 24 = .ok (.invokestatic 78, 3) := by decide +kernel
theorem dX10_tongue_27 : decode cX10_tongue 27 = .ok (.ifCond .eq 11, 3) := by decide +kernel
theorem dX10_tongue_30 : decode cX10_tongue 30 = .ok (.iload_n 1, 1) := by decide +kernel
theorem dX10_tongue_31 : decode cX10_tongue 31 = .ok (.iload_n 2, 1) := by decide +kernel
theorem dX10_tongue_32 : decode cX10_tongue 32 = .ok (.iconst (-1), 1) := by decide +kernel
theorem dX10_tongue_33 : decode cX10_tongue 33 = .ok (.ixor, 1) := by decide +kernel
theorem dX10_tongue_34 : decode cX10_tongue 34 = .ok (.iand, 1) := by decide +kernel
theorem dX10_tongue_35 : decode cX10_tongue 35 = .ok (.ifCond .eq 10, 3) := by decide +kernel
theorem dX10_tongue_38 : decode cX10_tongue 38 = .ok (.aload_n 0, 1) := by decide +kernel
theorem dX10_tongue_39 : decode cX10_tongue 39 = .ok (.bipush (-2), 2) := by decide +kernel
theorem dX10_tongue_41 : decode cX10_tongue 41 = .ok (.invokevirtual 86, 3) := by decide +kernel
theorem dX10_tongue_44 : decode cX10_tongue 44 = .ok (.ireturn, 1) := by decide +kernel
theorem dX10_tongue_45 : decode cX10_tongue 45 = .ok (.aload_n 0, 1) := by decide +kernel
theorem dX10_tongue_46 : decode cX10_tongue 46 = .ok (.getfield 7, 3) := by decide +kernel
theorem dX10_tongue_49 : decode cX10_tongue 49 = .ok (.iconst 0, 1) := by decide +kernel
theorem dX10_tongue_50 : decode cX10_tongue 50 = .ok (.iaload, 1) := by decide +kernel
theorem dX10_tongue_51 : decode cX10_tongue 51 = .ok (.istore 4, 2) := by decide +kernel
theorem dX10_tongue_53 : decode cX10_tongue 53 = .ok (.iload 4, 2) := by decide +kernel
theorem dX10_tongue_55 : decode cX10_tongue 55 = .ok (.bipush 6, 2) := by decide +kernel
theorem dX10_tongue_57 : decode cX10_tongue 57 = .ok (.if_icmp .ne 8, 3) := by decide +kernel
theorem dX10_tongue_60 : decode cX10_tongue 60 = .ok (.aload_n 0, 1) := by decide +kernel
theorem dX10_tongue_61 : decode cX10_tongue 61 = .ok (.invokevirtual 90, 3) := by decide +kernel
theorem dX10_tongue_64 : decode cX10_tongue 64 = .ok (.ireturn, 1) := by decide +kernel
theorem dX10_tongue_65 : decode cX10_tongue 65 = .ok (.aload_n 0, 1) := by decide +kernel
theorem dX10_tongue_66 : decode cX10_tongue 66 = .ok (.getfield 22, 3) := by decide +kernel
theorem dX10_tongue_69 : decode cX10_tongue 69 = .ok (.iconst 4, 1) := by decide +kernel
theorem dX10_tongue_70 : decode cX10_tongue 70 = .ok (.iload 4, 2) := by decide +kernel
theorem dX10_tongue_72 : decode cX10_tongue 72 = .ok (.imul, 1) := by decide +kernel
theorem dX10_tongue_73 : decode cX10_tongue 73 = .ok (.iload_n 1, 1) := by decide +kernel
theorem dX10_tongue_74 : decode cX10_tongue 74 = .ok (.iastore, 1) := by decide +kernel
theorem dX10_tongue_75 : decode cX10_tongue 75 = .ok (.aload_n 0, 1) := by decide +kernel
theorem dX10_tongue_76 : decode cX10_tongue 76 = .ok (.getfield 22, 3) := by decide +kernel
theorem dX10_tongue_79 : decode cX10_tongue 79 = .ok (.iconst 4, 1) := by decide +kernel
theorem dX10_tongue_80 : decode cX10_tongue 80 = .ok (.iload 4, 2) := by decide +kernel
theorem dX10_tongue_82 : decode cX10_tongue 82 = .ok (.imul, 1) := by decide +kernel
theorem dX10_tongue_83 : decode cX10_tongue 83 = .ok (.iconst 1, 1) := by decide +kernel
theorem dX10_tongue_84 : decode cX10_tongue 84 = .ok (.iadd, 1) := by decide +kernel
theorem dX10_tongue_85 : decode cX10_tongue 85 = .ok (.iload_n 2, 1) := by decide +kernel
theorem dX10_tongue_86 : decode cX10_tongue 86 = .ok (.iastore, 1) := by decide +kernel
theorem dX10_tongue_87 : decode cX10_tongue 87 = .ok (.aload_n 0, 1) := by decide +kernel
theorem dX10_tongue_88 : decode cX10_tongue 88 = .ok (.getfield 22, 3) := by decide +kernel
theorem dX10_tongue_91 : decode cX10_tongue 91 = .ok (.iconst 4, 1) := by decide +kernel
theorem dX10_tongue_92 : decode cX10_tongue 92 = .ok (.iload 4, 2) := by decide +kernel
theorem dX10_tongue_94 : decode cX10_tongue 94 = .ok (.imul, 1) := by decide +kernel
theorem dX10_tongue_95 : decode cX10_tongue 95 = .ok (.iconst 2, 1) := by decide +kernel
theorem dX10_tongue_96 : decode cX10_tongue 96 = .ok (.iadd, 1) := by decide +kernel
theorem dX10_tongue_97 : decode cX10_tongue 97 = .ok (.iload_n 3, 1) := by decide +kernel
theorem dX10_tongue_98 : decode cX10_tongue 98 = .ok (.iastore, 1) := by decide +kernel
theorem dX10_tongue_99 : decode cX10_tongue 99 = .ok (.aload_n 0, 1) := by decide +kernel
theorem dX10_tongue_100 : decode cX10_tongue 100 = .ok (.getfield 22, 3) := by decide +kernel
theorem dX10_tongue_103 : decode cX10_tongue 103 = .ok (.iconst 4, 1) := by decide +kernel
theorem dX10_tongue_104 : decode cX10_tongue 104 = .ok (.iload 4, 2) := by decide +kernel
theorem dX10_tongue_106 : decode cX10_tongue 106 = .ok (.imul, 1) := by decide +kernel
theorem dX10_tongue_107 : decode cX10_tongue 107 = .ok (.iconst 3, 1) := by decide +kernel
theorem dX10_tongue_108 : decode cX10_tongue 108 = .ok (.iadd, 1) := by decide +kernel
theorem dX10_tongue_109 : decode cX10_tongue 109 = .ok (.iconst 0, 1) := by decide +kernel
theorem dX10_tongue_110 : decode cX10_tongue 110 = .ok (.iastore, 1) := by decide +kernel
theorem dX10_tongue_111 : decode cX10_tongue 111 = .ok (.aload_n 0, 1) := by decide +kernel
theorem dX10_tongue_112 : decode cX10_tongue 112 = .ok (.getfield 7, 3) := by decide +kernel
theorem dX10_tongue_115 : decode cX10_tongue 115 = .ok (.iconst 0, 1) := by decide +kernel
theorem dX10_tongue_116 : decode cX10_tongue 116 = .ok (.dup2, 1) := by decide +kernel
theorem dX10_tongue_117 : decode cX10_tongue 117 = .ok (.iaload, 1) := by decide +kernel
theorem dX10_tongue_118 : decode cX10_tongue 118 = .ok (.iconst 1, 1) := by decide +kernel
theorem dX10_tongue_119 : decode cX10_tongue 119 = .ok (.iadd, 1) := by decide +kernel
theorem dX10_tongue_120 : decode cX10_tongue 120 = .ok (.iastore, 1) := by decide +kernel
theorem dX10_tongue_121 : decode cX10_tongue 121 = .ok (.iload 4, 2) := by decide +kernel
theorem dX10_tongue_123 : decode cX10_tongue 123 = .ok (.ireturn, 1) := by decide +kernel
theorem dX10_word_0 : decode cX10_word 0 = .ok (.aload_n 0, 1) := by decide +kernel
theorem dX10_word_1 : decode cX10_word 1 = .ok (.iload_n 1, 1) := by decide +kernel
theorem dX10_word_2 : decode cX10_word 2 = .ok (.invokevirtual 82, 3) := by decide +kernel
theorem dX10_word_5 : decode cX10_word 5 = .ok (.ifCond .eq 35, 3) := by decide +kernel
theorem dX10_word_8 : decode cX10_word 8 = .ok (.iload_n 2, 1) := by decide +kernel
theorem dX10_word_9 : decode cX10_word 9 = .ok (.iconst 1, 1) := by decide +kernel
theorem dX10_word_10 : decode cX10_word 10 = .ok (.sipush 255, 3) := by decide +kernel
theorem dX10_word_13 : decode cX10_word 13 = .ok (.invokestatic 78, 3) := by decide +kernel
theorem dX10_word_16 : decode cX10_word 16 = .ok (.ifCond .eq 24, 3) := by decide +kernel
theorem dX10_word_19 : decode cX10_word 19 = .ok (.iload_n 3, 1) := by decide +kernel
theorem dX10_word_20 : decode cX10_word 20 = .ok (.iconst 0, 1) := by decide +kernel
theorem dX10_word_21 : decode cX10_word 21 = .ok (.bipush 9, 2) := by decide +kernel
theorem dX10_word_23 : decode cX10_word 23 = .ok (.invokestatic 78, 3) := by decide +kernel
theorem dX10_word_26 : decode cX10_word 26 = .ok (.ifCond .eq 14, 3) := by decide +kernel
theorem dX10_word_29 : decode cX10_word 29 = .ok (.iload 4, 2) := by decide +kernel
theorem dX10_word_31 : decode cX10_word 31 = .ok (.iconst 0, 1) := by decide +kernel
theorem dX10_word_32 : decode cX10_word 32 = .ok (.bipush 9, 2) := by decide +kernel
theorem dX10_word_34 : decode cX10_word 34 = .ok (.invokestatic 78, 3) := by decide +kernel
theorem dX10_word_37 : decode cX10_word 37 = .ok (.ifCond .ne 10, 3) := by decide +kernel
theorem dX10_word_40 : decode cX10_word 40 = .ok (.aload_n 0, 1) := by decide +kernel
theorem dX10_word_41 : decode cX10_word 41 = .ok (.bipush (-2), 2) := by decide +kernel
theorem dX10_word_43 : decode cX10_word 43 = .ok (.invokevirtual 86, 3) := by decide +kernel
theorem dX10_word_46 : decode cX10_word 46 = .ok (.ireturn, 1) := by decide +kernel
theorem dX10_word_47 : decode cX10_word 47 = .ok (.aload_n 0, 1) := by decide +kernel
theorem dX10_word_48 : decode cX10_word 48 = .ok (.getfield 22, 3) := by decide +kernel
theorem dX10_word_51 : decode cX10_word 51 = .ok (.iconst 4, 1) := by decide +kernel
theorem dX10_word_52 : decode cX10_word 52 = .ok (.iload_n 1, 1) := by decide +kernel
theorem dX10_word_53 : decode cX10_word 53 = .ok (.imul, 1) := by decide +kernel
theorem dX10_word_54 : decode cX10_word 54 = .ok (.iconst 3, 1) := by decide +kernel
theorem dX10_word_55 : decode cX10_word 55 = .ok (.iadd, 1) := by decide +kernel
theorem dX10_word_56 : decode cX10_word 56 = .ok (.iaload, 1) := by decide +kernel
theorem dX10_word_57 : decode cX10_word 57 = .ok (.istore 5, 2) := by decide +kernel
theorem dX10_word_59 : decode cX10_word 59 = .ok (.iload 5, 2) := by decide +kernel
theorem dX10_word_61 : decode cX10_word 61 = .ok (.bipush 8, 2) := by decide +kernel
theorem dX10_word_63 : decode cX10_word 63 = .ok (.if_icmp .ne 8, 3) := by decide +kernel
theorem dX10_word_66 : decode cX10_word 66 = .ok (.aload_n 0, 1) := by decide +kernel
theorem dX10_word_67 : decode cX10_word 67 = .ok (.invokevirtual 90, 3) := by decide +kernel
theorem dX10_word_70 : decode cX10_word 70 = .ok (.ireturn, 1) := by decide +kernel
theorem dX10_word_71 : decode cX10_word 71 = .ok (.aload_n 0, 1) := by decide +kernel
theorem dX10_word_72 : decode cX10_word 72 = .ok (.getfield 25, 3) := by decide +kernel
theorem dX10_word_75 : decode cX10_word 75 = .ok (.bipush 24, 2) := by decide +kernel
theorem dX10_word_77 : decode cX10_word 77 = .ok (.iload_n 1, 1) := by decide +kernel
theorem dX10_word_78 : decode cX10_word 78 = .ok (.imul, 1) := by decide +kernel
theorem dX10_word_79 : decode cX10_word 79 = .ok (.iconst 3, 1) := by decide +kernel
theorem dX10_word_80 : decode cX10_word 80 = .ok (.iload 5, 2) := by decide +kernel
theorem dX10_word_82 : decode cX10_word 82 = .ok (.imul, 1) := by decide +kernel
theorem dX10_word_83 : decode cX10_word 83 = .ok (.iadd, 1) := by decide +kernel
theorem dX10_word_84 : decode cX10_word 84 = .ok (.iload_n 2, 1) := by decide +kernel
theorem dX10_word_85 : decode cX10_word 85 = .ok (.iastore, 1) := by decide +kernel
theorem dX10_word_86 : decode cX10_word 86 = .ok (.aload_n 0, 1) := by decide +kernel
theorem dX10_word_87 : decode cX10_word 87 = .ok (.getfield 25, 3) := by decide +kernel
theorem dX10_word_90 : decode cX10_word 90 = .ok (.bipush 24, 2) := by decide +kernel
theorem dX10_word_92 : decode cX10_word 92 = .ok (.iload_n 1, 1) := by decide +kernel
theorem dX10_word_93 : decode cX10_word 93 = .ok (.imul, 1) := by decide +kernel
theorem dX10_word_94 : decode cX10_word 94 = .ok (.iconst 3, 1) := by decide +kernel
theorem dX10_word_95 : decode cX10_word 95 = .ok (.iload 5, 2) := by decide +kernel
theorem dX10_word_97 : decode cX10_word 97 = .ok (.imul, 1) := by decide +kernel
theorem dX10_word_98 : decode cX10_word 98 = .ok (.iadd, 1) := by decide +kernel
theorem dX10_word_99 : decode cX10_word 99 = .ok (.iconst 1, 1) := by decide +kernel
theorem dX10_word_100 : decode cX10_word 100 = .ok (.iadd, 1) := by decide +kernel
theorem dX10_word_101 : decode cX10_word 101 = .ok (.iload_n 3, 1) := by decide +kernel
theorem dX10_word_102 : decode cX10_word 102 = .ok (.iastore, 1) := by decide +kernel
theorem dX10_word_103 : decode cX10_word 103 = .ok (.aload_n 0, 1) := by decide +kernel
theorem dX10_word_104 : decode cX10_word 104 = .ok (.getfield 25, 3) := by decide +kernel
theorem dX10_word_107 : decode cX10_word 107 = .ok (.bipush 24, 2) := by decide +kernel
theorem dX10_word_109 : decode cX10_word 109 = .ok (.iload_n 1, 1) := by decide +kernel
theorem dX10_word_110 : decode cX10_word 110 = .ok (.imul, 1) := by decide +kernel
theorem dX10_word_111 : decode cX10_word 111 = .ok (.iconst 3, 1) := by decide +kernel
theorem dX10_word_112 : decode cX10_word 112 = .ok (.iload 5, 2) := by decide +kernel
theorem dX10_word_114 : decode cX10_word 114 = .ok (.imul, 1) := by decide +kernel
theorem dX10_word_115 : decode cX10_word 115 = .ok (.iadd, 1) := by decide +kernel
theorem dX10_word_116 : decode cX10_word 116 = .ok (.iconst 2, 1) := by decide +kernel
theorem dX10_word_117 : decode cX10_word 117 = .ok (.iadd, 1) := by decide +kernel
theorem dX10_word_118 : decode cX10_word 118 = .ok (.iload 4, 2) := by decide +kernel
theorem dX10_word_120 : decode cX10_word 120 = .ok (.iastore, 1) := by decide +kernel
theorem dX10_word_121 : decode cX10_word 121 = .ok (.aload_n 0, 1) := by decide +kernel
theorem dX10_word_122 : decode cX10_word 122 = .ok (.getfield 22, 3) := by decide +kernel
theorem dX10_word_125 : decode cX10_word 125 = .ok (.iconst 4, 1) := by decide +kernel
theorem dX10_word_126 : decode cX10_word 126 = .ok (.iload_n 1, 1) := by decide +kernel
theorem dX10_word_127 : decode cX10_word 127 = .ok (.imul, 1) := by decide +kernel
theorem dX10_word_128 : decode cX10_word 128 = .ok (.iconst 3, 1) := by decide +kernel
theorem dX10_word_129 : decode cX10_word 129 = .ok (.iadd, 1) := by decide +kernel
theorem dX10_word_130 : decode cX10_word 130 = .ok (.dup2, 1) := by decide +kernel
theorem dX10_word_131 : decode cX10_word 131 = .ok (.iaload, 1) := by decide +kernel
theorem dX10_word_132 : decode cX10_word 132 = .ok (.iconst 1, 1) := by decide +kernel
theorem dX10_word_133 : decode cX10_word 133 = .ok (.iadd, 1) := by decide +kernel
theorem dX10_word_134 : decode cX10_word 134 = .ok (.iastore, 1) := by decide +kernel
theorem dX10_word_135 : decode cX10_word 135 = .ok (.iload 5, 2) := by decide +kernel
theorem dX10_word_137 : decode cX10_word 137 = .ok (.ireturn, 1) := by decide +kernel
theorem dX10_put_0 : decode cX10_put 0 = .ok (.iload_n 1, 1) := by decide +kernel
theorem dX10_put_1 : decode cX10_put 1 = .ok (.iconst 0, 1) := by decide +kernel
theorem dX10_put_2 : decode cX10_put 2 = .ok (.iconst 1, 1) := by decide +kernel
theorem dX10_put_3 : decode cX10_put 3 = .ok (.invokestatic 78, 3) := by decide +kernel
theorem dX10_put_6 : decode cX10_put 6 = .ok (.ifCond .eq 13, 3) := by decide +kernel
theorem dX10_put_9 : decode cX10_put 9 = .ok (.iload_n 2, 1) := by decide +kernel
theorem dX10_put_10 : decode cX10_put 10 = .ok (.iconst 0, 1) := by decide +kernel
theorem dX10_put_11 : decode cX10_put 11 = .ok (.bipush 9, 2) := by decide +kernel
theorem dX10_put_13 : decode cX10_put 13 = .ok (.invokestatic 78, 3) := by decide +kernel
theorem dX10_put_16 : decode cX10_put 16 = .ok (.ifCond .ne 10, 3) := by decide +kernel
theorem dX10_put_19 : decode cX10_put 19 = .ok (.aload_n 0, 1) := by decide +kernel
theorem dX10_put_20 : decode cX10_put 20 = .ok (.bipush (-2), 2) := by decide +kernel
theorem dX10_put_22 : decode cX10_put 22 = .ok (.invokevirtual 86, 3) := by decide +kernel
theorem dX10_put_25 : decode cX10_put 25 = .ok (.ireturn, 1) := by decide +kernel
theorem dX10_put_26 : decode cX10_put 26 = .ok (.aload_n 0, 1) := by decide +kernel
theorem dX10_put_27 : decode cX10_put 27 = .ok (.getfield 37, 3) := by decide +kernel
theorem dX10_put_30 : decode cX10_put 30 = .ok (.bipush 10, 2) := by decide +kernel
theorem dX10_put_32 : decode cX10_put 32 = .ok (.iload_n 1, 1) := by decide +kernel
theorem dX10_put_33 : decode cX10_put 33 = .ok (.iadd, 1) := by decide +kernel
theorem dX10_put_34 : decode cX10_put 34 = .ok (.iaload, 1) := by decide +kernel
theorem dX10_put_35 : decode cX10_put 35 = .ok (.istore_n 3, 1) := by decide +kernel
theorem dX10_put_36 : decode cX10_put 36 = .ok (.aload_n 0, 1) := by decide +kernel
theorem dX10_put_37 : decode cX10_put 37 = .ok (.getfield 37, 3) := by decide +kernel
theorem dX10_put_40 : decode cX10_put 40 = .ok (.bipush 10, 2) := by decide +kernel
theorem dX10_put_42 : decode cX10_put 42 = .ok (.iload_n 1, 1) := by decide +kernel
theorem dX10_put_43 : decode cX10_put 43 = .ok (.iadd, 1) := by decide +kernel
theorem dX10_put_44 : decode cX10_put 44 = .ok (.iload_n 2, 1) := by decide +kernel
theorem dX10_put_45 : decode cX10_put 45 = .ok (.iastore, 1) := by decide +kernel
theorem dX10_put_46 : decode cX10_put 46 = .ok (.iload_n 3, 1) := by decide +kernel
theorem dX10_put_47 : decode cX10_put 47 = .ok (.ireturn, 1) := by decide +kernel
theorem dX10_say_0 : decode cX10_say 0 = .ok (.iload_n 1, 1) := by decide +kernel
theorem dX10_say_1 : decode cX10_say 1 = .ok (.iconst 1, 1) := by decide +kernel
theorem dX10_say_2 : decode cX10_say 2 = .ok (.sipush 255, 3) := by decide +kernel
theorem dX10_say_5 : decode cX10_say 5 = .ok (.invokestatic 78, 3) := by decide +kernel
theorem dX10_say_8 : decode cX10_say 8 = .ok (.ifCond .ne 10, 3) := by decide +kernel
theorem dX10_say_11 : decode cX10_say 11 = .ok (.aload_n 0, 1) := by decide +kernel
theorem dX10_say_12 : decode cX10_say 12 = .ok (.bipush (-2), 2) := by decide +kernel
theorem dX10_say_14 : decode cX10_say 14 = .ok (.invokevirtual 86, 3) := by decide +kernel
theorem dX10_say_17 : decode cX10_say 17 = .ok (.ireturn, 1) := by decide +kernel
theorem dX10_say_18 : decode cX10_say 18 = .ok (.aload_n 0, 1) := by decide +kernel
theorem dX10_say_19 : decode cX10_say 19 = .ok (.getfield 13, 3) := by decide +kernel
theorem dX10_say_22 : decode cX10_say 22 = .ok (.iconst 0, 1) := by decide +kernel
theorem dX10_say_23 : decode cX10_say 23 = .ok (.iaload, 1) := by decide +kernel
theorem dX10_say_24 : decode cX10_say 24 = .ok (.bipush 6, 2) := by decide +kernel
theorem dX10_say_26 : decode cX10_say 26 = .ok (.if_icmp .ne 8, 3) := by decide +kernel
theorem dX10_say_29 : decode cX10_say 29 = .ok (.aload_n 0, 1) := by decide +kernel
theorem dX10_say_30 : decode cX10_say 30 = .ok (.invokevirtual 90, 3) := by decide +kernel
theorem dX10_say_33 : decode cX10_say 33 = .ok (.ireturn, 1) := by decide +kernel
theorem dX10_say_34 : decode cX10_say 34 = .ok (.aload_n 0, 1) := by decide +kernel
theorem dX10_say_35 : decode cX10_say 35 = .ok (.getfield 34, 3) := by decide +kernel
theorem dX10_say_38 : decode cX10_say 38 = .ok (.aload_n 0, 1) := by decide +kernel
theorem dX10_say_39 : decode cX10_say 39 = .ok (.getfield 13, 3) := by decide +kernel
theorem dX10_say_42 : decode cX10_say 42 = .ok (.iconst 0, 1) := by decide +kernel
theorem dX10_say_43 : decode cX10_say 43 = .ok (.iaload, 1) := by decide +kernel
theorem dX10_say_44 : decode cX10_say 44 = .ok (.iload_n 1, 1) := by decide +kernel
theorem dX10_say_45 : decode cX10_say 45 = .ok (.iastore, 1) := by decide +kernel
theorem dX10_say_46 : decode cX10_say 46 = .ok (.aload_n 0, 1) := by decide +kernel
theorem dX10_say_47 : decode cX10_say 47 = .ok (.getfield 13, 3) := by decide +kernel
theorem dX10_say_50 : decode cX10_say 50 = .ok (.iconst 0, 1) := by decide +kernel
theorem dX10_say_51 : decode cX10_say 51 = .ok (.dup2, 1) := by decide +kernel
theorem dX10_say_52 : decode cX10_say 52 = .ok (.iaload, 1) := by decide +kernel
theorem dX10_say_53 : decode cX10_say 53 = .ok (.iconst 1, 1) := by decide +kernel
theorem dX10_say_54 : decode cX10_say 54 = .ok (.iadd, 1) := by decide +kernel
theorem dX10_say_55 : decode cX10_say 55 = .ok (.iastore, 1) := by decide +kernel
theorem dX10_say_56 : decode cX10_say 56 = .ok (.aload_n 0, 1) := by decide +kernel
theorem dX10_say_57 : decode cX10_say 57 = .ok (.getfield 13, 3) := by decide +kernel
theorem dX10_say_60 : decode cX10_say 60 = .ok (.iconst 0, 1) := by decide +kernel
theorem dX10_say_61 : decode cX10_say 61 = .ok (.iaload, 1) := by decide +kernel
theorem dX10_say_62 : decode cX10_say 62 = .ok (.iconst 1, 1) := by decide +kernel
theorem dX10_say_63 : decode cX10_say 63 = .ok (.isub, 1) := by decide +kernel
theorem dX10_say_64 : decode cX10_say 64 = .ok (.ireturn, 1) := by decide +kernel
theorem dX10_form_0 : decode cX10_form 0 = .ok (.iload_n 1, 1) := by decide +kernel
theorem dX10_form_1 : decode cX10_form 1 = .ok (.iconst 0, 1) := by decide +kernel
theorem dX10_form_2 : decode cX10_form 2 = .ok (.iconst 3, 1) := by decide +kernel
theorem dX10_form_3 : decode cX10_form 3 = .ok (.invokestatic 78, 3) := by decide +kernel
theorem dX10_form_6 : decode cX10_form 6 = .ok (.ifCond .eq 12, 3) := by decide +kernel
theorem dX10_form_9 : decode cX10_form 9 = .ok (.iload_n 2, 1) := by decide +kernel
theorem dX10_form_10 : decode cX10_form 10 = .ok (.iconst (-1), 1) := by decide +kernel
theorem dX10_form_11 : decode cX10_form 11 = .ok (.iconst 1, 1) := by decide +kernel
theorem dX10_form_12 : decode cX10_form 12 = .ok (.invokestatic 78, 3) := by decide +kernel
theorem dX10_form_15 : decode cX10_form 15 = .ok (.ifCond .ne 10, 3) := by decide +kernel
theorem dX10_form_18 : decode cX10_form 18 = .ok (.aload_n 0, 1) := by decide +kernel
theorem dX10_form_19 : decode cX10_form 19 = .ok (.bipush (-10), 2) := by decide +kernel
theorem dX10_form_21 : decode cX10_form 21 = .ok (.invokevirtual 86, 3) := by decide +kernel
theorem dX10_form_24 : decode cX10_form 24 = .ok (.ireturn, 1) := by decide +kernel
theorem dX10_form_25 : decode cX10_form 25 = .ok (.aload_n 0, 1) := by decide +kernel
theorem dX10_form_26 : decode cX10_form 26 = .ok (.getfield 34, 3) := by decide +kernel
theorem dX10_form_29 : decode cX10_form 29 = .ok (.bipush 12, 2) := by decide +kernel
theorem dX10_form_31 : decode cX10_form 31 = .ok (.iload_n 1, 1) := by decide +kernel
theorem dX10_form_32 : decode cX10_form 32 = .ok (.iadd, 1) := by decide +kernel
theorem dX10_form_33 : decode cX10_form 33 = .ok (.iaload, 1) := by decide +kernel
theorem dX10_form_34 : decode cX10_form 34 = .ok (.istore_n 3, 1) := by decide +kernel
theorem dX10_form_35 : decode cX10_form 35 = .ok (.aload_n 0, 1) := by decide +kernel
theorem dX10_form_36 : decode cX10_form 36 = .ok (.getfield 34, 3) := by decide +kernel
theorem dX10_form_39 : decode cX10_form 39 = .ok (.bipush 12, 2) := by decide +kernel
theorem dX10_form_41 : decode cX10_form 41 = .ok (.iload_n 1, 1) := by decide +kernel
theorem dX10_form_42 : decode cX10_form 42 = .ok (.iadd, 1) := by decide +kernel
theorem dX10_form_43 : decode cX10_form 43 = .ok (.iload_n 2, 1) := by decide +kernel
theorem dX10_form_44 : decode cX10_form 44 = .ok (.iastore, 1) := by decide +kernel
theorem dX10_form_45 : decode cX10_form 45 = .ok (.iload_n 3, 1) := by decide +kernel
theorem dX10_form_46 : decode cX10_form 46 = .ok (.ireturn, 1) := by decide +kernel
theorem dX10_hush_0 : decode cX10_hush 0 = .ok (.aload_n 0, 1) := by decide +kernel
theorem dX10_hush_1 : decode cX10_hush 1 = .ok (.getfield 13, 3) := by decide +kernel
theorem dX10_hush_4 : decode cX10_hush 4 = .ok (.iconst 0, 1) := by decide +kernel
theorem dX10_hush_5 : decode cX10_hush 5 = .ok (.iaload, 1) := by decide +kernel
theorem dX10_hush_6 : decode cX10_hush 6 = .ok (.istore_n 1, 1) := by decide +kernel
theorem dX10_hush_7 : decode cX10_hush 7 = .ok (.aload_n 0, 1) := by decide +kernel
theorem dX10_hush_8 : decode cX10_hush 8 = .ok (.getfield 13, 3) := by decide +kernel
theorem dX10_hush_11 : decode cX10_hush 11 = .ok (.iconst 0, 1) := by decide +kernel
theorem dX10_hush_12 : decode cX10_hush 12 = .ok (.iconst 0, 1) := by decide +kernel
theorem dX10_hush_13 : decode cX10_hush 13 = .ok (.iastore, 1) := by decide +kernel
theorem dX10_hush_14 : decode cX10_hush 14 = .ok (.iconst 0, 1) := by decide +kernel
theorem dX10_hush_15 : decode cX10_hush 15 = .ok (.istore_n 2, 1) := by decide +kernel
theorem dX10_hush_16 : decode cX10_hush 16 = .ok (.iload_n 2, 1) := by decide +kernel
theorem dX10_hush_17 : decode cX10_hush 17 = .ok (.bipush 16, 2) := by decide +kernel
theorem dX10_hush_19 : decode cX10_hush 19 = .ok (.if_icmp .ge 26, 3) := by decide +kernel
theorem dX10_hush_22 : decode cX10_hush 22 = .ok (.aload_n 0, 1) := by decide +kernel
theorem dX10_hush_23 : decode cX10_hush 23 = .ok (.getfield 34, 3) := by decide +kernel
theorem dX10_hush_26 : decode cX10_hush 26 = .ok (.iload_n 2, 1) := by decide +kernel
theorem dX10_hush_27 : decode cX10_hush 27 = .ok (.iload_n 2, 1) := by decide +kernel
theorem dX10_hush_28 : decode cX10_hush 28 = .ok (.bipush 6, 2) := by decide +kernel
theorem dX10_hush_30 : decode cX10_hush 30 = .ok (.if_icmp .ge 7, 3) := by decide +kernel
theorem dX10_hush_33 : decode cX10_hush 33 = .ok (.iconst 0, 1) := by decide +kernel
theorem dX10_hush_34 : decode cX10_hush 34 = .ok (.goto 4, 3) := by decide +kernel
theorem dX10_hush_37 : decode cX10_hush 37 = .ok (.iconst (-1), 1) := by decide +kernel
theorem dX10_hush_38 : decode cX10_hush 38 = .ok (.iastore, 1) := by decide +kernel
theorem dX10_hush_39 : decode cX10_hush 39 = .ok (.iinc 2 1, 3) := by decide +kernel
theorem dX10_hush_42 : decode cX10_hush 42 = .ok (.goto (-26), 3) := by decide +kernel
theorem dX10_hush_45 : decode cX10_hush 45 = .ok (.iload_n 1, 1) := by decide +kernel
theorem dX10_hush_46 : decode cX10_hush 46 = .ok (.ireturn, 1) := by decide +kernel
theorem dX10_costs_0 : decode cX10_costs 0 = .ok (.iload_n 2, 1) := by decide +kernel
theorem dX10_costs_1 : decode cX10_costs 1 = .ok (.aload_n 0, 1) := by decide +kernel
theorem dX10_costs_2 : decode cX10_costs 2 = .ok (.getfield 25, 3) := by decide +kernel
theorem dX10_costs_5 : decode cX10_costs 5 = .ok (.iload 4, 2) := by decide +kernel
theorem dX10_costs_7 : decode cX10_costs 7 = .ok (.iaload, 1) := by decide +kernel
theorem dX10_costs_8 : decode cX10_costs 8 = .ok (.iconst (-1), 1) := by decide +kernel
theorem dX10_costs_9 : decode cX10_costs 9 = .ok (.ixor, 1) := by decide +kernel
theorem dX10_costs_10 : decode cX10_costs 10 = .ok (.iand, 1) := by decide +kernel
theorem dX10_costs_11 : decode cX10_costs 11 = .ok (.invokestatic 94, 3) := by decide +kernel
theorem dX10_costs_14 : decode cX10_costs 14 = .ok (.istore 5, 2) := by decide +kernel
theorem dX10_costs_16 : decode cX10_costs 16 = .ok (.aload_n 0, 1) := by decide +kernel
theorem dX10_costs_17 : decode cX10_costs 17 = .ok (.getfield 25, 3) := by decide +kernel
theorem dX10_costs_20 : decode cX10_costs 20 = .ok (.iload 4, 2) := by decide +kernel
theorem dX10_costs_22 : decode cX10_costs 22 = .ok (.iaload, 1) := by decide +kernel
theorem dX10_costs_23 : decode cX10_costs 23 = .ok (.iload_n 2, 1) := by decide +kernel
theorem dX10_costs_24 : decode cX10_costs 24 = .ok (.iconst (-1), 1) := by decide +kernel
theorem dX10_costs_25 : decode cX10_costs 25 = .ok (.ixor, 1) := by decide +kernel
theorem dX10_costs_26 : decode cX10_costs 26 = .ok (.iand, 1) := by decide +kernel
theorem dX10_costs_27 : decode cX10_costs 27 = .ok (.invokestatic 94, 3) := by decide +kernel
theorem dX10_costs_30 : decode cX10_costs 30 = .ok (.istore 6, 2) := by decide +kernel
theorem dX10_costs_32 : decode cX10_costs 32 = .ok (.aload_n 0, 1) := by decide +kernel
theorem dX10_costs_33 : decode cX10_costs 33 = .ok (.getfield 37, 3) := by decide +kernel
theorem dX10_costs_36 : decode cX10_costs 36 = .ok (.bipush 10, 2) := by decide +kernel
theorem dX10_costs_38 : decode cX10_costs 38 = .ok (.iaload, 1) := by decide +kernel
theorem dX10_costs_39 : decode cX10_costs 39 = .ok (.iload 5, 2) := by decide +kernel
theorem dX10_costs_41 : decode cX10_costs 41 = .ok (.imul, 1) := by decide +kernel
theorem dX10_costs_42 : decode cX10_costs 42 = .ok (.aload_n 0, 1) := by decide +kernel
theorem dX10_costs_43 : decode cX10_costs 43 = .ok (.getfield 37, 3) := by decide +kernel
theorem dX10_costs_46 : decode cX10_costs 46 = .ok (.bipush 11, 2) := by decide +kernel
theorem dX10_costs_48 : decode cX10_costs 48 = .ok (.iaload, 1) := by decide +kernel
theorem dX10_costs_49 : decode cX10_costs 49 = .ok (.iload 6, 2) := by decide +kernel
theorem dX10_costs_51 : decode cX10_costs 51 = .ok (.imul, 1) := by decide +kernel
theorem dX10_costs_52 : decode cX10_costs 52 = .ok (.iadd, 1) := by decide +kernel
theorem dX10_costs_53 : decode cX10_costs 53 = .ok (.istore 7, 2) := by decide +kernel
theorem dX10_costs_55 : decode cX10_costs 55 = .ok (.iload_n 3, 1) := by decide +kernel
theorem dX10_costs_56 : decode cX10_costs 56 = .ok (.ifCond .ge 7, 3) := by decide +kernel
theorem dX10_costs_59 : decode cX10_costs 59 = .ok (.iconst 0, 1) := by decide +kernel
theorem dX10_costs_60 : decode cX10_costs 60 = .ok (.goto 14, 3) := by decide +kernel
theorem dX10_costs_63 : decode cX10_costs 63 = .ok (.iload_n 3, 1) := by decide +kernel
theorem dX10_costs_64 : decode cX10_costs 64 = .ok (.aload_n 0, 1) := by decide +kernel
theorem dX10_costs_65 : decode cX10_costs 65 = .ok (.getfield 25, 3) := by decide +kernel
theorem dX10_costs_68 : decode cX10_costs 68 = .ok (.iload 4, 2) := by decide +kernel
theorem dX10_costs_70 : decode cX10_costs 70 = .ok (.iconst 1, 1) := by decide +kernel
theorem dX10_costs_71 : decode cX10_costs 71 = .ok (.iadd, 1) := by decide +kernel
theorem dX10_costs_72 : decode cX10_costs 72 = .ok (.iaload, 1) := by decide +kernel
theorem dX10_costs_73 : decode cX10_costs 73 = .ok (.isub, 1) := by decide +kernel
theorem dX10_costs_74 : decode cX10_costs 74 = .ok (.istore 8, 2) := by decide +kernel
theorem dX10_costs_76 : decode cX10_costs 76 = .ok (.iload_n 1, 1) := by decide +kernel
theorem dX10_costs_77 : decode cX10_costs 77 = .ok (.tableswitch 107 0 4 #[35, 38, 52, 66, 79], 35) := by decide +kernel
theorem dX10_costs_112 : decode cX10_costs 112 = .ok (.iload 7, 2) := by decide +kernel
theorem dX10_costs_114 : decode cX10_costs 114 = .ok (.ireturn, 1) := by decide +kernel
theorem dX10_costs_115 : decode cX10_costs 115 = .ok (.iload 7, 2) := by decide +kernel
theorem dX10_costs_117 : decode cX10_costs 117 = .ok (.aload_n 0, 1) := by decide +kernel
theorem dX10_costs_118 : decode cX10_costs 118 = .ok (.getfield 37, 3) := by decide +kernel
theorem dX10_costs_121 : decode cX10_costs 121 = .ok (.bipush 11, 2) := by decide +kernel
theorem dX10_costs_123 : decode cX10_costs 123 = .ok (.iaload, 1) := by decide +kernel
theorem dX10_costs_124 : decode cX10_costs 124 = .ok (.iload 6, 2) := by decide +kernel
theorem dX10_costs_126 : decode cX10_costs 126 = .ok (.imul, 1) := by decide +kernel
theorem dX10_costs_127 : decode cX10_costs 127 = .ok (.iadd, 1) := by decide +kernel
theorem dX10_costs_128 : decode cX10_costs 128 = .ok (.ireturn, 1) := by decide +kernel
theorem dX10_costs_129 : decode cX10_costs 129 = .ok (.iload 7, 2) := by decide +kernel
theorem dX10_costs_131 : decode cX10_costs 131 = .ok (.aload_n 0, 1) := by decide +kernel
theorem dX10_costs_132 : decode cX10_costs 132 = .ok (.getfield 37, 3) := by decide +kernel
theorem dX10_costs_135 : decode cX10_costs 135 = .ok (.bipush 10, 2) := by decide +kernel
theorem dX10_costs_137 : decode cX10_costs 137 = .ok (.iaload, 1) := by decide +kernel
theorem dX10_costs_138 : decode cX10_costs 138 = .ok (.iload 5, 2) := by decide +kernel
theorem dX10_costs_140 : decode cX10_costs 140 = .ok (.imul, 1) := by decide +kernel
theorem dX10_costs_141 : decode cX10_costs 141 = .ok (.iadd, 1) := by decide +kernel
theorem dX10_costs_142 : decode cX10_costs 142 = .ok (.ireturn, 1) := by decide +kernel
theorem dX10_costs_143 : decode cX10_costs 143 = .ok (.iload 7, 2) := by decide +kernel
theorem dX10_costs_145 : decode cX10_costs 145 = .ok (.aload_n 0, 1) := by decide +kernel
theorem dX10_costs_146 : decode cX10_costs 146 = .ok (.getfield 25, 3) := by decide +kernel
theorem dX10_costs_149 : decode cX10_costs 149 = .ok (.iload 4, 2) := by decide +kernel
theorem dX10_costs_151 : decode cX10_costs 151 = .ok (.iconst 2, 1) := by decide +kernel
theorem dX10_costs_152 : decode cX10_costs 152 = .ok (.iadd, 1) := by decide +kernel
theorem dX10_costs_153 : decode cX10_costs 153 = .ok (.iaload, 1) := by decide +kernel
theorem dX10_costs_154 : decode cX10_costs 154 = .ok (.isub, 1) := by decide +kernel
theorem dX10_costs_155 : decode cX10_costs 155 = .ok (.ireturn, 1) := by decide +kernel
theorem dX10_costs_156 : decode cX10_costs 156 = .ok (.iload 7, 2) := by decide +kernel
theorem dX10_costs_158 : decode cX10_costs 158 = .ok (.aload_n 0, 1) := by decide +kernel
theorem dX10_costs_159 : decode cX10_costs 159 = .ok (.getfield 37, 3) := by decide +kernel
theorem dX10_costs_162 : decode cX10_costs 162 = .ok (.bipush 11, 2) := by decide +kernel
theorem dX10_costs_164 : decode cX10_costs 164 = .ok (.iaload, 1) := by decide +kernel
theorem dX10_costs_165 : decode cX10_costs 165 = .ok (.iload 6, 2) := by decide +kernel
theorem dX10_costs_167 : decode cX10_costs 167 = .ok (.imul, 1) := by decide +kernel
theorem dX10_costs_168 : decode cX10_costs 168 = .ok (.iadd, 1) := by decide +kernel
theorem dX10_costs_169 : decode cX10_costs 169 = .ok (.iload 8, 2) := by decide +kernel
theorem dX10_costs_171 : decode cX10_costs 171 = .ok (.ifCond .ge 9, 3) := by decide +kernel
theorem dX10_costs_174 : decode cX10_costs 174 = .ok (.iload 8, 2) := by decide +kernel
theorem dX10_costs_176 : decode cX10_costs 176 = .ok (.ineg, 1) := by decide +kernel
theorem dX10_costs_177 : decode cX10_costs 177 = .ok (.goto 5, 3) := by decide +kernel
theorem dX10_costs_180 : decode cX10_costs 180 = .ok (.iload 8, 2) := by decide +kernel
theorem dX10_costs_182 : decode cX10_costs 182 = .ok (.iadd, 1) := by decide +kernel
theorem dX10_costs_183 : decode cX10_costs 183 = .ok (.ireturn, 1) := by decide +kernel
theorem dX10_costs_184 : decode cX10_costs 184 = .ok (.iload 7, 2) := by decide +kernel
theorem dX10_costs_186 : decode cX10_costs 186 = .ok (.iload 5, 2) := by decide +kernel
theorem dX10_costs_188 : decode cX10_costs 188 = .ok (.iload 6, 2) := by decide +kernel
theorem dX10_costs_190 : decode cX10_costs 190 = .ok (.iadd, 1) := by decide +kernel
theorem dX10_costs_191 : decode cX10_costs 191 = .ok (.ifCond .le 7, 3) := by decide +kernel
theorem dX10_costs_194 : decode cX10_costs 194 = .ok (.iconst 5, 1) := by decide +kernel
theorem dX10_costs_195 : decode cX10_costs 195 = .ok (.goto 4, 3) := by decide +kernel
theorem dX10_costs_198 : decode cX10_costs 198 = .ok (.iconst 0, 1) := by decide +kernel
theorem dX10_costs_199 : decode cX10_costs 199 = .ok (.iadd, 1) := by decide +kernel
theorem dX10_costs_200 : decode cX10_costs 200 = .ok (.ireturn, 1) := by decide +kernel
theorem dX10_cost_0 : decode cX10_cost 0 = .ok (.iload_n 1, 1) := by decide +kernel
theorem dX10_cost_1 : decode cX10_cost 1 = .ok (.iconst 0, 1) := by decide +kernel
theorem dX10_cost_2 : decode cX10_cost 2 = .ok (.iconst 5, 1) := by decide +kernel
theorem dX10_cost_3 : decode cX10_cost 3 = .ok (.invokestatic 78, 3) := by decide +kernel
theorem dX10_cost_6 : decode cX10_cost 6 = .ok (.ifCond .eq 29, 3) := by decide +kernel
theorem dX10_cost_9 : decode cX10_cost 9 = .ok (.iload_n 2, 1) := by decide +kernel
theorem dX10_cost_10 : decode cX10_cost 10 = .ok (.iconst 0, 1) := by decide +kernel
theorem dX10_cost_11 : decode cX10_cost 11 = .ok (.aload_n 0, 1) := by decide +kernel
theorem dX10_cost_12 : decode cX10_cost 12 = .ok (.getfield 13, 3) := by decide +kernel
theorem dX10_cost_15 : decode cX10_cost 15 = .ok (.iconst 0, 1) := by decide +kernel
theorem dX10_cost_16 : decode cX10_cost 16 = .ok (.iaload, 1) := by decide +kernel
theorem dX10_cost_17 : decode cX10_cost 17 = .ok (.iconst 1, 1) := by decide +kernel
theorem dX10_cost_18 : decode cX10_cost 18 = .ok (.isub, 1) := by decide +kernel
theorem dX10_cost_19 : decode cX10_cost 19 = .ok (.invokestatic 78, 3) := by decide +kernel
theorem dX10_cost_22 : decode cX10_cost 22 = .ok (.ifCond .eq 13, 3) := by decide +kernel
theorem dX10_cost_25 : decode cX10_cost 25 = .ok (.aload_n 0, 1) := by decide +kernel
theorem dX10_cost_26 : decode cX10_cost 26 = .ok (.iload_n 3, 1) := by decide +kernel
theorem dX10_cost_27 : decode cX10_cost 27 = .ok (.iload 4, 2) := by decide +kernel
theorem dX10_cost_29 : decode cX10_cost 29 = .ok (.invokevirtual 97, 3) := by decide +kernel
theorem dX10_cost_32 : decode cX10_cost 32 = .ok (.ifCond .ne 11, 3) := by decide +kernel
theorem dX10_cost_35 : decode cX10_cost 35 = .ok (.aload_n 0, 1) := by decide +kernel
theorem dX10_cost_36 : decode cX10_cost 36 = .ok (.sipush (-1000), 3) := by decide +kernel
theorem dX10_cost_39 : decode cX10_cost 39 = .ok (.invokevirtual 86, 3) := by decide +kernel
theorem dX10_cost_42 : decode cX10_cost 42 = .ok (.ireturn, 1) := by decide +kernel
theorem dX10_cost_43 : decode cX10_cost 43 = .ok (.aload_n 0, 1) := by decide +kernel
theorem dX10_cost_44 : decode cX10_cost 44 = .ok (.iload_n 1, 1) := by decide +kernel
theorem dX10_cost_45 : decode cX10_cost 45 = .ok (.aload_n 0, 1) := by decide +kernel
theorem dX10_cost_46 : decode cX10_cost 46 = .ok (.getfield 34, 3) := by decide +kernel
theorem dX10_cost_49 : decode cX10_cost 49 = .ok (.iload_n 2, 1) := by decide +kernel
theorem dX10_cost_50 : decode cX10_cost 50 = .ok (.iaload, 1) := by decide +kernel
theorem dX10_cost_51 : decode cX10_cost 51 = .ok (.aload_n 0, 1) := by decide +kernel
theorem dX10_cost_52 : decode cX10_cost 52 = .ok (.getfield 34, 3) := by decide +kernel
theorem dX10_cost_55 : decode cX10_cost 55 = .ok (.bipush 6, 2) := by decide +kernel
theorem dX10_cost_57 : decode cX10_cost 57 = .ok (.iload_n 2, 1) := by decide +kernel
theorem dX10_cost_58 : decode cX10_cost 58 = .ok (.iadd, 1) := by decide +kernel
theorem dX10_cost_59 : decode cX10_cost 59 = .ok (.iaload, 1) := by decide +kernel
theorem dX10_cost_60 : decode cX10_cost 60 = .ok (.bipush 24, 2) := by decide +kernel
theorem dX10_cost_62 : decode cX10_cost 62 = .ok (.iload_n 3, 1) := by decide +kernel
theorem dX10_cost_63 : decode cX10_cost 63 = .ok (.imul, 1) := by decide +kernel
theorem dX10_cost_64 : decode cX10_cost 64 = .ok (.iconst 3, 1) := by decide +kernel
theorem dX10_cost_65 : decode cX10_cost 65 = .ok (.iload 4, 2) := by decide +kernel
theorem dX10_cost_67 : decode cX10_cost 67 = .ok (.imul, 1) := by decide +kernel
theorem dX10_cost_68 : decode cX10_cost 68 = .ok (.iadd, 1) := by decide +kernel
theorem dX10_cost_69 : decode cX10_cost 69 = .ok (.invokevirtual 101, 3) := by decide +kernel
theorem dX10_cost_72 : decode cX10_cost 72 = .ok (.ireturn, 1) := by decide +kernel
theorem dX10_gets_0 : decode cX10_gets 0 = .ok (.bipush 24, 2) := by decide +kernel
theorem dX10_gets_2 : decode cX10_gets 2 = .ok (.iload 4, 2) := by decide +kernel
theorem dX10_gets_4 : decode cX10_gets 4 = .ok (.imul, 1) := by decide +kernel
theorem dX10_gets_5 : decode cX10_gets 5 = .ok (.istore 5, 2) := by decide +kernel
theorem dX10_gets_7 : decode cX10_gets 7 = .ok (.iconst 1, 1) := by decide +kernel
theorem dX10_gets_8 : decode cX10_gets 8 = .ok (.istore 6, 2) := by decide +kernel
theorem dX10_gets_10 : decode cX10_gets 10 = .ok (.iload 6, 2) := by decide +kernel
theorem dX10_gets_12 : decode cX10_gets 12 = .ok (.aload_n 0, 1) := by decide +kernel
theorem dX10_gets_13 : decode cX10_gets 13 = .ok (.getfield 22, 3) := by decide +kernel
theorem dX10_gets_16 : decode cX10_gets 16 = .ok (.iconst 4, 1) := by decide +kernel
theorem dX10_gets_17 : decode cX10_gets 17 = .ok (.iload 4, 2) := by decide +kernel
theorem dX10_gets_19 : decode cX10_gets 19 = .ok (.imul, 1) := by decide +kernel
theorem dX10_gets_20 : decode cX10_gets 20 = .ok (.iconst 3, 1) := by decide +kernel
theorem dX10_gets_21 : decode cX10_gets 21 = .ok (.iadd, 1) := by decide +kernel
theorem dX10_gets_22 : decode cX10_gets 22 = .ok (.iaload, 1) := by decide +kernel
theorem dX10_gets_23 : decode cX10_gets 23 = .ok (.if_icmp .ge 82, 3) := by decide +kernel
theorem dX10_gets_26 : decode cX10_gets 26 = .ok (.bipush 24, 2) := by decide +kernel
theorem dX10_gets_28 : decode cX10_gets 28 = .ok (.iload 4, 2) := by decide +kernel
theorem dX10_gets_30 : decode cX10_gets 30 = .ok (.imul, 1) := by decide +kernel
theorem dX10_gets_31 : decode cX10_gets 31 = .ok (.iconst 3, 1) := by decide +kernel
theorem dX10_gets_32 : decode cX10_gets 32 = .ok (.iload 6, 2) := by decide +kernel
theorem dX10_gets_34 : decode cX10_gets 34 = .ok (.imul, 1) := by decide +kernel
theorem dX10_gets_35 : decode cX10_gets 35 = .ok (.iadd, 1) := by decide +kernel
theorem dX10_gets_36 : decode cX10_gets 36 = .ok (.istore 7, 2) := by decide +kernel
theorem dX10_gets_38 : decode cX10_gets 38 = .ok (.aload_n 0, 1) := by decide +kernel
theorem dX10_gets_39 : decode cX10_gets 39 = .ok (.iload_n 1, 1) := by decide +kernel
theorem dX10_gets_40 : decode cX10_gets 40 = .ok (.iload_n 2, 1) := by decide +kernel
theorem dX10_gets_41 : decode cX10_gets 41 = .ok (.iload_n 3, 1) := by decide +kernel
theorem dX10_gets_42 : decode cX10_gets 42 = .ok (.iload 5, 2) := by decide +kernel
theorem dX10_gets_44 : decode cX10_gets 44 = .ok (.invokevirtual 101, 3) := by decide +kernel
theorem dX10_gets_47 : decode cX10_gets 47 = .ok (.aload_n 0, 1) := by decide +kernel
theorem dX10_gets_48 : decode cX10_gets 48 = .ok (.iload_n 1, 1) := by decide +kernel
theorem dX10_gets_49 : decode cX10_gets 49 = .ok (.iload_n 2, 1) := by decide +kernel
theorem dX10_gets_50 : decode cX10_gets 50 = .ok (.iload_n 3, 1) := by decide +kernel
theorem dX10_gets_51 : decode cX10_gets 51 = .ok (.iload 7, 2) := by decide +kernel
theorem dX10_gets_53 : decode cX10_gets 53 = .ok (.invokevirtual 101, 3) := by decide +kernel
theorem dX10_gets_56 : decode cX10_gets 56 = .ok (.isub, 1) := by decide +kernel
theorem dX10_gets_57 : decode cX10_gets 57 = .ok (.istore 8, 2) := by decide +kernel
theorem dX10_gets_59 : decode cX10_gets 59 = .ok (.iload 8, 2) := by decide +kernel
theorem dX10_gets_61 : decode cX10_gets 61 = .ok (.ifCond .gt 29, 3) := by decide +kernel
theorem dX10_gets_64 : decode cX10_gets 64 = .ok (.iload 8, 2) := by decide +kernel
theorem dX10_gets_66 : decode cX10_gets 66 = .ok (.ifCond .ne 29, 3) := by decide +kernel
theorem dX10_gets_69 : decode cX10_gets 69 = .ok (.aload_n 0, 1) := by decide +kernel
theorem dX10_gets_70 : decode cX10_gets 70 = .ok (.getfield 25, 3) := by decide +kernel
theorem dX10_gets_73 : decode cX10_gets 73 = .ok (.iload 7, 2) := by decide +kernel
theorem dX10_gets_75 : decode cX10_gets 75 = .ok (.iconst 2, 1) := by decide +kernel
theorem dX10_gets_76 : decode cX10_gets 76 = .ok (.iadd, 1) := by decide +kernel
theorem dX10_gets_77 : decode cX10_gets 77 = .ok (.iaload, 1) := by decide +kernel
theorem dX10_gets_78 : decode cX10_gets 78 = .ok (.aload_n 0, 1) := by decide +kernel
theorem dX10_gets_79 : decode cX10_gets 79 = .ok (.getfield 25, 3) := by decide +kernel
theorem dX10_gets_82 : decode cX10_gets 82 = .ok (.iload 5, 2) := by decide +kernel
theorem dX10_gets_84 : decode cX10_gets 84 = .ok (.iconst 2, 1) := by decide +kernel
theorem dX10_gets_85 : decode cX10_gets 85 = .ok (.iadd, 1) := by decide +kernel
theorem dX10_gets_86 : decode cX10_gets 86 = .ok (.iaload, 1) := by decide +kernel
theorem dX10_gets_87 : decode cX10_gets 87 = .ok (.if_icmp .le 8, 3) := by decide +kernel
theorem dX10_gets_90 : decode cX10_gets 90 = .ok (.iload 7, 2) := by decide +kernel
theorem dX10_gets_92 : decode cX10_gets 92 = .ok (.goto 5, 3) := by decide +kernel
theorem dX10_gets_95 : decode cX10_gets 95 = .ok (.iload 5, 2) := by decide +kernel
theorem dX10_gets_97 : decode cX10_gets 97 = .ok (.istore 5, 2) := by decide +kernel
theorem dX10_gets_99 : decode cX10_gets 99 = .ok (.iinc 6 1, 3) := by decide +kernel
theorem dX10_gets_102 : decode cX10_gets 102 = .ok (.goto (-92), 3) := by decide +kernel
theorem dX10_gets_105 : decode cX10_gets 105 = .ok (.iload 5, 2) := by decide +kernel
theorem dX10_gets_107 : decode cX10_gets 107 = .ok (.ireturn, 1) := by decide +kernel
theorem dX10_carries_0 : decode cX10_carries 0 = .ok (.iconst 0, 1) := by decide +kernel
theorem dX10_carries_1 : decode cX10_carries 1 = .ok (.istore 7, 2) := by decide +kernel
theorem dX10_carries_3 : decode cX10_carries 3 = .ok (.iload 7, 2) := by decide +kernel
theorem dX10_carries_5 : decode cX10_carries 5 = .ok (.bipush 6, 2) := by decide +kernel
theorem dX10_carries_7 : decode cX10_carries 7 = .ok (.if_icmp .ge 100, 3) := by decide +kernel
theorem dX10_carries_10 : decode cX10_carries 10 = .ok (.iload 7, 2) := by decide +kernel
theorem dX10_carries_12 : decode cX10_carries 12 = .ok (.aload_n 0, 1) := by decide +kernel
theorem dX10_carries_13 : decode cX10_carries 13 = .ok (.getfield 13, 3) := by decide +kernel
theorem dX10_carries_16 : decode cX10_carries 16 = .ok (.iconst 0, 1) := by decide +kernel
theorem dX10_carries_17 : decode cX10_carries 17 = .ok (.iaload, 1) := by decide +kernel
theorem dX10_carries_18 : decode cX10_carries 18 = .ok (.if_icmp .ge 29, 3) := by decide +kernel
theorem dX10_carries_21 : decode cX10_carries 21 = .ok (.aload_n 0, 1) := by decide +kernel
theorem dX10_carries_22 : decode cX10_carries 22 = .ok (.iload 6, 2) := by decide +kernel
theorem dX10_carries_24 : decode cX10_carries 24 = .ok (.aload_n 1, 1) := by decide +kernel
theorem dX10_carries_25 : decode cX10_carries 25 = .ok (.iload_n 2, 1) := by decide +kernel
theorem dX10_carries_26 : decode cX10_carries 26 = .ok (.iload 7, 2) := by decide +kernel
theorem dX10_carries_28 : decode cX10_carries 28 = .ok (.iadd, 1) := by decide +kernel
theorem dX10_carries_29 : decode cX10_carries 29 = .ok (.iaload, 1) := by decide +kernel
theorem dX10_carries_30 : decode cX10_carries 30 = .ok (.aload_n 1, 1) := by decide +kernel
theorem dX10_carries_31 : decode cX10_carries 31 = .ok (.iload_n 2, 1) := by decide +kernel
theorem dX10_carries_32 : decode cX10_carries 32 = .ok (.bipush 6, 2) := by decide +kernel
theorem dX10_carries_34 : decode cX10_carries 34 = .ok (.iadd, 1) := by decide +kernel
theorem dX10_carries_35 : decode cX10_carries 35 = .ok (.iload 7, 2) := by decide +kernel
theorem dX10_carries_37 : decode cX10_carries 37 = .ok (.iadd, 1) := by decide +kernel
theorem dX10_carries_38 : decode cX10_carries 38 = .ok (.iaload, 1) := by decide +kernel
theorem dX10_carries_39 : decode cX10_carries 39 = .ok (.iload 5, 2) := by decide +kernel
theorem dX10_carries_41 : decode cX10_carries 41 = .ok (.invokevirtual 105, 3) := by decide +kernel
theorem dX10_carries_44 : decode cX10_carries 44 = .ok (.goto 4, 3) := by decide +kernel
theorem dX10_carries_47 : decode cX10_carries 47 = .ok (.iconst (-1), 1) := by decide +kernel
theorem dX10_carries_48 : decode cX10_carries 48 = .ok (.istore 8, 2) := by decide +kernel
theorem dX10_carries_50 : decode cX10_carries 50 = .ok (.aload_n 3, 1) := by decide +kernel
theorem dX10_carries_51 : decode cX10_carries 51 = .ok (.iload 4, 2) := by decide +kernel
theorem dX10_carries_53 : decode cX10_carries 53 = .ok (.iload 7, 2) := by decide +kernel
theorem dX10_carries_55 : decode cX10_carries 55 = .ok (.iadd, 1) := by decide +kernel
theorem dX10_carries_56 : decode cX10_carries 56 = .ok (.iload 8, 2) := by decide +kernel
theorem dX10_carries_58 : decode cX10_carries 58 = .ok (.ifCond .ge 7, 3) := by decide +kernel
theorem dX10_carries_61 : decode cX10_carries 61 = .ok (.iconst 0, 1) := by decide +kernel
theorem dX10_carries_62 : decode cX10_carries 62 = .ok (.goto 10, 3) := by decide +kernel
theorem dX10_carries_65 : decode cX10_carries 65 = .ok (.aload_n 0, 1) := by decide +kernel
theorem dX10_carries_66 : decode cX10_carries 66 = .ok (.getfield 25, 3) := by decide +kernel
theorem dX10_carries_69 : decode cX10_carries 69 = .ok (.iload 8, 2) := by decide +kernel
theorem dX10_carries_71 : decode cX10_carries 71 = .ok (.iaload, 1) := by decide +kernel
theorem dX10_carries_72 : decode cX10_carries 72 = .ok (.iastore, 1) := by decide +kernel
theorem dX10_carries_73 : decode cX10_carries 73 = .ok (.aload_n 3, 1) := by decide +kernel
theorem dX10_carries_74 : decode cX10_carries 74 = .ok (.iload 4, 2) := by decide +kernel
theorem dX10_carries_76 : decode cX10_carries 76 = .ok (.bipush 6, 2) := by decide +kernel
theorem dX10_carries_78 : decode cX10_carries 78 = .ok (.iadd, 1) := by decide +kernel
theorem dX10_carries_79 : decode cX10_carries 79 = .ok (.iload 7, 2) := by decide +kernel
theorem dX10_carries_81 : decode cX10_carries 81 = .ok (.iadd, 1) := by decide +kernel
theorem dX10_carries_82 : decode cX10_carries 82 = .ok (.iload 8, 2) := by decide +kernel
theorem dX10_carries_84 : decode cX10_carries 84 = .ok (.ifCond .ge 7, 3) := by decide +kernel
theorem dX10_carries_87 : decode cX10_carries 87 = .ok (.iconst (-1), 1) := by decide +kernel
theorem dX10_carries_88 : decode cX10_carries 88 = .ok (.goto 12, 3) := by decide +kernel
theorem dX10_carries_91 : decode cX10_carries 91 = .ok (.aload_n 0, 1) := by decide +kernel
theorem dX10_carries_92 : decode cX10_carries 92 = .ok (.getfield 25, 3) := by decide +kernel
theorem dX10_carries_95 : decode cX10_carries 95 = .ok (.iload 8, 2) := by decide +kernel
theorem dX10_carries_97 : decode cX10_carries 97 = .ok (.iconst 1, 1) := by decide +kernel
theorem dX10_carries_98 : decode cX10_carries 98 = .ok (.iadd, 1) := by decide +kernel
theorem dX10_carries_99 : decode cX10_carries 99 = .ok (.iaload, 1) := by decide +kernel
theorem dX10_carries_100 : decode cX10_carries 100 = .ok (.iastore, 1) := by decide +kernel
theorem dX10_carries_101 : decode cX10_carries 101 = .ok (.iinc 7 1, 3) := by decide +kernel
theorem dX10_carries_104 : decode cX10_carries 104 = .ok (.goto (-101), 3) := by decide +kernel
theorem dX10_carries_107 : decode cX10_carries 107 = .ok (.iconst 0, 1) := by decide +kernel
theorem dX10_carries_108 : decode cX10_carries 108 = .ok (.istore 7, 2) := by decide +kernel
theorem dX10_carries_110 : decode cX10_carries 110 = .ok (.iload 7, 2) := by decide +kernel
theorem dX10_carries_112 : decode cX10_carries 112 = .ok (.iconst 4, 1) := by decide +kernel
theorem dX10_carries_113 : decode cX10_carries 113 = .ok (.if_icmp .ge 97, 3) := by decide +kernel
theorem dX10_carries_116 : decode cX10_carries 116 = .ok (.aload_n 0, 1) := by decide +kernel
theorem dX10_carries_117 : decode cX10_carries 117 = .ok (.getfield 22, 3) := by decide +kernel
theorem dX10_carries_120 : decode cX10_carries 120 = .ok (.iconst 4, 1) := by decide +kernel
theorem dX10_carries_121 : decode cX10_carries 121 = .ok (.iload 5, 2) := by decide +kernel
theorem dX10_carries_123 : decode cX10_carries 123 = .ok (.imul, 1) := by decide +kernel
theorem dX10_carries_124 : decode cX10_carries 124 = .ok (.iconst 1, 1) := by decide +kernel
theorem dX10_carries_125 : decode cX10_carries 125 = .ok (.iadd, 1) := by decide +kernel
theorem dX10_carries_126 : decode cX10_carries 126 = .ok (.iaload, 1) := by decide +kernel
theorem dX10_carries_127 : decode cX10_carries 127 = .ok (.iload 7, 2) := by decide +kernel
theorem dX10_carries_129 : decode cX10_carries 129 = .ok (.ishr, 1) := by decide +kernel
theorem dX10_carries_130 : decode cX10_carries 130 = .ok (.iconst 1, 1) := by decide +kernel
theorem dX10_carries_131 : decode cX10_carries 131 = .ok (.iand, 1) := by decide +kernel
theorem dX10_carries_132 : decode cX10_carries 132 = .ok (.ifCond .ne 7, 3) := by decide +kernel
theorem dX10_carries_135 : decode cX10_carries 135 = .ok (.iconst (-1), 1) := by decide +kernel
theorem dX10_carries_136 : decode cX10_carries 136 = .ok (.goto 12, 3) := by decide +kernel
theorem dX10_carries_139 : decode cX10_carries 139 = .ok (.aload_n 1, 1) := by decide +kernel
theorem dX10_carries_140 : decode cX10_carries 140 = .ok (.iload_n 2, 1) := by decide +kernel
theorem dX10_carries_141 : decode cX10_carries 141 = .ok (.bipush 12, 2) := by decide +kernel
theorem dX10_carries_143 : decode cX10_carries 143 = .ok (.iadd, 1) := by decide +kernel
theorem dX10_carries_144 : decode cX10_carries 144 = .ok (.iload 7, 2) := by decide +kernel
theorem dX10_carries_146 : decode cX10_carries 146 = .ok (.iadd, 1) := by decide +kernel
theorem dX10_carries_147 : decode cX10_carries 147 = .ok (.iaload, 1) := by decide +kernel
theorem dX10_carries_148 : decode cX10_carries 148 = .ok (.istore 8, 2) := by decide +kernel
theorem dX10_carries_150 : decode cX10_carries 150 = .ok (.aload_n 3, 1) := by decide +kernel
theorem dX10_carries_151 : decode cX10_carries 151 = .ok (.iload 4, 2) := by decide +kernel
theorem dX10_carries_153 : decode cX10_carries 153 = .ok (.bipush 12, 2) := by decide +kernel
theorem dX10_carries_155 : decode cX10_carries 155 = .ok (.iadd, 1) := by decide +kernel
theorem dX10_carries_156 : decode cX10_carries 156 = .ok (.iload 7, 2) := by decide +kernel
theorem dX10_carries_158 : decode cX10_carries 158 = .ok (.iadd, 1) := by decide +kernel
theorem dX10_carries_159 : decode cX10_carries 159 = .ok (.aload_n 0, 1) := by decide +kernel
theorem dX10_carries_160 : decode cX10_carries 160 = .ok (.getfield 22, 3) := by decide +kernel
theorem dX10_carries_163 : decode cX10_carries 163 = .ok (.iconst 4, 1) := by decide +kernel
theorem dX10_carries_164 : decode cX10_carries 164 = .ok (.iload 5, 2) := by decide +kernel
theorem dX10_carries_166 : decode cX10_carries 166 = .ok (.imul, 1) := by decide +kernel
theorem dX10_carries_167 : decode cX10_carries 167 = .ok (.iaload, 1) := by decide +kernel
theorem dX10_carries_168 : decode cX10_carries 168 = .ok (.iload 7, 2) := by decide +kernel
theorem dX10_carries_170 : decode cX10_carries 170 = .ok (.ishr, 1) := by decide +kernel
theorem dX10_carries_171 : decode cX10_carries 171 = .ok (.iconst 1, 1) := by decide +kernel
theorem dX10_carries_172 : decode cX10_carries 172 = .ok (.iand, 1) := by decide +kernel
theorem dX10_carries_173 : decode cX10_carries 173 = .ok (.iconst 1, 1) := by decide +kernel
theorem dX10_carries_174 : decode cX10_carries 174 = .ok (.if_icmp .ne 27, 3) := by decide +kernel
theorem dX10_carries_177 : decode cX10_carries 177 = .ok (.iload 8, 2) := by decide +kernel
theorem dX10_carries_179 : decode cX10_carries 179 = .ok (.ifCond .ge 22, 3) := by decide +kernel
theorem dX10_carries_182 : decode cX10_carries 182 = .ok (.aload_n 0, 1) := by decide +kernel
theorem dX10_carries_183 : decode cX10_carries 183 = .ok (.getfield 22, 3) := by decide +kernel
theorem dX10_carries_186 : decode cX10_carries 186 = .ok (.iconst 4, 1) := by decide +kernel
theorem dX10_carries_187 : decode cX10_carries 187 = .ok (.iload 5, 2) := by decide +kernel
theorem dX10_carries_189 : decode cX10_carries 189 = .ok (.imul, 1) := by decide +kernel
theorem dX10_carries_190 : decode cX10_carries 190 = .ok (.iconst 2, 1) := by decide +kernel
theorem dX10_carries_191 : decode cX10_carries 191 = .ok (.iadd, 1) := by decide +kernel
theorem dX10_carries_192 : decode cX10_carries 192 = .ok (.iaload, 1) := by decide +kernel
theorem dX10_carries_193 : decode cX10_carries 193 = .ok (.iload 7, 2) := by decide +kernel
theorem dX10_carries_195 : decode cX10_carries 195 = .ok (.ishr, 1) := by decide +kernel
theorem dX10_carries_196 : decode cX10_carries 196 = .ok (.iconst 1, 1) := by decide +kernel
theorem dX10_carries_197 : decode cX10_carries 197 = .ok (.iand, 1) := by decide +kernel
theorem dX10_carries_198 : decode cX10_carries 198 = .ok (.goto 5, 3) := by decide +kernel
theorem dX10_carries_201 : decode cX10_carries 201 = .ok (.iload 8, 2) := by decide +kernel
theorem dX10_carries_203 : decode cX10_carries 203 = .ok (.iastore, 1) := by decide +kernel
theorem dX10_carries_204 : decode cX10_carries 204 = .ok (.iinc 7 1, 3) := by decide +kernel
theorem dX10_carries_207 : decode cX10_carries 207 = .ok (.goto (-97), 3) := by decide +kernel
theorem dX10_carries_210 : decode cX10_carries 210 = .ok (.return_, 1) := by decide +kernel
theorem dX10_type_0 : decode cX10_type 0 = .ok (.iload_n 3, 1) := by decide +kernel
theorem dX10_type_1 : decode cX10_type 1 = .ok (.iconst 1, 1) := by decide +kernel
theorem dX10_type_2 : decode cX10_type 2 = .ok (.bipush 8, 2) := by decide +kernel
theorem dX10_type_4 : decode cX10_type 4 = .ok (.invokestatic 78, 3) := by decide +kernel
theorem dX10_type_7 : decode cX10_type 7 = .ok (.ifCond .ne 10, 3) := by decide +kernel
theorem dX10_type_10 : decode cX10_type 10 = .ok (.aload_n 0, 1) := by decide +kernel
theorem dX10_type_11 : decode cX10_type 11 = .ok (.bipush (-2), 2) := by decide +kernel
theorem dX10_type_13 : decode cX10_type 13 = .ok (.invokevirtual 86, 3) := by decide +kernel
theorem dX10_type_16 : decode cX10_type 16 = .ok (.ireturn, 1) := by decide +kernel
theorem dX10_type_17 : decode cX10_type 17 = .ok (.aload_n 0, 1) := by decide +kernel
theorem dX10_type_18 : decode cX10_type 18 = .ok (.getfield 16, 3) := by decide +kernel
theorem dX10_type_21 : decode cX10_type 21 = .ok (.iconst 0, 1) := by decide +kernel
theorem dX10_type_22 : decode cX10_type 22 = .ok (.iaload, 1) := by decide +kernel
theorem dX10_type_23 : decode cX10_type 23 = .ok (.iload_n 3, 1) := by decide +kernel
theorem dX10_type_24 : decode cX10_type 24 = .ok (.iadd, 1) := by decide +kernel
theorem dX10_type_25 : decode cX10_type 25 = .ok (.bipush 60, 2) := by decide +kernel
theorem dX10_type_27 : decode cX10_type 27 = .ok (.if_icmp .le 8, 3) := by decide +kernel
theorem dX10_type_30 : decode cX10_type 30 = .ok (.aload_n 0, 1) := by decide +kernel
theorem dX10_type_31 : decode cX10_type 31 = .ok (.invokevirtual 90, 3) := by decide +kernel
theorem dX10_type_34 : decode cX10_type 34 = .ok (.ireturn, 1) := by decide +kernel
theorem dX10_type_35 : decode cX10_type 35 = .ok (.iload_n 3, 1) := by decide +kernel
theorem dX10_type_36 : decode cX10_type 36 = .ok (.iconst 1, 1) := by decide +kernel
theorem dX10_type_37 : decode cX10_type 37 = .ok (.isub, 1) := by decide +kernel
theorem dX10_type_38 : decode cX10_type 38 = .ok (.istore 4, 2) := by decide +kernel
theorem dX10_type_40 : decode cX10_type 40 = .ok (.iload 4, 2) := by decide +kernel
theorem dX10_type_42 : decode cX10_type 42 = .ok (.ifCond .lt 42, 3) := by decide +kernel
theorem dX10_type_45 : decode cX10_type 45 = .ok (.aload_n 0, 1) := by decide +kernel
theorem dX10_type_46 : decode cX10_type 46 = .ok (.getfield 28, 3) := by decide +kernel
theorem dX10_type_49 : decode cX10_type 49 = .ok (.aload_n 0, 1) := by decide +kernel
theorem dX10_type_50 : decode cX10_type 50 = .ok (.getfield 16, 3) := by decide +kernel
theorem dX10_type_53 : decode cX10_type 53 = .ok (.iconst 0, 1) := by decide +kernel
theorem dX10_type_54 : decode cX10_type 54 = .ok (.iaload, 1) := by decide +kernel
theorem dX10_type_55 : decode cX10_type 55 = .ok (.lload_n 1, 1) := by decide +kernel
theorem dX10_type_56 : decode cX10_type 56 = .ok (.bipush 8, 2) := by decide +kernel
theorem dX10_type_58 : decode cX10_type 58 = .ok (.iload 4, 2) := by decide +kernel
theorem dX10_type_60 : decode cX10_type 60 = .ok (.imul, 1) := by decide +kernel
theorem dX10_type_61 : decode cX10_type 61 = .ok (.lshr, 1) := by decide +kernel
theorem dX10_type_62 : decode cX10_type 62 = .ok (.ldc2_w 108, 3) := by decide +kernel
theorem dX10_type_65 : decode cX10_type 65 = .ok (.land, 1) := by decide +kernel
theorem dX10_type_66 : decode cX10_type 66 = .ok (.l2i, 1) := by decide +kernel
theorem dX10_type_67 : decode cX10_type 67 = .ok (.iastore, 1) := by decide +kernel
theorem dX10_type_68 : decode cX10_type 68 = .ok (.aload_n 0, 1) := by decide +kernel
theorem dX10_type_69 : decode cX10_type 69 = .ok (.getfield 16, 3) := by decide +kernel
theorem dX10_type_72 : decode cX10_type 72 = .ok (.iconst 0, 1) := by decide +kernel
theorem dX10_type_73 : decode cX10_type 73 = .ok (.dup2, 1) := by decide +kernel
theorem dX10_type_74 : decode cX10_type 74 = .ok (.iaload, 1) := by decide +kernel
theorem dX10_type_75 : decode cX10_type 75 = .ok (.iconst 1, 1) := by decide +kernel
theorem dX10_type_76 : decode cX10_type 76 = .ok (.iadd, 1) := by decide +kernel
theorem dX10_type_77 : decode cX10_type 77 = .ok (.iastore, 1) := by decide +kernel
theorem dX10_type_78 : decode cX10_type 78 = .ok (.iinc 4 (-1), 3) := by decide +kernel
theorem dX10_type_81 : decode cX10_type 81 = .ok (.goto (-41), 3) := by decide +kernel
theorem dX10_type_84 : decode cX10_type 84 = .ok (.aload_n 0, 1) := by decide +kernel
theorem dX10_type_85 : decode cX10_type 85 = .ok (.getfield 16, 3) := by decide +kernel
theorem dX10_type_88 : decode cX10_type 88 = .ok (.iconst 0, 1) := by decide +kernel
theorem dX10_type_89 : decode cX10_type 89 = .ok (.iaload, 1) := by decide +kernel
theorem dX10_type_90 : decode cX10_type 90 = .ok (.ireturn, 1) := by decide +kernel
theorem dX10_clear_0 : decode cX10_clear 0 = .ok (.aload_n 0, 1) := by decide +kernel
theorem dX10_clear_1 : decode cX10_clear 1 = .ok (.getfield 16, 3) := by decide +kernel
theorem dX10_clear_4 : decode cX10_clear 4 = .ok (.iconst 0, 1) := by decide +kernel
theorem dX10_clear_5 : decode cX10_clear 5 = .ok (.iaload, 1) := by decide +kernel
theorem dX10_clear_6 : decode cX10_clear 6 = .ok (.istore_n 1, 1) := by decide +kernel
theorem dX10_clear_7 : decode cX10_clear 7 = .ok (.aload_n 0, 1) := by decide +kernel
theorem dX10_clear_8 : decode cX10_clear 8 = .ok (.getfield 16, 3) := by decide +kernel
theorem dX10_clear_11 : decode cX10_clear 11 = .ok (.iconst 0, 1) := by decide +kernel
theorem dX10_clear_12 : decode cX10_clear 12 = .ok (.iconst 0, 1) := by decide +kernel
theorem dX10_clear_13 : decode cX10_clear 13 = .ok (.iastore, 1) := by decide +kernel
theorem dX10_clear_14 : decode cX10_clear 14 = .ok (.iload_n 1, 1) := by decide +kernel
theorem dX10_clear_15 : decode cX10_clear 15 = .ok (.ireturn, 1) := by decide +kernel
theorem dX10_next_0 : decode cX10_next 0 = .ok (.aload_n 0, 1) := by decide +kernel
theorem dX10_next_1 : decode cX10_next 1 = .ok (.getfield 110, 3) := by decide +kernel
theorem dX10_next_4 : decode cX10_next 4 = .ok (.aload_n 0, 1) := by decide +kernel
theorem dX10_next_5 : decode cX10_next 5 = .ok (.getfield 16, 3) := by decide +kernel
theorem dX10_next_8 : decode cX10_next 8 = .ok (.iconst 0, 1) := by decide +kernel
theorem dX10_next_9 : decode cX10_next 9 = .ok (.iaload, 1) := by decide +kernel
theorem dX10_next_10 : decode cX10_next 10 = .ok (.if_icmp .ge 30, 3) := by decide +kernel
theorem dX10_next_13 : decode cX10_next 13 = .ok (.aload_n 0, 1) := by decide +kernel
theorem dX10_next_14 : decode cX10_next 14 = .ok (.getfield 28, 3) := by decide +kernel
theorem dX10_next_17 : decode cX10_next 17 = .ok (.aload_n 0, 1) := by decide +kernel
theorem dX10_next_18 : decode cX10_next 18 = .ok (.getfield 110, 3) := by decide +kernel
theorem dX10_next_21 : decode cX10_next 21 = .ok (.iaload, 1) := by decide +kernel
theorem dX10_next_22 : decode cX10_next 22 = .ok (.bipush 32, 2) := by decide +kernel
theorem dX10_next_24 : decode cX10_next 24 = .ok (.if_icmp .ne 16, 3) := by decide +kernel
theorem dX10_next_27 : decode cX10_next 27 = .ok (.aload_n 0, 1) := by decide +kernel
theorem dX10_next_28 : decode cX10_next 28 = .ok (.dup, 1) := by decide +kernel
theorem dX10_next_29 : decode cX10_next 29 = .ok (.getfield 110, 3) := by decide +kernel
theorem dX10_next_32 : decode cX10_next 32 = .ok (.iconst 1, 1) := by decide +kernel
theorem dX10_next_33 : decode cX10_next 33 = .ok (.iadd, 1) := by decide +kernel
theorem dX10_next_34 : decode cX10_next 34 = .ok (.putfield 110, 3) := by decide +kernel
theorem dX10_next_37 : decode cX10_next 37 = .ok (.goto (-37), 3) := by decide +kernel
theorem dX10_next_40 : decode cX10_next 40 = .ok (.aload_n 0, 1) := by decide +kernel
theorem dX10_next_41 : decode cX10_next 41 = .ok (.getfield 110, 3) := by decide +kernel
theorem dX10_next_44 : decode cX10_next 44 = .ok (.aload_n 0, 1) := by decide +kernel
theorem dX10_next_45 : decode cX10_next 45 = .ok (.getfield 16, 3) := by decide +kernel
theorem dX10_next_48 : decode cX10_next 48 = .ok (.iconst 0, 1) := by decide +kernel
theorem dX10_next_49 : decode cX10_next 49 = .ok (.iaload, 1) := by decide +kernel
theorem dX10_next_50 : decode cX10_next 50 = .ok (.if_icmp .ge 15, 3) := by decide +kernel
theorem dX10_next_53 : decode cX10_next 53 = .ok (.aload_n 0, 1) := by decide +kernel
theorem dX10_next_54 : decode cX10_next 54 = .ok (.getfield 28, 3) := by decide +kernel
theorem dX10_next_57 : decode cX10_next 57 = .ok (.aload_n 0, 1) := by decide +kernel
theorem dX10_next_58 : decode cX10_next 58 = .ok (.getfield 110, 3) := by decide +kernel
theorem dX10_next_61 : decode cX10_next 61 = .ok (.iaload, 1) := by decide +kernel
theorem dX10_next_62 : decode cX10_next 62 = .ok (.goto 4, 3) := by decide +kernel
theorem dX10_next_65 : decode cX10_next 65 = .ok (.iconst (-1), 1) := by decide +kernel
theorem dX10_next_66 : decode cX10_next 66 = .ok (.ireturn, 1) := by decide +kernel
theorem dX10_puts_0 : decode cX10_puts 0 = .ok (.aload_n 0, 1) := by decide +kernel
theorem dX10_puts_1 : decode cX10_puts 1 = .ok (.getfield 113, 3) := by decide +kernel
theorem dX10_puts_4 : decode cX10_puts 4 = .ok (.sipush 200, 3) := by decide +kernel
theorem dX10_puts_7 : decode cX10_puts 7 = .ok (.if_icmp .gt 39, 3) := by decide +kernel
theorem dX10_puts_10 : decode cX10_puts 10 = .ok (.aload_n 0, 1) := by decide +kernel
theorem dX10_puts_11 : decode cX10_puts 11 = .ok (.getfield 51, 3) := by decide +kernel
theorem dX10_puts_14 : decode cX10_puts 14 = .ok (.iconst 2, 1) := by decide +kernel
theorem dX10_puts_15 : decode cX10_puts 15 = .ok (.aload_n 0, 1) := by decide +kernel
theorem dX10_puts_16 : decode cX10_puts 16 = .ok (.getfield 113, 3) := by decide +kernel
theorem dX10_puts_19 : decode cX10_puts 19 = .ok (.imul, 1) := by decide +kernel
theorem dX10_puts_20 : decode cX10_puts 20 = .ok (.iload_n 1, 1) := by decide +kernel
theorem dX10_puts_21 : decode cX10_puts 21 = .ok (.iastore, 1) := by decide +kernel
theorem dX10_puts_22 : decode cX10_puts 22 = .ok (.aload_n 0, 1) := by decide +kernel
theorem dX10_puts_23 : decode cX10_puts 23 = .ok (.getfield 51, 3) := by decide +kernel
theorem dX10_puts_26 : decode cX10_puts 26 = .ok (.iconst 2, 1) := by decide +kernel
theorem dX10_puts_27 : decode cX10_puts 27 = .ok (.aload_n 0, 1) := by decide +kernel
theorem dX10_puts_28 : decode cX10_puts 28 = .ok (.getfield 113, 3) := by decide +kernel
theorem dX10_puts_31 : decode cX10_puts 31 = .ok (.imul, 1) := by decide +kernel
theorem dX10_puts_32 : decode cX10_puts 32 = .ok (.iconst 1, 1) := by decide +kernel
theorem dX10_puts_33 : decode cX10_puts 33 = .ok (.iadd, 1) := by decide +kernel
theorem dX10_puts_34 : decode cX10_puts 34 = .ok (.iload_n 2, 1) := by decide +kernel
theorem dX10_puts_35 : decode cX10_puts 35 = .ok (.iastore, 1) := by decide +kernel
theorem dX10_puts_36 : decode cX10_puts 36 = .ok (.aload_n 0, 1) := by decide +kernel
theorem dX10_puts_37 : decode cX10_puts 37 = .ok (.dup, 1) := by decide +kernel
theorem dX10_puts_38 : decode cX10_puts 38 = .ok (.getfield 113, 3) := by decide +kernel
theorem dX10_puts_41 : decode cX10_puts 41 = .ok (.iconst 1, 1) := by decide +kernel
theorem dX10_puts_42 : decode cX10_puts 42 = .ok (.iadd, 1) := by decide +kernel
theorem dX10_puts_43 : decode cX10_puts 43 = .ok (.putfield 113, 3) := by decide +kernel
theorem dX10_puts_46 : decode cX10_puts 46 = .ok (.return_, 1) := by decide +kernel
theorem dX10_again_0 : decode cX10_again 0 = .ok (.aload_n 0, 1) := by decide +kernel
theorem dX10_again_1 : decode cX10_again 1 = .ok (.getfield 113, 3) := by decide +kernel
theorem dX10_again_4 : decode cX10_again 4 = .ok (.iload_n 1, 1) := by decide +kernel
theorem dX10_again_5 : decode cX10_again 5 = .ok (.isub, 1) := by decide +kernel
theorem dX10_again_6 : decode cX10_again 6 = .ok (.istore_n 3, 1) := by decide +kernel
theorem dX10_again_7 : decode cX10_again 7 = .ok (.iconst 0, 1) := by decide +kernel
theorem dX10_again_8 : decode cX10_again 8 = .ok (.istore 4, 2) := by decide +kernel
theorem dX10_again_10 : decode cX10_again 10 = .ok (.iload 4, 2) := by decide +kernel
theorem dX10_again_12 : decode cX10_again 12 = .ok (.iload_n 3, 1) := by decide +kernel
theorem dX10_again_13 : decode cX10_again 13 = .ok (.iload_n 2, 1) := by decide +kernel
theorem dX10_again_14 : decode cX10_again 14 = .ok (.iconst 1, 1) := by decide +kernel
theorem dX10_again_15 : decode cX10_again 15 = .ok (.isub, 1) := by decide +kernel
theorem dX10_again_16 : decode cX10_again 16 = .ok (.imul, 1) := by decide +kernel
theorem dX10_again_17 : decode cX10_again 17 = .ok (.if_icmp .ge 47, 3) := by decide +kernel
theorem dX10_again_20 : decode cX10_again 20 = .ok (.aload_n 0, 1) := by decide +kernel
theorem dX10_again_21 : decode cX10_again 21 = .ok (.getfield 113, 3) := by decide +kernel
theorem dX10_again_24 : decode cX10_again 24 = .ok (.sipush 200, 3) := by decide +kernel
theorem dX10_again_27 : decode cX10_again 27 = .ok (.if_icmp .gt 37, 3) := by decide +kernel
theorem dX10_again_30 : decode cX10_again 30 = .ok (.aload_n 0, 1) := by decide +kernel
theorem dX10_again_31 : decode cX10_again 31 = .ok (.aload_n 0, 1) := by decide +kernel
theorem dX10_again_32 : decode cX10_again 32 = .ok (.getfield 51, 3) := by decide +kernel
theorem dX10_again_35 : decode cX10_again 35 = .ok (.iconst 2, 1) := by decide +kernel
theorem dX10_again_36 : decode cX10_again 36 = .ok (.iload_n 1, 1) := by decide +kernel
theorem dX10_again_37 : decode cX10_again 37 = .ok (.iload 4, 2) := by decide +kernel
theorem dX10_again_39 : decode cX10_again 39 = .ok (.iadd, 1) := by decide +kernel
theorem dX10_again_40 : decode cX10_again 40 = .ok (.imul, 1) := by decide +kernel
theorem dX10_again_41 : decode cX10_again 41 = .ok (.iaload, 1) := by decide +kernel
theorem dX10_again_42 : decode cX10_again 42 = .ok (.aload_n 0, 1) := by decide +kernel
theorem dX10_again_43 : decode cX10_again 43 = .ok (.getfield 51, 3) := by decide +kernel
theorem dX10_again_46 : decode cX10_again 46 = .ok (.iconst 2, 1) := by decide +kernel
theorem dX10_again_47 : decode cX10_again 47 = .ok (.iload_n 1, 1) := by decide +kernel
theorem dX10_again_48 : decode cX10_again 48 = .ok (.iload 4, 2) := by decide +kernel
theorem dX10_again_50 : decode cX10_again 50 = .ok (.iadd, 1) := by decide +kernel
theorem dX10_again_51 : decode cX10_again 51 = .ok (.imul, 1) := by decide +kernel
theorem dX10_again_52 : decode cX10_again 52 = .ok (.iconst 1, 1) := by decide +kernel
theorem dX10_again_53 : decode cX10_again 53 = .ok (.iadd, 1) := by decide +kernel
theorem dX10_again_54 : decode cX10_again 54 = .ok (.iaload, 1) := by decide +kernel
theorem dX10_again_55 : decode cX10_again 55 = .ok (.invokevirtual 116, 3) := by decide +kernel
theorem dX10_again_58 : decode cX10_again 58 = .ok (.iinc 4 1, 3) := by decide +kernel
theorem dX10_again_61 : decode cX10_again 61 = .ok (.goto (-51), 3) := by decide +kernel
theorem dX10_again_64 : decode cX10_again 64 = .ok (.return_, 1) := by decide +kernel
theorem dX10_reads_0 : decode cX10_reads 0 = .ok (.aload_n 0, 1) := by decide +kernel
theorem dX10_reads_1 : decode cX10_reads 1 = .ok (.iconst 0, 1) := by decide +kernel
theorem dX10_reads_2 : decode cX10_reads 2 = .ok (.putfield 110, 3) := by decide +kernel
theorem dX10_reads_5 : decode cX10_reads 5 = .ok (.aload_n 0, 1) := by decide +kernel
theorem dX10_reads_6 : decode cX10_reads 6 = .ok (.iconst 0, 1) := by decide +kernel
theorem dX10_reads_7 : decode cX10_reads 7 = .ok (.putfield 113, 3) := by decide +kernel
theorem dX10_reads_10 : decode cX10_reads 10 = .ok (.iconst 0, 1) := by decide +kernel
theorem dX10_reads_11 : decode cX10_reads 11 = .ok (.istore_n 1, 1) := by decide +kernel
theorem dX10_reads_12 : decode cX10_reads 12 = .ok (.iconst 0, 1) := by decide +kernel
theorem dX10_reads_13 : decode cX10_reads 13 = .ok (.istore_n 2, 1) := by decide +kernel
theorem dX10_reads_14 : decode cX10_reads 14 = .ok (.aload_n 0, 1) := by decide +kernel
theorem dX10_reads_15 : decode cX10_reads 15 = .ok (.invokevirtual 120, 3) := by decide +kernel
theorem dX10_reads_18 : decode cX10_reads 18 = .ok (.istore_n 3, 1) := by decide +kernel
theorem dX10_reads_19 : decode cX10_reads 19 = .ok (.iload_n 3, 1) := by decide +kernel
theorem dX10_reads_20 : decode cX10_reads 20 = .ok (.ifCond .lt 212, 3) := by decide +kernel
theorem dX10_reads_23 : decode cX10_reads 23 = .ok (.aload_n 0, 1) := by decide +kernel
theorem dX10_reads_24 : decode cX10_reads 24 = .ok (.getfield 110, 3) := by decide +kernel
theorem dX10_reads_27 : decode cX10_reads 27 = .ok (.istore 4, 2) := by decide +kernel
theorem dX10_reads_29 : decode cX10_reads 29 = .ok (.aload_n 0, 1) := by decide +kernel
theorem dX10_reads_30 : decode cX10_reads 30 = .ok (.dup, 1) := by decide +kernel
theorem dX10_reads_31 : decode cX10_reads 31 = .ok (.getfield 110, 3) := by decide +kernel
theorem dX10_reads_34 : decode cX10_reads 34 = .ok (.iconst 1, 1) := by decide +kernel
theorem dX10_reads_35 : decode cX10_reads 35 = .ok (.iadd, 1) := by decide +kernel
theorem dX10_reads_36 : decode cX10_reads 36 = .ok (.putfield 110, 3) := by decide +kernel
theorem dX10_reads_39 : decode cX10_reads 39 = .ok (.iload_n 3, 1) := by decide +kernel
theorem dX10_reads_40 : decode cX10_reads 40 = .ok (.bipush 97, 2) := by decide +kernel
theorem dX10_reads_42 : decode cX10_reads 42 = .ok (.bipush 102, 2) := by decide +kernel
theorem dX10_reads_44 : decode cX10_reads 44 = .ok (.invokestatic 78, 3) := by decide +kernel
theorem dX10_reads_47 : decode cX10_reads 47 = .ok (.ifCond .eq 77, 3) := by decide +kernel
theorem dX10_reads_50 : decode cX10_reads 50 = .ok (.aload_n 0, 1) := by decide +kernel
theorem dX10_reads_51 : decode cX10_reads 51 = .ok (.iload_n 3, 1) := by decide +kernel
theorem dX10_reads_52 : decode cX10_reads 52 = .ok (.bipush 97, 2) := by decide +kernel
theorem dX10_reads_54 : decode cX10_reads 54 = .ok (.isub, 1) := by decide +kernel
theorem dX10_reads_55 : decode cX10_reads 55 = .ok (.invokevirtual 123, 3) := by decide +kernel
theorem dX10_reads_58 : decode cX10_reads 58 = .ok (.ifCond .eq 66, 3) := by decide +kernel
theorem dX10_reads_61 : decode cX10_reads 61 = .ok (.aload_n 0, 1) := by decide +kernel
theorem dX10_reads_62 : decode cX10_reads 62 = .ok (.invokevirtual 120, 3) := by decide +kernel
theorem dX10_reads_65 : decode cX10_reads 65 = .ok (.istore 5, 2) := by decide +kernel
theorem dX10_reads_67 : decode cX10_reads 67 = .ok (.iload 5, 2) := by decide +kernel
theorem dX10_reads_69 : decode cX10_reads 69 = .ok (.bipush 48, 2) := by decide +kernel
theorem dX10_reads_71 : decode cX10_reads 71 = .ok (.bipush 53, 2) := by decide +kernel
theorem dX10_reads_73 : decode cX10_reads 73 = .ok (.invokestatic 78, 3) := by decide +kernel
theorem dX10_reads_76 : decode cX10_reads 76 = .ok (.istore 6, 2) := by decide +kernel
theorem dX10_reads_78 : decode cX10_reads 78 = .ok (.aload_n 0, 1) := by decide +kernel
theorem dX10_reads_79 : decode cX10_reads 79 = .ok (.dup, 1) := by decide +kernel
theorem dX10_reads_80 : decode cX10_reads 80 = .ok (.getfield 110, 3) := by decide +kernel
theorem dX10_reads_83 : decode cX10_reads 83 = .ok (.iload 6, 2) := by decide +kernel
theorem dX10_reads_85 : decode cX10_reads 85 = .ok (.ifCond .eq 7, 3) := by decide +kernel
theorem dX10_reads_88 : decode cX10_reads 88 = .ok (.iconst 1, 1) := by decide +kernel
theorem dX10_reads_89 : decode cX10_reads 89 = .ok (.goto 4, 3) := by decide +kernel
theorem dX10_reads_92 : decode cX10_reads 92 = .ok (.iconst 0, 1) := by decide +kernel
theorem dX10_reads_93 : decode cX10_reads 93 = .ok (.iadd, 1) := by decide +kernel
theorem dX10_reads_94 : decode cX10_reads 94 = .ok (.putfield 110, 3) := by decide +kernel
theorem dX10_reads_97 : decode cX10_reads 97 = .ok (.aload_n 0, 1) := by decide +kernel
theorem dX10_reads_98 : decode cX10_reads 98 = .ok (.iload_n 3, 1) := by decide +kernel
theorem dX10_reads_99 : decode cX10_reads 99 = .ok (.bipush 97, 2) := by decide +kernel
theorem dX10_reads_101 : decode cX10_reads 101 = .ok (.isub, 1) := by decide +kernel
theorem dX10_reads_102 : decode cX10_reads 102 = .ok (.iload 6, 2) := by decide +kernel
theorem dX10_reads_104 : decode cX10_reads 104 = .ok (.ifCond .eq 11, 3) := by decide +kernel
theorem dX10_reads_107 : decode cX10_reads 107 = .ok (.iload 5, 2) := by decide +kernel
theorem dX10_reads_109 : decode cX10_reads 109 = .ok (.bipush 48, 2) := by decide +kernel
theorem dX10_reads_111 : decode cX10_reads 111 = .ok (.isub, 1) := by decide +kernel
theorem dX10_reads_112 : decode cX10_reads 112 = .ok (.goto 4, 3) := by decide +kernel
theorem dX10_reads_115 : decode cX10_reads 115 = .ok (.iconst 0, 1) := by decide +kernel
theorem dX10_reads_116 : decode cX10_reads 116 = .ok (.invokevirtual 116, 3) := by decide +kernel
theorem dX10_reads_119 : decode cX10_reads 119 = .ok (.iconst 1, 1) := by decide +kernel
theorem dX10_reads_120 : decode cX10_reads 120 = .ok (.istore_n 2, 1) := by decide +kernel
theorem dX10_reads_121 : decode cX10_reads 121 = .ok (.goto 103, 3) := by decide +kernel
theorem dX10_reads_124 : decode cX10_reads 124 = .ok (.iload_n 3, 1) := by decide +kernel
theorem dX10_reads_125 : decode cX10_reads 125 = .ok (.bipush 40, 2) := by decide +kernel
theorem dX10_reads_127 : decode cX10_reads 127 = .ok (.if_icmp .ne 26, 3) := by decide +kernel
theorem dX10_reads_130 : decode cX10_reads 130 = .ok (.iload_n 1, 1) := by decide +kernel
theorem dX10_reads_131 : decode cX10_reads 131 = .ok (.iconst 4, 1) := by decide +kernel
theorem dX10_reads_132 : decode cX10_reads 132 = .ok (.if_icmp .ge 21, 3) := by decide +kernel
theorem dX10_reads_135 : decode cX10_reads 135 = .ok (.aload_n 0, 1) := by decide +kernel
theorem dX10_reads_136 : decode cX10_reads 136 = .ok (.getfield 54, 3) := by decide +kernel
theorem dX10_reads_139 : decode cX10_reads 139 = .ok (.iload_n 1, 1) := by decide +kernel
theorem dX10_reads_140 : decode cX10_reads 140 = .ok (.aload_n 0, 1) := by decide +kernel
theorem dX10_reads_141 : decode cX10_reads 141 = .ok (.getfield 113, 3) := by decide +kernel
theorem dX10_reads_144 : decode cX10_reads 144 = .ok (.iastore, 1) := by decide +kernel
theorem dX10_reads_145 : decode cX10_reads 145 = .ok (.iinc 1 1, 3) := by decide +kernel
theorem dX10_reads_148 : decode cX10_reads 148 = .ok (.iconst 0, 1) := by decide +kernel
theorem dX10_reads_149 : decode cX10_reads 149 = .ok (.istore_n 2, 1) := by decide +kernel
theorem dX10_reads_150 : decode cX10_reads 150 = .ok (.goto 74, 3) := by decide +kernel
theorem dX10_reads_153 : decode cX10_reads 153 = .ok (.iload_n 3, 1) := by decide +kernel
theorem dX10_reads_154 : decode cX10_reads 154 = .ok (.bipush 41, 2) := by decide +kernel
theorem dX10_reads_156 : decode cX10_reads 156 = .ok (.if_icmp .ne 65, 3) := by decide +kernel
theorem dX10_reads_159 : decode cX10_reads 159 = .ok (.iload_n 1, 1) := by decide +kernel
theorem dX10_reads_160 : decode cX10_reads 160 = .ok (.ifCond .le 61, 3) := by decide +kernel
theorem dX10_reads_163 : decode cX10_reads 163 = .ok (.iload_n 2, 1) := by decide +kernel
theorem dX10_reads_164 : decode cX10_reads 164 = .ok (.ifCond .eq 57, 3) := by decide +kernel
theorem dX10_reads_167 : decode cX10_reads 167 = .ok (.aload_n 0, 1) := by decide +kernel
theorem dX10_reads_168 : decode cX10_reads 168 = .ok (.invokevirtual 120, 3) := by decide +kernel
theorem dX10_reads_171 : decode cX10_reads 171 = .ok (.istore 5, 2) := by decide +kernel
theorem dX10_reads_173 : decode cX10_reads 173 = .ok (.iload 5, 2) := by decide +kernel
theorem dX10_reads_175 : decode cX10_reads 175 = .ok (.bipush 49, 2) := by decide +kernel
theorem dX10_reads_177 : decode cX10_reads 177 = .ok (.bipush 57, 2) := by decide +kernel
theorem dX10_reads_179 : decode cX10_reads 179 = .ok (.invokestatic 78, 3) := by decide +kernel
theorem dX10_reads_182 : decode cX10_reads 182 = .ok (.ifCond .ne 8, 3) := by decide +kernel
theorem dX10_reads_185 : decode cX10_reads 185 = .ok (.aload_n 0, 1) := by decide +kernel
theorem dX10_reads_186 : decode cX10_reads 186 = .ok (.getfield 110, 3) := by decide +kernel
theorem dX10_reads_189 : decode cX10_reads 189 = .ok (.ireturn, 1) := by decide +kernel
theorem dX10_reads_190 : decode cX10_reads 190 = .ok (.aload_n 0, 1) := by decide +kernel
theorem dX10_reads_191 : decode cX10_reads 191 = .ok (.dup, 1) := by decide +kernel
theorem dX10_reads_192 : decode cX10_reads 192 = .ok (.getfield 110, 3) := by decide +kernel
theorem dX10_reads_195 : decode cX10_reads 195 = .ok (.iconst 1, 1) := by decide +kernel
theorem dX10_reads_196 : decode cX10_reads 196 = .ok (.iadd, 1) := by decide +kernel
theorem dX10_reads_197 : decode cX10_reads 197 = .ok (.putfield 110, 3) := by decide +kernel
theorem dX10_reads_200 : decode cX10_reads 200 = .ok (.iinc 1 (-1), 3) := by decide +kernel
theorem dX10_reads_203 : decode cX10_reads 203 = .ok (.aload_n 0, 1) := by decide +kernel
theorem dX10_reads_204 : decode cX10_reads 204 = .ok (.aload_n 0, 1) := by decide +kernel
theorem dX10_reads_205 : decode cX10_reads 205 = .ok (.getfield 54, 3) := by decide +kernel
theorem dX10_reads_208 : decode cX10_reads 208 = .ok (.iload_n 1, 1) := by decide +kernel
theorem dX10_reads_209 : decode cX10_reads 209 = .ok (.iaload, 1) := by decide +kernel
theorem dX10_reads_210 : decode cX10_reads 210 = .ok (.iload 5, 2) := by decide +kernel
theorem dX10_reads_212 : decode cX10_reads 212 = .ok (.bipush 48, 2) := by decide +kernel
theorem dX10_reads_214 : decode cX10_reads 214 = .ok (.isub, 1) := by decide +kernel
theorem dX10_reads_215 : decode cX10_reads 215 = .ok (.invokevirtual 126, 3) := by decide +kernel
theorem dX10_reads_218 : decode cX10_reads 218 = .ok (.goto 6, 3) := by decide +kernel
theorem dX10_reads_221 : decode cX10_reads 221 = .ok (.iload 4, 2) := by decide +kernel
theorem dX10_reads_223 : decode cX10_reads 223 = .ok (.ireturn, 1) := by decide +kernel
theorem dX10_reads_224 : decode cX10_reads 224 = .ok (.aload_n 0, 1) := by decide +kernel
theorem dX10_reads_225 : decode cX10_reads 225 = .ok (.invokevirtual 120, 3) := by decide +kernel
theorem dX10_reads_228 : decode cX10_reads 228 = .ok (.istore_n 3, 1) := by decide +kernel
theorem dX10_reads_229 : decode cX10_reads 229 = .ok (.goto (-210), 3) := by decide +kernel
theorem dX10_reads_232 : decode cX10_reads 232 = .ok (.iload_n 1, 1) := by decide +kernel
theorem dX10_reads_233 : decode cX10_reads 233 = .ok (.ifCond .gt 7, 3) := by decide +kernel
theorem dX10_reads_236 : decode cX10_reads 236 = .ok (.iload_n 2, 1) := by decide +kernel
theorem dX10_reads_237 : decode cX10_reads 237 = .ok (.ifCond .ne 12, 3) := by decide +kernel
theorem dX10_reads_240 : decode cX10_reads 240 = .ok (.aload_n 0, 1) := by decide +kernel
theorem dX10_reads_241 : decode cX10_reads 241 = .ok (.getfield 16, 3) := by decide +kernel
theorem dX10_reads_244 : decode cX10_reads 244 = .ok (.iconst 0, 1) := by decide +kernel
theorem dX10_reads_245 : decode cX10_reads 245 = .ok (.iaload, 1) := by decide +kernel
theorem dX10_reads_246 : decode cX10_reads 246 = .ok (.goto 4, 3) := by decide +kernel
theorem dX10_reads_249 : decode cX10_reads 249 = .ok (.iconst (-1), 1) := by decide +kernel
theorem dX10_reads_250 : decode cX10_reads 250 = .ok (.ireturn, 1) := by decide +kernel
theorem dX10_fault_0 : decode cX10_fault 0 = .ok (.aload_n 0, 1) := by decide +kernel
theorem dX10_fault_1 : decode cX10_fault 1 = .ok (.invokevirtual 129, 3) := by decide +kernel
theorem dX10_fault_4 : decode cX10_fault 4 = .ok (.ireturn, 1) := by decide +kernel
theorem dX10_isPath_0 : decode cX10_isPath 0 = .ok (.aload_n 0, 1) := by decide +kernel
theorem dX10_isPath_1 : decode cX10_isPath 1 = .ok (.invokevirtual 129, 3) := by decide +kernel
theorem dX10_isPath_4 : decode cX10_isPath 4 = .ok (.iconst (-1), 1) := by decide +kernel
theorem dX10_isPath_5 : decode cX10_isPath 5 = .ok (.if_icmp .ne 17, 3) := by decide +kernel
theorem dX10_isPath_8 : decode cX10_isPath 8 = .ok (.aload_n 0, 1) := by decide +kernel
theorem dX10_isPath_9 : decode cX10_isPath 9 = .ok (.getfield 113, 3) := by decide +kernel
theorem dX10_isPath_12 : decode cX10_isPath 12 = .ok (.sipush 200, 3) := by decide +kernel
theorem dX10_isPath_15 : decode cX10_isPath 15 = .ok (.if_icmp .gt 7, 3) := by decide +kernel
theorem dX10_isPath_18 : decode cX10_isPath 18 = .ok (.iconst 1, 1) := by decide +kernel
theorem dX10_isPath_19 : decode cX10_isPath 19 = .ok (.goto 4, 3) := by decide +kernel
theorem dX10_isPath_22 : decode cX10_isPath 22 = .ok (.iconst 0, 1) := by decide +kernel
theorem dX10_isPath_23 : decode cX10_isPath 23 = .ok (.ireturn, 1) := by decide +kernel
theorem dX10_length_0 : decode cX10_length 0 = .ok (.aload_n 0, 1) := by decide +kernel
theorem dX10_length_1 : decode cX10_length 1 = .ok (.invokevirtual 132, 3) := by decide +kernel
theorem dX10_length_4 : decode cX10_length 4 = .ok (.ifCond .eq 10, 3) := by decide +kernel
theorem dX10_length_7 : decode cX10_length 7 = .ok (.aload_n 0, 1) := by decide +kernel
theorem dX10_length_8 : decode cX10_length 8 = .ok (.getfield 113, 3) := by decide +kernel
theorem dX10_length_11 : decode cX10_length 11 = .ok (.goto 9, 3) := by decide +kernel
theorem dX10_length_14 : decode cX10_length 14 = .ok (.aload_n 0, 1) := by decide +kernel
theorem dX10_length_15 : decode cX10_length 15 = .ok (.bipush (-3), 2) := by decide +kernel
theorem dX10_length_17 : decode cX10_length 17 = .ok (.invokevirtual 136, 3) := by decide +kernel
theorem dX10_length_20 : decode cX10_length 20 = .ok (.ireturn, 1) := by decide +kernel
theorem dX10_goes_0 : decode cX10_goes 0 = .ok (.aload_n 0, 1) := by decide +kernel
theorem dX10_goes_1 : decode cX10_goes 1 = .ok (.invokevirtual 132, 3) := by decide +kernel
theorem dX10_goes_4 : decode cX10_goes 4 = .ok (.ifCond .eq 12, 3) := by decide +kernel
theorem dX10_goes_7 : decode cX10_goes 7 = .ok (.aload_n 0, 1) := by decide +kernel
theorem dX10_goes_8 : decode cX10_goes 8 = .ok (.getfield 13, 3) := by decide +kernel
theorem dX10_goes_11 : decode cX10_goes 11 = .ok (.iconst 0, 1) := by decide +kernel
theorem dX10_goes_12 : decode cX10_goes 12 = .ok (.iaload, 1) := by decide +kernel
theorem dX10_goes_13 : decode cX10_goes 13 = .ok (.ifCond .ne 5, 3) := by decide +kernel
theorem dX10_goes_16 : decode cX10_goes 16 = .ok (.iconst 0, 1) := by decide +kernel
theorem dX10_goes_17 : decode cX10_goes 17 = .ok (.ireturn, 1) := by decide +kernel
theorem dX10_goes_18 : decode cX10_goes 18 = .ok (.iconst 0, 1) := by decide +kernel
theorem dX10_goes_19 : decode cX10_goes 19 = .ok (.istore_n 1, 1) := by decide +kernel
theorem dX10_goes_20 : decode cX10_goes 20 = .ok (.iload_n 1, 1) := by decide +kernel
theorem dX10_goes_21 : decode cX10_goes 21 = .ok (.bipush 16, 2) := by decide +kernel
theorem dX10_goes_23 : decode cX10_goes 23 = .ok (.if_icmp .ge 21, 3) := by decide +kernel
theorem dX10_goes_26 : decode cX10_goes 26 = .ok (.aload_n 0, 1) := by decide +kernel
theorem dX10_goes_27 : decode cX10_goes 27 = .ok (.getfield 57, 3) := by decide +kernel
theorem dX10_goes_30 : decode cX10_goes 30 = .ok (.iload_n 1, 1) := by decide +kernel
theorem dX10_goes_31 : decode cX10_goes 31 = .ok (.aload_n 0, 1) := by decide +kernel
theorem dX10_goes_32 : decode cX10_goes 32 = .ok (.getfield 34, 3) := by decide +kernel
theorem dX10_goes_35 : decode cX10_goes 35 = .ok (.iload_n 1, 1) := by decide +kernel
theorem dX10_goes_36 : decode cX10_goes 36 = .ok (.iaload, 1) := by decide +kernel
theorem dX10_goes_37 : decode cX10_goes 37 = .ok (.iastore, 1) := by decide +kernel
theorem dX10_goes_38 : decode cX10_goes 38 = .ok (.iinc 1 1, 3) := by decide +kernel
theorem dX10_goes_41 : decode cX10_goes 41 = .ok (.goto (-21), 3) := by decide +kernel
theorem dX10_goes_44 : decode cX10_goes 44 = .ok (.iconst 0, 1) := by decide +kernel
theorem dX10_goes_45 : decode cX10_goes 45 = .ok (.istore_n 1, 1) := by decide +kernel
theorem dX10_goes_46 : decode cX10_goes 46 = .ok (.iload_n 1, 1) := by decide +kernel
theorem dX10_goes_47 : decode cX10_goes 47 = .ok (.aload_n 0, 1) := by decide +kernel
theorem dX10_goes_48 : decode cX10_goes 48 = .ok (.getfield 113, 3) := by decide +kernel
theorem dX10_goes_51 : decode cX10_goes 51 = .ok (.if_icmp .ge 50, 3) := by decide +kernel
theorem dX10_goes_54 : decode cX10_goes 54 = .ok (.aload_n 0, 1) := by decide +kernel
theorem dX10_goes_55 : decode cX10_goes 55 = .ok (.aload_n 0, 1) := by decide +kernel
theorem dX10_goes_56 : decode cX10_goes 56 = .ok (.getfield 57, 3) := by decide +kernel
theorem dX10_goes_59 : decode cX10_goes 59 = .ok (.bipush 16, 2) := by decide +kernel
theorem dX10_goes_61 : decode cX10_goes 61 = .ok (.iload_n 1, 1) := by decide +kernel
theorem dX10_goes_62 : decode cX10_goes 62 = .ok (.imul, 1) := by decide +kernel
theorem dX10_goes_63 : decode cX10_goes 63 = .ok (.aload_n 0, 1) := by decide +kernel
theorem dX10_goes_64 : decode cX10_goes 64 = .ok (.getfield 57, 3) := by decide +kernel
theorem dX10_goes_67 : decode cX10_goes 67 = .ok (.bipush 16, 2) := by decide +kernel
theorem dX10_goes_69 : decode cX10_goes 69 = .ok (.iload_n 1, 1) := by decide +kernel
theorem dX10_goes_70 : decode cX10_goes 70 = .ok (.imul, 1) := by decide +kernel
theorem dX10_goes_71 : decode cX10_goes 71 = .ok (.bipush 16, 2) := by decide +kernel
theorem dX10_goes_73 : decode cX10_goes 73 = .ok (.iadd, 1) := by decide +kernel
theorem dX10_goes_74 : decode cX10_goes 74 = .ok (.aload_n 0, 1) := by decide +kernel
theorem dX10_goes_75 : decode cX10_goes 75 = .ok (.getfield 51, 3) := by decide +kernel
theorem dX10_goes_78 : decode cX10_goes 78 = .ok (.iconst 2, 1) := by decide +kernel
theorem dX10_goes_79 : decode cX10_goes 79 = .ok (.iload_n 1, 1) := by decide +kernel
theorem dX10_goes_80 : decode cX10_goes 80 = .ok (.imul, 1) := by decide +kernel
theorem dX10_goes_81 : decode cX10_goes 81 = .ok (.iaload, 1) := by decide +kernel
theorem dX10_goes_82 : decode cX10_goes 82 = .ok (.aload_n 0, 1) := by decide +kernel
theorem dX10_goes_83 : decode cX10_goes 83 = .ok (.getfield 51, 3) := by decide +kernel
theorem dX10_goes_86 : decode cX10_goes 86 = .ok (.iconst 2, 1) := by decide +kernel
theorem dX10_goes_87 : decode cX10_goes 87 = .ok (.iload_n 1, 1) := by decide +kernel
theorem dX10_goes_88 : decode cX10_goes 88 = .ok (.imul, 1) := by decide +kernel
theorem dX10_goes_89 : decode cX10_goes 89 = .ok (.iconst 1, 1) := by decide +kernel
theorem dX10_goes_90 : decode cX10_goes 90 = .ok (.iadd, 1) := by decide +kernel
theorem dX10_goes_91 : decode cX10_goes 91 = .ok (.iaload, 1) := by decide +kernel
theorem dX10_goes_92 : decode cX10_goes 92 = .ok (.invokevirtual 139, 3) := by decide +kernel
theorem dX10_goes_95 : decode cX10_goes 95 = .ok (.iinc 1 1, 3) := by decide +kernel
theorem dX10_goes_98 : decode cX10_goes 98 = .ok (.goto (-52), 3) := by decide +kernel
theorem dX10_goes_101 : decode cX10_goes 101 = .ok (.iconst 1, 1) := by decide +kernel
theorem dX10_goes_102 : decode cX10_goes 102 = .ok (.ireturn, 1) := by decide +kernel
theorem dX10_parts_0 : decode cX10_parts 0 = .ok (.aload_n 0, 1) := by decide +kernel
theorem dX10_parts_1 : decode cX10_parts 1 = .ok (.invokevirtual 143, 3) := by decide +kernel
theorem dX10_parts_4 : decode cX10_parts 4 = .ok (.ifCond .ne 10, 3) := by decide +kernel
theorem dX10_parts_7 : decode cX10_parts 7 = .ok (.aload_n 0, 1) := by decide +kernel
theorem dX10_parts_8 : decode cX10_parts 8 = .ok (.bipush (-3), 2) := by decide +kernel
theorem dX10_parts_10 : decode cX10_parts 10 = .ok (.invokevirtual 136, 3) := by decide +kernel
theorem dX10_parts_13 : decode cX10_parts 13 = .ok (.ireturn, 1) := by decide +kernel
theorem dX10_parts_14 : decode cX10_parts 14 = .ok (.iload_n 1, 1) := by decide +kernel
theorem dX10_parts_15 : decode cX10_parts 15 = .ok (.iconst 0, 1) := by decide +kernel
theorem dX10_parts_16 : decode cX10_parts 16 = .ok (.aload_n 0, 1) := by decide +kernel
theorem dX10_parts_17 : decode cX10_parts 17 = .ok (.getfield 113, 3) := by decide +kernel
theorem dX10_parts_20 : decode cX10_parts 20 = .ok (.invokestatic 78, 3) := by decide +kernel
theorem dX10_parts_23 : decode cX10_parts 23 = .ok (.ifCond .eq 33, 3) := by decide +kernel
theorem dX10_parts_26 : decode cX10_parts 26 = .ok (.iload_n 2, 1) := by decide +kernel
theorem dX10_parts_27 : decode cX10_parts 27 = .ok (.iconst 0, 1) := by decide +kernel
theorem dX10_parts_28 : decode cX10_parts 28 = .ok (.aload_n 0, 1) := by decide +kernel
theorem dX10_parts_29 : decode cX10_parts 29 = .ok (.getfield 13, 3) := by decide +kernel
theorem dX10_parts_32 : decode cX10_parts 32 = .ok (.iconst 0, 1) := by decide +kernel
theorem dX10_parts_33 : decode cX10_parts 33 = .ok (.iaload, 1) := by decide +kernel
theorem dX10_parts_34 : decode cX10_parts 34 = .ok (.iconst 1, 1) := by decide +kernel
theorem dX10_parts_35 : decode cX10_parts 35 = .ok (.isub, 1) := by decide +kernel
theorem dX10_parts_36 : decode cX10_parts 36 = .ok (.invokestatic 78, 3) := by decide +kernel
theorem dX10_parts_39 : decode cX10_parts 39 = .ok (.ifCond .eq 17, 3) := by decide +kernel
theorem dX10_parts_42 : decode cX10_parts 42 = .ok (.aload_n 0, 1) := by decide +kernel
theorem dX10_parts_43 : decode cX10_parts 43 = .ok (.getfield 57, 3) := by decide +kernel
theorem dX10_parts_46 : decode cX10_parts 46 = .ok (.bipush 16, 2) := by decide +kernel
theorem dX10_parts_48 : decode cX10_parts 48 = .ok (.iload_n 1, 1) := by decide +kernel
theorem dX10_parts_49 : decode cX10_parts 49 = .ok (.imul, 1) := by decide +kernel
theorem dX10_parts_50 : decode cX10_parts 50 = .ok (.iload_n 2, 1) := by decide +kernel
theorem dX10_parts_51 : decode cX10_parts 51 = .ok (.iadd, 1) := by decide +kernel
theorem dX10_parts_52 : decode cX10_parts 52 = .ok (.iaload, 1) := by decide +kernel
theorem dX10_parts_53 : decode cX10_parts 53 = .ok (.goto 9, 3) := by decide +kernel
theorem dX10_parts_56 : decode cX10_parts 56 = .ok (.aload_n 0, 1) := by decide +kernel
theorem dX10_parts_57 : decode cX10_parts 57 = .ok (.bipush (-2), 2) := by decide +kernel
theorem dX10_parts_59 : decode cX10_parts 59 = .ok (.invokevirtual 86, 3) := by decide +kernel
theorem dX10_parts_62 : decode cX10_parts 62 = .ok (.ireturn, 1) := by decide +kernel
theorem dX10_formOf_0 : decode cX10_formOf 0 = .ok (.aload_n 0, 1) := by decide +kernel
theorem dX10_formOf_1 : decode cX10_formOf 1 = .ok (.invokevirtual 143, 3) := by decide +kernel
theorem dX10_formOf_4 : decode cX10_formOf 4 = .ok (.ifCond .ne 10, 3) := by decide +kernel
theorem dX10_formOf_7 : decode cX10_formOf 7 = .ok (.aload_n 0, 1) := by decide +kernel
theorem dX10_formOf_8 : decode cX10_formOf 8 = .ok (.bipush (-3), 2) := by decide +kernel
theorem dX10_formOf_10 : decode cX10_formOf 10 = .ok (.invokevirtual 136, 3) := by decide +kernel
theorem dX10_formOf_13 : decode cX10_formOf 13 = .ok (.ireturn, 1) := by decide +kernel
theorem dX10_formOf_14 : decode cX10_formOf 14 = .ok (.iload_n 1, 1) := by decide +kernel
theorem dX10_formOf_15 : decode cX10_formOf 15 = .ok (.iconst 0, 1) := by decide +kernel
theorem dX10_formOf_16 : decode cX10_formOf 16 = .ok (.aload_n 0, 1) := by decide +kernel
theorem dX10_formOf_17 : decode cX10_formOf 17 = .ok (.getfield 113, 3) := by decide +kernel
theorem dX10_formOf_20 : decode cX10_formOf 20 = .ok (.invokestatic 78, 3) := by decide +kernel
theorem dX10_formOf_23 : decode cX10_formOf 23 = .ok (.ifCond .eq 29, 3) := by decide +kernel
theorem dX10_formOf_26 : decode cX10_formOf 26 = .ok (.iload_n 2, 1) := by decide +kernel
theorem dX10_formOf_27 : decode cX10_formOf 27 = .ok (.iconst 0, 1) := by decide +kernel
theorem dX10_formOf_28 : decode cX10_formOf 28 = .ok (.iconst 3, 1) := by decide +kernel
theorem dX10_formOf_29 : decode cX10_formOf 29 = .ok (.invokestatic 78, 3) := by decide +kernel
theorem dX10_formOf_32 : decode cX10_formOf 32 = .ok (.ifCond .eq 20, 3) := by decide +kernel
theorem dX10_formOf_35 : decode cX10_formOf 35 = .ok (.aload_n 0, 1) := by decide +kernel
theorem dX10_formOf_36 : decode cX10_formOf 36 = .ok (.getfield 57, 3) := by decide +kernel
theorem dX10_formOf_39 : decode cX10_formOf 39 = .ok (.bipush 16, 2) := by decide +kernel
theorem dX10_formOf_41 : decode cX10_formOf 41 = .ok (.iload_n 1, 1) := by decide +kernel
theorem dX10_formOf_42 : decode cX10_formOf 42 = .ok (.imul, 1) := by decide +kernel
theorem dX10_formOf_43 : decode cX10_formOf 43 = .ok (.bipush 12, 2) := by decide +kernel
theorem dX10_formOf_45 : decode cX10_formOf 45 = .ok (.iadd, 1) := by decide +kernel
theorem dX10_formOf_46 : decode cX10_formOf 46 = .ok (.iload_n 2, 1) := by decide +kernel
theorem dX10_formOf_47 : decode cX10_formOf 47 = .ok (.iadd, 1) := by decide +kernel
theorem dX10_formOf_48 : decode cX10_formOf 48 = .ok (.iaload, 1) := by decide +kernel
theorem dX10_formOf_49 : decode cX10_formOf 49 = .ok (.goto 9, 3) := by decide +kernel
theorem dX10_formOf_52 : decode cX10_formOf 52 = .ok (.aload_n 0, 1) := by decide +kernel
theorem dX10_formOf_53 : decode cX10_formOf 53 = .ok (.bipush (-10), 2) := by decide +kernel
theorem dX10_formOf_55 : decode cX10_formOf 55 = .ok (.invokevirtual 86, 3) := by decide +kernel
theorem dX10_formOf_58 : decode cX10_formOf 58 = .ok (.ireturn, 1) := by decide +kernel
theorem dX10_step_0 : decode cX10_step 0 = .ok (.aload_n 0, 1) := by decide +kernel
theorem dX10_step_1 : decode cX10_step 1 = .ok (.invokevirtual 143, 3) := by decide +kernel
theorem dX10_step_4 : decode cX10_step 4 = .ok (.ifCond .ne 10, 3) := by decide +kernel
theorem dX10_step_7 : decode cX10_step 7 = .ok (.aload_n 0, 1) := by decide +kernel
theorem dX10_step_8 : decode cX10_step 8 = .ok (.bipush (-3), 2) := by decide +kernel
theorem dX10_step_10 : decode cX10_step 10 = .ok (.invokevirtual 136, 3) := by decide +kernel
theorem dX10_step_13 : decode cX10_step 13 = .ok (.ireturn, 1) := by decide +kernel
theorem dX10_step_14 : decode cX10_step 14 = .ok (.iload_n 1, 1) := by decide +kernel
theorem dX10_step_15 : decode cX10_step 15 = .ok (.iconst 1, 1) := by decide +kernel
theorem dX10_step_16 : decode cX10_step 16 = .ok (.aload_n 0, 1) := by decide +kernel
theorem dX10_step_17 : decode cX10_step 17 = .ok (.getfield 113, 3) := by decide +kernel
theorem dX10_step_20 : decode cX10_step 20 = .ok (.invokestatic 78, 3) := by decide +kernel
theorem dX10_step_23 : decode cX10_step 23 = .ok (.ifCond .eq 12, 3) := by decide +kernel
theorem dX10_step_26 : decode cX10_step 26 = .ok (.iload_n 2, 1) := by decide +kernel
theorem dX10_step_27 : decode cX10_step 27 = .ok (.iconst 0, 1) := by decide +kernel
theorem dX10_step_28 : decode cX10_step 28 = .ok (.iconst 3, 1) := by decide +kernel
theorem dX10_step_29 : decode cX10_step 29 = .ok (.invokestatic 78, 3) := by decide +kernel
theorem dX10_step_32 : decode cX10_step 32 = .ok (.ifCond .ne 10, 3) := by decide +kernel
theorem dX10_step_35 : decode cX10_step 35 = .ok (.aload_n 0, 1) := by decide +kernel
theorem dX10_step_36 : decode cX10_step 36 = .ok (.bipush (-2), 2) := by decide +kernel
theorem dX10_step_38 : decode cX10_step 38 = .ok (.invokevirtual 86, 3) := by decide +kernel
theorem dX10_step_41 : decode cX10_step 41 = .ok (.ireturn, 1) := by decide +kernel
theorem dX10_step_42 : decode cX10_step 42 = .ok (.bipush 16, 2) := by decide +kernel
theorem dX10_step_44 : decode cX10_step 44 = .ok (.iload_n 1, 1) := by decide +kernel
theorem dX10_step_45 : decode cX10_step 45 = .ok (.imul, 1) := by decide +kernel
theorem dX10_step_46 : decode cX10_step 46 = .ok (.bipush 16, 2) := by decide +kernel
theorem dX10_step_48 : decode cX10_step 48 = .ok (.isub, 1) := by decide +kernel
theorem dX10_step_49 : decode cX10_step 49 = .ok (.istore_n 3, 1) := by decide +kernel
theorem dX10_step_50 : decode cX10_step 50 = .ok (.bipush 16, 2) := by decide +kernel
theorem dX10_step_52 : decode cX10_step 52 = .ok (.iload_n 1, 1) := by decide +kernel
theorem dX10_step_53 : decode cX10_step 53 = .ok (.imul, 1) := by decide +kernel
theorem dX10_step_54 : decode cX10_step 54 = .ok (.istore 4, 2) := by decide +kernel
theorem dX10_step_56 : decode cX10_step 56 = .ok (.iconst 0, 1) := by decide +kernel
theorem dX10_step_57 : decode cX10_step 57 = .ok (.istore 5, 2) := by decide +kernel
theorem dX10_step_59 : decode cX10_step 59 = .ok (.iconst 0, 1) := by decide +kernel
theorem dX10_step_60 : decode cX10_step 60 = .ok (.istore 6, 2) := by decide +kernel
theorem dX10_step_62 : decode cX10_step 62 = .ok (.iload 6, 2) := by decide +kernel
theorem dX10_step_64 : decode cX10_step 64 = .ok (.aload_n 0, 1) := by decide +kernel
theorem dX10_step_65 : decode cX10_step 65 = .ok (.getfield 13, 3) := by decide +kernel
theorem dX10_step_68 : decode cX10_step 68 = .ok (.iconst 0, 1) := by decide +kernel
theorem dX10_step_69 : decode cX10_step 69 = .ok (.iaload, 1) := by decide +kernel
theorem dX10_step_70 : decode cX10_step 70 = .ok (.if_icmp .ge 76, 3) := by decide +kernel
theorem dX10_step_73 : decode cX10_step 73 = .ok (.iload_n 2, 1) := by decide +kernel
theorem dX10_step_74 : decode cX10_step 74 = .ok (.iconst 2, 1) := by decide +kernel
theorem dX10_step_75 : decode cX10_step 75 = .ok (.if_icmp .ge 71, 3) := by decide +kernel
theorem dX10_step_78 : decode cX10_step 78 = .ok (.iload 5, 2) := by decide +kernel
theorem dX10_step_80 : decode cX10_step 80 = .ok (.iload_n 2, 1) := by decide +kernel
theorem dX10_step_81 : decode cX10_step 81 = .ok (.ifCond .ne 31, 3) := by decide +kernel
theorem dX10_step_84 : decode cX10_step 84 = .ok (.aload_n 0, 1) := by decide +kernel
theorem dX10_step_85 : decode cX10_step 85 = .ok (.getfield 57, 3) := by decide +kernel
theorem dX10_step_88 : decode cX10_step 88 = .ok (.iload_n 3, 1) := by decide +kernel
theorem dX10_step_89 : decode cX10_step 89 = .ok (.iload 6, 2) := by decide +kernel
theorem dX10_step_91 : decode cX10_step 91 = .ok (.iadd, 1) := by decide +kernel
theorem dX10_step_92 : decode cX10_step 92 = .ok (.iaload, 1) := by decide +kernel
theorem dX10_step_93 : decode cX10_step 93 = .ok (.aload_n 0, 1) := by decide +kernel
theorem dX10_step_94 : decode cX10_step 94 = .ok (.getfield 57, 3) := by decide +kernel
theorem dX10_step_97 : decode cX10_step 97 = .ok (.iload 4, 2) := by decide +kernel
theorem dX10_step_99 : decode cX10_step 99 = .ok (.iload 6, 2) := by decide +kernel
theorem dX10_step_101 : decode cX10_step 101 = .ok (.iadd, 1) := by decide +kernel
theorem dX10_step_102 : decode cX10_step 102 = .ok (.iaload, 1) := by decide +kernel
theorem dX10_step_103 : decode cX10_step 103 = .ok (.iconst (-1), 1) := by decide +kernel
theorem dX10_step_104 : decode cX10_step 104 = .ok (.ixor, 1) := by decide +kernel
theorem dX10_step_105 : decode cX10_step 105 = .ok (.iand, 1) := by decide +kernel
theorem dX10_step_106 : decode cX10_step 106 = .ok (.invokestatic 94, 3) := by decide +kernel
theorem dX10_step_109 : decode cX10_step 109 = .ok (.goto 28, 3) := by decide +kernel
theorem dX10_step_112 : decode cX10_step 112 = .ok (.aload_n 0, 1) := by decide +kernel
theorem dX10_step_113 : decode cX10_step 113 = .ok (.getfield 57, 3) := by decide +kernel
theorem dX10_step_116 : decode cX10_step 116 = .ok (.iload 4, 2) := by decide +kernel
theorem dX10_step_118 : decode cX10_step 118 = .ok (.iload 6, 2) := by decide +kernel
theorem dX10_step_120 : decode cX10_step 120 = .ok (.iadd, 1) := by decide +kernel
theorem dX10_step_121 : decode cX10_step 121 = .ok (.iaload, 1) := by decide +kernel
theorem dX10_step_122 : decode cX10_step 122 = .ok (.aload_n 0, 1) := by decide +kernel
theorem dX10_step_123 : decode cX10_step 123 = .ok (.getfield 57, 3) := by decide +kernel
theorem dX10_step_126 : decode cX10_step 126 = .ok (.iload_n 3, 1) := by decide +kernel
theorem dX10_step_127 : decode cX10_step 127 = .ok (.iload 6, 2) := by decide +kernel
theorem dX10_step_129 : decode cX10_step 129 = .ok (.iadd, 1) := by decide +kernel
theorem dX10_step_130 : decode cX10_step 130 = .ok (.iaload, 1) := by decide +kernel
theorem dX10_step_131 : decode cX10_step 131 = .ok (.iconst (-1), 1) := by decide +kernel
theorem dX10_step_132 : decode cX10_step 132 = .ok (.ixor, 1) := by decide +kernel
theorem dX10_step_133 : decode cX10_step 133 = .ok (.iand, 1) := by decide +kernel
theorem dX10_step_134 : decode cX10_step 134 = .ok (.invokestatic 94, 3) := by decide +kernel
theorem dX10_step_137 : decode cX10_step 137 = .ok (.iadd, 1) := by decide +kernel
theorem dX10_step_138 : decode cX10_step 138 = .ok (.istore 5, 2) := by decide +kernel
theorem dX10_step_140 : decode cX10_step 140 = .ok (.iinc 6 1, 3) := by decide +kernel
theorem dX10_step_143 : decode cX10_step 143 = .ok (.goto (-81), 3) := by decide +kernel
theorem dX10_step_146 : decode cX10_step 146 = .ok (.bipush 12, 2) := by decide +kernel
theorem dX10_step_148 : decode cX10_step 148 = .ok (.istore 6, 2) := by decide +kernel
theorem dX10_step_150 : decode cX10_step 150 = .ok (.iload 6, 2) := by decide +kernel
theorem dX10_step_152 : decode cX10_step 152 = .ok (.bipush 16, 2) := by decide +kernel
theorem dX10_step_154 : decode cX10_step 154 = .ok (.if_icmp .ge 93, 3) := by decide +kernel
theorem dX10_step_157 : decode cX10_step 157 = .ok (.iload_n 2, 1) := by decide +kernel
theorem dX10_step_158 : decode cX10_step 158 = .ok (.iconst 1, 1) := by decide +kernel
theorem dX10_step_159 : decode cX10_step 159 = .ok (.if_icmp .le 88, 3) := by decide +kernel
theorem dX10_step_162 : decode cX10_step 162 = .ok (.aload_n 0, 1) := by decide +kernel
theorem dX10_step_163 : decode cX10_step 163 = .ok (.getfield 57, 3) := by decide +kernel
theorem dX10_step_166 : decode cX10_step 166 = .ok (.iload_n 3, 1) := by decide +kernel
theorem dX10_step_167 : decode cX10_step 167 = .ok (.iload 6, 2) := by decide +kernel
theorem dX10_step_169 : decode cX10_step 169 = .ok (.iadd, 1) := by decide +kernel
theorem dX10_step_170 : decode cX10_step 170 = .ok (.iaload, 1) := by decide +kernel
theorem dX10_step_171 : decode cX10_step 171 = .ok (.ifCond .lt 7, 3) := by decide +kernel
theorem dX10_step_174 : decode cX10_step 174 = .ok (.iconst 1, 1) := by decide +kernel
theorem dX10_step_175 : decode cX10_step 175 = .ok (.goto 4, 3) := by decide +kernel
theorem dX10_step_178 : decode cX10_step 178 = .ok (.iconst 0, 1) := by decide +kernel
theorem dX10_step_179 : decode cX10_step 179 = .ok (.istore 7, 2) := by decide +kernel
theorem dX10_step_181 : decode cX10_step 181 = .ok (.aload_n 0, 1) := by decide +kernel
theorem dX10_step_182 : decode cX10_step 182 = .ok (.getfield 57, 3) := by decide +kernel
theorem dX10_step_185 : decode cX10_step 185 = .ok (.iload 4, 2) := by decide +kernel
theorem dX10_step_187 : decode cX10_step 187 = .ok (.iload 6, 2) := by decide +kernel
theorem dX10_step_189 : decode cX10_step 189 = .ok (.iadd, 1) := by decide +kernel
theorem dX10_step_190 : decode cX10_step 190 = .ok (.iaload, 1) := by decide +kernel
theorem dX10_step_191 : decode cX10_step 191 = .ok (.ifCond .lt 7, 3) := by decide +kernel
theorem dX10_step_194 : decode cX10_step 194 = .ok (.iconst 1, 1) := by decide +kernel
theorem dX10_step_195 : decode cX10_step 195 = .ok (.goto 4, 3) := by decide +kernel
theorem dX10_step_198 : decode cX10_step 198 = .ok (.iconst 0, 1) := by decide +kernel
theorem dX10_step_199 : decode cX10_step 199 = .ok (.istore 8, 2) := by decide +kernel
theorem dX10_step_201 : decode cX10_step 201 = .ok (.iload 5, 2) := by decide +kernel
theorem dX10_step_203 : decode cX10_step 203 = .ok (.iload_n 2, 1) := by decide +kernel
theorem dX10_step_204 : decode cX10_step 204 = .ok (.iconst 2, 1) := by decide +kernel
theorem dX10_step_205 : decode cX10_step 205 = .ok (.if_icmp .ne 13, 3) := by decide +kernel
theorem dX10_step_208 : decode cX10_step 208 = .ok (.iload 7, 2) := by decide +kernel
theorem dX10_step_210 : decode cX10_step 210 = .ok (.ifCond .ne 8, 3) := by decide +kernel
theorem dX10_step_213 : decode cX10_step 213 = .ok (.iload 8, 2) := by decide +kernel
theorem dX10_step_215 : decode cX10_step 215 = .ok (.ifCond .ne 18, 3) := by decide +kernel
theorem dX10_step_218 : decode cX10_step 218 = .ok (.iload_n 2, 1) := by decide +kernel
theorem dX10_step_219 : decode cX10_step 219 = .ok (.iconst 3, 1) := by decide +kernel
theorem dX10_step_220 : decode cX10_step 220 = .ok (.if_icmp .ne 17, 3) := by decide +kernel
theorem dX10_step_223 : decode cX10_step 223 = .ok (.iload 7, 2) := by decide +kernel
theorem dX10_step_225 : decode cX10_step 225 = .ok (.ifCond .eq 12, 3) := by decide +kernel
theorem dX10_step_228 : decode cX10_step 228 = .ok (.iload 8, 2) := by decide +kernel
theorem dX10_step_230 : decode cX10_step 230 = .ok (.ifCond .ne 7, 3) := by decide +kernel
theorem dX10_step_233 : decode cX10_step 233 = .ok (.iconst 1, 1) := by decide +kernel
theorem dX10_step_234 : decode cX10_step 234 = .ok (.goto 4, 3) := by decide +kernel
theorem dX10_step_237 : decode cX10_step 237 = .ok (.iconst 0, 1) := by decide +kernel
theorem dX10_step_238 : decode cX10_step 238 = .ok (.iadd, 1) := by decide +kernel
theorem dX10_step_239 : decode cX10_step 239 = .ok (.istore 5, 2) := by decide +kernel
theorem dX10_step_241 : decode cX10_step 241 = .ok (.iinc 6 1, 3) := by decide +kernel
theorem dX10_step_244 : decode cX10_step 244 = .ok (.goto (-94), 3) := by decide +kernel
theorem dX10_step_247 : decode cX10_step 247 = .ok (.iload 5, 2) := by decide +kernel
theorem dX10_step_249 : decode cX10_step 249 = .ok (.ireturn, 1) := by decide +kernel
theorem dX10_apart_0 : decode cX10_apart 0 = .ok (.iconst 0, 1) := by decide +kernel
theorem dX10_apart_1 : decode cX10_apart 1 = .ok (.istore 5, 2) := by decide +kernel
theorem dX10_apart_3 : decode cX10_apart 3 = .ok (.iconst 0, 1) := by decide +kernel
theorem dX10_apart_4 : decode cX10_apart 4 = .ok (.istore 6, 2) := by decide +kernel
theorem dX10_apart_6 : decode cX10_apart 6 = .ok (.iload 6, 2) := by decide +kernel
theorem dX10_apart_8 : decode cX10_apart 8 = .ok (.aload_n 0, 1) := by decide +kernel
theorem dX10_apart_9 : decode cX10_apart 9 = .ok (.getfield 13, 3) := by decide +kernel
theorem dX10_apart_12 : decode cX10_apart 12 = .ok (.iconst 0, 1) := by decide +kernel
theorem dX10_apart_13 : decode cX10_apart 13 = .ok (.iaload, 1) := by decide +kernel
theorem dX10_apart_14 : decode cX10_apart 14 = .ok (.if_icmp .ge 31, 3) := by decide +kernel
theorem dX10_apart_17 : decode cX10_apart 17 = .ok (.iload 5, 2) := by decide +kernel
theorem dX10_apart_19 : decode cX10_apart 19 = .ok (.aload_n 1, 1) := by decide +kernel
theorem dX10_apart_20 : decode cX10_apart 20 = .ok (.iload_n 2, 1) := by decide +kernel
theorem dX10_apart_21 : decode cX10_apart 21 = .ok (.iload 6, 2) := by decide +kernel
theorem dX10_apart_23 : decode cX10_apart 23 = .ok (.iadd, 1) := by decide +kernel
theorem dX10_apart_24 : decode cX10_apart 24 = .ok (.iaload, 1) := by decide +kernel
theorem dX10_apart_25 : decode cX10_apart 25 = .ok (.aload_n 3, 1) := by decide +kernel
theorem dX10_apart_26 : decode cX10_apart 26 = .ok (.iload 4, 2) := by decide +kernel
theorem dX10_apart_28 : decode cX10_apart 28 = .ok (.iload 6, 2) := by decide +kernel
theorem dX10_apart_30 : decode cX10_apart 30 = .ok (.iadd, 1) := by decide +kernel
theorem dX10_apart_31 : decode cX10_apart 31 = .ok (.iaload, 1) := by decide +kernel
theorem dX10_apart_32 : decode cX10_apart 32 = .ok (.ixor, 1) := by decide +kernel
theorem dX10_apart_33 : decode cX10_apart 33 = .ok (.invokestatic 94, 3) := by decide +kernel
theorem dX10_apart_36 : decode cX10_apart 36 = .ok (.iadd, 1) := by decide +kernel
theorem dX10_apart_37 : decode cX10_apart 37 = .ok (.istore 5, 2) := by decide +kernel
theorem dX10_apart_39 : decode cX10_apart 39 = .ok (.iinc 6 1, 3) := by decide +kernel
theorem dX10_apart_42 : decode cX10_apart 42 = .ok (.goto (-36), 3) := by decide +kernel
theorem dX10_apart_45 : decode cX10_apart 45 = .ok (.bipush 12, 2) := by decide +kernel
theorem dX10_apart_47 : decode cX10_apart 47 = .ok (.istore 6, 2) := by decide +kernel
theorem dX10_apart_49 : decode cX10_apart 49 = .ok (.iload 6, 2) := by decide +kernel
theorem dX10_apart_51 : decode cX10_apart 51 = .ok (.bipush 16, 2) := by decide +kernel
theorem dX10_apart_53 : decode cX10_apart 53 = .ok (.if_icmp .ge 35, 3) := by decide +kernel
theorem dX10_apart_56 : decode cX10_apart 56 = .ok (.iload 5, 2) := by decide +kernel
theorem dX10_apart_58 : decode cX10_apart 58 = .ok (.aload_n 1, 1) := by decide +kernel
theorem dX10_apart_59 : decode cX10_apart 59 = .ok (.iload_n 2, 1) := by decide +kernel
theorem dX10_apart_60 : decode cX10_apart 60 = .ok (.iload 6, 2) := by decide +kernel
theorem dX10_apart_62 : decode cX10_apart 62 = .ok (.iadd, 1) := by decide +kernel
theorem dX10_apart_63 : decode cX10_apart 63 = .ok (.iaload, 1) := by decide +kernel
theorem dX10_apart_64 : decode cX10_apart 64 = .ok (.aload_n 3, 1) := by decide +kernel
theorem dX10_apart_65 : decode cX10_apart 65 = .ok (.iload 4, 2) := by decide +kernel
theorem dX10_apart_67 : decode cX10_apart 67 = .ok (.iload 6, 2) := by decide +kernel
theorem dX10_apart_69 : decode cX10_apart 69 = .ok (.iadd, 1) := by decide +kernel
theorem dX10_apart_70 : decode cX10_apart 70 = .ok (.iaload, 1) := by decide +kernel
theorem dX10_apart_71 : decode cX10_apart 71 = .ok (.if_icmp .ne 7, 3) := by decide +kernel
theorem dX10_apart_74 : decode cX10_apart 74 = .ok (.iconst 0, 1) := by decide +kernel
theorem dX10_apart_75 : decode cX10_apart 75 = .ok (.goto 4, 3) := by decide +kernel
theorem dX10_apart_78 : decode cX10_apart 78 = .ok (.iconst 1, 1) := by decide +kernel
theorem dX10_apart_79 : decode cX10_apart 79 = .ok (.iadd, 1) := by decide +kernel
theorem dX10_apart_80 : decode cX10_apart 80 = .ok (.istore 5, 2) := by decide +kernel
theorem dX10_apart_82 : decode cX10_apart 82 = .ok (.iinc 6 1, 3) := by decide +kernel
theorem dX10_apart_85 : decode cX10_apart 85 = .ok (.goto (-36), 3) := by decide +kernel
theorem dX10_apart_88 : decode cX10_apart 88 = .ok (.iload 5, 2) := by decide +kernel
theorem dX10_apart_90 : decode cX10_apart 90 = .ok (.ireturn, 1) := by decide +kernel
theorem dX10_unlike_0 : decode cX10_unlike 0 = .ok (.aload_n 0, 1) := by decide +kernel
theorem dX10_unlike_1 : decode cX10_unlike 1 = .ok (.invokevirtual 143, 3) := by decide +kernel
theorem dX10_unlike_4 : decode cX10_unlike 4 = .ok (.ifCond .ne 10, 3) := by decide +kernel
theorem dX10_unlike_7 : decode cX10_unlike 7 = .ok (.aload_n 0, 1) := by decide +kernel
theorem dX10_unlike_8 : decode cX10_unlike 8 = .ok (.bipush (-3), 2) := by decide +kernel
theorem dX10_unlike_10 : decode cX10_unlike 10 = .ok (.invokevirtual 136, 3) := by decide +kernel
theorem dX10_unlike_13 : decode cX10_unlike 13 = .ok (.ireturn, 1) := by decide +kernel
theorem dX10_unlike_14 : decode cX10_unlike 14 = .ok (.iload_n 1, 1) := by decide +kernel
theorem dX10_unlike_15 : decode cX10_unlike 15 = .ok (.iconst 0, 1) := by decide +kernel
theorem dX10_unlike_16 : decode cX10_unlike 16 = .ok (.aload_n 0, 1) := by decide +kernel
theorem dX10_unlike_17 : decode cX10_unlike 17 = .ok (.getfield 113, 3) := by decide +kernel
theorem dX10_unlike_20 : decode cX10_unlike 20 = .ok (.invokestatic 78, 3) := by decide +kernel
theorem dX10_unlike_23 : decode cX10_unlike 23 = .ok (.ifCond .eq 38, 3) := by decide +kernel
theorem dX10_unlike_26 : decode cX10_unlike 26 = .ok (.iload_n 2, 1) := by decide +kernel
theorem dX10_unlike_27 : decode cX10_unlike 27 = .ok (.iconst 0, 1) := by decide +kernel
theorem dX10_unlike_28 : decode cX10_unlike 28 = .ok (.aload_n 0, 1) := by decide +kernel
theorem dX10_unlike_29 : decode cX10_unlike 29 = .ok (.getfield 113, 3) := by decide +kernel
theorem dX10_unlike_32 : decode cX10_unlike 32 = .ok (.invokestatic 78, 3) := by decide +kernel
theorem dX10_unlike_35 : decode cX10_unlike 35 = .ok (.ifCond .eq 26, 3) := by decide +kernel
theorem dX10_unlike_38 : decode cX10_unlike 38 = .ok (.aload_n 0, 1) := by decide +kernel
theorem dX10_unlike_39 : decode cX10_unlike 39 = .ok (.aload_n 0, 1) := by decide +kernel
theorem dX10_unlike_40 : decode cX10_unlike 40 = .ok (.getfield 57, 3) := by decide +kernel
theorem dX10_unlike_43 : decode cX10_unlike 43 = .ok (.bipush 16, 2) := by decide +kernel
theorem dX10_unlike_45 : decode cX10_unlike 45 = .ok (.iload_n 1, 1) := by decide +kernel
theorem dX10_unlike_46 : decode cX10_unlike 46 = .ok (.imul, 1) := by decide +kernel
theorem dX10_unlike_47 : decode cX10_unlike 47 = .ok (.aload_n 0, 1) := by decide +kernel
theorem dX10_unlike_48 : decode cX10_unlike 48 = .ok (.getfield 57, 3) := by decide +kernel
theorem dX10_unlike_51 : decode cX10_unlike 51 = .ok (.bipush 16, 2) := by decide +kernel
theorem dX10_unlike_53 : decode cX10_unlike 53 = .ok (.iload_n 2, 1) := by decide +kernel
theorem dX10_unlike_54 : decode cX10_unlike 54 = .ok (.imul, 1) := by decide +kernel
theorem dX10_unlike_55 : decode cX10_unlike 55 = .ok (.invokevirtual 146, 3) := by decide +kernel
theorem dX10_unlike_58 : decode cX10_unlike 58 = .ok (.goto 9, 3) := by decide +kernel
theorem dX10_unlike_61 : decode cX10_unlike 61 = .ok (.aload_n 0, 1) := by decide +kernel
theorem dX10_unlike_62 : decode cX10_unlike 62 = .ok (.bipush (-2), 2) := by decide +kernel
theorem dX10_unlike_64 : decode cX10_unlike 64 = .ok (.invokevirtual 86, 3) := by decide +kernel
theorem dX10_unlike_67 : decode cX10_unlike 67 = .ok (.ireturn, 1) := by decide +kernel
theorem dX10_gone_0 : decode cX10_gone 0 = .ok (.aload_n 0, 1) := by decide +kernel
theorem dX10_gone_1 : decode cX10_gone 1 = .ok (.invokevirtual 143, 3) := by decide +kernel
theorem dX10_gone_4 : decode cX10_gone 4 = .ok (.ifCond .ne 10, 3) := by decide +kernel
theorem dX10_gone_7 : decode cX10_gone 7 = .ok (.aload_n 0, 1) := by decide +kernel
theorem dX10_gone_8 : decode cX10_gone 8 = .ok (.bipush (-3), 2) := by decide +kernel
theorem dX10_gone_10 : decode cX10_gone 10 = .ok (.invokevirtual 136, 3) := by decide +kernel
theorem dX10_gone_13 : decode cX10_gone 13 = .ok (.ireturn, 1) := by decide +kernel
theorem dX10_gone_14 : decode cX10_gone 14 = .ok (.iload_n 1, 1) := by decide +kernel
theorem dX10_gone_15 : decode cX10_gone 15 = .ok (.iconst 0, 1) := by decide +kernel
theorem dX10_gone_16 : decode cX10_gone 16 = .ok (.aload_n 0, 1) := by decide +kernel
theorem dX10_gone_17 : decode cX10_gone 17 = .ok (.getfield 13, 3) := by decide +kernel
theorem dX10_gone_20 : decode cX10_gone 20 = .ok (.iconst 0, 1) := by decide +kernel
theorem dX10_gone_21 : decode cX10_gone 21 = .ok (.iaload, 1) := by decide +kernel
theorem dX10_gone_22 : decode cX10_gone 22 = .ok (.iconst 1, 1) := by decide +kernel
theorem dX10_gone_23 : decode cX10_gone 23 = .ok (.isub, 1) := by decide +kernel
theorem dX10_gone_24 : decode cX10_gone 24 = .ok (.invokestatic 78, 3) := by decide +kernel
theorem dX10_gone_27 : decode cX10_gone 27 = .ok (.ifCond .eq 13, 3) := by decide +kernel
theorem dX10_gone_30 : decode cX10_gone 30 = .ok (.iload_n 2, 1) := by decide +kernel
theorem dX10_gone_31 : decode cX10_gone 31 = .ok (.iconst 0, 1) := by decide +kernel
theorem dX10_gone_32 : decode cX10_gone 32 = .ok (.bipush 7, 2) := by decide +kernel
theorem dX10_gone_34 : decode cX10_gone 34 = .ok (.invokestatic 78, 3) := by decide +kernel
theorem dX10_gone_37 : decode cX10_gone 37 = .ok (.ifCond .ne 10, 3) := by decide +kernel
theorem dX10_gone_40 : decode cX10_gone 40 = .ok (.aload_n 0, 1) := by decide +kernel
theorem dX10_gone_41 : decode cX10_gone 41 = .ok (.bipush (-2), 2) := by decide +kernel
theorem dX10_gone_43 : decode cX10_gone 43 = .ok (.invokevirtual 86, 3) := by decide +kernel
theorem dX10_gone_46 : decode cX10_gone 46 = .ok (.ireturn, 1) := by decide +kernel
theorem dX10_gone_47 : decode cX10_gone 47 = .ok (.iconst (-1), 1) := by decide +kernel
theorem dX10_gone_48 : decode cX10_gone 48 = .ok (.istore_n 3, 1) := by decide +kernel
theorem dX10_gone_49 : decode cX10_gone 49 = .ok (.iconst 0, 1) := by decide +kernel
theorem dX10_gone_50 : decode cX10_gone 50 = .ok (.istore 4, 2) := by decide +kernel
theorem dX10_gone_52 : decode cX10_gone 52 = .ok (.iload 4, 2) := by decide +kernel
theorem dX10_gone_54 : decode cX10_gone 54 = .ok (.aload_n 0, 1) := by decide +kernel
theorem dX10_gone_55 : decode cX10_gone 55 = .ok (.getfield 113, 3) := by decide +kernel
theorem dX10_gone_58 : decode cX10_gone 58 = .ok (.if_icmp .gt 36, 3) := by decide +kernel
theorem dX10_gone_61 : decode cX10_gone 61 = .ok (.aload_n 0, 1) := by decide +kernel
theorem dX10_gone_62 : decode cX10_gone 62 = .ok (.getfield 57, 3) := by decide +kernel
theorem dX10_gone_65 : decode cX10_gone 65 = .ok (.bipush 16, 2) := by decide +kernel
theorem dX10_gone_67 : decode cX10_gone 67 = .ok (.iload 4, 2) := by decide +kernel
theorem dX10_gone_69 : decode cX10_gone 69 = .ok (.imul, 1) := by decide +kernel
theorem dX10_gone_70 : decode cX10_gone 70 = .ok (.iload_n 1, 1) := by decide +kernel
theorem dX10_gone_71 : decode cX10_gone 71 = .ok (.iadd, 1) := by decide +kernel
theorem dX10_gone_72 : decode cX10_gone 72 = .ok (.iaload, 1) := by decide +kernel
theorem dX10_gone_73 : decode cX10_gone 73 = .ok (.iload_n 2, 1) := by decide +kernel
theorem dX10_gone_74 : decode cX10_gone 74 = .ok (.ishr, 1) := by decide +kernel
theorem dX10_gone_75 : decode cX10_gone 75 = .ok (.iconst 1, 1) := by decide +kernel
theorem dX10_gone_76 : decode cX10_gone 76 = .ok (.iand, 1) := by decide +kernel
theorem dX10_gone_77 : decode cX10_gone 77 = .ok (.iconst 1, 1) := by decide +kernel
theorem dX10_gone_78 : decode cX10_gone 78 = .ok (.if_icmp .ne 8, 3) := by decide +kernel
theorem dX10_gone_81 : decode cX10_gone 81 = .ok (.iload 4, 2) := by decide +kernel
theorem dX10_gone_83 : decode cX10_gone 83 = .ok (.goto 4, 3) := by decide +kernel
theorem dX10_gone_86 : decode cX10_gone 86 = .ok (.iload_n 3, 1) := by decide +kernel
theorem dX10_gone_87 : decode cX10_gone 87 = .ok (.istore_n 3, 1) := by decide +kernel
theorem dX10_gone_88 : decode cX10_gone 88 = .ok (.iinc 4 1, 3) := by decide +kernel
theorem dX10_gone_91 : decode cX10_gone 91 = .ok (.goto (-39), 3) := by decide +kernel
theorem dX10_gone_94 : decode cX10_gone 94 = .ok (.iload_n 3, 1) := by decide +kernel
theorem dX10_gone_95 : decode cX10_gone 95 = .ok (.ifCond .ge 7, 3) := by decide +kernel
theorem dX10_gone_98 : decode cX10_gone 98 = .ok (.iconst 0, 1) := by decide +kernel
theorem dX10_gone_99 : decode cX10_gone 99 = .ok (.goto 18, 3) := by decide +kernel
theorem dX10_gone_102 : decode cX10_gone 102 = .ok (.iload_n 3, 1) := by decide +kernel
theorem dX10_gone_103 : decode cX10_gone 103 = .ok (.aload_n 0, 1) := by decide +kernel
theorem dX10_gone_104 : decode cX10_gone 104 = .ok (.getfield 113, 3) := by decide +kernel
theorem dX10_gone_107 : decode cX10_gone 107 = .ok (.if_icmp .ne 7, 3) := by decide +kernel
theorem dX10_gone_110 : decode cX10_gone 110 = .ok (.iconst (-1), 1) := by decide +kernel
theorem dX10_gone_111 : decode cX10_gone 111 = .ok (.goto 6, 3) := by decide +kernel
theorem dX10_gone_114 : decode cX10_gone 114 = .ok (.iload_n 3, 1) := by decide +kernel
theorem dX10_gone_115 : decode cX10_gone 115 = .ok (.iconst 1, 1) := by decide +kernel
theorem dX10_gone_116 : decode cX10_gone 116 = .ok (.iadd, 1) := by decide +kernel
theorem dX10_gone_117 : decode cX10_gone 117 = .ok (.ireturn, 1) := by decide +kernel
theorem dX10_isKind_0 : decode cX10_isKind 0 = .ok (.iload_n 0, 1) := by decide +kernel
theorem dX10_isKind_1 : decode cX10_isKind 1 = .ok (.iconst 0, 1) := by decide +kernel
theorem dX10_isKind_2 : decode cX10_isKind 2 = .ok (.iconst 5, 1) := by decide +kernel
theorem dX10_isKind_3 : decode cX10_isKind 3 = .ok (.invokestatic 78, 3) := by decide +kernel
theorem dX10_isKind_6 : decode cX10_isKind 6 = .ok (.ireturn, 1) := by decide +kernel
theorem dX10_codes_0 : decode cX10_codes 0 = .ok (.iconst 1, 1) := by decide +kernel
theorem dX10_codes_1 : decode cX10_codes 1 = .ok (.istore_n 2, 1) := by decide +kernel
theorem dX10_codes_2 : decode cX10_codes 2 = .ok (.iconst 0, 1) := by decide +kernel
theorem dX10_codes_3 : decode cX10_codes 3 = .ok (.istore_n 3, 1) := by decide +kernel
theorem dX10_codes_4 : decode cX10_codes 4 = .ok (.iload_n 3, 1) := by decide +kernel
theorem dX10_codes_5 : decode cX10_codes 5 = .ok (.iload_n 1, 1) := by decide +kernel
theorem dX10_codes_6 : decode cX10_codes 6 = .ok (.if_icmp .ge 18, 3) := by decide +kernel
theorem dX10_codes_9 : decode cX10_codes 9 = .ok (.iload_n 2, 1) := by decide +kernel
theorem dX10_codes_10 : decode cX10_codes 10 = .ok (.aload_n 0, 1) := by decide +kernel
theorem dX10_codes_11 : decode cX10_codes 11 = .ok (.getfield 7, 3) := by decide +kernel
theorem dX10_codes_14 : decode cX10_codes 14 = .ok (.iconst 0, 1) := by decide +kernel
theorem dX10_codes_15 : decode cX10_codes 15 = .ok (.iaload, 1) := by decide +kernel
theorem dX10_codes_16 : decode cX10_codes 16 = .ok (.imul, 1) := by decide +kernel
theorem dX10_codes_17 : decode cX10_codes 17 = .ok (.istore_n 2, 1) := by decide +kernel
theorem dX10_codes_18 : decode cX10_codes 18 = .ok (.iinc 3 1, 3) := by decide +kernel
theorem dX10_codes_21 : decode cX10_codes 21 = .ok (.goto (-17), 3) := by decide +kernel
theorem dX10_codes_24 : decode cX10_codes 24 = .ok (.iload_n 2, 1) := by decide +kernel
theorem dX10_codes_25 : decode cX10_codes 25 = .ok (.ireturn, 1) := by decide +kernel
theorem dX10_tries_0 : decode cX10_tries 0 = .ok (.iload_n 3, 1) := by decide +kernel
theorem dX10_tries_1 : decode cX10_tries 1 = .ok (.istore 4, 2) := by decide +kernel
theorem dX10_tries_3 : decode cX10_tries 3 = .ok (.iconst 1, 1) := by decide +kernel
theorem dX10_tries_4 : decode cX10_tries 4 = .ok (.istore 5, 2) := by decide +kernel
theorem dX10_tries_6 : decode cX10_tries 6 = .ok (.iload_n 2, 1) := by decide +kernel
theorem dX10_tries_7 : decode cX10_tries 7 = .ok (.iconst 1, 1) := by decide +kernel
theorem dX10_tries_8 : decode cX10_tries 8 = .ok (.isub, 1) := by decide +kernel
theorem dX10_tries_9 : decode cX10_tries 9 = .ok (.istore 6, 2) := by decide +kernel
theorem dX10_tries_11 : decode cX10_tries 11 = .ok (.iload 6, 2) := by decide +kernel
theorem dX10_tries_13 : decode cX10_tries 13 = .ok (.ifCond .lt 62, 3) := by decide +kernel
theorem dX10_tries_16 : decode cX10_tries 16 = .ok (.aload_n 0, 1) := by decide +kernel
theorem dX10_tries_17 : decode cX10_tries 17 = .ok (.getfield 66, 3) := by decide +kernel
theorem dX10_tries_20 : decode cX10_tries 20 = .ok (.iload 6, 2) := by decide +kernel
theorem dX10_tries_22 : decode cX10_tries 22 = .ok (.iload 4, 2) := by decide +kernel
theorem dX10_tries_24 : decode cX10_tries 24 = .ok (.aload_n 0, 1) := by decide +kernel
theorem dX10_tries_25 : decode cX10_tries 25 = .ok (.getfield 7, 3) := by decide +kernel
theorem dX10_tries_28 : decode cX10_tries 28 = .ok (.iconst 0, 1) := by decide +kernel
theorem dX10_tries_29 : decode cX10_tries 29 = .ok (.iaload, 1) := by decide +kernel
theorem dX10_tries_30 : decode cX10_tries 30 = .ok (.irem, 1) := by decide +kernel
theorem dX10_tries_31 : decode cX10_tries 31 = .ok (.iastore, 1) := by decide +kernel
theorem dX10_tries_32 : decode cX10_tries 32 = .ok (.iload 4, 2) := by decide +kernel
theorem dX10_tries_34 : decode cX10_tries 34 = .ok (.aload_n 0, 1) := by decide +kernel
theorem dX10_tries_35 : decode cX10_tries 35 = .ok (.getfield 7, 3) := by decide +kernel
theorem dX10_tries_38 : decode cX10_tries 38 = .ok (.iconst 0, 1) := by decide +kernel
theorem dX10_tries_39 : decode cX10_tries 39 = .ok (.iaload, 1) := by decide +kernel
theorem dX10_tries_40 : decode cX10_tries 40 = .ok (.idiv, 1) := by decide +kernel
theorem dX10_tries_41 : decode cX10_tries 41 = .ok (.istore 4, 2) := by decide +kernel
theorem dX10_tries_43 : decode cX10_tries 43 = .ok (.iload 5, 2) := by decide +kernel
theorem dX10_tries_45 : decode cX10_tries 45 = .ok (.ifCond .eq 21, 3) := by decide +kernel
theorem dX10_tries_48 : decode cX10_tries 48 = .ok (.aload_n 0, 1) := by decide +kernel
theorem dX10_tries_49 : decode cX10_tries 49 = .ok (.aload_n 0, 1) := by decide +kernel
theorem dX10_tries_50 : decode cX10_tries 50 = .ok (.getfield 66, 3) := by decide +kernel
theorem dX10_tries_53 : decode cX10_tries 53 = .ok (.iload 6, 2) := by decide +kernel
theorem dX10_tries_55 : decode cX10_tries 55 = .ok (.iaload, 1) := by decide +kernel
theorem dX10_tries_56 : decode cX10_tries 56 = .ok (.invokevirtual 123, 3) := by decide +kernel
theorem dX10_tries_59 : decode cX10_tries 59 = .ok (.ifCond .eq 7, 3) := by decide +kernel
theorem dX10_tries_62 : decode cX10_tries 62 = .ok (.iconst 1, 1) := by decide +kernel
theorem dX10_tries_63 : decode cX10_tries 63 = .ok (.goto 4, 3) := by decide +kernel
theorem dX10_tries_66 : decode cX10_tries 66 = .ok (.iconst 0, 1) := by decide +kernel
theorem dX10_tries_67 : decode cX10_tries 67 = .ok (.istore 5, 2) := by decide +kernel
theorem dX10_tries_69 : decode cX10_tries 69 = .ok (.iinc 6 (-1), 3) := by decide +kernel
theorem dX10_tries_72 : decode cX10_tries 72 = .ok (.goto (-61), 3) := by decide +kernel
theorem dX10_tries_75 : decode cX10_tries 75 = .ok (.iconst 0, 1) := by decide +kernel
theorem dX10_tries_76 : decode cX10_tries 76 = .ok (.istore 6, 2) := by decide +kernel
theorem dX10_tries_78 : decode cX10_tries 78 = .ok (.iload 6, 2) := by decide +kernel
theorem dX10_tries_80 : decode cX10_tries 80 = .ok (.bipush 16, 2) := by decide +kernel
theorem dX10_tries_82 : decode cX10_tries 82 = .ok (.if_icmp .ge 23, 3) := by decide +kernel
theorem dX10_tries_85 : decode cX10_tries 85 = .ok (.aload_n 0, 1) := by decide +kernel
theorem dX10_tries_86 : decode cX10_tries 86 = .ok (.getfield 63, 3) := by decide +kernel
theorem dX10_tries_89 : decode cX10_tries 89 = .ok (.iload 6, 2) := by decide +kernel
theorem dX10_tries_91 : decode cX10_tries 91 = .ok (.aload_n 0, 1) := by decide +kernel
theorem dX10_tries_92 : decode cX10_tries 92 = .ok (.getfield 34, 3) := by decide +kernel
theorem dX10_tries_95 : decode cX10_tries 95 = .ok (.iload 6, 2) := by decide +kernel
theorem dX10_tries_97 : decode cX10_tries 97 = .ok (.iaload, 1) := by decide +kernel
theorem dX10_tries_98 : decode cX10_tries 98 = .ok (.iastore, 1) := by decide +kernel
theorem dX10_tries_99 : decode cX10_tries 99 = .ok (.iinc 6 1, 3) := by decide +kernel
theorem dX10_tries_102 : decode cX10_tries 102 = .ok (.goto (-24), 3) := by decide +kernel
theorem dX10_tries_105 : decode cX10_tries 105 = .ok (.iconst 0, 1) := by decide +kernel
theorem dX10_tries_106 : decode cX10_tries 106 = .ok (.istore 6, 2) := by decide +kernel
theorem dX10_tries_108 : decode cX10_tries 108 = .ok (.iload 6, 2) := by decide +kernel
theorem dX10_tries_110 : decode cX10_tries 110 = .ok (.iload_n 2, 1) := by decide +kernel
theorem dX10_tries_111 : decode cX10_tries 111 = .ok (.if_icmp .ge 36, 3) := by decide +kernel
theorem dX10_tries_114 : decode cX10_tries 114 = .ok (.iload 5, 2) := by decide +kernel
theorem dX10_tries_116 : decode cX10_tries 116 = .ok (.ifCond .eq 31, 3) := by decide +kernel
theorem dX10_tries_119 : decode cX10_tries 119 = .ok (.aload_n 0, 1) := by decide +kernel
theorem dX10_tries_120 : decode cX10_tries 120 = .ok (.aload_n 0, 1) := by decide +kernel
theorem dX10_tries_121 : decode cX10_tries 121 = .ok (.getfield 63, 3) := by decide +kernel
theorem dX10_tries_124 : decode cX10_tries 124 = .ok (.iconst 0, 1) := by decide +kernel
theorem dX10_tries_125 : decode cX10_tries 125 = .ok (.aload_n 0, 1) := by decide +kernel
theorem dX10_tries_126 : decode cX10_tries 126 = .ok (.getfield 63, 3) := by decide +kernel
theorem dX10_tries_129 : decode cX10_tries 129 = .ok (.iconst 0, 1) := by decide +kernel
theorem dX10_tries_130 : decode cX10_tries 130 = .ok (.aload_n 0, 1) := by decide +kernel
theorem dX10_tries_131 : decode cX10_tries 131 = .ok (.getfield 66, 3) := by decide +kernel
theorem dX10_tries_134 : decode cX10_tries 134 = .ok (.iload 6, 2) := by decide +kernel
theorem dX10_tries_136 : decode cX10_tries 136 = .ok (.iaload, 1) := by decide +kernel
theorem dX10_tries_137 : decode cX10_tries 137 = .ok (.iload_n 1, 1) := by decide +kernel
theorem dX10_tries_138 : decode cX10_tries 138 = .ok (.invokevirtual 139, 3) := by decide +kernel
theorem dX10_tries_141 : decode cX10_tries 141 = .ok (.iinc 6 1, 3) := by decide +kernel
theorem dX10_tries_144 : decode cX10_tries 144 = .ok (.goto (-36), 3) := by decide +kernel
theorem dX10_tries_147 : decode cX10_tries 147 = .ok (.iload 5, 2) := by decide +kernel
theorem dX10_tries_149 : decode cX10_tries 149 = .ok (.ireturn, 1) := by decide +kernel
theorem dX10_bestOver_0 : decode cX10_bestOver 0 = .ok (.sipush 1000, 3) := by decide +kernel
theorem dX10_bestOver_3 : decode cX10_bestOver 3 = .ok (.istore 4, 2) := by decide +kernel
theorem dX10_bestOver_5 : decode cX10_bestOver 5 = .ok (.aload_n 0, 1) := by decide +kernel
theorem dX10_bestOver_6 : decode cX10_bestOver 6 = .ok (.iconst 0, 1) := by decide +kernel
theorem dX10_bestOver_7 : decode cX10_bestOver 7 = .ok (.putfield 150, 3) := by decide +kernel
theorem dX10_bestOver_10 : decode cX10_bestOver 10 = .ok (.iconst 0, 1) := by decide +kernel
theorem dX10_bestOver_11 : decode cX10_bestOver 11 = .ok (.istore 5, 2) := by decide +kernel
theorem dX10_bestOver_13 : decode cX10_bestOver 13 = .ok (.iload 5, 2) := by decide +kernel
theorem dX10_bestOver_15 : decode cX10_bestOver 15 = .ok (.aload_n 0, 1) := by decide +kernel
theorem dX10_bestOver_16 : decode cX10_bestOver 16 = .ok (.iload_n 3, 1) := by decide +kernel
theorem dX10_bestOver_17 : decode cX10_bestOver 17 = .ok (.invokevirtual 153, 3) := by decide +kernel
theorem dX10_bestOver_20 : decode cX10_bestOver 20 = .ok (.if_icmp .ge 88, 3) := by decide +kernel
theorem dX10_bestOver_23 : decode cX10_bestOver 23 = .ok (.aload_n 0, 1) := by decide +kernel
theorem dX10_bestOver_24 : decode cX10_bestOver 24 = .ok (.iload_n 1, 1) := by decide +kernel
theorem dX10_bestOver_25 : decode cX10_bestOver 25 = .ok (.iload_n 3, 1) := by decide +kernel
theorem dX10_bestOver_26 : decode cX10_bestOver 26 = .ok (.iload 5, 2) := by decide +kernel
theorem dX10_bestOver_28 : decode cX10_bestOver 28 = .ok (.invokevirtual 156, 3) := by decide +kernel
theorem dX10_bestOver_31 : decode cX10_bestOver 31 = .ok (.ifCond .eq 71, 3) := by decide +kernel
theorem dX10_bestOver_34 : decode cX10_bestOver 34 = .ok (.aload_n 0, 1) := by decide +kernel
theorem dX10_bestOver_35 : decode cX10_bestOver 35 = .ok (.aload_n 0, 1) := by decide +kernel
theorem dX10_bestOver_36 : decode cX10_bestOver 36 = .ok (.getfield 63, 3) := by decide +kernel
theorem dX10_bestOver_39 : decode cX10_bestOver 39 = .ok (.iconst 0, 1) := by decide +kernel
theorem dX10_bestOver_40 : decode cX10_bestOver 40 = .ok (.aload_n 0, 1) := by decide +kernel
theorem dX10_bestOver_41 : decode cX10_bestOver 41 = .ok (.getfield 63, 3) := by decide +kernel
theorem dX10_bestOver_44 : decode cX10_bestOver 44 = .ok (.iconst 0, 1) := by decide +kernel
theorem dX10_bestOver_45 : decode cX10_bestOver 45 = .ok (.iload_n 2, 1) := by decide +kernel
theorem dX10_bestOver_46 : decode cX10_bestOver 46 = .ok (.iload_n 1, 1) := by decide +kernel
theorem dX10_bestOver_47 : decode cX10_bestOver 47 = .ok (.invokevirtual 139, 3) := by decide +kernel
theorem dX10_bestOver_50 : decode cX10_bestOver 50 = .ok (.aload_n 0, 1) := by decide +kernel
theorem dX10_bestOver_51 : decode cX10_bestOver 51 = .ok (.aload_n 0, 1) := by decide +kernel
theorem dX10_bestOver_52 : decode cX10_bestOver 52 = .ok (.getfield 63, 3) := by decide +kernel
theorem dX10_bestOver_55 : decode cX10_bestOver 55 = .ok (.iconst 0, 1) := by decide +kernel
theorem dX10_bestOver_56 : decode cX10_bestOver 56 = .ok (.aload_n 0, 1) := by decide +kernel
theorem dX10_bestOver_57 : decode cX10_bestOver 57 = .ok (.getfield 34, 3) := by decide +kernel
theorem dX10_bestOver_60 : decode cX10_bestOver 60 = .ok (.iconst 0, 1) := by decide +kernel
theorem dX10_bestOver_61 : decode cX10_bestOver 61 = .ok (.invokevirtual 146, 3) := by decide +kernel
theorem dX10_bestOver_64 : decode cX10_bestOver 64 = .ok (.istore 6, 2) := by decide +kernel
theorem dX10_bestOver_66 : decode cX10_bestOver 66 = .ok (.aload_n 0, 1) := by decide +kernel
theorem dX10_bestOver_67 : decode cX10_bestOver 67 = .ok (.iload 6, 2) := by decide +kernel
theorem dX10_bestOver_69 : decode cX10_bestOver 69 = .ok (.iload 4, 2) := by decide +kernel
theorem dX10_bestOver_71 : decode cX10_bestOver 71 = .ok (.if_icmp .ge 8, 3) := by decide +kernel
theorem dX10_bestOver_74 : decode cX10_bestOver 74 = .ok (.iload 5, 2) := by decide +kernel
theorem dX10_bestOver_76 : decode cX10_bestOver 76 = .ok (.goto 7, 3) := by decide +kernel
theorem dX10_bestOver_79 : decode cX10_bestOver 79 = .ok (.aload_n 0, 1) := by decide +kernel
theorem dX10_bestOver_80 : decode cX10_bestOver 80 = .ok (.getfield 150, 3) := by decide +kernel
theorem dX10_bestOver_83 : decode cX10_bestOver 83 = .ok (.putfield 150, 3) := by decide +kernel
theorem dX10_bestOver_86 : decode cX10_bestOver 86 = .ok (.iload 6, 2) := by decide +kernel
theorem dX10_bestOver_88 : decode cX10_bestOver 88 = .ok (.iload 4, 2) := by decide +kernel
theorem dX10_bestOver_90 : decode cX10_bestOver 90 = .ok (.if_icmp .ge 8, 3) := by decide +kernel
theorem dX10_bestOver_93 : decode cX10_bestOver 93 = .ok (.iload 6, 2) := by decide +kernel
theorem dX10_bestOver_95 : decode cX10_bestOver 95 = .ok (.goto 5, 3) := by decide +kernel
theorem dX10_bestOver_98 : decode cX10_bestOver 98 = .ok (.iload 4, 2) := by decide +kernel
theorem dX10_bestOver_100 : decode cX10_bestOver 100 = .ok (.istore 4, 2) := by decide +kernel
theorem dX10_bestOver_102 : decode cX10_bestOver 102 = .ok (.iinc 5 1, 3) := by decide +kernel
theorem dX10_bestOver_105 : decode cX10_bestOver 105 = .ok (.goto (-92), 3) := by decide +kernel
theorem dX10_bestOver_108 : decode cX10_bestOver 108 = .ok (.iload 4, 2) := by decide +kernel
theorem dX10_bestOver_110 : decode cX10_bestOver 110 = .ok (.ireturn, 1) := by decide +kernel
theorem dX10_best_0 : decode cX10_best 0 = .ok (.iload_n 1, 1) := by decide +kernel
theorem dX10_best_1 : decode cX10_best 1 = .ok (.invokestatic 159, 3) := by decide +kernel
theorem dX10_best_4 : decode cX10_best 4 = .ok (.ifCond .eq 32, 3) := by decide +kernel
theorem dX10_best_7 : decode cX10_best 7 = .ok (.aload_n 0, 1) := by decide +kernel
theorem dX10_best_8 : decode cX10_best 8 = .ok (.iload_n 2, 1) := by decide +kernel
theorem dX10_best_9 : decode cX10_best 9 = .ok (.invokevirtual 82, 3) := by decide +kernel
theorem dX10_best_12 : decode cX10_best 12 = .ok (.ifCond .eq 24, 3) := by decide +kernel
theorem dX10_best_15 : decode cX10_best 15 = .ok (.iload_n 3, 1) := by decide +kernel
theorem dX10_best_16 : decode cX10_best 16 = .ok (.iconst 0, 1) := by decide +kernel
theorem dX10_best_17 : decode cX10_best 17 = .ok (.iconst 3, 1) := by decide +kernel
theorem dX10_best_18 : decode cX10_best 18 = .ok (.invokestatic 78, 3) := by decide +kernel
theorem dX10_best_21 : decode cX10_best 21 = .ok (.ifCond .eq 15, 3) := by decide +kernel
theorem dX10_best_24 : decode cX10_best 24 = .ok (.iload 4, 2) := by decide +kernel
theorem dX10_best_26 : decode cX10_best 26 = .ok (.iconst (-1), 1) := by decide +kernel
theorem dX10_best_27 : decode cX10_best 27 = .ok (.iload_n 3, 1) := by decide +kernel
theorem dX10_best_28 : decode cX10_best 28 = .ok (.iconst 1, 1) := by decide +kernel
theorem dX10_best_29 : decode cX10_best 29 = .ok (.isub, 1) := by decide +kernel
theorem dX10_best_30 : decode cX10_best 30 = .ok (.invokestatic 78, 3) := by decide +kernel
theorem dX10_best_33 : decode cX10_best 33 = .ok (.ifCond .ne 10, 3) := by decide +kernel
theorem dX10_best_36 : decode cX10_best 36 = .ok (.aload_n 0, 1) := by decide +kernel
theorem dX10_best_37 : decode cX10_best 37 = .ok (.bipush (-2), 2) := by decide +kernel
theorem dX10_best_39 : decode cX10_best 39 = .ok (.invokevirtual 86, 3) := by decide +kernel
theorem dX10_best_42 : decode cX10_best 42 = .ok (.ireturn, 1) := by decide +kernel
theorem dX10_best_43 : decode cX10_best 43 = .ok (.aload_n 0, 1) := by decide +kernel
theorem dX10_best_44 : decode cX10_best 44 = .ok (.getfield 13, 3) := by decide +kernel
theorem dX10_best_47 : decode cX10_best 47 = .ok (.iconst 0, 1) := by decide +kernel
theorem dX10_best_48 : decode cX10_best 48 = .ok (.iaload, 1) := by decide +kernel
theorem dX10_best_49 : decode cX10_best 49 = .ok (.ifCond .eq 11, 3) := by decide +kernel
theorem dX10_best_52 : decode cX10_best 52 = .ok (.aload_n 0, 1) := by decide +kernel
theorem dX10_best_53 : decode cX10_best 53 = .ok (.iload_n 2, 1) := by decide +kernel
theorem dX10_best_54 : decode cX10_best 54 = .ok (.invokevirtual 123, 3) := by decide +kernel
theorem dX10_best_57 : decode cX10_best 57 = .ok (.ifCond .ne 10, 3) := by decide +kernel
theorem dX10_best_60 : decode cX10_best 60 = .ok (.aload_n 0, 1) := by decide +kernel
theorem dX10_best_61 : decode cX10_best 61 = .ok (.bipush (-3), 2) := by decide +kernel
theorem dX10_best_63 : decode cX10_best 63 = .ok (.invokevirtual 136, 3) := by decide +kernel
theorem dX10_best_66 : decode cX10_best 66 = .ok (.ireturn, 1) := by decide +kernel
theorem dX10_best_67 : decode cX10_best 67 = .ok (.aload_n 0, 1) := by decide +kernel
theorem dX10_best_68 : decode cX10_best 68 = .ok (.iload_n 1, 1) := by decide +kernel
theorem dX10_best_69 : decode cX10_best 69 = .ok (.iload_n 2, 1) := by decide +kernel
theorem dX10_best_70 : decode cX10_best 70 = .ok (.iload_n 3, 1) := by decide +kernel
theorem dX10_best_71 : decode cX10_best 71 = .ok (.invokevirtual 162, 3) := by decide +kernel
theorem dX10_best_74 : decode cX10_best 74 = .ok (.istore 5, 2) := by decide +kernel
theorem dX10_best_76 : decode cX10_best 76 = .ok (.iload 4, 2) := by decide +kernel
theorem dX10_best_78 : decode cX10_best 78 = .ok (.ifCond .ge 6, 3) := by decide +kernel
theorem dX10_best_81 : decode cX10_best 81 = .ok (.iload 5, 2) := by decide +kernel
theorem dX10_best_83 : decode cX10_best 83 = .ok (.ireturn, 1) := by decide +kernel
theorem dX10_best_84 : decode cX10_best 84 = .ok (.aload_n 0, 1) := by decide +kernel
theorem dX10_best_85 : decode cX10_best 85 = .ok (.iload_n 1, 1) := by decide +kernel
theorem dX10_best_86 : decode cX10_best 86 = .ok (.iload_n 3, 1) := by decide +kernel
theorem dX10_best_87 : decode cX10_best 87 = .ok (.aload_n 0, 1) := by decide +kernel
theorem dX10_best_88 : decode cX10_best 88 = .ok (.getfield 150, 3) := by decide +kernel
theorem dX10_best_91 : decode cX10_best 91 = .ok (.invokevirtual 156, 3) := by decide +kernel
theorem dX10_best_94 : decode cX10_best 94 = .ok (.ifCond .eq 13, 3) := by decide +kernel
theorem dX10_best_97 : decode cX10_best 97 = .ok (.aload_n 0, 1) := by decide +kernel
theorem dX10_best_98 : decode cX10_best 98 = .ok (.getfield 66, 3) := by decide +kernel
theorem dX10_best_101 : decode cX10_best 101 = .ok (.iload 4, 2) := by decide +kernel
theorem dX10_best_103 : decode cX10_best 103 = .ok (.iaload, 1) := by decide +kernel
theorem dX10_best_104 : decode cX10_best 104 = .ok (.goto 5, 3) := by decide +kernel
theorem dX10_best_107 : decode cX10_best 107 = .ok (.bipush (-2), 2) := by decide +kernel
theorem dX10_best_109 : decode cX10_best 109 = .ok (.ireturn, 1) := by decide +kernel
theorem dX10_third_0 : decode cX10_third 0 = .ok (.iload_n 1, 1) := by decide +kernel
theorem dX10_third_1 : decode cX10_third 1 = .ok (.invokestatic 159, 3) := by decide +kernel
theorem dX10_third_4 : decode cX10_third 4 = .ok (.ifCond .eq 11, 3) := by decide +kernel
theorem dX10_third_7 : decode cX10_third 7 = .ok (.aload_n 0, 1) := by decide +kernel
theorem dX10_third_8 : decode cX10_third 8 = .ok (.iload_n 2, 1) := by decide +kernel
theorem dX10_third_9 : decode cX10_third 9 = .ok (.invokevirtual 82, 3) := by decide +kernel
theorem dX10_third_12 : decode cX10_third 12 = .ok (.ifCond .ne 10, 3) := by decide +kernel
theorem dX10_third_15 : decode cX10_third 15 = .ok (.aload_n 0, 1) := by decide +kernel
theorem dX10_third_16 : decode cX10_third 16 = .ok (.bipush (-2), 2) := by decide +kernel
theorem dX10_third_18 : decode cX10_third 18 = .ok (.invokevirtual 86, 3) := by decide +kernel
theorem dX10_third_21 : decode cX10_third 21 = .ok (.ireturn, 1) := by decide +kernel
theorem dX10_third_22 : decode cX10_third 22 = .ok (.aload_n 0, 1) := by decide +kernel
theorem dX10_third_23 : decode cX10_third 23 = .ok (.getfield 13, 3) := by decide +kernel
theorem dX10_third_26 : decode cX10_third 26 = .ok (.iconst 0, 1) := by decide +kernel
theorem dX10_third_27 : decode cX10_third 27 = .ok (.iaload, 1) := by decide +kernel
theorem dX10_third_28 : decode cX10_third 28 = .ok (.ifCond .eq 11, 3) := by decide +kernel
theorem dX10_third_31 : decode cX10_third 31 = .ok (.aload_n 0, 1) := by decide +kernel
theorem dX10_third_32 : decode cX10_third 32 = .ok (.iload_n 2, 1) := by decide +kernel
theorem dX10_third_33 : decode cX10_third 33 = .ok (.invokevirtual 123, 3) := by decide +kernel
theorem dX10_third_36 : decode cX10_third 36 = .ok (.ifCond .ne 10, 3) := by decide +kernel
theorem dX10_third_39 : decode cX10_third 39 = .ok (.aload_n 0, 1) := by decide +kernel
theorem dX10_third_40 : decode cX10_third 40 = .ok (.bipush (-3), 2) := by decide +kernel
theorem dX10_third_42 : decode cX10_third 42 = .ok (.invokevirtual 136, 3) := by decide +kernel
theorem dX10_third_45 : decode cX10_third 45 = .ok (.ireturn, 1) := by decide +kernel
theorem dX10_third_46 : decode cX10_third 46 = .ok (.aload_n 0, 1) := by decide +kernel
theorem dX10_third_47 : decode cX10_third 47 = .ok (.iload_n 1, 1) := by decide +kernel
theorem dX10_third_48 : decode cX10_third 48 = .ok (.iload_n 2, 1) := by decide +kernel
theorem dX10_third_49 : decode cX10_third 49 = .ok (.iconst 1, 1) := by decide +kernel
theorem dX10_third_50 : decode cX10_third 50 = .ok (.invokevirtual 162, 3) := by decide +kernel
theorem dX10_third_53 : decode cX10_third 53 = .ok (.aload_n 0, 1) := by decide +kernel
theorem dX10_third_54 : decode cX10_third 54 = .ok (.iload_n 1, 1) := by decide +kernel
theorem dX10_third_55 : decode cX10_third 55 = .ok (.iload_n 2, 1) := by decide +kernel
theorem dX10_third_56 : decode cX10_third 56 = .ok (.iconst 0, 1) := by decide +kernel
theorem dX10_third_57 : decode cX10_third 57 = .ok (.invokevirtual 162, 3) := by decide +kernel
theorem dX10_third_60 : decode cX10_third 60 = .ok (.if_icmp .ge 7, 3) := by decide +kernel
theorem dX10_third_63 : decode cX10_third 63 = .ok (.iconst 1, 1) := by decide +kernel
theorem dX10_third_64 : decode cX10_third 64 = .ok (.goto 4, 3) := by decide +kernel
theorem dX10_third_67 : decode cX10_third 67 = .ok (.iconst 0, 1) := by decide +kernel
theorem dX10_third_68 : decode cX10_third 68 = .ok (.ireturn, 1) := by decide +kernel
theorem dX10_round_0 : decode cX10_round 0 = .ok (.iload_n 1, 1) := by decide +kernel
theorem dX10_round_1 : decode cX10_round 1 = .ok (.invokestatic 159, 3) := by decide +kernel
theorem dX10_round_4 : decode cX10_round 4 = .ok (.ifCond .eq 29, 3) := by decide +kernel
theorem dX10_round_7 : decode cX10_round 7 = .ok (.aload_n 0, 1) := by decide +kernel
theorem dX10_round_8 : decode cX10_round 8 = .ok (.iload_n 2, 1) := by decide +kernel
theorem dX10_round_9 : decode cX10_round 9 = .ok (.invokevirtual 82, 3) := by decide +kernel
theorem dX10_round_12 : decode cX10_round 12 = .ok (.ifCond .eq 21, 3) := by decide +kernel
theorem dX10_round_15 : decode cX10_round 15 = .ok (.aload_n 0, 1) := by decide +kernel
theorem dX10_round_16 : decode cX10_round 16 = .ok (.iload_n 3, 1) := by decide +kernel
theorem dX10_round_17 : decode cX10_round 17 = .ok (.invokevirtual 82, 3) := by decide +kernel
theorem dX10_round_20 : decode cX10_round 20 = .ok (.ifCond .eq 13, 3) := by decide +kernel
theorem dX10_round_23 : decode cX10_round 23 = .ok (.iload 4, 2) := by decide +kernel
theorem dX10_round_25 : decode cX10_round 25 = .ok (.iconst 0, 1) := by decide +kernel
theorem dX10_round_26 : decode cX10_round 26 = .ok (.iconst 1, 1) := by decide +kernel
theorem dX10_round_27 : decode cX10_round 27 = .ok (.invokestatic 78, 3) := by decide +kernel
theorem dX10_round_30 : decode cX10_round 30 = .ok (.ifCond .ne 10, 3) := by decide +kernel
theorem dX10_round_33 : decode cX10_round 33 = .ok (.aload_n 0, 1) := by decide +kernel
theorem dX10_round_34 : decode cX10_round 34 = .ok (.bipush (-2), 2) := by decide +kernel
theorem dX10_round_36 : decode cX10_round 36 = .ok (.invokevirtual 86, 3) := by decide +kernel
theorem dX10_round_39 : decode cX10_round 39 = .ok (.ireturn, 1) := by decide +kernel
theorem dX10_round_40 : decode cX10_round 40 = .ok (.aload_n 0, 1) := by decide +kernel
theorem dX10_round_41 : decode cX10_round 41 = .ok (.getfield 13, 3) := by decide +kernel
theorem dX10_round_44 : decode cX10_round 44 = .ok (.iconst 0, 1) := by decide +kernel
theorem dX10_round_45 : decode cX10_round 45 = .ok (.iaload, 1) := by decide +kernel
theorem dX10_round_46 : decode cX10_round 46 = .ok (.ifCond .eq 19, 3) := by decide +kernel
theorem dX10_round_49 : decode cX10_round 49 = .ok (.aload_n 0, 1) := by decide +kernel
theorem dX10_round_50 : decode cX10_round 50 = .ok (.iload_n 2, 1) := by decide +kernel
theorem dX10_round_51 : decode cX10_round 51 = .ok (.invokevirtual 123, 3) := by decide +kernel
theorem dX10_round_54 : decode cX10_round 54 = .ok (.ifCond .eq 11, 3) := by decide +kernel
theorem dX10_round_57 : decode cX10_round 57 = .ok (.aload_n 0, 1) := by decide +kernel
theorem dX10_round_58 : decode cX10_round 58 = .ok (.iload_n 3, 1) := by decide +kernel
theorem dX10_round_59 : decode cX10_round 59 = .ok (.invokevirtual 123, 3) := by decide +kernel
theorem dX10_round_62 : decode cX10_round 62 = .ok (.ifCond .ne 10, 3) := by decide +kernel
theorem dX10_round_65 : decode cX10_round 65 = .ok (.aload_n 0, 1) := by decide +kernel
theorem dX10_round_66 : decode cX10_round 66 = .ok (.bipush (-3), 2) := by decide +kernel
theorem dX10_round_68 : decode cX10_round 68 = .ok (.invokevirtual 136, 3) := by decide +kernel
theorem dX10_round_71 : decode cX10_round 71 = .ok (.ireturn, 1) := by decide +kernel
theorem dX10_round_72 : decode cX10_round 72 = .ok (.iconst 0, 1) := by decide +kernel
theorem dX10_round_73 : decode cX10_round 73 = .ok (.istore 5, 2) := by decide +kernel
theorem dX10_round_75 : decode cX10_round 75 = .ok (.iload 5, 2) := by decide +kernel
theorem dX10_round_77 : decode cX10_round 77 = .ok (.bipush 16, 2) := by decide +kernel
theorem dX10_round_79 : decode cX10_round 79 = .ok (.if_icmp .ge 23, 3) := by decide +kernel
theorem dX10_round_82 : decode cX10_round 82 = .ok (.aload_n 0, 1) := by decide +kernel
theorem dX10_round_83 : decode cX10_round 83 = .ok (.getfield 60, 3) := by decide +kernel
theorem dX10_round_86 : decode cX10_round 86 = .ok (.iload 5, 2) := by decide +kernel
theorem dX10_round_88 : decode cX10_round 88 = .ok (.aload_n 0, 1) := by decide +kernel
theorem dX10_round_89 : decode cX10_round 89 = .ok (.getfield 34, 3) := by decide +kernel
theorem dX10_round_92 : decode cX10_round 92 = .ok (.iload 5, 2) := by decide +kernel
theorem dX10_round_94 : decode cX10_round 94 = .ok (.iaload, 1) := by decide +kernel
theorem dX10_round_95 : decode cX10_round 95 = .ok (.iastore, 1) := by decide +kernel
theorem dX10_round_96 : decode cX10_round 96 = .ok (.iinc 5 1, 3) := by decide +kernel
theorem dX10_round_99 : decode cX10_round 99 = .ok (.goto (-24), 3) := by decide +kernel
theorem dX10_round_102 : decode cX10_round 102 = .ok (.iconst 1, 1) := by decide +kernel
theorem dX10_round_103 : decode cX10_round 103 = .ok (.istore 5, 2) := by decide +kernel
theorem dX10_round_105 : decode cX10_round 105 = .ok (.iconst (-1), 1) := by decide +kernel
theorem dX10_round_106 : decode cX10_round 106 = .ok (.istore 6, 2) := by decide +kernel
theorem dX10_round_108 : decode cX10_round 108 = .ok (.iload 6, 2) := by decide +kernel
theorem dX10_round_110 : decode cX10_round 110 = .ok (.ifCond .ge 100, 3) := by decide +kernel
theorem dX10_round_113 : decode cX10_round 113 = .ok (.aload_n 0, 1) := by decide +kernel
theorem dX10_round_114 : decode cX10_round 114 = .ok (.aload_n 0, 1) := by decide +kernel
theorem dX10_round_115 : decode cX10_round 115 = .ok (.getfield 60, 3) := by decide +kernel
theorem dX10_round_118 : decode cX10_round 118 = .ok (.bipush 16, 2) := by decide +kernel
theorem dX10_round_120 : decode cX10_round 120 = .ok (.iload 5, 2) := by decide +kernel
theorem dX10_round_122 : decode cX10_round 122 = .ok (.iconst 1, 1) := by decide +kernel
theorem dX10_round_123 : decode cX10_round 123 = .ok (.isub, 1) := by decide +kernel
theorem dX10_round_124 : decode cX10_round 124 = .ok (.imul, 1) := by decide +kernel
theorem dX10_round_125 : decode cX10_round 125 = .ok (.aload_n 0, 1) := by decide +kernel
theorem dX10_round_126 : decode cX10_round 126 = .ok (.getfield 60, 3) := by decide +kernel
theorem dX10_round_129 : decode cX10_round 129 = .ok (.bipush 16, 2) := by decide +kernel
theorem dX10_round_131 : decode cX10_round 131 = .ok (.iload 5, 2) := by decide +kernel
theorem dX10_round_133 : decode cX10_round 133 = .ok (.imul, 1) := by decide +kernel
theorem dX10_round_134 : decode cX10_round 134 = .ok (.iload_n 3, 1) := by decide +kernel
theorem dX10_round_135 : decode cX10_round 135 = .ok (.iload_n 1, 1) := by decide +kernel
theorem dX10_round_136 : decode cX10_round 136 = .ok (.invokevirtual 139, 3) := by decide +kernel
theorem dX10_round_139 : decode cX10_round 139 = .ok (.aload_n 0, 1) := by decide +kernel
theorem dX10_round_140 : decode cX10_round 140 = .ok (.aload_n 0, 1) := by decide +kernel
theorem dX10_round_141 : decode cX10_round 141 = .ok (.getfield 60, 3) := by decide +kernel
theorem dX10_round_144 : decode cX10_round 144 = .ok (.bipush 16, 2) := by decide +kernel
theorem dX10_round_146 : decode cX10_round 146 = .ok (.iload 5, 2) := by decide +kernel
theorem dX10_round_148 : decode cX10_round 148 = .ok (.imul, 1) := by decide +kernel
theorem dX10_round_149 : decode cX10_round 149 = .ok (.aload_n 0, 1) := by decide +kernel
theorem dX10_round_150 : decode cX10_round 150 = .ok (.getfield 60, 3) := by decide +kernel
theorem dX10_round_153 : decode cX10_round 153 = .ok (.bipush 16, 2) := by decide +kernel
theorem dX10_round_155 : decode cX10_round 155 = .ok (.iload 5, 2) := by decide +kernel
theorem dX10_round_157 : decode cX10_round 157 = .ok (.imul, 1) := by decide +kernel
theorem dX10_round_158 : decode cX10_round 158 = .ok (.iload_n 2, 1) := by decide +kernel
theorem dX10_round_159 : decode cX10_round 159 = .ok (.iload_n 1, 1) := by decide +kernel
theorem dX10_round_160 : decode cX10_round 160 = .ok (.invokevirtual 139, 3) := by decide +kernel
theorem dX10_round_163 : decode cX10_round 163 = .ok (.iconst 0, 1) := by decide +kernel
theorem dX10_round_164 : decode cX10_round 164 = .ok (.istore 7, 2) := by decide +kernel
theorem dX10_round_166 : decode cX10_round 166 = .ok (.iload 7, 2) := by decide +kernel
theorem dX10_round_168 : decode cX10_round 168 = .ok (.iload 5, 2) := by decide +kernel
theorem dX10_round_170 : decode cX10_round 170 = .ok (.if_icmp .ge 34, 3) := by decide +kernel
theorem dX10_round_173 : decode cX10_round 173 = .ok (.iload 6, 2) := by decide +kernel
theorem dX10_round_175 : decode cX10_round 175 = .ok (.ifCond .ge 19, 3) := by decide +kernel
theorem dX10_round_178 : decode cX10_round 178 = .ok (.aload_n 0, 1) := by decide +kernel
theorem dX10_round_179 : decode cX10_round 179 = .ok (.iload 7, 2) := by decide +kernel
theorem dX10_round_181 : decode cX10_round 181 = .ok (.iload 5, 2) := by decide +kernel
theorem dX10_round_183 : decode cX10_round 183 = .ok (.invokevirtual 166, 3) := by decide +kernel
theorem dX10_round_186 : decode cX10_round 186 = .ok (.ifCond .eq 8, 3) := by decide +kernel
theorem dX10_round_189 : decode cX10_round 189 = .ok (.iload 7, 2) := by decide +kernel
theorem dX10_round_191 : decode cX10_round 191 = .ok (.goto 5, 3) := by decide +kernel
theorem dX10_round_194 : decode cX10_round 194 = .ok (.iload 6, 2) := by decide +kernel
theorem dX10_round_196 : decode cX10_round 196 = .ok (.istore 6, 2) := by decide +kernel
theorem dX10_round_198 : decode cX10_round 198 = .ok (.iinc 7 1, 3) := by decide +kernel
theorem dX10_round_201 : decode cX10_round 201 = .ok (.goto (-35), 3) := by decide +kernel
theorem dX10_round_204 : decode cX10_round 204 = .ok (.iinc 5 1, 3) := by decide +kernel
theorem dX10_round_207 : decode cX10_round 207 = .ok (.goto (-99), 3) := by decide +kernel
theorem dX10_round_210 : decode cX10_round 210 = .ok (.iload 4, 2) := by decide +kernel
theorem dX10_round_212 : decode cX10_round 212 = .ok (.ifCond .ne 8, 3) := by decide +kernel
theorem dX10_round_215 : decode cX10_round 215 = .ok (.iload 6, 2) := by decide +kernel
theorem dX10_round_217 : decode cX10_round 217 = .ok (.goto 10, 3) := by decide +kernel
theorem dX10_round_220 : decode cX10_round 220 = .ok (.iload 5, 2) := by decide +kernel
theorem dX10_round_222 : decode cX10_round 222 = .ok (.iconst 1, 1) := by decide +kernel
theorem dX10_round_223 : decode cX10_round 223 = .ok (.isub, 1) := by decide +kernel
theorem dX10_round_224 : decode cX10_round 224 = .ok (.iload 6, 2) := by decide +kernel
theorem dX10_round_226 : decode cX10_round 226 = .ok (.isub, 1) := by decide +kernel
theorem dX10_round_227 : decode cX10_round 227 = .ok (.ireturn, 1) := by decide +kernel
theorem dX10_isSame_0 : decode cX10_isSame 0 = .ok (.iconst 1, 1) := by decide +kernel
theorem dX10_isSame_1 : decode cX10_isSame 1 = .ok (.istore_n 3, 1) := by decide +kernel
theorem dX10_isSame_2 : decode cX10_isSame 2 = .ok (.iconst 0, 1) := by decide +kernel
theorem dX10_isSame_3 : decode cX10_isSame 3 = .ok (.istore 4, 2) := by decide +kernel
theorem dX10_isSame_5 : decode cX10_isSame 5 = .ok (.iload 4, 2) := by decide +kernel
theorem dX10_isSame_7 : decode cX10_isSame 7 = .ok (.bipush 16, 2) := by decide +kernel
theorem dX10_isSame_9 : decode cX10_isSame 9 = .ok (.if_icmp .ge 46, 3) := by decide +kernel
theorem dX10_isSame_12 : decode cX10_isSame 12 = .ok (.iload_n 3, 1) := by decide +kernel
theorem dX10_isSame_13 : decode cX10_isSame 13 = .ok (.ifCond .eq 34, 3) := by decide +kernel
theorem dX10_isSame_16 : decode cX10_isSame 16 = .ok (.aload_n 0, 1) := by decide +kernel
theorem dX10_isSame_17 : decode cX10_isSame 17 = .ok (.getfield 60, 3) := by decide +kernel
theorem dX10_isSame_20 : decode cX10_isSame 20 = .ok (.bipush 16, 2) := by decide +kernel
theorem dX10_isSame_22 : decode cX10_isSame 22 = .ok (.iload_n 1, 1) := by decide +kernel
theorem dX10_isSame_23 : decode cX10_isSame 23 = .ok (.imul, 1) := by decide +kernel
theorem dX10_isSame_24 : decode cX10_isSame 24 = .ok (.iload 4, 2) := by decide +kernel
theorem dX10_isSame_26 : decode cX10_isSame 26 = .ok (.iadd, 1) := by decide +kernel
theorem dX10_isSame_27 : decode cX10_isSame 27 = .ok (.iaload, 1) := by decide +kernel
theorem dX10_isSame_28 : decode cX10_isSame 28 = .ok (.aload_n 0, 1) := by decide +kernel
theorem dX10_isSame_29 : decode cX10_isSame 29 = .ok (.getfield 60, 3) := by decide +kernel
theorem dX10_isSame_32 : decode cX10_isSame 32 = .ok (.bipush 16, 2) := by decide +kernel
theorem dX10_isSame_34 : decode cX10_isSame 34 = .ok (.iload_n 2, 1) := by decide +kernel
theorem dX10_isSame_35 : decode cX10_isSame 35 = .ok (.imul, 1) := by decide +kernel
theorem dX10_isSame_36 : decode cX10_isSame 36 = .ok (.iload 4, 2) := by decide +kernel
theorem dX10_isSame_38 : decode cX10_isSame 38 = .ok (.iadd, 1) := by decide +kernel
theorem dX10_isSame_39 : decode cX10_isSame 39 = .ok (.iaload, 1) := by decide +kernel
theorem dX10_isSame_40 : decode cX10_isSame 40 = .ok (.if_icmp .ne 7, 3) := by decide +kernel
theorem dX10_isSame_43 : decode cX10_isSame 43 = .ok (.iconst 1, 1) := by decide +kernel
theorem dX10_isSame_44 : decode cX10_isSame 44 = .ok (.goto 4, 3) := by decide +kernel
theorem dX10_isSame_47 : decode cX10_isSame 47 = .ok (.iconst 0, 1) := by decide +kernel
theorem dX10_isSame_48 : decode cX10_isSame 48 = .ok (.istore_n 3, 1) := by decide +kernel
theorem dX10_isSame_49 : decode cX10_isSame 49 = .ok (.iinc 4 1, 3) := by decide +kernel
theorem dX10_isSame_52 : decode cX10_isSame 52 = .ok (.goto (-47), 3) := by decide +kernel
theorem dX10_isSame_55 : decode cX10_isSame 55 = .ok (.iload_n 3, 1) := by decide +kernel
theorem dX10_isSame_56 : decode cX10_isSame 56 = .ok (.ireturn, 1) := by decide +kernel
theorem dX10_common_0 : decode cX10_common 0 = .ok (.iload_n 1, 1) := by decide +kernel
theorem dX10_common_1 : decode cX10_common 1 = .ok (.invokestatic 159, 3) := by decide +kernel
theorem dX10_common_4 : decode cX10_common 4 = .ok (.ifCond .eq 19, 3) := by decide +kernel
theorem dX10_common_7 : decode cX10_common 7 = .ok (.iload_n 2, 1) := by decide +kernel
theorem dX10_common_8 : decode cX10_common 8 = .ok (.iconst 0, 1) := by decide +kernel
theorem dX10_common_9 : decode cX10_common 9 = .ok (.aload_n 0, 1) := by decide +kernel
theorem dX10_common_10 : decode cX10_common 10 = .ok (.getfield 13, 3) := by decide +kernel
theorem dX10_common_13 : decode cX10_common 13 = .ok (.iconst 0, 1) := by decide +kernel
theorem dX10_common_14 : decode cX10_common 14 = .ok (.iaload, 1) := by decide +kernel
theorem dX10_common_15 : decode cX10_common 15 = .ok (.iconst 1, 1) := by decide +kernel
theorem dX10_common_16 : decode cX10_common 16 = .ok (.isub, 1) := by decide +kernel
theorem dX10_common_17 : decode cX10_common 17 = .ok (.invokestatic 78, 3) := by decide +kernel
theorem dX10_common_20 : decode cX10_common 20 = .ok (.ifCond .ne 10, 3) := by decide +kernel
theorem dX10_common_23 : decode cX10_common 23 = .ok (.aload_n 0, 1) := by decide +kernel
theorem dX10_common_24 : decode cX10_common 24 = .ok (.bipush (-2), 2) := by decide +kernel
theorem dX10_common_26 : decode cX10_common 26 = .ok (.invokevirtual 86, 3) := by decide +kernel
theorem dX10_common_29 : decode cX10_common 29 = .ok (.ireturn, 1) := by decide +kernel
theorem dX10_common_30 : decode cX10_common 30 = .ok (.sipush 255, 3) := by decide +kernel
theorem dX10_common_33 : decode cX10_common 33 = .ok (.istore_n 3, 1) := by decide +kernel
theorem dX10_common_34 : decode cX10_common 34 = .ok (.iconst 0, 1) := by decide +kernel
theorem dX10_common_35 : decode cX10_common 35 = .ok (.istore 4, 2) := by decide +kernel
theorem dX10_common_37 : decode cX10_common 37 = .ok (.iconst 0, 1) := by decide +kernel
theorem dX10_common_38 : decode cX10_common 38 = .ok (.istore 5, 2) := by decide +kernel
theorem dX10_common_40 : decode cX10_common 40 = .ok (.iload 5, 2) := by decide +kernel
theorem dX10_common_42 : decode cX10_common 42 = .ok (.aload_n 0, 1) := by decide +kernel
theorem dX10_common_43 : decode cX10_common 43 = .ok (.getfield 7, 3) := by decide +kernel
theorem dX10_common_46 : decode cX10_common 46 = .ok (.iconst 0, 1) := by decide +kernel
theorem dX10_common_47 : decode cX10_common 47 = .ok (.iaload, 1) := by decide +kernel
theorem dX10_common_48 : decode cX10_common 48 = .ok (.if_icmp .ge 51, 3) := by decide +kernel
theorem dX10_common_51 : decode cX10_common 51 = .ok (.aload_n 0, 1) := by decide +kernel
theorem dX10_common_52 : decode cX10_common 52 = .ok (.iload 5, 2) := by decide +kernel
theorem dX10_common_54 : decode cX10_common 54 = .ok (.invokevirtual 123, 3) := by decide +kernel
theorem dX10_common_57 : decode cX10_common 57 = .ok (.ifCond .eq 36, 3) := by decide +kernel
theorem dX10_common_60 : decode cX10_common 60 = .ok (.iload_n 3, 1) := by decide +kernel
theorem dX10_common_61 : decode cX10_common 61 = .ok (.aload_n 0, 1) := by decide +kernel
theorem dX10_common_62 : decode cX10_common 62 = .ok (.getfield 25, 3) := by decide +kernel
theorem dX10_common_65 : decode cX10_common 65 = .ok (.aload_n 0, 1) := by decide +kernel
theorem dX10_common_66 : decode cX10_common 66 = .ok (.iload_n 1, 1) := by decide +kernel
theorem dX10_common_67 : decode cX10_common 67 = .ok (.aload_n 0, 1) := by decide +kernel
theorem dX10_common_68 : decode cX10_common 68 = .ok (.getfield 34, 3) := by decide +kernel
theorem dX10_common_71 : decode cX10_common 71 = .ok (.iload_n 2, 1) := by decide +kernel
theorem dX10_common_72 : decode cX10_common 72 = .ok (.iaload, 1) := by decide +kernel
theorem dX10_common_73 : decode cX10_common 73 = .ok (.aload_n 0, 1) := by decide +kernel
theorem dX10_common_74 : decode cX10_common 74 = .ok (.getfield 34, 3) := by decide +kernel
theorem dX10_common_77 : decode cX10_common 77 = .ok (.bipush 6, 2) := by decide +kernel
theorem dX10_common_79 : decode cX10_common 79 = .ok (.iload_n 2, 1) := by decide +kernel
theorem dX10_common_80 : decode cX10_common 80 = .ok (.iadd, 1) := by decide +kernel
theorem dX10_common_81 : decode cX10_common 81 = .ok (.iaload, 1) := by decide +kernel
theorem dX10_common_82 : decode cX10_common 82 = .ok (.iload 5, 2) := by decide +kernel
theorem dX10_common_84 : decode cX10_common 84 = .ok (.invokevirtual 105, 3) := by decide +kernel
theorem dX10_common_87 : decode cX10_common 87 = .ok (.iaload, 1) := by decide +kernel
theorem dX10_common_88 : decode cX10_common 88 = .ok (.iand, 1) := by decide +kernel
theorem dX10_common_89 : decode cX10_common 89 = .ok (.istore_n 3, 1) := by decide +kernel
theorem dX10_common_90 : decode cX10_common 90 = .ok (.iinc 4 1, 3) := by decide +kernel
theorem dX10_common_93 : decode cX10_common 93 = .ok (.iinc 5 1, 3) := by decide +kernel
theorem dX10_common_96 : decode cX10_common 96 = .ok (.goto (-56), 3) := by decide +kernel
theorem dX10_common_99 : decode cX10_common 99 = .ok (.iload 4, 2) := by decide +kernel
theorem dX10_common_101 : decode cX10_common 101 = .ok (.ifCond .ne 12, 3) := by decide +kernel
theorem dX10_common_104 : decode cX10_common 104 = .ok (.aload_n 0, 1) := by decide +kernel
theorem dX10_common_105 : decode cX10_common 105 = .ok (.bipush (-3), 2) := by decide +kernel
theorem dX10_common_107 : decode cX10_common 107 = .ok (.invokevirtual 136, 3) := by decide +kernel
theorem dX10_common_110 : decode cX10_common 110 = .ok (.goto 4, 3) := by decide +kernel
theorem dX10_common_113 : decode cX10_common 113 = .ok (.iload_n 3, 1) := by decide +kernel
theorem dX10_common_114 : decode cX10_common 114 = .ok (.ireturn, 1) := by decide +kernel
theorem dX10_isBorne_0 : decode cX10_isBorne 0 = .ok (.iconst 1, 1) := by decide +kernel
theorem dX10_isBorne_1 : decode cX10_isBorne 1 = .ok (.istore 4, 2) := by decide +kernel
theorem dX10_isBorne_3 : decode cX10_isBorne 3 = .ok (.iconst 0, 1) := by decide +kernel
theorem dX10_isBorne_4 : decode cX10_isBorne 4 = .ok (.istore 5, 2) := by decide +kernel
theorem dX10_isBorne_6 : decode cX10_isBorne 6 = .ok (.iload 5, 2) := by decide +kernel
theorem dX10_isBorne_8 : decode cX10_isBorne 8 = .ok (.aload_n 0, 1) := by decide +kernel
theorem dX10_isBorne_9 : decode cX10_isBorne 9 = .ok (.getfield 7, 3) := by decide +kernel
theorem dX10_isBorne_12 : decode cX10_isBorne 12 = .ok (.iconst 0, 1) := by decide +kernel
theorem dX10_isBorne_13 : decode cX10_isBorne 13 = .ok (.iaload, 1) := by decide +kernel
theorem dX10_isBorne_14 : decode cX10_isBorne 14 = .ok (.if_icmp .ge 72, 3) := by decide +kernel
theorem dX10_isBorne_17 : decode cX10_isBorne 17 = .ok (.aload_n 0, 1) := by decide +kernel
theorem dX10_isBorne_18 : decode cX10_isBorne 18 = .ok (.iload 5, 2) := by decide +kernel
theorem dX10_isBorne_20 : decode cX10_isBorne 20 = .ok (.invokevirtual 123, 3) := by decide +kernel
theorem dX10_isBorne_23 : decode cX10_isBorne 23 = .ok (.ifCond .eq 57, 3) := by decide +kernel
theorem dX10_isBorne_26 : decode cX10_isBorne 26 = .ok (.aload_n 0, 1) := by decide +kernel
theorem dX10_isBorne_27 : decode cX10_isBorne 27 = .ok (.iload_n 1, 1) := by decide +kernel
theorem dX10_isBorne_28 : decode cX10_isBorne 28 = .ok (.iload_n 3, 1) := by decide +kernel
theorem dX10_isBorne_29 : decode cX10_isBorne 29 = .ok (.iconst (-1), 1) := by decide +kernel
theorem dX10_isBorne_30 : decode cX10_isBorne 30 = .ok (.iload 5, 2) := by decide +kernel
theorem dX10_isBorne_32 : decode cX10_isBorne 32 = .ok (.invokevirtual 105, 3) := by decide +kernel
theorem dX10_isBorne_35 : decode cX10_isBorne 35 = .ok (.istore 6, 2) := by decide +kernel
theorem dX10_isBorne_37 : decode cX10_isBorne 37 = .ok (.iload 4, 2) := by decide +kernel
theorem dX10_isBorne_39 : decode cX10_isBorne 39 = .ok (.ifCond .eq 38, 3) := by decide +kernel
theorem dX10_isBorne_42 : decode cX10_isBorne 42 = .ok (.aload_n 0, 1) := by decide +kernel
theorem dX10_isBorne_43 : decode cX10_isBorne 43 = .ok (.getfield 25, 3) := by decide +kernel
theorem dX10_isBorne_46 : decode cX10_isBorne 46 = .ok (.aload_n 0, 1) := by decide +kernel
theorem dX10_isBorne_47 : decode cX10_isBorne 47 = .ok (.iload_n 1, 1) := by decide +kernel
theorem dX10_isBorne_48 : decode cX10_isBorne 48 = .ok (.aload_n 0, 1) := by decide +kernel
theorem dX10_isBorne_49 : decode cX10_isBorne 49 = .ok (.getfield 25, 3) := by decide +kernel
theorem dX10_isBorne_52 : decode cX10_isBorne 52 = .ok (.iload 6, 2) := by decide +kernel
theorem dX10_isBorne_54 : decode cX10_isBorne 54 = .ok (.iaload, 1) := by decide +kernel
theorem dX10_isBorne_55 : decode cX10_isBorne 55 = .ok (.aload_n 0, 1) := by decide +kernel
theorem dX10_isBorne_56 : decode cX10_isBorne 56 = .ok (.getfield 25, 3) := by decide +kernel
theorem dX10_isBorne_59 : decode cX10_isBorne 59 = .ok (.iload 6, 2) := by decide +kernel
theorem dX10_isBorne_61 : decode cX10_isBorne 61 = .ok (.iconst 1, 1) := by decide +kernel
theorem dX10_isBorne_62 : decode cX10_isBorne 62 = .ok (.iadd, 1) := by decide +kernel
theorem dX10_isBorne_63 : decode cX10_isBorne 63 = .ok (.iaload, 1) := by decide +kernel
theorem dX10_isBorne_64 : decode cX10_isBorne 64 = .ok (.iload_n 2, 1) := by decide +kernel
theorem dX10_isBorne_65 : decode cX10_isBorne 65 = .ok (.invokevirtual 105, 3) := by decide +kernel
theorem dX10_isBorne_68 : decode cX10_isBorne 68 = .ok (.iaload, 1) := by decide +kernel
theorem dX10_isBorne_69 : decode cX10_isBorne 69 = .ok (.iload_n 3, 1) := by decide +kernel
theorem dX10_isBorne_70 : decode cX10_isBorne 70 = .ok (.if_icmp .ne 7, 3) := by decide +kernel
theorem dX10_isBorne_73 : decode cX10_isBorne 73 = .ok (.iconst 1, 1) := by decide +kernel
theorem dX10_isBorne_74 : decode cX10_isBorne 74 = .ok (.goto 4, 3) := by decide +kernel
theorem dX10_isBorne_77 : decode cX10_isBorne 77 = .ok (.iconst 0, 1) := by decide +kernel
theorem dX10_isBorne_78 : decode cX10_isBorne 78 = .ok (.istore 4, 2) := by decide +kernel
theorem dX10_isBorne_80 : decode cX10_isBorne 80 = .ok (.iinc 5 1, 3) := by decide +kernel
theorem dX10_isBorne_83 : decode cX10_isBorne 83 = .ok (.goto (-77), 3) := by decide +kernel
theorem dX10_isBorne_86 : decode cX10_isBorne 86 = .ok (.iload 4, 2) := by decide +kernel
theorem dX10_isBorne_88 : decode cX10_isBorne 88 = .ok (.ireturn, 1) := by decide +kernel
theorem dX10_borne_0 : decode cX10_borne 0 = .ok (.iconst 0, 1) := by decide +kernel
theorem dX10_borne_1 : decode cX10_borne 1 = .ok (.istore 4, 2) := by decide +kernel
theorem dX10_borne_3 : decode cX10_borne 3 = .ok (.iconst 1, 1) := by decide +kernel
theorem dX10_borne_4 : decode cX10_borne 4 = .ok (.istore 5, 2) := by decide +kernel
theorem dX10_borne_6 : decode cX10_borne 6 = .ok (.iload 5, 2) := by decide +kernel
theorem dX10_borne_8 : decode cX10_borne 8 = .ok (.sipush 256, 3) := by decide +kernel
theorem dX10_borne_11 : decode cX10_borne 11 = .ok (.if_icmp .ge 32, 3) := by decide +kernel
theorem dX10_borne_14 : decode cX10_borne 14 = .ok (.aload_n 0, 1) := by decide +kernel
theorem dX10_borne_15 : decode cX10_borne 15 = .ok (.iload_n 1, 1) := by decide +kernel
theorem dX10_borne_16 : decode cX10_borne 16 = .ok (.iload_n 2, 1) := by decide +kernel
theorem dX10_borne_17 : decode cX10_borne 17 = .ok (.iload 5, 2) := by decide +kernel
theorem dX10_borne_19 : decode cX10_borne 19 = .ok (.invokevirtual 169, 3) := by decide +kernel
theorem dX10_borne_22 : decode cX10_borne 22 = .ok (.ifCond .eq 15, 3) := by decide +kernel
theorem dX10_borne_25 : decode cX10_borne 25 = .ok (.iload 4, 2) := by decide +kernel
theorem dX10_borne_27 : decode cX10_borne 27 = .ok (.iload_n 3, 1) := by decide +kernel
theorem dX10_borne_28 : decode cX10_borne 28 = .ok (.if_icmp .ne 6, 3) := by decide +kernel
theorem dX10_borne_31 : decode cX10_borne 31 = .ok (.iload 5, 2) := by decide +kernel
theorem dX10_borne_33 : decode cX10_borne 33 = .ok (.ireturn, 1) := by decide +kernel
theorem dX10_borne_34 : decode cX10_borne 34 = .ok (.iinc 4 1, 3) := by decide +kernel
theorem dX10_borne_37 : decode cX10_borne 37 = .ok (.iinc 5 1, 3) := by decide +kernel
theorem dX10_borne_40 : decode cX10_borne 40 = .ok (.goto (-34), 3) := by decide +kernel
theorem dX10_borne_43 : decode cX10_borne 43 = .ok (.iload_n 3, 1) := by decide +kernel
theorem dX10_borne_44 : decode cX10_borne 44 = .ok (.ifCond .ge 8, 3) := by decide +kernel
theorem dX10_borne_47 : decode cX10_borne 47 = .ok (.iload 4, 2) := by decide +kernel
theorem dX10_borne_49 : decode cX10_borne 49 = .ok (.goto 5, 3) := by decide +kernel
theorem dX10_borne_52 : decode cX10_borne 52 = .ok (.bipush (-5), 2) := by decide +kernel
theorem dX10_borne_54 : decode cX10_borne 54 = .ok (.ireturn, 1) := by decide +kernel
theorem dX10_bears_0 : decode cX10_bears 0 = .ok (.iload_n 1, 1) := by decide +kernel
theorem dX10_bears_1 : decode cX10_bears 1 = .ok (.invokestatic 159, 3) := by decide +kernel
theorem dX10_bears_4 : decode cX10_bears 4 = .ok (.ifCond .eq 16, 3) := by decide +kernel
theorem dX10_bears_7 : decode cX10_bears 7 = .ok (.aload_n 0, 1) := by decide +kernel
theorem dX10_bears_8 : decode cX10_bears 8 = .ok (.iload_n 2, 1) := by decide +kernel
theorem dX10_bears_9 : decode cX10_bears 9 = .ok (.invokevirtual 82, 3) := by decide +kernel
theorem dX10_bears_12 : decode cX10_bears 12 = .ok (.ifCond .eq 8, 3) := by decide +kernel
theorem dX10_bears_15 : decode cX10_bears 15 = .ok (.iload_n 3, 1) := by decide +kernel
theorem dX10_bears_16 : decode cX10_bears 16 = .ok (.iconst (-1), 1) := by decide +kernel
theorem dX10_bears_17 : decode cX10_bears 17 = .ok (.if_icmp .ge 10, 3) := by decide +kernel
theorem dX10_bears_20 : decode cX10_bears 20 = .ok (.aload_n 0, 1) := by decide +kernel
theorem dX10_bears_21 : decode cX10_bears 21 = .ok (.bipush (-10), 2) := by decide +kernel
theorem dX10_bears_23 : decode cX10_bears 23 = .ok (.invokevirtual 86, 3) := by decide +kernel
theorem dX10_bears_26 : decode cX10_bears 26 = .ok (.ireturn, 1) := by decide +kernel
theorem dX10_bears_27 : decode cX10_bears 27 = .ok (.aload_n 0, 1) := by decide +kernel
theorem dX10_bears_28 : decode cX10_bears 28 = .ok (.iload_n 2, 1) := by decide +kernel
theorem dX10_bears_29 : decode cX10_bears 29 = .ok (.invokevirtual 123, 3) := by decide +kernel
theorem dX10_bears_32 : decode cX10_bears 32 = .ok (.ifCond .eq 13, 3) := by decide +kernel
theorem dX10_bears_35 : decode cX10_bears 35 = .ok (.aload_n 0, 1) := by decide +kernel
theorem dX10_bears_36 : decode cX10_bears 36 = .ok (.iload_n 1, 1) := by decide +kernel
theorem dX10_bears_37 : decode cX10_bears 37 = .ok (.iload_n 2, 1) := by decide +kernel
theorem dX10_bears_38 : decode cX10_bears 38 = .ok (.iload_n 3, 1) := by decide +kernel
theorem dX10_bears_39 : decode cX10_bears 39 = .ok (.invokevirtual 172, 3) := by decide +kernel
theorem dX10_bears_42 : decode cX10_bears 42 = .ok (.goto 9, 3) := by decide +kernel
theorem dX10_bears_45 : decode cX10_bears 45 = .ok (.aload_n 0, 1) := by decide +kernel
theorem dX10_bears_46 : decode cX10_bears 46 = .ok (.bipush (-20), 2) := by decide +kernel
theorem dX10_bears_48 : decode cX10_bears 48 = .ok (.invokevirtual 136, 3) := by decide +kernel
theorem dX10_bears_51 : decode cX10_bears 51 = .ok (.ireturn, 1) := by decide +kernel
theorem dX10_middle_0 : decode cX10_middle 0 = .ok (.sipush 255, 3) := by decide +kernel
theorem dX10_middle_3 : decode cX10_middle 3 = .ok (.istore_n 1, 1) := by decide +kernel
theorem dX10_middle_4 : decode cX10_middle 4 = .ok (.iconst 0, 1) := by decide +kernel
theorem dX10_middle_5 : decode cX10_middle 5 = .ok (.istore_n 2, 1) := by decide +kernel
theorem dX10_middle_6 : decode cX10_middle 6 = .ok (.iload_n 2, 1) := by decide +kernel
theorem dX10_middle_7 : decode cX10_middle 7 = .ok (.sipush 256, 3) := by decide +kernel
theorem dX10_middle_10 : decode cX10_middle 10 = .ok (.if_icmp .ge 60, 3) := by decide +kernel
theorem dX10_middle_13 : decode cX10_middle 13 = .ok (.iload_n 2, 1) := by decide +kernel
theorem dX10_middle_14 : decode cX10_middle 14 = .ok (.invokestatic 94, 3) := by decide +kernel
theorem dX10_middle_17 : decode cX10_middle 17 = .ok (.iload_n 1, 1) := by decide +kernel
theorem dX10_middle_18 : decode cX10_middle 18 = .ok (.invokestatic 94, 3) := by decide +kernel
theorem dX10_middle_21 : decode cX10_middle 21 = .ok (.if_icmp .lt 19, 3) := by decide +kernel
theorem dX10_middle_24 : decode cX10_middle 24 = .ok (.iload_n 2, 1) := by decide +kernel
theorem dX10_middle_25 : decode cX10_middle 25 = .ok (.invokestatic 94, 3) := by decide +kernel
theorem dX10_middle_28 : decode cX10_middle 28 = .ok (.iload_n 1, 1) := by decide +kernel
theorem dX10_middle_29 : decode cX10_middle 29 = .ok (.invokestatic 94, 3) := by decide +kernel
theorem dX10_middle_32 : decode cX10_middle 32 = .ok (.if_icmp .ne 12, 3) := by decide +kernel
theorem dX10_middle_35 : decode cX10_middle 35 = .ok (.iload_n 2, 1) := by decide +kernel
theorem dX10_middle_36 : decode cX10_middle 36 = .ok (.iload_n 1, 1) := by decide +kernel
theorem dX10_middle_37 : decode cX10_middle 37 = .ok (.if_icmp .ge 7, 3) := by decide +kernel
theorem dX10_middle_40 : decode cX10_middle 40 = .ok (.iconst 1, 1) := by decide +kernel
theorem dX10_middle_41 : decode cX10_middle 41 = .ok (.goto 4, 3) := by decide +kernel
theorem dX10_middle_44 : decode cX10_middle 44 = .ok (.iconst 0, 1) := by decide +kernel
theorem dX10_middle_45 : decode cX10_middle 45 = .ok (.istore_n 3, 1) := by decide +kernel
theorem dX10_middle_46 : decode cX10_middle 46 = .ok (.iload_n 3, 1) := by decide +kernel
theorem dX10_middle_47 : decode cX10_middle 47 = .ok (.ifCond .eq 15, 3) := by decide +kernel
theorem dX10_middle_50 : decode cX10_middle 50 = .ok (.aload_n 0, 1) := by decide +kernel
theorem dX10_middle_51 : decode cX10_middle 51 = .ok (.iload_n 2, 1) := by decide +kernel
theorem dX10_middle_52 : decode cX10_middle 52 = .ok (.invokevirtual 175, 3) := by decide +kernel
theorem dX10_middle_55 : decode cX10_middle 55 = .ok (.ifCond .eq 7, 3) := by decide +kernel
theorem dX10_middle_58 : decode cX10_middle 58 = .ok (.iload_n 2, 1) := by decide +kernel
theorem dX10_middle_59 : decode cX10_middle 59 = .ok (.goto 4, 3) := by decide +kernel
theorem dX10_middle_62 : decode cX10_middle 62 = .ok (.iload_n 1, 1) := by decide +kernel
theorem dX10_middle_63 : decode cX10_middle 63 = .ok (.istore_n 1, 1) := by decide +kernel
theorem dX10_middle_64 : decode cX10_middle 64 = .ok (.iinc 2 1, 3) := by decide +kernel
theorem dX10_middle_67 : decode cX10_middle 67 = .ok (.goto (-61), 3) := by decide +kernel
theorem dX10_middle_70 : decode cX10_middle 70 = .ok (.iload_n 1, 1) := by decide +kernel
theorem dX10_middle_71 : decode cX10_middle 71 = .ok (.ireturn, 1) := by decide +kernel
theorem dX10_tells_0 : decode cX10_tells 0 = .ok (.iconst 1, 1) := by decide +kernel
theorem dX10_tells_1 : decode cX10_tells 1 = .ok (.istore_n 2, 1) := by decide +kernel
theorem dX10_tells_2 : decode cX10_tells 2 = .ok (.iconst 0, 1) := by decide +kernel
theorem dX10_tells_3 : decode cX10_tells 3 = .ok (.istore_n 3, 1) := by decide +kernel
theorem dX10_tells_4 : decode cX10_tells 4 = .ok (.iload_n 3, 1) := by decide +kernel
theorem dX10_tells_5 : decode cX10_tells 5 = .ok (.bipush 48, 2) := by decide +kernel
theorem dX10_tells_7 : decode cX10_tells 7 = .ok (.if_icmp .ge 114, 3) := by decide +kernel
theorem dX10_tells_10 : decode cX10_tells 10 = .ok (.iconst 0, 1) := by decide +kernel
theorem dX10_tells_11 : decode cX10_tells 11 = .ok (.istore 4, 2) := by decide +kernel
theorem dX10_tells_13 : decode cX10_tells 13 = .ok (.iload 4, 2) := by decide +kernel
theorem dX10_tells_15 : decode cX10_tells 15 = .ok (.iload_n 3, 1) := by decide +kernel
theorem dX10_tells_16 : decode cX10_tells 16 = .ok (.if_icmp .ge 99, 3) := by decide +kernel
theorem dX10_tells_19 : decode cX10_tells 19 = .ok (.aload_n 0, 1) := by decide +kernel
theorem dX10_tells_20 : decode cX10_tells 20 = .ok (.iload_n 3, 1) := by decide +kernel
theorem dX10_tells_21 : decode cX10_tells 21 = .ok (.bipush 8, 2) := by decide +kernel
theorem dX10_tells_23 : decode cX10_tells 23 = .ok (.idiv, 1) := by decide +kernel
theorem dX10_tells_24 : decode cX10_tells 24 = .ok (.iload_n 3, 1) := by decide +kernel
theorem dX10_tells_25 : decode cX10_tells 25 = .ok (.bipush 8, 2) := by decide +kernel
theorem dX10_tells_27 : decode cX10_tells 27 = .ok (.irem, 1) := by decide +kernel
theorem dX10_tells_28 : decode cX10_tells 28 = .ok (.invokevirtual 97, 3) := by decide +kernel
theorem dX10_tells_31 : decode cX10_tells 31 = .ok (.ifCond .eq 24, 3) := by decide +kernel
theorem dX10_tells_34 : decode cX10_tells 34 = .ok (.aload_n 0, 1) := by decide +kernel
theorem dX10_tells_35 : decode cX10_tells 35 = .ok (.iload 4, 2) := by decide +kernel
theorem dX10_tells_37 : decode cX10_tells 37 = .ok (.bipush 8, 2) := by decide +kernel
theorem dX10_tells_39 : decode cX10_tells 39 = .ok (.idiv, 1) := by decide +kernel
theorem dX10_tells_40 : decode cX10_tells 40 = .ok (.iload 4, 2) := by decide +kernel
theorem dX10_tells_42 : decode cX10_tells 42 = .ok (.bipush 8, 2) := by decide +kernel
theorem dX10_tells_44 : decode cX10_tells 44 = .ok (.irem, 1) := by decide +kernel
theorem dX10_tells_45 : decode cX10_tells 45 = .ok (.invokevirtual 97, 3) := by decide +kernel
theorem dX10_tells_48 : decode cX10_tells 48 = .ok (.ifCond .eq 7, 3) := by decide +kernel
theorem dX10_tells_51 : decode cX10_tells 51 = .ok (.iconst 1, 1) := by decide +kernel
theorem dX10_tells_52 : decode cX10_tells 52 = .ok (.goto 4, 3) := by decide +kernel
theorem dX10_tells_55 : decode cX10_tells 55 = .ok (.iconst 0, 1) := by decide +kernel
theorem dX10_tells_56 : decode cX10_tells 56 = .ok (.istore 5, 2) := by decide +kernel
theorem dX10_tells_58 : decode cX10_tells 58 = .ok (.iload 5, 2) := by decide +kernel
theorem dX10_tells_60 : decode cX10_tells 60 = .ok (.ifCond .eq 24, 3) := by decide +kernel
theorem dX10_tells_63 : decode cX10_tells 63 = .ok (.aload_n 0, 1) := by decide +kernel
theorem dX10_tells_64 : decode cX10_tells 64 = .ok (.getfield 25, 3) := by decide +kernel
theorem dX10_tells_67 : decode cX10_tells 67 = .ok (.iconst 3, 1) := by decide +kernel
theorem dX10_tells_68 : decode cX10_tells 68 = .ok (.iload_n 3, 1) := by decide +kernel
theorem dX10_tells_69 : decode cX10_tells 69 = .ok (.imul, 1) := by decide +kernel
theorem dX10_tells_70 : decode cX10_tells 70 = .ok (.iaload, 1) := by decide +kernel
theorem dX10_tells_71 : decode cX10_tells 71 = .ok (.aload_n 0, 1) := by decide +kernel
theorem dX10_tells_72 : decode cX10_tells 72 = .ok (.getfield 25, 3) := by decide +kernel
theorem dX10_tells_75 : decode cX10_tells 75 = .ok (.iconst 3, 1) := by decide +kernel
theorem dX10_tells_76 : decode cX10_tells 76 = .ok (.iload 4, 2) := by decide +kernel
theorem dX10_tells_78 : decode cX10_tells 78 = .ok (.imul, 1) := by decide +kernel
theorem dX10_tells_79 : decode cX10_tells 79 = .ok (.iaload, 1) := by decide +kernel
theorem dX10_tells_80 : decode cX10_tells 80 = .ok (.ixor, 1) := by decide +kernel
theorem dX10_tells_81 : decode cX10_tells 81 = .ok (.goto 4, 3) := by decide +kernel
theorem dX10_tells_84 : decode cX10_tells 84 = .ok (.iconst 0, 1) := by decide +kernel
theorem dX10_tells_85 : decode cX10_tells 85 = .ok (.istore 6, 2) := by decide +kernel
theorem dX10_tells_87 : decode cX10_tells 87 = .ok (.iload_n 2, 1) := by decide +kernel
theorem dX10_tells_88 : decode cX10_tells 88 = .ok (.ifCond .eq 19, 3) := by decide +kernel
theorem dX10_tells_91 : decode cX10_tells 91 = .ok (.iload 6, 2) := by decide +kernel
theorem dX10_tells_93 : decode cX10_tells 93 = .ok (.ifCond .eq 10, 3) := by decide +kernel
theorem dX10_tells_96 : decode cX10_tells 96 = .ok (.iload 6, 2) := by decide +kernel
theorem dX10_tells_98 : decode cX10_tells 98 = .ok (.iload_n 1, 1) := by decide +kernel
theorem dX10_tells_99 : decode cX10_tells 99 = .ok (.iand, 1) := by decide +kernel
theorem dX10_tells_100 : decode cX10_tells 100 = .ok (.ifCond .eq 7, 3) := by decide +kernel
theorem dX10_tells_103 : decode cX10_tells 103 = .ok (.iconst 1, 1) := by decide +kernel
theorem dX10_tells_104 : decode cX10_tells 104 = .ok (.goto 4, 3) := by decide +kernel
theorem dX10_tells_107 : decode cX10_tells 107 = .ok (.iconst 0, 1) := by decide +kernel
theorem dX10_tells_108 : decode cX10_tells 108 = .ok (.istore_n 2, 1) := by decide +kernel
theorem dX10_tells_109 : decode cX10_tells 109 = .ok (.iinc 4 1, 3) := by decide +kernel
theorem dX10_tells_112 : decode cX10_tells 112 = .ok (.goto (-99), 3) := by decide +kernel
theorem dX10_tells_115 : decode cX10_tells 115 = .ok (.iinc 3 1, 3) := by decide +kernel
theorem dX10_tells_118 : decode cX10_tells 118 = .ok (.goto (-114), 3) := by decide +kernel
theorem dX10_tells_121 : decode cX10_tells 121 = .ok (.iload_n 2, 1) := by decide +kernel
theorem dX10_tells_122 : decode cX10_tells 122 = .ok (.ireturn, 1) := by decide +kernel
theorem dX10_end_0 : decode cX10_end 0 = .ok (.iload_n 1, 1) := by decide +kernel
theorem dX10_end_1 : decode cX10_end 1 = .ok (.iconst 0, 1) := by decide +kernel
theorem dX10_end_2 : decode cX10_end 2 = .ok (.iconst 5, 1) := by decide +kernel
theorem dX10_end_3 : decode cX10_end 3 = .ok (.invokestatic 78, 3) := by decide +kernel
theorem dX10_end_6 : decode cX10_end 6 = .ok (.ifCond .eq 14, 3) := by decide +kernel
theorem dX10_end_9 : decode cX10_end 9 = .ok (.iload_n 2, 1) := by decide +kernel
theorem dX10_end_10 : decode cX10_end 10 = .ok (.iconst 0, 1) := by decide +kernel
theorem dX10_end_11 : decode cX10_end 11 = .ok (.sipush 255, 3) := by decide +kernel
theorem dX10_end_14 : decode cX10_end 14 = .ok (.invokestatic 78, 3) := by decide +kernel
theorem dX10_end_17 : decode cX10_end 17 = .ok (.ifCond .ne 10, 3) := by decide +kernel
theorem dX10_end_20 : decode cX10_end 20 = .ok (.aload_n 0, 1) := by decide +kernel
theorem dX10_end_21 : decode cX10_end 21 = .ok (.bipush (-2), 2) := by decide +kernel
theorem dX10_end_23 : decode cX10_end 23 = .ok (.invokevirtual 86, 3) := by decide +kernel
theorem dX10_end_26 : decode cX10_end 26 = .ok (.ireturn, 1) := by decide +kernel
theorem dX10_end_27 : decode cX10_end 27 = .ok (.aload_n 0, 1) := by decide +kernel
theorem dX10_end_28 : decode cX10_end 28 = .ok (.getfield 37, 3) := by decide +kernel
theorem dX10_end_31 : decode cX10_end 31 = .ok (.iload_n 1, 1) := by decide +kernel
theorem dX10_end_32 : decode cX10_end 32 = .ok (.iaload, 1) := by decide +kernel
theorem dX10_end_33 : decode cX10_end 33 = .ok (.istore_n 3, 1) := by decide +kernel
theorem dX10_end_34 : decode cX10_end 34 = .ok (.aload_n 0, 1) := by decide +kernel
theorem dX10_end_35 : decode cX10_end 35 = .ok (.getfield 37, 3) := by decide +kernel
theorem dX10_end_38 : decode cX10_end 38 = .ok (.iload_n 1, 1) := by decide +kernel
theorem dX10_end_39 : decode cX10_end 39 = .ok (.iload_n 2, 1) := by decide +kernel
theorem dX10_end_40 : decode cX10_end 40 = .ok (.iastore, 1) := by decide +kernel
theorem dX10_end_41 : decode cX10_end 41 = .ok (.iload_n 3, 1) := by decide +kernel
theorem dX10_end_42 : decode cX10_end 42 = .ok (.ireturn, 1) := by decide +kernel
theorem dX10_endForm_0 : decode cX10_endForm 0 = .ok (.iload_n 1, 1) := by decide +kernel
theorem dX10_endForm_1 : decode cX10_endForm 1 = .ok (.iconst 0, 1) := by decide +kernel
theorem dX10_endForm_2 : decode cX10_endForm 2 = .ok (.iconst 3, 1) := by decide +kernel
theorem dX10_endForm_3 : decode cX10_endForm 3 = .ok (.invokestatic 78, 3) := by decide +kernel
theorem dX10_endForm_6 : decode cX10_endForm 6 = .ok (.ifCond .eq 13, 3) := by decide +kernel
theorem dX10_endForm_9 : decode cX10_endForm 9 = .ok (.iload_n 2, 1) := by decide +kernel
theorem dX10_endForm_10 : decode cX10_endForm 10 = .ok (.bipush (-2), 2) := by decide +kernel
theorem dX10_endForm_12 : decode cX10_endForm 12 = .ok (.iconst 1, 1) := by decide +kernel
theorem dX10_endForm_13 : decode cX10_endForm 13 = .ok (.invokestatic 78, 3) := by decide +kernel
theorem dX10_endForm_16 : decode cX10_endForm 16 = .ok (.ifCond .ne 10, 3) := by decide +kernel
theorem dX10_endForm_19 : decode cX10_endForm 19 = .ok (.aload_n 0, 1) := by decide +kernel
theorem dX10_endForm_20 : decode cX10_endForm 20 = .ok (.bipush (-10), 2) := by decide +kernel
theorem dX10_endForm_22 : decode cX10_endForm 22 = .ok (.invokevirtual 86, 3) := by decide +kernel
theorem dX10_endForm_25 : decode cX10_endForm 25 = .ok (.ireturn, 1) := by decide +kernel
theorem dX10_endForm_26 : decode cX10_endForm 26 = .ok (.aload_n 0, 1) := by decide +kernel
theorem dX10_endForm_27 : decode cX10_endForm 27 = .ok (.getfield 37, 3) := by decide +kernel
theorem dX10_endForm_30 : decode cX10_endForm 30 = .ok (.bipush 6, 2) := by decide +kernel
theorem dX10_endForm_32 : decode cX10_endForm 32 = .ok (.iload_n 1, 1) := by decide +kernel
theorem dX10_endForm_33 : decode cX10_endForm 33 = .ok (.iadd, 1) := by decide +kernel
theorem dX10_endForm_34 : decode cX10_endForm 34 = .ok (.iaload, 1) := by decide +kernel
theorem dX10_endForm_35 : decode cX10_endForm 35 = .ok (.istore_n 3, 1) := by decide +kernel
theorem dX10_endForm_36 : decode cX10_endForm 36 = .ok (.aload_n 0, 1) := by decide +kernel
theorem dX10_endForm_37 : decode cX10_endForm 37 = .ok (.getfield 37, 3) := by decide +kernel
theorem dX10_endForm_40 : decode cX10_endForm 40 = .ok (.bipush 6, 2) := by decide +kernel
theorem dX10_endForm_42 : decode cX10_endForm 42 = .ok (.iload_n 1, 1) := by decide +kernel
theorem dX10_endForm_43 : decode cX10_endForm 43 = .ok (.iadd, 1) := by decide +kernel
theorem dX10_endForm_44 : decode cX10_endForm 44 = .ok (.iload_n 2, 1) := by decide +kernel
theorem dX10_endForm_45 : decode cX10_endForm 45 = .ok (.iastore, 1) := by decide +kernel
theorem dX10_endForm_46 : decode cX10_endForm 46 = .ok (.iload_n 3, 1) := by decide +kernel
theorem dX10_endForm_47 : decode cX10_endForm 47 = .ok (.ireturn, 1) := by decide +kernel
theorem dX10_isEnd_0 : decode cX10_isEnd 0 = .ok (.iconst 1, 1) := by decide +kernel
theorem dX10_isEnd_1 : decode cX10_isEnd 1 = .ok (.istore_n 1, 1) := by decide +kernel
theorem dX10_isEnd_2 : decode cX10_isEnd 2 = .ok (.iconst 0, 1) := by decide +kernel
theorem dX10_isEnd_3 : decode cX10_isEnd 3 = .ok (.istore_n 2, 1) := by decide +kernel
theorem dX10_isEnd_4 : decode cX10_isEnd 4 = .ok (.iload_n 2, 1) := by decide +kernel
theorem dX10_isEnd_5 : decode cX10_isEnd 5 = .ok (.aload_n 0, 1) := by decide +kernel
theorem dX10_isEnd_6 : decode cX10_isEnd 6 = .ok (.getfield 13, 3) := by decide +kernel
theorem dX10_isEnd_9 : decode cX10_isEnd 9 = .ok (.iconst 0, 1) := by decide +kernel
theorem dX10_isEnd_10 : decode cX10_isEnd 10 = .ok (.iaload, 1) := by decide +kernel
theorem dX10_isEnd_11 : decode cX10_isEnd 11 = .ok (.if_icmp .ge 43, 3) := by decide +kernel
theorem dX10_isEnd_14 : decode cX10_isEnd 14 = .ok (.iload_n 1, 1) := by decide +kernel
theorem dX10_isEnd_15 : decode cX10_isEnd 15 = .ok (.ifCond .eq 31, 3) := by decide +kernel
theorem dX10_isEnd_18 : decode cX10_isEnd 18 = .ok (.aload_n 0, 1) := by decide +kernel
theorem dX10_isEnd_19 : decode cX10_isEnd 19 = .ok (.getfield 37, 3) := by decide +kernel
theorem dX10_isEnd_22 : decode cX10_isEnd 22 = .ok (.iload_n 2, 1) := by decide +kernel
theorem dX10_isEnd_23 : decode cX10_isEnd 23 = .ok (.iaload, 1) := by decide +kernel
theorem dX10_isEnd_24 : decode cX10_isEnd 24 = .ok (.ifCond .eq 18, 3) := by decide +kernel
theorem dX10_isEnd_27 : decode cX10_isEnd 27 = .ok (.aload_n 0, 1) := by decide +kernel
theorem dX10_isEnd_28 : decode cX10_isEnd 28 = .ok (.getfield 63, 3) := by decide +kernel
theorem dX10_isEnd_31 : decode cX10_isEnd 31 = .ok (.iload_n 2, 1) := by decide +kernel
theorem dX10_isEnd_32 : decode cX10_isEnd 32 = .ok (.iaload, 1) := by decide +kernel
theorem dX10_isEnd_33 : decode cX10_isEnd 33 = .ok (.aload_n 0, 1) := by decide +kernel
theorem dX10_isEnd_34 : decode cX10_isEnd 34 = .ok (.getfield 37, 3) := by decide +kernel
theorem dX10_isEnd_37 : decode cX10_isEnd 37 = .ok (.iload_n 2, 1) := by decide +kernel
theorem dX10_isEnd_38 : decode cX10_isEnd 38 = .ok (.iaload, 1) := by decide +kernel
theorem dX10_isEnd_39 : decode cX10_isEnd 39 = .ok (.if_icmp .ne 7, 3) := by decide +kernel
theorem dX10_isEnd_42 : decode cX10_isEnd 42 = .ok (.iconst 1, 1) := by decide +kernel
theorem dX10_isEnd_43 : decode cX10_isEnd 43 = .ok (.goto 4, 3) := by decide +kernel
theorem dX10_isEnd_46 : decode cX10_isEnd 46 = .ok (.iconst 0, 1) := by decide +kernel
theorem dX10_isEnd_47 : decode cX10_isEnd 47 = .ok (.istore_n 1, 1) := by decide +kernel
theorem dX10_isEnd_48 : decode cX10_isEnd 48 = .ok (.iinc 2 1, 3) := by decide +kernel
theorem dX10_isEnd_51 : decode cX10_isEnd 51 = .ok (.goto (-47), 3) := by decide +kernel
theorem dX10_isEnd_54 : decode cX10_isEnd 54 = .ok (.iconst 0, 1) := by decide +kernel
theorem dX10_isEnd_55 : decode cX10_isEnd 55 = .ok (.istore_n 2, 1) := by decide +kernel
theorem dX10_isEnd_56 : decode cX10_isEnd 56 = .ok (.iload_n 2, 1) := by decide +kernel
theorem dX10_isEnd_57 : decode cX10_isEnd 57 = .ok (.iconst 4, 1) := by decide +kernel
theorem dX10_isEnd_58 : decode cX10_isEnd 58 = .ok (.if_icmp .ge 54, 3) := by decide +kernel
theorem dX10_isEnd_61 : decode cX10_isEnd 61 = .ok (.iload_n 1, 1) := by decide +kernel
theorem dX10_isEnd_62 : decode cX10_isEnd 62 = .ok (.ifCond .eq 42, 3) := by decide +kernel
theorem dX10_isEnd_65 : decode cX10_isEnd 65 = .ok (.aload_n 0, 1) := by decide +kernel
theorem dX10_isEnd_66 : decode cX10_isEnd 66 = .ok (.getfield 37, 3) := by decide +kernel
theorem dX10_isEnd_69 : decode cX10_isEnd 69 = .ok (.bipush 6, 2) := by decide +kernel
theorem dX10_isEnd_71 : decode cX10_isEnd 71 = .ok (.iload_n 2, 1) := by decide +kernel
theorem dX10_isEnd_72 : decode cX10_isEnd 72 = .ok (.iadd, 1) := by decide +kernel
theorem dX10_isEnd_73 : decode cX10_isEnd 73 = .ok (.iaload, 1) := by decide +kernel
theorem dX10_isEnd_74 : decode cX10_isEnd 74 = .ok (.bipush (-2), 2) := by decide +kernel
theorem dX10_isEnd_76 : decode cX10_isEnd 76 = .ok (.if_icmp .eq 24, 3) := by decide +kernel
theorem dX10_isEnd_79 : decode cX10_isEnd 79 = .ok (.aload_n 0, 1) := by decide +kernel
theorem dX10_isEnd_80 : decode cX10_isEnd 80 = .ok (.getfield 63, 3) := by decide +kernel
theorem dX10_isEnd_83 : decode cX10_isEnd 83 = .ok (.bipush 12, 2) := by decide +kernel
theorem dX10_isEnd_85 : decode cX10_isEnd 85 = .ok (.iload_n 2, 1) := by decide +kernel
theorem dX10_isEnd_86 : decode cX10_isEnd 86 = .ok (.iadd, 1) := by decide +kernel
theorem dX10_isEnd_87 : decode cX10_isEnd 87 = .ok (.iaload, 1) := by decide +kernel
theorem dX10_isEnd_88 : decode cX10_isEnd 88 = .ok (.aload_n 0, 1) := by decide +kernel
theorem dX10_isEnd_89 : decode cX10_isEnd 89 = .ok (.getfield 37, 3) := by decide +kernel
theorem dX10_isEnd_92 : decode cX10_isEnd 92 = .ok (.bipush 6, 2) := by decide +kernel
theorem dX10_isEnd_94 : decode cX10_isEnd 94 = .ok (.iload_n 2, 1) := by decide +kernel
theorem dX10_isEnd_95 : decode cX10_isEnd 95 = .ok (.iadd, 1) := by decide +kernel
theorem dX10_isEnd_96 : decode cX10_isEnd 96 = .ok (.iaload, 1) := by decide +kernel
theorem dX10_isEnd_97 : decode cX10_isEnd 97 = .ok (.if_icmp .ne 7, 3) := by decide +kernel
theorem dX10_isEnd_100 : decode cX10_isEnd 100 = .ok (.iconst 1, 1) := by decide +kernel
theorem dX10_isEnd_101 : decode cX10_isEnd 101 = .ok (.goto 4, 3) := by decide +kernel
theorem dX10_isEnd_104 : decode cX10_isEnd 104 = .ok (.iconst 0, 1) := by decide +kernel
theorem dX10_isEnd_105 : decode cX10_isEnd 105 = .ok (.istore_n 1, 1) := by decide +kernel
theorem dX10_isEnd_106 : decode cX10_isEnd 106 = .ok (.iinc 2 1, 3) := by decide +kernel
theorem dX10_isEnd_109 : decode cX10_isEnd 109 = .ok (.goto (-53), 3) := by decide +kernel
theorem dX10_isEnd_112 : decode cX10_isEnd 112 = .ok (.iload_n 1, 1) := by decide +kernel
theorem dX10_isEnd_113 : decode cX10_isEnd 113 = .ok (.ireturn, 1) := by decide +kernel
theorem dX10_which_0 : decode cX10_which 0 = .ok (.iload_n 1, 1) := by decide +kernel
theorem dX10_which_1 : decode cX10_which 1 = .ok (.invokestatic 159, 3) := by decide +kernel
theorem dX10_which_4 : decode cX10_which 4 = .ok (.ifCond .eq 25, 3) := by decide +kernel
theorem dX10_which_7 : decode cX10_which 7 = .ok (.iload_n 2, 1) := by decide +kernel
theorem dX10_which_8 : decode cX10_which 8 = .ok (.iconst 1, 1) := by decide +kernel
theorem dX10_which_9 : decode cX10_which 9 = .ok (.iconst 4, 1) := by decide +kernel
theorem dX10_which_10 : decode cX10_which 10 = .ok (.invokestatic 78, 3) := by decide +kernel
theorem dX10_which_13 : decode cX10_which 13 = .ok (.ifCond .eq 16, 3) := by decide +kernel
theorem dX10_which_16 : decode cX10_which 16 = .ok (.iload_n 3, 1) := by decide +kernel
theorem dX10_which_17 : decode cX10_which 17 = .ok (.iconst (-1), 1) := by decide +kernel
theorem dX10_which_18 : decode cX10_which 18 = .ok (.if_icmp .eq 18, 3) := by decide +kernel
theorem dX10_which_21 : decode cX10_which 21 = .ok (.aload_n 0, 1) := by decide +kernel
theorem dX10_which_22 : decode cX10_which 22 = .ok (.iload_n 3, 1) := by decide +kernel
theorem dX10_which_23 : decode cX10_which 23 = .ok (.invokevirtual 82, 3) := by decide +kernel
theorem dX10_which_26 : decode cX10_which 26 = .ok (.ifCond .ne 10, 3) := by decide +kernel
theorem dX10_which_29 : decode cX10_which 29 = .ok (.aload_n 0, 1) := by decide +kernel
theorem dX10_which_30 : decode cX10_which 30 = .ok (.bipush (-2), 2) := by decide +kernel
theorem dX10_which_32 : decode cX10_which 32 = .ok (.invokevirtual 86, 3) := by decide +kernel
theorem dX10_which_35 : decode cX10_which 35 = .ok (.ireturn, 1) := by decide +kernel
theorem dX10_which_36 : decode cX10_which 36 = .ok (.aload_n 0, 1) := by decide +kernel
theorem dX10_which_37 : decode cX10_which 37 = .ok (.getfield 13, 3) := by decide +kernel
theorem dX10_which_40 : decode cX10_which 40 = .ok (.iconst 0, 1) := by decide +kernel
theorem dX10_which_41 : decode cX10_which 41 = .ok (.iaload, 1) := by decide +kernel
theorem dX10_which_42 : decode cX10_which 42 = .ok (.ifCond .eq 16, 3) := by decide +kernel
theorem dX10_which_45 : decode cX10_which 45 = .ok (.iload_n 3, 1) := by decide +kernel
theorem dX10_which_46 : decode cX10_which 46 = .ok (.iconst (-1), 1) := by decide +kernel
theorem dX10_which_47 : decode cX10_which 47 = .ok (.if_icmp .eq 18, 3) := by decide +kernel
theorem dX10_which_50 : decode cX10_which 50 = .ok (.aload_n 0, 1) := by decide +kernel
theorem dX10_which_51 : decode cX10_which 51 = .ok (.iload_n 3, 1) := by decide +kernel
theorem dX10_which_52 : decode cX10_which 52 = .ok (.invokevirtual 123, 3) := by decide +kernel
theorem dX10_which_55 : decode cX10_which 55 = .ok (.ifCond .ne 10, 3) := by decide +kernel
theorem dX10_which_58 : decode cX10_which 58 = .ok (.aload_n 0, 1) := by decide +kernel
theorem dX10_which_59 : decode cX10_which 59 = .ok (.bipush (-3), 2) := by decide +kernel
theorem dX10_which_61 : decode cX10_which 61 = .ok (.invokevirtual 136, 3) := by decide +kernel
theorem dX10_which_64 : decode cX10_which 64 = .ok (.ireturn, 1) := by decide +kernel
theorem dX10_which_65 : decode cX10_which 65 = .ok (.iconst 0, 1) := by decide +kernel
theorem dX10_which_66 : decode cX10_which 66 = .ok (.istore 4, 2) := by decide +kernel
theorem dX10_which_68 : decode cX10_which 68 = .ok (.iconst 0, 1) := by decide +kernel
theorem dX10_which_69 : decode cX10_which 69 = .ok (.istore 5, 2) := by decide +kernel
theorem dX10_which_71 : decode cX10_which 71 = .ok (.iconst 0, 1) := by decide +kernel
theorem dX10_which_72 : decode cX10_which 72 = .ok (.istore 6, 2) := by decide +kernel
theorem dX10_which_74 : decode cX10_which 74 = .ok (.iload 6, 2) := by decide +kernel
theorem dX10_which_76 : decode cX10_which 76 = .ok (.aload_n 0, 1) := by decide +kernel
theorem dX10_which_77 : decode cX10_which 77 = .ok (.iload_n 2, 1) := by decide +kernel
theorem dX10_which_78 : decode cX10_which 78 = .ok (.invokevirtual 153, 3) := by decide +kernel
theorem dX10_which_81 : decode cX10_which 81 = .ok (.if_icmp .ge 50, 3) := by decide +kernel
theorem dX10_which_84 : decode cX10_which 84 = .ok (.aload_n 0, 1) := by decide +kernel
theorem dX10_which_85 : decode cX10_which 85 = .ok (.iload_n 1, 1) := by decide +kernel
theorem dX10_which_86 : decode cX10_which 86 = .ok (.iload_n 2, 1) := by decide +kernel
theorem dX10_which_87 : decode cX10_which 87 = .ok (.iload 6, 2) := by decide +kernel
theorem dX10_which_89 : decode cX10_which 89 = .ok (.invokevirtual 156, 3) := by decide +kernel
theorem dX10_which_92 : decode cX10_which 92 = .ok (.ifCond .eq 33, 3) := by decide +kernel
theorem dX10_which_95 : decode cX10_which 95 = .ok (.aload_n 0, 1) := by decide +kernel
theorem dX10_which_96 : decode cX10_which 96 = .ok (.invokevirtual 178, 3) := by decide +kernel
theorem dX10_which_99 : decode cX10_which 99 = .ok (.ifCond .eq 26, 3) := by decide +kernel
theorem dX10_which_102 : decode cX10_which 102 = .ok (.iinc 4 1, 3) := by decide +kernel
theorem dX10_which_105 : decode cX10_which 105 = .ok (.iload 5, 2) := by decide +kernel
theorem dX10_which_107 : decode cX10_which 107 = .ok (.aload_n 0, 1) := by decide +kernel
theorem dX10_which_108 : decode cX10_which 108 = .ok (.getfield 66, 3) := by decide +kernel
theorem dX10_which_111 : decode cX10_which 111 = .ok (.iconst 0, 1) := by decide +kernel
theorem dX10_which_112 : decode cX10_which 112 = .ok (.iaload, 1) := by decide +kernel
theorem dX10_which_113 : decode cX10_which 113 = .ok (.iload_n 3, 1) := by decide +kernel
theorem dX10_which_114 : decode cX10_which 114 = .ok (.if_icmp .ne 7, 3) := by decide +kernel
theorem dX10_which_117 : decode cX10_which 117 = .ok (.iconst 1, 1) := by decide +kernel
theorem dX10_which_118 : decode cX10_which 118 = .ok (.goto 4, 3) := by decide +kernel
theorem dX10_which_121 : decode cX10_which 121 = .ok (.iconst 0, 1) := by decide +kernel
theorem dX10_which_122 : decode cX10_which 122 = .ok (.iadd, 1) := by decide +kernel
theorem dX10_which_123 : decode cX10_which 123 = .ok (.istore 5, 2) := by decide +kernel
theorem dX10_which_125 : decode cX10_which 125 = .ok (.iinc 6 1, 3) := by decide +kernel
theorem dX10_which_128 : decode cX10_which 128 = .ok (.goto (-54), 3) := by decide +kernel
theorem dX10_which_131 : decode cX10_which 131 = .ok (.iload_n 3, 1) := by decide +kernel
theorem dX10_which_132 : decode cX10_which 132 = .ok (.iconst (-1), 1) := by decide +kernel
theorem dX10_which_133 : decode cX10_which 133 = .ok (.if_icmp .ne 6, 3) := by decide +kernel
theorem dX10_which_136 : decode cX10_which 136 = .ok (.iload 4, 2) := by decide +kernel
theorem dX10_which_138 : decode cX10_which 138 = .ok (.ireturn, 1) := by decide +kernel
theorem dX10_which_139 : decode cX10_which 139 = .ok (.iload 4, 2) := by decide +kernel
theorem dX10_which_141 : decode cX10_which 141 = .ok (.ifCond .ne 10, 3) := by decide +kernel
theorem dX10_which_144 : decode cX10_which 144 = .ok (.aload_n 0, 1) := by decide +kernel
theorem dX10_which_145 : decode cX10_which 145 = .ok (.bipush (-3), 2) := by decide +kernel
theorem dX10_which_147 : decode cX10_which 147 = .ok (.invokevirtual 136, 3) := by decide +kernel
theorem dX10_which_150 : decode cX10_which 150 = .ok (.ireturn, 1) := by decide +kernel
theorem dX10_which_151 : decode cX10_which 151 = .ok (.aload_n 0, 1) := by decide +kernel
theorem dX10_which_152 : decode cX10_which 152 = .ok (.iload 5, 2) := by decide +kernel
theorem dX10_which_154 : decode cX10_which 154 = .ok (.iload 4, 2) := by decide +kernel
theorem dX10_which_156 : decode cX10_which 156 = .ok (.invokevirtual 181, 3) := by decide +kernel
theorem dX10_which_159 : decode cX10_which 159 = .ok (.iconst 1, 1) := by decide +kernel
theorem dX10_which_160 : decode cX10_which 160 = .ok (.ireturn, 1) := by decide +kernel
theorem dX10_fraction_0 : decode cX10_fraction 0 = .ok (.iload_n 1, 1) := by decide +kernel
theorem dX10_fraction_1 : decode cX10_fraction 1 = .ok (.istore_n 3, 1) := by decide +kernel
theorem dX10_fraction_2 : decode cX10_fraction 2 = .ok (.iload_n 2, 1) := by decide +kernel
theorem dX10_fraction_3 : decode cX10_fraction 3 = .ok (.istore 4, 2) := by decide +kernel
theorem dX10_fraction_5 : decode cX10_fraction 5 = .ok (.iload 4, 2) := by decide +kernel
theorem dX10_fraction_7 : decode cX10_fraction 7 = .ok (.ifCond .eq 19, 3) := by decide +kernel
theorem dX10_fraction_10 : decode cX10_fraction 10 = .ok (.iload_n 3, 1) := by decide +kernel
theorem dX10_fraction_11 : decode cX10_fraction 11 = .ok (.iload 4, 2) := by decide +kernel
theorem dX10_fraction_13 : decode cX10_fraction 13 = .ok (.irem, 1) := by decide +kernel
theorem dX10_fraction_14 : decode cX10_fraction 14 = .ok (.istore 5, 2) := by decide +kernel
theorem dX10_fraction_16 : decode cX10_fraction 16 = .ok (.iload 4, 2) := by decide +kernel
theorem dX10_fraction_18 : decode cX10_fraction 18 = .ok (.istore_n 3, 1) := by decide +kernel
theorem dX10_fraction_19 : decode cX10_fraction 19 = .ok (.iload 5, 2) := by decide +kernel
theorem dX10_fraction_21 : decode cX10_fraction 21 = .ok (.istore 4, 2) := by decide +kernel
theorem dX10_fraction_23 : decode cX10_fraction 23 = .ok (.goto (-18), 3) := by decide +kernel
theorem dX10_fraction_26 : decode cX10_fraction 26 = .ok (.aload_n 0, 1) := by decide +kernel
theorem dX10_fraction_27 : decode cX10_fraction 27 = .ok (.iload_n 1, 1) := by decide +kernel
theorem dX10_fraction_28 : decode cX10_fraction 28 = .ok (.iload_n 3, 1) := by decide +kernel
theorem dX10_fraction_29 : decode cX10_fraction 29 = .ok (.idiv, 1) := by decide +kernel
theorem dX10_fraction_30 : decode cX10_fraction 30 = .ok (.putfield 184, 3) := by decide +kernel
theorem dX10_fraction_33 : decode cX10_fraction 33 = .ok (.aload_n 0, 1) := by decide +kernel
theorem dX10_fraction_34 : decode cX10_fraction 34 = .ok (.iload_n 2, 1) := by decide +kernel
theorem dX10_fraction_35 : decode cX10_fraction 35 = .ok (.iload_n 3, 1) := by decide +kernel
theorem dX10_fraction_36 : decode cX10_fraction 36 = .ok (.idiv, 1) := by decide +kernel
theorem dX10_fraction_37 : decode cX10_fraction 37 = .ok (.putfield 44, 3) := by decide +kernel
theorem dX10_fraction_40 : decode cX10_fraction 40 = .ok (.return_, 1) := by decide +kernel
theorem dX10_isAt_0 : decode cX10_isAt 0 = .ok (.aload_n 0, 1) := by decide +kernel
theorem dX10_isAt_1 : decode cX10_isAt 1 = .ok (.getfield 31, 3) := by decide +kernel
theorem dX10_isAt_4 : decode cX10_isAt 4 = .ok (.iconst 4, 1) := by decide +kernel
theorem dX10_isAt_5 : decode cX10_isAt 5 = .ok (.iload_n 1, 1) := by decide +kernel
theorem dX10_isAt_6 : decode cX10_isAt 6 = .ok (.imul, 1) := by decide +kernel
theorem dX10_isAt_7 : decode cX10_isAt 7 = .ok (.iaload, 1) := by decide +kernel
theorem dX10_isAt_8 : decode cX10_isAt 8 = .ok (.iload_n 2, 1) := by decide +kernel
theorem dX10_isAt_9 : decode cX10_isAt 9 = .ok (.if_icmp .ne 51, 3) := by decide +kernel
theorem dX10_isAt_12 : decode cX10_isAt 12 = .ok (.aload_n 0, 1) := by decide +kernel
theorem dX10_isAt_13 : decode cX10_isAt 13 = .ok (.getfield 31, 3) := by decide +kernel
theorem dX10_isAt_16 : decode cX10_isAt 16 = .ok (.iconst 4, 1) := by decide +kernel
theorem dX10_isAt_17 : decode cX10_isAt 17 = .ok (.iload_n 1, 1) := by decide +kernel
theorem dX10_isAt_18 : decode cX10_isAt 18 = .ok (.imul, 1) := by decide +kernel
theorem dX10_isAt_19 : decode cX10_isAt 19 = .ok (.iconst 1, 1) := by decide +kernel
theorem dX10_isAt_20 : decode cX10_isAt 20 = .ok (.iadd, 1) := by decide +kernel
theorem dX10_isAt_21 : decode cX10_isAt 21 = .ok (.iaload, 1) := by decide +kernel
theorem dX10_isAt_22 : decode cX10_isAt 22 = .ok (.iload_n 3, 1) := by decide +kernel
theorem dX10_isAt_23 : decode cX10_isAt 23 = .ok (.if_icmp .ne 37, 3) := by decide +kernel
theorem dX10_isAt_26 : decode cX10_isAt 26 = .ok (.aload_n 0, 1) := by decide +kernel
theorem dX10_isAt_27 : decode cX10_isAt 27 = .ok (.getfield 31, 3) := by decide +kernel
theorem dX10_isAt_30 : decode cX10_isAt 30 = .ok (.iconst 4, 1) := by decide +kernel
theorem dX10_isAt_31 : decode cX10_isAt 31 = .ok (.iload_n 1, 1) := by decide +kernel
theorem dX10_isAt_32 : decode cX10_isAt 32 = .ok (.imul, 1) := by decide +kernel
theorem dX10_isAt_33 : decode cX10_isAt 33 = .ok (.iconst 2, 1) := by decide +kernel
theorem dX10_isAt_34 : decode cX10_isAt 34 = .ok (.iadd, 1) := by decide +kernel
theorem dX10_isAt_35 : decode cX10_isAt 35 = .ok (.iaload, 1) := by decide +kernel
theorem dX10_isAt_36 : decode cX10_isAt 36 = .ok (.iload 4, 2) := by decide +kernel
theorem dX10_isAt_38 : decode cX10_isAt 38 = .ok (.if_icmp .ne 22, 3) := by decide +kernel
theorem dX10_isAt_41 : decode cX10_isAt 41 = .ok (.aload_n 0, 1) := by decide +kernel
theorem dX10_isAt_42 : decode cX10_isAt 42 = .ok (.getfield 31, 3) := by decide +kernel
theorem dX10_isAt_45 : decode cX10_isAt 45 = .ok (.iconst 4, 1) := by decide +kernel
theorem dX10_isAt_46 : decode cX10_isAt 46 = .ok (.iload_n 1, 1) := by decide +kernel
theorem dX10_isAt_47 : decode cX10_isAt 47 = .ok (.imul, 1) := by decide +kernel
theorem dX10_isAt_48 : decode cX10_isAt 48 = .ok (.iconst 3, 1) := by decide +kernel
theorem dX10_isAt_49 : decode cX10_isAt 49 = .ok (.iadd, 1) := by decide +kernel
theorem dX10_isAt_50 : decode cX10_isAt 50 = .ok (.iaload, 1) := by decide +kernel
theorem dX10_isAt_51 : decode cX10_isAt 51 = .ok (.iload 5, 2) := by decide +kernel
theorem dX10_isAt_53 : decode cX10_isAt 53 = .ok (.if_icmp .ne 7, 3) := by decide +kernel
theorem dX10_isAt_56 : decode cX10_isAt 56 = .ok (.iconst 1, 1) := by decide +kernel
theorem dX10_isAt_57 : decode cX10_isAt 57 = .ok (.goto 4, 3) := by decide +kernel
theorem dX10_isAt_60 : decode cX10_isAt 60 = .ok (.iconst 0, 1) := by decide +kernel
theorem dX10_isAt_61 : decode cX10_isAt 61 = .ok (.ireturn, 1) := by decide +kernel
theorem dX10_pair_0 : decode cX10_pair 0 = .ok (.aload_n 0, 1) := by decide +kernel
theorem dX10_pair_1 : decode cX10_pair 1 = .ok (.iload_n 1, 1) := by decide +kernel
theorem dX10_pair_2 : decode cX10_pair 2 = .ok (.iload_n 2, 1) := by decide +kernel
theorem dX10_pair_3 : decode cX10_pair 3 = .ok (.invokevirtual 97, 3) := by decide +kernel
theorem dX10_pair_6 : decode cX10_pair 6 = .ok (.ifCond .eq 22, 3) := by decide +kernel
theorem dX10_pair_9 : decode cX10_pair 9 = .ok (.aload_n 0, 1) := by decide +kernel
theorem dX10_pair_10 : decode cX10_pair 10 = .ok (.iload_n 3, 1) := by decide +kernel
theorem dX10_pair_11 : decode cX10_pair 11 = .ok (.iload 4, 2) := by decide +kernel
theorem dX10_pair_13 : decode cX10_pair 13 = .ok (.invokevirtual 97, 3) := by decide +kernel
theorem dX10_pair_16 : decode cX10_pair 16 = .ok (.ifCond .eq 12, 3) := by decide +kernel
theorem dX10_pair_19 : decode cX10_pair 19 = .ok (.iload_n 1, 1) := by decide +kernel
theorem dX10_pair_20 : decode cX10_pair 20 = .ok (.iload_n 3, 1) := by decide +kernel
theorem dX10_pair_21 : decode cX10_pair 21 = .ok (.if_icmp .eq 7, 3) := by decide +kernel
theorem dX10_pair_24 : decode cX10_pair 24 = .ok (.iconst 1, 1) := by decide +kernel
theorem dX10_pair_25 : decode cX10_pair 25 = .ok (.goto 4, 3) := by decide +kernel
theorem dX10_pair_28 : decode cX10_pair 28 = .ok (.iconst 0, 1) := by decide +kernel
theorem dX10_pair_29 : decode cX10_pair 29 = .ok (.istore 5, 2) := by decide +kernel
theorem dX10_pair_31 : decode cX10_pair 31 = .ok (.iconst 0, 1) := by decide +kernel
theorem dX10_pair_32 : decode cX10_pair 32 = .ok (.istore 6, 2) := by decide +kernel
theorem dX10_pair_34 : decode cX10_pair 34 = .ok (.iload 6, 2) := by decide +kernel
theorem dX10_pair_36 : decode cX10_pair 36 = .ok (.aload_n 0, 1) := by decide +kernel
theorem dX10_pair_37 : decode cX10_pair 37 = .ok (.getfield 19, 3) := by decide +kernel
theorem dX10_pair_40 : decode cX10_pair 40 = .ok (.iconst 0, 1) := by decide +kernel
theorem dX10_pair_41 : decode cX10_pair 41 = .ok (.iaload, 1) := by decide +kernel
theorem dX10_pair_42 : decode cX10_pair 42 = .ok (.if_icmp .ge 49, 3) := by decide +kernel
theorem dX10_pair_45 : decode cX10_pair 45 = .ok (.iload 5, 2) := by decide +kernel
theorem dX10_pair_47 : decode cX10_pair 47 = .ok (.ifCond .eq 44, 3) := by decide +kernel
theorem dX10_pair_50 : decode cX10_pair 50 = .ok (.aload_n 0, 1) := by decide +kernel
theorem dX10_pair_51 : decode cX10_pair 51 = .ok (.iload 6, 2) := by decide +kernel
theorem dX10_pair_53 : decode cX10_pair 53 = .ok (.iload_n 1, 1) := by decide +kernel
theorem dX10_pair_54 : decode cX10_pair 54 = .ok (.iload_n 2, 1) := by decide +kernel
theorem dX10_pair_55 : decode cX10_pair 55 = .ok (.iload_n 3, 1) := by decide +kernel
theorem dX10_pair_56 : decode cX10_pair 56 = .ok (.iload 4, 2) := by decide +kernel
theorem dX10_pair_58 : decode cX10_pair 58 = .ok (.invokevirtual 187, 3) := by decide +kernel
theorem dX10_pair_61 : decode cX10_pair 61 = .ok (.ifCond .ne 21, 3) := by decide +kernel
theorem dX10_pair_64 : decode cX10_pair 64 = .ok (.aload_n 0, 1) := by decide +kernel
theorem dX10_pair_65 : decode cX10_pair 65 = .ok (.iload 6, 2) := by decide +kernel
theorem dX10_pair_67 : decode cX10_pair 67 = .ok (.iload_n 3, 1) := by decide +kernel
theorem dX10_pair_68 : decode cX10_pair 68 = .ok (.iload 4, 2) := by decide +kernel
theorem dX10_pair_70 : decode cX10_pair 70 = .ok (.iload_n 1, 1) := by decide +kernel
theorem dX10_pair_71 : decode cX10_pair 71 = .ok (.iload_n 2, 1) := by decide +kernel
theorem dX10_pair_72 : decode cX10_pair 72 = .ok (.invokevirtual 187, 3) := by decide +kernel
theorem dX10_pair_75 : decode cX10_pair 75 = .ok (.ifCond .ne 7, 3) := by decide +kernel
theorem dX10_pair_78 : decode cX10_pair 78 = .ok (.iconst 1, 1) := by decide +kernel
theorem dX10_pair_79 : decode cX10_pair 79 = .ok (.goto 4, 3) := by decide +kernel
theorem dX10_pair_82 : decode cX10_pair 82 = .ok (.iconst 0, 1) := by decide +kernel
theorem dX10_pair_83 : decode cX10_pair 83 = .ok (.istore 5, 2) := by decide +kernel
theorem dX10_pair_85 : decode cX10_pair 85 = .ok (.iinc 6 1, 3) := by decide +kernel
theorem dX10_pair_88 : decode cX10_pair 88 = .ok (.goto (-54), 3) := by decide +kernel
theorem dX10_pair_91 : decode cX10_pair 91 = .ok (.iload 5, 2) := by decide +kernel
theorem dX10_pair_93 : decode cX10_pair 93 = .ok (.ifCond .ne 10, 3) := by decide +kernel
theorem dX10_pair_96 : decode cX10_pair 96 = .ok (.aload_n 0, 1) := by decide +kernel
theorem dX10_pair_97 : decode cX10_pair 97 = .ok (.bipush (-2), 2) := by decide +kernel
theorem dX10_pair_99 : decode cX10_pair 99 = .ok (.invokevirtual 86, 3) := by decide +kernel
theorem dX10_pair_102 : decode cX10_pair 102 = .ok (.ireturn, 1) := by decide +kernel
theorem dX10_pair_103 : decode cX10_pair 103 = .ok (.aload_n 0, 1) := by decide +kernel
theorem dX10_pair_104 : decode cX10_pair 104 = .ok (.getfield 19, 3) := by decide +kernel
theorem dX10_pair_107 : decode cX10_pair 107 = .ok (.iconst 0, 1) := by decide +kernel
theorem dX10_pair_108 : decode cX10_pair 108 = .ok (.iaload, 1) := by decide +kernel
theorem dX10_pair_109 : decode cX10_pair 109 = .ok (.istore 6, 2) := by decide +kernel
theorem dX10_pair_111 : decode cX10_pair 111 = .ok (.iload 6, 2) := by decide +kernel
theorem dX10_pair_113 : decode cX10_pair 113 = .ok (.bipush 24, 2) := by decide +kernel
theorem dX10_pair_115 : decode cX10_pair 115 = .ok (.if_icmp .ne 8, 3) := by decide +kernel
theorem dX10_pair_118 : decode cX10_pair 118 = .ok (.aload_n 0, 1) := by decide +kernel
theorem dX10_pair_119 : decode cX10_pair 119 = .ok (.invokevirtual 90, 3) := by decide +kernel
theorem dX10_pair_122 : decode cX10_pair 122 = .ok (.ireturn, 1) := by decide +kernel
theorem dX10_pair_123 : decode cX10_pair 123 = .ok (.aload_n 0, 1) := by decide +kernel
theorem dX10_pair_124 : decode cX10_pair 124 = .ok (.getfield 31, 3) := by decide +kernel
theorem dX10_pair_127 : decode cX10_pair 127 = .ok (.iconst 4, 1) := by decide +kernel
theorem dX10_pair_128 : decode cX10_pair 128 = .ok (.iload 6, 2) := by decide +kernel
theorem dX10_pair_130 : decode cX10_pair 130 = .ok (.imul, 1) := by decide +kernel
theorem dX10_pair_131 : decode cX10_pair 131 = .ok (.iload_n 1, 1) := by decide +kernel
theorem dX10_pair_132 : decode cX10_pair 132 = .ok (.iastore, 1) := by decide +kernel
theorem dX10_pair_133 : decode cX10_pair 133 = .ok (.aload_n 0, 1) := by decide +kernel
theorem dX10_pair_134 : decode cX10_pair 134 = .ok (.getfield 31, 3) := by decide +kernel
theorem dX10_pair_137 : decode cX10_pair 137 = .ok (.iconst 4, 1) := by decide +kernel
theorem dX10_pair_138 : decode cX10_pair 138 = .ok (.iload 6, 2) := by decide +kernel
theorem dX10_pair_140 : decode cX10_pair 140 = .ok (.imul, 1) := by decide +kernel
theorem dX10_pair_141 : decode cX10_pair 141 = .ok (.iconst 1, 1) := by decide +kernel
theorem dX10_pair_142 : decode cX10_pair 142 = .ok (.iadd, 1) := by decide +kernel
theorem dX10_pair_143 : decode cX10_pair 143 = .ok (.iload_n 2, 1) := by decide +kernel
theorem dX10_pair_144 : decode cX10_pair 144 = .ok (.iastore, 1) := by decide +kernel
theorem dX10_pair_145 : decode cX10_pair 145 = .ok (.aload_n 0, 1) := by decide +kernel
theorem dX10_pair_146 : decode cX10_pair 146 = .ok (.getfield 31, 3) := by decide +kernel
theorem dX10_pair_149 : decode cX10_pair 149 = .ok (.iconst 4, 1) := by decide +kernel
theorem dX10_pair_150 : decode cX10_pair 150 = .ok (.iload 6, 2) := by decide +kernel
theorem dX10_pair_152 : decode cX10_pair 152 = .ok (.imul, 1) := by decide +kernel
theorem dX10_pair_153 : decode cX10_pair 153 = .ok (.iconst 2, 1) := by decide +kernel
theorem dX10_pair_154 : decode cX10_pair 154 = .ok (.iadd, 1) := by decide +kernel
theorem dX10_pair_155 : decode cX10_pair 155 = .ok (.iload_n 3, 1) := by decide +kernel
theorem dX10_pair_156 : decode cX10_pair 156 = .ok (.iastore, 1) := by decide +kernel
theorem dX10_pair_157 : decode cX10_pair 157 = .ok (.aload_n 0, 1) := by decide +kernel
theorem dX10_pair_158 : decode cX10_pair 158 = .ok (.getfield 31, 3) := by decide +kernel
theorem dX10_pair_161 : decode cX10_pair 161 = .ok (.iconst 4, 1) := by decide +kernel
theorem dX10_pair_162 : decode cX10_pair 162 = .ok (.iload 6, 2) := by decide +kernel
theorem dX10_pair_164 : decode cX10_pair 164 = .ok (.imul, 1) := by decide +kernel
theorem dX10_pair_165 : decode cX10_pair 165 = .ok (.iconst 3, 1) := by decide +kernel
theorem dX10_pair_166 : decode cX10_pair 166 = .ok (.iadd, 1) := by decide +kernel
theorem dX10_pair_167 : decode cX10_pair 167 = .ok (.iload 4, 2) := by decide +kernel
theorem dX10_pair_169 : decode cX10_pair 169 = .ok (.iastore, 1) := by decide +kernel
theorem dX10_pair_170 : decode cX10_pair 170 = .ok (.aload_n 0, 1) := by decide +kernel
theorem dX10_pair_171 : decode cX10_pair 171 = .ok (.getfield 19, 3) := by decide +kernel
theorem dX10_pair_174 : decode cX10_pair 174 = .ok (.iconst 0, 1) := by decide +kernel
theorem dX10_pair_175 : decode cX10_pair 175 = .ok (.dup2, 1) := by decide +kernel
theorem dX10_pair_176 : decode cX10_pair 176 = .ok (.iaload, 1) := by decide +kernel
theorem dX10_pair_177 : decode cX10_pair 177 = .ok (.iconst 1, 1) := by decide +kernel
theorem dX10_pair_178 : decode cX10_pair 178 = .ok (.iadd, 1) := by decide +kernel
theorem dX10_pair_179 : decode cX10_pair 179 = .ok (.iastore, 1) := by decide +kernel
theorem dX10_pair_180 : decode cX10_pair 180 = .ok (.iload 6, 2) := by decide +kernel
theorem dX10_pair_182 : decode cX10_pair 182 = .ok (.ireturn, 1) := by decide +kernel
theorem dX10_leads_0 : decode cX10_leads 0 = .ok (.aload_n 0, 1) := by decide +kernel
theorem dX10_leads_1 : decode cX10_leads 1 = .ok (.getfield 31, 3) := by decide +kernel
theorem dX10_leads_4 : decode cX10_leads 4 = .ok (.iconst 4, 1) := by decide +kernel
theorem dX10_leads_5 : decode cX10_leads 5 = .ok (.iload_n 1, 1) := by decide +kernel
theorem dX10_leads_6 : decode cX10_leads 6 = .ok (.imul, 1) := by decide +kernel
theorem dX10_leads_7 : decode cX10_leads 7 = .ok (.iaload, 1) := by decide +kernel
theorem dX10_leads_8 : decode cX10_leads 8 = .ok (.iload_n 2, 1) := by decide +kernel
theorem dX10_leads_9 : decode cX10_leads 9 = .ok (.if_icmp .ne 45, 3) := by decide +kernel
theorem dX10_leads_12 : decode cX10_leads 12 = .ok (.aload_n 0, 1) := by decide +kernel
theorem dX10_leads_13 : decode cX10_leads 13 = .ok (.getfield 31, 3) := by decide +kernel
theorem dX10_leads_16 : decode cX10_leads 16 = .ok (.iconst 4, 1) := by decide +kernel
theorem dX10_leads_17 : decode cX10_leads 17 = .ok (.iload_n 1, 1) := by decide +kernel
theorem dX10_leads_18 : decode cX10_leads 18 = .ok (.imul, 1) := by decide +kernel
theorem dX10_leads_19 : decode cX10_leads 19 = .ok (.iconst 1, 1) := by decide +kernel
theorem dX10_leads_20 : decode cX10_leads 20 = .ok (.iadd, 1) := by decide +kernel
theorem dX10_leads_21 : decode cX10_leads 21 = .ok (.iaload, 1) := by decide +kernel
theorem dX10_leads_22 : decode cX10_leads 22 = .ok (.iload_n 3, 1) := by decide +kernel
theorem dX10_leads_23 : decode cX10_leads 23 = .ok (.if_icmp .ne 31, 3) := by decide +kernel
theorem dX10_leads_26 : decode cX10_leads 26 = .ok (.aload_n 0, 1) := by decide +kernel
theorem dX10_leads_27 : decode cX10_leads 27 = .ok (.getfield 31, 3) := by decide +kernel
theorem dX10_leads_30 : decode cX10_leads 30 = .ok (.iconst 4, 1) := by decide +kernel
theorem dX10_leads_31 : decode cX10_leads 31 = .ok (.iload_n 1, 1) := by decide +kernel
theorem dX10_leads_32 : decode cX10_leads 32 = .ok (.imul, 1) := by decide +kernel
theorem dX10_leads_33 : decode cX10_leads 33 = .ok (.iconst 2, 1) := by decide +kernel
theorem dX10_leads_34 : decode cX10_leads 34 = .ok (.iadd, 1) := by decide +kernel
theorem dX10_leads_35 : decode cX10_leads 35 = .ok (.iaload, 1) := by decide +kernel
theorem dX10_leads_36 : decode cX10_leads 36 = .ok (.iload 4, 2) := by decide +kernel
theorem dX10_leads_38 : decode cX10_leads 38 = .ok (.if_icmp .ne 16, 3) := by decide +kernel
theorem dX10_leads_41 : decode cX10_leads 41 = .ok (.aload_n 0, 1) := by decide +kernel
theorem dX10_leads_42 : decode cX10_leads 42 = .ok (.getfield 31, 3) := by decide +kernel
theorem dX10_leads_45 : decode cX10_leads 45 = .ok (.iconst 4, 1) := by decide +kernel
theorem dX10_leads_46 : decode cX10_leads 46 = .ok (.iload_n 1, 1) := by decide +kernel
theorem dX10_leads_47 : decode cX10_leads 47 = .ok (.imul, 1) := by decide +kernel
theorem dX10_leads_48 : decode cX10_leads 48 = .ok (.iconst 3, 1) := by decide +kernel
theorem dX10_leads_49 : decode cX10_leads 49 = .ok (.iadd, 1) := by decide +kernel
theorem dX10_leads_50 : decode cX10_leads 50 = .ok (.iaload, 1) := by decide +kernel
theorem dX10_leads_51 : decode cX10_leads 51 = .ok (.goto 58, 3) := by decide +kernel
theorem dX10_leads_54 : decode cX10_leads 54 = .ok (.aload_n 0, 1) := by decide +kernel
theorem dX10_leads_55 : decode cX10_leads 55 = .ok (.getfield 31, 3) := by decide +kernel
theorem dX10_leads_58 : decode cX10_leads 58 = .ok (.iconst 4, 1) := by decide +kernel
theorem dX10_leads_59 : decode cX10_leads 59 = .ok (.iload_n 1, 1) := by decide +kernel
theorem dX10_leads_60 : decode cX10_leads 60 = .ok (.imul, 1) := by decide +kernel
theorem dX10_leads_61 : decode cX10_leads 61 = .ok (.iconst 2, 1) := by decide +kernel
theorem dX10_leads_62 : decode cX10_leads 62 = .ok (.iadd, 1) := by decide +kernel
theorem dX10_leads_63 : decode cX10_leads 63 = .ok (.iaload, 1) := by decide +kernel
theorem dX10_leads_64 : decode cX10_leads 64 = .ok (.iload_n 2, 1) := by decide +kernel
theorem dX10_leads_65 : decode cX10_leads 65 = .ok (.if_icmp .ne 43, 3) := by decide +kernel
theorem dX10_leads_68 : decode cX10_leads 68 = .ok (.aload_n 0, 1) := by decide +kernel
theorem dX10_leads_69 : decode cX10_leads 69 = .ok (.getfield 31, 3) := by decide +kernel
theorem dX10_leads_72 : decode cX10_leads 72 = .ok (.iconst 4, 1) := by decide +kernel
theorem dX10_leads_73 : decode cX10_leads 73 = .ok (.iload_n 1, 1) := by decide +kernel
theorem dX10_leads_74 : decode cX10_leads 74 = .ok (.imul, 1) := by decide +kernel
theorem dX10_leads_75 : decode cX10_leads 75 = .ok (.iconst 3, 1) := by decide +kernel
theorem dX10_leads_76 : decode cX10_leads 76 = .ok (.iadd, 1) := by decide +kernel
theorem dX10_leads_77 : decode cX10_leads 77 = .ok (.iaload, 1) := by decide +kernel
theorem dX10_leads_78 : decode cX10_leads 78 = .ok (.iload_n 3, 1) := by decide +kernel
theorem dX10_leads_79 : decode cX10_leads 79 = .ok (.if_icmp .ne 29, 3) := by decide +kernel
theorem dX10_leads_82 : decode cX10_leads 82 = .ok (.aload_n 0, 1) := by decide +kernel
theorem dX10_leads_83 : decode cX10_leads 83 = .ok (.getfield 31, 3) := by decide +kernel
theorem dX10_leads_86 : decode cX10_leads 86 = .ok (.iconst 4, 1) := by decide +kernel
theorem dX10_leads_87 : decode cX10_leads 87 = .ok (.iload_n 1, 1) := by decide +kernel
theorem dX10_leads_88 : decode cX10_leads 88 = .ok (.imul, 1) := by decide +kernel
theorem dX10_leads_89 : decode cX10_leads 89 = .ok (.iaload, 1) := by decide +kernel
theorem dX10_leads_90 : decode cX10_leads 90 = .ok (.iload 4, 2) := by decide +kernel
theorem dX10_leads_92 : decode cX10_leads 92 = .ok (.if_icmp .ne 16, 3) := by decide +kernel
theorem dX10_leads_95 : decode cX10_leads 95 = .ok (.aload_n 0, 1) := by decide +kernel
theorem dX10_leads_96 : decode cX10_leads 96 = .ok (.getfield 31, 3) := by decide +kernel
theorem dX10_leads_99 : decode cX10_leads 99 = .ok (.iconst 4, 1) := by decide +kernel
theorem dX10_leads_100 : decode cX10_leads 100 = .ok (.iload_n 1, 1) := by decide +kernel
theorem dX10_leads_101 : decode cX10_leads 101 = .ok (.imul, 1) := by decide +kernel
theorem dX10_leads_102 : decode cX10_leads 102 = .ok (.iconst 1, 1) := by decide +kernel
theorem dX10_leads_103 : decode cX10_leads 103 = .ok (.iadd, 1) := by decide +kernel
theorem dX10_leads_104 : decode cX10_leads 104 = .ok (.iaload, 1) := by decide +kernel
theorem dX10_leads_105 : decode cX10_leads 105 = .ok (.goto 4, 3) := by decide +kernel
theorem dX10_leads_108 : decode cX10_leads 108 = .ok (.iconst (-1), 1) := by decide +kernel
theorem dX10_leads_109 : decode cX10_leads 109 = .ok (.ireturn, 1) := by decide +kernel
theorem dX10_allRings_0 : decode cX10_allRings 0 = .ok (.aload_n 0, 1) := by decide +kernel
theorem dX10_allRings_1 : decode cX10_allRings 1 = .ok (.iconst 0, 1) := by decide +kernel
theorem dX10_allRings_2 : decode cX10_allRings 2 = .ok (.putfield 191, 3) := by decide +kernel
theorem dX10_allRings_5 : decode cX10_allRings 5 = .ok (.aload_n 0, 1) := by decide +kernel
theorem dX10_allRings_6 : decode cX10_allRings 6 = .ok (.iconst 0, 1) := by decide +kernel
theorem dX10_allRings_7 : decode cX10_allRings 7 = .ok (.putfield 194, 3) := by decide +kernel
theorem dX10_allRings_10 : decode cX10_allRings 10 = .ok (.iconst 0, 1) := by decide +kernel
theorem dX10_allRings_11 : decode cX10_allRings 11 = .ok (.istore_n 1, 1) := by decide +kernel
theorem dX10_allRings_12 : decode cX10_allRings 12 = .ok (.iload_n 1, 1) := by decide +kernel
theorem dX10_allRings_13 : decode cX10_allRings 13 = .ok (.bipush 24, 2) := by decide +kernel
theorem dX10_allRings_15 : decode cX10_allRings 15 = .ok (.if_icmp .ge 23, 3) := by decide +kernel
theorem dX10_allRings_18 : decode cX10_allRings 18 = .ok (.aload_n 0, 1) := by decide +kernel
theorem dX10_allRings_19 : decode cX10_allRings 19 = .ok (.getfield 69, 3) := by decide +kernel
theorem dX10_allRings_22 : decode cX10_allRings 22 = .ok (.iload_n 1, 1) := by decide +kernel
theorem dX10_allRings_23 : decode cX10_allRings 23 = .ok (.iconst 0, 1) := by decide +kernel
theorem dX10_allRings_24 : decode cX10_allRings 24 = .ok (.iastore, 1) := by decide +kernel
theorem dX10_allRings_25 : decode cX10_allRings 25 = .ok (.aload_n 0, 1) := by decide +kernel
theorem dX10_allRings_26 : decode cX10_allRings 26 = .ok (.getfield 72, 3) := by decide +kernel
theorem dX10_allRings_29 : decode cX10_allRings 29 = .ok (.iload_n 1, 1) := by decide +kernel
theorem dX10_allRings_30 : decode cX10_allRings 30 = .ok (.iconst 0, 1) := by decide +kernel
theorem dX10_allRings_31 : decode cX10_allRings 31 = .ok (.iastore, 1) := by decide +kernel
theorem dX10_allRings_32 : decode cX10_allRings 32 = .ok (.iinc 1 1, 3) := by decide +kernel
theorem dX10_allRings_35 : decode cX10_allRings 35 = .ok (.goto (-23), 3) := by decide +kernel
theorem dX10_allRings_38 : decode cX10_allRings 38 = .ok (.iconst 0, 1) := by decide +kernel
theorem dX10_allRings_39 : decode cX10_allRings 39 = .ok (.istore_n 1, 1) := by decide +kernel
theorem dX10_allRings_40 : decode cX10_allRings 40 = .ok (.iload_n 1, 1) := by decide +kernel
theorem dX10_allRings_41 : decode cX10_allRings 41 = .ok (.aload_n 0, 1) := by decide +kernel
theorem dX10_allRings_42 : decode cX10_allRings 42 = .ok (.getfield 7, 3) := by decide +kernel
theorem dX10_allRings_45 : decode cX10_allRings 45 = .ok (.iconst 0, 1) := by decide +kernel
theorem dX10_allRings_46 : decode cX10_allRings 46 = .ok (.iaload, 1) := by decide +kernel
theorem dX10_allRings_47 : decode cX10_allRings 47 = .ok (.if_icmp .ge 87, 3) := by decide +kernel
theorem dX10_allRings_50 : decode cX10_allRings 50 = .ok (.iload_n 1, 1) := by decide +kernel
theorem dX10_allRings_51 : decode cX10_allRings 51 = .ok (.iconst 1, 1) := by decide +kernel
theorem dX10_allRings_52 : decode cX10_allRings 52 = .ok (.iadd, 1) := by decide +kernel
theorem dX10_allRings_53 : decode cX10_allRings 53 = .ok (.istore_n 2, 1) := by decide +kernel
theorem dX10_allRings_54 : decode cX10_allRings 54 = .ok (.iload_n 2, 1) := by decide +kernel
theorem dX10_allRings_55 : decode cX10_allRings 55 = .ok (.aload_n 0, 1) := by decide +kernel
theorem dX10_allRings_56 : decode cX10_allRings 56 = .ok (.getfield 7, 3) := by decide +kernel
theorem dX10_allRings_59 : decode cX10_allRings 59 = .ok (.iconst 0, 1) := by decide +kernel
theorem dX10_allRings_60 : decode cX10_allRings 60 = .ok (.iaload, 1) := by decide +kernel
theorem dX10_allRings_61 : decode cX10_allRings 61 = .ok (.if_icmp .ge 67, 3) := by decide +kernel
theorem dX10_allRings_64 : decode cX10_allRings 64 = .ok (.iload_n 1, 1) := by decide +kernel
theorem dX10_allRings_65 : decode cX10_allRings 65 = .ok (.iconst 1, 1) := by decide +kernel
theorem dX10_allRings_66 : decode cX10_allRings 66 = .ok (.iadd, 1) := by decide +kernel
theorem dX10_allRings_67 : decode cX10_allRings 67 = .ok (.istore_n 3, 1) := by decide +kernel
theorem dX10_allRings_68 : decode cX10_allRings 68 = .ok (.iload_n 3, 1) := by decide +kernel
theorem dX10_allRings_69 : decode cX10_allRings 69 = .ok (.aload_n 0, 1) := by decide +kernel
theorem dX10_allRings_70 : decode cX10_allRings 70 = .ok (.getfield 7, 3) := by decide +kernel
theorem dX10_allRings_73 : decode cX10_allRings 73 = .ok (.iconst 0, 1) := by decide +kernel
theorem dX10_allRings_74 : decode cX10_allRings 74 = .ok (.iaload, 1) := by decide +kernel
theorem dX10_allRings_75 : decode cX10_allRings 75 = .ok (.if_icmp .ge 47, 3) := by decide +kernel
theorem dX10_allRings_78 : decode cX10_allRings 78 = .ok (.iconst 0, 1) := by decide +kernel
theorem dX10_allRings_79 : decode cX10_allRings 79 = .ok (.istore 4, 2) := by decide +kernel
theorem dX10_allRings_81 : decode cX10_allRings 81 = .ok (.iload 4, 2) := by decide +kernel
theorem dX10_allRings_83 : decode cX10_allRings 83 = .ok (.aload_n 0, 1) := by decide +kernel
theorem dX10_allRings_84 : decode cX10_allRings 84 = .ok (.getfield 22, 3) := by decide +kernel
theorem dX10_allRings_87 : decode cX10_allRings 87 = .ok (.iconst 4, 1) := by decide +kernel
theorem dX10_allRings_88 : decode cX10_allRings 88 = .ok (.iload_n 1, 1) := by decide +kernel
theorem dX10_allRings_89 : decode cX10_allRings 89 = .ok (.imul, 1) := by decide +kernel
theorem dX10_allRings_90 : decode cX10_allRings 90 = .ok (.iconst 3, 1) := by decide +kernel
theorem dX10_allRings_91 : decode cX10_allRings 91 = .ok (.iadd, 1) := by decide +kernel
theorem dX10_allRings_92 : decode cX10_allRings 92 = .ok (.iaload, 1) := by decide +kernel
theorem dX10_allRings_93 : decode cX10_allRings 93 = .ok (.if_icmp .ge 23, 3) := by decide +kernel
theorem dX10_allRings_96 : decode cX10_allRings 96 = .ok (.iload_n 2, 1) := by decide +kernel
theorem dX10_allRings_97 : decode cX10_allRings 97 = .ok (.iload_n 3, 1) := by decide +kernel
theorem dX10_allRings_98 : decode cX10_allRings 98 = .ok (.if_icmp .eq 18, 3) := by decide +kernel
theorem dX10_allRings_101 : decode cX10_allRings 101 = .ok (.aload_n 0, 1) := by decide +kernel
theorem dX10_allRings_102 : decode cX10_allRings 102 = .ok (.iload_n 1, 1) := by decide +kernel
theorem dX10_allRings_103 : decode cX10_allRings 103 = .ok (.iload_n 2, 1) := by decide +kernel
theorem dX10_allRings_104 : decode cX10_allRings 104 = .ok (.iload_n 3, 1) := by decide +kernel
theorem dX10_allRings_105 : decode cX10_allRings 105 = .ok (.iload 4, 2) := by decide +kernel
theorem dX10_allRings_107 : decode cX10_allRings 107 = .ok (.invokevirtual 197, 3) := by decide +kernel
theorem dX10_allRings_110 : decode cX10_allRings 110 = .ok (.iinc 4 1, 3) := by decide +kernel
theorem dX10_allRings_113 : decode cX10_allRings 113 = .ok (.goto (-32), 3) := by decide +kernel
theorem dX10_allRings_116 : decode cX10_allRings 116 = .ok (.iinc 3 1, 3) := by decide +kernel
theorem dX10_allRings_119 : decode cX10_allRings 119 = .ok (.goto (-51), 3) := by decide +kernel
theorem dX10_allRings_122 : decode cX10_allRings 122 = .ok (.iinc 2 1, 3) := by decide +kernel
theorem dX10_allRings_125 : decode cX10_allRings 125 = .ok (.goto (-71), 3) := by decide +kernel
theorem dX10_allRings_128 : decode cX10_allRings 128 = .ok (.iinc 1 1, 3) := by decide +kernel
theorem dX10_allRings_131 : decode cX10_allRings 131 = .ok (.goto (-91), 3) := by decide +kernel
theorem dX10_allRings_134 : decode cX10_allRings 134 = .ok (.return_, 1) := by decide +kernel
theorem dX10_ring_0 : decode cX10_ring 0 = .ok (.iconst 0, 1) := by decide +kernel
theorem dX10_ring_1 : decode cX10_ring 1 = .ok (.istore 5, 2) := by decide +kernel
theorem dX10_ring_3 : decode cX10_ring 3 = .ok (.iload 5, 2) := by decide +kernel
theorem dX10_ring_5 : decode cX10_ring 5 = .ok (.aload_n 0, 1) := by decide +kernel
theorem dX10_ring_6 : decode cX10_ring 6 = .ok (.getfield 19, 3) := by decide +kernel
theorem dX10_ring_9 : decode cX10_ring 9 = .ok (.iconst 0, 1) := by decide +kernel
theorem dX10_ring_10 : decode cX10_ring 10 = .ok (.iaload, 1) := by decide +kernel
theorem dX10_ring_11 : decode cX10_ring 11 = .ok (.if_icmp .ge 122, 3) := by decide +kernel
theorem dX10_ring_14 : decode cX10_ring 14 = .ok (.aload_n 0, 1) := by decide +kernel
theorem dX10_ring_15 : decode cX10_ring 15 = .ok (.iload 5, 2) := by decide +kernel
theorem dX10_ring_17 : decode cX10_ring 17 = .ok (.iload_n 1, 1) := by decide +kernel
theorem dX10_ring_18 : decode cX10_ring 18 = .ok (.iload 4, 2) := by decide +kernel
theorem dX10_ring_20 : decode cX10_ring 20 = .ok (.iload_n 2, 1) := by decide +kernel
theorem dX10_ring_21 : decode cX10_ring 21 = .ok (.invokevirtual 201, 3) := by decide +kernel
theorem dX10_ring_24 : decode cX10_ring 24 = .ok (.istore 6, 2) := by decide +kernel
theorem dX10_ring_26 : decode cX10_ring 26 = .ok (.iconst 0, 1) := by decide +kernel
theorem dX10_ring_27 : decode cX10_ring 27 = .ok (.istore 7, 2) := by decide +kernel
theorem dX10_ring_29 : decode cX10_ring 29 = .ok (.iload 7, 2) := by decide +kernel
theorem dX10_ring_31 : decode cX10_ring 31 = .ok (.aload_n 0, 1) := by decide +kernel
theorem dX10_ring_32 : decode cX10_ring 32 = .ok (.getfield 19, 3) := by decide +kernel
theorem dX10_ring_35 : decode cX10_ring 35 = .ok (.iconst 0, 1) := by decide +kernel
theorem dX10_ring_36 : decode cX10_ring 36 = .ok (.iaload, 1) := by decide +kernel
theorem dX10_ring_37 : decode cX10_ring 37 = .ok (.if_icmp .ge 90, 3) := by decide +kernel
theorem dX10_ring_40 : decode cX10_ring 40 = .ok (.iload 6, 2) := by decide +kernel
theorem dX10_ring_42 : decode cX10_ring 42 = .ok (.ifCond .lt 85, 3) := by decide +kernel
theorem dX10_ring_45 : decode cX10_ring 45 = .ok (.aload_n 0, 1) := by decide +kernel
theorem dX10_ring_46 : decode cX10_ring 46 = .ok (.iload 7, 2) := by decide +kernel
theorem dX10_ring_48 : decode cX10_ring 48 = .ok (.iload_n 2, 1) := by decide +kernel
theorem dX10_ring_49 : decode cX10_ring 49 = .ok (.iload 6, 2) := by decide +kernel
theorem dX10_ring_51 : decode cX10_ring 51 = .ok (.iload_n 3, 1) := by decide +kernel
theorem dX10_ring_52 : decode cX10_ring 52 = .ok (.invokevirtual 201, 3) := by decide +kernel
theorem dX10_ring_55 : decode cX10_ring 55 = .ok (.istore 8, 2) := by decide +kernel
theorem dX10_ring_57 : decode cX10_ring 57 = .ok (.iconst 0, 1) := by decide +kernel
theorem dX10_ring_58 : decode cX10_ring 58 = .ok (.istore 9, 2) := by decide +kernel
theorem dX10_ring_60 : decode cX10_ring 60 = .ok (.iload 9, 2) := by decide +kernel
theorem dX10_ring_62 : decode cX10_ring 62 = .ok (.aload_n 0, 1) := by decide +kernel
theorem dX10_ring_63 : decode cX10_ring 63 = .ok (.getfield 19, 3) := by decide +kernel
theorem dX10_ring_66 : decode cX10_ring 66 = .ok (.iconst 0, 1) := by decide +kernel
theorem dX10_ring_67 : decode cX10_ring 67 = .ok (.iaload, 1) := by decide +kernel
theorem dX10_ring_68 : decode cX10_ring 68 = .ok (.if_icmp .ge 53, 3) := by decide +kernel
theorem dX10_ring_71 : decode cX10_ring 71 = .ok (.iload 8, 2) := by decide +kernel
theorem dX10_ring_73 : decode cX10_ring 73 = .ok (.ifCond .lt 48, 3) := by decide +kernel
theorem dX10_ring_76 : decode cX10_ring 76 = .ok (.aload_n 0, 1) := by decide +kernel
theorem dX10_ring_77 : decode cX10_ring 77 = .ok (.iload 9, 2) := by decide +kernel
theorem dX10_ring_79 : decode cX10_ring 79 = .ok (.iload_n 3, 1) := by decide +kernel
theorem dX10_ring_80 : decode cX10_ring 80 = .ok (.iload 8, 2) := by decide +kernel
theorem dX10_ring_82 : decode cX10_ring 82 = .ok (.iload_n 1, 1) := by decide +kernel
theorem dX10_ring_83 : decode cX10_ring 83 = .ok (.invokevirtual 201, 3) := by decide +kernel
theorem dX10_ring_86 : decode cX10_ring 86 = .ok (.istore 10, 2) := by decide +kernel
theorem dX10_ring_88 : decode cX10_ring 88 = .ok (.iload 10, 2) := by decide +kernel
theorem dX10_ring_90 : decode cX10_ring 90 = .ok (.ifCond .lt 25, 3) := by decide +kernel
theorem dX10_ring_93 : decode cX10_ring 93 = .ok (.aload_n 0, 1) := by decide +kernel
theorem dX10_ring_94 : decode cX10_ring 94 = .ok (.iload 5, 2) := by decide +kernel
theorem dX10_ring_96 : decode cX10_ring 96 = .ok (.iload 7, 2) := by decide +kernel
theorem dX10_ring_98 : decode cX10_ring 98 = .ok (.iload 9, 2) := by decide +kernel
theorem dX10_ring_100 : decode cX10_ring 100 = .ok (.iload 10, 2) := by decide +kernel
theorem dX10_ring_102 : decode cX10_ring 102 = .ok (.iload 4, 2) := by decide +kernel
theorem dX10_ring_104 : decode cX10_ring 104 = .ok (.if_icmp .ne 7, 3) := by decide +kernel
theorem dX10_ring_107 : decode cX10_ring 107 = .ok (.iconst 1, 1) := by decide +kernel
theorem dX10_ring_108 : decode cX10_ring 108 = .ok (.goto 4, 3) := by decide +kernel
theorem dX10_ring_111 : decode cX10_ring 111 = .ok (.iconst 0, 1) := by decide +kernel
theorem dX10_ring_112 : decode cX10_ring 112 = .ok (.invokevirtual 204, 3) := by decide +kernel
theorem dX10_ring_115 : decode cX10_ring 115 = .ok (.iinc 9 1, 3) := by decide +kernel
theorem dX10_ring_118 : decode cX10_ring 118 = .ok (.goto (-58), 3) := by decide +kernel
theorem dX10_ring_121 : decode cX10_ring 121 = .ok (.iinc 7 1, 3) := by decide +kernel
theorem dX10_ring_124 : decode cX10_ring 124 = .ok (.goto (-95), 3) := by decide +kernel
theorem dX10_ring_127 : decode cX10_ring 127 = .ok (.iinc 5 1, 3) := by decide +kernel
theorem dX10_ring_130 : decode cX10_ring 130 = .ok (.goto (-127), 3) := by decide +kernel
theorem dX10_ring_133 : decode cX10_ring 133 = .ok (.return_, 1) := by decide +kernel
theorem dX10_counts_0 : decode cX10_counts 0 = .ok (.aload_n 0, 1) := by decide +kernel
theorem dX10_counts_1 : decode cX10_counts 1 = .ok (.dup, 1) := by decide +kernel
theorem dX10_counts_2 : decode cX10_counts 2 = .ok (.getfield 191, 3) := by decide +kernel
theorem dX10_counts_5 : decode cX10_counts 5 = .ok (.iconst 1, 1) := by decide +kernel
theorem dX10_counts_6 : decode cX10_counts 6 = .ok (.iadd, 1) := by decide +kernel
theorem dX10_counts_7 : decode cX10_counts 7 = .ok (.putfield 191, 3) := by decide +kernel
theorem dX10_counts_10 : decode cX10_counts 10 = .ok (.aload_n 0, 1) := by decide +kernel
theorem dX10_counts_11 : decode cX10_counts 11 = .ok (.dup, 1) := by decide +kernel
theorem dX10_counts_12 : decode cX10_counts 12 = .ok (.getfield 194, 3) := by decide +kernel
theorem dX10_counts_15 : decode cX10_counts 15 = .ok (.iload 4, 2) := by decide +kernel
theorem dX10_counts_17 : decode cX10_counts 17 = .ok (.ifCond .eq 7, 3) := by decide +kernel
theorem dX10_counts_20 : decode cX10_counts 20 = .ok (.iconst 1, 1) := by decide +kernel
theorem dX10_counts_21 : decode cX10_counts 21 = .ok (.goto 4, 3) := by decide +kernel
theorem dX10_counts_24 : decode cX10_counts 24 = .ok (.iconst 0, 1) := by decide +kernel
theorem dX10_counts_25 : decode cX10_counts 25 = .ok (.iadd, 1) := by decide +kernel
theorem dX10_counts_26 : decode cX10_counts 26 = .ok (.putfield 194, 3) := by decide +kernel
theorem dX10_counts_29 : decode cX10_counts 29 = .ok (.aload_n 0, 1) := by decide +kernel
theorem dX10_counts_30 : decode cX10_counts 30 = .ok (.getfield 69, 3) := by decide +kernel
theorem dX10_counts_33 : decode cX10_counts 33 = .ok (.iload_n 1, 1) := by decide +kernel
theorem dX10_counts_34 : decode cX10_counts 34 = .ok (.dup2, 1) := by decide +kernel
theorem dX10_counts_35 : decode cX10_counts 35 = .ok (.iaload, 1) := by decide +kernel
theorem dX10_counts_36 : decode cX10_counts 36 = .ok (.iconst 1, 1) := by decide +kernel
theorem dX10_counts_37 : decode cX10_counts 37 = .ok (.iadd, 1) := by decide +kernel
theorem dX10_counts_38 : decode cX10_counts 38 = .ok (.iastore, 1) := by decide +kernel
theorem dX10_counts_39 : decode cX10_counts 39 = .ok (.aload_n 0, 1) := by decide +kernel
theorem dX10_counts_40 : decode cX10_counts 40 = .ok (.getfield 69, 3) := by decide +kernel
theorem dX10_counts_43 : decode cX10_counts 43 = .ok (.iload_n 2, 1) := by decide +kernel
theorem dX10_counts_44 : decode cX10_counts 44 = .ok (.dup2, 1) := by decide +kernel
theorem dX10_counts_45 : decode cX10_counts 45 = .ok (.iaload, 1) := by decide +kernel
theorem dX10_counts_46 : decode cX10_counts 46 = .ok (.iconst 1, 1) := by decide +kernel
theorem dX10_counts_47 : decode cX10_counts 47 = .ok (.iadd, 1) := by decide +kernel
theorem dX10_counts_48 : decode cX10_counts 48 = .ok (.iastore, 1) := by decide +kernel
theorem dX10_counts_49 : decode cX10_counts 49 = .ok (.aload_n 0, 1) := by decide +kernel
theorem dX10_counts_50 : decode cX10_counts 50 = .ok (.getfield 69, 3) := by decide +kernel
theorem dX10_counts_53 : decode cX10_counts 53 = .ok (.iload_n 3, 1) := by decide +kernel
theorem dX10_counts_54 : decode cX10_counts 54 = .ok (.dup2, 1) := by decide +kernel
theorem dX10_counts_55 : decode cX10_counts 55 = .ok (.iaload, 1) := by decide +kernel
theorem dX10_counts_56 : decode cX10_counts 56 = .ok (.iconst 1, 1) := by decide +kernel
theorem dX10_counts_57 : decode cX10_counts 57 = .ok (.iadd, 1) := by decide +kernel
theorem dX10_counts_58 : decode cX10_counts 58 = .ok (.iastore, 1) := by decide +kernel
theorem dX10_counts_59 : decode cX10_counts 59 = .ok (.aload_n 0, 1) := by decide +kernel
theorem dX10_counts_60 : decode cX10_counts 60 = .ok (.getfield 72, 3) := by decide +kernel
theorem dX10_counts_63 : decode cX10_counts 63 = .ok (.iload_n 1, 1) := by decide +kernel
theorem dX10_counts_64 : decode cX10_counts 64 = .ok (.dup2, 1) := by decide +kernel
theorem dX10_counts_65 : decode cX10_counts 65 = .ok (.iaload, 1) := by decide +kernel
theorem dX10_counts_66 : decode cX10_counts 66 = .ok (.iload 4, 2) := by decide +kernel
theorem dX10_counts_68 : decode cX10_counts 68 = .ok (.ifCond .eq 7, 3) := by decide +kernel
theorem dX10_counts_71 : decode cX10_counts 71 = .ok (.iconst 0, 1) := by decide +kernel
theorem dX10_counts_72 : decode cX10_counts 72 = .ok (.goto 4, 3) := by decide +kernel
theorem dX10_counts_75 : decode cX10_counts 75 = .ok (.iconst 1, 1) := by decide +kernel
theorem dX10_counts_76 : decode cX10_counts 76 = .ok (.iadd, 1) := by decide +kernel
theorem dX10_counts_77 : decode cX10_counts 77 = .ok (.iastore, 1) := by decide +kernel
theorem dX10_counts_78 : decode cX10_counts 78 = .ok (.aload_n 0, 1) := by decide +kernel
theorem dX10_counts_79 : decode cX10_counts 79 = .ok (.getfield 72, 3) := by decide +kernel
theorem dX10_counts_82 : decode cX10_counts 82 = .ok (.iload_n 2, 1) := by decide +kernel
theorem dX10_counts_83 : decode cX10_counts 83 = .ok (.dup2, 1) := by decide +kernel
theorem dX10_counts_84 : decode cX10_counts 84 = .ok (.iaload, 1) := by decide +kernel
theorem dX10_counts_85 : decode cX10_counts 85 = .ok (.iload 4, 2) := by decide +kernel
theorem dX10_counts_87 : decode cX10_counts 87 = .ok (.ifCond .eq 7, 3) := by decide +kernel
theorem dX10_counts_90 : decode cX10_counts 90 = .ok (.iconst 0, 1) := by decide +kernel
theorem dX10_counts_91 : decode cX10_counts 91 = .ok (.goto 4, 3) := by decide +kernel
theorem dX10_counts_94 : decode cX10_counts 94 = .ok (.iconst 1, 1) := by decide +kernel
theorem dX10_counts_95 : decode cX10_counts 95 = .ok (.iadd, 1) := by decide +kernel
theorem dX10_counts_96 : decode cX10_counts 96 = .ok (.iastore, 1) := by decide +kernel
theorem dX10_counts_97 : decode cX10_counts 97 = .ok (.aload_n 0, 1) := by decide +kernel
theorem dX10_counts_98 : decode cX10_counts 98 = .ok (.getfield 72, 3) := by decide +kernel
theorem dX10_counts_101 : decode cX10_counts 101 = .ok (.iload_n 3, 1) := by decide +kernel
theorem dX10_counts_102 : decode cX10_counts 102 = .ok (.dup2, 1) := by decide +kernel
theorem dX10_counts_103 : decode cX10_counts 103 = .ok (.iaload, 1) := by decide +kernel
theorem dX10_counts_104 : decode cX10_counts 104 = .ok (.iload 4, 2) := by decide +kernel
theorem dX10_counts_106 : decode cX10_counts 106 = .ok (.ifCond .eq 7, 3) := by decide +kernel
theorem dX10_counts_109 : decode cX10_counts 109 = .ok (.iconst 0, 1) := by decide +kernel
theorem dX10_counts_110 : decode cX10_counts 110 = .ok (.goto 4, 3) := by decide +kernel
theorem dX10_counts_113 : decode cX10_counts 113 = .ok (.iconst 1, 1) := by decide +kernel
theorem dX10_counts_114 : decode cX10_counts 114 = .ok (.iadd, 1) := by decide +kernel
theorem dX10_counts_115 : decode cX10_counts 115 = .ok (.iastore, 1) := by decide +kernel
theorem dX10_counts_116 : decode cX10_counts 116 = .ok (.return_, 1) := by decide +kernel
theorem dX10_rings_0 : decode cX10_rings 0 = .ok (.iload_n 1, 1) := by decide +kernel
theorem dX10_rings_1 : decode cX10_rings 1 = .ok (.iconst 0, 1) := by decide +kernel
theorem dX10_rings_2 : decode cX10_rings 2 = .ok (.iconst 1, 1) := by decide +kernel
theorem dX10_rings_3 : decode cX10_rings 3 = .ok (.invokestatic 78, 3) := by decide +kernel
theorem dX10_rings_6 : decode cX10_rings 6 = .ok (.ifCond .ne 10, 3) := by decide +kernel
theorem dX10_rings_9 : decode cX10_rings 9 = .ok (.aload_n 0, 1) := by decide +kernel
theorem dX10_rings_10 : decode cX10_rings 10 = .ok (.bipush (-2), 2) := by decide +kernel
theorem dX10_rings_12 : decode cX10_rings 12 = .ok (.invokevirtual 86, 3) := by decide +kernel
theorem dX10_rings_15 : decode cX10_rings 15 = .ok (.ireturn, 1) := by decide +kernel
theorem dX10_rings_16 : decode cX10_rings 16 = .ok (.aload_n 0, 1) := by decide +kernel
theorem dX10_rings_17 : decode cX10_rings 17 = .ok (.invokevirtual 208, 3) := by decide +kernel
theorem dX10_rings_20 : decode cX10_rings 20 = .ok (.iload_n 1, 1) := by decide +kernel
theorem dX10_rings_21 : decode cX10_rings 21 = .ok (.ifCond .ne 10, 3) := by decide +kernel
theorem dX10_rings_24 : decode cX10_rings 24 = .ok (.aload_n 0, 1) := by decide +kernel
theorem dX10_rings_25 : decode cX10_rings 25 = .ok (.getfield 191, 3) := by decide +kernel
theorem dX10_rings_28 : decode cX10_rings 28 = .ok (.goto 7, 3) := by decide +kernel
theorem dX10_rings_31 : decode cX10_rings 31 = .ok (.aload_n 0, 1) := by decide +kernel
theorem dX10_rings_32 : decode cX10_rings 32 = .ok (.getfield 194, 3) := by decide +kernel
theorem dX10_rings_35 : decode cX10_rings 35 = .ok (.ireturn, 1) := by decide +kernel
theorem dX10_atFault_0 : decode cX10_atFault 0 = .ok (.iload_n 1, 1) := by decide +kernel
theorem dX10_atFault_1 : decode cX10_atFault 1 = .ok (.iconst 0, 1) := by decide +kernel
theorem dX10_atFault_2 : decode cX10_atFault 2 = .ok (.aload_n 0, 1) := by decide +kernel
theorem dX10_atFault_3 : decode cX10_atFault 3 = .ok (.getfield 19, 3) := by decide +kernel
theorem dX10_atFault_6 : decode cX10_atFault 6 = .ok (.iconst 0, 1) := by decide +kernel
theorem dX10_atFault_7 : decode cX10_atFault 7 = .ok (.iaload, 1) := by decide +kernel
theorem dX10_atFault_8 : decode cX10_atFault 8 = .ok (.iconst 1, 1) := by decide +kernel
theorem dX10_atFault_9 : decode cX10_atFault 9 = .ok (.isub, 1) := by decide +kernel
theorem dX10_atFault_10 : decode cX10_atFault 10 = .ok (.invokestatic 78, 3) := by decide +kernel
theorem dX10_atFault_13 : decode cX10_atFault 13 = .ok (.ifCond .ne 10, 3) := by decide +kernel
theorem dX10_atFault_16 : decode cX10_atFault 16 = .ok (.aload_n 0, 1) := by decide +kernel
theorem dX10_atFault_17 : decode cX10_atFault 17 = .ok (.bipush (-2), 2) := by decide +kernel
theorem dX10_atFault_19 : decode cX10_atFault 19 = .ok (.invokevirtual 86, 3) := by decide +kernel
theorem dX10_atFault_22 : decode cX10_atFault 22 = .ok (.ireturn, 1) := by decide +kernel
theorem dX10_atFault_23 : decode cX10_atFault 23 = .ok (.aload_n 0, 1) := by decide +kernel
theorem dX10_atFault_24 : decode cX10_atFault 24 = .ok (.invokevirtual 208, 3) := by decide +kernel
theorem dX10_atFault_27 : decode cX10_atFault 27 = .ok (.aload_n 0, 1) := by decide +kernel
theorem dX10_atFault_28 : decode cX10_atFault 28 = .ok (.getfield 69, 3) := by decide +kernel
theorem dX10_atFault_31 : decode cX10_atFault 31 = .ok (.iload_n 1, 1) := by decide +kernel
theorem dX10_atFault_32 : decode cX10_atFault 32 = .ok (.iaload, 1) := by decide +kernel
theorem dX10_atFault_33 : decode cX10_atFault 33 = .ok (.ifCond .ne 10, 3) := by decide +kernel
theorem dX10_atFault_36 : decode cX10_atFault 36 = .ok (.aload_n 0, 1) := by decide +kernel
theorem dX10_atFault_37 : decode cX10_atFault 37 = .ok (.bipush (-3), 2) := by decide +kernel
theorem dX10_atFault_39 : decode cX10_atFault 39 = .ok (.invokevirtual 136, 3) := by decide +kernel
theorem dX10_atFault_42 : decode cX10_atFault 42 = .ok (.ireturn, 1) := by decide +kernel
theorem dX10_atFault_43 : decode cX10_atFault 43 = .ok (.aload_n 0, 1) := by decide +kernel
theorem dX10_atFault_44 : decode cX10_atFault 44 = .ok (.aload_n 0, 1) := by decide +kernel
theorem dX10_atFault_45 : decode cX10_atFault 45 = .ok (.getfield 72, 3) := by decide +kernel
theorem dX10_atFault_48 : decode cX10_atFault 48 = .ok (.iload_n 1, 1) := by decide +kernel
theorem dX10_atFault_49 : decode cX10_atFault 49 = .ok (.iaload, 1) := by decide +kernel
theorem dX10_atFault_50 : decode cX10_atFault 50 = .ok (.aload_n 0, 1) := by decide +kernel
theorem dX10_atFault_51 : decode cX10_atFault 51 = .ok (.getfield 69, 3) := by decide +kernel
theorem dX10_atFault_54 : decode cX10_atFault 54 = .ok (.iload_n 1, 1) := by decide +kernel
theorem dX10_atFault_55 : decode cX10_atFault 55 = .ok (.iaload, 1) := by decide +kernel
theorem dX10_atFault_56 : decode cX10_atFault 56 = .ok (.invokevirtual 181, 3) := by decide +kernel
theorem dX10_atFault_59 : decode cX10_atFault 59 = .ok (.iconst 1, 1) := by decide +kernel
theorem dX10_atFault_60 : decode cX10_atFault 60 = .ok (.ireturn, 1) := by decide +kernel
theorem dX10_worst_0 : decode cX10_worst 0 = .ok (.aload_n 0, 1) := by decide +kernel
theorem dX10_worst_1 : decode cX10_worst 1 = .ok (.invokevirtual 208, 3) := by decide +kernel
theorem dX10_worst_4 : decode cX10_worst 4 = .ok (.iconst (-1), 1) := by decide +kernel
theorem dX10_worst_5 : decode cX10_worst 5 = .ok (.istore_n 1, 1) := by decide +kernel
theorem dX10_worst_6 : decode cX10_worst 6 = .ok (.iconst 0, 1) := by decide +kernel
theorem dX10_worst_7 : decode cX10_worst 7 = .ok (.istore_n 2, 1) := by decide +kernel
theorem dX10_worst_8 : decode cX10_worst 8 = .ok (.iload_n 2, 1) := by decide +kernel
theorem dX10_worst_9 : decode cX10_worst 9 = .ok (.aload_n 0, 1) := by decide +kernel
theorem dX10_worst_10 : decode cX10_worst 10 = .ok (.getfield 19, 3) := by decide +kernel
theorem dX10_worst_13 : decode cX10_worst 13 = .ok (.iconst 0, 1) := by decide +kernel
theorem dX10_worst_14 : decode cX10_worst 14 = .ok (.iaload, 1) := by decide +kernel
theorem dX10_worst_15 : decode cX10_worst 15 = .ok (.if_icmp .ge 62, 3) := by decide +kernel
theorem dX10_worst_18 : decode cX10_worst 18 = .ok (.aload_n 0, 1) := by decide +kernel
theorem dX10_worst_19 : decode cX10_worst 19 = .ok (.getfield 69, 3) := by decide +kernel
theorem dX10_worst_22 : decode cX10_worst 22 = .ok (.iload_n 2, 1) := by decide +kernel
theorem dX10_worst_23 : decode cX10_worst 23 = .ok (.iaload, 1) := by decide +kernel
theorem dX10_worst_24 : decode cX10_worst 24 = .ok (.ifCond .le 45, 3) := by decide +kernel
theorem dX10_worst_27 : decode cX10_worst 27 = .ok (.iload_n 1, 1) := by decide +kernel
theorem dX10_worst_28 : decode cX10_worst 28 = .ok (.ifCond .lt 37, 3) := by decide +kernel
theorem dX10_worst_31 : decode cX10_worst 31 = .ok (.aload_n 0, 1) := by decide +kernel
theorem dX10_worst_32 : decode cX10_worst 32 = .ok (.getfield 72, 3) := by decide +kernel
theorem dX10_worst_35 : decode cX10_worst 35 = .ok (.iload_n 2, 1) := by decide +kernel
theorem dX10_worst_36 : decode cX10_worst 36 = .ok (.iaload, 1) := by decide +kernel
theorem dX10_worst_37 : decode cX10_worst 37 = .ok (.i2l, 1) := by decide +kernel
theorem dX10_worst_38 : decode cX10_worst 38 = .ok (.aload_n 0, 1) := by decide +kernel
theorem dX10_worst_39 : decode cX10_worst 39 = .ok (.getfield 69, 3) := by decide +kernel
theorem dX10_worst_42 : decode cX10_worst 42 = .ok (.iload_n 1, 1) := by decide +kernel
theorem dX10_worst_43 : decode cX10_worst 43 = .ok (.iaload, 1) := by decide +kernel
theorem dX10_worst_44 : decode cX10_worst 44 = .ok (.i2l, 1) := by decide +kernel
theorem dX10_worst_45 : decode cX10_worst 45 = .ok (.lmul, 1) := by decide +kernel
theorem dX10_worst_46 : decode cX10_worst 46 = .ok (.aload_n 0, 1) := by decide +kernel
theorem dX10_worst_47 : decode cX10_worst 47 = .ok (.getfield 72, 3) := by decide +kernel
theorem dX10_worst_50 : decode cX10_worst 50 = .ok (.iload_n 1, 1) := by decide +kernel
theorem dX10_worst_51 : decode cX10_worst 51 = .ok (.iaload, 1) := by decide +kernel
theorem dX10_worst_52 : decode cX10_worst 52 = .ok (.i2l, 1) := by decide +kernel
theorem dX10_worst_53 : decode cX10_worst 53 = .ok (.aload_n 0, 1) := by decide +kernel
theorem dX10_worst_54 : decode cX10_worst 54 = .ok (.getfield 69, 3) := by decide +kernel
theorem dX10_worst_57 : decode cX10_worst 57 = .ok (.iload_n 2, 1) := by decide +kernel
theorem dX10_worst_58 : decode cX10_worst 58 = .ok (.iaload, 1) := by decide +kernel
theorem dX10_worst_59 : decode cX10_worst 59 = .ok (.i2l, 1) := by decide +kernel
theorem dX10_worst_60 : decode cX10_worst 60 = .ok (.lmul, 1) := by decide +kernel
theorem dX10_worst_61 : decode cX10_worst 61 = .ok (.lcmp, 1) := by decide +kernel
theorem dX10_worst_62 : decode cX10_worst 62 = .ok (.ifCond .le 7, 3) := by decide +kernel
theorem dX10_worst_65 : decode cX10_worst 65 = .ok (.iload_n 2, 1) := by decide +kernel
theorem dX10_worst_66 : decode cX10_worst 66 = .ok (.goto 4, 3) := by decide +kernel
theorem dX10_worst_69 : decode cX10_worst 69 = .ok (.iload_n 1, 1) := by decide +kernel
theorem dX10_worst_70 : decode cX10_worst 70 = .ok (.istore_n 1, 1) := by decide +kernel
theorem dX10_worst_71 : decode cX10_worst 71 = .ok (.iinc 2 1, 3) := by decide +kernel
theorem dX10_worst_74 : decode cX10_worst 74 = .ok (.goto (-66), 3) := by decide +kernel
theorem dX10_worst_77 : decode cX10_worst 77 = .ok (.iload_n 1, 1) := by decide +kernel
theorem dX10_worst_78 : decode cX10_worst 78 = .ok (.ireturn, 1) := by decide +kernel
theorem dX10_joins_0 : decode cX10_joins 0 = .ok (.aload_n 0, 1) := by decide +kernel
theorem dX10_joins_1 : decode cX10_joins 1 = .ok (.invokevirtual 208, 3) := by decide +kernel
theorem dX10_joins_4 : decode cX10_joins 4 = .ok (.iconst 0, 1) := by decide +kernel
theorem dX10_joins_5 : decode cX10_joins 5 = .ok (.istore_n 1, 1) := by decide +kernel
theorem dX10_joins_6 : decode cX10_joins 6 = .ok (.iload_n 1, 1) := by decide +kernel
theorem dX10_joins_7 : decode cX10_joins 7 = .ok (.bipush 48, 2) := by decide +kernel
theorem dX10_joins_9 : decode cX10_joins 9 = .ok (.if_icmp .ge 16, 3) := by decide +kernel
theorem dX10_joins_12 : decode cX10_joins 12 = .ok (.aload_n 0, 1) := by decide +kernel
theorem dX10_joins_13 : decode cX10_joins 13 = .ok (.getfield 75, 3) := by decide +kernel
theorem dX10_joins_16 : decode cX10_joins 16 = .ok (.iload_n 1, 1) := by decide +kernel
theorem dX10_joins_17 : decode cX10_joins 17 = .ok (.iload_n 1, 1) := by decide +kernel
theorem dX10_joins_18 : decode cX10_joins 18 = .ok (.iastore, 1) := by decide +kernel
theorem dX10_joins_19 : decode cX10_joins 19 = .ok (.iinc 1 1, 3) := by decide +kernel
theorem dX10_joins_22 : decode cX10_joins 22 = .ok (.goto (-16), 3) := by decide +kernel
theorem dX10_joins_25 : decode cX10_joins 25 = .ok (.iconst 0, 1) := by decide +kernel
theorem dX10_joins_26 : decode cX10_joins 26 = .ok (.istore_n 1, 1) := by decide +kernel
theorem dX10_joins_27 : decode cX10_joins 27 = .ok (.iload_n 1, 1) := by decide +kernel
theorem dX10_joins_28 : decode cX10_joins 28 = .ok (.aload_n 0, 1) := by decide +kernel
theorem dX10_joins_29 : decode cX10_joins 29 = .ok (.getfield 19, 3) := by decide +kernel
theorem dX10_joins_32 : decode cX10_joins 32 = .ok (.iconst 0, 1) := by decide +kernel
theorem dX10_joins_33 : decode cX10_joins 33 = .ok (.iaload, 1) := by decide +kernel
theorem dX10_joins_34 : decode cX10_joins 34 = .ok (.if_icmp .ge 129, 3) := by decide +kernel
theorem dX10_joins_37 : decode cX10_joins 37 = .ok (.aload_n 0, 1) := by decide +kernel
theorem dX10_joins_38 : decode cX10_joins 38 = .ok (.getfield 75, 3) := by decide +kernel
theorem dX10_joins_41 : decode cX10_joins 41 = .ok (.bipush 8, 2) := by decide +kernel
theorem dX10_joins_43 : decode cX10_joins 43 = .ok (.aload_n 0, 1) := by decide +kernel
theorem dX10_joins_44 : decode cX10_joins 44 = .ok (.getfield 31, 3) := by decide +kernel
theorem dX10_joins_47 : decode cX10_joins 47 = .ok (.iconst 4, 1) := by decide +kernel
theorem dX10_joins_48 : decode cX10_joins 48 = .ok (.iload_n 1, 1) := by decide +kernel
theorem dX10_joins_49 : decode cX10_joins 49 = .ok (.imul, 1) := by decide +kernel
theorem dX10_joins_50 : decode cX10_joins 50 = .ok (.iaload, 1) := by decide +kernel
theorem dX10_joins_51 : decode cX10_joins 51 = .ok (.imul, 1) := by decide +kernel
theorem dX10_joins_52 : decode cX10_joins 52 = .ok (.aload_n 0, 1) := by decide +kernel
theorem dX10_joins_53 : decode cX10_joins 53 = .ok (.getfield 31, 3) := by decide +kernel
theorem dX10_joins_56 : decode cX10_joins 56 = .ok (.iconst 4, 1) := by decide +kernel
theorem dX10_joins_57 : decode cX10_joins 57 = .ok (.iload_n 1, 1) := by decide +kernel
theorem dX10_joins_58 : decode cX10_joins 58 = .ok (.imul, 1) := by decide +kernel
theorem dX10_joins_59 : decode cX10_joins 59 = .ok (.iconst 1, 1) := by decide +kernel
theorem dX10_joins_60 : decode cX10_joins 60 = .ok (.iadd, 1) := by decide +kernel
theorem dX10_joins_61 : decode cX10_joins 61 = .ok (.iaload, 1) := by decide +kernel
theorem dX10_joins_62 : decode cX10_joins 62 = .ok (.iadd, 1) := by decide +kernel
theorem dX10_joins_63 : decode cX10_joins 63 = .ok (.iaload, 1) := by decide +kernel
theorem dX10_joins_64 : decode cX10_joins 64 = .ok (.istore_n 2, 1) := by decide +kernel
theorem dX10_joins_65 : decode cX10_joins 65 = .ok (.aload_n 0, 1) := by decide +kernel
theorem dX10_joins_66 : decode cX10_joins 66 = .ok (.getfield 75, 3) := by decide +kernel
theorem dX10_joins_69 : decode cX10_joins 69 = .ok (.bipush 8, 2) := by decide +kernel
theorem dX10_joins_71 : decode cX10_joins 71 = .ok (.aload_n 0, 1) := by decide +kernel
theorem dX10_joins_72 : decode cX10_joins 72 = .ok (.getfield 31, 3) := by decide +kernel
theorem dX10_joins_75 : decode cX10_joins 75 = .ok (.iconst 4, 1) := by decide +kernel
theorem dX10_joins_76 : decode cX10_joins 76 = .ok (.iload_n 1, 1) := by decide +kernel
theorem dX10_joins_77 : decode cX10_joins 77 = .ok (.imul, 1) := by decide +kernel
theorem dX10_joins_78 : decode cX10_joins 78 = .ok (.iconst 2, 1) := by decide +kernel
theorem dX10_joins_79 : decode cX10_joins 79 = .ok (.iadd, 1) := by decide +kernel
theorem dX10_joins_80 : decode cX10_joins 80 = .ok (.iaload, 1) := by decide +kernel
theorem dX10_joins_81 : decode cX10_joins 81 = .ok (.imul, 1) := by decide +kernel
theorem dX10_joins_82 : decode cX10_joins 82 = .ok (.aload_n 0, 1) := by decide +kernel
theorem dX10_joins_83 : decode cX10_joins 83 = .ok (.getfield 31, 3) := by decide +kernel
theorem dX10_joins_86 : decode cX10_joins 86 = .ok (.iconst 4, 1) := by decide +kernel
theorem dX10_joins_87 : decode cX10_joins 87 = .ok (.iload_n 1, 1) := by decide +kernel
theorem dX10_joins_88 : decode cX10_joins 88 = .ok (.imul, 1) := by decide +kernel
theorem dX10_joins_89 : decode cX10_joins 89 = .ok (.iconst 3, 1) := by decide +kernel
theorem dX10_joins_90 : decode cX10_joins 90 = .ok (.iadd, 1) := by decide +kernel
theorem dX10_joins_91 : decode cX10_joins 91 = .ok (.iaload, 1) := by decide +kernel
theorem dX10_joins_92 : decode cX10_joins 92 = .ok (.iadd, 1) := by decide +kernel
theorem dX10_joins_93 : decode cX10_joins 93 = .ok (.iaload, 1) := by decide +kernel
theorem dX10_joins_94 : decode cX10_joins 94 = .ok (.istore_n 3, 1) := by decide +kernel
theorem dX10_joins_95 : decode cX10_joins 95 = .ok (.iconst 0, 1) := by decide +kernel
theorem dX10_joins_96 : decode cX10_joins 96 = .ok (.istore 4, 2) := by decide +kernel
theorem dX10_joins_98 : decode cX10_joins 98 = .ok (.iload 4, 2) := by decide +kernel
theorem dX10_joins_100 : decode cX10_joins 100 = .ok (.bipush 48, 2) := by decide +kernel
theorem dX10_joins_102 : decode cX10_joins 102 = .ok (.if_icmp .ge 55, 3) := by decide +kernel
theorem dX10_joins_105 : decode cX10_joins 105 = .ok (.iconst 2, 1) := by decide +kernel
theorem dX10_joins_106 : decode cX10_joins 106 = .ok (.aload_n 0, 1) := by decide +kernel
theorem dX10_joins_107 : decode cX10_joins 107 = .ok (.getfield 72, 3) := by decide +kernel
theorem dX10_joins_110 : decode cX10_joins 110 = .ok (.iload_n 1, 1) := by decide +kernel
theorem dX10_joins_111 : decode cX10_joins 111 = .ok (.iaload, 1) := by decide +kernel
theorem dX10_joins_112 : decode cX10_joins 112 = .ok (.imul, 1) := by decide +kernel
theorem dX10_joins_113 : decode cX10_joins 113 = .ok (.aload_n 0, 1) := by decide +kernel
theorem dX10_joins_114 : decode cX10_joins 114 = .ok (.getfield 69, 3) := by decide +kernel
theorem dX10_joins_117 : decode cX10_joins 117 = .ok (.iload_n 1, 1) := by decide +kernel
theorem dX10_joins_118 : decode cX10_joins 118 = .ok (.iaload, 1) := by decide +kernel
theorem dX10_joins_119 : decode cX10_joins 119 = .ok (.if_icmp .gt 38, 3) := by decide +kernel
theorem dX10_joins_122 : decode cX10_joins 122 = .ok (.aload_n 0, 1) := by decide +kernel
theorem dX10_joins_123 : decode cX10_joins 123 = .ok (.getfield 75, 3) := by decide +kernel
theorem dX10_joins_126 : decode cX10_joins 126 = .ok (.iload 4, 2) := by decide +kernel
theorem dX10_joins_128 : decode cX10_joins 128 = .ok (.aload_n 0, 1) := by decide +kernel
theorem dX10_joins_129 : decode cX10_joins 129 = .ok (.getfield 75, 3) := by decide +kernel
theorem dX10_joins_132 : decode cX10_joins 132 = .ok (.iload 4, 2) := by decide +kernel
theorem dX10_joins_134 : decode cX10_joins 134 = .ok (.iaload, 1) := by decide +kernel
theorem dX10_joins_135 : decode cX10_joins 135 = .ok (.iload_n 2, 1) := by decide +kernel
theorem dX10_joins_136 : decode cX10_joins 136 = .ok (.if_icmp .ne 7, 3) := by decide +kernel
theorem dX10_joins_139 : decode cX10_joins 139 = .ok (.iload_n 3, 1) := by decide +kernel
theorem dX10_joins_140 : decode cX10_joins 140 = .ok (.goto 10, 3) := by decide +kernel
theorem dX10_joins_143 : decode cX10_joins 143 = .ok (.aload_n 0, 1) := by decide +kernel
theorem dX10_joins_144 : decode cX10_joins 144 = .ok (.getfield 75, 3) := by decide +kernel
theorem dX10_joins_147 : decode cX10_joins 147 = .ok (.iload 4, 2) := by decide +kernel
theorem dX10_joins_149 : decode cX10_joins 149 = .ok (.iaload, 1) := by decide +kernel
theorem dX10_joins_150 : decode cX10_joins 150 = .ok (.iastore, 1) := by decide +kernel
theorem dX10_joins_151 : decode cX10_joins 151 = .ok (.iinc 4 1, 3) := by decide +kernel
theorem dX10_joins_154 : decode cX10_joins 154 = .ok (.goto (-56), 3) := by decide +kernel
theorem dX10_joins_157 : decode cX10_joins 157 = .ok (.iinc 1 1, 3) := by decide +kernel
theorem dX10_joins_160 : decode cX10_joins 160 = .ok (.goto (-133), 3) := by decide +kernel
theorem dX10_joins_163 : decode cX10_joins 163 = .ok (.return_, 1) := by decide +kernel
theorem dX10_sets_0 : decode cX10_sets 0 = .ok (.aload_n 0, 1) := by decide +kernel
theorem dX10_sets_1 : decode cX10_sets 1 = .ok (.invokevirtual 211, 3) := by decide +kernel
theorem dX10_sets_4 : decode cX10_sets 4 = .ok (.iconst 0, 1) := by decide +kernel
theorem dX10_sets_5 : decode cX10_sets 5 = .ok (.istore_n 1, 1) := by decide +kernel
theorem dX10_sets_6 : decode cX10_sets 6 = .ok (.iconst 0, 1) := by decide +kernel
theorem dX10_sets_7 : decode cX10_sets 7 = .ok (.istore_n 2, 1) := by decide +kernel
theorem dX10_sets_8 : decode cX10_sets 8 = .ok (.iload_n 2, 1) := by decide +kernel
theorem dX10_sets_9 : decode cX10_sets 9 = .ok (.bipush 48, 2) := by decide +kernel
theorem dX10_sets_11 : decode cX10_sets 11 = .ok (.if_icmp .ge 92, 3) := by decide +kernel
theorem dX10_sets_14 : decode cX10_sets 14 = .ok (.aload_n 0, 1) := by decide +kernel
theorem dX10_sets_15 : decode cX10_sets 15 = .ok (.iload_n 2, 1) := by decide +kernel
theorem dX10_sets_16 : decode cX10_sets 16 = .ok (.bipush 8, 2) := by decide +kernel
theorem dX10_sets_18 : decode cX10_sets 18 = .ok (.idiv, 1) := by decide +kernel
theorem dX10_sets_19 : decode cX10_sets 19 = .ok (.iload_n 2, 1) := by decide +kernel
theorem dX10_sets_20 : decode cX10_sets 20 = .ok (.bipush 8, 2) := by decide +kernel
theorem dX10_sets_22 : decode cX10_sets 22 = .ok (.irem, 1) := by decide +kernel
theorem dX10_sets_23 : decode cX10_sets 23 = .ok (.invokevirtual 97, 3) := by decide +kernel
theorem dX10_sets_26 : decode cX10_sets 26 = .ok (.istore_n 3, 1) := by decide +kernel
theorem dX10_sets_27 : decode cX10_sets 27 = .ok (.iconst 0, 1) := by decide +kernel
theorem dX10_sets_28 : decode cX10_sets 28 = .ok (.istore 4, 2) := by decide +kernel
theorem dX10_sets_30 : decode cX10_sets 30 = .ok (.iload 4, 2) := by decide +kernel
theorem dX10_sets_32 : decode cX10_sets 32 = .ok (.iload_n 2, 1) := by decide +kernel
theorem dX10_sets_33 : decode cX10_sets 33 = .ok (.if_icmp .ge 52, 3) := by decide +kernel
theorem dX10_sets_36 : decode cX10_sets 36 = .ok (.iload_n 3, 1) := by decide +kernel
theorem dX10_sets_37 : decode cX10_sets 37 = .ok (.ifCond .eq 40, 3) := by decide +kernel
theorem dX10_sets_40 : decode cX10_sets 40 = .ok (.aload_n 0, 1) := by decide +kernel
theorem dX10_sets_41 : decode cX10_sets 41 = .ok (.iload 4, 2) := by decide +kernel
theorem dX10_sets_43 : decode cX10_sets 43 = .ok (.bipush 8, 2) := by decide +kernel
theorem dX10_sets_45 : decode cX10_sets 45 = .ok (.idiv, 1) := by decide +kernel
theorem dX10_sets_46 : decode cX10_sets 46 = .ok (.iload 4, 2) := by decide +kernel
theorem dX10_sets_48 : decode cX10_sets 48 = .ok (.bipush 8, 2) := by decide +kernel
theorem dX10_sets_50 : decode cX10_sets 50 = .ok (.irem, 1) := by decide +kernel
theorem dX10_sets_51 : decode cX10_sets 51 = .ok (.invokevirtual 97, 3) := by decide +kernel
theorem dX10_sets_54 : decode cX10_sets 54 = .ok (.ifCond .eq 19, 3) := by decide +kernel
theorem dX10_sets_57 : decode cX10_sets 57 = .ok (.aload_n 0, 1) := by decide +kernel
theorem dX10_sets_58 : decode cX10_sets 58 = .ok (.getfield 75, 3) := by decide +kernel
theorem dX10_sets_61 : decode cX10_sets 61 = .ok (.iload 4, 2) := by decide +kernel
theorem dX10_sets_63 : decode cX10_sets 63 = .ok (.iaload, 1) := by decide +kernel
theorem dX10_sets_64 : decode cX10_sets 64 = .ok (.aload_n 0, 1) := by decide +kernel
theorem dX10_sets_65 : decode cX10_sets 65 = .ok (.getfield 75, 3) := by decide +kernel
theorem dX10_sets_68 : decode cX10_sets 68 = .ok (.iload_n 2, 1) := by decide +kernel
theorem dX10_sets_69 : decode cX10_sets 69 = .ok (.iaload, 1) := by decide +kernel
theorem dX10_sets_70 : decode cX10_sets 70 = .ok (.if_icmp .eq 7, 3) := by decide +kernel
theorem dX10_sets_73 : decode cX10_sets 73 = .ok (.iconst 1, 1) := by decide +kernel
theorem dX10_sets_74 : decode cX10_sets 74 = .ok (.goto 4, 3) := by decide +kernel
theorem dX10_sets_77 : decode cX10_sets 77 = .ok (.iconst 0, 1) := by decide +kernel
theorem dX10_sets_78 : decode cX10_sets 78 = .ok (.istore_n 3, 1) := by decide +kernel
theorem dX10_sets_79 : decode cX10_sets 79 = .ok (.iinc 4 1, 3) := by decide +kernel
theorem dX10_sets_82 : decode cX10_sets 82 = .ok (.goto (-52), 3) := by decide +kernel
theorem dX10_sets_85 : decode cX10_sets 85 = .ok (.iload_n 1, 1) := by decide +kernel
theorem dX10_sets_86 : decode cX10_sets 86 = .ok (.iload_n 3, 1) := by decide +kernel
theorem dX10_sets_87 : decode cX10_sets 87 = .ok (.ifCond .eq 7, 3) := by decide +kernel
theorem dX10_sets_90 : decode cX10_sets 90 = .ok (.iconst 1, 1) := by decide +kernel
theorem dX10_sets_91 : decode cX10_sets 91 = .ok (.goto 4, 3) := by decide +kernel
theorem dX10_sets_94 : decode cX10_sets 94 = .ok (.iconst 0, 1) := by decide +kernel
theorem dX10_sets_95 : decode cX10_sets 95 = .ok (.iadd, 1) := by decide +kernel
theorem dX10_sets_96 : decode cX10_sets 96 = .ok (.istore_n 1, 1) := by decide +kernel
theorem dX10_sets_97 : decode cX10_sets 97 = .ok (.iinc 2 1, 3) := by decide +kernel
theorem dX10_sets_100 : decode cX10_sets 100 = .ok (.goto (-92), 3) := by decide +kernel
theorem dX10_sets_103 : decode cX10_sets 103 = .ok (.iload_n 1, 1) := by decide +kernel
theorem dX10_sets_104 : decode cX10_sets 104 = .ok (.ireturn, 1) := by decide +kernel
theorem dX10_alike_0 : decode cX10_alike 0 = .ok (.aload_n 0, 1) := by decide +kernel
theorem dX10_alike_1 : decode cX10_alike 1 = .ok (.iload_n 1, 1) := by decide +kernel
theorem dX10_alike_2 : decode cX10_alike 2 = .ok (.iload_n 2, 1) := by decide +kernel
theorem dX10_alike_3 : decode cX10_alike 3 = .ok (.invokevirtual 97, 3) := by decide +kernel
theorem dX10_alike_6 : decode cX10_alike 6 = .ok (.ifCond .eq 13, 3) := by decide +kernel
theorem dX10_alike_9 : decode cX10_alike 9 = .ok (.aload_n 0, 1) := by decide +kernel
theorem dX10_alike_10 : decode cX10_alike 10 = .ok (.iload_n 3, 1) := by decide +kernel
theorem dX10_alike_11 : decode cX10_alike 11 = .ok (.iload 4, 2) := by decide +kernel
theorem dX10_alike_13 : decode cX10_alike 13 = .ok (.invokevirtual 97, 3) := by decide +kernel
theorem dX10_alike_16 : decode cX10_alike 16 = .ok (.ifCond .ne 10, 3) := by decide +kernel
theorem dX10_alike_19 : decode cX10_alike 19 = .ok (.aload_n 0, 1) := by decide +kernel
theorem dX10_alike_20 : decode cX10_alike 20 = .ok (.bipush (-2), 2) := by decide +kernel
theorem dX10_alike_22 : decode cX10_alike 22 = .ok (.invokevirtual 86, 3) := by decide +kernel
theorem dX10_alike_25 : decode cX10_alike 25 = .ok (.ireturn, 1) := by decide +kernel
theorem dX10_alike_26 : decode cX10_alike 26 = .ok (.aload_n 0, 1) := by decide +kernel
theorem dX10_alike_27 : decode cX10_alike 27 = .ok (.invokevirtual 211, 3) := by decide +kernel
theorem dX10_alike_30 : decode cX10_alike 30 = .ok (.aload_n 0, 1) := by decide +kernel
theorem dX10_alike_31 : decode cX10_alike 31 = .ok (.getfield 75, 3) := by decide +kernel
theorem dX10_alike_34 : decode cX10_alike 34 = .ok (.bipush 8, 2) := by decide +kernel
theorem dX10_alike_36 : decode cX10_alike 36 = .ok (.iload_n 1, 1) := by decide +kernel
theorem dX10_alike_37 : decode cX10_alike 37 = .ok (.imul, 1) := by decide +kernel
theorem dX10_alike_38 : decode cX10_alike 38 = .ok (.iload_n 2, 1) := by decide +kernel
theorem dX10_alike_39 : decode cX10_alike 39 = .ok (.iadd, 1) := by decide +kernel
theorem dX10_alike_40 : decode cX10_alike 40 = .ok (.iaload, 1) := by decide +kernel
theorem dX10_alike_41 : decode cX10_alike 41 = .ok (.aload_n 0, 1) := by decide +kernel
theorem dX10_alike_42 : decode cX10_alike 42 = .ok (.getfield 75, 3) := by decide +kernel
theorem dX10_alike_45 : decode cX10_alike 45 = .ok (.bipush 8, 2) := by decide +kernel
theorem dX10_alike_47 : decode cX10_alike 47 = .ok (.iload_n 3, 1) := by decide +kernel
theorem dX10_alike_48 : decode cX10_alike 48 = .ok (.imul, 1) := by decide +kernel
theorem dX10_alike_49 : decode cX10_alike 49 = .ok (.iload 4, 2) := by decide +kernel
theorem dX10_alike_51 : decode cX10_alike 51 = .ok (.iadd, 1) := by decide +kernel
theorem dX10_alike_52 : decode cX10_alike 52 = .ok (.iaload, 1) := by decide +kernel
theorem dX10_alike_53 : decode cX10_alike 53 = .ok (.if_icmp .ne 7, 3) := by decide +kernel
theorem dX10_alike_56 : decode cX10_alike 56 = .ok (.iconst 1, 1) := by decide +kernel
theorem dX10_alike_57 : decode cX10_alike 57 = .ok (.goto 4, 3) := by decide +kernel
theorem dX10_alike_60 : decode cX10_alike 60 = .ok (.iconst 0, 1) := by decide +kernel
theorem dX10_alike_61 : decode cX10_alike 61 = .ok (.ireturn, 1) := by decide +kernel
theorem dX10_part_0 : decode cX10_part 0 = .ok (.iload_n 1, 1) := by decide +kernel
theorem dX10_part_1 : decode cX10_part 1 = .ok (.ifCond .ne 10, 3) := by decide +kernel
theorem dX10_part_4 : decode cX10_part 4 = .ok (.aload_n 0, 1) := by decide +kernel
theorem dX10_part_5 : decode cX10_part 5 = .ok (.getfield 184, 3) := by decide +kernel
theorem dX10_part_8 : decode cX10_part 8 = .ok (.goto 21, 3) := by decide +kernel
theorem dX10_part_11 : decode cX10_part 11 = .ok (.iload_n 1, 1) := by decide +kernel
theorem dX10_part_12 : decode cX10_part 12 = .ok (.iconst 1, 1) := by decide +kernel
theorem dX10_part_13 : decode cX10_part 13 = .ok (.if_icmp .ne 10, 3) := by decide +kernel
theorem dX10_part_16 : decode cX10_part 16 = .ok (.aload_n 0, 1) := by decide +kernel
theorem dX10_part_17 : decode cX10_part 17 = .ok (.getfield 44, 3) := by decide +kernel
theorem dX10_part_20 : decode cX10_part 20 = .ok (.goto 9, 3) := by decide +kernel
theorem dX10_part_23 : decode cX10_part 23 = .ok (.aload_n 0, 1) := by decide +kernel
theorem dX10_part_24 : decode cX10_part 24 = .ok (.bipush (-2), 2) := by decide +kernel
theorem dX10_part_26 : decode cX10_part 26 = .ok (.invokevirtual 86, 3) := by decide +kernel
theorem dX10_part_29 : decode cX10_part 29 = .ok (.ireturn, 1) := by decide +kernel
theorem dX10_copies_0 : decode cX10_copies 0 = .ok (.aload_n 0, 1) := by decide +kernel
theorem dX10_copies_1 : decode cX10_copies 1 = .ok (.getfield 7, 3) := by decide +kernel
theorem dX10_copies_4 : decode cX10_copies 4 = .ok (.iload_n 2, 1) := by decide +kernel
theorem dX10_copies_5 : decode cX10_copies 5 = .ok (.aload_n 0, 1) := by decide +kernel
theorem dX10_copies_6 : decode cX10_copies 6 = .ok (.getfield 7, 3) := by decide +kernel
theorem dX10_copies_9 : decode cX10_copies 9 = .ok (.iload_n 1, 1) := by decide +kernel
theorem dX10_copies_10 : decode cX10_copies 10 = .ok (.iaload, 1) := by decide +kernel
theorem dX10_copies_11 : decode cX10_copies 11 = .ok (.iastore, 1) := by decide +kernel
theorem dX10_copies_12 : decode cX10_copies 12 = .ok (.aload_n 0, 1) := by decide +kernel
theorem dX10_copies_13 : decode cX10_copies 13 = .ok (.getfield 13, 3) := by decide +kernel
theorem dX10_copies_16 : decode cX10_copies 16 = .ok (.iload_n 2, 1) := by decide +kernel
theorem dX10_copies_17 : decode cX10_copies 17 = .ok (.aload_n 0, 1) := by decide +kernel
theorem dX10_copies_18 : decode cX10_copies 18 = .ok (.getfield 13, 3) := by decide +kernel
theorem dX10_copies_21 : decode cX10_copies 21 = .ok (.iload_n 1, 1) := by decide +kernel
theorem dX10_copies_22 : decode cX10_copies 22 = .ok (.iaload, 1) := by decide +kernel
theorem dX10_copies_23 : decode cX10_copies 23 = .ok (.iastore, 1) := by decide +kernel
theorem dX10_copies_24 : decode cX10_copies 24 = .ok (.aload_n 0, 1) := by decide +kernel
theorem dX10_copies_25 : decode cX10_copies 25 = .ok (.getfield 16, 3) := by decide +kernel
theorem dX10_copies_28 : decode cX10_copies 28 = .ok (.iload_n 2, 1) := by decide +kernel
theorem dX10_copies_29 : decode cX10_copies 29 = .ok (.aload_n 0, 1) := by decide +kernel
theorem dX10_copies_30 : decode cX10_copies 30 = .ok (.getfield 16, 3) := by decide +kernel
theorem dX10_copies_33 : decode cX10_copies 33 = .ok (.iload_n 1, 1) := by decide +kernel
theorem dX10_copies_34 : decode cX10_copies 34 = .ok (.iaload, 1) := by decide +kernel
theorem dX10_copies_35 : decode cX10_copies 35 = .ok (.iastore, 1) := by decide +kernel
theorem dX10_copies_36 : decode cX10_copies 36 = .ok (.aload_n 0, 1) := by decide +kernel
theorem dX10_copies_37 : decode cX10_copies 37 = .ok (.getfield 19, 3) := by decide +kernel
theorem dX10_copies_40 : decode cX10_copies 40 = .ok (.iload_n 2, 1) := by decide +kernel
theorem dX10_copies_41 : decode cX10_copies 41 = .ok (.aload_n 0, 1) := by decide +kernel
theorem dX10_copies_42 : decode cX10_copies 42 = .ok (.getfield 19, 3) := by decide +kernel
theorem dX10_copies_45 : decode cX10_copies 45 = .ok (.iload_n 1, 1) := by decide +kernel
theorem dX10_copies_46 : decode cX10_copies 46 = .ok (.iaload, 1) := by decide +kernel
theorem dX10_copies_47 : decode cX10_copies 47 = .ok (.iastore, 1) := by decide +kernel
theorem dX10_copies_48 : decode cX10_copies 48 = .ok (.iconst 0, 1) := by decide +kernel
theorem dX10_copies_49 : decode cX10_copies 49 = .ok (.istore_n 3, 1) := by decide +kernel
theorem dX10_copies_50 : decode cX10_copies 50 = .ok (.iload_n 3, 1) := by decide +kernel
theorem dX10_copies_51 : decode cX10_copies 51 = .ok (.sipush 144, 3) := by decide +kernel
theorem dX10_copies_54 : decode cX10_copies 54 = .ok (.if_icmp .ge 173, 3) := by decide +kernel
theorem dX10_copies_57 : decode cX10_copies 57 = .ok (.aload_n 0, 1) := by decide +kernel
theorem dX10_copies_58 : decode cX10_copies 58 = .ok (.getfield 25, 3) := by decide +kernel
theorem dX10_copies_61 : decode cX10_copies 61 = .ok (.sipush 144, 3) := by decide +kernel
theorem dX10_copies_64 : decode cX10_copies 64 = .ok (.iload_n 2, 1) := by decide +kernel
theorem dX10_copies_65 : decode cX10_copies 65 = .ok (.imul, 1) := by decide +kernel
theorem dX10_copies_66 : decode cX10_copies 66 = .ok (.iload_n 3, 1) := by decide +kernel
theorem dX10_copies_67 : decode cX10_copies 67 = .ok (.iadd, 1) := by decide +kernel
theorem dX10_copies_68 : decode cX10_copies 68 = .ok (.aload_n 0, 1) := by decide +kernel
theorem dX10_copies_69 : decode cX10_copies 69 = .ok (.getfield 25, 3) := by decide +kernel
theorem dX10_copies_72 : decode cX10_copies 72 = .ok (.sipush 144, 3) := by decide +kernel
theorem dX10_copies_75 : decode cX10_copies 75 = .ok (.iload_n 1, 1) := by decide +kernel
theorem dX10_copies_76 : decode cX10_copies 76 = .ok (.imul, 1) := by decide +kernel
theorem dX10_copies_77 : decode cX10_copies 77 = .ok (.iload_n 3, 1) := by decide +kernel
theorem dX10_copies_78 : decode cX10_copies 78 = .ok (.iadd, 1) := by decide +kernel
theorem dX10_copies_79 : decode cX10_copies 79 = .ok (.iaload, 1) := by decide +kernel
theorem dX10_copies_80 : decode cX10_copies 80 = .ok (.iastore, 1) := by decide +kernel
theorem dX10_copies_81 : decode cX10_copies 81 = .ok (.iload_n 3, 1) := by decide +kernel
theorem dX10_copies_82 : decode cX10_copies 82 = .ok (.bipush 24, 2) := by decide +kernel
theorem dX10_copies_84 : decode cX10_copies 84 = .ok (.if_icmp .ge 25, 3) := by decide +kernel
theorem dX10_copies_87 : decode cX10_copies 87 = .ok (.aload_n 0, 1) := by decide +kernel
theorem dX10_copies_88 : decode cX10_copies 88 = .ok (.getfield 22, 3) := by decide +kernel
theorem dX10_copies_91 : decode cX10_copies 91 = .ok (.bipush 24, 2) := by decide +kernel
theorem dX10_copies_93 : decode cX10_copies 93 = .ok (.iload_n 2, 1) := by decide +kernel
theorem dX10_copies_94 : decode cX10_copies 94 = .ok (.imul, 1) := by decide +kernel
theorem dX10_copies_95 : decode cX10_copies 95 = .ok (.iload_n 3, 1) := by decide +kernel
theorem dX10_copies_96 : decode cX10_copies 96 = .ok (.iadd, 1) := by decide +kernel
theorem dX10_copies_97 : decode cX10_copies 97 = .ok (.aload_n 0, 1) := by decide +kernel
theorem dX10_copies_98 : decode cX10_copies 98 = .ok (.getfield 22, 3) := by decide +kernel
theorem dX10_copies_101 : decode cX10_copies 101 = .ok (.bipush 24, 2) := by decide +kernel
theorem dX10_copies_103 : decode cX10_copies 103 = .ok (.iload_n 1, 1) := by decide +kernel
theorem dX10_copies_104 : decode cX10_copies 104 = .ok (.imul, 1) := by decide +kernel
theorem dX10_copies_105 : decode cX10_copies 105 = .ok (.iload_n 3, 1) := by decide +kernel
theorem dX10_copies_106 : decode cX10_copies 106 = .ok (.iadd, 1) := by decide +kernel
theorem dX10_copies_107 : decode cX10_copies 107 = .ok (.iaload, 1) := by decide +kernel
theorem dX10_copies_108 : decode cX10_copies 108 = .ok (.iastore, 1) := by decide +kernel
theorem dX10_copies_109 : decode cX10_copies 109 = .ok (.iload_n 3, 1) := by decide +kernel
theorem dX10_copies_110 : decode cX10_copies 110 = .ok (.bipush 60, 2) := by decide +kernel
theorem dX10_copies_112 : decode cX10_copies 112 = .ok (.if_icmp .ge 25, 3) := by decide +kernel
theorem dX10_copies_115 : decode cX10_copies 115 = .ok (.aload_n 0, 1) := by decide +kernel
theorem dX10_copies_116 : decode cX10_copies 116 = .ok (.getfield 28, 3) := by decide +kernel
theorem dX10_copies_119 : decode cX10_copies 119 = .ok (.bipush 60, 2) := by decide +kernel
theorem dX10_copies_121 : decode cX10_copies 121 = .ok (.iload_n 2, 1) := by decide +kernel
theorem dX10_copies_122 : decode cX10_copies 122 = .ok (.imul, 1) := by decide +kernel
theorem dX10_copies_123 : decode cX10_copies 123 = .ok (.iload_n 3, 1) := by decide +kernel
theorem dX10_copies_124 : decode cX10_copies 124 = .ok (.iadd, 1) := by decide +kernel
theorem dX10_copies_125 : decode cX10_copies 125 = .ok (.aload_n 0, 1) := by decide +kernel
theorem dX10_copies_126 : decode cX10_copies 126 = .ok (.getfield 28, 3) := by decide +kernel
theorem dX10_copies_129 : decode cX10_copies 129 = .ok (.bipush 60, 2) := by decide +kernel
theorem dX10_copies_131 : decode cX10_copies 131 = .ok (.iload_n 1, 1) := by decide +kernel
theorem dX10_copies_132 : decode cX10_copies 132 = .ok (.imul, 1) := by decide +kernel
theorem dX10_copies_133 : decode cX10_copies 133 = .ok (.iload_n 3, 1) := by decide +kernel
theorem dX10_copies_134 : decode cX10_copies 134 = .ok (.iadd, 1) := by decide +kernel
theorem dX10_copies_135 : decode cX10_copies 135 = .ok (.iaload, 1) := by decide +kernel
theorem dX10_copies_136 : decode cX10_copies 136 = .ok (.iastore, 1) := by decide +kernel
theorem dX10_copies_137 : decode cX10_copies 137 = .ok (.iload_n 3, 1) := by decide +kernel
theorem dX10_copies_138 : decode cX10_copies 138 = .ok (.bipush 96, 2) := by decide +kernel
theorem dX10_copies_140 : decode cX10_copies 140 = .ok (.if_icmp .ge 25, 3) := by decide +kernel
theorem dX10_copies_143 : decode cX10_copies 143 = .ok (.aload_n 0, 1) := by decide +kernel
theorem dX10_copies_144 : decode cX10_copies 144 = .ok (.getfield 31, 3) := by decide +kernel
theorem dX10_copies_147 : decode cX10_copies 147 = .ok (.bipush 96, 2) := by decide +kernel
theorem dX10_copies_149 : decode cX10_copies 149 = .ok (.iload_n 2, 1) := by decide +kernel
theorem dX10_copies_150 : decode cX10_copies 150 = .ok (.imul, 1) := by decide +kernel
theorem dX10_copies_151 : decode cX10_copies 151 = .ok (.iload_n 3, 1) := by decide +kernel
theorem dX10_copies_152 : decode cX10_copies 152 = .ok (.iadd, 1) := by decide +kernel
theorem dX10_copies_153 : decode cX10_copies 153 = .ok (.aload_n 0, 1) := by decide +kernel
theorem dX10_copies_154 : decode cX10_copies 154 = .ok (.getfield 31, 3) := by decide +kernel
theorem dX10_copies_157 : decode cX10_copies 157 = .ok (.bipush 96, 2) := by decide +kernel
theorem dX10_copies_159 : decode cX10_copies 159 = .ok (.iload_n 1, 1) := by decide +kernel
theorem dX10_copies_160 : decode cX10_copies 160 = .ok (.imul, 1) := by decide +kernel
theorem dX10_copies_161 : decode cX10_copies 161 = .ok (.iload_n 3, 1) := by decide +kernel
theorem dX10_copies_162 : decode cX10_copies 162 = .ok (.iadd, 1) := by decide +kernel
theorem dX10_copies_163 : decode cX10_copies 163 = .ok (.iaload, 1) := by decide +kernel
theorem dX10_copies_164 : decode cX10_copies 164 = .ok (.iastore, 1) := by decide +kernel
theorem dX10_copies_165 : decode cX10_copies 165 = .ok (.iload_n 3, 1) := by decide +kernel
theorem dX10_copies_166 : decode cX10_copies 166 = .ok (.bipush 16, 2) := by decide +kernel
theorem dX10_copies_168 : decode cX10_copies 168 = .ok (.if_icmp .ge 25, 3) := by decide +kernel
theorem dX10_copies_171 : decode cX10_copies 171 = .ok (.aload_n 0, 1) := by decide +kernel
theorem dX10_copies_172 : decode cX10_copies 172 = .ok (.getfield 34, 3) := by decide +kernel
theorem dX10_copies_175 : decode cX10_copies 175 = .ok (.bipush 16, 2) := by decide +kernel
theorem dX10_copies_177 : decode cX10_copies 177 = .ok (.iload_n 2, 1) := by decide +kernel
theorem dX10_copies_178 : decode cX10_copies 178 = .ok (.imul, 1) := by decide +kernel
theorem dX10_copies_179 : decode cX10_copies 179 = .ok (.iload_n 3, 1) := by decide +kernel
theorem dX10_copies_180 : decode cX10_copies 180 = .ok (.iadd, 1) := by decide +kernel
theorem dX10_copies_181 : decode cX10_copies 181 = .ok (.aload_n 0, 1) := by decide +kernel
theorem dX10_copies_182 : decode cX10_copies 182 = .ok (.getfield 34, 3) := by decide +kernel
theorem dX10_copies_185 : decode cX10_copies 185 = .ok (.bipush 16, 2) := by decide +kernel
theorem dX10_copies_187 : decode cX10_copies 187 = .ok (.iload_n 1, 1) := by decide +kernel
theorem dX10_copies_188 : decode cX10_copies 188 = .ok (.imul, 1) := by decide +kernel
theorem dX10_copies_189 : decode cX10_copies 189 = .ok (.iload_n 3, 1) := by decide +kernel
theorem dX10_copies_190 : decode cX10_copies 190 = .ok (.iadd, 1) := by decide +kernel
theorem dX10_copies_191 : decode cX10_copies 191 = .ok (.iaload, 1) := by decide +kernel
theorem dX10_copies_192 : decode cX10_copies 192 = .ok (.iastore, 1) := by decide +kernel
theorem dX10_copies_193 : decode cX10_copies 193 = .ok (.iload_n 3, 1) := by decide +kernel
theorem dX10_copies_194 : decode cX10_copies 194 = .ok (.bipush 12, 2) := by decide +kernel
theorem dX10_copies_196 : decode cX10_copies 196 = .ok (.if_icmp .ge 25, 3) := by decide +kernel
theorem dX10_copies_199 : decode cX10_copies 199 = .ok (.aload_n 0, 1) := by decide +kernel
theorem dX10_copies_200 : decode cX10_copies 200 = .ok (.getfield 37, 3) := by decide +kernel
theorem dX10_copies_203 : decode cX10_copies 203 = .ok (.bipush 12, 2) := by decide +kernel
theorem dX10_copies_205 : decode cX10_copies 205 = .ok (.iload_n 2, 1) := by decide +kernel
theorem dX10_copies_206 : decode cX10_copies 206 = .ok (.imul, 1) := by decide +kernel
theorem dX10_copies_207 : decode cX10_copies 207 = .ok (.iload_n 3, 1) := by decide +kernel
theorem dX10_copies_208 : decode cX10_copies 208 = .ok (.iadd, 1) := by decide +kernel
theorem dX10_copies_209 : decode cX10_copies 209 = .ok (.aload_n 0, 1) := by decide +kernel
theorem dX10_copies_210 : decode cX10_copies 210 = .ok (.getfield 37, 3) := by decide +kernel
theorem dX10_copies_213 : decode cX10_copies 213 = .ok (.bipush 12, 2) := by decide +kernel
theorem dX10_copies_215 : decode cX10_copies 215 = .ok (.iload_n 1, 1) := by decide +kernel
theorem dX10_copies_216 : decode cX10_copies 216 = .ok (.imul, 1) := by decide +kernel
theorem dX10_copies_217 : decode cX10_copies 217 = .ok (.iload_n 3, 1) := by decide +kernel
theorem dX10_copies_218 : decode cX10_copies 218 = .ok (.iadd, 1) := by decide +kernel
theorem dX10_copies_219 : decode cX10_copies 219 = .ok (.iaload, 1) := by decide +kernel
theorem dX10_copies_220 : decode cX10_copies 220 = .ok (.iastore, 1) := by decide +kernel
theorem dX10_copies_221 : decode cX10_copies 221 = .ok (.iinc 3 1, 3) := by decide +kernel
theorem dX10_copies_224 : decode cX10_copies 224 = .ok (.goto (-174), 3) := by decide +kernel
theorem dX10_copies_227 : decode cX10_copies 227 = .ok (.return_, 1) := by decide +kernel
theorem dX10_image_0 : decode cX10_image 0 = .ok (.iload_n 1, 1) := by decide +kernel
theorem dX10_image_1 : decode cX10_image 1 = .ok (.iconst 0, 1) := by decide +kernel
theorem dX10_image_2 : decode cX10_image 2 = .ok (.iconst 1, 1) := by decide +kernel
theorem dX10_image_3 : decode cX10_image 3 = .ok (.invokestatic 78, 3) := by decide +kernel
theorem dX10_image_6 : decode cX10_image 6 = .ok (.ifCond .ne 10, 3) := by decide +kernel
theorem dX10_image_9 : decode cX10_image 9 = .ok (.aload_n 0, 1) := by decide +kernel
theorem dX10_image_10 : decode cX10_image 10 = .ok (.bipush (-2), 2) := by decide +kernel
theorem dX10_image_12 : decode cX10_image 12 = .ok (.invokevirtual 86, 3) := by decide +kernel
theorem dX10_image_15 : decode cX10_image 15 = .ok (.ireturn, 1) := by decide +kernel
theorem dX10_image_16 : decode cX10_image 16 = .ok (.aload_n 0, 1) := by decide +kernel
theorem dX10_image_17 : decode cX10_image 17 = .ok (.iconst 0, 1) := by decide +kernel
theorem dX10_image_18 : decode cX10_image 18 = .ok (.iload_n 1, 1) := by decide +kernel
theorem dX10_image_19 : decode cX10_image 19 = .ok (.iconst 1, 1) := by decide +kernel
theorem dX10_image_20 : decode cX10_image 20 = .ok (.iadd, 1) := by decide +kernel
theorem dX10_image_21 : decode cX10_image 21 = .ok (.invokevirtual 214, 3) := by decide +kernel
theorem dX10_image_24 : decode cX10_image 24 = .ok (.aload_n 0, 1) := by decide +kernel
theorem dX10_image_25 : decode cX10_image 25 = .ok (.getfield 40, 3) := by decide +kernel
theorem dX10_image_28 : decode cX10_image 28 = .ok (.iload_n 1, 1) := by decide +kernel
theorem dX10_image_29 : decode cX10_image 29 = .ok (.iconst 1, 1) := by decide +kernel
theorem dX10_image_30 : decode cX10_image 30 = .ok (.bastore, 1) := by decide +kernel
theorem dX10_image_31 : decode cX10_image 31 = .ok (.iconst 1, 1) := by decide +kernel
theorem dX10_image_32 : decode cX10_image 32 = .ok (.ireturn, 1) := by decide +kernel
theorem dX10_from_0 : decode cX10_from 0 = .ok (.iload_n 1, 1) := by decide +kernel
theorem dX10_from_1 : decode cX10_from 1 = .ok (.iconst 0, 1) := by decide +kernel
theorem dX10_from_2 : decode cX10_from 2 = .ok (.iconst 1, 1) := by decide +kernel
theorem dX10_from_3 : decode cX10_from 3 = .ok (.invokestatic 78, 3) := by decide +kernel
theorem dX10_from_6 : decode cX10_from 6 = .ok (.ifCond .ne 10, 3) := by decide +kernel
theorem dX10_from_9 : decode cX10_from 9 = .ok (.aload_n 0, 1) := by decide +kernel
theorem dX10_from_10 : decode cX10_from 10 = .ok (.bipush (-2), 2) := by decide +kernel
theorem dX10_from_12 : decode cX10_from 12 = .ok (.invokevirtual 86, 3) := by decide +kernel
theorem dX10_from_15 : decode cX10_from 15 = .ok (.ireturn, 1) := by decide +kernel
theorem dX10_from_16 : decode cX10_from 16 = .ok (.aload_n 0, 1) := by decide +kernel
theorem dX10_from_17 : decode cX10_from 17 = .ok (.getfield 40, 3) := by decide +kernel
theorem dX10_from_20 : decode cX10_from 20 = .ok (.iload_n 1, 1) := by decide +kernel
theorem dX10_from_21 : decode cX10_from 21 = .ok (.baload, 1) := by decide +kernel
theorem dX10_from_22 : decode cX10_from 22 = .ok (.ifCond .ne 10, 3) := by decide +kernel
theorem dX10_from_25 : decode cX10_from 25 = .ok (.aload_n 0, 1) := by decide +kernel
theorem dX10_from_26 : decode cX10_from 26 = .ok (.bipush (-3), 2) := by decide +kernel
theorem dX10_from_28 : decode cX10_from 28 = .ok (.invokevirtual 136, 3) := by decide +kernel
theorem dX10_from_31 : decode cX10_from 31 = .ok (.ireturn, 1) := by decide +kernel
theorem dX10_from_32 : decode cX10_from 32 = .ok (.aload_n 0, 1) := by decide +kernel
theorem dX10_from_33 : decode cX10_from 33 = .ok (.iload_n 1, 1) := by decide +kernel
theorem dX10_from_34 : decode cX10_from 34 = .ok (.iconst 1, 1) := by decide +kernel
theorem dX10_from_35 : decode cX10_from 35 = .ok (.iadd, 1) := by decide +kernel
theorem dX10_from_36 : decode cX10_from 36 = .ok (.iconst 0, 1) := by decide +kernel
theorem dX10_from_37 : decode cX10_from 37 = .ok (.invokevirtual 214, 3) := by decide +kernel
theorem dX10_from_40 : decode cX10_from 40 = .ok (.iconst 1, 1) := by decide +kernel
theorem dX10_from_41 : decode cX10_from 41 = .ok (.ireturn, 1) := by decide +kernel
theorem dX10_status_0 : decode cX10_status 0 = .ok (.iload_n 1, 1) := by decide +kernel
theorem dX10_status_1 : decode cX10_status 1 = .ok (.iconst 0, 1) := by decide +kernel
theorem dX10_status_2 : decode cX10_status 2 = .ok (.iconst 2, 1) := by decide +kernel
theorem dX10_status_3 : decode cX10_status 3 = .ok (.invokestatic 78, 3) := by decide +kernel
theorem dX10_status_6 : decode cX10_status 6 = .ok (.ifCond .eq 12, 3) := by decide +kernel
theorem dX10_status_9 : decode cX10_status 9 = .ok (.aload_n 0, 1) := by decide +kernel
theorem dX10_status_10 : decode cX10_status 10 = .ok (.getfield 48, 3) := by decide +kernel
theorem dX10_status_13 : decode cX10_status 13 = .ok (.iload_n 1, 1) := by decide +kernel
theorem dX10_status_14 : decode cX10_status 14 = .ok (.iaload, 1) := by decide +kernel
theorem dX10_status_15 : decode cX10_status 15 = .ok (.goto 8, 3) := by decide +kernel
theorem dX10_status_18 : decode cX10_status 18 = .ok (.aload_n 0, 1) := by decide +kernel
theorem dX10_status_19 : decode cX10_status 19 = .ok (.iconst (-1), 1) := by decide +kernel
theorem dX10_status_20 : decode cX10_status 20 = .ok (.invokevirtual 86, 3) := by decide +kernel
theorem dX10_status_23 : decode cX10_status 23 = .ok (.ireturn, 1) := by decide +kernel
theorem dX10_counted_0 : decode cX10_counted 0 = .ok (.iload_n 1, 1) := by decide +kernel
theorem dX10_counted_1 : decode cX10_counted 1 = .ok (.ifCond .ne 12, 3) := by decide +kernel
theorem dX10_counted_4 : decode cX10_counted 4 = .ok (.aload_n 0, 1) := by decide +kernel
theorem dX10_counted_5 : decode cX10_counted 5 = .ok (.getfield 7, 3) := by decide +kernel
theorem dX10_counted_8 : decode cX10_counted 8 = .ok (.iconst 0, 1) := by decide +kernel
theorem dX10_counted_9 : decode cX10_counted 9 = .ok (.iaload, 1) := by decide +kernel
theorem dX10_counted_10 : decode cX10_counted 10 = .ok (.goto 71, 3) := by decide +kernel
theorem dX10_counted_13 : decode cX10_counted 13 = .ok (.iload_n 1, 1) := by decide +kernel
theorem dX10_counted_14 : decode cX10_counted 14 = .ok (.iconst 1, 1) := by decide +kernel
theorem dX10_counted_15 : decode cX10_counted 15 = .ok (.if_icmp .ne 12, 3) := by decide +kernel
theorem dX10_counted_18 : decode cX10_counted 18 = .ok (.aload_n 0, 1) := by decide +kernel
theorem dX10_counted_19 : decode cX10_counted 19 = .ok (.getfield 13, 3) := by decide +kernel
theorem dX10_counted_22 : decode cX10_counted 22 = .ok (.iconst 0, 1) := by decide +kernel
theorem dX10_counted_23 : decode cX10_counted 23 = .ok (.iaload, 1) := by decide +kernel
theorem dX10_counted_24 : decode cX10_counted 24 = .ok (.goto 57, 3) := by decide +kernel
theorem dX10_counted_27 : decode cX10_counted 27 = .ok (.iload_n 1, 1) := by decide +kernel
theorem dX10_counted_28 : decode cX10_counted 28 = .ok (.iconst 2, 1) := by decide +kernel
theorem dX10_counted_29 : decode cX10_counted 29 = .ok (.if_icmp .ne 12, 3) := by decide +kernel
theorem dX10_counted_32 : decode cX10_counted 32 = .ok (.aload_n 0, 1) := by decide +kernel
theorem dX10_counted_33 : decode cX10_counted 33 = .ok (.getfield 16, 3) := by decide +kernel
theorem dX10_counted_36 : decode cX10_counted 36 = .ok (.iconst 0, 1) := by decide +kernel
theorem dX10_counted_37 : decode cX10_counted 37 = .ok (.iaload, 1) := by decide +kernel
theorem dX10_counted_38 : decode cX10_counted 38 = .ok (.goto 43, 3) := by decide +kernel
theorem dX10_counted_41 : decode cX10_counted 41 = .ok (.iload_n 1, 1) := by decide +kernel
theorem dX10_counted_42 : decode cX10_counted 42 = .ok (.iconst 3, 1) := by decide +kernel
theorem dX10_counted_43 : decode cX10_counted 43 = .ok (.if_icmp .ne 12, 3) := by decide +kernel
theorem dX10_counted_46 : decode cX10_counted 46 = .ok (.aload_n 0, 1) := by decide +kernel
theorem dX10_counted_47 : decode cX10_counted 47 = .ok (.getfield 19, 3) := by decide +kernel
theorem dX10_counted_50 : decode cX10_counted 50 = .ok (.iconst 0, 1) := by decide +kernel
theorem dX10_counted_51 : decode cX10_counted 51 = .ok (.iaload, 1) := by decide +kernel
theorem dX10_counted_52 : decode cX10_counted 52 = .ok (.goto 29, 3) := by decide +kernel
theorem dX10_counted_55 : decode cX10_counted 55 = .ok (.aload_n 0, 1) := by decide +kernel
theorem dX10_counted_56 : decode cX10_counted 56 = .ok (.iload_n 1, 1) := by decide +kernel
theorem dX10_counted_57 : decode cX10_counted 57 = .ok (.iconst 4, 1) := by decide +kernel
theorem dX10_counted_58 : decode cX10_counted 58 = .ok (.isub, 1) := by decide +kernel
theorem dX10_counted_59 : decode cX10_counted 59 = .ok (.invokevirtual 82, 3) := by decide +kernel
theorem dX10_counted_62 : decode cX10_counted 62 = .ok (.ifCond .eq 18, 3) := by decide +kernel
theorem dX10_counted_65 : decode cX10_counted 65 = .ok (.aload_n 0, 1) := by decide +kernel
theorem dX10_counted_66 : decode cX10_counted 66 = .ok (.getfield 22, 3) := by decide +kernel
theorem dX10_counted_69 : decode cX10_counted 69 = .ok (.iconst 4, 1) := by decide +kernel
theorem dX10_counted_70 : decode cX10_counted 70 = .ok (.iload_n 1, 1) := by decide +kernel
theorem dX10_counted_71 : decode cX10_counted 71 = .ok (.iconst 4, 1) := by decide +kernel
theorem dX10_counted_72 : decode cX10_counted 72 = .ok (.isub, 1) := by decide +kernel
theorem dX10_counted_73 : decode cX10_counted 73 = .ok (.imul, 1) := by decide +kernel
theorem dX10_counted_74 : decode cX10_counted 74 = .ok (.iconst 3, 1) := by decide +kernel
theorem dX10_counted_75 : decode cX10_counted 75 = .ok (.iadd, 1) := by decide +kernel
theorem dX10_counted_76 : decode cX10_counted 76 = .ok (.iaload, 1) := by decide +kernel
theorem dX10_counted_77 : decode cX10_counted 77 = .ok (.goto 4, 3) := by decide +kernel
theorem dX10_counted_80 : decode cX10_counted 80 = .ok (.iconst 0, 1) := by decide +kernel
theorem dX10_counted_81 : decode cX10_counted 81 = .ok (.ireturn, 1) := by decide +kernel
theorem dX10_count_0 : decode cX10_count 0 = .ok (.iload_n 1, 1) := by decide +kernel
theorem dX10_count_1 : decode cX10_count 1 = .ok (.iconst 0, 1) := by decide +kernel
theorem dX10_count_2 : decode cX10_count 2 = .ok (.bipush 9, 2) := by decide +kernel
theorem dX10_count_4 : decode cX10_count 4 = .ok (.invokestatic 78, 3) := by decide +kernel
theorem dX10_count_7 : decode cX10_count 7 = .ok (.ifCond .eq 11, 3) := by decide +kernel
theorem dX10_count_10 : decode cX10_count 10 = .ok (.aload_n 0, 1) := by decide +kernel
theorem dX10_count_11 : decode cX10_count 11 = .ok (.iload_n 1, 1) := by decide +kernel
theorem dX10_count_12 : decode cX10_count 12 = .ok (.invokevirtual 217, 3) := by decide +kernel
theorem dX10_count_15 : decode cX10_count 15 = .ok (.goto 9, 3) := by decide +kernel
theorem dX10_count_18 : decode cX10_count 18 = .ok (.aload_n 0, 1) := by decide +kernel
theorem dX10_count_19 : decode cX10_count 19 = .ok (.bipush (-2), 2) := by decide +kernel
theorem dX10_count_21 : decode cX10_count 21 = .ok (.invokevirtual 86, 3) := by decide +kernel
theorem dX10_count_24 : decode cX10_count 24 = .ok (.ireturn, 1) := by decide +kernel
theorem dX10_sums_0 : decode cX10_sums 0 = .ok (.aload_n 0, 1) := by decide +kernel
theorem dX10_sums_1 : decode cX10_sums 1 = .ok (.ldc2_w 220, 3) := by decide +kernel
theorem dX10_sums_4 : decode cX10_sums 4 = .ok (.aload_n 0, 1) := by decide +kernel
theorem dX10_sums_5 : decode cX10_sums 5 = .ok (.getfield 222, 3) := by decide +kernel
theorem dX10_sums_8 : decode cX10_sums 8 = .ok (.lmul, 1) := by decide +kernel
theorem dX10_sums_9 : decode cX10_sums 9 = .ok (.lload_n 1, 1) := by decide +kernel
theorem dX10_sums_10 : decode cX10_sums 10 = .ok (.ladd, 1) := by decide +kernel
theorem dX10_sums_11 : decode cX10_sums 11 = .ok (.putfield 222, 3) := by decide +kernel
theorem dX10_sums_14 : decode cX10_sums 14 = .ok (.return_, 1) := by decide +kernel
theorem dX10_digest_0 : decode cX10_digest 0 = .ok (.aload_n 0, 1) := by decide +kernel
theorem dX10_digest_1 : decode cX10_digest 1 = .ok (.ldc2_w 226, 3) := by decide +kernel
theorem dX10_digest_4 : decode cX10_digest 4 = .ok (.putfield 222, 3) := by decide +kernel
theorem dX10_digest_7 : decode cX10_digest 7 = .ok (.iconst 0, 1) := by decide +kernel
theorem dX10_digest_8 : decode cX10_digest 8 = .ok (.istore_n 1, 1) := by decide +kernel
theorem dX10_digest_9 : decode cX10_digest 9 = .ok (.iload_n 1, 1) := by decide +kernel
theorem dX10_digest_10 : decode cX10_digest 10 = .ok (.bipush 10, 2) := by decide +kernel
theorem dX10_digest_12 : decode cX10_digest 12 = .ok (.if_icmp .ge 19, 3) := by decide +kernel
theorem dX10_digest_15 : decode cX10_digest 15 = .ok (.aload_n 0, 1) := by decide +kernel
theorem dX10_digest_16 : decode cX10_digest 16 = .ok (.aload_n 0, 1) := by decide +kernel
theorem dX10_digest_17 : decode cX10_digest 17 = .ok (.iload_n 1, 1) := by decide +kernel
theorem dX10_digest_18 : decode cX10_digest 18 = .ok (.invokevirtual 217, 3) := by decide +kernel
theorem dX10_digest_21 : decode cX10_digest 21 = .ok (.i2l, 1) := by decide +kernel
theorem dX10_digest_22 : decode cX10_digest 22 = .ok (.invokevirtual 228, 3) := by decide +kernel
theorem dX10_digest_25 : decode cX10_digest 25 = .ok (.iinc 1 1, 3) := by decide +kernel
theorem dX10_digest_28 : decode cX10_digest 28 = .ok (.goto (-19), 3) := by decide +kernel
theorem dX10_digest_31 : decode cX10_digest 31 = .ok (.iconst 0, 1) := by decide +kernel
theorem dX10_digest_32 : decode cX10_digest 32 = .ok (.istore_n 1, 1) := by decide +kernel
theorem dX10_digest_33 : decode cX10_digest 33 = .ok (.iload_n 1, 1) := by decide +kernel
theorem dX10_digest_34 : decode cX10_digest 34 = .ok (.aload_n 0, 1) := by decide +kernel
theorem dX10_digest_35 : decode cX10_digest 35 = .ok (.getfield 7, 3) := by decide +kernel
theorem dX10_digest_38 : decode cX10_digest 38 = .ok (.iconst 0, 1) := by decide +kernel
theorem dX10_digest_39 : decode cX10_digest 39 = .ok (.iaload, 1) := by decide +kernel
theorem dX10_digest_40 : decode cX10_digest 40 = .ok (.if_icmp .ge 77, 3) := by decide +kernel
theorem dX10_digest_43 : decode cX10_digest 43 = .ok (.iconst 0, 1) := by decide +kernel
theorem dX10_digest_44 : decode cX10_digest 44 = .ok (.istore_n 2, 1) := by decide +kernel
theorem dX10_digest_45 : decode cX10_digest 45 = .ok (.iload_n 2, 1) := by decide +kernel
theorem dX10_digest_46 : decode cX10_digest 46 = .ok (.iconst 3, 1) := by decide +kernel
theorem dX10_digest_47 : decode cX10_digest 47 = .ok (.if_icmp .ge 24, 3) := by decide +kernel
theorem dX10_digest_50 : decode cX10_digest 50 = .ok (.aload_n 0, 1) := by decide +kernel
theorem dX10_digest_51 : decode cX10_digest 51 = .ok (.aload_n 0, 1) := by decide +kernel
theorem dX10_digest_52 : decode cX10_digest 52 = .ok (.getfield 22, 3) := by decide +kernel
theorem dX10_digest_55 : decode cX10_digest 55 = .ok (.iconst 4, 1) := by decide +kernel
theorem dX10_digest_56 : decode cX10_digest 56 = .ok (.iload_n 1, 1) := by decide +kernel
theorem dX10_digest_57 : decode cX10_digest 57 = .ok (.imul, 1) := by decide +kernel
theorem dX10_digest_58 : decode cX10_digest 58 = .ok (.iload_n 2, 1) := by decide +kernel
theorem dX10_digest_59 : decode cX10_digest 59 = .ok (.iadd, 1) := by decide +kernel
theorem dX10_digest_60 : decode cX10_digest 60 = .ok (.iaload, 1) := by decide +kernel
theorem dX10_digest_61 : decode cX10_digest 61 = .ok (.i2l, 1) := by decide +kernel
theorem dX10_digest_62 : decode cX10_digest 62 = .ok (.invokevirtual 228, 3) := by decide +kernel
theorem dX10_digest_65 : decode cX10_digest 65 = .ok (.iinc 2 1, 3) := by decide +kernel
theorem dX10_digest_68 : decode cX10_digest 68 = .ok (.goto (-23), 3) := by decide +kernel
theorem dX10_digest_71 : decode cX10_digest 71 = .ok (.iconst 0, 1) := by decide +kernel
theorem dX10_digest_72 : decode cX10_digest 72 = .ok (.istore_n 2, 1) := by decide +kernel
theorem dX10_digest_73 : decode cX10_digest 73 = .ok (.iload_n 2, 1) := by decide +kernel
theorem dX10_digest_74 : decode cX10_digest 74 = .ok (.iconst 3, 1) := by decide +kernel
theorem dX10_digest_75 : decode cX10_digest 75 = .ok (.aload_n 0, 1) := by decide +kernel
theorem dX10_digest_76 : decode cX10_digest 76 = .ok (.getfield 22, 3) := by decide +kernel
theorem dX10_digest_79 : decode cX10_digest 79 = .ok (.iconst 4, 1) := by decide +kernel
theorem dX10_digest_80 : decode cX10_digest 80 = .ok (.iload_n 1, 1) := by decide +kernel
theorem dX10_digest_81 : decode cX10_digest 81 = .ok (.imul, 1) := by decide +kernel
theorem dX10_digest_82 : decode cX10_digest 82 = .ok (.iconst 3, 1) := by decide +kernel
theorem dX10_digest_83 : decode cX10_digest 83 = .ok (.iadd, 1) := by decide +kernel
theorem dX10_digest_84 : decode cX10_digest 84 = .ok (.iaload, 1) := by decide +kernel
theorem dX10_digest_85 : decode cX10_digest 85 = .ok (.imul, 1) := by decide +kernel
theorem dX10_digest_86 : decode cX10_digest 86 = .ok (.if_icmp .ge 25, 3) := by decide +kernel
theorem dX10_digest_89 : decode cX10_digest 89 = .ok (.aload_n 0, 1) := by decide +kernel
theorem dX10_digest_90 : decode cX10_digest 90 = .ok (.aload_n 0, 1) := by decide +kernel
theorem dX10_digest_91 : decode cX10_digest 91 = .ok (.getfield 25, 3) := by decide +kernel
theorem dX10_digest_94 : decode cX10_digest 94 = .ok (.bipush 24, 2) := by decide +kernel
theorem dX10_digest_96 : decode cX10_digest 96 = .ok (.iload_n 1, 1) := by decide +kernel
theorem dX10_digest_97 : decode cX10_digest 97 = .ok (.imul, 1) := by decide +kernel
theorem dX10_digest_98 : decode cX10_digest 98 = .ok (.iload_n 2, 1) := by decide +kernel
theorem dX10_digest_99 : decode cX10_digest 99 = .ok (.iadd, 1) := by decide +kernel
theorem dX10_digest_100 : decode cX10_digest 100 = .ok (.iaload, 1) := by decide +kernel
theorem dX10_digest_101 : decode cX10_digest 101 = .ok (.i2l, 1) := by decide +kernel
theorem dX10_digest_102 : decode cX10_digest 102 = .ok (.invokevirtual 228, 3) := by decide +kernel
theorem dX10_digest_105 : decode cX10_digest 105 = .ok (.iinc 2 1, 3) := by decide +kernel
theorem dX10_digest_108 : decode cX10_digest 108 = .ok (.goto (-35), 3) := by decide +kernel
theorem dX10_digest_111 : decode cX10_digest 111 = .ok (.iinc 1 1, 3) := by decide +kernel
theorem dX10_digest_114 : decode cX10_digest 114 = .ok (.goto (-81), 3) := by decide +kernel
theorem dX10_digest_117 : decode cX10_digest 117 = .ok (.aload_n 0, 1) := by decide +kernel
theorem dX10_digest_118 : decode cX10_digest 118 = .ok (.aload_n 0, 1) := by decide +kernel
theorem dX10_digest_119 : decode cX10_digest 119 = .ok (.getfield 37, 3) := by decide +kernel
theorem dX10_digest_122 : decode cX10_digest 122 = .ok (.bipush 10, 2) := by decide +kernel
theorem dX10_digest_124 : decode cX10_digest 124 = .ok (.iaload, 1) := by decide +kernel
theorem dX10_digest_125 : decode cX10_digest 125 = .ok (.i2l, 1) := by decide +kernel
theorem dX10_digest_126 : decode cX10_digest 126 = .ok (.invokevirtual 228, 3) := by decide +kernel
theorem dX10_digest_129 : decode cX10_digest 129 = .ok (.aload_n 0, 1) := by decide +kernel
theorem dX10_digest_130 : decode cX10_digest 130 = .ok (.aload_n 0, 1) := by decide +kernel
theorem dX10_digest_131 : decode cX10_digest 131 = .ok (.getfield 37, 3) := by decide +kernel
theorem dX10_digest_134 : decode cX10_digest 134 = .ok (.bipush 11, 2) := by decide +kernel
theorem dX10_digest_136 : decode cX10_digest 136 = .ok (.iaload, 1) := by decide +kernel
theorem dX10_digest_137 : decode cX10_digest 137 = .ok (.i2l, 1) := by decide +kernel
theorem dX10_digest_138 : decode cX10_digest 138 = .ok (.invokevirtual 228, 3) := by decide +kernel
theorem dX10_digest_141 : decode cX10_digest 141 = .ok (.iconst 0, 1) := by decide +kernel
theorem dX10_digest_142 : decode cX10_digest 142 = .ok (.istore_n 1, 1) := by decide +kernel
theorem dX10_digest_143 : decode cX10_digest 143 = .ok (.iload_n 1, 1) := by decide +kernel
theorem dX10_digest_144 : decode cX10_digest 144 = .ok (.aload_n 0, 1) := by decide +kernel
theorem dX10_digest_145 : decode cX10_digest 145 = .ok (.getfield 13, 3) := by decide +kernel
theorem dX10_digest_148 : decode cX10_digest 148 = .ok (.iconst 0, 1) := by decide +kernel
theorem dX10_digest_149 : decode cX10_digest 149 = .ok (.iaload, 1) := by decide +kernel
theorem dX10_digest_150 : decode cX10_digest 150 = .ok (.if_icmp .ge 20, 3) := by decide +kernel
theorem dX10_digest_153 : decode cX10_digest 153 = .ok (.aload_n 0, 1) := by decide +kernel
theorem dX10_digest_154 : decode cX10_digest 154 = .ok (.aload_n 0, 1) := by decide +kernel
theorem dX10_digest_155 : decode cX10_digest 155 = .ok (.getfield 34, 3) := by decide +kernel
theorem dX10_digest_158 : decode cX10_digest 158 = .ok (.iload_n 1, 1) := by decide +kernel
theorem dX10_digest_159 : decode cX10_digest 159 = .ok (.iaload, 1) := by decide +kernel
theorem dX10_digest_160 : decode cX10_digest 160 = .ok (.i2l, 1) := by decide +kernel
theorem dX10_digest_161 : decode cX10_digest 161 = .ok (.invokevirtual 228, 3) := by decide +kernel
theorem dX10_digest_164 : decode cX10_digest 164 = .ok (.iinc 1 1, 3) := by decide +kernel
theorem dX10_digest_167 : decode cX10_digest 167 = .ok (.goto (-24), 3) := by decide +kernel
theorem dX10_digest_170 : decode cX10_digest 170 = .ok (.bipush 12, 2) := by decide +kernel
theorem dX10_digest_172 : decode cX10_digest 172 = .ok (.istore_n 1, 1) := by decide +kernel
theorem dX10_digest_173 : decode cX10_digest 173 = .ok (.iload_n 1, 1) := by decide +kernel
theorem dX10_digest_174 : decode cX10_digest 174 = .ok (.bipush 16, 2) := by decide +kernel
theorem dX10_digest_176 : decode cX10_digest 176 = .ok (.if_icmp .ge 20, 3) := by decide +kernel
theorem dX10_digest_179 : decode cX10_digest 179 = .ok (.aload_n 0, 1) := by decide +kernel
theorem dX10_digest_180 : decode cX10_digest 180 = .ok (.aload_n 0, 1) := by decide +kernel
theorem dX10_digest_181 : decode cX10_digest 181 = .ok (.getfield 34, 3) := by decide +kernel
theorem dX10_digest_184 : decode cX10_digest 184 = .ok (.iload_n 1, 1) := by decide +kernel
theorem dX10_digest_185 : decode cX10_digest 185 = .ok (.iaload, 1) := by decide +kernel
theorem dX10_digest_186 : decode cX10_digest 186 = .ok (.i2l, 1) := by decide +kernel
theorem dX10_digest_187 : decode cX10_digest 187 = .ok (.invokevirtual 228, 3) := by decide +kernel
theorem dX10_digest_190 : decode cX10_digest 190 = .ok (.iinc 1 1, 3) := by decide +kernel
theorem dX10_digest_193 : decode cX10_digest 193 = .ok (.goto (-20), 3) := by decide +kernel
theorem dX10_digest_196 : decode cX10_digest 196 = .ok (.iconst 0, 1) := by decide +kernel
theorem dX10_digest_197 : decode cX10_digest 197 = .ok (.istore_n 1, 1) := by decide +kernel
theorem dX10_digest_198 : decode cX10_digest 198 = .ok (.iload_n 1, 1) := by decide +kernel
theorem dX10_digest_199 : decode cX10_digest 199 = .ok (.aload_n 0, 1) := by decide +kernel
theorem dX10_digest_200 : decode cX10_digest 200 = .ok (.getfield 16, 3) := by decide +kernel
theorem dX10_digest_203 : decode cX10_digest 203 = .ok (.iconst 0, 1) := by decide +kernel
theorem dX10_digest_204 : decode cX10_digest 204 = .ok (.iaload, 1) := by decide +kernel
theorem dX10_digest_205 : decode cX10_digest 205 = .ok (.if_icmp .ge 20, 3) := by decide +kernel
theorem dX10_digest_208 : decode cX10_digest 208 = .ok (.aload_n 0, 1) := by decide +kernel
theorem dX10_digest_209 : decode cX10_digest 209 = .ok (.aload_n 0, 1) := by decide +kernel
theorem dX10_digest_210 : decode cX10_digest 210 = .ok (.getfield 28, 3) := by decide +kernel
theorem dX10_digest_213 : decode cX10_digest 213 = .ok (.iload_n 1, 1) := by decide +kernel
theorem dX10_digest_214 : decode cX10_digest 214 = .ok (.iaload, 1) := by decide +kernel
theorem dX10_digest_215 : decode cX10_digest 215 = .ok (.i2l, 1) := by decide +kernel
theorem dX10_digest_216 : decode cX10_digest 216 = .ok (.invokevirtual 228, 3) := by decide +kernel
theorem dX10_digest_219 : decode cX10_digest 219 = .ok (.iinc 1 1, 3) := by decide +kernel
theorem dX10_digest_222 : decode cX10_digest 222 = .ok (.goto (-24), 3) := by decide +kernel
theorem dX10_digest_225 : decode cX10_digest 225 = .ok (.iconst 0, 1) := by decide +kernel
theorem dX10_digest_226 : decode cX10_digest 226 = .ok (.istore_n 1, 1) := by decide +kernel
theorem dX10_digest_227 : decode cX10_digest 227 = .ok (.iload_n 1, 1) := by decide +kernel
theorem dX10_digest_228 : decode cX10_digest 228 = .ok (.bipush 10, 2) := by decide +kernel
theorem dX10_digest_230 : decode cX10_digest 230 = .ok (.if_icmp .ge 20, 3) := by decide +kernel
theorem dX10_digest_233 : decode cX10_digest 233 = .ok (.aload_n 0, 1) := by decide +kernel
theorem dX10_digest_234 : decode cX10_digest 234 = .ok (.aload_n 0, 1) := by decide +kernel
theorem dX10_digest_235 : decode cX10_digest 235 = .ok (.getfield 37, 3) := by decide +kernel
theorem dX10_digest_238 : decode cX10_digest 238 = .ok (.iload_n 1, 1) := by decide +kernel
theorem dX10_digest_239 : decode cX10_digest 239 = .ok (.iaload, 1) := by decide +kernel
theorem dX10_digest_240 : decode cX10_digest 240 = .ok (.i2l, 1) := by decide +kernel
theorem dX10_digest_241 : decode cX10_digest 241 = .ok (.invokevirtual 228, 3) := by decide +kernel
theorem dX10_digest_244 : decode cX10_digest 244 = .ok (.iinc 1 1, 3) := by decide +kernel
theorem dX10_digest_247 : decode cX10_digest 247 = .ok (.goto (-20), 3) := by decide +kernel
theorem dX10_digest_250 : decode cX10_digest 250 = .ok (.iconst 0, 1) := by decide +kernel
theorem dX10_digest_251 : decode cX10_digest 251 = .ok (.istore_n 1, 1) := by decide +kernel
theorem dX10_digest_252 : decode cX10_digest 252 = .ok (.iload_n 1, 1) := by decide +kernel
theorem dX10_digest_253 : decode cX10_digest 253 = .ok (.iconst 4, 1) := by decide +kernel
theorem dX10_digest_254 : decode cX10_digest 254 = .ok (.aload_n 0, 1) := by decide +kernel
theorem dX10_digest_255 : decode cX10_digest 255 = .ok (.getfield 19, 3) := by decide +kernel
theorem dX10_digest_258 : decode cX10_digest 258 = .ok (.iconst 0, 1) := by decide +kernel
theorem dX10_digest_259 : decode cX10_digest 259 = .ok (.iaload, 1) := by decide +kernel
theorem dX10_digest_260 : decode cX10_digest 260 = .ok (.imul, 1) := by decide +kernel
theorem dX10_digest_261 : decode cX10_digest 261 = .ok (.if_icmp .ge 20, 3) := by decide +kernel
theorem dX10_digest_264 : decode cX10_digest 264 = .ok (.aload_n 0, 1) := by decide +kernel
theorem dX10_digest_265 : decode cX10_digest 265 = .ok (.aload_n 0, 1) := by decide +kernel
theorem dX10_digest_266 : decode cX10_digest 266 = .ok (.getfield 31, 3) := by decide +kernel
theorem dX10_digest_269 : decode cX10_digest 269 = .ok (.iload_n 1, 1) := by decide +kernel
theorem dX10_digest_270 : decode cX10_digest 270 = .ok (.iaload, 1) := by decide +kernel
theorem dX10_digest_271 : decode cX10_digest 271 = .ok (.i2l, 1) := by decide +kernel
theorem dX10_digest_272 : decode cX10_digest 272 = .ok (.invokevirtual 228, 3) := by decide +kernel
theorem dX10_digest_275 : decode cX10_digest 275 = .ok (.iinc 1 1, 3) := by decide +kernel
theorem dX10_digest_278 : decode cX10_digest 278 = .ok (.goto (-26), 3) := by decide +kernel
theorem dX10_digest_281 : decode cX10_digest 281 = .ok (.aload_n 0, 1) := by decide +kernel
theorem dX10_digest_282 : decode cX10_digest 282 = .ok (.aload_n 0, 1) := by decide +kernel
theorem dX10_digest_283 : decode cX10_digest 283 = .ok (.getfield 184, 3) := by decide +kernel
theorem dX10_digest_286 : decode cX10_digest 286 = .ok (.i2l, 1) := by decide +kernel
theorem dX10_digest_287 : decode cX10_digest 287 = .ok (.invokevirtual 228, 3) := by decide +kernel
theorem dX10_digest_290 : decode cX10_digest 290 = .ok (.aload_n 0, 1) := by decide +kernel
theorem dX10_digest_291 : decode cX10_digest 291 = .ok (.aload_n 0, 1) := by decide +kernel
theorem dX10_digest_292 : decode cX10_digest 292 = .ok (.getfield 44, 3) := by decide +kernel
theorem dX10_digest_295 : decode cX10_digest 295 = .ok (.i2l, 1) := by decide +kernel
theorem dX10_digest_296 : decode cX10_digest 296 = .ok (.invokevirtual 228, 3) := by decide +kernel
theorem dX10_digest_299 : decode cX10_digest 299 = .ok (.aload_n 0, 1) := by decide +kernel
theorem dX10_digest_300 : decode cX10_digest 300 = .ok (.getfield 222, 3) := by decide +kernel
theorem dX10_digest_303 : decode cX10_digest 303 = .ok (.lreturn, 1) := by decide +kernel
