theorem dX8_init_0 : decode cX8_init 0 = .ok (.aload_n 0, 1) := by decide +kernel
theorem dX8_init_1 : decode cX8_init 1 = .ok (.invokespecial 3, 3) := by decide +kernel
theorem dX8_init_4 : decode cX8_init 4 = .ok (.aload_n 0, 1) := by decide +kernel
theorem dX8_init_5 : decode cX8_init 5 = .ok (.new 9, 3) := by decide +kernel
theorem dX8_init_8 : decode cX8_init 8 = .ok (.dup, 1) := by decide +kernel
theorem dX8_init_9 : decode cX8_init 9 = .ok (.invokespecial 11, 3) := by decide +kernel
theorem dX8_init_12 : decode cX8_init 12 = .ok (.putfield 12, 3) := by decide +kernel
theorem dX8_init_15 : decode cX8_init 15 = .ok (.aload_n 0, 1) := by decide +kernel
theorem dX8_init_16 : decode cX8_init 16 = .ok (.new 18, 3) := by decide +kernel
theorem dX8_init_19 : decode cX8_init 19 = .ok (.dup, 1) := by decide +kernel
theorem dX8_init_20 : decode cX8_init 20 = .ok (.invokespecial 20, 3) := by decide +kernel
theorem dX8_init_23 : decode cX8_init 23 = .ok (.putfield 21, 3) := by decide +kernel
theorem dX8_init_26 : decode cX8_init 26 = .ok (.aload_n 0, 1) := by decide +kernel
theorem dX8_init_27 : decode cX8_init 27 = .ok (.new 25, 3) := by decide +kernel
theorem dX8_init_30 : decode cX8_init 30 = .ok (.dup, 1) := by decide +kernel
theorem dX8_init_31 : decode cX8_init 31 = .ok (.sipush 286, 3) := by decide +kernel
theorem dX8_init_34 : decode cX8_init 34 = .ok (.invokespecial 27, 3) := by decide +kernel
theorem dX8_init_37 : decode cX8_init 37 = .ok (.putfield 30, 3) := by decide +kernel
theorem dX8_init_40 : decode cX8_init 40 = .ok (.aload_n 0, 1) := by decide +kernel
theorem dX8_init_41 : decode cX8_init 41 = .ok (.new 25, 3) := by decide +kernel
theorem dX8_init_44 : decode cX8_init 44 = .ok (.dup, 1) := by decide +kernel
theorem dX8_init_45 : decode cX8_init 45 = .ok (.bipush 30, 2) := by decide +kernel
theorem dX8_init_47 : decode cX8_init 47 = .ok (.invokespecial 27, 3) := by decide +kernel
theorem dX8_init_50 : decode cX8_init 50 = .ok (.putfield 34, 3) := by decide +kernel
theorem dX8_init_53 : decode cX8_init 53 = .ok (.aload_n 0, 1) := by decide +kernel
theorem dX8_init_54 : decode cX8_init 54 = .ok (.new 25, 3) := by decide +kernel
theorem dX8_init_57 : decode cX8_init 57 = .ok (.dup, 1) := by decide +kernel
theorem dX8_init_58 : decode cX8_init 58 = .ok (.bipush 19, 2) := by decide +kernel
theorem dX8_init_60 : decode cX8_init 60 = .ok (.invokespecial 27, 3) := by decide +kernel
theorem dX8_init_63 : decode cX8_init 63 = .ok (.putfield 37, 3) := by decide +kernel
theorem dX8_init_66 : decode cX8_init 66 = .ok (.aload_n 0, 1) := by decide +kernel
theorem dX8_init_67 : decode cX8_init 67 = .ok (.new 25, 3) := by decide +kernel
theorem dX8_init_70 : decode cX8_init 70 = .ok (.dup, 1) := by decide +kernel
theorem dX8_init_71 : decode cX8_init 71 = .ok (.sipush 288, 3) := by decide +kernel
theorem dX8_init_74 : decode cX8_init 74 = .ok (.invokespecial 27, 3) := by decide +kernel
theorem dX8_init_77 : decode cX8_init 77 = .ok (.putfield 40, 3) := by decide +kernel
theorem dX8_init_80 : decode cX8_init 80 = .ok (.aload_n 0, 1) := by decide +kernel
theorem dX8_init_81 : decode cX8_init 81 = .ok (.new 25, 3) := by decide +kernel
theorem dX8_init_84 : decode cX8_init 84 = .ok (.dup, 1) := by decide +kernel
theorem dX8_init_85 : decode cX8_init 85 = .ok (.bipush 32, 2) := by decide +kernel
theorem dX8_init_87 : decode cX8_init 87 = .ok (.invokespecial 27, 3) := by decide +kernel
theorem dX8_init_90 : decode cX8_init 90 = .ok (.putfield 43, 3) := by decide +kernel
theorem dX8_init_93 : decode cX8_init 93 = .ok (.aload_n 0, 1) := by decide +kernel
theorem dX8_init_94 : decode cX8_init 94 = .ok (.sipush 4096, 3) := by decide +kernel
theorem dX8_init_97 : decode cX8_init 97 = .ok (.newarray .int, 2) := by decide +kernel
theorem dX8_init_99 : decode cX8_init 99 = .ok (.putfield 46, 3) := by decide +kernel
theorem dX8_init_102 : decode cX8_init 102 = .ok (.aload_n 0, 1) := by decide +kernel
theorem dX8_init_103 : decode cX8_init 103 = .ok (.sipush 4096, 3) := by decide +kernel
theorem dX8_init_106 : decode cX8_init 106 = .ok (.newarray .int, 2) := by decide +kernel
theorem dX8_init_108 : decode cX8_init 108 = .ok (.putfield 50, 3) := by decide +kernel
theorem dX8_init_111 : decode cX8_init 111 = .ok (.aload_n 0, 1) := by decide +kernel
theorem dX8_init_112 : decode cX8_init 112 = .ok (.sipush 320, 3) := by decide +kernel
theorem dX8_init_115 : decode cX8_init 115 = .ok (.newarray .int, 2) := by decide +kernel
theorem dX8_init_117 : decode cX8_init 117 = .ok (.putfield 53, 3) := by decide +kernel
theorem dX8_init_120 : decode cX8_init 120 = .ok (.aload_n 0, 1) := by decide +kernel
theorem dX8_init_121 : decode cX8_init 121 = .ok (.sipush 320, 3) := by decide +kernel
theorem dX8_init_124 : decode cX8_init 124 = .ok (.newarray .int, 2) := by decide +kernel
theorem dX8_init_126 : decode cX8_init 126 = .ok (.putfield 56, 3) := by decide +kernel
theorem dX8_init_129 : decode cX8_init 129 = .ok (.aload_n 0, 1) := by decide +kernel
theorem dX8_init_130 : decode cX8_init 130 = .ok (.new 59, 3) := by decide +kernel
theorem dX8_init_133 : decode cX8_init 133 = .ok (.dup, 1) := by decide +kernel
theorem dX8_init_134 : decode cX8_init 134 = .ok (.aload_n 1, 1) := by decide +kernel
theorem dX8_init_135 : decode cX8_init 135 = .ok (.invokespecial 61, 3) := by decide +kernel
theorem dX8_init_138 : decode cX8_init 138 = .ok (.putfield 64, 3) := by decide +kernel
theorem dX8_init_141 : decode cX8_init 141 = .ok (.iconst 0, 1) := by decide +kernel
theorem dX8_init_142 : decode cX8_init 142 = .ok (.istore_n 2, 1) := by decide +kernel
theorem dX8_init_143 : decode cX8_init 143 = .ok (.iload_n 2, 1) := by decide +kernel
theorem dX8_init_144 : decode cX8_init 144 = .ok (.sipush 288, 3) := by decide +kernel
theorem dX8_init_147 : decode cX8_init 147 = .ok (.if_icmp .ge 21, 3) := by decide +kernel
theorem dX8_init_150 : decode cX8_init 150 = .ok (.aload_n 0, 1) := by decide +kernel
theorem dX8_init_151 : decode cX8_init 151 = .ok (.getfield 40, 3) := by decide +kernel
theorem dX8_init_154 : decode cX8_init 154 = .ok (.iload_n 2, 1) := by decide +kernel
theorem dX8_init_155 : decode cX8_init 155 = .ok (.iload_n 2, 1) := by decide +kernel
theorem dX8_init_156 : decode cX8_init 156 = .ok (.invokestatic 68, 3) := by decide +kernel
theorem dX8_init_159 : decode cX8_init 159 = .ok (.invokevirtual 72, 3) := by decide +kernel
theorem dX8_init_162 : decode cX8_init 162 = .ok (.iinc 2 1, 3) := by decide +kernel
theorem dX8_init_165 : decode cX8_init 165 = .ok (.goto (-22), 3) := by decide +kernel
theorem dX8_init_168 : decode cX8_init 168 = .ok (.iconst 0, 1) := by decide +kernel
theorem dX8_init_169 : decode cX8_init 169 = .ok (.istore_n 2, 1) := by decide +kernel
theorem dX8_init_170 : decode cX8_init 170 = .ok (.iload_n 2, 1) := by decide +kernel
theorem dX8_init_171 : decode cX8_init 171 = .ok (.bipush 32, 2) := by decide +kernel
theorem dX8_init_173 : decode cX8_init 173 = .ok (.if_icmp .ge 18, 3) := by decide +kernel
theorem dX8_init_176 : decode cX8_init 176 = .ok (.aload_n 0, 1) := by decide +kernel
theorem dX8_init_177 : decode cX8_init 177 = .ok (.getfield 43, 3) := by decide +kernel
theorem dX8_init_180 : decode cX8_init 180 = .ok (.iload_n 2, 1) := by decide +kernel
theorem dX8_init_181 : decode cX8_init 181 = .ok (.iconst 5, 1) := by decide +kernel
theorem dX8_init_182 : decode cX8_init 182 = .ok (.invokevirtual 72, 3) := by decide +kernel
theorem dX8_init_185 : decode cX8_init 185 = .ok (.iinc 2 1, 3) := by decide +kernel
theorem dX8_init_188 : decode cX8_init 188 = .ok (.goto (-18), 3) := by decide +kernel
theorem dX8_init_191 : decode cX8_init 191 = .ok (.aload_n 0, 1) := by decide +kernel
theorem dX8_init_192 : decode cX8_init 192 = .ok (.getfield 40, 3) := by decide +kernel
theorem dX8_init_195 : decode cX8_init 195 = .ok (.invokevirtual 76, 3) := by decide +kernel
theorem dX8_init_198 : decode cX8_init 198 = .ok (.aload_n 0, 1) := by decide +kernel
theorem dX8_init_199 : decode cX8_init 199 = .ok (.getfield 43, 3) := by decide +kernel
theorem dX8_init_202 : decode cX8_init 202 = .ok (.invokevirtual 76, 3) := by decide +kernel
theorem dX8_init_205 : decode cX8_init 205 = .ok (.return_, 1) := by decide +kernel
theorem dX8_pack_0 : decode cX8_pack 0 = .ok (.iload_n 2, 1) := by decide +kernel
theorem dX8_pack_1 : decode cX8_pack 1 = .ok (.iload_n 3, 1) := by decide +kernel
theorem dX8_pack_2 : decode cX8_pack 2 = .ok (.iadd, 1) := by decide +kernel
theorem dX8_pack_3 : decode cX8_pack 3 = .ok (.istore 4, 2) := by decide +kernel
theorem dX8_pack_5 : decode cX8_pack 5 = .ok (.aload_n 0, 1) := by decide +kernel
theorem dX8_pack_6 : decode cX8_pack 6 = .ok (.getfield 12, 3) := by decide +kernel
theorem dX8_pack_9 : decode cX8_pack 9 = .ok (.iload_n 2, 1) := by decide +kernel
theorem dX8_pack_10 : decode cX8_pack 10 = .ok (.iload_n 3, 1) := by decide +kernel
theorem dX8_pack_11 : decode cX8_pack 11 = .ok (.invokevirtual 79, 3) := by decide +kernel
theorem dX8_pack_14 : decode cX8_pack 14 = .ok (.aload_n 0, 1) := by decide +kernel
theorem dX8_pack_15 : decode cX8_pack 15 = .ok (.getfield 64, 3) := by decide +kernel
theorem dX8_pack_18 : decode cX8_pack 18 = .ok (.bipush 120, 2) := by decide +kernel
theorem dX8_pack_20 : decode cX8_pack 20 = .ok (.bipush 8, 2) := by decide +kernel
theorem dX8_pack_22 : decode cX8_pack 22 = .ok (.invokevirtual 82, 3) := by decide +kernel
theorem dX8_pack_25 : decode cX8_pack 25 = .ok (.aload_n 0, 1) := by decide +kernel
theorem dX8_pack_26 : decode cX8_pack 26 = .ok (.getfield 64, 3) := by decide +kernel
theorem dX8_pack_29 : decode cX8_pack 29 = .ok (.sipush 156, 3) := by decide +kernel
theorem dX8_pack_32 : decode cX8_pack 32 = .ok (.bipush 8, 2) := by decide +kernel
theorem dX8_pack_34 : decode cX8_pack 34 = .ok (.invokevirtual 82, 3) := by decide +kernel
theorem dX8_pack_37 : decode cX8_pack 37 = .ok (.iload_n 2, 1) := by decide +kernel
theorem dX8_pack_38 : decode cX8_pack 38 = .ok (.istore 5, 2) := by decide +kernel
theorem dX8_pack_40 : decode cX8_pack 40 = .ok (.iload 5, 2) := by decide +kernel
theorem dX8_pack_42 : decode cX8_pack 42 = .ok (.iload 4, 2) := by decide +kernel
theorem dX8_pack_44 : decode cX8_pack 44 = .ok (.if_icmp .ge 148, 3) := by decide +kernel
theorem dX8_pack_47 : decode cX8_pack 47 = .ok (.iload 5, 2) := by decide +kernel
theorem dX8_pack_49 : decode cX8_pack 49 = .ok (.sipush 4096, 3) := by decide +kernel
theorem dX8_pack_52 : decode cX8_pack 52 = .ok (.iadd, 1) := by decide +kernel
theorem dX8_pack_53 : decode cX8_pack 53 = .ok (.iload 4, 2) := by decide +kernel
theorem dX8_pack_55 : decode cX8_pack 55 = .ok (.invokestatic 85, 3) := by decide +kernel
theorem dX8_pack_58 : decode cX8_pack 58 = .ok (.istore 6, 2) := by decide +kernel
theorem dX8_pack_60 : decode cX8_pack 60 = .ok (.aload_n 0, 1) := by decide +kernel
theorem dX8_pack_61 : decode cX8_pack 61 = .ok (.aload_n 1, 1) := by decide +kernel
theorem dX8_pack_62 : decode cX8_pack 62 = .ok (.iload 5, 2) := by decide +kernel
theorem dX8_pack_64 : decode cX8_pack 64 = .ok (.iload 6, 2) := by decide +kernel
theorem dX8_pack_66 : decode cX8_pack 66 = .ok (.invokevirtual 91, 3) := by decide +kernel
theorem dX8_pack_69 : decode cX8_pack 69 = .ok (.aload_n 0, 1) := by decide +kernel
theorem dX8_pack_70 : decode cX8_pack 70 = .ok (.invokevirtual 95, 3) := by decide +kernel
theorem dX8_pack_73 : decode cX8_pack 73 = .ok (.aload_n 0, 1) := by decide +kernel
theorem dX8_pack_74 : decode cX8_pack 74 = .ok (.invokevirtual 96, 3) := by decide +kernel
theorem dX8_pack_77 : decode cX8_pack 77 = .ok (.aload_n 0, 1) := by decide +kernel
theorem dX8_pack_78 : decode cX8_pack 78 = .ok (.invokevirtual 99, 3) := by decide +kernel
theorem dX8_pack_81 : decode cX8_pack 81 = .ok (.aload_n 0, 1) := by decide +kernel
theorem dX8_pack_82 : decode cX8_pack 82 = .ok (.iload 6, 2) := by decide +kernel
theorem dX8_pack_84 : decode cX8_pack 84 = .ok (.iload 5, 2) := by decide +kernel
theorem dX8_pack_86 : decode cX8_pack 86 = .ok (.isub, 1) := by decide +kernel
theorem dX8_pack_87 : decode cX8_pack 87 = .ok (.invokevirtual 102, 3) := by decide +kernel
theorem dX8_pack_90 : decode cX8_pack 90 = .ok (.istore 7, 2) := by decide +kernel
theorem dX8_pack_92 : decode cX8_pack 92 = .ok (.aload_n 0, 1) := by decide +kernel
theorem dX8_pack_93 : decode cX8_pack 93 = .ok (.getfield 64, 3) := by decide +kernel
theorem dX8_pack_96 : decode cX8_pack 96 = .ok (.iload 6, 2) := by decide +kernel
theorem dX8_pack_98 : decode cX8_pack 98 = .ok (.iload 4, 2) := by decide +kernel
theorem dX8_pack_100 : decode cX8_pack 100 = .ok (.if_icmp .ne 7, 3) := by decide +kernel
theorem dX8_pack_103 : decode cX8_pack 103 = .ok (.iconst 1, 1) := by decide +kernel
theorem dX8_pack_104 : decode cX8_pack 104 = .ok (.goto 4, 3) := by decide +kernel
theorem dX8_pack_107 : decode cX8_pack 107 = .ok (.iconst 0, 1) := by decide +kernel
theorem dX8_pack_108 : decode cX8_pack 108 = .ok (.iconst 1, 1) := by decide +kernel
theorem dX8_pack_109 : decode cX8_pack 109 = .ok (.invokevirtual 82, 3) := by decide +kernel
theorem dX8_pack_112 : decode cX8_pack 112 = .ok (.aload_n 0, 1) := by decide +kernel
theorem dX8_pack_113 : decode cX8_pack 113 = .ok (.getfield 64, 3) := by decide +kernel
theorem dX8_pack_116 : decode cX8_pack 116 = .ok (.iload 7, 2) := by decide +kernel
theorem dX8_pack_118 : decode cX8_pack 118 = .ok (.iconst 2, 1) := by decide +kernel
theorem dX8_pack_119 : decode cX8_pack 119 = .ok (.invokevirtual 82, 3) := by decide +kernel
theorem dX8_pack_122 : decode cX8_pack 122 = .ok (.iload 7, 2) := by decide +kernel
theorem dX8_pack_124 : decode cX8_pack 124 = .ok (.ifCond .ne 22, 3) := by decide +kernel
theorem dX8_pack_127 : decode cX8_pack 127 = .ok (.aload_n 0, 1) := by decide +kernel
theorem dX8_pack_128 : decode cX8_pack 128 = .ok (.getfield 64, 3) := by decide +kernel
theorem dX8_pack_131 : decode cX8_pack 131 = .ok (.invokevirtual 105, 3) := by decide +kernel
theorem dX8_pack_134 : decode cX8_pack 134 = .ok (.aload_n 0, 1) := by decide +kernel
theorem dX8_pack_135 : decode cX8_pack 135 = .ok (.aload_n 1, 1) := by decide +kernel
theorem dX8_pack_136 : decode cX8_pack 136 = .ok (.iload 5, 2) := by decide +kernel
theorem dX8_pack_138 : decode cX8_pack 138 = .ok (.iload 6, 2) := by decide +kernel
theorem dX8_pack_140 : decode cX8_pack 140 = .ok (.invokevirtual 108, 3) := by decide +kernel
theorem dX8_pack_143 : decode cX8_pack 143 = .ok (.goto 40, 3) := by decide +kernel
theorem dX8_pack_146 : decode cX8_pack 146 = .ok (.iload 7, 2) := by decide +kernel
theorem dX8_pack_148 : decode cX8_pack 148 = .ok (.iconst 1, 1) := by decide +kernel
theorem dX8_pack_149 : decode cX8_pack 149 = .ok (.if_icmp .ne 18, 3) := by decide +kernel
theorem dX8_pack_152 : decode cX8_pack 152 = .ok (.aload_n 0, 1) := by decide +kernel
theorem dX8_pack_153 : decode cX8_pack 153 = .ok (.aload_n 0, 1) := by decide +kernel
theorem dX8_pack_154 : decode cX8_pack 154 = .ok (.getfield 40, 3) := by decide +kernel
theorem dX8_pack_157 : decode cX8_pack 157 = .ok (.aload_n 0, 1) := by decide +kernel
theorem dX8_pack_158 : decode cX8_pack 158 = .ok (.getfield 43, 3) := by decide +kernel
theorem dX8_pack_161 : decode cX8_pack 161 = .ok (.invokevirtual 111, 3) := by decide +kernel
theorem dX8_pack_164 : decode cX8_pack 164 = .ok (.goto 19, 3) := by decide +kernel
theorem dX8_pack_167 : decode cX8_pack 167 = .ok (.aload_n 0, 1) := by decide +kernel
theorem dX8_pack_168 : decode cX8_pack 168 = .ok (.invokevirtual 115, 3) := by decide +kernel
theorem dX8_pack_171 : decode cX8_pack 171 = .ok (.aload_n 0, 1) := by decide +kernel
theorem dX8_pack_172 : decode cX8_pack 172 = .ok (.aload_n 0, 1) := by decide +kernel
theorem dX8_pack_173 : decode cX8_pack 173 = .ok (.getfield 30, 3) := by decide +kernel
theorem dX8_pack_176 : decode cX8_pack 176 = .ok (.aload_n 0, 1) := by decide +kernel
theorem dX8_pack_177 : decode cX8_pack 177 = .ok (.getfield 34, 3) := by decide +kernel
theorem dX8_pack_180 : decode cX8_pack 180 = .ok (.invokevirtual 111, 3) := by decide +kernel
theorem dX8_pack_183 : decode cX8_pack 183 = .ok (.iinc 5 4096, 6) := by decide +kernel
theorem dX8_pack_189 : decode cX8_pack 189 = .ok (.goto (-149), 3) := by decide +kernel
theorem dX8_pack_192 : decode cX8_pack 192 = .ok (.aload_n 0, 1) := by decide +kernel
theorem dX8_pack_193 : decode cX8_pack 193 = .ok (.getfield 64, 3) := by decide +kernel
theorem dX8_pack_196 : decode cX8_pack 196 = .ok (.invokevirtual 105, 3) := by decide +kernel
theorem dX8_pack_199 : decode cX8_pack 199 = .ok (.aload_n 1, 1) := by decide +kernel
theorem dX8_pack_200 : decode cX8_pack 200 = .ok (.iload_n 2, 1) := by decide +kernel
theorem dX8_pack_201 : decode cX8_pack 201 = .ok (.iload_n 3, 1) := by decide +kernel
theorem dX8_pack_202 : decode cX8_pack 202 = .ok (.invokestatic 118, 3) := by decide +kernel
theorem dX8_pack_205 : decode cX8_pack 205 = .ok (.istore 5, 2) := by decide +kernel
theorem dX8_pack_207 : decode cX8_pack 207 = .ok (.bipush 24, 2) := by decide +kernel
theorem dX8_pack_209 : decode cX8_pack 209 = .ok (.istore 6, 2) := by decide +kernel
theorem dX8_pack_211 : decode cX8_pack 211 = .ok (.iload 6, 2) := by decide +kernel
theorem dX8_pack_213 : decode cX8_pack 213 = .ok (.ifCond .lt 23, 3) := by decide +kernel
theorem dX8_pack_216 : decode cX8_pack 216 = .ok (.aload_n 0, 1) := by decide +kernel
theorem dX8_pack_217 : decode cX8_pack 217 = .ok (.getfield 64, 3) := by decide +kernel
theorem dX8_pack_220 : decode cX8_pack 220 = .ok (.iload 5, 2) := by decide +kernel
theorem dX8_pack_222 : decode cX8_pack 222 = .ok (.iload 6, 2) := by decide +kernel
theorem dX8_pack_224 : decode cX8_pack 224 = .ok (.iushr, 1) := by decide +kernel
theorem dX8_pack_225 : decode cX8_pack 225 = .ok (.bipush 8, 2) := by decide +kernel
theorem dX8_pack_227 : decode cX8_pack 227 = .ok (.invokevirtual 82, 3) := by decide +kernel
theorem dX8_pack_230 : decode cX8_pack 230 = .ok (.iinc 6 (-8), 3) := by decide +kernel
theorem dX8_pack_233 : decode cX8_pack 233 = .ok (.goto (-22), 3) := by decide +kernel
theorem dX8_pack_236 : decode cX8_pack 236 = .ok (.return_, 1) := by decide +kernel
theorem dX8_gather_0 : decode cX8_gather 0 = .ok (.aload_n 0, 1) := by decide +kernel
theorem dX8_gather_1 : decode cX8_gather 1 = .ok (.iconst 0, 1) := by decide +kernel
theorem dX8_gather_2 : decode cX8_gather 2 = .ok (.putfield 122, 3) := by decide +kernel
theorem dX8_gather_5 : decode cX8_gather 5 = .ok (.aload_n 0, 1) := by decide +kernel
theorem dX8_gather_6 : decode cX8_gather 6 = .ok (.iconst 0, 1) := by decide +kernel
theorem dX8_gather_7 : decode cX8_gather 7 = .ok (.putfield 126, 3) := by decide +kernel
theorem dX8_gather_10 : decode cX8_gather 10 = .ok (.aload_n 0, 1) := by decide +kernel
theorem dX8_gather_11 : decode cX8_gather 11 = .ok (.getfield 30, 3) := by decide +kernel
theorem dX8_gather_14 : decode cX8_gather 14 = .ok (.invokevirtual 129, 3) := by decide +kernel
theorem dX8_gather_17 : decode cX8_gather 17 = .ok (.aload_n 0, 1) := by decide +kernel
theorem dX8_gather_18 : decode cX8_gather 18 = .ok (.getfield 34, 3) := by decide +kernel
theorem dX8_gather_21 : decode cX8_gather 21 = .ok (.invokevirtual 129, 3) := by decide +kernel
theorem dX8_gather_24 : decode cX8_gather 24 = .ok (.iconst 1, 1) := by decide +kernel
theorem dX8_gather_25 : decode cX8_gather 25 = .ok (.istore 4, 2) := by decide +kernel
theorem dX8_gather_27 : decode cX8_gather 27 = .ok (.iload_n 2, 1) := by decide +kernel
theorem dX8_gather_28 : decode cX8_gather 28 = .ok (.istore 5, 2) := by decide +kernel
theorem dX8_gather_30 : decode cX8_gather 30 = .ok (.iload 5, 2) := by decide +kernel
theorem dX8_gather_32 : decode cX8_gather 32 = .ok (.iload_n 3, 1) := by decide +kernel
theorem dX8_gather_33 : decode cX8_gather 33 = .ok (.if_icmp .ge 131, 3) := by decide +kernel
theorem dX8_gather_36 : decode cX8_gather 36 = .ok (.aload_n 0, 1) := by decide +kernel
theorem dX8_gather_37 : decode cX8_gather 37 = .ok (.getfield 12, 3) := by decide +kernel
theorem dX8_gather_40 : decode cX8_gather 40 = .ok (.aload_n 1, 1) := by decide +kernel
theorem dX8_gather_41 : decode cX8_gather 41 = .ok (.iload 5, 2) := by decide +kernel
theorem dX8_gather_43 : decode cX8_gather 43 = .ok (.iload_n 3, 1) := by decide +kernel
theorem dX8_gather_44 : decode cX8_gather 44 = .ok (.invokevirtual 132, 3) := by decide +kernel
theorem dX8_gather_47 : decode cX8_gather 47 = .ok (.ifCond .eq 51, 3) := by decide +kernel
theorem dX8_gather_50 : decode cX8_gather 50 = .ok (.aload_n 0, 1) := by decide +kernel
theorem dX8_gather_51 : decode cX8_gather 51 = .ok (.getfield 12, 3) := by decide +kernel
theorem dX8_gather_54 : decode cX8_gather 54 = .ok (.invokevirtual 136, 3) := by decide +kernel
theorem dX8_gather_57 : decode cX8_gather 57 = .ok (.iconst 1, 1) := by decide +kernel
theorem dX8_gather_58 : decode cX8_gather 58 = .ok (.invokestatic 140, 3) := by decide +kernel
theorem dX8_gather_61 : decode cX8_gather 61 = .ok (.istore 4, 2) := by decide +kernel
theorem dX8_gather_63 : decode cX8_gather 63 = .ok (.aload_n 0, 1) := by decide +kernel
theorem dX8_gather_64 : decode cX8_gather 64 = .ok (.iload 4, 2) := by decide +kernel
theorem dX8_gather_66 : decode cX8_gather 66 = .ok (.aload_n 0, 1) := by decide +kernel
theorem dX8_gather_67 : decode cX8_gather 67 = .ok (.getfield 12, 3) := by decide +kernel
theorem dX8_gather_70 : decode cX8_gather 70 = .ok (.invokevirtual 143, 3) := by decide +kernel
theorem dX8_gather_73 : decode cX8_gather 73 = .ok (.invokevirtual 146, 3) := by decide +kernel
theorem dX8_gather_76 : decode cX8_gather 76 = .ok (.aload_n 0, 1) := by decide +kernel
theorem dX8_gather_77 : decode cX8_gather 77 = .ok (.iload 4, 2) := by decide +kernel
theorem dX8_gather_79 : decode cX8_gather 79 = .ok (.invokestatic 149, 3) := by decide +kernel
theorem dX8_gather_82 : decode cX8_gather 82 = .ok (.aload_n 0, 1) := by decide +kernel
theorem dX8_gather_83 : decode cX8_gather 83 = .ok (.getfield 12, 3) := by decide +kernel
theorem dX8_gather_86 : decode cX8_gather 86 = .ok (.invokevirtual 143, 3) := by decide +kernel
theorem dX8_gather_89 : decode cX8_gather 89 = .ok (.invokestatic 152, 3) := by decide +kernel
theorem dX8_gather_92 : decode cX8_gather 92 = .ok (.invokevirtual 155, 3) := by decide +kernel
theorem dX8_gather_95 : decode cX8_gather 95 = .ok (.goto 30, 3) := by decide +kernel
theorem dX8_gather_98 : decode cX8_gather 98 = .ok (.iconst 1, 1) := by decide +kernel
theorem dX8_gather_99 : decode cX8_gather 99 = .ok (.istore 4, 2) := by decide +kernel
theorem dX8_gather_101 : decode cX8_gather 101 = .ok (.aload_n 0, 1) := by decide +kernel
theorem dX8_gather_102 : decode cX8_gather 102 = .ok (.aload_n 1, 1) := by decide +kernel
theorem dX8_gather_103 : decode cX8_gather 103 = .ok (.iload 5, 2) := by decide +kernel
theorem dX8_gather_105 : decode cX8_gather 105 = .ok (.invokevirtual 158, 3) := by decide +kernel
theorem dX8_gather_108 : decode cX8_gather 108 = .ok (.iconst 0, 1) := by decide +kernel
theorem dX8_gather_109 : decode cX8_gather 109 = .ok (.invokevirtual 146, 3) := by decide +kernel
theorem dX8_gather_112 : decode cX8_gather 112 = .ok (.aload_n 0, 1) := by decide +kernel
theorem dX8_gather_113 : decode cX8_gather 113 = .ok (.getfield 30, 3) := by decide +kernel
theorem dX8_gather_116 : decode cX8_gather 116 = .ok (.aload_n 1, 1) := by decide +kernel
theorem dX8_gather_117 : decode cX8_gather 117 = .ok (.iload 5, 2) := by decide +kernel
theorem dX8_gather_119 : decode cX8_gather 119 = .ok (.invokevirtual 158, 3) := by decide +kernel
theorem dX8_gather_122 : decode cX8_gather 122 = .ok (.invokevirtual 163, 3) := by decide +kernel
theorem dX8_gather_125 : decode cX8_gather 125 = .ok (.iconst 0, 1) := by decide +kernel
theorem dX8_gather_126 : decode cX8_gather 126 = .ok (.istore 6, 2) := by decide +kernel
theorem dX8_gather_128 : decode cX8_gather 128 = .ok (.iload 6, 2) := by decide +kernel
theorem dX8_gather_130 : decode cX8_gather 130 = .ok (.iload 4, 2) := by decide +kernel
theorem dX8_gather_132 : decode cX8_gather 132 = .ok (.if_icmp .ge 22, 3) := by decide +kernel
theorem dX8_gather_135 : decode cX8_gather 135 = .ok (.aload_n 0, 1) := by decide +kernel
theorem dX8_gather_136 : decode cX8_gather 136 = .ok (.getfield 12, 3) := by decide +kernel
theorem dX8_gather_139 : decode cX8_gather 139 = .ok (.aload_n 1, 1) := by decide +kernel
theorem dX8_gather_140 : decode cX8_gather 140 = .ok (.iload 5, 2) := by decide +kernel
theorem dX8_gather_142 : decode cX8_gather 142 = .ok (.iload 6, 2) := by decide +kernel
theorem dX8_gather_144 : decode cX8_gather 144 = .ok (.iadd, 1) := by decide +kernel
theorem dX8_gather_145 : decode cX8_gather 145 = .ok (.invokevirtual 166, 3) := by decide +kernel
theorem dX8_gather_148 : decode cX8_gather 148 = .ok (.iinc 6 1, 3) := by decide +kernel
theorem dX8_gather_151 : decode cX8_gather 151 = .ok (.goto (-23), 3) := by decide +kernel
theorem dX8_gather_154 : decode cX8_gather 154 = .ok (.iload 5, 2) := by decide +kernel
theorem dX8_gather_156 : decode cX8_gather 156 = .ok (.iload 4, 2) := by decide +kernel
theorem dX8_gather_158 : decode cX8_gather 158 = .ok (.iadd, 1) := by decide +kernel
theorem dX8_gather_159 : decode cX8_gather 159 = .ok (.istore 5, 2) := by decide +kernel
theorem dX8_gather_161 : decode cX8_gather 161 = .ok (.goto (-131), 3) := by decide +kernel
theorem dX8_gather_164 : decode cX8_gather 164 = .ok (.aload_n 0, 1) := by decide +kernel
theorem dX8_gather_165 : decode cX8_gather 165 = .ok (.getfield 30, 3) := by decide +kernel
theorem dX8_gather_168 : decode cX8_gather 168 = .ok (.sipush 256, 3) := by decide +kernel
theorem dX8_gather_171 : decode cX8_gather 171 = .ok (.invokevirtual 163, 3) := by decide +kernel
theorem dX8_gather_174 : decode cX8_gather 174 = .ok (.return_, 1) := by decide +kernel
theorem dX8_addItem_0 : decode cX8_addItem 0 = .ok (.aload_n 0, 1) := by decide +kernel
theorem dX8_addItem_1 : decode cX8_addItem 1 = .ok (.getfield 122, 3) := by decide +kernel
theorem dX8_addItem_4 : decode cX8_addItem 4 = .ok (.ifCond .lt 57, 3) := by decide +kernel
theorem dX8_addItem_7 : decode cX8_addItem 7 = .ok (.aload_n 0, 1) := by decide +kernel
theorem dX8_addItem_8 : decode cX8_addItem 8 = .ok (.getfield 122, 3) := by decide +kernel
theorem dX8_addItem_11 : decode cX8_addItem 11 = .ok (.aload_n 0, 1) := by decide +kernel
theorem dX8_addItem_12 : decode cX8_addItem 12 = .ok (.getfield 46, 3) := by decide +kernel
theorem dX8_addItem_15 : decode cX8_addItem 15 = .ok (.arraylength, 1) := by decide +kernel
theorem dX8_addItem_16 : decode cX8_addItem 16 = .ok (.if_icmp .ge 45, 3) := by decide +kernel
theorem dX8_addItem_19 : decode cX8_addItem 19 = .ok (.aload_n 0, 1) := by decide +kernel
theorem dX8_addItem_20 : decode cX8_addItem 20 = .ok (.getfield 122, 3) := by decide +kernel
theorem dX8_addItem_23 : decode cX8_addItem 23 = .ok (.aload_n 0, 1) := by decide +kernel
theorem dX8_addItem_24 : decode cX8_addItem 24 = .ok (.getfield 50, 3) := by decide +kernel
theorem dX8_addItem_27 : decode cX8_addItem 27 = .ok (.arraylength, 1) := by decide +kernel
theorem dX8_addItem_28 : decode cX8_addItem 28 = .ok (.if_icmp .ge 33, 3) := by decide +kernel
theorem dX8_addItem_31 : decode cX8_addItem 31 = .ok (.aload_n 0, 1) := by decide +kernel
theorem dX8_addItem_32 : decode cX8_addItem 32 = .ok (.getfield 46, 3) := by decide +kernel
theorem dX8_addItem_35 : decode cX8_addItem 35 = .ok (.aload_n 0, 1) := by decide +kernel
theorem dX8_addItem_36 : decode cX8_addItem 36 = .ok (.getfield 122, 3) := by decide +kernel
theorem dX8_addItem_39 : decode cX8_addItem 39 = .ok (.iload_n 1, 1) := by decide +kernel
theorem dX8_addItem_40 : decode cX8_addItem 40 = .ok (.iastore, 1) := by decide +kernel
theorem dX8_addItem_41 : decode cX8_addItem 41 = .ok (.aload_n 0, 1) := by decide +kernel
theorem dX8_addItem_42 : decode cX8_addItem 42 = .ok (.getfield 50, 3) := by decide +kernel
theorem dX8_addItem_45 : decode cX8_addItem 45 = .ok (.aload_n 0, 1) := by decide +kernel
theorem dX8_addItem_46 : decode cX8_addItem 46 = .ok (.getfield 122, 3) := by decide +kernel
theorem dX8_addItem_49 : decode cX8_addItem 49 = .ok (.iload_n 2, 1) := by decide +kernel
theorem dX8_addItem_50 : decode cX8_addItem 50 = .ok (.iastore, 1) := by decide +kernel
theorem dX8_addItem_51 : decode cX8_addItem 51 = .ok (.aload_n 0, 1) := by decide +kernel
theorem dX8_addItem_52 : decode cX8_addItem 52 = .ok (.dup, 1) := by decide +kernel
theorem dX8_addItem_53 : decode cX8_addItem 53 = .ok (.getfield 122, 3) := by decide +kernel
theorem dX8_addItem_56 : decode cX8_addItem 56 = .ok (.iconst 1, 1) := by decide +kernel
theorem dX8_addItem_57 : decode cX8_addItem 57 = .ok (.iadd, 1) := by decide +kernel
theorem dX8_addItem_58 : decode cX8_addItem 58 = .ok (.putfield 122, 3) := by decide +kernel
theorem dX8_addItem_61 : decode cX8_addItem 61 = .ok (.return_, 1) := by decide +kernel
theorem dX8_countMatch_0 : decode cX8_countMatch 0 = .ok (.aload_n 0, 1) := by decide +kernel
theorem dX8_countMatch_1 : decode cX8_countMatch 1 = .ok (.getfield 30, 3) := by decide +kernel
theorem dX8_countMatch_4 : decode cX8_countMatch 4 = .ok (.iload_n 1, 1) := by decide +kernel
theorem dX8_countMatch_5 : decode cX8_countMatch 5 = .ok (.invokevirtual 163, 3) := by decide +kernel
theorem dX8_countMatch_8 : decode cX8_countMatch 8 = .ok (.aload_n 0, 1) := by decide +kernel
theorem dX8_countMatch_9 : decode cX8_countMatch 9 = .ok (.getfield 34, 3) := by decide +kernel
theorem dX8_countMatch_12 : decode cX8_countMatch 12 = .ok (.iload_n 2, 1) := by decide +kernel
theorem dX8_countMatch_13 : decode cX8_countMatch 13 = .ok (.invokevirtual 163, 3) := by decide +kernel
theorem dX8_countMatch_16 : decode cX8_countMatch 16 = .ok (.aload_n 0, 1) := by decide +kernel
theorem dX8_countMatch_17 : decode cX8_countMatch 17 = .ok (.dup, 1) := by decide +kernel
theorem dX8_countMatch_18 : decode cX8_countMatch 18 = .ok (.getfield 126, 3) := by decide +kernel
theorem dX8_countMatch_21 : decode cX8_countMatch 21 = .ok (.iload_n 1, 1) := by decide +kernel
theorem dX8_countMatch_22 : decode cX8_countMatch 22 = .ok (.invokestatic 170, 3) := by decide +kernel
theorem dX8_countMatch_25 : decode cX8_countMatch 25 = .ok (.iload_n 2, 1) := by decide +kernel
theorem dX8_countMatch_26 : decode cX8_countMatch 26 = .ok (.invokestatic 173, 3) := by decide +kernel
theorem dX8_countMatch_29 : decode cX8_countMatch 29 = .ok (.iadd, 1) := by decide +kernel
theorem dX8_countMatch_30 : decode cX8_countMatch 30 = .ok (.iadd, 1) := by decide +kernel
theorem dX8_countMatch_31 : decode cX8_countMatch 31 = .ok (.putfield 126, 3) := by decide +kernel
theorem dX8_countMatch_34 : decode cX8_countMatch 34 = .ok (.return_, 1) := by decide +kernel
theorem dX8_makeCodes_0 : decode cX8_makeCodes 0 = .ok (.aload_n 0, 1) := by decide +kernel
theorem dX8_makeCodes_1 : decode cX8_makeCodes 1 = .ok (.getfield 21, 3) := by decide +kernel
theorem dX8_makeCodes_4 : decode cX8_makeCodes 4 = .ok (.aload_n 0, 1) := by decide +kernel
theorem dX8_makeCodes_5 : decode cX8_makeCodes 5 = .ok (.getfield 30, 3) := by decide +kernel
theorem dX8_makeCodes_8 : decode cX8_makeCodes 8 = .ok (.bipush 15, 2) := by decide +kernel
theorem dX8_makeCodes_10 : decode cX8_makeCodes 10 = .ok (.invokevirtual 176, 3) := by decide +kernel
theorem dX8_makeCodes_13 : decode cX8_makeCodes 13 = .ok (.aload_n 0, 1) := by decide +kernel
theorem dX8_makeCodes_14 : decode cX8_makeCodes 14 = .ok (.getfield 21, 3) := by decide +kernel
theorem dX8_makeCodes_17 : decode cX8_makeCodes 17 = .ok (.aload_n 0, 1) := by decide +kernel
theorem dX8_makeCodes_18 : decode cX8_makeCodes 18 = .ok (.getfield 34, 3) := by decide +kernel
theorem dX8_makeCodes_21 : decode cX8_makeCodes 21 = .ok (.bipush 15, 2) := by decide +kernel
theorem dX8_makeCodes_23 : decode cX8_makeCodes 23 = .ok (.invokevirtual 176, 3) := by decide +kernel
theorem dX8_makeCodes_26 : decode cX8_makeCodes 26 = .ok (.aload_n 0, 1) := by decide +kernel
theorem dX8_makeCodes_27 : decode cX8_makeCodes 27 = .ok (.getfield 30, 3) := by decide +kernel
theorem dX8_makeCodes_30 : decode cX8_makeCodes 30 = .ok (.invokevirtual 76, 3) := by decide +kernel
theorem dX8_makeCodes_33 : decode cX8_makeCodes 33 = .ok (.aload_n 0, 1) := by decide +kernel
theorem dX8_makeCodes_34 : decode cX8_makeCodes 34 = .ok (.getfield 34, 3) := by decide +kernel
theorem dX8_makeCodes_37 : decode cX8_makeCodes 37 = .ok (.invokevirtual 76, 3) := by decide +kernel
theorem dX8_makeCodes_40 : decode cX8_makeCodes 40 = .ok (.return_, 1) := by decide +kernel
theorem dX8_makeSizes_0 : decode cX8_makeSizes 0 = .ok (.aload_n 0, 1) := by decide +kernel
theorem dX8_makeSizes_1 : decode cX8_makeSizes 1 = .ok (.getfield 37, 3) := by decide +kernel
theorem dX8_makeSizes_4 : decode cX8_makeSizes 4 = .ok (.invokevirtual 129, 3) := by decide +kernel
theorem dX8_makeSizes_7 : decode cX8_makeSizes 7 = .ok (.iconst 0, 1) := by decide +kernel
theorem dX8_makeSizes_8 : decode cX8_makeSizes 8 = .ok (.istore_n 1, 1) := by decide +kernel
theorem dX8_makeSizes_9 : decode cX8_makeSizes 9 = .ok (.iload_n 1, 1) := by decide +kernel
theorem dX8_makeSizes_10 : decode cX8_makeSizes 10 = .ok (.aload_n 0, 1) := by decide +kernel
theorem dX8_makeSizes_11 : decode cX8_makeSizes 11 = .ok (.getfield 180, 3) := by decide +kernel
theorem dX8_makeSizes_14 : decode cX8_makeSizes 14 = .ok (.if_icmp .ge 31, 3) := by decide +kernel
theorem dX8_makeSizes_17 : decode cX8_makeSizes 17 = .ok (.iload_n 1, 1) := by decide +kernel
theorem dX8_makeSizes_18 : decode cX8_makeSizes 18 = .ok (.aload_n 0, 1) := by decide +kernel
theorem dX8_makeSizes_19 : decode cX8_makeSizes 19 = .ok (.getfield 53, 3) := by decide +kernel
theorem dX8_makeSizes_22 : decode cX8_makeSizes 22 = .ok (.arraylength, 1) := by decide +kernel
theorem dX8_makeSizes_23 : decode cX8_makeSizes 23 = .ok (.if_icmp .ge 22, 3) := by decide +kernel
theorem dX8_makeSizes_26 : decode cX8_makeSizes 26 = .ok (.aload_n 0, 1) := by decide +kernel
theorem dX8_makeSizes_27 : decode cX8_makeSizes 27 = .ok (.getfield 37, 3) := by decide +kernel
theorem dX8_makeSizes_30 : decode cX8_makeSizes 30 = .ok (.aload_n 0, 1) := by decide +kernel
theorem dX8_makeSizes_31 : decode cX8_makeSizes 31 = .ok (.getfield 53, 3) := by decide +kernel
theorem dX8_makeSizes_34 : decode cX8_makeSizes 34 = .ok (.iload_n 1, 1) := by decide +kernel
theorem dX8_makeSizes_35 : decode cX8_makeSizes 35 = .ok (.iaload, 1) := by decide +kernel
theorem dX8_makeSizes_36 : decode cX8_makeSizes 36 = .ok (.invokevirtual 163, 3) := by decide +kernel
theorem dX8_makeSizes_39 : decode cX8_makeSizes 39 = .ok (.iinc 1 1, 3) := by decide +kernel
theorem dX8_makeSizes_42 : decode cX8_makeSizes 42 = .ok (.goto (-33), 3) := by decide +kernel
theorem dX8_makeSizes_45 : decode cX8_makeSizes 45 = .ok (.aload_n 0, 1) := by decide +kernel
theorem dX8_makeSizes_46 : decode cX8_makeSizes 46 = .ok (.getfield 21, 3) := by decide +kernel
theorem dX8_makeSizes_49 : decode cX8_makeSizes 49 = .ok (.aload_n 0, 1) := by decide +kernel
theorem dX8_makeSizes_50 : decode cX8_makeSizes 50 = .ok (.getfield 37, 3) := by decide +kernel
theorem dX8_makeSizes_53 : decode cX8_makeSizes 53 = .ok (.bipush 7, 2) := by decide +kernel
theorem dX8_makeSizes_55 : decode cX8_makeSizes 55 = .ok (.invokevirtual 176, 3) := by decide +kernel
theorem dX8_makeSizes_58 : decode cX8_makeSizes 58 = .ok (.aload_n 0, 1) := by decide +kernel
theorem dX8_makeSizes_59 : decode cX8_makeSizes 59 = .ok (.getfield 37, 3) := by decide +kernel
theorem dX8_makeSizes_62 : decode cX8_makeSizes 62 = .ok (.invokevirtual 76, 3) := by decide +kernel
theorem dX8_makeSizes_65 : decode cX8_makeSizes 65 = .ok (.return_, 1) := by decide +kernel
theorem dX8_toldSymbols_0 : decode cX8_toldSymbols 0 = .ok (.aload_n 0, 1) := by decide +kernel
theorem dX8_toldSymbols_1 : decode cX8_toldSymbols 1 = .ok (.getfield 30, 3) := by decide +kernel
theorem dX8_toldSymbols_4 : decode cX8_toldSymbols 4 = .ok (.invokevirtual 183, 3) := by decide +kernel
theorem dX8_toldSymbols_7 : decode cX8_toldSymbols 7 = .ok (.sipush 257, 3) := by decide +kernel
theorem dX8_toldSymbols_10 : decode cX8_toldSymbols 10 = .ok (.invokestatic 140, 3) := by decide +kernel
theorem dX8_toldSymbols_13 : decode cX8_toldSymbols 13 = .ok (.ireturn, 1) := by decide +kernel
theorem dX8_toldDistances_0 : decode cX8_toldDistances 0 = .ok (.aload_n 0, 1) := by decide +kernel
theorem dX8_toldDistances_1 : decode cX8_toldDistances 1 = .ok (.getfield 34, 3) := by decide +kernel
theorem dX8_toldDistances_4 : decode cX8_toldDistances 4 = .ok (.invokevirtual 183, 3) := by decide +kernel
theorem dX8_toldDistances_7 : decode cX8_toldDistances 7 = .ok (.iconst 1, 1) := by decide +kernel
theorem dX8_toldDistances_8 : decode cX8_toldDistances 8 = .ok (.invokestatic 140, 3) := by decide +kernel
theorem dX8_toldDistances_11 : decode cX8_toldDistances 11 = .ok (.ireturn, 1) := by decide +kernel
theorem dX8_toldSizes_0 : decode cX8_toldSizes 0 = .ok (.bipush 19, 2) := by decide +kernel
theorem dX8_toldSizes_2 : decode cX8_toldSizes 2 = .ok (.istore_n 1, 1) := by decide +kernel
theorem dX8_toldSizes_3 : decode cX8_toldSizes 3 = .ok (.iload_n 1, 1) := by decide +kernel
theorem dX8_toldSizes_4 : decode cX8_toldSizes 4 = .ok (.iconst 4, 1) := by decide +kernel
theorem dX8_toldSizes_5 : decode cX8_toldSizes 5 = .ok (.if_icmp .le 25, 3) := by decide +kernel
theorem dX8_toldSizes_8 : decode cX8_toldSizes 8 = .ok (.aload_n 0, 1) := by decide +kernel
theorem dX8_toldSizes_9 : decode cX8_toldSizes 9 = .ok (.getfield 37, 3) := by decide +kernel
theorem dX8_toldSizes_12 : decode cX8_toldSizes 12 = .ok (.iload_n 1, 1) := by decide +kernel
theorem dX8_toldSizes_13 : decode cX8_toldSizes 13 = .ok (.iconst 1, 1) := by decide +kernel
theorem dX8_toldSizes_14 : decode cX8_toldSizes 14 = .ok (.isub, 1) := by decide +kernel
theorem dX8_toldSizes_15 : decode cX8_toldSizes 15 = .ok (.invokestatic 186, 3) := by decide +kernel
theorem dX8_toldSizes_18 : decode cX8_toldSizes 18 = .ok (.invokevirtual 189, 3) := by decide +kernel
theorem dX8_toldSizes_21 : decode cX8_toldSizes 21 = .ok (.ifCond .ne 9, 3) := by decide +kernel
theorem dX8_toldSizes_24 : decode cX8_toldSizes 24 = .ok (.iinc 1 (-1), 3) := by decide +kernel
theorem dX8_toldSizes_27 : decode cX8_toldSizes 27 = .ok (.goto (-24), 3) := by decide +kernel
theorem dX8_toldSizes_30 : decode cX8_toldSizes 30 = .ok (.iload_n 1, 1) := by decide +kernel
theorem dX8_toldSizes_31 : decode cX8_toldSizes 31 = .ok (.ireturn, 1) := by decide +kernel
theorem dX8_makeTold_0 : decode cX8_makeTold 0 = .ok (.aload_n 0, 1) := by decide +kernel
theorem dX8_makeTold_1 : decode cX8_makeTold 1 = .ok (.invokevirtual 192, 3) := by decide +kernel
theorem dX8_makeTold_4 : decode cX8_makeTold 4 = .ok (.istore_n 1, 1) := by decide +kernel
theorem dX8_makeTold_5 : decode cX8_makeTold 5 = .ok (.iload_n 1, 1) := by decide +kernel
theorem dX8_makeTold_6 : decode cX8_makeTold 6 = .ok (.aload_n 0, 1) := by decide +kernel
theorem dX8_makeTold_7 : decode cX8_makeTold 7 = .ok (.invokevirtual 195, 3) := by decide +kernel
theorem dX8_makeTold_10 : decode cX8_makeTold 10 = .ok (.iadd, 1) := by decide +kernel
theorem dX8_makeTold_11 : decode cX8_makeTold 11 = .ok (.istore_n 2, 1) := by decide +kernel
theorem dX8_makeTold_12 : decode cX8_makeTold 12 = .ok (.iconst (-1), 1) := by decide +kernel
theorem dX8_makeTold_13 : decode cX8_makeTold 13 = .ok (.istore_n 3, 1) := by decide +kernel
theorem dX8_makeTold_14 : decode cX8_makeTold 14 = .ok (.iconst 0, 1) := by decide +kernel
theorem dX8_makeTold_15 : decode cX8_makeTold 15 = .ok (.istore 4, 2) := by decide +kernel
theorem dX8_makeTold_17 : decode cX8_makeTold 17 = .ok (.aload_n 0, 1) := by decide +kernel
theorem dX8_makeTold_18 : decode cX8_makeTold 18 = .ok (.iconst 0, 1) := by decide +kernel
theorem dX8_makeTold_19 : decode cX8_makeTold 19 = .ok (.putfield 180, 3) := by decide +kernel
theorem dX8_makeTold_22 : decode cX8_makeTold 22 = .ok (.iconst 0, 1) := by decide +kernel
theorem dX8_makeTold_23 : decode cX8_makeTold 23 = .ok (.istore 5, 2) := by decide +kernel
theorem dX8_makeTold_25 : decode cX8_makeTold 25 = .ok (.iload 5, 2) := by decide +kernel
theorem dX8_makeTold_27 : decode cX8_makeTold 27 = .ok (.iload_n 2, 1) := by decide +kernel
theorem dX8_makeTold_28 : decode cX8_makeTold 28 = .ok (.if_icmp .ge 62, 3) := by decide +kernel
theorem dX8_makeTold_31 : decode cX8_makeTold 31 = .ok (.iload 5, 2) := by decide +kernel
theorem dX8_makeTold_33 : decode cX8_makeTold 33 = .ok (.iload_n 1, 1) := by decide +kernel
theorem dX8_makeTold_34 : decode cX8_makeTold 34 = .ok (.if_icmp .ge 15, 3) := by decide +kernel
theorem dX8_makeTold_37 : decode cX8_makeTold 37 = .ok (.aload_n 0, 1) := by decide +kernel
theorem dX8_makeTold_38 : decode cX8_makeTold 38 = .ok (.getfield 30, 3) := by decide +kernel
theorem dX8_makeTold_41 : decode cX8_makeTold 41 = .ok (.iload 5, 2) := by decide +kernel
theorem dX8_makeTold_43 : decode cX8_makeTold 43 = .ok (.invokevirtual 189, 3) := by decide +kernel
theorem dX8_makeTold_46 : decode cX8_makeTold 46 = .ok (.goto 14, 3) := by decide +kernel
theorem dX8_makeTold_49 : decode cX8_makeTold 49 = .ok (.aload_n 0, 1) := by decide +kernel
theorem dX8_makeTold_50 : decode cX8_makeTold 50 = .ok (.getfield 34, 3) := by decide +kernel
theorem dX8_makeTold_53 : decode cX8_makeTold 53 = .ok (.iload 5, 2) := by decide +kernel
theorem dX8_makeTold_55 : decode cX8_makeTold 55 = .ok (.iload_n 1, 1) := by decide +kernel
theorem dX8_makeTold_56 : decode cX8_makeTold 56 = .ok (.isub, 1) := by decide +kernel
theorem dX8_makeTold_57 : decode cX8_makeTold 57 = .ok (.invokevirtual 189, 3) := by decide +kernel
theorem dX8_makeTold_60 : decode cX8_makeTold 60 = .ok (.istore 6, 2) := by decide +kernel
theorem dX8_makeTold_62 : decode cX8_makeTold 62 = .ok (.iload 6, 2) := by decide +kernel
theorem dX8_makeTold_64 : decode cX8_makeTold 64 = .ok (.iload_n 3, 1) := by decide +kernel
theorem dX8_makeTold_65 : decode cX8_makeTold 65 = .ok (.if_icmp .eq 16, 3) := by decide +kernel
theorem dX8_makeTold_68 : decode cX8_makeTold 68 = .ok (.aload_n 0, 1) := by decide +kernel
theorem dX8_makeTold_69 : decode cX8_makeTold 69 = .ok (.iload_n 3, 1) := by decide +kernel
theorem dX8_makeTold_70 : decode cX8_makeTold 70 = .ok (.iload 4, 2) := by decide +kernel
theorem dX8_makeTold_72 : decode cX8_makeTold 72 = .ok (.invokevirtual 198, 3) := by decide +kernel
theorem dX8_makeTold_75 : decode cX8_makeTold 75 = .ok (.iload 6, 2) := by decide +kernel
theorem dX8_makeTold_77 : decode cX8_makeTold 77 = .ok (.istore_n 3, 1) := by decide +kernel
theorem dX8_makeTold_78 : decode cX8_makeTold 78 = .ok (.iconst 0, 1) := by decide +kernel
theorem dX8_makeTold_79 : decode cX8_makeTold 79 = .ok (.istore 4, 2) := by decide +kernel
theorem dX8_makeTold_81 : decode cX8_makeTold 81 = .ok (.iinc 4 1, 3) := by decide +kernel
theorem dX8_makeTold_84 : decode cX8_makeTold 84 = .ok (.iinc 5 1, 3) := by decide +kernel
theorem dX8_makeTold_87 : decode cX8_makeTold 87 = .ok (.goto (-62), 3) := by decide +kernel
theorem dX8_makeTold_90 : decode cX8_makeTold 90 = .ok (.aload_n 0, 1) := by decide +kernel
theorem dX8_makeTold_91 : decode cX8_makeTold 91 = .ok (.iload_n 3, 1) := by decide +kernel
theorem dX8_makeTold_92 : decode cX8_makeTold 92 = .ok (.iload 4, 2) := by decide +kernel
theorem dX8_makeTold_94 : decode cX8_makeTold 94 = .ok (.invokevirtual 198, 3) := by decide +kernel
theorem dX8_makeTold_97 : decode cX8_makeTold 97 = .ok (.return_, 1) := by decide +kernel
theorem dX8_tellSame_0 : decode cX8_tellSame 0 = .ok (.iload_n 2, 1) := by decide +kernel
theorem dX8_tellSame_1 : decode cX8_tellSame 1 = .ok (.istore_n 3, 1) := by decide +kernel
theorem dX8_tellSame_2 : decode cX8_tellSame 2 = .ok (.iload_n 1, 1) := by decide +kernel
theorem dX8_tellSame_3 : decode cX8_tellSame 3 = .ok (.ifCond .le 16, 3) := by decide +kernel
theorem dX8_tellSame_6 : decode cX8_tellSame 6 = .ok (.iload_n 3, 1) := by decide +kernel
theorem dX8_tellSame_7 : decode cX8_tellSame 7 = .ok (.ifCond .le 12, 3) := by decide +kernel
theorem dX8_tellSame_10 : decode cX8_tellSame 10 = .ok (.aload_n 0, 1) := by decide +kernel
theorem dX8_tellSame_11 : decode cX8_tellSame 11 = .ok (.iload_n 1, 1) := by decide +kernel
theorem dX8_tellSame_12 : decode cX8_tellSame 12 = .ok (.iconst 0, 1) := by decide +kernel
theorem dX8_tellSame_13 : decode cX8_tellSame 13 = .ok (.invokevirtual 201, 3) := by decide +kernel
theorem dX8_tellSame_16 : decode cX8_tellSame 16 = .ok (.iinc 3 (-1), 3) := by decide +kernel
theorem dX8_tellSame_19 : decode cX8_tellSame 19 = .ok (.iload_n 1, 1) := by decide +kernel
theorem dX8_tellSame_20 : decode cX8_tellSame 20 = .ok (.ifCond .ne 37, 3) := by decide +kernel
theorem dX8_tellSame_23 : decode cX8_tellSame 23 = .ok (.iload_n 3, 1) := by decide +kernel
theorem dX8_tellSame_24 : decode cX8_tellSame 24 = .ok (.bipush 11, 2) := by decide +kernel
theorem dX8_tellSame_26 : decode cX8_tellSame 26 = .ok (.if_icmp .lt 31, 3) := by decide +kernel
theorem dX8_tellSame_29 : decode cX8_tellSame 29 = .ok (.iload_n 3, 1) := by decide +kernel
theorem dX8_tellSame_30 : decode cX8_tellSame 30 = .ok (.sipush 138, 3) := by decide +kernel
theorem dX8_tellSame_33 : decode cX8_tellSame 33 = .ok (.invokestatic 85, 3) := by decide +kernel
theorem dX8_tellSame_36 : decode cX8_tellSame 36 = .ok (.istore 4, 2) := by decide +kernel
theorem dX8_tellSame_38 : decode cX8_tellSame 38 = .ok (.aload_n 0, 1) := by decide +kernel
theorem dX8_tellSame_39 : decode cX8_tellSame 39 = .ok (.bipush 18, 2) := by decide +kernel
theorem dX8_tellSame_41 : decode cX8_tellSame 41 = .ok (.iload 4, 2) := by decide +kernel
theorem dX8_tellSame_43 : decode cX8_tellSame 43 = .ok (.bipush 11, 2) := by decide +kernel
theorem dX8_tellSame_45 : decode cX8_tellSame 45 = .ok (.isub, 1) := by decide +kernel
theorem dX8_tellSame_46 : decode cX8_tellSame 46 = .ok (.invokevirtual 201, 3) := by decide +kernel
theorem dX8_tellSame_49 : decode cX8_tellSame 49 = .ok (.iload_n 3, 1) := by decide +kernel
theorem dX8_tellSame_50 : decode cX8_tellSame 50 = .ok (.iload 4, 2) := by decide +kernel
theorem dX8_tellSame_52 : decode cX8_tellSame 52 = .ok (.isub, 1) := by decide +kernel
theorem dX8_tellSame_53 : decode cX8_tellSame 53 = .ok (.istore_n 3, 1) := by decide +kernel
theorem dX8_tellSame_54 : decode cX8_tellSame 54 = .ok (.goto (-35), 3) := by decide +kernel
theorem dX8_tellSame_57 : decode cX8_tellSame 57 = .ok (.iload_n 1, 1) := by decide +kernel
theorem dX8_tellSame_58 : decode cX8_tellSame 58 = .ok (.ifCond .ne 19, 3) := by decide +kernel
theorem dX8_tellSame_61 : decode cX8_tellSame 61 = .ok (.iload_n 3, 1) := by decide +kernel
theorem dX8_tellSame_62 : decode cX8_tellSame 62 = .ok (.iconst 3, 1) := by decide +kernel
theorem dX8_tellSame_63 : decode cX8_tellSame 63 = .ok (.if_icmp .lt 14, 3) := by decide +kernel
theorem dX8_tellSame_66 : decode cX8_tellSame 66 = .ok (.aload_n 0, 1) := by decide +kernel
theorem dX8_tellSame_67 : decode cX8_tellSame 67 = .ok (.bipush 17, 2) := by decide +kernel
theorem dX8_tellSame_69 : decode cX8_tellSame 69 = .ok (.iload_n 3, 1) := by decide +kernel
theorem dX8_tellSame_70 : decode cX8_tellSame 70 = .ok (.iconst 3, 1) := by decide +kernel
theorem dX8_tellSame_71 : decode cX8_tellSame 71 = .ok (.isub, 1) := by decide +kernel
theorem dX8_tellSame_72 : decode cX8_tellSame 72 = .ok (.invokevirtual 201, 3) := by decide +kernel
theorem dX8_tellSame_75 : decode cX8_tellSame 75 = .ok (.iconst 0, 1) := by decide +kernel
theorem dX8_tellSame_76 : decode cX8_tellSame 76 = .ok (.istore_n 3, 1) := by decide +kernel
theorem dX8_tellSame_77 : decode cX8_tellSame 77 = .ok (.iload_n 1, 1) := by decide +kernel
theorem dX8_tellSame_78 : decode cX8_tellSame 78 = .ok (.ifCond .le 34, 3) := by decide +kernel
theorem dX8_tellSame_81 : decode cX8_tellSame 81 = .ok (.iload_n 3, 1) := by decide +kernel
theorem dX8_tellSame_82 : decode cX8_tellSame 82 = .ok (.iconst 3, 1) := by decide +kernel
theorem dX8_tellSame_83 : decode cX8_tellSame 83 = .ok (.if_icmp .lt 29, 3) := by decide +kernel
theorem dX8_tellSame_86 : decode cX8_tellSame 86 = .ok (.iload_n 3, 1) := by decide +kernel
theorem dX8_tellSame_87 : decode cX8_tellSame 87 = .ok (.bipush 6, 2) := by decide +kernel
theorem dX8_tellSame_89 : decode cX8_tellSame 89 = .ok (.invokestatic 85, 3) := by decide +kernel
theorem dX8_tellSame_92 : decode cX8_tellSame 92 = .ok (.istore 4, 2) := by decide +kernel
theorem dX8_tellSame_94 : decode cX8_tellSame 94 = .ok (.aload_n 0, 1) := by decide +kernel
theorem dX8_tellSame_95 : decode cX8_tellSame 95 = .ok (.bipush 16, 2) := by decide +kernel
theorem dX8_tellSame_97 : decode cX8_tellSame 97 = .ok (.iload 4, 2) := by decide +kernel
theorem dX8_tellSame_99 : decode cX8_tellSame 99 = .ok (.iconst 3, 1) := by decide +kernel
theorem dX8_tellSame_100 : decode cX8_tellSame 100 = .ok (.isub, 1) := by decide +kernel
theorem dX8_tellSame_101 : decode cX8_tellSame 101 = .ok (.invokevirtual 201, 3) := by decide +kernel
theorem dX8_tellSame_104 : decode cX8_tellSame 104 = .ok (.iload_n 3, 1) := by decide +kernel
theorem dX8_tellSame_105 : decode cX8_tellSame 105 = .ok (.iload 4, 2) := by decide +kernel
theorem dX8_tellSame_107 : decode cX8_tellSame 107 = .ok (.isub, 1) := by decide +kernel
theorem dX8_tellSame_108 : decode cX8_tellSame 108 = .ok (.istore_n 3, 1) := by decide +kernel
theorem dX8_tellSame_109 : decode cX8_tellSame 109 = .ok (.goto (-32), 3) := by decide +kernel
theorem dX8_tellSame_112 : decode cX8_tellSame 112 = .ok (.iconst 0, 1) := by decide +kernel
theorem dX8_tellSame_113 : decode cX8_tellSame 113 = .ok (.istore 4, 2) := by decide +kernel
theorem dX8_tellSame_115 : decode cX8_tellSame 115 = .ok (.iload 4, 2) := by decide +kernel
theorem dX8_tellSame_117 : decode cX8_tellSame 117 = .ok (.iload_n 3, 1) := by decide +kernel
theorem dX8_tellSame_118 : decode cX8_tellSame 118 = .ok (.if_icmp .ge 15, 3) := by decide +kernel
theorem dX8_tellSame_121 : decode cX8_tellSame 121 = .ok (.aload_n 0, 1) := by decide +kernel
theorem dX8_tellSame_122 : decode cX8_tellSame 122 = .ok (.iload_n 1, 1) := by decide +kernel
theorem dX8_tellSame_123 : decode cX8_tellSame 123 = .ok (.iconst 0, 1) := by decide +kernel
theorem dX8_tellSame_124 : decode cX8_tellSame 124 = .ok (.invokevirtual 201, 3) := by decide +kernel
theorem dX8_tellSame_127 : decode cX8_tellSame 127 = .ok (.iinc 4 1, 3) := by decide +kernel
theorem dX8_tellSame_130 : decode cX8_tellSame 130 = .ok (.goto (-15), 3) := by decide +kernel
theorem dX8_tellSame_133 : decode cX8_tellSame 133 = .ok (.return_, 1) := by decide +kernel
theorem dX8_addTold_0 : decode cX8_addTold 0 = .ok (.aload_n 0, 1) := by decide +kernel
theorem dX8_addTold_1 : decode cX8_addTold 1 = .ok (.getfield 180, 3) := by decide +kernel
theorem dX8_addTold_4 : decode cX8_addTold 4 = .ok (.ifCond .lt 57, 3) := by decide +kernel
theorem dX8_addTold_7 : decode cX8_addTold 7 = .ok (.aload_n 0, 1) := by decide +kernel
theorem dX8_addTold_8 : decode cX8_addTold 8 = .ok (.getfield 180, 3) := by decide +kernel
theorem dX8_addTold_11 : decode cX8_addTold 11 = .ok (.aload_n 0, 1) := by decide +kernel
theorem dX8_addTold_12 : decode cX8_addTold 12 = .ok (.getfield 53, 3) := by decide +kernel
theorem dX8_addTold_15 : decode cX8_addTold 15 = .ok (.arraylength, 1) := by decide +kernel
theorem dX8_addTold_16 : decode cX8_addTold 16 = .ok (.if_icmp .ge 45, 3) := by decide +kernel
theorem dX8_addTold_19 : decode cX8_addTold 19 = .ok (.aload_n 0, 1) := by decide +kernel
theorem dX8_addTold_20 : decode cX8_addTold 20 = .ok (.getfield 180, 3) := by decide +kernel
theorem dX8_addTold_23 : decode cX8_addTold 23 = .ok (.aload_n 0, 1) := by decide +kernel
theorem dX8_addTold_24 : decode cX8_addTold 24 = .ok (.getfield 56, 3) := by decide +kernel
theorem dX8_addTold_27 : decode cX8_addTold 27 = .ok (.arraylength, 1) := by decide +kernel
theorem dX8_addTold_28 : decode cX8_addTold 28 = .ok (.if_icmp .ge 33, 3) := by decide +kernel
theorem dX8_addTold_31 : decode cX8_addTold 31 = .ok (.aload_n 0, 1) := by decide +kernel
theorem dX8_addTold_32 : decode cX8_addTold 32 = .ok (.getfield 53, 3) := by decide +kernel
theorem dX8_addTold_35 : decode cX8_addTold 35 = .ok (.aload_n 0, 1) := by decide +kernel
theorem dX8_addTold_36 : decode cX8_addTold 36 = .ok (.getfield 180, 3) := by decide +kernel
theorem dX8_addTold_39 : decode cX8_addTold 39 = .ok (.iload_n 1, 1) := by decide +kernel
theorem dX8_addTold_40 : decode cX8_addTold 40 = .ok (.iastore, 1) := by decide +kernel
theorem dX8_addTold_41 : decode cX8_addTold 41 = .ok (.aload_n 0, 1) := by decide +kernel
theorem dX8_addTold_42 : decode cX8_addTold 42 = .ok (.getfield 56, 3) := by decide +kernel
theorem dX8_addTold_45 : decode cX8_addTold 45 = .ok (.aload_n 0, 1) := by decide +kernel
theorem dX8_addTold_46 : decode cX8_addTold 46 = .ok (.getfield 180, 3) := by decide +kernel
theorem dX8_addTold_49 : decode cX8_addTold 49 = .ok (.iload_n 2, 1) := by decide +kernel
theorem dX8_addTold_50 : decode cX8_addTold 50 = .ok (.iastore, 1) := by decide +kernel
theorem dX8_addTold_51 : decode cX8_addTold 51 = .ok (.aload_n 0, 1) := by decide +kernel
theorem dX8_addTold_52 : decode cX8_addTold 52 = .ok (.dup, 1) := by decide +kernel
theorem dX8_addTold_53 : decode cX8_addTold 53 = .ok (.getfield 180, 3) := by decide +kernel
theorem dX8_addTold_56 : decode cX8_addTold 56 = .ok (.iconst 1, 1) := by decide +kernel
theorem dX8_addTold_57 : decode cX8_addTold 57 = .ok (.iadd, 1) := by decide +kernel
theorem dX8_addTold_58 : decode cX8_addTold 58 = .ok (.putfield 180, 3) := by decide +kernel
theorem dX8_addTold_61 : decode cX8_addTold 61 = .ok (.return_, 1) := by decide +kernel
theorem dX8_bestSort_0 : decode cX8_bestSort 0 = .ok (.bipush 14, 2) := by decide +kernel
theorem dX8_bestSort_2 : decode cX8_bestSort 2 = .ok (.iconst 3, 1) := by decide +kernel
theorem dX8_bestSort_3 : decode cX8_bestSort 3 = .ok (.aload_n 0, 1) := by decide +kernel
theorem dX8_bestSort_4 : decode cX8_bestSort 4 = .ok (.invokevirtual 204, 3) := by decide +kernel
theorem dX8_bestSort_7 : decode cX8_bestSort 7 = .ok (.imul, 1) := by decide +kernel
theorem dX8_bestSort_8 : decode cX8_bestSort 8 = .ok (.iadd, 1) := by decide +kernel
theorem dX8_bestSort_9 : decode cX8_bestSort 9 = .ok (.aload_n 0, 1) := by decide +kernel
theorem dX8_bestSort_10 : decode cX8_bestSort 10 = .ok (.getfield 37, 3) := by decide +kernel
theorem dX8_bestSort_13 : decode cX8_bestSort 13 = .ok (.aload_n 0, 1) := by decide +kernel
theorem dX8_bestSort_14 : decode cX8_bestSort 14 = .ok (.getfield 37, 3) := by decide +kernel
theorem dX8_bestSort_17 : decode cX8_bestSort 17 = .ok (.invokevirtual 207, 3) := by decide +kernel
theorem dX8_bestSort_20 : decode cX8_bestSort 20 = .ok (.iadd, 1) := by decide +kernel
theorem dX8_bestSort_21 : decode cX8_bestSort 21 = .ok (.istore_n 2, 1) := by decide +kernel
theorem dX8_bestSort_22 : decode cX8_bestSort 22 = .ok (.iconst 0, 1) := by decide +kernel
theorem dX8_bestSort_23 : decode cX8_bestSort 23 = .ok (.istore_n 3, 1) := by decide +kernel
theorem dX8_bestSort_24 : decode cX8_bestSort 24 = .ok (.iload_n 3, 1) := by decide +kernel
theorem dX8_bestSort_25 : decode cX8_bestSort 25 = .ok (.aload_n 0, 1) := by decide +kernel
theorem dX8_bestSort_26 : decode cX8_bestSort 26 = .ok (.getfield 180, 3) := by decide +kernel
theorem dX8_bestSort_29 : decode cX8_bestSort 29 = .ok (.if_icmp .ge 30, 3) := by decide +kernel
theorem dX8_bestSort_32 : decode cX8_bestSort 32 = .ok (.iload_n 3, 1) := by decide +kernel
theorem dX8_bestSort_33 : decode cX8_bestSort 33 = .ok (.aload_n 0, 1) := by decide +kernel
theorem dX8_bestSort_34 : decode cX8_bestSort 34 = .ok (.getfield 53, 3) := by decide +kernel
theorem dX8_bestSort_37 : decode cX8_bestSort 37 = .ok (.arraylength, 1) := by decide +kernel
theorem dX8_bestSort_38 : decode cX8_bestSort 38 = .ok (.if_icmp .ge 21, 3) := by decide +kernel
theorem dX8_bestSort_41 : decode cX8_bestSort 41 = .ok (.iload_n 2, 1) := by decide +kernel
theorem dX8_bestSort_42 : decode cX8_bestSort 42 = .ok (.aload_n 0, 1) := by decide +kernel
theorem dX8_bestSort_43 : decode cX8_bestSort 43 = .ok (.getfield 53, 3) := by decide +kernel
theorem dX8_bestSort_46 : decode cX8_bestSort 46 = .ok (.iload_n 3, 1) := by decide +kernel
theorem dX8_bestSort_47 : decode cX8_bestSort 47 = .ok (.iaload, 1) := by decide +kernel
theorem dX8_bestSort_48 : decode cX8_bestSort 48 = .ok (.invokestatic 211, 3) := by decide +kernel
theorem dX8_bestSort_51 : decode cX8_bestSort 51 = .ok (.iadd, 1) := by decide +kernel
theorem dX8_bestSort_52 : decode cX8_bestSort 52 = .ok (.istore_n 2, 1) := by decide +kernel
theorem dX8_bestSort_53 : decode cX8_bestSort 53 = .ok (.iinc 3 1, 3) := by decide +kernel
theorem dX8_bestSort_56 : decode cX8_bestSort 56 = .ok (.goto (-32), 3) := by decide +kernel
theorem dX8_bestSort_59 : decode cX8_bestSort 59 = .ok (.iconst 3, 1) := by decide +kernel
theorem dX8_bestSort_60 : decode cX8_bestSort 60 = .ok (.iload_n 2, 1) := by decide +kernel
theorem dX8_bestSort_61 : decode cX8_bestSort 61 = .ok (.iadd, 1) := by decide +kernel
theorem dX8_bestSort_62 : decode cX8_bestSort 62 = .ok (.aload_n 0, 1) := by decide +kernel
theorem dX8_bestSort_63 : decode cX8_bestSort 63 = .ok (.getfield 30, 3) := by decide +kernel
theorem dX8_bestSort_66 : decode cX8_bestSort 66 = .ok (.aload_n 0, 1) := by decide +kernel
theorem dX8_bestSort_67 : decode cX8_bestSort 67 = .ok (.getfield 30, 3) := by decide +kernel
theorem dX8_bestSort_70 : decode cX8_bestSort 70 = .ok (.invokevirtual 207, 3) := by decide +kernel
theorem dX8_bestSort_73 : decode cX8_bestSort 73 = .ok (.iadd, 1) := by decide +kernel
theorem dX8_bestSort_74 : decode cX8_bestSort 74 = .ok (.aload_n 0, 1) := by decide +kernel
theorem dX8_bestSort_75 : decode cX8_bestSort 75 = .ok (.getfield 34, 3) := by decide +kernel
theorem dX8_bestSort_78 : decode cX8_bestSort 78 = .ok (.aload_n 0, 1) := by decide +kernel
theorem dX8_bestSort_79 : decode cX8_bestSort 79 = .ok (.getfield 34, 3) := by decide +kernel
theorem dX8_bestSort_82 : decode cX8_bestSort 82 = .ok (.invokevirtual 207, 3) := by decide +kernel
theorem dX8_bestSort_85 : decode cX8_bestSort 85 = .ok (.iadd, 1) := by decide +kernel
theorem dX8_bestSort_86 : decode cX8_bestSort 86 = .ok (.aload_n 0, 1) := by decide +kernel
theorem dX8_bestSort_87 : decode cX8_bestSort 87 = .ok (.getfield 126, 3) := by decide +kernel
theorem dX8_bestSort_90 : decode cX8_bestSort 90 = .ok (.iadd, 1) := by decide +kernel
theorem dX8_bestSort_91 : decode cX8_bestSort 91 = .ok (.istore_n 3, 1) := by decide +kernel
theorem dX8_bestSort_92 : decode cX8_bestSort 92 = .ok (.iconst 3, 1) := by decide +kernel
theorem dX8_bestSort_93 : decode cX8_bestSort 93 = .ok (.aload_n 0, 1) := by decide +kernel
theorem dX8_bestSort_94 : decode cX8_bestSort 94 = .ok (.getfield 40, 3) := by decide +kernel
theorem dX8_bestSort_97 : decode cX8_bestSort 97 = .ok (.aload_n 0, 1) := by decide +kernel
theorem dX8_bestSort_98 : decode cX8_bestSort 98 = .ok (.getfield 30, 3) := by decide +kernel
theorem dX8_bestSort_101 : decode cX8_bestSort 101 = .ok (.invokevirtual 207, 3) := by decide +kernel
theorem dX8_bestSort_104 : decode cX8_bestSort 104 = .ok (.iadd, 1) := by decide +kernel
theorem dX8_bestSort_105 : decode cX8_bestSort 105 = .ok (.aload_n 0, 1) := by decide +kernel
theorem dX8_bestSort_106 : decode cX8_bestSort 106 = .ok (.getfield 43, 3) := by decide +kernel
theorem dX8_bestSort_109 : decode cX8_bestSort 109 = .ok (.aload_n 0, 1) := by decide +kernel
theorem dX8_bestSort_110 : decode cX8_bestSort 110 = .ok (.getfield 34, 3) := by decide +kernel
theorem dX8_bestSort_113 : decode cX8_bestSort 113 = .ok (.invokevirtual 207, 3) := by decide +kernel
theorem dX8_bestSort_116 : decode cX8_bestSort 116 = .ok (.iadd, 1) := by decide +kernel
theorem dX8_bestSort_117 : decode cX8_bestSort 117 = .ok (.aload_n 0, 1) := by decide +kernel
theorem dX8_bestSort_118 : decode cX8_bestSort 118 = .ok (.getfield 126, 3) := by decide +kernel
theorem dX8_bestSort_121 : decode cX8_bestSort 121 = .ok (.iadd, 1) := by decide +kernel
theorem dX8_bestSort_122 : decode cX8_bestSort 122 = .ok (.istore 4, 2) := by decide +kernel
theorem dX8_bestSort_124 : decode cX8_bestSort 124 = .ok (.iconst 3, 1) := by decide +kernel
theorem dX8_bestSort_125 : decode cX8_bestSort 125 = .ok (.aload_n 0, 1) := by decide +kernel
theorem dX8_bestSort_126 : decode cX8_bestSort 126 = .ok (.getfield 64, 3) := by decide +kernel
theorem dX8_bestSort_129 : decode cX8_bestSort 129 = .ok (.iconst 3, 1) := by decide +kernel
theorem dX8_bestSort_130 : decode cX8_bestSort 130 = .ok (.invokevirtual 214, 3) := by decide +kernel
theorem dX8_bestSort_133 : decode cX8_bestSort 133 = .ok (.iadd, 1) := by decide +kernel
theorem dX8_bestSort_134 : decode cX8_bestSort 134 = .ok (.bipush 32, 2) := by decide +kernel
theorem dX8_bestSort_136 : decode cX8_bestSort 136 = .ok (.iadd, 1) := by decide +kernel
theorem dX8_bestSort_137 : decode cX8_bestSort 137 = .ok (.bipush 8, 2) := by decide +kernel
theorem dX8_bestSort_139 : decode cX8_bestSort 139 = .ok (.iload_n 1, 1) := by decide +kernel
theorem dX8_bestSort_140 : decode cX8_bestSort 140 = .ok (.imul, 1) := by decide +kernel
theorem dX8_bestSort_141 : decode cX8_bestSort 141 = .ok (.iadd, 1) := by decide +kernel
theorem dX8_bestSort_142 : decode cX8_bestSort 142 = .ok (.istore 5, 2) := by decide +kernel
theorem dX8_bestSort_144 : decode cX8_bestSort 144 = .ok (.iload 5, 2) := by decide +kernel
theorem dX8_bestSort_146 : decode cX8_bestSort 146 = .ok (.iload 4, 2) := by decide +kernel
theorem dX8_bestSort_148 : decode cX8_bestSort 148 = .ok (.if_icmp .gt 11, 3) := by decide +kernel
theorem dX8_bestSort_151 : decode cX8_bestSort 151 = .ok (.iload 5, 2) := by decide +kernel
theorem dX8_bestSort_153 : decode cX8_bestSort 153 = .ok (.iload_n 3, 1) := by decide +kernel
theorem dX8_bestSort_154 : decode cX8_bestSort 154 = .ok (.if_icmp .gt 5, 3) := by decide +kernel
theorem dX8_bestSort_157 : decode cX8_bestSort 157 = .ok (.iconst 0, 1) := by decide +kernel
theorem dX8_bestSort_158 : decode cX8_bestSort 158 = .ok (.ireturn, 1) := by decide +kernel
theorem dX8_bestSort_159 : decode cX8_bestSort 159 = .ok (.iload 4, 2) := by decide +kernel
theorem dX8_bestSort_161 : decode cX8_bestSort 161 = .ok (.iload_n 3, 1) := by decide +kernel
theorem dX8_bestSort_162 : decode cX8_bestSort 162 = .ok (.if_icmp .gt 7, 3) := by decide +kernel
theorem dX8_bestSort_165 : decode cX8_bestSort 165 = .ok (.iconst 1, 1) := by decide +kernel
theorem dX8_bestSort_166 : decode cX8_bestSort 166 = .ok (.goto 4, 3) := by decide +kernel
theorem dX8_bestSort_169 : decode cX8_bestSort 169 = .ok (.iconst 2, 1) := by decide +kernel
theorem dX8_bestSort_170 : decode cX8_bestSort 170 = .ok (.ireturn, 1) := by decide +kernel
theorem dX8_tellStored_0 : decode cX8_tellStored 0 = .ok (.aload_n 0, 1) := by decide +kernel
theorem dX8_tellStored_1 : decode cX8_tellStored 1 = .ok (.getfield 64, 3) := by decide +kernel
theorem dX8_tellStored_4 : decode cX8_tellStored 4 = .ok (.iload_n 3, 1) := by decide +kernel
theorem dX8_tellStored_5 : decode cX8_tellStored 5 = .ok (.iload_n 2, 1) := by decide +kernel
theorem dX8_tellStored_6 : decode cX8_tellStored 6 = .ok (.isub, 1) := by decide +kernel
theorem dX8_tellStored_7 : decode cX8_tellStored 7 = .ok (.bipush 16, 2) := by decide +kernel
theorem dX8_tellStored_9 : decode cX8_tellStored 9 = .ok (.invokevirtual 82, 3) := by decide +kernel
theorem dX8_tellStored_12 : decode cX8_tellStored 12 = .ok (.aload_n 0, 1) := by decide +kernel
theorem dX8_tellStored_13 : decode cX8_tellStored 13 = .ok (.getfield 64, 3) := by decide +kernel
theorem dX8_tellStored_16 : decode cX8_tellStored 16 = .ok (.ldc 217, 2) := by decide +kernel
theorem dX8_tellStored_18 : decode cX8_tellStored 18 = .ok (.iload_n 3, 1) := by decide +kernel
theorem dX8_tellStored_19 : decode cX8_tellStored 19 = .ok (.iload_n 2, 1) := by decide +kernel
theorem dX8_tellStored_20 : decode cX8_tellStored 20 = .ok (.isub, 1) := by decide +kernel
theorem dX8_tellStored_21 : decode cX8_tellStored 21 = .ok (.isub, 1) := by decide +kernel
theorem dX8_tellStored_22 : decode cX8_tellStored 22 = .ok (.bipush 16, 2) := by decide +kernel
theorem dX8_tellStored_24 : decode cX8_tellStored 24 = .ok (.invokevirtual 82, 3) := by decide +kernel
theorem dX8_tellStored_27 : decode cX8_tellStored 27 = .ok (.iload_n 2, 1) := by decide +kernel
theorem dX8_tellStored_28 : decode cX8_tellStored 28 = .ok (.istore 4, 2) := by decide +kernel
theorem dX8_tellStored_30 : decode cX8_tellStored 30 = .ok (.iload 4, 2) := by decide +kernel
theorem dX8_tellStored_32 : decode cX8_tellStored 32 = .ok (.iload_n 3, 1) := by decide +kernel
theorem dX8_tellStored_33 : decode cX8_tellStored 33 = .ok (.if_icmp .ge 24, 3) := by decide +kernel
theorem dX8_tellStored_36 : decode cX8_tellStored 36 = .ok (.aload_n 0, 1) := by decide +kernel
theorem dX8_tellStored_37 : decode cX8_tellStored 37 = .ok (.getfield 64, 3) := by decide +kernel
theorem dX8_tellStored_40 : decode cX8_tellStored 40 = .ok (.aload_n 1, 1) := by decide +kernel
theorem dX8_tellStored_41 : decode cX8_tellStored 41 = .ok (.iload 4, 2) := by decide +kernel
theorem dX8_tellStored_43 : decode cX8_tellStored 43 = .ok (.invokevirtual 158, 3) := by decide +kernel
theorem dX8_tellStored_46 : decode cX8_tellStored 46 = .ok (.bipush 8, 2) := by decide +kernel
theorem dX8_tellStored_48 : decode cX8_tellStored 48 = .ok (.invokevirtual 82, 3) := by decide +kernel
theorem dX8_tellStored_51 : decode cX8_tellStored 51 = .ok (.iinc 4 1, 3) := by decide +kernel
theorem dX8_tellStored_54 : decode cX8_tellStored 54 = .ok (.goto (-24), 3) := by decide +kernel
theorem dX8_tellStored_57 : decode cX8_tellStored 57 = .ok (.return_, 1) := by decide +kernel
theorem dX8_tellHeader_0 : decode cX8_tellHeader 0 = .ok (.aload_n 0, 1) := by decide +kernel
theorem dX8_tellHeader_1 : decode cX8_tellHeader 1 = .ok (.invokevirtual 204, 3) := by decide +kernel
theorem dX8_tellHeader_4 : decode cX8_tellHeader 4 = .ok (.istore_n 1, 1) := by decide +kernel
theorem dX8_tellHeader_5 : decode cX8_tellHeader 5 = .ok (.aload_n 0, 1) := by decide +kernel
theorem dX8_tellHeader_6 : decode cX8_tellHeader 6 = .ok (.getfield 64, 3) := by decide +kernel
theorem dX8_tellHeader_9 : decode cX8_tellHeader 9 = .ok (.aload_n 0, 1) := by decide +kernel
theorem dX8_tellHeader_10 : decode cX8_tellHeader 10 = .ok (.invokevirtual 192, 3) := by decide +kernel
theorem dX8_tellHeader_13 : decode cX8_tellHeader 13 = .ok (.sipush 257, 3) := by decide +kernel
theorem dX8_tellHeader_16 : decode cX8_tellHeader 16 = .ok (.isub, 1) := by decide +kernel
theorem dX8_tellHeader_17 : decode cX8_tellHeader 17 = .ok (.iconst 5, 1) := by decide +kernel
theorem dX8_tellHeader_18 : decode cX8_tellHeader 18 = .ok (.invokevirtual 82, 3) := by decide +kernel
theorem dX8_tellHeader_21 : decode cX8_tellHeader 21 = .ok (.aload_n 0, 1) := by decide +kernel
theorem dX8_tellHeader_22 : decode cX8_tellHeader 22 = .ok (.getfield 64, 3) := by decide +kernel
theorem dX8_tellHeader_25 : decode cX8_tellHeader 25 = .ok (.aload_n 0, 1) := by decide +kernel
theorem dX8_tellHeader_26 : decode cX8_tellHeader 26 = .ok (.invokevirtual 195, 3) := by decide +kernel
theorem dX8_tellHeader_29 : decode cX8_tellHeader 29 = .ok (.iconst 1, 1) := by decide +kernel
theorem dX8_tellHeader_30 : decode cX8_tellHeader 30 = .ok (.isub, 1) := by decide +kernel
theorem dX8_tellHeader_31 : decode cX8_tellHeader 31 = .ok (.iconst 5, 1) := by decide +kernel
theorem dX8_tellHeader_32 : decode cX8_tellHeader 32 = .ok (.invokevirtual 82, 3) := by decide +kernel
theorem dX8_tellHeader_35 : decode cX8_tellHeader 35 = .ok (.aload_n 0, 1) := by decide +kernel
theorem dX8_tellHeader_36 : decode cX8_tellHeader 36 = .ok (.getfield 64, 3) := by decide +kernel
theorem dX8_tellHeader_39 : decode cX8_tellHeader 39 = .ok (.iload_n 1, 1) := by decide +kernel
theorem dX8_tellHeader_40 : decode cX8_tellHeader 40 = .ok (.iconst 4, 1) := by decide +kernel
theorem dX8_tellHeader_41 : decode cX8_tellHeader 41 = .ok (.isub, 1) := by decide +kernel
theorem dX8_tellHeader_42 : decode cX8_tellHeader 42 = .ok (.iconst 4, 1) := by decide +kernel
theorem dX8_tellHeader_43 : decode cX8_tellHeader 43 = .ok (.invokevirtual 82, 3) := by decide +kernel
theorem dX8_tellHeader_46 : decode cX8_tellHeader 46 = .ok (.iconst 0, 1) := by decide +kernel
theorem dX8_tellHeader_47 : decode cX8_tellHeader 47 = .ok (.istore_n 2, 1) := by decide +kernel
theorem dX8_tellHeader_48 : decode cX8_tellHeader 48 = .ok (.iload_n 2, 1) := by decide +kernel
theorem dX8_tellHeader_49 : decode cX8_tellHeader 49 = .ok (.iload_n 1, 1) := by decide +kernel
theorem dX8_tellHeader_50 : decode cX8_tellHeader 50 = .ok (.if_icmp .ge 28, 3) := by decide +kernel
theorem dX8_tellHeader_53 : decode cX8_tellHeader 53 = .ok (.aload_n 0, 1) := by decide +kernel
theorem dX8_tellHeader_54 : decode cX8_tellHeader 54 = .ok (.getfield 64, 3) := by decide +kernel
theorem dX8_tellHeader_57 : decode cX8_tellHeader 57 = .ok (.aload_n 0, 1) := by decide +kernel
theorem dX8_tellHeader_58 : decode cX8_tellHeader 58 = .ok (.getfield 37, 3) := by decide +kernel
theorem dX8_tellHeader_61 : decode cX8_tellHeader 61 = .ok (.iload_n 2, 1) := by decide +kernel
theorem dX8_tellHeader_62 : decode cX8_tellHeader 62 = .ok (.invokestatic 186, 3) := by decide +kernel
theorem dX8_tellHeader_65 : decode cX8_tellHeader 65 = .ok (.invokevirtual 189, 3) := by decide +kernel
theorem dX8_tellHeader_68 : decode cX8_tellHeader 68 = .ok (.iconst 3, 1) := by decide +kernel
theorem dX8_tellHeader_69 : decode cX8_tellHeader 69 = .ok (.invokevirtual 82, 3) := by decide +kernel
theorem dX8_tellHeader_72 : decode cX8_tellHeader 72 = .ok (.iinc 2 1, 3) := by decide +kernel
theorem dX8_tellHeader_75 : decode cX8_tellHeader 75 = .ok (.goto (-27), 3) := by decide +kernel
theorem dX8_tellHeader_78 : decode cX8_tellHeader 78 = .ok (.iconst 0, 1) := by decide +kernel
theorem dX8_tellHeader_79 : decode cX8_tellHeader 79 = .ok (.istore_n 2, 1) := by decide +kernel
theorem dX8_tellHeader_80 : decode cX8_tellHeader 80 = .ok (.iload_n 2, 1) := by decide +kernel
theorem dX8_tellHeader_81 : decode cX8_tellHeader 81 = .ok (.aload_n 0, 1) := by decide +kernel
theorem dX8_tellHeader_82 : decode cX8_tellHeader 82 = .ok (.getfield 180, 3) := by decide +kernel
theorem dX8_tellHeader_85 : decode cX8_tellHeader 85 = .ok (.if_icmp .ge 82, 3) := by decide +kernel
theorem dX8_tellHeader_88 : decode cX8_tellHeader 88 = .ok (.iload_n 2, 1) := by decide +kernel
theorem dX8_tellHeader_89 : decode cX8_tellHeader 89 = .ok (.aload_n 0, 1) := by decide +kernel
theorem dX8_tellHeader_90 : decode cX8_tellHeader 90 = .ok (.getfield 53, 3) := by decide +kernel
theorem dX8_tellHeader_93 : decode cX8_tellHeader 93 = .ok (.arraylength, 1) := by decide +kernel
theorem dX8_tellHeader_94 : decode cX8_tellHeader 94 = .ok (.if_icmp .ge 73, 3) := by decide +kernel
theorem dX8_tellHeader_97 : decode cX8_tellHeader 97 = .ok (.iload_n 2, 1) := by decide +kernel
theorem dX8_tellHeader_98 : decode cX8_tellHeader 98 = .ok (.aload_n 0, 1) := by decide +kernel
theorem dX8_tellHeader_99 : decode cX8_tellHeader 99 = .ok (.getfield 56, 3) := by decide +kernel
theorem dX8_tellHeader_102 : decode cX8_tellHeader 102 = .ok (.arraylength, 1) := by decide +kernel
theorem dX8_tellHeader_103 : decode cX8_tellHeader 103 = .ok (.if_icmp .ge 64, 3) := by decide +kernel
theorem dX8_tellHeader_106 : decode cX8_tellHeader 106 = .ok (.aload_n 0, 1) := by decide +kernel
theorem dX8_tellHeader_107 : decode cX8_tellHeader 107 = .ok (.getfield 64, 3) := by decide +kernel
theorem dX8_tellHeader_110 : decode cX8_tellHeader 110 = .ok (.aload_n 0, 1) := by decide +kernel
theorem dX8_tellHeader_111 : decode cX8_tellHeader 111 = .ok (.getfield 37, 3) := by decide +kernel
theorem dX8_tellHeader_114 : decode cX8_tellHeader 114 = .ok (.aload_n 0, 1) := by decide +kernel
theorem dX8_tellHeader_115 : decode cX8_tellHeader 115 = .ok (.getfield 53, 3) := by decide +kernel
theorem dX8_tellHeader_118 : decode cX8_tellHeader 118 = .ok (.iload_n 2, 1) := by decide +kernel
theorem dX8_tellHeader_119 : decode cX8_tellHeader 119 = .ok (.iaload, 1) := by decide +kernel
theorem dX8_tellHeader_120 : decode cX8_tellHeader 120 = .ok (.invokevirtual 218, 3) := by decide +kernel
theorem dX8_tellHeader_123 : decode cX8_tellHeader 123 = .ok (.aload_n 0, 1) := by decide +kernel
theorem dX8_tellHeader_124 : decode cX8_tellHeader 124 = .ok (.getfield 37, 3) := by decide +kernel
theorem dX8_tellHeader_127 : decode cX8_tellHeader 127 = .ok (.aload_n 0, 1) := by decide +kernel
theorem dX8_tellHeader_128 : decode cX8_tellHeader 128 = .ok (.getfield 53, 3) := by decide +kernel
theorem dX8_tellHeader_131 : decode cX8_tellHeader 131 = .ok (.iload_n 2, 1) := by decide +kernel
theorem dX8_tellHeader_132 : decode cX8_tellHeader 132 = .ok (.iaload, 1) := by decide +kernel
theorem dX8_tellHeader_133 : decode cX8_tellHeader 133 = .ok (.invokevirtual 189, 3) := by decide +kernel
theorem dX8_tellHeader_136 : decode cX8_tellHeader 136 = .ok (.invokevirtual 82, 3) := by decide +kernel
theorem dX8_tellHeader_139 : decode cX8_tellHeader 139 = .ok (.aload_n 0, 1) := by decide +kernel
theorem dX8_tellHeader_140 : decode cX8_tellHeader 140 = .ok (.getfield 64, 3) := by decide +kernel
theorem dX8_tellHeader_143 : decode cX8_tellHeader 143 = .ok (.aload_n 0, 1) := by decide +kernel
theorem dX8_tellHeader_144 : decode cX8_tellHeader 144 = .ok (.getfield 56, 3) := by decide +kernel
theorem dX8_tellHeader_147 : decode cX8_tellHeader 147 = .ok (.iload_n 2, 1) := by decide +kernel
theorem dX8_tellHeader_148 : decode cX8_tellHeader 148 = .ok (.iaload, 1) := by decide +kernel
theorem dX8_tellHeader_149 : decode cX8_tellHeader 149 = .ok (.aload_n 0, 1) := by decide +kernel
theorem dX8_tellHeader_150 : decode cX8_tellHeader 150 = .ok (.getfield 53, 3) := by decide +kernel
theorem dX8_tellHeader_153 : decode cX8_tellHeader 153 = .ok (.iload_n 2, 1) := by decide +kernel
theorem dX8_tellHeader_154 : decode cX8_tellHeader 154 = .ok (.iaload, 1) := by decide +kernel
theorem dX8_tellHeader_155 : decode cX8_tellHeader 155 = .ok (.invokestatic 211, 3) := by decide +kernel
theorem dX8_tellHeader_158 : decode cX8_tellHeader 158 = .ok (.invokevirtual 82, 3) := by decide +kernel
theorem dX8_tellHeader_161 : decode cX8_tellHeader 161 = .ok (.iinc 2 1, 3) := by decide +kernel
theorem dX8_tellHeader_164 : decode cX8_tellHeader 164 = .ok (.goto (-84), 3) := by decide +kernel
theorem dX8_tellHeader_167 : decode cX8_tellHeader 167 = .ok (.return_, 1) := by decide +kernel
theorem dX8_tellItems_0 : decode cX8_tellItems 0 = .ok (.iconst 0, 1) := by decide +kernel
theorem dX8_tellItems_1 : decode cX8_tellItems 1 = .ok (.istore_n 3, 1) := by decide +kernel
theorem dX8_tellItems_2 : decode cX8_tellItems 2 = .ok (.iload_n 3, 1) := by decide +kernel
theorem dX8_tellItems_3 : decode cX8_tellItems 3 = .ok (.aload_n 0, 1) := by decide +kernel
theorem dX8_tellItems_4 : decode cX8_tellItems 4 = .ok (.getfield 122, 3) := by decide +kernel
theorem dX8_tellItems_7 : decode cX8_tellItems 7 = .ok (.if_icmp .ge 170, 3) := by decide +kernel
theorem dX8_tellItems_10 : decode cX8_tellItems 10 = .ok (.iload_n 3, 1) := by decide +kernel
theorem dX8_tellItems_11 : decode cX8_tellItems 11 = .ok (.aload_n 0, 1) := by decide +kernel
theorem dX8_tellItems_12 : decode cX8_tellItems 12 = .ok (.getfield 46, 3) := by decide +kernel
theorem dX8_tellItems_15 : decode cX8_tellItems 15 = .ok (.arraylength, 1) := by decide +kernel
theorem dX8_tellItems_16 : decode cX8_tellItems 16 = .ok (.if_icmp .ge 161, 3) := by decide +kernel
theorem dX8_tellItems_19 : decode cX8_tellItems 19 = .ok (.iload_n 3, 1) := by decide +kernel
theorem dX8_tellItems_20 : decode cX8_tellItems 20 = .ok (.aload_n 0, 1) := by decide +kernel
theorem dX8_tellItems_21 : decode cX8_tellItems 21 = .ok (.getfield 50, 3) := by decide +kernel
theorem dX8_tellItems_24 : decode cX8_tellItems 24 = .ok (.arraylength, 1) := by decide +kernel
theorem dX8_tellItems_25 : decode cX8_tellItems 25 = .ok (.if_icmp .ge 152, 3) := by decide +kernel
theorem dX8_tellItems_28 : decode cX8_tellItems 28 = .ok (.aload_n 0, 1) := by decide +kernel
theorem dX8_tellItems_29 : decode cX8_tellItems 29 = .ok (.getfield 50, 3) := by decide +kernel
theorem dX8_tellItems_32 : decode cX8_tellItems 32 = .ok (.iload_n 3, 1) := by decide +kernel
theorem dX8_tellItems_33 : decode cX8_tellItems 33 = .ok (.iaload, 1) := by decide +kernel
theorem dX8_tellItems_34 : decode cX8_tellItems 34 = .ok (.ifCond .le 7, 3) := by decide +kernel
theorem dX8_tellItems_37 : decode cX8_tellItems 37 = .ok (.iconst 1, 1) := by decide +kernel
theorem dX8_tellItems_38 : decode cX8_tellItems 38 = .ok (.goto 4, 3) := by decide +kernel
theorem dX8_tellItems_41 : decode cX8_tellItems 41 = .ok (.iconst 0, 1) := by decide +kernel
theorem dX8_tellItems_42 : decode cX8_tellItems 42 = .ok (.istore 4, 2) := by decide +kernel
theorem dX8_tellItems_44 : decode cX8_tellItems 44 = .ok (.iload 4, 2) := by decide +kernel
theorem dX8_tellItems_46 : decode cX8_tellItems 46 = .ok (.ifCond .eq 15, 3) := by decide +kernel
theorem dX8_tellItems_49 : decode cX8_tellItems 49 = .ok (.aload_n 0, 1) := by decide +kernel
theorem dX8_tellItems_50 : decode cX8_tellItems 50 = .ok (.getfield 46, 3) := by decide +kernel
theorem dX8_tellItems_53 : decode cX8_tellItems 53 = .ok (.iload_n 3, 1) := by decide +kernel
theorem dX8_tellItems_54 : decode cX8_tellItems 54 = .ok (.iaload, 1) := by decide +kernel
theorem dX8_tellItems_55 : decode cX8_tellItems 55 = .ok (.invokestatic 149, 3) := by decide +kernel
theorem dX8_tellItems_58 : decode cX8_tellItems 58 = .ok (.goto 9, 3) := by decide +kernel
theorem dX8_tellItems_61 : decode cX8_tellItems 61 = .ok (.aload_n 0, 1) := by decide +kernel
theorem dX8_tellItems_62 : decode cX8_tellItems 62 = .ok (.getfield 46, 3) := by decide +kernel
theorem dX8_tellItems_65 : decode cX8_tellItems 65 = .ok (.iload_n 3, 1) := by decide +kernel
theorem dX8_tellItems_66 : decode cX8_tellItems 66 = .ok (.iaload, 1) := by decide +kernel
theorem dX8_tellItems_67 : decode cX8_tellItems 67 = .ok (.istore 5, 2) := by decide +kernel
theorem dX8_tellItems_69 : decode cX8_tellItems 69 = .ok (.aload_n 0, 1) := by decide +kernel
theorem dX8_tellItems_70 : decode cX8_tellItems 70 = .ok (.getfield 64, 3) := by decide +kernel
theorem dX8_tellItems_73 : decode cX8_tellItems 73 = .ok (.aload_n 1, 1) := by decide +kernel
theorem dX8_tellItems_74 : decode cX8_tellItems 74 = .ok (.iload 5, 2) := by decide +kernel
theorem dX8_tellItems_76 : decode cX8_tellItems 76 = .ok (.invokevirtual 218, 3) := by decide +kernel
theorem dX8_tellItems_79 : decode cX8_tellItems 79 = .ok (.aload_n 1, 1) := by decide +kernel
theorem dX8_tellItems_80 : decode cX8_tellItems 80 = .ok (.iload 5, 2) := by decide +kernel
theorem dX8_tellItems_82 : decode cX8_tellItems 82 = .ok (.invokevirtual 189, 3) := by decide +kernel
theorem dX8_tellItems_85 : decode cX8_tellItems 85 = .ok (.invokevirtual 82, 3) := by decide +kernel
theorem dX8_tellItems_88 : decode cX8_tellItems 88 = .ok (.iload 4, 2) := by decide +kernel
theorem dX8_tellItems_90 : decode cX8_tellItems 90 = .ok (.ifCond .eq 81, 3) := by decide +kernel
theorem dX8_tellItems_93 : decode cX8_tellItems 93 = .ok (.aload_n 0, 1) := by decide +kernel
theorem dX8_tellItems_94 : decode cX8_tellItems 94 = .ok (.getfield 50, 3) := by decide +kernel
theorem dX8_tellItems_97 : decode cX8_tellItems 97 = .ok (.iload_n 3, 1) := by decide +kernel
theorem dX8_tellItems_98 : decode cX8_tellItems 98 = .ok (.iaload, 1) := by decide +kernel
theorem dX8_tellItems_99 : decode cX8_tellItems 99 = .ok (.invokestatic 152, 3) := by decide +kernel
theorem dX8_tellItems_102 : decode cX8_tellItems 102 = .ok (.istore 6, 2) := by decide +kernel
theorem dX8_tellItems_104 : decode cX8_tellItems 104 = .ok (.aload_n 0, 1) := by decide +kernel
theorem dX8_tellItems_105 : decode cX8_tellItems 105 = .ok (.getfield 64, 3) := by decide +kernel
theorem dX8_tellItems_108 : decode cX8_tellItems 108 = .ok (.aload_n 0, 1) := by decide +kernel
theorem dX8_tellItems_109 : decode cX8_tellItems 109 = .ok (.getfield 46, 3) := by decide +kernel
theorem dX8_tellItems_112 : decode cX8_tellItems 112 = .ok (.iload_n 3, 1) := by decide +kernel
theorem dX8_tellItems_113 : decode cX8_tellItems 113 = .ok (.iaload, 1) := by decide +kernel
theorem dX8_tellItems_114 : decode cX8_tellItems 114 = .ok (.iload 5, 2) := by decide +kernel
theorem dX8_tellItems_116 : decode cX8_tellItems 116 = .ok (.invokestatic 221, 3) := by decide +kernel
theorem dX8_tellItems_119 : decode cX8_tellItems 119 = .ok (.isub, 1) := by decide +kernel
theorem dX8_tellItems_120 : decode cX8_tellItems 120 = .ok (.iload 5, 2) := by decide +kernel
theorem dX8_tellItems_122 : decode cX8_tellItems 122 = .ok (.invokestatic 170, 3) := by decide +kernel
theorem dX8_tellItems_125 : decode cX8_tellItems 125 = .ok (.invokevirtual 82, 3) := by decide +kernel
theorem dX8_tellItems_128 : decode cX8_tellItems 128 = .ok (.aload_n 0, 1) := by decide +kernel
theorem dX8_tellItems_129 : decode cX8_tellItems 129 = .ok (.getfield 64, 3) := by decide +kernel
theorem dX8_tellItems_132 : decode cX8_tellItems 132 = .ok (.aload_n 2, 1) := by decide +kernel
theorem dX8_tellItems_133 : decode cX8_tellItems 133 = .ok (.iload 6, 2) := by decide +kernel
theorem dX8_tellItems_135 : decode cX8_tellItems 135 = .ok (.invokevirtual 218, 3) := by decide +kernel
theorem dX8_tellItems_138 : decode cX8_tellItems 138 = .ok (.aload_n 2, 1) := by decide +kernel
theorem dX8_tellItems_139 : decode cX8_tellItems 139 = .ok (.iload 6, 2) := by decide +kernel
theorem dX8_tellItems_141 : decode cX8_tellItems 141 = .ok (.invokevirtual 189, 3) := by decide +kernel
theorem dX8_tellItems_144 : decode cX8_tellItems 144 = .ok (.invokevirtual 82, 3) := by decide +kernel
theorem dX8_tellItems_147 : decode cX8_tellItems 147 = .ok (.aload_n 0, 1) := by decide +kernel
theorem dX8_tellItems_148 : decode cX8_tellItems 148 = .ok (.getfield 64, 3) := by decide +kernel
theorem dX8_tellItems_151 : decode cX8_tellItems 151 = .ok (.aload_n 0, 1) := by decide +kernel
theorem dX8_tellItems_152 : decode cX8_tellItems 152 = .ok (.getfield 50, 3) := by decide +kernel
theorem dX8_tellItems_155 : decode cX8_tellItems 155 = .ok (.iload_n 3, 1) := by decide +kernel
theorem dX8_tellItems_156 : decode cX8_tellItems 156 = .ok (.iaload, 1) := by decide +kernel
theorem dX8_tellItems_157 : decode cX8_tellItems 157 = .ok (.iload 6, 2) := by decide +kernel
theorem dX8_tellItems_159 : decode cX8_tellItems 159 = .ok (.invokestatic 224, 3) := by decide +kernel
theorem dX8_tellItems_162 : decode cX8_tellItems 162 = .ok (.isub, 1) := by decide +kernel
theorem dX8_tellItems_163 : decode cX8_tellItems 163 = .ok (.iload 6, 2) := by decide +kernel
theorem dX8_tellItems_165 : decode cX8_tellItems 165 = .ok (.invokestatic 173, 3) := by decide +kernel
theorem dX8_tellItems_168 : decode cX8_tellItems 168 = .ok (.invokevirtual 82, 3) := by decide +kernel
theorem dX8_tellItems_171 : decode cX8_tellItems 171 = .ok (.iinc 3 1, 3) := by decide +kernel
theorem dX8_tellItems_174 : decode cX8_tellItems 174 = .ok (.goto (-172), 3) := by decide +kernel
theorem dX8_tellItems_177 : decode cX8_tellItems 177 = .ok (.aload_n 0, 1) := by decide +kernel
theorem dX8_tellItems_178 : decode cX8_tellItems 178 = .ok (.getfield 64, 3) := by decide +kernel
theorem dX8_tellItems_181 : decode cX8_tellItems 181 = .ok (.aload_n 1, 1) := by decide +kernel
theorem dX8_tellItems_182 : decode cX8_tellItems 182 = .ok (.sipush 256, 3) := by decide +kernel
theorem dX8_tellItems_185 : decode cX8_tellItems 185 = .ok (.invokevirtual 218, 3) := by decide +kernel
theorem dX8_tellItems_188 : decode cX8_tellItems 188 = .ok (.aload_n 1, 1) := by decide +kernel
theorem dX8_tellItems_189 : decode cX8_tellItems 189 = .ok (.sipush 256, 3) := by decide +kernel
theorem dX8_tellItems_192 : decode cX8_tellItems 192 = .ok (.invokevirtual 189, 3) := by decide +kernel
theorem dX8_tellItems_195 : decode cX8_tellItems 195 = .ok (.invokevirtual 82, 3) := by decide +kernel
theorem dX8_tellItems_198 : decode cX8_tellItems 198 = .ok (.return_, 1) := by decide +kernel
theorem dX9_init_0 : decode cX9_init 0 = .ok (.aload_n 0, 1) := by decide +kernel
theorem dX9_init_1 : decode cX9_init 1 = .ok (.invokespecial 3, 3) := by decide +kernel
theorem dX9_init_4 : decode cX9_init 4 = .ok (.aload_n 0, 1) := by decide +kernel
theorem dX9_init_5 : decode cX9_init 5 = .ok (.bipush 16, 2) := by decide +kernel
theorem dX9_init_7 : decode cX9_init 7 = .ok (.newarray .int, 2) := by decide +kernel
theorem dX9_init_9 : decode cX9_init 9 = .ok (.putfield 9, 3) := by decide +kernel
theorem dX9_init_12 : decode cX9_init 12 = .ok (.aload_n 0, 1) := by decide +kernel
theorem dX9_init_13 : decode cX9_init 13 = .ok (.sipush 288, 3) := by decide +kernel
theorem dX9_init_16 : decode cX9_init 16 = .ok (.newarray .int, 2) := by decide +kernel
theorem dX9_init_18 : decode cX9_init 18 = .ok (.putfield 15, 3) := by decide +kernel
theorem dX9_init_21 : decode cX9_init 21 = .ok (.aload_n 0, 1) := by decide +kernel
theorem dX9_init_22 : decode cX9_init 22 = .ok (.bipush 16, 2) := by decide +kernel
theorem dX9_init_24 : decode cX9_init 24 = .ok (.newarray .int, 2) := by decide +kernel
theorem dX9_init_26 : decode cX9_init 26 = .ok (.putfield 18, 3) := by decide +kernel
theorem dX9_init_29 : decode cX9_init 29 = .ok (.return_, 1) := by decide +kernel
theorem dX9_make_0 : decode cX9_make 0 = .ok (.iconst 0, 1) := by decide +kernel
theorem dX9_make_1 : decode cX9_make 1 = .ok (.istore 5, 2) := by decide +kernel
theorem dX9_make_3 : decode cX9_make 3 = .ok (.iload 5, 2) := by decide +kernel
theorem dX9_make_5 : decode cX9_make 5 = .ok (.aload_n 0, 1) := by decide +kernel
theorem dX9_make_6 : decode cX9_make 6 = .ok (.getfield 9, 3) := by decide +kernel
theorem dX9_make_9 : decode cX9_make 9 = .ok (.arraylength, 1) := by decide +kernel
theorem dX9_make_10 : decode cX9_make 10 = .ok (.if_icmp .ge 17, 3) := by decide +kernel
theorem dX9_make_13 : decode cX9_make 13 = .ok (.aload_n 0, 1) := by decide +kernel
theorem dX9_make_14 : decode cX9_make 14 = .ok (.getfield 9, 3) := by decide +kernel
theorem dX9_make_17 : decode cX9_make 17 = .ok (.iload 5, 2) := by decide +kernel
theorem dX9_make_19 : decode cX9_make 19 = .ok (.iconst 0, 1) := by decide +kernel
theorem dX9_make_20 : decode cX9_make 20 = .ok (.iastore, 1) := by decide +kernel
theorem dX9_make_21 : decode cX9_make 21 = .ok (.iinc 5 1, 3) := by decide +kernel
theorem dX9_make_24 : decode cX9_make 24 = .ok (.goto (-21), 3) := by decide +kernel
theorem dX9_make_27 : decode cX9_make 27 = .ok (.iconst 0, 1) := by decide +kernel
theorem dX9_make_28 : decode cX9_make 28 = .ok (.istore 5, 2) := by decide +kernel
theorem dX9_make_30 : decode cX9_make 30 = .ok (.iconst 0, 1) := by decide +kernel
theorem dX9_make_31 : decode cX9_make 31 = .ok (.istore 6, 2) := by decide +kernel
theorem dX9_make_33 : decode cX9_make 33 = .ok (.iload 6, 2) := by decide +kernel
theorem dX9_make_35 : decode cX9_make 35 = .ok (.iload_n 3, 1) := by decide +kernel
theorem dX9_make_36 : decode cX9_make 36 = .ok (.if_icmp .ge 46, 3) := by decide +kernel
theorem dX9_make_39 : decode cX9_make 39 = .ok (.aload_n 0, 1) := by decide +kernel
theorem dX9_make_40 : decode cX9_make 40 = .ok (.aload_n 1, 1) := by decide +kernel
theorem dX9_make_41 : decode cX9_make 41 = .ok (.iload_n 2, 1) := by decide +kernel
theorem dX9_make_42 : decode cX9_make 42 = .ok (.iload 6, 2) := by decide +kernel
theorem dX9_make_44 : decode cX9_make 44 = .ok (.iadd, 1) := by decide +kernel
theorem dX9_make_45 : decode cX9_make 45 = .ok (.invokevirtual 21, 3) := by decide +kernel
theorem dX9_make_48 : decode cX9_make 48 = .ok (.istore 7, 2) := by decide +kernel
theorem dX9_make_50 : decode cX9_make 50 = .ok (.aload_n 0, 1) := by decide +kernel
theorem dX9_make_51 : decode cX9_make 51 = .ok (.getfield 9, 3) := by decide +kernel
theorem dX9_make_54 : decode cX9_make 54 = .ok (.iload 7, 2) := by decide +kernel
theorem dX9_make_56 : decode cX9_make 56 = .ok (.dup2, 1) := by decide +kernel
theorem dX9_make_57 : decode cX9_make 57 = .ok (.iaload, 1) := by decide +kernel
theorem dX9_make_58 : decode cX9_make 58 = .ok (.iconst 1, 1) := by decide +kernel
theorem dX9_make_59 : decode cX9_make 59 = .ok (.iadd, 1) := by decide +kernel
theorem dX9_make_60 : decode cX9_make 60 = .ok (.iastore, 1) := by decide +kernel
theorem dX9_make_61 : decode cX9_make 61 = .ok (.iload 5, 2) := by decide +kernel
theorem dX9_make_63 : decode cX9_make 63 = .ok (.iload 7, 2) := by decide +kernel
theorem dX9_make_65 : decode cX9_make 65 = .ok (.ifCond .le 7, 3) := by decide +kernel
theorem dX9_make_68 : decode cX9_make 68 = .ok (.iconst 1, 1) := by decide +kernel
theorem dX9_make_69 : decode cX9_make 69 = .ok (.goto 4, 3) := by decide +kernel
theorem dX9_make_72 : decode cX9_make 72 = .ok (.iconst 0, 1) := by decide +kernel
theorem dX9_make_73 : decode cX9_make 73 = .ok (.iadd, 1) := by decide +kernel
theorem dX9_make_74 : decode cX9_make 74 = .ok (.istore 5, 2) := by decide +kernel
theorem dX9_make_76 : decode cX9_make 76 = .ok (.iinc 6 1, 3) := by decide +kernel
theorem dX9_make_79 : decode cX9_make 79 = .ok (.goto (-46), 3) := by decide +kernel
theorem dX9_make_82 : decode cX9_make 82 = .ok (.aload_n 0, 1) := by decide +kernel
theorem dX9_make_83 : decode cX9_make 83 = .ok (.getfield 9, 3) := by decide +kernel
theorem dX9_make_86 : decode cX9_make 86 = .ok (.iconst 0, 1) := by decide +kernel
theorem dX9_make_87 : decode cX9_make 87 = .ok (.iconst 0, 1) := by decide +kernel
theorem dX9_make_88 : decode cX9_make 88 = .ok (.iastore, 1) := by decide +kernel
theorem dX9_make_89 : decode cX9_make 89 = .ok (.aload_n 0, 1) := by decide +kernel
theorem dX9_make_90 : decode cX9_make 90 = .ok (.aload_n 1, 1) := by decide +kernel
theorem dX9_make_91 : decode cX9_make 91 = .ok (.iload_n 2, 1) := by decide +kernel
theorem dX9_make_92 : decode cX9_make 92 = .ok (.iload_n 3, 1) := by decide +kernel
theorem dX9_make_93 : decode cX9_make 93 = .ok (.invokevirtual 25, 3) := by decide +kernel
theorem dX9_make_96 : decode cX9_make 96 = .ok (.iconst 1, 1) := by decide +kernel
theorem dX9_make_97 : decode cX9_make 97 = .ok (.istore 6, 2) := by decide +kernel
theorem dX9_make_99 : decode cX9_make 99 = .ok (.iconst 1, 1) := by decide +kernel
theorem dX9_make_100 : decode cX9_make 100 = .ok (.istore 7, 2) := by decide +kernel
theorem dX9_make_102 : decode cX9_make 102 = .ok (.iload 7, 2) := by decide +kernel
theorem dX9_make_104 : decode cX9_make 104 = .ok (.aload_n 0, 1) := by decide +kernel
theorem dX9_make_105 : decode cX9_make 105 = .ok (.getfield 9, 3) := by decide +kernel
theorem dX9_make_108 : decode cX9_make 108 = .ok (.arraylength, 1) := by decide +kernel
theorem dX9_make_109 : decode cX9_make 109 = .ok (.if_icmp .ge 30, 3) := by decide +kernel
theorem dX9_make_112 : decode cX9_make 112 = .ok (.iconst 2, 1) := by decide +kernel
theorem dX9_make_113 : decode cX9_make 113 = .ok (.iload 6, 2) := by decide +kernel
theorem dX9_make_115 : decode cX9_make 115 = .ok (.imul, 1) := by decide +kernel
theorem dX9_make_116 : decode cX9_make 116 = .ok (.aload_n 0, 1) := by decide +kernel
theorem dX9_make_117 : decode cX9_make 117 = .ok (.getfield 9, 3) := by decide +kernel
theorem dX9_make_120 : decode cX9_make 120 = .ok (.iload 7, 2) := by decide +kernel
theorem dX9_make_122 : decode cX9_make 122 = .ok (.iaload, 1) := by decide +kernel
theorem dX9_make_123 : decode cX9_make 123 = .ok (.isub, 1) := by decide +kernel
theorem dX9_make_124 : decode cX9_make 124 = .ok (.istore 6, 2) := by decide +kernel
theorem dX9_make_126 : decode cX9_make 126 = .ok (.iload 6, 2) := by decide +kernel
theorem dX9_make_128 : decode cX9_make 128 = .ok (.ifCond .ge 5, 3) := by decide +kernel
theorem dX9_make_131 : decode cX9_make 131 = .ok (.iconst 0, 1) := by decide +kernel
theorem dX9_make_132 : decode cX9_make 132 = .ok (.ireturn, 1) := by decide +kernel
theorem dX9_make_133 : decode cX9_make 133 = .ok (.iinc 7 1, 3) := by decide +kernel
theorem dX9_make_136 : decode cX9_make 136 = .ok (.goto (-34), 3) := by decide +kernel
theorem dX9_make_139 : decode cX9_make 139 = .ok (.iload 6, 2) := by decide +kernel
theorem dX9_make_141 : decode cX9_make 141 = .ok (.ifCond .eq 29, 3) := by decide +kernel
theorem dX9_make_144 : decode cX9_make 144 = .ok (.iload 5, 2) := by decide +kernel
theorem dX9_make_146 : decode cX9_make 146 = .ok (.iconst 1, 1) := by decide +kernel
theorem dX9_make_147 : decode cX9_make 147 = .ok (.if_icmp .ne 13, 3) := by decide +kernel
theorem dX9_make_150 : decode cX9_make 150 = .ok (.aload_n 0, 1) := by decide +kernel
theorem dX9_make_151 : decode cX9_make 151 = .ok (.getfield 9, 3) := by decide +kernel
theorem dX9_make_154 : decode cX9_make 154 = .ok (.iconst 1, 1) := by decide +kernel
theorem dX9_make_155 : decode cX9_make 155 = .ok (.iaload, 1) := by decide +kernel
theorem dX9_make_156 : decode cX9_make 156 = .ok (.iconst 1, 1) := by decide +kernel
theorem dX9_make_157 : decode cX9_make 157 = .ok (.if_icmp .eq 13, 3) := by decide +kernel
theorem dX9_make_160 : decode cX9_make 160 = .ok (.iload 5, 2) := by decide +kernel
theorem dX9_make_162 : decode cX9_make 162 = .ok (.ifCond .ne 12, 3) := by decide +kernel
theorem dX9_make_165 : decode cX9_make 165 = .ok (.iload 4, 2) := by decide +kernel
theorem dX9_make_167 : decode cX9_make 167 = .ok (.ifCond .eq 7, 3) := by decide +kernel
theorem dX9_make_170 : decode cX9_make 170 = .ok (.iconst 1, 1) := by decide +kernel
theorem dX9_make_171 : decode cX9_make 171 = .ok (.goto 4, 3) := by decide +kernel
theorem dX9_make_174 : decode cX9_make 174 = .ok (.iconst 0, 1) := by decide +kernel
theorem dX9_make_175 : decode cX9_make 175 = .ok (.ireturn, 1) := by decide +kernel
theorem dX9_lengthAt_0 : decode cX9_lengthAt 0 = .ok (.iload_n 2, 1) := by decide +kernel
theorem dX9_lengthAt_1 : decode cX9_lengthAt 1 = .ok (.ifCond .lt 18, 3) := by decide +kernel
theorem dX9_lengthAt_4 : decode cX9_lengthAt 4 = .ok (.iload_n 2, 1) := by decide +kernel
theorem dX9_lengthAt_5 : decode cX9_lengthAt 5 = .ok (.aload_n 1, 1) := by decide +kernel
theorem dX9_lengthAt_6 : decode cX9_lengthAt 6 = .ok (.arraylength, 1) := by decide +kernel
theorem dX9_lengthAt_7 : decode cX9_lengthAt 7 = .ok (.if_icmp .ge 12, 3) := by decide +kernel
theorem dX9_lengthAt_10 : decode cX9_lengthAt 10 = .ok (.aload_n 1, 1) := by decide +kernel
theorem dX9_lengthAt_11 : decode cX9_lengthAt 11 = .ok (.iload_n 2, 1) := by decide +kernel
theorem dX9_lengthAt_12 : decode cX9_lengthAt 12 = .ok (.iaload, 1) := by decide +kernel
theorem dX9_lengthAt_13 : decode cX9_lengthAt 13 = .ok (.bipush 15, 2) := by decide +kernel
theorem dX9_lengthAt_15 : decode cX9_lengthAt 15 = .ok (.iand, 1) := by decide +kernel
theorem dX9_lengthAt_16 : decode cX9_lengthAt 16 = .ok (.goto 4, 3) := by decide +kernel
theorem dX9_lengthAt_19 : decode cX9_lengthAt 19 = .ok (.iconst 0, 1) := by decide +kernel
theorem dX9_lengthAt_20 : decode cX9_lengthAt 20 = .ok (.ireturn, 1) := by decide +kernel
theorem dX9_sort_0 : decode cX9_sort 0 = .ok (.iconst 0, 1) := by decide +kernel
theorem dX9_sort_1 : decode cX9_sort 1 = .ok (.istore 4, 2) := by decide +kernel
theorem dX9_sort_3 : decode cX9_sort 3 = .ok (.iconst 1, 1) := by decide +kernel
theorem dX9_sort_4 : decode cX9_sort 4 = .ok (.istore 5, 2) := by decide +kernel
theorem dX9_sort_6 : decode cX9_sort 6 = .ok (.iload 5, 2) := by decide +kernel
theorem dX9_sort_8 : decode cX9_sort 8 = .ok (.aload_n 0, 1) := by decide +kernel
theorem dX9_sort_9 : decode cX9_sort 9 = .ok (.getfield 18, 3) := by decide +kernel
theorem dX9_sort_12 : decode cX9_sort 12 = .ok (.arraylength, 1) := by decide +kernel
theorem dX9_sort_13 : decode cX9_sort 13 = .ok (.if_icmp .ge 40, 3) := by decide +kernel
theorem dX9_sort_16 : decode cX9_sort 16 = .ok (.iload 5, 2) := by decide +kernel
theorem dX9_sort_18 : decode cX9_sort 18 = .ok (.aload_n 0, 1) := by decide +kernel
theorem dX9_sort_19 : decode cX9_sort 19 = .ok (.getfield 9, 3) := by decide +kernel
theorem dX9_sort_22 : decode cX9_sort 22 = .ok (.arraylength, 1) := by decide +kernel
theorem dX9_sort_23 : decode cX9_sort 23 = .ok (.if_icmp .ge 30, 3) := by decide +kernel
theorem dX9_sort_26 : decode cX9_sort 26 = .ok (.aload_n 0, 1) := by decide +kernel
theorem dX9_sort_27 : decode cX9_sort 27 = .ok (.getfield 18, 3) := by decide +kernel
theorem dX9_sort_30 : decode cX9_sort 30 = .ok (.iload 5, 2) := by decide +kernel
theorem dX9_sort_32 : decode cX9_sort 32 = .ok (.iload 4, 2) := by decide +kernel
theorem dX9_sort_34 : decode cX9_sort 34 = .ok (.iastore, 1) := by decide +kernel
theorem dX9_sort_35 : decode cX9_sort 35 = .ok (.iload 4, 2) := by decide +kernel
theorem dX9_sort_37 : decode cX9_sort 37 = .ok (.aload_n 0, 1) := by decide +kernel
theorem dX9_sort_38 : decode cX9_sort 38 = .ok (.getfield 9, 3) := by decide +kernel
theorem dX9_sort_41 : decode cX9_sort 41 = .ok (.iload 5, 2) := by decide +kernel
theorem dX9_sort_43 : decode cX9_sort 43 = .ok (.iaload, 1) := by decide +kernel
theorem dX9_sort_44 : decode cX9_sort 44 = .ok (.iadd, 1) := by decide +kernel
theorem dX9_sort_45 : decode cX9_sort 45 = .ok (.istore 4, 2) := by decide +kernel
theorem dX9_sort_47 : decode cX9_sort 47 = .ok (.iinc 5 1, 3) := by decide +kernel
theorem dX9_sort_50 : decode cX9_sort 50 = .ok (.goto (-44), 3) := by decide +kernel
theorem dX9_sort_53 : decode cX9_sort 53 = .ok (.iconst 0, 1) := by decide +kernel
theorem dX9_sort_54 : decode cX9_sort 54 = .ok (.istore 5, 2) := by decide +kernel
theorem dX9_sort_56 : decode cX9_sort 56 = .ok (.iload 5, 2) := by decide +kernel
theorem dX9_sort_58 : decode cX9_sort 58 = .ok (.iload_n 3, 1) := by decide +kernel
theorem dX9_sort_59 : decode cX9_sort 59 = .ok (.if_icmp .ge 85, 3) := by decide +kernel
theorem dX9_sort_62 : decode cX9_sort 62 = .ok (.aload_n 0, 1) := by decide +kernel
theorem dX9_sort_63 : decode cX9_sort 63 = .ok (.aload_n 1, 1) := by decide +kernel
theorem dX9_sort_64 : decode cX9_sort 64 = .ok (.iload_n 2, 1) := by decide +kernel
theorem dX9_sort_65 : decode cX9_sort 65 = .ok (.iload 5, 2) := by decide +kernel
theorem dX9_sort_67 : decode cX9_sort 67 = .ok (.iadd, 1) := by decide +kernel
theorem dX9_sort_68 : decode cX9_sort 68 = .ok (.invokevirtual 21, 3) := by decide +kernel
theorem dX9_sort_71 : decode cX9_sort 71 = .ok (.istore 6, 2) := by decide +kernel
theorem dX9_sort_73 : decode cX9_sort 73 = .ok (.iload 6, 2) := by decide +kernel
theorem dX9_sort_75 : decode cX9_sort 75 = .ok (.ifCond .le 63, 3) := by decide +kernel
theorem dX9_sort_78 : decode cX9_sort 78 = .ok (.iload 6, 2) := by decide +kernel
theorem dX9_sort_80 : decode cX9_sort 80 = .ok (.aload_n 0, 1) := by decide +kernel
theorem dX9_sort_81 : decode cX9_sort 81 = .ok (.getfield 18, 3) := by decide +kernel
theorem dX9_sort_84 : decode cX9_sort 84 = .ok (.arraylength, 1) := by decide +kernel
theorem dX9_sort_85 : decode cX9_sort 85 = .ok (.if_icmp .ge 53, 3) := by decide +kernel
theorem dX9_sort_88 : decode cX9_sort 88 = .ok (.aload_n 0, 1) := by decide +kernel
theorem dX9_sort_89 : decode cX9_sort 89 = .ok (.getfield 18, 3) := by decide +kernel
theorem dX9_sort_92 : decode cX9_sort 92 = .ok (.iload 6, 2) := by decide +kernel
theorem dX9_sort_94 : decode cX9_sort 94 = .ok (.iaload, 1) := by decide +kernel
theorem dX9_sort_95 : decode cX9_sort 95 = .ok (.ifCond .lt 43, 3) := by decide +kernel
theorem dX9_sort_98 : decode cX9_sort 98 = .ok (.aload_n 0, 1) := by decide +kernel
theorem dX9_sort_99 : decode cX9_sort 99 = .ok (.getfield 18, 3) := by decide +kernel
theorem dX9_sort_102 : decode cX9_sort 102 = .ok (.iload 6, 2) := by decide +kernel
theorem dX9_sort_104 : decode cX9_sort 104 = .ok (.iaload, 1) := by decide +kernel
theorem dX9_sort_105 : decode cX9_sort 105 = .ok (.aload_n 0, 1) := by decide +kernel
theorem dX9_sort_106 : decode cX9_sort 106 = .ok (.getfield 15, 3) := by decide +kernel
theorem dX9_sort_109 : decode cX9_sort 109 = .ok (.arraylength, 1) := by decide +kernel
theorem dX9_sort_110 : decode cX9_sort 110 = .ok (.if_icmp .ge 28, 3) := by decide +kernel
theorem dX9_sort_113 : decode cX9_sort 113 = .ok (.aload_n 0, 1) := by decide +kernel
theorem dX9_sort_114 : decode cX9_sort 114 = .ok (.getfield 15, 3) := by decide +kernel
theorem dX9_sort_117 : decode cX9_sort 117 = .ok (.aload_n 0, 1) := by decide +kernel
theorem dX9_sort_118 : decode cX9_sort 118 = .ok (.getfield 18, 3) := by decide +kernel
theorem dX9_sort_121 : decode cX9_sort 121 = .ok (.iload 6, 2) := by decide +kernel
theorem dX9_sort_123 : decode cX9_sort 123 = .ok (.iaload, 1) := by decide +kernel
theorem dX9_sort_124 : decode cX9_sort 124 = .ok (.iload 5, 2) := by decide +kernel
theorem dX9_sort_126 : decode cX9_sort 126 = .ok (.iastore, 1) := by decide +kernel
theorem dX9_sort_127 : decode cX9_sort 127 = .ok (.aload_n 0, 1) := by decide +kernel
theorem dX9_sort_128 : decode cX9_sort 128 = .ok (.getfield 18, 3) := by decide +kernel
theorem dX9_sort_131 : decode cX9_sort 131 = .ok (.iload 6, 2) := by decide +kernel
theorem dX9_sort_133 : decode cX9_sort 133 = .ok (.dup2, 1) := by decide +kernel
theorem dX9_sort_134 : decode cX9_sort 134 = .ok (.iaload, 1) := by decide +kernel
theorem dX9_sort_135 : decode cX9_sort 135 = .ok (.iconst 1, 1) := by decide +kernel
theorem dX9_sort_136 : decode cX9_sort 136 = .ok (.iadd, 1) := by decide +kernel
theorem dX9_sort_137 : decode cX9_sort 137 = .ok (.iastore, 1) := by decide +kernel
theorem dX9_sort_138 : decode cX9_sort 138 = .ok (.iinc 5 1, 3) := by decide +kernel
theorem dX9_sort_141 : decode cX9_sort 141 = .ok (.goto (-85), 3) := by decide +kernel
theorem dX9_sort_144 : decode cX9_sort 144 = .ok (.return_, 1) := by decide +kernel
theorem dX9_symbol_0 : decode cX9_symbol 0 = .ok (.iconst 0, 1) := by decide +kernel
theorem dX9_symbol_1 : decode cX9_symbol 1 = .ok (.istore_n 2, 1) := by decide +kernel
theorem dX9_symbol_2 : decode cX9_symbol 2 = .ok (.iconst 0, 1) := by decide +kernel
theorem dX9_symbol_3 : decode cX9_symbol 3 = .ok (.istore_n 3, 1) := by decide +kernel
theorem dX9_symbol_4 : decode cX9_symbol 4 = .ok (.iconst 0, 1) := by decide +kernel
theorem dX9_symbol_5 : decode cX9_symbol 5 = .ok (.istore 4, 2) := by decide +kernel
theorem dX9_symbol_7 : decode cX9_symbol 7 = .ok (.iconst 1, 1) := by decide +kernel
theorem dX9_symbol_8 : decode cX9_symbol 8 = .ok (.istore 5, 2) := by decide +kernel
theorem dX9_symbol_10 : decode cX9_symbol 10 = .ok (.iload 5, 2) := by decide +kernel
theorem dX9_symbol_12 : decode cX9_symbol 12 = .ok (.aload_n 0, 1) := by decide +kernel
theorem dX9_symbol_13 : decode cX9_symbol 13 = .ok (.getfield 9, 3) := by decide +kernel
theorem dX9_symbol_16 : decode cX9_symbol 16 = .ok (.arraylength, 1) := by decide +kernel
theorem dX9_symbol_17 : decode cX9_symbol 17 = .ok (.if_icmp .ge 97, 3) := by decide +kernel
theorem dX9_symbol_20 : decode cX9_symbol 20 = .ok (.iload_n 2, 1) := by decide +kernel
theorem dX9_symbol_21 : decode cX9_symbol 21 = .ok (.aload_n 1, 1) := by decide +kernel
theorem dX9_symbol_22 : decode cX9_symbol 22 = .ok (.invokevirtual 29, 3) := by decide +kernel
theorem dX9_symbol_25 : decode cX9_symbol 25 = .ok (.ior, 1) := by decide +kernel
theorem dX9_symbol_26 : decode cX9_symbol 26 = .ok (.istore_n 2, 1) := by decide +kernel
theorem dX9_symbol_27 : decode cX9_symbol 27 = .ok (.iload_n 2, 1) := by decide +kernel
theorem dX9_symbol_28 : decode cX9_symbol 28 = .ok (.iload_n 3, 1) := by decide +kernel
theorem dX9_symbol_29 : decode cX9_symbol 29 = .ok (.isub, 1) := by decide +kernel
theorem dX9_symbol_30 : decode cX9_symbol 30 = .ok (.istore 6, 2) := by decide +kernel
theorem dX9_symbol_32 : decode cX9_symbol 32 = .ok (.iload 6, 2) := by decide +kernel
theorem dX9_symbol_34 : decode cX9_symbol 34 = .ok (.aload_n 0, 1) := by decide +kernel
theorem dX9_symbol_35 : decode cX9_symbol 35 = .ok (.getfield 9, 3) := by decide +kernel
theorem dX9_symbol_38 : decode cX9_symbol 38 = .ok (.iload 5, 2) := by decide +kernel
theorem dX9_symbol_40 : decode cX9_symbol 40 = .ok (.iaload, 1) := by decide +kernel
theorem dX9_symbol_41 : decode cX9_symbol 41 = .ok (.if_icmp .ge 39, 3) := by decide +kernel
theorem dX9_symbol_44 : decode cX9_symbol 44 = .ok (.iload 4, 2) := by decide +kernel
theorem dX9_symbol_46 : decode cX9_symbol 46 = .ok (.iload 6, 2) := by decide +kernel
theorem dX9_symbol_48 : decode cX9_symbol 48 = .ok (.iadd, 1) := by decide +kernel
theorem dX9_symbol_49 : decode cX9_symbol 49 = .ok (.ifCond .lt 29, 3) := by decide +kernel
theorem dX9_symbol_52 : decode cX9_symbol 52 = .ok (.iload 4, 2) := by decide +kernel
theorem dX9_symbol_54 : decode cX9_symbol 54 = .ok (.iload 6, 2) := by decide +kernel
theorem dX9_symbol_56 : decode cX9_symbol 56 = .ok (.iadd, 1) := by decide +kernel
theorem dX9_symbol_57 : decode cX9_symbol 57 = .ok (.aload_n 0, 1) := by decide +kernel
theorem dX9_symbol_58 : decode cX9_symbol 58 = .ok (.getfield 15, 3) := by decide +kernel
theorem dX9_symbol_61 : decode cX9_symbol 61 = .ok (.arraylength, 1) := by decide +kernel
theorem dX9_symbol_62 : decode cX9_symbol 62 = .ok (.if_icmp .ge 16, 3) := by decide +kernel
theorem dX9_symbol_65 : decode cX9_symbol 65 = .ok (.aload_n 0, 1) := by decide +kernel
theorem dX9_symbol_66 : decode cX9_symbol 66 = .ok (.getfield 15, 3) := by decide +kernel
theorem dX9_symbol_69 : decode cX9_symbol 69 = .ok (.iload 4, 2) := by decide +kernel
theorem dX9_symbol_71 : decode cX9_symbol 71 = .ok (.iload 6, 2) := by decide +kernel
theorem dX9_symbol_73 : decode cX9_symbol 73 = .ok (.iadd, 1) := by decide +kernel
theorem dX9_symbol_74 : decode cX9_symbol 74 = .ok (.iaload, 1) := by decide +kernel
theorem dX9_symbol_75 : decode cX9_symbol 75 = .ok (.goto 4, 3) := by decide +kernel
theorem dX9_symbol_78 : decode cX9_symbol 78 = .ok (.iconst (-1), 1) := by decide +kernel
theorem dX9_symbol_79 : decode cX9_symbol 79 = .ok (.ireturn, 1) := by decide +kernel
theorem dX9_symbol_80 : decode cX9_symbol 80 = .ok (.iload 4, 2) := by decide +kernel
theorem dX9_symbol_82 : decode cX9_symbol 82 = .ok (.aload_n 0, 1) := by decide +kernel
theorem dX9_symbol_83 : decode cX9_symbol 83 = .ok (.getfield 9, 3) := by decide +kernel
theorem dX9_symbol_86 : decode cX9_symbol 86 = .ok (.iload 5, 2) := by decide +kernel
theorem dX9_symbol_88 : decode cX9_symbol 88 = .ok (.iaload, 1) := by decide +kernel
theorem dX9_symbol_89 : decode cX9_symbol 89 = .ok (.iadd, 1) := by decide +kernel
theorem dX9_symbol_90 : decode cX9_symbol 90 = .ok (.istore 4, 2) := by decide +kernel
theorem dX9_symbol_92 : decode cX9_symbol 92 = .ok (.iload_n 3, 1) := by decide +kernel
theorem dX9_symbol_93 : decode cX9_symbol 93 = .ok (.aload_n 0, 1) := by decide +kernel
theorem dX9_symbol_94 : decode cX9_symbol 94 = .ok (.getfield 9, 3) := by decide +kernel
theorem dX9_symbol_97 : decode cX9_symbol 97 = .ok (.iload 5, 2) := by decide +kernel
theorem dX9_symbol_99 : decode cX9_symbol 99 = .ok (.iaload, 1) := by decide +kernel
theorem dX9_symbol_100 : decode cX9_symbol 100 = .ok (.iadd, 1) := by decide +kernel
theorem dX9_symbol_101 : decode cX9_symbol 101 = .ok (.iconst 1, 1) := by decide +kernel
theorem dX9_symbol_102 : decode cX9_symbol 102 = .ok (.ishl, 1) := by decide +kernel
theorem dX9_symbol_103 : decode cX9_symbol 103 = .ok (.istore_n 3, 1) := by decide +kernel
theorem dX9_symbol_104 : decode cX9_symbol 104 = .ok (.iload_n 2, 1) := by decide +kernel
theorem dX9_symbol_105 : decode cX9_symbol 105 = .ok (.iconst 1, 1) := by decide +kernel
theorem dX9_symbol_106 : decode cX9_symbol 106 = .ok (.ishl, 1) := by decide +kernel
theorem dX9_symbol_107 : decode cX9_symbol 107 = .ok (.istore_n 2, 1) := by decide +kernel
theorem dX9_symbol_108 : decode cX9_symbol 108 = .ok (.iinc 5 1, 3) := by decide +kernel
theorem dX9_symbol_111 : decode cX9_symbol 111 = .ok (.goto (-101), 3) := by decide +kernel
theorem dX9_symbol_114 : decode cX9_symbol 114 = .ok (.iconst (-1), 1) := by decide +kernel
theorem dX9_symbol_115 : decode cX9_symbol 115 = .ok (.ireturn, 1) := by decide +kernel
theorem dX10_init_0 : decode cX10_init 0 = .ok (.aload_n 0, 1) := by decide +kernel
theorem dX10_init_1 : decode cX10_init 1 = .ok (.invokespecial 3, 3) := by decide +kernel
theorem dX10_init_4 : decode cX10_init 4 = .ok (.aload_n 0, 1) := by decide +kernel
theorem dX10_init_5 : decode cX10_init 5 = .ok (.new 9, 3) := by decide +kernel
theorem dX10_init_8 : decode cX10_init 8 = .ok (.dup, 1) := by decide +kernel
theorem dX10_init_9 : decode cX10_init 9 = .ok (.invokespecial 11, 3) := by decide +kernel
theorem dX10_init_12 : decode cX10_init 12 = .ok (.putfield 12, 3) := by decide +kernel
theorem dX10_init_15 : decode cX10_init 15 = .ok (.aload_n 0, 1) := by decide +kernel
theorem dX10_init_16 : decode cX10_init 16 = .ok (.new 9, 3) := by decide +kernel
theorem dX10_init_19 : decode cX10_init 19 = .ok (.dup, 1) := by decide +kernel
theorem dX10_init_20 : decode cX10_init 20 = .ok (.invokespecial 11, 3) := by decide +kernel
theorem dX10_init_23 : decode cX10_init 23 = .ok (.putfield 18, 3) := by decide +kernel
theorem dX10_init_26 : decode cX10_init 26 = .ok (.aload_n 0, 1) := by decide +kernel
theorem dX10_init_27 : decode cX10_init 27 = .ok (.new 9, 3) := by decide +kernel
theorem dX10_init_30 : decode cX10_init 30 = .ok (.dup, 1) := by decide +kernel
theorem dX10_init_31 : decode cX10_init 31 = .ok (.invokespecial 11, 3) := by decide +kernel
theorem dX10_init_34 : decode cX10_init 34 = .ok (.putfield 21, 3) := by decide +kernel
theorem dX10_init_37 : decode cX10_init 37 = .ok (.aload_n 0, 1) := by decide +kernel
theorem dX10_init_38 : decode cX10_init 38 = .ok (.sipush 320, 3) := by decide +kernel
theorem dX10_init_41 : decode cX10_init 41 = .ok (.newarray .int, 2) := by decide +kernel
theorem dX10_init_43 : decode cX10_init 43 = .ok (.putfield 24, 3) := by decide +kernel
theorem dX10_init_46 : decode cX10_init 46 = .ok (.aload_n 0, 1) := by decide +kernel
theorem dX10_init_47 : decode cX10_init 47 = .ok (.new 28, 3) := by decide +kernel
theorem dX10_init_50 : decode cX10_init 50 = .ok (.dup, 1) := by decide +kernel
theorem dX10_init_51 : decode cX10_init 51 = .ok (.aload_n 1, 1) := by decide +kernel
theorem dX10_init_52 : decode cX10_init 52 = .ok (.invokespecial 30, 3) := by decide +kernel
theorem dX10_init_55 : decode cX10_init 55 = .ok (.putfield 33, 3) := by decide +kernel
theorem dX10_init_58 : decode cX10_init 58 = .ok (.aload_n 0, 1) := by decide +kernel
theorem dX10_init_59 : decode cX10_init 59 = .ok (.aload_n 2, 1) := by decide +kernel
theorem dX10_init_60 : decode cX10_init 60 = .ok (.putfield 37, 3) := by decide +kernel
theorem dX10_init_63 : decode cX10_init 63 = .ok (.return_, 1) := by decide +kernel
theorem dX10_unpack_0 : decode cX10_unpack 0 = .ok (.aload_n 0, 1) := by decide +kernel
theorem dX10_unpack_1 : decode cX10_unpack 1 = .ok (.getfield 37, 3) := by decide +kernel
theorem dX10_unpack_4 : decode cX10_unpack 4 = .ok (.iconst 0, 1) := by decide +kernel
theorem dX10_unpack_5 : decode cX10_unpack 5 = .ok (.invokevirtual 41, 3) := by decide +kernel
theorem dX10_unpack_8 : decode cX10_unpack 8 = .ok (.aload_n 0, 1) := by decide +kernel
theorem dX10_unpack_9 : decode cX10_unpack 9 = .ok (.iload_n 3, 1) := by decide +kernel
theorem dX10_unpack_10 : decode cX10_unpack 10 = .ok (.putfield 47, 3) := by decide +kernel
theorem dX10_unpack_13 : decode cX10_unpack 13 = .ok (.aload_n 0, 1) := by decide +kernel
theorem dX10_unpack_14 : decode cX10_unpack 14 = .ok (.getfield 33, 3) := by decide +kernel
theorem dX10_unpack_17 : decode cX10_unpack 17 = .ok (.iload_n 1, 1) := by decide +kernel
theorem dX10_unpack_18 : decode cX10_unpack 18 = .ok (.iload_n 2, 1) := by decide +kernel
theorem dX10_unpack_19 : decode cX10_unpack 19 = .ok (.invokevirtual 51, 3) := by decide +kernel
theorem dX10_unpack_22 : decode cX10_unpack 22 = .ok (.aload_n 0, 1) := by decide +kernel
theorem dX10_unpack_23 : decode cX10_unpack 23 = .ok (.invokevirtual 55, 3) := by decide +kernel
theorem dX10_unpack_26 : decode cX10_unpack 26 = .ok (.ifCond .ne 5, 3) := by decide +kernel
theorem dX10_unpack_29 : decode cX10_unpack 29 = .ok (.iconst 0, 1) := by decide +kernel
theorem dX10_unpack_30 : decode cX10_unpack 30 = .ok (.ireturn, 1) := by decide +kernel
theorem dX10_unpack_31 : decode cX10_unpack 31 = .ok (.iconst 0, 1) := by decide +kernel
theorem dX10_unpack_32 : decode cX10_unpack 32 = .ok (.istore 4, 2) := by decide +kernel
theorem dX10_unpack_34 : decode cX10_unpack 34 = .ok (.iload 4, 2) := by decide +kernel
theorem dX10_unpack_36 : decode cX10_unpack 36 = .ok (.ldc 59, 2) := by decide +kernel
theorem dX10_unpack_38 : decode cX10_unpack 38 = .ok (.if_icmp .ge 152, 3) := by decide +kernel
theorem dX10_unpack_41 : decode cX10_unpack 41 = .ok (.aload_n 0, 1) := by decide +kernel
theorem dX10_unpack_42 : decode cX10_unpack 42 = .ok (.getfield 33, 3) := by decide +kernel
theorem dX10_unpack_45 : decode cX10_unpack 45 = .ok (.invokevirtual 60, 3) := by decide +kernel
theorem dX10_unpack_48 : decode cX10_unpack 48 = .ok (.iconst 1, 1) := by decide +kernel
theorem dX10_unpack_49 : decode cX10_unpack 49 = .ok (.if_icmp .ne 7, 3) := by decide +kernel
theorem dX10_unpack_52 : decode cX10_unpack 52 = .ok (.iconst 1, 1) := by decide +kernel
theorem dX10_unpack_53 : decode cX10_unpack 53 = .ok (.goto 4, 3) := by decide +kernel
theorem dX10_unpack_56 : decode cX10_unpack 56 = .ok (.iconst 0, 1) := by decide +kernel
theorem dX10_unpack_57 : decode cX10_unpack 57 = .ok (.istore 5, 2) := by decide +kernel
theorem dX10_unpack_59 : decode cX10_unpack 59 = .ok (.aload_n 0, 1) := by decide +kernel
theorem dX10_unpack_60 : decode cX10_unpack 60 = .ok (.getfield 33, 3) := by decide +kernel
theorem dX10_unpack_63 : decode cX10_unpack 63 = .ok (.iconst 2, 1) := by decide +kernel
theorem dX10_unpack_64 : decode cX10_unpack 64 = .ok (.invokevirtual 64, 3) := by decide +kernel
theorem dX10_unpack_67 : decode cX10_unpack 67 = .ok (.istore 6, 2) := by decide +kernel
theorem dX10_unpack_69 : decode cX10_unpack 69 = .ok (.iconst 0, 1) := by decide +kernel
theorem dX10_unpack_70 : decode cX10_unpack 70 = .ok (.istore 7, 2) := by decide +kernel
theorem dX10_unpack_72 : decode cX10_unpack 72 = .ok (.iload 6, 2) := by decide +kernel
theorem dX10_unpack_74 : decode cX10_unpack 74 = .ok (.ifCond .ne 12, 3) := by decide +kernel
theorem dX10_unpack_77 : decode cX10_unpack 77 = .ok (.aload_n 0, 1) := by decide +kernel
theorem dX10_unpack_78 : decode cX10_unpack 78 = .ok (.invokevirtual 68, 3) := by decide +kernel
theorem dX10_unpack_81 : decode cX10_unpack 81 = .ok (.istore 7, 2) := by decide +kernel
theorem dX10_unpack_83 : decode cX10_unpack 83 = .ok (.goto 74, 3) := by decide +kernel
theorem dX10_unpack_86 : decode cX10_unpack 86 = .ok (.iload 6, 2) := by decide +kernel
theorem dX10_unpack_88 : decode cX10_unpack 88 = .ok (.iconst 1, 1) := by decide +kernel
theorem dX10_unpack_89 : decode cX10_unpack 89 = .ok (.if_icmp .ne 27, 3) := by decide +kernel
theorem dX10_unpack_92 : decode cX10_unpack 92 = .ok (.aload_n 0, 1) := by decide +kernel
theorem dX10_unpack_93 : decode cX10_unpack 93 = .ok (.invokevirtual 71, 3) := by decide +kernel
theorem dX10_unpack_96 : decode cX10_unpack 96 = .ok (.ifCond .eq 14, 3) := by decide +kernel
theorem dX10_unpack_99 : decode cX10_unpack 99 = .ok (.aload_n 0, 1) := by decide +kernel
theorem dX10_unpack_100 : decode cX10_unpack 100 = .ok (.invokevirtual 74, 3) := by decide +kernel
theorem dX10_unpack_103 : decode cX10_unpack 103 = .ok (.ifCond .eq 7, 3) := by decide +kernel
theorem dX10_unpack_106 : decode cX10_unpack 106 = .ok (.iconst 1, 1) := by decide +kernel
theorem dX10_unpack_107 : decode cX10_unpack 107 = .ok (.goto 4, 3) := by decide +kernel
theorem dX10_unpack_110 : decode cX10_unpack 110 = .ok (.iconst 0, 1) := by decide +kernel
theorem dX10_unpack_111 : decode cX10_unpack 111 = .ok (.istore 7, 2) := by decide +kernel
theorem dX10_unpack_113 : decode cX10_unpack 113 = .ok (.goto 44, 3) := by decide +kernel
theorem dX10_unpack_116 : decode cX10_unpack 116 = .ok (.iload 6, 2) := by decide +kernel
theorem dX10_unpack_118 : decode cX10_unpack 118 = .ok (.iconst 2, 1) := by decide +kernel
theorem dX10_unpack_119 : decode cX10_unpack 119 = .ok (.if_icmp .ne 38, 3) := by decide +kernel
theorem dX10_unpack_122 : decode cX10_unpack 122 = .ok (.aload_n 0, 1) := by decide +kernel
theorem dX10_unpack_123 : decode cX10_unpack 123 = .ok (.invokevirtual 77, 3) := by decide +kernel
theorem dX10_unpack_126 : decode cX10_unpack 126 = .ok (.ifCond .eq 28, 3) := by decide +kernel
theorem dX10_unpack_129 : decode cX10_unpack 129 = .ok (.aload_n 0, 1) := by decide +kernel
theorem dX10_unpack_130 : decode cX10_unpack 130 = .ok (.invokevirtual 80, 3) := by decide +kernel
theorem dX10_unpack_133 : decode cX10_unpack 133 = .ok (.ifCond .eq 21, 3) := by decide +kernel
theorem dX10_unpack_136 : decode cX10_unpack 136 = .ok (.aload_n 0, 1) := by decide +kernel
theorem dX10_unpack_137 : decode cX10_unpack 137 = .ok (.invokevirtual 83, 3) := by decide +kernel
theorem dX10_unpack_140 : decode cX10_unpack 140 = .ok (.ifCond .eq 14, 3) := by decide +kernel
theorem dX10_unpack_143 : decode cX10_unpack 143 = .ok (.aload_n 0, 1) := by decide +kernel
theorem dX10_unpack_144 : decode cX10_unpack 144 = .ok (.invokevirtual 74, 3) := by decide +kernel
theorem dX10_unpack_147 : decode cX10_unpack 147 = .ok (.ifCond .eq 7, 3) := by decide +kernel
theorem dX10_unpack_150 : decode cX10_unpack 150 = .ok (.iconst 1, 1) := by decide +kernel
theorem dX10_unpack_151 : decode cX10_unpack 151 = .ok (.goto 4, 3) := by decide +kernel
theorem dX10_unpack_154 : decode cX10_unpack 154 = .ok (.iconst 0, 1) := by decide +kernel
theorem dX10_unpack_155 : decode cX10_unpack 155 = .ok (.istore 7, 2) := by decide +kernel
theorem dX10_unpack_157 : decode cX10_unpack 157 = .ok (.iload 7, 2) := by decide +kernel
theorem dX10_unpack_159 : decode cX10_unpack 159 = .ok (.ifCond .eq 13, 3) := by decide +kernel
theorem dX10_unpack_162 : decode cX10_unpack 162 = .ok (.aload_n 0, 1) := by decide +kernel
theorem dX10_unpack_163 : decode cX10_unpack 163 = .ok (.getfield 33, 3) := by decide +kernel
theorem dX10_unpack_166 : decode cX10_unpack 166 = .ok (.invokevirtual 86, 3) := by decide +kernel
theorem dX10_unpack_169 : decode cX10_unpack 169 = .ok (.ifCond .eq 5, 3) := by decide +kernel
theorem dX10_unpack_172 : decode cX10_unpack 172 = .ok (.iconst 0, 1) := by decide +kernel
theorem dX10_unpack_173 : decode cX10_unpack 173 = .ok (.ireturn, 1) := by decide +kernel
theorem dX10_unpack_174 : decode cX10_unpack 174 = .ok (.iload 5, 2) := by decide +kernel
theorem dX10_unpack_176 : decode cX10_unpack 176 = .ok (.ifCond .eq 8, 3) := by decide +kernel
theorem dX10_unpack_179 : decode cX10_unpack 179 = .ok (.aload_n 0, 1) := by decide +kernel
theorem dX10_unpack_180 : decode cX10_unpack 180 = .ok (.invokevirtual 89, 3) := by decide +kernel
theorem dX10_unpack_183 : decode cX10_unpack 183 = .ok (.ireturn, 1) := by decide +kernel
theorem dX10_unpack_184 : decode cX10_unpack 184 = .ok (.iinc 4 1, 3) := by decide +kernel
theorem dX10_unpack_187 : decode cX10_unpack 187 = .ok (.goto (-153), 3) := by decide +kernel
theorem dX10_unpack_190 : decode cX10_unpack 190 = .ok (.iconst 0, 1) := by decide +kernel
theorem dX10_unpack_191 : decode cX10_unpack 191 = .ok (.ireturn, 1) := by decide +kernel
theorem dX10_readBeginning_0 : decode cX10_readBeginning 0 = .ok (.aload_n 0, 1) := by decide +kernel
theorem dX10_readBeginning_1 : decode cX10_readBeginning 1 = .ok (.getfield 33, 3) := by decide +kernel
theorem dX10_readBeginning_4 : decode cX10_readBeginning 4 = .ok (.bipush 8, 2) := by decide +kernel
theorem dX10_readBeginning_6 : decode cX10_readBeginning 6 = .ok (.invokevirtual 64, 3) := by decide +kernel
theorem dX10_readBeginning_9 : decode cX10_readBeginning 9 = .ok (.istore_n 1, 1) := by decide +kernel
theorem dX10_readBeginning_10 : decode cX10_readBeginning 10 = .ok (.aload_n 0, 1) := by decide +kernel
theorem dX10_readBeginning_11 : decode cX10_readBeginning 11 = .ok (.getfield 33, 3) := by decide +kernel
theorem dX10_readBeginning_14 : decode cX10_readBeginning 14 = .ok (.bipush 8, 2) := by decide +kernel
theorem dX10_readBeginning_16 : decode cX10_readBeginning 16 = .ok (.invokevirtual 64, 3) := by decide +kernel
theorem dX10_readBeginning_19 : decode cX10_readBeginning 19 = .ok (.istore_n 2, 1) := by decide +kernel
theorem dX10_readBeginning_20 : decode cX10_readBeginning 20 = .ok (.aload_n 0, 1) := by decide +kernel
theorem dX10_readBeginning_21 : decode cX10_readBeginning 21 = .ok (.sipush 256, 3) := by decide +kernel
theorem dX10_readBeginning_24 : decode cX10_readBeginning 24 = .ok (.iload_n 1, 1) := by decide +kernel
theorem dX10_readBeginning_25 : decode cX10_readBeginning 25 = .ok (.iconst 4, 1) := by decide +kernel
theorem dX10_readBeginning_26 : decode cX10_readBeginning 26 = .ok (.ishr, 1) := by decide +kernel
theorem dX10_readBeginning_27 : decode cX10_readBeginning 27 = .ok (.ishl, 1) := by decide +kernel
theorem dX10_readBeginning_28 : decode cX10_readBeginning 28 = .ok (.putfield 92, 3) := by decide +kernel
theorem dX10_readBeginning_31 : decode cX10_readBeginning 31 = .ok (.aload_n 0, 1) := by decide +kernel
theorem dX10_readBeginning_32 : decode cX10_readBeginning 32 = .ok (.getfield 33, 3) := by decide +kernel
theorem dX10_readBeginning_35 : decode cX10_readBeginning 35 = .ok (.invokevirtual 86, 3) := by decide +kernel
theorem dX10_readBeginning_38 : decode cX10_readBeginning 38 = .ok (.ifCond .ne 44, 3) := by decide +kernel
theorem dX10_readBeginning_41 : decode cX10_readBeginning 41 = .ok (.sipush 256, 3) := by decide +kernel
theorem dX10_readBeginning_44 : decode cX10_readBeginning 44 = .ok (.iload_n 1, 1) := by decide +kernel
theorem dX10_readBeginning_45 : decode cX10_readBeginning 45 = .ok (.imul, 1) := by decide +kernel
theorem dX10_readBeginning_46 : decode cX10_readBeginning 46 = .ok (.iload_n 2, 1) := by decide +kernel
theorem dX10_readBeginning_47 : decode cX10_readBeginning 47 = .ok (.iadd, 1) := by decide +kernel
theorem dX10_readBeginning_48 : decode cX10_readBeginning 48 = .ok (.bipush 31, 2) := by decide +kernel
theorem dX10_readBeginning_50 : decode cX10_readBeginning 50 = .ok (.irem, 1) := by decide +kernel
theorem dX10_readBeginning_51 : decode cX10_readBeginning 51 = .ok (.ifCond .ne 31, 3) := by decide +kernel
theorem dX10_readBeginning_54 : decode cX10_readBeginning 54 = .ok (.iload_n 1, 1) := by decide +kernel
theorem dX10_readBeginning_55 : decode cX10_readBeginning 55 = .ok (.bipush 15, 2) := by decide +kernel
theorem dX10_readBeginning_57 : decode cX10_readBeginning 57 = .ok (.iand, 1) := by decide +kernel
theorem dX10_readBeginning_58 : decode cX10_readBeginning 58 = .ok (.bipush 8, 2) := by decide +kernel
theorem dX10_readBeginning_60 : decode cX10_readBeginning 60 = .ok (.if_icmp .ne 22, 3) := by decide +kernel
theorem dX10_readBeginning_63 : decode cX10_readBeginning 63 = .ok (.iload_n 1, 1) := by decide +kernel
theorem dX10_readBeginning_64 : decode cX10_readBeginning 64 = .ok (.iconst 4, 1) := by decide +kernel
theorem dX10_readBeginning_65 : decode cX10_readBeginning 65 = .ok (.ishr, 1) := by decide +kernel
theorem dX10_readBeginning_66 : decode cX10_readBeginning 66 = .ok (.bipush 7, 2) := by decide +kernel
theorem dX10_readBeginning_68 : decode cX10_readBeginning 68 = .ok (.if_icmp .gt 14, 3) := by decide +kernel
theorem dX10_readBeginning_71 : decode cX10_readBeginning 71 = .ok (.iload_n 2, 1) := by decide +kernel
theorem dX10_readBeginning_72 : decode cX10_readBeginning 72 = .ok (.bipush 32, 2) := by decide +kernel
theorem dX10_readBeginning_74 : decode cX10_readBeginning 74 = .ok (.iand, 1) := by decide +kernel
theorem dX10_readBeginning_75 : decode cX10_readBeginning 75 = .ok (.ifCond .ne 7, 3) := by decide +kernel
theorem dX10_readBeginning_78 : decode cX10_readBeginning 78 = .ok (.iconst 1, 1) := by decide +kernel
theorem dX10_readBeginning_79 : decode cX10_readBeginning 79 = .ok (.goto 4, 3) := by decide +kernel
theorem dX10_readBeginning_82 : decode cX10_readBeginning 82 = .ok (.iconst 0, 1) := by decide +kernel
theorem dX10_readBeginning_83 : decode cX10_readBeginning 83 = .ok (.ireturn, 1) := by decide +kernel
theorem dX10_readCheck_0 : decode cX10_readCheck 0 = .ok (.aload_n 0, 1) := by decide +kernel
theorem dX10_readCheck_1 : decode cX10_readCheck 1 = .ok (.getfield 33, 3) := by decide +kernel
theorem dX10_readCheck_4 : decode cX10_readCheck 4 = .ok (.invokevirtual 95, 3) := by decide +kernel
theorem dX10_readCheck_7 : decode cX10_readCheck 7 = .ok (.aload_n 0, 1) := by decide +kernel
theorem dX10_readCheck_8 : decode cX10_readCheck 8 = .ok (.getfield 33, 3) := by decide +kernel
theorem dX10_readCheck_11 : decode cX10_readCheck 11 = .ok (.invokevirtual 98, 3) := by decide +kernel
theorem dX10_readCheck_14 : decode cX10_readCheck 14 = .ok (.iconst 4, 1) := by decide +kernel
theorem dX10_readCheck_15 : decode cX10_readCheck 15 = .ok (.if_icmp .eq 5, 3) := by decide +kernel
theorem dX10_readCheck_18 : decode cX10_readCheck 18 = .ok (.iconst 0, 1) := by decide +kernel
theorem dX10_readCheck_19 : decode cX10_readCheck 19 = .ok (.ireturn, 1) := by decide +kernel
theorem dX10_readCheck_20 : decode cX10_readCheck 20 = .ok (.iconst 0, 1) := by decide +kernel
theorem dX10_readCheck_21 : decode cX10_readCheck 21 = .ok (.istore_n 1, 1) := by decide +kernel
theorem dX10_readCheck_22 : decode cX10_readCheck 22 = .ok (.iconst 0, 1) := by decide +kernel
theorem dX10_readCheck_23 : decode cX10_readCheck 23 = .ok (.istore_n 2, 1) := by decide +kernel
theorem dX10_readCheck_24 : decode cX10_readCheck 24 = .ok (.iload_n 2, 1) := by decide +kernel
theorem dX10_readCheck_25 : decode cX10_readCheck 25 = .ok (.iconst 4, 1) := by decide +kernel
theorem dX10_readCheck_26 : decode cX10_readCheck 26 = .ok (.if_icmp .ge 24, 3) := by decide +kernel
theorem dX10_readCheck_29 : decode cX10_readCheck 29 = .ok (.iload_n 1, 1) := by decide +kernel
theorem dX10_readCheck_30 : decode cX10_readCheck 30 = .ok (.bipush 8, 2) := by decide +kernel
theorem dX10_readCheck_32 : decode cX10_readCheck 32 = .ok (.ishl, 1) := by decide +kernel
theorem dX10_readCheck_33 : decode cX10_readCheck 33 = .ok (.aload_n 0, 1) := by decide +kernel
theorem dX10_readCheck_34 : decode cX10_readCheck 34 = .ok (.getfield 33, 3) := by decide +kernel
theorem dX10_readCheck_37 : decode cX10_readCheck 37 = .ok (.bipush 8, 2) := by decide +kernel
theorem dX10_readCheck_39 : decode cX10_readCheck 39 = .ok (.invokevirtual 64, 3) := by decide +kernel
theorem dX10_readCheck_42 : decode cX10_readCheck 42 = .ok (.ior, 1) := by decide +kernel
theorem dX10_readCheck_43 : decode cX10_readCheck 43 = .ok (.istore_n 1, 1) := by decide +kernel
theorem dX10_readCheck_44 : decode cX10_readCheck 44 = .ok (.iinc 2 1, 3) := by decide +kernel
theorem dX10_readCheck_47 : decode cX10_readCheck 47 = .ok (.goto (-23), 3) := by decide +kernel
theorem dX10_readCheck_50 : decode cX10_readCheck 50 = .ok (.iload_n 1, 1) := by decide +kernel
theorem dX10_readCheck_51 : decode cX10_readCheck 51 = .ok (.aload_n 0, 1) := by decide +kernel
theorem dX10_readCheck_52 : decode cX10_readCheck 52 = .ok (.getfield 37, 3) := by decide +kernel
theorem dX10_readCheck_55 : decode cX10_readCheck 55 = .ok (.iconst 0, 1) := by decide +kernel
theorem dX10_readCheck_56 : decode cX10_readCheck 56 = .ok (.aload_n 0, 1) := by decide +kernel
theorem dX10_readCheck_57 : decode cX10_readCheck 57 = .ok (.getfield 37, 3) := by decide +kernel
theorem dX10_readCheck_60 : decode cX10_readCheck 60 = .ok (.invokevirtual 101, 3) := by decide +kernel
theorem dX10_readCheck_63 : decode cX10_readCheck 63 = .ok (.invokestatic 104, 3) := by decide +kernel
theorem dX10_readCheck_66 : decode cX10_readCheck 66 = .ok (.if_icmp .ne 7, 3) := by decide +kernel
theorem dX10_readCheck_69 : decode cX10_readCheck 69 = .ok (.iconst 1, 1) := by decide +kernel
theorem dX10_readCheck_70 : decode cX10_readCheck 70 = .ok (.goto 4, 3) := by decide +kernel
theorem dX10_readCheck_73 : decode cX10_readCheck 73 = .ok (.iconst 0, 1) := by decide +kernel
theorem dX10_readCheck_74 : decode cX10_readCheck 74 = .ok (.ireturn, 1) := by decide +kernel
theorem dX10_readStored_0 : decode cX10_readStored 0 = .ok (.aload_n 0, 1) := by decide +kernel
theorem dX10_readStored_1 : decode cX10_readStored 1 = .ok (.getfield 33, 3) := by decide +kernel
theorem dX10_readStored_4 : decode cX10_readStored 4 = .ok (.invokevirtual 95, 3) := by decide +kernel
theorem dX10_readStored_7 : decode cX10_readStored 7 = .ok (.aload_n 0, 1) := by decide +kernel
theorem dX10_readStored_8 : decode cX10_readStored 8 = .ok (.getfield 33, 3) := by decide +kernel
theorem dX10_readStored_11 : decode cX10_readStored 11 = .ok (.bipush 16, 2) := by decide +kernel
theorem dX10_readStored_13 : decode cX10_readStored 13 = .ok (.invokevirtual 64, 3) := by decide +kernel
theorem dX10_readStored_16 : decode cX10_readStored 16 = .ok (.istore_n 1, 1) := by decide +kernel
theorem dX10_readStored_17 : decode cX10_readStored 17 = .ok (.aload_n 0, 1) := by decide +kernel
theorem dX10_readStored_18 : decode cX10_readStored 18 = .ok (.getfield 33, 3) := by decide +kernel
theorem dX10_readStored_21 : decode cX10_readStored 21 = .ok (.bipush 16, 2) := by decide +kernel
theorem dX10_readStored_23 : decode cX10_readStored 23 = .ok (.invokevirtual 64, 3) := by decide +kernel
theorem dX10_readStored_26 : decode cX10_readStored 26 = .ok (.istore_n 2, 1) := by decide +kernel
theorem dX10_readStored_27 : decode cX10_readStored 27 = .ok (.aload_n 0, 1) := by decide +kernel
theorem dX10_readStored_28 : decode cX10_readStored 28 = .ok (.getfield 33, 3) := by decide +kernel
theorem dX10_readStored_31 : decode cX10_readStored 31 = .ok (.invokevirtual 86, 3) := by decide +kernel
theorem dX10_readStored_34 : decode cX10_readStored 34 = .ok (.ifCond .ne 38, 3) := by decide +kernel
theorem dX10_readStored_37 : decode cX10_readStored 37 = .ok (.iload_n 1, 1) := by decide +kernel
theorem dX10_readStored_38 : decode cX10_readStored 38 = .ok (.iload_n 2, 1) := by decide +kernel
theorem dX10_readStored_39 : decode cX10_readStored 39 = .ok (.iadd, 1) := by decide +kernel
theorem dX10_readStored_40 : decode cX10_readStored 40 = .ok (.ldc 108, 2) := by decide +kernel
theorem dX10_readStored_42 : decode cX10_readStored 42 = .ok (.if_icmp .ne 30, 3) := by decide +kernel
theorem dX10_readStored_45 : decode cX10_readStored 45 = .ok (.iload_n 1, 1) := by decide +kernel
theorem dX10_readStored_46 : decode cX10_readStored 46 = .ok (.aload_n 0, 1) := by decide +kernel
theorem dX10_readStored_47 : decode cX10_readStored 47 = .ok (.getfield 33, 3) := by decide +kernel
theorem dX10_readStored_50 : decode cX10_readStored 50 = .ok (.invokevirtual 98, 3) := by decide +kernel
theorem dX10_readStored_53 : decode cX10_readStored 53 = .ok (.if_icmp .gt 19, 3) := by decide +kernel
theorem dX10_readStored_56 : decode cX10_readStored 56 = .ok (.iload_n 1, 1) := by decide +kernel
theorem dX10_readStored_57 : decode cX10_readStored 57 = .ok (.aload_n 0, 1) := by decide +kernel
theorem dX10_readStored_58 : decode cX10_readStored 58 = .ok (.getfield 47, 3) := by decide +kernel
theorem dX10_readStored_61 : decode cX10_readStored 61 = .ok (.aload_n 0, 1) := by decide +kernel
theorem dX10_readStored_62 : decode cX10_readStored 62 = .ok (.getfield 37, 3) := by decide +kernel
theorem dX10_readStored_65 : decode cX10_readStored 65 = .ok (.invokevirtual 101, 3) := by decide +kernel
theorem dX10_readStored_68 : decode cX10_readStored 68 = .ok (.isub, 1) := by decide +kernel
theorem dX10_readStored_69 : decode cX10_readStored 69 = .ok (.if_icmp .le 5, 3) := by decide +kernel
theorem dX10_readStored_72 : decode cX10_readStored 72 = .ok (.iconst 0, 1) := by decide +kernel
theorem dX10_readStored_73 : decode cX10_readStored 73 = .ok (.ireturn, 1) := by decide +kernel
theorem dX10_readStored_74 : decode cX10_readStored 74 = .ok (.iconst 0, 1) := by decide +kernel
theorem dX10_readStored_75 : decode cX10_readStored 75 = .ok (.istore_n 3, 1) := by decide +kernel
theorem dX10_readStored_76 : decode cX10_readStored 76 = .ok (.iload_n 3, 1) := by decide +kernel
theorem dX10_readStored_77 : decode cX10_readStored 77 = .ok (.iload_n 1, 1) := by decide +kernel
theorem dX10_readStored_78 : decode cX10_readStored 78 = .ok (.if_icmp .ge 25, 3) := by decide +kernel
theorem dX10_readStored_81 : decode cX10_readStored 81 = .ok (.aload_n 0, 1) := by decide +kernel
theorem dX10_readStored_82 : decode cX10_readStored 82 = .ok (.getfield 37, 3) := by decide +kernel
theorem dX10_readStored_85 : decode cX10_readStored 85 = .ok (.aload_n 0, 1) := by decide +kernel
theorem dX10_readStored_86 : decode cX10_readStored 86 = .ok (.getfield 33, 3) := by decide +kernel
theorem dX10_readStored_89 : decode cX10_readStored 89 = .ok (.bipush 8, 2) := by decide +kernel
theorem dX10_readStored_91 : decode cX10_readStored 91 = .ok (.invokevirtual 64, 3) := by decide +kernel
theorem dX10_readStored_94 : decode cX10_readStored 94 = .ok (.invokevirtual 109, 3) := by decide +kernel
theorem dX10_readStored_97 : decode cX10_readStored 97 = .ok (.iinc 3 1, 3) := by decide +kernel
theorem dX10_readStored_100 : decode cX10_readStored 100 = .ok (.goto (-24), 3) := by decide +kernel
theorem dX10_readStored_103 : decode cX10_readStored 103 = .ok (.iconst 1, 1) := by decide +kernel
theorem dX10_readStored_104 : decode cX10_readStored 104 = .ok (.ireturn, 1) := by decide +kernel
theorem dX10_makeFixed_0 : decode cX10_makeFixed 0 = .ok (.iconst 0, 1) := by decide +kernel
theorem dX10_makeFixed_1 : decode cX10_makeFixed 1 = .ok (.istore_n 1, 1) := by decide +kernel
theorem dX10_makeFixed_2 : decode cX10_makeFixed 2 = .ok (.iload_n 1, 1) := by decide +kernel
theorem dX10_makeFixed_3 : decode cX10_makeFixed 3 = .ok (.aload_n 0, 1) := by decide +kernel
theorem dX10_makeFixed_4 : decode cX10_makeFixed 4 = .ok (.getfield 24, 3) := by decide +kernel
theorem dX10_makeFixed_7 : decode cX10_makeFixed 7 = .ok (.arraylength, 1) := by decide +kernel
theorem dX10_makeFixed_8 : decode cX10_makeFixed 8 = .ok (.if_icmp .ge 30, 3) := by decide +kernel
theorem dX10_makeFixed_11 : decode cX10_makeFixed 11 = .ok (.aload_n 0, 1) := by decide +kernel
theorem dX10_makeFixed_12 : decode cX10_makeFixed 12 = .ok (.getfield 24, 3) := by decide +kernel
theorem dX10_makeFixed_15 : decode cX10_makeFixed 15 = .ok (.iload_n 1, 1) := by decide +kernel
theorem dX10_makeFixed_16 : decode cX10_makeFixed 16 = .ok (.iload_n 1, 1) := by decide +kernel
theorem dX10_makeFixed_17 : decode cX10_makeFixed 17 = .ok (.sipush 288, 3) := by decide +kernel
theorem dX10_makeFixed_20 : decode cX10_makeFixed 20 = .ok (.if_icmp .ge 10, 3) := by decide +kernel
theorem dX10_makeFixed_23 : decode cX10_makeFixed 23 = .ok (.iload_n 1, 1) := by decide +kernel
theorem dX10_makeFixed_24 : decode cX10_makeFixed 24 = .ok (.invokestatic 112, 3) := by decide +kernel
theorem dX10_makeFixed_27 : decode cX10_makeFixed 27 = .ok (.goto 4, 3) := by decide +kernel
theorem dX10_makeFixed_30 : decode cX10_makeFixed 30 = .ok (.iconst 5, 1) := by decide +kernel
theorem dX10_makeFixed_31 : decode cX10_makeFixed 31 = .ok (.iastore, 1) := by decide +kernel
theorem dX10_makeFixed_32 : decode cX10_makeFixed 32 = .ok (.iinc 1 1, 3) := by decide +kernel
theorem dX10_makeFixed_35 : decode cX10_makeFixed 35 = .ok (.goto (-33), 3) := by decide +kernel
theorem dX10_makeFixed_38 : decode cX10_makeFixed 38 = .ok (.aload_n 0, 1) := by decide +kernel
theorem dX10_makeFixed_39 : decode cX10_makeFixed 39 = .ok (.getfield 12, 3) := by decide +kernel
theorem dX10_makeFixed_42 : decode cX10_makeFixed 42 = .ok (.aload_n 0, 1) := by decide +kernel
theorem dX10_makeFixed_43 : decode cX10_makeFixed 43 = .ok (.getfield 24, 3) := by decide +kernel
theorem dX10_makeFixed_46 : decode cX10_makeFixed 46 = .ok (.iconst 0, 1) := by decide +kernel
theorem dX10_makeFixed_47 : decode cX10_makeFixed 47 = .ok (.sipush 288, 3) := by decide +kernel
theorem dX10_makeFixed_50 : decode cX10_makeFixed 50 = .ok (.iconst 0, 1) := by decide +kernel
theorem dX10_makeFixed_51 : decode cX10_makeFixed 51 = .ok (.invokevirtual 115, 3) := by decide +kernel
theorem dX10_makeFixed_54 : decode cX10_makeFixed 54 = .ok (.ifCond .eq 27, 3) := by decide +kernel
theorem dX10_makeFixed_57 : decode cX10_makeFixed 57 = .ok (.aload_n 0, 1) := by decide +kernel
theorem dX10_makeFixed_58 : decode cX10_makeFixed 58 = .ok (.getfield 18, 3) := by decide +kernel
theorem dX10_makeFixed_61 : decode cX10_makeFixed 61 = .ok (.aload_n 0, 1) := by decide +kernel
theorem dX10_makeFixed_62 : decode cX10_makeFixed 62 = .ok (.getfield 24, 3) := by decide +kernel
theorem dX10_makeFixed_65 : decode cX10_makeFixed 65 = .ok (.sipush 288, 3) := by decide +kernel
theorem dX10_makeFixed_68 : decode cX10_makeFixed 68 = .ok (.bipush 32, 2) := by decide +kernel
theorem dX10_makeFixed_70 : decode cX10_makeFixed 70 = .ok (.iconst 0, 1) := by decide +kernel
theorem dX10_makeFixed_71 : decode cX10_makeFixed 71 = .ok (.invokevirtual 115, 3) := by decide +kernel
theorem dX10_makeFixed_74 : decode cX10_makeFixed 74 = .ok (.ifCond .eq 7, 3) := by decide +kernel
theorem dX10_makeFixed_77 : decode cX10_makeFixed 77 = .ok (.iconst 1, 1) := by decide +kernel
theorem dX10_makeFixed_78 : decode cX10_makeFixed 78 = .ok (.goto 4, 3) := by decide +kernel
theorem dX10_makeFixed_81 : decode cX10_makeFixed 81 = .ok (.iconst 0, 1) := by decide +kernel
theorem dX10_makeFixed_82 : decode cX10_makeFixed 82 = .ok (.ireturn, 1) := by decide +kernel
theorem dX10_readSizes_0 : decode cX10_readSizes 0 = .ok (.aload_n 0, 1) := by decide +kernel
theorem dX10_readSizes_1 : decode cX10_readSizes 1 = .ok (.aload_n 0, 1) := by decide +kernel
theorem dX10_readSizes_2 : decode cX10_readSizes 2 = .ok (.getfield 33, 3) := by decide +kernel
theorem dX10_readSizes_5 : decode cX10_readSizes 5 = .ok (.iconst 5, 1) := by decide +kernel
theorem dX10_readSizes_6 : decode cX10_readSizes 6 = .ok (.invokevirtual 64, 3) := by decide +kernel
theorem dX10_readSizes_9 : decode cX10_readSizes 9 = .ok (.sipush 257, 3) := by decide +kernel
theorem dX10_readSizes_12 : decode cX10_readSizes 12 = .ok (.iadd, 1) := by decide +kernel
theorem dX10_readSizes_13 : decode cX10_readSizes 13 = .ok (.putfield 119, 3) := by decide +kernel
theorem dX10_readSizes_16 : decode cX10_readSizes 16 = .ok (.aload_n 0, 1) := by decide +kernel
theorem dX10_readSizes_17 : decode cX10_readSizes 17 = .ok (.aload_n 0, 1) := by decide +kernel
theorem dX10_readSizes_18 : decode cX10_readSizes 18 = .ok (.getfield 33, 3) := by decide +kernel
theorem dX10_readSizes_21 : decode cX10_readSizes 21 = .ok (.iconst 5, 1) := by decide +kernel
theorem dX10_readSizes_22 : decode cX10_readSizes 22 = .ok (.invokevirtual 64, 3) := by decide +kernel
theorem dX10_readSizes_25 : decode cX10_readSizes 25 = .ok (.iconst 1, 1) := by decide +kernel
theorem dX10_readSizes_26 : decode cX10_readSizes 26 = .ok (.iadd, 1) := by decide +kernel
theorem dX10_readSizes_27 : decode cX10_readSizes 27 = .ok (.putfield 122, 3) := by decide +kernel
theorem dX10_readSizes_30 : decode cX10_readSizes 30 = .ok (.aload_n 0, 1) := by decide +kernel
theorem dX10_readSizes_31 : decode cX10_readSizes 31 = .ok (.getfield 33, 3) := by decide +kernel
theorem dX10_readSizes_34 : decode cX10_readSizes 34 = .ok (.iconst 4, 1) := by decide +kernel
theorem dX10_readSizes_35 : decode cX10_readSizes 35 = .ok (.invokevirtual 64, 3) := by decide +kernel
theorem dX10_readSizes_38 : decode cX10_readSizes 38 = .ok (.iconst 4, 1) := by decide +kernel
theorem dX10_readSizes_39 : decode cX10_readSizes 39 = .ok (.iadd, 1) := by decide +kernel
theorem dX10_readSizes_40 : decode cX10_readSizes 40 = .ok (.istore_n 1, 1) := by decide +kernel
theorem dX10_readSizes_41 : decode cX10_readSizes 41 = .ok (.iconst 0, 1) := by decide +kernel
theorem dX10_readSizes_42 : decode cX10_readSizes 42 = .ok (.istore_n 2, 1) := by decide +kernel
theorem dX10_readSizes_43 : decode cX10_readSizes 43 = .ok (.iload_n 2, 1) := by decide +kernel
theorem dX10_readSizes_44 : decode cX10_readSizes 44 = .ok (.bipush 19, 2) := by decide +kernel
theorem dX10_readSizes_46 : decode cX10_readSizes 46 = .ok (.if_icmp .ge 54, 3) := by decide +kernel
theorem dX10_readSizes_49 : decode cX10_readSizes 49 = .ok (.iload_n 2, 1) := by decide +kernel
theorem dX10_readSizes_50 : decode cX10_readSizes 50 = .ok (.invokestatic 125, 3) := by decide +kernel
theorem dX10_readSizes_53 : decode cX10_readSizes 53 = .ok (.istore_n 3, 1) := by decide +kernel
theorem dX10_readSizes_54 : decode cX10_readSizes 54 = .ok (.iload_n 2, 1) := by decide +kernel
theorem dX10_readSizes_55 : decode cX10_readSizes 55 = .ok (.iload_n 1, 1) := by decide +kernel
theorem dX10_readSizes_56 : decode cX10_readSizes 56 = .ok (.if_icmp .ge 14, 3) := by decide +kernel
theorem dX10_readSizes_59 : decode cX10_readSizes 59 = .ok (.aload_n 0, 1) := by decide +kernel
theorem dX10_readSizes_60 : decode cX10_readSizes 60 = .ok (.getfield 33, 3) := by decide +kernel
theorem dX10_readSizes_63 : decode cX10_readSizes 63 = .ok (.iconst 3, 1) := by decide +kernel
theorem dX10_readSizes_64 : decode cX10_readSizes 64 = .ok (.invokevirtual 64, 3) := by decide +kernel
theorem dX10_readSizes_67 : decode cX10_readSizes 67 = .ok (.goto 4, 3) := by decide +kernel
theorem dX10_readSizes_70 : decode cX10_readSizes 70 = .ok (.iconst 0, 1) := by decide +kernel
theorem dX10_readSizes_71 : decode cX10_readSizes 71 = .ok (.istore 4, 2) := by decide +kernel
theorem dX10_readSizes_73 : decode cX10_readSizes 73 = .ok (.iload_n 3, 1) := by decide +kernel
theorem dX10_readSizes_74 : decode cX10_readSizes 74 = .ok (.ifCond .lt 20, 3) := by decide +kernel
theorem dX10_readSizes_77 : decode cX10_readSizes 77 = .ok (.iload_n 3, 1) := by decide +kernel
theorem dX10_readSizes_78 : decode cX10_readSizes 78 = .ok (.aload_n 0, 1) := by decide +kernel
theorem dX10_readSizes_79 : decode cX10_readSizes 79 = .ok (.getfield 24, 3) := by decide +kernel
theorem dX10_readSizes_82 : decode cX10_readSizes 82 = .ok (.arraylength, 1) := by decide +kernel
theorem dX10_readSizes_83 : decode cX10_readSizes 83 = .ok (.if_icmp .ge 11, 3) := by decide +kernel
theorem dX10_readSizes_86 : decode cX10_readSizes 86 = .ok (.aload_n 0, 1) := by decide +kernel
theorem dX10_readSizes_87 : decode cX10_readSizes 87 = .ok (.getfield 24, 3) := by decide +kernel
theorem dX10_readSizes_90 : decode cX10_readSizes 90 = .ok (.iload_n 3, 1) := by decide +kernel
theorem dX10_readSizes_91 : decode cX10_readSizes 91 = .ok (.iload 4, 2) := by decide +kernel
theorem dX10_readSizes_93 : decode cX10_readSizes 93 = .ok (.iastore, 1) := by decide +kernel
theorem dX10_readSizes_94 : decode cX10_readSizes 94 = .ok (.iinc 2 1, 3) := by decide +kernel
theorem dX10_readSizes_97 : decode cX10_readSizes 97 = .ok (.goto (-54), 3) := by decide +kernel
theorem dX10_readSizes_100 : decode cX10_readSizes 100 = .ok (.aload_n 0, 1) := by decide +kernel
theorem dX10_readSizes_101 : decode cX10_readSizes 101 = .ok (.getfield 33, 3) := by decide +kernel
theorem dX10_readSizes_104 : decode cX10_readSizes 104 = .ok (.invokevirtual 86, 3) := by decide +kernel
theorem dX10_readSizes_107 : decode cX10_readSizes 107 = .ok (.ifCond .ne 44, 3) := by decide +kernel
theorem dX10_readSizes_110 : decode cX10_readSizes 110 = .ok (.aload_n 0, 1) := by decide +kernel
theorem dX10_readSizes_111 : decode cX10_readSizes 111 = .ok (.getfield 119, 3) := by decide +kernel
theorem dX10_readSizes_114 : decode cX10_readSizes 114 = .ok (.sipush 286, 3) := by decide +kernel
theorem dX10_readSizes_117 : decode cX10_readSizes 117 = .ok (.if_icmp .gt 34, 3) := by decide +kernel
theorem dX10_readSizes_120 : decode cX10_readSizes 120 = .ok (.aload_n 0, 1) := by decide +kernel
theorem dX10_readSizes_121 : decode cX10_readSizes 121 = .ok (.getfield 122, 3) := by decide +kernel
theorem dX10_readSizes_124 : decode cX10_readSizes 124 = .ok (.bipush 30, 2) := by decide +kernel
theorem dX10_readSizes_126 : decode cX10_readSizes 126 = .ok (.if_icmp .gt 25, 3) := by decide +kernel
theorem dX10_readSizes_129 : decode cX10_readSizes 129 = .ok (.aload_n 0, 1) := by decide +kernel
theorem dX10_readSizes_130 : decode cX10_readSizes 130 = .ok (.getfield 21, 3) := by decide +kernel
theorem dX10_readSizes_133 : decode cX10_readSizes 133 = .ok (.aload_n 0, 1) := by decide +kernel
theorem dX10_readSizes_134 : decode cX10_readSizes 134 = .ok (.getfield 24, 3) := by decide +kernel
theorem dX10_readSizes_137 : decode cX10_readSizes 137 = .ok (.iconst 0, 1) := by decide +kernel
theorem dX10_readSizes_138 : decode cX10_readSizes 138 = .ok (.bipush 19, 2) := by decide +kernel
theorem dX10_readSizes_140 : decode cX10_readSizes 140 = .ok (.iconst 0, 1) := by decide +kernel
theorem dX10_readSizes_141 : decode cX10_readSizes 141 = .ok (.invokevirtual 115, 3) := by decide +kernel
theorem dX10_readSizes_144 : decode cX10_readSizes 144 = .ok (.ifCond .eq 7, 3) := by decide +kernel
theorem dX10_readSizes_147 : decode cX10_readSizes 147 = .ok (.iconst 1, 1) := by decide +kernel
theorem dX10_readSizes_148 : decode cX10_readSizes 148 = .ok (.goto 4, 3) := by decide +kernel
theorem dX10_readSizes_151 : decode cX10_readSizes 151 = .ok (.iconst 0, 1) := by decide +kernel
theorem dX10_readSizes_152 : decode cX10_readSizes 152 = .ok (.ireturn, 1) := by decide +kernel
theorem dX10_readLengths_0 : decode cX10_readLengths 0 = .ok (.aload_n 0, 1) := by decide +kernel
theorem dX10_readLengths_1 : decode cX10_readLengths 1 = .ok (.getfield 119, 3) := by decide +kernel
theorem dX10_readLengths_4 : decode cX10_readLengths 4 = .ok (.aload_n 0, 1) := by decide +kernel
theorem dX10_readLengths_5 : decode cX10_readLengths 5 = .ok (.getfield 122, 3) := by decide +kernel
theorem dX10_readLengths_8 : decode cX10_readLengths 8 = .ok (.iadd, 1) := by decide +kernel
theorem dX10_readLengths_9 : decode cX10_readLengths 9 = .ok (.istore_n 1, 1) := by decide +kernel
theorem dX10_readLengths_10 : decode cX10_readLengths 10 = .ok (.iconst 0, 1) := by decide +kernel
theorem dX10_readLengths_11 : decode cX10_readLengths 11 = .ok (.istore_n 2, 1) := by decide +kernel
theorem dX10_readLengths_12 : decode cX10_readLengths 12 = .ok (.iload_n 2, 1) := by decide +kernel
theorem dX10_readLengths_13 : decode cX10_readLengths 13 = .ok (.iload_n 1, 1) := by decide +kernel
theorem dX10_readLengths_14 : decode cX10_readLengths 14 = .ok (.if_icmp .ge 182, 3) := by decide +kernel
theorem dX10_readLengths_17 : decode cX10_readLengths 17 = .ok (.aload_n 0, 1) := by decide +kernel
theorem dX10_readLengths_18 : decode cX10_readLengths 18 = .ok (.getfield 21, 3) := by decide +kernel
theorem dX10_readLengths_21 : decode cX10_readLengths 21 = .ok (.aload_n 0, 1) := by decide +kernel
theorem dX10_readLengths_22 : decode cX10_readLengths 22 = .ok (.getfield 33, 3) := by decide +kernel
theorem dX10_readLengths_25 : decode cX10_readLengths 25 = .ok (.invokevirtual 128, 3) := by decide +kernel
theorem dX10_readLengths_28 : decode cX10_readLengths 28 = .ok (.istore_n 3, 1) := by decide +kernel
theorem dX10_readLengths_29 : decode cX10_readLengths 29 = .ok (.iload_n 3, 1) := by decide +kernel
theorem dX10_readLengths_30 : decode cX10_readLengths 30 = .ok (.bipush 16, 2) := by decide +kernel
theorem dX10_readLengths_32 : decode cX10_readLengths 32 = .ok (.if_icmp .eq 9, 3) := by decide +kernel
theorem dX10_readLengths_35 : decode cX10_readLengths 35 = .ok (.iload_n 3, 1) := by decide +kernel
theorem dX10_readLengths_36 : decode cX10_readLengths 36 = .ok (.bipush 17, 2) := by decide +kernel
theorem dX10_readLengths_38 : decode cX10_readLengths 38 = .ok (.if_icmp .ne 7, 3) := by decide +kernel
theorem dX10_readLengths_41 : decode cX10_readLengths 41 = .ok (.iconst 3, 1) := by decide +kernel
theorem dX10_readLengths_42 : decode cX10_readLengths 42 = .ok (.goto 15, 3) := by decide +kernel
theorem dX10_readLengths_45 : decode cX10_readLengths 45 = .ok (.iload_n 3, 1) := by decide +kernel
theorem dX10_readLengths_46 : decode cX10_readLengths 46 = .ok (.bipush 18, 2) := by decide +kernel
theorem dX10_readLengths_48 : decode cX10_readLengths 48 = .ok (.if_icmp .ne 8, 3) := by decide +kernel
theorem dX10_readLengths_51 : decode cX10_readLengths 51 = .ok (.bipush 11, 2) := by decide +kernel
theorem dX10_readLengths_53 : decode cX10_readLengths 53 = .ok (.goto 4, 3) := by decide +kernel
theorem dX10_readLengths_56 : decode cX10_readLengths 56 = .ok (.iconst 1, 1) := by decide +kernel
theorem dX10_readLengths_57 : decode cX10_readLengths 57 = .ok (.istore 4, 2) := by decide +kernel
theorem dX10_readLengths_59 : decode cX10_readLengths 59 = .ok (.iload 4, 2) := by decide +kernel
theorem dX10_readLengths_61 : decode cX10_readLengths 61 = .ok (.aload_n 0, 1) := by decide +kernel
theorem dX10_readLengths_62 : decode cX10_readLengths 62 = .ok (.getfield 33, 3) := by decide +kernel
theorem dX10_readLengths_65 : decode cX10_readLengths 65 = .ok (.iload_n 3, 1) := by decide +kernel
theorem dX10_readLengths_66 : decode cX10_readLengths 66 = .ok (.invokestatic 132, 3) := by decide +kernel
theorem dX10_readLengths_69 : decode cX10_readLengths 69 = .ok (.invokevirtual 64, 3) := by decide +kernel
theorem dX10_readLengths_72 : decode cX10_readLengths 72 = .ok (.iadd, 1) := by decide +kernel
theorem dX10_readLengths_73 : decode cX10_readLengths 73 = .ok (.istore 4, 2) := by decide +kernel
theorem dX10_readLengths_75 : decode cX10_readLengths 75 = .ok (.iload_n 3, 1) := by decide +kernel
theorem dX10_readLengths_76 : decode cX10_readLengths 76 = .ok (.ifCond .lt 31, 3) := by decide +kernel
theorem dX10_readLengths_79 : decode cX10_readLengths 79 = .ok (.aload_n 0, 1) := by decide +kernel
theorem dX10_readLengths_80 : decode cX10_readLengths 80 = .ok (.getfield 33, 3) := by decide +kernel
theorem dX10_readLengths_83 : decode cX10_readLengths 83 = .ok (.invokevirtual 86, 3) := by decide +kernel
theorem dX10_readLengths_86 : decode cX10_readLengths 86 = .ok (.ifCond .ne 21, 3) := by decide +kernel
theorem dX10_readLengths_89 : decode cX10_readLengths 89 = .ok (.iload_n 3, 1) := by decide +kernel
theorem dX10_readLengths_90 : decode cX10_readLengths 90 = .ok (.bipush 16, 2) := by decide +kernel
theorem dX10_readLengths_92 : decode cX10_readLengths 92 = .ok (.if_icmp .ne 7, 3) := by decide +kernel
theorem dX10_readLengths_95 : decode cX10_readLengths 95 = .ok (.iload_n 2, 1) := by decide +kernel
theorem dX10_readLengths_96 : decode cX10_readLengths 96 = .ok (.ifCond .eq 11, 3) := by decide +kernel
theorem dX10_readLengths_99 : decode cX10_readLengths 99 = .ok (.iload 4, 2) := by decide +kernel
theorem dX10_readLengths_101 : decode cX10_readLengths 101 = .ok (.iload_n 1, 1) := by decide +kernel
theorem dX10_readLengths_102 : decode cX10_readLengths 102 = .ok (.iload_n 2, 1) := by decide +kernel
theorem dX10_readLengths_103 : decode cX10_readLengths 103 = .ok (.isub, 1) := by decide +kernel
theorem dX10_readLengths_104 : decode cX10_readLengths 104 = .ok (.if_icmp .le 5, 3) := by decide +kernel
theorem dX10_readLengths_107 : decode cX10_readLengths 107 = .ok (.iconst 0, 1) := by decide +kernel
theorem dX10_readLengths_108 : decode cX10_readLengths 108 = .ok (.ireturn, 1) := by decide +kernel
theorem dX10_readLengths_109 : decode cX10_readLengths 109 = .ok (.iload_n 3, 1) := by decide +kernel
theorem dX10_readLengths_110 : decode cX10_readLengths 110 = .ok (.bipush 16, 2) := by decide +kernel
theorem dX10_readLengths_112 : decode cX10_readLengths 112 = .ok (.if_icmp .ge 7, 3) := by decide +kernel
theorem dX10_readLengths_115 : decode cX10_readLengths 115 = .ok (.iload_n 3, 1) := by decide +kernel
theorem dX10_readLengths_116 : decode cX10_readLengths 116 = .ok (.goto 4, 3) := by decide +kernel
theorem dX10_readLengths_119 : decode cX10_readLengths 119 = .ok (.iconst 0, 1) := by decide +kernel
theorem dX10_readLengths_120 : decode cX10_readLengths 120 = .ok (.istore 5, 2) := by decide +kernel
theorem dX10_readLengths_122 : decode cX10_readLengths 122 = .ok (.iload_n 3, 1) := by decide +kernel
theorem dX10_readLengths_123 : decode cX10_readLengths 123 = .ok (.bipush 16, 2) := by decide +kernel
theorem dX10_readLengths_125 : decode cX10_readLengths 125 = .ok (.if_icmp .ne 26, 3) := by decide +kernel
theorem dX10_readLengths_128 : decode cX10_readLengths 128 = .ok (.iload_n 2, 1) := by decide +kernel
theorem dX10_readLengths_129 : decode cX10_readLengths 129 = .ok (.ifCond .le 22, 3) := by decide +kernel
theorem dX10_readLengths_132 : decode cX10_readLengths 132 = .ok (.iload_n 2, 1) := by decide +kernel
theorem dX10_readLengths_133 : decode cX10_readLengths 133 = .ok (.aload_n 0, 1) := by decide +kernel
theorem dX10_readLengths_134 : decode cX10_readLengths 134 = .ok (.getfield 24, 3) := by decide +kernel
theorem dX10_readLengths_137 : decode cX10_readLengths 137 = .ok (.arraylength, 1) := by decide +kernel
theorem dX10_readLengths_138 : decode cX10_readLengths 138 = .ok (.if_icmp .gt 13, 3) := by decide +kernel
theorem dX10_readLengths_141 : decode cX10_readLengths 141 = .ok (.aload_n 0, 1) := by decide +kernel
theorem dX10_readLengths_142 : decode cX10_readLengths 142 = .ok (.getfield 24, 3) := by decide +kernel
theorem dX10_readLengths_145 : decode cX10_readLengths 145 = .ok (.iload_n 2, 1) := by decide +kernel
theorem dX10_readLengths_146 : decode cX10_readLengths 146 = .ok (.iconst 1, 1) := by decide +kernel
theorem dX10_readLengths_147 : decode cX10_readLengths 147 = .ok (.isub, 1) := by decide +kernel
theorem dX10_readLengths_148 : decode cX10_readLengths 148 = .ok (.iaload, 1) := by decide +kernel
theorem dX10_readLengths_149 : decode cX10_readLengths 149 = .ok (.istore 5, 2) := by decide +kernel
theorem dX10_readLengths_151 : decode cX10_readLengths 151 = .ok (.iload_n 2, 1) := by decide +kernel
theorem dX10_readLengths_152 : decode cX10_readLengths 152 = .ok (.istore 6, 2) := by decide +kernel
theorem dX10_readLengths_154 : decode cX10_readLengths 154 = .ok (.iload 6, 2) := by decide +kernel
theorem dX10_readLengths_156 : decode cX10_readLengths 156 = .ok (.iload_n 2, 1) := by decide +kernel
theorem dX10_readLengths_157 : decode cX10_readLengths 157 = .ok (.iload 4, 2) := by decide +kernel
theorem dX10_readLengths_159 : decode cX10_readLengths 159 = .ok (.iadd, 1) := by decide +kernel
theorem dX10_readLengths_160 : decode cX10_readLengths 160 = .ok (.if_icmp .ge 28, 3) := by decide +kernel
theorem dX10_readLengths_163 : decode cX10_readLengths 163 = .ok (.iload 6, 2) := by decide +kernel
theorem dX10_readLengths_165 : decode cX10_readLengths 165 = .ok (.aload_n 0, 1) := by decide +kernel
theorem dX10_readLengths_166 : decode cX10_readLengths 166 = .ok (.getfield 24, 3) := by decide +kernel
theorem dX10_readLengths_169 : decode cX10_readLengths 169 = .ok (.arraylength, 1) := by decide +kernel
theorem dX10_readLengths_170 : decode cX10_readLengths 170 = .ok (.if_icmp .ge 18, 3) := by decide +kernel
theorem dX10_readLengths_173 : decode cX10_readLengths 173 = .ok (.aload_n 0, 1) := by decide +kernel
theorem dX10_readLengths_174 : decode cX10_readLengths 174 = .ok (.getfield 24, 3) := by decide +kernel
theorem dX10_readLengths_177 : decode cX10_readLengths 177 = .ok (.iload 6, 2) := by decide +kernel
theorem dX10_readLengths_179 : decode cX10_readLengths 179 = .ok (.iload 5, 2) := by decide +kernel
theorem dX10_readLengths_181 : decode cX10_readLengths 181 = .ok (.iastore, 1) := by decide +kernel
theorem dX10_readLengths_182 : decode cX10_readLengths 182 = .ok (.iinc 6 1, 3) := by decide +kernel
theorem dX10_readLengths_185 : decode cX10_readLengths 185 = .ok (.goto (-31), 3) := by decide +kernel
theorem dX10_readLengths_188 : decode cX10_readLengths 188 = .ok (.iload_n 2, 1) := by decide +kernel
theorem dX10_readLengths_189 : decode cX10_readLengths 189 = .ok (.iload 4, 2) := by decide +kernel
theorem dX10_readLengths_191 : decode cX10_readLengths 191 = .ok (.iadd, 1) := by decide +kernel
theorem dX10_readLengths_192 : decode cX10_readLengths 192 = .ok (.istore_n 2, 1) := by decide +kernel
theorem dX10_readLengths_193 : decode cX10_readLengths 193 = .ok (.goto (-181), 3) := by decide +kernel
theorem dX10_readLengths_196 : decode cX10_readLengths 196 = .ok (.iconst 1, 1) := by decide +kernel
theorem dX10_readLengths_197 : decode cX10_readLengths 197 = .ok (.ireturn, 1) := by decide +kernel
theorem dX10_makeCodes_0 : decode cX10_makeCodes 0 = .ok (.sipush 256, 3) := by decide +kernel
theorem dX10_makeCodes_3 : decode cX10_makeCodes 3 = .ok (.aload_n 0, 1) := by decide +kernel
theorem dX10_makeCodes_4 : decode cX10_makeCodes 4 = .ok (.getfield 24, 3) := by decide +kernel
theorem dX10_makeCodes_7 : decode cX10_makeCodes 7 = .ok (.arraylength, 1) := by decide +kernel
theorem dX10_makeCodes_8 : decode cX10_makeCodes 8 = .ok (.if_icmp .ge 61, 3) := by decide +kernel
theorem dX10_makeCodes_11 : decode cX10_makeCodes 11 = .ok (.aload_n 0, 1) := by decide +kernel
theorem dX10_makeCodes_12 : decode cX10_makeCodes 12 = .ok (.getfield 24, 3) := by decide +kernel
theorem dX10_makeCodes_15 : decode cX10_makeCodes 15 = .ok (.sipush 256, 3) := by decide +kernel
theorem dX10_makeCodes_18 : decode cX10_makeCodes 18 = .ok (.iaload, 1) := by decide +kernel
theorem dX10_makeCodes_19 : decode cX10_makeCodes 19 = .ok (.ifCond .le 50, 3) := by decide +kernel
theorem dX10_makeCodes_22 : decode cX10_makeCodes 22 = .ok (.aload_n 0, 1) := by decide +kernel
theorem dX10_makeCodes_23 : decode cX10_makeCodes 23 = .ok (.getfield 12, 3) := by decide +kernel
theorem dX10_makeCodes_26 : decode cX10_makeCodes 26 = .ok (.aload_n 0, 1) := by decide +kernel
theorem dX10_makeCodes_27 : decode cX10_makeCodes 27 = .ok (.getfield 24, 3) := by decide +kernel
theorem dX10_makeCodes_30 : decode cX10_makeCodes 30 = .ok (.iconst 0, 1) := by decide +kernel
theorem dX10_makeCodes_31 : decode cX10_makeCodes 31 = .ok (.aload_n 0, 1) := by decide +kernel
theorem dX10_makeCodes_32 : decode cX10_makeCodes 32 = .ok (.getfield 119, 3) := by decide +kernel
theorem dX10_makeCodes_35 : decode cX10_makeCodes 35 = .ok (.iconst 0, 1) := by decide +kernel
theorem dX10_makeCodes_36 : decode cX10_makeCodes 36 = .ok (.invokevirtual 115, 3) := by decide +kernel
theorem dX10_makeCodes_39 : decode cX10_makeCodes 39 = .ok (.ifCond .eq 30, 3) := by decide +kernel
theorem dX10_makeCodes_42 : decode cX10_makeCodes 42 = .ok (.aload_n 0, 1) := by decide +kernel
theorem dX10_makeCodes_43 : decode cX10_makeCodes 43 = .ok (.getfield 18, 3) := by decide +kernel
theorem dX10_makeCodes_46 : decode cX10_makeCodes 46 = .ok (.aload_n 0, 1) := by decide +kernel
theorem dX10_makeCodes_47 : decode cX10_makeCodes 47 = .ok (.getfield 24, 3) := by decide +kernel
theorem dX10_makeCodes_50 : decode cX10_makeCodes 50 = .ok (.aload_n 0, 1) := by decide +kernel
theorem dX10_makeCodes_51 : decode cX10_makeCodes 51 = .ok (.getfield 119, 3) := by decide +kernel
theorem dX10_makeCodes_54 : decode cX10_makeCodes 54 = .ok (.aload_n 0, 1) := by decide +kernel
theorem dX10_makeCodes_55 : decode cX10_makeCodes 55 = .ok (.getfield 122, 3) := by decide +kernel
theorem dX10_makeCodes_58 : decode cX10_makeCodes 58 = .ok (.iconst 1, 1) := by decide +kernel
theorem dX10_makeCodes_59 : decode cX10_makeCodes 59 = .ok (.invokevirtual 115, 3) := by decide +kernel
theorem dX10_makeCodes_62 : decode cX10_makeCodes 62 = .ok (.ifCond .eq 7, 3) := by decide +kernel
theorem dX10_makeCodes_65 : decode cX10_makeCodes 65 = .ok (.iconst 1, 1) := by decide +kernel
theorem dX10_makeCodes_66 : decode cX10_makeCodes 66 = .ok (.goto 4, 3) := by decide +kernel
theorem dX10_makeCodes_69 : decode cX10_makeCodes 69 = .ok (.iconst 0, 1) := by decide +kernel
theorem dX10_makeCodes_70 : decode cX10_makeCodes 70 = .ok (.ireturn, 1) := by decide +kernel
theorem dX10_readSymbols_0 : decode cX10_readSymbols 0 = .ok (.iconst 0, 1) := by decide +kernel
theorem dX10_readSymbols_1 : decode cX10_readSymbols 1 = .ok (.istore_n 1, 1) := by decide +kernel
theorem dX10_readSymbols_2 : decode cX10_readSymbols 2 = .ok (.iload_n 1, 1) := by decide +kernel
theorem dX10_readSymbols_3 : decode cX10_readSymbols 3 = .ok (.ldc 59, 2) := by decide +kernel
theorem dX10_readSymbols_5 : decode cX10_readSymbols 5 = .ok (.if_icmp .ge 173, 3) := by decide +kernel
theorem dX10_readSymbols_8 : decode cX10_readSymbols 8 = .ok (.aload_n 0, 1) := by decide +kernel
theorem dX10_readSymbols_9 : decode cX10_readSymbols 9 = .ok (.getfield 12, 3) := by decide +kernel
theorem dX10_readSymbols_12 : decode cX10_readSymbols 12 = .ok (.aload_n 0, 1) := by decide +kernel
theorem dX10_readSymbols_13 : decode cX10_readSymbols 13 = .ok (.getfield 33, 3) := by decide +kernel
theorem dX10_readSymbols_16 : decode cX10_readSymbols 16 = .ok (.invokevirtual 128, 3) := by decide +kernel
theorem dX10_readSymbols_19 : decode cX10_readSymbols 19 = .ok (.istore_n 2, 1) := by decide +kernel
theorem dX10_readSymbols_20 : decode cX10_readSymbols 20 = .ok (.iload_n 2, 1) := by decide +kernel
theorem dX10_readSymbols_21 : decode cX10_readSymbols 21 = .ok (.ifCond .lt 20, 3) := by decide +kernel
theorem dX10_readSymbols_24 : decode cX10_readSymbols 24 = .ok (.iload_n 2, 1) := by decide +kernel
theorem dX10_readSymbols_25 : decode cX10_readSymbols 25 = .ok (.sipush 285, 3) := by decide +kernel
theorem dX10_readSymbols_28 : decode cX10_readSymbols 28 = .ok (.if_icmp .gt 13, 3) := by decide +kernel
theorem dX10_readSymbols_31 : decode cX10_readSymbols 31 = .ok (.aload_n 0, 1) := by decide +kernel
theorem dX10_readSymbols_32 : decode cX10_readSymbols 32 = .ok (.getfield 33, 3) := by decide +kernel
theorem dX10_readSymbols_35 : decode cX10_readSymbols 35 = .ok (.invokevirtual 86, 3) := by decide +kernel
theorem dX10_readSymbols_38 : decode cX10_readSymbols 38 = .ok (.ifCond .eq 5, 3) := by decide +kernel
theorem dX10_readSymbols_41 : decode cX10_readSymbols 41 = .ok (.iconst 0, 1) := by decide +kernel
theorem dX10_readSymbols_42 : decode cX10_readSymbols 42 = .ok (.ireturn, 1) := by decide +kernel
theorem dX10_readSymbols_43 : decode cX10_readSymbols 43 = .ok (.iload_n 2, 1) := by decide +kernel
theorem dX10_readSymbols_44 : decode cX10_readSymbols 44 = .ok (.sipush 256, 3) := by decide +kernel
theorem dX10_readSymbols_47 : decode cX10_readSymbols 47 = .ok (.if_icmp .ne 5, 3) := by decide +kernel
theorem dX10_readSymbols_50 : decode cX10_readSymbols 50 = .ok (.iconst 1, 1) := by decide +kernel
theorem dX10_readSymbols_51 : decode cX10_readSymbols 51 = .ok (.ireturn, 1) := by decide +kernel
theorem dX10_readSymbols_52 : decode cX10_readSymbols 52 = .ok (.iload_n 2, 1) := by decide +kernel
theorem dX10_readSymbols_53 : decode cX10_readSymbols 53 = .ok (.sipush 256, 3) := by decide +kernel
theorem dX10_readSymbols_56 : decode cX10_readSymbols 56 = .ok (.if_icmp .ge 30, 3) := by decide +kernel
theorem dX10_readSymbols_59 : decode cX10_readSymbols 59 = .ok (.aload_n 0, 1) := by decide +kernel
theorem dX10_readSymbols_60 : decode cX10_readSymbols 60 = .ok (.getfield 37, 3) := by decide +kernel
theorem dX10_readSymbols_63 : decode cX10_readSymbols 63 = .ok (.invokevirtual 101, 3) := by decide +kernel
theorem dX10_readSymbols_66 : decode cX10_readSymbols 66 = .ok (.aload_n 0, 1) := by decide +kernel
theorem dX10_readSymbols_67 : decode cX10_readSymbols 67 = .ok (.getfield 47, 3) := by decide +kernel
theorem dX10_readSymbols_70 : decode cX10_readSymbols 70 = .ok (.if_icmp .lt 5, 3) := by decide +kernel
theorem dX10_readSymbols_73 : decode cX10_readSymbols 73 = .ok (.iconst 0, 1) := by decide +kernel
theorem dX10_readSymbols_74 : decode cX10_readSymbols 74 = .ok (.ireturn, 1) := by decide +kernel
theorem dX10_readSymbols_75 : decode cX10_readSymbols 75 = .ok (.aload_n 0, 1) := by decide +kernel
theorem dX10_readSymbols_76 : decode cX10_readSymbols 76 = .ok (.getfield 37, 3) := by decide +kernel
theorem dX10_readSymbols_79 : decode cX10_readSymbols 79 = .ok (.iload_n 2, 1) := by decide +kernel
theorem dX10_readSymbols_80 : decode cX10_readSymbols 80 = .ok (.invokevirtual 109, 3) := by decide +kernel
theorem dX10_readSymbols_83 : decode cX10_readSymbols 83 = .ok (.goto 89, 3) := by decide +kernel
theorem dX10_readSymbols_86 : decode cX10_readSymbols 86 = .ok (.iload_n 2, 1) := by decide +kernel
theorem dX10_readSymbols_87 : decode cX10_readSymbols 87 = .ok (.invokestatic 135, 3) := by decide +kernel
theorem dX10_readSymbols_90 : decode cX10_readSymbols 90 = .ok (.aload_n 0, 1) := by decide +kernel
theorem dX10_readSymbols_91 : decode cX10_readSymbols 91 = .ok (.getfield 33, 3) := by decide +kernel
theorem dX10_readSymbols_94 : decode cX10_readSymbols 94 = .ok (.iload_n 2, 1) := by decide +kernel
theorem dX10_readSymbols_95 : decode cX10_readSymbols 95 = .ok (.invokestatic 138, 3) := by decide +kernel
theorem dX10_readSymbols_98 : decode cX10_readSymbols 98 = .ok (.invokevirtual 64, 3) := by decide +kernel
theorem dX10_readSymbols_101 : decode cX10_readSymbols 101 = .ok (.iadd, 1) := by decide +kernel
theorem dX10_readSymbols_102 : decode cX10_readSymbols 102 = .ok (.istore_n 3, 1) := by decide +kernel
theorem dX10_readSymbols_103 : decode cX10_readSymbols 103 = .ok (.aload_n 0, 1) := by decide +kernel
theorem dX10_readSymbols_104 : decode cX10_readSymbols 104 = .ok (.getfield 18, 3) := by decide +kernel
theorem dX10_readSymbols_107 : decode cX10_readSymbols 107 = .ok (.aload_n 0, 1) := by decide +kernel
theorem dX10_readSymbols_108 : decode cX10_readSymbols 108 = .ok (.getfield 33, 3) := by decide +kernel
theorem dX10_readSymbols_111 : decode cX10_readSymbols 111 = .ok (.invokevirtual 128, 3) := by decide +kernel
theorem dX10_readSymbols_114 : decode cX10_readSymbols 114 = .ok (.istore 4, 2) := by decide +kernel
theorem dX10_readSymbols_116 : decode cX10_readSymbols 116 = .ok (.iload 4, 2) := by decide +kernel
theorem dX10_readSymbols_118 : decode cX10_readSymbols 118 = .ok (.ifCond .lt 10, 3) := by decide +kernel
theorem dX10_readSymbols_121 : decode cX10_readSymbols 121 = .ok (.iload 4, 2) := by decide +kernel
theorem dX10_readSymbols_123 : decode cX10_readSymbols 123 = .ok (.bipush 29, 2) := by decide +kernel
theorem dX10_readSymbols_125 : decode cX10_readSymbols 125 = .ok (.if_icmp .le 5, 3) := by decide +kernel
theorem dX10_readSymbols_128 : decode cX10_readSymbols 128 = .ok (.iconst 0, 1) := by decide +kernel
theorem dX10_readSymbols_129 : decode cX10_readSymbols 129 = .ok (.ireturn, 1) := by decide +kernel
theorem dX10_readSymbols_130 : decode cX10_readSymbols 130 = .ok (.iload 4, 2) := by decide +kernel
theorem dX10_readSymbols_132 : decode cX10_readSymbols 132 = .ok (.invokestatic 141, 3) := by decide +kernel
theorem dX10_readSymbols_135 : decode cX10_readSymbols 135 = .ok (.aload_n 0, 1) := by decide +kernel
theorem dX10_readSymbols_136 : decode cX10_readSymbols 136 = .ok (.getfield 33, 3) := by decide +kernel
theorem dX10_readSymbols_139 : decode cX10_readSymbols 139 = .ok (.iload 4, 2) := by decide +kernel
theorem dX10_readSymbols_141 : decode cX10_readSymbols 141 = .ok (.invokestatic 144, 3) := by decide +kernel
theorem dX10_readSymbols_144 : decode cX10_readSymbols 144 = .ok (.invokevirtual 64, 3) := by decide +kernel
theorem dX10_readSymbols_147 : decode cX10_readSymbols 147 = .ok (.iadd, 1) := by decide +kernel
theorem dX10_readSymbols_148 : decode cX10_readSymbols 148 = .ok (.istore 5, 2) := by decide +kernel
theorem dX10_readSymbols_150 : decode cX10_readSymbols 150 = .ok (.aload_n 0, 1) := by decide +kernel
theorem dX10_readSymbols_151 : decode cX10_readSymbols 151 = .ok (.getfield 33, 3) := by decide +kernel
theorem dX10_readSymbols_154 : decode cX10_readSymbols 154 = .ok (.invokevirtual 86, 3) := by decide +kernel
theorem dX10_readSymbols_157 : decode cX10_readSymbols 157 = .ok (.ifCond .ne 13, 3) := by decide +kernel
theorem dX10_readSymbols_160 : decode cX10_readSymbols 160 = .ok (.aload_n 0, 1) := by decide +kernel
theorem dX10_readSymbols_161 : decode cX10_readSymbols 161 = .ok (.iload_n 3, 1) := by decide +kernel
theorem dX10_readSymbols_162 : decode cX10_readSymbols 162 = .ok (.iload 5, 2) := by decide +kernel
theorem dX10_readSymbols_164 : decode cX10_readSymbols 164 = .ok (.invokevirtual 147, 3) := by decide +kernel
theorem dX10_readSymbols_167 : decode cX10_readSymbols 167 = .ok (.ifCond .ne 5, 3) := by decide +kernel
theorem dX10_readSymbols_170 : decode cX10_readSymbols 170 = .ok (.iconst 0, 1) := by decide +kernel
theorem dX10_readSymbols_171 : decode cX10_readSymbols 171 = .ok (.ireturn, 1) := by decide +kernel
theorem dX10_readSymbols_172 : decode cX10_readSymbols 172 = .ok (.iinc 1 1, 3) := by decide +kernel
theorem dX10_readSymbols_175 : decode cX10_readSymbols 175 = .ok (.goto (-173), 3) := by decide +kernel
theorem dX10_readSymbols_178 : decode cX10_readSymbols 178 = .ok (.iconst 0, 1) := by decide +kernel
theorem dX10_readSymbols_179 : decode cX10_readSymbols 179 = .ok (.ireturn, 1) := by decide +kernel
theorem dX10_repeat_0 : decode cX10_repeat 0 = .ok (.iload_n 2, 1) := by decide +kernel
theorem dX10_repeat_1 : decode cX10_repeat 1 = .ok (.aload_n 0, 1) := by decide +kernel
theorem dX10_repeat_2 : decode cX10_repeat 2 = .ok (.getfield 37, 3) := by decide +kernel
theorem dX10_repeat_5 : decode cX10_repeat 5 = .ok (.invokevirtual 101, 3) := by decide +kernel
theorem dX10_repeat_8 : decode cX10_repeat 8 = .ok (.if_icmp .gt 27, 3) := by decide +kernel
theorem dX10_repeat_11 : decode cX10_repeat 11 = .ok (.iload_n 2, 1) := by decide +kernel
theorem dX10_repeat_12 : decode cX10_repeat 12 = .ok (.aload_n 0, 1) := by decide +kernel
theorem dX10_repeat_13 : decode cX10_repeat 13 = .ok (.getfield 92, 3) := by decide +kernel
theorem dX10_repeat_16 : decode cX10_repeat 16 = .ok (.if_icmp .gt 19, 3) := by decide +kernel
theorem dX10_repeat_19 : decode cX10_repeat 19 = .ok (.iload_n 1, 1) := by decide +kernel
theorem dX10_repeat_20 : decode cX10_repeat 20 = .ok (.aload_n 0, 1) := by decide +kernel
theorem dX10_repeat_21 : decode cX10_repeat 21 = .ok (.getfield 47, 3) := by decide +kernel
theorem dX10_repeat_24 : decode cX10_repeat 24 = .ok (.aload_n 0, 1) := by decide +kernel
theorem dX10_repeat_25 : decode cX10_repeat 25 = .ok (.getfield 37, 3) := by decide +kernel
theorem dX10_repeat_28 : decode cX10_repeat 28 = .ok (.invokevirtual 101, 3) := by decide +kernel
theorem dX10_repeat_31 : decode cX10_repeat 31 = .ok (.isub, 1) := by decide +kernel
theorem dX10_repeat_32 : decode cX10_repeat 32 = .ok (.if_icmp .le 5, 3) := by decide +kernel
theorem dX10_repeat_35 : decode cX10_repeat 35 = .ok (.iconst 0, 1) := by decide +kernel
theorem dX10_repeat_36 : decode cX10_repeat 36 = .ok (.ireturn, 1) := by decide +kernel
theorem dX10_repeat_37 : decode cX10_repeat 37 = .ok (.iconst 0, 1) := by decide +kernel
theorem dX10_repeat_38 : decode cX10_repeat 38 = .ok (.istore_n 3, 1) := by decide +kernel
theorem dX10_repeat_39 : decode cX10_repeat 39 = .ok (.iload_n 3, 1) := by decide +kernel
theorem dX10_repeat_40 : decode cX10_repeat 40 = .ok (.iload_n 1, 1) := by decide +kernel
theorem dX10_repeat_41 : decode cX10_repeat 41 = .ok (.if_icmp .ge 32, 3) := by decide +kernel
theorem dX10_repeat_44 : decode cX10_repeat 44 = .ok (.aload_n 0, 1) := by decide +kernel
theorem dX10_repeat_45 : decode cX10_repeat 45 = .ok (.getfield 37, 3) := by decide +kernel
theorem dX10_repeat_48 : decode cX10_repeat 48 = .ok (.aload_n 0, 1) := by decide +kernel
theorem dX10_repeat_49 : decode cX10_repeat 49 = .ok (.getfield 37, 3) := by decide +kernel
theorem dX10_repeat_52 : decode cX10_repeat 52 = .ok (.aload_n 0, 1) := by decide +kernel
theorem dX10_repeat_53 : decode cX10_repeat 53 = .ok (.getfield 37, 3) := by decide +kernel
theorem dX10_repeat_56 : decode cX10_repeat 56 = .ok (.invokevirtual 101, 3) := by decide +kernel
theorem dX10_repeat_59 : decode cX10_repeat 59 = .ok (.iload_n 2, 1) := by decide +kernel
theorem dX10_repeat_60 : decode cX10_repeat 60 = .ok (.isub, 1) := by decide +kernel
theorem dX10_repeat_61 : decode cX10_repeat 61 = .ok (.invokevirtual 151, 3) := by decide +kernel
theorem dX10_repeat_64 : decode cX10_repeat 64 = .ok (.invokevirtual 109, 3) := by decide +kernel
theorem dX10_repeat_67 : decode cX10_repeat 67 = .ok (.iinc 3 1, 3) := by decide +kernel
theorem dX10_repeat_70 : decode cX10_repeat 70 = .ok (.goto (-31), 3) := by decide +kernel
theorem dX10_repeat_73 : decode cX10_repeat 73 = .ok (.iconst 1, 1) := by decide +kernel
theorem dX10_repeat_74 : decode cX10_repeat 74 = .ok (.ireturn, 1) := by decide +kernel
theorem dX11_init_0 : decode cX11_init 0 = .ok (.aload_n 0, 1) := by decide +kernel
theorem dX11_init_1 : decode cX11_init 1 = .ok (.invokespecial 1, 3) := by decide +kernel
theorem dX11_init_4 : decode cX11_init 4 = .ok (.aload_n 0, 1) := by decide +kernel
theorem dX11_init_5 : decode cX11_init 5 = .ok (.new 7, 3) := by decide +kernel
theorem dX11_init_8 : decode cX11_init 8 = .ok (.dup, 1) := by decide +kernel
theorem dX11_init_9 : decode cX11_init 9 = .ok (.invokespecial 9, 3) := by decide +kernel
theorem dX11_init_12 : decode cX11_init 12 = .ok (.putfield 10, 3) := by decide +kernel
theorem dX11_init_15 : decode cX11_init 15 = .ok (.aload_n 0, 1) := by decide +kernel
theorem dX11_init_16 : decode cX11_init 16 = .ok (.new 16, 3) := by decide +kernel
theorem dX11_init_19 : decode cX11_init 19 = .ok (.dup, 1) := by decide +kernel
theorem dX11_init_20 : decode cX11_init 20 = .ok (.invokespecial 18, 3) := by decide +kernel
theorem dX11_init_23 : decode cX11_init 23 = .ok (.putfield 19, 3) := by decide +kernel
theorem dX11_init_26 : decode cX11_init 26 = .ok (.aload_n 0, 1) := by decide +kernel
theorem dX11_init_27 : decode cX11_init 27 = .ok (.new 23, 3) := by decide +kernel
theorem dX11_init_30 : decode cX11_init 30 = .ok (.dup, 1) := by decide +kernel
theorem dX11_init_31 : decode cX11_init 31 = .ok (.sipush 1024, 3) := by decide +kernel
theorem dX11_init_34 : decode cX11_init 34 = .ok (.invokespecial 25, 3) := by decide +kernel
theorem dX11_init_37 : decode cX11_init 37 = .ok (.putfield 28, 3) := by decide +kernel
theorem dX11_init_40 : decode cX11_init 40 = .ok (.aload_n 0, 1) := by decide +kernel
theorem dX11_init_41 : decode cX11_init 41 = .ok (.new 23, 3) := by decide +kernel
theorem dX11_init_44 : decode cX11_init 44 = .ok (.dup, 1) := by decide +kernel
theorem dX11_init_45 : decode cX11_init 45 = .ok (.ldc 32, 2) := by decide +kernel
theorem dX11_init_47 : decode cX11_init 47 = .ok (.invokespecial 25, 3) := by decide +kernel
theorem dX11_init_50 : decode cX11_init 50 = .ok (.putfield 33, 3) := by decide +kernel
theorem dX11_init_53 : decode cX11_init 53 = .ok (.aload_n 0, 1) := by decide +kernel
theorem dX11_init_54 : decode cX11_init 54 = .ok (.new 23, 3) := by decide +kernel
theorem dX11_init_57 : decode cX11_init 57 = .ok (.dup, 1) := by decide +kernel
theorem dX11_init_58 : decode cX11_init 58 = .ok (.ldc 36, 2) := by decide +kernel
theorem dX11_init_60 : decode cX11_init 60 = .ok (.invokespecial 25, 3) := by decide +kernel
theorem dX11_init_63 : decode cX11_init 63 = .ok (.putfield 37, 3) := by decide +kernel
theorem dX11_init_66 : decode cX11_init 66 = .ok (.aload_n 0, 1) := by decide +kernel
theorem dX11_init_67 : decode cX11_init 67 = .ok (.new 23, 3) := by decide +kernel
theorem dX11_init_70 : decode cX11_init 70 = .ok (.dup, 1) := by decide +kernel
theorem dX11_init_71 : decode cX11_init 71 = .ok (.ldc 36, 2) := by decide +kernel
theorem dX11_init_73 : decode cX11_init 73 = .ok (.invokespecial 25, 3) := by decide +kernel
theorem dX11_init_76 : decode cX11_init 76 = .ok (.putfield 40, 3) := by decide +kernel
theorem dX11_init_79 : decode cX11_init 79 = .ok (.aload_n 0, 1) := by decide +kernel
theorem dX11_init_80 : decode cX11_init 80 = .ok (.new 23, 3) := by decide +kernel
theorem dX11_init_83 : decode cX11_init 83 = .ok (.dup, 1) := by decide +kernel
theorem dX11_init_84 : decode cX11_init 84 = .ok (.sipush 4096, 3) := by decide +kernel
theorem dX11_init_87 : decode cX11_init 87 = .ok (.invokespecial 25, 3) := by decide +kernel
theorem dX11_init_90 : decode cX11_init 90 = .ok (.putfield 43, 3) := by decide +kernel
theorem dX11_init_93 : decode cX11_init 93 = .ok (.aload_n 0, 1) := by decide +kernel
theorem dX11_init_94 : decode cX11_init 94 = .ok (.new 23, 3) := by decide +kernel
theorem dX11_init_97 : decode cX11_init 97 = .ok (.dup, 1) := by decide +kernel
theorem dX11_init_98 : decode cX11_init 98 = .ok (.sipush 4096, 3) := by decide +kernel
theorem dX11_init_101 : decode cX11_init 101 = .ok (.invokespecial 25, 3) := by decide +kernel
theorem dX11_init_104 : decode cX11_init 104 = .ok (.putfield 46, 3) := by decide +kernel
theorem dX11_init_107 : decode cX11_init 107 = .ok (.aload_n 0, 1) := by decide +kernel
theorem dX11_init_108 : decode cX11_init 108 = .ok (.new 49, 3) := by decide +kernel
theorem dX11_init_111 : decode cX11_init 111 = .ok (.dup, 1) := by decide +kernel
theorem dX11_init_112 : decode cX11_init 112 = .ok (.aload_n 0, 1) := by decide +kernel
theorem dX11_init_113 : decode cX11_init 113 = .ok (.getfield 33, 3) := by decide +kernel
theorem dX11_init_116 : decode cX11_init 116 = .ok (.invokespecial 51, 3) := by decide +kernel
theorem dX11_init_119 : decode cX11_init 119 = .ok (.putfield 54, 3) := by decide +kernel
theorem dX11_init_122 : decode cX11_init 122 = .ok (.aload_n 0, 1) := by decide +kernel
theorem dX11_init_123 : decode cX11_init 123 = .ok (.new 58, 3) := by decide +kernel
theorem dX11_init_126 : decode cX11_init 126 = .ok (.dup, 1) := by decide +kernel
theorem dX11_init_127 : decode cX11_init 127 = .ok (.aload_n 0, 1) := by decide +kernel
theorem dX11_init_128 : decode cX11_init 128 = .ok (.getfield 33, 3) := by decide +kernel
theorem dX11_init_131 : decode cX11_init 131 = .ok (.aload_n 0, 1) := by decide +kernel
theorem dX11_init_132 : decode cX11_init 132 = .ok (.getfield 40, 3) := by decide +kernel
theorem dX11_init_135 : decode cX11_init 135 = .ok (.invokespecial 60, 3) := by decide +kernel
theorem dX11_init_138 : decode cX11_init 138 = .ok (.putfield 63, 3) := by decide +kernel
theorem dX11_init_141 : decode cX11_init 141 = .ok (.aload_n 0, 1) := by decide +kernel
theorem dX11_init_142 : decode cX11_init 142 = .ok (.iconst 0, 1) := by decide +kernel
theorem dX11_init_143 : decode cX11_init 143 = .ok (.putfield 67, 3) := by decide +kernel
theorem dX11_init_146 : decode cX11_init 146 = .ok (.return_, 1) := by decide +kernel
theorem dX11_feed_0 : decode cX11_feed 0 = .ok (.iload_n 3, 1) := by decide +kernel
theorem dX11_feed_1 : decode cX11_feed 1 = .ok (.iconst 1, 1) := by decide +kernel
theorem dX11_feed_2 : decode cX11_feed 2 = .ok (.if_icmp .lt 9, 3) := by decide +kernel
theorem dX11_feed_5 : decode cX11_feed 5 = .ok (.iload_n 3, 1) := by decide +kernel
theorem dX11_feed_6 : decode cX11_feed 6 = .ok (.bipush 8, 2) := by decide +kernel
theorem dX11_feed_8 : decode cX11_feed 8 = .ok (.if_icmp .le 5, 3) := by decide +kernel
theorem dX11_feed_11 : decode cX11_feed 11 = .ok (.iconst (-1), 1) := by decide +kernel
theorem dX11_feed_12 : decode cX11_feed 12 = .ok (.ireturn, 1) := by decide +kernel
theorem dX11_feed_13 : decode cX11_feed 13 = .ok (.iload_n 3, 1) := by decide +kernel
theorem dX11_feed_14 : decode cX11_feed 14 = .ok (.aload_n 0, 1) := by decide +kernel
theorem dX11_feed_15 : decode cX11_feed 15 = .ok (.getfield 28, 3) := by decide +kernel
theorem dX11_feed_18 : decode cX11_feed 18 = .ok (.invokevirtual 71, 3) := by decide +kernel
theorem dX11_feed_21 : decode cX11_feed 21 = .ok (.if_icmp .le 6, 3) := by decide +kernel
theorem dX11_feed_24 : decode cX11_feed 24 = .ok (.bipush (-3), 2) := by decide +kernel
theorem dX11_feed_26 : decode cX11_feed 26 = .ok (.ireturn, 1) := by decide +kernel
theorem dX11_feed_27 : decode cX11_feed 27 = .ok (.iconst 0, 1) := by decide +kernel
theorem dX11_feed_28 : decode cX11_feed 28 = .ok (.istore 4, 2) := by decide +kernel
theorem dX11_feed_30 : decode cX11_feed 30 = .ok (.iload 4, 2) := by decide +kernel
theorem dX11_feed_32 : decode cX11_feed 32 = .ok (.iload_n 3, 1) := by decide +kernel
theorem dX11_feed_33 : decode cX11_feed 33 = .ok (.if_icmp .ge 24, 3) := by decide +kernel
theorem dX11_feed_36 : decode cX11_feed 36 = .ok (.aload_n 0, 1) := by decide +kernel
theorem dX11_feed_37 : decode cX11_feed 37 = .ok (.getfield 28, 3) := by decide +kernel
theorem dX11_feed_40 : decode cX11_feed 40 = .ok (.lload_n 1, 1) := by decide +kernel
theorem dX11_feed_41 : decode cX11_feed 41 = .ok (.bipush 8, 2) := by decide +kernel
theorem dX11_feed_43 : decode cX11_feed 43 = .ok (.iload 4, 2) := by decide +kernel
theorem dX11_feed_45 : decode cX11_feed 45 = .ok (.imul, 1) := by decide +kernel
theorem dX11_feed_46 : decode cX11_feed 46 = .ok (.lushr, 1) := by decide +kernel
theorem dX11_feed_47 : decode cX11_feed 47 = .ok (.l2i, 1) := by decide +kernel
theorem dX11_feed_48 : decode cX11_feed 48 = .ok (.invokevirtual 75, 3) := by decide +kernel
theorem dX11_feed_51 : decode cX11_feed 51 = .ok (.iinc 4 1, 3) := by decide +kernel
theorem dX11_feed_54 : decode cX11_feed 54 = .ok (.goto (-24), 3) := by decide +kernel
theorem dX11_feed_57 : decode cX11_feed 57 = .ok (.aload_n 0, 1) := by decide +kernel
theorem dX11_feed_58 : decode cX11_feed 58 = .ok (.getfield 28, 3) := by decide +kernel
theorem dX11_feed_61 : decode cX11_feed 61 = .ok (.invokevirtual 78, 3) := by decide +kernel
theorem dX11_feed_64 : decode cX11_feed 64 = .ok (.ireturn, 1) := by decide +kernel
theorem dX11_write_0 : decode cX11_write 0 = .ok (.aload_n 0, 1) := by decide +kernel
theorem dX11_write_1 : decode cX11_write 1 = .ok (.iload_n 1, 1) := by decide +kernel
theorem dX11_write_2 : decode cX11_write 2 = .ok (.iload_n 2, 1) := by decide +kernel
theorem dX11_write_3 : decode cX11_write 3 = .ok (.invokevirtual 81, 3) := by decide +kernel
theorem dX11_write_6 : decode cX11_write 6 = .ok (.istore_n 3, 1) := by decide +kernel
theorem dX11_write_7 : decode cX11_write 7 = .ok (.aload_n 0, 1) := by decide +kernel
theorem dX11_write_8 : decode cX11_write 8 = .ok (.getfield 28, 3) := by decide +kernel
theorem dX11_write_11 : decode cX11_write 11 = .ok (.iconst 0, 1) := by decide +kernel
theorem dX11_write_12 : decode cX11_write 12 = .ok (.invokevirtual 85, 3) := by decide +kernel
theorem dX11_write_15 : decode cX11_write 15 = .ok (.iload_n 3, 1) := by decide +kernel
theorem dX11_write_16 : decode cX11_write 16 = .ok (.ireturn, 1) := by decide +kernel
theorem dX11_writeTape_0 : decode cX11_writeTape 0 = .ok (.iload_n 1, 1) := by decide +kernel
theorem dX11_writeTape_1 : decode cX11_writeTape 1 = .ok (.invokestatic 88, 3) := by decide +kernel
theorem dX11_writeTape_4 : decode cX11_writeTape 4 = .ok (.ifCond .eq 14, 3) := by decide +kernel
theorem dX11_writeTape_7 : decode cX11_writeTape 7 = .ok (.iload_n 2, 1) := by decide +kernel
theorem dX11_writeTape_8 : decode cX11_writeTape 8 = .ok (.iconst 1, 1) := by decide +kernel
theorem dX11_writeTape_9 : decode cX11_writeTape 9 = .ok (.if_icmp .lt 9, 3) := by decide +kernel
theorem dX11_writeTape_12 : decode cX11_writeTape 12 = .ok (.iload_n 2, 1) := by decide +kernel
theorem dX11_writeTape_13 : decode cX11_writeTape 13 = .ok (.bipush 64, 2) := by decide +kernel
theorem dX11_writeTape_15 : decode cX11_writeTape 15 = .ok (.if_icmp .le 5, 3) := by decide +kernel
theorem dX11_writeTape_18 : decode cX11_writeTape 18 = .ok (.iconst (-1), 1) := by decide +kernel
theorem dX11_writeTape_19 : decode cX11_writeTape 19 = .ok (.ireturn, 1) := by decide +kernel
theorem dX11_writeTape_20 : decode cX11_writeTape 20 = .ok (.aload_n 0, 1) := by decide +kernel
theorem dX11_writeTape_21 : decode cX11_writeTape 21 = .ok (.getfield 28, 3) := by decide +kernel
theorem dX11_writeTape_24 : decode cX11_writeTape 24 = .ok (.invokevirtual 78, 3) := by decide +kernel
theorem dX11_writeTape_27 : decode cX11_writeTape 27 = .ok (.istore_n 3, 1) := by decide +kernel
theorem dX11_writeTape_28 : decode cX11_writeTape 28 = .ok (.iload_n 3, 1) := by decide +kernel
theorem dX11_writeTape_29 : decode cX11_writeTape 29 = .ok (.iload_n 2, 1) := by decide +kernel
theorem dX11_writeTape_30 : decode cX11_writeTape 30 = .ok (.imul, 1) := by decide +kernel
theorem dX11_writeTape_31 : decode cX11_writeTape 31 = .ok (.aload_n 0, 1) := by decide +kernel
theorem dX11_writeTape_32 : decode cX11_writeTape 32 = .ok (.getfield 10, 3) := by decide +kernel
theorem dX11_writeTape_35 : decode cX11_writeTape 35 = .ok (.invokevirtual 92, 3) := by decide +kernel
theorem dX11_writeTape_38 : decode cX11_writeTape 38 = .ok (.if_icmp .le 6, 3) := by decide +kernel
theorem dX11_writeTape_41 : decode cX11_writeTape 41 = .ok (.bipush (-3), 2) := by decide +kernel
theorem dX11_writeTape_43 : decode cX11_writeTape 43 = .ok (.ireturn, 1) := by decide +kernel
theorem dX11_writeTape_44 : decode cX11_writeTape 44 = .ok (.aload_n 0, 1) := by decide +kernel
theorem dX11_writeTape_45 : decode cX11_writeTape 45 = .ok (.getfield 10, 3) := by decide +kernel
theorem dX11_writeTape_48 : decode cX11_writeTape 48 = .ok (.iload_n 1, 1) := by decide +kernel
theorem dX11_writeTape_49 : decode cX11_writeTape 49 = .ok (.iload_n 3, 1) := by decide +kernel
theorem dX11_writeTape_50 : decode cX11_writeTape 50 = .ok (.iload_n 2, 1) := by decide +kernel
theorem dX11_writeTape_51 : decode cX11_writeTape 51 = .ok (.imul, 1) := by decide +kernel
theorem dX11_writeTape_52 : decode cX11_writeTape 52 = .ok (.invokevirtual 93, 3) := by decide +kernel
theorem dX11_writeTape_55 : decode cX11_writeTape 55 = .ok (.istore 4, 2) := by decide +kernel
theorem dX11_writeTape_57 : decode cX11_writeTape 57 = .ok (.iconst 0, 1) := by decide +kernel
theorem dX11_writeTape_58 : decode cX11_writeTape 58 = .ok (.istore 5, 2) := by decide +kernel
theorem dX11_writeTape_60 : decode cX11_writeTape 60 = .ok (.iload 5, 2) := by decide +kernel
theorem dX11_writeTape_62 : decode cX11_writeTape 62 = .ok (.iload_n 2, 1) := by decide +kernel
theorem dX11_writeTape_63 : decode cX11_writeTape 63 = .ok (.if_icmp .ge 50, 3) := by decide +kernel
theorem dX11_writeTape_66 : decode cX11_writeTape 66 = .ok (.iconst 0, 1) := by decide +kernel
theorem dX11_writeTape_67 : decode cX11_writeTape 67 = .ok (.istore 6, 2) := by decide +kernel
theorem dX11_writeTape_69 : decode cX11_writeTape 69 = .ok (.iload 6, 2) := by decide +kernel
theorem dX11_writeTape_71 : decode cX11_writeTape 71 = .ok (.iload_n 3, 1) := by decide +kernel
theorem dX11_writeTape_72 : decode cX11_writeTape 72 = .ok (.if_icmp .ge 35, 3) := by decide +kernel
theorem dX11_writeTape_75 : decode cX11_writeTape 75 = .ok (.aload_n 0, 1) := by decide +kernel
theorem dX11_writeTape_76 : decode cX11_writeTape 76 = .ok (.getfield 10, 3) := by decide +kernel
theorem dX11_writeTape_79 : decode cX11_writeTape 79 = .ok (.iload 4, 2) := by decide +kernel
theorem dX11_writeTape_81 : decode cX11_writeTape 81 = .ok (.iload 5, 2) := by decide +kernel
theorem dX11_writeTape_83 : decode cX11_writeTape 83 = .ok (.iload_n 3, 1) := by decide +kernel
theorem dX11_writeTape_84 : decode cX11_writeTape 84 = .ok (.imul, 1) := by decide +kernel
theorem dX11_writeTape_85 : decode cX11_writeTape 85 = .ok (.iadd, 1) := by decide +kernel
theorem dX11_writeTape_86 : decode cX11_writeTape 86 = .ok (.iload 6, 2) := by decide +kernel
theorem dX11_writeTape_88 : decode cX11_writeTape 88 = .ok (.iadd, 1) := by decide +kernel
theorem dX11_writeTape_89 : decode cX11_writeTape 89 = .ok (.aload_n 0, 1) := by decide +kernel
theorem dX11_writeTape_90 : decode cX11_writeTape 90 = .ok (.getfield 28, 3) := by decide +kernel
theorem dX11_writeTape_93 : decode cX11_writeTape 93 = .ok (.iload 6, 2) := by decide +kernel
theorem dX11_writeTape_95 : decode cX11_writeTape 95 = .ok (.invokevirtual 96, 3) := by decide +kernel
theorem dX11_writeTape_98 : decode cX11_writeTape 98 = .ok (.invokevirtual 100, 3) := by decide +kernel
theorem dX11_writeTape_101 : decode cX11_writeTape 101 = .ok (.iinc 6 1, 3) := by decide +kernel
theorem dX11_writeTape_104 : decode cX11_writeTape 104 = .ok (.goto (-35), 3) := by decide +kernel
theorem dX11_writeTape_107 : decode cX11_writeTape 107 = .ok (.iinc 5 1, 3) := by decide +kernel
theorem dX11_writeTape_110 : decode cX11_writeTape 110 = .ok (.goto (-50), 3) := by decide +kernel
theorem dX11_writeTape_113 : decode cX11_writeTape 113 = .ok (.aload_n 0, 1) := by decide +kernel
theorem dX11_writeTape_114 : decode cX11_writeTape 114 = .ok (.getfield 10, 3) := by decide +kernel
theorem dX11_writeTape_117 : decode cX11_writeTape 117 = .ok (.iload_n 1, 1) := by decide +kernel
theorem dX11_writeTape_118 : decode cX11_writeTape 118 = .ok (.invokevirtual 104, 3) := by decide +kernel
theorem dX11_writeTape_121 : decode cX11_writeTape 121 = .ok (.ireturn, 1) := by decide +kernel
theorem dX11_fill_0 : decode cX11_fill 0 = .ok (.iload_n 1, 1) := by decide +kernel
theorem dX11_fill_1 : decode cX11_fill 1 = .ok (.invokestatic 88, 3) := by decide +kernel
theorem dX11_fill_4 : decode cX11_fill 4 = .ok (.ifCond .eq 25, 3) := by decide +kernel
theorem dX11_fill_7 : decode cX11_fill 7 = .ok (.iload_n 2, 1) := by decide +kernel
theorem dX11_fill_8 : decode cX11_fill 8 = .ok (.ifCond .lt 21, 3) := by decide +kernel
theorem dX11_fill_11 : decode cX11_fill 11 = .ok (.iload_n 2, 1) := by decide +kernel
theorem dX11_fill_12 : decode cX11_fill 12 = .ok (.iconst 1, 1) := by decide +kernel
theorem dX11_fill_13 : decode cX11_fill 13 = .ok (.if_icmp .gt 16, 3) := by decide +kernel
theorem dX11_fill_16 : decode cX11_fill 16 = .ok (.iload 4, 2) := by decide +kernel
theorem dX11_fill_18 : decode cX11_fill 18 = .ok (.iconst 1, 1) := by decide +kernel
theorem dX11_fill_19 : decode cX11_fill 19 = .ok (.if_icmp .lt 10, 3) := by decide +kernel
theorem dX11_fill_22 : decode cX11_fill 22 = .ok (.iload 4, 2) := by decide +kernel
theorem dX11_fill_24 : decode cX11_fill 24 = .ok (.ldc 36, 2) := by decide +kernel
theorem dX11_fill_26 : decode cX11_fill 26 = .ok (.if_icmp .le 5, 3) := by decide +kernel
theorem dX11_fill_29 : decode cX11_fill 29 = .ok (.iconst (-1), 1) := by decide +kernel
theorem dX11_fill_30 : decode cX11_fill 30 = .ok (.ireturn, 1) := by decide +kernel
theorem dX11_fill_31 : decode cX11_fill 31 = .ok (.iload 4, 2) := by decide +kernel
theorem dX11_fill_33 : decode cX11_fill 33 = .ok (.aload_n 0, 1) := by decide +kernel
theorem dX11_fill_34 : decode cX11_fill 34 = .ok (.getfield 10, 3) := by decide +kernel
theorem dX11_fill_37 : decode cX11_fill 37 = .ok (.invokevirtual 92, 3) := by decide +kernel
theorem dX11_fill_40 : decode cX11_fill 40 = .ok (.if_icmp .le 6, 3) := by decide +kernel
theorem dX11_fill_43 : decode cX11_fill 43 = .ok (.bipush (-3), 2) := by decide +kernel
theorem dX11_fill_45 : decode cX11_fill 45 = .ok (.ireturn, 1) := by decide +kernel
theorem dX11_fill_46 : decode cX11_fill 46 = .ok (.aload_n 0, 1) := by decide +kernel
theorem dX11_fill_47 : decode cX11_fill 47 = .ok (.getfield 10, 3) := by decide +kernel
theorem dX11_fill_50 : decode cX11_fill 50 = .ok (.iload_n 1, 1) := by decide +kernel
theorem dX11_fill_51 : decode cX11_fill 51 = .ok (.iload 4, 2) := by decide +kernel
theorem dX11_fill_53 : decode cX11_fill 53 = .ok (.invokevirtual 93, 3) := by decide +kernel
theorem dX11_fill_56 : decode cX11_fill 56 = .ok (.istore 5, 2) := by decide +kernel
theorem dX11_fill_58 : decode cX11_fill 58 = .ok (.iload_n 3, 1) := by decide +kernel
theorem dX11_fill_59 : decode cX11_fill 59 = .ok (.istore 6, 2) := by decide +kernel
theorem dX11_fill_61 : decode cX11_fill 61 = .ok (.iconst 0, 1) := by decide +kernel
theorem dX11_fill_62 : decode cX11_fill 62 = .ok (.istore 7, 2) := by decide +kernel
theorem dX11_fill_64 : decode cX11_fill 64 = .ok (.iload 7, 2) := by decide +kernel
theorem dX11_fill_66 : decode cX11_fill 66 = .ok (.iload 4, 2) := by decide +kernel
theorem dX11_fill_68 : decode cX11_fill 68 = .ok (.if_icmp .ge 51, 3) := by decide +kernel
theorem dX11_fill_71 : decode cX11_fill 71 = .ok (.iload_n 2, 1) := by decide +kernel
theorem dX11_fill_72 : decode cX11_fill 72 = .ok (.iconst 1, 1) := by decide +kernel
theorem dX11_fill_73 : decode cX11_fill 73 = .ok (.if_icmp .ne 14, 3) := by decide +kernel
theorem dX11_fill_76 : decode cX11_fill 76 = .ok (.ldc 106, 2) := by decide +kernel
theorem dX11_fill_78 : decode cX11_fill 78 = .ok (.iload 6, 2) := by decide +kernel
theorem dX11_fill_80 : decode cX11_fill 80 = .ok (.imul, 1) := by decide +kernel
theorem dX11_fill_81 : decode cX11_fill 81 = .ok (.sipush 12345, 3) := by decide +kernel
theorem dX11_fill_84 : decode cX11_fill 84 = .ok (.iadd, 1) := by decide +kernel
theorem dX11_fill_85 : decode cX11_fill 85 = .ok (.istore 6, 2) := by decide +kernel
theorem dX11_fill_87 : decode cX11_fill 87 = .ok (.aload_n 0, 1) := by decide +kernel
theorem dX11_fill_88 : decode cX11_fill 88 = .ok (.getfield 10, 3) := by decide +kernel
theorem dX11_fill_91 : decode cX11_fill 91 = .ok (.iload 5, 2) := by decide +kernel
theorem dX11_fill_93 : decode cX11_fill 93 = .ok (.iload 7, 2) := by decide +kernel
theorem dX11_fill_95 : decode cX11_fill 95 = .ok (.iadd, 1) := by decide +kernel
theorem dX11_fill_96 : decode cX11_fill 96 = .ok (.iload_n 2, 1) := by decide +kernel
theorem dX11_fill_97 : decode cX11_fill 97 = .ok (.iconst 1, 1) := by decide +kernel
theorem dX11_fill_98 : decode cX11_fill 98 = .ok (.if_icmp .ne 11, 3) := by decide +kernel
theorem dX11_fill_101 : decode cX11_fill 101 = .ok (.iload 6, 2) := by decide +kernel
theorem dX11_fill_103 : decode cX11_fill 103 = .ok (.bipush 16, 2) := by decide +kernel
theorem dX11_fill_105 : decode cX11_fill 105 = .ok (.ishr, 1) := by decide +kernel
theorem dX11_fill_106 : decode cX11_fill 106 = .ok (.goto 4, 3) := by decide +kernel
theorem dX11_fill_109 : decode cX11_fill 109 = .ok (.iload_n 3, 1) := by decide +kernel
theorem dX11_fill_110 : decode cX11_fill 110 = .ok (.invokevirtual 100, 3) := by decide +kernel
theorem dX11_fill_113 : decode cX11_fill 113 = .ok (.iinc 7 1, 3) := by decide +kernel
theorem dX11_fill_116 : decode cX11_fill 116 = .ok (.goto (-52), 3) := by decide +kernel
theorem dX11_fill_119 : decode cX11_fill 119 = .ok (.aload_n 0, 1) := by decide +kernel
theorem dX11_fill_120 : decode cX11_fill 120 = .ok (.getfield 10, 3) := by decide +kernel
theorem dX11_fill_123 : decode cX11_fill 123 = .ok (.iload_n 1, 1) := by decide +kernel
theorem dX11_fill_124 : decode cX11_fill 124 = .ok (.invokevirtual 104, 3) := by decide +kernel
theorem dX11_fill_127 : decode cX11_fill 127 = .ok (.ireturn, 1) := by decide +kernel
theorem dX11_clear_0 : decode cX11_clear 0 = .ok (.iload_n 1, 1) := by decide +kernel
theorem dX11_clear_1 : decode cX11_clear 1 = .ok (.invokestatic 88, 3) := by decide +kernel
theorem dX11_clear_4 : decode cX11_clear 4 = .ok (.ifCond .ne 5, 3) := by decide +kernel
theorem dX11_clear_7 : decode cX11_clear 7 = .ok (.iconst (-1), 1) := by decide +kernel
theorem dX11_clear_8 : decode cX11_clear 8 = .ok (.ireturn, 1) := by decide +kernel
theorem dX11_clear_9 : decode cX11_clear 9 = .ok (.aload_n 0, 1) := by decide +kernel
theorem dX11_clear_10 : decode cX11_clear 10 = .ok (.getfield 10, 3) := by decide +kernel
theorem dX11_clear_13 : decode cX11_clear 13 = .ok (.iload_n 1, 1) := by decide +kernel
theorem dX11_clear_14 : decode cX11_clear 14 = .ok (.invokevirtual 104, 3) := by decide +kernel
theorem dX11_clear_17 : decode cX11_clear 17 = .ok (.istore_n 2, 1) := by decide +kernel
theorem dX11_clear_18 : decode cX11_clear 18 = .ok (.aload_n 0, 1) := by decide +kernel
theorem dX11_clear_19 : decode cX11_clear 19 = .ok (.getfield 10, 3) := by decide +kernel
theorem dX11_clear_22 : decode cX11_clear 22 = .ok (.iload_n 1, 1) := by decide +kernel
theorem dX11_clear_23 : decode cX11_clear 23 = .ok (.invokevirtual 107, 3) := by decide +kernel
theorem dX11_clear_26 : decode cX11_clear 26 = .ok (.iload_n 2, 1) := by decide +kernel
theorem dX11_clear_27 : decode cX11_clear 27 = .ok (.ireturn, 1) := by decide +kernel
theorem dX11_put_0 : decode cX11_put 0 = .ok (.iload_n 1, 1) := by decide +kernel
theorem dX11_put_1 : decode cX11_put 1 = .ok (.bipush 12, 2) := by decide +kernel
theorem dX11_put_3 : decode cX11_put 3 = .ok (.if_icmp .lt 9, 3) := by decide +kernel
theorem dX11_put_6 : decode cX11_put 6 = .ok (.iload_n 1, 1) := by decide +kernel
theorem dX11_put_7 : decode cX11_put 7 = .ok (.bipush 16, 2) := by decide +kernel
theorem dX11_put_9 : decode cX11_put 9 = .ok (.if_icmp .le 5, 3) := by decide +kernel
theorem dX11_put_12 : decode cX11_put 12 = .ok (.iconst (-1), 1) := by decide +kernel
theorem dX11_put_13 : decode cX11_put 13 = .ok (.ireturn, 1) := by decide +kernel
theorem dX11_put_14 : decode cX11_put 14 = .ok (.aload_n 0, 1) := by decide +kernel
theorem dX11_put_15 : decode cX11_put 15 = .ok (.getfield 10, 3) := by decide +kernel
theorem dX11_put_18 : decode cX11_put 18 = .ok (.invokevirtual 110, 3) := by decide +kernel
theorem dX11_put_21 : decode cX11_put 21 = .ok (.invokevirtual 78, 3) := by decide +kernel
theorem dX11_put_24 : decode cX11_put 24 = .ok (.ldc 32, 2) := by decide +kernel
theorem dX11_put_26 : decode cX11_put 26 = .ok (.if_icmp .le 6, 3) := by decide +kernel
theorem dX11_put_29 : decode cX11_put 29 = .ok (.bipush (-3), 2) := by decide +kernel
theorem dX11_put_31 : decode cX11_put 31 = .ok (.ireturn, 1) := by decide +kernel
theorem dX11_put_32 : decode cX11_put 32 = .ok (.aload_n 0, 1) := by decide +kernel
theorem dX11_put_33 : decode cX11_put 33 = .ok (.getfield 33, 3) := by decide +kernel
theorem dX11_put_36 : decode cX11_put 36 = .ok (.iconst 0, 1) := by decide +kernel
theorem dX11_put_37 : decode cX11_put 37 = .ok (.invokevirtual 85, 3) := by decide +kernel
theorem dX11_put_40 : decode cX11_put 40 = .ok (.aload_n 0, 1) := by decide +kernel
theorem dX11_put_41 : decode cX11_put 41 = .ok (.getfield 19, 3) := by decide +kernel
theorem dX11_put_44 : decode cX11_put 44 = .ok (.iload_n 1, 1) := by decide +kernel
theorem dX11_put_45 : decode cX11_put 45 = .ok (.invokevirtual 114, 3) := by decide +kernel
theorem dX11_put_48 : decode cX11_put 48 = .ok (.iconst 0, 1) := by decide +kernel
theorem dX11_put_49 : decode cX11_put 49 = .ok (.istore 4, 2) := by decide +kernel
theorem dX11_put_51 : decode cX11_put 51 = .ok (.iload 4, 2) := by decide +kernel
theorem dX11_put_53 : decode cX11_put 53 = .ok (.bipush 64, 2) := by decide +kernel
theorem dX11_put_55 : decode cX11_put 55 = .ok (.if_icmp .ge 92, 3) := by decide +kernel
theorem dX11_put_58 : decode cX11_put 58 = .ok (.aload_n 0, 1) := by decide +kernel
theorem dX11_put_59 : decode cX11_put 59 = .ok (.getfield 10, 3) := by decide +kernel
theorem dX11_put_62 : decode cX11_put 62 = .ok (.iload 4, 2) := by decide +kernel
theorem dX11_put_64 : decode cX11_put 64 = .ok (.invokevirtual 117, 3) := by decide +kernel
theorem dX11_put_67 : decode cX11_put 67 = .ok (.istore 5, 2) := by decide +kernel
theorem dX11_put_69 : decode cX11_put 69 = .ok (.iload 5, 2) := by decide +kernel
theorem dX11_put_71 : decode cX11_put 71 = .ok (.ifCond .lt 17, 3) := by decide +kernel
theorem dX11_put_74 : decode cX11_put 74 = .ok (.aload_n 0, 1) := by decide +kernel
theorem dX11_put_75 : decode cX11_put 75 = .ok (.getfield 19, 3) := by decide +kernel
theorem dX11_put_78 : decode cX11_put 78 = .ok (.iload 4, 2) := by decide +kernel
theorem dX11_put_80 : decode cX11_put 80 = .ok (.iload 5, 2) := by decide +kernel
theorem dX11_put_82 : decode cX11_put 82 = .ok (.invokevirtual 120, 3) := by decide +kernel
theorem dX11_put_85 : decode cX11_put 85 = .ok (.goto 56, 3) := by decide +kernel
theorem dX11_put_88 : decode cX11_put 88 = .ok (.aload_n 0, 1) := by decide +kernel
theorem dX11_put_89 : decode cX11_put 89 = .ok (.iload 4, 2) := by decide +kernel
theorem dX11_put_91 : decode cX11_put 91 = .ok (.iload_n 2, 1) := by decide +kernel
theorem dX11_put_92 : decode cX11_put 92 = .ok (.iload_n 3, 1) := by decide +kernel
theorem dX11_put_93 : decode cX11_put 93 = .ok (.invokevirtual 123, 3) := by decide +kernel
theorem dX11_put_96 : decode cX11_put 96 = .ok (.istore 6, 2) := by decide +kernel
theorem dX11_put_98 : decode cX11_put 98 = .ok (.iload 6, 2) := by decide +kernel
theorem dX11_put_100 : decode cX11_put 100 = .ok (.ifCond .le 28, 3) := by decide +kernel
theorem dX11_put_103 : decode cX11_put 103 = .ok (.iload 6, 2) := by decide +kernel
theorem dX11_put_105 : decode cX11_put 105 = .ok (.aload_n 0, 1) := by decide +kernel
theorem dX11_put_106 : decode cX11_put 106 = .ok (.getfield 19, 3) := by decide +kernel
theorem dX11_put_109 : decode cX11_put 109 = .ok (.invokevirtual 127, 3) := by decide +kernel
theorem dX11_put_112 : decode cX11_put 112 = .ok (.aload_n 0, 1) := by decide +kernel
theorem dX11_put_113 : decode cX11_put 113 = .ok (.getfield 37, 3) := by decide +kernel
theorem dX11_put_116 : decode cX11_put 116 = .ok (.invokevirtual 78, 3) := by decide +kernel
theorem dX11_put_119 : decode cX11_put 119 = .ok (.isub, 1) := by decide +kernel
theorem dX11_put_120 : decode cX11_put 120 = .ok (.if_icmp .le 8, 3) := by decide +kernel
theorem dX11_put_123 : decode cX11_put 123 = .ok (.aload_n 0, 1) := by decide +kernel
theorem dX11_put_124 : decode cX11_put 124 = .ok (.iload_n 2, 1) := by decide +kernel
theorem dX11_put_125 : decode cX11_put 125 = .ok (.invokevirtual 130, 3) := by decide +kernel
theorem dX11_put_128 : decode cX11_put 128 = .ok (.iload 6, 2) := by decide +kernel
theorem dX11_put_130 : decode cX11_put 130 = .ok (.ifCond .le 11, 3) := by decide +kernel
theorem dX11_put_133 : decode cX11_put 133 = .ok (.aload_n 0, 1) := by decide +kernel
theorem dX11_put_134 : decode cX11_put 134 = .ok (.iload 4, 2) := by decide +kernel
theorem dX11_put_136 : decode cX11_put 136 = .ok (.iload 6, 2) := by decide +kernel
theorem dX11_put_138 : decode cX11_put 138 = .ok (.invokevirtual 134, 3) := by decide +kernel
theorem dX11_put_141 : decode cX11_put 141 = .ok (.iinc 4 1, 3) := by decide +kernel
theorem dX11_put_144 : decode cX11_put 144 = .ok (.goto (-93), 3) := by decide +kernel
theorem dX11_put_147 : decode cX11_put 147 = .ok (.aload_n 0, 1) := by decide +kernel
theorem dX11_put_148 : decode cX11_put 148 = .ok (.getfield 37, 3) := by decide +kernel
theorem dX11_put_151 : decode cX11_put 151 = .ok (.invokevirtual 78, 3) := by decide +kernel
theorem dX11_put_154 : decode cX11_put 154 = .ok (.ifCond .le 8, 3) := by decide +kernel
theorem dX11_put_157 : decode cX11_put 157 = .ok (.aload_n 0, 1) := by decide +kernel
theorem dX11_put_158 : decode cX11_put 158 = .ok (.iload_n 2, 1) := by decide +kernel
theorem dX11_put_159 : decode cX11_put 159 = .ok (.invokevirtual 130, 3) := by decide +kernel
theorem dX11_put_162 : decode cX11_put 162 = .ok (.aload_n 0, 1) := by decide +kernel
theorem dX11_put_163 : decode cX11_put 163 = .ok (.getfield 33, 3) := by decide +kernel
theorem dX11_put_166 : decode cX11_put 166 = .ok (.invokevirtual 78, 3) := by decide +kernel
theorem dX11_put_169 : decode cX11_put 169 = .ok (.ireturn, 1) := by decide +kernel
theorem dX11_putBlocks_0 : decode cX11_putBlocks 0 = .ok (.aload_n 0, 1) := by decide +kernel
theorem dX11_putBlocks_1 : decode cX11_putBlocks 1 = .ok (.getfield 10, 3) := by decide +kernel
theorem dX11_putBlocks_4 : decode cX11_putBlocks 4 = .ok (.iload_n 1, 1) := by decide +kernel
theorem dX11_putBlocks_5 : decode cX11_putBlocks 5 = .ok (.invokevirtual 104, 3) := by decide +kernel
theorem dX11_putBlocks_8 : decode cX11_putBlocks 8 = .ok (.istore 4, 2) := by decide +kernel
theorem dX11_putBlocks_10 : decode cX11_putBlocks 10 = .ok (.aload_n 0, 1) := by decide +kernel
theorem dX11_putBlocks_11 : decode cX11_putBlocks 11 = .ok (.getfield 19, 3) := by decide +kernel
theorem dX11_putBlocks_14 : decode cX11_putBlocks 14 = .ok (.invokevirtual 127, 3) := by decide +kernel
theorem dX11_putBlocks_17 : decode cX11_putBlocks 17 = .ok (.istore 5, 2) := by decide +kernel
theorem dX11_putBlocks_19 : decode cX11_putBlocks 19 = .ok (.iload_n 3, 1) := by decide +kernel
theorem dX11_putBlocks_20 : decode cX11_putBlocks 20 = .ok (.ifCond .eq 13, 3) := by decide +kernel
theorem dX11_putBlocks_23 : decode cX11_putBlocks 23 = .ok (.iload 4, 2) := by decide +kernel
theorem dX11_putBlocks_25 : decode cX11_putBlocks 25 = .ok (.iload 5, 2) := by decide +kernel
theorem dX11_putBlocks_27 : decode cX11_putBlocks 27 = .ok (.iconst 1, 1) := by decide +kernel
theorem dX11_putBlocks_28 : decode cX11_putBlocks 28 = .ok (.isub, 1) := by decide +kernel
theorem dX11_putBlocks_29 : decode cX11_putBlocks 29 = .ok (.iand, 1) := by decide +kernel
theorem dX11_putBlocks_30 : decode cX11_putBlocks 30 = .ok (.goto 4, 3) := by decide +kernel
theorem dX11_putBlocks_33 : decode cX11_putBlocks 33 = .ok (.iconst 0, 1) := by decide +kernel
theorem dX11_putBlocks_34 : decode cX11_putBlocks 34 = .ok (.istore 6, 2) := by decide +kernel
theorem dX11_putBlocks_36 : decode cX11_putBlocks 36 = .ok (.aload_n 0, 1) := by decide +kernel
theorem dX11_putBlocks_37 : decode cX11_putBlocks 37 = .ok (.getfield 10, 3) := by decide +kernel
theorem dX11_putBlocks_40 : decode cX11_putBlocks 40 = .ok (.iload_n 1, 1) := by decide +kernel
theorem dX11_putBlocks_41 : decode cX11_putBlocks 41 = .ok (.invokevirtual 137, 3) := by decide +kernel
theorem dX11_putBlocks_44 : decode cX11_putBlocks 44 = .ok (.istore 7, 2) := by decide +kernel
theorem dX11_putBlocks_46 : decode cX11_putBlocks 46 = .ok (.aload_n 0, 1) := by decide +kernel
theorem dX11_putBlocks_47 : decode cX11_putBlocks 47 = .ok (.getfield 19, 3) := by decide +kernel
theorem dX11_putBlocks_50 : decode cX11_putBlocks 50 = .ok (.iload_n 1, 1) := by decide +kernel
theorem dX11_putBlocks_51 : decode cX11_putBlocks 51 = .ok (.iload 4, 2) := by decide +kernel
theorem dX11_putBlocks_53 : decode cX11_putBlocks 53 = .ok (.iload 4, 2) := by decide +kernel
theorem dX11_putBlocks_55 : decode cX11_putBlocks 55 = .ok (.iload 6, 2) := by decide +kernel
theorem dX11_putBlocks_57 : decode cX11_putBlocks 57 = .ok (.if_icmp .le 13, 3) := by decide +kernel
theorem dX11_putBlocks_60 : decode cX11_putBlocks 60 = .ok (.aload_n 0, 1) := by decide +kernel
theorem dX11_putBlocks_61 : decode cX11_putBlocks 61 = .ok (.getfield 33, 3) := by decide +kernel
theorem dX11_putBlocks_64 : decode cX11_putBlocks 64 = .ok (.invokevirtual 78, 3) := by decide +kernel
theorem dX11_putBlocks_67 : decode cX11_putBlocks 67 = .ok (.goto 4, 3) := by decide +kernel
theorem dX11_putBlocks_70 : decode cX11_putBlocks 70 = .ok (.iconst 0, 1) := by decide +kernel
theorem dX11_putBlocks_71 : decode cX11_putBlocks 71 = .ok (.invokevirtual 140, 3) := by decide +kernel
theorem dX11_putBlocks_74 : decode cX11_putBlocks 74 = .ok (.iconst 0, 1) := by decide +kernel
theorem dX11_putBlocks_75 : decode cX11_putBlocks 75 = .ok (.istore 8, 2) := by decide +kernel
theorem dX11_putBlocks_77 : decode cX11_putBlocks 77 = .ok (.iload 8, 2) := by decide +kernel
theorem dX11_putBlocks_79 : decode cX11_putBlocks 79 = .ok (.iload 4, 2) := by decide +kernel
theorem dX11_putBlocks_81 : decode cX11_putBlocks 81 = .ok (.iload 6, 2) := by decide +kernel
theorem dX11_putBlocks_83 : decode cX11_putBlocks 83 = .ok (.isub, 1) := by decide +kernel
theorem dX11_putBlocks_84 : decode cX11_putBlocks 84 = .ok (.if_icmp .ge 85, 3) := by decide +kernel
theorem dX11_putBlocks_87 : decode cX11_putBlocks 87 = .ok (.iload 5, 2) := by decide +kernel
theorem dX11_putBlocks_89 : decode cX11_putBlocks 89 = .ok (.iload 4, 2) := by decide +kernel
theorem dX11_putBlocks_91 : decode cX11_putBlocks 91 = .ok (.iload 8, 2) := by decide +kernel
theorem dX11_putBlocks_93 : decode cX11_putBlocks 93 = .ok (.isub, 1) := by decide +kernel
theorem dX11_putBlocks_94 : decode cX11_putBlocks 94 = .ok (.invokestatic 143, 3) := by decide +kernel
theorem dX11_putBlocks_97 : decode cX11_putBlocks 97 = .ok (.istore 9, 2) := by decide +kernel
theorem dX11_putBlocks_99 : decode cX11_putBlocks 99 = .ok (.aload_n 0, 1) := by decide +kernel
theorem dX11_putBlocks_100 : decode cX11_putBlocks 100 = .ok (.getfield 10, 3) := by decide +kernel
theorem dX11_putBlocks_103 : decode cX11_putBlocks 103 = .ok (.invokevirtual 110, 3) := by decide +kernel
theorem dX11_putBlocks_106 : decode cX11_putBlocks 106 = .ok (.iload 7, 2) := by decide +kernel
theorem dX11_putBlocks_108 : decode cX11_putBlocks 108 = .ok (.iload 8, 2) := by decide +kernel
theorem dX11_putBlocks_110 : decode cX11_putBlocks 110 = .ok (.iadd, 1) := by decide +kernel
theorem dX11_putBlocks_111 : decode cX11_putBlocks 111 = .ok (.iload 9, 2) := by decide +kernel
theorem dX11_putBlocks_113 : decode cX11_putBlocks 113 = .ok (.invokevirtual 148, 3) := by decide +kernel
theorem dX11_putBlocks_116 : decode cX11_putBlocks 116 = .ok (.ifCond .eq 16, 3) := by decide +kernel
theorem dX11_putBlocks_119 : decode cX11_putBlocks 119 = .ok (.aload_n 0, 1) := by decide +kernel
theorem dX11_putBlocks_120 : decode cX11_putBlocks 120 = .ok (.getfield 19, 3) := by decide +kernel
theorem dX11_putBlocks_123 : decode cX11_putBlocks 123 = .ok (.iload_n 1, 1) := by decide +kernel
theorem dX11_putBlocks_124 : decode cX11_putBlocks 124 = .ok (.iload 9, 2) := by decide +kernel
theorem dX11_putBlocks_126 : decode cX11_putBlocks 126 = .ok (.invokevirtual 152, 3) := by decide +kernel
theorem dX11_putBlocks_129 : decode cX11_putBlocks 129 = .ok (.goto 30, 3) := by decide +kernel
theorem dX11_putBlocks_132 : decode cX11_putBlocks 132 = .ok (.aload_n 0, 1) := by decide +kernel
theorem dX11_putBlocks_133 : decode cX11_putBlocks 133 = .ok (.getfield 19, 3) := by decide +kernel
theorem dX11_putBlocks_136 : decode cX11_putBlocks 136 = .ok (.iload_n 1, 1) := by decide +kernel
theorem dX11_putBlocks_137 : decode cX11_putBlocks 137 = .ok (.aload_n 0, 1) := by decide +kernel
theorem dX11_putBlocks_138 : decode cX11_putBlocks 138 = .ok (.aload_n 0, 1) := by decide +kernel
theorem dX11_putBlocks_139 : decode cX11_putBlocks 139 = .ok (.getfield 10, 3) := by decide +kernel
theorem dX11_putBlocks_142 : decode cX11_putBlocks 142 = .ok (.invokevirtual 110, 3) := by decide +kernel
theorem dX11_putBlocks_145 : decode cX11_putBlocks 145 = .ok (.iload 7, 2) := by decide +kernel
theorem dX11_putBlocks_147 : decode cX11_putBlocks 147 = .ok (.iload 8, 2) := by decide +kernel
theorem dX11_putBlocks_149 : decode cX11_putBlocks 149 = .ok (.iadd, 1) := by decide +kernel
theorem dX11_putBlocks_150 : decode cX11_putBlocks 150 = .ok (.iload 9, 2) := by decide +kernel
theorem dX11_putBlocks_152 : decode cX11_putBlocks 152 = .ok (.iload_n 2, 1) := by decide +kernel
theorem dX11_putBlocks_153 : decode cX11_putBlocks 153 = .ok (.invokevirtual 155, 3) := by decide +kernel
theorem dX11_putBlocks_156 : decode cX11_putBlocks 156 = .ok (.invokevirtual 159, 3) := by decide +kernel
theorem dX11_putBlocks_159 : decode cX11_putBlocks 159 = .ok (.iload 8, 2) := by decide +kernel
theorem dX11_putBlocks_161 : decode cX11_putBlocks 161 = .ok (.iload 5, 2) := by decide +kernel
theorem dX11_putBlocks_163 : decode cX11_putBlocks 163 = .ok (.iadd, 1) := by decide +kernel
theorem dX11_putBlocks_164 : decode cX11_putBlocks 164 = .ok (.istore 8, 2) := by decide +kernel
theorem dX11_putBlocks_166 : decode cX11_putBlocks 166 = .ok (.goto (-89), 3) := by decide +kernel
theorem dX11_putBlocks_169 : decode cX11_putBlocks 169 = .ok (.iload 6, 2) := by decide +kernel
theorem dX11_putBlocks_171 : decode cX11_putBlocks 171 = .ok (.ireturn, 1) := by decide +kernel
theorem dX11_joinFragment_0 : decode cX11_joinFragment 0 = .ok (.aload_n 0, 1) := by decide +kernel
theorem dX11_joinFragment_1 : decode cX11_joinFragment 1 = .ok (.getfield 19, 3) := by decide +kernel
theorem dX11_joinFragment_4 : decode cX11_joinFragment 4 = .ok (.iload_n 1, 1) := by decide +kernel
theorem dX11_joinFragment_5 : decode cX11_joinFragment 5 = .ok (.aload_n 0, 1) := by decide +kernel
theorem dX11_joinFragment_6 : decode cX11_joinFragment 6 = .ok (.getfield 37, 3) := by decide +kernel
theorem dX11_joinFragment_9 : decode cX11_joinFragment 9 = .ok (.invokevirtual 78, 3) := by decide +kernel
theorem dX11_joinFragment_12 : decode cX11_joinFragment 12 = .ok (.invokevirtual 162, 3) := by decide +kernel
theorem dX11_joinFragment_15 : decode cX11_joinFragment 15 = .ok (.aload_n 0, 1) := by decide +kernel
theorem dX11_joinFragment_16 : decode cX11_joinFragment 16 = .ok (.getfield 37, 3) := by decide +kernel
theorem dX11_joinFragment_19 : decode cX11_joinFragment 19 = .ok (.aload_n 0, 1) := by decide +kernel
theorem dX11_joinFragment_20 : decode cX11_joinFragment 20 = .ok (.getfield 10, 3) := by decide +kernel
theorem dX11_joinFragment_23 : decode cX11_joinFragment 23 = .ok (.invokevirtual 110, 3) := by decide +kernel
theorem dX11_joinFragment_26 : decode cX11_joinFragment 26 = .ok (.aload_n 0, 1) := by decide +kernel
theorem dX11_joinFragment_27 : decode cX11_joinFragment 27 = .ok (.getfield 10, 3) := by decide +kernel
theorem dX11_joinFragment_30 : decode cX11_joinFragment 30 = .ok (.iload_n 1, 1) := by decide +kernel
theorem dX11_joinFragment_31 : decode cX11_joinFragment 31 = .ok (.iconst 1, 1) := by decide +kernel
theorem dX11_joinFragment_32 : decode cX11_joinFragment 32 = .ok (.iadd, 1) := by decide +kernel
theorem dX11_joinFragment_33 : decode cX11_joinFragment 33 = .ok (.invokevirtual 137, 3) := by decide +kernel
theorem dX11_joinFragment_36 : decode cX11_joinFragment 36 = .ok (.iload_n 2, 1) := by decide +kernel
theorem dX11_joinFragment_37 : decode cX11_joinFragment 37 = .ok (.isub, 1) := by decide +kernel
theorem dX11_joinFragment_38 : decode cX11_joinFragment 38 = .ok (.iload_n 2, 1) := by decide +kernel
theorem dX11_joinFragment_39 : decode cX11_joinFragment 39 = .ok (.invokevirtual 165, 3) := by decide +kernel
theorem dX11_joinFragment_42 : decode cX11_joinFragment 42 = .ok (.return_, 1) := by decide +kernel
theorem dX11_closeFragment_0 : decode cX11_closeFragment 0 = .ok (.aload_n 0, 1) := by decide +kernel
theorem dX11_closeFragment_1 : decode cX11_closeFragment 1 = .ok (.getfield 33, 3) := by decide +kernel
theorem dX11_closeFragment_4 : decode cX11_closeFragment 4 = .ok (.invokevirtual 78, 3) := by decide +kernel
theorem dX11_closeFragment_7 : decode cX11_closeFragment 7 = .ok (.istore_n 2, 1) := by decide +kernel
theorem dX11_closeFragment_8 : decode cX11_closeFragment 8 = .ok (.aload_n 0, 1) := by decide +kernel
theorem dX11_closeFragment_9 : decode cX11_closeFragment 9 = .ok (.getfield 19, 3) := by decide +kernel
theorem dX11_closeFragment_12 : decode cX11_closeFragment 12 = .ok (.iload_n 2, 1) := by decide +kernel
theorem dX11_closeFragment_13 : decode cX11_closeFragment 13 = .ok (.aload_n 0, 1) := by decide +kernel
theorem dX11_closeFragment_14 : decode cX11_closeFragment 14 = .ok (.aload_n 0, 1) := by decide +kernel
theorem dX11_closeFragment_15 : decode cX11_closeFragment 15 = .ok (.getfield 37, 3) := by decide +kernel
theorem dX11_closeFragment_18 : decode cX11_closeFragment 18 = .ok (.iconst 0, 1) := by decide +kernel
theorem dX11_closeFragment_19 : decode cX11_closeFragment 19 = .ok (.aload_n 0, 1) := by decide +kernel
theorem dX11_closeFragment_20 : decode cX11_closeFragment 20 = .ok (.getfield 37, 3) := by decide +kernel
theorem dX11_closeFragment_23 : decode cX11_closeFragment 23 = .ok (.invokevirtual 78, 3) := by decide +kernel
theorem dX11_closeFragment_26 : decode cX11_closeFragment 26 = .ok (.iload_n 1, 1) := by decide +kernel
theorem dX11_closeFragment_27 : decode cX11_closeFragment 27 = .ok (.invokevirtual 155, 3) := by decide +kernel
theorem dX11_closeFragment_30 : decode cX11_closeFragment 30 = .ok (.invokevirtual 169, 3) := by decide +kernel
theorem dX11_closeFragment_33 : decode cX11_closeFragment 33 = .ok (.aload_n 0, 1) := by decide +kernel
theorem dX11_closeFragment_34 : decode cX11_closeFragment 34 = .ok (.getfield 37, 3) := by decide +kernel
theorem dX11_closeFragment_37 : decode cX11_closeFragment 37 = .ok (.iconst 0, 1) := by decide +kernel
theorem dX11_closeFragment_38 : decode cX11_closeFragment 38 = .ok (.invokevirtual 85, 3) := by decide +kernel
theorem dX11_closeFragment_41 : decode cX11_closeFragment 41 = .ok (.return_, 1) := by decide +kernel
theorem dX11_append_0 : decode cX11_append 0 = .ok (.aload_n 0, 1) := by decide +kernel
theorem dX11_append_1 : decode cX11_append 1 = .ok (.getfield 33, 3) := by decide +kernel
theorem dX11_append_4 : decode cX11_append 4 = .ok (.invokevirtual 78, 3) := by decide +kernel
theorem dX11_append_7 : decode cX11_append 7 = .ok (.istore 5, 2) := by decide +kernel
theorem dX11_append_9 : decode cX11_append 9 = .ok (.iload 4, 2) := by decide +kernel
theorem dX11_append_11 : decode cX11_append 11 = .ok (.ifCond .eq 43, 3) := by decide +kernel
theorem dX11_append_14 : decode cX11_append 14 = .ok (.aload_n 0, 1) := by decide +kernel
theorem dX11_append_15 : decode cX11_append 15 = .ok (.getfield 54, 3) := by decide +kernel
theorem dX11_append_18 : decode cX11_append 18 = .ok (.aload_n 1, 1) := by decide +kernel
theorem dX11_append_19 : decode cX11_append 19 = .ok (.iload_n 2, 1) := by decide +kernel
theorem dX11_append_20 : decode cX11_append 20 = .ok (.iload_n 3, 1) := by decide +kernel
theorem dX11_append_21 : decode cX11_append 21 = .ok (.invokevirtual 172, 3) := by decide +kernel
theorem dX11_append_24 : decode cX11_append 24 = .ok (.aload_n 0, 1) := by decide +kernel
theorem dX11_append_25 : decode cX11_append 25 = .ok (.getfield 33, 3) := by decide +kernel
theorem dX11_append_28 : decode cX11_append 28 = .ok (.invokevirtual 78, 3) := by decide +kernel
theorem dX11_append_31 : decode cX11_append 31 = .ok (.iload 5, 2) := by decide +kernel
theorem dX11_append_33 : decode cX11_append 33 = .ok (.isub, 1) := by decide +kernel
theorem dX11_append_34 : decode cX11_append 34 = .ok (.istore 6, 2) := by decide +kernel
theorem dX11_append_36 : decode cX11_append 36 = .ok (.iload 6, 2) := by decide +kernel
theorem dX11_append_38 : decode cX11_append 38 = .ok (.iload_n 3, 1) := by decide +kernel
theorem dX11_append_39 : decode cX11_append 39 = .ok (.if_icmp .ge 6, 3) := by decide +kernel
theorem dX11_append_42 : decode cX11_append 42 = .ok (.iload 6, 2) := by decide +kernel
theorem dX11_append_44 : decode cX11_append 44 = .ok (.ireturn, 1) := by decide +kernel
theorem dX11_append_45 : decode cX11_append 45 = .ok (.aload_n 0, 1) := by decide +kernel
theorem dX11_append_46 : decode cX11_append 46 = .ok (.getfield 33, 3) := by decide +kernel
theorem dX11_append_49 : decode cX11_append 49 = .ok (.iload 5, 2) := by decide +kernel
theorem dX11_append_51 : decode cX11_append 51 = .ok (.invokevirtual 85, 3) := by decide +kernel
theorem dX11_append_54 : decode cX11_append 54 = .ok (.aload_n 0, 1) := by decide +kernel
theorem dX11_append_55 : decode cX11_append 55 = .ok (.getfield 33, 3) := by decide +kernel
theorem dX11_append_58 : decode cX11_append 58 = .ok (.aload_n 1, 1) := by decide +kernel
theorem dX11_append_59 : decode cX11_append 59 = .ok (.iload_n 2, 1) := by decide +kernel
theorem dX11_append_60 : decode cX11_append 60 = .ok (.iload_n 3, 1) := by decide +kernel
theorem dX11_append_61 : decode cX11_append 61 = .ok (.invokevirtual 165, 3) := by decide +kernel
theorem dX11_append_64 : decode cX11_append 64 = .ok (.ldc 175, 2) := by decide +kernel
theorem dX11_append_66 : decode cX11_append 66 = .ok (.iload_n 3, 1) := by decide +kernel
theorem dX11_append_67 : decode cX11_append 67 = .ok (.iadd, 1) := by decide +kernel
theorem dX11_append_68 : decode cX11_append 68 = .ok (.ireturn, 1) := by decide +kernel
theorem dX11_about_0 : decode cX11_about 0 = .ok (.iload_n 1, 1) := by decide +kernel
theorem dX11_about_1 : decode cX11_about 1 = .ok (.invokestatic 88, 3) := by decide +kernel
theorem dX11_about_4 : decode cX11_about 4 = .ok (.ifCond .eq 13, 3) := by decide +kernel
theorem dX11_about_7 : decode cX11_about 7 = .ok (.iload_n 2, 1) := by decide +kernel
theorem dX11_about_8 : decode cX11_about 8 = .ok (.ifCond .lt 9, 3) := by decide +kernel
theorem dX11_about_11 : decode cX11_about 11 = .ok (.iload_n 2, 1) := by decide +kernel
theorem dX11_about_12 : decode cX11_about 12 = .ok (.bipush 6, 2) := by decide +kernel
theorem dX11_about_14 : decode cX11_about 14 = .ok (.if_icmp .le 5, 3) := by decide +kernel
theorem dX11_about_17 : decode cX11_about 17 = .ok (.iconst (-1), 1) := by decide +kernel
theorem dX11_about_18 : decode cX11_about 18 = .ok (.ireturn, 1) := by decide +kernel
theorem dX11_about_19 : decode cX11_about 19 = .ok (.iload_n 2, 1) := by decide +kernel
theorem dX11_about_20 : decode cX11_about 20 = .ok (.ifCond .ne 14, 3) := by decide +kernel
theorem dX11_about_23 : decode cX11_about 23 = .ok (.aload_n 0, 1) := by decide +kernel
theorem dX11_about_24 : decode cX11_about 24 = .ok (.getfield 10, 3) := by decide +kernel
theorem dX11_about_27 : decode cX11_about 27 = .ok (.iload_n 1, 1) := by decide +kernel
theorem dX11_about_28 : decode cX11_about 28 = .ok (.invokevirtual 104, 3) := by decide +kernel
theorem dX11_about_31 : decode cX11_about 31 = .ok (.goto 12, 3) := by decide +kernel
theorem dX11_about_34 : decode cX11_about 34 = .ok (.aload_n 0, 1) := by decide +kernel
theorem dX11_about_35 : decode cX11_about 35 = .ok (.getfield 19, 3) := by decide +kernel
theorem dX11_about_38 : decode cX11_about 38 = .ok (.iload_n 1, 1) := by decide +kernel
theorem dX11_about_39 : decode cX11_about 39 = .ok (.iload_n 2, 1) := by decide +kernel
theorem dX11_about_40 : decode cX11_about 40 = .ok (.invokevirtual 176, 3) := by decide +kernel
theorem dX11_about_43 : decode cX11_about 43 = .ok (.ireturn, 1) := by decide +kernel
theorem dX11_number_0 : decode cX11_number 0 = .ok (.iload_n 1, 1) := by decide +kernel
theorem dX11_number_1 : decode cX11_number 1 = .ok (.invokestatic 88, 3) := by decide +kernel
theorem dX11_number_4 : decode cX11_number 4 = .ok (.ifCond .ne 5, 3) := by decide +kernel
theorem dX11_number_7 : decode cX11_number 7 = .ok (.iconst (-1), 1) := by decide +kernel
theorem dX11_number_8 : decode cX11_number 8 = .ok (.ireturn, 1) := by decide +kernel
theorem dX11_number_9 : decode cX11_number 9 = .ok (.iload_n 2, 1) := by decide +kernel
theorem dX11_number_10 : decode cX11_number 10 = .ok (.ifCond .lt 16, 3) := by decide +kernel
theorem dX11_number_13 : decode cX11_number 13 = .ok (.iload_n 2, 1) := by decide +kernel
theorem dX11_number_14 : decode cX11_number 14 = .ok (.aload_n 0, 1) := by decide +kernel
theorem dX11_number_15 : decode cX11_number 15 = .ok (.getfield 19, 3) := by decide +kernel
theorem dX11_number_18 : decode cX11_number 18 = .ok (.iload_n 1, 1) := by decide +kernel
theorem dX11_number_19 : decode cX11_number 19 = .ok (.iconst 3, 1) := by decide +kernel
theorem dX11_number_20 : decode cX11_number 20 = .ok (.invokevirtual 176, 3) := by decide +kernel
theorem dX11_number_23 : decode cX11_number 23 = .ok (.if_icmp .lt 6, 3) := by decide +kernel
theorem dX11_number_26 : decode cX11_number 26 = .ok (.bipush (-2), 2) := by decide +kernel
theorem dX11_number_28 : decode cX11_number 28 = .ok (.ireturn, 1) := by decide +kernel
theorem dX11_number_29 : decode cX11_number 29 = .ok (.aload_n 0, 1) := by decide +kernel
theorem dX11_number_30 : decode cX11_number 30 = .ok (.getfield 19, 3) := by decide +kernel
theorem dX11_number_33 : decode cX11_number 33 = .ok (.iload_n 1, 1) := by decide +kernel
theorem dX11_number_34 : decode cX11_number 34 = .ok (.iload_n 2, 1) := by decide +kernel
theorem dX11_number_35 : decode cX11_number 35 = .ok (.invokevirtual 179, 3) := by decide +kernel
theorem dX11_number_38 : decode cX11_number 38 = .ok (.ireturn, 1) := by decide +kernel
theorem dX11_fragments_0 : decode cX11_fragments 0 = .ok (.aload_n 0, 1) := by decide +kernel
theorem dX11_fragments_1 : decode cX11_fragments 1 = .ok (.getfield 19, 3) := by decide +kernel
theorem dX11_fragments_4 : decode cX11_fragments 4 = .ok (.invokevirtual 182, 3) := by decide +kernel
theorem dX11_fragments_7 : decode cX11_fragments 7 = .ok (.ireturn, 1) := by decide +kernel
theorem dX11_fragment_0 : decode cX11_fragment 0 = .ok (.iload_n 2, 1) := by decide +kernel
theorem dX11_fragment_1 : decode cX11_fragment 1 = .ok (.ifCond .lt 8, 3) := by decide +kernel
theorem dX11_fragment_4 : decode cX11_fragment 4 = .ok (.iload_n 2, 1) := by decide +kernel
theorem dX11_fragment_5 : decode cX11_fragment 5 = .ok (.iconst 1, 1) := by decide +kernel
theorem dX11_fragment_6 : decode cX11_fragment 6 = .ok (.if_icmp .le 5, 3) := by decide +kernel
theorem dX11_fragment_9 : decode cX11_fragment 9 = .ok (.iconst (-1), 1) := by decide +kernel
theorem dX11_fragment_10 : decode cX11_fragment 10 = .ok (.ireturn, 1) := by decide +kernel
theorem dX11_fragment_11 : decode cX11_fragment 11 = .ok (.iload_n 1, 1) := by decide +kernel
theorem dX11_fragment_12 : decode cX11_fragment 12 = .ok (.ifCond .lt 14, 3) := by decide +kernel
theorem dX11_fragment_15 : decode cX11_fragment 15 = .ok (.iload_n 1, 1) := by decide +kernel
theorem dX11_fragment_16 : decode cX11_fragment 16 = .ok (.aload_n 0, 1) := by decide +kernel
theorem dX11_fragment_17 : decode cX11_fragment 17 = .ok (.getfield 19, 3) := by decide +kernel
theorem dX11_fragment_20 : decode cX11_fragment 20 = .ok (.invokevirtual 182, 3) := by decide +kernel
theorem dX11_fragment_23 : decode cX11_fragment 23 = .ok (.if_icmp .lt 6, 3) := by decide +kernel
theorem dX11_fragment_26 : decode cX11_fragment 26 = .ok (.bipush (-2), 2) := by decide +kernel
theorem dX11_fragment_28 : decode cX11_fragment 28 = .ok (.ireturn, 1) := by decide +kernel
theorem dX11_fragment_29 : decode cX11_fragment 29 = .ok (.iload_n 2, 1) := by decide +kernel
theorem dX11_fragment_30 : decode cX11_fragment 30 = .ok (.ifCond .ne 14, 3) := by decide +kernel
theorem dX11_fragment_33 : decode cX11_fragment 33 = .ok (.aload_n 0, 1) := by decide +kernel
theorem dX11_fragment_34 : decode cX11_fragment 34 = .ok (.getfield 19, 3) := by decide +kernel
theorem dX11_fragment_37 : decode cX11_fragment 37 = .ok (.iload_n 1, 1) := by decide +kernel
theorem dX11_fragment_38 : decode cX11_fragment 38 = .ok (.invokevirtual 185, 3) := by decide +kernel
theorem dX11_fragment_41 : decode cX11_fragment 41 = .ok (.goto 11, 3) := by decide +kernel
theorem dX11_fragment_44 : decode cX11_fragment 44 = .ok (.aload_n 0, 1) := by decide +kernel
theorem dX11_fragment_45 : decode cX11_fragment 45 = .ok (.getfield 19, 3) := by decide +kernel
theorem dX11_fragment_48 : decode cX11_fragment 48 = .ok (.iload_n 1, 1) := by decide +kernel
theorem dX11_fragment_49 : decode cX11_fragment 49 = .ok (.invokevirtual 188, 3) := by decide +kernel
theorem dX11_fragment_52 : decode cX11_fragment 52 = .ok (.ireturn, 1) := by decide +kernel
theorem dX11_size_0 : decode cX11_size 0 = .ok (.aload_n 0, 1) := by decide +kernel
theorem dX11_size_1 : decode cX11_size 1 = .ok (.getfield 33, 3) := by decide +kernel
theorem dX11_size_4 : decode cX11_size 4 = .ok (.invokevirtual 78, 3) := by decide +kernel
theorem dX11_size_7 : decode cX11_size 7 = .ok (.ireturn, 1) := by decide +kernel
theorem dX11_word_0 : decode cX11_word 0 = .ok (.aload_n 0, 1) := by decide +kernel
theorem dX11_word_1 : decode cX11_word 1 = .ok (.getfield 33, 3) := by decide +kernel
theorem dX11_word_4 : decode cX11_word 4 = .ok (.iload_n 1, 1) := by decide +kernel
theorem dX11_word_5 : decode cX11_word 5 = .ok (.invokevirtual 191, 3) := by decide +kernel
theorem dX11_word_8 : decode cX11_word 8 = .ok (.lreturn, 1) := by decide +kernel
theorem dX11_patch_0 : decode cX11_patch 0 = .ok (.iload_n 1, 1) := by decide +kernel
theorem dX11_patch_1 : decode cX11_patch 1 = .ok (.ifCond .lt 14, 3) := by decide +kernel
theorem dX11_patch_4 : decode cX11_patch 4 = .ok (.iload_n 1, 1) := by decide +kernel
theorem dX11_patch_5 : decode cX11_patch 5 = .ok (.aload_n 0, 1) := by decide +kernel
theorem dX11_patch_6 : decode cX11_patch 6 = .ok (.getfield 33, 3) := by decide +kernel
theorem dX11_patch_9 : decode cX11_patch 9 = .ok (.invokevirtual 78, 3) := by decide +kernel
theorem dX11_patch_12 : decode cX11_patch 12 = .ok (.if_icmp .lt 6, 3) := by decide +kernel
theorem dX11_patch_15 : decode cX11_patch 15 = .ok (.bipush (-2), 2) := by decide +kernel
theorem dX11_patch_17 : decode cX11_patch 17 = .ok (.ireturn, 1) := by decide +kernel
theorem dX11_patch_18 : decode cX11_patch 18 = .ok (.aload_n 0, 1) := by decide +kernel
theorem dX11_patch_19 : decode cX11_patch 19 = .ok (.getfield 33, 3) := by decide +kernel
theorem dX11_patch_22 : decode cX11_patch 22 = .ok (.iload_n 1, 1) := by decide +kernel
theorem dX11_patch_23 : decode cX11_patch 23 = .ok (.invokevirtual 96, 3) := by decide +kernel
theorem dX11_patch_26 : decode cX11_patch 26 = .ok (.istore_n 3, 1) := by decide +kernel
theorem dX11_patch_27 : decode cX11_patch 27 = .ok (.aload_n 0, 1) := by decide +kernel
theorem dX11_patch_28 : decode cX11_patch 28 = .ok (.getfield 33, 3) := by decide +kernel
theorem dX11_patch_31 : decode cX11_patch 31 = .ok (.iload_n 1, 1) := by decide +kernel
theorem dX11_patch_32 : decode cX11_patch 32 = .ok (.iload_n 2, 1) := by decide +kernel
theorem dX11_patch_33 : decode cX11_patch 33 = .ok (.invokevirtual 195, 3) := by decide +kernel
theorem dX11_patch_36 : decode cX11_patch 36 = .ok (.iload_n 3, 1) := by decide +kernel
theorem dX11_patch_37 : decode cX11_patch 37 = .ok (.ireturn, 1) := by decide +kernel
theorem dX11_cut_0 : decode cX11_cut 0 = .ok (.iload_n 1, 1) := by decide +kernel
theorem dX11_cut_1 : decode cX11_cut 1 = .ok (.ifCond .lt 14, 3) := by decide +kernel
theorem dX11_cut_4 : decode cX11_cut 4 = .ok (.iload_n 1, 1) := by decide +kernel
theorem dX11_cut_5 : decode cX11_cut 5 = .ok (.aload_n 0, 1) := by decide +kernel
theorem dX11_cut_6 : decode cX11_cut 6 = .ok (.getfield 33, 3) := by decide +kernel
theorem dX11_cut_9 : decode cX11_cut 9 = .ok (.invokevirtual 78, 3) := by decide +kernel
theorem dX11_cut_12 : decode cX11_cut 12 = .ok (.if_icmp .le 5, 3) := by decide +kernel
theorem dX11_cut_15 : decode cX11_cut 15 = .ok (.iconst (-1), 1) := by decide +kernel
theorem dX11_cut_16 : decode cX11_cut 16 = .ok (.ireturn, 1) := by decide +kernel
theorem dX11_cut_17 : decode cX11_cut 17 = .ok (.aload_n 0, 1) := by decide +kernel
theorem dX11_cut_18 : decode cX11_cut 18 = .ok (.getfield 33, 3) := by decide +kernel
theorem dX11_cut_21 : decode cX11_cut 21 = .ok (.invokevirtual 78, 3) := by decide +kernel
theorem dX11_cut_24 : decode cX11_cut 24 = .ok (.iload_n 1, 1) := by decide +kernel
theorem dX11_cut_25 : decode cX11_cut 25 = .ok (.isub, 1) := by decide +kernel
theorem dX11_cut_26 : decode cX11_cut 26 = .ok (.istore_n 2, 1) := by decide +kernel
theorem dX11_cut_27 : decode cX11_cut 27 = .ok (.aload_n 0, 1) := by decide +kernel
theorem dX11_cut_28 : decode cX11_cut 28 = .ok (.getfield 33, 3) := by decide +kernel
theorem dX11_cut_31 : decode cX11_cut 31 = .ok (.iload_n 1, 1) := by decide +kernel
theorem dX11_cut_32 : decode cX11_cut 32 = .ok (.invokevirtual 85, 3) := by decide +kernel
theorem dX11_cut_35 : decode cX11_cut 35 = .ok (.iload_n 2, 1) := by decide +kernel
theorem dX11_cut_36 : decode cX11_cut 36 = .ok (.ireturn, 1) := by decide +kernel
theorem dX11_read_0 : decode cX11_read 0 = .ok (.aload_n 0, 1) := by decide +kernel
theorem dX11_read_1 : decode cX11_read 1 = .ok (.iconst 0, 1) := by decide +kernel
theorem dX11_read_2 : decode cX11_read 2 = .ok (.putfield 67, 3) := by decide +kernel
theorem dX11_read_5 : decode cX11_read 5 = .ok (.iload_n 1, 1) := by decide +kernel
theorem dX11_read_6 : decode cX11_read 6 = .ok (.invokestatic 88, 3) := by decide +kernel
theorem dX11_read_9 : decode cX11_read 9 = .ok (.ifCond .eq 18, 3) := by decide +kernel
theorem dX11_read_12 : decode cX11_read 12 = .ok (.iload_n 2, 1) := by decide +kernel
theorem dX11_read_13 : decode cX11_read 13 = .ok (.ifCond .lt 14, 3) := by decide +kernel
theorem dX11_read_16 : decode cX11_read 16 = .ok (.iload_n 3, 1) := by decide +kernel
theorem dX11_read_17 : decode cX11_read 17 = .ok (.ifCond .lt 10, 3) := by decide +kernel
theorem dX11_read_20 : decode cX11_read 20 = .ok (.iload_n 3, 1) := by decide +kernel
theorem dX11_read_21 : decode cX11_read 21 = .ok (.sipush 4096, 3) := by decide +kernel
theorem dX11_read_24 : decode cX11_read 24 = .ok (.if_icmp .le 5, 3) := by decide +kernel
theorem dX11_read_27 : decode cX11_read 27 = .ok (.iconst (-1), 1) := by decide +kernel
theorem dX11_read_28 : decode cX11_read 28 = .ok (.ireturn, 1) := by decide +kernel
theorem dX11_read_29 : decode cX11_read 29 = .ok (.iload_n 2, 1) := by decide +kernel
theorem dX11_read_30 : decode cX11_read 30 = .ok (.i2l, 1) := by decide +kernel
theorem dX11_read_31 : decode cX11_read 31 = .ok (.iload_n 3, 1) := by decide +kernel
theorem dX11_read_32 : decode cX11_read 32 = .ok (.i2l, 1) := by decide +kernel
theorem dX11_read_33 : decode cX11_read 33 = .ok (.ladd, 1) := by decide +kernel
theorem dX11_read_34 : decode cX11_read 34 = .ok (.aload_n 0, 1) := by decide +kernel
theorem dX11_read_35 : decode cX11_read 35 = .ok (.getfield 19, 3) := by decide +kernel
theorem dX11_read_38 : decode cX11_read 38 = .ok (.iload_n 1, 1) := by decide +kernel
theorem dX11_read_39 : decode cX11_read 39 = .ok (.iconst 1, 1) := by decide +kernel
theorem dX11_read_40 : decode cX11_read 40 = .ok (.invokevirtual 176, 3) := by decide +kernel
theorem dX11_read_43 : decode cX11_read 43 = .ok (.i2l, 1) := by decide +kernel
theorem dX11_read_44 : decode cX11_read 44 = .ok (.invokestatic 196, 3) := by decide +kernel
theorem dX11_read_47 : decode cX11_read 47 = .ok (.l2i, 1) := by decide +kernel
theorem dX11_read_48 : decode cX11_read 48 = .ok (.istore 4, 2) := by decide +kernel
theorem dX11_read_50 : decode cX11_read 50 = .ok (.iload_n 2, 1) := by decide +kernel
theorem dX11_read_51 : decode cX11_read 51 = .ok (.iload 4, 2) := by decide +kernel
theorem dX11_read_53 : decode cX11_read 53 = .ok (.if_icmp .ge 18, 3) := by decide +kernel
theorem dX11_read_56 : decode cX11_read 56 = .ok (.iload 4, 2) := by decide +kernel
theorem dX11_read_58 : decode cX11_read 58 = .ok (.iconst 1, 1) := by decide +kernel
theorem dX11_read_59 : decode cX11_read 59 = .ok (.isub, 1) := by decide +kernel
theorem dX11_read_60 : decode cX11_read 60 = .ok (.aload_n 0, 1) := by decide +kernel
theorem dX11_read_61 : decode cX11_read 61 = .ok (.getfield 19, 3) := by decide +kernel
theorem dX11_read_64 : decode cX11_read 64 = .ok (.invokevirtual 199, 3) := by decide +kernel
theorem dX11_read_67 : decode cX11_read 67 = .ok (.ishr, 1) := by decide +kernel
theorem dX11_read_68 : decode cX11_read 68 = .ok (.goto 4, 3) := by decide +kernel
theorem dX11_read_71 : decode cX11_read 71 = .ok (.iconst (-1), 1) := by decide +kernel
theorem dX11_read_72 : decode cX11_read 72 = .ok (.istore 5, 2) := by decide +kernel
theorem dX11_read_74 : decode cX11_read 74 = .ok (.iconst 0, 1) := by decide +kernel
theorem dX11_read_75 : decode cX11_read 75 = .ok (.istore 6, 2) := by decide +kernel
theorem dX11_read_77 : decode cX11_read 77 = .ok (.aload_n 0, 1) := by decide +kernel
theorem dX11_read_78 : decode cX11_read 78 = .ok (.getfield 43, 3) := by decide +kernel
theorem dX11_read_81 : decode cX11_read 81 = .ok (.iconst 0, 1) := by decide +kernel
theorem dX11_read_82 : decode cX11_read 82 = .ok (.invokevirtual 85, 3) := by decide +kernel
theorem dX11_read_85 : decode cX11_read 85 = .ok (.iload_n 2, 1) := by decide +kernel
theorem dX11_read_86 : decode cX11_read 86 = .ok (.aload_n 0, 1) := by decide +kernel
theorem dX11_read_87 : decode cX11_read 87 = .ok (.getfield 19, 3) := by decide +kernel
theorem dX11_read_90 : decode cX11_read 90 = .ok (.invokevirtual 199, 3) := by decide +kernel
theorem dX11_read_93 : decode cX11_read 93 = .ok (.ishr, 1) := by decide +kernel
theorem dX11_read_94 : decode cX11_read 94 = .ok (.istore 7, 2) := by decide +kernel
theorem dX11_read_96 : decode cX11_read 96 = .ok (.iload 7, 2) := by decide +kernel
theorem dX11_read_98 : decode cX11_read 98 = .ok (.iload 5, 2) := by decide +kernel
theorem dX11_read_100 : decode cX11_read 100 = .ok (.if_icmp .gt 68, 3) := by decide +kernel
theorem dX11_read_103 : decode cX11_read 103 = .ok (.iload_n 2, 1) := by decide +kernel
theorem dX11_read_104 : decode cX11_read 104 = .ok (.iload 7, 2) := by decide +kernel
theorem dX11_read_106 : decode cX11_read 106 = .ok (.aload_n 0, 1) := by decide +kernel
theorem dX11_read_107 : decode cX11_read 107 = .ok (.getfield 19, 3) := by decide +kernel
theorem dX11_read_110 : decode cX11_read 110 = .ok (.invokevirtual 199, 3) := by decide +kernel
theorem dX11_read_113 : decode cX11_read 113 = .ok (.ishl, 1) := by decide +kernel
theorem dX11_read_114 : decode cX11_read 114 = .ok (.invokestatic 202, 3) := by decide +kernel
theorem dX11_read_117 : decode cX11_read 117 = .ok (.istore 8, 2) := by decide +kernel
theorem dX11_read_119 : decode cX11_read 119 = .ok (.aload_n 0, 1) := by decide +kernel
theorem dX11_read_120 : decode cX11_read 120 = .ok (.iload_n 1, 1) := by decide +kernel
theorem dX11_read_121 : decode cX11_read 121 = .ok (.iload 7, 2) := by decide +kernel
theorem dX11_read_123 : decode cX11_read 123 = .ok (.iload 8, 2) := by decide +kernel
theorem dX11_read_125 : decode cX11_read 125 = .ok (.iload 4, 2) := by decide +kernel
theorem dX11_read_127 : decode cX11_read 127 = .ok (.iload 7, 2) := by decide +kernel
theorem dX11_read_129 : decode cX11_read 129 = .ok (.iconst 1, 1) := by decide +kernel
theorem dX11_read_130 : decode cX11_read 130 = .ok (.iadd, 1) := by decide +kernel
theorem dX11_read_131 : decode cX11_read 131 = .ok (.aload_n 0, 1) := by decide +kernel
theorem dX11_read_132 : decode cX11_read 132 = .ok (.getfield 19, 3) := by decide +kernel
theorem dX11_read_135 : decode cX11_read 135 = .ok (.invokevirtual 199, 3) := by decide +kernel
theorem dX11_read_138 : decode cX11_read 138 = .ok (.ishl, 1) := by decide +kernel
theorem dX11_read_139 : decode cX11_read 139 = .ok (.invokestatic 143, 3) := by decide +kernel
theorem dX11_read_142 : decode cX11_read 142 = .ok (.invokevirtual 205, 3) := by decide +kernel
theorem dX11_read_145 : decode cX11_read 145 = .ok (.istore 9, 2) := by decide +kernel
theorem dX11_read_147 : decode cX11_read 147 = .ok (.iload 9, 2) := by decide +kernel
theorem dX11_read_149 : decode cX11_read 149 = .ok (.ifCond .ge 6, 3) := by decide +kernel
theorem dX11_read_152 : decode cX11_read 152 = .ok (.bipush (-4), 2) := by decide +kernel
theorem dX11_read_154 : decode cX11_read 154 = .ok (.ireturn, 1) := by decide +kernel
theorem dX11_read_155 : decode cX11_read 155 = .ok (.iload 6, 2) := by decide +kernel
theorem dX11_read_157 : decode cX11_read 157 = .ok (.iload 9, 2) := by decide +kernel
theorem dX11_read_159 : decode cX11_read 159 = .ok (.iadd, 1) := by decide +kernel
theorem dX11_read_160 : decode cX11_read 160 = .ok (.istore 6, 2) := by decide +kernel
theorem dX11_read_162 : decode cX11_read 162 = .ok (.iinc 7 1, 3) := by decide +kernel
theorem dX11_read_165 : decode cX11_read 165 = .ok (.goto (-69), 3) := by decide +kernel
theorem dX11_read_168 : decode cX11_read 168 = .ok (.aload_n 0, 1) := by decide +kernel
theorem dX11_read_169 : decode cX11_read 169 = .ok (.getfield 46, 3) := by decide +kernel
theorem dX11_read_172 : decode cX11_read 172 = .ok (.iconst 0, 1) := by decide +kernel
theorem dX11_read_173 : decode cX11_read 173 = .ok (.invokevirtual 85, 3) := by decide +kernel
theorem dX11_read_176 : decode cX11_read 176 = .ok (.aload_n 0, 1) := by decide +kernel
theorem dX11_read_177 : decode cX11_read 177 = .ok (.getfield 46, 3) := by decide +kernel
theorem dX11_read_180 : decode cX11_read 180 = .ok (.aload_n 0, 1) := by decide +kernel
theorem dX11_read_181 : decode cX11_read 181 = .ok (.getfield 43, 3) := by decide +kernel
theorem dX11_read_184 : decode cX11_read 184 = .ok (.iconst 0, 1) := by decide +kernel
theorem dX11_read_185 : decode cX11_read 185 = .ok (.aload_n 0, 1) := by decide +kernel
theorem dX11_read_186 : decode cX11_read 186 = .ok (.getfield 43, 3) := by decide +kernel
theorem dX11_read_189 : decode cX11_read 189 = .ok (.invokevirtual 78, 3) := by decide +kernel
theorem dX11_read_192 : decode cX11_read 192 = .ok (.invokevirtual 165, 3) := by decide +kernel
theorem dX11_read_195 : decode cX11_read 195 = .ok (.aload_n 0, 1) := by decide +kernel
theorem dX11_read_196 : decode cX11_read 196 = .ok (.iload 6, 2) := by decide +kernel
theorem dX11_read_198 : decode cX11_read 198 = .ok (.putfield 67, 3) := by decide +kernel
theorem dX11_read_201 : decode cX11_read 201 = .ok (.aload_n 0, 1) := by decide +kernel
theorem dX11_read_202 : decode cX11_read 202 = .ok (.getfield 46, 3) := by decide +kernel
theorem dX11_read_205 : decode cX11_read 205 = .ok (.invokevirtual 78, 3) := by decide +kernel
theorem dX11_read_208 : decode cX11_read 208 = .ok (.ireturn, 1) := by decide +kernel
theorem dX11_readPiece_0 : decode cX11_readPiece 0 = .ok (.iload_n 2, 1) := by decide +kernel
theorem dX11_readPiece_1 : decode cX11_readPiece 1 = .ok (.aload_n 0, 1) := by decide +kernel
theorem dX11_readPiece_2 : decode cX11_readPiece 2 = .ok (.getfield 19, 3) := by decide +kernel
theorem dX11_readPiece_5 : decode cX11_readPiece 5 = .ok (.iload_n 1, 1) := by decide +kernel
theorem dX11_readPiece_6 : decode cX11_readPiece 6 = .ok (.iconst 3, 1) := by decide +kernel
theorem dX11_readPiece_7 : decode cX11_readPiece 7 = .ok (.invokevirtual 176, 3) := by decide +kernel
theorem dX11_readPiece_10 : decode cX11_readPiece 10 = .ok (.if_icmp .lt 7, 3) := by decide +kernel
theorem dX11_readPiece_13 : decode cX11_readPiece 13 = .ok (.iconst 1, 1) := by decide +kernel
theorem dX11_readPiece_14 : decode cX11_readPiece 14 = .ok (.goto 4, 3) := by decide +kernel
theorem dX11_readPiece_17 : decode cX11_readPiece 17 = .ok (.iconst 0, 1) := by decide +kernel
theorem dX11_readPiece_18 : decode cX11_readPiece 18 = .ok (.istore 5, 2) := by decide +kernel
theorem dX11_readPiece_20 : decode cX11_readPiece 20 = .ok (.aload_n 0, 1) := by decide +kernel
theorem dX11_readPiece_21 : decode cX11_readPiece 21 = .ok (.getfield 19, 3) := by decide +kernel
theorem dX11_readPiece_24 : decode cX11_readPiece 24 = .ok (.iload_n 1, 1) := by decide +kernel
theorem dX11_readPiece_25 : decode cX11_readPiece 25 = .ok (.iconst 4, 1) := by decide +kernel
theorem dX11_readPiece_26 : decode cX11_readPiece 26 = .ok (.invokevirtual 176, 3) := by decide +kernel
theorem dX11_readPiece_29 : decode cX11_readPiece 29 = .ok (.istore 6, 2) := by decide +kernel
theorem dX11_readPiece_31 : decode cX11_readPiece 31 = .ok (.iload 5, 2) := by decide +kernel
theorem dX11_readPiece_33 : decode cX11_readPiece 33 = .ok (.ifCond .eq 15, 3) := by decide +kernel
theorem dX11_readPiece_36 : decode cX11_readPiece 36 = .ok (.aload_n 0, 1) := by decide +kernel
theorem dX11_readPiece_37 : decode cX11_readPiece 37 = .ok (.getfield 19, 3) := by decide +kernel
theorem dX11_readPiece_40 : decode cX11_readPiece 40 = .ok (.iload 6, 2) := by decide +kernel
theorem dX11_readPiece_42 : decode cX11_readPiece 42 = .ok (.invokevirtual 188, 3) := by decide +kernel
theorem dX11_readPiece_45 : decode cX11_readPiece 45 = .ok (.goto 12, 3) := by decide +kernel
theorem dX11_readPiece_48 : decode cX11_readPiece 48 = .ok (.aload_n 0, 1) := by decide +kernel
theorem dX11_readPiece_49 : decode cX11_readPiece 49 = .ok (.getfield 19, 3) := by decide +kernel
theorem dX11_readPiece_52 : decode cX11_readPiece 52 = .ok (.iload_n 1, 1) := by decide +kernel
theorem dX11_readPiece_53 : decode cX11_readPiece 53 = .ok (.iload_n 2, 1) := by decide +kernel
theorem dX11_readPiece_54 : decode cX11_readPiece 54 = .ok (.invokevirtual 179, 3) := by decide +kernel
theorem dX11_readPiece_57 : decode cX11_readPiece 57 = .ok (.istore 7, 2) := by decide +kernel
theorem dX11_readPiece_59 : decode cX11_readPiece 59 = .ok (.iload 7, 2) := by decide +kernel
theorem dX11_readPiece_61 : decode cX11_readPiece 61 = .ok (.ifCond .ne 16, 3) := by decide +kernel
theorem dX11_readPiece_64 : decode cX11_readPiece 64 = .ok (.aload_n 0, 1) := by decide +kernel
theorem dX11_readPiece_65 : decode cX11_readPiece 65 = .ok (.getfield 43, 3) := by decide +kernel
theorem dX11_readPiece_68 : decode cX11_readPiece 68 = .ok (.iload 4, 2) := by decide +kernel
theorem dX11_readPiece_70 : decode cX11_readPiece 70 = .ok (.iload_n 3, 1) := by decide +kernel
theorem dX11_readPiece_71 : decode cX11_readPiece 71 = .ok (.isub, 1) := by decide +kernel
theorem dX11_readPiece_72 : decode cX11_readPiece 72 = .ok (.invokevirtual 209, 3) := by decide +kernel
theorem dX11_readPiece_75 : decode cX11_readPiece 75 = .ok (.iconst 0, 1) := by decide +kernel
theorem dX11_readPiece_76 : decode cX11_readPiece 76 = .ok (.ireturn, 1) := by decide +kernel
theorem dX11_readPiece_77 : decode cX11_readPiece 77 = .ok (.iload 5, 2) := by decide +kernel
theorem dX11_readPiece_79 : decode cX11_readPiece 79 = .ok (.ifCond .eq 15, 3) := by decide +kernel
theorem dX11_readPiece_82 : decode cX11_readPiece 82 = .ok (.aload_n 0, 1) := by decide +kernel
theorem dX11_readPiece_83 : decode cX11_readPiece 83 = .ok (.getfield 19, 3) := by decide +kernel
theorem dX11_readPiece_86 : decode cX11_readPiece 86 = .ok (.iload 6, 2) := by decide +kernel
theorem dX11_readPiece_88 : decode cX11_readPiece 88 = .ok (.invokevirtual 185, 3) := by decide +kernel
theorem dX11_readPiece_91 : decode cX11_readPiece 91 = .ok (.goto 12, 3) := by decide +kernel
theorem dX11_readPiece_94 : decode cX11_readPiece 94 = .ok (.aload_n 0, 1) := by decide +kernel
theorem dX11_readPiece_95 : decode cX11_readPiece 95 = .ok (.getfield 19, 3) := by decide +kernel
theorem dX11_readPiece_98 : decode cX11_readPiece 98 = .ok (.iload_n 1, 1) := by decide +kernel
theorem dX11_readPiece_99 : decode cX11_readPiece 99 = .ok (.iload_n 2, 1) := by decide +kernel
theorem dX11_readPiece_100 : decode cX11_readPiece 100 = .ok (.invokevirtual 211, 3) := by decide +kernel
theorem dX11_readPiece_103 : decode cX11_readPiece 103 = .ok (.istore 8, 2) := by decide +kernel
theorem dX11_readPiece_105 : decode cX11_readPiece 105 = .ok (.iload 5, 2) := by decide +kernel
theorem dX11_readPiece_107 : decode cX11_readPiece 107 = .ok (.ifCond .eq 15, 3) := by decide +kernel
theorem dX11_readPiece_110 : decode cX11_readPiece 110 = .ok (.aload_n 0, 1) := by decide +kernel
theorem dX11_readPiece_111 : decode cX11_readPiece 111 = .ok (.getfield 19, 3) := by decide +kernel
theorem dX11_readPiece_114 : decode cX11_readPiece 114 = .ok (.iload_n 1, 1) := by decide +kernel
theorem dX11_readPiece_115 : decode cX11_readPiece 115 = .ok (.iconst 5, 1) := by decide +kernel
theorem dX11_readPiece_116 : decode cX11_readPiece 116 = .ok (.invokevirtual 176, 3) := by decide +kernel
theorem dX11_readPiece_119 : decode cX11_readPiece 119 = .ok (.goto 4, 3) := by decide +kernel
theorem dX11_readPiece_122 : decode cX11_readPiece 122 = .ok (.iconst 0, 1) := by decide +kernel
theorem dX11_readPiece_123 : decode cX11_readPiece 123 = .ok (.istore 9, 2) := by decide +kernel
theorem dX11_readPiece_125 : decode cX11_readPiece 125 = .ok (.iload 9, 2) := by decide +kernel
theorem dX11_readPiece_127 : decode cX11_readPiece 127 = .ok (.iload_n 3, 1) := by decide +kernel
theorem dX11_readPiece_128 : decode cX11_readPiece 128 = .ok (.iadd, 1) := by decide +kernel
theorem dX11_readPiece_129 : decode cX11_readPiece 129 = .ok (.iload_n 2, 1) := by decide +kernel
theorem dX11_readPiece_130 : decode cX11_readPiece 130 = .ok (.aload_n 0, 1) := by decide +kernel
theorem dX11_readPiece_131 : decode cX11_readPiece 131 = .ok (.getfield 19, 3) := by decide +kernel
theorem dX11_readPiece_134 : decode cX11_readPiece 134 = .ok (.invokevirtual 199, 3) := by decide +kernel
theorem dX11_readPiece_137 : decode cX11_readPiece 137 = .ok (.ishl, 1) := by decide +kernel
theorem dX11_readPiece_138 : decode cX11_readPiece 138 = .ok (.isub, 1) := by decide +kernel
theorem dX11_readPiece_139 : decode cX11_readPiece 139 = .ok (.istore 10, 2) := by decide +kernel
theorem dX11_readPiece_141 : decode cX11_readPiece 141 = .ok (.iload 9, 2) := by decide +kernel
theorem dX11_readPiece_143 : decode cX11_readPiece 143 = .ok (.aload_n 0, 1) := by decide +kernel
theorem dX11_readPiece_144 : decode cX11_readPiece 144 = .ok (.getfield 19, 3) := by decide +kernel
theorem dX11_readPiece_147 : decode cX11_readPiece 147 = .ok (.iload_n 1, 1) := by decide +kernel
theorem dX11_readPiece_148 : decode cX11_readPiece 148 = .ok (.iload_n 2, 1) := by decide +kernel
theorem dX11_readPiece_149 : decode cX11_readPiece 149 = .ok (.invokevirtual 214, 3) := by decide +kernel
theorem dX11_readPiece_152 : decode cX11_readPiece 152 = .ok (.iadd, 1) := by decide +kernel
theorem dX11_readPiece_153 : decode cX11_readPiece 153 = .ok (.istore 11, 2) := by decide +kernel
theorem dX11_readPiece_155 : decode cX11_readPiece 155 = .ok (.iload 5, 2) := by decide +kernel
theorem dX11_readPiece_157 : decode cX11_readPiece 157 = .ok (.ifCond .eq 13, 3) := by decide +kernel
theorem dX11_readPiece_160 : decode cX11_readPiece 160 = .ok (.aload_n 0, 1) := by decide +kernel
theorem dX11_readPiece_161 : decode cX11_readPiece 161 = .ok (.getfield 19, 3) := by decide +kernel
theorem dX11_readPiece_164 : decode cX11_readPiece 164 = .ok (.invokevirtual 127, 3) := by decide +kernel
theorem dX11_readPiece_167 : decode cX11_readPiece 167 = .ok (.goto 5, 3) := by decide +kernel
theorem dX11_readPiece_170 : decode cX11_readPiece 170 = .ok (.iload 11, 2) := by decide +kernel
theorem dX11_readPiece_172 : decode cX11_readPiece 172 = .ok (.istore 12, 2) := by decide +kernel
theorem dX11_readPiece_174 : decode cX11_readPiece 174 = .ok (.iload 7, 2) := by decide +kernel
theorem dX11_readPiece_176 : decode cX11_readPiece 176 = .ok (.ldc 217, 2) := by decide +kernel
theorem dX11_readPiece_178 : decode cX11_readPiece 178 = .ok (.iand, 1) := by decide +kernel
theorem dX11_readPiece_179 : decode cX11_readPiece 179 = .ok (.istore 13, 2) := by decide +kernel
theorem dX11_readPiece_181 : decode cX11_readPiece 181 = .ok (.iload 13, 2) := by decide +kernel
theorem dX11_readPiece_183 : decode cX11_readPiece 183 = .ok (.aload_n 0, 1) := by decide +kernel
theorem dX11_readPiece_184 : decode cX11_readPiece 184 = .ok (.getfield 33, 3) := by decide +kernel
theorem dX11_readPiece_187 : decode cX11_readPiece 187 = .ok (.invokevirtual 78, 3) := by decide +kernel
theorem dX11_readPiece_190 : decode cX11_readPiece 190 = .ok (.iload 8, 2) := by decide +kernel
theorem dX11_readPiece_192 : decode cX11_readPiece 192 = .ok (.isub, 1) := by decide +kernel
theorem dX11_readPiece_193 : decode cX11_readPiece 193 = .ok (.if_icmp .le 6, 3) := by decide +kernel
theorem dX11_readPiece_196 : decode cX11_readPiece 196 = .ok (.bipush (-4), 2) := by decide +kernel
theorem dX11_readPiece_198 : decode cX11_readPiece 198 = .ok (.ireturn, 1) := by decide +kernel
theorem dX11_readPiece_199 : decode cX11_readPiece 199 = .ok (.iload 7, 2) := by decide +kernel
theorem dX11_readPiece_201 : decode cX11_readPiece 201 = .ok (.ldc 175, 2) := by decide +kernel
theorem dX11_readPiece_203 : decode cX11_readPiece 203 = .ok (.if_icmp .lt 25, 3) := by decide +kernel
theorem dX11_readPiece_206 : decode cX11_readPiece 206 = .ok (.aload_n 0, 1) := by decide +kernel
theorem dX11_readPiece_207 : decode cX11_readPiece 207 = .ok (.getfield 43, 3) := by decide +kernel
theorem dX11_readPiece_210 : decode cX11_readPiece 210 = .ok (.aload_n 0, 1) := by decide +kernel
theorem dX11_readPiece_211 : decode cX11_readPiece 211 = .ok (.getfield 33, 3) := by decide +kernel
theorem dX11_readPiece_214 : decode cX11_readPiece 214 = .ok (.iload 8, 2) := by decide +kernel
theorem dX11_readPiece_216 : decode cX11_readPiece 216 = .ok (.iload 10, 2) := by decide +kernel
theorem dX11_readPiece_218 : decode cX11_readPiece 218 = .ok (.iadd, 1) := by decide +kernel
theorem dX11_readPiece_219 : decode cX11_readPiece 219 = .ok (.iload 4, 2) := by decide +kernel
theorem dX11_readPiece_221 : decode cX11_readPiece 221 = .ok (.iload_n 3, 1) := by decide +kernel
theorem dX11_readPiece_222 : decode cX11_readPiece 222 = .ok (.isub, 1) := by decide +kernel
theorem dX11_readPiece_223 : decode cX11_readPiece 223 = .ok (.invokevirtual 165, 3) := by decide +kernel
theorem dX11_readPiece_226 : decode cX11_readPiece 226 = .ok (.iconst 1, 1) := by decide +kernel
theorem dX11_readPiece_227 : decode cX11_readPiece 227 = .ok (.ireturn, 1) := by decide +kernel
theorem dX11_readPiece_228 : decode cX11_readPiece 228 = .ok (.aload_n 0, 1) := by decide +kernel
theorem dX11_readPiece_229 : decode cX11_readPiece 229 = .ok (.getfield 63, 3) := by decide +kernel
theorem dX11_readPiece_232 : decode cX11_readPiece 232 = .ok (.iload 8, 2) := by decide +kernel
theorem dX11_readPiece_234 : decode cX11_readPiece 234 = .ok (.iload 8, 2) := by decide +kernel
theorem dX11_readPiece_236 : decode cX11_readPiece 236 = .ok (.iload 13, 2) := by decide +kernel
theorem dX11_readPiece_238 : decode cX11_readPiece 238 = .ok (.iadd, 1) := by decide +kernel
theorem dX11_readPiece_239 : decode cX11_readPiece 239 = .ok (.iload 12, 2) := by decide +kernel
theorem dX11_readPiece_241 : decode cX11_readPiece 241 = .ok (.invokevirtual 218, 3) := by decide +kernel
theorem dX11_readPiece_244 : decode cX11_readPiece 244 = .ok (.ifCond .eq 15, 3) := by decide +kernel
theorem dX11_readPiece_247 : decode cX11_readPiece 247 = .ok (.aload_n 0, 1) := by decide +kernel
theorem dX11_readPiece_248 : decode cX11_readPiece 248 = .ok (.getfield 40, 3) := by decide +kernel
theorem dX11_readPiece_251 : decode cX11_readPiece 251 = .ok (.invokevirtual 78, 3) := by decide +kernel
theorem dX11_readPiece_254 : decode cX11_readPiece 254 = .ok (.iload 11, 2) := by decide +kernel
theorem dX11_readPiece_256 : decode cX11_readPiece 256 = .ok (.if_icmp .ge 6, 3) := by decide +kernel
theorem dX11_readPiece_259 : decode cX11_readPiece 259 = .ok (.bipush (-4), 2) := by decide +kernel
theorem dX11_readPiece_261 : decode cX11_readPiece 261 = .ok (.ireturn, 1) := by decide +kernel
theorem dX11_readPiece_262 : decode cX11_readPiece 262 = .ok (.aload_n 0, 1) := by decide +kernel
theorem dX11_readPiece_263 : decode cX11_readPiece 263 = .ok (.getfield 43, 3) := by decide +kernel
theorem dX11_readPiece_266 : decode cX11_readPiece 266 = .ok (.aload_n 0, 1) := by decide +kernel
theorem dX11_readPiece_267 : decode cX11_readPiece 267 = .ok (.getfield 40, 3) := by decide +kernel
theorem dX11_readPiece_270 : decode cX11_readPiece 270 = .ok (.iload 10, 2) := by decide +kernel
theorem dX11_readPiece_272 : decode cX11_readPiece 272 = .ok (.iload 4, 2) := by decide +kernel
theorem dX11_readPiece_274 : decode cX11_readPiece 274 = .ok (.iload_n 3, 1) := by decide +kernel
theorem dX11_readPiece_275 : decode cX11_readPiece 275 = .ok (.isub, 1) := by decide +kernel
theorem dX11_readPiece_276 : decode cX11_readPiece 276 = .ok (.invokevirtual 165, 3) := by decide +kernel
theorem dX11_readPiece_279 : decode cX11_readPiece 279 = .ok (.iconst 1, 1) := by decide +kernel
theorem dX11_readPiece_280 : decode cX11_readPiece 280 = .ok (.ireturn, 1) := by decide +kernel
theorem dX11_out_0 : decode cX11_out 0 = .ok (.aload_n 0, 1) := by decide +kernel
theorem dX11_out_1 : decode cX11_out 1 = .ok (.getfield 46, 3) := by decide +kernel
theorem dX11_out_4 : decode cX11_out 4 = .ok (.iload_n 1, 1) := by decide +kernel
theorem dX11_out_5 : decode cX11_out 5 = .ok (.invokevirtual 191, 3) := by decide +kernel
theorem dX11_out_8 : decode cX11_out 8 = .ok (.lreturn, 1) := by decide +kernel
theorem dX11_taken_0 : decode cX11_taken 0 = .ok (.aload_n 0, 1) := by decide +kernel
theorem dX11_taken_1 : decode cX11_taken 1 = .ok (.getfield 67, 3) := by decide +kernel
theorem dX11_taken_4 : decode cX11_taken 4 = .ok (.ireturn, 1) := by decide +kernel
theorem dX11_isFile_0 : decode cX11_isFile 0 = .ok (.iload_n 0, 1) := by decide +kernel
theorem dX11_isFile_1 : decode cX11_isFile 1 = .ok (.ifCond .lt 13, 3) := by decide +kernel
theorem dX11_isFile_4 : decode cX11_isFile 4 = .ok (.iload_n 0, 1) := by decide +kernel
theorem dX11_isFile_5 : decode cX11_isFile 5 = .ok (.bipush 64, 2) := by decide +kernel
theorem dX11_isFile_7 : decode cX11_isFile 7 = .ok (.if_icmp .ge 7, 3) := by decide +kernel
theorem dX11_isFile_10 : decode cX11_isFile 10 = .ok (.iconst 1, 1) := by decide +kernel
theorem dX11_isFile_11 : decode cX11_isFile 11 = .ok (.goto 4, 3) := by decide +kernel
theorem dX11_isFile_14 : decode cX11_isFile 14 = .ok (.iconst 0, 1) := by decide +kernel
theorem dX11_isFile_15 : decode cX11_isFile 15 = .ok (.ireturn, 1) := by decide +kernel
theorem dX11_ordered_0 : decode cX11_ordered 0 = .ok (.iload_n 0, 1) := by decide +kernel
theorem dX11_ordered_1 : decode cX11_ordered 1 = .ok (.ifCond .lt 19, 3) := by decide +kernel
theorem dX11_ordered_4 : decode cX11_ordered 4 = .ok (.iload_n 0, 1) := by decide +kernel
theorem dX11_ordered_5 : decode cX11_ordered 5 = .ok (.getstatic 222, 3) := by decide +kernel
theorem dX11_ordered_8 : decode cX11_ordered 8 = .ok (.arraylength, 1) := by decide +kernel
theorem dX11_ordered_9 : decode cX11_ordered 9 = .ok (.if_icmp .ge 11, 3) := by decide +kernel
theorem dX11_ordered_12 : decode cX11_ordered 12 = .ok (.getstatic 222, 3) := by decide +kernel
theorem dX11_ordered_15 : decode cX11_ordered 15 = .ok (.iload_n 0, 1) := by decide +kernel
theorem dX11_ordered_16 : decode cX11_ordered 16 = .ok (.iaload, 1) := by decide +kernel
theorem dX11_ordered_17 : decode cX11_ordered 17 = .ok (.goto 4, 3) := by decide +kernel
theorem dX11_ordered_20 : decode cX11_ordered 20 = .ok (.iconst 0, 1) := by decide +kernel
theorem dX11_ordered_21 : decode cX11_ordered 21 = .ok (.ireturn, 1) := by decide +kernel
theorem dX11_sizeBits_0 : decode cX11_sizeBits 0 = .ok (.iload_n 0, 1) := by decide +kernel
theorem dX11_sizeBits_1 : decode cX11_sizeBits 1 = .ok (.bipush 16, 2) := by decide +kernel
theorem dX11_sizeBits_3 : decode cX11_sizeBits 3 = .ok (.if_icmp .ge 5, 3) := by decide +kernel
theorem dX11_sizeBits_6 : decode cX11_sizeBits 6 = .ok (.iconst 0, 1) := by decide +kernel
theorem dX11_sizeBits_7 : decode cX11_sizeBits 7 = .ok (.ireturn, 1) := by decide +kernel
theorem dX11_sizeBits_8 : decode cX11_sizeBits 8 = .ok (.iload_n 0, 1) := by decide +kernel
theorem dX11_sizeBits_9 : decode cX11_sizeBits 9 = .ok (.bipush 16, 2) := by decide +kernel
theorem dX11_sizeBits_11 : decode cX11_sizeBits 11 = .ok (.if_icmp .ne 7, 3) := by decide +kernel
theorem dX11_sizeBits_14 : decode cX11_sizeBits 14 = .ok (.iconst 2, 1) := by decide +kernel
theorem dX11_sizeBits_15 : decode cX11_sizeBits 15 = .ok (.goto 15, 3) := by decide +kernel
theorem dX11_sizeBits_18 : decode cX11_sizeBits 18 = .ok (.iload_n 0, 1) := by decide +kernel
theorem dX11_sizeBits_19 : decode cX11_sizeBits 19 = .ok (.bipush 17, 2) := by decide +kernel
theorem dX11_sizeBits_21 : decode cX11_sizeBits 21 = .ok (.if_icmp .ne 7, 3) := by decide +kernel
theorem dX11_sizeBits_24 : decode cX11_sizeBits 24 = .ok (.iconst 3, 1) := by decide +kernel
theorem dX11_sizeBits_25 : decode cX11_sizeBits 25 = .ok (.goto 5, 3) := by decide +kernel
theorem dX11_sizeBits_28 : decode cX11_sizeBits 28 = .ok (.bipush 7, 2) := by decide +kernel
theorem dX11_sizeBits_30 : decode cX11_sizeBits 30 = .ok (.ireturn, 1) := by decide +kernel
theorem dX11_halvings_0 : decode cX11_halvings 0 = .ok (.iconst 0, 1) := by decide +kernel
theorem dX11_halvings_1 : decode cX11_halvings 1 = .ok (.istore_n 2, 1) := by decide +kernel
theorem dX11_halvings_2 : decode cX11_halvings 2 = .ok (.iload_n 2, 1) := by decide +kernel
theorem dX11_halvings_3 : decode cX11_halvings 3 = .ok (.bipush 31, 2) := by decide +kernel
theorem dX11_halvings_5 : decode cX11_halvings 5 = .ok (.if_icmp .ge 16, 3) := by decide +kernel
theorem dX11_halvings_8 : decode cX11_halvings 8 = .ok (.iload_n 0, 1) := by decide +kernel
theorem dX11_halvings_9 : decode cX11_halvings 9 = .ok (.iload_n 2, 1) := by decide +kernel
theorem dX11_halvings_10 : decode cX11_halvings 10 = .ok (.ishr, 1) := by decide +kernel
theorem dX11_halvings_11 : decode cX11_halvings 11 = .ok (.iload_n 1, 1) := by decide +kernel
theorem dX11_halvings_12 : decode cX11_halvings 12 = .ok (.if_icmp .lt 9, 3) := by decide +kernel
theorem dX11_halvings_15 : decode cX11_halvings 15 = .ok (.iinc 2 1, 3) := by decide +kernel
theorem dX11_halvings_18 : decode cX11_halvings 18 = .ok (.goto (-16), 3) := by decide +kernel
theorem dX11_halvings_21 : decode cX11_halvings 21 = .ok (.iload_n 2, 1) := by decide +kernel
theorem dX11_halvings_22 : decode cX11_halvings 22 = .ok (.ireturn, 1) := by decide +kernel
theorem dX11_lengthSymbol_0 : decode cX11_lengthSymbol 0 = .ok (.iload_n 0, 1) := by decide +kernel
theorem dX11_lengthSymbol_1 : decode cX11_lengthSymbol 1 = .ok (.sipush 258, 3) := by decide +kernel
theorem dX11_lengthSymbol_4 : decode cX11_lengthSymbol 4 = .ok (.if_icmp .lt 7, 3) := by decide +kernel
theorem dX11_lengthSymbol_7 : decode cX11_lengthSymbol 7 = .ok (.sipush 285, 3) := by decide +kernel
theorem dX11_lengthSymbol_10 : decode cX11_lengthSymbol 10 = .ok (.ireturn, 1) := by decide +kernel
theorem dX11_lengthSymbol_11 : decode cX11_lengthSymbol 11 = .ok (.iload_n 0, 1) := by decide +kernel
theorem dX11_lengthSymbol_12 : decode cX11_lengthSymbol 12 = .ok (.iconst 3, 1) := by decide +kernel
theorem dX11_lengthSymbol_13 : decode cX11_lengthSymbol 13 = .ok (.isub, 1) := by decide +kernel
theorem dX11_lengthSymbol_14 : decode cX11_lengthSymbol 14 = .ok (.bipush 8, 2) := by decide +kernel
theorem dX11_lengthSymbol_16 : decode cX11_lengthSymbol 16 = .ok (.invokestatic 226, 3) := by decide +kernel
theorem dX11_lengthSymbol_19 : decode cX11_lengthSymbol 19 = .ok (.istore_n 1, 1) := by decide +kernel
theorem dX11_lengthSymbol_20 : decode cX11_lengthSymbol 20 = .ok (.sipush 257, 3) := by decide +kernel
theorem dX11_lengthSymbol_23 : decode cX11_lengthSymbol 23 = .ok (.iconst 4, 1) := by decide +kernel
theorem dX11_lengthSymbol_24 : decode cX11_lengthSymbol 24 = .ok (.iload_n 1, 1) := by decide +kernel
theorem dX11_lengthSymbol_25 : decode cX11_lengthSymbol 25 = .ok (.imul, 1) := by decide +kernel
theorem dX11_lengthSymbol_26 : decode cX11_lengthSymbol 26 = .ok (.iadd, 1) := by decide +kernel
theorem dX11_lengthSymbol_27 : decode cX11_lengthSymbol 27 = .ok (.iload_n 0, 1) := by decide +kernel
theorem dX11_lengthSymbol_28 : decode cX11_lengthSymbol 28 = .ok (.iconst 3, 1) := by decide +kernel
theorem dX11_lengthSymbol_29 : decode cX11_lengthSymbol 29 = .ok (.isub, 1) := by decide +kernel
theorem dX11_lengthSymbol_30 : decode cX11_lengthSymbol 30 = .ok (.iload_n 1, 1) := by decide +kernel
theorem dX11_lengthSymbol_31 : decode cX11_lengthSymbol 31 = .ok (.ishr, 1) := by decide +kernel
theorem dX11_lengthSymbol_32 : decode cX11_lengthSymbol 32 = .ok (.iadd, 1) := by decide +kernel
theorem dX11_lengthSymbol_33 : decode cX11_lengthSymbol 33 = .ok (.ireturn, 1) := by decide +kernel
theorem dX11_lengthBits_0 : decode cX11_lengthBits 0 = .ok (.iload_n 0, 1) := by decide +kernel
theorem dX11_lengthBits_1 : decode cX11_lengthBits 1 = .ok (.sipush 265, 3) := by decide +kernel
theorem dX11_lengthBits_4 : decode cX11_lengthBits 4 = .ok (.if_icmp .lt 10, 3) := by decide +kernel
theorem dX11_lengthBits_7 : decode cX11_lengthBits 7 = .ok (.iload_n 0, 1) := by decide +kernel
theorem dX11_lengthBits_8 : decode cX11_lengthBits 8 = .ok (.sipush 285, 3) := by decide +kernel
theorem dX11_lengthBits_11 : decode cX11_lengthBits 11 = .ok (.if_icmp .lt 7, 3) := by decide +kernel
theorem dX11_lengthBits_14 : decode cX11_lengthBits 14 = .ok (.iconst 0, 1) := by decide +kernel
theorem dX11_lengthBits_15 : decode cX11_lengthBits 15 = .ok (.goto 10, 3) := by decide +kernel
theorem dX11_lengthBits_18 : decode cX11_lengthBits 18 = .ok (.iload_n 0, 1) := by decide +kernel
theorem dX11_lengthBits_19 : decode cX11_lengthBits 19 = .ok (.sipush 261, 3) := by decide +kernel
theorem dX11_lengthBits_22 : decode cX11_lengthBits 22 = .ok (.isub, 1) := by decide +kernel
theorem dX11_lengthBits_23 : decode cX11_lengthBits 23 = .ok (.iconst 4, 1) := by decide +kernel
theorem dX11_lengthBits_24 : decode cX11_lengthBits 24 = .ok (.idiv, 1) := by decide +kernel
theorem dX11_lengthBits_25 : decode cX11_lengthBits 25 = .ok (.ireturn, 1) := by decide +kernel
theorem dX11_lengthBase_0 : decode cX11_lengthBase 0 = .ok (.iload_n 0, 1) := by decide +kernel
theorem dX11_lengthBase_1 : decode cX11_lengthBase 1 = .ok (.sipush 265, 3) := by decide +kernel
theorem dX11_lengthBase_4 : decode cX11_lengthBase 4 = .ok (.if_icmp .ge 9, 3) := by decide +kernel
theorem dX11_lengthBase_7 : decode cX11_lengthBase 7 = .ok (.iload_n 0, 1) := by decide +kernel
theorem dX11_lengthBase_8 : decode cX11_lengthBase 8 = .ok (.sipush 254, 3) := by decide +kernel
theorem dX11_lengthBase_11 : decode cX11_lengthBase 11 = .ok (.isub, 1) := by decide +kernel
theorem dX11_lengthBase_12 : decode cX11_lengthBase 12 = .ok (.ireturn, 1) := by decide +kernel
theorem dX11_lengthBase_13 : decode cX11_lengthBase 13 = .ok (.iload_n 0, 1) := by decide +kernel
theorem dX11_lengthBase_14 : decode cX11_lengthBase 14 = .ok (.sipush 285, 3) := by decide +kernel
theorem dX11_lengthBase_17 : decode cX11_lengthBase 17 = .ok (.if_icmp .lt 9, 3) := by decide +kernel
theorem dX11_lengthBase_20 : decode cX11_lengthBase 20 = .ok (.sipush 258, 3) := by decide +kernel
theorem dX11_lengthBase_23 : decode cX11_lengthBase 23 = .ok (.goto 19, 3) := by decide +kernel
theorem dX11_lengthBase_26 : decode cX11_lengthBase 26 = .ok (.iconst 3, 1) := by decide +kernel
theorem dX11_lengthBase_27 : decode cX11_lengthBase 27 = .ok (.iconst 4, 1) := by decide +kernel
theorem dX11_lengthBase_28 : decode cX11_lengthBase 28 = .ok (.iload_n 0, 1) := by decide +kernel
theorem dX11_lengthBase_29 : decode cX11_lengthBase 29 = .ok (.sipush 261, 3) := by decide +kernel
theorem dX11_lengthBase_32 : decode cX11_lengthBase 32 = .ok (.isub, 1) := by decide +kernel
theorem dX11_lengthBase_33 : decode cX11_lengthBase 33 = .ok (.iconst 4, 1) := by decide +kernel
theorem dX11_lengthBase_34 : decode cX11_lengthBase 34 = .ok (.irem, 1) := by decide +kernel
theorem dX11_lengthBase_35 : decode cX11_lengthBase 35 = .ok (.iadd, 1) := by decide +kernel
theorem dX11_lengthBase_36 : decode cX11_lengthBase 36 = .ok (.iload_n 0, 1) := by decide +kernel
theorem dX11_lengthBase_37 : decode cX11_lengthBase 37 = .ok (.invokestatic 229, 3) := by decide +kernel
theorem dX11_lengthBase_40 : decode cX11_lengthBase 40 = .ok (.ishl, 1) := by decide +kernel
theorem dX11_lengthBase_41 : decode cX11_lengthBase 41 = .ok (.iadd, 1) := by decide +kernel
theorem dX11_lengthBase_42 : decode cX11_lengthBase 42 = .ok (.ireturn, 1) := by decide +kernel
theorem dX11_distanceSymbol_0 : decode cX11_distanceSymbol 0 = .ok (.iload_n 0, 1) := by decide +kernel
theorem dX11_distanceSymbol_1 : decode cX11_distanceSymbol 1 = .ok (.iconst 1, 1) := by decide +kernel
theorem dX11_distanceSymbol_2 : decode cX11_distanceSymbol 2 = .ok (.isub, 1) := by decide +kernel
theorem dX11_distanceSymbol_3 : decode cX11_distanceSymbol 3 = .ok (.iconst 4, 1) := by decide +kernel
theorem dX11_distanceSymbol_4 : decode cX11_distanceSymbol 4 = .ok (.invokestatic 226, 3) := by decide +kernel
theorem dX11_distanceSymbol_7 : decode cX11_distanceSymbol 7 = .ok (.istore_n 1, 1) := by decide +kernel
theorem dX11_distanceSymbol_8 : decode cX11_distanceSymbol 8 = .ok (.iconst 2, 1) := by decide +kernel
theorem dX11_distanceSymbol_9 : decode cX11_distanceSymbol 9 = .ok (.iload_n 1, 1) := by decide +kernel
theorem dX11_distanceSymbol_10 : decode cX11_distanceSymbol 10 = .ok (.imul, 1) := by decide +kernel
theorem dX11_distanceSymbol_11 : decode cX11_distanceSymbol 11 = .ok (.iload_n 0, 1) := by decide +kernel
theorem dX11_distanceSymbol_12 : decode cX11_distanceSymbol 12 = .ok (.iconst 1, 1) := by decide +kernel
theorem dX11_distanceSymbol_13 : decode cX11_distanceSymbol 13 = .ok (.isub, 1) := by decide +kernel
theorem dX11_distanceSymbol_14 : decode cX11_distanceSymbol 14 = .ok (.iload_n 1, 1) := by decide +kernel
theorem dX11_distanceSymbol_15 : decode cX11_distanceSymbol 15 = .ok (.ishr, 1) := by decide +kernel
theorem dX11_distanceSymbol_16 : decode cX11_distanceSymbol 16 = .ok (.iadd, 1) := by decide +kernel
theorem dX11_distanceSymbol_17 : decode cX11_distanceSymbol 17 = .ok (.ireturn, 1) := by decide +kernel
theorem dX11_distanceBits_0 : decode cX11_distanceBits 0 = .ok (.iload_n 0, 1) := by decide +kernel
theorem dX11_distanceBits_1 : decode cX11_distanceBits 1 = .ok (.iconst 4, 1) := by decide +kernel
theorem dX11_distanceBits_2 : decode cX11_distanceBits 2 = .ok (.if_icmp .ge 7, 3) := by decide +kernel
theorem dX11_distanceBits_5 : decode cX11_distanceBits 5 = .ok (.iconst 0, 1) := by decide +kernel
theorem dX11_distanceBits_6 : decode cX11_distanceBits 6 = .ok (.goto 8, 3) := by decide +kernel
theorem dX11_distanceBits_9 : decode cX11_distanceBits 9 = .ok (.iload_n 0, 1) := by decide +kernel
theorem dX11_distanceBits_10 : decode cX11_distanceBits 10 = .ok (.iconst 2, 1) := by decide +kernel
theorem dX11_distanceBits_11 : decode cX11_distanceBits 11 = .ok (.idiv, 1) := by decide +kernel
theorem dX11_distanceBits_12 : decode cX11_distanceBits 12 = .ok (.iconst 1, 1) := by decide +kernel
theorem dX11_distanceBits_13 : decode cX11_distanceBits 13 = .ok (.isub, 1) := by decide +kernel
theorem dX11_distanceBits_14 : decode cX11_distanceBits 14 = .ok (.ireturn, 1) := by decide +kernel
theorem dX11_distanceBase_0 : decode cX11_distanceBase 0 = .ok (.iload_n 0, 1) := by decide +kernel
theorem dX11_distanceBase_1 : decode cX11_distanceBase 1 = .ok (.iconst 4, 1) := by decide +kernel
theorem dX11_distanceBase_2 : decode cX11_distanceBase 2 = .ok (.if_icmp .ge 9, 3) := by decide +kernel
theorem dX11_distanceBase_5 : decode cX11_distanceBase 5 = .ok (.iload_n 0, 1) := by decide +kernel
theorem dX11_distanceBase_6 : decode cX11_distanceBase 6 = .ok (.iconst 1, 1) := by decide +kernel
theorem dX11_distanceBase_7 : decode cX11_distanceBase 7 = .ok (.iadd, 1) := by decide +kernel
theorem dX11_distanceBase_8 : decode cX11_distanceBase 8 = .ok (.goto 15, 3) := by decide +kernel
theorem dX11_distanceBase_11 : decode cX11_distanceBase 11 = .ok (.iconst 1, 1) := by decide +kernel
theorem dX11_distanceBase_12 : decode cX11_distanceBase 12 = .ok (.iconst 2, 1) := by decide +kernel
theorem dX11_distanceBase_13 : decode cX11_distanceBase 13 = .ok (.iload_n 0, 1) := by decide +kernel
theorem dX11_distanceBase_14 : decode cX11_distanceBase 14 = .ok (.iconst 2, 1) := by decide +kernel
theorem dX11_distanceBase_15 : decode cX11_distanceBase 15 = .ok (.irem, 1) := by decide +kernel
theorem dX11_distanceBase_16 : decode cX11_distanceBase 16 = .ok (.iadd, 1) := by decide +kernel
theorem dX11_distanceBase_17 : decode cX11_distanceBase 17 = .ok (.iload_n 0, 1) := by decide +kernel
theorem dX11_distanceBase_18 : decode cX11_distanceBase 18 = .ok (.invokestatic 232, 3) := by decide +kernel
theorem dX11_distanceBase_21 : decode cX11_distanceBase 21 = .ok (.ishl, 1) := by decide +kernel
theorem dX11_distanceBase_22 : decode cX11_distanceBase 22 = .ok (.iadd, 1) := by decide +kernel
theorem dX11_distanceBase_23 : decode cX11_distanceBase 23 = .ok (.ireturn, 1) := by decide +kernel
theorem dX11_checkOf_0 : decode cX11_checkOf 0 = .ok (.iconst 1, 1) := by decide +kernel
theorem dX11_checkOf_1 : decode cX11_checkOf 1 = .ok (.istore_n 3, 1) := by decide +kernel
theorem dX11_checkOf_2 : decode cX11_checkOf 2 = .ok (.iconst 0, 1) := by decide +kernel
theorem dX11_checkOf_3 : decode cX11_checkOf 3 = .ok (.istore 4, 2) := by decide +kernel
theorem dX11_checkOf_5 : decode cX11_checkOf 5 = .ok (.iconst 0, 1) := by decide +kernel
theorem dX11_checkOf_6 : decode cX11_checkOf 6 = .ok (.istore 5, 2) := by decide +kernel
theorem dX11_checkOf_8 : decode cX11_checkOf 8 = .ok (.iload 5, 2) := by decide +kernel
theorem dX11_checkOf_10 : decode cX11_checkOf 10 = .ok (.iload_n 2, 1) := by decide +kernel
theorem dX11_checkOf_11 : decode cX11_checkOf 11 = .ok (.if_icmp .ge 32, 3) := by decide +kernel
theorem dX11_checkOf_14 : decode cX11_checkOf 14 = .ok (.iload_n 3, 1) := by decide +kernel
theorem dX11_checkOf_15 : decode cX11_checkOf 15 = .ok (.aload_n 0, 1) := by decide +kernel
theorem dX11_checkOf_16 : decode cX11_checkOf 16 = .ok (.iload_n 1, 1) := by decide +kernel
theorem dX11_checkOf_17 : decode cX11_checkOf 17 = .ok (.iload 5, 2) := by decide +kernel
theorem dX11_checkOf_19 : decode cX11_checkOf 19 = .ok (.iadd, 1) := by decide +kernel
theorem dX11_checkOf_20 : decode cX11_checkOf 20 = .ok (.invokevirtual 96, 3) := by decide +kernel
theorem dX11_checkOf_23 : decode cX11_checkOf 23 = .ok (.iadd, 1) := by decide +kernel
theorem dX11_checkOf_24 : decode cX11_checkOf 24 = .ok (.ldc 235, 2) := by decide +kernel
theorem dX11_checkOf_26 : decode cX11_checkOf 26 = .ok (.irem, 1) := by decide +kernel
theorem dX11_checkOf_27 : decode cX11_checkOf 27 = .ok (.istore_n 3, 1) := by decide +kernel
theorem dX11_checkOf_28 : decode cX11_checkOf 28 = .ok (.iload 4, 2) := by decide +kernel
theorem dX11_checkOf_30 : decode cX11_checkOf 30 = .ok (.iload_n 3, 1) := by decide +kernel
theorem dX11_checkOf_31 : decode cX11_checkOf 31 = .ok (.iadd, 1) := by decide +kernel
theorem dX11_checkOf_32 : decode cX11_checkOf 32 = .ok (.ldc 235, 2) := by decide +kernel
theorem dX11_checkOf_34 : decode cX11_checkOf 34 = .ok (.irem, 1) := by decide +kernel
theorem dX11_checkOf_35 : decode cX11_checkOf 35 = .ok (.istore 4, 2) := by decide +kernel
theorem dX11_checkOf_37 : decode cX11_checkOf 37 = .ok (.iinc 5 1, 3) := by decide +kernel
theorem dX11_checkOf_40 : decode cX11_checkOf 40 = .ok (.goto (-32), 3) := by decide +kernel
theorem dX11_checkOf_43 : decode cX11_checkOf 43 = .ok (.iload 4, 2) := by decide +kernel
theorem dX11_checkOf_45 : decode cX11_checkOf 45 = .ok (.bipush 16, 2) := by decide +kernel
theorem dX11_checkOf_47 : decode cX11_checkOf 47 = .ok (.ishl, 1) := by decide +kernel
theorem dX11_checkOf_48 : decode cX11_checkOf 48 = .ok (.iload_n 3, 1) := by decide +kernel
theorem dX11_checkOf_49 : decode cX11_checkOf 49 = .ok (.ior, 1) := by decide +kernel
theorem dX11_checkOf_50 : decode cX11_checkOf 50 = .ok (.ireturn, 1) := by decide +kernel
theorem dX11_fixedLength_0 : decode cX11_fixedLength 0 = .ok (.iload_n 0, 1) := by decide +kernel
theorem dX11_fixedLength_1 : decode cX11_fixedLength 1 = .ok (.sipush 144, 3) := by decide +kernel
theorem dX11_fixedLength_4 : decode cX11_fixedLength 4 = .ok (.if_icmp .ge 6, 3) := by decide +kernel
theorem dX11_fixedLength_7 : decode cX11_fixedLength 7 = .ok (.bipush 8, 2) := by decide +kernel
theorem dX11_fixedLength_9 : decode cX11_fixedLength 9 = .ok (.ireturn, 1) := by decide +kernel
theorem dX11_fixedLength_10 : decode cX11_fixedLength 10 = .ok (.iload_n 0, 1) := by decide +kernel
theorem dX11_fixedLength_11 : decode cX11_fixedLength 11 = .ok (.sipush 256, 3) := by decide +kernel
theorem dX11_fixedLength_14 : decode cX11_fixedLength 14 = .ok (.if_icmp .ge 6, 3) := by decide +kernel
theorem dX11_fixedLength_17 : decode cX11_fixedLength 17 = .ok (.bipush 9, 2) := by decide +kernel
theorem dX11_fixedLength_19 : decode cX11_fixedLength 19 = .ok (.ireturn, 1) := by decide +kernel
theorem dX11_fixedLength_20 : decode cX11_fixedLength 20 = .ok (.iload_n 0, 1) := by decide +kernel
theorem dX11_fixedLength_21 : decode cX11_fixedLength 21 = .ok (.sipush 280, 3) := by decide +kernel
theorem dX11_fixedLength_24 : decode cX11_fixedLength 24 = .ok (.if_icmp .ge 8, 3) := by decide +kernel
theorem dX11_fixedLength_27 : decode cX11_fixedLength 27 = .ok (.bipush 7, 2) := by decide +kernel
theorem dX11_fixedLength_29 : decode cX11_fixedLength 29 = .ok (.goto 5, 3) := by decide +kernel
theorem dX11_fixedLength_32 : decode cX11_fixedLength 32 = .ok (.bipush 8, 2) := by decide +kernel
theorem dX11_fixedLength_34 : decode cX11_fixedLength 34 = .ok (.ireturn, 1) := by decide +kernel
theorem dX12_init_0 : decode cX12_init 0 = .ok (.aload_n 0, 1) := by decide +kernel
theorem dX12_init_1 : decode cX12_init 1 = .ok (.invokespecial 1, 3) := by decide +kernel
theorem dX12_init_4 : decode cX12_init 4 = .ok (.aload_n 0, 1) := by decide +kernel
theorem dX12_init_5 : decode cX12_init 5 = .ok (.sipush 1300, 3) := by decide +kernel
theorem dX12_init_8 : decode cX12_init 8 = .ok (.newarray .int, 2) := by decide +kernel
theorem dX12_init_10 : decode cX12_init 10 = .ok (.putfield 7, 3) := by decide +kernel
theorem dX12_init_13 : decode cX12_init 13 = .ok (.return_, 1) := by decide +kernel
theorem dX12_make_0 : decode cX12_make 0 = .ok (.aload_n 0, 1) := by decide +kernel
theorem dX12_make_1 : decode cX12_make 1 = .ok (.iconst 1, 1) := by decide +kernel
theorem dX12_make_2 : decode cX12_make 2 = .ok (.putfield 13, 3) := by decide +kernel
theorem dX12_make_5 : decode cX12_make 5 = .ok (.aload_n 0, 1) := by decide +kernel
theorem dX12_make_6 : decode cX12_make 6 = .ok (.getfield 7, 3) := by decide +kernel
theorem dX12_make_9 : decode cX12_make 9 = .ok (.iconst 0, 1) := by decide +kernel
theorem dX12_make_10 : decode cX12_make 10 = .ok (.iconst 0, 1) := by decide +kernel
theorem dX12_make_11 : decode cX12_make 11 = .ok (.iastore, 1) := by decide +kernel
theorem dX12_make_12 : decode cX12_make 12 = .ok (.aload_n 0, 1) := by decide +kernel
theorem dX12_make_13 : decode cX12_make 13 = .ok (.getfield 7, 3) := by decide +kernel
theorem dX12_make_16 : decode cX12_make 16 = .ok (.iconst 1, 1) := by decide +kernel
theorem dX12_make_17 : decode cX12_make 17 = .ok (.iconst 0, 1) := by decide +kernel
theorem dX12_make_18 : decode cX12_make 18 = .ok (.iastore, 1) := by decide +kernel
theorem dX12_make_19 : decode cX12_make 19 = .ok (.iconst 0, 1) := by decide +kernel
theorem dX12_make_20 : decode cX12_make 20 = .ok (.istore 5, 2) := by decide +kernel
theorem dX12_make_22 : decode cX12_make 22 = .ok (.iconst 0, 1) := by decide +kernel
theorem dX12_make_23 : decode cX12_make 23 = .ok (.istore 6, 2) := by decide +kernel
theorem dX12_make_25 : decode cX12_make 25 = .ok (.iconst 0, 1) := by decide +kernel
theorem dX12_make_26 : decode cX12_make 26 = .ok (.istore 7, 2) := by decide +kernel
theorem dX12_make_28 : decode cX12_make 28 = .ok (.iload 7, 2) := by decide +kernel
theorem dX12_make_30 : decode cX12_make 30 = .ok (.iload_n 3, 1) := by decide +kernel
theorem dX12_make_31 : decode cX12_make 31 = .ok (.if_icmp .ge 55, 3) := by decide +kernel
theorem dX12_make_34 : decode cX12_make 34 = .ok (.aload_n 1, 1) := by decide +kernel
theorem dX12_make_35 : decode cX12_make 35 = .ok (.iload_n 2, 1) := by decide +kernel
theorem dX12_make_36 : decode cX12_make 36 = .ok (.iload 7, 2) := by decide +kernel
theorem dX12_make_38 : decode cX12_make 38 = .ok (.iadd, 1) := by decide +kernel
theorem dX12_make_39 : decode cX12_make 39 = .ok (.iaload, 1) := by decide +kernel
theorem dX12_make_40 : decode cX12_make 40 = .ok (.istore 8, 2) := by decide +kernel
theorem dX12_make_42 : decode cX12_make 42 = .ok (.iload 8, 2) := by decide +kernel
theorem dX12_make_44 : decode cX12_make 44 = .ok (.ifCond .le 16, 3) := by decide +kernel
theorem dX12_make_47 : decode cX12_make 47 = .ok (.iload 5, 2) := by decide +kernel
theorem dX12_make_49 : decode cX12_make 49 = .ok (.iconst 1, 1) := by decide +kernel
theorem dX12_make_50 : decode cX12_make 50 = .ok (.bipush 15, 2) := by decide +kernel
theorem dX12_make_52 : decode cX12_make 52 = .ok (.iload 8, 2) := by decide +kernel
theorem dX12_make_54 : decode cX12_make 54 = .ok (.isub, 1) := by decide +kernel
theorem dX12_make_55 : decode cX12_make 55 = .ok (.ishl, 1) := by decide +kernel
theorem dX12_make_56 : decode cX12_make 56 = .ok (.iadd, 1) := by decide +kernel
theorem dX12_make_57 : decode cX12_make 57 = .ok (.goto 5, 3) := by decide +kernel
theorem dX12_make_60 : decode cX12_make 60 = .ok (.iload 5, 2) := by decide +kernel
theorem dX12_make_62 : decode cX12_make 62 = .ok (.istore 5, 2) := by decide +kernel
theorem dX12_make_64 : decode cX12_make 64 = .ok (.iload 8, 2) := by decide +kernel
theorem dX12_make_66 : decode cX12_make 66 = .ok (.ifCond .le 10, 3) := by decide +kernel
theorem dX12_make_69 : decode cX12_make 69 = .ok (.iload 6, 2) := by decide +kernel
theorem dX12_make_71 : decode cX12_make 71 = .ok (.iconst 1, 1) := by decide +kernel
theorem dX12_make_72 : decode cX12_make 72 = .ok (.iadd, 1) := by decide +kernel
theorem dX12_make_73 : decode cX12_make 73 = .ok (.goto 5, 3) := by decide +kernel
theorem dX12_make_76 : decode cX12_make 76 = .ok (.iload 6, 2) := by decide +kernel
theorem dX12_make_78 : decode cX12_make 78 = .ok (.istore 6, 2) := by decide +kernel
theorem dX12_make_80 : decode cX12_make 80 = .ok (.iinc 7 1, 3) := by decide +kernel
theorem dX12_make_83 : decode cX12_make 83 = .ok (.goto (-55), 3) := by decide +kernel
theorem dX12_make_86 : decode cX12_make 86 = .ok (.iload 5, 2) := by decide +kernel
theorem dX12_make_88 : decode cX12_make 88 = .ok (.ldc 17, 2) := by decide +kernel
theorem dX12_make_90 : decode cX12_make 90 = .ok (.if_icmp .eq 29, 3) := by decide +kernel
theorem dX12_make_93 : decode cX12_make 93 = .ok (.iload 6, 2) := by decide +kernel
theorem dX12_make_95 : decode cX12_make 95 = .ok (.iconst 1, 1) := by decide +kernel
theorem dX12_make_96 : decode cX12_make 96 = .ok (.if_icmp .ne 11, 3) := by decide +kernel
theorem dX12_make_99 : decode cX12_make 99 = .ok (.iload 5, 2) := by decide +kernel
theorem dX12_make_101 : decode cX12_make 101 = .ok (.sipush 16384, 3) := by decide +kernel
theorem dX12_make_104 : decode cX12_make 104 = .ok (.if_icmp .eq 15, 3) := by decide +kernel
theorem dX12_make_107 : decode cX12_make 107 = .ok (.iload 6, 2) := by decide +kernel
theorem dX12_make_109 : decode cX12_make 109 = .ok (.ifCond .ne 8, 3) := by decide +kernel
theorem dX12_make_112 : decode cX12_make 112 = .ok (.iload 4, 2) := by decide +kernel
theorem dX12_make_114 : decode cX12_make 114 = .ok (.ifCond .ne 5, 3) := by decide +kernel
theorem dX12_make_117 : decode cX12_make 117 = .ok (.iconst 0, 1) := by decide +kernel
theorem dX12_make_118 : decode cX12_make 118 = .ok (.ireturn, 1) := by decide +kernel
theorem dX12_make_119 : decode cX12_make 119 = .ok (.iconst 0, 1) := by decide +kernel
theorem dX12_make_120 : decode cX12_make 120 = .ok (.istore 7, 2) := by decide +kernel
theorem dX12_make_122 : decode cX12_make 122 = .ok (.iconst 1, 1) := by decide +kernel
theorem dX12_make_123 : decode cX12_make 123 = .ok (.istore 8, 2) := by decide +kernel
theorem dX12_make_125 : decode cX12_make 125 = .ok (.iload 8, 2) := by decide +kernel
theorem dX12_make_127 : decode cX12_make 127 = .ok (.bipush 16, 2) := by decide +kernel
theorem dX12_make_129 : decode cX12_make 129 = .ok (.if_icmp .ge 54, 3) := by decide +kernel
theorem dX12_make_132 : decode cX12_make 132 = .ok (.iconst 2, 1) := by decide +kernel
theorem dX12_make_133 : decode cX12_make 133 = .ok (.iload 7, 2) := by decide +kernel
theorem dX12_make_135 : decode cX12_make 135 = .ok (.imul, 1) := by decide +kernel
theorem dX12_make_136 : decode cX12_make 136 = .ok (.istore 7, 2) := by decide +kernel
theorem dX12_make_138 : decode cX12_make 138 = .ok (.iconst 0, 1) := by decide +kernel
theorem dX12_make_139 : decode cX12_make 139 = .ok (.istore 9, 2) := by decide +kernel
theorem dX12_make_141 : decode cX12_make 141 = .ok (.iload 9, 2) := by decide +kernel
theorem dX12_make_143 : decode cX12_make 143 = .ok (.iload_n 3, 1) := by decide +kernel
theorem dX12_make_144 : decode cX12_make 144 = .ok (.if_icmp .ge 33, 3) := by decide +kernel
theorem dX12_make_147 : decode cX12_make 147 = .ok (.aload_n 1, 1) := by decide +kernel
theorem dX12_make_148 : decode cX12_make 148 = .ok (.iload_n 2, 1) := by decide +kernel
theorem dX12_make_149 : decode cX12_make 149 = .ok (.iload 9, 2) := by decide +kernel
theorem dX12_make_151 : decode cX12_make 151 = .ok (.iadd, 1) := by decide +kernel
theorem dX12_make_152 : decode cX12_make 152 = .ok (.iaload, 1) := by decide +kernel
theorem dX12_make_153 : decode cX12_make 153 = .ok (.iload 8, 2) := by decide +kernel
theorem dX12_make_155 : decode cX12_make 155 = .ok (.if_icmp .ne 16, 3) := by decide +kernel
theorem dX12_make_158 : decode cX12_make 158 = .ok (.aload_n 0, 1) := by decide +kernel
theorem dX12_make_159 : decode cX12_make 159 = .ok (.iload 7, 2) := by decide +kernel
theorem dX12_make_161 : decode cX12_make 161 = .ok (.iload 8, 2) := by decide +kernel
theorem dX12_make_163 : decode cX12_make 163 = .ok (.iload 9, 2) := by decide +kernel
theorem dX12_make_165 : decode cX12_make 165 = .ok (.invokevirtual 18, 3) := by decide +kernel
theorem dX12_make_168 : decode cX12_make 168 = .ok (.iinc 7 1, 3) := by decide +kernel
theorem dX12_make_171 : decode cX12_make 171 = .ok (.iinc 9 1, 3) := by decide +kernel
theorem dX12_make_174 : decode cX12_make 174 = .ok (.goto (-33), 3) := by decide +kernel
theorem dX12_make_177 : decode cX12_make 177 = .ok (.iinc 8 1, 3) := by decide +kernel
theorem dX12_make_180 : decode cX12_make 180 = .ok (.goto (-55), 3) := by decide +kernel
theorem dX12_make_183 : decode cX12_make 183 = .ok (.iconst 1, 1) := by decide +kernel
theorem dX12_make_184 : decode cX12_make 184 = .ok (.ireturn, 1) := by decide +kernel
theorem dX12_grow_0 : decode cX12_grow 0 = .ok (.iconst 0, 1) := by decide +kernel
theorem dX12_grow_1 : decode cX12_grow 1 = .ok (.istore 4, 2) := by decide +kernel
theorem dX12_grow_3 : decode cX12_grow 3 = .ok (.iload_n 2, 1) := by decide +kernel
theorem dX12_grow_4 : decode cX12_grow 4 = .ok (.iconst 1, 1) := by decide +kernel
theorem dX12_grow_5 : decode cX12_grow 5 = .ok (.isub, 1) := by decide +kernel
theorem dX12_grow_6 : decode cX12_grow 6 = .ok (.istore 5, 2) := by decide +kernel
theorem dX12_grow_8 : decode cX12_grow 8 = .ok (.iload 5, 2) := by decide +kernel
theorem dX12_grow_10 : decode cX12_grow 10 = .ok (.ifCond .le 88, 3) := by decide +kernel
theorem dX12_grow_13 : decode cX12_grow 13 = .ok (.iconst 2, 1) := by decide +kernel
theorem dX12_grow_14 : decode cX12_grow 14 = .ok (.iload 4, 2) := by decide +kernel
theorem dX12_grow_16 : decode cX12_grow 16 = .ok (.imul, 1) := by decide +kernel
theorem dX12_grow_17 : decode cX12_grow 17 = .ok (.iload_n 1, 1) := by decide +kernel
theorem dX12_grow_18 : decode cX12_grow 18 = .ok (.iload 5, 2) := by decide +kernel
theorem dX12_grow_20 : decode cX12_grow 20 = .ok (.ishr, 1) := by decide +kernel
theorem dX12_grow_21 : decode cX12_grow 21 = .ok (.iconst 1, 1) := by decide +kernel
theorem dX12_grow_22 : decode cX12_grow 22 = .ok (.iand, 1) := by decide +kernel
theorem dX12_grow_23 : decode cX12_grow 23 = .ok (.iadd, 1) := by decide +kernel
theorem dX12_grow_24 : decode cX12_grow 24 = .ok (.istore 6, 2) := by decide +kernel
theorem dX12_grow_26 : decode cX12_grow 26 = .ok (.aload_n 0, 1) := by decide +kernel
theorem dX12_grow_27 : decode cX12_grow 27 = .ok (.getfield 7, 3) := by decide +kernel
theorem dX12_grow_30 : decode cX12_grow 30 = .ok (.iload 6, 2) := by decide +kernel
theorem dX12_grow_32 : decode cX12_grow 32 = .ok (.iaload, 1) := by decide +kernel
theorem dX12_grow_33 : decode cX12_grow 33 = .ok (.ifCond .ne 50, 3) := by decide +kernel
theorem dX12_grow_36 : decode cX12_grow 36 = .ok (.aload_n 0, 1) := by decide +kernel
theorem dX12_grow_37 : decode cX12_grow 37 = .ok (.getfield 7, 3) := by decide +kernel
theorem dX12_grow_40 : decode cX12_grow 40 = .ok (.iload 6, 2) := by decide +kernel
theorem dX12_grow_42 : decode cX12_grow 42 = .ok (.aload_n 0, 1) := by decide +kernel
theorem dX12_grow_43 : decode cX12_grow 43 = .ok (.getfield 13, 3) := by decide +kernel
theorem dX12_grow_46 : decode cX12_grow 46 = .ok (.iastore, 1) := by decide +kernel
theorem dX12_grow_47 : decode cX12_grow 47 = .ok (.aload_n 0, 1) := by decide +kernel
theorem dX12_grow_48 : decode cX12_grow 48 = .ok (.getfield 7, 3) := by decide +kernel
theorem dX12_grow_51 : decode cX12_grow 51 = .ok (.iconst 2, 1) := by decide +kernel
theorem dX12_grow_52 : decode cX12_grow 52 = .ok (.aload_n 0, 1) := by decide +kernel
theorem dX12_grow_53 : decode cX12_grow 53 = .ok (.getfield 13, 3) := by decide +kernel
theorem dX12_grow_56 : decode cX12_grow 56 = .ok (.imul, 1) := by decide +kernel
theorem dX12_grow_57 : decode cX12_grow 57 = .ok (.iconst 0, 1) := by decide +kernel
theorem dX12_grow_58 : decode cX12_grow 58 = .ok (.iastore, 1) := by decide +kernel
theorem dX12_grow_59 : decode cX12_grow 59 = .ok (.aload_n 0, 1) := by decide +kernel
theorem dX12_grow_60 : decode cX12_grow 60 = .ok (.getfield 7, 3) := by decide +kernel
theorem dX12_grow_63 : decode cX12_grow 63 = .ok (.iconst 2, 1) := by decide +kernel
theorem dX12_grow_64 : decode cX12_grow 64 = .ok (.aload_n 0, 1) := by decide +kernel
theorem dX12_grow_65 : decode cX12_grow 65 = .ok (.getfield 13, 3) := by decide +kernel
theorem dX12_grow_68 : decode cX12_grow 68 = .ok (.imul, 1) := by decide +kernel
theorem dX12_grow_69 : decode cX12_grow 69 = .ok (.iconst 1, 1) := by decide +kernel
theorem dX12_grow_70 : decode cX12_grow 70 = .ok (.iadd, 1) := by decide +kernel
theorem dX12_grow_71 : decode cX12_grow 71 = .ok (.iconst 0, 1) := by decide +kernel
theorem dX12_grow_72 : decode cX12_grow 72 = .ok (.iastore, 1) := by decide +kernel
theorem dX12_grow_73 : decode cX12_grow 73 = .ok (.aload_n 0, 1) := by decide +kernel
theorem dX12_grow_74 : decode cX12_grow 74 = .ok (.dup, 1) := by decide +kernel
theorem dX12_grow_75 : decode cX12_grow 75 = .ok (.getfield 13, 3) := by decide +kernel
theorem dX12_grow_78 : decode cX12_grow 78 = .ok (.iconst 1, 1) := by decide +kernel
theorem dX12_grow_79 : decode cX12_grow 79 = .ok (.iadd, 1) := by decide +kernel
theorem dX12_grow_80 : decode cX12_grow 80 = .ok (.putfield 13, 3) := by decide +kernel
theorem dX12_grow_83 : decode cX12_grow 83 = .ok (.aload_n 0, 1) := by decide +kernel
theorem dX12_grow_84 : decode cX12_grow 84 = .ok (.getfield 7, 3) := by decide +kernel
theorem dX12_grow_87 : decode cX12_grow 87 = .ok (.iload 6, 2) := by decide +kernel
theorem dX12_grow_89 : decode cX12_grow 89 = .ok (.iaload, 1) := by decide +kernel
theorem dX12_grow_90 : decode cX12_grow 90 = .ok (.istore 4, 2) := by decide +kernel
theorem dX12_grow_92 : decode cX12_grow 92 = .ok (.iinc 5 (-1), 3) := by decide +kernel
theorem dX12_grow_95 : decode cX12_grow 95 = .ok (.goto (-87), 3) := by decide +kernel
theorem dX12_grow_98 : decode cX12_grow 98 = .ok (.aload_n 0, 1) := by decide +kernel
theorem dX12_grow_99 : decode cX12_grow 99 = .ok (.getfield 7, 3) := by decide +kernel
theorem dX12_grow_102 : decode cX12_grow 102 = .ok (.iconst 2, 1) := by decide +kernel
theorem dX12_grow_103 : decode cX12_grow 103 = .ok (.iload 4, 2) := by decide +kernel
theorem dX12_grow_105 : decode cX12_grow 105 = .ok (.imul, 1) := by decide +kernel
theorem dX12_grow_106 : decode cX12_grow 106 = .ok (.iload_n 1, 1) := by decide +kernel
theorem dX12_grow_107 : decode cX12_grow 107 = .ok (.iconst 1, 1) := by decide +kernel
theorem dX12_grow_108 : decode cX12_grow 108 = .ok (.iand, 1) := by decide +kernel
theorem dX12_grow_109 : decode cX12_grow 109 = .ok (.iadd, 1) := by decide +kernel
theorem dX12_grow_110 : decode cX12_grow 110 = .ok (.iconst (-1), 1) := by decide +kernel
theorem dX12_grow_111 : decode cX12_grow 111 = .ok (.iload_n 3, 1) := by decide +kernel
theorem dX12_grow_112 : decode cX12_grow 112 = .ok (.isub, 1) := by decide +kernel
theorem dX12_grow_113 : decode cX12_grow 113 = .ok (.iastore, 1) := by decide +kernel
theorem dX12_grow_114 : decode cX12_grow 114 = .ok (.return_, 1) := by decide +kernel
