theorem dX0_init_0 : decode cX0_init 0 = .ok (.aload_n 0, 1) := by decide +kernel
theorem dX0_init_1 : decode cX0_init 1 = .ok (.invokespecial 3, 3) := by decide +kernel
theorem dX0_init_4 : decode cX0_init 4 = .ok (.return_, 1) := by decide +kernel
theorem dX0_lay_0 : decode cX0_lay 0 = .ok (.iload_n 3, 1) := by decide +kernel
theorem dX0_lay_1 : decode cX0_lay 1 = .ok (.bipush 8, 2) := by decide +kernel
theorem dX0_lay_3 : decode cX0_lay 3 = .ok (.if_icmp .lt 7, 3) := by decide +kernel
theorem dX0_lay_6 : decode cX0_lay 6 = .ok (.iconst 1, 1) := by decide +kernel
theorem dX0_lay_7 : decode cX0_lay 7 = .ok (.goto 4, 3) := by decide +kernel
theorem dX0_lay_10 : decode cX0_lay 10 = .ok (.iconst 0, 1) := by decide +kernel
theorem dX0_lay_11 : decode cX0_lay 11 = .ok (.istore 5, 2) := by decide +kernel
theorem dX0_lay_13 : decode cX0_lay 13 = .ok (.iload 5, 2) := by decide +kernel
theorem dX0_lay_15 : decode cX0_lay 15 = .ok (.ifCond .eq 17, 3) := by decide +kernel
theorem dX0_lay_18 : decode cX0_lay 18 = .ok (.aload_n 1, 1) := by decide +kernel
theorem dX0_lay_19 : decode cX0_lay 19 = .ok (.getfield 9, 3) := by decide +kernel
theorem dX0_lay_22 : decode cX0_lay 22 = .ok (.iload_n 2, 1) := by decide +kernel
theorem dX0_lay_23 : decode cX0_lay 23 = .ok (.iaload, 1) := by decide +kernel
theorem dX0_lay_24 : decode cX0_lay 24 = .ok (.iconst 1, 1) := by decide +kernel
theorem dX0_lay_25 : decode cX0_lay 25 = .ok (.if_icmp .ne 7, 3) := by decide +kernel
theorem dX0_lay_28 : decode cX0_lay 28 = .ok (.iconst 1, 1) := by decide +kernel
theorem dX0_lay_29 : decode cX0_lay 29 = .ok (.goto 4, 3) := by decide +kernel
theorem dX0_lay_32 : decode cX0_lay 32 = .ok (.iconst 0, 1) := by decide +kernel
theorem dX0_lay_33 : decode cX0_lay 33 = .ok (.istore 6, 2) := by decide +kernel
theorem dX0_lay_35 : decode cX0_lay 35 = .ok (.aload_n 0, 1) := by decide +kernel
theorem dX0_lay_36 : decode cX0_lay 36 = .ok (.iload 5, 2) := by decide +kernel
theorem dX0_lay_38 : decode cX0_lay 38 = .ok (.ifCond .eq 12, 3) := by decide +kernel
theorem dX0_lay_41 : decode cX0_lay 41 = .ok (.iload 6, 2) := by decide +kernel
theorem dX0_lay_43 : decode cX0_lay 43 = .ok (.ifCond .ne 7, 3) := by decide +kernel
theorem dX0_lay_46 : decode cX0_lay 46 = .ok (.iconst 1, 1) := by decide +kernel
theorem dX0_lay_47 : decode cX0_lay 47 = .ok (.goto 4, 3) := by decide +kernel
theorem dX0_lay_50 : decode cX0_lay 50 = .ok (.iconst 0, 1) := by decide +kernel
theorem dX0_lay_51 : decode cX0_lay 51 = .ok (.putfield 15, 3) := by decide +kernel
theorem dX0_lay_54 : decode cX0_lay 54 = .ok (.iload 6, 2) := by decide +kernel
theorem dX0_lay_56 : decode cX0_lay 56 = .ok (.ifCond .eq 16, 3) := by decide +kernel
theorem dX0_lay_59 : decode cX0_lay 59 = .ok (.aload_n 1, 1) := by decide +kernel
theorem dX0_lay_60 : decode cX0_lay 60 = .ok (.getfield 21, 3) := by decide +kernel
theorem dX0_lay_63 : decode cX0_lay 63 = .ok (.iload_n 2, 1) := by decide +kernel
theorem dX0_lay_64 : decode cX0_lay 64 = .ok (.iaload, 1) := by decide +kernel
theorem dX0_lay_65 : decode cX0_lay 65 = .ok (.iconst 1, 1) := by decide +kernel
theorem dX0_lay_66 : decode cX0_lay 66 = .ok (.iadd, 1) := by decide +kernel
theorem dX0_lay_67 : decode cX0_lay 67 = .ok (.iconst 2, 1) := by decide +kernel
theorem dX0_lay_68 : decode cX0_lay 68 = .ok (.idiv, 1) := by decide +kernel
theorem dX0_lay_69 : decode cX0_lay 69 = .ok (.goto 9, 3) := by decide +kernel
theorem dX0_lay_72 : decode cX0_lay 72 = .ok (.aload_n 1, 1) := by decide +kernel
theorem dX0_lay_73 : decode cX0_lay 73 = .ok (.getfield 21, 3) := by decide +kernel
theorem dX0_lay_76 : decode cX0_lay 76 = .ok (.iload_n 2, 1) := by decide +kernel
theorem dX0_lay_77 : decode cX0_lay 77 = .ok (.iaload, 1) := by decide +kernel
theorem dX0_lay_78 : decode cX0_lay 78 = .ok (.istore 7, 2) := by decide +kernel
theorem dX0_lay_80 : decode cX0_lay 80 = .ok (.iload 6, 2) := by decide +kernel
theorem dX0_lay_82 : decode cX0_lay 82 = .ok (.ifCond .eq 14, 3) := by decide +kernel
theorem dX0_lay_85 : decode cX0_lay 85 = .ok (.iconst 2, 1) := by decide +kernel
theorem dX0_lay_86 : decode cX0_lay 86 = .ok (.aload_n 1, 1) := by decide +kernel
theorem dX0_lay_87 : decode cX0_lay 87 = .ok (.getfield 24, 3) := by decide +kernel
theorem dX0_lay_90 : decode cX0_lay 90 = .ok (.iload_n 2, 1) := by decide +kernel
theorem dX0_lay_91 : decode cX0_lay 91 = .ok (.iaload, 1) := by decide +kernel
theorem dX0_lay_92 : decode cX0_lay 92 = .ok (.imul, 1) := by decide +kernel
theorem dX0_lay_93 : decode cX0_lay 93 = .ok (.goto 9, 3) := by decide +kernel
theorem dX0_lay_96 : decode cX0_lay 96 = .ok (.aload_n 1, 1) := by decide +kernel
theorem dX0_lay_97 : decode cX0_lay 97 = .ok (.getfield 24, 3) := by decide +kernel
theorem dX0_lay_100 : decode cX0_lay 100 = .ok (.iload_n 2, 1) := by decide +kernel
theorem dX0_lay_101 : decode cX0_lay 101 = .ok (.iaload, 1) := by decide +kernel
theorem dX0_lay_102 : decode cX0_lay 102 = .ok (.istore 8, 2) := by decide +kernel
theorem dX0_lay_104 : decode cX0_lay 104 = .ok (.aload_n 0, 1) := by decide +kernel
theorem dX0_lay_105 : decode cX0_lay 105 = .ok (.getfield 15, 3) := by decide +kernel
theorem dX0_lay_108 : decode cX0_lay 108 = .ok (.ifCond .eq 8, 3) := by decide +kernel
theorem dX0_lay_111 : decode cX0_lay 111 = .ok (.bipush 40, 2) := by decide +kernel
theorem dX0_lay_113 : decode cX0_lay 113 = .ok (.goto 4, 3) := by decide +kernel
theorem dX0_lay_116 : decode cX0_lay 116 = .ok (.iconst 2, 1) := by decide +kernel
theorem dX0_lay_117 : decode cX0_lay 117 = .ok (.istore 9, 2) := by decide +kernel
theorem dX0_lay_119 : decode cX0_lay 119 = .ok (.iload 5, 2) := by decide +kernel
theorem dX0_lay_121 : decode cX0_lay 121 = .ok (.ifCond .eq 10, 3) := by decide +kernel
theorem dX0_lay_124 : decode cX0_lay 124 = .ok (.iload_n 3, 1) := by decide +kernel
theorem dX0_lay_125 : decode cX0_lay 125 = .ok (.bipush 8, 2) := by decide +kernel
theorem dX0_lay_127 : decode cX0_lay 127 = .ok (.isub, 1) := by decide +kernel
theorem dX0_lay_128 : decode cX0_lay 128 = .ok (.goto 4, 3) := by decide +kernel
theorem dX0_lay_131 : decode cX0_lay 131 = .ok (.iload_n 3, 1) := by decide +kernel
theorem dX0_lay_132 : decode cX0_lay 132 = .ok (.istore 10, 2) := by decide +kernel
theorem dX0_lay_134 : decode cX0_lay 134 = .ok (.aload_n 1, 1) := by decide +kernel
theorem dX0_lay_135 : decode cX0_lay 135 = .ok (.getfield 27, 3) := by decide +kernel
theorem dX0_lay_138 : decode cX0_lay 138 = .ok (.iload_n 2, 1) := by decide +kernel
theorem dX0_lay_139 : decode cX0_lay 139 = .ok (.iaload, 1) := by decide +kernel
theorem dX0_lay_140 : decode cX0_lay 140 = .ok (.iload 4, 2) := by decide +kernel
theorem dX0_lay_142 : decode cX0_lay 142 = .ok (.ishl, 1) := by decide +kernel
theorem dX0_lay_143 : decode cX0_lay 143 = .ok (.istore 11, 2) := by decide +kernel
theorem dX0_lay_145 : decode cX0_lay 145 = .ok (.aload_n 1, 1) := by decide +kernel
theorem dX0_lay_146 : decode cX0_lay 146 = .ok (.getfield 30, 3) := by decide +kernel
theorem dX0_lay_149 : decode cX0_lay 149 = .ok (.iload_n 2, 1) := by decide +kernel
theorem dX0_lay_150 : decode cX0_lay 150 = .ok (.iaload, 1) := by decide +kernel
theorem dX0_lay_151 : decode cX0_lay 151 = .ok (.iload 4, 2) := by decide +kernel
theorem dX0_lay_153 : decode cX0_lay 153 = .ok (.ishl, 1) := by decide +kernel
theorem dX0_lay_154 : decode cX0_lay 154 = .ok (.istore 12, 2) := by decide +kernel
theorem dX0_lay_156 : decode cX0_lay 156 = .ok (.aload_n 0, 1) := by decide +kernel
theorem dX0_lay_157 : decode cX0_lay 157 = .ok (.iload 11, 2) := by decide +kernel
theorem dX0_lay_159 : decode cX0_lay 159 = .ok (.getstatic 33, 3) := by decide +kernel
theorem dX0_lay_162 : decode cX0_lay 162 = .ok (.iload 10, 2) := by decide +kernel
theorem dX0_lay_164 : decode cX0_lay 164 = .ok (.iaload, 1) := by decide +kernel
theorem dX0_lay_165 : decode cX0_lay 165 = .ok (.iload 7, 2) := by decide +kernel
theorem dX0_lay_167 : decode cX0_lay 167 = .ok (.iload 9, 2) := by decide +kernel
theorem dX0_lay_169 : decode cX0_lay 169 = .ok (.invokestatic 36, 3) := by decide +kernel
theorem dX0_lay_172 : decode cX0_lay 172 = .ok (.putfield 40, 3) := by decide +kernel
theorem dX0_lay_175 : decode cX0_lay 175 = .ok (.aload_n 0, 1) := by decide +kernel
theorem dX0_lay_176 : decode cX0_lay 176 = .ok (.iload 12, 2) := by decide +kernel
theorem dX0_lay_178 : decode cX0_lay 178 = .ok (.getstatic 44, 3) := by decide +kernel
theorem dX0_lay_181 : decode cX0_lay 181 = .ok (.iload 10, 2) := by decide +kernel
theorem dX0_lay_183 : decode cX0_lay 183 = .ok (.iaload, 1) := by decide +kernel
theorem dX0_lay_184 : decode cX0_lay 184 = .ok (.iload 8, 2) := by decide +kernel
theorem dX0_lay_186 : decode cX0_lay 186 = .ok (.iload 9, 2) := by decide +kernel
theorem dX0_lay_188 : decode cX0_lay 188 = .ok (.invokestatic 36, 3) := by decide +kernel
theorem dX0_lay_191 : decode cX0_lay 191 = .ok (.putfield 47, 3) := by decide +kernel
theorem dX0_lay_194 : decode cX0_lay 194 = .ok (.aload_n 0, 1) := by decide +kernel
theorem dX0_lay_195 : decode cX0_lay 195 = .ok (.aload_n 0, 1) := by decide +kernel
theorem dX0_lay_196 : decode cX0_lay 196 = .ok (.getfield 40, 3) := by decide +kernel
theorem dX0_lay_199 : decode cX0_lay 199 = .ok (.iload 7, 2) := by decide +kernel
theorem dX0_lay_201 : decode cX0_lay 201 = .ok (.iadd, 1) := by decide +kernel
theorem dX0_lay_202 : decode cX0_lay 202 = .ok (.putfield 50, 3) := by decide +kernel
theorem dX0_lay_205 : decode cX0_lay 205 = .ok (.aload_n 0, 1) := by decide +kernel
theorem dX0_lay_206 : decode cX0_lay 206 = .ok (.aload_n 0, 1) := by decide +kernel
theorem dX0_lay_207 : decode cX0_lay 207 = .ok (.getfield 47, 3) := by decide +kernel
theorem dX0_lay_210 : decode cX0_lay 210 = .ok (.iload 8, 2) := by decide +kernel
theorem dX0_lay_212 : decode cX0_lay 212 = .ok (.iadd, 1) := by decide +kernel
theorem dX0_lay_213 : decode cX0_lay 213 = .ok (.putfield 53, 3) := by decide +kernel
theorem dX0_lay_216 : decode cX0_lay 216 = .ok (.aload_n 0, 1) := by decide +kernel
theorem dX0_lay_217 : decode cX0_lay 217 = .ok (.iconst 2, 1) := by decide +kernel
theorem dX0_lay_218 : decode cX0_lay 218 = .ok (.iload 11, 2) := by decide +kernel
theorem dX0_lay_220 : decode cX0_lay 220 = .ok (.imul, 1) := by decide +kernel
theorem dX0_lay_221 : decode cX0_lay 221 = .ok (.putfield 56, 3) := by decide +kernel
theorem dX0_lay_224 : decode cX0_lay 224 = .ok (.aload_n 0, 1) := by decide +kernel
theorem dX0_lay_225 : decode cX0_lay 225 = .ok (.iconst 2, 1) := by decide +kernel
theorem dX0_lay_226 : decode cX0_lay 226 = .ok (.iload 12, 2) := by decide +kernel
theorem dX0_lay_228 : decode cX0_lay 228 = .ok (.imul, 1) := by decide +kernel
theorem dX0_lay_229 : decode cX0_lay 229 = .ok (.putfield 59, 3) := by decide +kernel
theorem dX0_lay_232 : decode cX0_lay 232 = .ok (.aload_n 0, 1) := by decide +kernel
theorem dX0_lay_233 : decode cX0_lay 233 = .ok (.aload_n 0, 1) := by decide +kernel
theorem dX0_lay_234 : decode cX0_lay 234 = .ok (.getfield 40, 3) := by decide +kernel
theorem dX0_lay_237 : decode cX0_lay 237 = .ok (.aload_n 0, 1) := by decide +kernel
theorem dX0_lay_238 : decode cX0_lay 238 = .ok (.getfield 50, 3) := by decide +kernel
theorem dX0_lay_241 : decode cX0_lay 241 = .ok (.iadd, 1) := by decide +kernel
theorem dX0_lay_242 : decode cX0_lay 242 = .ok (.putfield 62, 3) := by decide +kernel
theorem dX0_lay_245 : decode cX0_lay 245 = .ok (.aload_n 0, 1) := by decide +kernel
theorem dX0_lay_246 : decode cX0_lay 246 = .ok (.aload_n 0, 1) := by decide +kernel
theorem dX0_lay_247 : decode cX0_lay 247 = .ok (.getfield 47, 3) := by decide +kernel
theorem dX0_lay_250 : decode cX0_lay 250 = .ok (.aload_n 0, 1) := by decide +kernel
theorem dX0_lay_251 : decode cX0_lay 251 = .ok (.getfield 53, 3) := by decide +kernel
theorem dX0_lay_254 : decode cX0_lay 254 = .ok (.iadd, 1) := by decide +kernel
theorem dX0_lay_255 : decode cX0_lay 255 = .ok (.putfield 65, 3) := by decide +kernel
theorem dX0_lay_258 : decode cX0_lay 258 = .ok (.return_, 1) := by decide +kernel
theorem dX0_start_0 : decode cX0_start 0 = .ok (.iload_n 1, 1) := by decide +kernel
theorem dX0_start_1 : decode cX0_start 1 = .ok (.ifCond .ne 9, 3) := by decide +kernel
theorem dX0_start_4 : decode cX0_start 4 = .ok (.iload_n 0, 1) := by decide +kernel
theorem dX0_start_5 : decode cX0_start 5 = .ok (.iload_n 2, 1) := by decide +kernel
theorem dX0_start_6 : decode cX0_start 6 = .ok (.iconst 2, 1) := by decide +kernel
theorem dX0_start_7 : decode cX0_start 7 = .ok (.idiv, 1) := by decide +kernel
theorem dX0_start_8 : decode cX0_start 8 = .ok (.isub, 1) := by decide +kernel
theorem dX0_start_9 : decode cX0_start 9 = .ok (.ireturn, 1) := by decide +kernel
theorem dX0_start_10 : decode cX0_start 10 = .ok (.iload_n 1, 1) := by decide +kernel
theorem dX0_start_11 : decode cX0_start 11 = .ok (.ifCond .le 9, 3) := by decide +kernel
theorem dX0_start_14 : decode cX0_start 14 = .ok (.iload_n 0, 1) := by decide +kernel
theorem dX0_start_15 : decode cX0_start 15 = .ok (.iload_n 3, 1) := by decide +kernel
theorem dX0_start_16 : decode cX0_start 16 = .ok (.iadd, 1) := by decide +kernel
theorem dX0_start_17 : decode cX0_start 17 = .ok (.goto 8, 3) := by decide +kernel
theorem dX0_start_20 : decode cX0_start 20 = .ok (.iload_n 0, 1) := by decide +kernel
theorem dX0_start_21 : decode cX0_start 21 = .ok (.iload_n 3, 1) := by decide +kernel
theorem dX0_start_22 : decode cX0_start 22 = .ok (.isub, 1) := by decide +kernel
theorem dX0_start_23 : decode cX0_start 23 = .ok (.iload_n 2, 1) := by decide +kernel
theorem dX0_start_24 : decode cX0_start 24 = .ok (.isub, 1) := by decide +kernel
theorem dX0_start_25 : decode cX0_start 25 = .ok (.ireturn, 1) := by decide +kernel
theorem dX0_covers_0 : decode cX0_covers 0 = .ok (.aload_n 0, 1) := by decide +kernel
theorem dX0_covers_1 : decode cX0_covers 1 = .ok (.getfield 40, 3) := by decide +kernel
theorem dX0_covers_4 : decode cX0_covers 4 = .ok (.iload_n 1, 1) := by decide +kernel
theorem dX0_covers_5 : decode cX0_covers 5 = .ok (.if_icmp .ge 31, 3) := by decide +kernel
theorem dX0_covers_8 : decode cX0_covers 8 = .ok (.iload_n 1, 1) := by decide +kernel
theorem dX0_covers_9 : decode cX0_covers 9 = .ok (.aload_n 0, 1) := by decide +kernel
theorem dX0_covers_10 : decode cX0_covers 10 = .ok (.getfield 50, 3) := by decide +kernel
theorem dX0_covers_13 : decode cX0_covers 13 = .ok (.if_icmp .ge 23, 3) := by decide +kernel
theorem dX0_covers_16 : decode cX0_covers 16 = .ok (.aload_n 0, 1) := by decide +kernel
theorem dX0_covers_17 : decode cX0_covers 17 = .ok (.getfield 47, 3) := by decide +kernel
theorem dX0_covers_20 : decode cX0_covers 20 = .ok (.iload_n 2, 1) := by decide +kernel
theorem dX0_covers_21 : decode cX0_covers 21 = .ok (.if_icmp .ge 15, 3) := by decide +kernel
theorem dX0_covers_24 : decode cX0_covers 24 = .ok (.iload_n 2, 1) := by decide +kernel
theorem dX0_covers_25 : decode cX0_covers 25 = .ok (.aload_n 0, 1) := by decide +kernel
theorem dX0_covers_26 : decode cX0_covers 26 = .ok (.getfield 53, 3) := by decide +kernel
theorem dX0_covers_29 : decode cX0_covers 29 = .ok (.if_icmp .ge 7, 3) := by decide +kernel
theorem dX0_covers_32 : decode cX0_covers 32 = .ok (.iconst 1, 1) := by decide +kernel
theorem dX0_covers_33 : decode cX0_covers 33 = .ok (.goto 4, 3) := by decide +kernel
theorem dX0_covers_36 : decode cX0_covers 36 = .ok (.iconst 0, 1) := by decide +kernel
theorem dX0_covers_37 : decode cX0_covers 37 = .ok (.ireturn, 1) := by decide +kernel
theorem dX0_overlaps_0 : decode cX0_overlaps 0 = .ok (.aload_n 0, 1) := by decide +kernel
theorem dX0_overlaps_1 : decode cX0_overlaps 1 = .ok (.getfield 40, 3) := by decide +kernel
theorem dX0_overlaps_4 : decode cX0_overlaps 4 = .ok (.iload_n 3, 1) := by decide +kernel
theorem dX0_overlaps_5 : decode cX0_overlaps 5 = .ok (.if_icmp .ge 32, 3) := by decide +kernel
theorem dX0_overlaps_8 : decode cX0_overlaps 8 = .ok (.iload_n 1, 1) := by decide +kernel
theorem dX0_overlaps_9 : decode cX0_overlaps 9 = .ok (.aload_n 0, 1) := by decide +kernel
theorem dX0_overlaps_10 : decode cX0_overlaps 10 = .ok (.getfield 50, 3) := by decide +kernel
theorem dX0_overlaps_13 : decode cX0_overlaps 13 = .ok (.if_icmp .ge 24, 3) := by decide +kernel
theorem dX0_overlaps_16 : decode cX0_overlaps 16 = .ok (.aload_n 0, 1) := by decide +kernel
theorem dX0_overlaps_17 : decode cX0_overlaps 17 = .ok (.getfield 47, 3) := by decide +kernel
theorem dX0_overlaps_20 : decode cX0_overlaps 20 = .ok (.iload 4, 2) := by decide +kernel
theorem dX0_overlaps_22 : decode cX0_overlaps 22 = .ok (.if_icmp .ge 15, 3) := by decide +kernel
theorem dX0_overlaps_25 : decode cX0_overlaps 25 = .ok (.iload_n 2, 1) := by decide +kernel
theorem dX0_overlaps_26 : decode cX0_overlaps 26 = .ok (.aload_n 0, 1) := by decide +kernel
theorem dX0_overlaps_27 : decode cX0_overlaps 27 = .ok (.getfield 53, 3) := by decide +kernel
theorem dX0_overlaps_30 : decode cX0_overlaps 30 = .ok (.if_icmp .ge 7, 3) := by decide +kernel
theorem dX0_overlaps_33 : decode cX0_overlaps 33 = .ok (.iconst 1, 1) := by decide +kernel
theorem dX0_overlaps_34 : decode cX0_overlaps 34 = .ok (.goto 4, 3) := by decide +kernel
theorem dX0_overlaps_37 : decode cX0_overlaps 37 = .ok (.iconst 0, 1) := by decide +kernel
theorem dX0_overlaps_38 : decode cX0_overlaps 38 = .ok (.ireturn, 1) := by decide +kernel
theorem dX0_isOpen_0 : decode cX0_isOpen 0 = .ok (.sipush 1000, 3) := by decide +kernel
theorem dX0_isOpen_3 : decode cX0_isOpen 3 = .ok (.iload_n 2, 1) := by decide +kernel
theorem dX0_isOpen_4 : decode cX0_isOpen 4 = .ok (.ishl, 1) := by decide +kernel
theorem dX0_isOpen_5 : decode cX0_isOpen 5 = .ok (.istore_n 3, 1) := by decide +kernel
theorem dX0_isOpen_6 : decode cX0_isOpen 6 = .ok (.aload_n 0, 1) := by decide +kernel
theorem dX0_isOpen_7 : decode cX0_isOpen 7 = .ok (.getfield 40, 3) := by decide +kernel
theorem dX0_isOpen_10 : decode cX0_isOpen 10 = .ok (.ifCond .lt 26, 3) := by decide +kernel
theorem dX0_isOpen_13 : decode cX0_isOpen 13 = .ok (.aload_n 0, 1) := by decide +kernel
theorem dX0_isOpen_14 : decode cX0_isOpen 14 = .ok (.getfield 47, 3) := by decide +kernel
theorem dX0_isOpen_17 : decode cX0_isOpen 17 = .ok (.ifCond .lt 19, 3) := by decide +kernel
theorem dX0_isOpen_20 : decode cX0_isOpen 20 = .ok (.aload_n 0, 1) := by decide +kernel
theorem dX0_isOpen_21 : decode cX0_isOpen 21 = .ok (.getfield 50, 3) := by decide +kernel
theorem dX0_isOpen_24 : decode cX0_isOpen 24 = .ok (.iload_n 3, 1) := by decide +kernel
theorem dX0_isOpen_25 : decode cX0_isOpen 25 = .ok (.if_icmp .gt 11, 3) := by decide +kernel
theorem dX0_isOpen_28 : decode cX0_isOpen 28 = .ok (.aload_n 0, 1) := by decide +kernel
theorem dX0_isOpen_29 : decode cX0_isOpen 29 = .ok (.getfield 53, 3) := by decide +kernel
theorem dX0_isOpen_32 : decode cX0_isOpen 32 = .ok (.iload_n 3, 1) := by decide +kernel
theorem dX0_isOpen_33 : decode cX0_isOpen 33 = .ok (.if_icmp .le 5, 3) := by decide +kernel
theorem dX0_isOpen_36 : decode cX0_isOpen 36 = .ok (.iconst 0, 1) := by decide +kernel
theorem dX0_isOpen_37 : decode cX0_isOpen 37 = .ok (.ireturn, 1) := by decide +kernel
theorem dX0_isOpen_38 : decode cX0_isOpen 38 = .ok (.aload_n 0, 1) := by decide +kernel
theorem dX0_isOpen_39 : decode cX0_isOpen 39 = .ok (.aload_n 1, 1) := by decide +kernel
theorem dX0_isOpen_40 : decode cX0_isOpen 40 = .ok (.getfield 68, 3) := by decide +kernel
theorem dX0_isOpen_43 : decode cX0_isOpen 43 = .ok (.aload_n 1, 1) := by decide +kernel
theorem dX0_isOpen_44 : decode cX0_isOpen 44 = .ok (.getfield 71, 3) := by decide +kernel
theorem dX0_isOpen_47 : decode cX0_isOpen 47 = .ok (.aload_n 1, 1) := by decide +kernel
theorem dX0_isOpen_48 : decode cX0_isOpen 48 = .ok (.getfield 74, 3) := by decide +kernel
theorem dX0_isOpen_51 : decode cX0_isOpen 51 = .ok (.iload_n 2, 1) := by decide +kernel
theorem dX0_isOpen_52 : decode cX0_isOpen 52 = .ok (.invokevirtual 77, 3) := by decide +kernel
theorem dX0_isOpen_55 : decode cX0_isOpen 55 = .ok (.ifCond .ne 27, 3) := by decide +kernel
theorem dX0_isOpen_58 : decode cX0_isOpen 58 = .ok (.aload_n 0, 1) := by decide +kernel
theorem dX0_isOpen_59 : decode cX0_isOpen 59 = .ok (.aload_n 1, 1) := by decide +kernel
theorem dX0_isOpen_60 : decode cX0_isOpen 60 = .ok (.getfield 27, 3) := by decide +kernel
theorem dX0_isOpen_63 : decode cX0_isOpen 63 = .ok (.aload_n 1, 1) := by decide +kernel
theorem dX0_isOpen_64 : decode cX0_isOpen 64 = .ok (.getfield 30, 3) := by decide +kernel
theorem dX0_isOpen_67 : decode cX0_isOpen 67 = .ok (.aload_n 1, 1) := by decide +kernel
theorem dX0_isOpen_68 : decode cX0_isOpen 68 = .ok (.getfield 81, 3) := by decide +kernel
theorem dX0_isOpen_71 : decode cX0_isOpen 71 = .ok (.iload_n 2, 1) := by decide +kernel
theorem dX0_isOpen_72 : decode cX0_isOpen 72 = .ok (.invokevirtual 77, 3) := by decide +kernel
theorem dX0_isOpen_75 : decode cX0_isOpen 75 = .ok (.ifCond .ne 7, 3) := by decide +kernel
theorem dX0_isOpen_78 : decode cX0_isOpen 78 = .ok (.iconst 1, 1) := by decide +kernel
theorem dX0_isOpen_79 : decode cX0_isOpen 79 = .ok (.goto 4, 3) := by decide +kernel
theorem dX0_isOpen_82 : decode cX0_isOpen 82 = .ok (.iconst 0, 1) := by decide +kernel
theorem dX0_isOpen_83 : decode cX0_isOpen 83 = .ok (.ireturn, 1) := by decide +kernel
theorem dX0_coversAny_0 : decode cX0_coversAny 0 = .ok (.iconst 0, 1) := by decide +kernel
theorem dX0_coversAny_1 : decode cX0_coversAny 1 = .ok (.istore 5, 2) := by decide +kernel
theorem dX0_coversAny_3 : decode cX0_coversAny 3 = .ok (.iload 5, 2) := by decide +kernel
theorem dX0_coversAny_5 : decode cX0_coversAny 5 = .ok (.iload_n 3, 1) := by decide +kernel
theorem dX0_coversAny_6 : decode cX0_coversAny 6 = .ok (.if_icmp .ge 32, 3) := by decide +kernel
theorem dX0_coversAny_9 : decode cX0_coversAny 9 = .ok (.aload_n 0, 1) := by decide +kernel
theorem dX0_coversAny_10 : decode cX0_coversAny 10 = .ok (.aload_n 1, 1) := by decide +kernel
theorem dX0_coversAny_11 : decode cX0_coversAny 11 = .ok (.iload 5, 2) := by decide +kernel
theorem dX0_coversAny_13 : decode cX0_coversAny 13 = .ok (.iaload, 1) := by decide +kernel
theorem dX0_coversAny_14 : decode cX0_coversAny 14 = .ok (.iload 4, 2) := by decide +kernel
theorem dX0_coversAny_16 : decode cX0_coversAny 16 = .ok (.ishl, 1) := by decide +kernel
theorem dX0_coversAny_17 : decode cX0_coversAny 17 = .ok (.aload_n 2, 1) := by decide +kernel
theorem dX0_coversAny_18 : decode cX0_coversAny 18 = .ok (.iload 5, 2) := by decide +kernel
theorem dX0_coversAny_20 : decode cX0_coversAny 20 = .ok (.iaload, 1) := by decide +kernel
theorem dX0_coversAny_21 : decode cX0_coversAny 21 = .ok (.iload 4, 2) := by decide +kernel
theorem dX0_coversAny_23 : decode cX0_coversAny 23 = .ok (.ishl, 1) := by decide +kernel
theorem dX0_coversAny_24 : decode cX0_coversAny 24 = .ok (.invokevirtual 84, 3) := by decide +kernel
theorem dX0_coversAny_27 : decode cX0_coversAny 27 = .ok (.ifCond .eq 5, 3) := by decide +kernel
theorem dX0_coversAny_30 : decode cX0_coversAny 30 = .ok (.iconst 1, 1) := by decide +kernel
theorem dX0_coversAny_31 : decode cX0_coversAny 31 = .ok (.ireturn, 1) := by decide +kernel
theorem dX0_coversAny_32 : decode cX0_coversAny 32 = .ok (.iinc 5 1, 3) := by decide +kernel
theorem dX0_coversAny_35 : decode cX0_coversAny 35 = .ok (.goto (-32), 3) := by decide +kernel
theorem dX0_coversAny_38 : decode cX0_coversAny 38 = .ok (.iconst 0, 1) := by decide +kernel
theorem dX0_coversAny_39 : decode cX0_coversAny 39 = .ok (.ireturn, 1) := by decide +kernel
theorem dX0_hits_0 : decode cX0_hits 0 = .ok (.aload_n 0, 1) := by decide +kernel
theorem dX0_hits_1 : decode cX0_hits 1 = .ok (.aload_n 1, 1) := by decide +kernel
theorem dX0_hits_2 : decode cX0_hits 2 = .ok (.getfield 40, 3) := by decide +kernel
theorem dX0_hits_5 : decode cX0_hits 5 = .ok (.aload_n 1, 1) := by decide +kernel
theorem dX0_hits_6 : decode cX0_hits 6 = .ok (.getfield 47, 3) := by decide +kernel
theorem dX0_hits_9 : decode cX0_hits 9 = .ok (.aload_n 1, 1) := by decide +kernel
theorem dX0_hits_10 : decode cX0_hits 10 = .ok (.getfield 50, 3) := by decide +kernel
theorem dX0_hits_13 : decode cX0_hits 13 = .ok (.aload_n 1, 1) := by decide +kernel
theorem dX0_hits_14 : decode cX0_hits 14 = .ok (.getfield 53, 3) := by decide +kernel
theorem dX0_hits_17 : decode cX0_hits 17 = .ok (.invokevirtual 88, 3) := by decide +kernel
theorem dX0_hits_20 : decode cX0_hits 20 = .ok (.ifCond .eq 5, 3) := by decide +kernel
theorem dX0_hits_23 : decode cX0_hits 23 = .ok (.iconst 1, 1) := by decide +kernel
theorem dX0_hits_24 : decode cX0_hits 24 = .ok (.ireturn, 1) := by decide +kernel
theorem dX0_hits_25 : decode cX0_hits 25 = .ok (.aload_n 0, 1) := by decide +kernel
theorem dX0_hits_26 : decode cX0_hits 26 = .ok (.getfield 15, 3) := by decide +kernel
theorem dX0_hits_29 : decode cX0_hits 29 = .ok (.ifCond .eq 11, 3) := by decide +kernel
theorem dX0_hits_32 : decode cX0_hits 32 = .ok (.aload_n 0, 1) := by decide +kernel
theorem dX0_hits_33 : decode cX0_hits 33 = .ok (.aload_n 1, 1) := by decide +kernel
theorem dX0_hits_34 : decode cX0_hits 34 = .ok (.invokevirtual 92, 3) := by decide +kernel
theorem dX0_hits_37 : decode cX0_hits 37 = .ok (.ifCond .ne 18, 3) := by decide +kernel
theorem dX0_hits_40 : decode cX0_hits 40 = .ok (.aload_n 1, 1) := by decide +kernel
theorem dX0_hits_41 : decode cX0_hits 41 = .ok (.getfield 15, 3) := by decide +kernel
theorem dX0_hits_44 : decode cX0_hits 44 = .ok (.ifCond .eq 13, 3) := by decide +kernel
theorem dX0_hits_47 : decode cX0_hits 47 = .ok (.aload_n 1, 1) := by decide +kernel
theorem dX0_hits_48 : decode cX0_hits 48 = .ok (.aload_n 0, 1) := by decide +kernel
theorem dX0_hits_49 : decode cX0_hits 49 = .ok (.invokevirtual 92, 3) := by decide +kernel
theorem dX0_hits_52 : decode cX0_hits 52 = .ok (.ifCond .eq 5, 3) := by decide +kernel
theorem dX0_hits_55 : decode cX0_hits 55 = .ok (.iconst 1, 1) := by decide +kernel
theorem dX0_hits_56 : decode cX0_hits 56 = .ok (.ireturn, 1) := by decide +kernel
theorem dX0_hits_57 : decode cX0_hits 57 = .ok (.aload_n 0, 1) := by decide +kernel
theorem dX0_hits_58 : decode cX0_hits 58 = .ok (.getfield 15, 3) := by decide +kernel
theorem dX0_hits_61 : decode cX0_hits 61 = .ok (.ifCond .eq 22, 3) := by decide +kernel
theorem dX0_hits_64 : decode cX0_hits 64 = .ok (.aload_n 1, 1) := by decide +kernel
theorem dX0_hits_65 : decode cX0_hits 65 = .ok (.getfield 15, 3) := by decide +kernel
theorem dX0_hits_68 : decode cX0_hits 68 = .ok (.ifCond .eq 15, 3) := by decide +kernel
theorem dX0_hits_71 : decode cX0_hits 71 = .ok (.aload_n 0, 1) := by decide +kernel
theorem dX0_hits_72 : decode cX0_hits 72 = .ok (.aload_n 1, 1) := by decide +kernel
theorem dX0_hits_73 : decode cX0_hits 73 = .ok (.invokevirtual 96, 3) := by decide +kernel
theorem dX0_hits_76 : decode cX0_hits 76 = .ok (.ifCond .eq 7, 3) := by decide +kernel
theorem dX0_hits_79 : decode cX0_hits 79 = .ok (.iconst 1, 1) := by decide +kernel
theorem dX0_hits_80 : decode cX0_hits 80 = .ok (.goto 4, 3) := by decide +kernel
theorem dX0_hits_83 : decode cX0_hits 83 = .ok (.iconst 0, 1) := by decide +kernel
theorem dX0_hits_84 : decode cX0_hits 84 = .ok (.ireturn, 1) := by decide +kernel
theorem dX0_lineEnters_0 : decode cX0_lineEnters 0 = .ok (.iconst 2, 1) := by decide +kernel
theorem dX0_lineEnters_1 : decode cX0_lineEnters 1 = .ok (.aload_n 1, 1) := by decide +kernel
theorem dX0_lineEnters_2 : decode cX0_lineEnters 2 = .ok (.getfield 40, 3) := by decide +kernel
theorem dX0_lineEnters_5 : decode cX0_lineEnters 5 = .ok (.imul, 1) := by decide +kernel
theorem dX0_lineEnters_6 : decode cX0_lineEnters 6 = .ok (.istore_n 2, 1) := by decide +kernel
theorem dX0_lineEnters_7 : decode cX0_lineEnters 7 = .ok (.iconst 2, 1) := by decide +kernel
theorem dX0_lineEnters_8 : decode cX0_lineEnters 8 = .ok (.aload_n 1, 1) := by decide +kernel
theorem dX0_lineEnters_9 : decode cX0_lineEnters 9 = .ok (.getfield 47, 3) := by decide +kernel
theorem dX0_lineEnters_12 : decode cX0_lineEnters 12 = .ok (.imul, 1) := by decide +kernel
theorem dX0_lineEnters_13 : decode cX0_lineEnters 13 = .ok (.istore_n 3, 1) := by decide +kernel
theorem dX0_lineEnters_14 : decode cX0_lineEnters 14 = .ok (.iconst 2, 1) := by decide +kernel
theorem dX0_lineEnters_15 : decode cX0_lineEnters 15 = .ok (.aload_n 1, 1) := by decide +kernel
theorem dX0_lineEnters_16 : decode cX0_lineEnters 16 = .ok (.getfield 50, 3) := by decide +kernel
theorem dX0_lineEnters_19 : decode cX0_lineEnters 19 = .ok (.imul, 1) := by decide +kernel
theorem dX0_lineEnters_20 : decode cX0_lineEnters 20 = .ok (.istore 4, 2) := by decide +kernel
theorem dX0_lineEnters_22 : decode cX0_lineEnters 22 = .ok (.iconst 2, 1) := by decide +kernel
theorem dX0_lineEnters_23 : decode cX0_lineEnters 23 = .ok (.aload_n 1, 1) := by decide +kernel
theorem dX0_lineEnters_24 : decode cX0_lineEnters 24 = .ok (.getfield 53, 3) := by decide +kernel
theorem dX0_lineEnters_27 : decode cX0_lineEnters 27 = .ok (.imul, 1) := by decide +kernel
theorem dX0_lineEnters_28 : decode cX0_lineEnters 28 = .ok (.istore 5, 2) := by decide +kernel
theorem dX0_lineEnters_30 : decode cX0_lineEnters 30 = .ok (.aload_n 0, 1) := by decide +kernel
theorem dX0_lineEnters_31 : decode cX0_lineEnters 31 = .ok (.getfield 56, 3) := by decide +kernel
theorem dX0_lineEnters_34 : decode cX0_lineEnters 34 = .ok (.aload_n 0, 1) := by decide +kernel
theorem dX0_lineEnters_35 : decode cX0_lineEnters 35 = .ok (.getfield 62, 3) := by decide +kernel
theorem dX0_lineEnters_38 : decode cX0_lineEnters 38 = .ok (.invokestatic 99, 3) := by decide +kernel
theorem dX0_lineEnters_41 : decode cX0_lineEnters 41 = .ok (.iload_n 2, 1) := by decide +kernel
theorem dX0_lineEnters_42 : decode cX0_lineEnters 42 = .ok (.if_icmp .le 19, 3) := by decide +kernel
theorem dX0_lineEnters_45 : decode cX0_lineEnters 45 = .ok (.aload_n 0, 1) := by decide +kernel
theorem dX0_lineEnters_46 : decode cX0_lineEnters 46 = .ok (.getfield 56, 3) := by decide +kernel
theorem dX0_lineEnters_49 : decode cX0_lineEnters 49 = .ok (.aload_n 0, 1) := by decide +kernel
theorem dX0_lineEnters_50 : decode cX0_lineEnters 50 = .ok (.getfield 62, 3) := by decide +kernel
theorem dX0_lineEnters_53 : decode cX0_lineEnters 53 = .ok (.invokestatic 105, 3) := by decide +kernel
theorem dX0_lineEnters_56 : decode cX0_lineEnters 56 = .ok (.iload 4, 2) := by decide +kernel
theorem dX0_lineEnters_58 : decode cX0_lineEnters 58 = .ok (.if_icmp .lt 5, 3) := by decide +kernel
theorem dX0_lineEnters_61 : decode cX0_lineEnters 61 = .ok (.iconst 0, 1) := by decide +kernel
theorem dX0_lineEnters_62 : decode cX0_lineEnters 62 = .ok (.ireturn, 1) := by decide +kernel
theorem dX0_lineEnters_63 : decode cX0_lineEnters 63 = .ok (.aload_n 0, 1) := by decide +kernel
theorem dX0_lineEnters_64 : decode cX0_lineEnters 64 = .ok (.getfield 59, 3) := by decide +kernel
theorem dX0_lineEnters_67 : decode cX0_lineEnters 67 = .ok (.aload_n 0, 1) := by decide +kernel
theorem dX0_lineEnters_68 : decode cX0_lineEnters 68 = .ok (.getfield 65, 3) := by decide +kernel
theorem dX0_lineEnters_71 : decode cX0_lineEnters 71 = .ok (.invokestatic 99, 3) := by decide +kernel
theorem dX0_lineEnters_74 : decode cX0_lineEnters 74 = .ok (.iload_n 3, 1) := by decide +kernel
theorem dX0_lineEnters_75 : decode cX0_lineEnters 75 = .ok (.if_icmp .le 19, 3) := by decide +kernel
theorem dX0_lineEnters_78 : decode cX0_lineEnters 78 = .ok (.aload_n 0, 1) := by decide +kernel
theorem dX0_lineEnters_79 : decode cX0_lineEnters 79 = .ok (.getfield 59, 3) := by decide +kernel
theorem dX0_lineEnters_82 : decode cX0_lineEnters 82 = .ok (.aload_n 0, 1) := by decide +kernel
theorem dX0_lineEnters_83 : decode cX0_lineEnters 83 = .ok (.getfield 65, 3) := by decide +kernel
theorem dX0_lineEnters_86 : decode cX0_lineEnters 86 = .ok (.invokestatic 105, 3) := by decide +kernel
theorem dX0_lineEnters_89 : decode cX0_lineEnters 89 = .ok (.iload 5, 2) := by decide +kernel
theorem dX0_lineEnters_91 : decode cX0_lineEnters 91 = .ok (.if_icmp .lt 5, 3) := by decide +kernel
theorem dX0_lineEnters_94 : decode cX0_lineEnters 94 = .ok (.iconst 0, 1) := by decide +kernel
theorem dX0_lineEnters_95 : decode cX0_lineEnters 95 = .ok (.ireturn, 1) := by decide +kernel
theorem dX0_lineEnters_96 : decode cX0_lineEnters 96 = .ok (.aload_n 0, 1) := by decide +kernel
theorem dX0_lineEnters_97 : decode cX0_lineEnters 97 = .ok (.iload_n 2, 1) := by decide +kernel
theorem dX0_lineEnters_98 : decode cX0_lineEnters 98 = .ok (.iload_n 3, 1) := by decide +kernel
theorem dX0_lineEnters_99 : decode cX0_lineEnters 99 = .ok (.invokevirtual 108, 3) := by decide +kernel
theorem dX0_lineEnters_102 : decode cX0_lineEnters 102 = .ok (.istore 6, 2) := by decide +kernel
theorem dX0_lineEnters_104 : decode cX0_lineEnters 104 = .ok (.aload_n 0, 1) := by decide +kernel
theorem dX0_lineEnters_105 : decode cX0_lineEnters 105 = .ok (.iload 4, 2) := by decide +kernel
theorem dX0_lineEnters_107 : decode cX0_lineEnters 107 = .ok (.iload_n 3, 1) := by decide +kernel
theorem dX0_lineEnters_108 : decode cX0_lineEnters 108 = .ok (.invokevirtual 108, 3) := by decide +kernel
theorem dX0_lineEnters_111 : decode cX0_lineEnters 111 = .ok (.istore 7, 2) := by decide +kernel
theorem dX0_lineEnters_113 : decode cX0_lineEnters 113 = .ok (.aload_n 0, 1) := by decide +kernel
theorem dX0_lineEnters_114 : decode cX0_lineEnters 114 = .ok (.iload 4, 2) := by decide +kernel
theorem dX0_lineEnters_116 : decode cX0_lineEnters 116 = .ok (.iload 5, 2) := by decide +kernel
theorem dX0_lineEnters_118 : decode cX0_lineEnters 118 = .ok (.invokevirtual 108, 3) := by decide +kernel
theorem dX0_lineEnters_121 : decode cX0_lineEnters 121 = .ok (.istore 8, 2) := by decide +kernel
theorem dX0_lineEnters_123 : decode cX0_lineEnters 123 = .ok (.aload_n 0, 1) := by decide +kernel
theorem dX0_lineEnters_124 : decode cX0_lineEnters 124 = .ok (.iload_n 2, 1) := by decide +kernel
theorem dX0_lineEnters_125 : decode cX0_lineEnters 125 = .ok (.iload 5, 2) := by decide +kernel
theorem dX0_lineEnters_127 : decode cX0_lineEnters 127 = .ok (.invokevirtual 108, 3) := by decide +kernel
theorem dX0_lineEnters_130 : decode cX0_lineEnters 130 = .ok (.istore 9, 2) := by decide +kernel
theorem dX0_lineEnters_132 : decode cX0_lineEnters 132 = .ok (.iload 6, 2) := by decide +kernel
theorem dX0_lineEnters_134 : decode cX0_lineEnters 134 = .ok (.ifCond .lt 18, 3) := by decide +kernel
theorem dX0_lineEnters_137 : decode cX0_lineEnters 137 = .ok (.iload 7, 2) := by decide +kernel
theorem dX0_lineEnters_139 : decode cX0_lineEnters 139 = .ok (.ifCond .lt 13, 3) := by decide +kernel
theorem dX0_lineEnters_142 : decode cX0_lineEnters 142 = .ok (.iload 8, 2) := by decide +kernel
theorem dX0_lineEnters_144 : decode cX0_lineEnters 144 = .ok (.ifCond .lt 8, 3) := by decide +kernel
theorem dX0_lineEnters_147 : decode cX0_lineEnters 147 = .ok (.iload 9, 2) := by decide +kernel
theorem dX0_lineEnters_149 : decode cX0_lineEnters 149 = .ok (.ifCond .ge 7, 3) := by decide +kernel
theorem dX0_lineEnters_152 : decode cX0_lineEnters 152 = .ok (.iconst 1, 1) := by decide +kernel
theorem dX0_lineEnters_153 : decode cX0_lineEnters 153 = .ok (.goto 4, 3) := by decide +kernel
theorem dX0_lineEnters_156 : decode cX0_lineEnters 156 = .ok (.iconst 0, 1) := by decide +kernel
theorem dX0_lineEnters_157 : decode cX0_lineEnters 157 = .ok (.istore 10, 2) := by decide +kernel
theorem dX0_lineEnters_159 : decode cX0_lineEnters 159 = .ok (.iload 6, 2) := by decide +kernel
theorem dX0_lineEnters_161 : decode cX0_lineEnters 161 = .ok (.ifCond .gt 18, 3) := by decide +kernel
theorem dX0_lineEnters_164 : decode cX0_lineEnters 164 = .ok (.iload 7, 2) := by decide +kernel
theorem dX0_lineEnters_166 : decode cX0_lineEnters 166 = .ok (.ifCond .gt 13, 3) := by decide +kernel
theorem dX0_lineEnters_169 : decode cX0_lineEnters 169 = .ok (.iload 8, 2) := by decide +kernel
theorem dX0_lineEnters_171 : decode cX0_lineEnters 171 = .ok (.ifCond .gt 8, 3) := by decide +kernel
theorem dX0_lineEnters_174 : decode cX0_lineEnters 174 = .ok (.iload 9, 2) := by decide +kernel
theorem dX0_lineEnters_176 : decode cX0_lineEnters 176 = .ok (.ifCond .le 7, 3) := by decide +kernel
theorem dX0_lineEnters_179 : decode cX0_lineEnters 179 = .ok (.iconst 1, 1) := by decide +kernel
theorem dX0_lineEnters_180 : decode cX0_lineEnters 180 = .ok (.goto 4, 3) := by decide +kernel
theorem dX0_lineEnters_183 : decode cX0_lineEnters 183 = .ok (.iconst 0, 1) := by decide +kernel
theorem dX0_lineEnters_184 : decode cX0_lineEnters 184 = .ok (.istore 11, 2) := by decide +kernel
theorem dX0_lineEnters_186 : decode cX0_lineEnters 186 = .ok (.iload 10, 2) := by decide +kernel
theorem dX0_lineEnters_188 : decode cX0_lineEnters 188 = .ok (.ifCond .eq 12, 3) := by decide +kernel
theorem dX0_lineEnters_191 : decode cX0_lineEnters 191 = .ok (.iload 11, 2) := by decide +kernel
theorem dX0_lineEnters_193 : decode cX0_lineEnters 193 = .ok (.ifCond .eq 7, 3) := by decide +kernel
theorem dX0_lineEnters_196 : decode cX0_lineEnters 196 = .ok (.iconst 1, 1) := by decide +kernel
theorem dX0_lineEnters_197 : decode cX0_lineEnters 197 = .ok (.goto 4, 3) := by decide +kernel
theorem dX0_lineEnters_200 : decode cX0_lineEnters 200 = .ok (.iconst 0, 1) := by decide +kernel
theorem dX0_lineEnters_201 : decode cX0_lineEnters 201 = .ok (.ireturn, 1) := by decide +kernel
theorem dX0_linesMeet_0 : decode cX0_linesMeet 0 = .ok (.aload_n 0, 1) := by decide +kernel
theorem dX0_linesMeet_1 : decode cX0_linesMeet 1 = .ok (.getfield 56, 3) := by decide +kernel
theorem dX0_linesMeet_4 : decode cX0_linesMeet 4 = .ok (.aload_n 0, 1) := by decide +kernel
theorem dX0_linesMeet_5 : decode cX0_linesMeet 5 = .ok (.getfield 62, 3) := by decide +kernel
theorem dX0_linesMeet_8 : decode cX0_linesMeet 8 = .ok (.invokestatic 99, 3) := by decide +kernel
theorem dX0_linesMeet_11 : decode cX0_linesMeet 11 = .ok (.aload_n 1, 1) := by decide +kernel
theorem dX0_linesMeet_12 : decode cX0_linesMeet 12 = .ok (.getfield 56, 3) := by decide +kernel
theorem dX0_linesMeet_15 : decode cX0_linesMeet 15 = .ok (.aload_n 1, 1) := by decide +kernel
theorem dX0_linesMeet_16 : decode cX0_linesMeet 16 = .ok (.getfield 62, 3) := by decide +kernel
theorem dX0_linesMeet_19 : decode cX0_linesMeet 19 = .ok (.invokestatic 105, 3) := by decide +kernel
theorem dX0_linesMeet_22 : decode cX0_linesMeet 22 = .ok (.if_icmp .lt 28, 3) := by decide +kernel
theorem dX0_linesMeet_25 : decode cX0_linesMeet 25 = .ok (.aload_n 1, 1) := by decide +kernel
theorem dX0_linesMeet_26 : decode cX0_linesMeet 26 = .ok (.getfield 56, 3) := by decide +kernel
theorem dX0_linesMeet_29 : decode cX0_linesMeet 29 = .ok (.aload_n 1, 1) := by decide +kernel
theorem dX0_linesMeet_30 : decode cX0_linesMeet 30 = .ok (.getfield 62, 3) := by decide +kernel
theorem dX0_linesMeet_33 : decode cX0_linesMeet 33 = .ok (.invokestatic 99, 3) := by decide +kernel
theorem dX0_linesMeet_36 : decode cX0_linesMeet 36 = .ok (.aload_n 0, 1) := by decide +kernel
theorem dX0_linesMeet_37 : decode cX0_linesMeet 37 = .ok (.getfield 56, 3) := by decide +kernel
theorem dX0_linesMeet_40 : decode cX0_linesMeet 40 = .ok (.aload_n 0, 1) := by decide +kernel
theorem dX0_linesMeet_41 : decode cX0_linesMeet 41 = .ok (.getfield 62, 3) := by decide +kernel
theorem dX0_linesMeet_44 : decode cX0_linesMeet 44 = .ok (.invokestatic 105, 3) := by decide +kernel
theorem dX0_linesMeet_47 : decode cX0_linesMeet 47 = .ok (.if_icmp .ge 5, 3) := by decide +kernel
theorem dX0_linesMeet_50 : decode cX0_linesMeet 50 = .ok (.iconst 0, 1) := by decide +kernel
theorem dX0_linesMeet_51 : decode cX0_linesMeet 51 = .ok (.ireturn, 1) := by decide +kernel
theorem dX0_linesMeet_52 : decode cX0_linesMeet 52 = .ok (.aload_n 0, 1) := by decide +kernel
theorem dX0_linesMeet_53 : decode cX0_linesMeet 53 = .ok (.getfield 59, 3) := by decide +kernel
theorem dX0_linesMeet_56 : decode cX0_linesMeet 56 = .ok (.aload_n 0, 1) := by decide +kernel
theorem dX0_linesMeet_57 : decode cX0_linesMeet 57 = .ok (.getfield 65, 3) := by decide +kernel
theorem dX0_linesMeet_60 : decode cX0_linesMeet 60 = .ok (.invokestatic 99, 3) := by decide +kernel
theorem dX0_linesMeet_63 : decode cX0_linesMeet 63 = .ok (.aload_n 1, 1) := by decide +kernel
theorem dX0_linesMeet_64 : decode cX0_linesMeet 64 = .ok (.getfield 59, 3) := by decide +kernel
theorem dX0_linesMeet_67 : decode cX0_linesMeet 67 = .ok (.aload_n 1, 1) := by decide +kernel
theorem dX0_linesMeet_68 : decode cX0_linesMeet 68 = .ok (.getfield 65, 3) := by decide +kernel
theorem dX0_linesMeet_71 : decode cX0_linesMeet 71 = .ok (.invokestatic 105, 3) := by decide +kernel
theorem dX0_linesMeet_74 : decode cX0_linesMeet 74 = .ok (.if_icmp .lt 28, 3) := by decide +kernel
theorem dX0_linesMeet_77 : decode cX0_linesMeet 77 = .ok (.aload_n 1, 1) := by decide +kernel
theorem dX0_linesMeet_78 : decode cX0_linesMeet 78 = .ok (.getfield 59, 3) := by decide +kernel
theorem dX0_linesMeet_81 : decode cX0_linesMeet 81 = .ok (.aload_n 1, 1) := by decide +kernel
theorem dX0_linesMeet_82 : decode cX0_linesMeet 82 = .ok (.getfield 65, 3) := by decide +kernel
theorem dX0_linesMeet_85 : decode cX0_linesMeet 85 = .ok (.invokestatic 99, 3) := by decide +kernel
theorem dX0_linesMeet_88 : decode cX0_linesMeet 88 = .ok (.aload_n 0, 1) := by decide +kernel
theorem dX0_linesMeet_89 : decode cX0_linesMeet 89 = .ok (.getfield 59, 3) := by decide +kernel
theorem dX0_linesMeet_92 : decode cX0_linesMeet 92 = .ok (.aload_n 0, 1) := by decide +kernel
theorem dX0_linesMeet_93 : decode cX0_linesMeet 93 = .ok (.getfield 65, 3) := by decide +kernel
theorem dX0_linesMeet_96 : decode cX0_linesMeet 96 = .ok (.invokestatic 105, 3) := by decide +kernel
theorem dX0_linesMeet_99 : decode cX0_linesMeet 99 = .ok (.if_icmp .ge 5, 3) := by decide +kernel
theorem dX0_linesMeet_102 : decode cX0_linesMeet 102 = .ok (.iconst 0, 1) := by decide +kernel
theorem dX0_linesMeet_103 : decode cX0_linesMeet 103 = .ok (.ireturn, 1) := by decide +kernel
theorem dX0_linesMeet_104 : decode cX0_linesMeet 104 = .ok (.aload_n 0, 1) := by decide +kernel
theorem dX0_linesMeet_105 : decode cX0_linesMeet 105 = .ok (.aload_n 1, 1) := by decide +kernel
theorem dX0_linesMeet_106 : decode cX0_linesMeet 106 = .ok (.getfield 56, 3) := by decide +kernel
theorem dX0_linesMeet_109 : decode cX0_linesMeet 109 = .ok (.aload_n 1, 1) := by decide +kernel
theorem dX0_linesMeet_110 : decode cX0_linesMeet 110 = .ok (.getfield 59, 3) := by decide +kernel
theorem dX0_linesMeet_113 : decode cX0_linesMeet 113 = .ok (.invokevirtual 108, 3) := by decide +kernel
theorem dX0_linesMeet_116 : decode cX0_linesMeet 116 = .ok (.istore_n 2, 1) := by decide +kernel
theorem dX0_linesMeet_117 : decode cX0_linesMeet 117 = .ok (.aload_n 0, 1) := by decide +kernel
theorem dX0_linesMeet_118 : decode cX0_linesMeet 118 = .ok (.aload_n 1, 1) := by decide +kernel
theorem dX0_linesMeet_119 : decode cX0_linesMeet 119 = .ok (.getfield 62, 3) := by decide +kernel
theorem dX0_linesMeet_122 : decode cX0_linesMeet 122 = .ok (.aload_n 1, 1) := by decide +kernel
theorem dX0_linesMeet_123 : decode cX0_linesMeet 123 = .ok (.getfield 65, 3) := by decide +kernel
theorem dX0_linesMeet_126 : decode cX0_linesMeet 126 = .ok (.invokevirtual 108, 3) := by decide +kernel
theorem dX0_linesMeet_129 : decode cX0_linesMeet 129 = .ok (.istore_n 3, 1) := by decide +kernel
theorem dX0_linesMeet_130 : decode cX0_linesMeet 130 = .ok (.aload_n 1, 1) := by decide +kernel
theorem dX0_linesMeet_131 : decode cX0_linesMeet 131 = .ok (.aload_n 0, 1) := by decide +kernel
theorem dX0_linesMeet_132 : decode cX0_linesMeet 132 = .ok (.getfield 56, 3) := by decide +kernel
theorem dX0_linesMeet_135 : decode cX0_linesMeet 135 = .ok (.aload_n 0, 1) := by decide +kernel
theorem dX0_linesMeet_136 : decode cX0_linesMeet 136 = .ok (.getfield 59, 3) := by decide +kernel
theorem dX0_linesMeet_139 : decode cX0_linesMeet 139 = .ok (.invokevirtual 108, 3) := by decide +kernel
theorem dX0_linesMeet_142 : decode cX0_linesMeet 142 = .ok (.istore 4, 2) := by decide +kernel
theorem dX0_linesMeet_144 : decode cX0_linesMeet 144 = .ok (.aload_n 1, 1) := by decide +kernel
theorem dX0_linesMeet_145 : decode cX0_linesMeet 145 = .ok (.aload_n 0, 1) := by decide +kernel
theorem dX0_linesMeet_146 : decode cX0_linesMeet 146 = .ok (.getfield 62, 3) := by decide +kernel
theorem dX0_linesMeet_149 : decode cX0_linesMeet 149 = .ok (.aload_n 0, 1) := by decide +kernel
theorem dX0_linesMeet_150 : decode cX0_linesMeet 150 = .ok (.getfield 65, 3) := by decide +kernel
theorem dX0_linesMeet_153 : decode cX0_linesMeet 153 = .ok (.invokevirtual 108, 3) := by decide +kernel
theorem dX0_linesMeet_156 : decode cX0_linesMeet 156 = .ok (.istore 5, 2) := by decide +kernel
theorem dX0_linesMeet_158 : decode cX0_linesMeet 158 = .ok (.iload_n 2, 1) := by decide +kernel
theorem dX0_linesMeet_159 : decode cX0_linesMeet 159 = .ok (.ifCond .ge 7, 3) := by decide +kernel
theorem dX0_linesMeet_162 : decode cX0_linesMeet 162 = .ok (.iload_n 3, 1) := by decide +kernel
theorem dX0_linesMeet_163 : decode cX0_linesMeet 163 = .ok (.ifCond .lt 11, 3) := by decide +kernel
theorem dX0_linesMeet_166 : decode cX0_linesMeet 166 = .ok (.iload_n 2, 1) := by decide +kernel
theorem dX0_linesMeet_167 : decode cX0_linesMeet 167 = .ok (.ifCond .le 11, 3) := by decide +kernel
theorem dX0_linesMeet_170 : decode cX0_linesMeet 170 = .ok (.iload_n 3, 1) := by decide +kernel
theorem dX0_linesMeet_171 : decode cX0_linesMeet 171 = .ok (.ifCond .le 7, 3) := by decide +kernel
theorem dX0_linesMeet_174 : decode cX0_linesMeet 174 = .ok (.iconst 1, 1) := by decide +kernel
theorem dX0_linesMeet_175 : decode cX0_linesMeet 175 = .ok (.goto 4, 3) := by decide +kernel
theorem dX0_linesMeet_178 : decode cX0_linesMeet 178 = .ok (.iconst 0, 1) := by decide +kernel
theorem dX0_linesMeet_179 : decode cX0_linesMeet 179 = .ok (.istore 6, 2) := by decide +kernel
theorem dX0_linesMeet_181 : decode cX0_linesMeet 181 = .ok (.iload 4, 2) := by decide +kernel
theorem dX0_linesMeet_183 : decode cX0_linesMeet 183 = .ok (.ifCond .ge 8, 3) := by decide +kernel
theorem dX0_linesMeet_186 : decode cX0_linesMeet 186 = .ok (.iload 5, 2) := by decide +kernel
theorem dX0_linesMeet_188 : decode cX0_linesMeet 188 = .ok (.ifCond .lt 13, 3) := by decide +kernel
theorem dX0_linesMeet_191 : decode cX0_linesMeet 191 = .ok (.iload 4, 2) := by decide +kernel
theorem dX0_linesMeet_193 : decode cX0_linesMeet 193 = .ok (.ifCond .le 12, 3) := by decide +kernel
theorem dX0_linesMeet_196 : decode cX0_linesMeet 196 = .ok (.iload 5, 2) := by decide +kernel
theorem dX0_linesMeet_198 : decode cX0_linesMeet 198 = .ok (.ifCond .le 7, 3) := by decide +kernel
theorem dX0_linesMeet_201 : decode cX0_linesMeet 201 = .ok (.iconst 1, 1) := by decide +kernel
theorem dX0_linesMeet_202 : decode cX0_linesMeet 202 = .ok (.goto 4, 3) := by decide +kernel
theorem dX0_linesMeet_205 : decode cX0_linesMeet 205 = .ok (.iconst 0, 1) := by decide +kernel
theorem dX0_linesMeet_206 : decode cX0_linesMeet 206 = .ok (.istore 7, 2) := by decide +kernel
theorem dX0_linesMeet_208 : decode cX0_linesMeet 208 = .ok (.iload 6, 2) := by decide +kernel
theorem dX0_linesMeet_210 : decode cX0_linesMeet 210 = .ok (.ifCond .ne 12, 3) := by decide +kernel
theorem dX0_linesMeet_213 : decode cX0_linesMeet 213 = .ok (.iload 7, 2) := by decide +kernel
theorem dX0_linesMeet_215 : decode cX0_linesMeet 215 = .ok (.ifCond .ne 7, 3) := by decide +kernel
theorem dX0_linesMeet_218 : decode cX0_linesMeet 218 = .ok (.iconst 1, 1) := by decide +kernel
theorem dX0_linesMeet_219 : decode cX0_linesMeet 219 = .ok (.goto 4, 3) := by decide +kernel
theorem dX0_linesMeet_222 : decode cX0_linesMeet 222 = .ok (.iconst 0, 1) := by decide +kernel
theorem dX0_linesMeet_223 : decode cX0_linesMeet 223 = .ok (.ireturn, 1) := by decide +kernel
theorem dX0_sideOf_0 : decode cX0_sideOf 0 = .ok (.aload_n 0, 1) := by decide +kernel
theorem dX0_sideOf_1 : decode cX0_sideOf 1 = .ok (.getfield 62, 3) := by decide +kernel
theorem dX0_sideOf_4 : decode cX0_sideOf 4 = .ok (.aload_n 0, 1) := by decide +kernel
theorem dX0_sideOf_5 : decode cX0_sideOf 5 = .ok (.getfield 56, 3) := by decide +kernel
theorem dX0_sideOf_8 : decode cX0_sideOf 8 = .ok (.isub, 1) := by decide +kernel
theorem dX0_sideOf_9 : decode cX0_sideOf 9 = .ok (.iload_n 2, 1) := by decide +kernel
theorem dX0_sideOf_10 : decode cX0_sideOf 10 = .ok (.aload_n 0, 1) := by decide +kernel
theorem dX0_sideOf_11 : decode cX0_sideOf 11 = .ok (.getfield 59, 3) := by decide +kernel
theorem dX0_sideOf_14 : decode cX0_sideOf 14 = .ok (.isub, 1) := by decide +kernel
theorem dX0_sideOf_15 : decode cX0_sideOf 15 = .ok (.imul, 1) := by decide +kernel
theorem dX0_sideOf_16 : decode cX0_sideOf 16 = .ok (.aload_n 0, 1) := by decide +kernel
theorem dX0_sideOf_17 : decode cX0_sideOf 17 = .ok (.getfield 65, 3) := by decide +kernel
theorem dX0_sideOf_20 : decode cX0_sideOf 20 = .ok (.aload_n 0, 1) := by decide +kernel
theorem dX0_sideOf_21 : decode cX0_sideOf 21 = .ok (.getfield 59, 3) := by decide +kernel
theorem dX0_sideOf_24 : decode cX0_sideOf 24 = .ok (.isub, 1) := by decide +kernel
theorem dX0_sideOf_25 : decode cX0_sideOf 25 = .ok (.iload_n 1, 1) := by decide +kernel
theorem dX0_sideOf_26 : decode cX0_sideOf 26 = .ok (.aload_n 0, 1) := by decide +kernel
theorem dX0_sideOf_27 : decode cX0_sideOf 27 = .ok (.getfield 56, 3) := by decide +kernel
theorem dX0_sideOf_30 : decode cX0_sideOf 30 = .ok (.isub, 1) := by decide +kernel
theorem dX0_sideOf_31 : decode cX0_sideOf 31 = .ok (.imul, 1) := by decide +kernel
theorem dX0_sideOf_32 : decode cX0_sideOf 32 = .ok (.isub, 1) := by decide +kernel
theorem dX0_sideOf_33 : decode cX0_sideOf 33 = .ok (.ireturn, 1) := by decide +kernel
theorem dX1_init_0 : decode cX1_init 0 = .ok (.aload_n 0, 1) := by decide +kernel
theorem dX1_init_1 : decode cX1_init 1 = .ok (.invokespecial 3, 3) := by decide +kernel
theorem dX1_init_4 : decode cX1_init 4 = .ok (.aload_n 0, 1) := by decide +kernel
theorem dX1_init_5 : decode cX1_init 5 = .ok (.bipush 24, 2) := by decide +kernel
theorem dX1_init_7 : decode cX1_init 7 = .ok (.newarray .int, 2) := by decide +kernel
theorem dX1_init_9 : decode cX1_init 9 = .ok (.putfield 9, 3) := by decide +kernel
theorem dX1_init_12 : decode cX1_init 12 = .ok (.aload_n 0, 1) := by decide +kernel
theorem dX1_init_13 : decode cX1_init 13 = .ok (.bipush 24, 2) := by decide +kernel
theorem dX1_init_15 : decode cX1_init 15 = .ok (.newarray .int, 2) := by decide +kernel
theorem dX1_init_17 : decode cX1_init 17 = .ok (.putfield 15, 3) := by decide +kernel
theorem dX1_init_20 : decode cX1_init 20 = .ok (.aload_n 0, 1) := by decide +kernel
theorem dX1_init_21 : decode cX1_init 21 = .ok (.bipush 24, 2) := by decide +kernel
theorem dX1_init_23 : decode cX1_init 23 = .ok (.newarray .int, 2) := by decide +kernel
theorem dX1_init_25 : decode cX1_init 25 = .ok (.putfield 18, 3) := by decide +kernel
theorem dX1_init_28 : decode cX1_init 28 = .ok (.aload_n 0, 1) := by decide +kernel
theorem dX1_init_29 : decode cX1_init 29 = .ok (.bipush 24, 2) := by decide +kernel
theorem dX1_init_31 : decode cX1_init 31 = .ok (.newarray .int, 2) := by decide +kernel
theorem dX1_init_33 : decode cX1_init 33 = .ok (.putfield 21, 3) := by decide +kernel
theorem dX1_init_36 : decode cX1_init 36 = .ok (.aload_n 0, 1) := by decide +kernel
theorem dX1_init_37 : decode cX1_init 37 = .ok (.bipush 24, 2) := by decide +kernel
theorem dX1_init_39 : decode cX1_init 39 = .ok (.newarray .int, 2) := by decide +kernel
theorem dX1_init_41 : decode cX1_init 41 = .ok (.putfield 24, 3) := by decide +kernel
theorem dX1_init_44 : decode cX1_init 44 = .ok (.aload_n 0, 1) := by decide +kernel
theorem dX1_init_45 : decode cX1_init 45 = .ok (.bipush 24, 2) := by decide +kernel
theorem dX1_init_47 : decode cX1_init 47 = .ok (.newarray .int, 2) := by decide +kernel
theorem dX1_init_49 : decode cX1_init 49 = .ok (.putfield 27, 3) := by decide +kernel
theorem dX1_init_52 : decode cX1_init 52 = .ok (.aload_n 0, 1) := by decide +kernel
theorem dX1_init_53 : decode cX1_init 53 = .ok (.bipush 24, 2) := by decide +kernel
theorem dX1_init_55 : decode cX1_init 55 = .ok (.newarray .int, 2) := by decide +kernel
theorem dX1_init_57 : decode cX1_init 57 = .ok (.putfield 30, 3) := by decide +kernel
theorem dX1_init_60 : decode cX1_init 60 = .ok (.aload_n 0, 1) := by decide +kernel
theorem dX1_init_61 : decode cX1_init 61 = .ok (.bipush 20, 2) := by decide +kernel
theorem dX1_init_63 : decode cX1_init 63 = .ok (.newarray .int, 2) := by decide +kernel
theorem dX1_init_65 : decode cX1_init 65 = .ok (.putfield 33, 3) := by decide +kernel
theorem dX1_init_68 : decode cX1_init 68 = .ok (.aload_n 0, 1) := by decide +kernel
theorem dX1_init_69 : decode cX1_init 69 = .ok (.bipush 20, 2) := by decide +kernel
theorem dX1_init_71 : decode cX1_init 71 = .ok (.newarray .int, 2) := by decide +kernel
theorem dX1_init_73 : decode cX1_init 73 = .ok (.putfield 36, 3) := by decide +kernel
theorem dX1_init_76 : decode cX1_init 76 = .ok (.return_, 1) := by decide +kernel
theorem dX1_copyFrom_0 : decode cX1_copyFrom 0 = .ok (.aload_n 0, 1) := by decide +kernel
theorem dX1_copyFrom_1 : decode cX1_copyFrom 1 = .ok (.aload_n 1, 1) := by decide +kernel
theorem dX1_copyFrom_2 : decode cX1_copyFrom 2 = .ok (.getfield 39, 3) := by decide +kernel
theorem dX1_copyFrom_5 : decode cX1_copyFrom 5 = .ok (.putfield 39, 3) := by decide +kernel
theorem dX1_copyFrom_8 : decode cX1_copyFrom 8 = .ok (.aload_n 0, 1) := by decide +kernel
theorem dX1_copyFrom_9 : decode cX1_copyFrom 9 = .ok (.aload_n 1, 1) := by decide +kernel
theorem dX1_copyFrom_10 : decode cX1_copyFrom 10 = .ok (.getfield 43, 3) := by decide +kernel
theorem dX1_copyFrom_13 : decode cX1_copyFrom 13 = .ok (.putfield 43, 3) := by decide +kernel
theorem dX1_copyFrom_16 : decode cX1_copyFrom 16 = .ok (.aload_n 1, 1) := by decide +kernel
theorem dX1_copyFrom_17 : decode cX1_copyFrom 17 = .ok (.getfield 9, 3) := by decide +kernel
theorem dX1_copyFrom_20 : decode cX1_copyFrom 20 = .ok (.iconst 0, 1) := by decide +kernel
theorem dX1_copyFrom_21 : decode cX1_copyFrom 21 = .ok (.aload_n 0, 1) := by decide +kernel
theorem dX1_copyFrom_22 : decode cX1_copyFrom 22 = .ok (.getfield 9, 3) := by decide +kernel
theorem dX1_copyFrom_25 : decode cX1_copyFrom 25 = .ok (.iconst 0, 1) := by decide +kernel
theorem dX1_copyFrom_26 : decode cX1_copyFrom 26 = .ok (.aload_n 0, 1) := by decide +kernel
theorem dX1_copyFrom_27 : decode cX1_copyFrom 27 = .ok (.getfield 39, 3) := by decide +kernel
theorem dX1_copyFrom_30 : decode cX1_copyFrom 30 = .ok (.invokestatic 46, 3) := by decide +kernel
theorem dX1_copyFrom_33 : decode cX1_copyFrom 33 = .ok (.aload_n 1, 1) := by decide +kernel
theorem dX1_copyFrom_34 : decode cX1_copyFrom 34 = .ok (.getfield 15, 3) := by decide +kernel
theorem dX1_copyFrom_37 : decode cX1_copyFrom 37 = .ok (.iconst 0, 1) := by decide +kernel
theorem dX1_copyFrom_38 : decode cX1_copyFrom 38 = .ok (.aload_n 0, 1) := by decide +kernel
theorem dX1_copyFrom_39 : decode cX1_copyFrom 39 = .ok (.getfield 15, 3) := by decide +kernel
theorem dX1_copyFrom_42 : decode cX1_copyFrom 42 = .ok (.iconst 0, 1) := by decide +kernel
theorem dX1_copyFrom_43 : decode cX1_copyFrom 43 = .ok (.aload_n 0, 1) := by decide +kernel
theorem dX1_copyFrom_44 : decode cX1_copyFrom 44 = .ok (.getfield 39, 3) := by decide +kernel
theorem dX1_copyFrom_47 : decode cX1_copyFrom 47 = .ok (.invokestatic 46, 3) := by decide +kernel
theorem dX1_copyFrom_50 : decode cX1_copyFrom 50 = .ok (.aload_n 1, 1) := by decide +kernel
theorem dX1_copyFrom_51 : decode cX1_copyFrom 51 = .ok (.getfield 18, 3) := by decide +kernel
theorem dX1_copyFrom_54 : decode cX1_copyFrom 54 = .ok (.iconst 0, 1) := by decide +kernel
theorem dX1_copyFrom_55 : decode cX1_copyFrom 55 = .ok (.aload_n 0, 1) := by decide +kernel
theorem dX1_copyFrom_56 : decode cX1_copyFrom 56 = .ok (.getfield 18, 3) := by decide +kernel
theorem dX1_copyFrom_59 : decode cX1_copyFrom 59 = .ok (.iconst 0, 1) := by decide +kernel
theorem dX1_copyFrom_60 : decode cX1_copyFrom 60 = .ok (.aload_n 0, 1) := by decide +kernel
theorem dX1_copyFrom_61 : decode cX1_copyFrom 61 = .ok (.getfield 39, 3) := by decide +kernel
theorem dX1_copyFrom_64 : decode cX1_copyFrom 64 = .ok (.invokestatic 46, 3) := by decide +kernel
theorem dX1_copyFrom_67 : decode cX1_copyFrom 67 = .ok (.aload_n 1, 1) := by decide +kernel
theorem dX1_copyFrom_68 : decode cX1_copyFrom 68 = .ok (.getfield 21, 3) := by decide +kernel
theorem dX1_copyFrom_71 : decode cX1_copyFrom 71 = .ok (.iconst 0, 1) := by decide +kernel
theorem dX1_copyFrom_72 : decode cX1_copyFrom 72 = .ok (.aload_n 0, 1) := by decide +kernel
theorem dX1_copyFrom_73 : decode cX1_copyFrom 73 = .ok (.getfield 21, 3) := by decide +kernel
theorem dX1_copyFrom_76 : decode cX1_copyFrom 76 = .ok (.iconst 0, 1) := by decide +kernel
theorem dX1_copyFrom_77 : decode cX1_copyFrom 77 = .ok (.aload_n 0, 1) := by decide +kernel
theorem dX1_copyFrom_78 : decode cX1_copyFrom 78 = .ok (.getfield 39, 3) := by decide +kernel
theorem dX1_copyFrom_81 : decode cX1_copyFrom 81 = .ok (.invokestatic 46, 3) := by decide +kernel
theorem dX1_copyFrom_84 : decode cX1_copyFrom 84 = .ok (.aload_n 1, 1) := by decide +kernel
theorem dX1_copyFrom_85 : decode cX1_copyFrom 85 = .ok (.getfield 24, 3) := by decide +kernel
theorem dX1_copyFrom_88 : decode cX1_copyFrom 88 = .ok (.iconst 0, 1) := by decide +kernel
theorem dX1_copyFrom_89 : decode cX1_copyFrom 89 = .ok (.aload_n 0, 1) := by decide +kernel
theorem dX1_copyFrom_90 : decode cX1_copyFrom 90 = .ok (.getfield 24, 3) := by decide +kernel
theorem dX1_copyFrom_93 : decode cX1_copyFrom 93 = .ok (.iconst 0, 1) := by decide +kernel
theorem dX1_copyFrom_94 : decode cX1_copyFrom 94 = .ok (.aload_n 0, 1) := by decide +kernel
theorem dX1_copyFrom_95 : decode cX1_copyFrom 95 = .ok (.getfield 39, 3) := by decide +kernel
theorem dX1_copyFrom_98 : decode cX1_copyFrom 98 = .ok (.invokestatic 46, 3) := by decide +kernel
theorem dX1_copyFrom_101 : decode cX1_copyFrom 101 = .ok (.aload_n 1, 1) := by decide +kernel
theorem dX1_copyFrom_102 : decode cX1_copyFrom 102 = .ok (.getfield 27, 3) := by decide +kernel
theorem dX1_copyFrom_105 : decode cX1_copyFrom 105 = .ok (.iconst 0, 1) := by decide +kernel
theorem dX1_copyFrom_106 : decode cX1_copyFrom 106 = .ok (.aload_n 0, 1) := by decide +kernel
theorem dX1_copyFrom_107 : decode cX1_copyFrom 107 = .ok (.getfield 27, 3) := by decide +kernel
theorem dX1_copyFrom_110 : decode cX1_copyFrom 110 = .ok (.iconst 0, 1) := by decide +kernel
theorem dX1_copyFrom_111 : decode cX1_copyFrom 111 = .ok (.aload_n 0, 1) := by decide +kernel
theorem dX1_copyFrom_112 : decode cX1_copyFrom 112 = .ok (.getfield 39, 3) := by decide +kernel
theorem dX1_copyFrom_115 : decode cX1_copyFrom 115 = .ok (.invokestatic 46, 3) := by decide +kernel
theorem dX1_copyFrom_118 : decode cX1_copyFrom 118 = .ok (.aload_n 1, 1) := by decide +kernel
theorem dX1_copyFrom_119 : decode cX1_copyFrom 119 = .ok (.getfield 30, 3) := by decide +kernel
theorem dX1_copyFrom_122 : decode cX1_copyFrom 122 = .ok (.iconst 0, 1) := by decide +kernel
theorem dX1_copyFrom_123 : decode cX1_copyFrom 123 = .ok (.aload_n 0, 1) := by decide +kernel
theorem dX1_copyFrom_124 : decode cX1_copyFrom 124 = .ok (.getfield 30, 3) := by decide +kernel
theorem dX1_copyFrom_127 : decode cX1_copyFrom 127 = .ok (.iconst 0, 1) := by decide +kernel
theorem dX1_copyFrom_128 : decode cX1_copyFrom 128 = .ok (.aload_n 0, 1) := by decide +kernel
theorem dX1_copyFrom_129 : decode cX1_copyFrom 129 = .ok (.getfield 39, 3) := by decide +kernel
theorem dX1_copyFrom_132 : decode cX1_copyFrom 132 = .ok (.invokestatic 46, 3) := by decide +kernel
theorem dX1_copyFrom_135 : decode cX1_copyFrom 135 = .ok (.aload_n 1, 1) := by decide +kernel
theorem dX1_copyFrom_136 : decode cX1_copyFrom 136 = .ok (.getfield 33, 3) := by decide +kernel
theorem dX1_copyFrom_139 : decode cX1_copyFrom 139 = .ok (.iconst 0, 1) := by decide +kernel
theorem dX1_copyFrom_140 : decode cX1_copyFrom 140 = .ok (.aload_n 0, 1) := by decide +kernel
theorem dX1_copyFrom_141 : decode cX1_copyFrom 141 = .ok (.getfield 33, 3) := by decide +kernel
theorem dX1_copyFrom_144 : decode cX1_copyFrom 144 = .ok (.iconst 0, 1) := by decide +kernel
theorem dX1_copyFrom_145 : decode cX1_copyFrom 145 = .ok (.aload_n 0, 1) := by decide +kernel
theorem dX1_copyFrom_146 : decode cX1_copyFrom 146 = .ok (.getfield 43, 3) := by decide +kernel
theorem dX1_copyFrom_149 : decode cX1_copyFrom 149 = .ok (.invokestatic 46, 3) := by decide +kernel
theorem dX1_copyFrom_152 : decode cX1_copyFrom 152 = .ok (.aload_n 1, 1) := by decide +kernel
theorem dX1_copyFrom_153 : decode cX1_copyFrom 153 = .ok (.getfield 36, 3) := by decide +kernel
theorem dX1_copyFrom_156 : decode cX1_copyFrom 156 = .ok (.iconst 0, 1) := by decide +kernel
theorem dX1_copyFrom_157 : decode cX1_copyFrom 157 = .ok (.aload_n 0, 1) := by decide +kernel
theorem dX1_copyFrom_158 : decode cX1_copyFrom 158 = .ok (.getfield 36, 3) := by decide +kernel
theorem dX1_copyFrom_161 : decode cX1_copyFrom 161 = .ok (.iconst 0, 1) := by decide +kernel
theorem dX1_copyFrom_162 : decode cX1_copyFrom 162 = .ok (.aload_n 0, 1) := by decide +kernel
theorem dX1_copyFrom_163 : decode cX1_copyFrom 163 = .ok (.getfield 43, 3) := by decide +kernel
theorem dX1_copyFrom_166 : decode cX1_copyFrom 166 = .ok (.invokestatic 46, 3) := by decide +kernel
theorem dX1_copyFrom_169 : decode cX1_copyFrom 169 = .ok (.return_, 1) := by decide +kernel
theorem dX1_addName_0 : decode cX1_addName 0 = .ok (.aload_n 0, 1) := by decide +kernel
theorem dX1_addName_1 : decode cX1_addName 1 = .ok (.getfield 9, 3) := by decide +kernel
theorem dX1_addName_4 : decode cX1_addName 4 = .ok (.aload_n 0, 1) := by decide +kernel
theorem dX1_addName_5 : decode cX1_addName 5 = .ok (.getfield 39, 3) := by decide +kernel
theorem dX1_addName_8 : decode cX1_addName 8 = .ok (.iload_n 1, 1) := by decide +kernel
theorem dX1_addName_9 : decode cX1_addName 9 = .ok (.iastore, 1) := by decide +kernel
theorem dX1_addName_10 : decode cX1_addName 10 = .ok (.aload_n 0, 1) := by decide +kernel
theorem dX1_addName_11 : decode cX1_addName 11 = .ok (.getfield 15, 3) := by decide +kernel
theorem dX1_addName_14 : decode cX1_addName 14 = .ok (.aload_n 0, 1) := by decide +kernel
theorem dX1_addName_15 : decode cX1_addName 15 = .ok (.getfield 39, 3) := by decide +kernel
theorem dX1_addName_18 : decode cX1_addName 18 = .ok (.iload_n 2, 1) := by decide +kernel
theorem dX1_addName_19 : decode cX1_addName 19 = .ok (.iastore, 1) := by decide +kernel
theorem dX1_addName_20 : decode cX1_addName 20 = .ok (.aload_n 0, 1) := by decide +kernel
theorem dX1_addName_21 : decode cX1_addName 21 = .ok (.getfield 18, 3) := by decide +kernel
theorem dX1_addName_24 : decode cX1_addName 24 = .ok (.aload_n 0, 1) := by decide +kernel
theorem dX1_addName_25 : decode cX1_addName 25 = .ok (.getfield 39, 3) := by decide +kernel
theorem dX1_addName_28 : decode cX1_addName 28 = .ok (.iload_n 3, 1) := by decide +kernel
theorem dX1_addName_29 : decode cX1_addName 29 = .ok (.iastore, 1) := by decide +kernel
theorem dX1_addName_30 : decode cX1_addName 30 = .ok (.aload_n 0, 1) := by decide +kernel
theorem dX1_addName_31 : decode cX1_addName 31 = .ok (.getfield 21, 3) := by decide +kernel
theorem dX1_addName_34 : decode cX1_addName 34 = .ok (.aload_n 0, 1) := by decide +kernel
theorem dX1_addName_35 : decode cX1_addName 35 = .ok (.getfield 39, 3) := by decide +kernel
theorem dX1_addName_38 : decode cX1_addName 38 = .ok (.bipush 20, 2) := by decide +kernel
theorem dX1_addName_40 : decode cX1_addName 40 = .ok (.iastore, 1) := by decide +kernel
theorem dX1_addName_41 : decode cX1_addName 41 = .ok (.aload_n 0, 1) := by decide +kernel
theorem dX1_addName_42 : decode cX1_addName 42 = .ok (.getfield 24, 3) := by decide +kernel
theorem dX1_addName_45 : decode cX1_addName 45 = .ok (.aload_n 0, 1) := by decide +kernel
theorem dX1_addName_46 : decode cX1_addName 46 = .ok (.getfield 39, 3) := by decide +kernel
theorem dX1_addName_49 : decode cX1_addName 49 = .ok (.bipush 8, 2) := by decide +kernel
theorem dX1_addName_51 : decode cX1_addName 51 = .ok (.iastore, 1) := by decide +kernel
theorem dX1_addName_52 : decode cX1_addName 52 = .ok (.aload_n 0, 1) := by decide +kernel
theorem dX1_addName_53 : decode cX1_addName 53 = .ok (.getfield 27, 3) := by decide +kernel
theorem dX1_addName_56 : decode cX1_addName 56 = .ok (.aload_n 0, 1) := by decide +kernel
theorem dX1_addName_57 : decode cX1_addName 57 = .ok (.getfield 39, 3) := by decide +kernel
theorem dX1_addName_60 : decode cX1_addName 60 = .ok (.bipush 100, 2) := by decide +kernel
theorem dX1_addName_62 : decode cX1_addName 62 = .ok (.iastore, 1) := by decide +kernel
theorem dX1_addName_63 : decode cX1_addName 63 = .ok (.aload_n 0, 1) := by decide +kernel
theorem dX1_addName_64 : decode cX1_addName 64 = .ok (.getfield 30, 3) := by decide +kernel
theorem dX1_addName_67 : decode cX1_addName 67 = .ok (.aload_n 0, 1) := by decide +kernel
theorem dX1_addName_68 : decode cX1_addName 68 = .ok (.getfield 39, 3) := by decide +kernel
theorem dX1_addName_71 : decode cX1_addName 71 = .ok (.iconst (-1), 1) := by decide +kernel
theorem dX1_addName_72 : decode cX1_addName 72 = .ok (.iastore, 1) := by decide +kernel
theorem dX1_addName_73 : decode cX1_addName 73 = .ok (.aload_n 0, 1) := by decide +kernel
theorem dX1_addName_74 : decode cX1_addName 74 = .ok (.dup, 1) := by decide +kernel
theorem dX1_addName_75 : decode cX1_addName 75 = .ok (.getfield 39, 3) := by decide +kernel
theorem dX1_addName_78 : decode cX1_addName 78 = .ok (.dup_x1, 1) := by decide +kernel
theorem dX1_addName_79 : decode cX1_addName 79 = .ok (.iconst 1, 1) := by decide +kernel
theorem dX1_addName_80 : decode cX1_addName 80 = .ok (.iadd, 1) := by decide +kernel
theorem dX1_addName_81 : decode cX1_addName 81 = .ok (.putfield 39, 3) := by decide +kernel
theorem dX1_addName_84 : decode cX1_addName 84 = .ok (.ireturn, 1) := by decide +kernel
theorem dX1_addDot_0 : decode cX1_addDot 0 = .ok (.aload_n 0, 1) := by decide +kernel
theorem dX1_addDot_1 : decode cX1_addDot 1 = .ok (.getfield 33, 3) := by decide +kernel
theorem dX1_addDot_4 : decode cX1_addDot 4 = .ok (.aload_n 0, 1) := by decide +kernel
theorem dX1_addDot_5 : decode cX1_addDot 5 = .ok (.getfield 43, 3) := by decide +kernel
theorem dX1_addDot_8 : decode cX1_addDot 8 = .ok (.iload_n 1, 1) := by decide +kernel
theorem dX1_addDot_9 : decode cX1_addDot 9 = .ok (.iastore, 1) := by decide +kernel
theorem dX1_addDot_10 : decode cX1_addDot 10 = .ok (.aload_n 0, 1) := by decide +kernel
theorem dX1_addDot_11 : decode cX1_addDot 11 = .ok (.getfield 36, 3) := by decide +kernel
theorem dX1_addDot_14 : decode cX1_addDot 14 = .ok (.aload_n 0, 1) := by decide +kernel
theorem dX1_addDot_15 : decode cX1_addDot 15 = .ok (.getfield 43, 3) := by decide +kernel
theorem dX1_addDot_18 : decode cX1_addDot 18 = .ok (.iload_n 2, 1) := by decide +kernel
theorem dX1_addDot_19 : decode cX1_addDot 19 = .ok (.iastore, 1) := by decide +kernel
theorem dX1_addDot_20 : decode cX1_addDot 20 = .ok (.aload_n 0, 1) := by decide +kernel
theorem dX1_addDot_21 : decode cX1_addDot 21 = .ok (.dup, 1) := by decide +kernel
theorem dX1_addDot_22 : decode cX1_addDot 22 = .ok (.getfield 43, 3) := by decide +kernel
theorem dX1_addDot_25 : decode cX1_addDot 25 = .ok (.dup_x1, 1) := by decide +kernel
theorem dX1_addDot_26 : decode cX1_addDot 26 = .ok (.iconst 1, 1) := by decide +kernel
theorem dX1_addDot_27 : decode cX1_addDot 27 = .ok (.iadd, 1) := by decide +kernel
theorem dX1_addDot_28 : decode cX1_addDot 28 = .ok (.putfield 43, 3) := by decide +kernel
theorem dX1_addDot_31 : decode cX1_addDot 31 = .ok (.ireturn, 1) := by decide +kernel
theorem dX1_has_0 : decode cX1_has 0 = .ok (.iload_n 1, 1) := by decide +kernel
theorem dX1_has_1 : decode cX1_has 1 = .ok (.ifCond .lt 15, 3) := by decide +kernel
theorem dX1_has_4 : decode cX1_has 4 = .ok (.iload_n 1, 1) := by decide +kernel
theorem dX1_has_5 : decode cX1_has 5 = .ok (.aload_n 0, 1) := by decide +kernel
theorem dX1_has_6 : decode cX1_has 6 = .ok (.getfield 39, 3) := by decide +kernel
theorem dX1_has_9 : decode cX1_has 9 = .ok (.if_icmp .ge 7, 3) := by decide +kernel
theorem dX1_has_12 : decode cX1_has 12 = .ok (.iconst 1, 1) := by decide +kernel
theorem dX1_has_13 : decode cX1_has 13 = .ok (.goto 4, 3) := by decide +kernel
theorem dX1_has_16 : decode cX1_has 16 = .ok (.iconst 0, 1) := by decide +kernel
theorem dX1_has_17 : decode cX1_has 17 = .ok (.ireturn, 1) := by decide +kernel
theorem dX1_hasWay_0 : decode cX1_hasWay 0 = .ok (.aload_n 0, 1) := by decide +kernel
theorem dX1_hasWay_1 : decode cX1_hasWay 1 = .ok (.iload_n 1, 1) := by decide +kernel
theorem dX1_hasWay_2 : decode cX1_hasWay 2 = .ok (.invokevirtual 52, 3) := by decide +kernel
theorem dX1_hasWay_5 : decode cX1_hasWay 5 = .ok (.ifCond .eq 20, 3) := by decide +kernel
theorem dX1_hasWay_8 : decode cX1_hasWay 8 = .ok (.iload_n 2, 1) := by decide +kernel
theorem dX1_hasWay_9 : decode cX1_hasWay 9 = .ok (.ifCond .lt 16, 3) := by decide +kernel
theorem dX1_hasWay_12 : decode cX1_hasWay 12 = .ok (.iload_n 2, 1) := by decide +kernel
theorem dX1_hasWay_13 : decode cX1_hasWay 13 = .ok (.aload_n 0, 1) := by decide +kernel
theorem dX1_hasWay_14 : decode cX1_hasWay 14 = .ok (.iload_n 1, 1) := by decide +kernel
theorem dX1_hasWay_15 : decode cX1_hasWay 15 = .ok (.invokevirtual 56, 3) := by decide +kernel
theorem dX1_hasWay_18 : decode cX1_hasWay 18 = .ok (.if_icmp .ge 7, 3) := by decide +kernel
theorem dX1_hasWay_21 : decode cX1_hasWay 21 = .ok (.iconst 1, 1) := by decide +kernel
theorem dX1_hasWay_22 : decode cX1_hasWay 22 = .ok (.goto 4, 3) := by decide +kernel
theorem dX1_hasWay_25 : decode cX1_hasWay 25 = .ok (.iconst 0, 1) := by decide +kernel
theorem dX1_hasWay_26 : decode cX1_hasWay 26 = .ok (.ireturn, 1) := by decide +kernel
theorem dX1_waysOf_0 : decode cX1_waysOf 0 = .ok (.aload_n 0, 1) := by decide +kernel
theorem dX1_waysOf_1 : decode cX1_waysOf 1 = .ok (.getfield 9, 3) := by decide +kernel
theorem dX1_waysOf_4 : decode cX1_waysOf 4 = .ok (.iload_n 1, 1) := by decide +kernel
theorem dX1_waysOf_5 : decode cX1_waysOf 5 = .ok (.iaload, 1) := by decide +kernel
theorem dX1_waysOf_6 : decode cX1_waysOf 6 = .ok (.ifCond .ne 8, 3) := by decide +kernel
theorem dX1_waysOf_9 : decode cX1_waysOf 9 = .ok (.bipush 8, 2) := by decide +kernel
theorem dX1_waysOf_11 : decode cX1_waysOf 11 = .ok (.goto 5, 3) := by decide +kernel
theorem dX1_waysOf_14 : decode cX1_waysOf 14 = .ok (.bipush 16, 2) := by decide +kernel
theorem dX1_waysOf_16 : decode cX1_waysOf 16 = .ok (.ireturn, 1) := by decide +kernel
theorem dX1_isOfKind_0 : decode cX1_isOfKind 0 = .ok (.iload_n 2, 1) := by decide +kernel
theorem dX1_isOfKind_1 : decode cX1_isOfKind 1 = .ok (.ifCond .eq 28, 3) := by decide +kernel
theorem dX1_isOfKind_4 : decode cX1_isOfKind 4 = .ok (.iload_n 2, 1) := by decide +kernel
theorem dX1_isOfKind_5 : decode cX1_isOfKind 5 = .ok (.aload_n 0, 1) := by decide +kernel
theorem dX1_isOfKind_6 : decode cX1_isOfKind 6 = .ok (.getfield 9, 3) := by decide +kernel
theorem dX1_isOfKind_9 : decode cX1_isOfKind 9 = .ok (.iload_n 1, 1) := by decide +kernel
theorem dX1_isOfKind_10 : decode cX1_isOfKind 10 = .ok (.iaload, 1) := by decide +kernel
theorem dX1_isOfKind_11 : decode cX1_isOfKind 11 = .ok (.if_icmp .eq 18, 3) := by decide +kernel
theorem dX1_isOfKind_14 : decode cX1_isOfKind 14 = .ok (.iload_n 2, 1) := by decide +kernel
theorem dX1_isOfKind_15 : decode cX1_isOfKind 15 = .ok (.iconst 2, 1) := by decide +kernel
theorem dX1_isOfKind_16 : decode cX1_isOfKind 16 = .ok (.if_icmp .ne 17, 3) := by decide +kernel
theorem dX1_isOfKind_19 : decode cX1_isOfKind 19 = .ok (.aload_n 0, 1) := by decide +kernel
theorem dX1_isOfKind_20 : decode cX1_isOfKind 20 = .ok (.getfield 9, 3) := by decide +kernel
theorem dX1_isOfKind_23 : decode cX1_isOfKind 23 = .ok (.iload_n 1, 1) := by decide +kernel
theorem dX1_isOfKind_24 : decode cX1_isOfKind 24 = .ok (.iaload, 1) := by decide +kernel
theorem dX1_isOfKind_25 : decode cX1_isOfKind 25 = .ok (.iconst 3, 1) := by decide +kernel
theorem dX1_isOfKind_26 : decode cX1_isOfKind 26 = .ok (.if_icmp .ne 7, 3) := by decide +kernel
theorem dX1_isOfKind_29 : decode cX1_isOfKind 29 = .ok (.iconst 1, 1) := by decide +kernel
theorem dX1_isOfKind_30 : decode cX1_isOfKind 30 = .ok (.goto 4, 3) := by decide +kernel
theorem dX1_isOfKind_33 : decode cX1_isOfKind 33 = .ok (.iconst 0, 1) := by decide +kernel
theorem dX1_isOfKind_34 : decode cX1_isOfKind 34 = .ok (.ireturn, 1) := by decide +kernel
theorem dX1_priceOf_0 : decode cX1_priceOf 0 = .ok (.iload_n 2, 1) := by decide +kernel
theorem dX1_priceOf_1 : decode cX1_priceOf 1 = .ok (.bipush 8, 2) := by decide +kernel
theorem dX1_priceOf_3 : decode cX1_priceOf 3 = .ok (.if_icmp .ge 7, 3) := by decide +kernel
theorem dX1_priceOf_6 : decode cX1_priceOf 6 = .ok (.iconst 5, 1) := by decide +kernel
theorem dX1_priceOf_7 : decode cX1_priceOf 7 = .ok (.iload_n 2, 1) := by decide +kernel
theorem dX1_priceOf_8 : decode cX1_priceOf 8 = .ok (.imul, 1) := by decide +kernel
theorem dX1_priceOf_9 : decode cX1_priceOf 9 = .ok (.ireturn, 1) := by decide +kernel
theorem dX1_priceOf_10 : decode cX1_priceOf 10 = .ok (.iconst 5, 1) := by decide +kernel
theorem dX1_priceOf_11 : decode cX1_priceOf 11 = .ok (.iload_n 2, 1) := by decide +kernel
theorem dX1_priceOf_12 : decode cX1_priceOf 12 = .ok (.bipush 8, 2) := by decide +kernel
theorem dX1_priceOf_14 : decode cX1_priceOf 14 = .ok (.isub, 1) := by decide +kernel
theorem dX1_priceOf_15 : decode cX1_priceOf 15 = .ok (.imul, 1) := by decide +kernel
theorem dX1_priceOf_16 : decode cX1_priceOf 16 = .ok (.aload_n 0, 1) := by decide +kernel
theorem dX1_priceOf_17 : decode cX1_priceOf 17 = .ok (.getfield 9, 3) := by decide +kernel
theorem dX1_priceOf_20 : decode cX1_priceOf 20 = .ok (.iload_n 1, 1) := by decide +kernel
theorem dX1_priceOf_21 : decode cX1_priceOf 21 = .ok (.iaload, 1) := by decide +kernel
theorem dX1_priceOf_22 : decode cX1_priceOf 22 = .ok (.iconst 1, 1) := by decide +kernel
theorem dX1_priceOf_23 : decode cX1_priceOf 23 = .ok (.if_icmp .ne 8, 3) := by decide +kernel
theorem dX1_priceOf_26 : decode cX1_priceOf 26 = .ok (.bipush 20, 2) := by decide +kernel
theorem dX1_priceOf_28 : decode cX1_priceOf 28 = .ok (.goto 5, 3) := by decide +kernel
theorem dX1_priceOf_31 : decode cX1_priceOf 31 = .ok (.bipush 50, 2) := by decide +kernel
theorem dX1_priceOf_33 : decode cX1_priceOf 33 = .ok (.iadd, 1) := by decide +kernel
theorem dX1_priceOf_34 : decode cX1_priceOf 34 = .ok (.ireturn, 1) := by decide +kernel
theorem dX1_wayByPrice_0 : decode cX1_wayByPrice 0 = .ok (.aload_n 0, 1) := by decide +kernel
theorem dX1_wayByPrice_1 : decode cX1_wayByPrice 1 = .ok (.getfield 9, 3) := by decide +kernel
theorem dX1_wayByPrice_4 : decode cX1_wayByPrice 4 = .ok (.iload_n 1, 1) := by decide +kernel
theorem dX1_wayByPrice_5 : decode cX1_wayByPrice 5 = .ok (.iaload, 1) := by decide +kernel
theorem dX1_wayByPrice_6 : decode cX1_wayByPrice 6 = .ok (.iconst 1, 1) := by decide +kernel
theorem dX1_wayByPrice_7 : decode cX1_wayByPrice 7 = .ok (.if_icmp .ne 11, 3) := by decide +kernel
theorem dX1_wayByPrice_10 : decode cX1_wayByPrice 10 = .ok (.getstatic 60, 3) := by decide +kernel
theorem dX1_wayByPrice_13 : decode cX1_wayByPrice 13 = .ok (.iload_n 2, 1) := by decide +kernel
theorem dX1_wayByPrice_14 : decode cX1_wayByPrice 14 = .ok (.iaload, 1) := by decide +kernel
theorem dX1_wayByPrice_15 : decode cX1_wayByPrice 15 = .ok (.goto 4, 3) := by decide +kernel
theorem dX1_wayByPrice_18 : decode cX1_wayByPrice 18 = .ok (.iload_n 2, 1) := by decide +kernel
theorem dX1_wayByPrice_19 : decode cX1_wayByPrice 19 = .ok (.ireturn, 1) := by decide +kernel
theorem dX1_rankOf_0 : decode cX1_rankOf 0 = .ok (.aload_n 0, 1) := by decide +kernel
theorem dX1_rankOf_1 : decode cX1_rankOf 1 = .ok (.getfield 9, 3) := by decide +kernel
theorem dX1_rankOf_4 : decode cX1_rankOf 4 = .ok (.iload_n 1, 1) := by decide +kernel
theorem dX1_rankOf_5 : decode cX1_rankOf 5 = .ok (.iaload, 1) := by decide +kernel
theorem dX1_rankOf_6 : decode cX1_rankOf 6 = .ok (.iconst 1, 1) := by decide +kernel
theorem dX1_rankOf_7 : decode cX1_rankOf 7 = .ok (.if_icmp .ne 11, 3) := by decide +kernel
theorem dX1_rankOf_10 : decode cX1_rankOf 10 = .ok (.getstatic 63, 3) := by decide +kernel
theorem dX1_rankOf_13 : decode cX1_rankOf 13 = .ok (.iload_n 2, 1) := by decide +kernel
theorem dX1_rankOf_14 : decode cX1_rankOf 14 = .ok (.iaload, 1) := by decide +kernel
theorem dX1_rankOf_15 : decode cX1_rankOf 15 = .ok (.goto 4, 3) := by decide +kernel
theorem dX1_rankOf_18 : decode cX1_rankOf 18 = .ok (.iload_n 2, 1) := by decide +kernel
theorem dX1_rankOf_19 : decode cX1_rankOf 19 = .ok (.ireturn, 1) := by decide +kernel
theorem dX1_gainOf_0 : decode cX1_gainOf 0 = .ok (.aload_n 0, 1) := by decide +kernel
theorem dX1_gainOf_1 : decode cX1_gainOf 1 = .ok (.getfield 27, 3) := by decide +kernel
theorem dX1_gainOf_4 : decode cX1_gainOf 4 = .ok (.iload_n 1, 1) := by decide +kernel
theorem dX1_gainOf_5 : decode cX1_gainOf 5 = .ok (.iaload, 1) := by decide +kernel
theorem dX1_gainOf_6 : decode cX1_gainOf 6 = .ok (.sipush 200, 3) := by decide +kernel
theorem dX1_gainOf_9 : decode cX1_gainOf 9 = .ok (.aload_n 0, 1) := by decide +kernel
theorem dX1_gainOf_10 : decode cX1_gainOf 10 = .ok (.iload_n 1, 1) := by decide +kernel
theorem dX1_gainOf_11 : decode cX1_gainOf 11 = .ok (.iload_n 2, 1) := by decide +kernel
theorem dX1_gainOf_12 : decode cX1_gainOf 12 = .ok (.invokevirtual 66, 3) := by decide +kernel
theorem dX1_gainOf_15 : decode cX1_gainOf 15 = .ok (.isub, 1) := by decide +kernel
theorem dX1_gainOf_16 : decode cX1_gainOf 16 = .ok (.imul, 1) := by decide +kernel
theorem dX1_gainOf_17 : decode cX1_gainOf 17 = .ok (.ireturn, 1) := by decide +kernel
theorem dX1_areNear_0 : decode cX1_areNear 0 = .ok (.aload_n 0, 1) := by decide +kernel
theorem dX1_areNear_1 : decode cX1_areNear 1 = .ok (.getfield 15, 3) := by decide +kernel
theorem dX1_areNear_4 : decode cX1_areNear 4 = .ok (.iload_n 1, 1) := by decide +kernel
theorem dX1_areNear_5 : decode cX1_areNear 5 = .ok (.iaload, 1) := by decide +kernel
theorem dX1_areNear_6 : decode cX1_areNear 6 = .ok (.aload_n 0, 1) := by decide +kernel
theorem dX1_areNear_7 : decode cX1_areNear 7 = .ok (.getfield 15, 3) := by decide +kernel
theorem dX1_areNear_10 : decode cX1_areNear 10 = .ok (.iload_n 2, 1) := by decide +kernel
theorem dX1_areNear_11 : decode cX1_areNear 11 = .ok (.iaload, 1) := by decide +kernel
theorem dX1_areNear_12 : decode cX1_areNear 12 = .ok (.isub, 1) := by decide +kernel
theorem dX1_areNear_13 : decode cX1_areNear 13 = .ok (.invokestatic 70, 3) := by decide +kernel
theorem dX1_areNear_16 : decode cX1_areNear 16 = .ok (.aload_n 0, 1) := by decide +kernel
theorem dX1_areNear_17 : decode cX1_areNear 17 = .ok (.iload_n 1, 1) := by decide +kernel
theorem dX1_areNear_18 : decode cX1_areNear 18 = .ok (.invokevirtual 75, 3) := by decide +kernel
theorem dX1_areNear_21 : decode cX1_areNear 21 = .ok (.aload_n 0, 1) := by decide +kernel
theorem dX1_areNear_22 : decode cX1_areNear 22 = .ok (.iload_n 2, 1) := by decide +kernel
theorem dX1_areNear_23 : decode cX1_areNear 23 = .ok (.invokevirtual 75, 3) := by decide +kernel
theorem dX1_areNear_26 : decode cX1_areNear 26 = .ok (.iadd, 1) := by decide +kernel
theorem dX1_areNear_27 : decode cX1_areNear 27 = .ok (.if_icmp .ge 37, 3) := by decide +kernel
theorem dX1_areNear_30 : decode cX1_areNear 30 = .ok (.aload_n 0, 1) := by decide +kernel
theorem dX1_areNear_31 : decode cX1_areNear 31 = .ok (.getfield 18, 3) := by decide +kernel
theorem dX1_areNear_34 : decode cX1_areNear 34 = .ok (.iload_n 1, 1) := by decide +kernel
theorem dX1_areNear_35 : decode cX1_areNear 35 = .ok (.iaload, 1) := by decide +kernel
theorem dX1_areNear_36 : decode cX1_areNear 36 = .ok (.aload_n 0, 1) := by decide +kernel
theorem dX1_areNear_37 : decode cX1_areNear 37 = .ok (.getfield 18, 3) := by decide +kernel
theorem dX1_areNear_40 : decode cX1_areNear 40 = .ok (.iload_n 2, 1) := by decide +kernel
theorem dX1_areNear_41 : decode cX1_areNear 41 = .ok (.iaload, 1) := by decide +kernel
theorem dX1_areNear_42 : decode cX1_areNear 42 = .ok (.isub, 1) := by decide +kernel
theorem dX1_areNear_43 : decode cX1_areNear 43 = .ok (.invokestatic 70, 3) := by decide +kernel
theorem dX1_areNear_46 : decode cX1_areNear 46 = .ok (.aload_n 0, 1) := by decide +kernel
theorem dX1_areNear_47 : decode cX1_areNear 47 = .ok (.iload_n 1, 1) := by decide +kernel
theorem dX1_areNear_48 : decode cX1_areNear 48 = .ok (.invokevirtual 78, 3) := by decide +kernel
theorem dX1_areNear_51 : decode cX1_areNear 51 = .ok (.aload_n 0, 1) := by decide +kernel
theorem dX1_areNear_52 : decode cX1_areNear 52 = .ok (.iload_n 2, 1) := by decide +kernel
theorem dX1_areNear_53 : decode cX1_areNear 53 = .ok (.invokevirtual 78, 3) := by decide +kernel
theorem dX1_areNear_56 : decode cX1_areNear 56 = .ok (.iadd, 1) := by decide +kernel
theorem dX1_areNear_57 : decode cX1_areNear 57 = .ok (.if_icmp .ge 7, 3) := by decide +kernel
theorem dX1_areNear_60 : decode cX1_areNear 60 = .ok (.iconst 1, 1) := by decide +kernel
theorem dX1_areNear_61 : decode cX1_areNear 61 = .ok (.goto 4, 3) := by decide +kernel
theorem dX1_areNear_64 : decode cX1_areNear 64 = .ok (.iconst 0, 1) := by decide +kernel
theorem dX1_areNear_65 : decode cX1_areNear 65 = .ok (.ireturn, 1) := by decide +kernel
theorem dX1_reachAcross_0 : decode cX1_reachAcross 0 = .ok (.aload_n 0, 1) := by decide +kernel
theorem dX1_reachAcross_1 : decode cX1_reachAcross 1 = .ok (.getfield 21, 3) := by decide +kernel
theorem dX1_reachAcross_4 : decode cX1_reachAcross 4 = .ok (.iload_n 1, 1) := by decide +kernel
theorem dX1_reachAcross_5 : decode cX1_reachAcross 5 = .ok (.iaload, 1) := by decide +kernel
theorem dX1_reachAcross_6 : decode cX1_reachAcross 6 = .ok (.aload_n 0, 1) := by decide +kernel
theorem dX1_reachAcross_7 : decode cX1_reachAcross 7 = .ok (.iload_n 1, 1) := by decide +kernel
theorem dX1_reachAcross_8 : decode cX1_reachAcross 8 = .ok (.iconst 2, 1) := by decide +kernel
theorem dX1_reachAcross_9 : decode cX1_reachAcross 9 = .ok (.invokevirtual 81, 3) := by decide +kernel
theorem dX1_reachAcross_12 : decode cX1_reachAcross 12 = .ok (.ifCond .eq 8, 3) := by decide +kernel
theorem dX1_reachAcross_15 : decode cX1_reachAcross 15 = .ok (.bipush 40, 2) := by decide +kernel
theorem dX1_reachAcross_17 : decode cX1_reachAcross 17 = .ok (.goto 4, 3) := by decide +kernel
theorem dX1_reachAcross_20 : decode cX1_reachAcross 20 = .ok (.iconst 2, 1) := by decide +kernel
theorem dX1_reachAcross_21 : decode cX1_reachAcross 21 = .ok (.iadd, 1) := by decide +kernel
theorem dX1_reachAcross_22 : decode cX1_reachAcross 22 = .ok (.ireturn, 1) := by decide +kernel
theorem dX1_reachDown_0 : decode cX1_reachDown 0 = .ok (.aload_n 0, 1) := by decide +kernel
theorem dX1_reachDown_1 : decode cX1_reachDown 1 = .ok (.getfield 9, 3) := by decide +kernel
theorem dX1_reachDown_4 : decode cX1_reachDown 4 = .ok (.iload_n 1, 1) := by decide +kernel
theorem dX1_reachDown_5 : decode cX1_reachDown 5 = .ok (.iaload, 1) := by decide +kernel
theorem dX1_reachDown_6 : decode cX1_reachDown 6 = .ok (.iconst 1, 1) := by decide +kernel
theorem dX1_reachDown_7 : decode cX1_reachDown 7 = .ok (.if_icmp .ne 14, 3) := by decide +kernel
theorem dX1_reachDown_10 : decode cX1_reachDown 10 = .ok (.iconst 2, 1) := by decide +kernel
theorem dX1_reachDown_11 : decode cX1_reachDown 11 = .ok (.aload_n 0, 1) := by decide +kernel
theorem dX1_reachDown_12 : decode cX1_reachDown 12 = .ok (.getfield 24, 3) := by decide +kernel
theorem dX1_reachDown_15 : decode cX1_reachDown 15 = .ok (.iload_n 1, 1) := by decide +kernel
theorem dX1_reachDown_16 : decode cX1_reachDown 16 = .ok (.iaload, 1) := by decide +kernel
theorem dX1_reachDown_17 : decode cX1_reachDown 17 = .ok (.imul, 1) := by decide +kernel
theorem dX1_reachDown_18 : decode cX1_reachDown 18 = .ok (.goto 9, 3) := by decide +kernel
theorem dX1_reachDown_21 : decode cX1_reachDown 21 = .ok (.aload_n 0, 1) := by decide +kernel
theorem dX1_reachDown_22 : decode cX1_reachDown 22 = .ok (.getfield 24, 3) := by decide +kernel
theorem dX1_reachDown_25 : decode cX1_reachDown 25 = .ok (.iload_n 1, 1) := by decide +kernel
theorem dX1_reachDown_26 : decode cX1_reachDown 26 = .ok (.iaload, 1) := by decide +kernel
theorem dX1_reachDown_27 : decode cX1_reachDown 27 = .ok (.aload_n 0, 1) := by decide +kernel
theorem dX1_reachDown_28 : decode cX1_reachDown 28 = .ok (.iload_n 1, 1) := by decide +kernel
theorem dX1_reachDown_29 : decode cX1_reachDown 29 = .ok (.iconst 2, 1) := by decide +kernel
theorem dX1_reachDown_30 : decode cX1_reachDown 30 = .ok (.invokevirtual 81, 3) := by decide +kernel
theorem dX1_reachDown_33 : decode cX1_reachDown 33 = .ok (.ifCond .eq 8, 3) := by decide +kernel
theorem dX1_reachDown_36 : decode cX1_reachDown 36 = .ok (.bipush 40, 2) := by decide +kernel
theorem dX1_reachDown_38 : decode cX1_reachDown 38 = .ok (.goto 4, 3) := by decide +kernel
theorem dX1_reachDown_41 : decode cX1_reachDown 41 = .ok (.iconst 2, 1) := by decide +kernel
theorem dX1_reachDown_42 : decode cX1_reachDown 42 = .ok (.iadd, 1) := by decide +kernel
theorem dX1_reachDown_43 : decode cX1_reachDown 43 = .ok (.ireturn, 1) := by decide +kernel
theorem dX1_queue_0 : decode cX1_queue 0 = .ok (.iconst 0, 1) := by decide +kernel
theorem dX1_queue_1 : decode cX1_queue 1 = .ok (.istore_n 2, 1) := by decide +kernel
theorem dX1_queue_2 : decode cX1_queue 2 = .ok (.iload_n 2, 1) := by decide +kernel
theorem dX1_queue_3 : decode cX1_queue 3 = .ok (.aload_n 0, 1) := by decide +kernel
theorem dX1_queue_4 : decode cX1_queue 4 = .ok (.getfield 39, 3) := by decide +kernel
theorem dX1_queue_7 : decode cX1_queue 7 = .ok (.if_icmp .ge 46, 3) := by decide +kernel
theorem dX1_queue_10 : decode cX1_queue 10 = .ok (.iload_n 2, 1) := by decide +kernel
theorem dX1_queue_11 : decode cX1_queue 11 = .ok (.istore_n 3, 1) := by decide +kernel
theorem dX1_queue_12 : decode cX1_queue 12 = .ok (.iload_n 3, 1) := by decide +kernel
theorem dX1_queue_13 : decode cX1_queue 13 = .ok (.ifCond .le 30, 3) := by decide +kernel
theorem dX1_queue_16 : decode cX1_queue 16 = .ok (.aload_n 0, 1) := by decide +kernel
theorem dX1_queue_17 : decode cX1_queue 17 = .ok (.iload_n 2, 1) := by decide +kernel
theorem dX1_queue_18 : decode cX1_queue 18 = .ok (.aload_n 1, 1) := by decide +kernel
theorem dX1_queue_19 : decode cX1_queue 19 = .ok (.iload_n 3, 1) := by decide +kernel
theorem dX1_queue_20 : decode cX1_queue 20 = .ok (.iconst 1, 1) := by decide +kernel
theorem dX1_queue_21 : decode cX1_queue 21 = .ok (.isub, 1) := by decide +kernel
theorem dX1_queue_22 : decode cX1_queue 22 = .ok (.iaload, 1) := by decide +kernel
theorem dX1_queue_23 : decode cX1_queue 23 = .ok (.invokevirtual 85, 3) := by decide +kernel
theorem dX1_queue_26 : decode cX1_queue 26 = .ok (.ifCond .eq 17, 3) := by decide +kernel
theorem dX1_queue_29 : decode cX1_queue 29 = .ok (.aload_n 1, 1) := by decide +kernel
theorem dX1_queue_30 : decode cX1_queue 30 = .ok (.iload_n 3, 1) := by decide +kernel
theorem dX1_queue_31 : decode cX1_queue 31 = .ok (.aload_n 1, 1) := by decide +kernel
theorem dX1_queue_32 : decode cX1_queue 32 = .ok (.iload_n 3, 1) := by decide +kernel
theorem dX1_queue_33 : decode cX1_queue 33 = .ok (.iconst 1, 1) := by decide +kernel
theorem dX1_queue_34 : decode cX1_queue 34 = .ok (.isub, 1) := by decide +kernel
theorem dX1_queue_35 : decode cX1_queue 35 = .ok (.iaload, 1) := by decide +kernel
theorem dX1_queue_36 : decode cX1_queue 36 = .ok (.iastore, 1) := by decide +kernel
theorem dX1_queue_37 : decode cX1_queue 37 = .ok (.iinc 3 (-1), 3) := by decide +kernel
theorem dX1_queue_40 : decode cX1_queue 40 = .ok (.goto (-28), 3) := by decide +kernel
theorem dX1_queue_43 : decode cX1_queue 43 = .ok (.aload_n 1, 1) := by decide +kernel
theorem dX1_queue_44 : decode cX1_queue 44 = .ok (.iload_n 3, 1) := by decide +kernel
theorem dX1_queue_45 : decode cX1_queue 45 = .ok (.iload_n 2, 1) := by decide +kernel
theorem dX1_queue_46 : decode cX1_queue 46 = .ok (.iastore, 1) := by decide +kernel
theorem dX1_queue_47 : decode cX1_queue 47 = .ok (.iinc 2 1, 3) := by decide +kernel
theorem dX1_queue_50 : decode cX1_queue 50 = .ok (.goto (-48), 3) := by decide +kernel
theorem dX1_queue_53 : decode cX1_queue 53 = .ok (.return_, 1) := by decide +kernel
theorem dX1_isServedAhead_0 : decode cX1_isServedAhead 0 = .ok (.aload_n 0, 1) := by decide +kernel
theorem dX1_isServedAhead_1 : decode cX1_isServedAhead 1 = .ok (.getfield 9, 3) := by decide +kernel
theorem dX1_isServedAhead_4 : decode cX1_isServedAhead 4 = .ok (.iload_n 1, 1) := by decide +kernel
theorem dX1_isServedAhead_5 : decode cX1_isServedAhead 5 = .ok (.iaload, 1) := by decide +kernel
theorem dX1_isServedAhead_6 : decode cX1_isServedAhead 6 = .ok (.iconst 3, 1) := by decide +kernel
theorem dX1_isServedAhead_7 : decode cX1_isServedAhead 7 = .ok (.if_icmp .ne 7, 3) := by decide +kernel
theorem dX1_isServedAhead_10 : decode cX1_isServedAhead 10 = .ok (.iconst 1, 1) := by decide +kernel
theorem dX1_isServedAhead_11 : decode cX1_isServedAhead 11 = .ok (.goto 4, 3) := by decide +kernel
theorem dX1_isServedAhead_14 : decode cX1_isServedAhead 14 = .ok (.iconst 0, 1) := by decide +kernel
theorem dX1_isServedAhead_15 : decode cX1_isServedAhead 15 = .ok (.istore_n 3, 1) := by decide +kernel
theorem dX1_isServedAhead_16 : decode cX1_isServedAhead 16 = .ok (.iload_n 3, 1) := by decide +kernel
theorem dX1_isServedAhead_17 : decode cX1_isServedAhead 17 = .ok (.aload_n 0, 1) := by decide +kernel
theorem dX1_isServedAhead_18 : decode cX1_isServedAhead 18 = .ok (.getfield 9, 3) := by decide +kernel
theorem dX1_isServedAhead_21 : decode cX1_isServedAhead 21 = .ok (.iload_n 2, 1) := by decide +kernel
theorem dX1_isServedAhead_22 : decode cX1_isServedAhead 22 = .ok (.iaload, 1) := by decide +kernel
theorem dX1_isServedAhead_23 : decode cX1_isServedAhead 23 = .ok (.iconst 3, 1) := by decide +kernel
theorem dX1_isServedAhead_24 : decode cX1_isServedAhead 24 = .ok (.if_icmp .ne 7, 3) := by decide +kernel
theorem dX1_isServedAhead_27 : decode cX1_isServedAhead 27 = .ok (.iconst 1, 1) := by decide +kernel
theorem dX1_isServedAhead_28 : decode cX1_isServedAhead 28 = .ok (.goto 4, 3) := by decide +kernel
theorem dX1_isServedAhead_31 : decode cX1_isServedAhead 31 = .ok (.iconst 0, 1) := by decide +kernel
theorem dX1_isServedAhead_32 : decode cX1_isServedAhead 32 = .ok (.if_icmp .eq 5, 3) := by decide +kernel
theorem dX1_isServedAhead_35 : decode cX1_isServedAhead 35 = .ok (.iload_n 3, 1) := by decide +kernel
theorem dX1_isServedAhead_36 : decode cX1_isServedAhead 36 = .ok (.ireturn, 1) := by decide +kernel
theorem dX1_isServedAhead_37 : decode cX1_isServedAhead 37 = .ok (.aload_n 0, 1) := by decide +kernel
theorem dX1_isServedAhead_38 : decode cX1_isServedAhead 38 = .ok (.getfield 27, 3) := by decide +kernel
theorem dX1_isServedAhead_41 : decode cX1_isServedAhead 41 = .ok (.iload_n 1, 1) := by decide +kernel
theorem dX1_isServedAhead_42 : decode cX1_isServedAhead 42 = .ok (.iaload, 1) := by decide +kernel
theorem dX1_isServedAhead_43 : decode cX1_isServedAhead 43 = .ok (.aload_n 0, 1) := by decide +kernel
theorem dX1_isServedAhead_44 : decode cX1_isServedAhead 44 = .ok (.getfield 27, 3) := by decide +kernel
theorem dX1_isServedAhead_47 : decode cX1_isServedAhead 47 = .ok (.iload_n 2, 1) := by decide +kernel
theorem dX1_isServedAhead_48 : decode cX1_isServedAhead 48 = .ok (.iaload, 1) := by decide +kernel
theorem dX1_isServedAhead_49 : decode cX1_isServedAhead 49 = .ok (.if_icmp .le 7, 3) := by decide +kernel
theorem dX1_isServedAhead_52 : decode cX1_isServedAhead 52 = .ok (.iconst 1, 1) := by decide +kernel
theorem dX1_isServedAhead_53 : decode cX1_isServedAhead 53 = .ok (.goto 4, 3) := by decide +kernel
theorem dX1_isServedAhead_56 : decode cX1_isServedAhead 56 = .ok (.iconst 0, 1) := by decide +kernel
theorem dX1_isServedAhead_57 : decode cX1_isServedAhead 57 = .ok (.ireturn, 1) := by decide +kernel
