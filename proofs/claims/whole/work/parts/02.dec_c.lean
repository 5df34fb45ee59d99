theorem dX11_within_0 : decode cX11_within 0 = .ok (.lload_n 0, 1) := by decide +kernel
theorem dX11_within_1 : decode cX11_within 1 = .ok (.lload_n 2, 1) := by decide +kernel
theorem dX11_within_2 : decode cX11_within 2 = .ok (.lcmp, 1) := by decide +kernel
theorem dX11_within_3 : decode cX11_within 3 = .ok (.ifCond .lt 14, 3) := by decide +kernel
theorem dX11_within_6 : decode cX11_within 6 = .ok (.lload_n 0, 1) := by decide +kernel
theorem dX11_within_7 : decode cX11_within 7 = .ok (.lload 4, 2) := by decide +kernel
theorem dX11_within_9 : decode cX11_within 9 = .ok (.lcmp, 1) := by decide +kernel
theorem dX11_within_10 : decode cX11_within 10 = .ok (.ifCond .gt 7, 3) := by decide +kernel
theorem dX11_within_13 : decode cX11_within 13 = .ok (.iconst 1, 1) := by decide +kernel
theorem dX11_within_14 : decode cX11_within 14 = .ok (.goto 4, 3) := by decide +kernel
theorem dX11_within_17 : decode cX11_within 17 = .ok (.iconst 0, 1) := by decide +kernel
theorem dX11_within_18 : decode cX11_within 18 = .ok (.ireturn, 1) := by decide +kernel
theorem dX11_init_0 : decode cX11_init 0 = .ok (.aload_n 0, 1) := by decide +kernel
theorem dX11_init_1 : decode cX11_init 1 = .ok (.invokespecial 3, 3) := by decide +kernel
theorem dX11_init_4 : decode cX11_init 4 = .ok (.aload_n 0, 1) := by decide +kernel
theorem dX11_init_5 : decode cX11_init 5 = .ok (.bipush 30, 2) := by decide +kernel
theorem dX11_init_7 : decode cX11_init 7 = .ok (.newarray .int, 2) := by decide +kernel
theorem dX11_init_9 : decode cX11_init 9 = .ok (.putfield 9, 3) := by decide +kernel
theorem dX11_init_12 : decode cX11_init 12 = .ok (.aload_n 0, 1) := by decide +kernel
theorem dX11_init_13 : decode cX11_init 13 = .ok (.bipush 40, 2) := by decide +kernel
theorem dX11_init_15 : decode cX11_init 15 = .ok (.newarray .int, 2) := by decide +kernel
theorem dX11_init_17 : decode cX11_init 17 = .ok (.putfield 13, 3) := by decide +kernel
theorem dX11_init_20 : decode cX11_init 20 = .ok (.aload_n 0, 1) := by decide +kernel
theorem dX11_init_21 : decode cX11_init 21 = .ok (.bipush 40, 2) := by decide +kernel
theorem dX11_init_23 : decode cX11_init 23 = .ok (.newarray .int, 2) := by decide +kernel
theorem dX11_init_25 : decode cX11_init 25 = .ok (.putfield 16, 3) := by decide +kernel
theorem dX11_init_28 : decode cX11_init 28 = .ok (.aload_n 0, 1) := by decide +kernel
theorem dX11_init_29 : decode cX11_init 29 = .ok (.bipush 40, 2) := by decide +kernel
theorem dX11_init_31 : decode cX11_init 31 = .ok (.newarray .int, 2) := by decide +kernel
theorem dX11_init_33 : decode cX11_init 33 = .ok (.putfield 19, 3) := by decide +kernel
theorem dX11_init_36 : decode cX11_init 36 = .ok (.aload_n 0, 1) := by decide +kernel
theorem dX11_init_37 : decode cX11_init 37 = .ok (.iconst 3, 1) := by decide +kernel
theorem dX11_init_38 : decode cX11_init 38 = .ok (.newarray .int, 2) := by decide +kernel
theorem dX11_init_40 : decode cX11_init 40 = .ok (.putfield 22, 3) := by decide +kernel
theorem dX11_init_43 : decode cX11_init 43 = .ok (.aload_n 0, 1) := by decide +kernel
theorem dX11_init_44 : decode cX11_init 44 = .ok (.bipush 15, 2) := by decide +kernel
theorem dX11_init_46 : decode cX11_init 46 = .ok (.newarray .int, 2) := by decide +kernel
theorem dX11_init_48 : decode cX11_init 48 = .ok (.putfield 25, 3) := by decide +kernel
theorem dX11_init_51 : decode cX11_init 51 = .ok (.aload_n 0, 1) := by decide +kernel
theorem dX11_init_52 : decode cX11_init 52 = .ok (.bipush 15, 2) := by decide +kernel
theorem dX11_init_54 : decode cX11_init 54 = .ok (.newarray .int, 2) := by decide +kernel
theorem dX11_init_56 : decode cX11_init 56 = .ok (.putfield 28, 3) := by decide +kernel
theorem dX11_init_59 : decode cX11_init 59 = .ok (.aload_n 0, 1) := by decide +kernel
theorem dX11_init_60 : decode cX11_init 60 = .ok (.bipush 25, 2) := by decide +kernel
theorem dX11_init_62 : decode cX11_init 62 = .ok (.newarray .int, 2) := by decide +kernel
theorem dX11_init_64 : decode cX11_init 64 = .ok (.putfield 31, 3) := by decide +kernel
theorem dX11_init_67 : decode cX11_init 67 = .ok (.aload_n 0, 1) := by decide +kernel
theorem dX11_init_68 : decode cX11_init 68 = .ok (.bipush 120, 2) := by decide +kernel
theorem dX11_init_70 : decode cX11_init 70 = .ok (.newarray .int, 2) := by decide +kernel
theorem dX11_init_72 : decode cX11_init 72 = .ok (.putfield 34, 3) := by decide +kernel
theorem dX11_init_75 : decode cX11_init 75 = .ok (.aload_n 0, 1) := by decide +kernel
theorem dX11_init_76 : decode cX11_init 76 = .ok (.sipush 360, 3) := by decide +kernel
theorem dX11_init_79 : decode cX11_init 79 = .ok (.newarray .int, 2) := by decide +kernel
theorem dX11_init_81 : decode cX11_init 81 = .ok (.putfield 37, 3) := by decide +kernel
theorem dX11_init_84 : decode cX11_init 84 = .ok (.aload_n 0, 1) := by decide +kernel
theorem dX11_init_85 : decode cX11_init 85 = .ok (.iconst 3, 1) := by decide +kernel
theorem dX11_init_86 : decode cX11_init 86 = .ok (.newarray .int, 2) := by decide +kernel
theorem dX11_init_88 : decode cX11_init 88 = .ok (.putfield 40, 3) := by decide +kernel
theorem dX11_init_91 : decode cX11_init 91 = .ok (.aload_n 0, 1) := by decide +kernel
theorem dX11_init_92 : decode cX11_init 92 = .ok (.bipush 7, 2) := by decide +kernel
theorem dX11_init_94 : decode cX11_init 94 = .ok (.newarray .int, 2) := by decide +kernel
theorem dX11_init_96 : decode cX11_init 96 = .ok (.putfield 43, 3) := by decide +kernel
theorem dX11_init_99 : decode cX11_init 99 = .ok (.aload_n 0, 1) := by decide +kernel
theorem dX11_init_100 : decode cX11_init 100 = .ok (.bipush 12, 2) := by decide +kernel
theorem dX11_init_102 : decode cX11_init 102 = .ok (.newarray .int, 2) := by decide +kernel
theorem dX11_init_104 : decode cX11_init 104 = .ok (.putfield 46, 3) := by decide +kernel
theorem dX11_init_107 : decode cX11_init 107 = .ok (.aload_n 0, 1) := by decide +kernel
theorem dX11_init_108 : decode cX11_init 108 = .ok (.bipush 12, 2) := by decide +kernel
theorem dX11_init_110 : decode cX11_init 110 = .ok (.newarray .int, 2) := by decide +kernel
theorem dX11_init_112 : decode cX11_init 112 = .ok (.putfield 49, 3) := by decide +kernel
theorem dX11_init_115 : decode cX11_init 115 = .ok (.aload_n 0, 1) := by decide +kernel
theorem dX11_init_116 : decode cX11_init 116 = .ok (.ldc 52, 2) := by decide +kernel
theorem dX11_init_118 : decode cX11_init 118 = .ok (.newarray .int, 2) := by decide +kernel
theorem dX11_init_120 : decode cX11_init 120 = .ok (.putfield 53, 3) := by decide +kernel
theorem dX11_init_123 : decode cX11_init 123 = .ok (.aload_n 0, 1) := by decide +kernel
theorem dX11_init_124 : decode cX11_init 124 = .ok (.ldc 52, 2) := by decide +kernel
theorem dX11_init_126 : decode cX11_init 126 = .ok (.newarray .int, 2) := by decide +kernel
theorem dX11_init_128 : decode cX11_init 128 = .ok (.putfield 56, 3) := by decide +kernel
theorem dX11_init_131 : decode cX11_init 131 = .ok (.aload_n 0, 1) := by decide +kernel
theorem dX11_init_132 : decode cX11_init 132 = .ok (.bipush 12, 2) := by decide +kernel
theorem dX11_init_134 : decode cX11_init 134 = .ok (.newarray .int, 2) := by decide +kernel
theorem dX11_init_136 : decode cX11_init 136 = .ok (.putfield 59, 3) := by decide +kernel
theorem dX11_init_139 : decode cX11_init 139 = .ok (.aload_n 0, 1) := by decide +kernel
theorem dX11_init_140 : decode cX11_init 140 = .ok (.bipush 12, 2) := by decide +kernel
theorem dX11_init_142 : decode cX11_init 142 = .ok (.newarray .int, 2) := by decide +kernel
theorem dX11_init_144 : decode cX11_init 144 = .ok (.putfield 62, 3) := by decide +kernel
theorem dX11_init_147 : decode cX11_init 147 = .ok (.aload_n 0, 1) := by decide +kernel
theorem dX11_init_148 : decode cX11_init 148 = .ok (.iconst 5, 1) := by decide +kernel
theorem dX11_init_149 : decode cX11_init 149 = .ok (.newarray .int, 2) := by decide +kernel
theorem dX11_init_151 : decode cX11_init 151 = .ok (.putfield 65, 3) := by decide +kernel
theorem dX11_init_154 : decode cX11_init 154 = .ok (.aload_n 0, 1) := by decide +kernel
theorem dX11_init_155 : decode cX11_init 155 = .ok (.bipush 20, 2) := by decide +kernel
theorem dX11_init_157 : decode cX11_init 157 = .ok (.newarray .int, 2) := by decide +kernel
theorem dX11_init_159 : decode cX11_init 159 = .ok (.putfield 68, 3) := by decide +kernel
theorem dX11_init_162 : decode cX11_init 162 = .ok (.aload_n 0, 1) := by decide +kernel
theorem dX11_init_163 : decode cX11_init 163 = .ok (.bipush 20, 2) := by decide +kernel
theorem dX11_init_165 : decode cX11_init 165 = .ok (.newarray .int, 2) := by decide +kernel
theorem dX11_init_167 : decode cX11_init 167 = .ok (.putfield 71, 3) := by decide +kernel
theorem dX11_init_170 : decode cX11_init 170 = .ok (.aload_n 0, 1) := by decide +kernel
theorem dX11_init_171 : decode cX11_init 171 = .ok (.bipush 50, 2) := by decide +kernel
theorem dX11_init_173 : decode cX11_init 173 = .ok (.newarray .int, 2) := by decide +kernel
theorem dX11_init_175 : decode cX11_init 175 = .ok (.putfield 74, 3) := by decide +kernel
theorem dX11_init_178 : decode cX11_init 178 = .ok (.aload_n 0, 1) := by decide +kernel
theorem dX11_init_179 : decode cX11_init 179 = .ok (.bipush 24, 2) := by decide +kernel
theorem dX11_init_181 : decode cX11_init 181 = .ok (.newarray .int, 2) := by decide +kernel
theorem dX11_init_183 : decode cX11_init 183 = .ok (.putfield 77, 3) := by decide +kernel
theorem dX11_init_186 : decode cX11_init 186 = .ok (.aload_n 0, 1) := by decide +kernel
theorem dX11_init_187 : decode cX11_init 187 = .ok (.bipush 6, 2) := by decide +kernel
theorem dX11_init_189 : decode cX11_init 189 = .ok (.newarray .int, 2) := by decide +kernel
theorem dX11_init_191 : decode cX11_init 191 = .ok (.putfield 80, 3) := by decide +kernel
theorem dX11_init_194 : decode cX11_init 194 = .ok (.aload_n 0, 1) := by decide +kernel
theorem dX11_init_195 : decode cX11_init 195 = .ok (.bipush 6, 2) := by decide +kernel
theorem dX11_init_197 : decode cX11_init 197 = .ok (.newarray .int, 2) := by decide +kernel
theorem dX11_init_199 : decode cX11_init 199 = .ok (.putfield 83, 3) := by decide +kernel
theorem dX11_init_202 : decode cX11_init 202 = .ok (.aload_n 0, 1) := by decide +kernel
theorem dX11_init_203 : decode cX11_init 203 = .ok (.sipush 360, 3) := by decide +kernel
theorem dX11_init_206 : decode cX11_init 206 = .ok (.newarray .long, 2) := by decide +kernel
theorem dX11_init_208 : decode cX11_init 208 = .ok (.putfield 86, 3) := by decide +kernel
theorem dX11_init_211 : decode cX11_init 211 = .ok (.aload_n 0, 1) := by decide +kernel
theorem dX11_init_212 : decode cX11_init 212 = .ok (.bipush 60, 2) := by decide +kernel
theorem dX11_init_214 : decode cX11_init 214 = .ok (.newarray .long, 2) := by decide +kernel
theorem dX11_init_216 : decode cX11_init 216 = .ok (.putfield 90, 3) := by decide +kernel
theorem dX11_init_219 : decode cX11_init 219 = .ok (.iconst 0, 1) := by decide +kernel
theorem dX11_init_220 : decode cX11_init 220 = .ok (.istore_n 1, 1) := by decide +kernel
theorem dX11_init_221 : decode cX11_init 221 = .ok (.iload_n 1, 1) := by decide +kernel
theorem dX11_init_222 : decode cX11_init 222 = .ok (.bipush 6, 2) := by decide +kernel
theorem dX11_init_224 : decode cX11_init 224 = .ok (.if_icmp .ge 16, 3) := by decide +kernel
theorem dX11_init_227 : decode cX11_init 227 = .ok (.aload_n 0, 1) := by decide +kernel
theorem dX11_init_228 : decode cX11_init 228 = .ok (.getfield 80, 3) := by decide +kernel
theorem dX11_init_231 : decode cX11_init 231 = .ok (.iload_n 1, 1) := by decide +kernel
theorem dX11_init_232 : decode cX11_init 232 = .ok (.iconst (-1), 1) := by decide +kernel
theorem dX11_init_233 : decode cX11_init 233 = .ok (.iastore, 1) := by decide +kernel
theorem dX11_init_234 : decode cX11_init 234 = .ok (.iinc 1 1, 3) := by decide +kernel
theorem dX11_init_237 : decode cX11_init 237 = .ok (.goto (-16), 3) := by decide +kernel
theorem dX11_init_240 : decode cX11_init 240 = .ok (.iconst 0, 1) := by decide +kernel
theorem dX11_init_241 : decode cX11_init 241 = .ok (.istore_n 1, 1) := by decide +kernel
theorem dX11_init_242 : decode cX11_init 242 = .ok (.iload_n 1, 1) := by decide +kernel
theorem dX11_init_243 : decode cX11_init 243 = .ok (.iconst 3, 1) := by decide +kernel
theorem dX11_init_244 : decode cX11_init 244 = .ok (.if_icmp .ge 16, 3) := by decide +kernel
theorem dX11_init_247 : decode cX11_init 247 = .ok (.aload_n 0, 1) := by decide +kernel
theorem dX11_init_248 : decode cX11_init 248 = .ok (.getfield 40, 3) := by decide +kernel
theorem dX11_init_251 : decode cX11_init 251 = .ok (.iload_n 1, 1) := by decide +kernel
theorem dX11_init_252 : decode cX11_init 252 = .ok (.iconst (-1), 1) := by decide +kernel
theorem dX11_init_253 : decode cX11_init 253 = .ok (.iastore, 1) := by decide +kernel
theorem dX11_init_254 : decode cX11_init 254 = .ok (.iinc 1 1, 3) := by decide +kernel
theorem dX11_init_257 : decode cX11_init 257 = .ok (.goto (-15), 3) := by decide +kernel
theorem dX11_init_260 : decode cX11_init 260 = .ok (.return_, 1) := by decide +kernel
theorem dX11_becomes_0 : decode cX11_becomes 0 = .ok (.aload_n 0, 1) := by decide +kernel
theorem dX11_becomes_1 : decode cX11_becomes 1 = .ok (.getfield 9, 3) := by decide +kernel
theorem dX11_becomes_4 : decode cX11_becomes 4 = .ok (.iload_n 1, 1) := by decide +kernel
theorem dX11_becomes_5 : decode cX11_becomes 5 = .ok (.iaload, 1) := by decide +kernel
theorem dX11_becomes_6 : decode cX11_becomes 6 = .ok (.istore_n 3, 1) := by decide +kernel
theorem dX11_becomes_7 : decode cX11_becomes 7 = .ok (.iload_n 3, 1) := by decide +kernel
theorem dX11_becomes_8 : decode cX11_becomes 8 = .ok (.iload_n 2, 1) := by decide +kernel
theorem dX11_becomes_9 : decode cX11_becomes 9 = .ok (.if_icmp .ne 5, 3) := by decide +kernel
theorem dX11_becomes_12 : decode cX11_becomes 12 = .ok (.iload_n 3, 1) := by decide +kernel
theorem dX11_becomes_13 : decode cX11_becomes 13 = .ok (.ireturn, 1) := by decide +kernel
theorem dX11_becomes_14 : decode cX11_becomes 14 = .ok (.aload_n 0, 1) := by decide +kernel
theorem dX11_becomes_15 : decode cX11_becomes 15 = .ok (.invokevirtual 93, 3) := by decide +kernel
theorem dX11_becomes_18 : decode cX11_becomes 18 = .ok (.aload_n 0, 1) := by decide +kernel
theorem dX11_becomes_19 : decode cX11_becomes 19 = .ok (.getfield 96, 3) := by decide +kernel
theorem dX11_becomes_22 : decode cX11_becomes 22 = .ok (.bipush 40, 2) := by decide +kernel
theorem dX11_becomes_24 : decode cX11_becomes 24 = .ok (.if_icmp .ne 77, 3) := by decide +kernel
theorem dX11_becomes_27 : decode cX11_becomes 27 = .ok (.iconst 1, 1) := by decide +kernel
theorem dX11_becomes_28 : decode cX11_becomes 28 = .ok (.istore 4, 2) := by decide +kernel
theorem dX11_becomes_30 : decode cX11_becomes 30 = .ok (.iload 4, 2) := by decide +kernel
theorem dX11_becomes_32 : decode cX11_becomes 32 = .ok (.bipush 40, 2) := by decide +kernel
theorem dX11_becomes_34 : decode cX11_becomes 34 = .ok (.if_icmp .ge 57, 3) := by decide +kernel
theorem dX11_becomes_37 : decode cX11_becomes 37 = .ok (.aload_n 0, 1) := by decide +kernel
theorem dX11_becomes_38 : decode cX11_becomes 38 = .ok (.getfield 13, 3) := by decide +kernel
theorem dX11_becomes_41 : decode cX11_becomes 41 = .ok (.iload 4, 2) := by decide +kernel
theorem dX11_becomes_43 : decode cX11_becomes 43 = .ok (.iconst 1, 1) := by decide +kernel
theorem dX11_becomes_44 : decode cX11_becomes 44 = .ok (.isub, 1) := by decide +kernel
theorem dX11_becomes_45 : decode cX11_becomes 45 = .ok (.aload_n 0, 1) := by decide +kernel
theorem dX11_becomes_46 : decode cX11_becomes 46 = .ok (.getfield 13, 3) := by decide +kernel
theorem dX11_becomes_49 : decode cX11_becomes 49 = .ok (.iload 4, 2) := by decide +kernel
theorem dX11_becomes_51 : decode cX11_becomes 51 = .ok (.iaload, 1) := by decide +kernel
theorem dX11_becomes_52 : decode cX11_becomes 52 = .ok (.iastore, 1) := by decide +kernel
theorem dX11_becomes_53 : decode cX11_becomes 53 = .ok (.aload_n 0, 1) := by decide +kernel
theorem dX11_becomes_54 : decode cX11_becomes 54 = .ok (.getfield 16, 3) := by decide +kernel
theorem dX11_becomes_57 : decode cX11_becomes 57 = .ok (.iload 4, 2) := by decide +kernel
theorem dX11_becomes_59 : decode cX11_becomes 59 = .ok (.iconst 1, 1) := by decide +kernel
theorem dX11_becomes_60 : decode cX11_becomes 60 = .ok (.isub, 1) := by decide +kernel
theorem dX11_becomes_61 : decode cX11_becomes 61 = .ok (.aload_n 0, 1) := by decide +kernel
theorem dX11_becomes_62 : decode cX11_becomes 62 = .ok (.getfield 16, 3) := by decide +kernel
theorem dX11_becomes_65 : decode cX11_becomes 65 = .ok (.iload 4, 2) := by decide +kernel
theorem dX11_becomes_67 : decode cX11_becomes 67 = .ok (.iaload, 1) := by decide +kernel
theorem dX11_becomes_68 : decode cX11_becomes 68 = .ok (.iastore, 1) := by decide +kernel
theorem dX11_becomes_69 : decode cX11_becomes 69 = .ok (.aload_n 0, 1) := by decide +kernel
theorem dX11_becomes_70 : decode cX11_becomes 70 = .ok (.getfield 19, 3) := by decide +kernel
theorem dX11_becomes_73 : decode cX11_becomes 73 = .ok (.iload 4, 2) := by decide +kernel
theorem dX11_becomes_75 : decode cX11_becomes 75 = .ok (.iconst 1, 1) := by decide +kernel
theorem dX11_becomes_76 : decode cX11_becomes 76 = .ok (.isub, 1) := by decide +kernel
theorem dX11_becomes_77 : decode cX11_becomes 77 = .ok (.aload_n 0, 1) := by decide +kernel
theorem dX11_becomes_78 : decode cX11_becomes 78 = .ok (.getfield 19, 3) := by decide +kernel
theorem dX11_becomes_81 : decode cX11_becomes 81 = .ok (.iload 4, 2) := by decide +kernel
theorem dX11_becomes_83 : decode cX11_becomes 83 = .ok (.iaload, 1) := by decide +kernel
theorem dX11_becomes_84 : decode cX11_becomes 84 = .ok (.iastore, 1) := by decide +kernel
theorem dX11_becomes_85 : decode cX11_becomes 85 = .ok (.iinc 4 1, 3) := by decide +kernel
theorem dX11_becomes_88 : decode cX11_becomes 88 = .ok (.goto (-58), 3) := by decide +kernel
theorem dX11_becomes_91 : decode cX11_becomes 91 = .ok (.aload_n 0, 1) := by decide +kernel
theorem dX11_becomes_92 : decode cX11_becomes 92 = .ok (.dup, 1) := by decide +kernel
theorem dX11_becomes_93 : decode cX11_becomes 93 = .ok (.getfield 96, 3) := by decide +kernel
theorem dX11_becomes_96 : decode cX11_becomes 96 = .ok (.iconst 1, 1) := by decide +kernel
theorem dX11_becomes_97 : decode cX11_becomes 97 = .ok (.isub, 1) := by decide +kernel
theorem dX11_becomes_98 : decode cX11_becomes 98 = .ok (.putfield 96, 3) := by decide +kernel
theorem dX11_becomes_101 : decode cX11_becomes 101 = .ok (.aload_n 0, 1) := by decide +kernel
theorem dX11_becomes_102 : decode cX11_becomes 102 = .ok (.getfield 13, 3) := by decide +kernel
theorem dX11_becomes_105 : decode cX11_becomes 105 = .ok (.aload_n 0, 1) := by decide +kernel
theorem dX11_becomes_106 : decode cX11_becomes 106 = .ok (.getfield 96, 3) := by decide +kernel
theorem dX11_becomes_109 : decode cX11_becomes 109 = .ok (.iload_n 1, 1) := by decide +kernel
theorem dX11_becomes_110 : decode cX11_becomes 110 = .ok (.iastore, 1) := by decide +kernel
theorem dX11_becomes_111 : decode cX11_becomes 111 = .ok (.aload_n 0, 1) := by decide +kernel
theorem dX11_becomes_112 : decode cX11_becomes 112 = .ok (.getfield 16, 3) := by decide +kernel
theorem dX11_becomes_115 : decode cX11_becomes 115 = .ok (.aload_n 0, 1) := by decide +kernel
theorem dX11_becomes_116 : decode cX11_becomes 116 = .ok (.getfield 96, 3) := by decide +kernel
theorem dX11_becomes_119 : decode cX11_becomes 119 = .ok (.iload_n 3, 1) := by decide +kernel
theorem dX11_becomes_120 : decode cX11_becomes 120 = .ok (.iastore, 1) := by decide +kernel
theorem dX11_becomes_121 : decode cX11_becomes 121 = .ok (.aload_n 0, 1) := by decide +kernel
theorem dX11_becomes_122 : decode cX11_becomes 122 = .ok (.getfield 19, 3) := by decide +kernel
theorem dX11_becomes_125 : decode cX11_becomes 125 = .ok (.aload_n 0, 1) := by decide +kernel
theorem dX11_becomes_126 : decode cX11_becomes 126 = .ok (.getfield 96, 3) := by decide +kernel
theorem dX11_becomes_129 : decode cX11_becomes 129 = .ok (.iload_n 2, 1) := by decide +kernel
theorem dX11_becomes_130 : decode cX11_becomes 130 = .ok (.iastore, 1) := by decide +kernel
theorem dX11_becomes_131 : decode cX11_becomes 131 = .ok (.aload_n 0, 1) := by decide +kernel
theorem dX11_becomes_132 : decode cX11_becomes 132 = .ok (.dup, 1) := by decide +kernel
theorem dX11_becomes_133 : decode cX11_becomes 133 = .ok (.getfield 96, 3) := by decide +kernel
theorem dX11_becomes_136 : decode cX11_becomes 136 = .ok (.iconst 1, 1) := by decide +kernel
theorem dX11_becomes_137 : decode cX11_becomes 137 = .ok (.iadd, 1) := by decide +kernel
theorem dX11_becomes_138 : decode cX11_becomes 138 = .ok (.putfield 96, 3) := by decide +kernel
theorem dX11_becomes_141 : decode cX11_becomes 141 = .ok (.aload_n 0, 1) := by decide +kernel
theorem dX11_becomes_142 : decode cX11_becomes 142 = .ok (.aload_n 0, 1) := by decide +kernel
theorem dX11_becomes_143 : decode cX11_becomes 143 = .ok (.getfield 96, 3) := by decide +kernel
theorem dX11_becomes_146 : decode cX11_becomes 146 = .ok (.putfield 100, 3) := by decide +kernel
theorem dX11_becomes_149 : decode cX11_becomes 149 = .ok (.aload_n 0, 1) := by decide +kernel
theorem dX11_becomes_150 : decode cX11_becomes 150 = .ok (.getfield 9, 3) := by decide +kernel
theorem dX11_becomes_153 : decode cX11_becomes 153 = .ok (.iload_n 1, 1) := by decide +kernel
theorem dX11_becomes_154 : decode cX11_becomes 154 = .ok (.iload_n 2, 1) := by decide +kernel
theorem dX11_becomes_155 : decode cX11_becomes 155 = .ok (.iastore, 1) := by decide +kernel
theorem dX11_becomes_156 : decode cX11_becomes 156 = .ok (.iload_n 3, 1) := by decide +kernel
theorem dX11_becomes_157 : decode cX11_becomes 157 = .ok (.ireturn, 1) := by decide +kernel
theorem dX11_undo_0 : decode cX11_undo 0 = .ok (.aload_n 0, 1) := by decide +kernel
theorem dX11_undo_1 : decode cX11_undo 1 = .ok (.getfield 96, 3) := by decide +kernel
theorem dX11_undo_4 : decode cX11_undo 4 = .ok (.ifCond .ne 6, 3) := by decide +kernel
theorem dX11_undo_7 : decode cX11_undo 7 = .ok (.bipush (-5), 2) := by decide +kernel
theorem dX11_undo_9 : decode cX11_undo 9 = .ok (.ireturn, 1) := by decide +kernel
theorem dX11_undo_10 : decode cX11_undo 10 = .ok (.aload_n 0, 1) := by decide +kernel
theorem dX11_undo_11 : decode cX11_undo 11 = .ok (.dup, 1) := by decide +kernel
theorem dX11_undo_12 : decode cX11_undo 12 = .ok (.getfield 96, 3) := by decide +kernel
theorem dX11_undo_15 : decode cX11_undo 15 = .ok (.iconst 1, 1) := by decide +kernel
theorem dX11_undo_16 : decode cX11_undo 16 = .ok (.isub, 1) := by decide +kernel
theorem dX11_undo_17 : decode cX11_undo 17 = .ok (.putfield 96, 3) := by decide +kernel
theorem dX11_undo_20 : decode cX11_undo 20 = .ok (.aload_n 0, 1) := by decide +kernel
theorem dX11_undo_21 : decode cX11_undo 21 = .ok (.invokevirtual 93, 3) := by decide +kernel
theorem dX11_undo_24 : decode cX11_undo 24 = .ok (.aload_n 0, 1) := by decide +kernel
theorem dX11_undo_25 : decode cX11_undo 25 = .ok (.getfield 9, 3) := by decide +kernel
theorem dX11_undo_28 : decode cX11_undo 28 = .ok (.aload_n 0, 1) := by decide +kernel
theorem dX11_undo_29 : decode cX11_undo 29 = .ok (.getfield 13, 3) := by decide +kernel
theorem dX11_undo_32 : decode cX11_undo 32 = .ok (.aload_n 0, 1) := by decide +kernel
theorem dX11_undo_33 : decode cX11_undo 33 = .ok (.getfield 96, 3) := by decide +kernel
theorem dX11_undo_36 : decode cX11_undo 36 = .ok (.iaload, 1) := by decide +kernel
theorem dX11_undo_37 : decode cX11_undo 37 = .ok (.aload_n 0, 1) := by decide +kernel
theorem dX11_undo_38 : decode cX11_undo 38 = .ok (.getfield 16, 3) := by decide +kernel
theorem dX11_undo_41 : decode cX11_undo 41 = .ok (.aload_n 0, 1) := by decide +kernel
theorem dX11_undo_42 : decode cX11_undo 42 = .ok (.getfield 96, 3) := by decide +kernel
theorem dX11_undo_45 : decode cX11_undo 45 = .ok (.iaload, 1) := by decide +kernel
theorem dX11_undo_46 : decode cX11_undo 46 = .ok (.iastore, 1) := by decide +kernel
theorem dX11_undo_47 : decode cX11_undo 47 = .ok (.aload_n 0, 1) := by decide +kernel
theorem dX11_undo_48 : decode cX11_undo 48 = .ok (.getfield 96, 3) := by decide +kernel
theorem dX11_undo_51 : decode cX11_undo 51 = .ok (.ireturn, 1) := by decide +kernel
theorem dX11_redo_0 : decode cX11_redo 0 = .ok (.aload_n 0, 1) := by decide +kernel
theorem dX11_redo_1 : decode cX11_redo 1 = .ok (.getfield 96, 3) := by decide +kernel
theorem dX11_redo_4 : decode cX11_redo 4 = .ok (.aload_n 0, 1) := by decide +kernel
theorem dX11_redo_5 : decode cX11_redo 5 = .ok (.getfield 100, 3) := by decide +kernel
theorem dX11_redo_8 : decode cX11_redo 8 = .ok (.if_icmp .ne 6, 3) := by decide +kernel
theorem dX11_redo_11 : decode cX11_redo 11 = .ok (.bipush (-5), 2) := by decide +kernel
theorem dX11_redo_13 : decode cX11_redo 13 = .ok (.ireturn, 1) := by decide +kernel
theorem dX11_redo_14 : decode cX11_redo 14 = .ok (.aload_n 0, 1) := by decide +kernel
theorem dX11_redo_15 : decode cX11_redo 15 = .ok (.getfield 9, 3) := by decide +kernel
theorem dX11_redo_18 : decode cX11_redo 18 = .ok (.aload_n 0, 1) := by decide +kernel
theorem dX11_redo_19 : decode cX11_redo 19 = .ok (.getfield 13, 3) := by decide +kernel
theorem dX11_redo_22 : decode cX11_redo 22 = .ok (.aload_n 0, 1) := by decide +kernel
theorem dX11_redo_23 : decode cX11_redo 23 = .ok (.getfield 96, 3) := by decide +kernel
theorem dX11_redo_26 : decode cX11_redo 26 = .ok (.iaload, 1) := by decide +kernel
theorem dX11_redo_27 : decode cX11_redo 27 = .ok (.aload_n 0, 1) := by decide +kernel
theorem dX11_redo_28 : decode cX11_redo 28 = .ok (.getfield 19, 3) := by decide +kernel
theorem dX11_redo_31 : decode cX11_redo 31 = .ok (.aload_n 0, 1) := by decide +kernel
theorem dX11_redo_32 : decode cX11_redo 32 = .ok (.getfield 96, 3) := by decide +kernel
theorem dX11_redo_35 : decode cX11_redo 35 = .ok (.iaload, 1) := by decide +kernel
theorem dX11_redo_36 : decode cX11_redo 36 = .ok (.iastore, 1) := by decide +kernel
theorem dX11_redo_37 : decode cX11_redo 37 = .ok (.aload_n 0, 1) := by decide +kernel
theorem dX11_redo_38 : decode cX11_redo 38 = .ok (.dup, 1) := by decide +kernel
theorem dX11_redo_39 : decode cX11_redo 39 = .ok (.getfield 96, 3) := by decide +kernel
theorem dX11_redo_42 : decode cX11_redo 42 = .ok (.iconst 1, 1) := by decide +kernel
theorem dX11_redo_43 : decode cX11_redo 43 = .ok (.iadd, 1) := by decide +kernel
theorem dX11_redo_44 : decode cX11_redo 44 = .ok (.putfield 96, 3) := by decide +kernel
theorem dX11_redo_47 : decode cX11_redo 47 = .ok (.aload_n 0, 1) := by decide +kernel
theorem dX11_redo_48 : decode cX11_redo 48 = .ok (.invokevirtual 93, 3) := by decide +kernel
theorem dX11_redo_51 : decode cX11_redo 51 = .ok (.aload_n 0, 1) := by decide +kernel
theorem dX11_redo_52 : decode cX11_redo 52 = .ok (.getfield 100, 3) := by decide +kernel
theorem dX11_redo_55 : decode cX11_redo 55 = .ok (.aload_n 0, 1) := by decide +kernel
theorem dX11_redo_56 : decode cX11_redo 56 = .ok (.getfield 96, 3) := by decide +kernel
theorem dX11_redo_59 : decode cX11_redo 59 = .ok (.isub, 1) := by decide +kernel
theorem dX11_redo_60 : decode cX11_redo 60 = .ok (.ireturn, 1) := by decide +kernel
theorem dX11_isMoon_0 : decode cX11_isMoon 0 = .ok (.iload_n 1, 1) := by decide +kernel
theorem dX11_isMoon_1 : decode cX11_isMoon 1 = .ok (.i2l, 1) := by decide +kernel
theorem dX11_isMoon_2 : decode cX11_isMoon 2 = .ok (.lconst 0, 1) := by decide +kernel
theorem dX11_isMoon_3 : decode cX11_isMoon 3 = .ok (.aload_n 0, 1) := by decide +kernel
theorem dX11_isMoon_4 : decode cX11_isMoon 4 = .ok (.getfield 103, 3) := by decide +kernel
theorem dX11_isMoon_7 : decode cX11_isMoon 7 = .ok (.iconst 1, 1) := by decide +kernel
theorem dX11_isMoon_8 : decode cX11_isMoon 8 = .ok (.isub, 1) := by decide +kernel
theorem dX11_isMoon_9 : decode cX11_isMoon 9 = .ok (.i2l, 1) := by decide +kernel
theorem dX11_isMoon_10 : decode cX11_isMoon 10 = .ok (.invokestatic 106, 3) := by decide +kernel
theorem dX11_isMoon_13 : decode cX11_isMoon 13 = .ok (.ireturn, 1) := by decide +kernel
theorem dX11_isValley_0 : decode cX11_isValley 0 = .ok (.iload_n 1, 1) := by decide +kernel
theorem dX11_isValley_1 : decode cX11_isValley 1 = .ok (.i2l, 1) := by decide +kernel
theorem dX11_isValley_2 : decode cX11_isValley 2 = .ok (.lconst 0, 1) := by decide +kernel
theorem dX11_isValley_3 : decode cX11_isValley 3 = .ok (.aload_n 0, 1) := by decide +kernel
theorem dX11_isValley_4 : decode cX11_isValley 4 = .ok (.getfield 110, 3) := by decide +kernel
theorem dX11_isValley_7 : decode cX11_isValley 7 = .ok (.iconst 1, 1) := by decide +kernel
theorem dX11_isValley_8 : decode cX11_isValley 8 = .ok (.isub, 1) := by decide +kernel
theorem dX11_isValley_9 : decode cX11_isValley 9 = .ok (.i2l, 1) := by decide +kernel
theorem dX11_isValley_10 : decode cX11_isValley 10 = .ok (.invokestatic 106, 3) := by decide +kernel
theorem dX11_isValley_13 : decode cX11_isValley 13 = .ok (.ireturn, 1) := by decide +kernel
theorem dX11_isHour_0 : decode cX11_isHour 0 = .ok (.iload_n 0, 1) := by decide +kernel
theorem dX11_isHour_1 : decode cX11_isHour 1 = .ok (.i2l, 1) := by decide +kernel
theorem dX11_isHour_2 : decode cX11_isHour 2 = .ok (.lconst 0, 1) := by decide +kernel
theorem dX11_isHour_3 : decode cX11_isHour 3 = .ok (.ldc2_w 113, 3) := by decide +kernel
theorem dX11_isHour_6 : decode cX11_isHour 6 = .ok (.invokestatic 106, 3) := by decide +kernel
theorem dX11_isHour_9 : decode cX11_isHour 9 = .ok (.ireturn, 1) := by decide +kernel
theorem dX11_moon_0 : decode cX11_moon 0 = .ok (.iload_n 1, 1) := by decide +kernel
theorem dX11_moon_1 : decode cX11_moon 1 = .ok (.i2l, 1) := by decide +kernel
theorem dX11_moon_2 : decode cX11_moon 2 = .ok (.ldc2_w 115, 3) := by decide +kernel
theorem dX11_moon_5 : decode cX11_moon 5 = .ok (.ldc2_w 117, 3) := by decide +kernel
theorem dX11_moon_8 : decode cX11_moon 8 = .ok (.invokestatic 106, 3) := by decide +kernel
theorem dX11_moon_11 : decode cX11_moon 11 = .ok (.ifCond .eq 25, 3) := by decide +kernel
theorem dX11_moon_14 : decode cX11_moon 14 = .ok (.iload_n 2, 1) := by decide +kernel
theorem dX11_moon_15 : decode cX11_moon 15 = .ok (.ifCond .lt 21, 3) := by decide +kernel
theorem dX11_moon_18 : decode cX11_moon 18 = .ok (.iload_n 2, 1) := by decide +kernel
theorem dX11_moon_19 : decode cX11_moon 19 = .ok (.sipush 1000, 3) := by decide +kernel
theorem dX11_moon_22 : decode cX11_moon 22 = .ok (.idiv, 1) := by decide +kernel
theorem dX11_moon_23 : decode cX11_moon 23 = .ok (.iload_n 1, 1) := by decide +kernel
theorem dX11_moon_24 : decode cX11_moon 24 = .ok (.if_icmp .gt 12, 3) := by decide +kernel
theorem dX11_moon_27 : decode cX11_moon 27 = .ok (.iload_n 2, 1) := by decide +kernel
theorem dX11_moon_28 : decode cX11_moon 28 = .ok (.sipush 1000, 3) := by decide +kernel
theorem dX11_moon_31 : decode cX11_moon 31 = .ok (.irem, 1) := by decide +kernel
theorem dX11_moon_32 : decode cX11_moon 32 = .ok (.iload_n 1, 1) := by decide +kernel
theorem dX11_moon_33 : decode cX11_moon 33 = .ok (.if_icmp .lt 5, 3) := by decide +kernel
theorem dX11_moon_36 : decode cX11_moon 36 = .ok (.iconst (-1), 1) := by decide +kernel
theorem dX11_moon_37 : decode cX11_moon 37 = .ok (.ireturn, 1) := by decide +kernel
theorem dX11_moon_38 : decode cX11_moon 38 = .ok (.aload_n 0, 1) := by decide +kernel
theorem dX11_moon_39 : decode cX11_moon 39 = .ok (.getfield 103, 3) := by decide +kernel
theorem dX11_moon_42 : decode cX11_moon 42 = .ok (.iconst 3, 1) := by decide +kernel
theorem dX11_moon_43 : decode cX11_moon 43 = .ok (.if_icmp .ne 6, 3) := by decide +kernel
theorem dX11_moon_46 : decode cX11_moon 46 = .ok (.bipush (-3), 2) := by decide +kernel
theorem dX11_moon_48 : decode cX11_moon 48 = .ok (.ireturn, 1) := by decide +kernel
theorem dX11_moon_49 : decode cX11_moon 49 = .ok (.aload_n 0, 1) := by decide +kernel
theorem dX11_moon_50 : decode cX11_moon 50 = .ok (.getfield 22, 3) := by decide +kernel
theorem dX11_moon_53 : decode cX11_moon 53 = .ok (.aload_n 0, 1) := by decide +kernel
theorem dX11_moon_54 : decode cX11_moon 54 = .ok (.getfield 103, 3) := by decide +kernel
theorem dX11_moon_57 : decode cX11_moon 57 = .ok (.iload_n 1, 1) := by decide +kernel
theorem dX11_moon_58 : decode cX11_moon 58 = .ok (.iastore, 1) := by decide +kernel
theorem dX11_moon_59 : decode cX11_moon 59 = .ok (.aload_n 0, 1) := by decide +kernel
theorem dX11_moon_60 : decode cX11_moon 60 = .ok (.getfield 9, 3) := by decide +kernel
theorem dX11_moon_63 : decode cX11_moon 63 = .ok (.aload_n 0, 1) := by decide +kernel
theorem dX11_moon_64 : decode cX11_moon 64 = .ok (.getfield 103, 3) := by decide +kernel
theorem dX11_moon_67 : decode cX11_moon 67 = .ok (.iload_n 2, 1) := by decide +kernel
theorem dX11_moon_68 : decode cX11_moon 68 = .ok (.sipush 1000, 3) := by decide +kernel
theorem dX11_moon_71 : decode cX11_moon 71 = .ok (.idiv, 1) := by decide +kernel
theorem dX11_moon_72 : decode cX11_moon 72 = .ok (.iastore, 1) := by decide +kernel
theorem dX11_moon_73 : decode cX11_moon 73 = .ok (.aload_n 0, 1) := by decide +kernel
theorem dX11_moon_74 : decode cX11_moon 74 = .ok (.getfield 9, 3) := by decide +kernel
theorem dX11_moon_77 : decode cX11_moon 77 = .ok (.iconst 3, 1) := by decide +kernel
theorem dX11_moon_78 : decode cX11_moon 78 = .ok (.aload_n 0, 1) := by decide +kernel
theorem dX11_moon_79 : decode cX11_moon 79 = .ok (.getfield 103, 3) := by decide +kernel
theorem dX11_moon_82 : decode cX11_moon 82 = .ok (.iadd, 1) := by decide +kernel
theorem dX11_moon_83 : decode cX11_moon 83 = .ok (.iload_n 2, 1) := by decide +kernel
theorem dX11_moon_84 : decode cX11_moon 84 = .ok (.sipush 1000, 3) := by decide +kernel
theorem dX11_moon_87 : decode cX11_moon 87 = .ok (.irem, 1) := by decide +kernel
theorem dX11_moon_88 : decode cX11_moon 88 = .ok (.iastore, 1) := by decide +kernel
theorem dX11_moon_89 : decode cX11_moon 89 = .ok (.aload_n 0, 1) := by decide +kernel
theorem dX11_moon_90 : decode cX11_moon 90 = .ok (.dup, 1) := by decide +kernel
theorem dX11_moon_91 : decode cX11_moon 91 = .ok (.getfield 103, 3) := by decide +kernel
theorem dX11_moon_94 : decode cX11_moon 94 = .ok (.iconst 1, 1) := by decide +kernel
theorem dX11_moon_95 : decode cX11_moon 95 = .ok (.iadd, 1) := by decide +kernel
theorem dX11_moon_96 : decode cX11_moon 96 = .ok (.putfield 103, 3) := by decide +kernel
theorem dX11_moon_99 : decode cX11_moon 99 = .ok (.aload_n 0, 1) := by decide +kernel
theorem dX11_moon_100 : decode cX11_moon 100 = .ok (.getfield 103, 3) := by decide +kernel
theorem dX11_moon_103 : decode cX11_moon 103 = .ok (.iconst 1, 1) := by decide +kernel
theorem dX11_moon_104 : decode cX11_moon 104 = .ok (.isub, 1) := by decide +kernel
theorem dX11_moon_105 : decode cX11_moon 105 = .ok (.ireturn, 1) := by decide +kernel
theorem dX11_valley_0 : decode cX11_valley 0 = .ok (.aload_n 0, 1) := by decide +kernel
theorem dX11_valley_1 : decode cX11_valley 1 = .ok (.getfield 110, 3) := by decide +kernel
theorem dX11_valley_4 : decode cX11_valley 4 = .ok (.iconst 5, 1) := by decide +kernel
theorem dX11_valley_5 : decode cX11_valley 5 = .ok (.if_icmp .ne 6, 3) := by decide +kernel
theorem dX11_valley_8 : decode cX11_valley 8 = .ok (.bipush (-3), 2) := by decide +kernel
theorem dX11_valley_10 : decode cX11_valley 10 = .ok (.ireturn, 1) := by decide +kernel
theorem dX11_valley_11 : decode cX11_valley 11 = .ok (.aload_n 0, 1) := by decide +kernel
theorem dX11_valley_12 : decode cX11_valley 12 = .ok (.dup, 1) := by decide +kernel
theorem dX11_valley_13 : decode cX11_valley 13 = .ok (.getfield 110, 3) := by decide +kernel
theorem dX11_valley_16 : decode cX11_valley 16 = .ok (.iconst 1, 1) := by decide +kernel
theorem dX11_valley_17 : decode cX11_valley 17 = .ok (.iadd, 1) := by decide +kernel
theorem dX11_valley_18 : decode cX11_valley 18 = .ok (.putfield 110, 3) := by decide +kernel
theorem dX11_valley_21 : decode cX11_valley 21 = .ok (.aload_n 0, 1) := by decide +kernel
theorem dX11_valley_22 : decode cX11_valley 22 = .ok (.getfield 110, 3) := by decide +kernel
theorem dX11_valley_25 : decode cX11_valley 25 = .ok (.iconst 1, 1) := by decide +kernel
theorem dX11_valley_26 : decode cX11_valley 26 = .ok (.isub, 1) := by decide +kernel
theorem dX11_valley_27 : decode cX11_valley 27 = .ok (.ireturn, 1) := by decide +kernel
theorem dX11_hills_0 : decode cX11_hills 0 = .ok (.iload_n 1, 1) := by decide +kernel
theorem dX11_hills_1 : decode cX11_hills 1 = .ok (.ifCond .lt 37, 3) := by decide +kernel
theorem dX11_hills_4 : decode cX11_hills 4 = .ok (.aload_n 0, 1) := by decide +kernel
theorem dX11_hills_5 : decode cX11_hills 5 = .ok (.iload_n 1, 1) := by decide +kernel
theorem dX11_hills_6 : decode cX11_hills 6 = .ok (.bipush 10, 2) := by decide +kernel
theorem dX11_hills_8 : decode cX11_hills 8 = .ok (.idiv, 1) := by decide +kernel
theorem dX11_hills_9 : decode cX11_hills 9 = .ok (.invokevirtual 119, 3) := by decide +kernel
theorem dX11_hills_12 : decode cX11_hills 12 = .ok (.ifCond .eq 26, 3) := by decide +kernel
theorem dX11_hills_15 : decode cX11_hills 15 = .ok (.aload_n 0, 1) := by decide +kernel
theorem dX11_hills_16 : decode cX11_hills 16 = .ok (.iload_n 1, 1) := by decide +kernel
theorem dX11_hills_17 : decode cX11_hills 17 = .ok (.bipush 10, 2) := by decide +kernel
theorem dX11_hills_19 : decode cX11_hills 19 = .ok (.irem, 1) := by decide +kernel
theorem dX11_hills_20 : decode cX11_hills 20 = .ok (.invokevirtual 123, 3) := by decide +kernel
theorem dX11_hills_23 : decode cX11_hills 23 = .ok (.ifCond .eq 15, 3) := by decide +kernel
theorem dX11_hills_26 : decode cX11_hills 26 = .ok (.iload_n 2, 1) := by decide +kernel
theorem dX11_hills_27 : decode cX11_hills 27 = .ok (.i2l, 1) := by decide +kernel
theorem dX11_hills_28 : decode cX11_hills 28 = .ok (.lconst 0, 1) := by decide +kernel
theorem dX11_hills_29 : decode cX11_hills 29 = .ok (.ldc2_w 126, 3) := by decide +kernel
theorem dX11_hills_32 : decode cX11_hills 32 = .ok (.invokestatic 106, 3) := by decide +kernel
theorem dX11_hills_35 : decode cX11_hills 35 = .ok (.ifCond .ne 5, 3) := by decide +kernel
theorem dX11_hills_38 : decode cX11_hills 38 = .ok (.iconst (-1), 1) := by decide +kernel
theorem dX11_hills_39 : decode cX11_hills 39 = .ok (.ireturn, 1) := by decide +kernel
theorem dX11_hills_40 : decode cX11_hills 40 = .ok (.iconst 3, 1) := by decide +kernel
theorem dX11_hills_41 : decode cX11_hills 41 = .ok (.iload_n 1, 1) := by decide +kernel
theorem dX11_hills_42 : decode cX11_hills 42 = .ok (.bipush 10, 2) := by decide +kernel
theorem dX11_hills_44 : decode cX11_hills 44 = .ok (.idiv, 1) := by decide +kernel
theorem dX11_hills_45 : decode cX11_hills 45 = .ok (.imul, 1) := by decide +kernel
theorem dX11_hills_46 : decode cX11_hills 46 = .ok (.iload_n 1, 1) := by decide +kernel
theorem dX11_hills_47 : decode cX11_hills 47 = .ok (.bipush 10, 2) := by decide +kernel
theorem dX11_hills_49 : decode cX11_hills 49 = .ok (.irem, 1) := by decide +kernel
theorem dX11_hills_50 : decode cX11_hills 50 = .ok (.iadd, 1) := by decide +kernel
theorem dX11_hills_51 : decode cX11_hills 51 = .ok (.istore_n 3, 1) := by decide +kernel
theorem dX11_hills_52 : decode cX11_hills 52 = .ok (.bipush 100, 2) := by decide +kernel
theorem dX11_hills_54 : decode cX11_hills 54 = .ok (.aload_n 0, 1) := by decide +kernel
theorem dX11_hills_55 : decode cX11_hills 55 = .ok (.getfield 25, 3) := by decide +kernel
theorem dX11_hills_58 : decode cX11_hills 58 = .ok (.iload_n 3, 1) := by decide +kernel
theorem dX11_hills_59 : decode cX11_hills 59 = .ok (.iaload, 1) := by decide +kernel
theorem dX11_hills_60 : decode cX11_hills 60 = .ok (.imul, 1) := by decide +kernel
theorem dX11_hills_61 : decode cX11_hills 61 = .ok (.aload_n 0, 1) := by decide +kernel
theorem dX11_hills_62 : decode cX11_hills 62 = .ok (.getfield 28, 3) := by decide +kernel
theorem dX11_hills_65 : decode cX11_hills 65 = .ok (.iload_n 3, 1) := by decide +kernel
theorem dX11_hills_66 : decode cX11_hills 66 = .ok (.iaload, 1) := by decide +kernel
theorem dX11_hills_67 : decode cX11_hills 67 = .ok (.iadd, 1) := by decide +kernel
theorem dX11_hills_68 : decode cX11_hills 68 = .ok (.istore 4, 2) := by decide +kernel
theorem dX11_hills_70 : decode cX11_hills 70 = .ok (.aload_n 0, 1) := by decide +kernel
theorem dX11_hills_71 : decode cX11_hills 71 = .ok (.getfield 25, 3) := by decide +kernel
theorem dX11_hills_74 : decode cX11_hills 74 = .ok (.iload_n 3, 1) := by decide +kernel
theorem dX11_hills_75 : decode cX11_hills 75 = .ok (.iload_n 2, 1) := by decide +kernel
theorem dX11_hills_76 : decode cX11_hills 76 = .ok (.bipush 100, 2) := by decide +kernel
theorem dX11_hills_78 : decode cX11_hills 78 = .ok (.idiv, 1) := by decide +kernel
theorem dX11_hills_79 : decode cX11_hills 79 = .ok (.iastore, 1) := by decide +kernel
theorem dX11_hills_80 : decode cX11_hills 80 = .ok (.aload_n 0, 1) := by decide +kernel
theorem dX11_hills_81 : decode cX11_hills 81 = .ok (.getfield 28, 3) := by decide +kernel
theorem dX11_hills_84 : decode cX11_hills 84 = .ok (.iload_n 3, 1) := by decide +kernel
theorem dX11_hills_85 : decode cX11_hills 85 = .ok (.iload_n 2, 1) := by decide +kernel
theorem dX11_hills_86 : decode cX11_hills 86 = .ok (.bipush 100, 2) := by decide +kernel
theorem dX11_hills_88 : decode cX11_hills 88 = .ok (.irem, 1) := by decide +kernel
theorem dX11_hills_89 : decode cX11_hills 89 = .ok (.iastore, 1) := by decide +kernel
theorem dX11_hills_90 : decode cX11_hills 90 = .ok (.iload 4, 2) := by decide +kernel
theorem dX11_hills_92 : decode cX11_hills 92 = .ok (.ireturn, 1) := by decide +kernel
theorem dX11_way_0 : decode cX11_way 0 = .ok (.iload_n 1, 1) := by decide +kernel
theorem dX11_way_1 : decode cX11_way 1 = .ok (.ifCond .lt 48, 3) := by decide +kernel
theorem dX11_way_4 : decode cX11_way 4 = .ok (.aload_n 0, 1) := by decide +kernel
theorem dX11_way_5 : decode cX11_way 5 = .ok (.iload_n 1, 1) := by decide +kernel
theorem dX11_way_6 : decode cX11_way 6 = .ok (.bipush 10, 2) := by decide +kernel
theorem dX11_way_8 : decode cX11_way 8 = .ok (.idiv, 1) := by decide +kernel
theorem dX11_way_9 : decode cX11_way 9 = .ok (.invokevirtual 119, 3) := by decide +kernel
theorem dX11_way_12 : decode cX11_way 12 = .ok (.ifCond .eq 37, 3) := by decide +kernel
theorem dX11_way_15 : decode cX11_way 15 = .ok (.aload_n 0, 1) := by decide +kernel
theorem dX11_way_16 : decode cX11_way 16 = .ok (.iload_n 1, 1) := by decide +kernel
theorem dX11_way_17 : decode cX11_way 17 = .ok (.bipush 10, 2) := by decide +kernel
theorem dX11_way_19 : decode cX11_way 19 = .ok (.irem, 1) := by decide +kernel
theorem dX11_way_20 : decode cX11_way 20 = .ok (.invokevirtual 119, 3) := by decide +kernel
theorem dX11_way_23 : decode cX11_way 23 = .ok (.ifCond .eq 26, 3) := by decide +kernel
theorem dX11_way_26 : decode cX11_way 26 = .ok (.iload_n 1, 1) := by decide +kernel
theorem dX11_way_27 : decode cX11_way 27 = .ok (.bipush 10, 2) := by decide +kernel
theorem dX11_way_29 : decode cX11_way 29 = .ok (.idiv, 1) := by decide +kernel
theorem dX11_way_30 : decode cX11_way 30 = .ok (.iload_n 1, 1) := by decide +kernel
theorem dX11_way_31 : decode cX11_way 31 = .ok (.bipush 10, 2) := by decide +kernel
theorem dX11_way_33 : decode cX11_way 33 = .ok (.irem, 1) := by decide +kernel
theorem dX11_way_34 : decode cX11_way 34 = .ok (.if_icmp .eq 15, 3) := by decide +kernel
theorem dX11_way_37 : decode cX11_way 37 = .ok (.iload_n 2, 1) := by decide +kernel
theorem dX11_way_38 : decode cX11_way 38 = .ok (.i2l, 1) := by decide +kernel
theorem dX11_way_39 : decode cX11_way 39 = .ok (.lconst 0, 1) := by decide +kernel
theorem dX11_way_40 : decode cX11_way 40 = .ok (.ldc2_w 128, 3) := by decide +kernel
theorem dX11_way_43 : decode cX11_way 43 = .ok (.invokestatic 106, 3) := by decide +kernel
theorem dX11_way_46 : decode cX11_way 46 = .ok (.ifCond .ne 5, 3) := by decide +kernel
theorem dX11_way_49 : decode cX11_way 49 = .ok (.iconst (-1), 1) := by decide +kernel
theorem dX11_way_50 : decode cX11_way 50 = .ok (.ireturn, 1) := by decide +kernel
theorem dX11_way_51 : decode cX11_way 51 = .ok (.aload_n 0, 1) := by decide +kernel
theorem dX11_way_52 : decode cX11_way 52 = .ok (.getfield 31, 3) := by decide +kernel
theorem dX11_way_55 : decode cX11_way 55 = .ok (.iconst 5, 1) := by decide +kernel
theorem dX11_way_56 : decode cX11_way 56 = .ok (.iload_n 1, 1) := by decide +kernel
theorem dX11_way_57 : decode cX11_way 57 = .ok (.bipush 10, 2) := by decide +kernel
theorem dX11_way_59 : decode cX11_way 59 = .ok (.idiv, 1) := by decide +kernel
theorem dX11_way_60 : decode cX11_way 60 = .ok (.imul, 1) := by decide +kernel
theorem dX11_way_61 : decode cX11_way 61 = .ok (.iload_n 1, 1) := by decide +kernel
theorem dX11_way_62 : decode cX11_way 62 = .ok (.bipush 10, 2) := by decide +kernel
theorem dX11_way_64 : decode cX11_way 64 = .ok (.irem, 1) := by decide +kernel
theorem dX11_way_65 : decode cX11_way 65 = .ok (.iadd, 1) := by decide +kernel
theorem dX11_way_66 : decode cX11_way 66 = .ok (.iaload, 1) := by decide +kernel
theorem dX11_way_67 : decode cX11_way 67 = .ok (.istore_n 3, 1) := by decide +kernel
theorem dX11_way_68 : decode cX11_way 68 = .ok (.aload_n 0, 1) := by decide +kernel
theorem dX11_way_69 : decode cX11_way 69 = .ok (.getfield 31, 3) := by decide +kernel
theorem dX11_way_72 : decode cX11_way 72 = .ok (.iconst 5, 1) := by decide +kernel
theorem dX11_way_73 : decode cX11_way 73 = .ok (.iload_n 1, 1) := by decide +kernel
theorem dX11_way_74 : decode cX11_way 74 = .ok (.bipush 10, 2) := by decide +kernel
theorem dX11_way_76 : decode cX11_way 76 = .ok (.idiv, 1) := by decide +kernel
theorem dX11_way_77 : decode cX11_way 77 = .ok (.imul, 1) := by decide +kernel
theorem dX11_way_78 : decode cX11_way 78 = .ok (.iload_n 1, 1) := by decide +kernel
theorem dX11_way_79 : decode cX11_way 79 = .ok (.bipush 10, 2) := by decide +kernel
theorem dX11_way_81 : decode cX11_way 81 = .ok (.irem, 1) := by decide +kernel
theorem dX11_way_82 : decode cX11_way 82 = .ok (.iadd, 1) := by decide +kernel
theorem dX11_way_83 : decode cX11_way 83 = .ok (.iload_n 2, 1) := by decide +kernel
theorem dX11_way_84 : decode cX11_way 84 = .ok (.iastore, 1) := by decide +kernel
theorem dX11_way_85 : decode cX11_way 85 = .ok (.aload_n 0, 1) := by decide +kernel
theorem dX11_way_86 : decode cX11_way 86 = .ok (.getfield 31, 3) := by decide +kernel
theorem dX11_way_89 : decode cX11_way 89 = .ok (.iconst 5, 1) := by decide +kernel
theorem dX11_way_90 : decode cX11_way 90 = .ok (.iload_n 1, 1) := by decide +kernel
theorem dX11_way_91 : decode cX11_way 91 = .ok (.bipush 10, 2) := by decide +kernel
theorem dX11_way_93 : decode cX11_way 93 = .ok (.irem, 1) := by decide +kernel
theorem dX11_way_94 : decode cX11_way 94 = .ok (.imul, 1) := by decide +kernel
theorem dX11_way_95 : decode cX11_way 95 = .ok (.iload_n 1, 1) := by decide +kernel
theorem dX11_way_96 : decode cX11_way 96 = .ok (.bipush 10, 2) := by decide +kernel
theorem dX11_way_98 : decode cX11_way 98 = .ok (.idiv, 1) := by decide +kernel
theorem dX11_way_99 : decode cX11_way 99 = .ok (.iadd, 1) := by decide +kernel
theorem dX11_way_100 : decode cX11_way 100 = .ok (.iload_n 2, 1) := by decide +kernel
theorem dX11_way_101 : decode cX11_way 101 = .ok (.iastore, 1) := by decide +kernel
theorem dX11_way_102 : decode cX11_way 102 = .ok (.iload_n 3, 1) := by decide +kernel
theorem dX11_way_103 : decode cX11_way 103 = .ok (.ireturn, 1) := by decide +kernel
theorem dX11_isUp_0 : decode cX11_isUp 0 = .ok (.iload_n 3, 1) := by decide +kernel
theorem dX11_isUp_1 : decode cX11_isUp 1 = .ok (.aload_n 0, 1) := by decide +kernel
theorem dX11_isUp_2 : decode cX11_isUp 2 = .ok (.getfield 9, 3) := by decide +kernel
theorem dX11_isUp_5 : decode cX11_isUp 5 = .ok (.iconst 3, 1) := by decide +kernel
theorem dX11_isUp_6 : decode cX11_isUp 6 = .ok (.iload_n 1, 1) := by decide +kernel
theorem dX11_isUp_7 : decode cX11_isUp 7 = .ok (.iadd, 1) := by decide +kernel
theorem dX11_isUp_8 : decode cX11_isUp 8 = .ok (.iaload, 1) := by decide +kernel
theorem dX11_isUp_9 : decode cX11_isUp 9 = .ok (.isub, 1) := by decide +kernel
theorem dX11_isUp_10 : decode cX11_isUp 10 = .ok (.aload_n 0, 1) := by decide +kernel
theorem dX11_isUp_11 : decode cX11_isUp 11 = .ok (.getfield 25, 3) := by decide +kernel
theorem dX11_isUp_14 : decode cX11_isUp 14 = .ok (.iconst 3, 1) := by decide +kernel
theorem dX11_isUp_15 : decode cX11_isUp 15 = .ok (.iload_n 2, 1) := by decide +kernel
theorem dX11_isUp_16 : decode cX11_isUp 16 = .ok (.imul, 1) := by decide +kernel
theorem dX11_isUp_17 : decode cX11_isUp 17 = .ok (.iload_n 1, 1) := by decide +kernel
theorem dX11_isUp_18 : decode cX11_isUp 18 = .ok (.iadd, 1) := by decide +kernel
theorem dX11_isUp_19 : decode cX11_isUp 19 = .ok (.iaload, 1) := by decide +kernel
theorem dX11_isUp_20 : decode cX11_isUp 20 = .ok (.isub, 1) := by decide +kernel
theorem dX11_isUp_21 : decode cX11_isUp 21 = .ok (.aload_n 0, 1) := by decide +kernel
theorem dX11_isUp_22 : decode cX11_isUp 22 = .ok (.getfield 22, 3) := by decide +kernel
theorem dX11_isUp_25 : decode cX11_isUp 25 = .ok (.iload_n 1, 1) := by decide +kernel
theorem dX11_isUp_26 : decode cX11_isUp 26 = .ok (.iaload, 1) := by decide +kernel
theorem dX11_isUp_27 : decode cX11_isUp 27 = .ok (.irem, 1) := by decide +kernel
theorem dX11_isUp_28 : decode cX11_isUp 28 = .ok (.istore 4, 2) := by decide +kernel
theorem dX11_isUp_30 : decode cX11_isUp 30 = .ok (.iload 4, 2) := by decide +kernel
theorem dX11_isUp_32 : decode cX11_isUp 32 = .ok (.ifCond .ge 15, 3) := by decide +kernel
theorem dX11_isUp_35 : decode cX11_isUp 35 = .ok (.iload 4, 2) := by decide +kernel
theorem dX11_isUp_37 : decode cX11_isUp 37 = .ok (.aload_n 0, 1) := by decide +kernel
theorem dX11_isUp_38 : decode cX11_isUp 38 = .ok (.getfield 22, 3) := by decide +kernel
theorem dX11_isUp_41 : decode cX11_isUp 41 = .ok (.iload_n 1, 1) := by decide +kernel
theorem dX11_isUp_42 : decode cX11_isUp 42 = .ok (.iaload, 1) := by decide +kernel
theorem dX11_isUp_43 : decode cX11_isUp 43 = .ok (.iadd, 1) := by decide +kernel
theorem dX11_isUp_44 : decode cX11_isUp 44 = .ok (.goto 5, 3) := by decide +kernel
theorem dX11_isUp_47 : decode cX11_isUp 47 = .ok (.iload 4, 2) := by decide +kernel
theorem dX11_isUp_49 : decode cX11_isUp 49 = .ok (.istore 4, 2) := by decide +kernel
theorem dX11_isUp_51 : decode cX11_isUp 51 = .ok (.iload 4, 2) := by decide +kernel
theorem dX11_isUp_53 : decode cX11_isUp 53 = .ok (.aload_n 0, 1) := by decide +kernel
theorem dX11_isUp_54 : decode cX11_isUp 54 = .ok (.getfield 9, 3) := by decide +kernel
theorem dX11_isUp_57 : decode cX11_isUp 57 = .ok (.iload_n 1, 1) := by decide +kernel
theorem dX11_isUp_58 : decode cX11_isUp 58 = .ok (.iaload, 1) := by decide +kernel
theorem dX11_isUp_59 : decode cX11_isUp 59 = .ok (.aload_n 0, 1) := by decide +kernel
theorem dX11_isUp_60 : decode cX11_isUp 60 = .ok (.getfield 28, 3) := by decide +kernel
theorem dX11_isUp_63 : decode cX11_isUp 63 = .ok (.iconst 3, 1) := by decide +kernel
theorem dX11_isUp_64 : decode cX11_isUp 64 = .ok (.iload_n 2, 1) := by decide +kernel
theorem dX11_isUp_65 : decode cX11_isUp 65 = .ok (.imul, 1) := by decide +kernel
theorem dX11_isUp_66 : decode cX11_isUp 66 = .ok (.iload_n 1, 1) := by decide +kernel
theorem dX11_isUp_67 : decode cX11_isUp 67 = .ok (.iadd, 1) := by decide +kernel
theorem dX11_isUp_68 : decode cX11_isUp 68 = .ok (.iaload, 1) := by decide +kernel
theorem dX11_isUp_69 : decode cX11_isUp 69 = .ok (.isub, 1) := by decide +kernel
theorem dX11_isUp_70 : decode cX11_isUp 70 = .ok (.if_icmp .ge 7, 3) := by decide +kernel
theorem dX11_isUp_73 : decode cX11_isUp 73 = .ok (.iconst 1, 1) := by decide +kernel
theorem dX11_isUp_74 : decode cX11_isUp 74 = .ok (.goto 4, 3) := by decide +kernel
theorem dX11_isUp_77 : decode cX11_isUp 77 = .ok (.iconst 0, 1) := by decide +kernel
theorem dX11_isUp_78 : decode cX11_isUp 78 = .ok (.ireturn, 1) := by decide +kernel
theorem dX11_stateOf_0 : decode cX11_stateOf 0 = .ok (.iconst 0, 1) := by decide +kernel
theorem dX11_stateOf_1 : decode cX11_stateOf 1 = .ok (.istore_n 3, 1) := by decide +kernel
theorem dX11_stateOf_2 : decode cX11_stateOf 2 = .ok (.iconst 0, 1) := by decide +kernel
theorem dX11_stateOf_3 : decode cX11_stateOf 3 = .ok (.istore 4, 2) := by decide +kernel
theorem dX11_stateOf_5 : decode cX11_stateOf 5 = .ok (.iload 4, 2) := by decide +kernel
theorem dX11_stateOf_7 : decode cX11_stateOf 7 = .ok (.aload_n 0, 1) := by decide +kernel
theorem dX11_stateOf_8 : decode cX11_stateOf 8 = .ok (.getfield 103, 3) := by decide +kernel
theorem dX11_stateOf_11 : decode cX11_stateOf 11 = .ok (.if_icmp .ge 31, 3) := by decide +kernel
theorem dX11_stateOf_14 : decode cX11_stateOf 14 = .ok (.iload_n 3, 1) := by decide +kernel
theorem dX11_stateOf_15 : decode cX11_stateOf 15 = .ok (.aload_n 0, 1) := by decide +kernel
theorem dX11_stateOf_16 : decode cX11_stateOf 16 = .ok (.iload 4, 2) := by decide +kernel
theorem dX11_stateOf_18 : decode cX11_stateOf 18 = .ok (.iload_n 1, 1) := by decide +kernel
theorem dX11_stateOf_19 : decode cX11_stateOf 19 = .ok (.iload_n 2, 1) := by decide +kernel
theorem dX11_stateOf_20 : decode cX11_stateOf 20 = .ok (.invokevirtual 130, 3) := by decide +kernel
theorem dX11_stateOf_23 : decode cX11_stateOf 23 = .ok (.ifCond .eq 10, 3) := by decide +kernel
theorem dX11_stateOf_26 : decode cX11_stateOf 26 = .ok (.iconst 1, 1) := by decide +kernel
theorem dX11_stateOf_27 : decode cX11_stateOf 27 = .ok (.iload 4, 2) := by decide +kernel
theorem dX11_stateOf_29 : decode cX11_stateOf 29 = .ok (.ishl, 1) := by decide +kernel
theorem dX11_stateOf_30 : decode cX11_stateOf 30 = .ok (.goto 4, 3) := by decide +kernel
theorem dX11_stateOf_33 : decode cX11_stateOf 33 = .ok (.iconst 0, 1) := by decide +kernel
theorem dX11_stateOf_34 : decode cX11_stateOf 34 = .ok (.ior, 1) := by decide +kernel
theorem dX11_stateOf_35 : decode cX11_stateOf 35 = .ok (.istore_n 3, 1) := by decide +kernel
theorem dX11_stateOf_36 : decode cX11_stateOf 36 = .ok (.iinc 4 1, 3) := by decide +kernel
theorem dX11_stateOf_39 : decode cX11_stateOf 39 = .ok (.goto (-34), 3) := by decide +kernel
theorem dX11_stateOf_42 : decode cX11_stateOf 42 = .ok (.iload_n 3, 1) := by decide +kernel
theorem dX11_stateOf_43 : decode cX11_stateOf 43 = .ok (.ireturn, 1) := by decide +kernel
theorem dX11_state_0 : decode cX11_state 0 = .ok (.aload_n 0, 1) := by decide +kernel
theorem dX11_state_1 : decode cX11_state 1 = .ok (.iload_n 1, 1) := by decide +kernel
theorem dX11_state_2 : decode cX11_state 2 = .ok (.invokevirtual 119, 3) := by decide +kernel
theorem dX11_state_5 : decode cX11_state 5 = .ok (.ifCond .eq 19, 3) := by decide +kernel
theorem dX11_state_8 : decode cX11_state 8 = .ok (.iload_n 2, 1) := by decide +kernel
theorem dX11_state_9 : decode cX11_state 9 = .ok (.invokestatic 134, 3) := by decide +kernel
theorem dX11_state_12 : decode cX11_state 12 = .ok (.ifCond .eq 12, 3) := by decide +kernel
theorem dX11_state_15 : decode cX11_state 15 = .ok (.aload_n 0, 1) := by decide +kernel
theorem dX11_state_16 : decode cX11_state 16 = .ok (.iload_n 1, 1) := by decide +kernel
theorem dX11_state_17 : decode cX11_state 17 = .ok (.iload_n 2, 1) := by decide +kernel
theorem dX11_state_18 : decode cX11_state 18 = .ok (.invokevirtual 137, 3) := by decide +kernel
theorem dX11_state_21 : decode cX11_state 21 = .ok (.goto 4, 3) := by decide +kernel
theorem dX11_state_24 : decode cX11_state 24 = .ok (.iconst (-1), 1) := by decide +kernel
theorem dX11_state_25 : decode cX11_state 25 = .ok (.ireturn, 1) := by decide +kernel
theorem dX11_feed_0 : decode cX11_feed 0 = .ok (.iload_n 1, 1) := by decide +kernel
theorem dX11_feed_1 : decode cX11_feed 1 = .ok (.i2l, 1) := by decide +kernel
theorem dX11_feed_2 : decode cX11_feed 2 = .ok (.lconst 0, 1) := by decide +kernel
theorem dX11_feed_3 : decode cX11_feed 3 = .ok (.ldc2_w 141, 3) := by decide +kernel
theorem dX11_feed_6 : decode cX11_feed 6 = .ok (.invokestatic 106, 3) := by decide +kernel
theorem dX11_feed_9 : decode cX11_feed 9 = .ok (.ifCond .ne 5, 3) := by decide +kernel
theorem dX11_feed_12 : decode cX11_feed 12 = .ok (.iconst (-1), 1) := by decide +kernel
theorem dX11_feed_13 : decode cX11_feed 13 = .ok (.ireturn, 1) := by decide +kernel
theorem dX11_feed_14 : decode cX11_feed 14 = .ok (.aload_n 0, 1) := by decide +kernel
theorem dX11_feed_15 : decode cX11_feed 15 = .ok (.getfield 143, 3) := by decide +kernel
theorem dX11_feed_18 : decode cX11_feed 18 = .ok (.bipush 120, 2) := by decide +kernel
theorem dX11_feed_20 : decode cX11_feed 20 = .ok (.if_icmp .ne 6, 3) := by decide +kernel
theorem dX11_feed_23 : decode cX11_feed 23 = .ok (.bipush (-3), 2) := by decide +kernel
theorem dX11_feed_25 : decode cX11_feed 25 = .ok (.ireturn, 1) := by decide +kernel
theorem dX11_feed_26 : decode cX11_feed 26 = .ok (.aload_n 0, 1) := by decide +kernel
theorem dX11_feed_27 : decode cX11_feed 27 = .ok (.getfield 34, 3) := by decide +kernel
theorem dX11_feed_30 : decode cX11_feed 30 = .ok (.aload_n 0, 1) := by decide +kernel
theorem dX11_feed_31 : decode cX11_feed 31 = .ok (.getfield 143, 3) := by decide +kernel
theorem dX11_feed_34 : decode cX11_feed 34 = .ok (.iload_n 1, 1) := by decide +kernel
theorem dX11_feed_35 : decode cX11_feed 35 = .ok (.iastore, 1) := by decide +kernel
theorem dX11_feed_36 : decode cX11_feed 36 = .ok (.aload_n 0, 1) := by decide +kernel
theorem dX11_feed_37 : decode cX11_feed 37 = .ok (.dup, 1) := by decide +kernel
theorem dX11_feed_38 : decode cX11_feed 38 = .ok (.getfield 143, 3) := by decide +kernel
theorem dX11_feed_41 : decode cX11_feed 41 = .ok (.iconst 1, 1) := by decide +kernel
theorem dX11_feed_42 : decode cX11_feed 42 = .ok (.iadd, 1) := by decide +kernel
theorem dX11_feed_43 : decode cX11_feed 43 = .ok (.putfield 143, 3) := by decide +kernel
theorem dX11_feed_46 : decode cX11_feed 46 = .ok (.aload_n 0, 1) := by decide +kernel
theorem dX11_feed_47 : decode cX11_feed 47 = .ok (.getfield 143, 3) := by decide +kernel
theorem dX11_feed_50 : decode cX11_feed 50 = .ok (.ireturn, 1) := by decide +kernel
theorem dX11_byteAt_0 : decode cX11_byteAt 0 = .ok (.aload_n 0, 1) := by decide +kernel
theorem dX11_byteAt_1 : decode cX11_byteAt 1 = .ok (.getfield 146, 3) := by decide +kernel
theorem dX11_byteAt_4 : decode cX11_byteAt 4 = .ok (.aload_n 0, 1) := by decide +kernel
theorem dX11_byteAt_5 : decode cX11_byteAt 5 = .ok (.getfield 149, 3) := by decide +kernel
theorem dX11_byteAt_8 : decode cX11_byteAt 8 = .ok (.if_icmp .ge 39, 3) := by decide +kernel
theorem dX11_byteAt_11 : decode cX11_byteAt 11 = .ok (.aload_n 0, 1) := by decide +kernel
theorem dX11_byteAt_12 : decode cX11_byteAt 12 = .ok (.getfield 152, 3) := by decide +kernel
theorem dX11_byteAt_15 : decode cX11_byteAt 15 = .ok (.ifCond .ge 15, 3) := by decide +kernel
theorem dX11_byteAt_18 : decode cX11_byteAt 18 = .ok (.aload_n 0, 1) := by decide +kernel
theorem dX11_byteAt_19 : decode cX11_byteAt 19 = .ok (.getfield 34, 3) := by decide +kernel
theorem dX11_byteAt_22 : decode cX11_byteAt 22 = .ok (.aload_n 0, 1) := by decide +kernel
theorem dX11_byteAt_23 : decode cX11_byteAt 23 = .ok (.getfield 146, 3) := by decide +kernel
theorem dX11_byteAt_26 : decode cX11_byteAt 26 = .ok (.iaload, 1) := by decide +kernel
theorem dX11_byteAt_27 : decode cX11_byteAt 27 = .ok (.goto 21, 3) := by decide +kernel
theorem dX11_byteAt_30 : decode cX11_byteAt 30 = .ok (.aload_n 0, 1) := by decide +kernel
theorem dX11_byteAt_31 : decode cX11_byteAt 31 = .ok (.getfield 37, 3) := by decide +kernel
theorem dX11_byteAt_34 : decode cX11_byteAt 34 = .ok (.aload_n 0, 1) := by decide +kernel
theorem dX11_byteAt_35 : decode cX11_byteAt 35 = .ok (.getfield 152, 3) := by decide +kernel
theorem dX11_byteAt_38 : decode cX11_byteAt 38 = .ok (.aload_n 0, 1) := by decide +kernel
theorem dX11_byteAt_39 : decode cX11_byteAt 39 = .ok (.getfield 146, 3) := by decide +kernel
theorem dX11_byteAt_42 : decode cX11_byteAt 42 = .ok (.iadd, 1) := by decide +kernel
theorem dX11_byteAt_43 : decode cX11_byteAt 43 = .ok (.iaload, 1) := by decide +kernel
theorem dX11_byteAt_44 : decode cX11_byteAt 44 = .ok (.goto 4, 3) := by decide +kernel
theorem dX11_byteAt_47 : decode cX11_byteAt 47 = .ok (.iconst 0, 1) := by decide +kernel
theorem dX11_byteAt_48 : decode cX11_byteAt 48 = .ok (.ireturn, 1) := by decide +kernel
theorem dX11_wrong_0 : decode cX11_wrong 0 = .ok (.aload_n 0, 1) := by decide +kernel
theorem dX11_wrong_1 : decode cX11_wrong 1 = .ok (.aload_n 0, 1) := by decide +kernel
theorem dX11_wrong_2 : decode cX11_wrong 2 = .ok (.getfield 155, 3) := by decide +kernel
theorem dX11_wrong_5 : decode cX11_wrong 5 = .ok (.ifCond .ge 10, 3) := by decide +kernel
theorem dX11_wrong_8 : decode cX11_wrong 8 = .ok (.aload_n 0, 1) := by decide +kernel
theorem dX11_wrong_9 : decode cX11_wrong 9 = .ok (.getfield 146, 3) := by decide +kernel
theorem dX11_wrong_12 : decode cX11_wrong 12 = .ok (.goto 7, 3) := by decide +kernel
theorem dX11_wrong_15 : decode cX11_wrong 15 = .ok (.aload_n 0, 1) := by decide +kernel
theorem dX11_wrong_16 : decode cX11_wrong 16 = .ok (.getfield 155, 3) := by decide +kernel
theorem dX11_wrong_19 : decode cX11_wrong 19 = .ok (.putfield 155, 3) := by decide +kernel
theorem dX11_wrong_22 : decode cX11_wrong 22 = .ok (.iconst 0, 1) := by decide +kernel
theorem dX11_wrong_23 : decode cX11_wrong 23 = .ok (.ireturn, 1) := by decide +kernel
theorem dX11_takes_0 : decode cX11_takes 0 = .ok (.aload_n 0, 1) := by decide +kernel
theorem dX11_takes_1 : decode cX11_takes 1 = .ok (.getfield 155, 3) := by decide +kernel
theorem dX11_takes_4 : decode cX11_takes 4 = .ok (.ifCond .ge 11, 3) := by decide +kernel
theorem dX11_takes_7 : decode cX11_takes 7 = .ok (.aload_n 0, 1) := by decide +kernel
theorem dX11_takes_8 : decode cX11_takes 8 = .ok (.invokevirtual 158, 3) := by decide +kernel
theorem dX11_takes_11 : decode cX11_takes 11 = .ok (.iload_n 1, 1) := by decide +kernel
theorem dX11_takes_12 : decode cX11_takes 12 = .ok (.if_icmp .eq 5, 3) := by decide +kernel
theorem dX11_takes_15 : decode cX11_takes 15 = .ok (.iconst 0, 1) := by decide +kernel
theorem dX11_takes_16 : decode cX11_takes 16 = .ok (.ireturn, 1) := by decide +kernel
theorem dX11_takes_17 : decode cX11_takes 17 = .ok (.aload_n 0, 1) := by decide +kernel
theorem dX11_takes_18 : decode cX11_takes 18 = .ok (.dup, 1) := by decide +kernel
theorem dX11_takes_19 : decode cX11_takes 19 = .ok (.getfield 146, 3) := by decide +kernel
theorem dX11_takes_22 : decode cX11_takes 22 = .ok (.iconst 1, 1) := by decide +kernel
theorem dX11_takes_23 : decode cX11_takes 23 = .ok (.iadd, 1) := by decide +kernel
theorem dX11_takes_24 : decode cX11_takes 24 = .ok (.putfield 146, 3) := by decide +kernel
theorem dX11_takes_27 : decode cX11_takes 27 = .ok (.iconst 1, 1) := by decide +kernel
theorem dX11_takes_28 : decode cX11_takes 28 = .ok (.ireturn, 1) := by decide +kernel
theorem dX11_either_0 : decode cX11_either 0 = .ok (.aload_n 0, 1) := by decide +kernel
theorem dX11_either_1 : decode cX11_either 1 = .ok (.invokevirtual 162, 3) := by decide +kernel
theorem dX11_either_4 : decode cX11_either 4 = .ok (.istore_n 1, 1) := by decide +kernel
theorem dX11_either_5 : decode cX11_either 5 = .ok (.aload_n 0, 1) := by decide +kernel
theorem dX11_either_6 : decode cX11_either 6 = .ok (.bipush 124, 2) := by decide +kernel
theorem dX11_either_8 : decode cX11_either 8 = .ok (.invokevirtual 165, 3) := by decide +kernel
theorem dX11_either_11 : decode cX11_either 11 = .ok (.ifCond .eq 25, 3) := by decide +kernel
theorem dX11_either_14 : decode cX11_either 14 = .ok (.aload_n 0, 1) := by decide +kernel
theorem dX11_either_15 : decode cX11_either 15 = .ok (.invokevirtual 162, 3) := by decide +kernel
theorem dX11_either_18 : decode cX11_either 18 = .ok (.istore_n 2, 1) := by decide +kernel
theorem dX11_either_19 : decode cX11_either 19 = .ok (.iload_n 1, 1) := by decide +kernel
theorem dX11_either_20 : decode cX11_either 20 = .ok (.ifCond .ne 7, 3) := by decide +kernel
theorem dX11_either_23 : decode cX11_either 23 = .ok (.iload_n 2, 1) := by decide +kernel
theorem dX11_either_24 : decode cX11_either 24 = .ok (.ifCond .eq 7, 3) := by decide +kernel
theorem dX11_either_27 : decode cX11_either 27 = .ok (.iconst 1, 1) := by decide +kernel
theorem dX11_either_28 : decode cX11_either 28 = .ok (.goto 4, 3) := by decide +kernel
theorem dX11_either_31 : decode cX11_either 31 = .ok (.iconst 0, 1) := by decide +kernel
theorem dX11_either_32 : decode cX11_either 32 = .ok (.istore_n 1, 1) := by decide +kernel
theorem dX11_either_33 : decode cX11_either 33 = .ok (.goto (-28), 3) := by decide +kernel
theorem dX11_either_36 : decode cX11_either 36 = .ok (.iload_n 1, 1) := by decide +kernel
theorem dX11_either_37 : decode cX11_either 37 = .ok (.ireturn, 1) := by decide +kernel
theorem dX11_both_0 : decode cX11_both 0 = .ok (.aload_n 0, 1) := by decide +kernel
theorem dX11_both_1 : decode cX11_both 1 = .ok (.invokevirtual 168, 3) := by decide +kernel
theorem dX11_both_4 : decode cX11_both 4 = .ok (.istore_n 1, 1) := by decide +kernel
theorem dX11_both_5 : decode cX11_both 5 = .ok (.aload_n 0, 1) := by decide +kernel
theorem dX11_both_6 : decode cX11_both 6 = .ok (.bipush 38, 2) := by decide +kernel
theorem dX11_both_8 : decode cX11_both 8 = .ok (.invokevirtual 165, 3) := by decide +kernel
theorem dX11_both_11 : decode cX11_both 11 = .ok (.ifCond .eq 25, 3) := by decide +kernel
theorem dX11_both_14 : decode cX11_both 14 = .ok (.aload_n 0, 1) := by decide +kernel
theorem dX11_both_15 : decode cX11_both 15 = .ok (.invokevirtual 168, 3) := by decide +kernel
theorem dX11_both_18 : decode cX11_both 18 = .ok (.istore_n 2, 1) := by decide +kernel
theorem dX11_both_19 : decode cX11_both 19 = .ok (.iload_n 1, 1) := by decide +kernel
theorem dX11_both_20 : decode cX11_both 20 = .ok (.ifCond .eq 11, 3) := by decide +kernel
theorem dX11_both_23 : decode cX11_both 23 = .ok (.iload_n 2, 1) := by decide +kernel
theorem dX11_both_24 : decode cX11_both 24 = .ok (.ifCond .eq 7, 3) := by decide +kernel
theorem dX11_both_27 : decode cX11_both 27 = .ok (.iconst 1, 1) := by decide +kernel
theorem dX11_both_28 : decode cX11_both 28 = .ok (.goto 4, 3) := by decide +kernel
theorem dX11_both_31 : decode cX11_both 31 = .ok (.iconst 0, 1) := by decide +kernel
theorem dX11_both_32 : decode cX11_both 32 = .ok (.istore_n 1, 1) := by decide +kernel
theorem dX11_both_33 : decode cX11_both 33 = .ok (.goto (-28), 3) := by decide +kernel
theorem dX11_both_36 : decode cX11_both 36 = .ok (.iload_n 1, 1) := by decide +kernel
theorem dX11_both_37 : decode cX11_both 37 = .ok (.ireturn, 1) := by decide +kernel
theorem dX11_compared_0 : decode cX11_compared 0 = .ok (.aload_n 0, 1) := by decide +kernel
theorem dX11_compared_1 : decode cX11_compared 1 = .ok (.invokevirtual 171, 3) := by decide +kernel
theorem dX11_compared_4 : decode cX11_compared 4 = .ok (.istore_n 1, 1) := by decide +kernel
theorem dX11_compared_5 : decode cX11_compared 5 = .ok (.aload_n 0, 1) := by decide +kernel
theorem dX11_compared_6 : decode cX11_compared 6 = .ok (.invokevirtual 158, 3) := by decide +kernel
theorem dX11_compared_9 : decode cX11_compared 9 = .ok (.istore_n 2, 1) := by decide +kernel
theorem dX11_compared_10 : decode cX11_compared 10 = .ok (.aload_n 0, 1) := by decide +kernel
theorem dX11_compared_11 : decode cX11_compared 11 = .ok (.getfield 155, 3) := by decide +kernel
theorem dX11_compared_14 : decode cX11_compared 14 = .ok (.ifCond .ge 21, 3) := by decide +kernel
theorem dX11_compared_17 : decode cX11_compared 17 = .ok (.iload_n 2, 1) := by decide +kernel
theorem dX11_compared_18 : decode cX11_compared 18 = .ok (.bipush 60, 2) := by decide +kernel
theorem dX11_compared_20 : decode cX11_compared 20 = .ok (.if_icmp .eq 17, 3) := by decide +kernel
theorem dX11_compared_23 : decode cX11_compared 23 = .ok (.iload_n 2, 1) := by decide +kernel
theorem dX11_compared_24 : decode cX11_compared 24 = .ok (.bipush 61, 2) := by decide +kernel
theorem dX11_compared_26 : decode cX11_compared 26 = .ok (.if_icmp .eq 11, 3) := by decide +kernel
theorem dX11_compared_29 : decode cX11_compared 29 = .ok (.iload_n 2, 1) := by decide +kernel
theorem dX11_compared_30 : decode cX11_compared 30 = .ok (.bipush 62, 2) := by decide +kernel
theorem dX11_compared_32 : decode cX11_compared 32 = .ok (.if_icmp .eq 5, 3) := by decide +kernel
theorem dX11_compared_35 : decode cX11_compared 35 = .ok (.iload_n 1, 1) := by decide +kernel
theorem dX11_compared_36 : decode cX11_compared 36 = .ok (.ireturn, 1) := by decide +kernel
theorem dX11_compared_37 : decode cX11_compared 37 = .ok (.aload_n 0, 1) := by decide +kernel
theorem dX11_compared_38 : decode cX11_compared 38 = .ok (.dup, 1) := by decide +kernel
theorem dX11_compared_39 : decode cX11_compared 39 = .ok (.getfield 146, 3) := by decide +kernel
theorem dX11_compared_42 : decode cX11_compared 42 = .ok (.iconst 1, 1) := by decide +kernel
theorem dX11_compared_43 : decode cX11_compared 43 = .ok (.iadd, 1) := by decide +kernel
theorem dX11_compared_44 : decode cX11_compared 44 = .ok (.putfield 146, 3) := by decide +kernel
theorem dX11_compared_47 : decode cX11_compared 47 = .ok (.aload_n 0, 1) := by decide +kernel
theorem dX11_compared_48 : decode cX11_compared 48 = .ok (.invokevirtual 171, 3) := by decide +kernel
theorem dX11_compared_51 : decode cX11_compared 51 = .ok (.istore_n 3, 1) := by decide +kernel
theorem dX11_compared_52 : decode cX11_compared 52 = .ok (.iload_n 2, 1) := by decide +kernel
theorem dX11_compared_53 : decode cX11_compared 53 = .ok (.bipush 60, 2) := by decide +kernel
theorem dX11_compared_55 : decode cX11_compared 55 = .ok (.if_icmp .ne 11, 3) := by decide +kernel
theorem dX11_compared_58 : decode cX11_compared 58 = .ok (.iload_n 1, 1) := by decide +kernel
theorem dX11_compared_59 : decode cX11_compared 59 = .ok (.iload_n 3, 1) := by decide +kernel
theorem dX11_compared_60 : decode cX11_compared 60 = .ok (.if_icmp .ge 29, 3) := by decide +kernel
theorem dX11_compared_63 : decode cX11_compared 63 = .ok (.goto 22, 3) := by decide +kernel
theorem dX11_compared_66 : decode cX11_compared 66 = .ok (.iload_n 2, 1) := by decide +kernel
theorem dX11_compared_67 : decode cX11_compared 67 = .ok (.bipush 61, 2) := by decide +kernel
theorem dX11_compared_69 : decode cX11_compared 69 = .ok (.if_icmp .ne 11, 3) := by decide +kernel
theorem dX11_compared_72 : decode cX11_compared 72 = .ok (.iload_n 1, 1) := by decide +kernel
theorem dX11_compared_73 : decode cX11_compared 73 = .ok (.iload_n 3, 1) := by decide +kernel
theorem dX11_compared_74 : decode cX11_compared 74 = .ok (.if_icmp .ne 15, 3) := by decide +kernel
theorem dX11_compared_77 : decode cX11_compared 77 = .ok (.goto 8, 3) := by decide +kernel
theorem dX11_compared_80 : decode cX11_compared 80 = .ok (.iload_n 1, 1) := by decide +kernel
theorem dX11_compared_81 : decode cX11_compared 81 = .ok (.iload_n 3, 1) := by decide +kernel
theorem dX11_compared_82 : decode cX11_compared 82 = .ok (.if_icmp .le 7, 3) := by decide +kernel
theorem dX11_compared_85 : decode cX11_compared 85 = .ok (.iconst 1, 1) := by decide +kernel
theorem dX11_compared_86 : decode cX11_compared 86 = .ok (.goto 4, 3) := by decide +kernel
theorem dX11_compared_89 : decode cX11_compared 89 = .ok (.iconst 0, 1) := by decide +kernel
theorem dX11_compared_90 : decode cX11_compared 90 = .ok (.ireturn, 1) := by decide +kernel
theorem dX11_sums_0 : decode cX11_sums 0 = .ok (.aload_n 0, 1) := by decide +kernel
theorem dX11_sums_1 : decode cX11_sums 1 = .ok (.invokevirtual 174, 3) := by decide +kernel
theorem dX11_sums_4 : decode cX11_sums 4 = .ok (.istore_n 1, 1) := by decide +kernel
theorem dX11_sums_5 : decode cX11_sums 5 = .ok (.aload_n 0, 1) := by decide +kernel
theorem dX11_sums_6 : decode cX11_sums 6 = .ok (.getfield 155, 3) := by decide +kernel
theorem dX11_sums_9 : decode cX11_sums 9 = .ok (.ifCond .ge 68, 3) := by decide +kernel
theorem dX11_sums_12 : decode cX11_sums 12 = .ok (.aload_n 0, 1) := by decide +kernel
theorem dX11_sums_13 : decode cX11_sums 13 = .ok (.invokevirtual 158, 3) := by decide +kernel
theorem dX11_sums_16 : decode cX11_sums 16 = .ok (.bipush 43, 2) := by decide +kernel
theorem dX11_sums_18 : decode cX11_sums 18 = .ok (.if_icmp .eq 12, 3) := by decide +kernel
theorem dX11_sums_21 : decode cX11_sums 21 = .ok (.aload_n 0, 1) := by decide +kernel
theorem dX11_sums_22 : decode cX11_sums 22 = .ok (.invokevirtual 158, 3) := by decide +kernel
theorem dX11_sums_25 : decode cX11_sums 25 = .ok (.bipush 45, 2) := by decide +kernel
theorem dX11_sums_27 : decode cX11_sums 27 = .ok (.if_icmp .ne 50, 3) := by decide +kernel
theorem dX11_sums_30 : decode cX11_sums 30 = .ok (.aload_n 0, 1) := by decide +kernel
theorem dX11_sums_31 : decode cX11_sums 31 = .ok (.invokevirtual 158, 3) := by decide +kernel
theorem dX11_sums_34 : decode cX11_sums 34 = .ok (.bipush 43, 2) := by decide +kernel
theorem dX11_sums_36 : decode cX11_sums 36 = .ok (.if_icmp .ne 7, 3) := by decide +kernel
theorem dX11_sums_39 : decode cX11_sums 39 = .ok (.iconst 1, 1) := by decide +kernel
theorem dX11_sums_40 : decode cX11_sums 40 = .ok (.goto 4, 3) := by decide +kernel
theorem dX11_sums_43 : decode cX11_sums 43 = .ok (.iconst 0, 1) := by decide +kernel
theorem dX11_sums_44 : decode cX11_sums 44 = .ok (.istore_n 2, 1) := by decide +kernel
theorem dX11_sums_45 : decode cX11_sums 45 = .ok (.aload_n 0, 1) := by decide +kernel
theorem dX11_sums_46 : decode cX11_sums 46 = .ok (.dup, 1) := by decide +kernel
theorem dX11_sums_47 : decode cX11_sums 47 = .ok (.getfield 146, 3) := by decide +kernel
theorem dX11_sums_50 : decode cX11_sums 50 = .ok (.iconst 1, 1) := by decide +kernel
theorem dX11_sums_51 : decode cX11_sums 51 = .ok (.iadd, 1) := by decide +kernel
theorem dX11_sums_52 : decode cX11_sums 52 = .ok (.putfield 146, 3) := by decide +kernel
theorem dX11_sums_55 : decode cX11_sums 55 = .ok (.aload_n 0, 1) := by decide +kernel
theorem dX11_sums_56 : decode cX11_sums 56 = .ok (.invokevirtual 174, 3) := by decide +kernel
theorem dX11_sums_59 : decode cX11_sums 59 = .ok (.istore_n 3, 1) := by decide +kernel
theorem dX11_sums_60 : decode cX11_sums 60 = .ok (.iload_n 2, 1) := by decide +kernel
theorem dX11_sums_61 : decode cX11_sums 61 = .ok (.ifCond .eq 9, 3) := by decide +kernel
theorem dX11_sums_64 : decode cX11_sums 64 = .ok (.iload_n 1, 1) := by decide +kernel
theorem dX11_sums_65 : decode cX11_sums 65 = .ok (.iload_n 3, 1) := by decide +kernel
theorem dX11_sums_66 : decode cX11_sums 66 = .ok (.iadd, 1) := by decide +kernel
theorem dX11_sums_67 : decode cX11_sums 67 = .ok (.goto 6, 3) := by decide +kernel
theorem dX11_sums_70 : decode cX11_sums 70 = .ok (.iload_n 1, 1) := by decide +kernel
theorem dX11_sums_71 : decode cX11_sums 71 = .ok (.iload_n 3, 1) := by decide +kernel
theorem dX11_sums_72 : decode cX11_sums 72 = .ok (.isub, 1) := by decide +kernel
theorem dX11_sums_73 : decode cX11_sums 73 = .ok (.istore_n 1, 1) := by decide +kernel
theorem dX11_sums_74 : decode cX11_sums 74 = .ok (.goto (-69), 3) := by decide +kernel
theorem dX11_sums_77 : decode cX11_sums 77 = .ok (.iload_n 1, 1) := by decide +kernel
theorem dX11_sums_78 : decode cX11_sums 78 = .ok (.ireturn, 1) := by decide +kernel
theorem dX11_product_0 : decode cX11_product 0 = .ok (.aload_n 0, 1) := by decide +kernel
theorem dX11_product_1 : decode cX11_product 1 = .ok (.invokevirtual 177, 3) := by decide +kernel
theorem dX11_product_4 : decode cX11_product 4 = .ok (.istore_n 1, 1) := by decide +kernel
theorem dX11_product_5 : decode cX11_product 5 = .ok (.aload_n 0, 1) := by decide +kernel
theorem dX11_product_6 : decode cX11_product 6 = .ok (.invokevirtual 158, 3) := by decide +kernel
theorem dX11_product_9 : decode cX11_product 9 = .ok (.istore_n 2, 1) := by decide +kernel
theorem dX11_product_10 : decode cX11_product 10 = .ok (.aload_n 0, 1) := by decide +kernel
theorem dX11_product_11 : decode cX11_product 11 = .ok (.getfield 155, 3) := by decide +kernel
theorem dX11_product_14 : decode cX11_product 14 = .ok (.ifCond .ge 80, 3) := by decide +kernel
theorem dX11_product_17 : decode cX11_product 17 = .ok (.iload_n 2, 1) := by decide +kernel
theorem dX11_product_18 : decode cX11_product 18 = .ok (.bipush 42, 2) := by decide +kernel
theorem dX11_product_20 : decode cX11_product 20 = .ok (.if_icmp .eq 15, 3) := by decide +kernel
theorem dX11_product_23 : decode cX11_product 23 = .ok (.iload_n 2, 1) := by decide +kernel
theorem dX11_product_24 : decode cX11_product 24 = .ok (.bipush 47, 2) := by decide +kernel
theorem dX11_product_26 : decode cX11_product 26 = .ok (.if_icmp .eq 9, 3) := by decide +kernel
theorem dX11_product_29 : decode cX11_product 29 = .ok (.iload_n 2, 1) := by decide +kernel
theorem dX11_product_30 : decode cX11_product 30 = .ok (.bipush 37, 2) := by decide +kernel
theorem dX11_product_32 : decode cX11_product 32 = .ok (.if_icmp .ne 62, 3) := by decide +kernel
theorem dX11_product_35 : decode cX11_product 35 = .ok (.aload_n 0, 1) := by decide +kernel
theorem dX11_product_36 : decode cX11_product 36 = .ok (.dup, 1) := by decide +kernel
theorem dX11_product_37 : decode cX11_product 37 = .ok (.getfield 146, 3) := by decide +kernel
theorem dX11_product_40 : decode cX11_product 40 = .ok (.iconst 1, 1) := by decide +kernel
theorem dX11_product_41 : decode cX11_product 41 = .ok (.iadd, 1) := by decide +kernel
theorem dX11_product_42 : decode cX11_product 42 = .ok (.putfield 146, 3) := by decide +kernel
theorem dX11_product_45 : decode cX11_product 45 = .ok (.aload_n 0, 1) := by decide +kernel
theorem dX11_product_46 : decode cX11_product 46 = .ok (.invokevirtual 177, 3) := by decide +kernel
theorem dX11_product_49 : decode cX11_product 49 = .ok (.istore_n 3, 1) := by decide +kernel
theorem dX11_product_50 : decode cX11_product 50 = .ok (.iload_n 2, 1) := by decide +kernel
theorem dX11_product_51 : decode cX11_product 51 = .ok (.bipush 42, 2) := by decide +kernel
theorem dX11_product_53 : decode cX11_product 53 = .ok (.if_icmp .ne 9, 3) := by decide +kernel
theorem dX11_product_56 : decode cX11_product 56 = .ok (.iload_n 1, 1) := by decide +kernel
theorem dX11_product_57 : decode cX11_product 57 = .ok (.iload_n 3, 1) := by decide +kernel
theorem dX11_product_58 : decode cX11_product 58 = .ok (.imul, 1) := by decide +kernel
theorem dX11_product_59 : decode cX11_product 59 = .ok (.goto 26, 3) := by decide +kernel
theorem dX11_product_62 : decode cX11_product 62 = .ok (.iload_n 3, 1) := by decide +kernel
theorem dX11_product_63 : decode cX11_product 63 = .ok (.ifCond .ne 7, 3) := by decide +kernel
theorem dX11_product_66 : decode cX11_product 66 = .ok (.iconst 0, 1) := by decide +kernel
theorem dX11_product_67 : decode cX11_product 67 = .ok (.goto 18, 3) := by decide +kernel
theorem dX11_product_70 : decode cX11_product 70 = .ok (.iload_n 2, 1) := by decide +kernel
theorem dX11_product_71 : decode cX11_product 71 = .ok (.bipush 47, 2) := by decide +kernel
theorem dX11_product_73 : decode cX11_product 73 = .ok (.if_icmp .ne 9, 3) := by decide +kernel
theorem dX11_product_76 : decode cX11_product 76 = .ok (.iload_n 1, 1) := by decide +kernel
theorem dX11_product_77 : decode cX11_product 77 = .ok (.iload_n 3, 1) := by decide +kernel
theorem dX11_product_78 : decode cX11_product 78 = .ok (.idiv, 1) := by decide +kernel
theorem dX11_product_79 : decode cX11_product 79 = .ok (.goto 6, 3) := by decide +kernel
theorem dX11_product_82 : decode cX11_product 82 = .ok (.iload_n 1, 1) := by decide +kernel
theorem dX11_product_83 : decode cX11_product 83 = .ok (.iload_n 3, 1) := by decide +kernel
theorem dX11_product_84 : decode cX11_product 84 = .ok (.irem, 1) := by decide +kernel
theorem dX11_product_85 : decode cX11_product 85 = .ok (.istore_n 1, 1) := by decide +kernel
theorem dX11_product_86 : decode cX11_product 86 = .ok (.aload_n 0, 1) := by decide +kernel
theorem dX11_product_87 : decode cX11_product 87 = .ok (.invokevirtual 158, 3) := by decide +kernel
theorem dX11_product_90 : decode cX11_product 90 = .ok (.istore_n 2, 1) := by decide +kernel
theorem dX11_product_91 : decode cX11_product 91 = .ok (.goto (-81), 3) := by decide +kernel
theorem dX11_product_94 : decode cX11_product 94 = .ok (.iload_n 1, 1) := by decide +kernel
theorem dX11_product_95 : decode cX11_product 95 = .ok (.ireturn, 1) := by decide +kernel
theorem dX11_nameOf_0 : decode cX11_nameOf 0 = .ok (.iload_n 0, 1) := by decide +kernel
theorem dX11_nameOf_1 : decode cX11_nameOf 1 = .ok (.tableswitch 94 104 119 #[85, 94, 94, 79, 83, 91, 81, 94, 94, 94, 94, 94, 94, 94, 87, 89], 79) := by decide +kernel
theorem dX11_nameOf_80 : decode cX11_nameOf 80 = .ok (.iconst 0, 1) := by decide +kernel
theorem dX11_nameOf_81 : decode cX11_nameOf 81 = .ok (.ireturn, 1) := by decide +kernel
theorem dX11_nameOf_82 : decode cX11_nameOf 82 = .ok (.iconst 1, 1) := by decide +kernel
theorem dX11_nameOf_83 : decode cX11_nameOf 83 = .ok (.ireturn, 1) := by decide +kernel
theorem dX11_nameOf_84 : decode cX11_nameOf 84 = .ok (.iconst 2, 1) := by decide +kernel
theorem dX11_nameOf_85 : decode cX11_nameOf 85 = .ok (.ireturn, 1) := by decide +kernel
theorem dX11_nameOf_86 : decode cX11_nameOf 86 = .ok (.iconst 3, 1) := by decide +kernel
theorem dX11_nameOf_87 : decode cX11_nameOf 87 = .ok (.ireturn, 1) := by decide +kernel
theorem dX11_nameOf_88 : decode cX11_nameOf 88 = .ok (.iconst 4, 1) := by decide +kernel
theorem dX11_nameOf_89 : decode cX11_nameOf 89 = .ok (.ireturn, 1) := by decide +kernel
theorem dX11_nameOf_90 : decode cX11_nameOf 90 = .ok (.iconst 5, 1) := by decide +kernel
theorem dX11_nameOf_91 : decode cX11_nameOf 91 = .ok (.ireturn, 1) := by decide +kernel
theorem dX11_nameOf_92 : decode cX11_nameOf 92 = .ok (.bipush 6, 2) := by decide +kernel
theorem dX11_nameOf_94 : decode cX11_nameOf 94 = .ok (.ireturn, 1) := by decide +kernel
theorem dX11_nameOf_95 : decode cX11_nameOf 95 = .ok (.iconst (-1), 1) := by decide +kernel
theorem dX11_nameOf_96 : decode cX11_nameOf 96 = .ok (.ireturn, 1) := by decide +kernel
theorem dX11_one_0 : decode cX11_one 0 = .ok (.aload_n 0, 1) := by decide +kernel
theorem dX11_one_1 : decode cX11_one 1 = .ok (.getfield 155, 3) := by decide +kernel
theorem dX11_one_4 : decode cX11_one 4 = .ok (.ifCond .lt 5, 3) := by decide +kernel
theorem dX11_one_7 : decode cX11_one 7 = .ok (.iconst 0, 1) := by decide +kernel
theorem dX11_one_8 : decode cX11_one 8 = .ok (.ireturn, 1) := by decide +kernel
theorem dX11_one_9 : decode cX11_one 9 = .ok (.aload_n 0, 1) := by decide +kernel
theorem dX11_one_10 : decode cX11_one 10 = .ok (.invokevirtual 158, 3) := by decide +kernel
theorem dX11_one_13 : decode cX11_one 13 = .ok (.istore_n 1, 1) := by decide +kernel
theorem dX11_one_14 : decode cX11_one 14 = .ok (.iload_n 1, 1) := by decide +kernel
theorem dX11_one_15 : decode cX11_one 15 = .ok (.bipush 33, 2) := by decide +kernel
theorem dX11_one_17 : decode cX11_one 17 = .ok (.if_icmp .eq 15, 3) := by decide +kernel
theorem dX11_one_20 : decode cX11_one 20 = .ok (.iload_n 1, 1) := by decide +kernel
theorem dX11_one_21 : decode cX11_one 21 = .ok (.bipush 45, 2) := by decide +kernel
theorem dX11_one_23 : decode cX11_one 23 = .ok (.if_icmp .eq 9, 3) := by decide +kernel
theorem dX11_one_26 : decode cX11_one 26 = .ok (.iload_n 1, 1) := by decide +kernel
theorem dX11_one_27 : decode cX11_one 27 = .ok (.bipush 40, 2) := by decide +kernel
theorem dX11_one_29 : decode cX11_one 29 = .ok (.if_icmp .ne 116, 3) := by decide +kernel
theorem dX11_one_32 : decode cX11_one 32 = .ok (.aload_n 0, 1) := by decide +kernel
theorem dX11_one_33 : decode cX11_one 33 = .ok (.getfield 180, 3) := by decide +kernel
theorem dX11_one_36 : decode cX11_one 36 = .ok (.bipush 6, 2) := by decide +kernel
theorem dX11_one_38 : decode cX11_one 38 = .ok (.if_icmp .ne 8, 3) := by decide +kernel
theorem dX11_one_41 : decode cX11_one 41 = .ok (.aload_n 0, 1) := by decide +kernel
theorem dX11_one_42 : decode cX11_one 42 = .ok (.invokevirtual 183, 3) := by decide +kernel
theorem dX11_one_45 : decode cX11_one 45 = .ok (.ireturn, 1) := by decide +kernel
theorem dX11_one_46 : decode cX11_one 46 = .ok (.aload_n 0, 1) := by decide +kernel
theorem dX11_one_47 : decode cX11_one 47 = .ok (.dup, 1) := by decide +kernel
theorem dX11_one_48 : decode cX11_one 48 = .ok (.getfield 180, 3) := by decide +kernel
theorem dX11_one_51 : decode cX11_one 51 = .ok (.iconst 1, 1) := by decide +kernel
theorem dX11_one_52 : decode cX11_one 52 = .ok (.iadd, 1) := by decide +kernel
theorem dX11_one_53 : decode cX11_one 53 = .ok (.putfield 180, 3) := by decide +kernel
theorem dX11_one_56 : decode cX11_one 56 = .ok (.aload_n 0, 1) := by decide +kernel
theorem dX11_one_57 : decode cX11_one 57 = .ok (.dup, 1) := by decide +kernel
theorem dX11_one_58 : decode cX11_one 58 = .ok (.getfield 146, 3) := by decide +kernel
theorem dX11_one_61 : decode cX11_one 61 = .ok (.iconst 1, 1) := by decide +kernel
theorem dX11_one_62 : decode cX11_one 62 = .ok (.iadd, 1) := by decide +kernel
theorem dX11_one_63 : decode cX11_one 63 = .ok (.putfield 146, 3) := by decide +kernel
theorem dX11_one_66 : decode cX11_one 66 = .ok (.iload_n 1, 1) := by decide +kernel
theorem dX11_one_67 : decode cX11_one 67 = .ok (.bipush 40, 2) := by decide +kernel
theorem dX11_one_69 : decode cX11_one 69 = .ok (.if_icmp .ne 10, 3) := by decide +kernel
theorem dX11_one_72 : decode cX11_one 72 = .ok (.aload_n 0, 1) := by decide +kernel
theorem dX11_one_73 : decode cX11_one 73 = .ok (.invokevirtual 186, 3) := by decide +kernel
theorem dX11_one_76 : decode cX11_one 76 = .ok (.goto 7, 3) := by decide +kernel
theorem dX11_one_79 : decode cX11_one 79 = .ok (.aload_n 0, 1) := by decide +kernel
theorem dX11_one_80 : decode cX11_one 80 = .ok (.invokevirtual 177, 3) := by decide +kernel
theorem dX11_one_83 : decode cX11_one 83 = .ok (.istore_n 2, 1) := by decide +kernel
theorem dX11_one_84 : decode cX11_one 84 = .ok (.iload_n 1, 1) := by decide +kernel
theorem dX11_one_85 : decode cX11_one 85 = .ok (.bipush 40, 2) := by decide +kernel
theorem dX11_one_87 : decode cX11_one 87 = .ok (.if_icmp .ne 17, 3) := by decide +kernel
theorem dX11_one_90 : decode cX11_one 90 = .ok (.aload_n 0, 1) := by decide +kernel
theorem dX11_one_91 : decode cX11_one 91 = .ok (.bipush 41, 2) := by decide +kernel
theorem dX11_one_93 : decode cX11_one 93 = .ok (.invokevirtual 165, 3) := by decide +kernel
theorem dX11_one_96 : decode cX11_one 96 = .ok (.ifCond .ne 8, 3) := by decide +kernel
theorem dX11_one_99 : decode cX11_one 99 = .ok (.aload_n 0, 1) := by decide +kernel
theorem dX11_one_100 : decode cX11_one 100 = .ok (.invokevirtual 183, 3) := by decide +kernel
theorem dX11_one_103 : decode cX11_one 103 = .ok (.ireturn, 1) := by decide +kernel
theorem dX11_one_104 : decode cX11_one 104 = .ok (.aload_n 0, 1) := by decide +kernel
theorem dX11_one_105 : decode cX11_one 105 = .ok (.dup, 1) := by decide +kernel
theorem dX11_one_106 : decode cX11_one 106 = .ok (.getfield 180, 3) := by decide +kernel
theorem dX11_one_109 : decode cX11_one 109 = .ok (.iconst 1, 1) := by decide +kernel
theorem dX11_one_110 : decode cX11_one 110 = .ok (.isub, 1) := by decide +kernel
theorem dX11_one_111 : decode cX11_one 111 = .ok (.putfield 180, 3) := by decide +kernel
theorem dX11_one_114 : decode cX11_one 114 = .ok (.iload_n 1, 1) := by decide +kernel
theorem dX11_one_115 : decode cX11_one 115 = .ok (.bipush 40, 2) := by decide +kernel
theorem dX11_one_117 : decode cX11_one 117 = .ok (.if_icmp .ne 7, 3) := by decide +kernel
theorem dX11_one_120 : decode cX11_one 120 = .ok (.iload_n 2, 1) := by decide +kernel
theorem dX11_one_121 : decode cX11_one 121 = .ok (.goto 23, 3) := by decide +kernel
theorem dX11_one_124 : decode cX11_one 124 = .ok (.iload_n 1, 1) := by decide +kernel
theorem dX11_one_125 : decode cX11_one 125 = .ok (.bipush 45, 2) := by decide +kernel
theorem dX11_one_127 : decode cX11_one 127 = .ok (.if_icmp .ne 8, 3) := by decide +kernel
theorem dX11_one_130 : decode cX11_one 130 = .ok (.iload_n 2, 1) := by decide +kernel
theorem dX11_one_131 : decode cX11_one 131 = .ok (.ineg, 1) := by decide +kernel
theorem dX11_one_132 : decode cX11_one 132 = .ok (.goto 12, 3) := by decide +kernel
theorem dX11_one_135 : decode cX11_one 135 = .ok (.iload_n 2, 1) := by decide +kernel
theorem dX11_one_136 : decode cX11_one 136 = .ok (.ifCond .ne 7, 3) := by decide +kernel
theorem dX11_one_139 : decode cX11_one 139 = .ok (.iconst 1, 1) := by decide +kernel
theorem dX11_one_140 : decode cX11_one 140 = .ok (.goto 4, 3) := by decide +kernel
theorem dX11_one_143 : decode cX11_one 143 = .ok (.iconst 0, 1) := by decide +kernel
theorem dX11_one_144 : decode cX11_one 144 = .ok (.ireturn, 1) := by decide +kernel
theorem dX11_one_145 : decode cX11_one 145 = .ok (.iload_n 1, 1) := by decide +kernel
theorem dX11_one_146 : decode cX11_one 146 = .ok (.invokestatic 189, 3) := by decide +kernel
theorem dX11_one_149 : decode cX11_one 149 = .ok (.istore_n 2, 1) := by decide +kernel
theorem dX11_one_150 : decode cX11_one 150 = .ok (.iload_n 2, 1) := by decide +kernel
theorem dX11_one_151 : decode cX11_one 151 = .ok (.ifCond .lt 20, 3) := by decide +kernel
theorem dX11_one_154 : decode cX11_one 154 = .ok (.aload_n 0, 1) := by decide +kernel
theorem dX11_one_155 : decode cX11_one 155 = .ok (.dup, 1) := by decide +kernel
theorem dX11_one_156 : decode cX11_one 156 = .ok (.getfield 146, 3) := by decide +kernel
theorem dX11_one_159 : decode cX11_one 159 = .ok (.iconst 1, 1) := by decide +kernel
theorem dX11_one_160 : decode cX11_one 160 = .ok (.iadd, 1) := by decide +kernel
theorem dX11_one_161 : decode cX11_one 161 = .ok (.putfield 146, 3) := by decide +kernel
theorem dX11_one_164 : decode cX11_one 164 = .ok (.aload_n 0, 1) := by decide +kernel
theorem dX11_one_165 : decode cX11_one 165 = .ok (.getfield 43, 3) := by decide +kernel
theorem dX11_one_168 : decode cX11_one 168 = .ok (.iload_n 2, 1) := by decide +kernel
theorem dX11_one_169 : decode cX11_one 169 = .ok (.iaload, 1) := by decide +kernel
theorem dX11_one_170 : decode cX11_one 170 = .ok (.ireturn, 1) := by decide +kernel
theorem dX11_one_171 : decode cX11_one 171 = .ok (.iconst 0, 1) := by decide +kernel
theorem dX11_one_172 : decode cX11_one 172 = .ok (.istore_n 3, 1) := by decide +kernel
theorem dX11_one_173 : decode cX11_one 173 = .ok (.iconst 0, 1) := by decide +kernel
theorem dX11_one_174 : decode cX11_one 174 = .ok (.istore 4, 2) := by decide +kernel
theorem dX11_one_176 : decode cX11_one 176 = .ok (.iload 4, 2) := by decide +kernel
theorem dX11_one_178 : decode cX11_one 178 = .ok (.iconst 4, 1) := by decide +kernel
theorem dX11_one_179 : decode cX11_one 179 = .ok (.if_icmp .ge 50, 3) := by decide +kernel
theorem dX11_one_182 : decode cX11_one 182 = .ok (.aload_n 0, 1) := by decide +kernel
theorem dX11_one_183 : decode cX11_one 183 = .ok (.invokevirtual 158, 3) := by decide +kernel
theorem dX11_one_186 : decode cX11_one 186 = .ok (.bipush 48, 2) := by decide +kernel
theorem dX11_one_188 : decode cX11_one 188 = .ok (.if_icmp .lt 41, 3) := by decide +kernel
theorem dX11_one_191 : decode cX11_one 191 = .ok (.aload_n 0, 1) := by decide +kernel
theorem dX11_one_192 : decode cX11_one 192 = .ok (.invokevirtual 158, 3) := by decide +kernel
theorem dX11_one_195 : decode cX11_one 195 = .ok (.bipush 57, 2) := by decide +kernel
theorem dX11_one_197 : decode cX11_one 197 = .ok (.if_icmp .gt 32, 3) := by decide +kernel
theorem dX11_one_200 : decode cX11_one 200 = .ok (.bipush 10, 2) := by decide +kernel
theorem dX11_one_202 : decode cX11_one 202 = .ok (.iload_n 3, 1) := by decide +kernel
theorem dX11_one_203 : decode cX11_one 203 = .ok (.imul, 1) := by decide +kernel
theorem dX11_one_204 : decode cX11_one 204 = .ok (.aload_n 0, 1) := by decide +kernel
theorem dX11_one_205 : decode cX11_one 205 = .ok (.invokevirtual 158, 3) := by decide +kernel
theorem dX11_one_208 : decode cX11_one 208 = .ok (.iadd, 1) := by decide +kernel
theorem dX11_one_209 : decode cX11_one 209 = .ok (.bipush 48, 2) := by decide +kernel
theorem dX11_one_211 : decode cX11_one 211 = .ok (.isub, 1) := by decide +kernel
theorem dX11_one_212 : decode cX11_one 212 = .ok (.istore_n 3, 1) := by decide +kernel
theorem dX11_one_213 : decode cX11_one 213 = .ok (.iinc 4 1, 3) := by decide +kernel
theorem dX11_one_216 : decode cX11_one 216 = .ok (.aload_n 0, 1) := by decide +kernel
theorem dX11_one_217 : decode cX11_one 217 = .ok (.dup, 1) := by decide +kernel
theorem dX11_one_218 : decode cX11_one 218 = .ok (.getfield 146, 3) := by decide +kernel
theorem dX11_one_221 : decode cX11_one 221 = .ok (.iconst 1, 1) := by decide +kernel
theorem dX11_one_222 : decode cX11_one 222 = .ok (.iadd, 1) := by decide +kernel
theorem dX11_one_223 : decode cX11_one 223 = .ok (.putfield 146, 3) := by decide +kernel
theorem dX11_one_226 : decode cX11_one 226 = .ok (.goto (-50), 3) := by decide +kernel
theorem dX11_one_229 : decode cX11_one 229 = .ok (.iload 4, 2) := by decide +kernel
theorem dX11_one_231 : decode cX11_one 231 = .ok (.ifCond .ne 10, 3) := by decide +kernel
theorem dX11_one_234 : decode cX11_one 234 = .ok (.aload_n 0, 1) := by decide +kernel
theorem dX11_one_235 : decode cX11_one 235 = .ok (.invokevirtual 183, 3) := by decide +kernel
theorem dX11_one_238 : decode cX11_one 238 = .ok (.goto 4, 3) := by decide +kernel
theorem dX11_one_241 : decode cX11_one 241 = .ok (.iload_n 3, 1) := by decide +kernel
theorem dX11_one_242 : decode cX11_one 242 = .ok (.ireturn, 1) := by decide +kernel
theorem dX11_workOut_0 : decode cX11_workOut 0 = .ok (.aload_n 0, 1) := by decide +kernel
theorem dX11_workOut_1 : decode cX11_workOut 1 = .ok (.iload_n 1, 1) := by decide +kernel
theorem dX11_workOut_2 : decode cX11_workOut 2 = .ok (.putfield 152, 3) := by decide +kernel
theorem dX11_workOut_5 : decode cX11_workOut 5 = .ok (.aload_n 0, 1) := by decide +kernel
theorem dX11_workOut_6 : decode cX11_workOut 6 = .ok (.iconst 0, 1) := by decide +kernel
theorem dX11_workOut_7 : decode cX11_workOut 7 = .ok (.putfield 146, 3) := by decide +kernel
theorem dX11_workOut_10 : decode cX11_workOut 10 = .ok (.aload_n 0, 1) := by decide +kernel
theorem dX11_workOut_11 : decode cX11_workOut 11 = .ok (.iload_n 2, 1) := by decide +kernel
theorem dX11_workOut_12 : decode cX11_workOut 12 = .ok (.putfield 149, 3) := by decide +kernel
theorem dX11_workOut_15 : decode cX11_workOut 15 = .ok (.aload_n 0, 1) := by decide +kernel
theorem dX11_workOut_16 : decode cX11_workOut 16 = .ok (.iconst (-1), 1) := by decide +kernel
theorem dX11_workOut_17 : decode cX11_workOut 17 = .ok (.putfield 155, 3) := by decide +kernel
theorem dX11_workOut_20 : decode cX11_workOut 20 = .ok (.aload_n 0, 1) := by decide +kernel
theorem dX11_workOut_21 : decode cX11_workOut 21 = .ok (.iconst 0, 1) := by decide +kernel
theorem dX11_workOut_22 : decode cX11_workOut 22 = .ok (.putfield 180, 3) := by decide +kernel
theorem dX11_workOut_25 : decode cX11_workOut 25 = .ok (.iconst 0, 1) := by decide +kernel
theorem dX11_workOut_26 : decode cX11_workOut 26 = .ok (.istore_n 3, 1) := by decide +kernel
theorem dX11_workOut_27 : decode cX11_workOut 27 = .ok (.iconst 0, 1) := by decide +kernel
theorem dX11_workOut_28 : decode cX11_workOut 28 = .ok (.istore 4, 2) := by decide +kernel
theorem dX11_workOut_30 : decode cX11_workOut 30 = .ok (.iconst 1, 1) := by decide +kernel
theorem dX11_workOut_31 : decode cX11_workOut 31 = .ok (.istore 5, 2) := by decide +kernel
theorem dX11_workOut_33 : decode cX11_workOut 33 = .ok (.iload 5, 2) := by decide +kernel
theorem dX11_workOut_35 : decode cX11_workOut 35 = .ok (.ifCond .eq 72, 3) := by decide +kernel
theorem dX11_workOut_38 : decode cX11_workOut 38 = .ok (.aload_n 0, 1) := by decide +kernel
theorem dX11_workOut_39 : decode cX11_workOut 39 = .ok (.invokevirtual 186, 3) := by decide +kernel
theorem dX11_workOut_42 : decode cX11_workOut 42 = .ok (.istore 6, 2) := by decide +kernel
theorem dX11_workOut_44 : decode cX11_workOut 44 = .ok (.iconst 1, 1) := by decide +kernel
theorem dX11_workOut_45 : decode cX11_workOut 45 = .ok (.istore 7, 2) := by decide +kernel
theorem dX11_workOut_47 : decode cX11_workOut 47 = .ok (.aload_n 0, 1) := by decide +kernel
theorem dX11_workOut_48 : decode cX11_workOut 48 = .ok (.bipush 63, 2) := by decide +kernel
theorem dX11_workOut_50 : decode cX11_workOut 50 = .ok (.invokevirtual 165, 3) := by decide +kernel
theorem dX11_workOut_53 : decode cX11_workOut 53 = .ok (.ifCond .eq 21, 3) := by decide +kernel
theorem dX11_workOut_56 : decode cX11_workOut 56 = .ok (.iload 6, 2) := by decide +kernel
theorem dX11_workOut_58 : decode cX11_workOut 58 = .ok (.ifCond .eq 7, 3) := by decide +kernel
theorem dX11_workOut_61 : decode cX11_workOut 61 = .ok (.iconst 1, 1) := by decide +kernel
theorem dX11_workOut_62 : decode cX11_workOut 62 = .ok (.goto 4, 3) := by decide +kernel
theorem dX11_workOut_65 : decode cX11_workOut 65 = .ok (.iconst 0, 1) := by decide +kernel
theorem dX11_workOut_66 : decode cX11_workOut 66 = .ok (.istore 7, 2) := by decide +kernel
theorem dX11_workOut_68 : decode cX11_workOut 68 = .ok (.aload_n 0, 1) := by decide +kernel
theorem dX11_workOut_69 : decode cX11_workOut 69 = .ok (.invokevirtual 186, 3) := by decide +kernel
theorem dX11_workOut_72 : decode cX11_workOut 72 = .ok (.istore 6, 2) := by decide +kernel
theorem dX11_workOut_74 : decode cX11_workOut 74 = .ok (.aload_n 0, 1) := by decide +kernel
theorem dX11_workOut_75 : decode cX11_workOut 75 = .ok (.getfield 155, 3) := by decide +kernel
theorem dX11_workOut_78 : decode cX11_workOut 78 = .ok (.ifCond .ge 18, 3) := by decide +kernel
theorem dX11_workOut_81 : decode cX11_workOut 81 = .ok (.iload 7, 2) := by decide +kernel
theorem dX11_workOut_83 : decode cX11_workOut 83 = .ok (.ifCond .eq 13, 3) := by decide +kernel
theorem dX11_workOut_86 : decode cX11_workOut 86 = .ok (.iload_n 3, 1) := by decide +kernel
theorem dX11_workOut_87 : decode cX11_workOut 87 = .ok (.ifCond .ne 9, 3) := by decide +kernel
theorem dX11_workOut_90 : decode cX11_workOut 90 = .ok (.iconst 1, 1) := by decide +kernel
theorem dX11_workOut_91 : decode cX11_workOut 91 = .ok (.istore_n 3, 1) := by decide +kernel
theorem dX11_workOut_92 : decode cX11_workOut 92 = .ok (.iload 6, 2) := by decide +kernel
theorem dX11_workOut_94 : decode cX11_workOut 94 = .ok (.istore 4, 2) := by decide +kernel
theorem dX11_workOut_96 : decode cX11_workOut 96 = .ok (.aload_n 0, 1) := by decide +kernel
theorem dX11_workOut_97 : decode cX11_workOut 97 = .ok (.bipush 59, 2) := by decide +kernel
theorem dX11_workOut_99 : decode cX11_workOut 99 = .ok (.invokevirtual 165, 3) := by decide +kernel
theorem dX11_workOut_102 : decode cX11_workOut 102 = .ok (.istore 5, 2) := by decide +kernel
theorem dX11_workOut_104 : decode cX11_workOut 104 = .ok (.goto (-71), 3) := by decide +kernel
theorem dX11_workOut_107 : decode cX11_workOut 107 = .ok (.aload_n 0, 1) := by decide +kernel
theorem dX11_workOut_108 : decode cX11_workOut 108 = .ok (.getfield 155, 3) := by decide +kernel
theorem dX11_workOut_111 : decode cX11_workOut 111 = .ok (.ifCond .ge 19, 3) := by decide +kernel
theorem dX11_workOut_114 : decode cX11_workOut 114 = .ok (.aload_n 0, 1) := by decide +kernel
theorem dX11_workOut_115 : decode cX11_workOut 115 = .ok (.getfield 146, 3) := by decide +kernel
theorem dX11_workOut_118 : decode cX11_workOut 118 = .ok (.aload_n 0, 1) := by decide +kernel
theorem dX11_workOut_119 : decode cX11_workOut 119 = .ok (.getfield 149, 3) := by decide +kernel
theorem dX11_workOut_122 : decode cX11_workOut 122 = .ok (.if_icmp .ge 8, 3) := by decide +kernel
theorem dX11_workOut_125 : decode cX11_workOut 125 = .ok (.aload_n 0, 1) := by decide +kernel
theorem dX11_workOut_126 : decode cX11_workOut 126 = .ok (.invokevirtual 183, 3) := by decide +kernel
theorem dX11_workOut_129 : decode cX11_workOut 129 = .ok (.ireturn, 1) := by decide +kernel
theorem dX11_workOut_130 : decode cX11_workOut 130 = .ok (.iload 4, 2) := by decide +kernel
theorem dX11_workOut_132 : decode cX11_workOut 132 = .ok (.ireturn, 1) := by decide +kernel
theorem dX11_law_0 : decode cX11_law 0 = .ok (.aload_n 0, 1) := by decide +kernel
theorem dX11_law_1 : decode cX11_law 1 = .ok (.iload_n 1, 1) := by decide +kernel
theorem dX11_law_2 : decode cX11_law 2 = .ok (.invokevirtual 123, 3) := by decide +kernel
theorem dX11_law_5 : decode cX11_law 5 = .ok (.ifCond .ne 5, 3) := by decide +kernel
theorem dX11_law_8 : decode cX11_law 8 = .ok (.iconst (-1), 1) := by decide +kernel
theorem dX11_law_9 : decode cX11_law 9 = .ok (.ireturn, 1) := by decide +kernel
theorem dX11_law_10 : decode cX11_law 10 = .ok (.aload_n 0, 1) := by decide +kernel
theorem dX11_law_11 : decode cX11_law 11 = .ok (.iconst (-1), 1) := by decide +kernel
theorem dX11_law_12 : decode cX11_law 12 = .ok (.aload_n 0, 1) := by decide +kernel
theorem dX11_law_13 : decode cX11_law 13 = .ok (.getfield 143, 3) := by decide +kernel
theorem dX11_law_16 : decode cX11_law 16 = .ok (.invokevirtual 193, 3) := by decide +kernel
theorem dX11_law_19 : decode cX11_law 19 = .ok (.istore_n 2, 1) := by decide +kernel
theorem dX11_law_20 : decode cX11_law 20 = .ok (.aload_n 0, 1) := by decide +kernel
theorem dX11_law_21 : decode cX11_law 21 = .ok (.getfield 143, 3) := by decide +kernel
theorem dX11_law_24 : decode cX11_law 24 = .ok (.istore_n 3, 1) := by decide +kernel
theorem dX11_law_25 : decode cX11_law 25 = .ok (.aload_n 0, 1) := by decide +kernel
theorem dX11_law_26 : decode cX11_law 26 = .ok (.iconst 0, 1) := by decide +kernel
theorem dX11_law_27 : decode cX11_law 27 = .ok (.putfield 143, 3) := by decide +kernel
theorem dX11_law_30 : decode cX11_law 30 = .ok (.aload_n 0, 1) := by decide +kernel
theorem dX11_law_31 : decode cX11_law 31 = .ok (.getfield 155, 3) := by decide +kernel
theorem dX11_law_34 : decode cX11_law 34 = .ok (.ifCond .lt 11, 3) := by decide +kernel
theorem dX11_law_37 : decode cX11_law 37 = .ok (.bipush (-100), 2) := by decide +kernel
theorem dX11_law_39 : decode cX11_law 39 = .ok (.aload_n 0, 1) := by decide +kernel
theorem dX11_law_40 : decode cX11_law 40 = .ok (.getfield 155, 3) := by decide +kernel
theorem dX11_law_43 : decode cX11_law 43 = .ok (.isub, 1) := by decide +kernel
theorem dX11_law_44 : decode cX11_law 44 = .ok (.ireturn, 1) := by decide +kernel
theorem dX11_law_45 : decode cX11_law 45 = .ok (.iconst 0, 1) := by decide +kernel
theorem dX11_law_46 : decode cX11_law 46 = .ok (.istore 4, 2) := by decide +kernel
theorem dX11_law_48 : decode cX11_law 48 = .ok (.iload 4, 2) := by decide +kernel
theorem dX11_law_50 : decode cX11_law 50 = .ok (.iload_n 3, 1) := by decide +kernel
theorem dX11_law_51 : decode cX11_law 51 = .ok (.if_icmp .ge 28, 3) := by decide +kernel
theorem dX11_law_54 : decode cX11_law 54 = .ok (.aload_n 0, 1) := by decide +kernel
theorem dX11_law_55 : decode cX11_law 55 = .ok (.getfield 37, 3) := by decide +kernel
theorem dX11_law_58 : decode cX11_law 58 = .ok (.bipush 120, 2) := by decide +kernel
theorem dX11_law_60 : decode cX11_law 60 = .ok (.iload_n 1, 1) := by decide +kernel
theorem dX11_law_61 : decode cX11_law 61 = .ok (.imul, 1) := by decide +kernel
theorem dX11_law_62 : decode cX11_law 62 = .ok (.iload 4, 2) := by decide +kernel
theorem dX11_law_64 : decode cX11_law 64 = .ok (.iadd, 1) := by decide +kernel
theorem dX11_law_65 : decode cX11_law 65 = .ok (.aload_n 0, 1) := by decide +kernel
theorem dX11_law_66 : decode cX11_law 66 = .ok (.getfield 34, 3) := by decide +kernel
theorem dX11_law_69 : decode cX11_law 69 = .ok (.iload 4, 2) := by decide +kernel
theorem dX11_law_71 : decode cX11_law 71 = .ok (.iaload, 1) := by decide +kernel
theorem dX11_law_72 : decode cX11_law 72 = .ok (.iastore, 1) := by decide +kernel
theorem dX11_law_73 : decode cX11_law 73 = .ok (.iinc 4 1, 3) := by decide +kernel
theorem dX11_law_76 : decode cX11_law 76 = .ok (.goto (-28), 3) := by decide +kernel
theorem dX11_law_79 : decode cX11_law 79 = .ok (.aload_n 0, 1) := by decide +kernel
theorem dX11_law_80 : decode cX11_law 80 = .ok (.getfield 40, 3) := by decide +kernel
theorem dX11_law_83 : decode cX11_law 83 = .ok (.iload_n 1, 1) := by decide +kernel
theorem dX11_law_84 : decode cX11_law 84 = .ok (.iload_n 3, 1) := by decide +kernel
theorem dX11_law_85 : decode cX11_law 85 = .ok (.iastore, 1) := by decide +kernel
theorem dX11_law_86 : decode cX11_law 86 = .ok (.aload_n 0, 1) := by decide +kernel
theorem dX11_law_87 : decode cX11_law 87 = .ok (.invokevirtual 93, 3) := by decide +kernel
theorem dX11_law_90 : decode cX11_law 90 = .ok (.iconst 1, 1) := by decide +kernel
theorem dX11_law_91 : decode cX11_law 91 = .ok (.ireturn, 1) := by decide +kernel
theorem dX11_isDeed_0 : decode cX11_isDeed 0 = .ok (.iload_n 1, 1) := by decide +kernel
theorem dX11_isDeed_1 : decode cX11_isDeed 1 = .ok (.i2l, 1) := by decide +kernel
theorem dX11_isDeed_2 : decode cX11_isDeed 2 = .ok (.lconst 0, 1) := by decide +kernel
theorem dX11_isDeed_3 : decode cX11_isDeed 3 = .ok (.aload_n 0, 1) := by decide +kernel
theorem dX11_isDeed_4 : decode cX11_isDeed 4 = .ok (.getfield 196, 3) := by decide +kernel
theorem dX11_isDeed_7 : decode cX11_isDeed 7 = .ok (.iconst 1, 1) := by decide +kernel
theorem dX11_isDeed_8 : decode cX11_isDeed 8 = .ok (.isub, 1) := by decide +kernel
theorem dX11_isDeed_9 : decode cX11_isDeed 9 = .ok (.i2l, 1) := by decide +kernel
theorem dX11_isDeed_10 : decode cX11_isDeed 10 = .ok (.invokestatic 106, 3) := by decide +kernel
theorem dX11_isDeed_13 : decode cX11_isDeed 13 = .ok (.ireturn, 1) := by decide +kernel
theorem dX11_isOne_0 : decode cX11_isOne 0 = .ok (.lload_n 0, 1) := by decide +kernel
theorem dX11_isOne_1 : decode cX11_isOne 1 = .ok (.lconst 0, 1) := by decide +kernel
theorem dX11_isOne_2 : decode cX11_isOne 2 = .ok (.ldc2_w 199, 3) := by decide +kernel
theorem dX11_isOne_5 : decode cX11_isOne 5 = .ok (.invokestatic 106, 3) := by decide +kernel
theorem dX11_isOne_8 : decode cX11_isOne 8 = .ok (.ifCond .eq 42, 3) := by decide +kernel
theorem dX11_isOne_11 : decode cX11_isOne 11 = .ok (.lload_n 2, 1) := by decide +kernel
theorem dX11_isOne_12 : decode cX11_isOne 12 = .ok (.lconst 1, 1) := by decide +kernel
theorem dX11_isOne_13 : decode cX11_isOne 13 = .ok (.ldc2_w 201, 3) := by decide +kernel
theorem dX11_isOne_16 : decode cX11_isOne 16 = .ok (.invokestatic 106, 3) := by decide +kernel
theorem dX11_isOne_19 : decode cX11_isOne 19 = .ok (.ifCond .eq 31, 3) := by decide +kernel
theorem dX11_isOne_22 : decode cX11_isOne 22 = .ok (.lload 4, 2) := by decide +kernel
theorem dX11_isOne_24 : decode cX11_isOne 24 = .ok (.lconst 0, 1) := by decide +kernel
theorem dX11_isOne_25 : decode cX11_isOne 25 = .ok (.ldc2_w 199, 3) := by decide +kernel
theorem dX11_isOne_28 : decode cX11_isOne 28 = .ok (.invokestatic 106, 3) := by decide +kernel
theorem dX11_isOne_31 : decode cX11_isOne 31 = .ok (.ifCond .eq 19, 3) := by decide +kernel
theorem dX11_isOne_34 : decode cX11_isOne 34 = .ok (.lload 6, 2) := by decide +kernel
theorem dX11_isOne_36 : decode cX11_isOne 36 = .ok (.lconst 0, 1) := by decide +kernel
theorem dX11_isOne_37 : decode cX11_isOne 37 = .ok (.ldc2_w 203, 3) := by decide +kernel
theorem dX11_isOne_40 : decode cX11_isOne 40 = .ok (.invokestatic 106, 3) := by decide +kernel
theorem dX11_isOne_43 : decode cX11_isOne 43 = .ok (.ifCond .eq 7, 3) := by decide +kernel
theorem dX11_isOne_46 : decode cX11_isOne 46 = .ok (.iconst 1, 1) := by decide +kernel
theorem dX11_isOne_47 : decode cX11_isOne 47 = .ok (.goto 4, 3) := by decide +kernel
theorem dX11_isOne_50 : decode cX11_isOne 50 = .ok (.iconst 0, 1) := by decide +kernel
theorem dX11_isOne_51 : decode cX11_isOne 51 = .ok (.ireturn, 1) := by decide +kernel
theorem dX11_adds_0 : decode cX11_adds 0 = .ok (.aload_n 0, 1) := by decide +kernel
theorem dX11_adds_1 : decode cX11_adds 1 = .ok (.getfield 46, 3) := by decide +kernel
theorem dX11_adds_4 : decode cX11_adds 4 = .ok (.aload_n 0, 1) := by decide +kernel
theorem dX11_adds_5 : decode cX11_adds 5 = .ok (.getfield 196, 3) := by decide +kernel
theorem dX11_adds_8 : decode cX11_adds 8 = .ok (.iload_n 1, 1) := by decide +kernel
theorem dX11_adds_9 : decode cX11_adds 9 = .ok (.iastore, 1) := by decide +kernel
theorem dX11_adds_10 : decode cX11_adds 10 = .ok (.aload_n 0, 1) := by decide +kernel
theorem dX11_adds_11 : decode cX11_adds 11 = .ok (.getfield 9, 3) := by decide +kernel
theorem dX11_adds_14 : decode cX11_adds 14 = .ok (.bipush 6, 2) := by decide +kernel
theorem dX11_adds_16 : decode cX11_adds 16 = .ok (.aload_n 0, 1) := by decide +kernel
theorem dX11_adds_17 : decode cX11_adds 17 = .ok (.getfield 196, 3) := by decide +kernel
theorem dX11_adds_20 : decode cX11_adds 20 = .ok (.iadd, 1) := by decide +kernel
theorem dX11_adds_21 : decode cX11_adds 21 = .ok (.iload_n 2, 1) := by decide +kernel
theorem dX11_adds_22 : decode cX11_adds 22 = .ok (.iastore, 1) := by decide +kernel
theorem dX11_adds_23 : decode cX11_adds 23 = .ok (.aload_n 0, 1) := by decide +kernel
theorem dX11_adds_24 : decode cX11_adds 24 = .ok (.getfield 49, 3) := by decide +kernel
theorem dX11_adds_27 : decode cX11_adds 27 = .ok (.aload_n 0, 1) := by decide +kernel
theorem dX11_adds_28 : decode cX11_adds 28 = .ok (.getfield 196, 3) := by decide +kernel
theorem dX11_adds_31 : decode cX11_adds 31 = .ok (.iload_n 3, 1) := by decide +kernel
theorem dX11_adds_32 : decode cX11_adds 32 = .ok (.iastore, 1) := by decide +kernel
theorem dX11_adds_33 : decode cX11_adds 33 = .ok (.aload_n 0, 1) := by decide +kernel
theorem dX11_adds_34 : decode cX11_adds 34 = .ok (.getfield 9, 3) := by decide +kernel
theorem dX11_adds_37 : decode cX11_adds 37 = .ok (.bipush 18, 2) := by decide +kernel
theorem dX11_adds_39 : decode cX11_adds 39 = .ok (.aload_n 0, 1) := by decide +kernel
theorem dX11_adds_40 : decode cX11_adds 40 = .ok (.getfield 196, 3) := by decide +kernel
theorem dX11_adds_43 : decode cX11_adds 43 = .ok (.iadd, 1) := by decide +kernel
theorem dX11_adds_44 : decode cX11_adds 44 = .ok (.iload 4, 2) := by decide +kernel
theorem dX11_adds_46 : decode cX11_adds 46 = .ok (.iastore, 1) := by decide +kernel
theorem dX11_adds_47 : decode cX11_adds 47 = .ok (.aload_n 0, 1) := by decide +kernel
theorem dX11_adds_48 : decode cX11_adds 48 = .ok (.dup, 1) := by decide +kernel
theorem dX11_adds_49 : decode cX11_adds 49 = .ok (.getfield 196, 3) := by decide +kernel
theorem dX11_adds_52 : decode cX11_adds 52 = .ok (.iconst 1, 1) := by decide +kernel
theorem dX11_adds_53 : decode cX11_adds 53 = .ok (.iadd, 1) := by decide +kernel
theorem dX11_adds_54 : decode cX11_adds 54 = .ok (.putfield 196, 3) := by decide +kernel
theorem dX11_adds_57 : decode cX11_adds 57 = .ok (.return_, 1) := by decide +kernel
theorem dX11_deed_0 : decode cX11_deed 0 = .ok (.iload_n 1, 1) := by decide +kernel
theorem dX11_deed_1 : decode cX11_deed 1 = .ok (.ifCond .lt 33, 3) := by decide +kernel
theorem dX11_deed_4 : decode cX11_deed 4 = .ok (.iload_n 2, 1) := by decide +kernel
theorem dX11_deed_5 : decode cX11_deed 5 = .ok (.ifCond .lt 29, 3) := by decide +kernel
theorem dX11_deed_8 : decode cX11_deed 8 = .ok (.iload_n 1, 1) := by decide +kernel
theorem dX11_deed_9 : decode cX11_deed 9 = .ok (.bipush 100, 2) := by decide +kernel
theorem dX11_deed_11 : decode cX11_deed 11 = .ok (.idiv, 1) := by decide +kernel
theorem dX11_deed_12 : decode cX11_deed 12 = .ok (.i2l, 1) := by decide +kernel
theorem dX11_deed_13 : decode cX11_deed 13 = .ok (.iload_n 1, 1) := by decide +kernel
theorem dX11_deed_14 : decode cX11_deed 14 = .ok (.bipush 100, 2) := by decide +kernel
theorem dX11_deed_16 : decode cX11_deed 16 = .ok (.irem, 1) := by decide +kernel
theorem dX11_deed_17 : decode cX11_deed 17 = .ok (.i2l, 1) := by decide +kernel
theorem dX11_deed_18 : decode cX11_deed 18 = .ok (.iload_n 2, 1) := by decide +kernel
theorem dX11_deed_19 : decode cX11_deed 19 = .ok (.bipush 10, 2) := by decide +kernel
theorem dX11_deed_21 : decode cX11_deed 21 = .ok (.idiv, 1) := by decide +kernel
theorem dX11_deed_22 : decode cX11_deed 22 = .ok (.i2l, 1) := by decide +kernel
theorem dX11_deed_23 : decode cX11_deed 23 = .ok (.iload_n 2, 1) := by decide +kernel
theorem dX11_deed_24 : decode cX11_deed 24 = .ok (.bipush 10, 2) := by decide +kernel
theorem dX11_deed_26 : decode cX11_deed 26 = .ok (.irem, 1) := by decide +kernel
theorem dX11_deed_27 : decode cX11_deed 27 = .ok (.i2l, 1) := by decide +kernel
theorem dX11_deed_28 : decode cX11_deed 28 = .ok (.invokestatic 205, 3) := by decide +kernel
theorem dX11_deed_31 : decode cX11_deed 31 = .ok (.ifCond .ne 5, 3) := by decide +kernel
theorem dX11_deed_34 : decode cX11_deed 34 = .ok (.iconst (-1), 1) := by decide +kernel
theorem dX11_deed_35 : decode cX11_deed 35 = .ok (.ireturn, 1) := by decide +kernel
theorem dX11_deed_36 : decode cX11_deed 36 = .ok (.aload_n 0, 1) := by decide +kernel
theorem dX11_deed_37 : decode cX11_deed 37 = .ok (.getfield 196, 3) := by decide +kernel
theorem dX11_deed_40 : decode cX11_deed 40 = .ok (.bipush 12, 2) := by decide +kernel
theorem dX11_deed_42 : decode cX11_deed 42 = .ok (.if_icmp .ne 6, 3) := by decide +kernel
theorem dX11_deed_45 : decode cX11_deed 45 = .ok (.bipush (-3), 2) := by decide +kernel
theorem dX11_deed_47 : decode cX11_deed 47 = .ok (.ireturn, 1) := by decide +kernel
theorem dX11_deed_48 : decode cX11_deed 48 = .ok (.aload_n 0, 1) := by decide +kernel
theorem dX11_deed_49 : decode cX11_deed 49 = .ok (.iload_n 1, 1) := by decide +kernel
theorem dX11_deed_50 : decode cX11_deed 50 = .ok (.bipush 100, 2) := by decide +kernel
theorem dX11_deed_52 : decode cX11_deed 52 = .ok (.idiv, 1) := by decide +kernel
theorem dX11_deed_53 : decode cX11_deed 53 = .ok (.iload_n 1, 1) := by decide +kernel
theorem dX11_deed_54 : decode cX11_deed 54 = .ok (.bipush 100, 2) := by decide +kernel
theorem dX11_deed_56 : decode cX11_deed 56 = .ok (.irem, 1) := by decide +kernel
theorem dX11_deed_57 : decode cX11_deed 57 = .ok (.iload_n 2, 1) := by decide +kernel
theorem dX11_deed_58 : decode cX11_deed 58 = .ok (.bipush 10, 2) := by decide +kernel
theorem dX11_deed_60 : decode cX11_deed 60 = .ok (.idiv, 1) := by decide +kernel
theorem dX11_deed_61 : decode cX11_deed 61 = .ok (.iload_n 2, 1) := by decide +kernel
theorem dX11_deed_62 : decode cX11_deed 62 = .ok (.bipush 10, 2) := by decide +kernel
theorem dX11_deed_64 : decode cX11_deed 64 = .ok (.irem, 1) := by decide +kernel
theorem dX11_deed_65 : decode cX11_deed 65 = .ok (.invokevirtual 209, 3) := by decide +kernel
theorem dX11_deed_68 : decode cX11_deed 68 = .ok (.aload_n 0, 1) := by decide +kernel
theorem dX11_deed_69 : decode cX11_deed 69 = .ok (.getfield 196, 3) := by decide +kernel
theorem dX11_deed_72 : decode cX11_deed 72 = .ok (.iconst 1, 1) := by decide +kernel
theorem dX11_deed_73 : decode cX11_deed 73 = .ok (.isub, 1) := by decide +kernel
theorem dX11_deed_74 : decode cX11_deed 74 = .ok (.ireturn, 1) := by decide +kernel
theorem dX11_deeds_0 : decode cX11_deeds 0 = .ok (.iload_n 1, 1) := by decide +kernel
theorem dX11_deeds_1 : decode cX11_deeds 1 = .ok (.invokestatic 213, 3) := by decide +kernel
theorem dX11_deeds_4 : decode cX11_deeds 4 = .ok (.ifCond .eq 15, 3) := by decide +kernel
theorem dX11_deeds_7 : decode cX11_deeds 7 = .ok (.iload_n 3, 1) := by decide +kernel
theorem dX11_deeds_8 : decode cX11_deeds 8 = .ok (.i2l, 1) := by decide +kernel
theorem dX11_deeds_9 : decode cX11_deeds 9 = .ok (.lconst 1, 1) := by decide +kernel
theorem dX11_deeds_10 : decode cX11_deeds 10 = .ok (.ldc2_w 216, 3) := by decide +kernel
theorem dX11_deeds_13 : decode cX11_deeds 13 = .ok (.invokestatic 106, 3) := by decide +kernel
theorem dX11_deeds_16 : decode cX11_deeds 16 = .ok (.ifCond .ne 5, 3) := by decide +kernel
theorem dX11_deeds_19 : decode cX11_deeds 19 = .ok (.iconst (-1), 1) := by decide +kernel
theorem dX11_deeds_20 : decode cX11_deeds 20 = .ok (.ireturn, 1) := by decide +kernel
theorem dX11_deeds_21 : decode cX11_deeds 21 = .ok (.aload_n 0, 1) := by decide +kernel
theorem dX11_deeds_22 : decode cX11_deeds 22 = .ok (.getfield 80, 3) := by decide +kernel
theorem dX11_deeds_25 : decode cX11_deeds 25 = .ok (.iload_n 1, 1) := by decide +kernel
theorem dX11_deeds_26 : decode cX11_deeds 26 = .ok (.iaload, 1) := by decide +kernel
theorem dX11_deeds_27 : decode cX11_deeds 27 = .ok (.ifCond .lt 17, 3) := by decide +kernel
theorem dX11_deeds_30 : decode cX11_deeds 30 = .ok (.aload_n 0, 1) := by decide +kernel
theorem dX11_deeds_31 : decode cX11_deeds 31 = .ok (.getfield 80, 3) := by decide +kernel
theorem dX11_deeds_34 : decode cX11_deeds 34 = .ok (.iload_n 1, 1) := by decide +kernel
theorem dX11_deeds_35 : decode cX11_deeds 35 = .ok (.iaload, 1) := by decide +kernel
theorem dX11_deeds_36 : decode cX11_deeds 36 = .ok (.bipush 50, 2) := by decide +kernel
theorem dX11_deeds_38 : decode cX11_deeds 38 = .ok (.if_icmp .eq 6, 3) := by decide +kernel
theorem dX11_deeds_41 : decode cX11_deeds 41 = .ok (.bipush (-12), 2) := by decide +kernel
theorem dX11_deeds_43 : decode cX11_deeds 43 = .ok (.ireturn, 1) := by decide +kernel
theorem dX11_deeds_44 : decode cX11_deeds 44 = .ok (.iconst 0, 1) := by decide +kernel
theorem dX11_deeds_45 : decode cX11_deeds 45 = .ok (.istore 4, 2) := by decide +kernel
theorem dX11_deeds_47 : decode cX11_deeds 47 = .ok (.aload_n 0, 1) := by decide +kernel
theorem dX11_deeds_48 : decode cX11_deeds 48 = .ok (.getfield 80, 3) := by decide +kernel
theorem dX11_deeds_51 : decode cX11_deeds 51 = .ok (.iload_n 1, 1) := by decide +kernel
theorem dX11_deeds_52 : decode cX11_deeds 52 = .ok (.iaload, 1) := by decide +kernel
theorem dX11_deeds_53 : decode cX11_deeds 53 = .ok (.bipush 50, 2) := by decide +kernel
theorem dX11_deeds_55 : decode cX11_deeds 55 = .ok (.if_icmp .ne 11, 3) := by decide +kernel
theorem dX11_deeds_58 : decode cX11_deeds 58 = .ok (.iload_n 2, 1) := by decide +kernel
theorem dX11_deeds_59 : decode cX11_deeds 59 = .ok (.ifCond .lt 7, 3) := by decide +kernel
theorem dX11_deeds_62 : decode cX11_deeds 62 = .ok (.iconst 1, 1) := by decide +kernel
theorem dX11_deeds_63 : decode cX11_deeds 63 = .ok (.goto 4, 3) := by decide +kernel
theorem dX11_deeds_66 : decode cX11_deeds 66 = .ok (.iconst 0, 1) := by decide +kernel
theorem dX11_deeds_67 : decode cX11_deeds 67 = .ok (.istore 5, 2) := by decide +kernel
theorem dX11_deeds_69 : decode cX11_deeds 69 = .ok (.iload 5, 2) := by decide +kernel
theorem dX11_deeds_71 : decode cX11_deeds 71 = .ok (.ifCond .eq 160, 3) := by decide +kernel
theorem dX11_deeds_74 : decode cX11_deeds 74 = .ok (.iload 4, 2) := by decide +kernel
theorem dX11_deeds_76 : decode cX11_deeds 76 = .ok (.iload_n 3, 1) := by decide +kernel
theorem dX11_deeds_77 : decode cX11_deeds 77 = .ok (.if_icmp .ge 154, 3) := by decide +kernel
theorem dX11_deeds_80 : decode cX11_deeds 80 = .ok (.iload_n 2, 1) := by decide +kernel
theorem dX11_deeds_81 : decode cX11_deeds 81 = .ok (.aload_n 0, 1) := by decide +kernel
theorem dX11_deeds_82 : decode cX11_deeds 82 = .ok (.getfield 83, 3) := by decide +kernel
theorem dX11_deeds_85 : decode cX11_deeds 85 = .ok (.iload_n 1, 1) := by decide +kernel
theorem dX11_deeds_86 : decode cX11_deeds 86 = .ok (.iaload, 1) := by decide +kernel
theorem dX11_deeds_87 : decode cX11_deeds 87 = .ok (.iconst 4, 1) := by decide +kernel
theorem dX11_deeds_88 : decode cX11_deeds 88 = .ok (.isub, 1) := by decide +kernel
theorem dX11_deeds_89 : decode cX11_deeds 89 = .ok (.iconst 4, 1) := by decide +kernel
theorem dX11_deeds_90 : decode cX11_deeds 90 = .ok (.iload 4, 2) := by decide +kernel
theorem dX11_deeds_92 : decode cX11_deeds 92 = .ok (.imul, 1) := by decide +kernel
theorem dX11_deeds_93 : decode cX11_deeds 93 = .ok (.isub, 1) := by decide +kernel
theorem dX11_deeds_94 : decode cX11_deeds 94 = .ok (.if_icmp .gt 16, 3) := by decide +kernel
theorem dX11_deeds_97 : decode cX11_deeds 97 = .ok (.aload_n 0, 1) := by decide +kernel
theorem dX11_deeds_98 : decode cX11_deeds 98 = .ok (.getfield 196, 3) := by decide +kernel
theorem dX11_deeds_101 : decode cX11_deeds 101 = .ok (.bipush 12, 2) := by decide +kernel
theorem dX11_deeds_103 : decode cX11_deeds 103 = .ok (.if_icmp .ge 7, 3) := by decide +kernel
theorem dX11_deeds_106 : decode cX11_deeds 106 = .ok (.iconst 1, 1) := by decide +kernel
theorem dX11_deeds_107 : decode cX11_deeds 107 = .ok (.goto 4, 3) := by decide +kernel
theorem dX11_deeds_110 : decode cX11_deeds 110 = .ok (.iconst 0, 1) := by decide +kernel
theorem dX11_deeds_111 : decode cX11_deeds 111 = .ok (.istore 5, 2) := by decide +kernel
theorem dX11_deeds_113 : decode cX11_deeds 113 = .ok (.bipush 60, 2) := by decide +kernel
theorem dX11_deeds_115 : decode cX11_deeds 115 = .ok (.iload_n 1, 1) := by decide +kernel
theorem dX11_deeds_116 : decode cX11_deeds 116 = .ok (.imul, 1) := by decide +kernel
theorem dX11_deeds_117 : decode cX11_deeds 117 = .ok (.iload_n 2, 1) := by decide +kernel
theorem dX11_deeds_118 : decode cX11_deeds 118 = .ok (.iadd, 1) := by decide +kernel
theorem dX11_deeds_119 : decode cX11_deeds 119 = .ok (.iconst 4, 1) := by decide +kernel
theorem dX11_deeds_120 : decode cX11_deeds 120 = .ok (.iload 4, 2) := by decide +kernel
theorem dX11_deeds_122 : decode cX11_deeds 122 = .ok (.imul, 1) := by decide +kernel
theorem dX11_deeds_123 : decode cX11_deeds 123 = .ok (.iadd, 1) := by decide +kernel
theorem dX11_deeds_124 : decode cX11_deeds 124 = .ok (.istore 6, 2) := by decide +kernel
theorem dX11_deeds_126 : decode cX11_deeds 126 = .ok (.iload 5, 2) := by decide +kernel
theorem dX11_deeds_128 : decode cX11_deeds 128 = .ok (.ifCond .eq 47, 3) := by decide +kernel
theorem dX11_deeds_131 : decode cX11_deeds 131 = .ok (.aload_n 0, 1) := by decide +kernel
theorem dX11_deeds_132 : decode cX11_deeds 132 = .ok (.getfield 86, 3) := by decide +kernel
theorem dX11_deeds_135 : decode cX11_deeds 135 = .ok (.iload 6, 2) := by decide +kernel
theorem dX11_deeds_137 : decode cX11_deeds 137 = .ok (.laload, 1) := by decide +kernel
theorem dX11_deeds_138 : decode cX11_deeds 138 = .ok (.aload_n 0, 1) := by decide +kernel
theorem dX11_deeds_139 : decode cX11_deeds 139 = .ok (.getfield 86, 3) := by decide +kernel
theorem dX11_deeds_142 : decode cX11_deeds 142 = .ok (.iload 6, 2) := by decide +kernel
theorem dX11_deeds_144 : decode cX11_deeds 144 = .ok (.iconst 1, 1) := by decide +kernel
theorem dX11_deeds_145 : decode cX11_deeds 145 = .ok (.iadd, 1) := by decide +kernel
theorem dX11_deeds_146 : decode cX11_deeds 146 = .ok (.laload, 1) := by decide +kernel
theorem dX11_deeds_147 : decode cX11_deeds 147 = .ok (.aload_n 0, 1) := by decide +kernel
theorem dX11_deeds_148 : decode cX11_deeds 148 = .ok (.getfield 86, 3) := by decide +kernel
theorem dX11_deeds_151 : decode cX11_deeds 151 = .ok (.iload 6, 2) := by decide +kernel
theorem dX11_deeds_153 : decode cX11_deeds 153 = .ok (.iconst 2, 1) := by decide +kernel
theorem dX11_deeds_154 : decode cX11_deeds 154 = .ok (.iadd, 1) := by decide +kernel
theorem dX11_deeds_155 : decode cX11_deeds 155 = .ok (.laload, 1) := by decide +kernel
theorem dX11_deeds_156 : decode cX11_deeds 156 = .ok (.aload_n 0, 1) := by decide +kernel
theorem dX11_deeds_157 : decode cX11_deeds 157 = .ok (.getfield 86, 3) := by decide +kernel
theorem dX11_deeds_160 : decode cX11_deeds 160 = .ok (.iload 6, 2) := by decide +kernel
theorem dX11_deeds_162 : decode cX11_deeds 162 = .ok (.iconst 3, 1) := by decide +kernel
theorem dX11_deeds_163 : decode cX11_deeds 163 = .ok (.iadd, 1) := by decide +kernel
theorem dX11_deeds_164 : decode cX11_deeds 164 = .ok (.laload, 1) := by decide +kernel
theorem dX11_deeds_165 : decode cX11_deeds 165 = .ok (.invokestatic 205, 3) := by decide +kernel
theorem dX11_deeds_168 : decode cX11_deeds 168 = .ok (.ifCond .eq 7, 3) := by decide +kernel
theorem dX11_deeds_171 : decode cX11_deeds 171 = .ok (.iconst 1, 1) := by decide +kernel
theorem dX11_deeds_172 : decode cX11_deeds 172 = .ok (.goto 4, 3) := by decide +kernel
theorem dX11_deeds_175 : decode cX11_deeds 175 = .ok (.iconst 0, 1) := by decide +kernel
theorem dX11_deeds_176 : decode cX11_deeds 176 = .ok (.istore 5, 2) := by decide +kernel
theorem dX11_deeds_178 : decode cX11_deeds 178 = .ok (.iload 5, 2) := by decide +kernel
theorem dX11_deeds_180 : decode cX11_deeds 180 = .ok (.ifCond .eq 48, 3) := by decide +kernel
theorem dX11_deeds_183 : decode cX11_deeds 183 = .ok (.aload_n 0, 1) := by decide +kernel
theorem dX11_deeds_184 : decode cX11_deeds 184 = .ok (.aload_n 0, 1) := by decide +kernel
theorem dX11_deeds_185 : decode cX11_deeds 185 = .ok (.getfield 86, 3) := by decide +kernel
theorem dX11_deeds_188 : decode cX11_deeds 188 = .ok (.iload 6, 2) := by decide +kernel
theorem dX11_deeds_190 : decode cX11_deeds 190 = .ok (.laload, 1) := by decide +kernel
theorem dX11_deeds_191 : decode cX11_deeds 191 = .ok (.l2i, 1) := by decide +kernel
theorem dX11_deeds_192 : decode cX11_deeds 192 = .ok (.aload_n 0, 1) := by decide +kernel
theorem dX11_deeds_193 : decode cX11_deeds 193 = .ok (.getfield 86, 3) := by decide +kernel
theorem dX11_deeds_196 : decode cX11_deeds 196 = .ok (.iload 6, 2) := by decide +kernel
theorem dX11_deeds_198 : decode cX11_deeds 198 = .ok (.iconst 1, 1) := by decide +kernel
theorem dX11_deeds_199 : decode cX11_deeds 199 = .ok (.iadd, 1) := by decide +kernel
theorem dX11_deeds_200 : decode cX11_deeds 200 = .ok (.laload, 1) := by decide +kernel
theorem dX11_deeds_201 : decode cX11_deeds 201 = .ok (.l2i, 1) := by decide +kernel
theorem dX11_deeds_202 : decode cX11_deeds 202 = .ok (.aload_n 0, 1) := by decide +kernel
theorem dX11_deeds_203 : decode cX11_deeds 203 = .ok (.getfield 86, 3) := by decide +kernel
theorem dX11_deeds_206 : decode cX11_deeds 206 = .ok (.iload 6, 2) := by decide +kernel
theorem dX11_deeds_208 : decode cX11_deeds 208 = .ok (.iconst 2, 1) := by decide +kernel
theorem dX11_deeds_209 : decode cX11_deeds 209 = .ok (.iadd, 1) := by decide +kernel
theorem dX11_deeds_210 : decode cX11_deeds 210 = .ok (.laload, 1) := by decide +kernel
theorem dX11_deeds_211 : decode cX11_deeds 211 = .ok (.l2i, 1) := by decide +kernel
theorem dX11_deeds_212 : decode cX11_deeds 212 = .ok (.aload_n 0, 1) := by decide +kernel
theorem dX11_deeds_213 : decode cX11_deeds 213 = .ok (.getfield 86, 3) := by decide +kernel
theorem dX11_deeds_216 : decode cX11_deeds 216 = .ok (.iload 6, 2) := by decide +kernel
theorem dX11_deeds_218 : decode cX11_deeds 218 = .ok (.iconst 3, 1) := by decide +kernel
theorem dX11_deeds_219 : decode cX11_deeds 219 = .ok (.iadd, 1) := by decide +kernel
theorem dX11_deeds_220 : decode cX11_deeds 220 = .ok (.laload, 1) := by decide +kernel
theorem dX11_deeds_221 : decode cX11_deeds 221 = .ok (.l2i, 1) := by decide +kernel
theorem dX11_deeds_222 : decode cX11_deeds 222 = .ok (.invokevirtual 209, 3) := by decide +kernel
theorem dX11_deeds_225 : decode cX11_deeds 225 = .ok (.iinc 4 1, 3) := by decide +kernel
theorem dX11_deeds_228 : decode cX11_deeds 228 = .ok (.goto (-159), 3) := by decide +kernel
theorem dX11_deeds_231 : decode cX11_deeds 231 = .ok (.iload 4, 2) := by decide +kernel
theorem dX11_deeds_233 : decode cX11_deeds 233 = .ok (.ireturn, 1) := by decide +kernel
theorem dX11_of_0 : decode cX11_of 0 = .ok (.aload_n 0, 1) := by decide +kernel
theorem dX11_of_1 : decode cX11_of 1 = .ok (.iload_n 1, 1) := by decide +kernel
theorem dX11_of_2 : decode cX11_of 2 = .ok (.invokevirtual 218, 3) := by decide +kernel
theorem dX11_of_5 : decode cX11_of 5 = .ok (.ifCond .ne 5, 3) := by decide +kernel
theorem dX11_of_8 : decode cX11_of 8 = .ok (.iconst (-1), 1) := by decide +kernel
theorem dX11_of_9 : decode cX11_of 9 = .ok (.ireturn, 1) := by decide +kernel
theorem dX11_of_10 : decode cX11_of 10 = .ok (.iload_n 2, 1) := by decide +kernel
theorem dX11_of_11 : decode cX11_of 11 = .ok (.tableswitch 63 0 3 #[29, 36, 46, 53], 29) := by decide +kernel
theorem dX11_of_40 : decode cX11_of 40 = .ok (.aload_n 0, 1) := by decide +kernel
theorem dX11_of_41 : decode cX11_of 41 = .ok (.getfield 46, 3) := by decide +kernel
theorem dX11_of_44 : decode cX11_of 44 = .ok (.iload_n 1, 1) := by decide +kernel
theorem dX11_of_45 : decode cX11_of 45 = .ok (.iaload, 1) := by decide +kernel
theorem dX11_of_46 : decode cX11_of 46 = .ok (.ireturn, 1) := by decide +kernel
theorem dX11_of_47 : decode cX11_of 47 = .ok (.aload_n 0, 1) := by decide +kernel
theorem dX11_of_48 : decode cX11_of 48 = .ok (.getfield 9, 3) := by decide +kernel
theorem dX11_of_51 : decode cX11_of 51 = .ok (.bipush 6, 2) := by decide +kernel
theorem dX11_of_53 : decode cX11_of 53 = .ok (.iload_n 1, 1) := by decide +kernel
theorem dX11_of_54 : decode cX11_of 54 = .ok (.iadd, 1) := by decide +kernel
theorem dX11_of_55 : decode cX11_of 55 = .ok (.iaload, 1) := by decide +kernel
theorem dX11_of_56 : decode cX11_of 56 = .ok (.ireturn, 1) := by decide +kernel
theorem dX11_of_57 : decode cX11_of 57 = .ok (.aload_n 0, 1) := by decide +kernel
theorem dX11_of_58 : decode cX11_of 58 = .ok (.getfield 49, 3) := by decide +kernel
theorem dX11_of_61 : decode cX11_of 61 = .ok (.iload_n 1, 1) := by decide +kernel
theorem dX11_of_62 : decode cX11_of 62 = .ok (.iaload, 1) := by decide +kernel
theorem dX11_of_63 : decode cX11_of 63 = .ok (.ireturn, 1) := by decide +kernel
theorem dX11_of_64 : decode cX11_of 64 = .ok (.aload_n 0, 1) := by decide +kernel
theorem dX11_of_65 : decode cX11_of 65 = .ok (.getfield 9, 3) := by decide +kernel
theorem dX11_of_68 : decode cX11_of 68 = .ok (.bipush 18, 2) := by decide +kernel
theorem dX11_of_70 : decode cX11_of 70 = .ok (.iload_n 1, 1) := by decide +kernel
theorem dX11_of_71 : decode cX11_of 71 = .ok (.iadd, 1) := by decide +kernel
theorem dX11_of_72 : decode cX11_of 72 = .ok (.iaload, 1) := by decide +kernel
theorem dX11_of_73 : decode cX11_of 73 = .ok (.ireturn, 1) := by decide +kernel
theorem dX11_of_74 : decode cX11_of 74 = .ok (.iconst (-1), 1) := by decide +kernel
theorem dX11_of_75 : decode cX11_of 75 = .ok (.ireturn, 1) := by decide +kernel
theorem dX11_mend_0 : decode cX11_mend 0 = .ok (.iload_n 2, 1) := by decide +kernel
theorem dX11_mend_1 : decode cX11_mend 1 = .ok (.tableswitch 173 0 3 #[31, 66, 105, 139], 31) := by decide +kernel
theorem dX11_mend_32 : decode cX11_mend 32 = .ok (.aload_n 0, 1) := by decide +kernel
theorem dX11_mend_33 : decode cX11_mend 33 = .ok (.iload_n 1, 1) := by decide +kernel
theorem dX11_mend_34 : decode cX11_mend 34 = .ok (.invokevirtual 123, 3) := by decide +kernel
theorem dX11_mend_37 : decode cX11_mend 37 = .ok (.ifCond .eq 28, 3) := by decide +kernel
theorem dX11_mend_40 : decode cX11_mend 40 = .ok (.iload_n 3, 1) := by decide +kernel
theorem dX11_mend_41 : decode cX11_mend 41 = .ok (.i2l, 1) := by decide +kernel
theorem dX11_mend_42 : decode cX11_mend 42 = .ok (.lconst 0, 1) := by decide +kernel
theorem dX11_mend_43 : decode cX11_mend 43 = .ok (.aload_n 0, 1) := by decide +kernel
theorem dX11_mend_44 : decode cX11_mend 44 = .ok (.getfield 22, 3) := by decide +kernel
theorem dX11_mend_47 : decode cX11_mend 47 = .ok (.iload_n 1, 1) := by decide +kernel
theorem dX11_mend_48 : decode cX11_mend 48 = .ok (.iaload, 1) := by decide +kernel
theorem dX11_mend_49 : decode cX11_mend 49 = .ok (.i2l, 1) := by decide +kernel
theorem dX11_mend_50 : decode cX11_mend 50 = .ok (.invokestatic 106, 3) := by decide +kernel
theorem dX11_mend_53 : decode cX11_mend 53 = .ok (.ifCond .eq 12, 3) := by decide +kernel
theorem dX11_mend_56 : decode cX11_mend 56 = .ok (.aload_n 0, 1) := by decide +kernel
theorem dX11_mend_57 : decode cX11_mend 57 = .ok (.iload_n 1, 1) := by decide +kernel
theorem dX11_mend_58 : decode cX11_mend 58 = .ok (.iload_n 3, 1) := by decide +kernel
theorem dX11_mend_59 : decode cX11_mend 59 = .ok (.invokevirtual 221, 3) := by decide +kernel
theorem dX11_mend_62 : decode cX11_mend 62 = .ok (.goto 4, 3) := by decide +kernel
theorem dX11_mend_65 : decode cX11_mend 65 = .ok (.iconst (-1), 1) := by decide +kernel
theorem dX11_mend_66 : decode cX11_mend 66 = .ok (.ireturn, 1) := by decide +kernel
theorem dX11_mend_67 : decode cX11_mend 67 = .ok (.aload_n 0, 1) := by decide +kernel
theorem dX11_mend_68 : decode cX11_mend 68 = .ok (.iload_n 1, 1) := by decide +kernel
theorem dX11_mend_69 : decode cX11_mend 69 = .ok (.invokevirtual 123, 3) := by decide +kernel
theorem dX11_mend_72 : decode cX11_mend 72 = .ok (.ifCond .eq 32, 3) := by decide +kernel
theorem dX11_mend_75 : decode cX11_mend 75 = .ok (.iload_n 3, 1) := by decide +kernel
theorem dX11_mend_76 : decode cX11_mend 76 = .ok (.i2l, 1) := by decide +kernel
theorem dX11_mend_77 : decode cX11_mend 77 = .ok (.lconst 0, 1) := by decide +kernel
theorem dX11_mend_78 : decode cX11_mend 78 = .ok (.aload_n 0, 1) := by decide +kernel
theorem dX11_mend_79 : decode cX11_mend 79 = .ok (.getfield 22, 3) := by decide +kernel
theorem dX11_mend_82 : decode cX11_mend 82 = .ok (.iload_n 1, 1) := by decide +kernel
theorem dX11_mend_83 : decode cX11_mend 83 = .ok (.iaload, 1) := by decide +kernel
theorem dX11_mend_84 : decode cX11_mend 84 = .ok (.iconst 1, 1) := by decide +kernel
theorem dX11_mend_85 : decode cX11_mend 85 = .ok (.isub, 1) := by decide +kernel
theorem dX11_mend_86 : decode cX11_mend 86 = .ok (.i2l, 1) := by decide +kernel
theorem dX11_mend_87 : decode cX11_mend 87 = .ok (.invokestatic 106, 3) := by decide +kernel
theorem dX11_mend_90 : decode cX11_mend 90 = .ok (.ifCond .eq 14, 3) := by decide +kernel
theorem dX11_mend_93 : decode cX11_mend 93 = .ok (.aload_n 0, 1) := by decide +kernel
theorem dX11_mend_94 : decode cX11_mend 94 = .ok (.iconst 3, 1) := by decide +kernel
theorem dX11_mend_95 : decode cX11_mend 95 = .ok (.iload_n 1, 1) := by decide +kernel
theorem dX11_mend_96 : decode cX11_mend 96 = .ok (.iadd, 1) := by decide +kernel
theorem dX11_mend_97 : decode cX11_mend 97 = .ok (.iload_n 3, 1) := by decide +kernel
theorem dX11_mend_98 : decode cX11_mend 98 = .ok (.invokevirtual 221, 3) := by decide +kernel
theorem dX11_mend_101 : decode cX11_mend 101 = .ok (.goto 4, 3) := by decide +kernel
theorem dX11_mend_104 : decode cX11_mend 104 = .ok (.iconst (-1), 1) := by decide +kernel
theorem dX11_mend_105 : decode cX11_mend 105 = .ok (.ireturn, 1) := by decide +kernel
theorem dX11_mend_106 : decode cX11_mend 106 = .ok (.aload_n 0, 1) := by decide +kernel
theorem dX11_mend_107 : decode cX11_mend 107 = .ok (.iload_n 1, 1) := by decide +kernel
theorem dX11_mend_108 : decode cX11_mend 108 = .ok (.invokevirtual 218, 3) := by decide +kernel
theorem dX11_mend_111 : decode cX11_mend 111 = .ok (.ifCond .eq 27, 3) := by decide +kernel
theorem dX11_mend_114 : decode cX11_mend 114 = .ok (.iload_n 3, 1) := by decide +kernel
theorem dX11_mend_115 : decode cX11_mend 115 = .ok (.i2l, 1) := by decide +kernel
theorem dX11_mend_116 : decode cX11_mend 116 = .ok (.lconst 1, 1) := by decide +kernel
theorem dX11_mend_117 : decode cX11_mend 117 = .ok (.ldc2_w 201, 3) := by decide +kernel
theorem dX11_mend_120 : decode cX11_mend 120 = .ok (.invokestatic 106, 3) := by decide +kernel
theorem dX11_mend_123 : decode cX11_mend 123 = .ok (.ifCond .eq 15, 3) := by decide +kernel
theorem dX11_mend_126 : decode cX11_mend 126 = .ok (.aload_n 0, 1) := by decide +kernel
theorem dX11_mend_127 : decode cX11_mend 127 = .ok (.bipush 6, 2) := by decide +kernel
theorem dX11_mend_129 : decode cX11_mend 129 = .ok (.iload_n 1, 1) := by decide +kernel
theorem dX11_mend_130 : decode cX11_mend 130 = .ok (.iadd, 1) := by decide +kernel
theorem dX11_mend_131 : decode cX11_mend 131 = .ok (.iload_n 3, 1) := by decide +kernel
theorem dX11_mend_132 : decode cX11_mend 132 = .ok (.invokevirtual 221, 3) := by decide +kernel
theorem dX11_mend_135 : decode cX11_mend 135 = .ok (.goto 4, 3) := by decide +kernel
theorem dX11_mend_138 : decode cX11_mend 138 = .ok (.iconst (-1), 1) := by decide +kernel
theorem dX11_mend_139 : decode cX11_mend 139 = .ok (.ireturn, 1) := by decide +kernel
theorem dX11_mend_140 : decode cX11_mend 140 = .ok (.aload_n 0, 1) := by decide +kernel
theorem dX11_mend_141 : decode cX11_mend 141 = .ok (.iload_n 1, 1) := by decide +kernel
theorem dX11_mend_142 : decode cX11_mend 142 = .ok (.invokevirtual 218, 3) := by decide +kernel
theorem dX11_mend_145 : decode cX11_mend 145 = .ok (.ifCond .eq 27, 3) := by decide +kernel
theorem dX11_mend_148 : decode cX11_mend 148 = .ok (.iload_n 3, 1) := by decide +kernel
theorem dX11_mend_149 : decode cX11_mend 149 = .ok (.i2l, 1) := by decide +kernel
theorem dX11_mend_150 : decode cX11_mend 150 = .ok (.lconst 0, 1) := by decide +kernel
theorem dX11_mend_151 : decode cX11_mend 151 = .ok (.ldc2_w 203, 3) := by decide +kernel
theorem dX11_mend_154 : decode cX11_mend 154 = .ok (.invokestatic 106, 3) := by decide +kernel
theorem dX11_mend_157 : decode cX11_mend 157 = .ok (.ifCond .eq 15, 3) := by decide +kernel
theorem dX11_mend_160 : decode cX11_mend 160 = .ok (.aload_n 0, 1) := by decide +kernel
theorem dX11_mend_161 : decode cX11_mend 161 = .ok (.bipush 18, 2) := by decide +kernel
theorem dX11_mend_163 : decode cX11_mend 163 = .ok (.iload_n 1, 1) := by decide +kernel
theorem dX11_mend_164 : decode cX11_mend 164 = .ok (.iadd, 1) := by decide +kernel
theorem dX11_mend_165 : decode cX11_mend 165 = .ok (.iload_n 3, 1) := by decide +kernel
theorem dX11_mend_166 : decode cX11_mend 166 = .ok (.invokevirtual 221, 3) := by decide +kernel
theorem dX11_mend_169 : decode cX11_mend 169 = .ok (.goto 4, 3) := by decide +kernel
theorem dX11_mend_172 : decode cX11_mend 172 = .ok (.iconst (-1), 1) := by decide +kernel
theorem dX11_mend_173 : decode cX11_mend 173 = .ok (.ireturn, 1) := by decide +kernel
theorem dX11_mend_174 : decode cX11_mend 174 = .ok (.iconst (-1), 1) := by decide +kernel
theorem dX11_mend_175 : decode cX11_mend 175 = .ok (.ireturn, 1) := by decide +kernel
theorem dX11_bitsOf_0 : decode cX11_bitsOf 0 = .ok (.iconst 0, 1) := by decide +kernel
theorem dX11_bitsOf_1 : decode cX11_bitsOf 1 = .ok (.istore_n 1, 1) := by decide +kernel
theorem dX11_bitsOf_2 : decode cX11_bitsOf 2 = .ok (.iload_n 0, 1) := by decide +kernel
theorem dX11_bitsOf_3 : decode cX11_bitsOf 3 = .ok (.istore_n 2, 1) := by decide +kernel
theorem dX11_bitsOf_4 : decode cX11_bitsOf 4 = .ok (.iload_n 2, 1) := by decide +kernel
theorem dX11_bitsOf_5 : decode cX11_bitsOf 5 = .ok (.ifCond .eq 15, 3) := by decide +kernel
theorem dX11_bitsOf_8 : decode cX11_bitsOf 8 = .ok (.iinc 1 1, 3) := by decide +kernel
theorem dX11_bitsOf_11 : decode cX11_bitsOf 11 = .ok (.iload_n 2, 1) := by decide +kernel
theorem dX11_bitsOf_12 : decode cX11_bitsOf 12 = .ok (.iload_n 2, 1) := by decide +kernel
theorem dX11_bitsOf_13 : decode cX11_bitsOf 13 = .ok (.iconst 1, 1) := by decide +kernel
theorem dX11_bitsOf_14 : decode cX11_bitsOf 14 = .ok (.isub, 1) := by decide +kernel
theorem dX11_bitsOf_15 : decode cX11_bitsOf 15 = .ok (.iand, 1) := by decide +kernel
theorem dX11_bitsOf_16 : decode cX11_bitsOf 16 = .ok (.istore_n 2, 1) := by decide +kernel
theorem dX11_bitsOf_17 : decode cX11_bitsOf 17 = .ok (.goto (-13), 3) := by decide +kernel
theorem dX11_bitsOf_20 : decode cX11_bitsOf 20 = .ok (.iload_n 1, 1) := by decide +kernel
theorem dX11_bitsOf_21 : decode cX11_bitsOf 21 = .ok (.ireturn, 1) := by decide +kernel
theorem dX11_forgets_0 : decode cX11_forgets 0 = .ok (.iconst 0, 1) := by decide +kernel
theorem dX11_forgets_1 : decode cX11_forgets 1 = .ok (.istore_n 1, 1) := by decide +kernel
theorem dX11_forgets_2 : decode cX11_forgets 2 = .ok (.iload_n 1, 1) := by decide +kernel
theorem dX11_forgets_3 : decode cX11_forgets 3 = .ok (.bipush 12, 2) := by decide +kernel
theorem dX11_forgets_5 : decode cX11_forgets 5 = .ok (.if_icmp .ge 16, 3) := by decide +kernel
theorem dX11_forgets_8 : decode cX11_forgets 8 = .ok (.aload_n 0, 1) := by decide +kernel
theorem dX11_forgets_9 : decode cX11_forgets 9 = .ok (.getfield 59, 3) := by decide +kernel
theorem dX11_forgets_12 : decode cX11_forgets 12 = .ok (.iload_n 1, 1) := by decide +kernel
theorem dX11_forgets_13 : decode cX11_forgets 13 = .ok (.iconst 0, 1) := by decide +kernel
theorem dX11_forgets_14 : decode cX11_forgets 14 = .ok (.iastore, 1) := by decide +kernel
theorem dX11_forgets_15 : decode cX11_forgets 15 = .ok (.iinc 1 1, 3) := by decide +kernel
theorem dX11_forgets_18 : decode cX11_forgets 18 = .ok (.goto (-16), 3) := by decide +kernel
theorem dX11_forgets_21 : decode cX11_forgets 21 = .ok (.return_, 1) := by decide +kernel
theorem dX11_costBy_0 : decode cX11_costBy 0 = .ok (.aload_n 0, 1) := by decide +kernel
theorem dX11_costBy_1 : decode cX11_costBy 1 = .ok (.getfield 59, 3) := by decide +kernel
theorem dX11_costBy_4 : decode cX11_costBy 4 = .ok (.iload_n 2, 1) := by decide +kernel
theorem dX11_costBy_5 : decode cX11_costBy 5 = .ok (.iaload, 1) := by decide +kernel
theorem dX11_costBy_6 : decode cX11_costBy 6 = .ok (.ifCond .eq 13, 3) := by decide +kernel
theorem dX11_costBy_9 : decode cX11_costBy 9 = .ok (.aload_n 0, 1) := by decide +kernel
theorem dX11_costBy_10 : decode cX11_costBy 10 = .ok (.getfield 62, 3) := by decide +kernel
theorem dX11_costBy_13 : decode cX11_costBy 13 = .ok (.iload_n 2, 1) := by decide +kernel
theorem dX11_costBy_14 : decode cX11_costBy 14 = .ok (.iaload, 1) := by decide +kernel
theorem dX11_costBy_15 : decode cX11_costBy 15 = .ok (.iload_n 3, 1) := by decide +kernel
theorem dX11_costBy_16 : decode cX11_costBy 16 = .ok (.if_icmp .eq 30, 3) := by decide +kernel
theorem dX11_costBy_19 : decode cX11_costBy 19 = .ok (.aload_n 0, 1) := by decide +kernel
theorem dX11_costBy_20 : decode cX11_costBy 20 = .ok (.dup, 1) := by decide +kernel
theorem dX11_costBy_21 : decode cX11_costBy 21 = .ok (.getfield 224, 3) := by decide +kernel
theorem dX11_costBy_24 : decode cX11_costBy 24 = .ok (.iconst 1, 1) := by decide +kernel
theorem dX11_costBy_25 : decode cX11_costBy 25 = .ok (.iadd, 1) := by decide +kernel
theorem dX11_costBy_26 : decode cX11_costBy 26 = .ok (.putfield 224, 3) := by decide +kernel
theorem dX11_costBy_29 : decode cX11_costBy 29 = .ok (.aload_n 0, 1) := by decide +kernel
theorem dX11_costBy_30 : decode cX11_costBy 30 = .ok (.getfield 59, 3) := by decide +kernel
theorem dX11_costBy_33 : decode cX11_costBy 33 = .ok (.iload_n 2, 1) := by decide +kernel
theorem dX11_costBy_34 : decode cX11_costBy 34 = .ok (.aload_n 0, 1) := by decide +kernel
theorem dX11_costBy_35 : decode cX11_costBy 35 = .ok (.getfield 224, 3) := by decide +kernel
theorem dX11_costBy_38 : decode cX11_costBy 38 = .ok (.iastore, 1) := by decide +kernel
theorem dX11_costBy_39 : decode cX11_costBy 39 = .ok (.aload_n 0, 1) := by decide +kernel
theorem dX11_costBy_40 : decode cX11_costBy 40 = .ok (.getfield 62, 3) := by decide +kernel
theorem dX11_costBy_43 : decode cX11_costBy 43 = .ok (.iload_n 2, 1) := by decide +kernel
theorem dX11_costBy_44 : decode cX11_costBy 44 = .ok (.iload_n 3, 1) := by decide +kernel
theorem dX11_costBy_45 : decode cX11_costBy 45 = .ok (.iastore, 1) := by decide +kernel
theorem dX11_costBy_46 : decode cX11_costBy 46 = .ok (.sipush 9216, 3) := by decide +kernel
theorem dX11_costBy_49 : decode cX11_costBy 49 = .ok (.iload_n 2, 1) := by decide +kernel
theorem dX11_costBy_50 : decode cX11_costBy 50 = .ok (.imul, 1) := by decide +kernel
theorem dX11_costBy_51 : decode cX11_costBy 51 = .ok (.bipush 48, 2) := by decide +kernel
theorem dX11_costBy_53 : decode cX11_costBy 53 = .ok (.iload_n 1, 1) := by decide +kernel
theorem dX11_costBy_54 : decode cX11_costBy 54 = .ok (.imul, 1) := by decide +kernel
theorem dX11_costBy_55 : decode cX11_costBy 55 = .ok (.iload 4, 2) := by decide +kernel
theorem dX11_costBy_57 : decode cX11_costBy 57 = .ok (.iadd, 1) := by decide +kernel
theorem dX11_costBy_58 : decode cX11_costBy 58 = .ok (.bipush 24, 2) := by decide +kernel
theorem dX11_costBy_60 : decode cX11_costBy 60 = .ok (.imul, 1) := by decide +kernel
theorem dX11_costBy_61 : decode cX11_costBy 61 = .ok (.iadd, 1) := by decide +kernel
theorem dX11_costBy_62 : decode cX11_costBy 62 = .ok (.iload 5, 2) := by decide +kernel
theorem dX11_costBy_64 : decode cX11_costBy 64 = .ok (.bipush 24, 2) := by decide +kernel
theorem dX11_costBy_66 : decode cX11_costBy 66 = .ok (.irem, 1) := by decide +kernel
theorem dX11_costBy_67 : decode cX11_costBy 67 = .ok (.iadd, 1) := by decide +kernel
theorem dX11_costBy_68 : decode cX11_costBy 68 = .ok (.istore 6, 2) := by decide +kernel
theorem dX11_costBy_70 : decode cX11_costBy 70 = .ok (.aload_n 0, 1) := by decide +kernel
theorem dX11_costBy_71 : decode cX11_costBy 71 = .ok (.getfield 56, 3) := by decide +kernel
theorem dX11_costBy_74 : decode cX11_costBy 74 = .ok (.iload 6, 2) := by decide +kernel
theorem dX11_costBy_76 : decode cX11_costBy 76 = .ok (.iaload, 1) := by decide +kernel
theorem dX11_costBy_77 : decode cX11_costBy 77 = .ok (.aload_n 0, 1) := by decide +kernel
theorem dX11_costBy_78 : decode cX11_costBy 78 = .ok (.getfield 59, 3) := by decide +kernel
theorem dX11_costBy_81 : decode cX11_costBy 81 = .ok (.iload_n 2, 1) := by decide +kernel
theorem dX11_costBy_82 : decode cX11_costBy 82 = .ok (.iaload, 1) := by decide +kernel
theorem dX11_costBy_83 : decode cX11_costBy 83 = .ok (.if_icmp .eq 34, 3) := by decide +kernel
theorem dX11_costBy_86 : decode cX11_costBy 86 = .ok (.aload_n 0, 1) := by decide +kernel
theorem dX11_costBy_87 : decode cX11_costBy 87 = .ok (.getfield 56, 3) := by decide +kernel
theorem dX11_costBy_90 : decode cX11_costBy 90 = .ok (.iload 6, 2) := by decide +kernel
theorem dX11_costBy_92 : decode cX11_costBy 92 = .ok (.aload_n 0, 1) := by decide +kernel
theorem dX11_costBy_93 : decode cX11_costBy 93 = .ok (.getfield 59, 3) := by decide +kernel
theorem dX11_costBy_96 : decode cX11_costBy 96 = .ok (.iload_n 2, 1) := by decide +kernel
theorem dX11_costBy_97 : decode cX11_costBy 97 = .ok (.iaload, 1) := by decide +kernel
theorem dX11_costBy_98 : decode cX11_costBy 98 = .ok (.iastore, 1) := by decide +kernel
theorem dX11_costBy_99 : decode cX11_costBy 99 = .ok (.aload_n 0, 1) := by decide +kernel
theorem dX11_costBy_100 : decode cX11_costBy 100 = .ok (.getfield 53, 3) := by decide +kernel
theorem dX11_costBy_103 : decode cX11_costBy 103 = .ok (.iload 6, 2) := by decide +kernel
theorem dX11_costBy_105 : decode cX11_costBy 105 = .ok (.aload_n 0, 1) := by decide +kernel
theorem dX11_costBy_106 : decode cX11_costBy 106 = .ok (.iload_n 1, 1) := by decide +kernel
theorem dX11_costBy_107 : decode cX11_costBy 107 = .ok (.iload_n 2, 1) := by decide +kernel
theorem dX11_costBy_108 : decode cX11_costBy 108 = .ok (.iload_n 3, 1) := by decide +kernel
theorem dX11_costBy_109 : decode cX11_costBy 109 = .ok (.iload 4, 2) := by decide +kernel
theorem dX11_costBy_111 : decode cX11_costBy 111 = .ok (.iload 5, 2) := by decide +kernel
theorem dX11_costBy_113 : decode cX11_costBy 113 = .ok (.invokevirtual 227, 3) := by decide +kernel
theorem dX11_costBy_116 : decode cX11_costBy 116 = .ok (.iastore, 1) := by decide +kernel
theorem dX11_costBy_117 : decode cX11_costBy 117 = .ok (.aload_n 0, 1) := by decide +kernel
theorem dX11_costBy_118 : decode cX11_costBy 118 = .ok (.getfield 53, 3) := by decide +kernel
theorem dX11_costBy_121 : decode cX11_costBy 121 = .ok (.iload 6, 2) := by decide +kernel
theorem dX11_costBy_123 : decode cX11_costBy 123 = .ok (.iaload, 1) := by decide +kernel
theorem dX11_costBy_124 : decode cX11_costBy 124 = .ok (.ireturn, 1) := by decide +kernel
theorem dX11_worksOut_0 : decode cX11_worksOut 0 = .ok (.iconst 0, 1) := by decide +kernel
theorem dX11_worksOut_1 : decode cX11_worksOut 1 = .ok (.istore 6, 2) := by decide +kernel
theorem dX11_worksOut_3 : decode cX11_worksOut 3 = .ok (.iconst 0, 1) := by decide +kernel
theorem dX11_worksOut_4 : decode cX11_worksOut 4 = .ok (.istore 7, 2) := by decide +kernel
theorem dX11_worksOut_6 : decode cX11_worksOut 6 = .ok (.iload 7, 2) := by decide +kernel
theorem dX11_worksOut_8 : decode cX11_worksOut 8 = .ok (.aload_n 0, 1) := by decide +kernel
theorem dX11_worksOut_9 : decode cX11_worksOut 9 = .ok (.getfield 103, 3) := by decide +kernel
theorem dX11_worksOut_12 : decode cX11_worksOut 12 = .ok (.if_icmp .ge 167, 3) := by decide +kernel
theorem dX11_worksOut_15 : decode cX11_worksOut 15 = .ok (.iload_n 1, 1) := by decide +kernel
theorem dX11_worksOut_16 : decode cX11_worksOut 16 = .ok (.iload 7, 2) := by decide +kernel
theorem dX11_worksOut_18 : decode cX11_worksOut 18 = .ok (.ishr, 1) := by decide +kernel
theorem dX11_worksOut_19 : decode cX11_worksOut 19 = .ok (.iconst 1, 1) := by decide +kernel
theorem dX11_worksOut_20 : decode cX11_worksOut 20 = .ok (.iand, 1) := by decide +kernel
theorem dX11_worksOut_21 : decode cX11_worksOut 21 = .ok (.ifCond .eq 152, 3) := by decide +kernel
theorem dX11_worksOut_24 : decode cX11_worksOut 24 = .ok (.aload_n 0, 1) := by decide +kernel
theorem dX11_worksOut_25 : decode cX11_worksOut 25 = .ok (.getfield 40, 3) := by decide +kernel
theorem dX11_worksOut_28 : decode cX11_worksOut 28 = .ok (.iload 7, 2) := by decide +kernel
theorem dX11_worksOut_30 : decode cX11_worksOut 30 = .ok (.iaload, 1) := by decide +kernel
theorem dX11_worksOut_31 : decode cX11_worksOut 31 = .ok (.ifCond .ge 6, 3) := by decide +kernel
theorem dX11_worksOut_34 : decode cX11_worksOut 34 = .ok (.goto 139, 3) := by decide +kernel
theorem dX11_worksOut_37 : decode cX11_worksOut 37 = .ok (.aload_n 0, 1) := by decide +kernel
theorem dX11_worksOut_38 : decode cX11_worksOut 38 = .ok (.getfield 43, 3) := by decide +kernel
theorem dX11_worksOut_41 : decode cX11_worksOut 41 = .ok (.iconst 0, 1) := by decide +kernel
theorem dX11_worksOut_42 : decode cX11_worksOut 42 = .ok (.aload_n 0, 1) := by decide +kernel
theorem dX11_worksOut_43 : decode cX11_worksOut 43 = .ok (.getfield 46, 3) := by decide +kernel
theorem dX11_worksOut_46 : decode cX11_worksOut 46 = .ok (.iload_n 2, 1) := by decide +kernel
theorem dX11_worksOut_47 : decode cX11_worksOut 47 = .ok (.iaload, 1) := by decide +kernel
theorem dX11_worksOut_48 : decode cX11_worksOut 48 = .ok (.iastore, 1) := by decide +kernel
theorem dX11_worksOut_49 : decode cX11_worksOut 49 = .ok (.aload_n 0, 1) := by decide +kernel
theorem dX11_worksOut_50 : decode cX11_worksOut 50 = .ok (.getfield 43, 3) := by decide +kernel
theorem dX11_worksOut_53 : decode cX11_worksOut 53 = .ok (.iconst 1, 1) := by decide +kernel
theorem dX11_worksOut_54 : decode cX11_worksOut 54 = .ok (.iload 4, 2) := by decide +kernel
theorem dX11_worksOut_56 : decode cX11_worksOut 56 = .ok (.iastore, 1) := by decide +kernel
theorem dX11_worksOut_57 : decode cX11_worksOut 57 = .ok (.aload_n 0, 1) := by decide +kernel
theorem dX11_worksOut_58 : decode cX11_worksOut 58 = .ok (.getfield 43, 3) := by decide +kernel
theorem dX11_worksOut_61 : decode cX11_worksOut 61 = .ok (.iconst 2, 1) := by decide +kernel
theorem dX11_worksOut_62 : decode cX11_worksOut 62 = .ok (.aload_n 0, 1) := by decide +kernel
theorem dX11_worksOut_63 : decode cX11_worksOut 63 = .ok (.getfield 9, 3) := by decide +kernel
theorem dX11_worksOut_66 : decode cX11_worksOut 66 = .ok (.bipush 6, 2) := by decide +kernel
theorem dX11_worksOut_68 : decode cX11_worksOut 68 = .ok (.iload_n 2, 1) := by decide +kernel
theorem dX11_worksOut_69 : decode cX11_worksOut 69 = .ok (.iadd, 1) := by decide +kernel
theorem dX11_worksOut_70 : decode cX11_worksOut 70 = .ok (.iaload, 1) := by decide +kernel
theorem dX11_worksOut_71 : decode cX11_worksOut 71 = .ok (.iastore, 1) := by decide +kernel
theorem dX11_worksOut_72 : decode cX11_worksOut 72 = .ok (.aload_n 0, 1) := by decide +kernel
theorem dX11_worksOut_73 : decode cX11_worksOut 73 = .ok (.getfield 43, 3) := by decide +kernel
theorem dX11_worksOut_76 : decode cX11_worksOut 76 = .ok (.iconst 3, 1) := by decide +kernel
theorem dX11_worksOut_77 : decode cX11_worksOut 77 = .ok (.iload 5, 2) := by decide +kernel
theorem dX11_worksOut_79 : decode cX11_worksOut 79 = .ok (.bipush 24, 2) := by decide +kernel
theorem dX11_worksOut_81 : decode cX11_worksOut 81 = .ok (.irem, 1) := by decide +kernel
theorem dX11_worksOut_82 : decode cX11_worksOut 82 = .ok (.iastore, 1) := by decide +kernel
theorem dX11_worksOut_83 : decode cX11_worksOut 83 = .ok (.aload_n 0, 1) := by decide +kernel
theorem dX11_worksOut_84 : decode cX11_worksOut 84 = .ok (.getfield 43, 3) := by decide +kernel
theorem dX11_worksOut_87 : decode cX11_worksOut 87 = .ok (.iconst 4, 1) := by decide +kernel
theorem dX11_worksOut_88 : decode cX11_worksOut 88 = .ok (.iload_n 3, 1) := by decide +kernel
theorem dX11_worksOut_89 : decode cX11_worksOut 89 = .ok (.iastore, 1) := by decide +kernel
theorem dX11_worksOut_90 : decode cX11_worksOut 90 = .ok (.aload_n 0, 1) := by decide +kernel
theorem dX11_worksOut_91 : decode cX11_worksOut 91 = .ok (.getfield 43, 3) := by decide +kernel
theorem dX11_worksOut_94 : decode cX11_worksOut 94 = .ok (.iconst 5, 1) := by decide +kernel
theorem dX11_worksOut_95 : decode cX11_worksOut 95 = .ok (.aload_n 0, 1) := by decide +kernel
theorem dX11_worksOut_96 : decode cX11_worksOut 96 = .ok (.getfield 49, 3) := by decide +kernel
theorem dX11_worksOut_99 : decode cX11_worksOut 99 = .ok (.iload_n 2, 1) := by decide +kernel
theorem dX11_worksOut_100 : decode cX11_worksOut 100 = .ok (.iaload, 1) := by decide +kernel
theorem dX11_worksOut_101 : decode cX11_worksOut 101 = .ok (.iastore, 1) := by decide +kernel
theorem dX11_worksOut_102 : decode cX11_worksOut 102 = .ok (.aload_n 0, 1) := by decide +kernel
theorem dX11_worksOut_103 : decode cX11_worksOut 103 = .ok (.getfield 43, 3) := by decide +kernel
theorem dX11_worksOut_106 : decode cX11_worksOut 106 = .ok (.bipush 6, 2) := by decide +kernel
theorem dX11_worksOut_108 : decode cX11_worksOut 108 = .ok (.iload_n 1, 1) := by decide +kernel
theorem dX11_worksOut_109 : decode cX11_worksOut 109 = .ok (.invokestatic 231, 3) := by decide +kernel
theorem dX11_worksOut_112 : decode cX11_worksOut 112 = .ok (.iastore, 1) := by decide +kernel
theorem dX11_worksOut_113 : decode cX11_worksOut 113 = .ok (.aload_n 0, 1) := by decide +kernel
theorem dX11_worksOut_114 : decode cX11_worksOut 114 = .ok (.bipush 120, 2) := by decide +kernel
theorem dX11_worksOut_116 : decode cX11_worksOut 116 = .ok (.iload 7, 2) := by decide +kernel
theorem dX11_worksOut_118 : decode cX11_worksOut 118 = .ok (.imul, 1) := by decide +kernel
theorem dX11_worksOut_119 : decode cX11_worksOut 119 = .ok (.aload_n 0, 1) := by decide +kernel
theorem dX11_worksOut_120 : decode cX11_worksOut 120 = .ok (.getfield 40, 3) := by decide +kernel
theorem dX11_worksOut_123 : decode cX11_worksOut 123 = .ok (.iload 7, 2) := by decide +kernel
theorem dX11_worksOut_125 : decode cX11_worksOut 125 = .ok (.iaload, 1) := by decide +kernel
theorem dX11_worksOut_126 : decode cX11_worksOut 126 = .ok (.invokevirtual 193, 3) := by decide +kernel
theorem dX11_worksOut_129 : decode cX11_worksOut 129 = .ok (.istore 8, 2) := by decide +kernel
theorem dX11_worksOut_131 : decode cX11_worksOut 131 = .ok (.iload 8, 2) := by decide +kernel
theorem dX11_worksOut_133 : decode cX11_worksOut 133 = .ok (.ifCond .ge 6, 3) := by decide +kernel
theorem dX11_worksOut_136 : decode cX11_worksOut 136 = .ok (.bipush (-2), 2) := by decide +kernel
theorem dX11_worksOut_138 : decode cX11_worksOut 138 = .ok (.ireturn, 1) := by decide +kernel
theorem dX11_worksOut_139 : decode cX11_worksOut 139 = .ok (.iload 8, 2) := by decide +kernel
theorem dX11_worksOut_141 : decode cX11_worksOut 141 = .ok (.sipush 9999, 3) := by decide +kernel
theorem dX11_worksOut_144 : decode cX11_worksOut 144 = .ok (.if_icmp .le 9, 3) := by decide +kernel
theorem dX11_worksOut_147 : decode cX11_worksOut 147 = .ok (.sipush 9999, 3) := by decide +kernel
theorem dX11_worksOut_150 : decode cX11_worksOut 150 = .ok (.goto 5, 3) := by decide +kernel
theorem dX11_worksOut_153 : decode cX11_worksOut 153 = .ok (.iload 8, 2) := by decide +kernel
theorem dX11_worksOut_155 : decode cX11_worksOut 155 = .ok (.istore 8, 2) := by decide +kernel
theorem dX11_worksOut_157 : decode cX11_worksOut 157 = .ok (.iload 8, 2) := by decide +kernel
theorem dX11_worksOut_159 : decode cX11_worksOut 159 = .ok (.iload 6, 2) := by decide +kernel
theorem dX11_worksOut_161 : decode cX11_worksOut 161 = .ok (.if_icmp .le 8, 3) := by decide +kernel
theorem dX11_worksOut_164 : decode cX11_worksOut 164 = .ok (.iload 8, 2) := by decide +kernel
theorem dX11_worksOut_166 : decode cX11_worksOut 166 = .ok (.goto 5, 3) := by decide +kernel
theorem dX11_worksOut_169 : decode cX11_worksOut 169 = .ok (.iload 6, 2) := by decide +kernel
theorem dX11_worksOut_171 : decode cX11_worksOut 171 = .ok (.istore 6, 2) := by decide +kernel
theorem dX11_worksOut_173 : decode cX11_worksOut 173 = .ok (.iinc 7 1, 3) := by decide +kernel
theorem dX11_worksOut_176 : decode cX11_worksOut 176 = .ok (.goto (-170), 3) := by decide +kernel
theorem dX11_worksOut_179 : decode cX11_worksOut 179 = .ok (.iload 6, 2) := by decide +kernel
theorem dX11_worksOut_181 : decode cX11_worksOut 181 = .ok (.ireturn, 1) := by decide +kernel
theorem dX11_costOf_0 : decode cX11_costOf 0 = .ok (.aload_n 0, 1) := by decide +kernel
theorem dX11_costOf_1 : decode cX11_costOf 1 = .ok (.aload_n 0, 1) := by decide +kernel
theorem dX11_costOf_2 : decode cX11_costOf 2 = .ok (.iload_n 2, 1) := by decide +kernel
theorem dX11_costOf_3 : decode cX11_costOf 3 = .ok (.iload 4, 2) := by decide +kernel
theorem dX11_costOf_5 : decode cX11_costOf 5 = .ok (.invokevirtual 137, 3) := by decide +kernel
theorem dX11_costOf_8 : decode cX11_costOf 8 = .ok (.iload_n 1, 1) := by decide +kernel
theorem dX11_costOf_9 : decode cX11_costOf 9 = .ok (.iload_n 2, 1) := by decide +kernel
theorem dX11_costOf_10 : decode cX11_costOf 10 = .ok (.iload_n 3, 1) := by decide +kernel
theorem dX11_costOf_11 : decode cX11_costOf 11 = .ok (.iload 4, 2) := by decide +kernel
theorem dX11_costOf_13 : decode cX11_costOf 13 = .ok (.invokevirtual 234, 3) := by decide +kernel
theorem dX11_costOf_16 : decode cX11_costOf 16 = .ok (.ireturn, 1) := by decide +kernel
theorem dX11_isDv_0 : decode cX11_isDv 0 = .ok (.iload_n 1, 1) := by decide +kernel
theorem dX11_isDv_1 : decode cX11_isDv 1 = .ok (.ifCond .lt 29, 3) := by decide +kernel
theorem dX11_isDv_4 : decode cX11_isDv 4 = .ok (.aload_n 0, 1) := by decide +kernel
theorem dX11_isDv_5 : decode cX11_isDv 5 = .ok (.iload_n 1, 1) := by decide +kernel
theorem dX11_isDv_6 : decode cX11_isDv 6 = .ok (.bipush 10, 2) := by decide +kernel
theorem dX11_isDv_8 : decode cX11_isDv 8 = .ok (.idiv, 1) := by decide +kernel
theorem dX11_isDv_9 : decode cX11_isDv 9 = .ok (.invokevirtual 218, 3) := by decide +kernel
theorem dX11_isDv_12 : decode cX11_isDv 12 = .ok (.ifCond .eq 18, 3) := by decide +kernel
theorem dX11_isDv_15 : decode cX11_isDv 15 = .ok (.aload_n 0, 1) := by decide +kernel
theorem dX11_isDv_16 : decode cX11_isDv 16 = .ok (.iload_n 1, 1) := by decide +kernel
theorem dX11_isDv_17 : decode cX11_isDv 17 = .ok (.bipush 10, 2) := by decide +kernel
theorem dX11_isDv_19 : decode cX11_isDv 19 = .ok (.irem, 1) := by decide +kernel
theorem dX11_isDv_20 : decode cX11_isDv 20 = .ok (.invokevirtual 119, 3) := by decide +kernel
theorem dX11_isDv_23 : decode cX11_isDv 23 = .ok (.ifCond .eq 7, 3) := by decide +kernel
theorem dX11_isDv_26 : decode cX11_isDv 26 = .ok (.iconst 1, 1) := by decide +kernel
theorem dX11_isDv_27 : decode cX11_isDv 27 = .ok (.goto 4, 3) := by decide +kernel
theorem dX11_isDv_30 : decode cX11_isDv 30 = .ok (.iconst 0, 1) := by decide +kernel
theorem dX11_isDv_31 : decode cX11_isDv 31 = .ok (.ireturn, 1) := by decide +kernel
theorem dX11_costs_0 : decode cX11_costs 0 = .ok (.aload_n 0, 1) := by decide +kernel
theorem dX11_costs_1 : decode cX11_costs 1 = .ok (.iload_n 1, 1) := by decide +kernel
theorem dX11_costs_2 : decode cX11_costs 2 = .ok (.invokevirtual 237, 3) := by decide +kernel
theorem dX11_costs_5 : decode cX11_costs 5 = .ok (.ifCond .eq 34, 3) := by decide +kernel
theorem dX11_costs_8 : decode cX11_costs 8 = .ok (.iload_n 2, 1) := by decide +kernel
theorem dX11_costs_9 : decode cX11_costs 9 = .ok (.i2l, 1) := by decide +kernel
theorem dX11_costs_10 : decode cX11_costs 10 = .ok (.lconst 0, 1) := by decide +kernel
theorem dX11_costs_11 : decode cX11_costs 11 = .ok (.aload_n 0, 1) := by decide +kernel
theorem dX11_costs_12 : decode cX11_costs 12 = .ok (.getfield 9, 3) := by decide +kernel
theorem dX11_costs_15 : decode cX11_costs 15 = .ok (.bipush 6, 2) := by decide +kernel
theorem dX11_costs_17 : decode cX11_costs 17 = .ok (.iload_n 1, 1) := by decide +kernel
theorem dX11_costs_18 : decode cX11_costs 18 = .ok (.bipush 10, 2) := by decide +kernel
theorem dX11_costs_20 : decode cX11_costs 20 = .ok (.idiv, 1) := by decide +kernel
theorem dX11_costs_21 : decode cX11_costs 21 = .ok (.iadd, 1) := by decide +kernel
theorem dX11_costs_22 : decode cX11_costs 22 = .ok (.iaload, 1) := by decide +kernel
theorem dX11_costs_23 : decode cX11_costs 23 = .ok (.iconst 1, 1) := by decide +kernel
theorem dX11_costs_24 : decode cX11_costs 24 = .ok (.isub, 1) := by decide +kernel
theorem dX11_costs_25 : decode cX11_costs 25 = .ok (.i2l, 1) := by decide +kernel
theorem dX11_costs_26 : decode cX11_costs 26 = .ok (.invokestatic 106, 3) := by decide +kernel
theorem dX11_costs_29 : decode cX11_costs 29 = .ok (.ifCond .eq 10, 3) := by decide +kernel
theorem dX11_costs_32 : decode cX11_costs 32 = .ok (.iload_n 3, 1) := by decide +kernel
theorem dX11_costs_33 : decode cX11_costs 33 = .ok (.invokestatic 134, 3) := by decide +kernel
theorem dX11_costs_36 : decode cX11_costs 36 = .ok (.ifCond .ne 6, 3) := by decide +kernel
theorem dX11_costs_39 : decode cX11_costs 39 = .ok (.ldc 240, 2) := by decide +kernel
theorem dX11_costs_41 : decode cX11_costs 41 = .ok (.ireturn, 1) := by decide +kernel
theorem dX11_costs_42 : decode cX11_costs 42 = .ok (.aload_n 0, 1) := by decide +kernel
theorem dX11_costs_43 : decode cX11_costs 43 = .ok (.iload_n 1, 1) := by decide +kernel
theorem dX11_costs_44 : decode cX11_costs 44 = .ok (.bipush 10, 2) := by decide +kernel
theorem dX11_costs_46 : decode cX11_costs 46 = .ok (.idiv, 1) := by decide +kernel
theorem dX11_costs_47 : decode cX11_costs 47 = .ok (.iload_n 1, 1) := by decide +kernel
theorem dX11_costs_48 : decode cX11_costs 48 = .ok (.bipush 10, 2) := by decide +kernel
theorem dX11_costs_50 : decode cX11_costs 50 = .ok (.irem, 1) := by decide +kernel
theorem dX11_costs_51 : decode cX11_costs 51 = .ok (.iload_n 2, 1) := by decide +kernel
theorem dX11_costs_52 : decode cX11_costs 52 = .ok (.iload_n 3, 1) := by decide +kernel
theorem dX11_costs_53 : decode cX11_costs 53 = .ok (.invokevirtual 241, 3) := by decide +kernel
theorem dX11_costs_56 : decode cX11_costs 56 = .ok (.ireturn, 1) := by decide +kernel
theorem dX11_allOf_0 : decode cX11_allOf 0 = .ok (.iconst 0, 1) := by decide +kernel
theorem dX11_allOf_1 : decode cX11_allOf 1 = .ok (.istore 4, 2) := by decide +kernel
theorem dX11_allOf_3 : decode cX11_allOf 3 = .ok (.iconst 0, 1) := by decide +kernel
theorem dX11_allOf_4 : decode cX11_allOf 4 = .ok (.istore 5, 2) := by decide +kernel
theorem dX11_allOf_6 : decode cX11_allOf 6 = .ok (.iload 5, 2) := by decide +kernel
theorem dX11_allOf_8 : decode cX11_allOf 8 = .ok (.aload_n 0, 1) := by decide +kernel
theorem dX11_allOf_9 : decode cX11_allOf 9 = .ok (.getfield 9, 3) := by decide +kernel
theorem dX11_allOf_12 : decode cX11_allOf 12 = .ok (.bipush 6, 2) := by decide +kernel
theorem dX11_allOf_14 : decode cX11_allOf 14 = .ok (.iload_n 1, 1) := by decide +kernel
theorem dX11_allOf_15 : decode cX11_allOf 15 = .ok (.iadd, 1) := by decide +kernel
theorem dX11_allOf_16 : decode cX11_allOf 16 = .ok (.iaload, 1) := by decide +kernel
theorem dX11_allOf_17 : decode cX11_allOf 17 = .ok (.if_icmp .ge 38, 3) := by decide +kernel
theorem dX11_allOf_20 : decode cX11_allOf 20 = .ok (.aload_n 0, 1) := by decide +kernel
theorem dX11_allOf_21 : decode cX11_allOf 21 = .ok (.iload_n 1, 1) := by decide +kernel
theorem dX11_allOf_22 : decode cX11_allOf 22 = .ok (.iload_n 2, 1) := by decide +kernel
theorem dX11_allOf_23 : decode cX11_allOf 23 = .ok (.iload 5, 2) := by decide +kernel
theorem dX11_allOf_25 : decode cX11_allOf 25 = .ok (.iload_n 3, 1) := by decide +kernel
theorem dX11_allOf_26 : decode cX11_allOf 26 = .ok (.iload 5, 2) := by decide +kernel
theorem dX11_allOf_28 : decode cX11_allOf 28 = .ok (.iadd, 1) := by decide +kernel
theorem dX11_allOf_29 : decode cX11_allOf 29 = .ok (.invokevirtual 241, 3) := by decide +kernel
theorem dX11_allOf_32 : decode cX11_allOf 32 = .ok (.istore 6, 2) := by decide +kernel
theorem dX11_allOf_34 : decode cX11_allOf 34 = .ok (.iload 6, 2) := by decide +kernel
theorem dX11_allOf_36 : decode cX11_allOf 36 = .ok (.ifCond .ge 6, 3) := by decide +kernel
theorem dX11_allOf_39 : decode cX11_allOf 39 = .ok (.bipush (-2), 2) := by decide +kernel
theorem dX11_allOf_41 : decode cX11_allOf 41 = .ok (.ireturn, 1) := by decide +kernel
theorem dX11_allOf_42 : decode cX11_allOf 42 = .ok (.iload 4, 2) := by decide +kernel
theorem dX11_allOf_44 : decode cX11_allOf 44 = .ok (.iload 6, 2) := by decide +kernel
theorem dX11_allOf_46 : decode cX11_allOf 46 = .ok (.iadd, 1) := by decide +kernel
theorem dX11_allOf_47 : decode cX11_allOf 47 = .ok (.istore 4, 2) := by decide +kernel
theorem dX11_allOf_49 : decode cX11_allOf 49 = .ok (.iinc 5 1, 3) := by decide +kernel
theorem dX11_allOf_52 : decode cX11_allOf 52 = .ok (.goto (-46), 3) := by decide +kernel
theorem dX11_allOf_55 : decode cX11_allOf 55 = .ok (.iload 4, 2) := by decide +kernel
theorem dX11_allOf_57 : decode cX11_allOf 57 = .ok (.ireturn, 1) := by decide +kernel
theorem dX11_mildestOf_0 : decode cX11_mildestOf 0 = .ok (.bipush (-2), 2) := by decide +kernel
theorem dX11_mildestOf_2 : decode cX11_mildestOf 2 = .ok (.istore 4, 2) := by decide +kernel
theorem dX11_mildestOf_4 : decode cX11_mildestOf 4 = .ok (.iconst 0, 1) := by decide +kernel
theorem dX11_mildestOf_5 : decode cX11_mildestOf 5 = .ok (.istore 5, 2) := by decide +kernel
theorem dX11_mildestOf_7 : decode cX11_mildestOf 7 = .ok (.iload 5, 2) := by decide +kernel
theorem dX11_mildestOf_9 : decode cX11_mildestOf 9 = .ok (.aload_n 0, 1) := by decide +kernel
theorem dX11_mildestOf_10 : decode cX11_mildestOf 10 = .ok (.getfield 9, 3) := by decide +kernel
theorem dX11_mildestOf_13 : decode cX11_mildestOf 13 = .ok (.bipush 6, 2) := by decide +kernel
theorem dX11_mildestOf_15 : decode cX11_mildestOf 15 = .ok (.iload_n 1, 1) := by decide +kernel
theorem dX11_mildestOf_16 : decode cX11_mildestOf 16 = .ok (.iadd, 1) := by decide +kernel
theorem dX11_mildestOf_17 : decode cX11_mildestOf 17 = .ok (.iaload, 1) := by decide +kernel
theorem dX11_mildestOf_18 : decode cX11_mildestOf 18 = .ok (.if_icmp .ge 49, 3) := by decide +kernel
theorem dX11_mildestOf_21 : decode cX11_mildestOf 21 = .ok (.aload_n 0, 1) := by decide +kernel
theorem dX11_mildestOf_22 : decode cX11_mildestOf 22 = .ok (.iload_n 1, 1) := by decide +kernel
theorem dX11_mildestOf_23 : decode cX11_mildestOf 23 = .ok (.iload_n 2, 1) := by decide +kernel
theorem dX11_mildestOf_24 : decode cX11_mildestOf 24 = .ok (.iload 5, 2) := by decide +kernel
theorem dX11_mildestOf_26 : decode cX11_mildestOf 26 = .ok (.iload_n 3, 1) := by decide +kernel
theorem dX11_mildestOf_27 : decode cX11_mildestOf 27 = .ok (.iload 5, 2) := by decide +kernel
theorem dX11_mildestOf_29 : decode cX11_mildestOf 29 = .ok (.iadd, 1) := by decide +kernel
theorem dX11_mildestOf_30 : decode cX11_mildestOf 30 = .ok (.invokevirtual 241, 3) := by decide +kernel
theorem dX11_mildestOf_33 : decode cX11_mildestOf 33 = .ok (.istore 6, 2) := by decide +kernel
theorem dX11_mildestOf_35 : decode cX11_mildestOf 35 = .ok (.iload 6, 2) := by decide +kernel
theorem dX11_mildestOf_37 : decode cX11_mildestOf 37 = .ok (.ifCond .lt 20, 3) := by decide +kernel
theorem dX11_mildestOf_40 : decode cX11_mildestOf 40 = .ok (.iload 4, 2) := by decide +kernel
theorem dX11_mildestOf_42 : decode cX11_mildestOf 42 = .ok (.ifCond .lt 10, 3) := by decide +kernel
theorem dX11_mildestOf_45 : decode cX11_mildestOf 45 = .ok (.iload 6, 2) := by decide +kernel
theorem dX11_mildestOf_47 : decode cX11_mildestOf 47 = .ok (.iload 4, 2) := by decide +kernel
theorem dX11_mildestOf_49 : decode cX11_mildestOf 49 = .ok (.if_icmp .ge 8, 3) := by decide +kernel
theorem dX11_mildestOf_52 : decode cX11_mildestOf 52 = .ok (.iload 6, 2) := by decide +kernel
theorem dX11_mildestOf_54 : decode cX11_mildestOf 54 = .ok (.goto 5, 3) := by decide +kernel
theorem dX11_mildestOf_57 : decode cX11_mildestOf 57 = .ok (.iload 4, 2) := by decide +kernel
theorem dX11_mildestOf_59 : decode cX11_mildestOf 59 = .ok (.istore 4, 2) := by decide +kernel
theorem dX11_mildestOf_61 : decode cX11_mildestOf 61 = .ok (.iinc 5 1, 3) := by decide +kernel
theorem dX11_mildestOf_64 : decode cX11_mildestOf 64 = .ok (.goto (-57), 3) := by decide +kernel
theorem dX11_mildestOf_67 : decode cX11_mildestOf 67 = .ok (.iload 4, 2) := by decide +kernel
theorem dX11_mildestOf_69 : decode cX11_mildestOf 69 = .ok (.ireturn, 1) := by decide +kernel
theorem dX11_mayOf_0 : decode cX11_mayOf 0 = .ok (.aload_n 0, 1) := by decide +kernel
theorem dX11_mayOf_1 : decode cX11_mayOf 1 = .ok (.getfield 9, 3) := by decide +kernel
theorem dX11_mayOf_4 : decode cX11_mayOf 4 = .ok (.bipush 6, 2) := by decide +kernel
theorem dX11_mayOf_6 : decode cX11_mayOf 6 = .ok (.iload_n 1, 1) := by decide +kernel
theorem dX11_mayOf_7 : decode cX11_mayOf 7 = .ok (.iadd, 1) := by decide +kernel
theorem dX11_mayOf_8 : decode cX11_mayOf 8 = .ok (.iaload, 1) := by decide +kernel
theorem dX11_mayOf_9 : decode cX11_mayOf 9 = .ok (.iconst 1, 1) := by decide +kernel
theorem dX11_mayOf_10 : decode cX11_mayOf 10 = .ok (.isub, 1) := by decide +kernel
theorem dX11_mayOf_11 : decode cX11_mayOf 11 = .ok (.istore 4, 2) := by decide +kernel
theorem dX11_mayOf_13 : decode cX11_mayOf 13 = .ok (.aload_n 0, 1) := by decide +kernel
theorem dX11_mayOf_14 : decode cX11_mayOf 14 = .ok (.getfield 9, 3) := by decide +kernel
theorem dX11_mayOf_17 : decode cX11_mayOf 17 = .ok (.bipush 18, 2) := by decide +kernel
theorem dX11_mayOf_19 : decode cX11_mayOf 19 = .ok (.iload_n 1, 1) := by decide +kernel
theorem dX11_mayOf_20 : decode cX11_mayOf 20 = .ok (.iadd, 1) := by decide +kernel
theorem dX11_mayOf_21 : decode cX11_mayOf 21 = .ok (.iaload, 1) := by decide +kernel
theorem dX11_mayOf_22 : decode cX11_mayOf 22 = .ok (.tableswitch 56 0 2 #[26, 35, 48], 26) := by decide +kernel
theorem dX11_mayOf_48 : decode cX11_mayOf 48 = .ok (.aload_n 0, 1) := by decide +kernel
theorem dX11_mayOf_49 : decode cX11_mayOf 49 = .ok (.iload_n 1, 1) := by decide +kernel
theorem dX11_mayOf_50 : decode cX11_mayOf 50 = .ok (.iload_n 2, 1) := by decide +kernel
theorem dX11_mayOf_51 : decode cX11_mayOf 51 = .ok (.iconst 0, 1) := by decide +kernel
theorem dX11_mayOf_52 : decode cX11_mayOf 52 = .ok (.iload_n 3, 1) := by decide +kernel
theorem dX11_mayOf_53 : decode cX11_mayOf 53 = .ok (.invokevirtual 241, 3) := by decide +kernel
theorem dX11_mayOf_56 : decode cX11_mayOf 56 = .ok (.ireturn, 1) := by decide +kernel
theorem dX11_mayOf_57 : decode cX11_mayOf 57 = .ok (.aload_n 0, 1) := by decide +kernel
theorem dX11_mayOf_58 : decode cX11_mayOf 58 = .ok (.iload_n 1, 1) := by decide +kernel
theorem dX11_mayOf_59 : decode cX11_mayOf 59 = .ok (.iload_n 2, 1) := by decide +kernel
theorem dX11_mayOf_60 : decode cX11_mayOf 60 = .ok (.iload 4, 2) := by decide +kernel
theorem dX11_mayOf_62 : decode cX11_mayOf 62 = .ok (.iload_n 3, 1) := by decide +kernel
theorem dX11_mayOf_63 : decode cX11_mayOf 63 = .ok (.iload 4, 2) := by decide +kernel
theorem dX11_mayOf_65 : decode cX11_mayOf 65 = .ok (.iadd, 1) := by decide +kernel
theorem dX11_mayOf_66 : decode cX11_mayOf 66 = .ok (.invokevirtual 241, 3) := by decide +kernel
theorem dX11_mayOf_69 : decode cX11_mayOf 69 = .ok (.ireturn, 1) := by decide +kernel
theorem dX11_mayOf_70 : decode cX11_mayOf 70 = .ok (.aload_n 0, 1) := by decide +kernel
theorem dX11_mayOf_71 : decode cX11_mayOf 71 = .ok (.iload_n 1, 1) := by decide +kernel
theorem dX11_mayOf_72 : decode cX11_mayOf 72 = .ok (.iload_n 2, 1) := by decide +kernel
theorem dX11_mayOf_73 : decode cX11_mayOf 73 = .ok (.iload_n 3, 1) := by decide +kernel
theorem dX11_mayOf_74 : decode cX11_mayOf 74 = .ok (.invokevirtual 245, 3) := by decide +kernel
theorem dX11_mayOf_77 : decode cX11_mayOf 77 = .ok (.ireturn, 1) := by decide +kernel
theorem dX11_mayOf_78 : decode cX11_mayOf 78 = .ok (.aload_n 0, 1) := by decide +kernel
theorem dX11_mayOf_79 : decode cX11_mayOf 79 = .ok (.iload_n 1, 1) := by decide +kernel
theorem dX11_mayOf_80 : decode cX11_mayOf 80 = .ok (.iload_n 2, 1) := by decide +kernel
theorem dX11_mayOf_81 : decode cX11_mayOf 81 = .ok (.iload_n 3, 1) := by decide +kernel
theorem dX11_mayOf_82 : decode cX11_mayOf 82 = .ok (.invokevirtual 249, 3) := by decide +kernel
theorem dX11_mayOf_85 : decode cX11_mayOf 85 = .ok (.ireturn, 1) := by decide +kernel
theorem dX11_may_0 : decode cX11_may 0 = .ok (.aload_n 0, 1) := by decide +kernel
theorem dX11_may_1 : decode cX11_may 1 = .ok (.iload_n 1, 1) := by decide +kernel
theorem dX11_may_2 : decode cX11_may 2 = .ok (.invokevirtual 237, 3) := by decide +kernel
theorem dX11_may_5 : decode cX11_may 5 = .ok (.ifCond .eq 26, 3) := by decide +kernel
theorem dX11_may_8 : decode cX11_may 8 = .ok (.iload_n 2, 1) := by decide +kernel
theorem dX11_may_9 : decode cX11_may 9 = .ok (.invokestatic 134, 3) := by decide +kernel
theorem dX11_may_12 : decode cX11_may 12 = .ok (.ifCond .eq 19, 3) := by decide +kernel
theorem dX11_may_15 : decode cX11_may 15 = .ok (.aload_n 0, 1) := by decide +kernel
theorem dX11_may_16 : decode cX11_may 16 = .ok (.iload_n 1, 1) := by decide +kernel
theorem dX11_may_17 : decode cX11_may 17 = .ok (.bipush 10, 2) := by decide +kernel
theorem dX11_may_19 : decode cX11_may 19 = .ok (.idiv, 1) := by decide +kernel
theorem dX11_may_20 : decode cX11_may 20 = .ok (.iload_n 1, 1) := by decide +kernel
theorem dX11_may_21 : decode cX11_may 21 = .ok (.bipush 10, 2) := by decide +kernel
theorem dX11_may_23 : decode cX11_may 23 = .ok (.irem, 1) := by decide +kernel
theorem dX11_may_24 : decode cX11_may 24 = .ok (.iload_n 2, 1) := by decide +kernel
theorem dX11_may_25 : decode cX11_may 25 = .ok (.invokevirtual 252, 3) := by decide +kernel
theorem dX11_may_28 : decode cX11_may 28 = .ok (.goto 5, 3) := by decide +kernel
theorem dX11_may_31 : decode cX11_may 31 = .ok (.ldc 240, 2) := by decide +kernel
theorem dX11_may_33 : decode cX11_may 33 = .ok (.ireturn, 1) := by decide +kernel
theorem dX11_now_0 : decode cX11_now 0 = .ok (.aload_n 0, 1) := by decide +kernel
theorem dX11_now_1 : decode cX11_now 1 = .ok (.iload_n 1, 1) := by decide +kernel
theorem dX11_now_2 : decode cX11_now 2 = .ok (.invokevirtual 119, 3) := by decide +kernel
theorem dX11_now_5 : decode cX11_now 5 = .ok (.ifCond .eq 10, 3) := by decide +kernel
theorem dX11_now_8 : decode cX11_now 8 = .ok (.iload_n 2, 1) := by decide +kernel
theorem dX11_now_9 : decode cX11_now 9 = .ok (.invokestatic 134, 3) := by decide +kernel
theorem dX11_now_12 : decode cX11_now 12 = .ok (.ifCond .ne 5, 3) := by decide +kernel
theorem dX11_now_15 : decode cX11_now 15 = .ok (.iconst (-1), 1) := by decide +kernel
theorem dX11_now_16 : decode cX11_now 16 = .ok (.ireturn, 1) := by decide +kernel
theorem dX11_now_17 : decode cX11_now 17 = .ok (.iconst 0, 1) := by decide +kernel
theorem dX11_now_18 : decode cX11_now 18 = .ok (.istore_n 3, 1) := by decide +kernel
theorem dX11_now_19 : decode cX11_now 19 = .ok (.iconst 0, 1) := by decide +kernel
theorem dX11_now_20 : decode cX11_now 20 = .ok (.istore 4, 2) := by decide +kernel
theorem dX11_now_22 : decode cX11_now 22 = .ok (.iload 4, 2) := by decide +kernel
theorem dX11_now_24 : decode cX11_now 24 = .ok (.aload_n 0, 1) := by decide +kernel
theorem dX11_now_25 : decode cX11_now 25 = .ok (.getfield 196, 3) := by decide +kernel
theorem dX11_now_28 : decode cX11_now 28 = .ok (.if_icmp .ge 31, 3) := by decide +kernel
theorem dX11_now_31 : decode cX11_now 31 = .ok (.iload_n 3, 1) := by decide +kernel
theorem dX11_now_32 : decode cX11_now 32 = .ok (.aload_n 0, 1) := by decide +kernel
theorem dX11_now_33 : decode cX11_now 33 = .ok (.iload 4, 2) := by decide +kernel
theorem dX11_now_35 : decode cX11_now 35 = .ok (.iload_n 1, 1) := by decide +kernel
theorem dX11_now_36 : decode cX11_now 36 = .ok (.iload_n 2, 1) := by decide +kernel
theorem dX11_now_37 : decode cX11_now 37 = .ok (.invokevirtual 252, 3) := by decide +kernel
theorem dX11_now_40 : decode cX11_now 40 = .ok (.ifCond .lt 10, 3) := by decide +kernel
theorem dX11_now_43 : decode cX11_now 43 = .ok (.iconst 1, 1) := by decide +kernel
theorem dX11_now_44 : decode cX11_now 44 = .ok (.iload 4, 2) := by decide +kernel
theorem dX11_now_46 : decode cX11_now 46 = .ok (.ishl, 1) := by decide +kernel
theorem dX11_now_47 : decode cX11_now 47 = .ok (.goto 4, 3) := by decide +kernel
theorem dX11_now_50 : decode cX11_now 50 = .ok (.iconst 0, 1) := by decide +kernel
theorem dX11_now_51 : decode cX11_now 51 = .ok (.ior, 1) := by decide +kernel
theorem dX11_now_52 : decode cX11_now 52 = .ok (.istore_n 3, 1) := by decide +kernel
theorem dX11_now_53 : decode cX11_now 53 = .ok (.iinc 4 1, 3) := by decide +kernel
theorem dX11_now_56 : decode cX11_now 56 = .ok (.goto (-34), 3) := by decide +kernel
theorem dX11_now_59 : decode cX11_now 59 = .ok (.iload_n 3, 1) := by decide +kernel
theorem dX11_now_60 : decode cX11_now 60 = .ok (.ireturn, 1) := by decide +kernel
theorem dX11_fromOf_0 : decode cX11_fromOf 0 = .ok (.iload_n 3, 1) := by decide +kernel
theorem dX11_fromOf_1 : decode cX11_fromOf 1 = .ok (.istore 4, 2) := by decide +kernel
theorem dX11_fromOf_3 : decode cX11_fromOf 3 = .ok (.iload 4, 2) := by decide +kernel
theorem dX11_fromOf_5 : decode cX11_fromOf 5 = .ok (.iload_n 3, 1) := by decide +kernel
theorem dX11_fromOf_6 : decode cX11_fromOf 6 = .ok (.sipush 2000, 3) := by decide +kernel
theorem dX11_fromOf_9 : decode cX11_fromOf 9 = .ok (.iadd, 1) := by decide +kernel
theorem dX11_fromOf_10 : decode cX11_fromOf 10 = .ok (.if_icmp .ge 23, 3) := by decide +kernel
theorem dX11_fromOf_13 : decode cX11_fromOf 13 = .ok (.aload_n 0, 1) := by decide +kernel
theorem dX11_fromOf_14 : decode cX11_fromOf 14 = .ok (.iload_n 1, 1) := by decide +kernel
theorem dX11_fromOf_15 : decode cX11_fromOf 15 = .ok (.iload_n 2, 1) := by decide +kernel
theorem dX11_fromOf_16 : decode cX11_fromOf 16 = .ok (.iload 4, 2) := by decide +kernel
theorem dX11_fromOf_18 : decode cX11_fromOf 18 = .ok (.invokevirtual 252, 3) := by decide +kernel
theorem dX11_fromOf_21 : decode cX11_fromOf 21 = .ok (.ifCond .lt 6, 3) := by decide +kernel
theorem dX11_fromOf_24 : decode cX11_fromOf 24 = .ok (.iload 4, 2) := by decide +kernel
theorem dX11_fromOf_26 : decode cX11_fromOf 26 = .ok (.ireturn, 1) := by decide +kernel
theorem dX11_fromOf_27 : decode cX11_fromOf 27 = .ok (.iinc 4 1, 3) := by decide +kernel
theorem dX11_fromOf_30 : decode cX11_fromOf 30 = .ok (.goto (-27), 3) := by decide +kernel
theorem dX11_fromOf_33 : decode cX11_fromOf 33 = .ok (.bipush (-2), 2) := by decide +kernel
theorem dX11_fromOf_35 : decode cX11_fromOf 35 = .ok (.ireturn, 1) := by decide +kernel
theorem dX11_tillOf_0 : decode cX11_tillOf 0 = .ok (.aload_n 0, 1) := by decide +kernel
theorem dX11_tillOf_1 : decode cX11_tillOf 1 = .ok (.iload_n 1, 1) := by decide +kernel
theorem dX11_tillOf_2 : decode cX11_tillOf 2 = .ok (.iload_n 2, 1) := by decide +kernel
theorem dX11_tillOf_3 : decode cX11_tillOf 3 = .ok (.iload_n 3, 1) := by decide +kernel
theorem dX11_tillOf_4 : decode cX11_tillOf 4 = .ok (.invokevirtual 252, 3) := by decide +kernel
theorem dX11_tillOf_7 : decode cX11_tillOf 7 = .ok (.ifCond .ge 6, 3) := by decide +kernel
theorem dX11_tillOf_10 : decode cX11_tillOf 10 = .ok (.bipush (-5), 2) := by decide +kernel
theorem dX11_tillOf_12 : decode cX11_tillOf 12 = .ok (.ireturn, 1) := by decide +kernel
theorem dX11_tillOf_13 : decode cX11_tillOf 13 = .ok (.iload_n 3, 1) := by decide +kernel
theorem dX11_tillOf_14 : decode cX11_tillOf 14 = .ok (.iconst 1, 1) := by decide +kernel
theorem dX11_tillOf_15 : decode cX11_tillOf 15 = .ok (.iadd, 1) := by decide +kernel
theorem dX11_tillOf_16 : decode cX11_tillOf 16 = .ok (.istore 4, 2) := by decide +kernel
theorem dX11_tillOf_18 : decode cX11_tillOf 18 = .ok (.iload 4, 2) := by decide +kernel
theorem dX11_tillOf_20 : decode cX11_tillOf 20 = .ok (.iload_n 3, 1) := by decide +kernel
theorem dX11_tillOf_21 : decode cX11_tillOf 21 = .ok (.sipush 2000, 3) := by decide +kernel
theorem dX11_tillOf_24 : decode cX11_tillOf 24 = .ok (.iadd, 1) := by decide +kernel
theorem dX11_tillOf_25 : decode cX11_tillOf 25 = .ok (.if_icmp .gt 23, 3) := by decide +kernel
theorem dX11_tillOf_28 : decode cX11_tillOf 28 = .ok (.aload_n 0, 1) := by decide +kernel
theorem dX11_tillOf_29 : decode cX11_tillOf 29 = .ok (.iload_n 1, 1) := by decide +kernel
theorem dX11_tillOf_30 : decode cX11_tillOf 30 = .ok (.iload_n 2, 1) := by decide +kernel
theorem dX11_tillOf_31 : decode cX11_tillOf 31 = .ok (.iload 4, 2) := by decide +kernel
theorem dX11_tillOf_33 : decode cX11_tillOf 33 = .ok (.invokevirtual 252, 3) := by decide +kernel
theorem dX11_tillOf_36 : decode cX11_tillOf 36 = .ok (.ifCond .ge 6, 3) := by decide +kernel
theorem dX11_tillOf_39 : decode cX11_tillOf 39 = .ok (.iload 4, 2) := by decide +kernel
theorem dX11_tillOf_41 : decode cX11_tillOf 41 = .ok (.ireturn, 1) := by decide +kernel
theorem dX11_tillOf_42 : decode cX11_tillOf 42 = .ok (.iinc 4 1, 3) := by decide +kernel
theorem dX11_tillOf_45 : decode cX11_tillOf 45 = .ok (.goto (-27), 3) := by decide +kernel
theorem dX11_tillOf_48 : decode cX11_tillOf 48 = .ok (.bipush (-2), 2) := by decide +kernel
theorem dX11_tillOf_50 : decode cX11_tillOf 50 = .ok (.ireturn, 1) := by decide +kernel
theorem dX11_when_0 : decode cX11_when 0 = .ok (.aload_n 0, 1) := by decide +kernel
theorem dX11_when_1 : decode cX11_when 1 = .ok (.iload_n 1, 1) := by decide +kernel
theorem dX11_when_2 : decode cX11_when 2 = .ok (.invokevirtual 237, 3) := by decide +kernel
theorem dX11_when_5 : decode cX11_when 5 = .ok (.ifCond .eq 20, 3) := by decide +kernel
theorem dX11_when_8 : decode cX11_when 8 = .ok (.iload_n 2, 1) := by decide +kernel
theorem dX11_when_9 : decode cX11_when 9 = .ok (.invokestatic 134, 3) := by decide +kernel
theorem dX11_when_12 : decode cX11_when 12 = .ok (.ifCond .eq 13, 3) := by decide +kernel
theorem dX11_when_15 : decode cX11_when 15 = .ok (.iload_n 3, 1) := by decide +kernel
theorem dX11_when_16 : decode cX11_when 16 = .ok (.i2l, 1) := by decide +kernel
theorem dX11_when_17 : decode cX11_when 17 = .ok (.lconst 0, 1) := by decide +kernel
theorem dX11_when_18 : decode cX11_when 18 = .ok (.lconst 1, 1) := by decide +kernel
theorem dX11_when_19 : decode cX11_when 19 = .ok (.invokestatic 106, 3) := by decide +kernel
theorem dX11_when_22 : decode cX11_when 22 = .ok (.ifCond .ne 5, 3) := by decide +kernel
theorem dX11_when_25 : decode cX11_when 25 = .ok (.iconst (-1), 1) := by decide +kernel
theorem dX11_when_26 : decode cX11_when 26 = .ok (.ireturn, 1) := by decide +kernel
theorem dX11_when_27 : decode cX11_when 27 = .ok (.iload_n 3, 1) := by decide +kernel
theorem dX11_when_28 : decode cX11_when 28 = .ok (.ifCond .ne 19, 3) := by decide +kernel
theorem dX11_when_31 : decode cX11_when 31 = .ok (.aload_n 0, 1) := by decide +kernel
theorem dX11_when_32 : decode cX11_when 32 = .ok (.iload_n 1, 1) := by decide +kernel
theorem dX11_when_33 : decode cX11_when 33 = .ok (.bipush 10, 2) := by decide +kernel
theorem dX11_when_35 : decode cX11_when 35 = .ok (.idiv, 1) := by decide +kernel
theorem dX11_when_36 : decode cX11_when 36 = .ok (.iload_n 1, 1) := by decide +kernel
theorem dX11_when_37 : decode cX11_when 37 = .ok (.bipush 10, 2) := by decide +kernel
theorem dX11_when_39 : decode cX11_when 39 = .ok (.irem, 1) := by decide +kernel
theorem dX11_when_40 : decode cX11_when 40 = .ok (.iload_n 2, 1) := by decide +kernel
theorem dX11_when_41 : decode cX11_when 41 = .ok (.invokevirtual 255, 3) := by decide +kernel
theorem dX11_when_44 : decode cX11_when 44 = .ok (.goto 16, 3) := by decide +kernel
theorem dX11_when_47 : decode cX11_when 47 = .ok (.aload_n 0, 1) := by decide +kernel
theorem dX11_when_48 : decode cX11_when 48 = .ok (.iload_n 1, 1) := by decide +kernel
theorem dX11_when_49 : decode cX11_when 49 = .ok (.bipush 10, 2) := by decide +kernel
theorem dX11_when_51 : decode cX11_when 51 = .ok (.idiv, 1) := by decide +kernel
theorem dX11_when_52 : decode cX11_when 52 = .ok (.iload_n 1, 1) := by decide +kernel
theorem dX11_when_53 : decode cX11_when 53 = .ok (.bipush 10, 2) := by decide +kernel
theorem dX11_when_55 : decode cX11_when 55 = .ok (.irem, 1) := by decide +kernel
theorem dX11_when_56 : decode cX11_when 56 = .ok (.iload_n 2, 1) := by decide +kernel
theorem dX11_when_57 : decode cX11_when 57 = .ok (.invokevirtual 258, 3) := by decide +kernel
theorem dX11_when_60 : decode cX11_when 60 = .ok (.ireturn, 1) := by decide +kernel
theorem dX11_cheapest_0 : decode cX11_cheapest 0 = .ok (.aload_n 0, 1) := by decide +kernel
theorem dX11_cheapest_1 : decode cX11_cheapest 1 = .ok (.iload_n 1, 1) := by decide +kernel
theorem dX11_cheapest_2 : decode cX11_cheapest 2 = .ok (.invokevirtual 237, 3) := by decide +kernel
theorem dX11_cheapest_5 : decode cX11_cheapest 5 = .ok (.ifCond .eq 33, 3) := by decide +kernel
theorem dX11_cheapest_8 : decode cX11_cheapest 8 = .ok (.iload_n 2, 1) := by decide +kernel
theorem dX11_cheapest_9 : decode cX11_cheapest 9 = .ok (.invokestatic 134, 3) := by decide +kernel
theorem dX11_cheapest_12 : decode cX11_cheapest 12 = .ok (.ifCond .eq 26, 3) := by decide +kernel
theorem dX11_cheapest_15 : decode cX11_cheapest 15 = .ok (.iload_n 3, 1) := by decide +kernel
theorem dX11_cheapest_16 : decode cX11_cheapest 16 = .ok (.i2l, 1) := by decide +kernel
theorem dX11_cheapest_17 : decode cX11_cheapest 17 = .ok (.lconst 1, 1) := by decide +kernel
theorem dX11_cheapest_18 : decode cX11_cheapest 18 = .ok (.ldc2_w 261, 3) := by decide +kernel
theorem dX11_cheapest_21 : decode cX11_cheapest 21 = .ok (.invokestatic 106, 3) := by decide +kernel
theorem dX11_cheapest_24 : decode cX11_cheapest 24 = .ok (.ifCond .eq 14, 3) := by decide +kernel
theorem dX11_cheapest_27 : decode cX11_cheapest 27 = .ok (.iload 4, 2) := by decide +kernel
theorem dX11_cheapest_29 : decode cX11_cheapest 29 = .ok (.i2l, 1) := by decide +kernel
theorem dX11_cheapest_30 : decode cX11_cheapest 30 = .ok (.lconst 0, 1) := by decide +kernel
theorem dX11_cheapest_31 : decode cX11_cheapest 31 = .ok (.lconst 1, 1) := by decide +kernel
theorem dX11_cheapest_32 : decode cX11_cheapest 32 = .ok (.invokestatic 106, 3) := by decide +kernel
theorem dX11_cheapest_35 : decode cX11_cheapest 35 = .ok (.ifCond .ne 6, 3) := by decide +kernel
theorem dX11_cheapest_38 : decode cX11_cheapest 38 = .ok (.ldc 240, 2) := by decide +kernel
theorem dX11_cheapest_40 : decode cX11_cheapest 40 = .ok (.ireturn, 1) := by decide +kernel
theorem dX11_cheapest_41 : decode cX11_cheapest 41 = .ok (.iconst (-1), 1) := by decide +kernel
theorem dX11_cheapest_42 : decode cX11_cheapest 42 = .ok (.istore 5, 2) := by decide +kernel
theorem dX11_cheapest_44 : decode cX11_cheapest 44 = .ok (.iconst (-1), 1) := by decide +kernel
theorem dX11_cheapest_45 : decode cX11_cheapest 45 = .ok (.istore 6, 2) := by decide +kernel
theorem dX11_cheapest_47 : decode cX11_cheapest 47 = .ok (.iload_n 2, 1) := by decide +kernel
theorem dX11_cheapest_48 : decode cX11_cheapest 48 = .ok (.istore 7, 2) := by decide +kernel
theorem dX11_cheapest_50 : decode cX11_cheapest 50 = .ok (.iload 7, 2) := by decide +kernel
theorem dX11_cheapest_52 : decode cX11_cheapest 52 = .ok (.iload_n 2, 1) := by decide +kernel
theorem dX11_cheapest_53 : decode cX11_cheapest 53 = .ok (.iload_n 3, 1) := by decide +kernel
theorem dX11_cheapest_54 : decode cX11_cheapest 54 = .ok (.iadd, 1) := by decide +kernel
theorem dX11_cheapest_55 : decode cX11_cheapest 55 = .ok (.if_icmp .ge 50, 3) := by decide +kernel
theorem dX11_cheapest_58 : decode cX11_cheapest 58 = .ok (.aload_n 0, 1) := by decide +kernel
theorem dX11_cheapest_59 : decode cX11_cheapest 59 = .ok (.iload_n 1, 1) := by decide +kernel
theorem dX11_cheapest_60 : decode cX11_cheapest 60 = .ok (.bipush 10, 2) := by decide +kernel
theorem dX11_cheapest_62 : decode cX11_cheapest 62 = .ok (.idiv, 1) := by decide +kernel
theorem dX11_cheapest_63 : decode cX11_cheapest 63 = .ok (.iload_n 1, 1) := by decide +kernel
theorem dX11_cheapest_64 : decode cX11_cheapest 64 = .ok (.bipush 10, 2) := by decide +kernel
theorem dX11_cheapest_66 : decode cX11_cheapest 66 = .ok (.irem, 1) := by decide +kernel
theorem dX11_cheapest_67 : decode cX11_cheapest 67 = .ok (.iload 7, 2) := by decide +kernel
theorem dX11_cheapest_69 : decode cX11_cheapest 69 = .ok (.invokevirtual 252, 3) := by decide +kernel
theorem dX11_cheapest_72 : decode cX11_cheapest 72 = .ok (.istore 8, 2) := by decide +kernel
theorem dX11_cheapest_74 : decode cX11_cheapest 74 = .ok (.iload 8, 2) := by decide +kernel
theorem dX11_cheapest_76 : decode cX11_cheapest 76 = .ok (.ifCond .lt 23, 3) := by decide +kernel
theorem dX11_cheapest_79 : decode cX11_cheapest 79 = .ok (.iload 5, 2) := by decide +kernel
theorem dX11_cheapest_81 : decode cX11_cheapest 81 = .ok (.ifCond .lt 10, 3) := by decide +kernel
theorem dX11_cheapest_84 : decode cX11_cheapest 84 = .ok (.iload 8, 2) := by decide +kernel
theorem dX11_cheapest_86 : decode cX11_cheapest 86 = .ok (.iload 6, 2) := by decide +kernel
theorem dX11_cheapest_88 : decode cX11_cheapest 88 = .ok (.if_icmp .ge 11, 3) := by decide +kernel
theorem dX11_cheapest_91 : decode cX11_cheapest 91 = .ok (.iload 7, 2) := by decide +kernel
theorem dX11_cheapest_93 : decode cX11_cheapest 93 = .ok (.istore 5, 2) := by decide +kernel
theorem dX11_cheapest_95 : decode cX11_cheapest 95 = .ok (.iload 8, 2) := by decide +kernel
theorem dX11_cheapest_97 : decode cX11_cheapest 97 = .ok (.istore 6, 2) := by decide +kernel
theorem dX11_cheapest_99 : decode cX11_cheapest 99 = .ok (.iinc 7 1, 3) := by decide +kernel
theorem dX11_cheapest_102 : decode cX11_cheapest 102 = .ok (.goto (-52), 3) := by decide +kernel
theorem dX11_cheapest_105 : decode cX11_cheapest 105 = .ok (.iload 4, 2) := by decide +kernel
theorem dX11_cheapest_107 : decode cX11_cheapest 107 = .ok (.ifCond .ne 8, 3) := by decide +kernel
theorem dX11_cheapest_110 : decode cX11_cheapest 110 = .ok (.iload 5, 2) := by decide +kernel
theorem dX11_cheapest_112 : decode cX11_cheapest 112 = .ok (.goto 5, 3) := by decide +kernel
theorem dX11_cheapest_115 : decode cX11_cheapest 115 = .ok (.iload 6, 2) := by decide +kernel
theorem dX11_cheapest_117 : decode cX11_cheapest 117 = .ok (.ireturn, 1) := by decide +kernel
theorem dX11_broken_0 : decode cX11_broken 0 = .ok (.aload_n 0, 1) := by decide +kernel
theorem dX11_broken_1 : decode cX11_broken 1 = .ok (.iload_n 1, 1) := by decide +kernel
theorem dX11_broken_2 : decode cX11_broken 2 = .ok (.invokevirtual 237, 3) := by decide +kernel
theorem dX11_broken_5 : decode cX11_broken 5 = .ok (.ifCond .eq 22, 3) := by decide +kernel
theorem dX11_broken_8 : decode cX11_broken 8 = .ok (.iload_n 2, 1) := by decide +kernel
theorem dX11_broken_9 : decode cX11_broken 9 = .ok (.invokestatic 134, 3) := by decide +kernel
theorem dX11_broken_12 : decode cX11_broken 12 = .ok (.ifCond .eq 15, 3) := by decide +kernel
theorem dX11_broken_15 : decode cX11_broken 15 = .ok (.iload_n 3, 1) := by decide +kernel
theorem dX11_broken_16 : decode cX11_broken 16 = .ok (.i2l, 1) := by decide +kernel
theorem dX11_broken_17 : decode cX11_broken 17 = .ok (.lconst 0, 1) := by decide +kernel
theorem dX11_broken_18 : decode cX11_broken 18 = .ok (.ldc2_w 115, 3) := by decide +kernel
theorem dX11_broken_21 : decode cX11_broken 21 = .ok (.invokestatic 106, 3) := by decide +kernel
theorem dX11_broken_24 : decode cX11_broken 24 = .ok (.ifCond .ne 6, 3) := by decide +kernel
theorem dX11_broken_27 : decode cX11_broken 27 = .ok (.ldc 240, 2) := by decide +kernel
theorem dX11_broken_29 : decode cX11_broken 29 = .ok (.ireturn, 1) := by decide +kernel
theorem dX11_broken_30 : decode cX11_broken 30 = .ok (.iload_n 1, 1) := by decide +kernel
theorem dX11_broken_31 : decode cX11_broken 31 = .ok (.bipush 10, 2) := by decide +kernel
theorem dX11_broken_33 : decode cX11_broken 33 = .ok (.idiv, 1) := by decide +kernel
theorem dX11_broken_34 : decode cX11_broken 34 = .ok (.istore 4, 2) := by decide +kernel
theorem dX11_broken_36 : decode cX11_broken 36 = .ok (.iload_n 2, 1) := by decide +kernel
theorem dX11_broken_37 : decode cX11_broken 37 = .ok (.istore 5, 2) := by decide +kernel
theorem dX11_broken_39 : decode cX11_broken 39 = .ok (.iconst 0, 1) := by decide +kernel
theorem dX11_broken_40 : decode cX11_broken 40 = .ok (.istore 6, 2) := by decide +kernel
theorem dX11_broken_42 : decode cX11_broken 42 = .ok (.iconst 0, 1) := by decide +kernel
theorem dX11_broken_43 : decode cX11_broken 43 = .ok (.istore 7, 2) := by decide +kernel
theorem dX11_broken_45 : decode cX11_broken 45 = .ok (.iload 7, 2) := by decide +kernel
theorem dX11_broken_47 : decode cX11_broken 47 = .ok (.aload_n 0, 1) := by decide +kernel
theorem dX11_broken_48 : decode cX11_broken 48 = .ok (.getfield 9, 3) := by decide +kernel
theorem dX11_broken_51 : decode cX11_broken 51 = .ok (.bipush 6, 2) := by decide +kernel
theorem dX11_broken_53 : decode cX11_broken 53 = .ok (.iload 4, 2) := by decide +kernel
theorem dX11_broken_55 : decode cX11_broken 55 = .ok (.iadd, 1) := by decide +kernel
theorem dX11_broken_56 : decode cX11_broken 56 = .ok (.iaload, 1) := by decide +kernel
theorem dX11_broken_57 : decode cX11_broken 57 = .ok (.if_icmp .ge 78, 3) := by decide +kernel
theorem dX11_broken_60 : decode cX11_broken 60 = .ok (.iload 5, 2) := by decide +kernel
theorem dX11_broken_62 : decode cX11_broken 62 = .ok (.sipush 2000, 3) := by decide +kernel
theorem dX11_broken_65 : decode cX11_broken 65 = .ok (.iadd, 1) := by decide +kernel
theorem dX11_broken_66 : decode cX11_broken 66 = .ok (.istore 8, 2) := by decide +kernel
theorem dX11_broken_68 : decode cX11_broken 68 = .ok (.iload 5, 2) := by decide +kernel
theorem dX11_broken_70 : decode cX11_broken 70 = .ok (.iload 8, 2) := by decide +kernel
theorem dX11_broken_72 : decode cX11_broken 72 = .ok (.if_icmp .ge 26, 3) := by decide +kernel
theorem dX11_broken_75 : decode cX11_broken 75 = .ok (.aload_n 0, 1) := by decide +kernel
theorem dX11_broken_76 : decode cX11_broken 76 = .ok (.iload 4, 2) := by decide +kernel
theorem dX11_broken_78 : decode cX11_broken 78 = .ok (.iload_n 1, 1) := by decide +kernel
theorem dX11_broken_79 : decode cX11_broken 79 = .ok (.bipush 10, 2) := by decide +kernel
theorem dX11_broken_81 : decode cX11_broken 81 = .ok (.irem, 1) := by decide +kernel
theorem dX11_broken_82 : decode cX11_broken 82 = .ok (.iload 7, 2) := by decide +kernel
theorem dX11_broken_84 : decode cX11_broken 84 = .ok (.iload 5, 2) := by decide +kernel
theorem dX11_broken_86 : decode cX11_broken 86 = .ok (.invokevirtual 241, 3) := by decide +kernel
theorem dX11_broken_89 : decode cX11_broken 89 = .ok (.ifCond .ge 9, 3) := by decide +kernel
theorem dX11_broken_92 : decode cX11_broken 92 = .ok (.iinc 5 1, 3) := by decide +kernel
theorem dX11_broken_95 : decode cX11_broken 95 = .ok (.goto (-27), 3) := by decide +kernel
theorem dX11_broken_98 : decode cX11_broken 98 = .ok (.iload 5, 2) := by decide +kernel
theorem dX11_broken_100 : decode cX11_broken 100 = .ok (.iload 8, 2) := by decide +kernel
theorem dX11_broken_102 : decode cX11_broken 102 = .ok (.if_icmp .ne 5, 3) := by decide +kernel
theorem dX11_broken_105 : decode cX11_broken 105 = .ok (.iconst (-1), 1) := by decide +kernel
theorem dX11_broken_106 : decode cX11_broken 106 = .ok (.ireturn, 1) := by decide +kernel
theorem dX11_broken_107 : decode cX11_broken 107 = .ok (.iload 6, 2) := by decide +kernel
theorem dX11_broken_109 : decode cX11_broken 109 = .ok (.aload_n 0, 1) := by decide +kernel
theorem dX11_broken_110 : decode cX11_broken 110 = .ok (.iload 4, 2) := by decide +kernel
theorem dX11_broken_112 : decode cX11_broken 112 = .ok (.iload_n 1, 1) := by decide +kernel
theorem dX11_broken_113 : decode cX11_broken 113 = .ok (.bipush 10, 2) := by decide +kernel
theorem dX11_broken_115 : decode cX11_broken 115 = .ok (.irem, 1) := by decide +kernel
theorem dX11_broken_116 : decode cX11_broken 116 = .ok (.iload 7, 2) := by decide +kernel
theorem dX11_broken_118 : decode cX11_broken 118 = .ok (.iload 5, 2) := by decide +kernel
theorem dX11_broken_120 : decode cX11_broken 120 = .ok (.invokevirtual 241, 3) := by decide +kernel
theorem dX11_broken_123 : decode cX11_broken 123 = .ok (.iadd, 1) := by decide +kernel
theorem dX11_broken_124 : decode cX11_broken 124 = .ok (.istore 6, 2) := by decide +kernel
theorem dX11_broken_126 : decode cX11_broken 126 = .ok (.iinc 5 1, 3) := by decide +kernel
theorem dX11_broken_129 : decode cX11_broken 129 = .ok (.iinc 7 1, 3) := by decide +kernel
theorem dX11_broken_132 : decode cX11_broken 132 = .ok (.goto (-87), 3) := by decide +kernel
theorem dX11_broken_135 : decode cX11_broken 135 = .ok (.iload_n 3, 1) := by decide +kernel
theorem dX11_broken_136 : decode cX11_broken 136 = .ok (.ifCond .ne 10, 3) := by decide +kernel
theorem dX11_broken_139 : decode cX11_broken 139 = .ok (.iload 5, 2) := by decide +kernel
theorem dX11_broken_141 : decode cX11_broken 141 = .ok (.iconst 1, 1) := by decide +kernel
theorem dX11_broken_142 : decode cX11_broken 142 = .ok (.isub, 1) := by decide +kernel
theorem dX11_broken_143 : decode cX11_broken 143 = .ok (.goto 28, 3) := by decide +kernel
theorem dX11_broken_146 : decode cX11_broken 146 = .ok (.iload_n 3, 1) := by decide +kernel
theorem dX11_broken_147 : decode cX11_broken 147 = .ok (.iconst 1, 1) := by decide +kernel
theorem dX11_broken_148 : decode cX11_broken 148 = .ok (.if_icmp .ne 8, 3) := by decide +kernel
theorem dX11_broken_151 : decode cX11_broken 151 = .ok (.iload 6, 2) := by decide +kernel
theorem dX11_broken_153 : decode cX11_broken 153 = .ok (.goto 18, 3) := by decide +kernel
theorem dX11_broken_156 : decode cX11_broken 156 = .ok (.iload 5, 2) := by decide +kernel
theorem dX11_broken_158 : decode cX11_broken 158 = .ok (.iload_n 2, 1) := by decide +kernel
theorem dX11_broken_159 : decode cX11_broken 159 = .ok (.isub, 1) := by decide +kernel
theorem dX11_broken_160 : decode cX11_broken 160 = .ok (.aload_n 0, 1) := by decide +kernel
theorem dX11_broken_161 : decode cX11_broken 161 = .ok (.getfield 9, 3) := by decide +kernel
theorem dX11_broken_164 : decode cX11_broken 164 = .ok (.bipush 6, 2) := by decide +kernel
theorem dX11_broken_166 : decode cX11_broken 166 = .ok (.iload 4, 2) := by decide +kernel
theorem dX11_broken_168 : decode cX11_broken 168 = .ok (.iadd, 1) := by decide +kernel
theorem dX11_broken_169 : decode cX11_broken 169 = .ok (.iaload, 1) := by decide +kernel
theorem dX11_broken_170 : decode cX11_broken 170 = .ok (.isub, 1) := by decide +kernel
theorem dX11_broken_171 : decode cX11_broken 171 = .ok (.ireturn, 1) := by decide +kernel
theorem dX11_findFar_0 : decode cX11_findFar 0 = .ok (.iconst 0, 1) := by decide +kernel
theorem dX11_findFar_1 : decode cX11_findFar 1 = .ok (.istore_n 2, 1) := by decide +kernel
theorem dX11_findFar_2 : decode cX11_findFar 2 = .ok (.iload_n 2, 1) := by decide +kernel
theorem dX11_findFar_3 : decode cX11_findFar 3 = .ok (.aload_n 0, 1) := by decide +kernel
theorem dX11_findFar_4 : decode cX11_findFar 4 = .ok (.getfield 110, 3) := by decide +kernel
theorem dX11_findFar_7 : decode cX11_findFar 7 = .ok (.if_icmp .ge 27, 3) := by decide +kernel
theorem dX11_findFar_10 : decode cX11_findFar 10 = .ok (.aload_n 0, 1) := by decide +kernel
theorem dX11_findFar_11 : decode cX11_findFar 11 = .ok (.getfield 65, 3) := by decide +kernel
theorem dX11_findFar_14 : decode cX11_findFar 14 = .ok (.iload_n 2, 1) := by decide +kernel
theorem dX11_findFar_15 : decode cX11_findFar 15 = .ok (.iload_n 2, 1) := by decide +kernel
theorem dX11_findFar_16 : decode cX11_findFar 16 = .ok (.iload_n 1, 1) := by decide +kernel
theorem dX11_findFar_17 : decode cX11_findFar 17 = .ok (.if_icmp .ne 7, 3) := by decide +kernel
theorem dX11_findFar_20 : decode cX11_findFar 20 = .ok (.iconst 0, 1) := by decide +kernel
theorem dX11_findFar_21 : decode cX11_findFar 21 = .ok (.goto 6, 3) := by decide +kernel
theorem dX11_findFar_24 : decode cX11_findFar 24 = .ok (.ldc_w 263, 3) := by decide +kernel
theorem dX11_findFar_27 : decode cX11_findFar 27 = .ok (.iastore, 1) := by decide +kernel
theorem dX11_findFar_28 : decode cX11_findFar 28 = .ok (.iinc 2 1, 3) := by decide +kernel
theorem dX11_findFar_31 : decode cX11_findFar 31 = .ok (.goto (-29), 3) := by decide +kernel
theorem dX11_findFar_34 : decode cX11_findFar 34 = .ok (.iconst 0, 1) := by decide +kernel
theorem dX11_findFar_35 : decode cX11_findFar 35 = .ok (.istore_n 2, 1) := by decide +kernel
theorem dX11_findFar_36 : decode cX11_findFar 36 = .ok (.iload_n 2, 1) := by decide +kernel
theorem dX11_findFar_37 : decode cX11_findFar 37 = .ok (.aload_n 0, 1) := by decide +kernel
theorem dX11_findFar_38 : decode cX11_findFar 38 = .ok (.getfield 110, 3) := by decide +kernel
theorem dX11_findFar_41 : decode cX11_findFar 41 = .ok (.if_icmp .ge 106, 3) := by decide +kernel
theorem dX11_findFar_44 : decode cX11_findFar 44 = .ok (.iconst 0, 1) := by decide +kernel
theorem dX11_findFar_45 : decode cX11_findFar 45 = .ok (.istore_n 3, 1) := by decide +kernel
theorem dX11_findFar_46 : decode cX11_findFar 46 = .ok (.iload_n 3, 1) := by decide +kernel
theorem dX11_findFar_47 : decode cX11_findFar 47 = .ok (.aload_n 0, 1) := by decide +kernel
theorem dX11_findFar_48 : decode cX11_findFar 48 = .ok (.getfield 110, 3) := by decide +kernel
theorem dX11_findFar_51 : decode cX11_findFar 51 = .ok (.if_icmp .ge 90, 3) := by decide +kernel
theorem dX11_findFar_54 : decode cX11_findFar 54 = .ok (.iconst 0, 1) := by decide +kernel
theorem dX11_findFar_55 : decode cX11_findFar 55 = .ok (.istore 4, 2) := by decide +kernel
theorem dX11_findFar_57 : decode cX11_findFar 57 = .ok (.iload 4, 2) := by decide +kernel
theorem dX11_findFar_59 : decode cX11_findFar 59 = .ok (.aload_n 0, 1) := by decide +kernel
theorem dX11_findFar_60 : decode cX11_findFar 60 = .ok (.getfield 110, 3) := by decide +kernel
theorem dX11_findFar_63 : decode cX11_findFar 63 = .ok (.if_icmp .ge 72, 3) := by decide +kernel
theorem dX11_findFar_66 : decode cX11_findFar 66 = .ok (.aload_n 0, 1) := by decide +kernel
theorem dX11_findFar_67 : decode cX11_findFar 67 = .ok (.getfield 31, 3) := by decide +kernel
theorem dX11_findFar_70 : decode cX11_findFar 70 = .ok (.iconst 5, 1) := by decide +kernel
theorem dX11_findFar_71 : decode cX11_findFar 71 = .ok (.iload_n 3, 1) := by decide +kernel
theorem dX11_findFar_72 : decode cX11_findFar 72 = .ok (.imul, 1) := by decide +kernel
theorem dX11_findFar_73 : decode cX11_findFar 73 = .ok (.iload 4, 2) := by decide +kernel
theorem dX11_findFar_75 : decode cX11_findFar 75 = .ok (.iadd, 1) := by decide +kernel
theorem dX11_findFar_76 : decode cX11_findFar 76 = .ok (.iaload, 1) := by decide +kernel
theorem dX11_findFar_77 : decode cX11_findFar 77 = .ok (.istore 5, 2) := by decide +kernel
theorem dX11_findFar_79 : decode cX11_findFar 79 = .ok (.aload_n 0, 1) := by decide +kernel
theorem dX11_findFar_80 : decode cX11_findFar 80 = .ok (.getfield 65, 3) := by decide +kernel
theorem dX11_findFar_83 : decode cX11_findFar 83 = .ok (.iload 4, 2) := by decide +kernel
theorem dX11_findFar_85 : decode cX11_findFar 85 = .ok (.iload 5, 2) := by decide +kernel
theorem dX11_findFar_87 : decode cX11_findFar 87 = .ok (.ifCond .le 34, 3) := by decide +kernel
theorem dX11_findFar_90 : decode cX11_findFar 90 = .ok (.aload_n 0, 1) := by decide +kernel
theorem dX11_findFar_91 : decode cX11_findFar 91 = .ok (.getfield 65, 3) := by decide +kernel
theorem dX11_findFar_94 : decode cX11_findFar 94 = .ok (.iload_n 3, 1) := by decide +kernel
theorem dX11_findFar_95 : decode cX11_findFar 95 = .ok (.iaload, 1) := by decide +kernel
theorem dX11_findFar_96 : decode cX11_findFar 96 = .ok (.iload 5, 2) := by decide +kernel
theorem dX11_findFar_98 : decode cX11_findFar 98 = .ok (.iadd, 1) := by decide +kernel
theorem dX11_findFar_99 : decode cX11_findFar 99 = .ok (.aload_n 0, 1) := by decide +kernel
theorem dX11_findFar_100 : decode cX11_findFar 100 = .ok (.getfield 65, 3) := by decide +kernel
theorem dX11_findFar_103 : decode cX11_findFar 103 = .ok (.iload 4, 2) := by decide +kernel
theorem dX11_findFar_105 : decode cX11_findFar 105 = .ok (.iaload, 1) := by decide +kernel
theorem dX11_findFar_106 : decode cX11_findFar 106 = .ok (.if_icmp .ge 15, 3) := by decide +kernel
theorem dX11_findFar_109 : decode cX11_findFar 109 = .ok (.aload_n 0, 1) := by decide +kernel
theorem dX11_findFar_110 : decode cX11_findFar 110 = .ok (.getfield 65, 3) := by decide +kernel
theorem dX11_findFar_113 : decode cX11_findFar 113 = .ok (.iload_n 3, 1) := by decide +kernel
theorem dX11_findFar_114 : decode cX11_findFar 114 = .ok (.iaload, 1) := by decide +kernel
theorem dX11_findFar_115 : decode cX11_findFar 115 = .ok (.iload 5, 2) := by decide +kernel
theorem dX11_findFar_117 : decode cX11_findFar 117 = .ok (.iadd, 1) := by decide +kernel
theorem dX11_findFar_118 : decode cX11_findFar 118 = .ok (.goto 10, 3) := by decide +kernel
theorem dX11_findFar_121 : decode cX11_findFar 121 = .ok (.aload_n 0, 1) := by decide +kernel
theorem dX11_findFar_122 : decode cX11_findFar 122 = .ok (.getfield 65, 3) := by decide +kernel
theorem dX11_findFar_125 : decode cX11_findFar 125 = .ok (.iload 4, 2) := by decide +kernel
theorem dX11_findFar_127 : decode cX11_findFar 127 = .ok (.iaload, 1) := by decide +kernel
theorem dX11_findFar_128 : decode cX11_findFar 128 = .ok (.iastore, 1) := by decide +kernel
theorem dX11_findFar_129 : decode cX11_findFar 129 = .ok (.iinc 4 1, 3) := by decide +kernel
theorem dX11_findFar_132 : decode cX11_findFar 132 = .ok (.goto (-75), 3) := by decide +kernel
theorem dX11_findFar_135 : decode cX11_findFar 135 = .ok (.iinc 3 1, 3) := by decide +kernel
theorem dX11_findFar_138 : decode cX11_findFar 138 = .ok (.goto (-92), 3) := by decide +kernel
theorem dX11_findFar_141 : decode cX11_findFar 141 = .ok (.iinc 2 1, 3) := by decide +kernel
theorem dX11_findFar_144 : decode cX11_findFar 144 = .ok (.goto (-108), 3) := by decide +kernel
theorem dX11_findFar_147 : decode cX11_findFar 147 = .ok (.return_, 1) := by decide +kernel
theorem dX11_elsewhere_0 : decode cX11_elsewhere 0 = .ok (.aload_n 0, 1) := by decide +kernel
theorem dX11_elsewhere_1 : decode cX11_elsewhere 1 = .ok (.iload_n 1, 1) := by decide +kernel
theorem dX11_elsewhere_2 : decode cX11_elsewhere 2 = .ok (.invokevirtual 237, 3) := by decide +kernel
theorem dX11_elsewhere_5 : decode cX11_elsewhere 5 = .ok (.ifCond .eq 20, 3) := by decide +kernel
theorem dX11_elsewhere_8 : decode cX11_elsewhere 8 = .ok (.iload_n 2, 1) := by decide +kernel
theorem dX11_elsewhere_9 : decode cX11_elsewhere 9 = .ok (.invokestatic 134, 3) := by decide +kernel
theorem dX11_elsewhere_12 : decode cX11_elsewhere 12 = .ok (.ifCond .eq 13, 3) := by decide +kernel
theorem dX11_elsewhere_15 : decode cX11_elsewhere 15 = .ok (.iload_n 3, 1) := by decide +kernel
theorem dX11_elsewhere_16 : decode cX11_elsewhere 16 = .ok (.i2l, 1) := by decide +kernel
theorem dX11_elsewhere_17 : decode cX11_elsewhere 17 = .ok (.lconst 0, 1) := by decide +kernel
theorem dX11_elsewhere_18 : decode cX11_elsewhere 18 = .ok (.lconst 1, 1) := by decide +kernel
theorem dX11_elsewhere_19 : decode cX11_elsewhere 19 = .ok (.invokestatic 106, 3) := by decide +kernel
theorem dX11_elsewhere_22 : decode cX11_elsewhere 22 = .ok (.ifCond .ne 5, 3) := by decide +kernel
theorem dX11_elsewhere_25 : decode cX11_elsewhere 25 = .ok (.iconst (-1), 1) := by decide +kernel
theorem dX11_elsewhere_26 : decode cX11_elsewhere 26 = .ok (.ireturn, 1) := by decide +kernel
theorem dX11_elsewhere_27 : decode cX11_elsewhere 27 = .ok (.aload_n 0, 1) := by decide +kernel
theorem dX11_elsewhere_28 : decode cX11_elsewhere 28 = .ok (.iload_n 1, 1) := by decide +kernel
theorem dX11_elsewhere_29 : decode cX11_elsewhere 29 = .ok (.bipush 10, 2) := by decide +kernel
theorem dX11_elsewhere_31 : decode cX11_elsewhere 31 = .ok (.irem, 1) := by decide +kernel
theorem dX11_elsewhere_32 : decode cX11_elsewhere 32 = .ok (.invokevirtual 264, 3) := by decide +kernel
theorem dX11_elsewhere_35 : decode cX11_elsewhere 35 = .ok (.bipush (-2), 2) := by decide +kernel
theorem dX11_elsewhere_37 : decode cX11_elsewhere 37 = .ok (.istore 4, 2) := by decide +kernel
theorem dX11_elsewhere_39 : decode cX11_elsewhere 39 = .ok (.bipush (-2), 2) := by decide +kernel
theorem dX11_elsewhere_41 : decode cX11_elsewhere 41 = .ok (.istore 5, 2) := by decide +kernel
theorem dX11_elsewhere_43 : decode cX11_elsewhere 43 = .ok (.iconst 0, 1) := by decide +kernel
theorem dX11_elsewhere_44 : decode cX11_elsewhere 44 = .ok (.istore 6, 2) := by decide +kernel
theorem dX11_elsewhere_46 : decode cX11_elsewhere 46 = .ok (.iload 6, 2) := by decide +kernel
theorem dX11_elsewhere_48 : decode cX11_elsewhere 48 = .ok (.aload_n 0, 1) := by decide +kernel
theorem dX11_elsewhere_49 : decode cX11_elsewhere 49 = .ok (.getfield 110, 3) := by decide +kernel
theorem dX11_elsewhere_52 : decode cX11_elsewhere 52 = .ok (.if_icmp .ge 73, 3) := by decide +kernel
theorem dX11_elsewhere_55 : decode cX11_elsewhere 55 = .ok (.aload_n 0, 1) := by decide +kernel
theorem dX11_elsewhere_56 : decode cX11_elsewhere 56 = .ok (.getfield 65, 3) := by decide +kernel
theorem dX11_elsewhere_59 : decode cX11_elsewhere 59 = .ok (.iload 6, 2) := by decide +kernel
theorem dX11_elsewhere_61 : decode cX11_elsewhere 61 = .ok (.iaload, 1) := by decide +kernel
theorem dX11_elsewhere_62 : decode cX11_elsewhere 62 = .ok (.ldc_w 263, 3) := by decide +kernel
theorem dX11_elsewhere_65 : decode cX11_elsewhere 65 = .ok (.if_icmp .lt 8, 3) := by decide +kernel
theorem dX11_elsewhere_68 : decode cX11_elsewhere 68 = .ok (.bipush (-2), 2) := by decide +kernel
theorem dX11_elsewhere_70 : decode cX11_elsewhere 70 = .ok (.goto 22, 3) := by decide +kernel
theorem dX11_elsewhere_73 : decode cX11_elsewhere 73 = .ok (.aload_n 0, 1) := by decide +kernel
theorem dX11_elsewhere_74 : decode cX11_elsewhere 74 = .ok (.iload_n 1, 1) := by decide +kernel
theorem dX11_elsewhere_75 : decode cX11_elsewhere 75 = .ok (.bipush 10, 2) := by decide +kernel
theorem dX11_elsewhere_77 : decode cX11_elsewhere 77 = .ok (.idiv, 1) := by decide +kernel
theorem dX11_elsewhere_78 : decode cX11_elsewhere 78 = .ok (.iload 6, 2) := by decide +kernel
theorem dX11_elsewhere_80 : decode cX11_elsewhere 80 = .ok (.iload_n 2, 1) := by decide +kernel
theorem dX11_elsewhere_81 : decode cX11_elsewhere 81 = .ok (.aload_n 0, 1) := by decide +kernel
theorem dX11_elsewhere_82 : decode cX11_elsewhere 82 = .ok (.getfield 65, 3) := by decide +kernel
theorem dX11_elsewhere_85 : decode cX11_elsewhere 85 = .ok (.iload 6, 2) := by decide +kernel
theorem dX11_elsewhere_87 : decode cX11_elsewhere 87 = .ok (.iaload, 1) := by decide +kernel
theorem dX11_elsewhere_88 : decode cX11_elsewhere 88 = .ok (.iadd, 1) := by decide +kernel
theorem dX11_elsewhere_89 : decode cX11_elsewhere 89 = .ok (.invokevirtual 258, 3) := by decide +kernel
theorem dX11_elsewhere_92 : decode cX11_elsewhere 92 = .ok (.istore 7, 2) := by decide +kernel
theorem dX11_elsewhere_94 : decode cX11_elsewhere 94 = .ok (.iload 7, 2) := by decide +kernel
theorem dX11_elsewhere_96 : decode cX11_elsewhere 96 = .ok (.ifCond .lt 23, 3) := by decide +kernel
theorem dX11_elsewhere_99 : decode cX11_elsewhere 99 = .ok (.iload 4, 2) := by decide +kernel
theorem dX11_elsewhere_101 : decode cX11_elsewhere 101 = .ok (.ifCond .lt 10, 3) := by decide +kernel
theorem dX11_elsewhere_104 : decode cX11_elsewhere 104 = .ok (.iload 7, 2) := by decide +kernel
theorem dX11_elsewhere_106 : decode cX11_elsewhere 106 = .ok (.iload 5, 2) := by decide +kernel
theorem dX11_elsewhere_108 : decode cX11_elsewhere 108 = .ok (.if_icmp .ge 11, 3) := by decide +kernel
theorem dX11_elsewhere_111 : decode cX11_elsewhere 111 = .ok (.iload 6, 2) := by decide +kernel
theorem dX11_elsewhere_113 : decode cX11_elsewhere 113 = .ok (.istore 4, 2) := by decide +kernel
theorem dX11_elsewhere_115 : decode cX11_elsewhere 115 = .ok (.iload 7, 2) := by decide +kernel
theorem dX11_elsewhere_117 : decode cX11_elsewhere 117 = .ok (.istore 5, 2) := by decide +kernel
theorem dX11_elsewhere_119 : decode cX11_elsewhere 119 = .ok (.iinc 6 1, 3) := by decide +kernel
theorem dX11_elsewhere_122 : decode cX11_elsewhere 122 = .ok (.goto (-76), 3) := by decide +kernel
theorem dX11_elsewhere_125 : decode cX11_elsewhere 125 = .ok (.iload_n 3, 1) := by decide +kernel
theorem dX11_elsewhere_126 : decode cX11_elsewhere 126 = .ok (.ifCond .ne 8, 3) := by decide +kernel
theorem dX11_elsewhere_129 : decode cX11_elsewhere 129 = .ok (.iload 4, 2) := by decide +kernel
theorem dX11_elsewhere_131 : decode cX11_elsewhere 131 = .ok (.goto 5, 3) := by decide +kernel
theorem dX11_elsewhere_134 : decode cX11_elsewhere 134 = .ok (.iload 5, 2) := by decide +kernel
theorem dX11_elsewhere_136 : decode cX11_elsewhere 136 = .ok (.ireturn, 1) := by decide +kernel
theorem dX11_harm_0 : decode cX11_harm 0 = .ok (.iload_n 1, 1) := by decide +kernel
theorem dX11_harm_1 : decode cX11_harm 1 = .ok (.ifCond .lt 51, 3) := by decide +kernel
theorem dX11_harm_4 : decode cX11_harm 4 = .ok (.aload_n 0, 1) := by decide +kernel
theorem dX11_harm_5 : decode cX11_harm 5 = .ok (.iload_n 1, 1) := by decide +kernel
theorem dX11_harm_6 : decode cX11_harm 6 = .ok (.bipush 100, 2) := by decide +kernel
theorem dX11_harm_8 : decode cX11_harm 8 = .ok (.idiv, 1) := by decide +kernel
theorem dX11_harm_9 : decode cX11_harm 9 = .ok (.invokevirtual 218, 3) := by decide +kernel
theorem dX11_harm_12 : decode cX11_harm 12 = .ok (.ifCond .eq 40, 3) := by decide +kernel
theorem dX11_harm_15 : decode cX11_harm 15 = .ok (.aload_n 0, 1) := by decide +kernel
theorem dX11_harm_16 : decode cX11_harm 16 = .ok (.iload_n 1, 1) := by decide +kernel
theorem dX11_harm_17 : decode cX11_harm 17 = .ok (.bipush 100, 2) := by decide +kernel
theorem dX11_harm_19 : decode cX11_harm 19 = .ok (.irem, 1) := by decide +kernel
theorem dX11_harm_20 : decode cX11_harm 20 = .ok (.invokevirtual 218, 3) := by decide +kernel
theorem dX11_harm_23 : decode cX11_harm 23 = .ok (.ifCond .eq 29, 3) := by decide +kernel
theorem dX11_harm_26 : decode cX11_harm 26 = .ok (.iload_n 1, 1) := by decide +kernel
theorem dX11_harm_27 : decode cX11_harm 27 = .ok (.bipush 100, 2) := by decide +kernel
theorem dX11_harm_29 : decode cX11_harm 29 = .ok (.idiv, 1) := by decide +kernel
theorem dX11_harm_30 : decode cX11_harm 30 = .ok (.iload_n 1, 1) := by decide +kernel
theorem dX11_harm_31 : decode cX11_harm 31 = .ok (.bipush 100, 2) := by decide +kernel
theorem dX11_harm_33 : decode cX11_harm 33 = .ok (.irem, 1) := by decide +kernel
theorem dX11_harm_34 : decode cX11_harm 34 = .ok (.if_icmp .eq 18, 3) := by decide +kernel
theorem dX11_harm_37 : decode cX11_harm 37 = .ok (.aload_n 0, 1) := by decide +kernel
theorem dX11_harm_38 : decode cX11_harm 38 = .ok (.iload_n 2, 1) := by decide +kernel
theorem dX11_harm_39 : decode cX11_harm 39 = .ok (.invokevirtual 119, 3) := by decide +kernel
theorem dX11_harm_42 : decode cX11_harm 42 = .ok (.ifCond .eq 10, 3) := by decide +kernel
theorem dX11_harm_45 : decode cX11_harm 45 = .ok (.iload_n 3, 1) := by decide +kernel
theorem dX11_harm_46 : decode cX11_harm 46 = .ok (.invokestatic 134, 3) := by decide +kernel
theorem dX11_harm_49 : decode cX11_harm 49 = .ok (.ifCond .ne 5, 3) := by decide +kernel
theorem dX11_harm_52 : decode cX11_harm 52 = .ok (.iconst (-1), 1) := by decide +kernel
theorem dX11_harm_53 : decode cX11_harm 53 = .ok (.ireturn, 1) := by decide +kernel
theorem dX11_harm_54 : decode cX11_harm 54 = .ok (.iload_n 3, 1) := by decide +kernel
theorem dX11_harm_55 : decode cX11_harm 55 = .ok (.istore 4, 2) := by decide +kernel
theorem dX11_harm_57 : decode cX11_harm 57 = .ok (.iload 4, 2) := by decide +kernel
theorem dX11_harm_59 : decode cX11_harm 59 = .ok (.iload_n 3, 1) := by decide +kernel
theorem dX11_harm_60 : decode cX11_harm 60 = .ok (.sipush 2000, 3) := by decide +kernel
theorem dX11_harm_63 : decode cX11_harm 63 = .ok (.iadd, 1) := by decide +kernel
theorem dX11_harm_64 : decode cX11_harm 64 = .ok (.if_icmp .ge 40, 3) := by decide +kernel
theorem dX11_harm_67 : decode cX11_harm 67 = .ok (.aload_n 0, 1) := by decide +kernel
theorem dX11_harm_68 : decode cX11_harm 68 = .ok (.iload_n 1, 1) := by decide +kernel
theorem dX11_harm_69 : decode cX11_harm 69 = .ok (.bipush 100, 2) := by decide +kernel
theorem dX11_harm_71 : decode cX11_harm 71 = .ok (.idiv, 1) := by decide +kernel
theorem dX11_harm_72 : decode cX11_harm 72 = .ok (.iload_n 2, 1) := by decide +kernel
theorem dX11_harm_73 : decode cX11_harm 73 = .ok (.iload 4, 2) := by decide +kernel
theorem dX11_harm_75 : decode cX11_harm 75 = .ok (.invokevirtual 252, 3) := by decide +kernel
theorem dX11_harm_78 : decode cX11_harm 78 = .ok (.ifCond .lt 20, 3) := by decide +kernel
theorem dX11_harm_81 : decode cX11_harm 81 = .ok (.aload_n 0, 1) := by decide +kernel
theorem dX11_harm_82 : decode cX11_harm 82 = .ok (.iload_n 1, 1) := by decide +kernel
theorem dX11_harm_83 : decode cX11_harm 83 = .ok (.bipush 100, 2) := by decide +kernel
theorem dX11_harm_85 : decode cX11_harm 85 = .ok (.irem, 1) := by decide +kernel
theorem dX11_harm_86 : decode cX11_harm 86 = .ok (.iload_n 2, 1) := by decide +kernel
theorem dX11_harm_87 : decode cX11_harm 87 = .ok (.iload 4, 2) := by decide +kernel
theorem dX11_harm_89 : decode cX11_harm 89 = .ok (.invokevirtual 252, 3) := by decide +kernel
theorem dX11_harm_92 : decode cX11_harm 92 = .ok (.ifCond .ge 6, 3) := by decide +kernel
theorem dX11_harm_95 : decode cX11_harm 95 = .ok (.iload 4, 2) := by decide +kernel
theorem dX11_harm_97 : decode cX11_harm 97 = .ok (.ireturn, 1) := by decide +kernel
theorem dX11_harm_98 : decode cX11_harm 98 = .ok (.iinc 4 1, 3) := by decide +kernel
theorem dX11_harm_101 : decode cX11_harm 101 = .ok (.goto (-44), 3) := by decide +kernel
theorem dX11_harm_104 : decode cX11_harm 104 = .ok (.bipush (-2), 2) := by decide +kernel
theorem dX11_harm_106 : decode cX11_harm 106 = .ok (.ireturn, 1) := by decide +kernel
theorem dX11_isState_0 : decode cX11_isState 0 = .ok (.iload_n 1, 1) := by decide +kernel
theorem dX11_isState_1 : decode cX11_isState 1 = .ok (.i2l, 1) := by decide +kernel
theorem dX11_isState_2 : decode cX11_isState 2 = .ok (.lconst 0, 1) := by decide +kernel
theorem dX11_isState_3 : decode cX11_isState 3 = .ok (.iconst 1, 1) := by decide +kernel
theorem dX11_isState_4 : decode cX11_isState 4 = .ok (.aload_n 0, 1) := by decide +kernel
theorem dX11_isState_5 : decode cX11_isState 5 = .ok (.getfield 103, 3) := by decide +kernel
theorem dX11_isState_8 : decode cX11_isState 8 = .ok (.ishl, 1) := by decide +kernel
theorem dX11_isState_9 : decode cX11_isState 9 = .ok (.iconst 1, 1) := by decide +kernel
theorem dX11_isState_10 : decode cX11_isState 10 = .ok (.isub, 1) := by decide +kernel
theorem dX11_isState_11 : decode cX11_isState 11 = .ok (.i2l, 1) := by decide +kernel
theorem dX11_isState_12 : decode cX11_isState 12 = .ok (.invokestatic 106, 3) := by decide +kernel
theorem dX11_isState_15 : decode cX11_isState 15 = .ok (.ireturn, 1) := by decide +kernel
theorem dX11_next_0 : decode cX11_next 0 = .ok (.aload_n 0, 1) := by decide +kernel
theorem dX11_next_1 : decode cX11_next 1 = .ok (.iload_n 1, 1) := by decide +kernel
theorem dX11_next_2 : decode cX11_next 2 = .ok (.invokevirtual 119, 3) := by decide +kernel
theorem dX11_next_5 : decode cX11_next 5 = .ok (.ifCond .eq 18, 3) := by decide +kernel
theorem dX11_next_8 : decode cX11_next 8 = .ok (.iload_n 2, 1) := by decide +kernel
theorem dX11_next_9 : decode cX11_next 9 = .ok (.invokestatic 134, 3) := by decide +kernel
theorem dX11_next_12 : decode cX11_next 12 = .ok (.ifCond .eq 11, 3) := by decide +kernel
theorem dX11_next_15 : decode cX11_next 15 = .ok (.aload_n 0, 1) := by decide +kernel
theorem dX11_next_16 : decode cX11_next 16 = .ok (.iload_n 3, 1) := by decide +kernel
theorem dX11_next_17 : decode cX11_next 17 = .ok (.invokevirtual 268, 3) := by decide +kernel
theorem dX11_next_20 : decode cX11_next 20 = .ok (.ifCond .ne 5, 3) := by decide +kernel
theorem dX11_next_23 : decode cX11_next 23 = .ok (.iconst (-1), 1) := by decide +kernel
theorem dX11_next_24 : decode cX11_next 24 = .ok (.ireturn, 1) := by decide +kernel
theorem dX11_next_25 : decode cX11_next 25 = .ok (.iload_n 2, 1) := by decide +kernel
theorem dX11_next_26 : decode cX11_next 26 = .ok (.istore 4, 2) := by decide +kernel
theorem dX11_next_28 : decode cX11_next 28 = .ok (.iload 4, 2) := by decide +kernel
theorem dX11_next_30 : decode cX11_next 30 = .ok (.iload_n 2, 1) := by decide +kernel
theorem dX11_next_31 : decode cX11_next 31 = .ok (.ldc_w 271, 3) := by decide +kernel
theorem dX11_next_34 : decode cX11_next 34 = .ok (.iadd, 1) := by decide +kernel
theorem dX11_next_35 : decode cX11_next 35 = .ok (.if_icmp .ge 23, 3) := by decide +kernel
theorem dX11_next_38 : decode cX11_next 38 = .ok (.aload_n 0, 1) := by decide +kernel
theorem dX11_next_39 : decode cX11_next 39 = .ok (.iload_n 1, 1) := by decide +kernel
theorem dX11_next_40 : decode cX11_next 40 = .ok (.iload 4, 2) := by decide +kernel
theorem dX11_next_42 : decode cX11_next 42 = .ok (.invokevirtual 137, 3) := by decide +kernel
theorem dX11_next_45 : decode cX11_next 45 = .ok (.iload_n 3, 1) := by decide +kernel
theorem dX11_next_46 : decode cX11_next 46 = .ok (.if_icmp .ne 6, 3) := by decide +kernel
theorem dX11_next_49 : decode cX11_next 49 = .ok (.iload 4, 2) := by decide +kernel
theorem dX11_next_51 : decode cX11_next 51 = .ok (.ireturn, 1) := by decide +kernel
theorem dX11_next_52 : decode cX11_next 52 = .ok (.iinc 4 1, 3) := by decide +kernel
theorem dX11_next_55 : decode cX11_next 55 = .ok (.goto (-27), 3) := by decide +kernel
theorem dX11_next_58 : decode cX11_next 58 = .ok (.bipush (-2), 2) := by decide +kernel
theorem dX11_next_60 : decode cX11_next 60 = .ok (.ireturn, 1) := by decide +kernel
theorem dX11_areHours_0 : decode cX11_areHours 0 = .ok (.iload_n 0, 1) := by decide +kernel
theorem dX11_areHours_1 : decode cX11_areHours 1 = .ok (.i2l, 1) := by decide +kernel
theorem dX11_areHours_2 : decode cX11_areHours 2 = .ok (.lconst 1, 1) := by decide +kernel
theorem dX11_areHours_3 : decode cX11_areHours 3 = .ok (.ldc2_w 272, 3) := by decide +kernel
theorem dX11_areHours_6 : decode cX11_areHours 6 = .ok (.invokestatic 106, 3) := by decide +kernel
theorem dX11_areHours_9 : decode cX11_areHours 9 = .ok (.ireturn, 1) := by decide +kernel
theorem dX11_many_0 : decode cX11_many 0 = .ok (.aload_n 0, 1) := by decide +kernel
theorem dX11_many_1 : decode cX11_many 1 = .ok (.iload_n 1, 1) := by decide +kernel
theorem dX11_many_2 : decode cX11_many 2 = .ok (.invokevirtual 119, 3) := by decide +kernel
theorem dX11_many_5 : decode cX11_many 5 = .ok (.ifCond .eq 26, 3) := by decide +kernel
theorem dX11_many_8 : decode cX11_many 8 = .ok (.iload_n 2, 1) := by decide +kernel
theorem dX11_many_9 : decode cX11_many 9 = .ok (.invokestatic 134, 3) := by decide +kernel
theorem dX11_many_12 : decode cX11_many 12 = .ok (.ifCond .eq 19, 3) := by decide +kernel
theorem dX11_many_15 : decode cX11_many 15 = .ok (.iload_n 3, 1) := by decide +kernel
theorem dX11_many_16 : decode cX11_many 16 = .ok (.invokestatic 274, 3) := by decide +kernel
theorem dX11_many_19 : decode cX11_many 19 = .ok (.ifCond .eq 12, 3) := by decide +kernel
theorem dX11_many_22 : decode cX11_many 22 = .ok (.aload_n 0, 1) := by decide +kernel
theorem dX11_many_23 : decode cX11_many 23 = .ok (.iload 4, 2) := by decide +kernel
theorem dX11_many_25 : decode cX11_many 25 = .ok (.invokevirtual 268, 3) := by decide +kernel
theorem dX11_many_28 : decode cX11_many 28 = .ok (.ifCond .ne 5, 3) := by decide +kernel
theorem dX11_many_31 : decode cX11_many 31 = .ok (.iconst (-1), 1) := by decide +kernel
theorem dX11_many_32 : decode cX11_many 32 = .ok (.ireturn, 1) := by decide +kernel
theorem dX11_many_33 : decode cX11_many 33 = .ok (.iconst 0, 1) := by decide +kernel
theorem dX11_many_34 : decode cX11_many 34 = .ok (.istore 5, 2) := by decide +kernel
theorem dX11_many_36 : decode cX11_many 36 = .ok (.iload_n 2, 1) := by decide +kernel
theorem dX11_many_37 : decode cX11_many 37 = .ok (.istore 6, 2) := by decide +kernel
theorem dX11_many_39 : decode cX11_many 39 = .ok (.iload 6, 2) := by decide +kernel
theorem dX11_many_41 : decode cX11_many 41 = .ok (.iload_n 2, 1) := by decide +kernel
theorem dX11_many_42 : decode cX11_many 42 = .ok (.iload_n 3, 1) := by decide +kernel
theorem dX11_many_43 : decode cX11_many 43 = .ok (.iadd, 1) := by decide +kernel
theorem dX11_many_44 : decode cX11_many 44 = .ok (.if_icmp .ge 31, 3) := by decide +kernel
theorem dX11_many_47 : decode cX11_many 47 = .ok (.iload 5, 2) := by decide +kernel
theorem dX11_many_49 : decode cX11_many 49 = .ok (.aload_n 0, 1) := by decide +kernel
theorem dX11_many_50 : decode cX11_many 50 = .ok (.iload_n 1, 1) := by decide +kernel
theorem dX11_many_51 : decode cX11_many 51 = .ok (.iload 6, 2) := by decide +kernel
theorem dX11_many_53 : decode cX11_many 53 = .ok (.invokevirtual 137, 3) := by decide +kernel
theorem dX11_many_56 : decode cX11_many 56 = .ok (.iload 4, 2) := by decide +kernel
theorem dX11_many_58 : decode cX11_many 58 = .ok (.if_icmp .ne 7, 3) := by decide +kernel
theorem dX11_many_61 : decode cX11_many 61 = .ok (.iconst 1, 1) := by decide +kernel
theorem dX11_many_62 : decode cX11_many 62 = .ok (.goto 4, 3) := by decide +kernel
theorem dX11_many_65 : decode cX11_many 65 = .ok (.iconst 0, 1) := by decide +kernel
theorem dX11_many_66 : decode cX11_many 66 = .ok (.iadd, 1) := by decide +kernel
theorem dX11_many_67 : decode cX11_many 67 = .ok (.istore 5, 2) := by decide +kernel
theorem dX11_many_69 : decode cX11_many 69 = .ok (.iinc 6 1, 3) := by decide +kernel
theorem dX11_many_72 : decode cX11_many 72 = .ok (.goto (-33), 3) := by decide +kernel
theorem dX11_many_75 : decode cX11_many 75 = .ok (.iload 5, 2) := by decide +kernel
theorem dX11_many_77 : decode cX11_many 77 = .ok (.ireturn, 1) := by decide +kernel
theorem dX11_longest_0 : decode cX11_longest 0 = .ok (.aload_n 0, 1) := by decide +kernel
theorem dX11_longest_1 : decode cX11_longest 1 = .ok (.iload_n 1, 1) := by decide +kernel
theorem dX11_longest_2 : decode cX11_longest 2 = .ok (.invokevirtual 119, 3) := by decide +kernel
theorem dX11_longest_5 : decode cX11_longest 5 = .ok (.ifCond .eq 28, 3) := by decide +kernel
theorem dX11_longest_8 : decode cX11_longest 8 = .ok (.iload_n 2, 1) := by decide +kernel
theorem dX11_longest_9 : decode cX11_longest 9 = .ok (.invokestatic 134, 3) := by decide +kernel
theorem dX11_longest_12 : decode cX11_longest 12 = .ok (.ifCond .eq 21, 3) := by decide +kernel
theorem dX11_longest_15 : decode cX11_longest 15 = .ok (.iload_n 3, 1) := by decide +kernel
theorem dX11_longest_16 : decode cX11_longest 16 = .ok (.invokestatic 274, 3) := by decide +kernel
theorem dX11_longest_19 : decode cX11_longest 19 = .ok (.ifCond .eq 14, 3) := by decide +kernel
theorem dX11_longest_22 : decode cX11_longest 22 = .ok (.iload 4, 2) := by decide +kernel
theorem dX11_longest_24 : decode cX11_longest 24 = .ok (.i2l, 1) := by decide +kernel
theorem dX11_longest_25 : decode cX11_longest 25 = .ok (.lconst 0, 1) := by decide +kernel
theorem dX11_longest_26 : decode cX11_longest 26 = .ok (.lconst 1, 1) := by decide +kernel
theorem dX11_longest_27 : decode cX11_longest 27 = .ok (.invokestatic 106, 3) := by decide +kernel
theorem dX11_longest_30 : decode cX11_longest 30 = .ok (.ifCond .ne 5, 3) := by decide +kernel
theorem dX11_longest_33 : decode cX11_longest 33 = .ok (.iconst (-1), 1) := by decide +kernel
theorem dX11_longest_34 : decode cX11_longest 34 = .ok (.ireturn, 1) := by decide +kernel
theorem dX11_longest_35 : decode cX11_longest 35 = .ok (.iconst 0, 1) := by decide +kernel
theorem dX11_longest_36 : decode cX11_longest 36 = .ok (.istore 5, 2) := by decide +kernel
theorem dX11_longest_38 : decode cX11_longest 38 = .ok (.iload_n 2, 1) := by decide +kernel
theorem dX11_longest_39 : decode cX11_longest 39 = .ok (.istore 6, 2) := by decide +kernel
theorem dX11_longest_41 : decode cX11_longest 41 = .ok (.iload_n 2, 1) := by decide +kernel
theorem dX11_longest_42 : decode cX11_longest 42 = .ok (.istore 7, 2) := by decide +kernel
theorem dX11_longest_44 : decode cX11_longest 44 = .ok (.aload_n 0, 1) := by decide +kernel
theorem dX11_longest_45 : decode cX11_longest 45 = .ok (.iload_n 1, 1) := by decide +kernel
theorem dX11_longest_46 : decode cX11_longest 46 = .ok (.iload_n 2, 1) := by decide +kernel
theorem dX11_longest_47 : decode cX11_longest 47 = .ok (.invokevirtual 137, 3) := by decide +kernel
theorem dX11_longest_50 : decode cX11_longest 50 = .ok (.istore 8, 2) := by decide +kernel
theorem dX11_longest_52 : decode cX11_longest 52 = .ok (.iload_n 2, 1) := by decide +kernel
theorem dX11_longest_53 : decode cX11_longest 53 = .ok (.istore 9, 2) := by decide +kernel
theorem dX11_longest_55 : decode cX11_longest 55 = .ok (.iload 9, 2) := by decide +kernel
theorem dX11_longest_57 : decode cX11_longest 57 = .ok (.iload_n 2, 1) := by decide +kernel
theorem dX11_longest_58 : decode cX11_longest 58 = .ok (.iload_n 3, 1) := by decide +kernel
theorem dX11_longest_59 : decode cX11_longest 59 = .ok (.iadd, 1) := by decide +kernel
theorem dX11_longest_60 : decode cX11_longest 60 = .ok (.if_icmp .ge 63, 3) := by decide +kernel
theorem dX11_longest_63 : decode cX11_longest 63 = .ok (.aload_n 0, 1) := by decide +kernel
theorem dX11_longest_64 : decode cX11_longest 64 = .ok (.iload_n 1, 1) := by decide +kernel
theorem dX11_longest_65 : decode cX11_longest 65 = .ok (.iload 9, 2) := by decide +kernel
theorem dX11_longest_67 : decode cX11_longest 67 = .ok (.invokevirtual 137, 3) := by decide +kernel
theorem dX11_longest_70 : decode cX11_longest 70 = .ok (.istore 10, 2) := by decide +kernel
theorem dX11_longest_72 : decode cX11_longest 72 = .ok (.iload 10, 2) := by decide +kernel
theorem dX11_longest_74 : decode cX11_longest 74 = .ok (.iload 8, 2) := by decide +kernel
theorem dX11_longest_76 : decode cX11_longest 76 = .ok (.if_icmp .ne 8, 3) := by decide +kernel
theorem dX11_longest_79 : decode cX11_longest 79 = .ok (.iload 7, 2) := by decide +kernel
theorem dX11_longest_81 : decode cX11_longest 81 = .ok (.goto 5, 3) := by decide +kernel
theorem dX11_longest_84 : decode cX11_longest 84 = .ok (.iload 9, 2) := by decide +kernel
theorem dX11_longest_86 : decode cX11_longest 86 = .ok (.istore 7, 2) := by decide +kernel
theorem dX11_longest_88 : decode cX11_longest 88 = .ok (.iload 10, 2) := by decide +kernel
theorem dX11_longest_90 : decode cX11_longest 90 = .ok (.istore 8, 2) := by decide +kernel
theorem dX11_longest_92 : decode cX11_longest 92 = .ok (.iload 9, 2) := by decide +kernel
theorem dX11_longest_94 : decode cX11_longest 94 = .ok (.iload 7, 2) := by decide +kernel
theorem dX11_longest_96 : decode cX11_longest 96 = .ok (.isub, 1) := by decide +kernel
theorem dX11_longest_97 : decode cX11_longest 97 = .ok (.iconst 1, 1) := by decide +kernel
theorem dX11_longest_98 : decode cX11_longest 98 = .ok (.iadd, 1) := by decide +kernel
theorem dX11_longest_99 : decode cX11_longest 99 = .ok (.iload 5, 2) := by decide +kernel
theorem dX11_longest_101 : decode cX11_longest 101 = .ok (.if_icmp .le 16, 3) := by decide +kernel
theorem dX11_longest_104 : decode cX11_longest 104 = .ok (.iload 9, 2) := by decide +kernel
theorem dX11_longest_106 : decode cX11_longest 106 = .ok (.iload 7, 2) := by decide +kernel
theorem dX11_longest_108 : decode cX11_longest 108 = .ok (.isub, 1) := by decide +kernel
theorem dX11_longest_109 : decode cX11_longest 109 = .ok (.iconst 1, 1) := by decide +kernel
theorem dX11_longest_110 : decode cX11_longest 110 = .ok (.iadd, 1) := by decide +kernel
theorem dX11_longest_111 : decode cX11_longest 111 = .ok (.istore 5, 2) := by decide +kernel
theorem dX11_longest_113 : decode cX11_longest 113 = .ok (.iload 7, 2) := by decide +kernel
theorem dX11_longest_115 : decode cX11_longest 115 = .ok (.istore 6, 2) := by decide +kernel
theorem dX11_longest_117 : decode cX11_longest 117 = .ok (.iinc 9 1, 3) := by decide +kernel
theorem dX11_longest_120 : decode cX11_longest 120 = .ok (.goto (-65), 3) := by decide +kernel
theorem dX11_longest_123 : decode cX11_longest 123 = .ok (.iload 4, 2) := by decide +kernel
theorem dX11_longest_125 : decode cX11_longest 125 = .ok (.ifCond .ne 8, 3) := by decide +kernel
theorem dX11_longest_128 : decode cX11_longest 128 = .ok (.iload 5, 2) := by decide +kernel
theorem dX11_longest_130 : decode cX11_longest 130 = .ok (.goto 5, 3) := by decide +kernel
theorem dX11_longest_133 : decode cX11_longest 133 = .ok (.iload 6, 2) := by decide +kernel
theorem dX11_longest_135 : decode cX11_longest 135 = .ok (.ireturn, 1) := by decide +kernel
theorem dX11_common_0 : decode cX11_common 0 = .ok (.iload_n 0, 1) := by decide +kernel
theorem dX11_common_1 : decode cX11_common 1 = .ok (.istore_n 2, 1) := by decide +kernel
theorem dX11_common_2 : decode cX11_common 2 = .ok (.iload_n 1, 1) := by decide +kernel
theorem dX11_common_3 : decode cX11_common 3 = .ok (.istore_n 3, 1) := by decide +kernel
theorem dX11_common_4 : decode cX11_common 4 = .ok (.iload_n 3, 1) := by decide +kernel
theorem dX11_common_5 : decode cX11_common 5 = .ok (.ifCond .eq 16, 3) := by decide +kernel
theorem dX11_common_8 : decode cX11_common 8 = .ok (.iload_n 2, 1) := by decide +kernel
theorem dX11_common_9 : decode cX11_common 9 = .ok (.iload_n 3, 1) := by decide +kernel
theorem dX11_common_10 : decode cX11_common 10 = .ok (.irem, 1) := by decide +kernel
theorem dX11_common_11 : decode cX11_common 11 = .ok (.istore 4, 2) := by decide +kernel
theorem dX11_common_13 : decode cX11_common 13 = .ok (.iload_n 3, 1) := by decide +kernel
theorem dX11_common_14 : decode cX11_common 14 = .ok (.istore_n 2, 1) := by decide +kernel
theorem dX11_common_15 : decode cX11_common 15 = .ok (.iload 4, 2) := by decide +kernel
theorem dX11_common_17 : decode cX11_common 17 = .ok (.istore_n 3, 1) := by decide +kernel
theorem dX11_common_18 : decode cX11_common 18 = .ok (.goto (-14), 3) := by decide +kernel
theorem dX11_common_21 : decode cX11_common 21 = .ok (.iload_n 2, 1) := by decide +kernel
theorem dX11_common_22 : decode cX11_common 22 = .ok (.ireturn, 1) := by decide +kernel
theorem dX11_round_0 : decode cX11_round 0 = .ok (.aload_n 0, 1) := by decide +kernel
theorem dX11_round_1 : decode cX11_round 1 = .ok (.getfield 103, 3) := by decide +kernel
theorem dX11_round_4 : decode cX11_round 4 = .ok (.ifCond .ne 6, 3) := by decide +kernel
theorem dX11_round_7 : decode cX11_round 7 = .ok (.bipush (-5), 2) := by decide +kernel
theorem dX11_round_9 : decode cX11_round 9 = .ok (.ireturn, 1) := by decide +kernel
theorem dX11_round_10 : decode cX11_round 10 = .ok (.iconst 1, 1) := by decide +kernel
theorem dX11_round_11 : decode cX11_round 11 = .ok (.istore_n 1, 1) := by decide +kernel
theorem dX11_round_12 : decode cX11_round 12 = .ok (.iconst 0, 1) := by decide +kernel
theorem dX11_round_13 : decode cX11_round 13 = .ok (.istore_n 2, 1) := by decide +kernel
theorem dX11_round_14 : decode cX11_round 14 = .ok (.iload_n 2, 1) := by decide +kernel
theorem dX11_round_15 : decode cX11_round 15 = .ok (.aload_n 0, 1) := by decide +kernel
theorem dX11_round_16 : decode cX11_round 16 = .ok (.getfield 103, 3) := by decide +kernel
theorem dX11_round_19 : decode cX11_round 19 = .ok (.if_icmp .ge 29, 3) := by decide +kernel
theorem dX11_round_22 : decode cX11_round 22 = .ok (.iload_n 1, 1) := by decide +kernel
theorem dX11_round_23 : decode cX11_round 23 = .ok (.iload_n 1, 1) := by decide +kernel
theorem dX11_round_24 : decode cX11_round 24 = .ok (.aload_n 0, 1) := by decide +kernel
theorem dX11_round_25 : decode cX11_round 25 = .ok (.getfield 22, 3) := by decide +kernel
theorem dX11_round_28 : decode cX11_round 28 = .ok (.iload_n 2, 1) := by decide +kernel
theorem dX11_round_29 : decode cX11_round 29 = .ok (.iaload, 1) := by decide +kernel
theorem dX11_round_30 : decode cX11_round 30 = .ok (.invokestatic 277, 3) := by decide +kernel
theorem dX11_round_33 : decode cX11_round 33 = .ok (.idiv, 1) := by decide +kernel
theorem dX11_round_34 : decode cX11_round 34 = .ok (.aload_n 0, 1) := by decide +kernel
theorem dX11_round_35 : decode cX11_round 35 = .ok (.getfield 22, 3) := by decide +kernel
theorem dX11_round_38 : decode cX11_round 38 = .ok (.iload_n 2, 1) := by decide +kernel
theorem dX11_round_39 : decode cX11_round 39 = .ok (.iaload, 1) := by decide +kernel
theorem dX11_round_40 : decode cX11_round 40 = .ok (.imul, 1) := by decide +kernel
theorem dX11_round_41 : decode cX11_round 41 = .ok (.istore_n 1, 1) := by decide +kernel
theorem dX11_round_42 : decode cX11_round 42 = .ok (.iinc 2 1, 3) := by decide +kernel
theorem dX11_round_45 : decode cX11_round 45 = .ok (.goto (-31), 3) := by decide +kernel
theorem dX11_round_48 : decode cX11_round 48 = .ok (.iload_n 1, 1) := by decide +kernel
theorem dX11_round_49 : decode cX11_round 49 = .ok (.ireturn, 1) := by decide +kernel
theorem dX11_seenSum_0 : decode cX11_seenSum 0 = .ok (.aload_n 0, 1) := by decide +kernel
theorem dX11_seenSum_1 : decode cX11_seenSum 1 = .ok (.iload_n 2, 1) := by decide +kernel
theorem dX11_seenSum_2 : decode cX11_seenSum 2 = .ok (.iload 4, 2) := by decide +kernel
theorem dX11_seenSum_4 : decode cX11_seenSum 4 = .ok (.invokevirtual 137, 3) := by decide +kernel
theorem dX11_seenSum_7 : decode cX11_seenSum 7 = .ok (.istore 6, 2) := by decide +kernel
theorem dX11_seenSum_9 : decode cX11_seenSum 9 = .ok (.iconst 0, 1) := by decide +kernel
theorem dX11_seenSum_10 : decode cX11_seenSum 10 = .ok (.istore 7, 2) := by decide +kernel
theorem dX11_seenSum_12 : decode cX11_seenSum 12 = .ok (.iconst 0, 1) := by decide +kernel
theorem dX11_seenSum_13 : decode cX11_seenSum 13 = .ok (.istore 8, 2) := by decide +kernel
theorem dX11_seenSum_15 : decode cX11_seenSum 15 = .ok (.iload 8, 2) := by decide +kernel
theorem dX11_seenSum_17 : decode cX11_seenSum 17 = .ok (.iload 6, 2) := by decide +kernel
theorem dX11_seenSum_19 : decode cX11_seenSum 19 = .ok (.if_icmp .gt 104, 3) := by decide +kernel
theorem dX11_seenSum_22 : decode cX11_seenSum 22 = .ok (.iload 8, 2) := by decide +kernel
theorem dX11_seenSum_24 : decode cX11_seenSum 24 = .ok (.iload 6, 2) := by decide +kernel
theorem dX11_seenSum_26 : decode cX11_seenSum 26 = .ok (.iconst (-1), 1) := by decide +kernel
theorem dX11_seenSum_27 : decode cX11_seenSum 27 = .ok (.ixor, 1) := by decide +kernel
theorem dX11_seenSum_28 : decode cX11_seenSum 28 = .ok (.iand, 1) := by decide +kernel
theorem dX11_seenSum_29 : decode cX11_seenSum 29 = .ok (.ifCond .ne 88, 3) := by decide +kernel
theorem dX11_seenSum_32 : decode cX11_seenSum 32 = .ok (.aload_n 0, 1) := by decide +kernel
theorem dX11_seenSum_33 : decode cX11_seenSum 33 = .ok (.iload 8, 2) := by decide +kernel
theorem dX11_seenSum_35 : decode cX11_seenSum 35 = .ok (.iload_n 1, 1) := by decide +kernel
theorem dX11_seenSum_36 : decode cX11_seenSum 36 = .ok (.iload_n 2, 1) := by decide +kernel
theorem dX11_seenSum_37 : decode cX11_seenSum 37 = .ok (.iload_n 3, 1) := by decide +kernel
theorem dX11_seenSum_38 : decode cX11_seenSum 38 = .ok (.iload 4, 2) := by decide +kernel
theorem dX11_seenSum_40 : decode cX11_seenSum 40 = .ok (.invokevirtual 234, 3) := by decide +kernel
theorem dX11_seenSum_43 : decode cX11_seenSum 43 = .ok (.ifCond .ge 6, 3) := by decide +kernel
theorem dX11_seenSum_46 : decode cX11_seenSum 46 = .ok (.goto 71, 3) := by decide +kernel
theorem dX11_seenSum_49 : decode cX11_seenSum 49 = .ok (.iconst 1, 1) := by decide +kernel
theorem dX11_seenSum_50 : decode cX11_seenSum 50 = .ok (.istore 9, 2) := by decide +kernel
theorem dX11_seenSum_52 : decode cX11_seenSum 52 = .ok (.iconst 0, 1) := by decide +kernel
theorem dX11_seenSum_53 : decode cX11_seenSum 53 = .ok (.istore 10, 2) := by decide +kernel
theorem dX11_seenSum_55 : decode cX11_seenSum 55 = .ok (.iload 10, 2) := by decide +kernel
theorem dX11_seenSum_57 : decode cX11_seenSum 57 = .ok (.aload_n 0, 1) := by decide +kernel
theorem dX11_seenSum_58 : decode cX11_seenSum 58 = .ok (.getfield 103, 3) := by decide +kernel
theorem dX11_seenSum_61 : decode cX11_seenSum 61 = .ok (.if_icmp .ge 49, 3) := by decide +kernel
theorem dX11_seenSum_64 : decode cX11_seenSum 64 = .ok (.iload 9, 2) := by decide +kernel
theorem dX11_seenSum_66 : decode cX11_seenSum 66 = .ok (.iload 6, 2) := by decide +kernel
theorem dX11_seenSum_68 : decode cX11_seenSum 68 = .ok (.iload 10, 2) := by decide +kernel
theorem dX11_seenSum_70 : decode cX11_seenSum 70 = .ok (.ishr, 1) := by decide +kernel
theorem dX11_seenSum_71 : decode cX11_seenSum 71 = .ok (.iconst 1, 1) := by decide +kernel
theorem dX11_seenSum_72 : decode cX11_seenSum 72 = .ok (.iand, 1) := by decide +kernel
theorem dX11_seenSum_73 : decode cX11_seenSum 73 = .ok (.ifCond .ne 7, 3) := by decide +kernel
theorem dX11_seenSum_76 : decode cX11_seenSum 76 = .ok (.iconst 1, 1) := by decide +kernel
theorem dX11_seenSum_77 : decode cX11_seenSum 77 = .ok (.goto 24, 3) := by decide +kernel
theorem dX11_seenSum_80 : decode cX11_seenSum 80 = .ok (.iload 8, 2) := by decide +kernel
theorem dX11_seenSum_82 : decode cX11_seenSum 82 = .ok (.iload 10, 2) := by decide +kernel
theorem dX11_seenSum_84 : decode cX11_seenSum 84 = .ok (.ishr, 1) := by decide +kernel
theorem dX11_seenSum_85 : decode cX11_seenSum 85 = .ok (.iconst 1, 1) := by decide +kernel
theorem dX11_seenSum_86 : decode cX11_seenSum 86 = .ok (.iand, 1) := by decide +kernel
theorem dX11_seenSum_87 : decode cX11_seenSum 87 = .ok (.iconst 1, 1) := by decide +kernel
theorem dX11_seenSum_88 : decode cX11_seenSum 88 = .ok (.if_icmp .ne 11, 3) := by decide +kernel
theorem dX11_seenSum_91 : decode cX11_seenSum 91 = .ok (.bipush 100, 2) := by decide +kernel
theorem dX11_seenSum_93 : decode cX11_seenSum 93 = .ok (.iload 5, 2) := by decide +kernel
theorem dX11_seenSum_95 : decode cX11_seenSum 95 = .ok (.isub, 1) := by decide +kernel
theorem dX11_seenSum_96 : decode cX11_seenSum 96 = .ok (.goto 5, 3) := by decide +kernel
theorem dX11_seenSum_99 : decode cX11_seenSum 99 = .ok (.iload 5, 2) := by decide +kernel
theorem dX11_seenSum_101 : decode cX11_seenSum 101 = .ok (.imul, 1) := by decide +kernel
theorem dX11_seenSum_102 : decode cX11_seenSum 102 = .ok (.istore 9, 2) := by decide +kernel
theorem dX11_seenSum_104 : decode cX11_seenSum 104 = .ok (.iinc 10 1, 3) := by decide +kernel
theorem dX11_seenSum_107 : decode cX11_seenSum 107 = .ok (.goto (-52), 3) := by decide +kernel
theorem dX11_seenSum_110 : decode cX11_seenSum 110 = .ok (.iload 7, 2) := by decide +kernel
theorem dX11_seenSum_112 : decode cX11_seenSum 112 = .ok (.iload 9, 2) := by decide +kernel
theorem dX11_seenSum_114 : decode cX11_seenSum 114 = .ok (.iadd, 1) := by decide +kernel
theorem dX11_seenSum_115 : decode cX11_seenSum 115 = .ok (.istore 7, 2) := by decide +kernel
theorem dX11_seenSum_117 : decode cX11_seenSum 117 = .ok (.iinc 8 1, 3) := by decide +kernel
theorem dX11_seenSum_120 : decode cX11_seenSum 120 = .ok (.goto (-105), 3) := by decide +kernel
theorem dX11_seenSum_123 : decode cX11_seenSum 123 = .ok (.iload 7, 2) := by decide +kernel
theorem dX11_seenSum_125 : decode cX11_seenSum 125 = .ok (.ireturn, 1) := by decide +kernel
theorem dX11_odds_0 : decode cX11_odds 0 = .ok (.aload_n 0, 1) := by decide +kernel
theorem dX11_odds_1 : decode cX11_odds 1 = .ok (.iload_n 1, 1) := by decide +kernel
theorem dX11_odds_2 : decode cX11_odds 2 = .ok (.invokevirtual 237, 3) := by decide +kernel
theorem dX11_odds_5 : decode cX11_odds 5 = .ok (.ifCond .eq 22, 3) := by decide +kernel
theorem dX11_odds_8 : decode cX11_odds 8 = .ok (.iload_n 2, 1) := by decide +kernel
theorem dX11_odds_9 : decode cX11_odds 9 = .ok (.invokestatic 134, 3) := by decide +kernel
theorem dX11_odds_12 : decode cX11_odds 12 = .ok (.ifCond .eq 15, 3) := by decide +kernel
theorem dX11_odds_15 : decode cX11_odds 15 = .ok (.iload_n 3, 1) := by decide +kernel
theorem dX11_odds_16 : decode cX11_odds 16 = .ok (.i2l, 1) := by decide +kernel
theorem dX11_odds_17 : decode cX11_odds 17 = .ok (.lconst 0, 1) := by decide +kernel
theorem dX11_odds_18 : decode cX11_odds 18 = .ok (.ldc2_w 280, 3) := by decide +kernel
theorem dX11_odds_21 : decode cX11_odds 21 = .ok (.invokestatic 106, 3) := by decide +kernel
theorem dX11_odds_24 : decode cX11_odds 24 = .ok (.ifCond .ne 5, 3) := by decide +kernel
theorem dX11_odds_27 : decode cX11_odds 27 = .ok (.iconst (-1), 1) := by decide +kernel
theorem dX11_odds_28 : decode cX11_odds 28 = .ok (.ireturn, 1) := by decide +kernel
theorem dX11_odds_29 : decode cX11_odds 29 = .ok (.iload_n 1, 1) := by decide +kernel
theorem dX11_odds_30 : decode cX11_odds 30 = .ok (.bipush 10, 2) := by decide +kernel
theorem dX11_odds_32 : decode cX11_odds 32 = .ok (.idiv, 1) := by decide +kernel
theorem dX11_odds_33 : decode cX11_odds 33 = .ok (.istore 4, 2) := by decide +kernel
theorem dX11_odds_35 : decode cX11_odds 35 = .ok (.aload_n 0, 1) := by decide +kernel
theorem dX11_odds_36 : decode cX11_odds 36 = .ok (.getfield 9, 3) := by decide +kernel
theorem dX11_odds_39 : decode cX11_odds 39 = .ok (.bipush 18, 2) := by decide +kernel
theorem dX11_odds_41 : decode cX11_odds 41 = .ok (.iload 4, 2) := by decide +kernel
theorem dX11_odds_43 : decode cX11_odds 43 = .ok (.iadd, 1) := by decide +kernel
theorem dX11_odds_44 : decode cX11_odds 44 = .ok (.iaload, 1) := by decide +kernel
theorem dX11_odds_45 : decode cX11_odds 45 = .ok (.iconst 2, 1) := by decide +kernel
theorem dX11_odds_46 : decode cX11_odds 46 = .ok (.if_icmp .eq 6, 3) := by decide +kernel
theorem dX11_odds_49 : decode cX11_odds 49 = .ok (.bipush (-5), 2) := by decide +kernel
theorem dX11_odds_51 : decode cX11_odds 51 = .ok (.ireturn, 1) := by decide +kernel
theorem dX11_odds_52 : decode cX11_odds 52 = .ok (.ldc2_w 282, 3) := by decide +kernel
theorem dX11_odds_55 : decode cX11_odds 55 = .ok (.lstore 5, 2) := by decide +kernel
theorem dX11_odds_57 : decode cX11_odds 57 = .ok (.iconst 0, 1) := by decide +kernel
theorem dX11_odds_58 : decode cX11_odds 58 = .ok (.istore 7, 2) := by decide +kernel
theorem dX11_odds_60 : decode cX11_odds 60 = .ok (.iload 7, 2) := by decide +kernel
theorem dX11_odds_62 : decode cX11_odds 62 = .ok (.aload_n 0, 1) := by decide +kernel
theorem dX11_odds_63 : decode cX11_odds 63 = .ok (.getfield 9, 3) := by decide +kernel
theorem dX11_odds_66 : decode cX11_odds 66 = .ok (.bipush 6, 2) := by decide +kernel
theorem dX11_odds_68 : decode cX11_odds 68 = .ok (.iload 4, 2) := by decide +kernel
theorem dX11_odds_70 : decode cX11_odds 70 = .ok (.iadd, 1) := by decide +kernel
theorem dX11_odds_71 : decode cX11_odds 71 = .ok (.iaload, 1) := by decide +kernel
theorem dX11_odds_72 : decode cX11_odds 72 = .ok (.if_icmp .ge 74, 3) := by decide +kernel
theorem dX11_odds_75 : decode cX11_odds 75 = .ok (.iconst 1, 1) := by decide +kernel
theorem dX11_odds_76 : decode cX11_odds 76 = .ok (.istore 8, 2) := by decide +kernel
theorem dX11_odds_78 : decode cX11_odds 78 = .ok (.aload_n 0, 1) := by decide +kernel
theorem dX11_odds_79 : decode cX11_odds 79 = .ok (.iload_n 1, 1) := by decide +kernel
theorem dX11_odds_80 : decode cX11_odds 80 = .ok (.bipush 10, 2) := by decide +kernel
theorem dX11_odds_82 : decode cX11_odds 82 = .ok (.irem, 1) := by decide +kernel
theorem dX11_odds_83 : decode cX11_odds 83 = .ok (.iload_n 2, 1) := by decide +kernel
theorem dX11_odds_84 : decode cX11_odds 84 = .ok (.iload 7, 2) := by decide +kernel
theorem dX11_odds_86 : decode cX11_odds 86 = .ok (.iadd, 1) := by decide +kernel
theorem dX11_odds_87 : decode cX11_odds 87 = .ok (.invokevirtual 137, 3) := by decide +kernel
theorem dX11_odds_90 : decode cX11_odds 90 = .ok (.invokestatic 231, 3) := by decide +kernel
theorem dX11_odds_93 : decode cX11_odds 93 = .ok (.istore 9, 2) := by decide +kernel
theorem dX11_odds_95 : decode cX11_odds 95 = .ok (.iload 9, 2) := by decide +kernel
theorem dX11_odds_97 : decode cX11_odds 97 = .ok (.ifCond .le 16, 3) := by decide +kernel
theorem dX11_odds_100 : decode cX11_odds 100 = .ok (.iload 8, 2) := by decide +kernel
theorem dX11_odds_102 : decode cX11_odds 102 = .ok (.bipush 100, 2) := by decide +kernel
theorem dX11_odds_104 : decode cX11_odds 104 = .ok (.imul, 1) := by decide +kernel
theorem dX11_odds_105 : decode cX11_odds 105 = .ok (.istore 8, 2) := by decide +kernel
theorem dX11_odds_107 : decode cX11_odds 107 = .ok (.iinc 9 (-1), 3) := by decide +kernel
theorem dX11_odds_110 : decode cX11_odds 110 = .ok (.goto (-15), 3) := by decide +kernel
theorem dX11_odds_113 : decode cX11_odds 113 = .ok (.lload 5, 2) := by decide +kernel
theorem dX11_odds_115 : decode cX11_odds 115 = .ok (.aload_n 0, 1) := by decide +kernel
theorem dX11_odds_116 : decode cX11_odds 116 = .ok (.iload 4, 2) := by decide +kernel
theorem dX11_odds_118 : decode cX11_odds 118 = .ok (.iload_n 1, 1) := by decide +kernel
theorem dX11_odds_119 : decode cX11_odds 119 = .ok (.bipush 10, 2) := by decide +kernel
theorem dX11_odds_121 : decode cX11_odds 121 = .ok (.irem, 1) := by decide +kernel
theorem dX11_odds_122 : decode cX11_odds 122 = .ok (.iload 7, 2) := by decide +kernel
theorem dX11_odds_124 : decode cX11_odds 124 = .ok (.iload_n 2, 1) := by decide +kernel
theorem dX11_odds_125 : decode cX11_odds 125 = .ok (.iload 7, 2) := by decide +kernel
theorem dX11_odds_127 : decode cX11_odds 127 = .ok (.iadd, 1) := by decide +kernel
theorem dX11_odds_128 : decode cX11_odds 128 = .ok (.iload_n 3, 1) := by decide +kernel
theorem dX11_odds_129 : decode cX11_odds 129 = .ok (.invokevirtual 284, 3) := by decide +kernel
theorem dX11_odds_132 : decode cX11_odds 132 = .ok (.i2l, 1) := by decide +kernel
theorem dX11_odds_133 : decode cX11_odds 133 = .ok (.lmul, 1) := by decide +kernel
theorem dX11_odds_134 : decode cX11_odds 134 = .ok (.iload 8, 2) := by decide +kernel
theorem dX11_odds_136 : decode cX11_odds 136 = .ok (.i2l, 1) := by decide +kernel
theorem dX11_odds_137 : decode cX11_odds 137 = .ok (.ldiv, 1) := by decide +kernel
theorem dX11_odds_138 : decode cX11_odds 138 = .ok (.lstore 5, 2) := by decide +kernel
theorem dX11_odds_140 : decode cX11_odds 140 = .ok (.iinc 7 1, 3) := by decide +kernel
theorem dX11_odds_143 : decode cX11_odds 143 = .ok (.goto (-83), 3) := by decide +kernel
theorem dX11_odds_146 : decode cX11_odds 146 = .ok (.lload 5, 2) := by decide +kernel
theorem dX11_odds_148 : decode cX11_odds 148 = .ok (.l2i, 1) := by decide +kernel
theorem dX11_odds_149 : decode cX11_odds 149 = .ok (.ireturn, 1) := by decide +kernel
theorem dX11_isPromise_0 : decode cX11_isPromise 0 = .ok (.iload_n 1, 1) := by decide +kernel
theorem dX11_isPromise_1 : decode cX11_isPromise 1 = .ok (.i2l, 1) := by decide +kernel
theorem dX11_isPromise_2 : decode cX11_isPromise 2 = .ok (.lconst 0, 1) := by decide +kernel
theorem dX11_isPromise_3 : decode cX11_isPromise 3 = .ok (.aload_n 0, 1) := by decide +kernel
theorem dX11_isPromise_4 : decode cX11_isPromise 4 = .ok (.getfield 287, 3) := by decide +kernel
theorem dX11_isPromise_7 : decode cX11_isPromise 7 = .ok (.iconst 1, 1) := by decide +kernel
theorem dX11_isPromise_8 : decode cX11_isPromise 8 = .ok (.isub, 1) := by decide +kernel
theorem dX11_isPromise_9 : decode cX11_isPromise 9 = .ok (.i2l, 1) := by decide +kernel
theorem dX11_isPromise_10 : decode cX11_isPromise 10 = .ok (.invokestatic 106, 3) := by decide +kernel
theorem dX11_isPromise_13 : decode cX11_isPromise 13 = .ok (.ireturn, 1) := by decide +kernel
theorem dX11_promise_0 : decode cX11_promise 0 = .ok (.aload_n 0, 1) := by decide +kernel
theorem dX11_promise_1 : decode cX11_promise 1 = .ok (.iload_n 1, 1) := by decide +kernel
theorem dX11_promise_2 : decode cX11_promise 2 = .ok (.invokevirtual 237, 3) := by decide +kernel
theorem dX11_promise_5 : decode cX11_promise 5 = .ok (.ifCond .eq 10, 3) := by decide +kernel
theorem dX11_promise_8 : decode cX11_promise 8 = .ok (.iload_n 2, 1) := by decide +kernel
theorem dX11_promise_9 : decode cX11_promise 9 = .ok (.invokestatic 134, 3) := by decide +kernel
theorem dX11_promise_12 : decode cX11_promise 12 = .ok (.ifCond .ne 5, 3) := by decide +kernel
theorem dX11_promise_15 : decode cX11_promise 15 = .ok (.iconst (-1), 1) := by decide +kernel
theorem dX11_promise_16 : decode cX11_promise 16 = .ok (.ireturn, 1) := by decide +kernel
theorem dX11_promise_17 : decode cX11_promise 17 = .ok (.aload_n 0, 1) := by decide +kernel
theorem dX11_promise_18 : decode cX11_promise 18 = .ok (.getfield 287, 3) := by decide +kernel
theorem dX11_promise_21 : decode cX11_promise 21 = .ok (.bipush 20, 2) := by decide +kernel
theorem dX11_promise_23 : decode cX11_promise 23 = .ok (.if_icmp .ne 6, 3) := by decide +kernel
theorem dX11_promise_26 : decode cX11_promise 26 = .ok (.bipush (-3), 2) := by decide +kernel
theorem dX11_promise_28 : decode cX11_promise 28 = .ok (.ireturn, 1) := by decide +kernel
theorem dX11_promise_29 : decode cX11_promise 29 = .ok (.aload_n 0, 1) := by decide +kernel
theorem dX11_promise_30 : decode cX11_promise 30 = .ok (.getfield 68, 3) := by decide +kernel
theorem dX11_promise_33 : decode cX11_promise 33 = .ok (.aload_n 0, 1) := by decide +kernel
theorem dX11_promise_34 : decode cX11_promise 34 = .ok (.getfield 287, 3) := by decide +kernel
theorem dX11_promise_37 : decode cX11_promise 37 = .ok (.iload_n 1, 1) := by decide +kernel
theorem dX11_promise_38 : decode cX11_promise 38 = .ok (.iastore, 1) := by decide +kernel
theorem dX11_promise_39 : decode cX11_promise 39 = .ok (.aload_n 0, 1) := by decide +kernel
theorem dX11_promise_40 : decode cX11_promise 40 = .ok (.getfield 71, 3) := by decide +kernel
theorem dX11_promise_43 : decode cX11_promise 43 = .ok (.aload_n 0, 1) := by decide +kernel
theorem dX11_promise_44 : decode cX11_promise 44 = .ok (.getfield 287, 3) := by decide +kernel
theorem dX11_promise_47 : decode cX11_promise 47 = .ok (.iload_n 2, 1) := by decide +kernel
theorem dX11_promise_48 : decode cX11_promise 48 = .ok (.iastore, 1) := by decide +kernel
theorem dX11_promise_49 : decode cX11_promise 49 = .ok (.aload_n 0, 1) := by decide +kernel
theorem dX11_promise_50 : decode cX11_promise 50 = .ok (.dup, 1) := by decide +kernel
theorem dX11_promise_51 : decode cX11_promise 51 = .ok (.getfield 287, 3) := by decide +kernel
theorem dX11_promise_54 : decode cX11_promise 54 = .ok (.iconst 1, 1) := by decide +kernel
theorem dX11_promise_55 : decode cX11_promise 55 = .ok (.iadd, 1) := by decide +kernel
theorem dX11_promise_56 : decode cX11_promise 56 = .ok (.putfield 287, 3) := by decide +kernel
theorem dX11_promise_59 : decode cX11_promise 59 = .ok (.aload_n 0, 1) := by decide +kernel
theorem dX11_promise_60 : decode cX11_promise 60 = .ok (.getfield 287, 3) := by decide +kernel
theorem dX11_promise_63 : decode cX11_promise 63 = .ok (.iconst 1, 1) := by decide +kernel
theorem dX11_promise_64 : decode cX11_promise 64 = .ok (.isub, 1) := by decide +kernel
theorem dX11_promise_65 : decode cX11_promise 65 = .ok (.ireturn, 1) := by decide +kernel
theorem dX11_mayAt_0 : decode cX11_mayAt 0 = .ok (.aload_n 0, 1) := by decide +kernel
theorem dX11_mayAt_1 : decode cX11_mayAt 1 = .ok (.aload_n 0, 1) := by decide +kernel
theorem dX11_mayAt_2 : decode cX11_mayAt 2 = .ok (.getfield 68, 3) := by decide +kernel
theorem dX11_mayAt_5 : decode cX11_mayAt 5 = .ok (.iload_n 1, 1) := by decide +kernel
theorem dX11_mayAt_6 : decode cX11_mayAt 6 = .ok (.iaload, 1) := by decide +kernel
theorem dX11_mayAt_7 : decode cX11_mayAt 7 = .ok (.bipush 10, 2) := by decide +kernel
theorem dX11_mayAt_9 : decode cX11_mayAt 9 = .ok (.idiv, 1) := by decide +kernel
theorem dX11_mayAt_10 : decode cX11_mayAt 10 = .ok (.aload_n 0, 1) := by decide +kernel
theorem dX11_mayAt_11 : decode cX11_mayAt 11 = .ok (.getfield 68, 3) := by decide +kernel
theorem dX11_mayAt_14 : decode cX11_mayAt 14 = .ok (.iload_n 1, 1) := by decide +kernel
theorem dX11_mayAt_15 : decode cX11_mayAt 15 = .ok (.iaload, 1) := by decide +kernel
theorem dX11_mayAt_16 : decode cX11_mayAt 16 = .ok (.bipush 10, 2) := by decide +kernel
theorem dX11_mayAt_18 : decode cX11_mayAt 18 = .ok (.irem, 1) := by decide +kernel
theorem dX11_mayAt_19 : decode cX11_mayAt 19 = .ok (.iload_n 2, 1) := by decide +kernel
theorem dX11_mayAt_20 : decode cX11_mayAt 20 = .ok (.invokevirtual 252, 3) := by decide +kernel
theorem dX11_mayAt_23 : decode cX11_mayAt 23 = .ok (.ifCond .lt 7, 3) := by decide +kernel
theorem dX11_mayAt_26 : decode cX11_mayAt 26 = .ok (.iconst 1, 1) := by decide +kernel
theorem dX11_mayAt_27 : decode cX11_mayAt 27 = .ok (.goto 4, 3) := by decide +kernel
theorem dX11_mayAt_30 : decode cX11_mayAt 30 = .ok (.iconst 0, 1) := by decide +kernel
theorem dX11_mayAt_31 : decode cX11_mayAt 31 = .ok (.ireturn, 1) := by decide +kernel
theorem dX11_judge_0 : decode cX11_judge 0 = .ok (.iconst 0, 1) := by decide +kernel
theorem dX11_judge_1 : decode cX11_judge 1 = .ok (.istore_n 1, 1) := by decide +kernel
theorem dX11_judge_2 : decode cX11_judge 2 = .ok (.iload_n 1, 1) := by decide +kernel
theorem dX11_judge_3 : decode cX11_judge 3 = .ok (.aload_n 0, 1) := by decide +kernel
theorem dX11_judge_4 : decode cX11_judge 4 = .ok (.getfield 287, 3) := by decide +kernel
theorem dX11_judge_7 : decode cX11_judge 7 = .ok (.if_icmp .ge 25, 3) := by decide +kernel
theorem dX11_judge_10 : decode cX11_judge 10 = .ok (.aload_n 0, 1) := by decide +kernel
theorem dX11_judge_11 : decode cX11_judge 11 = .ok (.iload_n 1, 1) := by decide +kernel
theorem dX11_judge_12 : decode cX11_judge 12 = .ok (.aload_n 0, 1) := by decide +kernel
theorem dX11_judge_13 : decode cX11_judge 13 = .ok (.getfield 71, 3) := by decide +kernel
theorem dX11_judge_16 : decode cX11_judge 16 = .ok (.iload_n 1, 1) := by decide +kernel
theorem dX11_judge_17 : decode cX11_judge 17 = .ok (.iaload, 1) := by decide +kernel
theorem dX11_judge_18 : decode cX11_judge 18 = .ok (.invokevirtual 290, 3) := by decide +kernel
theorem dX11_judge_21 : decode cX11_judge 21 = .ok (.ifCond .ne 5, 3) := by decide +kernel
theorem dX11_judge_24 : decode cX11_judge 24 = .ok (.iload_n 1, 1) := by decide +kernel
theorem dX11_judge_25 : decode cX11_judge 25 = .ok (.ireturn, 1) := by decide +kernel
theorem dX11_judge_26 : decode cX11_judge 26 = .ok (.iinc 1 1, 3) := by decide +kernel
theorem dX11_judge_29 : decode cX11_judge 29 = .ok (.goto (-27), 3) := by decide +kernel
theorem dX11_judge_32 : decode cX11_judge 32 = .ok (.bipush (-2), 2) := by decide +kernel
theorem dX11_judge_34 : decode cX11_judge 34 = .ok (.ireturn, 1) := by decide +kernel
theorem dX11_dated_0 : decode cX11_dated 0 = .ok (.aload_n 0, 1) := by decide +kernel
theorem dX11_dated_1 : decode cX11_dated 1 = .ok (.iload_n 1, 1) := by decide +kernel
theorem dX11_dated_2 : decode cX11_dated 2 = .ok (.invokevirtual 294, 3) := by decide +kernel
theorem dX11_dated_5 : decode cX11_dated 5 = .ok (.ifCond .ne 5, 3) := by decide +kernel
theorem dX11_dated_8 : decode cX11_dated 8 = .ok (.iconst (-1), 1) := by decide +kernel
theorem dX11_dated_9 : decode cX11_dated 9 = .ok (.ireturn, 1) := by decide +kernel
theorem dX11_dated_10 : decode cX11_dated 10 = .ok (.aload_n 0, 1) := by decide +kernel
theorem dX11_dated_11 : decode cX11_dated 11 = .ok (.getfield 71, 3) := by decide +kernel
theorem dX11_dated_14 : decode cX11_dated 14 = .ok (.iload_n 1, 1) := by decide +kernel
theorem dX11_dated_15 : decode cX11_dated 15 = .ok (.iaload, 1) := by decide +kernel
theorem dX11_dated_16 : decode cX11_dated 16 = .ok (.istore_n 2, 1) := by decide +kernel
theorem dX11_dated_17 : decode cX11_dated 17 = .ok (.iconst 0, 1) := by decide +kernel
theorem dX11_dated_18 : decode cX11_dated 18 = .ok (.istore_n 3, 1) := by decide +kernel
theorem dX11_dated_19 : decode cX11_dated 19 = .ok (.iload_n 3, 1) := by decide +kernel
theorem dX11_dated_20 : decode cX11_dated 20 = .ok (.sipush 500, 3) := by decide +kernel
theorem dX11_dated_23 : decode cX11_dated 23 = .ok (.if_icmp .gt 57, 3) := by decide +kernel
theorem dX11_dated_26 : decode cX11_dated 26 = .ok (.iload_n 2, 1) := by decide +kernel
theorem dX11_dated_27 : decode cX11_dated 27 = .ok (.iload_n 3, 1) := by decide +kernel
theorem dX11_dated_28 : decode cX11_dated 28 = .ok (.isub, 1) := by decide +kernel
theorem dX11_dated_29 : decode cX11_dated 29 = .ok (.invokestatic 134, 3) := by decide +kernel
theorem dX11_dated_32 : decode cX11_dated 32 = .ok (.ifCond .eq 18, 3) := by decide +kernel
theorem dX11_dated_35 : decode cX11_dated 35 = .ok (.aload_n 0, 1) := by decide +kernel
theorem dX11_dated_36 : decode cX11_dated 36 = .ok (.iload_n 1, 1) := by decide +kernel
theorem dX11_dated_37 : decode cX11_dated 37 = .ok (.iload_n 2, 1) := by decide +kernel
theorem dX11_dated_38 : decode cX11_dated 38 = .ok (.iload_n 3, 1) := by decide +kernel
theorem dX11_dated_39 : decode cX11_dated 39 = .ok (.isub, 1) := by decide +kernel
theorem dX11_dated_40 : decode cX11_dated 40 = .ok (.invokevirtual 290, 3) := by decide +kernel
theorem dX11_dated_43 : decode cX11_dated 43 = .ok (.ifCond .eq 7, 3) := by decide +kernel
theorem dX11_dated_46 : decode cX11_dated 46 = .ok (.iload_n 2, 1) := by decide +kernel
theorem dX11_dated_47 : decode cX11_dated 47 = .ok (.iload_n 3, 1) := by decide +kernel
theorem dX11_dated_48 : decode cX11_dated 48 = .ok (.isub, 1) := by decide +kernel
theorem dX11_dated_49 : decode cX11_dated 49 = .ok (.ireturn, 1) := by decide +kernel
theorem dX11_dated_50 : decode cX11_dated 50 = .ok (.iload_n 2, 1) := by decide +kernel
theorem dX11_dated_51 : decode cX11_dated 51 = .ok (.iload_n 3, 1) := by decide +kernel
theorem dX11_dated_52 : decode cX11_dated 52 = .ok (.iadd, 1) := by decide +kernel
theorem dX11_dated_53 : decode cX11_dated 53 = .ok (.invokestatic 134, 3) := by decide +kernel
theorem dX11_dated_56 : decode cX11_dated 56 = .ok (.ifCond .eq 18, 3) := by decide +kernel
theorem dX11_dated_59 : decode cX11_dated 59 = .ok (.aload_n 0, 1) := by decide +kernel
theorem dX11_dated_60 : decode cX11_dated 60 = .ok (.iload_n 1, 1) := by decide +kernel
theorem dX11_dated_61 : decode cX11_dated 61 = .ok (.iload_n 2, 1) := by decide +kernel
theorem dX11_dated_62 : decode cX11_dated 62 = .ok (.iload_n 3, 1) := by decide +kernel
theorem dX11_dated_63 : decode cX11_dated 63 = .ok (.iadd, 1) := by decide +kernel
theorem dX11_dated_64 : decode cX11_dated 64 = .ok (.invokevirtual 290, 3) := by decide +kernel
theorem dX11_dated_67 : decode cX11_dated 67 = .ok (.ifCond .eq 7, 3) := by decide +kernel
theorem dX11_dated_70 : decode cX11_dated 70 = .ok (.iload_n 2, 1) := by decide +kernel
theorem dX11_dated_71 : decode cX11_dated 71 = .ok (.iload_n 3, 1) := by decide +kernel
theorem dX11_dated_72 : decode cX11_dated 72 = .ok (.iadd, 1) := by decide +kernel
theorem dX11_dated_73 : decode cX11_dated 73 = .ok (.ireturn, 1) := by decide +kernel
theorem dX11_dated_74 : decode cX11_dated 74 = .ok (.iinc 3 1, 3) := by decide +kernel
theorem dX11_dated_77 : decode cX11_dated 77 = .ok (.goto (-58), 3) := by decide +kernel
theorem dX11_dated_80 : decode cX11_dated 80 = .ok (.bipush (-2), 2) := by decide +kernel
theorem dX11_dated_82 : decode cX11_dated 82 = .ok (.ireturn, 1) := by decide +kernel
theorem dX11_claims_0 : decode cX11_claims 0 = .ok (.aload_n 0, 1) := by decide +kernel
theorem dX11_claims_1 : decode cX11_claims 1 = .ok (.iload_n 1, 1) := by decide +kernel
theorem dX11_claims_2 : decode cX11_claims 2 = .ok (.invokevirtual 294, 3) := by decide +kernel
theorem dX11_claims_5 : decode cX11_claims 5 = .ok (.ifCond .eq 15, 3) := by decide +kernel
theorem dX11_claims_8 : decode cX11_claims 8 = .ok (.iload_n 2, 1) := by decide +kernel
theorem dX11_claims_9 : decode cX11_claims 9 = .ok (.i2l, 1) := by decide +kernel
theorem dX11_claims_10 : decode cX11_claims 10 = .ok (.lconst 1, 1) := by decide +kernel
theorem dX11_claims_11 : decode cX11_claims 11 = .ok (.ldc2_w 297, 3) := by decide +kernel
theorem dX11_claims_14 : decode cX11_claims 14 = .ok (.invokestatic 106, 3) := by decide +kernel
theorem dX11_claims_17 : decode cX11_claims 17 = .ok (.ifCond .ne 5, 3) := by decide +kernel
theorem dX11_claims_20 : decode cX11_claims 20 = .ok (.iconst (-1), 1) := by decide +kernel
theorem dX11_claims_21 : decode cX11_claims 21 = .ok (.ireturn, 1) := by decide +kernel
theorem dX11_claims_22 : decode cX11_claims 22 = .ok (.aload_n 0, 1) := by decide +kernel
theorem dX11_claims_23 : decode cX11_claims 23 = .ok (.getfield 71, 3) := by decide +kernel
theorem dX11_claims_26 : decode cX11_claims 26 = .ok (.iload_n 1, 1) := by decide +kernel
theorem dX11_claims_27 : decode cX11_claims 27 = .ok (.iaload, 1) := by decide +kernel
theorem dX11_claims_28 : decode cX11_claims 28 = .ok (.istore_n 3, 1) := by decide +kernel
theorem dX11_claims_29 : decode cX11_claims 29 = .ok (.aload_n 0, 1) := by decide +kernel
theorem dX11_claims_30 : decode cX11_claims 30 = .ok (.iload_n 1, 1) := by decide +kernel
theorem dX11_claims_31 : decode cX11_claims 31 = .ok (.iload_n 3, 1) := by decide +kernel
theorem dX11_claims_32 : decode cX11_claims 32 = .ok (.invokevirtual 290, 3) := by decide +kernel
theorem dX11_claims_35 : decode cX11_claims 35 = .ok (.ifCond .ne 6, 3) := by decide +kernel
theorem dX11_claims_38 : decode cX11_claims 38 = .ok (.bipush (-5), 2) := by decide +kernel
theorem dX11_claims_40 : decode cX11_claims 40 = .ok (.ireturn, 1) := by decide +kernel
theorem dX11_claims_41 : decode cX11_claims 41 = .ok (.aload_n 0, 1) := by decide +kernel
theorem dX11_claims_42 : decode cX11_claims 42 = .ok (.getfield 68, 3) := by decide +kernel
theorem dX11_claims_45 : decode cX11_claims 45 = .ok (.iload_n 1, 1) := by decide +kernel
theorem dX11_claims_46 : decode cX11_claims 46 = .ok (.iaload, 1) := by decide +kernel
theorem dX11_claims_47 : decode cX11_claims 47 = .ok (.bipush 10, 2) := by decide +kernel
theorem dX11_claims_49 : decode cX11_claims 49 = .ok (.irem, 1) := by decide +kernel
theorem dX11_claims_50 : decode cX11_claims 50 = .ok (.istore 4, 2) := by decide +kernel
theorem dX11_claims_52 : decode cX11_claims 52 = .ok (.iload_n 3, 1) := by decide +kernel
theorem dX11_claims_53 : decode cX11_claims 53 = .ok (.aload_n 0, 1) := by decide +kernel
theorem dX11_claims_54 : decode cX11_claims 54 = .ok (.getfield 9, 3) := by decide +kernel
theorem dX11_claims_57 : decode cX11_claims 57 = .ok (.bipush 6, 2) := by decide +kernel
theorem dX11_claims_59 : decode cX11_claims 59 = .ok (.aload_n 0, 1) := by decide +kernel
theorem dX11_claims_60 : decode cX11_claims 60 = .ok (.getfield 68, 3) := by decide +kernel
theorem dX11_claims_63 : decode cX11_claims 63 = .ok (.iload_n 1, 1) := by decide +kernel
theorem dX11_claims_64 : decode cX11_claims 64 = .ok (.iaload, 1) := by decide +kernel
theorem dX11_claims_65 : decode cX11_claims 65 = .ok (.bipush 10, 2) := by decide +kernel
theorem dX11_claims_67 : decode cX11_claims 67 = .ok (.idiv, 1) := by decide +kernel
theorem dX11_claims_68 : decode cX11_claims 68 = .ok (.iadd, 1) := by decide +kernel
theorem dX11_claims_69 : decode cX11_claims 69 = .ok (.iaload, 1) := by decide +kernel
theorem dX11_claims_70 : decode cX11_claims 70 = .ok (.iadd, 1) := by decide +kernel
theorem dX11_claims_71 : decode cX11_claims 71 = .ok (.istore 5, 2) := by decide +kernel
theorem dX11_claims_73 : decode cX11_claims 73 = .ok (.iconst 0, 1) := by decide +kernel
theorem dX11_claims_74 : decode cX11_claims 74 = .ok (.istore 6, 2) := by decide +kernel
theorem dX11_claims_76 : decode cX11_claims 76 = .ok (.iload 5, 2) := by decide +kernel
theorem dX11_claims_78 : decode cX11_claims 78 = .ok (.istore 7, 2) := by decide +kernel
theorem dX11_claims_80 : decode cX11_claims 80 = .ok (.iload 7, 2) := by decide +kernel
theorem dX11_claims_82 : decode cX11_claims 82 = .ok (.iload 5, 2) := by decide +kernel
theorem dX11_claims_84 : decode cX11_claims 84 = .ok (.iload_n 2, 1) := by decide +kernel
theorem dX11_claims_85 : decode cX11_claims 85 = .ok (.iadd, 1) := by decide +kernel
theorem dX11_claims_86 : decode cX11_claims 86 = .ok (.if_icmp .ge 37, 3) := by decide +kernel
theorem dX11_claims_89 : decode cX11_claims 89 = .ok (.iload 6, 2) := by decide +kernel
theorem dX11_claims_91 : decode cX11_claims 91 = .ok (.aload_n 0, 1) := by decide +kernel
theorem dX11_claims_92 : decode cX11_claims 92 = .ok (.iload 4, 2) := by decide +kernel
theorem dX11_claims_94 : decode cX11_claims 94 = .ok (.iload 7, 2) := by decide +kernel
theorem dX11_claims_96 : decode cX11_claims 96 = .ok (.invokevirtual 137, 3) := by decide +kernel
theorem dX11_claims_99 : decode cX11_claims 99 = .ok (.aload_n 0, 1) := by decide +kernel
theorem dX11_claims_100 : decode cX11_claims 100 = .ok (.iload 4, 2) := by decide +kernel
theorem dX11_claims_102 : decode cX11_claims 102 = .ok (.iload_n 3, 1) := by decide +kernel
theorem dX11_claims_103 : decode cX11_claims 103 = .ok (.invokevirtual 137, 3) := by decide +kernel
theorem dX11_claims_106 : decode cX11_claims 106 = .ok (.if_icmp .ne 7, 3) := by decide +kernel
theorem dX11_claims_109 : decode cX11_claims 109 = .ok (.iconst 1, 1) := by decide +kernel
theorem dX11_claims_110 : decode cX11_claims 110 = .ok (.goto 4, 3) := by decide +kernel
theorem dX11_claims_113 : decode cX11_claims 113 = .ok (.iconst 0, 1) := by decide +kernel
theorem dX11_claims_114 : decode cX11_claims 114 = .ok (.iadd, 1) := by decide +kernel
theorem dX11_claims_115 : decode cX11_claims 115 = .ok (.istore 6, 2) := by decide +kernel
theorem dX11_claims_117 : decode cX11_claims 117 = .ok (.iinc 7 1, 3) := by decide +kernel
theorem dX11_claims_120 : decode cX11_claims 120 = .ok (.goto (-40), 3) := by decide +kernel
theorem dX11_claims_123 : decode cX11_claims 123 = .ok (.iload 6, 2) := by decide +kernel
theorem dX11_claims_125 : decode cX11_claims 125 = .ok (.ireturn, 1) := by decide +kernel
theorem dX11_yearOf_0 : decode cX11_yearOf 0 = .ok (.iconst 0, 1) := by decide +kernel
theorem dX11_yearOf_1 : decode cX11_yearOf 1 = .ok (.istore 5, 2) := by decide +kernel
theorem dX11_yearOf_3 : decode cX11_yearOf 3 = .ok (.iload_n 3, 1) := by decide +kernel
theorem dX11_yearOf_4 : decode cX11_yearOf 4 = .ok (.istore 6, 2) := by decide +kernel
theorem dX11_yearOf_6 : decode cX11_yearOf 6 = .ok (.iload 6, 2) := by decide +kernel
theorem dX11_yearOf_8 : decode cX11_yearOf 8 = .ok (.iload_n 3, 1) := by decide +kernel
theorem dX11_yearOf_9 : decode cX11_yearOf 9 = .ok (.iload 4, 2) := by decide +kernel
theorem dX11_yearOf_11 : decode cX11_yearOf 11 = .ok (.iadd, 1) := by decide +kernel
theorem dX11_yearOf_12 : decode cX11_yearOf 12 = .ok (.if_icmp .ge 30, 3) := by decide +kernel
theorem dX11_yearOf_15 : decode cX11_yearOf 15 = .ok (.iload 5, 2) := by decide +kernel
theorem dX11_yearOf_17 : decode cX11_yearOf 17 = .ok (.aload_n 0, 1) := by decide +kernel
theorem dX11_yearOf_18 : decode cX11_yearOf 18 = .ok (.iload_n 1, 1) := by decide +kernel
theorem dX11_yearOf_19 : decode cX11_yearOf 19 = .ok (.iload_n 2, 1) := by decide +kernel
theorem dX11_yearOf_20 : decode cX11_yearOf 20 = .ok (.iload 6, 2) := by decide +kernel
theorem dX11_yearOf_22 : decode cX11_yearOf 22 = .ok (.invokevirtual 252, 3) := by decide +kernel
theorem dX11_yearOf_25 : decode cX11_yearOf 25 = .ok (.ifCond .lt 7, 3) := by decide +kernel
theorem dX11_yearOf_28 : decode cX11_yearOf 28 = .ok (.iconst 1, 1) := by decide +kernel
theorem dX11_yearOf_29 : decode cX11_yearOf 29 = .ok (.goto 4, 3) := by decide +kernel
theorem dX11_yearOf_32 : decode cX11_yearOf 32 = .ok (.iconst 0, 1) := by decide +kernel
theorem dX11_yearOf_33 : decode cX11_yearOf 33 = .ok (.iadd, 1) := by decide +kernel
theorem dX11_yearOf_34 : decode cX11_yearOf 34 = .ok (.istore 5, 2) := by decide +kernel
theorem dX11_yearOf_36 : decode cX11_yearOf 36 = .ok (.iinc 6 1, 3) := by decide +kernel
theorem dX11_yearOf_39 : decode cX11_yearOf 39 = .ok (.goto (-33), 3) := by decide +kernel
theorem dX11_yearOf_42 : decode cX11_yearOf 42 = .ok (.iload 5, 2) := by decide +kernel
theorem dX11_yearOf_44 : decode cX11_yearOf 44 = .ok (.ireturn, 1) := by decide +kernel
theorem dX11_year_0 : decode cX11_year 0 = .ok (.iload_n 1, 1) := by decide +kernel
theorem dX11_year_1 : decode cX11_year 1 = .ok (.iconst (-1), 1) := by decide +kernel
theorem dX11_year_2 : decode cX11_year 2 = .ok (.if_icmp .eq 11, 3) := by decide +kernel
theorem dX11_year_5 : decode cX11_year 5 = .ok (.aload_n 0, 1) := by decide +kernel
theorem dX11_year_6 : decode cX11_year 6 = .ok (.iload_n 1, 1) := by decide +kernel
theorem dX11_year_7 : decode cX11_year 7 = .ok (.invokevirtual 218, 3) := by decide +kernel
theorem dX11_year_10 : decode cX11_year 10 = .ok (.ifCond .eq 31, 3) := by decide +kernel
theorem dX11_year_13 : decode cX11_year 13 = .ok (.aload_n 0, 1) := by decide +kernel
theorem dX11_year_14 : decode cX11_year 14 = .ok (.iload_n 2, 1) := by decide +kernel
theorem dX11_year_15 : decode cX11_year 15 = .ok (.invokevirtual 119, 3) := by decide +kernel
theorem dX11_year_18 : decode cX11_year 18 = .ok (.ifCond .eq 23, 3) := by decide +kernel
theorem dX11_year_21 : decode cX11_year 21 = .ok (.iload_n 3, 1) := by decide +kernel
theorem dX11_year_22 : decode cX11_year 22 = .ok (.invokestatic 134, 3) := by decide +kernel
theorem dX11_year_25 : decode cX11_year 25 = .ok (.ifCond .eq 16, 3) := by decide +kernel
theorem dX11_year_28 : decode cX11_year 28 = .ok (.iload 4, 2) := by decide +kernel
theorem dX11_year_30 : decode cX11_year 30 = .ok (.i2l, 1) := by decide +kernel
theorem dX11_year_31 : decode cX11_year 31 = .ok (.lconst 1, 1) := by decide +kernel
theorem dX11_year_32 : decode cX11_year 32 = .ok (.ldc2_w 299, 3) := by decide +kernel
theorem dX11_year_35 : decode cX11_year 35 = .ok (.invokestatic 106, 3) := by decide +kernel
theorem dX11_year_38 : decode cX11_year 38 = .ok (.ifCond .ne 5, 3) := by decide +kernel
theorem dX11_year_41 : decode cX11_year 41 = .ok (.iconst (-1), 1) := by decide +kernel
theorem dX11_year_42 : decode cX11_year 42 = .ok (.ireturn, 1) := by decide +kernel
theorem dX11_year_43 : decode cX11_year 43 = .ok (.aload_n 0, 1) := by decide +kernel
theorem dX11_year_44 : decode cX11_year 44 = .ok (.getfield 196, 3) := by decide +kernel
theorem dX11_year_47 : decode cX11_year 47 = .ok (.ifCond .ne 6, 3) := by decide +kernel
theorem dX11_year_50 : decode cX11_year 50 = .ok (.bipush (-5), 2) := by decide +kernel
theorem dX11_year_52 : decode cX11_year 52 = .ok (.ireturn, 1) := by decide +kernel
theorem dX11_year_53 : decode cX11_year 53 = .ok (.iload_n 1, 1) := by decide +kernel
theorem dX11_year_54 : decode cX11_year 54 = .ok (.ifCond .lt 13, 3) := by decide +kernel
theorem dX11_year_57 : decode cX11_year 57 = .ok (.aload_n 0, 1) := by decide +kernel
theorem dX11_year_58 : decode cX11_year 58 = .ok (.iload_n 1, 1) := by decide +kernel
theorem dX11_year_59 : decode cX11_year 59 = .ok (.iload_n 2, 1) := by decide +kernel
theorem dX11_year_60 : decode cX11_year 60 = .ok (.iload_n 3, 1) := by decide +kernel
theorem dX11_year_61 : decode cX11_year 61 = .ok (.iload 4, 2) := by decide +kernel
theorem dX11_year_63 : decode cX11_year 63 = .ok (.invokevirtual 301, 3) := by decide +kernel
theorem dX11_year_66 : decode cX11_year 66 = .ok (.ireturn, 1) := by decide +kernel
theorem dX11_year_67 : decode cX11_year 67 = .ok (.iconst 0, 1) := by decide +kernel
theorem dX11_year_68 : decode cX11_year 68 = .ok (.istore 5, 2) := by decide +kernel
theorem dX11_year_70 : decode cX11_year 70 = .ok (.iconst (-1), 1) := by decide +kernel
theorem dX11_year_71 : decode cX11_year 71 = .ok (.istore 6, 2) := by decide +kernel
theorem dX11_year_73 : decode cX11_year 73 = .ok (.iconst 0, 1) := by decide +kernel
theorem dX11_year_74 : decode cX11_year 74 = .ok (.istore 7, 2) := by decide +kernel
theorem dX11_year_76 : decode cX11_year 76 = .ok (.iload 7, 2) := by decide +kernel
theorem dX11_year_78 : decode cX11_year 78 = .ok (.aload_n 0, 1) := by decide +kernel
theorem dX11_year_79 : decode cX11_year 79 = .ok (.getfield 196, 3) := by decide +kernel
theorem dX11_year_82 : decode cX11_year 82 = .ok (.if_icmp .ge 36, 3) := by decide +kernel
theorem dX11_year_85 : decode cX11_year 85 = .ok (.aload_n 0, 1) := by decide +kernel
theorem dX11_year_86 : decode cX11_year 86 = .ok (.iload 7, 2) := by decide +kernel
theorem dX11_year_88 : decode cX11_year 88 = .ok (.iload_n 2, 1) := by decide +kernel
theorem dX11_year_89 : decode cX11_year 89 = .ok (.iload_n 3, 1) := by decide +kernel
theorem dX11_year_90 : decode cX11_year 90 = .ok (.iload 4, 2) := by decide +kernel
theorem dX11_year_92 : decode cX11_year 92 = .ok (.invokevirtual 301, 3) := by decide +kernel
theorem dX11_year_95 : decode cX11_year 95 = .ok (.istore 8, 2) := by decide +kernel
theorem dX11_year_97 : decode cX11_year 97 = .ok (.iload 8, 2) := by decide +kernel
theorem dX11_year_99 : decode cX11_year 99 = .ok (.iload 6, 2) := by decide +kernel
theorem dX11_year_101 : decode cX11_year 101 = .ok (.if_icmp .le 11, 3) := by decide +kernel
theorem dX11_year_104 : decode cX11_year 104 = .ok (.iload 7, 2) := by decide +kernel
theorem dX11_year_106 : decode cX11_year 106 = .ok (.istore 5, 2) := by decide +kernel
theorem dX11_year_108 : decode cX11_year 108 = .ok (.iload 8, 2) := by decide +kernel
theorem dX11_year_110 : decode cX11_year 110 = .ok (.istore 6, 2) := by decide +kernel
theorem dX11_year_112 : decode cX11_year 112 = .ok (.iinc 7 1, 3) := by decide +kernel
theorem dX11_year_115 : decode cX11_year 115 = .ok (.goto (-39), 3) := by decide +kernel
theorem dX11_year_118 : decode cX11_year 118 = .ok (.iload 5, 2) := by decide +kernel
theorem dX11_year_120 : decode cX11_year 120 = .ok (.ireturn, 1) := by decide +kernel
theorem dX11_isBody_0 : decode cX11_isBody 0 = .ok (.iload_n 1, 1) := by decide +kernel
theorem dX11_isBody_1 : decode cX11_isBody 1 = .ok (.i2l, 1) := by decide +kernel
theorem dX11_isBody_2 : decode cX11_isBody 2 = .ok (.lconst 0, 1) := by decide +kernel
theorem dX11_isBody_3 : decode cX11_isBody 3 = .ok (.aload_n 0, 1) := by decide +kernel
theorem dX11_isBody_4 : decode cX11_isBody 4 = .ok (.getfield 304, 3) := by decide +kernel
theorem dX11_isBody_7 : decode cX11_isBody 7 = .ok (.iconst 1, 1) := by decide +kernel
theorem dX11_isBody_8 : decode cX11_isBody 8 = .ok (.isub, 1) := by decide +kernel
theorem dX11_isBody_9 : decode cX11_isBody 9 = .ok (.i2l, 1) := by decide +kernel
theorem dX11_isBody_10 : decode cX11_isBody 10 = .ok (.invokestatic 106, 3) := by decide +kernel
theorem dX11_isBody_13 : decode cX11_isBody 13 = .ok (.ireturn, 1) := by decide +kernel
theorem dX11_kindOf_0 : decode cX11_kindOf 0 = .ok (.aload_n 0, 1) := by decide +kernel
theorem dX11_kindOf_1 : decode cX11_kindOf 1 = .ok (.getfield 74, 3) := by decide +kernel
theorem dX11_kindOf_4 : decode cX11_kindOf 4 = .ok (.iload_n 1, 1) := by decide +kernel
theorem dX11_kindOf_5 : decode cX11_kindOf 5 = .ok (.iaload, 1) := by decide +kernel
theorem dX11_kindOf_6 : decode cX11_kindOf 6 = .ok (.ireturn, 1) := by decide +kernel
theorem dX11_body_0 : decode cX11_body 0 = .ok (.iload_n 1, 1) := by decide +kernel
theorem dX11_body_1 : decode cX11_body 1 = .ok (.i2l, 1) := by decide +kernel
theorem dX11_body_2 : decode cX11_body 2 = .ok (.lconst 0, 1) := by decide +kernel
theorem dX11_body_3 : decode cX11_body 3 = .ok (.ldc2_w 307, 3) := by decide +kernel
theorem dX11_body_6 : decode cX11_body 6 = .ok (.invokestatic 106, 3) := by decide +kernel
theorem dX11_body_9 : decode cX11_body 9 = .ok (.ifCond .ne 5, 3) := by decide +kernel
theorem dX11_body_12 : decode cX11_body 12 = .ok (.iconst (-1), 1) := by decide +kernel
theorem dX11_body_13 : decode cX11_body 13 = .ok (.ireturn, 1) := by decide +kernel
theorem dX11_body_14 : decode cX11_body 14 = .ok (.aload_n 0, 1) := by decide +kernel
theorem dX11_body_15 : decode cX11_body 15 = .ok (.getfield 304, 3) := by decide +kernel
theorem dX11_body_18 : decode cX11_body 18 = .ok (.bipush 50, 2) := by decide +kernel
theorem dX11_body_20 : decode cX11_body 20 = .ok (.if_icmp .ne 6, 3) := by decide +kernel
theorem dX11_body_23 : decode cX11_body 23 = .ok (.bipush (-3), 2) := by decide +kernel
theorem dX11_body_25 : decode cX11_body 25 = .ok (.ireturn, 1) := by decide +kernel
theorem dX11_body_26 : decode cX11_body 26 = .ok (.aload_n 0, 1) := by decide +kernel
theorem dX11_body_27 : decode cX11_body 27 = .ok (.getfield 74, 3) := by decide +kernel
theorem dX11_body_30 : decode cX11_body 30 = .ok (.aload_n 0, 1) := by decide +kernel
theorem dX11_body_31 : decode cX11_body 31 = .ok (.getfield 304, 3) := by decide +kernel
theorem dX11_body_34 : decode cX11_body 34 = .ok (.iload_n 1, 1) := by decide +kernel
theorem dX11_body_35 : decode cX11_body 35 = .ok (.iastore, 1) := by decide +kernel
theorem dX11_body_36 : decode cX11_body 36 = .ok (.aload_n 0, 1) := by decide +kernel
theorem dX11_body_37 : decode cX11_body 37 = .ok (.dup, 1) := by decide +kernel
theorem dX11_body_38 : decode cX11_body 38 = .ok (.getfield 304, 3) := by decide +kernel
theorem dX11_body_41 : decode cX11_body 41 = .ok (.iconst 1, 1) := by decide +kernel
theorem dX11_body_42 : decode cX11_body 42 = .ok (.iadd, 1) := by decide +kernel
theorem dX11_body_43 : decode cX11_body 43 = .ok (.putfield 304, 3) := by decide +kernel
theorem dX11_body_46 : decode cX11_body 46 = .ok (.aload_n 0, 1) := by decide +kernel
theorem dX11_body_47 : decode cX11_body 47 = .ok (.getfield 304, 3) := by decide +kernel
theorem dX11_body_50 : decode cX11_body 50 = .ok (.iconst 1, 1) := by decide +kernel
theorem dX11_body_51 : decode cX11_body 51 = .ok (.isub, 1) := by decide +kernel
theorem dX11_body_52 : decode cX11_body 52 = .ok (.ireturn, 1) := by decide +kernel
theorem dX11_above_0 : decode cX11_above 0 = .ok (.iload_n 0, 1) := by decide +kernel
theorem dX11_above_1 : decode cX11_above 1 = .ok (.iconst 3, 1) := by decide +kernel
theorem dX11_above_2 : decode cX11_above 2 = .ok (.if_icmp .eq 8, 3) := by decide +kernel
theorem dX11_above_5 : decode cX11_above 5 = .ok (.iload_n 0, 1) := by decide +kernel
theorem dX11_above_6 : decode cX11_above 6 = .ok (.iconst 4, 1) := by decide +kernel
theorem dX11_above_7 : decode cX11_above 7 = .ok (.if_icmp .ne 7, 3) := by decide +kernel
theorem dX11_above_10 : decode cX11_above 10 = .ok (.iconst 2, 1) := by decide +kernel
theorem dX11_above_11 : decode cX11_above 11 = .ok (.goto 23, 3) := by decide +kernel
theorem dX11_above_14 : decode cX11_above 14 = .ok (.iload_n 0, 1) := by decide +kernel
theorem dX11_above_15 : decode cX11_above 15 = .ok (.iconst 5, 1) := by decide +kernel
theorem dX11_above_16 : decode cX11_above 16 = .ok (.if_icmp .ne 7, 3) := by decide +kernel
theorem dX11_above_19 : decode cX11_above 19 = .ok (.iconst 1, 1) := by decide +kernel
theorem dX11_above_20 : decode cX11_above 20 = .ok (.goto 14, 3) := by decide +kernel
theorem dX11_above_23 : decode cX11_above 23 = .ok (.iload_n 0, 1) := by decide +kernel
theorem dX11_above_24 : decode cX11_above 24 = .ok (.bipush 7, 2) := by decide +kernel
theorem dX11_above_26 : decode cX11_above 26 = .ok (.if_icmp .ne 7, 3) := by decide +kernel
theorem dX11_above_29 : decode cX11_above 29 = .ok (.iconst 3, 1) := by decide +kernel
theorem dX11_above_30 : decode cX11_above 30 = .ok (.goto 4, 3) := by decide +kernel
theorem dX11_above_33 : decode cX11_above 33 = .ok (.iconst 0, 1) := by decide +kernel
theorem dX11_above_34 : decode cX11_above 34 = .ok (.ireturn, 1) := by decide +kernel
theorem dX11_begins_0 : decode cX11_begins 0 = .ok (.aload_n 0, 1) := by decide +kernel
theorem dX11_begins_1 : decode cX11_begins 1 = .ok (.getfield 309, 3) := by decide +kernel
theorem dX11_begins_4 : decode cX11_begins 4 = .ok (.bipush 24, 2) := by decide +kernel
theorem dX11_begins_6 : decode cX11_begins 6 = .ok (.if_icmp .ge 13, 3) := by decide +kernel
theorem dX11_begins_9 : decode cX11_begins 9 = .ok (.aload_n 0, 1) := by decide +kernel
theorem dX11_begins_10 : decode cX11_begins 10 = .ok (.getfield 77, 3) := by decide +kernel
theorem dX11_begins_13 : decode cX11_begins 13 = .ok (.aload_n 0, 1) := by decide +kernel
theorem dX11_begins_14 : decode cX11_begins 14 = .ok (.getfield 309, 3) := by decide +kernel
theorem dX11_begins_17 : decode cX11_begins 17 = .ok (.iload_n 1, 1) := by decide +kernel
theorem dX11_begins_18 : decode cX11_begins 18 = .ok (.iastore, 1) := by decide +kernel
theorem dX11_begins_19 : decode cX11_begins 19 = .ok (.aload_n 0, 1) := by decide +kernel
theorem dX11_begins_20 : decode cX11_begins 20 = .ok (.dup, 1) := by decide +kernel
theorem dX11_begins_21 : decode cX11_begins 21 = .ok (.getfield 309, 3) := by decide +kernel
theorem dX11_begins_24 : decode cX11_begins 24 = .ok (.iconst 1, 1) := by decide +kernel
theorem dX11_begins_25 : decode cX11_begins 25 = .ok (.iadd, 1) := by decide +kernel
theorem dX11_begins_26 : decode cX11_begins 26 = .ok (.putfield 309, 3) := by decide +kernel
theorem dX11_begins_29 : decode cX11_begins 29 = .ok (.return_, 1) := by decide +kernel
theorem dX11_beginsAs_0 : decode cX11_beginsAs 0 = .ok (.iload_n 1, 1) := by decide +kernel
theorem dX11_beginsAs_1 : decode cX11_beginsAs 1 = .ok (.iconst 1, 1) := by decide +kernel
theorem dX11_beginsAs_2 : decode cX11_beginsAs 2 = .ok (.if_icmp .eq 8, 3) := by decide +kernel
theorem dX11_beginsAs_5 : decode cX11_beginsAs 5 = .ok (.iload_n 1, 1) := by decide +kernel
theorem dX11_beginsAs_6 : decode cX11_beginsAs 6 = .ok (.iconst 5, 1) := by decide +kernel
theorem dX11_beginsAs_7 : decode cX11_beginsAs 7 = .ok (.if_icmp .ne 18, 3) := by decide +kernel
theorem dX11_beginsAs_10 : decode cX11_beginsAs 10 = .ok (.aload_n 0, 1) := by decide +kernel
theorem dX11_beginsAs_11 : decode cX11_beginsAs 11 = .ok (.bipush 20, 2) := by decide +kernel
theorem dX11_beginsAs_13 : decode cX11_beginsAs 13 = .ok (.invokevirtual 312, 3) := by decide +kernel
theorem dX11_beginsAs_16 : decode cX11_beginsAs 16 = .ok (.aload_n 0, 1) := by decide +kernel
theorem dX11_beginsAs_17 : decode cX11_beginsAs 17 = .ok (.iconst 0, 1) := by decide +kernel
theorem dX11_beginsAs_18 : decode cX11_beginsAs 18 = .ok (.iload_n 2, 1) := by decide +kernel
theorem dX11_beginsAs_19 : decode cX11_beginsAs 19 = .ok (.invokevirtual 315, 3) := by decide +kernel
theorem dX11_beginsAs_22 : decode cX11_beginsAs 22 = .ok (.iconst 3, 1) := by decide +kernel
theorem dX11_beginsAs_23 : decode cX11_beginsAs 23 = .ok (.iadd, 1) := by decide +kernel
theorem dX11_beginsAs_24 : decode cX11_beginsAs 24 = .ok (.ireturn, 1) := by decide +kernel
theorem dX11_beginsAs_25 : decode cX11_beginsAs 25 = .ok (.iload_n 1, 1) := by decide +kernel
theorem dX11_beginsAs_26 : decode cX11_beginsAs 26 = .ok (.bipush 6, 2) := by decide +kernel
theorem dX11_beginsAs_28 : decode cX11_beginsAs 28 = .ok (.if_icmp .ne 18, 3) := by decide +kernel
theorem dX11_beginsAs_31 : decode cX11_beginsAs 31 = .ok (.aload_n 0, 1) := by decide +kernel
theorem dX11_beginsAs_32 : decode cX11_beginsAs 32 = .ok (.bipush 70, 2) := by decide +kernel
theorem dX11_beginsAs_34 : decode cX11_beginsAs 34 = .ok (.invokevirtual 312, 3) := by decide +kernel
theorem dX11_beginsAs_37 : decode cX11_beginsAs 37 = .ok (.aload_n 0, 1) := by decide +kernel
theorem dX11_beginsAs_38 : decode cX11_beginsAs 38 = .ok (.iconst 0, 1) := by decide +kernel
theorem dX11_beginsAs_39 : decode cX11_beginsAs 39 = .ok (.iload_n 2, 1) := by decide +kernel
theorem dX11_beginsAs_40 : decode cX11_beginsAs 40 = .ok (.invokevirtual 315, 3) := by decide +kernel
theorem dX11_beginsAs_43 : decode cX11_beginsAs 43 = .ok (.iconst 2, 1) := by decide +kernel
theorem dX11_beginsAs_44 : decode cX11_beginsAs 44 = .ok (.imul, 1) := by decide +kernel
theorem dX11_beginsAs_45 : decode cX11_beginsAs 45 = .ok (.ireturn, 1) := by decide +kernel
theorem dX11_beginsAs_46 : decode cX11_beginsAs 46 = .ok (.aload_n 0, 1) := by decide +kernel
theorem dX11_beginsAs_47 : decode cX11_beginsAs 47 = .ok (.iconst 1, 1) := by decide +kernel
theorem dX11_beginsAs_48 : decode cX11_beginsAs 48 = .ok (.invokevirtual 312, 3) := by decide +kernel
theorem dX11_beginsAs_51 : decode cX11_beginsAs 51 = .ok (.iload_n 2, 1) := by decide +kernel
theorem dX11_beginsAs_52 : decode cX11_beginsAs 52 = .ok (.aload_n 0, 1) := by decide +kernel
theorem dX11_beginsAs_53 : decode cX11_beginsAs 53 = .ok (.getfield 318, 3) := by decide +kernel
theorem dX11_beginsAs_56 : decode cX11_beginsAs 56 = .ok (.iadd, 1) := by decide +kernel
theorem dX11_beginsAs_57 : decode cX11_beginsAs 57 = .ok (.ireturn, 1) := by decide +kernel
theorem dX11_lastsAs_0 : decode cX11_lastsAs 0 = .ok (.iload_n 1, 1) := by decide +kernel
theorem dX11_lastsAs_1 : decode cX11_lastsAs 1 = .ok (.bipush 7, 2) := by decide +kernel
theorem dX11_lastsAs_3 : decode cX11_lastsAs 3 = .ok (.if_icmp .ne 28, 3) := by decide +kernel
theorem dX11_lastsAs_6 : decode cX11_lastsAs 6 = .ok (.aload_n 0, 1) := by decide +kernel
theorem dX11_lastsAs_7 : decode cX11_lastsAs 7 = .ok (.bipush 80, 2) := by decide +kernel
theorem dX11_lastsAs_9 : decode cX11_lastsAs 9 = .ok (.invokevirtual 312, 3) := by decide +kernel
theorem dX11_lastsAs_12 : decode cX11_lastsAs 12 = .ok (.aload_n 0, 1) := by decide +kernel
theorem dX11_lastsAs_13 : decode cX11_lastsAs 13 = .ok (.iconst 3, 1) := by decide +kernel
theorem dX11_lastsAs_14 : decode cX11_lastsAs 14 = .ok (.iload_n 2, 1) := by decide +kernel
theorem dX11_lastsAs_15 : decode cX11_lastsAs 15 = .ok (.invokevirtual 321, 3) := by decide +kernel
theorem dX11_lastsAs_18 : decode cX11_lastsAs 18 = .ok (.istore_n 3, 1) := by decide +kernel
theorem dX11_lastsAs_19 : decode cX11_lastsAs 19 = .ok (.iload_n 3, 1) := by decide +kernel
theorem dX11_lastsAs_20 : decode cX11_lastsAs 20 = .ok (.aload_n 0, 1) := by decide +kernel
theorem dX11_lastsAs_21 : decode cX11_lastsAs 21 = .ok (.aload_n 0, 1) := by decide +kernel
theorem dX11_lastsAs_22 : decode cX11_lastsAs 22 = .ok (.getfield 324, 3) := by decide +kernel
theorem dX11_lastsAs_25 : decode cX11_lastsAs 25 = .ok (.iconst 2, 1) := by decide +kernel
theorem dX11_lastsAs_26 : decode cX11_lastsAs 26 = .ok (.invokevirtual 327, 3) := by decide +kernel
theorem dX11_lastsAs_29 : decode cX11_lastsAs 29 = .ok (.iadd, 1) := by decide +kernel
theorem dX11_lastsAs_30 : decode cX11_lastsAs 30 = .ok (.ireturn, 1) := by decide +kernel
theorem dX11_lastsAs_31 : decode cX11_lastsAs 31 = .ok (.iload_n 1, 1) := by decide +kernel
theorem dX11_lastsAs_32 : decode cX11_lastsAs 32 = .ok (.iconst 3, 1) := by decide +kernel
theorem dX11_lastsAs_33 : decode cX11_lastsAs 33 = .ok (.if_icmp .ne 18, 3) := by decide +kernel
theorem dX11_lastsAs_36 : decode cX11_lastsAs 36 = .ok (.aload_n 0, 1) := by decide +kernel
theorem dX11_lastsAs_37 : decode cX11_lastsAs 37 = .ok (.bipush 41, 2) := by decide +kernel
theorem dX11_lastsAs_39 : decode cX11_lastsAs 39 = .ok (.invokevirtual 312, 3) := by decide +kernel
theorem dX11_lastsAs_42 : decode cX11_lastsAs 42 = .ok (.aload_n 0, 1) := by decide +kernel
theorem dX11_lastsAs_43 : decode cX11_lastsAs 43 = .ok (.iconst 2, 1) := by decide +kernel
theorem dX11_lastsAs_44 : decode cX11_lastsAs 44 = .ok (.iload_n 2, 1) := by decide +kernel
theorem dX11_lastsAs_45 : decode cX11_lastsAs 45 = .ok (.iconst 1, 1) := by decide +kernel
theorem dX11_lastsAs_46 : decode cX11_lastsAs 46 = .ok (.iadd, 1) := by decide +kernel
theorem dX11_lastsAs_47 : decode cX11_lastsAs 47 = .ok (.invokevirtual 321, 3) := by decide +kernel
theorem dX11_lastsAs_50 : decode cX11_lastsAs 50 = .ok (.ireturn, 1) := by decide +kernel
theorem dX11_lastsAs_51 : decode cX11_lastsAs 51 = .ok (.iload_n 1, 1) := by decide +kernel
theorem dX11_lastsAs_52 : decode cX11_lastsAs 52 = .ok (.iconst 2, 1) := by decide +kernel
theorem dX11_lastsAs_53 : decode cX11_lastsAs 53 = .ok (.if_icmp .eq 8, 3) := by decide +kernel
theorem dX11_lastsAs_56 : decode cX11_lastsAs 56 = .ok (.iload_n 1, 1) := by decide +kernel
theorem dX11_lastsAs_57 : decode cX11_lastsAs 57 = .ok (.iconst 4, 1) := by decide +kernel
theorem dX11_lastsAs_58 : decode cX11_lastsAs 58 = .ok (.if_icmp .ne 17, 3) := by decide +kernel
theorem dX11_lastsAs_61 : decode cX11_lastsAs 61 = .ok (.aload_n 0, 1) := by decide +kernel
theorem dX11_lastsAs_62 : decode cX11_lastsAs 62 = .ok (.bipush 30, 2) := by decide +kernel
theorem dX11_lastsAs_64 : decode cX11_lastsAs 64 = .ok (.invokevirtual 312, 3) := by decide +kernel
theorem dX11_lastsAs_67 : decode cX11_lastsAs 67 = .ok (.aload_n 0, 1) := by decide +kernel
theorem dX11_lastsAs_68 : decode cX11_lastsAs 68 = .ok (.iconst 0, 1) := by decide +kernel
theorem dX11_lastsAs_69 : decode cX11_lastsAs 69 = .ok (.iload_n 2, 1) := by decide +kernel
theorem dX11_lastsAs_70 : decode cX11_lastsAs 70 = .ok (.invokevirtual 321, 3) := by decide +kernel
theorem dX11_lastsAs_73 : decode cX11_lastsAs 73 = .ok (.ineg, 1) := by decide +kernel
theorem dX11_lastsAs_74 : decode cX11_lastsAs 74 = .ok (.ireturn, 1) := by decide +kernel
theorem dX11_lastsAs_75 : decode cX11_lastsAs 75 = .ok (.aload_n 0, 1) := by decide +kernel
theorem dX11_lastsAs_76 : decode cX11_lastsAs 76 = .ok (.bipush 10, 2) := by decide +kernel
theorem dX11_lastsAs_78 : decode cX11_lastsAs 78 = .ok (.invokevirtual 312, 3) := by decide +kernel
theorem dX11_lastsAs_81 : decode cX11_lastsAs 81 = .ok (.aload_n 0, 1) := by decide +kernel
theorem dX11_lastsAs_82 : decode cX11_lastsAs 82 = .ok (.aload_n 0, 1) := by decide +kernel
theorem dX11_lastsAs_83 : decode cX11_lastsAs 83 = .ok (.getfield 324, 3) := by decide +kernel
theorem dX11_lastsAs_86 : decode cX11_lastsAs 86 = .ok (.iload_n 2, 1) := by decide +kernel
theorem dX11_lastsAs_87 : decode cX11_lastsAs 87 = .ok (.invokevirtual 315, 3) := by decide +kernel
theorem dX11_lastsAs_90 : decode cX11_lastsAs 90 = .ok (.iconst 2, 1) := by decide +kernel
theorem dX11_lastsAs_91 : decode cX11_lastsAs 91 = .ok (.imul, 1) := by decide +kernel
theorem dX11_lastsAs_92 : decode cX11_lastsAs 92 = .ok (.ireturn, 1) := by decide +kernel
theorem dX11_endsAs_0 : decode cX11_endsAs 0 = .ok (.iload_n 1, 1) := by decide +kernel
theorem dX11_endsAs_1 : decode cX11_endsAs 1 = .ok (.iconst 3, 1) := by decide +kernel
theorem dX11_endsAs_2 : decode cX11_endsAs 2 = .ok (.if_icmp .eq 9, 3) := by decide +kernel
theorem dX11_endsAs_5 : decode cX11_endsAs 5 = .ok (.iload_n 1, 1) := by decide +kernel
theorem dX11_endsAs_6 : decode cX11_endsAs 6 = .ok (.bipush 7, 2) := by decide +kernel
theorem dX11_endsAs_8 : decode cX11_endsAs 8 = .ok (.if_icmp .ne 18, 3) := by decide +kernel
theorem dX11_endsAs_11 : decode cX11_endsAs 11 = .ok (.aload_n 0, 1) := by decide +kernel
theorem dX11_endsAs_12 : decode cX11_endsAs 12 = .ok (.bipush 40, 2) := by decide +kernel
theorem dX11_endsAs_14 : decode cX11_endsAs 14 = .ok (.invokevirtual 312, 3) := by decide +kernel
theorem dX11_endsAs_17 : decode cX11_endsAs 17 = .ok (.aload_n 0, 1) := by decide +kernel
theorem dX11_endsAs_18 : decode cX11_endsAs 18 = .ok (.iconst 2, 1) := by decide +kernel
theorem dX11_endsAs_19 : decode cX11_endsAs 19 = .ok (.iload_n 2, 1) := by decide +kernel
theorem dX11_endsAs_20 : decode cX11_endsAs 20 = .ok (.invokevirtual 327, 3) := by decide +kernel
theorem dX11_endsAs_23 : decode cX11_endsAs 23 = .ok (.iconst 3, 1) := by decide +kernel
theorem dX11_endsAs_24 : decode cX11_endsAs 24 = .ok (.imul, 1) := by decide +kernel
theorem dX11_endsAs_25 : decode cX11_endsAs 25 = .ok (.ireturn, 1) := by decide +kernel
theorem dX11_endsAs_26 : decode cX11_endsAs 26 = .ok (.iload_n 1, 1) := by decide +kernel
theorem dX11_endsAs_27 : decode cX11_endsAs 27 = .ok (.iconst 4, 1) := by decide +kernel
theorem dX11_endsAs_28 : decode cX11_endsAs 28 = .ok (.if_icmp .ne 28, 3) := by decide +kernel
theorem dX11_endsAs_31 : decode cX11_endsAs 31 = .ok (.aload_n 0, 1) := by decide +kernel
theorem dX11_endsAs_32 : decode cX11_endsAs 32 = .ok (.bipush 50, 2) := by decide +kernel
theorem dX11_endsAs_34 : decode cX11_endsAs 34 = .ok (.invokevirtual 312, 3) := by decide +kernel
theorem dX11_endsAs_37 : decode cX11_endsAs 37 = .ok (.aload_n 0, 1) := by decide +kernel
theorem dX11_endsAs_38 : decode cX11_endsAs 38 = .ok (.iconst 2, 1) := by decide +kernel
theorem dX11_endsAs_39 : decode cX11_endsAs 39 = .ok (.iload_n 2, 1) := by decide +kernel
theorem dX11_endsAs_40 : decode cX11_endsAs 40 = .ok (.invokevirtual 327, 3) := by decide +kernel
theorem dX11_endsAs_43 : decode cX11_endsAs 43 = .ok (.istore_n 3, 1) := by decide +kernel
theorem dX11_endsAs_44 : decode cX11_endsAs 44 = .ok (.iload_n 3, 1) := by decide +kernel
theorem dX11_endsAs_45 : decode cX11_endsAs 45 = .ok (.aload_n 0, 1) := by decide +kernel
theorem dX11_endsAs_46 : decode cX11_endsAs 46 = .ok (.aload_n 0, 1) := by decide +kernel
theorem dX11_endsAs_47 : decode cX11_endsAs 47 = .ok (.getfield 324, 3) := by decide +kernel
theorem dX11_endsAs_50 : decode cX11_endsAs 50 = .ok (.iconst 2, 1) := by decide +kernel
theorem dX11_endsAs_51 : decode cX11_endsAs 51 = .ok (.invokevirtual 315, 3) := by decide +kernel
theorem dX11_endsAs_54 : decode cX11_endsAs 54 = .ok (.isub, 1) := by decide +kernel
theorem dX11_endsAs_55 : decode cX11_endsAs 55 = .ok (.ireturn, 1) := by decide +kernel
theorem dX11_endsAs_56 : decode cX11_endsAs 56 = .ok (.aload_n 0, 1) := by decide +kernel
theorem dX11_endsAs_57 : decode cX11_endsAs 57 = .ok (.bipush 11, 2) := by decide +kernel
theorem dX11_endsAs_59 : decode cX11_endsAs 59 = .ok (.invokevirtual 312, 3) := by decide +kernel
theorem dX11_endsAs_62 : decode cX11_endsAs 62 = .ok (.iload_n 2, 1) := by decide +kernel
theorem dX11_endsAs_63 : decode cX11_endsAs 63 = .ok (.aload_n 0, 1) := by decide +kernel
theorem dX11_endsAs_64 : decode cX11_endsAs 64 = .ok (.getfield 318, 3) := by decide +kernel
theorem dX11_endsAs_67 : decode cX11_endsAs 67 = .ok (.ixor, 1) := by decide +kernel
theorem dX11_endsAs_68 : decode cX11_endsAs 68 = .ok (.ireturn, 1) := by decide +kernel
theorem dX11_tellsAs_0 : decode cX11_tellsAs 0 = .ok (.iload_n 1, 1) := by decide +kernel
theorem dX11_tellsAs_1 : decode cX11_tellsAs 1 = .ok (.iconst 5, 1) := by decide +kernel
theorem dX11_tellsAs_2 : decode cX11_tellsAs 2 = .ok (.if_icmp .ne 18, 3) := by decide +kernel
theorem dX11_tellsAs_5 : decode cX11_tellsAs 5 = .ok (.aload_n 0, 1) := by decide +kernel
theorem dX11_tellsAs_6 : decode cX11_tellsAs 6 = .ok (.bipush 60, 2) := by decide +kernel
theorem dX11_tellsAs_8 : decode cX11_tellsAs 8 = .ok (.invokevirtual 312, 3) := by decide +kernel
theorem dX11_tellsAs_11 : decode cX11_tellsAs 11 = .ok (.aload_n 0, 1) := by decide +kernel
theorem dX11_tellsAs_12 : decode cX11_tellsAs 12 = .ok (.iconst 1, 1) := by decide +kernel
theorem dX11_tellsAs_13 : decode cX11_tellsAs 13 = .ok (.iload_n 2, 1) := by decide +kernel
theorem dX11_tellsAs_14 : decode cX11_tellsAs 14 = .ok (.invokevirtual 330, 3) := by decide +kernel
theorem dX11_tellsAs_17 : decode cX11_tellsAs 17 = .ok (.iconst 5, 1) := by decide +kernel
theorem dX11_tellsAs_18 : decode cX11_tellsAs 18 = .ok (.ixor, 1) := by decide +kernel
theorem dX11_tellsAs_19 : decode cX11_tellsAs 19 = .ok (.ireturn, 1) := by decide +kernel
theorem dX11_tellsAs_20 : decode cX11_tellsAs 20 = .ok (.iload_n 1, 1) := by decide +kernel
theorem dX11_tellsAs_21 : decode cX11_tellsAs 21 = .ok (.bipush 7, 2) := by decide +kernel
theorem dX11_tellsAs_23 : decode cX11_tellsAs 23 = .ok (.if_icmp .ne 18, 3) := by decide +kernel
theorem dX11_tellsAs_26 : decode cX11_tellsAs 26 = .ok (.aload_n 0, 1) := by decide +kernel
theorem dX11_tellsAs_27 : decode cX11_tellsAs 27 = .ok (.bipush 81, 2) := by decide +kernel
theorem dX11_tellsAs_29 : decode cX11_tellsAs 29 = .ok (.invokevirtual 312, 3) := by decide +kernel
theorem dX11_tellsAs_32 : decode cX11_tellsAs 32 = .ok (.aload_n 0, 1) := by decide +kernel
theorem dX11_tellsAs_33 : decode cX11_tellsAs 33 = .ok (.iconst 3, 1) := by decide +kernel
theorem dX11_tellsAs_34 : decode cX11_tellsAs 34 = .ok (.iload_n 2, 1) := by decide +kernel
theorem dX11_tellsAs_35 : decode cX11_tellsAs 35 = .ok (.invokevirtual 330, 3) := by decide +kernel
theorem dX11_tellsAs_38 : decode cX11_tellsAs 38 = .ok (.iconst 1, 1) := by decide +kernel
theorem dX11_tellsAs_39 : decode cX11_tellsAs 39 = .ok (.isub, 1) := by decide +kernel
theorem dX11_tellsAs_40 : decode cX11_tellsAs 40 = .ok (.ireturn, 1) := by decide +kernel
theorem dX11_tellsAs_41 : decode cX11_tellsAs 41 = .ok (.aload_n 0, 1) := by decide +kernel
theorem dX11_tellsAs_42 : decode cX11_tellsAs 42 = .ok (.iconst 2, 1) := by decide +kernel
theorem dX11_tellsAs_43 : decode cX11_tellsAs 43 = .ok (.invokevirtual 312, 3) := by decide +kernel
theorem dX11_tellsAs_46 : decode cX11_tellsAs 46 = .ok (.aload_n 0, 1) := by decide +kernel
theorem dX11_tellsAs_47 : decode cX11_tellsAs 47 = .ok (.aload_n 0, 1) := by decide +kernel
theorem dX11_tellsAs_48 : decode cX11_tellsAs 48 = .ok (.getfield 324, 3) := by decide +kernel
theorem dX11_tellsAs_51 : decode cX11_tellsAs 51 = .ok (.iload_n 2, 1) := by decide +kernel
theorem dX11_tellsAs_52 : decode cX11_tellsAs 52 = .ok (.invokevirtual 321, 3) := by decide +kernel
theorem dX11_tellsAs_55 : decode cX11_tellsAs 55 = .ok (.istore_n 3, 1) := by decide +kernel
theorem dX11_tellsAs_56 : decode cX11_tellsAs 56 = .ok (.iload_n 3, 1) := by decide +kernel
theorem dX11_tellsAs_57 : decode cX11_tellsAs 57 = .ok (.aload_n 0, 1) := by decide +kernel
theorem dX11_tellsAs_58 : decode cX11_tellsAs 58 = .ok (.aload_n 0, 1) := by decide +kernel
theorem dX11_tellsAs_59 : decode cX11_tellsAs 59 = .ok (.getfield 324, 3) := by decide +kernel
theorem dX11_tellsAs_62 : decode cX11_tellsAs 62 = .ok (.iconst 1, 1) := by decide +kernel
theorem dX11_tellsAs_63 : decode cX11_tellsAs 63 = .ok (.invokevirtual 327, 3) := by decide +kernel
theorem dX11_tellsAs_66 : decode cX11_tellsAs 66 = .ok (.isub, 1) := by decide +kernel
theorem dX11_tellsAs_67 : decode cX11_tellsAs 67 = .ok (.ireturn, 1) := by decide +kernel
theorem dX11_act_0 : decode cX11_act 0 = .ok (.aload_n 0, 1) := by decide +kernel
theorem dX11_act_1 : decode cX11_act 1 = .ok (.iconst 0, 1) := by decide +kernel
theorem dX11_act_2 : decode cX11_act 2 = .ok (.putfield 309, 3) := by decide +kernel
theorem dX11_act_5 : decode cX11_act 5 = .ok (.aload_n 0, 1) := by decide +kernel
theorem dX11_act_6 : decode cX11_act 6 = .ok (.iload_n 1, 1) := by decide +kernel
theorem dX11_act_7 : decode cX11_act 7 = .ok (.invokevirtual 333, 3) := by decide +kernel
theorem dX11_act_10 : decode cX11_act 10 = .ok (.ifCond .ne 5, 3) := by decide +kernel
theorem dX11_act_13 : decode cX11_act 13 = .ok (.iconst 0, 1) := by decide +kernel
theorem dX11_act_14 : decode cX11_act 14 = .ok (.ireturn, 1) := by decide +kernel
theorem dX11_act_15 : decode cX11_act 15 = .ok (.aload_n 0, 1) := by decide +kernel
theorem dX11_act_16 : decode cX11_act 16 = .ok (.aload_n 0, 1) := by decide +kernel
theorem dX11_act_17 : decode cX11_act 17 = .ok (.getfield 74, 3) := by decide +kernel
theorem dX11_act_20 : decode cX11_act 20 = .ok (.iload_n 1, 1) := by decide +kernel
theorem dX11_act_21 : decode cX11_act 21 = .ok (.iaload, 1) := by decide +kernel
theorem dX11_act_22 : decode cX11_act 22 = .ok (.putfield 324, 3) := by decide +kernel
theorem dX11_act_25 : decode cX11_act 25 = .ok (.aload_n 0, 1) := by decide +kernel
theorem dX11_act_26 : decode cX11_act 26 = .ok (.iload_n 1, 1) := by decide +kernel
theorem dX11_act_27 : decode cX11_act 27 = .ok (.putfield 318, 3) := by decide +kernel
theorem dX11_act_30 : decode cX11_act 30 = .ok (.iload_n 2, 1) := by decide +kernel
theorem dX11_act_31 : decode cX11_act 31 = .ok (.tableswitch 69 0 3 #[29, 39, 49, 59], 29) := by decide +kernel
theorem dX11_act_60 : decode cX11_act 60 = .ok (.aload_n 0, 1) := by decide +kernel
theorem dX11_act_61 : decode cX11_act 61 = .ok (.aload_n 0, 1) := by decide +kernel
theorem dX11_act_62 : decode cX11_act 62 = .ok (.getfield 324, 3) := by decide +kernel
theorem dX11_act_65 : decode cX11_act 65 = .ok (.iload_n 3, 1) := by decide +kernel
theorem dX11_act_66 : decode cX11_act 66 = .ok (.invokevirtual 315, 3) := by decide +kernel
theorem dX11_act_69 : decode cX11_act 69 = .ok (.ireturn, 1) := by decide +kernel
theorem dX11_act_70 : decode cX11_act 70 = .ok (.aload_n 0, 1) := by decide +kernel
theorem dX11_act_71 : decode cX11_act 71 = .ok (.aload_n 0, 1) := by decide +kernel
theorem dX11_act_72 : decode cX11_act 72 = .ok (.getfield 324, 3) := by decide +kernel
theorem dX11_act_75 : decode cX11_act 75 = .ok (.iload_n 3, 1) := by decide +kernel
theorem dX11_act_76 : decode cX11_act 76 = .ok (.invokevirtual 321, 3) := by decide +kernel
theorem dX11_act_79 : decode cX11_act 79 = .ok (.ireturn, 1) := by decide +kernel
theorem dX11_act_80 : decode cX11_act 80 = .ok (.aload_n 0, 1) := by decide +kernel
theorem dX11_act_81 : decode cX11_act 81 = .ok (.aload_n 0, 1) := by decide +kernel
theorem dX11_act_82 : decode cX11_act 82 = .ok (.getfield 324, 3) := by decide +kernel
theorem dX11_act_85 : decode cX11_act 85 = .ok (.iload_n 3, 1) := by decide +kernel
theorem dX11_act_86 : decode cX11_act 86 = .ok (.invokevirtual 327, 3) := by decide +kernel
theorem dX11_act_89 : decode cX11_act 89 = .ok (.ireturn, 1) := by decide +kernel
theorem dX11_act_90 : decode cX11_act 90 = .ok (.aload_n 0, 1) := by decide +kernel
theorem dX11_act_91 : decode cX11_act 91 = .ok (.aload_n 0, 1) := by decide +kernel
theorem dX11_act_92 : decode cX11_act 92 = .ok (.getfield 324, 3) := by decide +kernel
theorem dX11_act_95 : decode cX11_act 95 = .ok (.iload_n 3, 1) := by decide +kernel
theorem dX11_act_96 : decode cX11_act 96 = .ok (.invokevirtual 330, 3) := by decide +kernel
theorem dX11_act_99 : decode cX11_act 99 = .ok (.ireturn, 1) := by decide +kernel
theorem dX11_act_100 : decode cX11_act 100 = .ok (.iconst 0, 1) := by decide +kernel
theorem dX11_act_101 : decode cX11_act 101 = .ok (.ireturn, 1) := by decide +kernel
theorem dX11_trace_0 : decode cX11_trace 0 = .ok (.iload_n 1, 1) := by decide +kernel
theorem dX11_trace_1 : decode cX11_trace 1 = .ok (.ifCond .lt 26, 3) := by decide +kernel
theorem dX11_trace_4 : decode cX11_trace 4 = .ok (.iload_n 1, 1) := by decide +kernel
theorem dX11_trace_5 : decode cX11_trace 5 = .ok (.aload_n 0, 1) := by decide +kernel
theorem dX11_trace_6 : decode cX11_trace 6 = .ok (.getfield 309, 3) := by decide +kernel
theorem dX11_trace_9 : decode cX11_trace 9 = .ok (.if_icmp .ge 18, 3) := by decide +kernel
theorem dX11_trace_12 : decode cX11_trace 12 = .ok (.iload_n 1, 1) := by decide +kernel
theorem dX11_trace_13 : decode cX11_trace 13 = .ok (.bipush 24, 2) := by decide +kernel
theorem dX11_trace_15 : decode cX11_trace 15 = .ok (.if_icmp .ge 12, 3) := by decide +kernel
theorem dX11_trace_18 : decode cX11_trace 18 = .ok (.aload_n 0, 1) := by decide +kernel
theorem dX11_trace_19 : decode cX11_trace 19 = .ok (.getfield 77, 3) := by decide +kernel
theorem dX11_trace_22 : decode cX11_trace 22 = .ok (.iload_n 1, 1) := by decide +kernel
theorem dX11_trace_23 : decode cX11_trace 23 = .ok (.iaload, 1) := by decide +kernel
theorem dX11_trace_24 : decode cX11_trace 24 = .ok (.goto 4, 3) := by decide +kernel
theorem dX11_trace_27 : decode cX11_trace 27 = .ok (.iconst (-1), 1) := by decide +kernel
theorem dX11_trace_28 : decode cX11_trace 28 = .ok (.ireturn, 1) := by decide +kernel
theorem dX11_isShelf_0 : decode cX11_isShelf 0 = .ok (.iload_n 0, 1) := by decide +kernel
theorem dX11_isShelf_1 : decode cX11_isShelf 1 = .ok (.i2l, 1) := by decide +kernel
theorem dX11_isShelf_2 : decode cX11_isShelf 2 = .ok (.lconst 0, 1) := by decide +kernel
theorem dX11_isShelf_3 : decode cX11_isShelf 3 = .ok (.ldc2_w 336, 3) := by decide +kernel
theorem dX11_isShelf_6 : decode cX11_isShelf 6 = .ok (.invokestatic 106, 3) := by decide +kernel
theorem dX11_isShelf_9 : decode cX11_isShelf 9 = .ok (.ireturn, 1) := by decide +kernel
theorem dX11_keep_0 : decode cX11_keep 0 = .ok (.iload_n 1, 1) := by decide +kernel
theorem dX11_keep_1 : decode cX11_keep 1 = .ok (.invokestatic 213, 3) := by decide +kernel
theorem dX11_keep_4 : decode cX11_keep 4 = .ok (.ifCond .eq 16, 3) := by decide +kernel
theorem dX11_keep_7 : decode cX11_keep 7 = .ok (.iload_n 2, 1) := by decide +kernel
theorem dX11_keep_8 : decode cX11_keep 8 = .ok (.iconst (-1), 1) := by decide +kernel
theorem dX11_keep_9 : decode cX11_keep 9 = .ok (.if_icmp .eq 13, 3) := by decide +kernel
theorem dX11_keep_12 : decode cX11_keep 12 = .ok (.aload_n 0, 1) := by decide +kernel
theorem dX11_keep_13 : decode cX11_keep 13 = .ok (.iload_n 2, 1) := by decide +kernel
theorem dX11_keep_14 : decode cX11_keep 14 = .ok (.invokevirtual 333, 3) := by decide +kernel
theorem dX11_keep_17 : decode cX11_keep 17 = .ok (.ifCond .ne 5, 3) := by decide +kernel
theorem dX11_keep_20 : decode cX11_keep 20 = .ok (.iconst (-1), 1) := by decide +kernel
theorem dX11_keep_21 : decode cX11_keep 21 = .ok (.ireturn, 1) := by decide +kernel
theorem dX11_keep_22 : decode cX11_keep 22 = .ok (.aload_n 0, 1) := by decide +kernel
theorem dX11_keep_23 : decode cX11_keep 23 = .ok (.getfield 80, 3) := by decide +kernel
theorem dX11_keep_26 : decode cX11_keep 26 = .ok (.iload_n 1, 1) := by decide +kernel
theorem dX11_keep_27 : decode cX11_keep 27 = .ok (.iload_n 2, 1) := by decide +kernel
theorem dX11_keep_28 : decode cX11_keep 28 = .ok (.iastore, 1) := by decide +kernel
theorem dX11_keep_29 : decode cX11_keep 29 = .ok (.aload_n 0, 1) := by decide +kernel
theorem dX11_keep_30 : decode cX11_keep 30 = .ok (.getfield 83, 3) := by decide +kernel
theorem dX11_keep_33 : decode cX11_keep 33 = .ok (.iload_n 1, 1) := by decide +kernel
theorem dX11_keep_34 : decode cX11_keep 34 = .ok (.iconst 0, 1) := by decide +kernel
theorem dX11_keep_35 : decode cX11_keep 35 = .ok (.iastore, 1) := by decide +kernel
theorem dX11_keep_36 : decode cX11_keep 36 = .ok (.iconst 1, 1) := by decide +kernel
theorem dX11_keep_37 : decode cX11_keep 37 = .ok (.ireturn, 1) := by decide +kernel
theorem dX11_row_0 : decode cX11_row 0 = .ok (.iload_n 1, 1) := by decide +kernel
theorem dX11_row_1 : decode cX11_row 1 = .ok (.invokestatic 213, 3) := by decide +kernel
theorem dX11_row_4 : decode cX11_row 4 = .ok (.ifCond .eq 21, 3) := by decide +kernel
theorem dX11_row_7 : decode cX11_row 7 = .ok (.iload_n 2, 1) := by decide +kernel
theorem dX11_row_8 : decode cX11_row 8 = .ok (.i2l, 1) := by decide +kernel
theorem dX11_row_9 : decode cX11_row 9 = .ok (.lconst 0, 1) := by decide +kernel
theorem dX11_row_10 : decode cX11_row 10 = .ok (.ldc2_w 338, 3) := by decide +kernel
theorem dX11_row_13 : decode cX11_row 13 = .ok (.invokestatic 106, 3) := by decide +kernel
theorem dX11_row_16 : decode cX11_row 16 = .ok (.ifCond .eq 9, 3) := by decide +kernel
theorem dX11_row_19 : decode cX11_row 19 = .ok (.iload_n 3, 1) := by decide +kernel
theorem dX11_row_20 : decode cX11_row 20 = .ok (.bipush 60, 2) := by decide +kernel
theorem dX11_row_22 : decode cX11_row 22 = .ok (.if_icmp .le 5, 3) := by decide +kernel
theorem dX11_row_25 : decode cX11_row 25 = .ok (.iconst (-1), 1) := by decide +kernel
theorem dX11_row_26 : decode cX11_row 26 = .ok (.ireturn, 1) := by decide +kernel
theorem dX11_row_27 : decode cX11_row 27 = .ok (.iload_n 3, 1) := by decide +kernel
theorem dX11_row_28 : decode cX11_row 28 = .ok (.ifCond .ge 6, 3) := by decide +kernel
theorem dX11_row_31 : decode cX11_row 31 = .ok (.bipush (-14), 2) := by decide +kernel
theorem dX11_row_33 : decode cX11_row 33 = .ok (.ireturn, 1) := by decide +kernel
theorem dX11_row_34 : decode cX11_row 34 = .ok (.aload_n 0, 1) := by decide +kernel
theorem dX11_row_35 : decode cX11_row 35 = .ok (.getfield 80, 3) := by decide +kernel
theorem dX11_row_38 : decode cX11_row 38 = .ok (.iload_n 1, 1) := by decide +kernel
theorem dX11_row_39 : decode cX11_row 39 = .ok (.bipush 50, 2) := by decide +kernel
theorem dX11_row_41 : decode cX11_row 41 = .ok (.iload_n 2, 1) := by decide +kernel
theorem dX11_row_42 : decode cX11_row 42 = .ok (.iadd, 1) := by decide +kernel
theorem dX11_row_43 : decode cX11_row 43 = .ok (.iastore, 1) := by decide +kernel
theorem dX11_row_44 : decode cX11_row 44 = .ok (.aload_n 0, 1) := by decide +kernel
theorem dX11_row_45 : decode cX11_row 45 = .ok (.getfield 83, 3) := by decide +kernel
theorem dX11_row_48 : decode cX11_row 48 = .ok (.iload_n 1, 1) := by decide +kernel
theorem dX11_row_49 : decode cX11_row 49 = .ok (.iload_n 3, 1) := by decide +kernel
theorem dX11_row_50 : decode cX11_row 50 = .ok (.iastore, 1) := by decide +kernel
theorem dX11_row_51 : decode cX11_row 51 = .ok (.bipush 60, 2) := by decide +kernel
theorem dX11_row_53 : decode cX11_row 53 = .ok (.iload_n 1, 1) := by decide +kernel
theorem dX11_row_54 : decode cX11_row 54 = .ok (.imul, 1) := by decide +kernel
theorem dX11_row_55 : decode cX11_row 55 = .ok (.istore 4, 2) := by decide +kernel
theorem dX11_row_57 : decode cX11_row 57 = .ok (.iload 4, 2) := by decide +kernel
theorem dX11_row_59 : decode cX11_row 59 = .ok (.bipush 60, 2) := by decide +kernel
theorem dX11_row_61 : decode cX11_row 61 = .ok (.iload_n 1, 1) := by decide +kernel
theorem dX11_row_62 : decode cX11_row 62 = .ok (.imul, 1) := by decide +kernel
theorem dX11_row_63 : decode cX11_row 63 = .ok (.bipush 60, 2) := by decide +kernel
theorem dX11_row_65 : decode cX11_row 65 = .ok (.iadd, 1) := by decide +kernel
theorem dX11_row_66 : decode cX11_row 66 = .ok (.if_icmp .ge 17, 3) := by decide +kernel
theorem dX11_row_69 : decode cX11_row 69 = .ok (.aload_n 0, 1) := by decide +kernel
theorem dX11_row_70 : decode cX11_row 70 = .ok (.getfield 86, 3) := by decide +kernel
theorem dX11_row_73 : decode cX11_row 73 = .ok (.iload 4, 2) := by decide +kernel
theorem dX11_row_75 : decode cX11_row 75 = .ok (.lconst 0, 1) := by decide +kernel
theorem dX11_row_76 : decode cX11_row 76 = .ok (.lastore, 1) := by decide +kernel
theorem dX11_row_77 : decode cX11_row 77 = .ok (.iinc 4 1, 3) := by decide +kernel
theorem dX11_row_80 : decode cX11_row 80 = .ok (.goto (-23), 3) := by decide +kernel
theorem dX11_row_83 : decode cX11_row 83 = .ok (.iconst 1, 1) := by decide +kernel
theorem dX11_row_84 : decode cX11_row 84 = .ok (.ireturn, 1) := by decide +kernel
theorem dX11_refusal_0 : decode cX11_refusal 0 = .ok (.iload_n 1, 1) := by decide +kernel
theorem dX11_refusal_1 : decode cX11_refusal 1 = .ok (.invokestatic 213, 3) := by decide +kernel
theorem dX11_refusal_4 : decode cX11_refusal 4 = .ok (.ifCond .ne 5, 3) := by decide +kernel
theorem dX11_refusal_7 : decode cX11_refusal 7 = .ok (.iconst (-1), 1) := by decide +kernel
theorem dX11_refusal_8 : decode cX11_refusal 8 = .ok (.ireturn, 1) := by decide +kernel
theorem dX11_refusal_9 : decode cX11_refusal 9 = .ok (.aload_n 0, 1) := by decide +kernel
theorem dX11_refusal_10 : decode cX11_refusal 10 = .ok (.getfield 80, 3) := by decide +kernel
theorem dX11_refusal_13 : decode cX11_refusal 13 = .ok (.iload_n 1, 1) := by decide +kernel
theorem dX11_refusal_14 : decode cX11_refusal 14 = .ok (.iaload, 1) := by decide +kernel
theorem dX11_refusal_15 : decode cX11_refusal 15 = .ok (.ifCond .ge 6, 3) := by decide +kernel
theorem dX11_refusal_18 : decode cX11_refusal 18 = .ok (.bipush (-11), 2) := by decide +kernel
theorem dX11_refusal_20 : decode cX11_refusal 20 = .ok (.ireturn, 1) := by decide +kernel
theorem dX11_refusal_21 : decode cX11_refusal 21 = .ok (.aload_n 0, 1) := by decide +kernel
theorem dX11_refusal_22 : decode cX11_refusal 22 = .ok (.getfield 80, 3) := by decide +kernel
theorem dX11_refusal_25 : decode cX11_refusal 25 = .ok (.iload_n 1, 1) := by decide +kernel
theorem dX11_refusal_26 : decode cX11_refusal 26 = .ok (.iaload, 1) := by decide +kernel
theorem dX11_refusal_27 : decode cX11_refusal 27 = .ok (.bipush 50, 2) := by decide +kernel
theorem dX11_refusal_29 : decode cX11_refusal 29 = .ok (.if_icmp .ge 6, 3) := by decide +kernel
theorem dX11_refusal_32 : decode cX11_refusal 32 = .ok (.bipush (-12), 2) := by decide +kernel
theorem dX11_refusal_34 : decode cX11_refusal 34 = .ok (.ireturn, 1) := by decide +kernel
theorem dX11_refusal_35 : decode cX11_refusal 35 = .ok (.iload_n 2, 1) := by decide +kernel
theorem dX11_refusal_36 : decode cX11_refusal 36 = .ok (.ifCond .lt 17, 3) := by decide +kernel
theorem dX11_refusal_39 : decode cX11_refusal 39 = .ok (.iload_n 2, 1) := by decide +kernel
theorem dX11_refusal_40 : decode cX11_refusal 40 = .ok (.aload_n 0, 1) := by decide +kernel
theorem dX11_refusal_41 : decode cX11_refusal 41 = .ok (.getfield 83, 3) := by decide +kernel
theorem dX11_refusal_44 : decode cX11_refusal 44 = .ok (.iload_n 1, 1) := by decide +kernel
theorem dX11_refusal_45 : decode cX11_refusal 45 = .ok (.iaload, 1) := by decide +kernel
theorem dX11_refusal_46 : decode cX11_refusal 46 = .ok (.if_icmp .ge 7, 3) := by decide +kernel
theorem dX11_refusal_49 : decode cX11_refusal 49 = .ok (.iconst 0, 1) := by decide +kernel
theorem dX11_refusal_50 : decode cX11_refusal 50 = .ok (.goto 5, 3) := by decide +kernel
theorem dX11_refusal_53 : decode cX11_refusal 53 = .ok (.bipush (-13), 2) := by decide +kernel
theorem dX11_refusal_55 : decode cX11_refusal 55 = .ok (.ireturn, 1) := by decide +kernel
theorem dX11_asSort_0 : decode cX11_asSort 0 = .ok (.iload_n 0, 1) := by decide +kernel
theorem dX11_asSort_1 : decode cX11_asSort 1 = .ok (.ifCond .ne 10, 3) := by decide +kernel
theorem dX11_asSort_4 : decode cX11_asSort 4 = .ok (.lload_n 1, 1) := by decide +kernel
theorem dX11_asSort_5 : decode cX11_asSort 5 = .ok (.l2i, 1) := by decide +kernel
theorem dX11_asSort_6 : decode cX11_asSort 6 = .ok (.i2b, 1) := by decide +kernel
theorem dX11_asSort_7 : decode cX11_asSort 7 = .ok (.i2l, 1) := by decide +kernel
theorem dX11_asSort_8 : decode cX11_asSort 8 = .ok (.goto 46, 3) := by decide +kernel
theorem dX11_asSort_11 : decode cX11_asSort 11 = .ok (.iload_n 0, 1) := by decide +kernel
theorem dX11_asSort_12 : decode cX11_asSort 12 = .ok (.iconst 1, 1) := by decide +kernel
theorem dX11_asSort_13 : decode cX11_asSort 13 = .ok (.if_icmp .ne 10, 3) := by decide +kernel
theorem dX11_asSort_16 : decode cX11_asSort 16 = .ok (.lload_n 1, 1) := by decide +kernel
theorem dX11_asSort_17 : decode cX11_asSort 17 = .ok (.l2i, 1) := by decide +kernel
theorem dX11_asSort_18 : decode cX11_asSort 18 = .ok (.i2s, 1) := by decide +kernel
theorem dX11_asSort_19 : decode cX11_asSort 19 = .ok (.i2l, 1) := by decide +kernel
theorem dX11_asSort_20 : decode cX11_asSort 20 = .ok (.goto 34, 3) := by decide +kernel
theorem dX11_asSort_23 : decode cX11_asSort 23 = .ok (.iload_n 0, 1) := by decide +kernel
theorem dX11_asSort_24 : decode cX11_asSort 24 = .ok (.iconst 2, 1) := by decide +kernel
theorem dX11_asSort_25 : decode cX11_asSort 25 = .ok (.if_icmp .ne 9, 3) := by decide +kernel
theorem dX11_asSort_28 : decode cX11_asSort 28 = .ok (.lload_n 1, 1) := by decide +kernel
theorem dX11_asSort_29 : decode cX11_asSort 29 = .ok (.l2i, 1) := by decide +kernel
theorem dX11_asSort_30 : decode cX11_asSort 30 = .ok (.i2l, 1) := by decide +kernel
theorem dX11_asSort_31 : decode cX11_asSort 31 = .ok (.goto 23, 3) := by decide +kernel
theorem dX11_asSort_34 : decode cX11_asSort 34 = .ok (.iload_n 0, 1) := by decide +kernel
theorem dX11_asSort_35 : decode cX11_asSort 35 = .ok (.iconst 4, 1) := by decide +kernel
theorem dX11_asSort_36 : decode cX11_asSort 36 = .ok (.if_icmp .ne 17, 3) := by decide +kernel
theorem dX11_asSort_39 : decode cX11_asSort 39 = .ok (.lload_n 1, 1) := by decide +kernel
theorem dX11_asSort_40 : decode cX11_asSort 40 = .ok (.lconst 0, 1) := by decide +kernel
theorem dX11_asSort_41 : decode cX11_asSort 41 = .ok (.lcmp, 1) := by decide +kernel
theorem dX11_asSort_42 : decode cX11_asSort 42 = .ok (.ifCond .eq 7, 3) := by decide +kernel
theorem dX11_asSort_45 : decode cX11_asSort 45 = .ok (.lconst 1, 1) := by decide +kernel
theorem dX11_asSort_46 : decode cX11_asSort 46 = .ok (.goto 8, 3) := by decide +kernel
theorem dX11_asSort_49 : decode cX11_asSort 49 = .ok (.lconst 0, 1) := by decide +kernel
theorem dX11_asSort_50 : decode cX11_asSort 50 = .ok (.goto 4, 3) := by decide +kernel
theorem dX11_asSort_53 : decode cX11_asSort 53 = .ok (.lload_n 1, 1) := by decide +kernel
theorem dX11_asSort_54 : decode cX11_asSort 54 = .ok (.lreturn, 1) := by decide +kernel
theorem dX11_put_0 : decode cX11_put 0 = .ok (.aload_n 0, 1) := by decide +kernel
theorem dX11_put_1 : decode cX11_put 1 = .ok (.iload_n 1, 1) := by decide +kernel
theorem dX11_put_2 : decode cX11_put 2 = .ok (.iload_n 2, 1) := by decide +kernel
theorem dX11_put_3 : decode cX11_put 3 = .ok (.invokevirtual 340, 3) := by decide +kernel
theorem dX11_put_6 : decode cX11_put 6 = .ok (.istore 5, 2) := by decide +kernel
theorem dX11_put_8 : decode cX11_put 8 = .ok (.iload 5, 2) := by decide +kernel
theorem dX11_put_10 : decode cX11_put 10 = .ok (.ifCond .ne 27, 3) := by decide +kernel
theorem dX11_put_13 : decode cX11_put 13 = .ok (.aload_n 0, 1) := by decide +kernel
theorem dX11_put_14 : decode cX11_put 14 = .ok (.getfield 86, 3) := by decide +kernel
theorem dX11_put_17 : decode cX11_put 17 = .ok (.bipush 60, 2) := by decide +kernel
theorem dX11_put_19 : decode cX11_put 19 = .ok (.iload_n 1, 1) := by decide +kernel
theorem dX11_put_20 : decode cX11_put 20 = .ok (.imul, 1) := by decide +kernel
theorem dX11_put_21 : decode cX11_put 21 = .ok (.iload_n 2, 1) := by decide +kernel
theorem dX11_put_22 : decode cX11_put 22 = .ok (.iadd, 1) := by decide +kernel
theorem dX11_put_23 : decode cX11_put 23 = .ok (.aload_n 0, 1) := by decide +kernel
theorem dX11_put_24 : decode cX11_put 24 = .ok (.getfield 80, 3) := by decide +kernel
theorem dX11_put_27 : decode cX11_put 27 = .ok (.iload_n 1, 1) := by decide +kernel
theorem dX11_put_28 : decode cX11_put 28 = .ok (.iaload, 1) := by decide +kernel
theorem dX11_put_29 : decode cX11_put 29 = .ok (.bipush 50, 2) := by decide +kernel
theorem dX11_put_31 : decode cX11_put 31 = .ok (.isub, 1) := by decide +kernel
theorem dX11_put_32 : decode cX11_put 32 = .ok (.lload_n 3, 1) := by decide +kernel
theorem dX11_put_33 : decode cX11_put 33 = .ok (.invokestatic 343, 3) := by decide +kernel
theorem dX11_put_36 : decode cX11_put 36 = .ok (.lastore, 1) := by decide +kernel
theorem dX11_put_37 : decode cX11_put 37 = .ok (.iload 5, 2) := by decide +kernel
theorem dX11_put_39 : decode cX11_put 39 = .ok (.ifCond .ne 7, 3) := by decide +kernel
theorem dX11_put_42 : decode cX11_put 42 = .ok (.iconst 1, 1) := by decide +kernel
theorem dX11_put_43 : decode cX11_put 43 = .ok (.goto 5, 3) := by decide +kernel
theorem dX11_put_46 : decode cX11_put 46 = .ok (.iload 5, 2) := by decide +kernel
theorem dX11_put_48 : decode cX11_put 48 = .ok (.ireturn, 1) := by decide +kernel
theorem dX11_element_0 : decode cX11_element 0 = .ok (.aload_n 0, 1) := by decide +kernel
theorem dX11_element_1 : decode cX11_element 1 = .ok (.iload_n 1, 1) := by decide +kernel
theorem dX11_element_2 : decode cX11_element 2 = .ok (.iload_n 2, 1) := by decide +kernel
theorem dX11_element_3 : decode cX11_element 3 = .ok (.invokevirtual 340, 3) := by decide +kernel
theorem dX11_element_6 : decode cX11_element 6 = .ok (.ifCond .eq 9, 3) := by decide +kernel
theorem dX11_element_9 : decode cX11_element 9 = .ok (.ldc2_w 349, 3) := by decide +kernel
theorem dX11_element_12 : decode cX11_element 12 = .ok (.goto 14, 3) := by decide +kernel
theorem dX11_element_15 : decode cX11_element 15 = .ok (.aload_n 0, 1) := by decide +kernel
theorem dX11_element_16 : decode cX11_element 16 = .ok (.getfield 86, 3) := by decide +kernel
theorem dX11_element_19 : decode cX11_element 19 = .ok (.bipush 60, 2) := by decide +kernel
theorem dX11_element_21 : decode cX11_element 21 = .ok (.iload_n 1, 1) := by decide +kernel
theorem dX11_element_22 : decode cX11_element 22 = .ok (.imul, 1) := by decide +kernel
theorem dX11_element_23 : decode cX11_element 23 = .ok (.iload_n 2, 1) := by decide +kernel
theorem dX11_element_24 : decode cX11_element 24 = .ok (.iadd, 1) := by decide +kernel
theorem dX11_element_25 : decode cX11_element 25 = .ok (.laload, 1) := by decide +kernel
theorem dX11_element_26 : decode cX11_element 26 = .ok (.lreturn, 1) := by decide +kernel
theorem dX11_shift_0 : decode cX11_shift 0 = .ok (.iload_n 1, 1) := by decide +kernel
theorem dX11_shift_1 : decode cX11_shift 1 = .ok (.invokestatic 213, 3) := by decide +kernel
theorem dX11_shift_4 : decode cX11_shift 4 = .ok (.ifCond .eq 10, 3) := by decide +kernel
theorem dX11_shift_7 : decode cX11_shift 7 = .ok (.iload_n 3, 1) := by decide +kernel
theorem dX11_shift_8 : decode cX11_shift 8 = .ok (.invokestatic 213, 3) := by decide +kernel
theorem dX11_shift_11 : decode cX11_shift 11 = .ok (.ifCond .ne 5, 3) := by decide +kernel
theorem dX11_shift_14 : decode cX11_shift 14 = .ok (.iconst (-1), 1) := by decide +kernel
theorem dX11_shift_15 : decode cX11_shift 15 = .ok (.ireturn, 1) := by decide +kernel
theorem dX11_shift_16 : decode cX11_shift 16 = .ok (.aload_n 0, 1) := by decide +kernel
theorem dX11_shift_17 : decode cX11_shift 17 = .ok (.getfield 80, 3) := by decide +kernel
theorem dX11_shift_20 : decode cX11_shift 20 = .ok (.iload_n 1, 1) := by decide +kernel
theorem dX11_shift_21 : decode cX11_shift 21 = .ok (.iaload, 1) := by decide +kernel
theorem dX11_shift_22 : decode cX11_shift 22 = .ok (.ifCond .lt 12, 3) := by decide +kernel
theorem dX11_shift_25 : decode cX11_shift 25 = .ok (.aload_n 0, 1) := by decide +kernel
theorem dX11_shift_26 : decode cX11_shift 26 = .ok (.getfield 80, 3) := by decide +kernel
theorem dX11_shift_29 : decode cX11_shift 29 = .ok (.iload_n 3, 1) := by decide +kernel
theorem dX11_shift_30 : decode cX11_shift 30 = .ok (.iaload, 1) := by decide +kernel
theorem dX11_shift_31 : decode cX11_shift 31 = .ok (.ifCond .ge 6, 3) := by decide +kernel
theorem dX11_shift_34 : decode cX11_shift 34 = .ok (.bipush (-11), 2) := by decide +kernel
theorem dX11_shift_36 : decode cX11_shift 36 = .ok (.ireturn, 1) := by decide +kernel
theorem dX11_shift_37 : decode cX11_shift 37 = .ok (.aload_n 0, 1) := by decide +kernel
theorem dX11_shift_38 : decode cX11_shift 38 = .ok (.getfield 80, 3) := by decide +kernel
theorem dX11_shift_41 : decode cX11_shift 41 = .ok (.iload_n 1, 1) := by decide +kernel
theorem dX11_shift_42 : decode cX11_shift 42 = .ok (.iaload, 1) := by decide +kernel
theorem dX11_shift_43 : decode cX11_shift 43 = .ok (.bipush 50, 2) := by decide +kernel
theorem dX11_shift_45 : decode cX11_shift 45 = .ok (.if_icmp .lt 18, 3) := by decide +kernel
theorem dX11_shift_48 : decode cX11_shift 48 = .ok (.aload_n 0, 1) := by decide +kernel
theorem dX11_shift_49 : decode cX11_shift 49 = .ok (.getfield 80, 3) := by decide +kernel
theorem dX11_shift_52 : decode cX11_shift 52 = .ok (.iload_n 1, 1) := by decide +kernel
theorem dX11_shift_53 : decode cX11_shift 53 = .ok (.iaload, 1) := by decide +kernel
theorem dX11_shift_54 : decode cX11_shift 54 = .ok (.aload_n 0, 1) := by decide +kernel
theorem dX11_shift_55 : decode cX11_shift 55 = .ok (.getfield 80, 3) := by decide +kernel
theorem dX11_shift_58 : decode cX11_shift 58 = .ok (.iload_n 3, 1) := by decide +kernel
theorem dX11_shift_59 : decode cX11_shift 59 = .ok (.iaload, 1) := by decide +kernel
theorem dX11_shift_60 : decode cX11_shift 60 = .ok (.if_icmp .eq 6, 3) := by decide +kernel
theorem dX11_shift_63 : decode cX11_shift 63 = .ok (.bipush (-12), 2) := by decide +kernel
theorem dX11_shift_65 : decode cX11_shift 65 = .ok (.ireturn, 1) := by decide +kernel
theorem dX11_shift_66 : decode cX11_shift 66 = .ok (.iload 5, 2) := by decide +kernel
theorem dX11_shift_68 : decode cX11_shift 68 = .ok (.ifCond .lt 39, 3) := by decide +kernel
theorem dX11_shift_71 : decode cX11_shift 71 = .ok (.iload_n 2, 1) := by decide +kernel
theorem dX11_shift_72 : decode cX11_shift 72 = .ok (.ifCond .lt 35, 3) := by decide +kernel
theorem dX11_shift_75 : decode cX11_shift 75 = .ok (.iload 4, 2) := by decide +kernel
theorem dX11_shift_77 : decode cX11_shift 77 = .ok (.ifCond .lt 30, 3) := by decide +kernel
theorem dX11_shift_80 : decode cX11_shift 80 = .ok (.iload_n 2, 1) := by decide +kernel
theorem dX11_shift_81 : decode cX11_shift 81 = .ok (.aload_n 0, 1) := by decide +kernel
theorem dX11_shift_82 : decode cX11_shift 82 = .ok (.getfield 83, 3) := by decide +kernel
theorem dX11_shift_85 : decode cX11_shift 85 = .ok (.iload_n 1, 1) := by decide +kernel
theorem dX11_shift_86 : decode cX11_shift 86 = .ok (.iaload, 1) := by decide +kernel
theorem dX11_shift_87 : decode cX11_shift 87 = .ok (.iload 5, 2) := by decide +kernel
theorem dX11_shift_89 : decode cX11_shift 89 = .ok (.isub, 1) := by decide +kernel
theorem dX11_shift_90 : decode cX11_shift 90 = .ok (.if_icmp .gt 17, 3) := by decide +kernel
theorem dX11_shift_93 : decode cX11_shift 93 = .ok (.iload 4, 2) := by decide +kernel
theorem dX11_shift_95 : decode cX11_shift 95 = .ok (.aload_n 0, 1) := by decide +kernel
theorem dX11_shift_96 : decode cX11_shift 96 = .ok (.getfield 83, 3) := by decide +kernel
theorem dX11_shift_99 : decode cX11_shift 99 = .ok (.iload_n 3, 1) := by decide +kernel
theorem dX11_shift_100 : decode cX11_shift 100 = .ok (.iaload, 1) := by decide +kernel
theorem dX11_shift_101 : decode cX11_shift 101 = .ok (.iload 5, 2) := by decide +kernel
theorem dX11_shift_103 : decode cX11_shift 103 = .ok (.isub, 1) := by decide +kernel
theorem dX11_shift_104 : decode cX11_shift 104 = .ok (.if_icmp .le 6, 3) := by decide +kernel
theorem dX11_shift_107 : decode cX11_shift 107 = .ok (.bipush (-13), 2) := by decide +kernel
theorem dX11_shift_109 : decode cX11_shift 109 = .ok (.ireturn, 1) := by decide +kernel
theorem dX11_shift_110 : decode cX11_shift 110 = .ok (.iconst 0, 1) := by decide +kernel
theorem dX11_shift_111 : decode cX11_shift 111 = .ok (.istore 6, 2) := by decide +kernel
theorem dX11_shift_113 : decode cX11_shift 113 = .ok (.iload 6, 2) := by decide +kernel
theorem dX11_shift_115 : decode cX11_shift 115 = .ok (.iload 5, 2) := by decide +kernel
theorem dX11_shift_117 : decode cX11_shift 117 = .ok (.if_icmp .ge 30, 3) := by decide +kernel
theorem dX11_shift_120 : decode cX11_shift 120 = .ok (.aload_n 0, 1) := by decide +kernel
theorem dX11_shift_121 : decode cX11_shift 121 = .ok (.getfield 90, 3) := by decide +kernel
theorem dX11_shift_124 : decode cX11_shift 124 = .ok (.iload 6, 2) := by decide +kernel
theorem dX11_shift_126 : decode cX11_shift 126 = .ok (.aload_n 0, 1) := by decide +kernel
theorem dX11_shift_127 : decode cX11_shift 127 = .ok (.getfield 86, 3) := by decide +kernel
theorem dX11_shift_130 : decode cX11_shift 130 = .ok (.bipush 60, 2) := by decide +kernel
theorem dX11_shift_132 : decode cX11_shift 132 = .ok (.iload_n 1, 1) := by decide +kernel
theorem dX11_shift_133 : decode cX11_shift 133 = .ok (.imul, 1) := by decide +kernel
theorem dX11_shift_134 : decode cX11_shift 134 = .ok (.iload_n 2, 1) := by decide +kernel
theorem dX11_shift_135 : decode cX11_shift 135 = .ok (.iadd, 1) := by decide +kernel
theorem dX11_shift_136 : decode cX11_shift 136 = .ok (.iload 6, 2) := by decide +kernel
theorem dX11_shift_138 : decode cX11_shift 138 = .ok (.iadd, 1) := by decide +kernel
theorem dX11_shift_139 : decode cX11_shift 139 = .ok (.laload, 1) := by decide +kernel
theorem dX11_shift_140 : decode cX11_shift 140 = .ok (.lastore, 1) := by decide +kernel
theorem dX11_shift_141 : decode cX11_shift 141 = .ok (.iinc 6 1, 3) := by decide +kernel
theorem dX11_shift_144 : decode cX11_shift 144 = .ok (.goto (-31), 3) := by decide +kernel
theorem dX11_shift_147 : decode cX11_shift 147 = .ok (.iconst 0, 1) := by decide +kernel
theorem dX11_shift_148 : decode cX11_shift 148 = .ok (.istore 6, 2) := by decide +kernel
theorem dX11_shift_150 : decode cX11_shift 150 = .ok (.iload 6, 2) := by decide +kernel
theorem dX11_shift_152 : decode cX11_shift 152 = .ok (.iload 5, 2) := by decide +kernel
theorem dX11_shift_154 : decode cX11_shift 154 = .ok (.if_icmp .ge 31, 3) := by decide +kernel
theorem dX11_shift_157 : decode cX11_shift 157 = .ok (.aload_n 0, 1) := by decide +kernel
theorem dX11_shift_158 : decode cX11_shift 158 = .ok (.getfield 86, 3) := by decide +kernel
theorem dX11_shift_161 : decode cX11_shift 161 = .ok (.bipush 60, 2) := by decide +kernel
theorem dX11_shift_163 : decode cX11_shift 163 = .ok (.iload_n 3, 1) := by decide +kernel
theorem dX11_shift_164 : decode cX11_shift 164 = .ok (.imul, 1) := by decide +kernel
theorem dX11_shift_165 : decode cX11_shift 165 = .ok (.iload 4, 2) := by decide +kernel
theorem dX11_shift_167 : decode cX11_shift 167 = .ok (.iadd, 1) := by decide +kernel
theorem dX11_shift_168 : decode cX11_shift 168 = .ok (.iload 6, 2) := by decide +kernel
theorem dX11_shift_170 : decode cX11_shift 170 = .ok (.iadd, 1) := by decide +kernel
theorem dX11_shift_171 : decode cX11_shift 171 = .ok (.aload_n 0, 1) := by decide +kernel
theorem dX11_shift_172 : decode cX11_shift 172 = .ok (.getfield 90, 3) := by decide +kernel
theorem dX11_shift_175 : decode cX11_shift 175 = .ok (.iload 6, 2) := by decide +kernel
theorem dX11_shift_177 : decode cX11_shift 177 = .ok (.laload, 1) := by decide +kernel
theorem dX11_shift_178 : decode cX11_shift 178 = .ok (.lastore, 1) := by decide +kernel
theorem dX11_shift_179 : decode cX11_shift 179 = .ok (.iinc 6 1, 3) := by decide +kernel
theorem dX11_shift_182 : decode cX11_shift 182 = .ok (.goto (-32), 3) := by decide +kernel
theorem dX11_shift_185 : decode cX11_shift 185 = .ok (.iload 5, 2) := by decide +kernel
theorem dX11_shift_187 : decode cX11_shift 187 = .ok (.ireturn, 1) := by decide +kernel
theorem dX11_taken_0 : decode cX11_taken 0 = .ok (.iload_n 1, 1) := by decide +kernel
theorem dX11_taken_1 : decode cX11_taken 1 = .ok (.invokestatic 213, 3) := by decide +kernel
theorem dX11_taken_4 : decode cX11_taken 4 = .ok (.ifCond .eq 15, 3) := by decide +kernel
theorem dX11_taken_7 : decode cX11_taken 7 = .ok (.iload_n 2, 1) := by decide +kernel
theorem dX11_taken_8 : decode cX11_taken 8 = .ok (.i2l, 1) := by decide +kernel
theorem dX11_taken_9 : decode cX11_taken 9 = .ok (.lconst 0, 1) := by decide +kernel
theorem dX11_taken_10 : decode cX11_taken 10 = .ok (.ldc2_w 307, 3) := by decide +kernel
theorem dX11_taken_13 : decode cX11_taken 13 = .ok (.invokestatic 106, 3) := by decide +kernel
theorem dX11_taken_16 : decode cX11_taken 16 = .ok (.ifCond .ne 5, 3) := by decide +kernel
theorem dX11_taken_19 : decode cX11_taken 19 = .ok (.iconst (-1), 1) := by decide +kernel
theorem dX11_taken_20 : decode cX11_taken 20 = .ok (.ireturn, 1) := by decide +kernel
theorem dX11_taken_21 : decode cX11_taken 21 = .ok (.aload_n 0, 1) := by decide +kernel
theorem dX11_taken_22 : decode cX11_taken 22 = .ok (.getfield 80, 3) := by decide +kernel
theorem dX11_taken_25 : decode cX11_taken 25 = .ok (.iload_n 1, 1) := by decide +kernel
theorem dX11_taken_26 : decode cX11_taken 26 = .ok (.iaload, 1) := by decide +kernel
theorem dX11_taken_27 : decode cX11_taken 27 = .ok (.ifCond .ge 6, 3) := by decide +kernel
theorem dX11_taken_30 : decode cX11_taken 30 = .ok (.bipush (-11), 2) := by decide +kernel
theorem dX11_taken_32 : decode cX11_taken 32 = .ok (.ireturn, 1) := by decide +kernel
theorem dX11_taken_33 : decode cX11_taken 33 = .ok (.aload_n 0, 1) := by decide +kernel
theorem dX11_taken_34 : decode cX11_taken 34 = .ok (.getfield 80, 3) := by decide +kernel
theorem dX11_taken_37 : decode cX11_taken 37 = .ok (.iload_n 1, 1) := by decide +kernel
theorem dX11_taken_38 : decode cX11_taken 38 = .ok (.iaload, 1) := by decide +kernel
theorem dX11_taken_39 : decode cX11_taken 39 = .ok (.bipush 50, 2) := by decide +kernel
theorem dX11_taken_41 : decode cX11_taken 41 = .ok (.if_icmp .lt 6, 3) := by decide +kernel
theorem dX11_taken_44 : decode cX11_taken 44 = .ok (.bipush (-12), 2) := by decide +kernel
theorem dX11_taken_46 : decode cX11_taken 46 = .ok (.ireturn, 1) := by decide +kernel
theorem dX11_taken_47 : decode cX11_taken 47 = .ok (.aload_n 0, 1) := by decide +kernel
theorem dX11_taken_48 : decode cX11_taken 48 = .ok (.aload_n 0, 1) := by decide +kernel
theorem dX11_taken_49 : decode cX11_taken 49 = .ok (.getfield 80, 3) := by decide +kernel
theorem dX11_taken_52 : decode cX11_taken 52 = .ok (.iload_n 1, 1) := by decide +kernel
theorem dX11_taken_53 : decode cX11_taken 53 = .ok (.iaload, 1) := by decide +kernel
theorem dX11_taken_54 : decode cX11_taken 54 = .ok (.invokevirtual 351, 3) := by decide +kernel
theorem dX11_taken_57 : decode cX11_taken 57 = .ok (.istore_n 3, 1) := by decide +kernel
theorem dX11_taken_58 : decode cX11_taken 58 = .ok (.iload_n 3, 1) := by decide +kernel
theorem dX11_taken_59 : decode cX11_taken 59 = .ok (.iload_n 2, 1) := by decide +kernel
theorem dX11_taken_60 : decode cX11_taken 60 = .ok (.if_icmp .eq 15, 3) := by decide +kernel
theorem dX11_taken_63 : decode cX11_taken 63 = .ok (.iload_n 3, 1) := by decide +kernel
theorem dX11_taken_64 : decode cX11_taken 64 = .ok (.ifCond .le 11, 3) := by decide +kernel
theorem dX11_taken_67 : decode cX11_taken 67 = .ok (.iload_n 3, 1) := by decide +kernel
theorem dX11_taken_68 : decode cX11_taken 68 = .ok (.invokestatic 354, 3) := by decide +kernel
theorem dX11_taken_71 : decode cX11_taken 71 = .ok (.istore_n 3, 1) := by decide +kernel
theorem dX11_taken_72 : decode cX11_taken 72 = .ok (.goto (-14), 3) := by decide +kernel
theorem dX11_taken_75 : decode cX11_taken 75 = .ok (.iload_n 3, 1) := by decide +kernel
theorem dX11_taken_76 : decode cX11_taken 76 = .ok (.iload_n 2, 1) := by decide +kernel
theorem dX11_taken_77 : decode cX11_taken 77 = .ok (.if_icmp .ne 16, 3) := by decide +kernel
theorem dX11_taken_80 : decode cX11_taken 80 = .ok (.aload_n 0, 1) := by decide +kernel
theorem dX11_taken_81 : decode cX11_taken 81 = .ok (.aload_n 0, 1) := by decide +kernel
theorem dX11_taken_82 : decode cX11_taken 82 = .ok (.getfield 80, 3) := by decide +kernel
theorem dX11_taken_85 : decode cX11_taken 85 = .ok (.iload_n 1, 1) := by decide +kernel
theorem dX11_taken_86 : decode cX11_taken 86 = .ok (.iaload, 1) := by decide +kernel
theorem dX11_taken_87 : decode cX11_taken 87 = .ok (.invokevirtual 351, 3) := by decide +kernel
theorem dX11_taken_90 : decode cX11_taken 90 = .ok (.goto 5, 3) := by decide +kernel
theorem dX11_taken_93 : decode cX11_taken 93 = .ok (.bipush (-12), 2) := by decide +kernel
theorem dX11_taken_95 : decode cX11_taken 95 = .ok (.ireturn, 1) := by decide +kernel
theorem dX11_count_0 : decode cX11_count 0 = .ok (.iload_n 1, 1) := by decide +kernel
theorem dX11_count_1 : decode cX11_count 1 = .ok (.tableswitch 87 0 7 #[47, 52, 57, 62, 67, 72, 77, 82], 47) := by decide +kernel
theorem dX11_count_48 : decode cX11_count 48 = .ok (.aload_n 0, 1) := by decide +kernel
theorem dX11_count_49 : decode cX11_count 49 = .ok (.getfield 103, 3) := by decide +kernel
theorem dX11_count_52 : decode cX11_count 52 = .ok (.ireturn, 1) := by decide +kernel
theorem dX11_count_53 : decode cX11_count 53 = .ok (.aload_n 0, 1) := by decide +kernel
theorem dX11_count_54 : decode cX11_count 54 = .ok (.getfield 110, 3) := by decide +kernel
theorem dX11_count_57 : decode cX11_count 57 = .ok (.ireturn, 1) := by decide +kernel
theorem dX11_count_58 : decode cX11_count 58 = .ok (.aload_n 0, 1) := by decide +kernel
theorem dX11_count_59 : decode cX11_count 59 = .ok (.getfield 196, 3) := by decide +kernel
theorem dX11_count_62 : decode cX11_count 62 = .ok (.ireturn, 1) := by decide +kernel
theorem dX11_count_63 : decode cX11_count 63 = .ok (.aload_n 0, 1) := by decide +kernel
theorem dX11_count_64 : decode cX11_count 64 = .ok (.getfield 287, 3) := by decide +kernel
theorem dX11_count_67 : decode cX11_count 67 = .ok (.ireturn, 1) := by decide +kernel
theorem dX11_count_68 : decode cX11_count 68 = .ok (.aload_n 0, 1) := by decide +kernel
theorem dX11_count_69 : decode cX11_count 69 = .ok (.getfield 143, 3) := by decide +kernel
theorem dX11_count_72 : decode cX11_count 72 = .ok (.ireturn, 1) := by decide +kernel
theorem dX11_count_73 : decode cX11_count 73 = .ok (.aload_n 0, 1) := by decide +kernel
theorem dX11_count_74 : decode cX11_count 74 = .ok (.getfield 96, 3) := by decide +kernel
theorem dX11_count_77 : decode cX11_count 77 = .ok (.ireturn, 1) := by decide +kernel
theorem dX11_count_78 : decode cX11_count 78 = .ok (.aload_n 0, 1) := by decide +kernel
theorem dX11_count_79 : decode cX11_count 79 = .ok (.getfield 304, 3) := by decide +kernel
theorem dX11_count_82 : decode cX11_count 82 = .ok (.ireturn, 1) := by decide +kernel
theorem dX11_count_83 : decode cX11_count 83 = .ok (.aload_n 0, 1) := by decide +kernel
theorem dX11_count_84 : decode cX11_count 84 = .ok (.getfield 309, 3) := by decide +kernel
theorem dX11_count_87 : decode cX11_count 87 = .ok (.ireturn, 1) := by decide +kernel
theorem dX11_count_88 : decode cX11_count 88 = .ok (.iconst (-1), 1) := by decide +kernel
theorem dX11_count_89 : decode cX11_count 89 = .ok (.ireturn, 1) := by decide +kernel
