theorem d_M_init_0 : decode b_M_init 0 = .ok (.aload_n 0, 1) := by decide +kernel
theorem d_M_init_1 : decode b_M_init 1 = .ok (.invokespecial 1, 3) := by decide +kernel
theorem d_M_init_4 : decode b_M_init 4 = .ok (.aload_n 0, 1) := by decide +kernel
theorem d_M_init_5 : decode b_M_init 5 = .ok (.sipush 144, 3) := by decide +kernel
theorem d_M_init_8 : decode b_M_init 8 = .ok (.newarray .int, 2) := by decide +kernel
theorem d_M_init_10 : decode b_M_init 10 = .ok (.putfield 7, 3) := by decide +kernel
theorem d_M_init_13 : decode b_M_init 13 = .ok (.aload_n 0, 1) := by decide +kernel
theorem d_M_init_14 : decode b_M_init 14 = .ok (.bipush 24, 2) := by decide +kernel
theorem d_M_init_16 : decode b_M_init 16 = .ok (.newarray .int, 2) := by decide +kernel
theorem d_M_init_18 : decode b_M_init 18 = .ok (.putfield 13, 3) := by decide +kernel
theorem d_M_init_21 : decode b_M_init 21 = .ok (.aload_n 0, 1) := by decide +kernel
theorem d_M_init_22 : decode b_M_init 22 = .ok (.bipush 24, 2) := by decide +kernel
theorem d_M_init_24 : decode b_M_init 24 = .ok (.newarray .int, 2) := by decide +kernel
theorem d_M_init_26 : decode b_M_init 26 = .ok (.putfield 16, 3) := by decide +kernel
theorem d_M_init_29 : decode b_M_init 29 = .ok (.aload_n 0, 1) := by decide +kernel
theorem d_M_init_30 : decode b_M_init 30 = .ok (.bipush 24, 2) := by decide +kernel
theorem d_M_init_32 : decode b_M_init 32 = .ok (.newarray .int, 2) := by decide +kernel
theorem d_M_init_34 : decode b_M_init 34 = .ok (.putfield 19, 3) := by decide +kernel
theorem d_M_init_37 : decode b_M_init 37 = .ok (.aload_n 0, 1) := by decide +kernel
theorem d_M_init_38 : decode b_M_init 38 = .ok (.bipush 24, 2) := by decide +kernel
theorem d_M_init_40 : decode b_M_init 40 = .ok (.newarray .int, 2) := by decide +kernel
theorem d_M_init_42 : decode b_M_init 42 = .ok (.putfield 22, 3) := by decide +kernel
theorem d_M_init_45 : decode b_M_init 45 = .ok (.aload_n 0, 1) := by decide +kernel
theorem d_M_init_46 : decode b_M_init 46 = .ok (.bipush 24, 2) := by decide +kernel
theorem d_M_init_48 : decode b_M_init 48 = .ok (.newarray .boolean, 2) := by decide +kernel
theorem d_M_init_50 : decode b_M_init 50 = .ok (.putfield 25, 3) := by decide +kernel
theorem d_M_init_53 : decode b_M_init 53 = .ok (.aload_n 0, 1) := by decide +kernel
theorem d_M_init_54 : decode b_M_init 54 = .ok (.sipush 3456, 3) := by decide +kernel
theorem d_M_init_57 : decode b_M_init 57 = .ok (.newarray .int, 2) := by decide +kernel
theorem d_M_init_59 : decode b_M_init 59 = .ok (.putfield 29, 3) := by decide +kernel
theorem d_M_init_62 : decode b_M_init 62 = .ok (.aload_n 0, 1) := by decide +kernel
theorem d_M_init_63 : decode b_M_init 63 = .ok (.bipush 24, 2) := by decide +kernel
theorem d_M_init_65 : decode b_M_init 65 = .ok (.newarray .int, 2) := by decide +kernel
theorem d_M_init_67 : decode b_M_init 67 = .ok (.putfield 32, 3) := by decide +kernel
theorem d_M_init_70 : decode b_M_init 70 = .ok (.aload_n 0, 1) := by decide +kernel
theorem d_M_init_71 : decode b_M_init 71 = .ok (.iconst 4, 1) := by decide +kernel
theorem d_M_init_72 : decode b_M_init 72 = .ok (.newarray .int, 2) := by decide +kernel
theorem d_M_init_74 : decode b_M_init 74 = .ok (.putfield 35, 3) := by decide +kernel
theorem d_M_init_77 : decode b_M_init 77 = .ok (.aload_n 0, 1) := by decide +kernel
theorem d_M_init_78 : decode b_M_init 78 = .ok (.bipush 6, 2) := by decide +kernel
theorem d_M_init_80 : decode b_M_init 80 = .ok (.newarray .int, 2) := by decide +kernel
theorem d_M_init_82 : decode b_M_init 82 = .ok (.putfield 38, 3) := by decide +kernel
theorem d_M_init_85 : decode b_M_init 85 = .ok (.aload_n 0, 1) := by decide +kernel
theorem d_M_init_86 : decode b_M_init 86 = .ok (.sipush 144, 3) := by decide +kernel
theorem d_M_init_89 : decode b_M_init 89 = .ok (.newarray .int, 2) := by decide +kernel
theorem d_M_init_91 : decode b_M_init 91 = .ok (.putfield 41, 3) := by decide +kernel
theorem d_M_init_94 : decode b_M_init 94 = .ok (.aload_n 0, 1) := by decide +kernel
theorem d_M_init_95 : decode b_M_init 95 = .ok (.sipush 144, 3) := by decide +kernel
theorem d_M_init_98 : decode b_M_init 98 = .ok (.newarray .int, 2) := by decide +kernel
theorem d_M_init_100 : decode b_M_init 100 = .ok (.putfield 44, 3) := by decide +kernel
theorem d_M_init_103 : decode b_M_init 103 = .ok (.aload_n 0, 1) := by decide +kernel
theorem d_M_init_104 : decode b_M_init 104 = .ok (.bipush 24, 2) := by decide +kernel
theorem d_M_init_106 : decode b_M_init 106 = .ok (.newarray .int, 2) := by decide +kernel
theorem d_M_init_108 : decode b_M_init 108 = .ok (.putfield 47, 3) := by decide +kernel
theorem d_M_init_111 : decode b_M_init 111 = .ok (.aload_n 0, 1) := by decide +kernel
theorem d_M_init_112 : decode b_M_init 112 = .ok (.bipush 24, 2) := by decide +kernel
theorem d_M_init_114 : decode b_M_init 114 = .ok (.newarray .int, 2) := by decide +kernel
theorem d_M_init_116 : decode b_M_init 116 = .ok (.putfield 50, 3) := by decide +kernel
theorem d_M_init_119 : decode b_M_init 119 = .ok (.aload_n 0, 1) := by decide +kernel
theorem d_M_init_120 : decode b_M_init 120 = .ok (.bipush 24, 2) := by decide +kernel
theorem d_M_init_122 : decode b_M_init 122 = .ok (.newarray .int, 2) := by decide +kernel
theorem d_M_init_124 : decode b_M_init 124 = .ok (.putfield 53, 3) := by decide +kernel
theorem d_M_init_127 : decode b_M_init 127 = .ok (.aload_n 0, 1) := by decide +kernel
theorem d_M_init_128 : decode b_M_init 128 = .ok (.bipush 24, 2) := by decide +kernel
theorem d_M_init_130 : decode b_M_init 130 = .ok (.newarray .int, 2) := by decide +kernel
theorem d_M_init_132 : decode b_M_init 132 = .ok (.putfield 56, 3) := by decide +kernel
theorem d_M_init_135 : decode b_M_init 135 = .ok (.aload_n 0, 1) := by decide +kernel
theorem d_M_init_136 : decode b_M_init 136 = .ok (.sipush 4096, 3) := by decide +kernel
theorem d_M_init_139 : decode b_M_init 139 = .ok (.newarray .int, 2) := by decide +kernel
theorem d_M_init_141 : decode b_M_init 141 = .ok (.putfield 59, 3) := by decide +kernel
theorem d_M_init_144 : decode b_M_init 144 = .ok (.aload_n 0, 1) := by decide +kernel
theorem d_M_init_145 : decode b_M_init 145 = .ok (.sipush 4096, 3) := by decide +kernel
theorem d_M_init_148 : decode b_M_init 148 = .ok (.newarray .int, 2) := by decide +kernel
theorem d_M_init_150 : decode b_M_init 150 = .ok (.putfield 62, 3) := by decide +kernel
theorem d_M_init_153 : decode b_M_init 153 = .ok (.iconst 0, 1) := by decide +kernel
theorem d_M_init_154 : decode b_M_init 154 = .ok (.istore_n 1, 1) := by decide +kernel
theorem d_M_init_155 : decode b_M_init 155 = .ok (.iload_n 1, 1) := by decide +kernel
theorem d_M_init_156 : decode b_M_init 156 = .ok (.sipush 144, 3) := by decide +kernel
theorem d_M_init_159 : decode b_M_init 159 = .ok (.if_icmp .ge 16, 3) := by decide +kernel
theorem d_M_init_162 : decode b_M_init 162 = .ok (.aload_n 0, 1) := by decide +kernel
theorem d_M_init_163 : decode b_M_init 163 = .ok (.getfield 7, 3) := by decide +kernel
theorem d_M_init_166 : decode b_M_init 166 = .ok (.iload_n 1, 1) := by decide +kernel
theorem d_M_init_167 : decode b_M_init 167 = .ok (.iconst 1, 1) := by decide +kernel
theorem d_M_init_168 : decode b_M_init 168 = .ok (.iastore, 1) := by decide +kernel
theorem d_M_init_169 : decode b_M_init 169 = .ok (.iinc 1 1, 3) := by decide +kernel
theorem d_M_init_172 : decode b_M_init 172 = .ok (.goto (-17), 3) := by decide +kernel
theorem d_M_init_175 : decode b_M_init 175 = .ok (.aload_n 0, 1) := by decide +kernel
theorem d_M_init_176 : decode b_M_init 176 = .ok (.getfield 35, 3) := by decide +kernel
theorem d_M_init_179 : decode b_M_init 179 = .ok (.iconst 0, 1) := by decide +kernel
theorem d_M_init_180 : decode b_M_init 180 = .ok (.bipush 10, 2) := by decide +kernel
theorem d_M_init_182 : decode b_M_init 182 = .ok (.iastore, 1) := by decide +kernel
theorem d_M_init_183 : decode b_M_init 183 = .ok (.aload_n 0, 1) := by decide +kernel
theorem d_M_init_184 : decode b_M_init 184 = .ok (.getfield 35, 3) := by decide +kernel
theorem d_M_init_187 : decode b_M_init 187 = .ok (.iconst 1, 1) := by decide +kernel
theorem d_M_init_188 : decode b_M_init 188 = .ok (.sipush 500, 3) := by decide +kernel
theorem d_M_init_191 : decode b_M_init 191 = .ok (.iastore, 1) := by decide +kernel
theorem d_M_init_192 : decode b_M_init 192 = .ok (.aload_n 0, 1) := by decide +kernel
theorem d_M_init_193 : decode b_M_init 193 = .ok (.getfield 35, 3) := by decide +kernel
theorem d_M_init_196 : decode b_M_init 196 = .ok (.iconst 2, 1) := by decide +kernel
theorem d_M_init_197 : decode b_M_init 197 = .ok (.sipush 150, 3) := by decide +kernel
theorem d_M_init_200 : decode b_M_init 200 = .ok (.iastore, 1) := by decide +kernel
theorem d_M_init_201 : decode b_M_init 201 = .ok (.aload_n 0, 1) := by decide +kernel
theorem d_M_init_202 : decode b_M_init 202 = .ok (.getfield 35, 3) := by decide +kernel
theorem d_M_init_205 : decode b_M_init 205 = .ok (.iconst 3, 1) := by decide +kernel
theorem d_M_init_206 : decode b_M_init 206 = .ok (.sipush 600, 3) := by decide +kernel
theorem d_M_init_209 : decode b_M_init 209 = .ok (.iastore, 1) := by decide +kernel
theorem d_M_init_210 : decode b_M_init 210 = .ok (.aload_n 0, 1) := by decide +kernel
theorem d_M_init_211 : decode b_M_init 211 = .ok (.getfield 38, 3) := by decide +kernel
theorem d_M_init_214 : decode b_M_init 214 = .ok (.iconst 0, 1) := by decide +kernel
theorem d_M_init_215 : decode b_M_init 215 = .ok (.iconst 2, 1) := by decide +kernel
theorem d_M_init_216 : decode b_M_init 216 = .ok (.iastore, 1) := by decide +kernel
theorem d_M_init_217 : decode b_M_init 217 = .ok (.aload_n 0, 1) := by decide +kernel
theorem d_M_init_218 : decode b_M_init 218 = .ok (.getfield 38, 3) := by decide +kernel
theorem d_M_init_221 : decode b_M_init 221 = .ok (.iconst 1, 1) := by decide +kernel
theorem d_M_init_222 : decode b_M_init 222 = .ok (.bipush 6, 2) := by decide +kernel
theorem d_M_init_224 : decode b_M_init 224 = .ok (.iastore, 1) := by decide +kernel
theorem d_M_init_225 : decode b_M_init 225 = .ok (.aload_n 0, 1) := by decide +kernel
theorem d_M_init_226 : decode b_M_init 226 = .ok (.getfield 38, 3) := by decide +kernel
theorem d_M_init_229 : decode b_M_init 229 = .ok (.iconst 2, 1) := by decide +kernel
theorem d_M_init_230 : decode b_M_init 230 = .ok (.bipush 12, 2) := by decide +kernel
theorem d_M_init_232 : decode b_M_init 232 = .ok (.iastore, 1) := by decide +kernel
theorem d_M_init_233 : decode b_M_init 233 = .ok (.aload_n 0, 1) := by decide +kernel
theorem d_M_init_234 : decode b_M_init 234 = .ok (.getfield 38, 3) := by decide +kernel
theorem d_M_init_237 : decode b_M_init 237 = .ok (.iconst 3, 1) := by decide +kernel
theorem d_M_init_238 : decode b_M_init 238 = .ok (.bipush 24, 2) := by decide +kernel
theorem d_M_init_240 : decode b_M_init 240 = .ok (.iastore, 1) := by decide +kernel
theorem d_M_init_241 : decode b_M_init 241 = .ok (.aload_n 0, 1) := by decide +kernel
theorem d_M_init_242 : decode b_M_init 242 = .ok (.getfield 38, 3) := by decide +kernel
theorem d_M_init_245 : decode b_M_init 245 = .ok (.iconst 4, 1) := by decide +kernel
theorem d_M_init_246 : decode b_M_init 246 = .ok (.bipush 60, 2) := by decide +kernel
theorem d_M_init_248 : decode b_M_init 248 = .ok (.iastore, 1) := by decide +kernel
theorem d_M_init_249 : decode b_M_init 249 = .ok (.aload_n 0, 1) := by decide +kernel
theorem d_M_init_250 : decode b_M_init 250 = .ok (.getfield 38, 3) := by decide +kernel
theorem d_M_init_253 : decode b_M_init 253 = .ok (.iconst 5, 1) := by decide +kernel
theorem d_M_init_254 : decode b_M_init 254 = .ok (.sipush 200, 3) := by decide +kernel
theorem d_M_init_257 : decode b_M_init 257 = .ok (.iastore, 1) := by decide +kernel
theorem d_M_init_258 : decode b_M_init 258 = .ok (.return_, 1) := by decide +kernel
theorem d_M_in_0 : decode b_M_in 0 = .ok (.lload_n 0, 1) := by decide +kernel
theorem d_M_in_1 : decode b_M_in 1 = .ok (.lload_n 2, 1) := by decide +kernel
theorem d_M_in_2 : decode b_M_in 2 = .ok (.lcmp, 1) := by decide +kernel
theorem d_M_in_3 : decode b_M_in 3 = .ok (.ifCond .lt 14, 3) := by decide +kernel
theorem d_M_in_6 : decode b_M_in 6 = .ok (.lload_n 0, 1) := by decide +kernel
theorem d_M_in_7 : decode b_M_in 7 = .ok (.lload 4, 2) := by decide +kernel
theorem d_M_in_9 : decode b_M_in 9 = .ok (.lcmp, 1) := by decide +kernel
theorem d_M_in_10 : decode b_M_in 10 = .ok (.ifCond .gt 7, 3) := by decide +kernel
theorem d_M_in_13 : decode b_M_in 13 = .ok (.iconst 1, 1) := by decide +kernel
theorem d_M_in_14 : decode b_M_in 14 = .ok (.goto 4, 3) := by decide +kernel
theorem d_M_in_17 : decode b_M_in 17 = .ok (.iconst 0, 1) := by decide +kernel
theorem d_M_in_18 : decode b_M_in 18 = .ok (.ireturn, 1) := by decide +kernel
theorem d_M_isCell_0 : decode b_M_isCell 0 = .ok (.iload_n 0, 1) := by decide +kernel
theorem d_M_isCell_1 : decode b_M_isCell 1 = .ok (.i2l, 1) := by decide +kernel
theorem d_M_isCell_2 : decode b_M_isCell 2 = .ok (.lconst 0, 1) := by decide +kernel
theorem d_M_isCell_3 : decode b_M_isCell 3 = .ok (.ldc2_w 65, 3) := by decide +kernel
theorem d_M_isCell_6 : decode b_M_isCell 6 = .ok (.invokestatic 67, 3) := by decide +kernel
theorem d_M_isCell_9 : decode b_M_isCell 9 = .ok (.ireturn, 1) := by decide +kernel
theorem d_M_isNode_0 : decode b_M_isNode 0 = .ok (.iload_n 1, 1) := by decide +kernel
theorem d_M_isNode_1 : decode b_M_isNode 1 = .ok (.i2l, 1) := by decide +kernel
theorem d_M_isNode_2 : decode b_M_isNode 2 = .ok (.lconst 0, 1) := by decide +kernel
theorem d_M_isNode_3 : decode b_M_isNode 3 = .ok (.aload_n 0, 1) := by decide +kernel
theorem d_M_isNode_4 : decode b_M_isNode 4 = .ok (.getfield 71, 3) := by decide +kernel
theorem d_M_isNode_7 : decode b_M_isNode 7 = .ok (.iconst 1, 1) := by decide +kernel
theorem d_M_isNode_8 : decode b_M_isNode 8 = .ok (.isub, 1) := by decide +kernel
theorem d_M_isNode_9 : decode b_M_isNode 9 = .ok (.i2l, 1) := by decide +kernel
theorem d_M_isNode_10 : decode b_M_isNode 10 = .ok (.invokestatic 67, 3) := by decide +kernel
theorem d_M_isNode_13 : decode b_M_isNode 13 = .ok (.ireturn, 1) := by decide +kernel
theorem d_M_price_0 : decode b_M_price 0 = .ok (.iload_n 1, 1) := by decide +kernel
theorem d_M_price_1 : decode b_M_price 1 = .ok (.invokestatic 75, 3) := by decide +kernel
theorem d_M_price_4 : decode b_M_price 4 = .ok (.ifCond .ne 7, 3) := by decide +kernel
theorem d_M_price_7 : decode b_M_price 7 = .ok (.sipush (-1001), 3) := by decide +kernel
theorem d_M_price_10 : decode b_M_price 10 = .ok (.ireturn, 1) := by decide +kernel
theorem d_M_price_11 : decode b_M_price 11 = .ok (.iload_n 2, 1) := by decide +kernel
theorem d_M_price_12 : decode b_M_price 12 = .ok (.i2l, 1) := by decide +kernel
theorem d_M_price_13 : decode b_M_price 13 = .ok (.lconst 0, 1) := by decide +kernel
theorem d_M_price_14 : decode b_M_price 14 = .ok (.ldc2_w 79, 3) := by decide +kernel
theorem d_M_price_17 : decode b_M_price 17 = .ok (.invokestatic 67, 3) := by decide +kernel
theorem d_M_price_20 : decode b_M_price 20 = .ok (.ifCond .ne 7, 3) := by decide +kernel
theorem d_M_price_23 : decode b_M_price 23 = .ok (.sipush (-1002), 3) := by decide +kernel
theorem d_M_price_26 : decode b_M_price 26 = .ok (.ireturn, 1) := by decide +kernel
theorem d_M_price_27 : decode b_M_price 27 = .ok (.aload_n 0, 1) := by decide +kernel
theorem d_M_price_28 : decode b_M_price 28 = .ok (.getfield 7, 3) := by decide +kernel
theorem d_M_price_31 : decode b_M_price 31 = .ok (.iload_n 1, 1) := by decide +kernel
theorem d_M_price_32 : decode b_M_price 32 = .ok (.iaload, 1) := by decide +kernel
theorem d_M_price_33 : decode b_M_price 33 = .ok (.istore_n 3, 1) := by decide +kernel
theorem d_M_price_34 : decode b_M_price 34 = .ok (.aload_n 0, 1) := by decide +kernel
theorem d_M_price_35 : decode b_M_price 35 = .ok (.getfield 7, 3) := by decide +kernel
theorem d_M_price_38 : decode b_M_price 38 = .ok (.iload_n 1, 1) := by decide +kernel
theorem d_M_price_39 : decode b_M_price 39 = .ok (.iload_n 2, 1) := by decide +kernel
theorem d_M_price_40 : decode b_M_price 40 = .ok (.iastore, 1) := by decide +kernel
theorem d_M_price_41 : decode b_M_price 41 = .ok (.iload_n 3, 1) := by decide +kernel
theorem d_M_price_42 : decode b_M_price 42 = .ok (.ireturn, 1) := by decide +kernel
theorem d_M_beside_0 : decode b_M_beside 0 = .ok (.iload_n 0, 1) := by decide +kernel
theorem d_M_beside_1 : decode b_M_beside 1 = .ok (.bipush 12, 2) := by decide +kernel
theorem d_M_beside_3 : decode b_M_beside 3 = .ok (.irem, 1) := by decide +kernel
theorem d_M_beside_4 : decode b_M_beside 4 = .ok (.istore_n 2, 1) := by decide +kernel
theorem d_M_beside_5 : decode b_M_beside 5 = .ok (.iload_n 0, 1) := by decide +kernel
theorem d_M_beside_6 : decode b_M_beside 6 = .ok (.bipush 12, 2) := by decide +kernel
theorem d_M_beside_8 : decode b_M_beside 8 = .ok (.idiv, 1) := by decide +kernel
theorem d_M_beside_9 : decode b_M_beside 9 = .ok (.istore_n 3, 1) := by decide +kernel
theorem d_M_beside_10 : decode b_M_beside 10 = .ok (.iload_n 1, 1) := by decide +kernel
theorem d_M_beside_11 : decode b_M_beside 11 = .ok (.ifCond .ne 18, 3) := by decide +kernel
theorem d_M_beside_14 : decode b_M_beside 14 = .ok (.iload_n 3, 1) := by decide +kernel
theorem d_M_beside_15 : decode b_M_beside 15 = .ok (.ifCond .le 10, 3) := by decide +kernel
theorem d_M_beside_18 : decode b_M_beside 18 = .ok (.iload_n 0, 1) := by decide +kernel
theorem d_M_beside_19 : decode b_M_beside 19 = .ok (.bipush 12, 2) := by decide +kernel
theorem d_M_beside_21 : decode b_M_beside 21 = .ok (.isub, 1) := by decide +kernel
theorem d_M_beside_22 : decode b_M_beside 22 = .ok (.goto 61, 3) := by decide +kernel
theorem d_M_beside_25 : decode b_M_beside 25 = .ok (.iconst (-1), 1) := by decide +kernel
theorem d_M_beside_26 : decode b_M_beside 26 = .ok (.goto 57, 3) := by decide +kernel
theorem d_M_beside_29 : decode b_M_beside 29 = .ok (.iload_n 1, 1) := by decide +kernel
theorem d_M_beside_30 : decode b_M_beside 30 = .ok (.iconst 1, 1) := by decide +kernel
theorem d_M_beside_31 : decode b_M_beside 31 = .ok (.if_icmp .ne 17, 3) := by decide +kernel
theorem d_M_beside_34 : decode b_M_beside 34 = .ok (.iload_n 2, 1) := by decide +kernel
theorem d_M_beside_35 : decode b_M_beside 35 = .ok (.ifCond .le 9, 3) := by decide +kernel
theorem d_M_beside_38 : decode b_M_beside 38 = .ok (.iload_n 0, 1) := by decide +kernel
theorem d_M_beside_39 : decode b_M_beside 39 = .ok (.iconst 1, 1) := by decide +kernel
theorem d_M_beside_40 : decode b_M_beside 40 = .ok (.isub, 1) := by decide +kernel
theorem d_M_beside_41 : decode b_M_beside 41 = .ok (.goto 42, 3) := by decide +kernel
theorem d_M_beside_44 : decode b_M_beside 44 = .ok (.iconst (-1), 1) := by decide +kernel
theorem d_M_beside_45 : decode b_M_beside 45 = .ok (.goto 38, 3) := by decide +kernel
theorem d_M_beside_48 : decode b_M_beside 48 = .ok (.iload_n 1, 1) := by decide +kernel
theorem d_M_beside_49 : decode b_M_beside 49 = .ok (.iconst 2, 1) := by decide +kernel
theorem d_M_beside_50 : decode b_M_beside 50 = .ok (.if_icmp .ne 19, 3) := by decide +kernel
theorem d_M_beside_53 : decode b_M_beside 53 = .ok (.iload_n 2, 1) := by decide +kernel
theorem d_M_beside_54 : decode b_M_beside 54 = .ok (.bipush 11, 2) := by decide +kernel
theorem d_M_beside_56 : decode b_M_beside 56 = .ok (.if_icmp .ge 9, 3) := by decide +kernel
theorem d_M_beside_59 : decode b_M_beside 59 = .ok (.iload_n 0, 1) := by decide +kernel
theorem d_M_beside_60 : decode b_M_beside 60 = .ok (.iconst 1, 1) := by decide +kernel
theorem d_M_beside_61 : decode b_M_beside 61 = .ok (.iadd, 1) := by decide +kernel
theorem d_M_beside_62 : decode b_M_beside 62 = .ok (.goto 21, 3) := by decide +kernel
theorem d_M_beside_65 : decode b_M_beside 65 = .ok (.iconst (-1), 1) := by decide +kernel
theorem d_M_beside_66 : decode b_M_beside 66 = .ok (.goto 17, 3) := by decide +kernel
theorem d_M_beside_69 : decode b_M_beside 69 = .ok (.iload_n 3, 1) := by decide +kernel
theorem d_M_beside_70 : decode b_M_beside 70 = .ok (.bipush 11, 2) := by decide +kernel
theorem d_M_beside_72 : decode b_M_beside 72 = .ok (.if_icmp .ge 10, 3) := by decide +kernel
theorem d_M_beside_75 : decode b_M_beside 75 = .ok (.iload_n 0, 1) := by decide +kernel
theorem d_M_beside_76 : decode b_M_beside 76 = .ok (.bipush 12, 2) := by decide +kernel
theorem d_M_beside_78 : decode b_M_beside 78 = .ok (.iadd, 1) := by decide +kernel
theorem d_M_beside_79 : decode b_M_beside 79 = .ok (.goto 4, 3) := by decide +kernel
theorem d_M_beside_82 : decode b_M_beside 82 = .ok (.iconst (-1), 1) := by decide +kernel
theorem d_M_beside_83 : decode b_M_beside 83 = .ok (.ireturn, 1) := by decide +kernel
theorem d_M_through_0 : decode b_M_through 0 = .ok (.iload_n 1, 1) := by decide +kernel
theorem d_M_through_1 : decode b_M_through 1 = .ok (.ifCond .lt 23, 3) := by decide +kernel
theorem d_M_through_4 : decode b_M_through 4 = .ok (.aload_n 0, 1) := by decide +kernel
theorem d_M_through_5 : decode b_M_through 5 = .ok (.getfield 7, 3) := by decide +kernel
theorem d_M_through_8 : decode b_M_through 8 = .ok (.iload_n 1, 1) := by decide +kernel
theorem d_M_through_9 : decode b_M_through 9 = .ok (.iaload, 1) := by decide +kernel
theorem d_M_through_10 : decode b_M_through 10 = .ok (.ifCond .eq 14, 3) := by decide +kernel
theorem d_M_through_13 : decode b_M_through 13 = .ok (.aload_n 0, 1) := by decide +kernel
theorem d_M_through_14 : decode b_M_through 14 = .ok (.getfield 41, 3) := by decide +kernel
theorem d_M_through_17 : decode b_M_through 17 = .ok (.iload_n 1, 1) := by decide +kernel
theorem d_M_through_18 : decode b_M_through 18 = .ok (.iaload, 1) := by decide +kernel
theorem d_M_through_19 : decode b_M_through 19 = .ok (.ldc 81, 2) := by decide +kernel
theorem d_M_through_21 : decode b_M_through 21 = .ok (.if_icmp .lt 8, 3) := by decide +kernel
theorem d_M_through_24 : decode b_M_through 24 = .ok (.ldc 81, 2) := by decide +kernel
theorem d_M_through_26 : decode b_M_through 26 = .ok (.goto 22, 3) := by decide +kernel
theorem d_M_through_29 : decode b_M_through 29 = .ok (.aload_n 0, 1) := by decide +kernel
theorem d_M_through_30 : decode b_M_through 30 = .ok (.getfield 41, 3) := by decide +kernel
theorem d_M_through_33 : decode b_M_through 33 = .ok (.iload_n 1, 1) := by decide +kernel
theorem d_M_through_34 : decode b_M_through 34 = .ok (.iaload, 1) := by decide +kernel
theorem d_M_through_35 : decode b_M_through 35 = .ok (.sipush 1000, 3) := by decide +kernel
theorem d_M_through_38 : decode b_M_through 38 = .ok (.aload_n 0, 1) := by decide +kernel
theorem d_M_through_39 : decode b_M_through 39 = .ok (.getfield 7, 3) := by decide +kernel
theorem d_M_through_42 : decode b_M_through 42 = .ok (.iload_n 1, 1) := by decide +kernel
theorem d_M_through_43 : decode b_M_through 43 = .ok (.iaload, 1) := by decide +kernel
theorem d_M_through_44 : decode b_M_through 44 = .ok (.imul, 1) := by decide +kernel
theorem d_M_through_45 : decode b_M_through 45 = .ok (.iadd, 1) := by decide +kernel
theorem d_M_through_46 : decode b_M_through 46 = .ok (.iconst 1, 1) := by decide +kernel
theorem d_M_through_47 : decode b_M_through 47 = .ok (.iadd, 1) := by decide +kernel
theorem d_M_through_48 : decode b_M_through 48 = .ok (.ireturn, 1) := by decide +kernel
theorem d_M_findLefts_0 : decode b_M_findLefts 0 = .ok (.iconst 0, 1) := by decide +kernel
theorem d_M_findLefts_1 : decode b_M_findLefts 1 = .ok (.istore_n 2, 1) := by decide +kernel
theorem d_M_findLefts_2 : decode b_M_findLefts 2 = .ok (.iload_n 2, 1) := by decide +kernel
theorem d_M_findLefts_3 : decode b_M_findLefts 3 = .ok (.sipush 144, 3) := by decide +kernel
theorem d_M_findLefts_6 : decode b_M_findLefts 6 = .ok (.if_icmp .ge 26, 3) := by decide +kernel
theorem d_M_findLefts_9 : decode b_M_findLefts 9 = .ok (.aload_n 0, 1) := by decide +kernel
theorem d_M_findLefts_10 : decode b_M_findLefts 10 = .ok (.getfield 41, 3) := by decide +kernel
theorem d_M_findLefts_13 : decode b_M_findLefts 13 = .ok (.iload_n 2, 1) := by decide +kernel
theorem d_M_findLefts_14 : decode b_M_findLefts 14 = .ok (.iload_n 2, 1) := by decide +kernel
theorem d_M_findLefts_15 : decode b_M_findLefts 15 = .ok (.iload_n 1, 1) := by decide +kernel
theorem d_M_findLefts_16 : decode b_M_findLefts 16 = .ok (.if_icmp .ne 7, 3) := by decide +kernel
theorem d_M_findLefts_19 : decode b_M_findLefts 19 = .ok (.iconst 0, 1) := by decide +kernel
theorem d_M_findLefts_20 : decode b_M_findLefts 20 = .ok (.goto 5, 3) := by decide +kernel
theorem d_M_findLefts_23 : decode b_M_findLefts 23 = .ok (.ldc 81, 2) := by decide +kernel
theorem d_M_findLefts_25 : decode b_M_findLefts 25 = .ok (.iastore, 1) := by decide +kernel
theorem d_M_findLefts_26 : decode b_M_findLefts 26 = .ok (.iinc 2 1, 3) := by decide +kernel
theorem d_M_findLefts_29 : decode b_M_findLefts 29 = .ok (.goto (-27), 3) := by decide +kernel
theorem d_M_findLefts_32 : decode b_M_findLefts 32 = .ok (.iconst 1, 1) := by decide +kernel
theorem d_M_findLefts_33 : decode b_M_findLefts 33 = .ok (.istore_n 2, 1) := by decide +kernel
theorem d_M_findLefts_34 : decode b_M_findLefts 34 = .ok (.iload_n 2, 1) := by decide +kernel
theorem d_M_findLefts_35 : decode b_M_findLefts 35 = .ok (.ifCond .eq 76, 3) := by decide +kernel
theorem d_M_findLefts_38 : decode b_M_findLefts 38 = .ok (.iconst 0, 1) := by decide +kernel
theorem d_M_findLefts_39 : decode b_M_findLefts 39 = .ok (.istore_n 2, 1) := by decide +kernel
theorem d_M_findLefts_40 : decode b_M_findLefts 40 = .ok (.iconst 0, 1) := by decide +kernel
theorem d_M_findLefts_41 : decode b_M_findLefts 41 = .ok (.istore_n 3, 1) := by decide +kernel
theorem d_M_findLefts_42 : decode b_M_findLefts 42 = .ok (.iload_n 3, 1) := by decide +kernel
theorem d_M_findLefts_43 : decode b_M_findLefts 43 = .ok (.sipush 144, 3) := by decide +kernel
theorem d_M_findLefts_46 : decode b_M_findLefts 46 = .ok (.if_icmp .ge 62, 3) := by decide +kernel
theorem d_M_findLefts_49 : decode b_M_findLefts 49 = .ok (.iconst 0, 1) := by decide +kernel
theorem d_M_findLefts_50 : decode b_M_findLefts 50 = .ok (.istore 4, 2) := by decide +kernel
theorem d_M_findLefts_52 : decode b_M_findLefts 52 = .ok (.iload 4, 2) := by decide +kernel
theorem d_M_findLefts_54 : decode b_M_findLefts 54 = .ok (.iconst 4, 1) := by decide +kernel
theorem d_M_findLefts_55 : decode b_M_findLefts 55 = .ok (.if_icmp .ge 47, 3) := by decide +kernel
theorem d_M_findLefts_58 : decode b_M_findLefts 58 = .ok (.iload_n 3, 1) := by decide +kernel
theorem d_M_findLefts_59 : decode b_M_findLefts 59 = .ok (.iload_n 1, 1) := by decide +kernel
theorem d_M_findLefts_60 : decode b_M_findLefts 60 = .ok (.if_icmp .eq 42, 3) := by decide +kernel
theorem d_M_findLefts_63 : decode b_M_findLefts 63 = .ok (.aload_n 0, 1) := by decide +kernel
theorem d_M_findLefts_64 : decode b_M_findLefts 64 = .ok (.iload_n 3, 1) := by decide +kernel
theorem d_M_findLefts_65 : decode b_M_findLefts 65 = .ok (.iload 4, 2) := by decide +kernel
theorem d_M_findLefts_67 : decode b_M_findLefts 67 = .ok (.invokestatic 82, 3) := by decide +kernel
theorem d_M_findLefts_70 : decode b_M_findLefts 70 = .ok (.invokevirtual 86, 3) := by decide +kernel
theorem d_M_findLefts_73 : decode b_M_findLefts 73 = .ok (.istore 5, 2) := by decide +kernel
theorem d_M_findLefts_75 : decode b_M_findLefts 75 = .ok (.iload 5, 2) := by decide +kernel
theorem d_M_findLefts_77 : decode b_M_findLefts 77 = .ok (.aload_n 0, 1) := by decide +kernel
theorem d_M_findLefts_78 : decode b_M_findLefts 78 = .ok (.getfield 41, 3) := by decide +kernel
theorem d_M_findLefts_81 : decode b_M_findLefts 81 = .ok (.iload_n 3, 1) := by decide +kernel
theorem d_M_findLefts_82 : decode b_M_findLefts 82 = .ok (.iaload, 1) := by decide +kernel
theorem d_M_findLefts_83 : decode b_M_findLefts 83 = .ok (.if_icmp .ge 13, 3) := by decide +kernel
theorem d_M_findLefts_86 : decode b_M_findLefts 86 = .ok (.aload_n 0, 1) := by decide +kernel
theorem d_M_findLefts_87 : decode b_M_findLefts 87 = .ok (.getfield 41, 3) := by decide +kernel
theorem d_M_findLefts_90 : decode b_M_findLefts 90 = .ok (.iload_n 3, 1) := by decide +kernel
theorem d_M_findLefts_91 : decode b_M_findLefts 91 = .ok (.iload 5, 2) := by decide +kernel
theorem d_M_findLefts_93 : decode b_M_findLefts 93 = .ok (.iastore, 1) := by decide +kernel
theorem d_M_findLefts_94 : decode b_M_findLefts 94 = .ok (.iconst 1, 1) := by decide +kernel
theorem d_M_findLefts_95 : decode b_M_findLefts 95 = .ok (.istore_n 2, 1) := by decide +kernel
theorem d_M_findLefts_96 : decode b_M_findLefts 96 = .ok (.iinc 4 1, 3) := by decide +kernel
theorem d_M_findLefts_99 : decode b_M_findLefts 99 = .ok (.goto (-47), 3) := by decide +kernel
theorem d_M_findLefts_102 : decode b_M_findLefts 102 = .ok (.iinc 3 1, 3) := by decide +kernel
theorem d_M_findLefts_105 : decode b_M_findLefts 105 = .ok (.goto (-63), 3) := by decide +kernel
theorem d_M_findLefts_108 : decode b_M_findLefts 108 = .ok (.goto (-74), 3) := by decide +kernel
theorem d_M_findLefts_111 : decode b_M_findLefts 111 = .ok (.return_, 1) := by decide +kernel
theorem d_M_cheapest_0 : decode b_M_cheapest 0 = .ok (.iload_n 1, 1) := by decide +kernel
theorem d_M_cheapest_1 : decode b_M_cheapest 1 = .ok (.invokestatic 75, 3) := by decide +kernel
theorem d_M_cheapest_4 : decode b_M_cheapest 4 = .ok (.ifCond .eq 10, 3) := by decide +kernel
theorem d_M_cheapest_7 : decode b_M_cheapest 7 = .ok (.iload_n 2, 1) := by decide +kernel
theorem d_M_cheapest_8 : decode b_M_cheapest 8 = .ok (.invokestatic 75, 3) := by decide +kernel
theorem d_M_cheapest_11 : decode b_M_cheapest 11 = .ok (.ifCond .ne 7, 3) := by decide +kernel
theorem d_M_cheapest_14 : decode b_M_cheapest 14 = .ok (.sipush (-1001), 3) := by decide +kernel
theorem d_M_cheapest_17 : decode b_M_cheapest 17 = .ok (.ireturn, 1) := by decide +kernel
theorem d_M_cheapest_18 : decode b_M_cheapest 18 = .ok (.aload_n 0, 1) := by decide +kernel
theorem d_M_cheapest_19 : decode b_M_cheapest 19 = .ok (.iload_n 2, 1) := by decide +kernel
theorem d_M_cheapest_20 : decode b_M_cheapest 20 = .ok (.invokevirtual 90, 3) := by decide +kernel
theorem d_M_cheapest_23 : decode b_M_cheapest 23 = .ok (.aload_n 0, 1) := by decide +kernel
theorem d_M_cheapest_24 : decode b_M_cheapest 24 = .ok (.getfield 41, 3) := by decide +kernel
theorem d_M_cheapest_27 : decode b_M_cheapest 27 = .ok (.iload_n 1, 1) := by decide +kernel
theorem d_M_cheapest_28 : decode b_M_cheapest 28 = .ok (.iaload, 1) := by decide +kernel
theorem d_M_cheapest_29 : decode b_M_cheapest 29 = .ok (.ldc 81, 2) := by decide +kernel
theorem d_M_cheapest_31 : decode b_M_cheapest 31 = .ok (.if_icmp .lt 7, 3) := by decide +kernel
theorem d_M_cheapest_34 : decode b_M_cheapest 34 = .ok (.iconst (-1), 1) := by decide +kernel
theorem d_M_cheapest_35 : decode b_M_cheapest 35 = .ok (.goto 13, 3) := by decide +kernel
theorem d_M_cheapest_38 : decode b_M_cheapest 38 = .ok (.aload_n 0, 1) := by decide +kernel
theorem d_M_cheapest_39 : decode b_M_cheapest 39 = .ok (.getfield 41, 3) := by decide +kernel
theorem d_M_cheapest_42 : decode b_M_cheapest 42 = .ok (.iload_n 1, 1) := by decide +kernel
theorem d_M_cheapest_43 : decode b_M_cheapest 43 = .ok (.iaload, 1) := by decide +kernel
theorem d_M_cheapest_44 : decode b_M_cheapest 44 = .ok (.sipush 1000, 3) := by decide +kernel
theorem d_M_cheapest_47 : decode b_M_cheapest 47 = .ok (.idiv, 1) := by decide +kernel
theorem d_M_cheapest_48 : decode b_M_cheapest 48 = .ok (.ireturn, 1) := by decide +kernel
theorem d_M_findWay_0 : decode b_M_findWay 0 = .ok (.aload_n 0, 1) := by decide +kernel
theorem d_M_findWay_1 : decode b_M_findWay 1 = .ok (.iload_n 2, 1) := by decide +kernel
theorem d_M_findWay_2 : decode b_M_findWay 2 = .ok (.invokevirtual 90, 3) := by decide +kernel
theorem d_M_findWay_5 : decode b_M_findWay 5 = .ok (.aload_n 0, 1) := by decide +kernel
theorem d_M_findWay_6 : decode b_M_findWay 6 = .ok (.iconst 0, 1) := by decide +kernel
theorem d_M_findWay_7 : decode b_M_findWay 7 = .ok (.putfield 94, 3) := by decide +kernel
theorem d_M_findWay_10 : decode b_M_findWay 10 = .ok (.aload_n 0, 1) := by decide +kernel
theorem d_M_findWay_11 : decode b_M_findWay 11 = .ok (.getfield 41, 3) := by decide +kernel
theorem d_M_findWay_14 : decode b_M_findWay 14 = .ok (.iload_n 1, 1) := by decide +kernel
theorem d_M_findWay_15 : decode b_M_findWay 15 = .ok (.iaload, 1) := by decide +kernel
theorem d_M_findWay_16 : decode b_M_findWay 16 = .ok (.ldc 81, 2) := by decide +kernel
theorem d_M_findWay_18 : decode b_M_findWay 18 = .ok (.if_icmp .lt 5, 3) := by decide +kernel
theorem d_M_findWay_21 : decode b_M_findWay 21 = .ok (.iconst 0, 1) := by decide +kernel
theorem d_M_findWay_22 : decode b_M_findWay 22 = .ok (.ireturn, 1) := by decide +kernel
theorem d_M_findWay_23 : decode b_M_findWay 23 = .ok (.iload_n 1, 1) := by decide +kernel
theorem d_M_findWay_24 : decode b_M_findWay 24 = .ok (.istore_n 3, 1) := by decide +kernel
theorem d_M_findWay_25 : decode b_M_findWay 25 = .ok (.aload_n 0, 1) := by decide +kernel
theorem d_M_findWay_26 : decode b_M_findWay 26 = .ok (.getfield 44, 3) := by decide +kernel
theorem d_M_findWay_29 : decode b_M_findWay 29 = .ok (.iconst 0, 1) := by decide +kernel
theorem d_M_findWay_30 : decode b_M_findWay 30 = .ok (.iload_n 1, 1) := by decide +kernel
theorem d_M_findWay_31 : decode b_M_findWay 31 = .ok (.iastore, 1) := by decide +kernel
theorem d_M_findWay_32 : decode b_M_findWay 32 = .ok (.aload_n 0, 1) := by decide +kernel
theorem d_M_findWay_33 : decode b_M_findWay 33 = .ok (.iconst 1, 1) := by decide +kernel
theorem d_M_findWay_34 : decode b_M_findWay 34 = .ok (.putfield 94, 3) := by decide +kernel
theorem d_M_findWay_37 : decode b_M_findWay 37 = .ok (.iload_n 3, 1) := by decide +kernel
theorem d_M_findWay_38 : decode b_M_findWay 38 = .ok (.iload_n 2, 1) := by decide +kernel
theorem d_M_findWay_39 : decode b_M_findWay 39 = .ok (.if_icmp .eq 83, 3) := by decide +kernel
theorem d_M_findWay_42 : decode b_M_findWay 42 = .ok (.iconst (-1), 1) := by decide +kernel
theorem d_M_findWay_43 : decode b_M_findWay 43 = .ok (.istore 4, 2) := by decide +kernel
theorem d_M_findWay_45 : decode b_M_findWay 45 = .ok (.iconst 0, 1) := by decide +kernel
theorem d_M_findWay_46 : decode b_M_findWay 46 = .ok (.istore 5, 2) := by decide +kernel
theorem d_M_findWay_48 : decode b_M_findWay 48 = .ok (.iload 5, 2) := by decide +kernel
theorem d_M_findWay_50 : decode b_M_findWay 50 = .ok (.iconst 4, 1) := by decide +kernel
theorem d_M_findWay_51 : decode b_M_findWay 51 = .ok (.if_icmp .ge 45, 3) := by decide +kernel
theorem d_M_findWay_54 : decode b_M_findWay 54 = .ok (.iload 4, 2) := by decide +kernel
theorem d_M_findWay_56 : decode b_M_findWay 56 = .ok (.ifCond .ge 40, 3) := by decide +kernel
theorem d_M_findWay_59 : decode b_M_findWay 59 = .ok (.aload_n 0, 1) := by decide +kernel
theorem d_M_findWay_60 : decode b_M_findWay 60 = .ok (.iload_n 3, 1) := by decide +kernel
theorem d_M_findWay_61 : decode b_M_findWay 61 = .ok (.iload 5, 2) := by decide +kernel
theorem d_M_findWay_63 : decode b_M_findWay 63 = .ok (.invokestatic 82, 3) := by decide +kernel
theorem d_M_findWay_66 : decode b_M_findWay 66 = .ok (.invokevirtual 86, 3) := by decide +kernel
theorem d_M_findWay_69 : decode b_M_findWay 69 = .ok (.aload_n 0, 1) := by decide +kernel
theorem d_M_findWay_70 : decode b_M_findWay 70 = .ok (.getfield 41, 3) := by decide +kernel
theorem d_M_findWay_73 : decode b_M_findWay 73 = .ok (.iload_n 3, 1) := by decide +kernel
theorem d_M_findWay_74 : decode b_M_findWay 74 = .ok (.iaload, 1) := by decide +kernel
theorem d_M_findWay_75 : decode b_M_findWay 75 = .ok (.if_icmp .ne 12, 3) := by decide +kernel
theorem d_M_findWay_78 : decode b_M_findWay 78 = .ok (.iload_n 3, 1) := by decide +kernel
theorem d_M_findWay_79 : decode b_M_findWay 79 = .ok (.iload 5, 2) := by decide +kernel
theorem d_M_findWay_81 : decode b_M_findWay 81 = .ok (.invokestatic 82, 3) := by decide +kernel
theorem d_M_findWay_84 : decode b_M_findWay 84 = .ok (.goto 4, 3) := by decide +kernel
theorem d_M_findWay_87 : decode b_M_findWay 87 = .ok (.iconst (-1), 1) := by decide +kernel
theorem d_M_findWay_88 : decode b_M_findWay 88 = .ok (.istore 4, 2) := by decide +kernel
theorem d_M_findWay_90 : decode b_M_findWay 90 = .ok (.iinc 5 1, 3) := by decide +kernel
theorem d_M_findWay_93 : decode b_M_findWay 93 = .ok (.goto (-45), 3) := by decide +kernel
theorem d_M_findWay_96 : decode b_M_findWay 96 = .ok (.iload 4, 2) := by decide +kernel
theorem d_M_findWay_98 : decode b_M_findWay 98 = .ok (.istore_n 3, 1) := by decide +kernel
theorem d_M_findWay_99 : decode b_M_findWay 99 = .ok (.aload_n 0, 1) := by decide +kernel
theorem d_M_findWay_100 : decode b_M_findWay 100 = .ok (.getfield 44, 3) := by decide +kernel
theorem d_M_findWay_103 : decode b_M_findWay 103 = .ok (.aload_n 0, 1) := by decide +kernel
theorem d_M_findWay_104 : decode b_M_findWay 104 = .ok (.getfield 94, 3) := by decide +kernel
theorem d_M_findWay_107 : decode b_M_findWay 107 = .ok (.iload_n 3, 1) := by decide +kernel
theorem d_M_findWay_108 : decode b_M_findWay 108 = .ok (.iastore, 1) := by decide +kernel
theorem d_M_findWay_109 : decode b_M_findWay 109 = .ok (.aload_n 0, 1) := by decide +kernel
theorem d_M_findWay_110 : decode b_M_findWay 110 = .ok (.dup, 1) := by decide +kernel
theorem d_M_findWay_111 : decode b_M_findWay 111 = .ok (.getfield 94, 3) := by decide +kernel
theorem d_M_findWay_114 : decode b_M_findWay 114 = .ok (.iconst 1, 1) := by decide +kernel
theorem d_M_findWay_115 : decode b_M_findWay 115 = .ok (.iadd, 1) := by decide +kernel
theorem d_M_findWay_116 : decode b_M_findWay 116 = .ok (.putfield 94, 3) := by decide +kernel
theorem d_M_findWay_119 : decode b_M_findWay 119 = .ok (.goto (-82), 3) := by decide +kernel
theorem d_M_findWay_122 : decode b_M_findWay 122 = .ok (.iconst 1, 1) := by decide +kernel
theorem d_M_findWay_123 : decode b_M_findWay 123 = .ok (.ireturn, 1) := by decide +kernel
theorem d_M_way_0 : decode b_M_way 0 = .ok (.iload_n 1, 1) := by decide +kernel
theorem d_M_way_1 : decode b_M_way 1 = .ok (.invokestatic 75, 3) := by decide +kernel
theorem d_M_way_4 : decode b_M_way 4 = .ok (.ifCond .eq 10, 3) := by decide +kernel
theorem d_M_way_7 : decode b_M_way 7 = .ok (.iload_n 2, 1) := by decide +kernel
theorem d_M_way_8 : decode b_M_way 8 = .ok (.invokestatic 75, 3) := by decide +kernel
theorem d_M_way_11 : decode b_M_way 11 = .ok (.ifCond .ne 7, 3) := by decide +kernel
theorem d_M_way_14 : decode b_M_way 14 = .ok (.sipush (-1001), 3) := by decide +kernel
theorem d_M_way_17 : decode b_M_way 17 = .ok (.ireturn, 1) := by decide +kernel
theorem d_M_way_18 : decode b_M_way 18 = .ok (.aload_n 0, 1) := by decide +kernel
theorem d_M_way_19 : decode b_M_way 19 = .ok (.iload_n 1, 1) := by decide +kernel
theorem d_M_way_20 : decode b_M_way 20 = .ok (.iload_n 2, 1) := by decide +kernel
theorem d_M_way_21 : decode b_M_way 21 = .ok (.invokevirtual 97, 3) := by decide +kernel
theorem d_M_way_24 : decode b_M_way 24 = .ok (.ifCond .eq 28, 3) := by decide +kernel
theorem d_M_way_27 : decode b_M_way 27 = .ok (.iload_n 3, 1) := by decide +kernel
theorem d_M_way_28 : decode b_M_way 28 = .ok (.i2l, 1) := by decide +kernel
theorem d_M_way_29 : decode b_M_way 29 = .ok (.lconst 0, 1) := by decide +kernel
theorem d_M_way_30 : decode b_M_way 30 = .ok (.aload_n 0, 1) := by decide +kernel
theorem d_M_way_31 : decode b_M_way 31 = .ok (.getfield 94, 3) := by decide +kernel
theorem d_M_way_34 : decode b_M_way 34 = .ok (.iconst 1, 1) := by decide +kernel
theorem d_M_way_35 : decode b_M_way 35 = .ok (.isub, 1) := by decide +kernel
theorem d_M_way_36 : decode b_M_way 36 = .ok (.i2l, 1) := by decide +kernel
theorem d_M_way_37 : decode b_M_way 37 = .ok (.invokestatic 67, 3) := by decide +kernel
theorem d_M_way_40 : decode b_M_way 40 = .ok (.ifCond .eq 12, 3) := by decide +kernel
theorem d_M_way_43 : decode b_M_way 43 = .ok (.aload_n 0, 1) := by decide +kernel
theorem d_M_way_44 : decode b_M_way 44 = .ok (.getfield 44, 3) := by decide +kernel
theorem d_M_way_47 : decode b_M_way 47 = .ok (.iload_n 3, 1) := by decide +kernel
theorem d_M_way_48 : decode b_M_way 48 = .ok (.iaload, 1) := by decide +kernel
theorem d_M_way_49 : decode b_M_way 49 = .ok (.goto 4, 3) := by decide +kernel
theorem d_M_way_52 : decode b_M_way 52 = .ok (.iconst (-1), 1) := by decide +kernel
theorem d_M_way_53 : decode b_M_way 53 = .ok (.ireturn, 1) := by decide +kernel
theorem d_M_fresh_0 : decode b_M_fresh 0 = .ok (.aload_n 0, 1) := by decide +kernel
theorem d_M_fresh_1 : decode b_M_fresh 1 = .ok (.getfield 71, 3) := by decide +kernel
theorem d_M_fresh_4 : decode b_M_fresh 4 = .ok (.istore 5, 2) := by decide +kernel
theorem d_M_fresh_6 : decode b_M_fresh 6 = .ok (.aload_n 0, 1) := by decide +kernel
theorem d_M_fresh_7 : decode b_M_fresh 7 = .ok (.getfield 13, 3) := by decide +kernel
theorem d_M_fresh_10 : decode b_M_fresh 10 = .ok (.iload 5, 2) := by decide +kernel
theorem d_M_fresh_12 : decode b_M_fresh 12 = .ok (.iload_n 1, 1) := by decide +kernel
theorem d_M_fresh_13 : decode b_M_fresh 13 = .ok (.iastore, 1) := by decide +kernel
theorem d_M_fresh_14 : decode b_M_fresh 14 = .ok (.aload_n 0, 1) := by decide +kernel
theorem d_M_fresh_15 : decode b_M_fresh 15 = .ok (.getfield 16, 3) := by decide +kernel
theorem d_M_fresh_18 : decode b_M_fresh 18 = .ok (.iload 5, 2) := by decide +kernel
theorem d_M_fresh_20 : decode b_M_fresh 20 = .ok (.iload_n 2, 1) := by decide +kernel
theorem d_M_fresh_21 : decode b_M_fresh 21 = .ok (.iastore, 1) := by decide +kernel
theorem d_M_fresh_22 : decode b_M_fresh 22 = .ok (.aload_n 0, 1) := by decide +kernel
theorem d_M_fresh_23 : decode b_M_fresh 23 = .ok (.getfield 19, 3) := by decide +kernel
theorem d_M_fresh_26 : decode b_M_fresh 26 = .ok (.iload 5, 2) := by decide +kernel
theorem d_M_fresh_28 : decode b_M_fresh 28 = .ok (.iload_n 3, 1) := by decide +kernel
theorem d_M_fresh_29 : decode b_M_fresh 29 = .ok (.iastore, 1) := by decide +kernel
theorem d_M_fresh_30 : decode b_M_fresh 30 = .ok (.aload_n 0, 1) := by decide +kernel
theorem d_M_fresh_31 : decode b_M_fresh 31 = .ok (.getfield 22, 3) := by decide +kernel
theorem d_M_fresh_34 : decode b_M_fresh 34 = .ok (.iload 5, 2) := by decide +kernel
theorem d_M_fresh_36 : decode b_M_fresh 36 = .ok (.iload 4, 2) := by decide +kernel
theorem d_M_fresh_38 : decode b_M_fresh 38 = .ok (.iastore, 1) := by decide +kernel
theorem d_M_fresh_39 : decode b_M_fresh 39 = .ok (.aload_n 0, 1) := by decide +kernel
theorem d_M_fresh_40 : decode b_M_fresh 40 = .ok (.getfield 25, 3) := by decide +kernel
theorem d_M_fresh_43 : decode b_M_fresh 43 = .ok (.iload 5, 2) := by decide +kernel
theorem d_M_fresh_45 : decode b_M_fresh 45 = .ok (.iload_n 2, 1) := by decide +kernel
theorem d_M_fresh_46 : decode b_M_fresh 46 = .ok (.ifCond .ge 11, 3) := by decide +kernel
theorem d_M_fresh_49 : decode b_M_fresh 49 = .ok (.iload_n 3, 1) := by decide +kernel
theorem d_M_fresh_50 : decode b_M_fresh 50 = .ok (.ifCond .ne 7, 3) := by decide +kernel
theorem d_M_fresh_53 : decode b_M_fresh 53 = .ok (.iconst 1, 1) := by decide +kernel
theorem d_M_fresh_54 : decode b_M_fresh 54 = .ok (.goto 4, 3) := by decide +kernel
theorem d_M_fresh_57 : decode b_M_fresh 57 = .ok (.iconst 0, 1) := by decide +kernel
theorem d_M_fresh_58 : decode b_M_fresh 58 = .ok (.bastore, 1) := by decide +kernel
theorem d_M_fresh_59 : decode b_M_fresh 59 = .ok (.aload_n 0, 1) := by decide +kernel
theorem d_M_fresh_60 : decode b_M_fresh 60 = .ok (.dup, 1) := by decide +kernel
theorem d_M_fresh_61 : decode b_M_fresh 61 = .ok (.getfield 71, 3) := by decide +kernel
theorem d_M_fresh_64 : decode b_M_fresh 64 = .ok (.iconst 1, 1) := by decide +kernel
theorem d_M_fresh_65 : decode b_M_fresh 65 = .ok (.iadd, 1) := by decide +kernel
theorem d_M_fresh_66 : decode b_M_fresh 66 = .ok (.putfield 71, 3) := by decide +kernel
theorem d_M_fresh_69 : decode b_M_fresh 69 = .ok (.iload 5, 2) := by decide +kernel
theorem d_M_fresh_71 : decode b_M_fresh 71 = .ok (.ireturn, 1) := by decide +kernel
theorem d_M_main_0 : decode b_M_main 0 = .ok (.iload_n 1, 1) := by decide +kernel
theorem d_M_main_1 : decode b_M_main 1 = .ok (.invokestatic 75, 3) := by decide +kernel
theorem d_M_main_4 : decode b_M_main 4 = .ok (.ifCond .ne 7, 3) := by decide +kernel
theorem d_M_main_7 : decode b_M_main 7 = .ok (.sipush (-1001), 3) := by decide +kernel
theorem d_M_main_10 : decode b_M_main 10 = .ok (.ireturn, 1) := by decide +kernel
theorem d_M_main_11 : decode b_M_main 11 = .ok (.iload_n 2, 1) := by decide +kernel
theorem d_M_main_12 : decode b_M_main 12 = .ok (.i2l, 1) := by decide +kernel
theorem d_M_main_13 : decode b_M_main 13 = .ok (.lconst 0, 1) := by decide +kernel
theorem d_M_main_14 : decode b_M_main 14 = .ok (.lconst 1, 1) := by decide +kernel
theorem d_M_main_15 : decode b_M_main 15 = .ok (.invokestatic 67, 3) := by decide +kernel
theorem d_M_main_18 : decode b_M_main 18 = .ok (.ifCond .ne 7, 3) := by decide +kernel
theorem d_M_main_21 : decode b_M_main 21 = .ok (.sipush (-1002), 3) := by decide +kernel
theorem d_M_main_24 : decode b_M_main 24 = .ok (.ireturn, 1) := by decide +kernel
theorem d_M_main_25 : decode b_M_main 25 = .ok (.aload_n 0, 1) := by decide +kernel
theorem d_M_main_26 : decode b_M_main 26 = .ok (.getfield 71, 3) := by decide +kernel
theorem d_M_main_29 : decode b_M_main 29 = .ok (.bipush 24, 2) := by decide +kernel
theorem d_M_main_31 : decode b_M_main 31 = .ok (.if_icmp .ne 7, 3) := by decide +kernel
theorem d_M_main_34 : decode b_M_main 34 = .ok (.sipush (-1004), 3) := by decide +kernel
theorem d_M_main_37 : decode b_M_main 37 = .ok (.ireturn, 1) := by decide +kernel
theorem d_M_main_38 : decode b_M_main 38 = .ok (.aload_n 0, 1) := by decide +kernel
theorem d_M_main_39 : decode b_M_main 39 = .ok (.getfield 32, 3) := by decide +kernel
theorem d_M_main_42 : decode b_M_main 42 = .ok (.aload_n 0, 1) := by decide +kernel
theorem d_M_main_43 : decode b_M_main 43 = .ok (.getfield 71, 3) := by decide +kernel
theorem d_M_main_46 : decode b_M_main 46 = .ok (.iconst 0, 1) := by decide +kernel
theorem d_M_main_47 : decode b_M_main 47 = .ok (.iastore, 1) := by decide +kernel
theorem d_M_main_48 : decode b_M_main 48 = .ok (.aload_n 0, 1) := by decide +kernel
theorem d_M_main_49 : decode b_M_main 49 = .ok (.iload_n 1, 1) := by decide +kernel
theorem d_M_main_50 : decode b_M_main 50 = .ok (.iconst (-1), 1) := by decide +kernel
theorem d_M_main_51 : decode b_M_main 51 = .ok (.iload_n 2, 1) := by decide +kernel
theorem d_M_main_52 : decode b_M_main 52 = .ok (.iconst 0, 1) := by decide +kernel
theorem d_M_main_53 : decode b_M_main 53 = .ok (.invokevirtual 101, 3) := by decide +kernel
theorem d_M_main_56 : decode b_M_main 56 = .ok (.ireturn, 1) := by decide +kernel
theorem d_M_take_0 : decode b_M_take 0 = .ok (.aload_n 0, 1) := by decide +kernel
theorem d_M_take_1 : decode b_M_take 1 = .ok (.getfield 32, 3) := by decide +kernel
theorem d_M_take_4 : decode b_M_take 4 = .ok (.iload_n 1, 1) := by decide +kernel
theorem d_M_take_5 : decode b_M_take 5 = .ok (.aload_n 0, 1) := by decide +kernel
theorem d_M_take_6 : decode b_M_take 6 = .ok (.getfield 94, 3) := by decide +kernel
theorem d_M_take_9 : decode b_M_take 9 = .ok (.iastore, 1) := by decide +kernel
theorem d_M_take_10 : decode b_M_take 10 = .ok (.iconst 0, 1) := by decide +kernel
theorem d_M_take_11 : decode b_M_take 11 = .ok (.istore_n 2, 1) := by decide +kernel
theorem d_M_take_12 : decode b_M_take 12 = .ok (.iload_n 2, 1) := by decide +kernel
theorem d_M_take_13 : decode b_M_take 13 = .ok (.aload_n 0, 1) := by decide +kernel
theorem d_M_take_14 : decode b_M_take 14 = .ok (.getfield 94, 3) := by decide +kernel
theorem d_M_take_17 : decode b_M_take 17 = .ok (.if_icmp .ge 27, 3) := by decide +kernel
theorem d_M_take_20 : decode b_M_take 20 = .ok (.aload_n 0, 1) := by decide +kernel
theorem d_M_take_21 : decode b_M_take 21 = .ok (.getfield 29, 3) := by decide +kernel
theorem d_M_take_24 : decode b_M_take 24 = .ok (.sipush 144, 3) := by decide +kernel
theorem d_M_take_27 : decode b_M_take 27 = .ok (.iload_n 1, 1) := by decide +kernel
theorem d_M_take_28 : decode b_M_take 28 = .ok (.imul, 1) := by decide +kernel
theorem d_M_take_29 : decode b_M_take 29 = .ok (.iload_n 2, 1) := by decide +kernel
theorem d_M_take_30 : decode b_M_take 30 = .ok (.iadd, 1) := by decide +kernel
theorem d_M_take_31 : decode b_M_take 31 = .ok (.aload_n 0, 1) := by decide +kernel
theorem d_M_take_32 : decode b_M_take 32 = .ok (.getfield 44, 3) := by decide +kernel
theorem d_M_take_35 : decode b_M_take 35 = .ok (.iload_n 2, 1) := by decide +kernel
theorem d_M_take_36 : decode b_M_take 36 = .ok (.iaload, 1) := by decide +kernel
theorem d_M_take_37 : decode b_M_take 37 = .ok (.iastore, 1) := by decide +kernel
theorem d_M_take_38 : decode b_M_take 38 = .ok (.iinc 2 1, 3) := by decide +kernel
theorem d_M_take_41 : decode b_M_take 41 = .ok (.goto (-29), 3) := by decide +kernel
theorem d_M_take_44 : decode b_M_take 44 = .ok (.return_, 1) := by decide +kernel
theorem d_M_hang_0 : decode b_M_hang 0 = .ok (.aload_n 0, 1) := by decide +kernel
theorem d_M_hang_1 : decode b_M_hang 1 = .ok (.iload_n 1, 1) := by decide +kernel
theorem d_M_hang_2 : decode b_M_hang 2 = .ok (.invokevirtual 105, 3) := by decide +kernel
theorem d_M_hang_5 : decode b_M_hang 5 = .ok (.ifCond .eq 10, 3) := by decide +kernel
theorem d_M_hang_8 : decode b_M_hang 8 = .ok (.iload_n 2, 1) := by decide +kernel
theorem d_M_hang_9 : decode b_M_hang 9 = .ok (.invokestatic 75, 3) := by decide +kernel
theorem d_M_hang_12 : decode b_M_hang 12 = .ok (.ifCond .ne 7, 3) := by decide +kernel
theorem d_M_hang_15 : decode b_M_hang 15 = .ok (.sipush (-1001), 3) := by decide +kernel
theorem d_M_hang_18 : decode b_M_hang 18 = .ok (.ireturn, 1) := by decide +kernel
theorem d_M_hang_19 : decode b_M_hang 19 = .ok (.iload_n 3, 1) := by decide +kernel
theorem d_M_hang_20 : decode b_M_hang 20 = .ok (.i2l, 1) := by decide +kernel
theorem d_M_hang_21 : decode b_M_hang 21 = .ok (.lconst 0, 1) := by decide +kernel
theorem d_M_hang_22 : decode b_M_hang 22 = .ok (.ldc2_w 108, 3) := by decide +kernel
theorem d_M_hang_25 : decode b_M_hang 25 = .ok (.invokestatic 67, 3) := by decide +kernel
theorem d_M_hang_28 : decode b_M_hang 28 = .ok (.ifCond .ne 7, 3) := by decide +kernel
theorem d_M_hang_31 : decode b_M_hang 31 = .ok (.sipush (-1002), 3) := by decide +kernel
theorem d_M_hang_34 : decode b_M_hang 34 = .ok (.ireturn, 1) := by decide +kernel
theorem d_M_hang_35 : decode b_M_hang 35 = .ok (.iload_n 2, 1) := by decide +kernel
theorem d_M_hang_36 : decode b_M_hang 36 = .ok (.aload_n 0, 1) := by decide +kernel
theorem d_M_hang_37 : decode b_M_hang 37 = .ok (.getfield 13, 3) := by decide +kernel
theorem d_M_hang_40 : decode b_M_hang 40 = .ok (.iload_n 1, 1) := by decide +kernel
theorem d_M_hang_41 : decode b_M_hang 41 = .ok (.iaload, 1) := by decide +kernel
theorem d_M_hang_42 : decode b_M_hang 42 = .ok (.if_icmp .eq 17, 3) := by decide +kernel
theorem d_M_hang_45 : decode b_M_hang 45 = .ok (.aload_n 0, 1) := by decide +kernel
theorem d_M_hang_46 : decode b_M_hang 46 = .ok (.iload_n 2, 1) := by decide +kernel
theorem d_M_hang_47 : decode b_M_hang 47 = .ok (.aload_n 0, 1) := by decide +kernel
theorem d_M_hang_48 : decode b_M_hang 48 = .ok (.getfield 13, 3) := by decide +kernel
theorem d_M_hang_51 : decode b_M_hang 51 = .ok (.iload_n 1, 1) := by decide +kernel
theorem d_M_hang_52 : decode b_M_hang 52 = .ok (.iaload, 1) := by decide +kernel
theorem d_M_hang_53 : decode b_M_hang 53 = .ok (.invokevirtual 97, 3) := by decide +kernel
theorem d_M_hang_56 : decode b_M_hang 56 = .ok (.ifCond .ne 7, 3) := by decide +kernel
theorem d_M_hang_59 : decode b_M_hang 59 = .ok (.sipush (-1003), 3) := by decide +kernel
theorem d_M_hang_62 : decode b_M_hang 62 = .ok (.ireturn, 1) := by decide +kernel
theorem d_M_hang_63 : decode b_M_hang 63 = .ok (.aload_n 0, 1) := by decide +kernel
theorem d_M_hang_64 : decode b_M_hang 64 = .ok (.getfield 71, 3) := by decide +kernel
theorem d_M_hang_67 : decode b_M_hang 67 = .ok (.bipush 24, 2) := by decide +kernel
theorem d_M_hang_69 : decode b_M_hang 69 = .ok (.if_icmp .ne 7, 3) := by decide +kernel
theorem d_M_hang_72 : decode b_M_hang 72 = .ok (.sipush (-1004), 3) := by decide +kernel
theorem d_M_hang_75 : decode b_M_hang 75 = .ok (.ireturn, 1) := by decide +kernel
theorem d_M_hang_76 : decode b_M_hang 76 = .ok (.aload_n 0, 1) := by decide +kernel
theorem d_M_hang_77 : decode b_M_hang 77 = .ok (.aload_n 0, 1) := by decide +kernel
theorem d_M_hang_78 : decode b_M_hang 78 = .ok (.getfield 71, 3) := by decide +kernel
theorem d_M_hang_81 : decode b_M_hang 81 = .ok (.invokevirtual 110, 3) := by decide +kernel
theorem d_M_hang_84 : decode b_M_hang 84 = .ok (.aload_n 0, 1) := by decide +kernel
theorem d_M_hang_85 : decode b_M_hang 85 = .ok (.iload_n 2, 1) := by decide +kernel
theorem d_M_hang_86 : decode b_M_hang 86 = .ok (.iload_n 1, 1) := by decide +kernel
theorem d_M_hang_87 : decode b_M_hang 87 = .ok (.aload_n 0, 1) := by decide +kernel
theorem d_M_hang_88 : decode b_M_hang 88 = .ok (.getfield 19, 3) := by decide +kernel
theorem d_M_hang_91 : decode b_M_hang 91 = .ok (.iload_n 1, 1) := by decide +kernel
theorem d_M_hang_92 : decode b_M_hang 92 = .ok (.iaload, 1) := by decide +kernel
theorem d_M_hang_93 : decode b_M_hang 93 = .ok (.iload_n 3, 1) := by decide +kernel
theorem d_M_hang_94 : decode b_M_hang 94 = .ok (.invokevirtual 101, 3) := by decide +kernel
theorem d_M_hang_97 : decode b_M_hang 97 = .ok (.ireturn, 1) := by decide +kernel
theorem d_M_units_0 : decode b_M_units 0 = .ok (.aload_n 0, 1) := by decide +kernel
theorem d_M_units_1 : decode b_M_units 1 = .ok (.iload_n 1, 1) := by decide +kernel
theorem d_M_units_2 : decode b_M_units 2 = .ok (.invokevirtual 105, 3) := by decide +kernel
theorem d_M_units_5 : decode b_M_units 5 = .ok (.ifCond .ne 7, 3) := by decide +kernel
theorem d_M_units_8 : decode b_M_units 8 = .ok (.sipush (-1001), 3) := by decide +kernel
theorem d_M_units_11 : decode b_M_units 11 = .ok (.ireturn, 1) := by decide +kernel
theorem d_M_units_12 : decode b_M_units 12 = .ok (.iload_n 2, 1) := by decide +kernel
theorem d_M_units_13 : decode b_M_units 13 = .ok (.i2l, 1) := by decide +kernel
theorem d_M_units_14 : decode b_M_units 14 = .ok (.lconst 0, 1) := by decide +kernel
theorem d_M_units_15 : decode b_M_units 15 = .ok (.ldc2_w 108, 3) := by decide +kernel
theorem d_M_units_18 : decode b_M_units 18 = .ok (.invokestatic 67, 3) := by decide +kernel
theorem d_M_units_21 : decode b_M_units 21 = .ok (.ifCond .ne 7, 3) := by decide +kernel
theorem d_M_units_24 : decode b_M_units 24 = .ok (.sipush (-1002), 3) := by decide +kernel
theorem d_M_units_27 : decode b_M_units 27 = .ok (.ireturn, 1) := by decide +kernel
theorem d_M_units_28 : decode b_M_units 28 = .ok (.aload_n 0, 1) := by decide +kernel
theorem d_M_units_29 : decode b_M_units 29 = .ok (.getfield 22, 3) := by decide +kernel
theorem d_M_units_32 : decode b_M_units 32 = .ok (.iload_n 1, 1) := by decide +kernel
theorem d_M_units_33 : decode b_M_units 33 = .ok (.iaload, 1) := by decide +kernel
theorem d_M_units_34 : decode b_M_units 34 = .ok (.istore_n 3, 1) := by decide +kernel
theorem d_M_units_35 : decode b_M_units 35 = .ok (.aload_n 0, 1) := by decide +kernel
theorem d_M_units_36 : decode b_M_units 36 = .ok (.getfield 22, 3) := by decide +kernel
theorem d_M_units_39 : decode b_M_units 39 = .ok (.iload_n 1, 1) := by decide +kernel
theorem d_M_units_40 : decode b_M_units 40 = .ok (.iload_n 2, 1) := by decide +kernel
theorem d_M_units_41 : decode b_M_units 41 = .ok (.iastore, 1) := by decide +kernel
theorem d_M_units_42 : decode b_M_units 42 = .ok (.iload_n 3, 1) := by decide +kernel
theorem d_M_units_43 : decode b_M_units 43 = .ok (.ireturn, 1) := by decide +kernel
theorem d_M_air_0 : decode b_M_air 0 = .ok (.aload_n 0, 1) := by decide +kernel
theorem d_M_air_1 : decode b_M_air 1 = .ok (.iload_n 1, 1) := by decide +kernel
theorem d_M_air_2 : decode b_M_air 2 = .ok (.invokevirtual 105, 3) := by decide +kernel
theorem d_M_air_5 : decode b_M_air 5 = .ok (.ifCond .ne 7, 3) := by decide +kernel
theorem d_M_air_8 : decode b_M_air 8 = .ok (.sipush (-1001), 3) := by decide +kernel
theorem d_M_air_11 : decode b_M_air 11 = .ok (.ireturn, 1) := by decide +kernel
theorem d_M_air_12 : decode b_M_air 12 = .ok (.aload_n 0, 1) := by decide +kernel
theorem d_M_air_13 : decode b_M_air 13 = .ok (.getfield 16, 3) := by decide +kernel
theorem d_M_air_16 : decode b_M_air 16 = .ok (.iload_n 1, 1) := by decide +kernel
theorem d_M_air_17 : decode b_M_air 17 = .ok (.iaload, 1) := by decide +kernel
theorem d_M_air_18 : decode b_M_air 18 = .ok (.ifCond .lt 13, 3) := by decide +kernel
theorem d_M_air_21 : decode b_M_air 21 = .ok (.aload_n 0, 1) := by decide +kernel
theorem d_M_air_22 : decode b_M_air 22 = .ok (.getfield 19, 3) := by decide +kernel
theorem d_M_air_25 : decode b_M_air 25 = .ok (.iload_n 1, 1) := by decide +kernel
theorem d_M_air_26 : decode b_M_air 26 = .ok (.iaload, 1) := by decide +kernel
theorem d_M_air_27 : decode b_M_air 27 = .ok (.iconst 1, 1) := by decide +kernel
theorem d_M_air_28 : decode b_M_air 28 = .ok (.if_icmp .ne 7, 3) := by decide +kernel
theorem d_M_air_31 : decode b_M_air 31 = .ok (.sipush (-1003), 3) := by decide +kernel
theorem d_M_air_34 : decode b_M_air 34 = .ok (.ireturn, 1) := by decide +kernel
theorem d_M_air_35 : decode b_M_air 35 = .ok (.aload_n 0, 1) := by decide +kernel
theorem d_M_air_36 : decode b_M_air 36 = .ok (.getfield 25, 3) := by decide +kernel
theorem d_M_air_39 : decode b_M_air 39 = .ok (.iload_n 1, 1) := by decide +kernel
theorem d_M_air_40 : decode b_M_air 40 = .ok (.baload, 1) := by decide +kernel
theorem d_M_air_41 : decode b_M_air 41 = .ok (.ifCond .eq 7, 3) := by decide +kernel
theorem d_M_air_44 : decode b_M_air 44 = .ok (.iconst 1, 1) := by decide +kernel
theorem d_M_air_45 : decode b_M_air 45 = .ok (.goto 4, 3) := by decide +kernel
theorem d_M_air_48 : decode b_M_air 48 = .ok (.iconst 0, 1) := by decide +kernel
theorem d_M_air_49 : decode b_M_air 49 = .ok (.istore_n 3, 1) := by decide +kernel
theorem d_M_air_50 : decode b_M_air 50 = .ok (.aload_n 0, 1) := by decide +kernel
theorem d_M_air_51 : decode b_M_air 51 = .ok (.getfield 25, 3) := by decide +kernel
theorem d_M_air_54 : decode b_M_air 54 = .ok (.iload_n 1, 1) := by decide +kernel
theorem d_M_air_55 : decode b_M_air 55 = .ok (.iload_n 2, 1) := by decide +kernel
theorem d_M_air_56 : decode b_M_air 56 = .ok (.bastore, 1) := by decide +kernel
theorem d_M_air_57 : decode b_M_air 57 = .ok (.iload_n 3, 1) := by decide +kernel
theorem d_M_air_58 : decode b_M_air 58 = .ok (.ireturn, 1) := by decide +kernel
theorem d_M_cut_0 : decode b_M_cut 0 = .ok (.aload_n 0, 1) := by decide +kernel
theorem d_M_cut_1 : decode b_M_cut 1 = .ok (.iload_n 1, 1) := by decide +kernel
theorem d_M_cut_2 : decode b_M_cut 2 = .ok (.invokevirtual 105, 3) := by decide +kernel
theorem d_M_cut_5 : decode b_M_cut 5 = .ok (.ifCond .ne 7, 3) := by decide +kernel
theorem d_M_cut_8 : decode b_M_cut 8 = .ok (.sipush (-1001), 3) := by decide +kernel
theorem d_M_cut_11 : decode b_M_cut 11 = .ok (.ireturn, 1) := by decide +kernel
theorem d_M_cut_12 : decode b_M_cut 12 = .ok (.aload_n 0, 1) := by decide +kernel
theorem d_M_cut_13 : decode b_M_cut 13 = .ok (.getfield 71, 3) := by decide +kernel
theorem d_M_cut_16 : decode b_M_cut 16 = .ok (.iload_n 1, 1) := by decide +kernel
theorem d_M_cut_17 : decode b_M_cut 17 = .ok (.isub, 1) := by decide +kernel
theorem d_M_cut_18 : decode b_M_cut 18 = .ok (.istore_n 2, 1) := by decide +kernel
theorem d_M_cut_19 : decode b_M_cut 19 = .ok (.aload_n 0, 1) := by decide +kernel
theorem d_M_cut_20 : decode b_M_cut 20 = .ok (.iload_n 1, 1) := by decide +kernel
theorem d_M_cut_21 : decode b_M_cut 21 = .ok (.putfield 71, 3) := by decide +kernel
theorem d_M_cut_24 : decode b_M_cut 24 = .ok (.iload_n 2, 1) := by decide +kernel
theorem d_M_cut_25 : decode b_M_cut 25 = .ok (.ireturn, 1) := by decide +kernel
theorem d_M_lay_0 : decode b_M_lay 0 = .ok (.iconst 0, 1) := by decide +kernel
theorem d_M_lay_1 : decode b_M_lay 1 = .ok (.istore_n 1, 1) := by decide +kernel
theorem d_M_lay_2 : decode b_M_lay 2 = .ok (.iconst 0, 1) := by decide +kernel
theorem d_M_lay_3 : decode b_M_lay 3 = .ok (.istore_n 2, 1) := by decide +kernel
theorem d_M_lay_4 : decode b_M_lay 4 = .ok (.iload_n 2, 1) := by decide +kernel
theorem d_M_lay_5 : decode b_M_lay 5 = .ok (.aload_n 0, 1) := by decide +kernel
theorem d_M_lay_6 : decode b_M_lay 6 = .ok (.getfield 71, 3) := by decide +kernel
theorem d_M_lay_9 : decode b_M_lay 9 = .ok (.if_icmp .ge 129, 3) := by decide +kernel
theorem d_M_lay_12 : decode b_M_lay 12 = .ok (.aload_n 0, 1) := by decide +kernel
theorem d_M_lay_13 : decode b_M_lay 13 = .ok (.getfield 16, 3) := by decide +kernel
theorem d_M_lay_16 : decode b_M_lay 16 = .ok (.iload_n 2, 1) := by decide +kernel
theorem d_M_lay_17 : decode b_M_lay 17 = .ok (.iaload, 1) := by decide +kernel
theorem d_M_lay_18 : decode b_M_lay 18 = .ok (.ifCond .lt 114, 3) := by decide +kernel
theorem d_M_lay_21 : decode b_M_lay 21 = .ok (.aload_n 0, 1) := by decide +kernel
theorem d_M_lay_22 : decode b_M_lay 22 = .ok (.aload_n 0, 1) := by decide +kernel
theorem d_M_lay_23 : decode b_M_lay 23 = .ok (.getfield 13, 3) := by decide +kernel
theorem d_M_lay_26 : decode b_M_lay 26 = .ok (.iload_n 2, 1) := by decide +kernel
theorem d_M_lay_27 : decode b_M_lay 27 = .ok (.iaload, 1) := by decide +kernel
theorem d_M_lay_28 : decode b_M_lay 28 = .ok (.aload_n 0, 1) := by decide +kernel
theorem d_M_lay_29 : decode b_M_lay 29 = .ok (.getfield 13, 3) := by decide +kernel
theorem d_M_lay_32 : decode b_M_lay 32 = .ok (.aload_n 0, 1) := by decide +kernel
theorem d_M_lay_33 : decode b_M_lay 33 = .ok (.getfield 16, 3) := by decide +kernel
theorem d_M_lay_36 : decode b_M_lay 36 = .ok (.iload_n 2, 1) := by decide +kernel
theorem d_M_lay_37 : decode b_M_lay 37 = .ok (.iaload, 1) := by decide +kernel
theorem d_M_lay_38 : decode b_M_lay 38 = .ok (.iaload, 1) := by decide +kernel
theorem d_M_lay_39 : decode b_M_lay 39 = .ok (.invokevirtual 97, 3) := by decide +kernel
theorem d_M_lay_42 : decode b_M_lay 42 = .ok (.ifCond .eq 90, 3) := by decide +kernel
theorem d_M_lay_45 : decode b_M_lay 45 = .ok (.aload_n 0, 1) := by decide +kernel
theorem d_M_lay_46 : decode b_M_lay 46 = .ok (.getfield 94, 3) := by decide +kernel
theorem d_M_lay_49 : decode b_M_lay 49 = .ok (.aload_n 0, 1) := by decide +kernel
theorem d_M_lay_50 : decode b_M_lay 50 = .ok (.getfield 32, 3) := by decide +kernel
theorem d_M_lay_53 : decode b_M_lay 53 = .ok (.iload_n 2, 1) := by decide +kernel
theorem d_M_lay_54 : decode b_M_lay 54 = .ok (.iaload, 1) := by decide +kernel
theorem d_M_lay_55 : decode b_M_lay 55 = .ok (.if_icmp .ne 7, 3) := by decide +kernel
theorem d_M_lay_58 : decode b_M_lay 58 = .ok (.iconst 1, 1) := by decide +kernel
theorem d_M_lay_59 : decode b_M_lay 59 = .ok (.goto 4, 3) := by decide +kernel
theorem d_M_lay_62 : decode b_M_lay 62 = .ok (.iconst 0, 1) := by decide +kernel
theorem d_M_lay_63 : decode b_M_lay 63 = .ok (.istore_n 3, 1) := by decide +kernel
theorem d_M_lay_64 : decode b_M_lay 64 = .ok (.iconst 0, 1) := by decide +kernel
theorem d_M_lay_65 : decode b_M_lay 65 = .ok (.istore 4, 2) := by decide +kernel
theorem d_M_lay_67 : decode b_M_lay 67 = .ok (.iload 4, 2) := by decide +kernel
theorem d_M_lay_69 : decode b_M_lay 69 = .ok (.aload_n 0, 1) := by decide +kernel
theorem d_M_lay_70 : decode b_M_lay 70 = .ok (.getfield 94, 3) := by decide +kernel
theorem d_M_lay_73 : decode b_M_lay 73 = .ok (.if_icmp .ge 42, 3) := by decide +kernel
theorem d_M_lay_76 : decode b_M_lay 76 = .ok (.iload_n 3, 1) := by decide +kernel
theorem d_M_lay_77 : decode b_M_lay 77 = .ok (.ifCond .eq 38, 3) := by decide +kernel
theorem d_M_lay_80 : decode b_M_lay 80 = .ok (.aload_n 0, 1) := by decide +kernel
theorem d_M_lay_81 : decode b_M_lay 81 = .ok (.getfield 44, 3) := by decide +kernel
theorem d_M_lay_84 : decode b_M_lay 84 = .ok (.iload 4, 2) := by decide +kernel
theorem d_M_lay_86 : decode b_M_lay 86 = .ok (.iaload, 1) := by decide +kernel
theorem d_M_lay_87 : decode b_M_lay 87 = .ok (.aload_n 0, 1) := by decide +kernel
theorem d_M_lay_88 : decode b_M_lay 88 = .ok (.getfield 29, 3) := by decide +kernel
theorem d_M_lay_91 : decode b_M_lay 91 = .ok (.sipush 144, 3) := by decide +kernel
theorem d_M_lay_94 : decode b_M_lay 94 = .ok (.iload_n 2, 1) := by decide +kernel
theorem d_M_lay_95 : decode b_M_lay 95 = .ok (.imul, 1) := by decide +kernel
theorem d_M_lay_96 : decode b_M_lay 96 = .ok (.iload 4, 2) := by decide +kernel
theorem d_M_lay_98 : decode b_M_lay 98 = .ok (.iadd, 1) := by decide +kernel
theorem d_M_lay_99 : decode b_M_lay 99 = .ok (.iaload, 1) := by decide +kernel
theorem d_M_lay_100 : decode b_M_lay 100 = .ok (.if_icmp .ne 7, 3) := by decide +kernel
theorem d_M_lay_103 : decode b_M_lay 103 = .ok (.iconst 1, 1) := by decide +kernel
theorem d_M_lay_104 : decode b_M_lay 104 = .ok (.goto 4, 3) := by decide +kernel
theorem d_M_lay_107 : decode b_M_lay 107 = .ok (.iconst 0, 1) := by decide +kernel
theorem d_M_lay_108 : decode b_M_lay 108 = .ok (.istore_n 3, 1) := by decide +kernel
theorem d_M_lay_109 : decode b_M_lay 109 = .ok (.iinc 4 1, 3) := by decide +kernel
theorem d_M_lay_112 : decode b_M_lay 112 = .ok (.goto (-45), 3) := by decide +kernel
theorem d_M_lay_115 : decode b_M_lay 115 = .ok (.iload_n 1, 1) := by decide +kernel
theorem d_M_lay_116 : decode b_M_lay 116 = .ok (.iload_n 3, 1) := by decide +kernel
theorem d_M_lay_117 : decode b_M_lay 117 = .ok (.ifCond .eq 7, 3) := by decide +kernel
theorem d_M_lay_120 : decode b_M_lay 120 = .ok (.iconst 0, 1) := by decide +kernel
theorem d_M_lay_121 : decode b_M_lay 121 = .ok (.goto 4, 3) := by decide +kernel
theorem d_M_lay_124 : decode b_M_lay 124 = .ok (.iconst 1, 1) := by decide +kernel
theorem d_M_lay_125 : decode b_M_lay 125 = .ok (.iadd, 1) := by decide +kernel
theorem d_M_lay_126 : decode b_M_lay 126 = .ok (.istore_n 1, 1) := by decide +kernel
theorem d_M_lay_127 : decode b_M_lay 127 = .ok (.aload_n 0, 1) := by decide +kernel
theorem d_M_lay_128 : decode b_M_lay 128 = .ok (.iload_n 2, 1) := by decide +kernel
theorem d_M_lay_129 : decode b_M_lay 129 = .ok (.invokevirtual 110, 3) := by decide +kernel
theorem d_M_lay_132 : decode b_M_lay 132 = .ok (.iinc 2 1, 3) := by decide +kernel
theorem d_M_lay_135 : decode b_M_lay 135 = .ok (.goto (-131), 3) := by decide +kernel
theorem d_M_lay_138 : decode b_M_lay 138 = .ok (.iload_n 1, 1) := by decide +kernel
theorem d_M_lay_139 : decode b_M_lay 139 = .ok (.ireturn, 1) := by decide +kernel
theorem d_M_rule_0 : decode b_M_rule 0 = .ok (.iload_n 1, 1) := by decide +kernel
theorem d_M_rule_1 : decode b_M_rule 1 = .ok (.i2l, 1) := by decide +kernel
theorem d_M_rule_2 : decode b_M_rule 2 = .ok (.lconst 0, 1) := by decide +kernel
theorem d_M_rule_3 : decode b_M_rule 3 = .ok (.ldc2_w 113, 3) := by decide +kernel
theorem d_M_rule_6 : decode b_M_rule 6 = .ok (.invokestatic 67, 3) := by decide +kernel
theorem d_M_rule_9 : decode b_M_rule 9 = .ok (.ifCond .ne 7, 3) := by decide +kernel
theorem d_M_rule_12 : decode b_M_rule 12 = .ok (.sipush (-1002), 3) := by decide +kernel
theorem d_M_rule_15 : decode b_M_rule 15 = .ok (.ireturn, 1) := by decide +kernel
theorem d_M_rule_16 : decode b_M_rule 16 = .ok (.iload_n 1, 1) := by decide +kernel
theorem d_M_rule_17 : decode b_M_rule 17 = .ok (.iconst 1, 1) := by decide +kernel
theorem d_M_rule_18 : decode b_M_rule 18 = .ok (.if_icmp .ne 7, 3) := by decide +kernel
theorem d_M_rule_21 : decode b_M_rule 21 = .ok (.iconst 0, 1) := by decide +kernel
theorem d_M_rule_22 : decode b_M_rule 22 = .ok (.goto 14, 3) := by decide +kernel
theorem d_M_rule_25 : decode b_M_rule 25 = .ok (.iload_n 1, 1) := by decide +kernel
theorem d_M_rule_26 : decode b_M_rule 26 = .ok (.iconst 3, 1) := by decide +kernel
theorem d_M_rule_27 : decode b_M_rule 27 = .ok (.if_icmp .ne 8, 3) := by decide +kernel
theorem d_M_rule_30 : decode b_M_rule 30 = .ok (.bipush 50, 2) := by decide +kernel
theorem d_M_rule_32 : decode b_M_rule 32 = .ok (.goto 4, 3) := by decide +kernel
theorem d_M_rule_35 : decode b_M_rule 35 = .ok (.iconst 1, 1) := by decide +kernel
theorem d_M_rule_36 : decode b_M_rule 36 = .ok (.istore_n 3, 1) := by decide +kernel
theorem d_M_rule_37 : decode b_M_rule 37 = .ok (.iload_n 1, 1) := by decide +kernel
theorem d_M_rule_38 : decode b_M_rule 38 = .ok (.ifCond .ne 8, 3) := by decide +kernel
theorem d_M_rule_41 : decode b_M_rule 41 = .ok (.bipush 20, 2) := by decide +kernel
theorem d_M_rule_43 : decode b_M_rule 43 = .ok (.goto 17, 3) := by decide +kernel
theorem d_M_rule_46 : decode b_M_rule 46 = .ok (.iload_n 1, 1) := by decide +kernel
theorem d_M_rule_47 : decode b_M_rule 47 = .ok (.iconst 2, 1) := by decide +kernel
theorem d_M_rule_48 : decode b_M_rule 48 = .ok (.if_icmp .ne 9, 3) := by decide +kernel
theorem d_M_rule_51 : decode b_M_rule 51 = .ok (.sipush 500, 3) := by decide +kernel
theorem d_M_rule_54 : decode b_M_rule 54 = .ok (.goto 6, 3) := by decide +kernel
theorem d_M_rule_57 : decode b_M_rule 57 = .ok (.sipush 2000, 3) := by decide +kernel
theorem d_M_rule_60 : decode b_M_rule 60 = .ok (.istore 4, 2) := by decide +kernel
theorem d_M_rule_62 : decode b_M_rule 62 = .ok (.iload_n 2, 1) := by decide +kernel
theorem d_M_rule_63 : decode b_M_rule 63 = .ok (.i2l, 1) := by decide +kernel
theorem d_M_rule_64 : decode b_M_rule 64 = .ok (.iload_n 3, 1) := by decide +kernel
theorem d_M_rule_65 : decode b_M_rule 65 = .ok (.i2l, 1) := by decide +kernel
theorem d_M_rule_66 : decode b_M_rule 66 = .ok (.iload 4, 2) := by decide +kernel
theorem d_M_rule_68 : decode b_M_rule 68 = .ok (.i2l, 1) := by decide +kernel
theorem d_M_rule_69 : decode b_M_rule 69 = .ok (.invokestatic 67, 3) := by decide +kernel
theorem d_M_rule_72 : decode b_M_rule 72 = .ok (.ifCond .ne 7, 3) := by decide +kernel
theorem d_M_rule_75 : decode b_M_rule 75 = .ok (.sipush (-1002), 3) := by decide +kernel
theorem d_M_rule_78 : decode b_M_rule 78 = .ok (.ireturn, 1) := by decide +kernel
theorem d_M_rule_79 : decode b_M_rule 79 = .ok (.aload_n 0, 1) := by decide +kernel
theorem d_M_rule_80 : decode b_M_rule 80 = .ok (.getfield 35, 3) := by decide +kernel
theorem d_M_rule_83 : decode b_M_rule 83 = .ok (.iload_n 1, 1) := by decide +kernel
theorem d_M_rule_84 : decode b_M_rule 84 = .ok (.iaload, 1) := by decide +kernel
theorem d_M_rule_85 : decode b_M_rule 85 = .ok (.istore 5, 2) := by decide +kernel
theorem d_M_rule_87 : decode b_M_rule 87 = .ok (.aload_n 0, 1) := by decide +kernel
theorem d_M_rule_88 : decode b_M_rule 88 = .ok (.getfield 35, 3) := by decide +kernel
theorem d_M_rule_91 : decode b_M_rule 91 = .ok (.iload_n 1, 1) := by decide +kernel
theorem d_M_rule_92 : decode b_M_rule 92 = .ok (.iload_n 2, 1) := by decide +kernel
theorem d_M_rule_93 : decode b_M_rule 93 = .ok (.iastore, 1) := by decide +kernel
theorem d_M_rule_94 : decode b_M_rule 94 = .ok (.iload 5, 2) := by decide +kernel
theorem d_M_rule_96 : decode b_M_rule 96 = .ok (.ireturn, 1) := by decide +kernel
theorem d_M_limit_0 : decode b_M_limit 0 = .ok (.iload_n 1, 1) := by decide +kernel
theorem d_M_limit_1 : decode b_M_limit 1 = .ok (.i2l, 1) := by decide +kernel
theorem d_M_limit_2 : decode b_M_limit 2 = .ok (.lconst 0, 1) := by decide +kernel
theorem d_M_limit_3 : decode b_M_limit 3 = .ok (.ldc2_w 115, 3) := by decide +kernel
theorem d_M_limit_6 : decode b_M_limit 6 = .ok (.invokestatic 67, 3) := by decide +kernel
theorem d_M_limit_9 : decode b_M_limit 9 = .ok (.ifCond .eq 15, 3) := by decide +kernel
theorem d_M_limit_12 : decode b_M_limit 12 = .ok (.iload_n 2, 1) := by decide +kernel
theorem d_M_limit_13 : decode b_M_limit 13 = .ok (.i2l, 1) := by decide +kernel
theorem d_M_limit_14 : decode b_M_limit 14 = .ok (.lconst 1, 1) := by decide +kernel
theorem d_M_limit_15 : decode b_M_limit 15 = .ok (.ldc2_w 117, 3) := by decide +kernel
theorem d_M_limit_18 : decode b_M_limit 18 = .ok (.invokestatic 67, 3) := by decide +kernel
theorem d_M_limit_21 : decode b_M_limit 21 = .ok (.ifCond .ne 7, 3) := by decide +kernel
theorem d_M_limit_24 : decode b_M_limit 24 = .ok (.sipush (-1002), 3) := by decide +kernel
theorem d_M_limit_27 : decode b_M_limit 27 = .ok (.ireturn, 1) := by decide +kernel
theorem d_M_limit_28 : decode b_M_limit 28 = .ok (.iload_n 1, 1) := by decide +kernel
theorem d_M_limit_29 : decode b_M_limit 29 = .ok (.ifCond .le 15, 3) := by decide +kernel
theorem d_M_limit_32 : decode b_M_limit 32 = .ok (.aload_n 0, 1) := by decide +kernel
theorem d_M_limit_33 : decode b_M_limit 33 = .ok (.getfield 38, 3) := by decide +kernel
theorem d_M_limit_36 : decode b_M_limit 36 = .ok (.iload_n 1, 1) := by decide +kernel
theorem d_M_limit_37 : decode b_M_limit 37 = .ok (.iconst 1, 1) := by decide +kernel
theorem d_M_limit_38 : decode b_M_limit 38 = .ok (.isub, 1) := by decide +kernel
theorem d_M_limit_39 : decode b_M_limit 39 = .ok (.iaload, 1) := by decide +kernel
theorem d_M_limit_40 : decode b_M_limit 40 = .ok (.iload_n 2, 1) := by decide +kernel
theorem d_M_limit_41 : decode b_M_limit 41 = .ok (.if_icmp .ge 20, 3) := by decide +kernel
theorem d_M_limit_44 : decode b_M_limit 44 = .ok (.iload_n 1, 1) := by decide +kernel
theorem d_M_limit_45 : decode b_M_limit 45 = .ok (.iconst 5, 1) := by decide +kernel
theorem d_M_limit_46 : decode b_M_limit 46 = .ok (.if_icmp .ge 19, 3) := by decide +kernel
theorem d_M_limit_49 : decode b_M_limit 49 = .ok (.aload_n 0, 1) := by decide +kernel
theorem d_M_limit_50 : decode b_M_limit 50 = .ok (.getfield 38, 3) := by decide +kernel
theorem d_M_limit_53 : decode b_M_limit 53 = .ok (.iload_n 1, 1) := by decide +kernel
theorem d_M_limit_54 : decode b_M_limit 54 = .ok (.iconst 1, 1) := by decide +kernel
theorem d_M_limit_55 : decode b_M_limit 55 = .ok (.iadd, 1) := by decide +kernel
theorem d_M_limit_56 : decode b_M_limit 56 = .ok (.iaload, 1) := by decide +kernel
theorem d_M_limit_57 : decode b_M_limit 57 = .ok (.iload_n 2, 1) := by decide +kernel
theorem d_M_limit_58 : decode b_M_limit 58 = .ok (.if_icmp .gt 7, 3) := by decide +kernel
theorem d_M_limit_61 : decode b_M_limit 61 = .ok (.sipush (-1003), 3) := by decide +kernel
theorem d_M_limit_64 : decode b_M_limit 64 = .ok (.ireturn, 1) := by decide +kernel
theorem d_M_limit_65 : decode b_M_limit 65 = .ok (.aload_n 0, 1) := by decide +kernel
theorem d_M_limit_66 : decode b_M_limit 66 = .ok (.getfield 38, 3) := by decide +kernel
theorem d_M_limit_69 : decode b_M_limit 69 = .ok (.iload_n 1, 1) := by decide +kernel
theorem d_M_limit_70 : decode b_M_limit 70 = .ok (.iaload, 1) := by decide +kernel
theorem d_M_limit_71 : decode b_M_limit 71 = .ok (.istore_n 3, 1) := by decide +kernel
theorem d_M_limit_72 : decode b_M_limit 72 = .ok (.aload_n 0, 1) := by decide +kernel
theorem d_M_limit_73 : decode b_M_limit 73 = .ok (.getfield 38, 3) := by decide +kernel
theorem d_M_limit_76 : decode b_M_limit 76 = .ok (.iload_n 1, 1) := by decide +kernel
theorem d_M_limit_77 : decode b_M_limit 77 = .ok (.iload_n 2, 1) := by decide +kernel
theorem d_M_limit_78 : decode b_M_limit 78 = .ok (.iastore, 1) := by decide +kernel
theorem d_M_limit_79 : decode b_M_limit 79 = .ok (.iload_n 3, 1) := by decide +kernel
theorem d_M_limit_80 : decode b_M_limit 80 = .ok (.ireturn, 1) := by decide +kernel
theorem d_M_lengthOf_0 : decode b_M_lengthOf 0 = .ok (.aload_n 0, 1) := by decide +kernel
theorem d_M_lengthOf_1 : decode b_M_lengthOf 1 = .ok (.getfield 32, 3) := by decide +kernel
theorem d_M_lengthOf_4 : decode b_M_lengthOf 4 = .ok (.iload_n 1, 1) := by decide +kernel
theorem d_M_lengthOf_5 : decode b_M_lengthOf 5 = .ok (.iaload, 1) := by decide +kernel
theorem d_M_lengthOf_6 : decode b_M_lengthOf 6 = .ok (.ifCond .le 17, 3) := by decide +kernel
theorem d_M_lengthOf_9 : decode b_M_lengthOf 9 = .ok (.bipush 50, 2) := by decide +kernel
theorem d_M_lengthOf_11 : decode b_M_lengthOf 11 = .ok (.aload_n 0, 1) := by decide +kernel
theorem d_M_lengthOf_12 : decode b_M_lengthOf 12 = .ok (.getfield 32, 3) := by decide +kernel
theorem d_M_lengthOf_15 : decode b_M_lengthOf 15 = .ok (.iload_n 1, 1) := by decide +kernel
theorem d_M_lengthOf_16 : decode b_M_lengthOf 16 = .ok (.iaload, 1) := by decide +kernel
theorem d_M_lengthOf_17 : decode b_M_lengthOf 17 = .ok (.iconst 1, 1) := by decide +kernel
theorem d_M_lengthOf_18 : decode b_M_lengthOf 18 = .ok (.isub, 1) := by decide +kernel
theorem d_M_lengthOf_19 : decode b_M_lengthOf 19 = .ok (.imul, 1) := by decide +kernel
theorem d_M_lengthOf_20 : decode b_M_lengthOf 20 = .ok (.goto 4, 3) := by decide +kernel
theorem d_M_lengthOf_23 : decode b_M_lengthOf 23 = .ok (.iconst 0, 1) := by decide +kernel
theorem d_M_lengthOf_24 : decode b_M_lengthOf 24 = .ok (.ireturn, 1) := by decide +kernel
theorem d_M_sizeFor_0 : decode b_M_sizeFor 0 = .ok (.iload_n 2, 1) := by decide +kernel
theorem d_M_sizeFor_1 : decode b_M_sizeFor 1 = .ok (.istore_n 3, 1) := by decide +kernel
theorem d_M_sizeFor_2 : decode b_M_sizeFor 2 = .ok (.iload_n 3, 1) := by decide +kernel
theorem d_M_sizeFor_3 : decode b_M_sizeFor 3 = .ok (.bipush 6, 2) := by decide +kernel
theorem d_M_sizeFor_5 : decode b_M_sizeFor 5 = .ok (.if_icmp .ge 19, 3) := by decide +kernel
theorem d_M_sizeFor_8 : decode b_M_sizeFor 8 = .ok (.aload_n 0, 1) := by decide +kernel
theorem d_M_sizeFor_9 : decode b_M_sizeFor 9 = .ok (.getfield 38, 3) := by decide +kernel
theorem d_M_sizeFor_12 : decode b_M_sizeFor 12 = .ok (.iload_n 3, 1) := by decide +kernel
theorem d_M_sizeFor_13 : decode b_M_sizeFor 13 = .ok (.iaload, 1) := by decide +kernel
theorem d_M_sizeFor_14 : decode b_M_sizeFor 14 = .ok (.iload_n 1, 1) := by decide +kernel
theorem d_M_sizeFor_15 : decode b_M_sizeFor 15 = .ok (.if_icmp .ge 9, 3) := by decide +kernel
theorem d_M_sizeFor_18 : decode b_M_sizeFor 18 = .ok (.iinc 3 1, 3) := by decide +kernel
theorem d_M_sizeFor_21 : decode b_M_sizeFor 21 = .ok (.goto (-19), 3) := by decide +kernel
theorem d_M_sizeFor_24 : decode b_M_sizeFor 24 = .ok (.iload_n 3, 1) := by decide +kernel
theorem d_M_sizeFor_25 : decode b_M_sizeFor 25 = .ok (.bipush 6, 2) := by decide +kernel
theorem d_M_sizeFor_27 : decode b_M_sizeFor 27 = .ok (.if_icmp .ne 7, 3) := by decide +kernel
theorem d_M_sizeFor_30 : decode b_M_sizeFor 30 = .ok (.iconst (-1), 1) := by decide +kernel
theorem d_M_sizeFor_31 : decode b_M_sizeFor 31 = .ok (.goto 4, 3) := by decide +kernel
theorem d_M_sizeFor_34 : decode b_M_sizeFor 34 = .ok (.iload_n 3, 1) := by decide +kernel
theorem d_M_sizeFor_35 : decode b_M_sizeFor 35 = .ok (.ireturn, 1) := by decide +kernel
theorem d_M_work_0 : decode b_M_work 0 = .ok (.iconst 0, 1) := by decide +kernel
theorem d_M_work_1 : decode b_M_work 1 = .ok (.istore_n 1, 1) := by decide +kernel
theorem d_M_work_2 : decode b_M_work 2 = .ok (.iload_n 1, 1) := by decide +kernel
theorem d_M_work_3 : decode b_M_work 3 = .ok (.aload_n 0, 1) := by decide +kernel
theorem d_M_work_4 : decode b_M_work 4 = .ok (.getfield 71, 3) := by decide +kernel
theorem d_M_work_7 : decode b_M_work 7 = .ok (.if_icmp .ge 28, 3) := by decide +kernel
theorem d_M_work_10 : decode b_M_work 10 = .ok (.aload_n 0, 1) := by decide +kernel
theorem d_M_work_11 : decode b_M_work 11 = .ok (.getfield 47, 3) := by decide +kernel
theorem d_M_work_14 : decode b_M_work 14 = .ok (.iload_n 1, 1) := by decide +kernel
theorem d_M_work_15 : decode b_M_work 15 = .ok (.aload_n 0, 1) := by decide +kernel
theorem d_M_work_16 : decode b_M_work 16 = .ok (.getfield 22, 3) := by decide +kernel
theorem d_M_work_19 : decode b_M_work 19 = .ok (.iload_n 1, 1) := by decide +kernel
theorem d_M_work_20 : decode b_M_work 20 = .ok (.iaload, 1) := by decide +kernel
theorem d_M_work_21 : decode b_M_work 21 = .ok (.iastore, 1) := by decide +kernel
theorem d_M_work_22 : decode b_M_work 22 = .ok (.aload_n 0, 1) := by decide +kernel
theorem d_M_work_23 : decode b_M_work 23 = .ok (.getfield 50, 3) := by decide +kernel
theorem d_M_work_26 : decode b_M_work 26 = .ok (.iload_n 1, 1) := by decide +kernel
theorem d_M_work_27 : decode b_M_work 27 = .ok (.iconst 0, 1) := by decide +kernel
theorem d_M_work_28 : decode b_M_work 28 = .ok (.iastore, 1) := by decide +kernel
theorem d_M_work_29 : decode b_M_work 29 = .ok (.iinc 1 1, 3) := by decide +kernel
theorem d_M_work_32 : decode b_M_work 32 = .ok (.goto (-30), 3) := by decide +kernel
theorem d_M_work_35 : decode b_M_work 35 = .ok (.aload_n 0, 1) := by decide +kernel
theorem d_M_work_36 : decode b_M_work 36 = .ok (.getfield 71, 3) := by decide +kernel
theorem d_M_work_39 : decode b_M_work 39 = .ok (.iconst 1, 1) := by decide +kernel
theorem d_M_work_40 : decode b_M_work 40 = .ok (.isub, 1) := by decide +kernel
theorem d_M_work_41 : decode b_M_work 41 = .ok (.istore_n 1, 1) := by decide +kernel
theorem d_M_work_42 : decode b_M_work 42 = .ok (.iload_n 1, 1) := by decide +kernel
theorem d_M_work_43 : decode b_M_work 43 = .ok (.ifCond .lt 128, 3) := by decide +kernel
theorem d_M_work_46 : decode b_M_work 46 = .ok (.aload_n 0, 1) := by decide +kernel
theorem d_M_work_47 : decode b_M_work 47 = .ok (.getfield 16, 3) := by decide +kernel
theorem d_M_work_50 : decode b_M_work 50 = .ok (.iload_n 1, 1) := by decide +kernel
theorem d_M_work_51 : decode b_M_work 51 = .ok (.iaload, 1) := by decide +kernel
theorem d_M_work_52 : decode b_M_work 52 = .ok (.istore_n 2, 1) := by decide +kernel
theorem d_M_work_53 : decode b_M_work 53 = .ok (.iload_n 2, 1) := by decide +kernel
theorem d_M_work_54 : decode b_M_work 54 = .ok (.ifCond .lt 111, 3) := by decide +kernel
theorem d_M_work_57 : decode b_M_work 57 = .ok (.aload_n 0, 1) := by decide +kernel
theorem d_M_work_58 : decode b_M_work 58 = .ok (.getfield 50, 3) := by decide +kernel
theorem d_M_work_61 : decode b_M_work 61 = .ok (.iload_n 1, 1) := by decide +kernel
theorem d_M_work_62 : decode b_M_work 62 = .ok (.aload_n 0, 1) := by decide +kernel
theorem d_M_work_63 : decode b_M_work 63 = .ok (.getfield 50, 3) := by decide +kernel
theorem d_M_work_66 : decode b_M_work 66 = .ok (.iload_n 1, 1) := by decide +kernel
theorem d_M_work_67 : decode b_M_work 67 = .ok (.iaload, 1) := by decide +kernel
theorem d_M_work_68 : decode b_M_work 68 = .ok (.ifCond .ge 7, 3) := by decide +kernel
theorem d_M_work_71 : decode b_M_work 71 = .ok (.iconst (-1), 1) := by decide +kernel
theorem d_M_work_72 : decode b_M_work 72 = .ok (.goto 19, 3) := by decide +kernel
theorem d_M_work_75 : decode b_M_work 75 = .ok (.aload_n 0, 1) := by decide +kernel
theorem d_M_work_76 : decode b_M_work 76 = .ok (.aload_n 0, 1) := by decide +kernel
theorem d_M_work_77 : decode b_M_work 77 = .ok (.getfield 47, 3) := by decide +kernel
theorem d_M_work_80 : decode b_M_work 80 = .ok (.iload_n 1, 1) := by decide +kernel
theorem d_M_work_81 : decode b_M_work 81 = .ok (.iaload, 1) := by decide +kernel
theorem d_M_work_82 : decode b_M_work 82 = .ok (.aload_n 0, 1) := by decide +kernel
theorem d_M_work_83 : decode b_M_work 83 = .ok (.getfield 50, 3) := by decide +kernel
theorem d_M_work_86 : decode b_M_work 86 = .ok (.iload_n 1, 1) := by decide +kernel
theorem d_M_work_87 : decode b_M_work 87 = .ok (.iaload, 1) := by decide +kernel
theorem d_M_work_88 : decode b_M_work 88 = .ok (.invokevirtual 119, 3) := by decide +kernel
theorem d_M_work_91 : decode b_M_work 91 = .ok (.iastore, 1) := by decide +kernel
theorem d_M_work_92 : decode b_M_work 92 = .ok (.aload_n 0, 1) := by decide +kernel
theorem d_M_work_93 : decode b_M_work 93 = .ok (.getfield 47, 3) := by decide +kernel
theorem d_M_work_96 : decode b_M_work 96 = .ok (.iload_n 2, 1) := by decide +kernel
theorem d_M_work_97 : decode b_M_work 97 = .ok (.dup2, 1) := by decide +kernel
theorem d_M_work_98 : decode b_M_work 98 = .ok (.iaload, 1) := by decide +kernel
theorem d_M_work_99 : decode b_M_work 99 = .ok (.aload_n 0, 1) := by decide +kernel
theorem d_M_work_100 : decode b_M_work 100 = .ok (.getfield 47, 3) := by decide +kernel
theorem d_M_work_103 : decode b_M_work 103 = .ok (.iload_n 1, 1) := by decide +kernel
theorem d_M_work_104 : decode b_M_work 104 = .ok (.iaload, 1) := by decide +kernel
theorem d_M_work_105 : decode b_M_work 105 = .ok (.iadd, 1) := by decide +kernel
theorem d_M_work_106 : decode b_M_work 106 = .ok (.iastore, 1) := by decide +kernel
theorem d_M_work_107 : decode b_M_work 107 = .ok (.aload_n 0, 1) := by decide +kernel
theorem d_M_work_108 : decode b_M_work 108 = .ok (.getfield 50, 3) := by decide +kernel
theorem d_M_work_111 : decode b_M_work 111 = .ok (.iload_n 2, 1) := by decide +kernel
theorem d_M_work_112 : decode b_M_work 112 = .ok (.aload_n 0, 1) := by decide +kernel
theorem d_M_work_113 : decode b_M_work 113 = .ok (.getfield 50, 3) := by decide +kernel
theorem d_M_work_116 : decode b_M_work 116 = .ok (.iload_n 2, 1) := by decide +kernel
theorem d_M_work_117 : decode b_M_work 117 = .ok (.iaload, 1) := by decide +kernel
theorem d_M_work_118 : decode b_M_work 118 = .ok (.ifCond .lt 12, 3) := by decide +kernel
theorem d_M_work_121 : decode b_M_work 121 = .ok (.aload_n 0, 1) := by decide +kernel
theorem d_M_work_122 : decode b_M_work 122 = .ok (.getfield 50, 3) := by decide +kernel
theorem d_M_work_125 : decode b_M_work 125 = .ok (.iload_n 1, 1) := by decide +kernel
theorem d_M_work_126 : decode b_M_work 126 = .ok (.iaload, 1) := by decide +kernel
theorem d_M_work_127 : decode b_M_work 127 = .ok (.ifCond .ge 7, 3) := by decide +kernel
theorem d_M_work_130 : decode b_M_work 130 = .ok (.iconst (-1), 1) := by decide +kernel
theorem d_M_work_131 : decode b_M_work 131 = .ok (.goto 33, 3) := by decide +kernel
theorem d_M_work_134 : decode b_M_work 134 = .ok (.aload_n 0, 1) := by decide +kernel
theorem d_M_work_135 : decode b_M_work 135 = .ok (.getfield 50, 3) := by decide +kernel
theorem d_M_work_138 : decode b_M_work 138 = .ok (.iload_n 1, 1) := by decide +kernel
theorem d_M_work_139 : decode b_M_work 139 = .ok (.iaload, 1) := by decide +kernel
theorem d_M_work_140 : decode b_M_work 140 = .ok (.aload_n 0, 1) := by decide +kernel
theorem d_M_work_141 : decode b_M_work 141 = .ok (.getfield 50, 3) := by decide +kernel
theorem d_M_work_144 : decode b_M_work 144 = .ok (.iload_n 2, 1) := by decide +kernel
theorem d_M_work_145 : decode b_M_work 145 = .ok (.iaload, 1) := by decide +kernel
theorem d_M_work_146 : decode b_M_work 146 = .ok (.if_icmp .le 12, 3) := by decide +kernel
theorem d_M_work_149 : decode b_M_work 149 = .ok (.aload_n 0, 1) := by decide +kernel
theorem d_M_work_150 : decode b_M_work 150 = .ok (.getfield 50, 3) := by decide +kernel
theorem d_M_work_153 : decode b_M_work 153 = .ok (.iload_n 1, 1) := by decide +kernel
theorem d_M_work_154 : decode b_M_work 154 = .ok (.iaload, 1) := by decide +kernel
theorem d_M_work_155 : decode b_M_work 155 = .ok (.goto 9, 3) := by decide +kernel
theorem d_M_work_158 : decode b_M_work 158 = .ok (.aload_n 0, 1) := by decide +kernel
theorem d_M_work_159 : decode b_M_work 159 = .ok (.getfield 50, 3) := by decide +kernel
theorem d_M_work_162 : decode b_M_work 162 = .ok (.iload_n 2, 1) := by decide +kernel
theorem d_M_work_163 : decode b_M_work 163 = .ok (.iaload, 1) := by decide +kernel
theorem d_M_work_164 : decode b_M_work 164 = .ok (.iastore, 1) := by decide +kernel
theorem d_M_work_165 : decode b_M_work 165 = .ok (.iinc 1 (-1), 3) := by decide +kernel
theorem d_M_work_168 : decode b_M_work 168 = .ok (.goto (-126), 3) := by decide +kernel
theorem d_M_work_171 : decode b_M_work 171 = .ok (.iconst 0, 1) := by decide +kernel
theorem d_M_work_172 : decode b_M_work 172 = .ok (.istore_n 1, 1) := by decide +kernel
theorem d_M_work_173 : decode b_M_work 173 = .ok (.iload_n 1, 1) := by decide +kernel
theorem d_M_work_174 : decode b_M_work 174 = .ok (.aload_n 0, 1) := by decide +kernel
theorem d_M_work_175 : decode b_M_work 175 = .ok (.getfield 71, 3) := by decide +kernel
theorem d_M_work_178 : decode b_M_work 178 = .ok (.if_icmp .ge 76, 3) := by decide +kernel
theorem d_M_work_181 : decode b_M_work 181 = .ok (.aload_n 0, 1) := by decide +kernel
theorem d_M_work_182 : decode b_M_work 182 = .ok (.getfield 16, 3) := by decide +kernel
theorem d_M_work_185 : decode b_M_work 185 = .ok (.iload_n 1, 1) := by decide +kernel
theorem d_M_work_186 : decode b_M_work 186 = .ok (.iaload, 1) := by decide +kernel
theorem d_M_work_187 : decode b_M_work 187 = .ok (.ifCond .lt 16, 3) := by decide +kernel
theorem d_M_work_190 : decode b_M_work 190 = .ok (.aload_n 0, 1) := by decide +kernel
theorem d_M_work_191 : decode b_M_work 191 = .ok (.getfield 19, 3) := by decide +kernel
theorem d_M_work_194 : decode b_M_work 194 = .ok (.iload_n 1, 1) := by decide +kernel
theorem d_M_work_195 : decode b_M_work 195 = .ok (.iaload, 1) := by decide +kernel
theorem d_M_work_196 : decode b_M_work 196 = .ok (.ifCond .ne 7, 3) := by decide +kernel
theorem d_M_work_199 : decode b_M_work 199 = .ok (.iconst 1, 1) := by decide +kernel
theorem d_M_work_200 : decode b_M_work 200 = .ok (.goto 4, 3) := by decide +kernel
theorem d_M_work_203 : decode b_M_work 203 = .ok (.iconst 0, 1) := by decide +kernel
theorem d_M_work_204 : decode b_M_work 204 = .ok (.istore_n 2, 1) := by decide +kernel
theorem d_M_work_205 : decode b_M_work 205 = .ok (.aload_n 0, 1) := by decide +kernel
theorem d_M_work_206 : decode b_M_work 206 = .ok (.getfield 53, 3) := by decide +kernel
theorem d_M_work_209 : decode b_M_work 209 = .ok (.iload_n 1, 1) := by decide +kernel
theorem d_M_work_210 : decode b_M_work 210 = .ok (.iload_n 2, 1) := by decide +kernel
theorem d_M_work_211 : decode b_M_work 211 = .ok (.ifCond .eq 35, 3) := by decide +kernel
theorem d_M_work_214 : decode b_M_work 214 = .ok (.aload_n 0, 1) := by decide +kernel
theorem d_M_work_215 : decode b_M_work 215 = .ok (.getfield 53, 3) := by decide +kernel
theorem d_M_work_218 : decode b_M_work 218 = .ok (.aload_n 0, 1) := by decide +kernel
theorem d_M_work_219 : decode b_M_work 219 = .ok (.getfield 16, 3) := by decide +kernel
theorem d_M_work_222 : decode b_M_work 222 = .ok (.iload_n 1, 1) := by decide +kernel
theorem d_M_work_223 : decode b_M_work 223 = .ok (.iaload, 1) := by decide +kernel
theorem d_M_work_224 : decode b_M_work 224 = .ok (.iaload, 1) := by decide +kernel
theorem d_M_work_225 : decode b_M_work 225 = .ok (.iconst 5, 1) := by decide +kernel
theorem d_M_work_226 : decode b_M_work 226 = .ok (.aload_n 0, 1) := by decide +kernel
theorem d_M_work_227 : decode b_M_work 227 = .ok (.getfield 35, 3) := by decide +kernel
theorem d_M_work_230 : decode b_M_work 230 = .ok (.iconst 0, 1) := by decide +kernel
theorem d_M_work_231 : decode b_M_work 231 = .ok (.iaload, 1) := by decide +kernel
theorem d_M_work_232 : decode b_M_work 232 = .ok (.imul, 1) := by decide +kernel
theorem d_M_work_233 : decode b_M_work 233 = .ok (.aload_n 0, 1) := by decide +kernel
theorem d_M_work_234 : decode b_M_work 234 = .ok (.getfield 32, 3) := by decide +kernel
theorem d_M_work_237 : decode b_M_work 237 = .ok (.iload_n 1, 1) := by decide +kernel
theorem d_M_work_238 : decode b_M_work 238 = .ok (.iaload, 1) := by decide +kernel
theorem d_M_work_239 : decode b_M_work 239 = .ok (.iconst 1, 1) := by decide +kernel
theorem d_M_work_240 : decode b_M_work 240 = .ok (.isub, 1) := by decide +kernel
theorem d_M_work_241 : decode b_M_work 241 = .ok (.imul, 1) := by decide +kernel
theorem d_M_work_242 : decode b_M_work 242 = .ok (.iadd, 1) := by decide +kernel
theorem d_M_work_243 : decode b_M_work 243 = .ok (.goto 4, 3) := by decide +kernel
theorem d_M_work_246 : decode b_M_work 246 = .ok (.iconst 0, 1) := by decide +kernel
theorem d_M_work_247 : decode b_M_work 247 = .ok (.iastore, 1) := by decide +kernel
theorem d_M_work_248 : decode b_M_work 248 = .ok (.iinc 1 1, 3) := by decide +kernel
theorem d_M_work_251 : decode b_M_work 251 = .ok (.goto (-78), 3) := by decide +kernel
theorem d_M_work_254 : decode b_M_work 254 = .ok (.return_, 1) := by decide +kernel
theorem d_M_turnsOf_0 : decode b_M_turnsOf 0 = .ok (.iconst 0, 1) := by decide +kernel
theorem d_M_turnsOf_1 : decode b_M_turnsOf 1 = .ok (.istore_n 2, 1) := by decide +kernel
theorem d_M_turnsOf_2 : decode b_M_turnsOf 2 = .ok (.iconst 2, 1) := by decide +kernel
theorem d_M_turnsOf_3 : decode b_M_turnsOf 3 = .ok (.istore_n 3, 1) := by decide +kernel
theorem d_M_turnsOf_4 : decode b_M_turnsOf 4 = .ok (.iload_n 3, 1) := by decide +kernel
theorem d_M_turnsOf_5 : decode b_M_turnsOf 5 = .ok (.aload_n 0, 1) := by decide +kernel
theorem d_M_turnsOf_6 : decode b_M_turnsOf 6 = .ok (.getfield 32, 3) := by decide +kernel
theorem d_M_turnsOf_9 : decode b_M_turnsOf 9 = .ok (.iload_n 1, 1) := by decide +kernel
theorem d_M_turnsOf_10 : decode b_M_turnsOf 10 = .ok (.iaload, 1) := by decide +kernel
theorem d_M_turnsOf_11 : decode b_M_turnsOf 11 = .ok (.if_icmp .ge 84, 3) := by decide +kernel
theorem d_M_turnsOf_14 : decode b_M_turnsOf 14 = .ok (.aload_n 0, 1) := by decide +kernel
theorem d_M_turnsOf_15 : decode b_M_turnsOf 15 = .ok (.getfield 29, 3) := by decide +kernel
theorem d_M_turnsOf_18 : decode b_M_turnsOf 18 = .ok (.sipush 144, 3) := by decide +kernel
theorem d_M_turnsOf_21 : decode b_M_turnsOf 21 = .ok (.iload_n 1, 1) := by decide +kernel
theorem d_M_turnsOf_22 : decode b_M_turnsOf 22 = .ok (.imul, 1) := by decide +kernel
theorem d_M_turnsOf_23 : decode b_M_turnsOf 23 = .ok (.iload_n 3, 1) := by decide +kernel
theorem d_M_turnsOf_24 : decode b_M_turnsOf 24 = .ok (.iadd, 1) := by decide +kernel
theorem d_M_turnsOf_25 : decode b_M_turnsOf 25 = .ok (.iconst 1, 1) := by decide +kernel
theorem d_M_turnsOf_26 : decode b_M_turnsOf 26 = .ok (.isub, 1) := by decide +kernel
theorem d_M_turnsOf_27 : decode b_M_turnsOf 27 = .ok (.iaload, 1) := by decide +kernel
theorem d_M_turnsOf_28 : decode b_M_turnsOf 28 = .ok (.aload_n 0, 1) := by decide +kernel
theorem d_M_turnsOf_29 : decode b_M_turnsOf 29 = .ok (.getfield 29, 3) := by decide +kernel
theorem d_M_turnsOf_32 : decode b_M_turnsOf 32 = .ok (.sipush 144, 3) := by decide +kernel
theorem d_M_turnsOf_35 : decode b_M_turnsOf 35 = .ok (.iload_n 1, 1) := by decide +kernel
theorem d_M_turnsOf_36 : decode b_M_turnsOf 36 = .ok (.imul, 1) := by decide +kernel
theorem d_M_turnsOf_37 : decode b_M_turnsOf 37 = .ok (.iload_n 3, 1) := by decide +kernel
theorem d_M_turnsOf_38 : decode b_M_turnsOf 38 = .ok (.iadd, 1) := by decide +kernel
theorem d_M_turnsOf_39 : decode b_M_turnsOf 39 = .ok (.iconst 2, 1) := by decide +kernel
theorem d_M_turnsOf_40 : decode b_M_turnsOf 40 = .ok (.isub, 1) := by decide +kernel
theorem d_M_turnsOf_41 : decode b_M_turnsOf 41 = .ok (.iaload, 1) := by decide +kernel
theorem d_M_turnsOf_42 : decode b_M_turnsOf 42 = .ok (.isub, 1) := by decide +kernel
theorem d_M_turnsOf_43 : decode b_M_turnsOf 43 = .ok (.istore 4, 2) := by decide +kernel
theorem d_M_turnsOf_45 : decode b_M_turnsOf 45 = .ok (.aload_n 0, 1) := by decide +kernel
theorem d_M_turnsOf_46 : decode b_M_turnsOf 46 = .ok (.getfield 29, 3) := by decide +kernel
theorem d_M_turnsOf_49 : decode b_M_turnsOf 49 = .ok (.sipush 144, 3) := by decide +kernel
theorem d_M_turnsOf_52 : decode b_M_turnsOf 52 = .ok (.iload_n 1, 1) := by decide +kernel
theorem d_M_turnsOf_53 : decode b_M_turnsOf 53 = .ok (.imul, 1) := by decide +kernel
theorem d_M_turnsOf_54 : decode b_M_turnsOf 54 = .ok (.iload_n 3, 1) := by decide +kernel
theorem d_M_turnsOf_55 : decode b_M_turnsOf 55 = .ok (.iadd, 1) := by decide +kernel
theorem d_M_turnsOf_56 : decode b_M_turnsOf 56 = .ok (.iaload, 1) := by decide +kernel
theorem d_M_turnsOf_57 : decode b_M_turnsOf 57 = .ok (.aload_n 0, 1) := by decide +kernel
theorem d_M_turnsOf_58 : decode b_M_turnsOf 58 = .ok (.getfield 29, 3) := by decide +kernel
theorem d_M_turnsOf_61 : decode b_M_turnsOf 61 = .ok (.sipush 144, 3) := by decide +kernel
theorem d_M_turnsOf_64 : decode b_M_turnsOf 64 = .ok (.iload_n 1, 1) := by decide +kernel
theorem d_M_turnsOf_65 : decode b_M_turnsOf 65 = .ok (.imul, 1) := by decide +kernel
theorem d_M_turnsOf_66 : decode b_M_turnsOf 66 = .ok (.iload_n 3, 1) := by decide +kernel
theorem d_M_turnsOf_67 : decode b_M_turnsOf 67 = .ok (.iadd, 1) := by decide +kernel
theorem d_M_turnsOf_68 : decode b_M_turnsOf 68 = .ok (.iconst 1, 1) := by decide +kernel
theorem d_M_turnsOf_69 : decode b_M_turnsOf 69 = .ok (.isub, 1) := by decide +kernel
theorem d_M_turnsOf_70 : decode b_M_turnsOf 70 = .ok (.iaload, 1) := by decide +kernel
theorem d_M_turnsOf_71 : decode b_M_turnsOf 71 = .ok (.isub, 1) := by decide +kernel
theorem d_M_turnsOf_72 : decode b_M_turnsOf 72 = .ok (.istore 5, 2) := by decide +kernel
theorem d_M_turnsOf_74 : decode b_M_turnsOf 74 = .ok (.iload_n 2, 1) := by decide +kernel
theorem d_M_turnsOf_75 : decode b_M_turnsOf 75 = .ok (.iload 4, 2) := by decide +kernel
theorem d_M_turnsOf_77 : decode b_M_turnsOf 77 = .ok (.iload 5, 2) := by decide +kernel
theorem d_M_turnsOf_79 : decode b_M_turnsOf 79 = .ok (.if_icmp .ne 7, 3) := by decide +kernel
theorem d_M_turnsOf_82 : decode b_M_turnsOf 82 = .ok (.iconst 0, 1) := by decide +kernel
theorem d_M_turnsOf_83 : decode b_M_turnsOf 83 = .ok (.goto 4, 3) := by decide +kernel
theorem d_M_turnsOf_86 : decode b_M_turnsOf 86 = .ok (.iconst 1, 1) := by decide +kernel
theorem d_M_turnsOf_87 : decode b_M_turnsOf 87 = .ok (.iadd, 1) := by decide +kernel
theorem d_M_turnsOf_88 : decode b_M_turnsOf 88 = .ok (.istore_n 2, 1) := by decide +kernel
theorem d_M_turnsOf_89 : decode b_M_turnsOf 89 = .ok (.iinc 3 1, 3) := by decide +kernel
theorem d_M_turnsOf_92 : decode b_M_turnsOf 92 = .ok (.goto (-88), 3) := by decide +kernel
theorem d_M_turnsOf_95 : decode b_M_turnsOf 95 = .ok (.iload_n 2, 1) := by decide +kernel
theorem d_M_turnsOf_96 : decode b_M_turnsOf 96 = .ok (.ireturn, 1) := by decide +kernel
theorem d_M_isTrap_0 : decode b_M_isTrap 0 = .ok (.aload_n 0, 1) := by decide +kernel
theorem d_M_isTrap_1 : decode b_M_isTrap 1 = .ok (.getfield 19, 3) := by decide +kernel
theorem d_M_isTrap_4 : decode b_M_isTrap 4 = .ok (.iload_n 1, 1) := by decide +kernel
theorem d_M_isTrap_5 : decode b_M_isTrap 5 = .ok (.iaload, 1) := by decide +kernel
theorem d_M_isTrap_6 : decode b_M_isTrap 6 = .ok (.ifCond .ne 16, 3) := by decide +kernel
theorem d_M_isTrap_9 : decode b_M_isTrap 9 = .ok (.aload_n 0, 1) := by decide +kernel
theorem d_M_isTrap_10 : decode b_M_isTrap 10 = .ok (.getfield 22, 3) := by decide +kernel
theorem d_M_isTrap_13 : decode b_M_isTrap 13 = .ok (.iload_n 1, 1) := by decide +kernel
theorem d_M_isTrap_14 : decode b_M_isTrap 14 = .ok (.iaload, 1) := by decide +kernel
theorem d_M_isTrap_15 : decode b_M_isTrap 15 = .ok (.ifCond .le 7, 3) := by decide +kernel
theorem d_M_isTrap_18 : decode b_M_isTrap 18 = .ok (.iconst 1, 1) := by decide +kernel
theorem d_M_isTrap_19 : decode b_M_isTrap 19 = .ok (.goto 4, 3) := by decide +kernel
theorem d_M_isTrap_22 : decode b_M_isTrap 22 = .ok (.iconst 0, 1) := by decide +kernel
theorem d_M_isTrap_23 : decode b_M_isTrap 23 = .ok (.ireturn, 1) := by decide +kernel
theorem d_M_isSafe_0 : decode b_M_isSafe 0 = .ok (.aload_n 0, 1) := by decide +kernel
theorem d_M_isSafe_1 : decode b_M_isSafe 1 = .ok (.iload_n 1, 1) := by decide +kernel
theorem d_M_isSafe_2 : decode b_M_isSafe 2 = .ok (.invokevirtual 122, 3) := by decide +kernel
theorem d_M_isSafe_5 : decode b_M_isSafe 5 = .ok (.ifCond .ne 5, 3) := by decide +kernel
theorem d_M_isSafe_8 : decode b_M_isSafe 8 = .ok (.iconst 0, 1) := by decide +kernel
theorem d_M_isSafe_9 : decode b_M_isSafe 9 = .ok (.ireturn, 1) := by decide +kernel
theorem d_M_isSafe_10 : decode b_M_isSafe 10 = .ok (.aload_n 0, 1) := by decide +kernel
theorem d_M_isSafe_11 : decode b_M_isSafe 11 = .ok (.getfield 16, 3) := by decide +kernel
theorem d_M_isSafe_14 : decode b_M_isSafe 14 = .ok (.iload_n 1, 1) := by decide +kernel
theorem d_M_isSafe_15 : decode b_M_isSafe 15 = .ok (.iaload, 1) := by decide +kernel
theorem d_M_isSafe_16 : decode b_M_isSafe 16 = .ok (.ifCond .ge 5, 3) := by decide +kernel
theorem d_M_isSafe_19 : decode b_M_isSafe 19 = .ok (.iconst 1, 1) := by decide +kernel
theorem d_M_isSafe_20 : decode b_M_isSafe 20 = .ok (.ireturn, 1) := by decide +kernel
theorem d_M_isSafe_21 : decode b_M_isSafe 21 = .ok (.iconst 0, 1) := by decide +kernel
theorem d_M_isSafe_22 : decode b_M_isSafe 22 = .ok (.istore_n 2, 1) := by decide +kernel
theorem d_M_isSafe_23 : decode b_M_isSafe 23 = .ok (.iload_n 1, 1) := by decide +kernel
theorem d_M_isSafe_24 : decode b_M_isSafe 24 = .ok (.istore_n 3, 1) := by decide +kernel
theorem d_M_isSafe_25 : decode b_M_isSafe 25 = .ok (.aload_n 0, 1) := by decide +kernel
theorem d_M_isSafe_26 : decode b_M_isSafe 26 = .ok (.getfield 25, 3) := by decide +kernel
theorem d_M_isSafe_29 : decode b_M_isSafe 29 = .ok (.iload_n 3, 1) := by decide +kernel
theorem d_M_isSafe_30 : decode b_M_isSafe 30 = .ok (.baload, 1) := by decide +kernel
theorem d_M_isSafe_31 : decode b_M_isSafe 31 = .ok (.ifCond .ne 21, 3) := by decide +kernel
theorem d_M_isSafe_34 : decode b_M_isSafe 34 = .ok (.iload_n 2, 1) := by decide +kernel
theorem d_M_isSafe_35 : decode b_M_isSafe 35 = .ok (.aload_n 0, 1) := by decide +kernel
theorem d_M_isSafe_36 : decode b_M_isSafe 36 = .ok (.iload_n 3, 1) := by decide +kernel
theorem d_M_isSafe_37 : decode b_M_isSafe 37 = .ok (.invokevirtual 125, 3) := by decide +kernel
theorem d_M_isSafe_40 : decode b_M_isSafe 40 = .ok (.iadd, 1) := by decide +kernel
theorem d_M_isSafe_41 : decode b_M_isSafe 41 = .ok (.istore_n 2, 1) := by decide +kernel
theorem d_M_isSafe_42 : decode b_M_isSafe 42 = .ok (.aload_n 0, 1) := by decide +kernel
theorem d_M_isSafe_43 : decode b_M_isSafe 43 = .ok (.getfield 16, 3) := by decide +kernel
theorem d_M_isSafe_46 : decode b_M_isSafe 46 = .ok (.iload_n 3, 1) := by decide +kernel
theorem d_M_isSafe_47 : decode b_M_isSafe 47 = .ok (.iaload, 1) := by decide +kernel
theorem d_M_isSafe_48 : decode b_M_isSafe 48 = .ok (.istore_n 3, 1) := by decide +kernel
theorem d_M_isSafe_49 : decode b_M_isSafe 49 = .ok (.goto (-24), 3) := by decide +kernel
theorem d_M_isSafe_52 : decode b_M_isSafe 52 = .ok (.aload_n 0, 1) := by decide +kernel
theorem d_M_isSafe_53 : decode b_M_isSafe 53 = .ok (.getfield 50, 3) := by decide +kernel
theorem d_M_isSafe_56 : decode b_M_isSafe 56 = .ok (.iload_n 1, 1) := by decide +kernel
theorem d_M_isSafe_57 : decode b_M_isSafe 57 = .ok (.iaload, 1) := by decide +kernel
theorem d_M_isSafe_58 : decode b_M_isSafe 58 = .ok (.ifCond .lt 26, 3) := by decide +kernel
theorem d_M_isSafe_61 : decode b_M_isSafe 61 = .ok (.iload_n 2, 1) := by decide +kernel
theorem d_M_isSafe_62 : decode b_M_isSafe 62 = .ok (.aload_n 0, 1) := by decide +kernel
theorem d_M_isSafe_63 : decode b_M_isSafe 63 = .ok (.getfield 35, 3) := by decide +kernel
theorem d_M_isSafe_66 : decode b_M_isSafe 66 = .ok (.iconst 2, 1) := by decide +kernel
theorem d_M_isSafe_67 : decode b_M_isSafe 67 = .ok (.iaload, 1) := by decide +kernel
theorem d_M_isSafe_68 : decode b_M_isSafe 68 = .ok (.aload_n 0, 1) := by decide +kernel
theorem d_M_isSafe_69 : decode b_M_isSafe 69 = .ok (.getfield 50, 3) := by decide +kernel
theorem d_M_isSafe_72 : decode b_M_isSafe 72 = .ok (.iload_n 1, 1) := by decide +kernel
theorem d_M_isSafe_73 : decode b_M_isSafe 73 = .ok (.iaload, 1) := by decide +kernel
theorem d_M_isSafe_74 : decode b_M_isSafe 74 = .ok (.iconst 1, 1) := by decide +kernel
theorem d_M_isSafe_75 : decode b_M_isSafe 75 = .ok (.iadd, 1) := by decide +kernel
theorem d_M_isSafe_76 : decode b_M_isSafe 76 = .ok (.imul, 1) := by decide +kernel
theorem d_M_isSafe_77 : decode b_M_isSafe 77 = .ok (.if_icmp .gt 7, 3) := by decide +kernel
theorem d_M_isSafe_80 : decode b_M_isSafe 80 = .ok (.iconst 1, 1) := by decide +kernel
theorem d_M_isSafe_81 : decode b_M_isSafe 81 = .ok (.goto 4, 3) := by decide +kernel
theorem d_M_isSafe_84 : decode b_M_isSafe 84 = .ok (.iconst 0, 1) := by decide +kernel
theorem d_M_isSafe_85 : decode b_M_isSafe 85 = .ok (.ireturn, 1) := by decide +kernel
theorem d_M_secondsOf_0 : decode b_M_secondsOf 0 = .ok (.aload_n 0, 1) := by decide +kernel
theorem d_M_secondsOf_1 : decode b_M_secondsOf 1 = .ok (.getfield 19, 3) := by decide +kernel
theorem d_M_secondsOf_4 : decode b_M_secondsOf 4 = .ok (.iload_n 1, 1) := by decide +kernel
theorem d_M_secondsOf_5 : decode b_M_secondsOf 5 = .ok (.iaload, 1) := by decide +kernel
theorem d_M_secondsOf_6 : decode b_M_secondsOf 6 = .ok (.ifCond .eq 21, 3) := by decide +kernel
theorem d_M_secondsOf_9 : decode b_M_secondsOf 9 = .ok (.aload_n 0, 1) := by decide +kernel
theorem d_M_secondsOf_10 : decode b_M_secondsOf 10 = .ok (.getfield 16, 3) := by decide +kernel
theorem d_M_secondsOf_13 : decode b_M_secondsOf 13 = .ok (.iload_n 1, 1) := by decide +kernel
theorem d_M_secondsOf_14 : decode b_M_secondsOf 14 = .ok (.iaload, 1) := by decide +kernel
theorem d_M_secondsOf_15 : decode b_M_secondsOf 15 = .ok (.ifCond .lt 12, 3) := by decide +kernel
theorem d_M_secondsOf_18 : decode b_M_secondsOf 18 = .ok (.aload_n 0, 1) := by decide +kernel
theorem d_M_secondsOf_19 : decode b_M_secondsOf 19 = .ok (.getfield 22, 3) := by decide +kernel
theorem d_M_secondsOf_22 : decode b_M_secondsOf 22 = .ok (.iload_n 1, 1) := by decide +kernel
theorem d_M_secondsOf_23 : decode b_M_secondsOf 23 = .ok (.iaload, 1) := by decide +kernel
theorem d_M_secondsOf_24 : decode b_M_secondsOf 24 = .ok (.ifCond .ne 5, 3) := by decide +kernel
theorem d_M_secondsOf_27 : decode b_M_secondsOf 27 = .ok (.iconst (-1), 1) := by decide +kernel
theorem d_M_secondsOf_28 : decode b_M_secondsOf 28 = .ok (.ireturn, 1) := by decide +kernel
theorem d_M_secondsOf_29 : decode b_M_secondsOf 29 = .ok (.iconst 0, 1) := by decide +kernel
theorem d_M_secondsOf_30 : decode b_M_secondsOf 30 = .ok (.istore_n 2, 1) := by decide +kernel
theorem d_M_secondsOf_31 : decode b_M_secondsOf 31 = .ok (.iload_n 1, 1) := by decide +kernel
theorem d_M_secondsOf_32 : decode b_M_secondsOf 32 = .ok (.istore_n 3, 1) := by decide +kernel
theorem d_M_secondsOf_33 : decode b_M_secondsOf 33 = .ok (.aload_n 0, 1) := by decide +kernel
theorem d_M_secondsOf_34 : decode b_M_secondsOf 34 = .ok (.getfield 16, 3) := by decide +kernel
theorem d_M_secondsOf_37 : decode b_M_secondsOf 37 = .ok (.iload_n 3, 1) := by decide +kernel
theorem d_M_secondsOf_38 : decode b_M_secondsOf 38 = .ok (.iaload, 1) := by decide +kernel
theorem d_M_secondsOf_39 : decode b_M_secondsOf 39 = .ok (.ifCond .lt 50, 3) := by decide +kernel
theorem d_M_secondsOf_42 : decode b_M_secondsOf 42 = .ok (.aload_n 0, 1) := by decide +kernel
theorem d_M_secondsOf_43 : decode b_M_secondsOf 43 = .ok (.getfield 50, 3) := by decide +kernel
theorem d_M_secondsOf_46 : decode b_M_secondsOf 46 = .ok (.iload_n 3, 1) := by decide +kernel
theorem d_M_secondsOf_47 : decode b_M_secondsOf 47 = .ok (.iaload, 1) := by decide +kernel
theorem d_M_secondsOf_48 : decode b_M_secondsOf 48 = .ok (.ifCond .ge 5, 3) := by decide +kernel
theorem d_M_secondsOf_51 : decode b_M_secondsOf 51 = .ok (.iconst (-1), 1) := by decide +kernel
theorem d_M_secondsOf_52 : decode b_M_secondsOf 52 = .ok (.ireturn, 1) := by decide +kernel
theorem d_M_secondsOf_53 : decode b_M_secondsOf 53 = .ok (.iload_n 2, 1) := by decide +kernel
theorem d_M_secondsOf_54 : decode b_M_secondsOf 54 = .ok (.aload_n 0, 1) := by decide +kernel
theorem d_M_secondsOf_55 : decode b_M_secondsOf 55 = .ok (.iload_n 3, 1) := by decide +kernel
theorem d_M_secondsOf_56 : decode b_M_secondsOf 56 = .ok (.invokevirtual 125, 3) := by decide +kernel
theorem d_M_secondsOf_59 : decode b_M_secondsOf 59 = .ok (.aload_n 0, 1) := by decide +kernel
theorem d_M_secondsOf_60 : decode b_M_secondsOf 60 = .ok (.getfield 50, 3) := by decide +kernel
theorem d_M_secondsOf_63 : decode b_M_secondsOf 63 = .ok (.iload_n 3, 1) := by decide +kernel
theorem d_M_secondsOf_64 : decode b_M_secondsOf 64 = .ok (.iaload, 1) := by decide +kernel
theorem d_M_secondsOf_65 : decode b_M_secondsOf 65 = .ok (.iconst 1, 1) := by decide +kernel
theorem d_M_secondsOf_66 : decode b_M_secondsOf 66 = .ok (.iadd, 1) := by decide +kernel
theorem d_M_secondsOf_67 : decode b_M_secondsOf 67 = .ok (.imul, 1) := by decide +kernel
theorem d_M_secondsOf_68 : decode b_M_secondsOf 68 = .ok (.aload_n 0, 1) := by decide +kernel
theorem d_M_secondsOf_69 : decode b_M_secondsOf 69 = .ok (.getfield 50, 3) := by decide +kernel
theorem d_M_secondsOf_72 : decode b_M_secondsOf 72 = .ok (.iload_n 3, 1) := by decide +kernel
theorem d_M_secondsOf_73 : decode b_M_secondsOf 73 = .ok (.iaload, 1) := by decide +kernel
theorem d_M_secondsOf_74 : decode b_M_secondsOf 74 = .ok (.iconst 1, 1) := by decide +kernel
theorem d_M_secondsOf_75 : decode b_M_secondsOf 75 = .ok (.iadd, 1) := by decide +kernel
theorem d_M_secondsOf_76 : decode b_M_secondsOf 76 = .ok (.imul, 1) := by decide +kernel
theorem d_M_secondsOf_77 : decode b_M_secondsOf 77 = .ok (.iadd, 1) := by decide +kernel
theorem d_M_secondsOf_78 : decode b_M_secondsOf 78 = .ok (.istore_n 2, 1) := by decide +kernel
theorem d_M_secondsOf_79 : decode b_M_secondsOf 79 = .ok (.aload_n 0, 1) := by decide +kernel
theorem d_M_secondsOf_80 : decode b_M_secondsOf 80 = .ok (.getfield 16, 3) := by decide +kernel
theorem d_M_secondsOf_83 : decode b_M_secondsOf 83 = .ok (.iload_n 3, 1) := by decide +kernel
theorem d_M_secondsOf_84 : decode b_M_secondsOf 84 = .ok (.iaload, 1) := by decide +kernel
theorem d_M_secondsOf_85 : decode b_M_secondsOf 85 = .ok (.istore_n 3, 1) := by decide +kernel
theorem d_M_secondsOf_86 : decode b_M_secondsOf 86 = .ok (.goto (-53), 3) := by decide +kernel
theorem d_M_secondsOf_89 : decode b_M_secondsOf 89 = .ok (.iload_n 2, 1) := by decide +kernel
theorem d_M_secondsOf_90 : decode b_M_secondsOf 90 = .ok (.bipush 40, 2) := by decide +kernel
theorem d_M_secondsOf_92 : decode b_M_secondsOf 92 = .ok (.aload_n 0, 1) := by decide +kernel
theorem d_M_secondsOf_93 : decode b_M_secondsOf 93 = .ok (.getfield 22, 3) := by decide +kernel
theorem d_M_secondsOf_96 : decode b_M_secondsOf 96 = .ok (.iload_n 1, 1) := by decide +kernel
theorem d_M_secondsOf_97 : decode b_M_secondsOf 97 = .ok (.iaload, 1) := by decide +kernel
theorem d_M_secondsOf_98 : decode b_M_secondsOf 98 = .ok (.imul, 1) := by decide +kernel
theorem d_M_secondsOf_99 : decode b_M_secondsOf 99 = .ok (.idiv, 1) := by decide +kernel
theorem d_M_secondsOf_100 : decode b_M_secondsOf 100 = .ok (.ireturn, 1) := by decide +kernel
theorem d_M_node_0 : decode b_M_node 0 = .ok (.aload_n 0, 1) := by decide +kernel
theorem d_M_node_1 : decode b_M_node 1 = .ok (.iload_n 1, 1) := by decide +kernel
theorem d_M_node_2 : decode b_M_node 2 = .ok (.invokevirtual 105, 3) := by decide +kernel
theorem d_M_node_5 : decode b_M_node 5 = .ok (.ifCond .ne 7, 3) := by decide +kernel
theorem d_M_node_8 : decode b_M_node 8 = .ok (.sipush (-1001), 3) := by decide +kernel
theorem d_M_node_11 : decode b_M_node 11 = .ok (.ireturn, 1) := by decide +kernel
theorem d_M_node_12 : decode b_M_node 12 = .ok (.aload_n 0, 1) := by decide +kernel
theorem d_M_node_13 : decode b_M_node 13 = .ok (.invokevirtual 128, 3) := by decide +kernel
theorem d_M_node_16 : decode b_M_node 16 = .ok (.iload_n 2, 1) := by decide +kernel
theorem d_M_node_17 : decode b_M_node 17 = .ok (.tableswitch 159 0 11 #[63, 70, 77, 84, 91, 106, 113, 119, 125, 132, 139, 153], 63) := by decide +kernel
theorem d_M_node_80 : decode b_M_node 80 = .ok (.aload_n 0, 1) := by decide +kernel
theorem d_M_node_81 : decode b_M_node 81 = .ok (.getfield 13, 3) := by decide +kernel
theorem d_M_node_84 : decode b_M_node 84 = .ok (.iload_n 1, 1) := by decide +kernel
theorem d_M_node_85 : decode b_M_node 85 = .ok (.iaload, 1) := by decide +kernel
theorem d_M_node_86 : decode b_M_node 86 = .ok (.ireturn, 1) := by decide +kernel
theorem d_M_node_87 : decode b_M_node 87 = .ok (.aload_n 0, 1) := by decide +kernel
theorem d_M_node_88 : decode b_M_node 88 = .ok (.getfield 16, 3) := by decide +kernel
theorem d_M_node_91 : decode b_M_node 91 = .ok (.iload_n 1, 1) := by decide +kernel
theorem d_M_node_92 : decode b_M_node 92 = .ok (.iaload, 1) := by decide +kernel
theorem d_M_node_93 : decode b_M_node 93 = .ok (.ireturn, 1) := by decide +kernel
theorem d_M_node_94 : decode b_M_node 94 = .ok (.aload_n 0, 1) := by decide +kernel
theorem d_M_node_95 : decode b_M_node 95 = .ok (.getfield 19, 3) := by decide +kernel
theorem d_M_node_98 : decode b_M_node 98 = .ok (.iload_n 1, 1) := by decide +kernel
theorem d_M_node_99 : decode b_M_node 99 = .ok (.iaload, 1) := by decide +kernel
theorem d_M_node_100 : decode b_M_node 100 = .ok (.ireturn, 1) := by decide +kernel
theorem d_M_node_101 : decode b_M_node 101 = .ok (.aload_n 0, 1) := by decide +kernel
theorem d_M_node_102 : decode b_M_node 102 = .ok (.getfield 22, 3) := by decide +kernel
theorem d_M_node_105 : decode b_M_node 105 = .ok (.iload_n 1, 1) := by decide +kernel
theorem d_M_node_106 : decode b_M_node 106 = .ok (.iaload, 1) := by decide +kernel
theorem d_M_node_107 : decode b_M_node 107 = .ok (.ireturn, 1) := by decide +kernel
theorem d_M_node_108 : decode b_M_node 108 = .ok (.aload_n 0, 1) := by decide +kernel
theorem d_M_node_109 : decode b_M_node 109 = .ok (.getfield 25, 3) := by decide +kernel
theorem d_M_node_112 : decode b_M_node 112 = .ok (.iload_n 1, 1) := by decide +kernel
theorem d_M_node_113 : decode b_M_node 113 = .ok (.baload, 1) := by decide +kernel
theorem d_M_node_114 : decode b_M_node 114 = .ok (.ifCond .eq 7, 3) := by decide +kernel
theorem d_M_node_117 : decode b_M_node 117 = .ok (.iconst 1, 1) := by decide +kernel
theorem d_M_node_118 : decode b_M_node 118 = .ok (.goto 4, 3) := by decide +kernel
theorem d_M_node_121 : decode b_M_node 121 = .ok (.iconst 0, 1) := by decide +kernel
theorem d_M_node_122 : decode b_M_node 122 = .ok (.ireturn, 1) := by decide +kernel
theorem d_M_node_123 : decode b_M_node 123 = .ok (.aload_n 0, 1) := by decide +kernel
theorem d_M_node_124 : decode b_M_node 124 = .ok (.getfield 47, 3) := by decide +kernel
theorem d_M_node_127 : decode b_M_node 127 = .ok (.iload_n 1, 1) := by decide +kernel
theorem d_M_node_128 : decode b_M_node 128 = .ok (.iaload, 1) := by decide +kernel
theorem d_M_node_129 : decode b_M_node 129 = .ok (.ireturn, 1) := by decide +kernel
theorem d_M_node_130 : decode b_M_node 130 = .ok (.aload_n 0, 1) := by decide +kernel
theorem d_M_node_131 : decode b_M_node 131 = .ok (.iload_n 1, 1) := by decide +kernel
theorem d_M_node_132 : decode b_M_node 132 = .ok (.invokevirtual 125, 3) := by decide +kernel
theorem d_M_node_135 : decode b_M_node 135 = .ok (.ireturn, 1) := by decide +kernel
theorem d_M_node_136 : decode b_M_node 136 = .ok (.aload_n 0, 1) := by decide +kernel
theorem d_M_node_137 : decode b_M_node 137 = .ok (.iload_n 1, 1) := by decide +kernel
theorem d_M_node_138 : decode b_M_node 138 = .ok (.invokevirtual 131, 3) := by decide +kernel
theorem d_M_node_141 : decode b_M_node 141 = .ok (.ireturn, 1) := by decide +kernel
theorem d_M_node_142 : decode b_M_node 142 = .ok (.aload_n 0, 1) := by decide +kernel
theorem d_M_node_143 : decode b_M_node 143 = .ok (.getfield 50, 3) := by decide +kernel
theorem d_M_node_146 : decode b_M_node 146 = .ok (.iload_n 1, 1) := by decide +kernel
theorem d_M_node_147 : decode b_M_node 147 = .ok (.iaload, 1) := by decide +kernel
theorem d_M_node_148 : decode b_M_node 148 = .ok (.ireturn, 1) := by decide +kernel
theorem d_M_node_149 : decode b_M_node 149 = .ok (.aload_n 0, 1) := by decide +kernel
theorem d_M_node_150 : decode b_M_node 150 = .ok (.getfield 53, 3) := by decide +kernel
theorem d_M_node_153 : decode b_M_node 153 = .ok (.iload_n 1, 1) := by decide +kernel
theorem d_M_node_154 : decode b_M_node 154 = .ok (.iaload, 1) := by decide +kernel
theorem d_M_node_155 : decode b_M_node 155 = .ok (.ireturn, 1) := by decide +kernel
theorem d_M_node_156 : decode b_M_node 156 = .ok (.aload_n 0, 1) := by decide +kernel
theorem d_M_node_157 : decode b_M_node 157 = .ok (.iload_n 1, 1) := by decide +kernel
theorem d_M_node_158 : decode b_M_node 158 = .ok (.invokevirtual 134, 3) := by decide +kernel
theorem d_M_node_161 : decode b_M_node 161 = .ok (.ifCond .eq 7, 3) := by decide +kernel
theorem d_M_node_164 : decode b_M_node 164 = .ok (.iconst 1, 1) := by decide +kernel
theorem d_M_node_165 : decode b_M_node 165 = .ok (.goto 4, 3) := by decide +kernel
theorem d_M_node_168 : decode b_M_node 168 = .ok (.iconst 0, 1) := by decide +kernel
theorem d_M_node_169 : decode b_M_node 169 = .ok (.ireturn, 1) := by decide +kernel
theorem d_M_node_170 : decode b_M_node 170 = .ok (.aload_n 0, 1) := by decide +kernel
theorem d_M_node_171 : decode b_M_node 171 = .ok (.iload_n 1, 1) := by decide +kernel
theorem d_M_node_172 : decode b_M_node 172 = .ok (.invokevirtual 137, 3) := by decide +kernel
theorem d_M_node_175 : decode b_M_node 175 = .ok (.ireturn, 1) := by decide +kernel
theorem d_M_node_176 : decode b_M_node 176 = .ok (.sipush (-1002), 3) := by decide +kernel
theorem d_M_node_179 : decode b_M_node 179 = .ok (.ireturn, 1) := by decide +kernel
theorem d_M_run_0 : decode b_M_run 0 = .ok (.aload_n 0, 1) := by decide +kernel
theorem d_M_run_1 : decode b_M_run 1 = .ok (.iload_n 1, 1) := by decide +kernel
theorem d_M_run_2 : decode b_M_run 2 = .ok (.invokevirtual 105, 3) := by decide +kernel
theorem d_M_run_5 : decode b_M_run 5 = .ok (.ifCond .ne 7, 3) := by decide +kernel
theorem d_M_run_8 : decode b_M_run 8 = .ok (.sipush (-1001), 3) := by decide +kernel
theorem d_M_run_11 : decode b_M_run 11 = .ok (.ireturn, 1) := by decide +kernel
theorem d_M_run_12 : decode b_M_run 12 = .ok (.iload_n 2, 1) := by decide +kernel
theorem d_M_run_13 : decode b_M_run 13 = .ok (.i2l, 1) := by decide +kernel
theorem d_M_run_14 : decode b_M_run 14 = .ok (.lconst 0, 1) := by decide +kernel
theorem d_M_run_15 : decode b_M_run 15 = .ok (.aload_n 0, 1) := by decide +kernel
theorem d_M_run_16 : decode b_M_run 16 = .ok (.getfield 32, 3) := by decide +kernel
theorem d_M_run_19 : decode b_M_run 19 = .ok (.iload_n 1, 1) := by decide +kernel
theorem d_M_run_20 : decode b_M_run 20 = .ok (.iaload, 1) := by decide +kernel
theorem d_M_run_21 : decode b_M_run 21 = .ok (.iconst 1, 1) := by decide +kernel
theorem d_M_run_22 : decode b_M_run 22 = .ok (.isub, 1) := by decide +kernel
theorem d_M_run_23 : decode b_M_run 23 = .ok (.i2l, 1) := by decide +kernel
theorem d_M_run_24 : decode b_M_run 24 = .ok (.invokestatic 67, 3) := by decide +kernel
theorem d_M_run_27 : decode b_M_run 27 = .ok (.ifCond .eq 18, 3) := by decide +kernel
theorem d_M_run_30 : decode b_M_run 30 = .ok (.aload_n 0, 1) := by decide +kernel
theorem d_M_run_31 : decode b_M_run 31 = .ok (.getfield 29, 3) := by decide +kernel
theorem d_M_run_34 : decode b_M_run 34 = .ok (.sipush 144, 3) := by decide +kernel
theorem d_M_run_37 : decode b_M_run 37 = .ok (.iload_n 1, 1) := by decide +kernel
theorem d_M_run_38 : decode b_M_run 38 = .ok (.imul, 1) := by decide +kernel
theorem d_M_run_39 : decode b_M_run 39 = .ok (.iload_n 2, 1) := by decide +kernel
theorem d_M_run_40 : decode b_M_run 40 = .ok (.iadd, 1) := by decide +kernel
theorem d_M_run_41 : decode b_M_run 41 = .ok (.iaload, 1) := by decide +kernel
theorem d_M_run_42 : decode b_M_run 42 = .ok (.goto 4, 3) := by decide +kernel
theorem d_M_run_45 : decode b_M_run 45 = .ok (.iconst (-1), 1) := by decide +kernel
theorem d_M_run_46 : decode b_M_run 46 = .ok (.ireturn, 1) := by decide +kernel
theorem d_M_level_0 : decode b_M_level 0 = .ok (.aload_n 0, 1) := by decide +kernel
theorem d_M_level_1 : decode b_M_level 1 = .ok (.iload_n 1, 1) := by decide +kernel
theorem d_M_level_2 : decode b_M_level 2 = .ok (.invokevirtual 105, 3) := by decide +kernel
theorem d_M_level_5 : decode b_M_level 5 = .ok (.ifCond .ne 7, 3) := by decide +kernel
theorem d_M_level_8 : decode b_M_level 8 = .ok (.sipush (-1001), 3) := by decide +kernel
theorem d_M_level_11 : decode b_M_level 11 = .ok (.ireturn, 1) := by decide +kernel
theorem d_M_level_12 : decode b_M_level 12 = .ok (.aload_n 0, 1) := by decide +kernel
theorem d_M_level_13 : decode b_M_level 13 = .ok (.getfield 19, 3) := by decide +kernel
theorem d_M_level_16 : decode b_M_level 16 = .ok (.iload_n 1, 1) := by decide +kernel
theorem d_M_level_17 : decode b_M_level 17 = .ok (.iaload, 1) := by decide +kernel
theorem d_M_level_18 : decode b_M_level 18 = .ok (.iconst 1, 1) := by decide +kernel
theorem d_M_level_19 : decode b_M_level 19 = .ok (.if_icmp .eq 21, 3) := by decide +kernel
theorem d_M_level_22 : decode b_M_level 22 = .ok (.iload_n 2, 1) := by decide +kernel
theorem d_M_level_23 : decode b_M_level 23 = .ok (.i2l, 1) := by decide +kernel
theorem d_M_level_24 : decode b_M_level 24 = .ok (.lconst 0, 1) := by decide +kernel
theorem d_M_level_25 : decode b_M_level 25 = .ok (.aload_n 0, 1) := by decide +kernel
theorem d_M_level_26 : decode b_M_level 26 = .ok (.getfield 32, 3) := by decide +kernel
theorem d_M_level_29 : decode b_M_level 29 = .ok (.iload_n 1, 1) := by decide +kernel
theorem d_M_level_30 : decode b_M_level 30 = .ok (.iaload, 1) := by decide +kernel
theorem d_M_level_31 : decode b_M_level 31 = .ok (.iconst 1, 1) := by decide +kernel
theorem d_M_level_32 : decode b_M_level 32 = .ok (.isub, 1) := by decide +kernel
theorem d_M_level_33 : decode b_M_level 33 = .ok (.i2l, 1) := by decide +kernel
theorem d_M_level_34 : decode b_M_level 34 = .ok (.invokestatic 67, 3) := by decide +kernel
theorem d_M_level_37 : decode b_M_level 37 = .ok (.ifCond .ne 7, 3) := by decide +kernel
theorem d_M_level_40 : decode b_M_level 40 = .ok (.sipush (-1003), 3) := by decide +kernel
theorem d_M_level_43 : decode b_M_level 43 = .ok (.ireturn, 1) := by decide +kernel
theorem d_M_level_44 : decode b_M_level 44 = .ok (.aload_n 0, 1) := by decide +kernel
theorem d_M_level_45 : decode b_M_level 45 = .ok (.invokevirtual 128, 3) := by decide +kernel
theorem d_M_level_48 : decode b_M_level 48 = .ok (.aload_n 0, 1) := by decide +kernel
theorem d_M_level_49 : decode b_M_level 49 = .ok (.getfield 53, 3) := by decide +kernel
theorem d_M_level_52 : decode b_M_level 52 = .ok (.iload_n 1, 1) := by decide +kernel
theorem d_M_level_53 : decode b_M_level 53 = .ok (.iaload, 1) := by decide +kernel
theorem d_M_level_54 : decode b_M_level 54 = .ok (.iconst 5, 1) := by decide +kernel
theorem d_M_level_55 : decode b_M_level 55 = .ok (.aload_n 0, 1) := by decide +kernel
theorem d_M_level_56 : decode b_M_level 56 = .ok (.getfield 35, 3) := by decide +kernel
theorem d_M_level_59 : decode b_M_level 59 = .ok (.iconst 0, 1) := by decide +kernel
theorem d_M_level_60 : decode b_M_level 60 = .ok (.iaload, 1) := by decide +kernel
theorem d_M_level_61 : decode b_M_level 61 = .ok (.imul, 1) := by decide +kernel
theorem d_M_level_62 : decode b_M_level 62 = .ok (.iload_n 2, 1) := by decide +kernel
theorem d_M_level_63 : decode b_M_level 63 = .ok (.imul, 1) := by decide +kernel
theorem d_M_level_64 : decode b_M_level 64 = .ok (.isub, 1) := by decide +kernel
theorem d_M_level_65 : decode b_M_level 65 = .ok (.ireturn, 1) := by decide +kernel
theorem d_M_placeIn_0 : decode b_M_placeIn 0 = .ok (.iconst (-1), 1) := by decide +kernel
theorem d_M_placeIn_1 : decode b_M_placeIn 1 = .ok (.istore_n 3, 1) := by decide +kernel
theorem d_M_placeIn_2 : decode b_M_placeIn 2 = .ok (.iconst 0, 1) := by decide +kernel
theorem d_M_placeIn_3 : decode b_M_placeIn 3 = .ok (.istore 4, 2) := by decide +kernel
theorem d_M_placeIn_5 : decode b_M_placeIn 5 = .ok (.iload 4, 2) := by decide +kernel
theorem d_M_placeIn_7 : decode b_M_placeIn 7 = .ok (.aload_n 0, 1) := by decide +kernel
theorem d_M_placeIn_8 : decode b_M_placeIn 8 = .ok (.getfield 32, 3) := by decide +kernel
theorem d_M_placeIn_11 : decode b_M_placeIn 11 = .ok (.iload_n 1, 1) := by decide +kernel
theorem d_M_placeIn_12 : decode b_M_placeIn 12 = .ok (.iaload, 1) := by decide +kernel
theorem d_M_placeIn_13 : decode b_M_placeIn 13 = .ok (.if_icmp .ge 33, 3) := by decide +kernel
theorem d_M_placeIn_16 : decode b_M_placeIn 16 = .ok (.aload_n 0, 1) := by decide +kernel
theorem d_M_placeIn_17 : decode b_M_placeIn 17 = .ok (.getfield 29, 3) := by decide +kernel
theorem d_M_placeIn_20 : decode b_M_placeIn 20 = .ok (.sipush 144, 3) := by decide +kernel
theorem d_M_placeIn_23 : decode b_M_placeIn 23 = .ok (.iload_n 1, 1) := by decide +kernel
theorem d_M_placeIn_24 : decode b_M_placeIn 24 = .ok (.imul, 1) := by decide +kernel
theorem d_M_placeIn_25 : decode b_M_placeIn 25 = .ok (.iload 4, 2) := by decide +kernel
theorem d_M_placeIn_27 : decode b_M_placeIn 27 = .ok (.iadd, 1) := by decide +kernel
theorem d_M_placeIn_28 : decode b_M_placeIn 28 = .ok (.iaload, 1) := by decide +kernel
theorem d_M_placeIn_29 : decode b_M_placeIn 29 = .ok (.iload_n 2, 1) := by decide +kernel
theorem d_M_placeIn_30 : decode b_M_placeIn 30 = .ok (.if_icmp .ne 8, 3) := by decide +kernel
theorem d_M_placeIn_33 : decode b_M_placeIn 33 = .ok (.iload 4, 2) := by decide +kernel
theorem d_M_placeIn_35 : decode b_M_placeIn 35 = .ok (.goto 4, 3) := by decide +kernel
theorem d_M_placeIn_38 : decode b_M_placeIn 38 = .ok (.iload_n 3, 1) := by decide +kernel
theorem d_M_placeIn_39 : decode b_M_placeIn 39 = .ok (.istore_n 3, 1) := by decide +kernel
theorem d_M_placeIn_40 : decode b_M_placeIn 40 = .ok (.iinc 4 1, 3) := by decide +kernel
theorem d_M_placeIn_43 : decode b_M_placeIn 43 = .ok (.goto (-38), 3) := by decide +kernel
theorem d_M_placeIn_46 : decode b_M_placeIn 46 = .ok (.iload_n 3, 1) := by decide +kernel
theorem d_M_placeIn_47 : decode b_M_placeIn 47 = .ok (.ireturn, 1) := by decide +kernel
theorem d_M_clashCell_0 : decode b_M_clashCell 0 = .ok (.aload_n 0, 1) := by decide +kernel
theorem d_M_clashCell_1 : decode b_M_clashCell 1 = .ok (.getfield 19, 3) := by decide +kernel
theorem d_M_clashCell_4 : decode b_M_clashCell 4 = .ok (.iload_n 1, 1) := by decide +kernel
theorem d_M_clashCell_5 : decode b_M_clashCell 5 = .ok (.iaload, 1) := by decide +kernel
theorem d_M_clashCell_6 : decode b_M_clashCell 6 = .ok (.ifCond .ne 69, 3) := by decide +kernel
theorem d_M_clashCell_9 : decode b_M_clashCell 9 = .ok (.aload_n 0, 1) := by decide +kernel
theorem d_M_clashCell_10 : decode b_M_clashCell 10 = .ok (.getfield 19, 3) := by decide +kernel
theorem d_M_clashCell_13 : decode b_M_clashCell 13 = .ok (.iload_n 2, 1) := by decide +kernel
theorem d_M_clashCell_14 : decode b_M_clashCell 14 = .ok (.iaload, 1) := by decide +kernel
theorem d_M_clashCell_15 : decode b_M_clashCell 15 = .ok (.ifCond .ne 60, 3) := by decide +kernel
theorem d_M_clashCell_18 : decode b_M_clashCell 18 = .ok (.aload_n 0, 1) := by decide +kernel
theorem d_M_clashCell_19 : decode b_M_clashCell 19 = .ok (.getfield 16, 3) := by decide +kernel
theorem d_M_clashCell_22 : decode b_M_clashCell 22 = .ok (.iload_n 1, 1) := by decide +kernel
theorem d_M_clashCell_23 : decode b_M_clashCell 23 = .ok (.iaload, 1) := by decide +kernel
theorem d_M_clashCell_24 : decode b_M_clashCell 24 = .ok (.ifCond .lt 51, 3) := by decide +kernel
theorem d_M_clashCell_27 : decode b_M_clashCell 27 = .ok (.aload_n 0, 1) := by decide +kernel
theorem d_M_clashCell_28 : decode b_M_clashCell 28 = .ok (.getfield 16, 3) := by decide +kernel
theorem d_M_clashCell_31 : decode b_M_clashCell 31 = .ok (.iload_n 2, 1) := by decide +kernel
theorem d_M_clashCell_32 : decode b_M_clashCell 32 = .ok (.iaload, 1) := by decide +kernel
theorem d_M_clashCell_33 : decode b_M_clashCell 33 = .ok (.ifCond .lt 42, 3) := by decide +kernel
theorem d_M_clashCell_36 : decode b_M_clashCell 36 = .ok (.aload_n 0, 1) := by decide +kernel
theorem d_M_clashCell_37 : decode b_M_clashCell 37 = .ok (.getfield 16, 3) := by decide +kernel
theorem d_M_clashCell_40 : decode b_M_clashCell 40 = .ok (.iload_n 1, 1) := by decide +kernel
theorem d_M_clashCell_41 : decode b_M_clashCell 41 = .ok (.iaload, 1) := by decide +kernel
theorem d_M_clashCell_42 : decode b_M_clashCell 42 = .ok (.iload_n 2, 1) := by decide +kernel
theorem d_M_clashCell_43 : decode b_M_clashCell 43 = .ok (.if_icmp .eq 32, 3) := by decide +kernel
theorem d_M_clashCell_46 : decode b_M_clashCell 46 = .ok (.aload_n 0, 1) := by decide +kernel
theorem d_M_clashCell_47 : decode b_M_clashCell 47 = .ok (.getfield 16, 3) := by decide +kernel
theorem d_M_clashCell_50 : decode b_M_clashCell 50 = .ok (.iload_n 2, 1) := by decide +kernel
theorem d_M_clashCell_51 : decode b_M_clashCell 51 = .ok (.iaload, 1) := by decide +kernel
theorem d_M_clashCell_52 : decode b_M_clashCell 52 = .ok (.iload_n 1, 1) := by decide +kernel
theorem d_M_clashCell_53 : decode b_M_clashCell 53 = .ok (.if_icmp .eq 22, 3) := by decide +kernel
theorem d_M_clashCell_56 : decode b_M_clashCell 56 = .ok (.aload_n 0, 1) := by decide +kernel
theorem d_M_clashCell_57 : decode b_M_clashCell 57 = .ok (.getfield 16, 3) := by decide +kernel
theorem d_M_clashCell_60 : decode b_M_clashCell 60 = .ok (.iload_n 1, 1) := by decide +kernel
theorem d_M_clashCell_61 : decode b_M_clashCell 61 = .ok (.iaload, 1) := by decide +kernel
theorem d_M_clashCell_62 : decode b_M_clashCell 62 = .ok (.aload_n 0, 1) := by decide +kernel
theorem d_M_clashCell_63 : decode b_M_clashCell 63 = .ok (.getfield 16, 3) := by decide +kernel
theorem d_M_clashCell_66 : decode b_M_clashCell 66 = .ok (.iload_n 2, 1) := by decide +kernel
theorem d_M_clashCell_67 : decode b_M_clashCell 67 = .ok (.iaload, 1) := by decide +kernel
theorem d_M_clashCell_68 : decode b_M_clashCell 68 = .ok (.if_icmp .eq 7, 3) := by decide +kernel
theorem d_M_clashCell_71 : decode b_M_clashCell 71 = .ok (.iconst 1, 1) := by decide +kernel
theorem d_M_clashCell_72 : decode b_M_clashCell 72 = .ok (.goto 4, 3) := by decide +kernel
theorem d_M_clashCell_75 : decode b_M_clashCell 75 = .ok (.iconst 0, 1) := by decide +kernel
theorem d_M_clashCell_76 : decode b_M_clashCell 76 = .ok (.istore_n 3, 1) := by decide +kernel
theorem d_M_clashCell_77 : decode b_M_clashCell 77 = .ok (.iconst (-1), 1) := by decide +kernel
theorem d_M_clashCell_78 : decode b_M_clashCell 78 = .ok (.istore 4, 2) := by decide +kernel
theorem d_M_clashCell_80 : decode b_M_clashCell 80 = .ok (.iconst 0, 1) := by decide +kernel
theorem d_M_clashCell_81 : decode b_M_clashCell 81 = .ok (.istore 5, 2) := by decide +kernel
theorem d_M_clashCell_83 : decode b_M_clashCell 83 = .ok (.iload 5, 2) := by decide +kernel
theorem d_M_clashCell_85 : decode b_M_clashCell 85 = .ok (.aload_n 0, 1) := by decide +kernel
theorem d_M_clashCell_86 : decode b_M_clashCell 86 = .ok (.getfield 32, 3) := by decide +kernel
theorem d_M_clashCell_89 : decode b_M_clashCell 89 = .ok (.iload_n 1, 1) := by decide +kernel
theorem d_M_clashCell_90 : decode b_M_clashCell 90 = .ok (.iaload, 1) := by decide +kernel
theorem d_M_clashCell_91 : decode b_M_clashCell 91 = .ok (.if_icmp .ge 127, 3) := by decide +kernel
theorem d_M_clashCell_94 : decode b_M_clashCell 94 = .ok (.iload_n 3, 1) := by decide +kernel
theorem d_M_clashCell_95 : decode b_M_clashCell 95 = .ok (.ifCond .eq 123, 3) := by decide +kernel
theorem d_M_clashCell_98 : decode b_M_clashCell 98 = .ok (.aload_n 0, 1) := by decide +kernel
theorem d_M_clashCell_99 : decode b_M_clashCell 99 = .ok (.getfield 29, 3) := by decide +kernel
theorem d_M_clashCell_102 : decode b_M_clashCell 102 = .ok (.sipush 144, 3) := by decide +kernel
theorem d_M_clashCell_105 : decode b_M_clashCell 105 = .ok (.iload_n 1, 1) := by decide +kernel
theorem d_M_clashCell_106 : decode b_M_clashCell 106 = .ok (.imul, 1) := by decide +kernel
theorem d_M_clashCell_107 : decode b_M_clashCell 107 = .ok (.iload 5, 2) := by decide +kernel
theorem d_M_clashCell_109 : decode b_M_clashCell 109 = .ok (.iadd, 1) := by decide +kernel
theorem d_M_clashCell_110 : decode b_M_clashCell 110 = .ok (.iaload, 1) := by decide +kernel
theorem d_M_clashCell_111 : decode b_M_clashCell 111 = .ok (.istore 6, 2) := by decide +kernel
theorem d_M_clashCell_113 : decode b_M_clashCell 113 = .ok (.aload_n 0, 1) := by decide +kernel
theorem d_M_clashCell_114 : decode b_M_clashCell 114 = .ok (.iload_n 2, 1) := by decide +kernel
theorem d_M_clashCell_115 : decode b_M_clashCell 115 = .ok (.iload 6, 2) := by decide +kernel
theorem d_M_clashCell_117 : decode b_M_clashCell 117 = .ok (.invokevirtual 140, 3) := by decide +kernel
theorem d_M_clashCell_120 : decode b_M_clashCell 120 = .ok (.istore 7, 2) := by decide +kernel
theorem d_M_clashCell_122 : decode b_M_clashCell 122 = .ok (.aload_n 0, 1) := by decide +kernel
theorem d_M_clashCell_123 : decode b_M_clashCell 123 = .ok (.getfield 53, 3) := by decide +kernel
theorem d_M_clashCell_126 : decode b_M_clashCell 126 = .ok (.iload_n 1, 1) := by decide +kernel
theorem d_M_clashCell_127 : decode b_M_clashCell 127 = .ok (.iaload, 1) := by decide +kernel
theorem d_M_clashCell_128 : decode b_M_clashCell 128 = .ok (.aload_n 0, 1) := by decide +kernel
theorem d_M_clashCell_129 : decode b_M_clashCell 129 = .ok (.getfield 53, 3) := by decide +kernel
theorem d_M_clashCell_132 : decode b_M_clashCell 132 = .ok (.iload_n 2, 1) := by decide +kernel
theorem d_M_clashCell_133 : decode b_M_clashCell 133 = .ok (.iaload, 1) := by decide +kernel
theorem d_M_clashCell_134 : decode b_M_clashCell 134 = .ok (.isub, 1) := by decide +kernel
theorem d_M_clashCell_135 : decode b_M_clashCell 135 = .ok (.iconst 5, 1) := by decide +kernel
theorem d_M_clashCell_136 : decode b_M_clashCell 136 = .ok (.aload_n 0, 1) := by decide +kernel
theorem d_M_clashCell_137 : decode b_M_clashCell 137 = .ok (.getfield 35, 3) := by decide +kernel
theorem d_M_clashCell_140 : decode b_M_clashCell 140 = .ok (.iconst 0, 1) := by decide +kernel
theorem d_M_clashCell_141 : decode b_M_clashCell 141 = .ok (.iaload, 1) := by decide +kernel
theorem d_M_clashCell_142 : decode b_M_clashCell 142 = .ok (.imul, 1) := by decide +kernel
theorem d_M_clashCell_143 : decode b_M_clashCell 143 = .ok (.iload 5, 2) := by decide +kernel
theorem d_M_clashCell_145 : decode b_M_clashCell 145 = .ok (.iload 7, 2) := by decide +kernel
theorem d_M_clashCell_147 : decode b_M_clashCell 147 = .ok (.isub, 1) := by decide +kernel
theorem d_M_clashCell_148 : decode b_M_clashCell 148 = .ok (.imul, 1) := by decide +kernel
theorem d_M_clashCell_149 : decode b_M_clashCell 149 = .ok (.isub, 1) := by decide +kernel
theorem d_M_clashCell_150 : decode b_M_clashCell 150 = .ok (.istore 8, 2) := by decide +kernel
theorem d_M_clashCell_152 : decode b_M_clashCell 152 = .ok (.iload 7, 2) := by decide +kernel
theorem d_M_clashCell_154 : decode b_M_clashCell 154 = .ok (.ifCond .lt 29, 3) := by decide +kernel
theorem d_M_clashCell_157 : decode b_M_clashCell 157 = .ok (.iload 8, 2) := by decide +kernel
theorem d_M_clashCell_159 : decode b_M_clashCell 159 = .ok (.ifCond .ge 9, 3) := by decide +kernel
theorem d_M_clashCell_162 : decode b_M_clashCell 162 = .ok (.iload 8, 2) := by decide +kernel
theorem d_M_clashCell_164 : decode b_M_clashCell 164 = .ok (.ineg, 1) := by decide +kernel
theorem d_M_clashCell_165 : decode b_M_clashCell 165 = .ok (.goto 5, 3) := by decide +kernel
theorem d_M_clashCell_168 : decode b_M_clashCell 168 = .ok (.iload 8, 2) := by decide +kernel
theorem d_M_clashCell_170 : decode b_M_clashCell 170 = .ok (.aload_n 0, 1) := by decide +kernel
theorem d_M_clashCell_171 : decode b_M_clashCell 171 = .ok (.getfield 35, 3) := by decide +kernel
theorem d_M_clashCell_174 : decode b_M_clashCell 174 = .ok (.iconst 1, 1) := by decide +kernel
theorem d_M_clashCell_175 : decode b_M_clashCell 175 = .ok (.iaload, 1) := by decide +kernel
theorem d_M_clashCell_176 : decode b_M_clashCell 176 = .ok (.if_icmp .ge 7, 3) := by decide +kernel
theorem d_M_clashCell_179 : decode b_M_clashCell 179 = .ok (.iconst 1, 1) := by decide +kernel
theorem d_M_clashCell_180 : decode b_M_clashCell 180 = .ok (.goto 4, 3) := by decide +kernel
theorem d_M_clashCell_183 : decode b_M_clashCell 183 = .ok (.iconst 0, 1) := by decide +kernel
theorem d_M_clashCell_184 : decode b_M_clashCell 184 = .ok (.istore 9, 2) := by decide +kernel
theorem d_M_clashCell_186 : decode b_M_clashCell 186 = .ok (.iload 9, 2) := by decide +kernel
theorem d_M_clashCell_188 : decode b_M_clashCell 188 = .ok (.ifCond .eq 20, 3) := by decide +kernel
theorem d_M_clashCell_191 : decode b_M_clashCell 191 = .ok (.iload 4, 2) := by decide +kernel
theorem d_M_clashCell_193 : decode b_M_clashCell 193 = .ok (.ifCond .lt 10, 3) := by decide +kernel
theorem d_M_clashCell_196 : decode b_M_clashCell 196 = .ok (.iload 6, 2) := by decide +kernel
theorem d_M_clashCell_198 : decode b_M_clashCell 198 = .ok (.iload 4, 2) := by decide +kernel
theorem d_M_clashCell_200 : decode b_M_clashCell 200 = .ok (.if_icmp .ge 8, 3) := by decide +kernel
theorem d_M_clashCell_203 : decode b_M_clashCell 203 = .ok (.iload 6, 2) := by decide +kernel
theorem d_M_clashCell_205 : decode b_M_clashCell 205 = .ok (.goto 5, 3) := by decide +kernel
theorem d_M_clashCell_208 : decode b_M_clashCell 208 = .ok (.iload 4, 2) := by decide +kernel
theorem d_M_clashCell_210 : decode b_M_clashCell 210 = .ok (.istore 4, 2) := by decide +kernel
theorem d_M_clashCell_212 : decode b_M_clashCell 212 = .ok (.iinc 5 1, 3) := by decide +kernel
theorem d_M_clashCell_215 : decode b_M_clashCell 215 = .ok (.goto (-132), 3) := by decide +kernel
theorem d_M_clashCell_218 : decode b_M_clashCell 218 = .ok (.iload 4, 2) := by decide +kernel
theorem d_M_clashCell_220 : decode b_M_clashCell 220 = .ok (.ireturn, 1) := by decide +kernel
theorem d_M_clashes_0 : decode b_M_clashes 0 = .ok (.iconst 0, 1) := by decide +kernel
theorem d_M_clashes_1 : decode b_M_clashes 1 = .ok (.istore_n 1, 1) := by decide +kernel
theorem d_M_clashes_2 : decode b_M_clashes 2 = .ok (.iconst 0, 1) := by decide +kernel
theorem d_M_clashes_3 : decode b_M_clashes 3 = .ok (.istore_n 2, 1) := by decide +kernel
theorem d_M_clashes_4 : decode b_M_clashes 4 = .ok (.iload_n 2, 1) := by decide +kernel
theorem d_M_clashes_5 : decode b_M_clashes 5 = .ok (.aload_n 0, 1) := by decide +kernel
theorem d_M_clashes_6 : decode b_M_clashes 6 = .ok (.getfield 71, 3) := by decide +kernel
theorem d_M_clashes_9 : decode b_M_clashes 9 = .ok (.if_icmp .ge 44, 3) := by decide +kernel
theorem d_M_clashes_12 : decode b_M_clashes 12 = .ok (.iload_n 2, 1) := by decide +kernel
theorem d_M_clashes_13 : decode b_M_clashes 13 = .ok (.iconst 1, 1) := by decide +kernel
theorem d_M_clashes_14 : decode b_M_clashes 14 = .ok (.iadd, 1) := by decide +kernel
theorem d_M_clashes_15 : decode b_M_clashes 15 = .ok (.istore_n 3, 1) := by decide +kernel
theorem d_M_clashes_16 : decode b_M_clashes 16 = .ok (.iload_n 3, 1) := by decide +kernel
theorem d_M_clashes_17 : decode b_M_clashes 17 = .ok (.aload_n 0, 1) := by decide +kernel
theorem d_M_clashes_18 : decode b_M_clashes 18 = .ok (.getfield 71, 3) := by decide +kernel
theorem d_M_clashes_21 : decode b_M_clashes 21 = .ok (.if_icmp .ge 26, 3) := by decide +kernel
theorem d_M_clashes_24 : decode b_M_clashes 24 = .ok (.iload_n 1, 1) := by decide +kernel
theorem d_M_clashes_25 : decode b_M_clashes 25 = .ok (.aload_n 0, 1) := by decide +kernel
theorem d_M_clashes_26 : decode b_M_clashes 26 = .ok (.iload_n 2, 1) := by decide +kernel
theorem d_M_clashes_27 : decode b_M_clashes 27 = .ok (.iload_n 3, 1) := by decide +kernel
theorem d_M_clashes_28 : decode b_M_clashes 28 = .ok (.invokevirtual 143, 3) := by decide +kernel
theorem d_M_clashes_31 : decode b_M_clashes 31 = .ok (.ifCond .lt 7, 3) := by decide +kernel
theorem d_M_clashes_34 : decode b_M_clashes 34 = .ok (.iconst 1, 1) := by decide +kernel
theorem d_M_clashes_35 : decode b_M_clashes 35 = .ok (.goto 4, 3) := by decide +kernel
theorem d_M_clashes_38 : decode b_M_clashes 38 = .ok (.iconst 0, 1) := by decide +kernel
theorem d_M_clashes_39 : decode b_M_clashes 39 = .ok (.iadd, 1) := by decide +kernel
theorem d_M_clashes_40 : decode b_M_clashes 40 = .ok (.istore_n 1, 1) := by decide +kernel
theorem d_M_clashes_41 : decode b_M_clashes 41 = .ok (.iinc 3 1, 3) := by decide +kernel
theorem d_M_clashes_44 : decode b_M_clashes 44 = .ok (.goto (-28), 3) := by decide +kernel
theorem d_M_clashes_47 : decode b_M_clashes 47 = .ok (.iinc 2 1, 3) := by decide +kernel
theorem d_M_clashes_50 : decode b_M_clashes 50 = .ok (.goto (-46), 3) := by decide +kernel
theorem d_M_clashes_53 : decode b_M_clashes 53 = .ok (.iload_n 1, 1) := by decide +kernel
theorem d_M_clashes_54 : decode b_M_clashes 54 = .ok (.ireturn, 1) := by decide +kernel
theorem d_M_clash_0 : decode b_M_clash 0 = .ok (.iload_n 1, 1) := by decide +kernel
theorem d_M_clash_1 : decode b_M_clash 1 = .ok (.i2l, 1) := by decide +kernel
theorem d_M_clash_2 : decode b_M_clash 2 = .ok (.lconst 0, 1) := by decide +kernel
theorem d_M_clash_3 : decode b_M_clash 3 = .ok (.ldc2_w 146, 3) := by decide +kernel
theorem d_M_clash_6 : decode b_M_clash 6 = .ok (.invokestatic 67, 3) := by decide +kernel
theorem d_M_clash_9 : decode b_M_clash 9 = .ok (.ifCond .ne 7, 3) := by decide +kernel
theorem d_M_clash_12 : decode b_M_clash 12 = .ok (.sipush (-1002), 3) := by decide +kernel
theorem d_M_clash_15 : decode b_M_clash 15 = .ok (.ireturn, 1) := by decide +kernel
theorem d_M_clash_16 : decode b_M_clash 16 = .ok (.aload_n 0, 1) := by decide +kernel
theorem d_M_clash_17 : decode b_M_clash 17 = .ok (.invokevirtual 128, 3) := by decide +kernel
theorem d_M_clash_20 : decode b_M_clash 20 = .ok (.iconst 0, 1) := by decide +kernel
theorem d_M_clash_21 : decode b_M_clash 21 = .ok (.istore_n 2, 1) := by decide +kernel
theorem d_M_clash_22 : decode b_M_clash 22 = .ok (.iload_n 2, 1) := by decide +kernel
theorem d_M_clash_23 : decode b_M_clash 23 = .ok (.aload_n 0, 1) := by decide +kernel
theorem d_M_clash_24 : decode b_M_clash 24 = .ok (.getfield 71, 3) := by decide +kernel
theorem d_M_clash_27 : decode b_M_clash 27 = .ok (.if_icmp .ge 60, 3) := by decide +kernel
theorem d_M_clash_30 : decode b_M_clash 30 = .ok (.iload_n 2, 1) := by decide +kernel
theorem d_M_clash_31 : decode b_M_clash 31 = .ok (.iconst 1, 1) := by decide +kernel
theorem d_M_clash_32 : decode b_M_clash 32 = .ok (.iadd, 1) := by decide +kernel
theorem d_M_clash_33 : decode b_M_clash 33 = .ok (.istore_n 3, 1) := by decide +kernel
theorem d_M_clash_34 : decode b_M_clash 34 = .ok (.iload_n 3, 1) := by decide +kernel
theorem d_M_clash_35 : decode b_M_clash 35 = .ok (.aload_n 0, 1) := by decide +kernel
theorem d_M_clash_36 : decode b_M_clash 36 = .ok (.getfield 71, 3) := by decide +kernel
theorem d_M_clash_39 : decode b_M_clash 39 = .ok (.if_icmp .ge 42, 3) := by decide +kernel
theorem d_M_clash_42 : decode b_M_clash 42 = .ok (.aload_n 0, 1) := by decide +kernel
theorem d_M_clash_43 : decode b_M_clash 43 = .ok (.iload_n 2, 1) := by decide +kernel
theorem d_M_clash_44 : decode b_M_clash 44 = .ok (.iload_n 3, 1) := by decide +kernel
theorem d_M_clash_45 : decode b_M_clash 45 = .ok (.invokevirtual 143, 3) := by decide +kernel
theorem d_M_clash_48 : decode b_M_clash 48 = .ok (.istore 4, 2) := by decide +kernel
theorem d_M_clash_50 : decode b_M_clash 50 = .ok (.iload 4, 2) := by decide +kernel
theorem d_M_clash_52 : decode b_M_clash 52 = .ok (.ifCond .lt 23, 3) := by decide +kernel
theorem d_M_clash_55 : decode b_M_clash 55 = .ok (.iload_n 1, 1) := by decide +kernel
theorem d_M_clash_56 : decode b_M_clash 56 = .ok (.ifCond .ne 7, 3) := by decide +kernel
theorem d_M_clash_59 : decode b_M_clash 59 = .ok (.iload_n 2, 1) := by decide +kernel
theorem d_M_clash_60 : decode b_M_clash 60 = .ok (.goto 14, 3) := by decide +kernel
theorem d_M_clash_63 : decode b_M_clash 63 = .ok (.iload_n 1, 1) := by decide +kernel
theorem d_M_clash_64 : decode b_M_clash 64 = .ok (.iconst 1, 1) := by decide +kernel
theorem d_M_clash_65 : decode b_M_clash 65 = .ok (.if_icmp .ne 7, 3) := by decide +kernel
theorem d_M_clash_68 : decode b_M_clash 68 = .ok (.iload_n 3, 1) := by decide +kernel
theorem d_M_clash_69 : decode b_M_clash 69 = .ok (.goto 5, 3) := by decide +kernel
theorem d_M_clash_72 : decode b_M_clash 72 = .ok (.iload 4, 2) := by decide +kernel
theorem d_M_clash_74 : decode b_M_clash 74 = .ok (.ireturn, 1) := by decide +kernel
theorem d_M_clash_75 : decode b_M_clash 75 = .ok (.iinc 3 1, 3) := by decide +kernel
theorem d_M_clash_78 : decode b_M_clash 78 = .ok (.goto (-44), 3) := by decide +kernel
theorem d_M_clash_81 : decode b_M_clash 81 = .ok (.iinc 2 1, 3) := by decide +kernel
theorem d_M_clash_84 : decode b_M_clash 84 = .ok (.goto (-62), 3) := by decide +kernel
theorem d_M_clash_87 : decode b_M_clash 87 = .ok (.iconst (-1), 1) := by decide +kernel
theorem d_M_clash_88 : decode b_M_clash 88 = .ok (.ireturn, 1) := by decide +kernel
theorem d_M_counted_0 : decode b_M_counted 0 = .ok (.aload_n 0, 1) := by decide +kernel
theorem d_M_counted_1 : decode b_M_counted 1 = .ok (.getfield 16, 3) := by decide +kernel
theorem d_M_counted_4 : decode b_M_counted 4 = .ok (.iload_n 1, 1) := by decide +kernel
theorem d_M_counted_5 : decode b_M_counted 5 = .ok (.iaload, 1) := by decide +kernel
theorem d_M_counted_6 : decode b_M_counted 6 = .ok (.ifCond .ge 7, 3) := by decide +kernel
theorem d_M_counted_9 : decode b_M_counted 9 = .ok (.iconst 1, 1) := by decide +kernel
theorem d_M_counted_10 : decode b_M_counted 10 = .ok (.goto 4, 3) := by decide +kernel
theorem d_M_counted_13 : decode b_M_counted 13 = .ok (.iconst 0, 1) := by decide +kernel
theorem d_M_counted_14 : decode b_M_counted 14 = .ok (.istore_n 3, 1) := by decide +kernel
theorem d_M_counted_15 : decode b_M_counted 15 = .ok (.iload_n 2, 1) := by decide +kernel
theorem d_M_counted_16 : decode b_M_counted 16 = .ok (.tableswitch 103 1 6 #[40, 50, 69, 83, 103, 97], 40) := by decide +kernel
theorem d_M_counted_56 : decode b_M_counted 56 = .ok (.iload_n 3, 1) := by decide +kernel
theorem d_M_counted_57 : decode b_M_counted 57 = .ok (.ifCond .eq 7, 3) := by decide +kernel
theorem d_M_counted_60 : decode b_M_counted 60 = .ok (.iconst 1, 1) := by decide +kernel
theorem d_M_counted_61 : decode b_M_counted 61 = .ok (.goto 4, 3) := by decide +kernel
theorem d_M_counted_64 : decode b_M_counted 64 = .ok (.iconst 0, 1) := by decide +kernel
theorem d_M_counted_65 : decode b_M_counted 65 = .ok (.ireturn, 1) := by decide +kernel
theorem d_M_counted_66 : decode b_M_counted 66 = .ok (.iload_n 3, 1) := by decide +kernel
theorem d_M_counted_67 : decode b_M_counted 67 = .ok (.ifCond .ne 16, 3) := by decide +kernel
theorem d_M_counted_70 : decode b_M_counted 70 = .ok (.aload_n 0, 1) := by decide +kernel
theorem d_M_counted_71 : decode b_M_counted 71 = .ok (.getfield 50, 3) := by decide +kernel
theorem d_M_counted_74 : decode b_M_counted 74 = .ok (.iload_n 1, 1) := by decide +kernel
theorem d_M_counted_75 : decode b_M_counted 75 = .ok (.iaload, 1) := by decide +kernel
theorem d_M_counted_76 : decode b_M_counted 76 = .ok (.ifCond .ge 7, 3) := by decide +kernel
theorem d_M_counted_79 : decode b_M_counted 79 = .ok (.iconst 1, 1) := by decide +kernel
theorem d_M_counted_80 : decode b_M_counted 80 = .ok (.goto 4, 3) := by decide +kernel
theorem d_M_counted_83 : decode b_M_counted 83 = .ok (.iconst 0, 1) := by decide +kernel
theorem d_M_counted_84 : decode b_M_counted 84 = .ok (.ireturn, 1) := by decide +kernel
theorem d_M_counted_85 : decode b_M_counted 85 = .ok (.aload_n 0, 1) := by decide +kernel
theorem d_M_counted_86 : decode b_M_counted 86 = .ok (.iload_n 1, 1) := by decide +kernel
theorem d_M_counted_87 : decode b_M_counted 87 = .ok (.invokevirtual 122, 3) := by decide +kernel
theorem d_M_counted_90 : decode b_M_counted 90 = .ok (.ifCond .eq 7, 3) := by decide +kernel
theorem d_M_counted_93 : decode b_M_counted 93 = .ok (.iconst 1, 1) := by decide +kernel
theorem d_M_counted_94 : decode b_M_counted 94 = .ok (.goto 4, 3) := by decide +kernel
theorem d_M_counted_97 : decode b_M_counted 97 = .ok (.iconst 0, 1) := by decide +kernel
theorem d_M_counted_98 : decode b_M_counted 98 = .ok (.ireturn, 1) := by decide +kernel
theorem d_M_counted_99 : decode b_M_counted 99 = .ok (.aload_n 0, 1) := by decide +kernel
theorem d_M_counted_100 : decode b_M_counted 100 = .ok (.iload_n 1, 1) := by decide +kernel
theorem d_M_counted_101 : decode b_M_counted 101 = .ok (.invokevirtual 134, 3) := by decide +kernel
theorem d_M_counted_104 : decode b_M_counted 104 = .ok (.ifCond .eq 7, 3) := by decide +kernel
theorem d_M_counted_107 : decode b_M_counted 107 = .ok (.iconst 1, 1) := by decide +kernel
theorem d_M_counted_108 : decode b_M_counted 108 = .ok (.goto 4, 3) := by decide +kernel
theorem d_M_counted_111 : decode b_M_counted 111 = .ok (.iconst 0, 1) := by decide +kernel
theorem d_M_counted_112 : decode b_M_counted 112 = .ok (.ireturn, 1) := by decide +kernel
theorem d_M_counted_113 : decode b_M_counted 113 = .ok (.aload_n 0, 1) := by decide +kernel
theorem d_M_counted_114 : decode b_M_counted 114 = .ok (.iload_n 1, 1) := by decide +kernel
theorem d_M_counted_115 : decode b_M_counted 115 = .ok (.invokevirtual 125, 3) := by decide +kernel
theorem d_M_counted_118 : decode b_M_counted 118 = .ok (.ireturn, 1) := by decide +kernel
theorem d_M_counted_119 : decode b_M_counted 119 = .ok (.aload_n 0, 1) := by decide +kernel
theorem d_M_counted_120 : decode b_M_counted 120 = .ok (.iload_n 1, 1) := by decide +kernel
theorem d_M_counted_121 : decode b_M_counted 121 = .ok (.invokevirtual 131, 3) := by decide +kernel
theorem d_M_counted_124 : decode b_M_counted 124 = .ok (.ireturn, 1) := by decide +kernel
theorem d_M_count_0 : decode b_M_count 0 = .ok (.iload_n 1, 1) := by decide +kernel
theorem d_M_count_1 : decode b_M_count 1 = .ok (.i2l, 1) := by decide +kernel
theorem d_M_count_2 : decode b_M_count 2 = .ok (.lconst 0, 1) := by decide +kernel
theorem d_M_count_3 : decode b_M_count 3 = .ok (.ldc2_w 148, 3) := by decide +kernel
theorem d_M_count_6 : decode b_M_count 6 = .ok (.invokestatic 67, 3) := by decide +kernel
theorem d_M_count_9 : decode b_M_count 9 = .ok (.ifCond .ne 7, 3) := by decide +kernel
theorem d_M_count_12 : decode b_M_count 12 = .ok (.sipush (-1002), 3) := by decide +kernel
theorem d_M_count_15 : decode b_M_count 15 = .ok (.ireturn, 1) := by decide +kernel
theorem d_M_count_16 : decode b_M_count 16 = .ok (.aload_n 0, 1) := by decide +kernel
theorem d_M_count_17 : decode b_M_count 17 = .ok (.invokevirtual 128, 3) := by decide +kernel
theorem d_M_count_20 : decode b_M_count 20 = .ok (.iload_n 1, 1) := by decide +kernel
theorem d_M_count_21 : decode b_M_count 21 = .ok (.ifCond .eq 8, 3) := by decide +kernel
theorem d_M_count_24 : decode b_M_count 24 = .ok (.iload_n 1, 1) := by decide +kernel
theorem d_M_count_25 : decode b_M_count 25 = .ok (.iconst 5, 1) := by decide +kernel
theorem d_M_count_26 : decode b_M_count 26 = .ok (.if_icmp .ne 19, 3) := by decide +kernel
theorem d_M_count_29 : decode b_M_count 29 = .ok (.iload_n 1, 1) := by decide +kernel
theorem d_M_count_30 : decode b_M_count 30 = .ok (.ifCond .ne 10, 3) := by decide +kernel
theorem d_M_count_33 : decode b_M_count 33 = .ok (.aload_n 0, 1) := by decide +kernel
theorem d_M_count_34 : decode b_M_count 34 = .ok (.getfield 71, 3) := by decide +kernel
theorem d_M_count_37 : decode b_M_count 37 = .ok (.goto 7, 3) := by decide +kernel
theorem d_M_count_40 : decode b_M_count 40 = .ok (.aload_n 0, 1) := by decide +kernel
theorem d_M_count_41 : decode b_M_count 41 = .ok (.invokevirtual 150, 3) := by decide +kernel
theorem d_M_count_44 : decode b_M_count 44 = .ok (.ireturn, 1) := by decide +kernel
theorem d_M_count_45 : decode b_M_count 45 = .ok (.iload_n 1, 1) := by decide +kernel
theorem d_M_count_46 : decode b_M_count 46 = .ok (.bipush 8, 2) := by decide +kernel
theorem d_M_count_48 : decode b_M_count 48 = .ok (.if_icmp .ne 7, 3) := by decide +kernel
theorem d_M_count_51 : decode b_M_count 51 = .ok (.iconst (-1), 1) := by decide +kernel
theorem d_M_count_52 : decode b_M_count 52 = .ok (.goto 4, 3) := by decide +kernel
theorem d_M_count_55 : decode b_M_count 55 = .ok (.iconst 0, 1) := by decide +kernel
theorem d_M_count_56 : decode b_M_count 56 = .ok (.istore_n 2, 1) := by decide +kernel
theorem d_M_count_57 : decode b_M_count 57 = .ok (.iconst 0, 1) := by decide +kernel
theorem d_M_count_58 : decode b_M_count 58 = .ok (.istore_n 3, 1) := by decide +kernel
theorem d_M_count_59 : decode b_M_count 59 = .ok (.iload_n 3, 1) := by decide +kernel
theorem d_M_count_60 : decode b_M_count 60 = .ok (.aload_n 0, 1) := by decide +kernel
theorem d_M_count_61 : decode b_M_count 61 = .ok (.getfield 71, 3) := by decide +kernel
theorem d_M_count_64 : decode b_M_count 64 = .ok (.if_icmp .ge 47, 3) := by decide +kernel
theorem d_M_count_67 : decode b_M_count 67 = .ok (.iload_n 1, 1) := by decide +kernel
theorem d_M_count_68 : decode b_M_count 68 = .ok (.bipush 8, 2) := by decide +kernel
theorem d_M_count_70 : decode b_M_count 70 = .ok (.if_icmp .ne 26, 3) := by decide +kernel
theorem d_M_count_73 : decode b_M_count 73 = .ok (.aload_n 0, 1) := by decide +kernel
theorem d_M_count_74 : decode b_M_count 74 = .ok (.iload_n 3, 1) := by decide +kernel
theorem d_M_count_75 : decode b_M_count 75 = .ok (.invokevirtual 137, 3) := by decide +kernel
theorem d_M_count_78 : decode b_M_count 78 = .ok (.istore 4, 2) := by decide +kernel
theorem d_M_count_80 : decode b_M_count 80 = .ok (.iload 4, 2) := by decide +kernel
theorem d_M_count_82 : decode b_M_count 82 = .ok (.iload_n 2, 1) := by decide +kernel
theorem d_M_count_83 : decode b_M_count 83 = .ok (.if_icmp .le 8, 3) := by decide +kernel
theorem d_M_count_86 : decode b_M_count 86 = .ok (.iload 4, 2) := by decide +kernel
theorem d_M_count_88 : decode b_M_count 88 = .ok (.goto 4, 3) := by decide +kernel
theorem d_M_count_91 : decode b_M_count 91 = .ok (.iload_n 2, 1) := by decide +kernel
theorem d_M_count_92 : decode b_M_count 92 = .ok (.istore_n 2, 1) := by decide +kernel
theorem d_M_count_93 : decode b_M_count 93 = .ok (.goto 12, 3) := by decide +kernel
theorem d_M_count_96 : decode b_M_count 96 = .ok (.iload_n 2, 1) := by decide +kernel
theorem d_M_count_97 : decode b_M_count 97 = .ok (.aload_n 0, 1) := by decide +kernel
theorem d_M_count_98 : decode b_M_count 98 = .ok (.iload_n 3, 1) := by decide +kernel
theorem d_M_count_99 : decode b_M_count 99 = .ok (.iload_n 1, 1) := by decide +kernel
theorem d_M_count_100 : decode b_M_count 100 = .ok (.invokevirtual 154, 3) := by decide +kernel
theorem d_M_count_103 : decode b_M_count 103 = .ok (.iadd, 1) := by decide +kernel
theorem d_M_count_104 : decode b_M_count 104 = .ok (.istore_n 2, 1) := by decide +kernel
theorem d_M_count_105 : decode b_M_count 105 = .ok (.iinc 3 1, 3) := by decide +kernel
theorem d_M_count_108 : decode b_M_count 108 = .ok (.goto (-49), 3) := by decide +kernel
theorem d_M_count_111 : decode b_M_count 111 = .ok (.iload_n 2, 1) := by decide +kernel
theorem d_M_count_112 : decode b_M_count 112 = .ok (.ireturn, 1) := by decide +kernel
theorem d_M_fewestBars_0 : decode b_M_fewestBars 0 = .ok (.aload_n 0, 1) := by decide +kernel
theorem d_M_fewestBars_1 : decode b_M_fewestBars 1 = .ok (.getfield 35, 3) := by decide +kernel
theorem d_M_fewestBars_4 : decode b_M_fewestBars 4 = .ok (.iconst 3, 1) := by decide +kernel
theorem d_M_fewestBars_5 : decode b_M_fewestBars 5 = .ok (.iaload, 1) := by decide +kernel
theorem d_M_fewestBars_6 : decode b_M_fewestBars 6 = .ok (.istore_n 1, 1) := by decide +kernel
theorem d_M_fewestBars_7 : decode b_M_fewestBars 7 = .ok (.aload_n 0, 1) := by decide +kernel
theorem d_M_fewestBars_8 : decode b_M_fewestBars 8 = .ok (.getfield 59, 3) := by decide +kernel
theorem d_M_fewestBars_11 : decode b_M_fewestBars 11 = .ok (.iconst 0, 1) := by decide +kernel
theorem d_M_fewestBars_12 : decode b_M_fewestBars 12 = .ok (.iconst 0, 1) := by decide +kernel
theorem d_M_fewestBars_13 : decode b_M_fewestBars 13 = .ok (.iastore, 1) := by decide +kernel
theorem d_M_fewestBars_14 : decode b_M_fewestBars 14 = .ok (.aload_n 0, 1) := by decide +kernel
theorem d_M_fewestBars_15 : decode b_M_fewestBars 15 = .ok (.getfield 62, 3) := by decide +kernel
theorem d_M_fewestBars_18 : decode b_M_fewestBars 18 = .ok (.iconst 0, 1) := by decide +kernel
theorem d_M_fewestBars_19 : decode b_M_fewestBars 19 = .ok (.iload_n 1, 1) := by decide +kernel
theorem d_M_fewestBars_20 : decode b_M_fewestBars 20 = .ok (.iastore, 1) := by decide +kernel
theorem d_M_fewestBars_21 : decode b_M_fewestBars 21 = .ok (.iconst 1, 1) := by decide +kernel
theorem d_M_fewestBars_22 : decode b_M_fewestBars 22 = .ok (.istore_n 2, 1) := by decide +kernel
theorem d_M_fewestBars_23 : decode b_M_fewestBars 23 = .ok (.iload_n 2, 1) := by decide +kernel
theorem d_M_fewestBars_24 : decode b_M_fewestBars 24 = .ok (.iconst 1, 1) := by decide +kernel
theorem d_M_fewestBars_25 : decode b_M_fewestBars 25 = .ok (.aload_n 0, 1) := by decide +kernel
theorem d_M_fewestBars_26 : decode b_M_fewestBars 26 = .ok (.getfield 157, 3) := by decide +kernel
theorem d_M_fewestBars_29 : decode b_M_fewestBars 29 = .ok (.ishl, 1) := by decide +kernel
theorem d_M_fewestBars_30 : decode b_M_fewestBars 30 = .ok (.if_icmp .ge 188, 3) := by decide +kernel
theorem d_M_fewestBars_33 : decode b_M_fewestBars 33 = .ok (.aload_n 0, 1) := by decide +kernel
theorem d_M_fewestBars_34 : decode b_M_fewestBars 34 = .ok (.getfield 59, 3) := by decide +kernel
theorem d_M_fewestBars_37 : decode b_M_fewestBars 37 = .ok (.iload_n 2, 1) := by decide +kernel
theorem d_M_fewestBars_38 : decode b_M_fewestBars 38 = .ok (.ldc 81, 2) := by decide +kernel
theorem d_M_fewestBars_40 : decode b_M_fewestBars 40 = .ok (.iastore, 1) := by decide +kernel
theorem d_M_fewestBars_41 : decode b_M_fewestBars 41 = .ok (.aload_n 0, 1) := by decide +kernel
theorem d_M_fewestBars_42 : decode b_M_fewestBars 42 = .ok (.getfield 62, 3) := by decide +kernel
theorem d_M_fewestBars_45 : decode b_M_fewestBars 45 = .ok (.iload_n 2, 1) := by decide +kernel
theorem d_M_fewestBars_46 : decode b_M_fewestBars 46 = .ok (.iconst 0, 1) := by decide +kernel
theorem d_M_fewestBars_47 : decode b_M_fewestBars 47 = .ok (.iastore, 1) := by decide +kernel
theorem d_M_fewestBars_48 : decode b_M_fewestBars 48 = .ok (.iconst 0, 1) := by decide +kernel
theorem d_M_fewestBars_49 : decode b_M_fewestBars 49 = .ok (.istore_n 3, 1) := by decide +kernel
theorem d_M_fewestBars_50 : decode b_M_fewestBars 50 = .ok (.iload_n 3, 1) := by decide +kernel
theorem d_M_fewestBars_51 : decode b_M_fewestBars 51 = .ok (.aload_n 0, 1) := by decide +kernel
theorem d_M_fewestBars_52 : decode b_M_fewestBars 52 = .ok (.getfield 157, 3) := by decide +kernel
theorem d_M_fewestBars_55 : decode b_M_fewestBars 55 = .ok (.if_icmp .ge 157, 3) := by decide +kernel
theorem d_M_fewestBars_58 : decode b_M_fewestBars 58 = .ok (.iload_n 2, 1) := by decide +kernel
theorem d_M_fewestBars_59 : decode b_M_fewestBars 59 = .ok (.iload_n 3, 1) := by decide +kernel
theorem d_M_fewestBars_60 : decode b_M_fewestBars 60 = .ok (.ishr, 1) := by decide +kernel
theorem d_M_fewestBars_61 : decode b_M_fewestBars 61 = .ok (.iconst 1, 1) := by decide +kernel
theorem d_M_fewestBars_62 : decode b_M_fewestBars 62 = .ok (.iand, 1) := by decide +kernel
theorem d_M_fewestBars_63 : decode b_M_fewestBars 63 = .ok (.iconst 1, 1) := by decide +kernel
theorem d_M_fewestBars_64 : decode b_M_fewestBars 64 = .ok (.if_icmp .ne 142, 3) := by decide +kernel
theorem d_M_fewestBars_67 : decode b_M_fewestBars 67 = .ok (.iload_n 2, 1) := by decide +kernel
theorem d_M_fewestBars_68 : decode b_M_fewestBars 68 = .ok (.iconst 1, 1) := by decide +kernel
theorem d_M_fewestBars_69 : decode b_M_fewestBars 69 = .ok (.iload_n 3, 1) := by decide +kernel
theorem d_M_fewestBars_70 : decode b_M_fewestBars 70 = .ok (.ishl, 1) := by decide +kernel
theorem d_M_fewestBars_71 : decode b_M_fewestBars 71 = .ok (.iconst (-1), 1) := by decide +kernel
theorem d_M_fewestBars_72 : decode b_M_fewestBars 72 = .ok (.ixor, 1) := by decide +kernel
theorem d_M_fewestBars_73 : decode b_M_fewestBars 73 = .ok (.iand, 1) := by decide +kernel
theorem d_M_fewestBars_74 : decode b_M_fewestBars 74 = .ok (.istore 4, 2) := by decide +kernel
theorem d_M_fewestBars_76 : decode b_M_fewestBars 76 = .ok (.aload_n 0, 1) := by decide +kernel
theorem d_M_fewestBars_77 : decode b_M_fewestBars 77 = .ok (.getfield 62, 3) := by decide +kernel
theorem d_M_fewestBars_80 : decode b_M_fewestBars 80 = .ok (.iload 4, 2) := by decide +kernel
theorem d_M_fewestBars_82 : decode b_M_fewestBars 82 = .ok (.iaload, 1) := by decide +kernel
theorem d_M_fewestBars_83 : decode b_M_fewestBars 83 = .ok (.aload_n 0, 1) := by decide +kernel
theorem d_M_fewestBars_84 : decode b_M_fewestBars 84 = .ok (.getfield 56, 3) := by decide +kernel
theorem d_M_fewestBars_87 : decode b_M_fewestBars 87 = .ok (.iload_n 3, 1) := by decide +kernel
theorem d_M_fewestBars_88 : decode b_M_fewestBars 88 = .ok (.iaload, 1) := by decide +kernel
theorem d_M_fewestBars_89 : decode b_M_fewestBars 89 = .ok (.iadd, 1) := by decide +kernel
theorem d_M_fewestBars_90 : decode b_M_fewestBars 90 = .ok (.iload_n 1, 1) := by decide +kernel
theorem d_M_fewestBars_91 : decode b_M_fewestBars 91 = .ok (.if_icmp .gt 7, 3) := by decide +kernel
theorem d_M_fewestBars_94 : decode b_M_fewestBars 94 = .ok (.iconst 1, 1) := by decide +kernel
theorem d_M_fewestBars_95 : decode b_M_fewestBars 95 = .ok (.goto 4, 3) := by decide +kernel
theorem d_M_fewestBars_98 : decode b_M_fewestBars 98 = .ok (.iconst 0, 1) := by decide +kernel
theorem d_M_fewestBars_99 : decode b_M_fewestBars 99 = .ok (.istore 5, 2) := by decide +kernel
theorem d_M_fewestBars_101 : decode b_M_fewestBars 101 = .ok (.iload 5, 2) := by decide +kernel
theorem d_M_fewestBars_103 : decode b_M_fewestBars 103 = .ok (.ifCond .eq 13, 3) := by decide +kernel
theorem d_M_fewestBars_106 : decode b_M_fewestBars 106 = .ok (.aload_n 0, 1) := by decide +kernel
theorem d_M_fewestBars_107 : decode b_M_fewestBars 107 = .ok (.getfield 59, 3) := by decide +kernel
theorem d_M_fewestBars_110 : decode b_M_fewestBars 110 = .ok (.iload 4, 2) := by decide +kernel
theorem d_M_fewestBars_112 : decode b_M_fewestBars 112 = .ok (.iaload, 1) := by decide +kernel
theorem d_M_fewestBars_113 : decode b_M_fewestBars 113 = .ok (.goto 12, 3) := by decide +kernel
theorem d_M_fewestBars_116 : decode b_M_fewestBars 116 = .ok (.aload_n 0, 1) := by decide +kernel
theorem d_M_fewestBars_117 : decode b_M_fewestBars 117 = .ok (.getfield 59, 3) := by decide +kernel
theorem d_M_fewestBars_120 : decode b_M_fewestBars 120 = .ok (.iload 4, 2) := by decide +kernel
theorem d_M_fewestBars_122 : decode b_M_fewestBars 122 = .ok (.iaload, 1) := by decide +kernel
theorem d_M_fewestBars_123 : decode b_M_fewestBars 123 = .ok (.iconst 1, 1) := by decide +kernel
theorem d_M_fewestBars_124 : decode b_M_fewestBars 124 = .ok (.iadd, 1) := by decide +kernel
theorem d_M_fewestBars_125 : decode b_M_fewestBars 125 = .ok (.istore 6, 2) := by decide +kernel
theorem d_M_fewestBars_127 : decode b_M_fewestBars 127 = .ok (.iload 5, 2) := by decide +kernel
theorem d_M_fewestBars_129 : decode b_M_fewestBars 129 = .ok (.ifCond .eq 20, 3) := by decide +kernel
theorem d_M_fewestBars_132 : decode b_M_fewestBars 132 = .ok (.aload_n 0, 1) := by decide +kernel
theorem d_M_fewestBars_133 : decode b_M_fewestBars 133 = .ok (.getfield 62, 3) := by decide +kernel
theorem d_M_fewestBars_136 : decode b_M_fewestBars 136 = .ok (.iload 4, 2) := by decide +kernel
theorem d_M_fewestBars_138 : decode b_M_fewestBars 138 = .ok (.iaload, 1) := by decide +kernel
theorem d_M_fewestBars_139 : decode b_M_fewestBars 139 = .ok (.aload_n 0, 1) := by decide +kernel
theorem d_M_fewestBars_140 : decode b_M_fewestBars 140 = .ok (.getfield 56, 3) := by decide +kernel
theorem d_M_fewestBars_143 : decode b_M_fewestBars 143 = .ok (.iload_n 3, 1) := by decide +kernel
theorem d_M_fewestBars_144 : decode b_M_fewestBars 144 = .ok (.iaload, 1) := by decide +kernel
theorem d_M_fewestBars_145 : decode b_M_fewestBars 145 = .ok (.iadd, 1) := by decide +kernel
theorem d_M_fewestBars_146 : decode b_M_fewestBars 146 = .ok (.goto 9, 3) := by decide +kernel
theorem d_M_fewestBars_149 : decode b_M_fewestBars 149 = .ok (.aload_n 0, 1) := by decide +kernel
theorem d_M_fewestBars_150 : decode b_M_fewestBars 150 = .ok (.getfield 56, 3) := by decide +kernel
theorem d_M_fewestBars_153 : decode b_M_fewestBars 153 = .ok (.iload_n 3, 1) := by decide +kernel
theorem d_M_fewestBars_154 : decode b_M_fewestBars 154 = .ok (.iaload, 1) := by decide +kernel
theorem d_M_fewestBars_155 : decode b_M_fewestBars 155 = .ok (.istore 7, 2) := by decide +kernel
theorem d_M_fewestBars_157 : decode b_M_fewestBars 157 = .ok (.iload 6, 2) := by decide +kernel
theorem d_M_fewestBars_159 : decode b_M_fewestBars 159 = .ok (.aload_n 0, 1) := by decide +kernel
theorem d_M_fewestBars_160 : decode b_M_fewestBars 160 = .ok (.getfield 59, 3) := by decide +kernel
theorem d_M_fewestBars_163 : decode b_M_fewestBars 163 = .ok (.iload_n 2, 1) := by decide +kernel
theorem d_M_fewestBars_164 : decode b_M_fewestBars 164 = .ok (.iaload, 1) := by decide +kernel
theorem d_M_fewestBars_165 : decode b_M_fewestBars 165 = .ok (.if_icmp .lt 25, 3) := by decide +kernel
theorem d_M_fewestBars_168 : decode b_M_fewestBars 168 = .ok (.iload 6, 2) := by decide +kernel
theorem d_M_fewestBars_170 : decode b_M_fewestBars 170 = .ok (.aload_n 0, 1) := by decide +kernel
theorem d_M_fewestBars_171 : decode b_M_fewestBars 171 = .ok (.getfield 59, 3) := by decide +kernel
theorem d_M_fewestBars_174 : decode b_M_fewestBars 174 = .ok (.iload_n 2, 1) := by decide +kernel
theorem d_M_fewestBars_175 : decode b_M_fewestBars 175 = .ok (.iaload, 1) := by decide +kernel
theorem d_M_fewestBars_176 : decode b_M_fewestBars 176 = .ok (.if_icmp .ne 30, 3) := by decide +kernel
theorem d_M_fewestBars_179 : decode b_M_fewestBars 179 = .ok (.iload 7, 2) := by decide +kernel
theorem d_M_fewestBars_181 : decode b_M_fewestBars 181 = .ok (.aload_n 0, 1) := by decide +kernel
theorem d_M_fewestBars_182 : decode b_M_fewestBars 182 = .ok (.getfield 62, 3) := by decide +kernel
theorem d_M_fewestBars_185 : decode b_M_fewestBars 185 = .ok (.iload_n 2, 1) := by decide +kernel
theorem d_M_fewestBars_186 : decode b_M_fewestBars 186 = .ok (.iaload, 1) := by decide +kernel
theorem d_M_fewestBars_187 : decode b_M_fewestBars 187 = .ok (.if_icmp .ge 19, 3) := by decide +kernel
theorem d_M_fewestBars_190 : decode b_M_fewestBars 190 = .ok (.aload_n 0, 1) := by decide +kernel
theorem d_M_fewestBars_191 : decode b_M_fewestBars 191 = .ok (.getfield 59, 3) := by decide +kernel
theorem d_M_fewestBars_194 : decode b_M_fewestBars 194 = .ok (.iload_n 2, 1) := by decide +kernel
theorem d_M_fewestBars_195 : decode b_M_fewestBars 195 = .ok (.iload 6, 2) := by decide +kernel
theorem d_M_fewestBars_197 : decode b_M_fewestBars 197 = .ok (.iastore, 1) := by decide +kernel
theorem d_M_fewestBars_198 : decode b_M_fewestBars 198 = .ok (.aload_n 0, 1) := by decide +kernel
theorem d_M_fewestBars_199 : decode b_M_fewestBars 199 = .ok (.getfield 62, 3) := by decide +kernel
theorem d_M_fewestBars_202 : decode b_M_fewestBars 202 = .ok (.iload_n 2, 1) := by decide +kernel
theorem d_M_fewestBars_203 : decode b_M_fewestBars 203 = .ok (.iload 7, 2) := by decide +kernel
theorem d_M_fewestBars_205 : decode b_M_fewestBars 205 = .ok (.iastore, 1) := by decide +kernel
theorem d_M_fewestBars_206 : decode b_M_fewestBars 206 = .ok (.iinc 3 1, 3) := by decide +kernel
theorem d_M_fewestBars_209 : decode b_M_fewestBars 209 = .ok (.goto (-159), 3) := by decide +kernel
theorem d_M_fewestBars_212 : decode b_M_fewestBars 212 = .ok (.iinc 2 1, 3) := by decide +kernel
theorem d_M_fewestBars_215 : decode b_M_fewestBars 215 = .ok (.goto (-192), 3) := by decide +kernel
theorem d_M_fewestBars_218 : decode b_M_fewestBars 218 = .ok (.aload_n 0, 1) := by decide +kernel
theorem d_M_fewestBars_219 : decode b_M_fewestBars 219 = .ok (.getfield 59, 3) := by decide +kernel
theorem d_M_fewestBars_222 : decode b_M_fewestBars 222 = .ok (.iconst 1, 1) := by decide +kernel
theorem d_M_fewestBars_223 : decode b_M_fewestBars 223 = .ok (.aload_n 0, 1) := by decide +kernel
theorem d_M_fewestBars_224 : decode b_M_fewestBars 224 = .ok (.getfield 157, 3) := by decide +kernel
theorem d_M_fewestBars_227 : decode b_M_fewestBars 227 = .ok (.ishl, 1) := by decide +kernel
theorem d_M_fewestBars_228 : decode b_M_fewestBars 228 = .ok (.iconst 1, 1) := by decide +kernel
theorem d_M_fewestBars_229 : decode b_M_fewestBars 229 = .ok (.isub, 1) := by decide +kernel
theorem d_M_fewestBars_230 : decode b_M_fewestBars 230 = .ok (.iaload, 1) := by decide +kernel
theorem d_M_fewestBars_231 : decode b_M_fewestBars 231 = .ok (.ireturn, 1) := by decide +kernel
theorem d_M_bars_0 : decode b_M_bars 0 = .ok (.iload_n 1, 1) := by decide +kernel
theorem d_M_bars_1 : decode b_M_bars 1 = .ok (.i2l, 1) := by decide +kernel
theorem d_M_bars_2 : decode b_M_bars 2 = .ok (.lconst 0, 1) := by decide +kernel
theorem d_M_bars_3 : decode b_M_bars 3 = .ok (.ldc2_w 115, 3) := by decide +kernel
theorem d_M_bars_6 : decode b_M_bars 6 = .ok (.invokestatic 67, 3) := by decide +kernel
theorem d_M_bars_9 : decode b_M_bars 9 = .ok (.ifCond .eq 15, 3) := by decide +kernel
theorem d_M_bars_12 : decode b_M_bars 12 = .ok (.iload_n 2, 1) := by decide +kernel
theorem d_M_bars_13 : decode b_M_bars 13 = .ok (.i2l, 1) := by decide +kernel
theorem d_M_bars_14 : decode b_M_bars 14 = .ok (.lconst 0, 1) := by decide +kernel
theorem d_M_bars_15 : decode b_M_bars 15 = .ok (.ldc2_w 113, 3) := by decide +kernel
theorem d_M_bars_18 : decode b_M_bars 18 = .ok (.invokestatic 67, 3) := by decide +kernel
theorem d_M_bars_21 : decode b_M_bars 21 = .ok (.ifCond .ne 7, 3) := by decide +kernel
theorem d_M_bars_24 : decode b_M_bars 24 = .ok (.sipush (-1002), 3) := by decide +kernel
theorem d_M_bars_27 : decode b_M_bars 27 = .ok (.ireturn, 1) := by decide +kernel
theorem d_M_bars_28 : decode b_M_bars 28 = .ok (.aload_n 0, 1) := by decide +kernel
theorem d_M_bars_29 : decode b_M_bars 29 = .ok (.invokevirtual 128, 3) := by decide +kernel
theorem d_M_bars_32 : decode b_M_bars 32 = .ok (.aload_n 0, 1) := by decide +kernel
theorem d_M_bars_33 : decode b_M_bars 33 = .ok (.getfield 35, 3) := by decide +kernel
theorem d_M_bars_36 : decode b_M_bars 36 = .ok (.iconst 3, 1) := by decide +kernel
theorem d_M_bars_37 : decode b_M_bars 37 = .ok (.iaload, 1) := by decide +kernel
theorem d_M_bars_38 : decode b_M_bars 38 = .ok (.istore_n 3, 1) := by decide +kernel
theorem d_M_bars_39 : decode b_M_bars 39 = .ok (.iconst 0, 1) := by decide +kernel
theorem d_M_bars_40 : decode b_M_bars 40 = .ok (.istore 4, 2) := by decide +kernel
theorem d_M_bars_42 : decode b_M_bars 42 = .ok (.iconst 0, 1) := by decide +kernel
theorem d_M_bars_43 : decode b_M_bars 43 = .ok (.istore 5, 2) := by decide +kernel
theorem d_M_bars_45 : decode b_M_bars 45 = .ok (.iconst 0, 1) := by decide +kernel
theorem d_M_bars_46 : decode b_M_bars 46 = .ok (.istore 6, 2) := by decide +kernel
theorem d_M_bars_48 : decode b_M_bars 48 = .ok (.aload_n 0, 1) := by decide +kernel
theorem d_M_bars_49 : decode b_M_bars 49 = .ok (.iconst 0, 1) := by decide +kernel
theorem d_M_bars_50 : decode b_M_bars 50 = .ok (.putfield 157, 3) := by decide +kernel
theorem d_M_bars_53 : decode b_M_bars 53 = .ok (.iconst 0, 1) := by decide +kernel
theorem d_M_bars_54 : decode b_M_bars 54 = .ok (.istore 7, 2) := by decide +kernel
theorem d_M_bars_56 : decode b_M_bars 56 = .ok (.iload 7, 2) := by decide +kernel
theorem d_M_bars_58 : decode b_M_bars 58 = .ok (.aload_n 0, 1) := by decide +kernel
theorem d_M_bars_59 : decode b_M_bars 59 = .ok (.getfield 71, 3) := by decide +kernel
theorem d_M_bars_62 : decode b_M_bars 62 = .ok (.if_icmp .ge 99, 3) := by decide +kernel
theorem d_M_bars_65 : decode b_M_bars 65 = .ok (.aload_n 0, 1) := by decide +kernel
theorem d_M_bars_66 : decode b_M_bars 66 = .ok (.getfield 16, 3) := by decide +kernel
theorem d_M_bars_69 : decode b_M_bars 69 = .ok (.iload 7, 2) := by decide +kernel
theorem d_M_bars_71 : decode b_M_bars 71 = .ok (.iaload, 1) := by decide +kernel
theorem d_M_bars_72 : decode b_M_bars 72 = .ok (.ifCond .lt 83, 3) := by decide +kernel
theorem d_M_bars_75 : decode b_M_bars 75 = .ok (.aload_n 0, 1) := by decide +kernel
theorem d_M_bars_76 : decode b_M_bars 76 = .ok (.getfield 50, 3) := by decide +kernel
theorem d_M_bars_79 : decode b_M_bars 79 = .ok (.iload 7, 2) := by decide +kernel
theorem d_M_bars_81 : decode b_M_bars 81 = .ok (.iaload, 1) := by decide +kernel
theorem d_M_bars_82 : decode b_M_bars 82 = .ok (.iload_n 1, 1) := by decide +kernel
theorem d_M_bars_83 : decode b_M_bars 83 = .ok (.if_icmp .ne 72, 3) := by decide +kernel
theorem d_M_bars_86 : decode b_M_bars 86 = .ok (.aload_n 0, 1) := by decide +kernel
theorem d_M_bars_87 : decode b_M_bars 87 = .ok (.iload 7, 2) := by decide +kernel
theorem d_M_bars_89 : decode b_M_bars 89 = .ok (.invokevirtual 125, 3) := by decide +kernel
theorem d_M_bars_92 : decode b_M_bars 92 = .ok (.istore 8, 2) := by decide +kernel
theorem d_M_bars_94 : decode b_M_bars 94 = .ok (.iinc 6 1, 3) := by decide +kernel
theorem d_M_bars_97 : decode b_M_bars 97 = .ok (.iload 5, 2) := by decide +kernel
theorem d_M_bars_99 : decode b_M_bars 99 = .ok (.iload 8, 2) := by decide +kernel
theorem d_M_bars_101 : decode b_M_bars 101 = .ok (.iadd, 1) := by decide +kernel
theorem d_M_bars_102 : decode b_M_bars 102 = .ok (.istore 5, 2) := by decide +kernel
theorem d_M_bars_104 : decode b_M_bars 104 = .ok (.iload 8, 2) := by decide +kernel
theorem d_M_bars_106 : decode b_M_bars 106 = .ok (.istore 9, 2) := by decide +kernel
theorem d_M_bars_108 : decode b_M_bars 108 = .ok (.iload 8, 2) := by decide +kernel
theorem d_M_bars_110 : decode b_M_bars 110 = .ok (.iload_n 3, 1) := by decide +kernel
theorem d_M_bars_111 : decode b_M_bars 111 = .ok (.if_icmp .le 18, 3) := by decide +kernel
theorem d_M_bars_114 : decode b_M_bars 114 = .ok (.iload 4, 2) := by decide +kernel
theorem d_M_bars_116 : decode b_M_bars 116 = .ok (.iload 8, 2) := by decide +kernel
theorem d_M_bars_118 : decode b_M_bars 118 = .ok (.iload_n 3, 1) := by decide +kernel
theorem d_M_bars_119 : decode b_M_bars 119 = .ok (.idiv, 1) := by decide +kernel
theorem d_M_bars_120 : decode b_M_bars 120 = .ok (.iadd, 1) := by decide +kernel
theorem d_M_bars_121 : decode b_M_bars 121 = .ok (.istore 4, 2) := by decide +kernel
theorem d_M_bars_123 : decode b_M_bars 123 = .ok (.iload 8, 2) := by decide +kernel
theorem d_M_bars_125 : decode b_M_bars 125 = .ok (.iload_n 3, 1) := by decide +kernel
theorem d_M_bars_126 : decode b_M_bars 126 = .ok (.irem, 1) := by decide +kernel
theorem d_M_bars_127 : decode b_M_bars 127 = .ok (.istore 9, 2) := by decide +kernel
theorem d_M_bars_129 : decode b_M_bars 129 = .ok (.iload 9, 2) := by decide +kernel
theorem d_M_bars_131 : decode b_M_bars 131 = .ok (.ifCond .le 24, 3) := by decide +kernel
theorem d_M_bars_134 : decode b_M_bars 134 = .ok (.aload_n 0, 1) := by decide +kernel
theorem d_M_bars_135 : decode b_M_bars 135 = .ok (.getfield 56, 3) := by decide +kernel
theorem d_M_bars_138 : decode b_M_bars 138 = .ok (.aload_n 0, 1) := by decide +kernel
theorem d_M_bars_139 : decode b_M_bars 139 = .ok (.getfield 157, 3) := by decide +kernel
theorem d_M_bars_142 : decode b_M_bars 142 = .ok (.iload 9, 2) := by decide +kernel
theorem d_M_bars_144 : decode b_M_bars 144 = .ok (.iastore, 1) := by decide +kernel
theorem d_M_bars_145 : decode b_M_bars 145 = .ok (.aload_n 0, 1) := by decide +kernel
theorem d_M_bars_146 : decode b_M_bars 146 = .ok (.dup, 1) := by decide +kernel
theorem d_M_bars_147 : decode b_M_bars 147 = .ok (.getfield 157, 3) := by decide +kernel
theorem d_M_bars_150 : decode b_M_bars 150 = .ok (.iconst 1, 1) := by decide +kernel
theorem d_M_bars_151 : decode b_M_bars 151 = .ok (.iadd, 1) := by decide +kernel
theorem d_M_bars_152 : decode b_M_bars 152 = .ok (.putfield 157, 3) := by decide +kernel
theorem d_M_bars_155 : decode b_M_bars 155 = .ok (.iinc 7 1, 3) := by decide +kernel
theorem d_M_bars_158 : decode b_M_bars 158 = .ok (.goto (-102), 3) := by decide +kernel
theorem d_M_bars_161 : decode b_M_bars 161 = .ok (.iload_n 2, 1) := by decide +kernel
theorem d_M_bars_162 : decode b_M_bars 162 = .ok (.ifCond .eq 8, 3) := by decide +kernel
theorem d_M_bars_165 : decode b_M_bars 165 = .ok (.iload_n 2, 1) := by decide +kernel
theorem d_M_bars_166 : decode b_M_bars 166 = .ok (.iconst 3, 1) := by decide +kernel
theorem d_M_bars_167 : decode b_M_bars 167 = .ok (.if_icmp .ne 17, 3) := by decide +kernel
theorem d_M_bars_170 : decode b_M_bars 170 = .ok (.iload_n 2, 1) := by decide +kernel
theorem d_M_bars_171 : decode b_M_bars 171 = .ok (.ifCond .ne 10, 3) := by decide +kernel
theorem d_M_bars_174 : decode b_M_bars 174 = .ok (.aload_n 0, 1) := by decide +kernel
theorem d_M_bars_175 : decode b_M_bars 175 = .ok (.getfield 157, 3) := by decide +kernel
theorem d_M_bars_178 : decode b_M_bars 178 = .ok (.goto 5, 3) := by decide +kernel
theorem d_M_bars_181 : decode b_M_bars 181 = .ok (.iload 6, 2) := by decide +kernel
theorem d_M_bars_183 : decode b_M_bars 183 = .ok (.ireturn, 1) := by decide +kernel
theorem d_M_bars_184 : decode b_M_bars 184 = .ok (.aload_n 0, 1) := by decide +kernel
theorem d_M_bars_185 : decode b_M_bars 185 = .ok (.getfield 157, 3) := by decide +kernel
theorem d_M_bars_188 : decode b_M_bars 188 = .ok (.bipush 12, 2) := by decide +kernel
theorem d_M_bars_190 : decode b_M_bars 190 = .ok (.if_icmp .le 7, 3) := by decide +kernel
theorem d_M_bars_193 : decode b_M_bars 193 = .ok (.sipush (-1003), 3) := by decide +kernel
theorem d_M_bars_196 : decode b_M_bars 196 = .ok (.ireturn, 1) := by decide +kernel
theorem d_M_bars_197 : decode b_M_bars 197 = .ok (.iload 4, 2) := by decide +kernel
theorem d_M_bars_199 : decode b_M_bars 199 = .ok (.aload_n 0, 1) := by decide +kernel
theorem d_M_bars_200 : decode b_M_bars 200 = .ok (.invokevirtual 160, 3) := by decide +kernel
theorem d_M_bars_203 : decode b_M_bars 203 = .ok (.iadd, 1) := by decide +kernel
theorem d_M_bars_204 : decode b_M_bars 204 = .ok (.istore 7, 2) := by decide +kernel
theorem d_M_bars_206 : decode b_M_bars 206 = .ok (.iload_n 2, 1) := by decide +kernel
theorem d_M_bars_207 : decode b_M_bars 207 = .ok (.iconst 1, 1) := by decide +kernel
theorem d_M_bars_208 : decode b_M_bars 208 = .ok (.if_icmp .ne 8, 3) := by decide +kernel
theorem d_M_bars_211 : decode b_M_bars 211 = .ok (.iload 7, 2) := by decide +kernel
theorem d_M_bars_213 : decode b_M_bars 213 = .ok (.goto 10, 3) := by decide +kernel
theorem d_M_bars_216 : decode b_M_bars 216 = .ok (.iload 7, 2) := by decide +kernel
theorem d_M_bars_218 : decode b_M_bars 218 = .ok (.iload_n 3, 1) := by decide +kernel
theorem d_M_bars_219 : decode b_M_bars 219 = .ok (.imul, 1) := by decide +kernel
theorem d_M_bars_220 : decode b_M_bars 220 = .ok (.iload 5, 2) := by decide +kernel
theorem d_M_bars_222 : decode b_M_bars 222 = .ok (.isub, 1) := by decide +kernel
theorem d_M_bars_223 : decode b_M_bars 223 = .ok (.ireturn, 1) := by decide +kernel
theorem d_L_law_0 : decode code 0 = .ok (.new 7, 3) := by decide +kernel
theorem d_L_law_3 : decode code 3 = .ok (.dup, 1) := by decide +kernel
theorem d_L_law_4 : decode code 4 = .ok (.invokespecial 9, 3) := by decide +kernel
theorem d_L_law_7 : decode code 7 = .ok (.astore_n 1, 1) := by decide +kernel
theorem d_L_law_8 : decode code 8 = .ok (.new 10, 3) := by decide +kernel
theorem d_L_law_11 : decode code 11 = .ok (.dup, 1) := by decide +kernel
theorem d_L_law_12 : decode code 12 = .ok (.invokespecial 12, 3) := by decide +kernel
theorem d_L_law_15 : decode code 15 = .ok (.astore_n 2, 1) := by decide +kernel
theorem d_L_law_16 : decode code 16 = .ok (.iconst 0, 1) := by decide +kernel
theorem d_L_law_17 : decode code 17 = .ok (.istore_n 3, 1) := by decide +kernel
theorem d_L_law_18 : decode code 18 = .ok (.iload_n 3, 1) := by decide +kernel
theorem d_L_law_19 : decode code 19 = .ok (.aload_n 0, 1) := by decide +kernel
theorem d_L_law_20 : decode code 20 = .ok (.arraylength, 1) := by decide +kernel
theorem d_L_law_21 : decode code 21 = .ok (.iconst 4, 1) := by decide +kernel
theorem d_L_law_22 : decode code 22 = .ok (.isub, 1) := by decide +kernel
theorem d_L_law_23 : decode code 23 = .ok (.if_icmp .gt 646, 3) := by decide +kernel
theorem d_L_law_26 : decode code 26 = .ok (.aload_n 0, 1) := by decide +kernel
theorem d_L_law_27 : decode code 27 = .ok (.iload_n 3, 1) := by decide +kernel
theorem d_L_law_28 : decode code 28 = .ok (.iaload, 1) := by decide +kernel
theorem d_L_law_29 : decode code 29 = .ok (.bipush 31, 2) := by decide +kernel
theorem d_L_law_31 : decode code 31 = .ok (.iand, 1) := by decide +kernel
theorem d_L_law_32 : decode code 32 = .ok (.tableswitch 631 0 16 #[84, 117, 150, 193, 226, 269, 302, 351, 374, 387, 420, 453, 486, 519, 552, 575, 598], 84) := by decide +kernel
theorem d_L_law_116 : decode code 116 = .ok (.aload_n 1, 1) := by decide +kernel
theorem d_L_law_117 : decode code 117 = .ok (.aload_n 0, 1) := by decide +kernel
theorem d_L_law_118 : decode code 118 = .ok (.iload_n 3, 1) := by decide +kernel
theorem d_L_law_119 : decode code 119 = .ok (.iconst 1, 1) := by decide +kernel
theorem d_L_law_120 : decode code 120 = .ok (.iadd, 1) := by decide +kernel
theorem d_L_law_121 : decode code 121 = .ok (.iaload, 1) := by decide +kernel
theorem d_L_law_122 : decode code 122 = .ok (.aload_n 0, 1) := by decide +kernel
theorem d_L_law_123 : decode code 123 = .ok (.iload_n 3, 1) := by decide +kernel
theorem d_L_law_124 : decode code 124 = .ok (.iconst 2, 1) := by decide +kernel
theorem d_L_law_125 : decode code 125 = .ok (.iadd, 1) := by decide +kernel
theorem d_L_law_126 : decode code 126 = .ok (.iaload, 1) := by decide +kernel
theorem d_L_law_127 : decode code 127 = .ok (.invokevirtual 13, 3) := by decide +kernel
theorem d_L_law_130 : decode code 130 = .ok (.aload_n 2, 1) := by decide +kernel
theorem d_L_law_131 : decode code 131 = .ok (.aload_n 0, 1) := by decide +kernel
theorem d_L_law_132 : decode code 132 = .ok (.iload_n 3, 1) := by decide +kernel
theorem d_L_law_133 : decode code 133 = .ok (.iconst 1, 1) := by decide +kernel
theorem d_L_law_134 : decode code 134 = .ok (.iadd, 1) := by decide +kernel
theorem d_L_law_135 : decode code 135 = .ok (.iaload, 1) := by decide +kernel
theorem d_L_law_136 : decode code 136 = .ok (.aload_n 0, 1) := by decide +kernel
theorem d_L_law_137 : decode code 137 = .ok (.iload_n 3, 1) := by decide +kernel
theorem d_L_law_138 : decode code 138 = .ok (.iconst 2, 1) := by decide +kernel
theorem d_L_law_139 : decode code 139 = .ok (.iadd, 1) := by decide +kernel
theorem d_L_law_140 : decode code 140 = .ok (.iaload, 1) := by decide +kernel
theorem d_L_law_141 : decode code 141 = .ok (.invokevirtual 17, 3) := by decide +kernel
theorem d_L_law_144 : decode code 144 = .ok (.if_icmp .eq 519, 3) := by decide +kernel
theorem d_L_law_147 : decode code 147 = .ok (.iconst 0, 1) := by decide +kernel
theorem d_L_law_148 : decode code 148 = .ok (.ireturn, 1) := by decide +kernel
theorem d_L_law_149 : decode code 149 = .ok (.aload_n 1, 1) := by decide +kernel
theorem d_L_law_150 : decode code 150 = .ok (.aload_n 0, 1) := by decide +kernel
theorem d_L_law_151 : decode code 151 = .ok (.iload_n 3, 1) := by decide +kernel
theorem d_L_law_152 : decode code 152 = .ok (.iconst 1, 1) := by decide +kernel
theorem d_L_law_153 : decode code 153 = .ok (.iadd, 1) := by decide +kernel
theorem d_L_law_154 : decode code 154 = .ok (.iaload, 1) := by decide +kernel
theorem d_L_law_155 : decode code 155 = .ok (.aload_n 0, 1) := by decide +kernel
theorem d_L_law_156 : decode code 156 = .ok (.iload_n 3, 1) := by decide +kernel
theorem d_L_law_157 : decode code 157 = .ok (.iconst 2, 1) := by decide +kernel
theorem d_L_law_158 : decode code 158 = .ok (.iadd, 1) := by decide +kernel
theorem d_L_law_159 : decode code 159 = .ok (.iaload, 1) := by decide +kernel
theorem d_L_law_160 : decode code 160 = .ok (.invokevirtual 18, 3) := by decide +kernel
theorem d_L_law_163 : decode code 163 = .ok (.aload_n 2, 1) := by decide +kernel
theorem d_L_law_164 : decode code 164 = .ok (.aload_n 0, 1) := by decide +kernel
theorem d_L_law_165 : decode code 165 = .ok (.iload_n 3, 1) := by decide +kernel
theorem d_L_law_166 : decode code 166 = .ok (.iconst 1, 1) := by decide +kernel
theorem d_L_law_167 : decode code 167 = .ok (.iadd, 1) := by decide +kernel
theorem d_L_law_168 : decode code 168 = .ok (.iaload, 1) := by decide +kernel
theorem d_L_law_169 : decode code 169 = .ok (.aload_n 0, 1) := by decide +kernel
theorem d_L_law_170 : decode code 170 = .ok (.iload_n 3, 1) := by decide +kernel
theorem d_L_law_171 : decode code 171 = .ok (.iconst 2, 1) := by decide +kernel
theorem d_L_law_172 : decode code 172 = .ok (.iadd, 1) := by decide +kernel
theorem d_L_law_173 : decode code 173 = .ok (.iaload, 1) := by decide +kernel
theorem d_L_law_174 : decode code 174 = .ok (.invokevirtual 21, 3) := by decide +kernel
theorem d_L_law_177 : decode code 177 = .ok (.if_icmp .eq 486, 3) := by decide +kernel
theorem d_L_law_180 : decode code 180 = .ok (.iconst 0, 1) := by decide +kernel
theorem d_L_law_181 : decode code 181 = .ok (.ireturn, 1) := by decide +kernel
theorem d_L_law_182 : decode code 182 = .ok (.aload_n 1, 1) := by decide +kernel
theorem d_L_law_183 : decode code 183 = .ok (.aload_n 0, 1) := by decide +kernel
theorem d_L_law_184 : decode code 184 = .ok (.iload_n 3, 1) := by decide +kernel
theorem d_L_law_185 : decode code 185 = .ok (.iconst 1, 1) := by decide +kernel
theorem d_L_law_186 : decode code 186 = .ok (.iadd, 1) := by decide +kernel
theorem d_L_law_187 : decode code 187 = .ok (.iaload, 1) := by decide +kernel
theorem d_L_law_188 : decode code 188 = .ok (.aload_n 0, 1) := by decide +kernel
theorem d_L_law_189 : decode code 189 = .ok (.iload_n 3, 1) := by decide +kernel
theorem d_L_law_190 : decode code 190 = .ok (.iconst 2, 1) := by decide +kernel
theorem d_L_law_191 : decode code 191 = .ok (.iadd, 1) := by decide +kernel
theorem d_L_law_192 : decode code 192 = .ok (.iaload, 1) := by decide +kernel
theorem d_L_law_193 : decode code 193 = .ok (.aload_n 0, 1) := by decide +kernel
theorem d_L_law_194 : decode code 194 = .ok (.iload_n 3, 1) := by decide +kernel
theorem d_L_law_195 : decode code 195 = .ok (.iconst 3, 1) := by decide +kernel
theorem d_L_law_196 : decode code 196 = .ok (.iadd, 1) := by decide +kernel
theorem d_L_law_197 : decode code 197 = .ok (.iaload, 1) := by decide +kernel
theorem d_L_law_198 : decode code 198 = .ok (.invokevirtual 22, 3) := by decide +kernel
theorem d_L_law_201 : decode code 201 = .ok (.aload_n 2, 1) := by decide +kernel
theorem d_L_law_202 : decode code 202 = .ok (.aload_n 0, 1) := by decide +kernel
theorem d_L_law_203 : decode code 203 = .ok (.iload_n 3, 1) := by decide +kernel
theorem d_L_law_204 : decode code 204 = .ok (.iconst 1, 1) := by decide +kernel
theorem d_L_law_205 : decode code 205 = .ok (.iadd, 1) := by decide +kernel
theorem d_L_law_206 : decode code 206 = .ok (.iaload, 1) := by decide +kernel
theorem d_L_law_207 : decode code 207 = .ok (.aload_n 0, 1) := by decide +kernel
theorem d_L_law_208 : decode code 208 = .ok (.iload_n 3, 1) := by decide +kernel
theorem d_L_law_209 : decode code 209 = .ok (.iconst 2, 1) := by decide +kernel
theorem d_L_law_210 : decode code 210 = .ok (.iadd, 1) := by decide +kernel
theorem d_L_law_211 : decode code 211 = .ok (.iaload, 1) := by decide +kernel
theorem d_L_law_212 : decode code 212 = .ok (.aload_n 0, 1) := by decide +kernel
theorem d_L_law_213 : decode code 213 = .ok (.iload_n 3, 1) := by decide +kernel
theorem d_L_law_214 : decode code 214 = .ok (.iconst 3, 1) := by decide +kernel
theorem d_L_law_215 : decode code 215 = .ok (.iadd, 1) := by decide +kernel
theorem d_L_law_216 : decode code 216 = .ok (.iaload, 1) := by decide +kernel
theorem d_L_law_217 : decode code 217 = .ok (.invokevirtual 26, 3) := by decide +kernel
theorem d_L_law_220 : decode code 220 = .ok (.if_icmp .eq 443, 3) := by decide +kernel
theorem d_L_law_223 : decode code 223 = .ok (.iconst 0, 1) := by decide +kernel
theorem d_L_law_224 : decode code 224 = .ok (.ireturn, 1) := by decide +kernel
theorem d_L_law_225 : decode code 225 = .ok (.aload_n 1, 1) := by decide +kernel
theorem d_L_law_226 : decode code 226 = .ok (.aload_n 0, 1) := by decide +kernel
theorem d_L_law_227 : decode code 227 = .ok (.iload_n 3, 1) := by decide +kernel
theorem d_L_law_228 : decode code 228 = .ok (.iconst 1, 1) := by decide +kernel
theorem d_L_law_229 : decode code 229 = .ok (.iadd, 1) := by decide +kernel
theorem d_L_law_230 : decode code 230 = .ok (.iaload, 1) := by decide +kernel
theorem d_L_law_231 : decode code 231 = .ok (.aload_n 0, 1) := by decide +kernel
theorem d_L_law_232 : decode code 232 = .ok (.iload_n 3, 1) := by decide +kernel
theorem d_L_law_233 : decode code 233 = .ok (.iconst 2, 1) := by decide +kernel
theorem d_L_law_234 : decode code 234 = .ok (.iadd, 1) := by decide +kernel
theorem d_L_law_235 : decode code 235 = .ok (.iaload, 1) := by decide +kernel
theorem d_L_law_236 : decode code 236 = .ok (.invokevirtual 27, 3) := by decide +kernel
theorem d_L_law_239 : decode code 239 = .ok (.aload_n 2, 1) := by decide +kernel
theorem d_L_law_240 : decode code 240 = .ok (.aload_n 0, 1) := by decide +kernel
theorem d_L_law_241 : decode code 241 = .ok (.iload_n 3, 1) := by decide +kernel
theorem d_L_law_242 : decode code 242 = .ok (.iconst 1, 1) := by decide +kernel
theorem d_L_law_243 : decode code 243 = .ok (.iadd, 1) := by decide +kernel
theorem d_L_law_244 : decode code 244 = .ok (.iaload, 1) := by decide +kernel
theorem d_L_law_245 : decode code 245 = .ok (.aload_n 0, 1) := by decide +kernel
theorem d_L_law_246 : decode code 246 = .ok (.iload_n 3, 1) := by decide +kernel
theorem d_L_law_247 : decode code 247 = .ok (.iconst 2, 1) := by decide +kernel
theorem d_L_law_248 : decode code 248 = .ok (.iadd, 1) := by decide +kernel
theorem d_L_law_249 : decode code 249 = .ok (.iaload, 1) := by decide +kernel
theorem d_L_law_250 : decode code 250 = .ok (.invokevirtual 30, 3) := by decide +kernel
theorem d_L_law_253 : decode code 253 = .ok (.if_icmp .eq 410, 3) := by decide +kernel
theorem d_L_law_256 : decode code 256 = .ok (.iconst 0, 1) := by decide +kernel
theorem d_L_law_257 : decode code 257 = .ok (.ireturn, 1) := by decide +kernel
theorem d_L_law_258 : decode code 258 = .ok (.aload_n 1, 1) := by decide +kernel
theorem d_L_law_259 : decode code 259 = .ok (.aload_n 0, 1) := by decide +kernel
theorem d_L_law_260 : decode code 260 = .ok (.iload_n 3, 1) := by decide +kernel
theorem d_L_law_261 : decode code 261 = .ok (.iconst 1, 1) := by decide +kernel
theorem d_L_law_262 : decode code 262 = .ok (.iadd, 1) := by decide +kernel
theorem d_L_law_263 : decode code 263 = .ok (.iaload, 1) := by decide +kernel
theorem d_L_law_264 : decode code 264 = .ok (.aload_n 0, 1) := by decide +kernel
theorem d_L_law_265 : decode code 265 = .ok (.iload_n 3, 1) := by decide +kernel
theorem d_L_law_266 : decode code 266 = .ok (.iconst 2, 1) := by decide +kernel
theorem d_L_law_267 : decode code 267 = .ok (.iadd, 1) := by decide +kernel
theorem d_L_law_268 : decode code 268 = .ok (.iaload, 1) := by decide +kernel
theorem d_L_law_269 : decode code 269 = .ok (.aload_n 0, 1) := by decide +kernel
theorem d_L_law_270 : decode code 270 = .ok (.iload_n 3, 1) := by decide +kernel
theorem d_L_law_271 : decode code 271 = .ok (.iconst 3, 1) := by decide +kernel
theorem d_L_law_272 : decode code 272 = .ok (.iadd, 1) := by decide +kernel
theorem d_L_law_273 : decode code 273 = .ok (.iaload, 1) := by decide +kernel
theorem d_L_law_274 : decode code 274 = .ok (.invokevirtual 31, 3) := by decide +kernel
theorem d_L_law_277 : decode code 277 = .ok (.aload_n 2, 1) := by decide +kernel
theorem d_L_law_278 : decode code 278 = .ok (.aload_n 0, 1) := by decide +kernel
theorem d_L_law_279 : decode code 279 = .ok (.iload_n 3, 1) := by decide +kernel
theorem d_L_law_280 : decode code 280 = .ok (.iconst 1, 1) := by decide +kernel
theorem d_L_law_281 : decode code 281 = .ok (.iadd, 1) := by decide +kernel
theorem d_L_law_282 : decode code 282 = .ok (.iaload, 1) := by decide +kernel
theorem d_L_law_283 : decode code 283 = .ok (.aload_n 0, 1) := by decide +kernel
theorem d_L_law_284 : decode code 284 = .ok (.iload_n 3, 1) := by decide +kernel
theorem d_L_law_285 : decode code 285 = .ok (.iconst 2, 1) := by decide +kernel
theorem d_L_law_286 : decode code 286 = .ok (.iadd, 1) := by decide +kernel
theorem d_L_law_287 : decode code 287 = .ok (.iaload, 1) := by decide +kernel
theorem d_L_law_288 : decode code 288 = .ok (.aload_n 0, 1) := by decide +kernel
theorem d_L_law_289 : decode code 289 = .ok (.iload_n 3, 1) := by decide +kernel
theorem d_L_law_290 : decode code 290 = .ok (.iconst 3, 1) := by decide +kernel
theorem d_L_law_291 : decode code 291 = .ok (.iadd, 1) := by decide +kernel
theorem d_L_law_292 : decode code 292 = .ok (.iaload, 1) := by decide +kernel
theorem d_L_law_293 : decode code 293 = .ok (.invokevirtual 34, 3) := by decide +kernel
theorem d_L_law_296 : decode code 296 = .ok (.if_icmp .eq 367, 3) := by decide +kernel
theorem d_L_law_299 : decode code 299 = .ok (.iconst 0, 1) := by decide +kernel
theorem d_L_law_300 : decode code 300 = .ok (.ireturn, 1) := by decide +kernel
theorem d_L_law_301 : decode code 301 = .ok (.aload_n 1, 1) := by decide +kernel
theorem d_L_law_302 : decode code 302 = .ok (.aload_n 0, 1) := by decide +kernel
theorem d_L_law_303 : decode code 303 = .ok (.iload_n 3, 1) := by decide +kernel
theorem d_L_law_304 : decode code 304 = .ok (.iconst 1, 1) := by decide +kernel
theorem d_L_law_305 : decode code 305 = .ok (.iadd, 1) := by decide +kernel
theorem d_L_law_306 : decode code 306 = .ok (.iaload, 1) := by decide +kernel
theorem d_L_law_307 : decode code 307 = .ok (.aload_n 0, 1) := by decide +kernel
theorem d_L_law_308 : decode code 308 = .ok (.iload_n 3, 1) := by decide +kernel
theorem d_L_law_309 : decode code 309 = .ok (.iconst 2, 1) := by decide +kernel
theorem d_L_law_310 : decode code 310 = .ok (.iadd, 1) := by decide +kernel
theorem d_L_law_311 : decode code 311 = .ok (.iaload, 1) := by decide +kernel
theorem d_L_law_312 : decode code 312 = .ok (.invokevirtual 35, 3) := by decide +kernel
theorem d_L_law_315 : decode code 315 = .ok (.aload_n 2, 1) := by decide +kernel
theorem d_L_law_316 : decode code 316 = .ok (.aload_n 0, 1) := by decide +kernel
theorem d_L_law_317 : decode code 317 = .ok (.iload_n 3, 1) := by decide +kernel
theorem d_L_law_318 : decode code 318 = .ok (.iconst 1, 1) := by decide +kernel
theorem d_L_law_319 : decode code 319 = .ok (.iadd, 1) := by decide +kernel
theorem d_L_law_320 : decode code 320 = .ok (.iaload, 1) := by decide +kernel
theorem d_L_law_321 : decode code 321 = .ok (.aload_n 0, 1) := by decide +kernel
theorem d_L_law_322 : decode code 322 = .ok (.iload_n 3, 1) := by decide +kernel
theorem d_L_law_323 : decode code 323 = .ok (.iconst 2, 1) := by decide +kernel
theorem d_L_law_324 : decode code 324 = .ok (.iadd, 1) := by decide +kernel
theorem d_L_law_325 : decode code 325 = .ok (.iaload, 1) := by decide +kernel
theorem d_L_law_326 : decode code 326 = .ok (.invokevirtual 38, 3) := by decide +kernel
theorem d_L_law_329 : decode code 329 = .ok (.if_icmp .eq 334, 3) := by decide +kernel
theorem d_L_law_332 : decode code 332 = .ok (.iconst 0, 1) := by decide +kernel
theorem d_L_law_333 : decode code 333 = .ok (.ireturn, 1) := by decide +kernel
theorem d_L_law_334 : decode code 334 = .ok (.aload_n 1, 1) := by decide +kernel
theorem d_L_law_335 : decode code 335 = .ok (.aload_n 0, 1) := by decide +kernel
theorem d_L_law_336 : decode code 336 = .ok (.iload_n 3, 1) := by decide +kernel
theorem d_L_law_337 : decode code 337 = .ok (.iconst 1, 1) := by decide +kernel
theorem d_L_law_338 : decode code 338 = .ok (.iadd, 1) := by decide +kernel
theorem d_L_law_339 : decode code 339 = .ok (.iaload, 1) := by decide +kernel
theorem d_L_law_340 : decode code 340 = .ok (.aload_n 0, 1) := by decide +kernel
theorem d_L_law_341 : decode code 341 = .ok (.iload_n 3, 1) := by decide +kernel
theorem d_L_law_342 : decode code 342 = .ok (.iconst 2, 1) := by decide +kernel
theorem d_L_law_343 : decode code 343 = .ok (.iadd, 1) := by decide +kernel
theorem d_L_law_344 : decode code 344 = .ok (.iaload, 1) := by decide +kernel
theorem d_L_law_345 : decode code 345 = .ok (.ifCond .eq 7, 3) := by decide +kernel
theorem d_L_law_348 : decode code 348 = .ok (.iconst 1, 1) := by decide +kernel
theorem d_L_law_349 : decode code 349 = .ok (.goto 4, 3) := by decide +kernel
theorem d_L_law_352 : decode code 352 = .ok (.iconst 0, 1) := by decide +kernel
theorem d_L_law_353 : decode code 353 = .ok (.invokevirtual 39, 3) := by decide +kernel
theorem d_L_law_356 : decode code 356 = .ok (.aload_n 2, 1) := by decide +kernel
theorem d_L_law_357 : decode code 357 = .ok (.aload_n 0, 1) := by decide +kernel
theorem d_L_law_358 : decode code 358 = .ok (.iload_n 3, 1) := by decide +kernel
theorem d_L_law_359 : decode code 359 = .ok (.iconst 1, 1) := by decide +kernel
theorem d_L_law_360 : decode code 360 = .ok (.iadd, 1) := by decide +kernel
theorem d_L_law_361 : decode code 361 = .ok (.iaload, 1) := by decide +kernel
theorem d_L_law_362 : decode code 362 = .ok (.aload_n 0, 1) := by decide +kernel
theorem d_L_law_363 : decode code 363 = .ok (.iload_n 3, 1) := by decide +kernel
theorem d_L_law_364 : decode code 364 = .ok (.iconst 2, 1) := by decide +kernel
theorem d_L_law_365 : decode code 365 = .ok (.iadd, 1) := by decide +kernel
theorem d_L_law_366 : decode code 366 = .ok (.iaload, 1) := by decide +kernel
theorem d_L_law_367 : decode code 367 = .ok (.ifCond .eq 7, 3) := by decide +kernel
theorem d_L_law_370 : decode code 370 = .ok (.iconst 1, 1) := by decide +kernel
theorem d_L_law_371 : decode code 371 = .ok (.goto 4, 3) := by decide +kernel
theorem d_L_law_374 : decode code 374 = .ok (.iconst 0, 1) := by decide +kernel
theorem d_L_law_375 : decode code 375 = .ok (.invokevirtual 43, 3) := by decide +kernel
theorem d_L_law_378 : decode code 378 = .ok (.if_icmp .eq 285, 3) := by decide +kernel
theorem d_L_law_381 : decode code 381 = .ok (.iconst 0, 1) := by decide +kernel
theorem d_L_law_382 : decode code 382 = .ok (.ireturn, 1) := by decide +kernel
theorem d_L_law_383 : decode code 383 = .ok (.aload_n 1, 1) := by decide +kernel
theorem d_L_law_384 : decode code 384 = .ok (.aload_n 0, 1) := by decide +kernel
theorem d_L_law_385 : decode code 385 = .ok (.iload_n 3, 1) := by decide +kernel
theorem d_L_law_386 : decode code 386 = .ok (.iconst 1, 1) := by decide +kernel
theorem d_L_law_387 : decode code 387 = .ok (.iadd, 1) := by decide +kernel
theorem d_L_law_388 : decode code 388 = .ok (.iaload, 1) := by decide +kernel
theorem d_L_law_389 : decode code 389 = .ok (.invokevirtual 44, 3) := by decide +kernel
theorem d_L_law_392 : decode code 392 = .ok (.aload_n 2, 1) := by decide +kernel
theorem d_L_law_393 : decode code 393 = .ok (.aload_n 0, 1) := by decide +kernel
theorem d_L_law_394 : decode code 394 = .ok (.iload_n 3, 1) := by decide +kernel
theorem d_L_law_395 : decode code 395 = .ok (.iconst 1, 1) := by decide +kernel
theorem d_L_law_396 : decode code 396 = .ok (.iadd, 1) := by decide +kernel
theorem d_L_law_397 : decode code 397 = .ok (.iaload, 1) := by decide +kernel
theorem d_L_law_398 : decode code 398 = .ok (.invokevirtual 48, 3) := by decide +kernel
theorem d_L_law_401 : decode code 401 = .ok (.if_icmp .eq 262, 3) := by decide +kernel
theorem d_L_law_404 : decode code 404 = .ok (.iconst 0, 1) := by decide +kernel
theorem d_L_law_405 : decode code 405 = .ok (.ireturn, 1) := by decide +kernel
theorem d_L_law_406 : decode code 406 = .ok (.aload_n 1, 1) := by decide +kernel
theorem d_L_law_407 : decode code 407 = .ok (.invokevirtual 49, 3) := by decide +kernel
theorem d_L_law_410 : decode code 410 = .ok (.aload_n 2, 1) := by decide +kernel
theorem d_L_law_411 : decode code 411 = .ok (.invokevirtual 53, 3) := by decide +kernel
theorem d_L_law_414 : decode code 414 = .ok (.if_icmp .eq 249, 3) := by decide +kernel
theorem d_L_law_417 : decode code 417 = .ok (.iconst 0, 1) := by decide +kernel
theorem d_L_law_418 : decode code 418 = .ok (.ireturn, 1) := by decide +kernel
theorem d_L_law_419 : decode code 419 = .ok (.aload_n 1, 1) := by decide +kernel
theorem d_L_law_420 : decode code 420 = .ok (.aload_n 0, 1) := by decide +kernel
theorem d_L_law_421 : decode code 421 = .ok (.iload_n 3, 1) := by decide +kernel
theorem d_L_law_422 : decode code 422 = .ok (.iconst 1, 1) := by decide +kernel
theorem d_L_law_423 : decode code 423 = .ok (.iadd, 1) := by decide +kernel
theorem d_L_law_424 : decode code 424 = .ok (.iaload, 1) := by decide +kernel
theorem d_L_law_425 : decode code 425 = .ok (.aload_n 0, 1) := by decide +kernel
theorem d_L_law_426 : decode code 426 = .ok (.iload_n 3, 1) := by decide +kernel
theorem d_L_law_427 : decode code 427 = .ok (.iconst 2, 1) := by decide +kernel
theorem d_L_law_428 : decode code 428 = .ok (.iadd, 1) := by decide +kernel
theorem d_L_law_429 : decode code 429 = .ok (.iaload, 1) := by decide +kernel
theorem d_L_law_430 : decode code 430 = .ok (.invokevirtual 54, 3) := by decide +kernel
theorem d_L_law_433 : decode code 433 = .ok (.aload_n 2, 1) := by decide +kernel
theorem d_L_law_434 : decode code 434 = .ok (.aload_n 0, 1) := by decide +kernel
theorem d_L_law_435 : decode code 435 = .ok (.iload_n 3, 1) := by decide +kernel
theorem d_L_law_436 : decode code 436 = .ok (.iconst 1, 1) := by decide +kernel
theorem d_L_law_437 : decode code 437 = .ok (.iadd, 1) := by decide +kernel
theorem d_L_law_438 : decode code 438 = .ok (.iaload, 1) := by decide +kernel
theorem d_L_law_439 : decode code 439 = .ok (.aload_n 0, 1) := by decide +kernel
theorem d_L_law_440 : decode code 440 = .ok (.iload_n 3, 1) := by decide +kernel
theorem d_L_law_441 : decode code 441 = .ok (.iconst 2, 1) := by decide +kernel
theorem d_L_law_442 : decode code 442 = .ok (.iadd, 1) := by decide +kernel
theorem d_L_law_443 : decode code 443 = .ok (.iaload, 1) := by decide +kernel
theorem d_L_law_444 : decode code 444 = .ok (.invokevirtual 57, 3) := by decide +kernel
theorem d_L_law_447 : decode code 447 = .ok (.if_icmp .eq 216, 3) := by decide +kernel
theorem d_L_law_450 : decode code 450 = .ok (.iconst 0, 1) := by decide +kernel
theorem d_L_law_451 : decode code 451 = .ok (.ireturn, 1) := by decide +kernel
theorem d_L_law_452 : decode code 452 = .ok (.aload_n 1, 1) := by decide +kernel
theorem d_L_law_453 : decode code 453 = .ok (.aload_n 0, 1) := by decide +kernel
theorem d_L_law_454 : decode code 454 = .ok (.iload_n 3, 1) := by decide +kernel
theorem d_L_law_455 : decode code 455 = .ok (.iconst 1, 1) := by decide +kernel
theorem d_L_law_456 : decode code 456 = .ok (.iadd, 1) := by decide +kernel
theorem d_L_law_457 : decode code 457 = .ok (.iaload, 1) := by decide +kernel
theorem d_L_law_458 : decode code 458 = .ok (.aload_n 0, 1) := by decide +kernel
theorem d_L_law_459 : decode code 459 = .ok (.iload_n 3, 1) := by decide +kernel
theorem d_L_law_460 : decode code 460 = .ok (.iconst 2, 1) := by decide +kernel
theorem d_L_law_461 : decode code 461 = .ok (.iadd, 1) := by decide +kernel
theorem d_L_law_462 : decode code 462 = .ok (.iaload, 1) := by decide +kernel
theorem d_L_law_463 : decode code 463 = .ok (.invokevirtual 58, 3) := by decide +kernel
theorem d_L_law_466 : decode code 466 = .ok (.aload_n 2, 1) := by decide +kernel
theorem d_L_law_467 : decode code 467 = .ok (.aload_n 0, 1) := by decide +kernel
theorem d_L_law_468 : decode code 468 = .ok (.iload_n 3, 1) := by decide +kernel
theorem d_L_law_469 : decode code 469 = .ok (.iconst 1, 1) := by decide +kernel
theorem d_L_law_470 : decode code 470 = .ok (.iadd, 1) := by decide +kernel
theorem d_L_law_471 : decode code 471 = .ok (.iaload, 1) := by decide +kernel
theorem d_L_law_472 : decode code 472 = .ok (.aload_n 0, 1) := by decide +kernel
theorem d_L_law_473 : decode code 473 = .ok (.iload_n 3, 1) := by decide +kernel
theorem d_L_law_474 : decode code 474 = .ok (.iconst 2, 1) := by decide +kernel
theorem d_L_law_475 : decode code 475 = .ok (.iadd, 1) := by decide +kernel
theorem d_L_law_476 : decode code 476 = .ok (.iaload, 1) := by decide +kernel
theorem d_L_law_477 : decode code 477 = .ok (.invokevirtual 61, 3) := by decide +kernel
theorem d_L_law_480 : decode code 480 = .ok (.if_icmp .eq 183, 3) := by decide +kernel
theorem d_L_law_483 : decode code 483 = .ok (.iconst 0, 1) := by decide +kernel
theorem d_L_law_484 : decode code 484 = .ok (.ireturn, 1) := by decide +kernel
theorem d_L_law_485 : decode code 485 = .ok (.aload_n 1, 1) := by decide +kernel
theorem d_L_law_486 : decode code 486 = .ok (.aload_n 0, 1) := by decide +kernel
theorem d_L_law_487 : decode code 487 = .ok (.iload_n 3, 1) := by decide +kernel
theorem d_L_law_488 : decode code 488 = .ok (.iconst 1, 1) := by decide +kernel
theorem d_L_law_489 : decode code 489 = .ok (.iadd, 1) := by decide +kernel
theorem d_L_law_490 : decode code 490 = .ok (.iaload, 1) := by decide +kernel
theorem d_L_law_491 : decode code 491 = .ok (.aload_n 0, 1) := by decide +kernel
theorem d_L_law_492 : decode code 492 = .ok (.iload_n 3, 1) := by decide +kernel
theorem d_L_law_493 : decode code 493 = .ok (.iconst 2, 1) := by decide +kernel
theorem d_L_law_494 : decode code 494 = .ok (.iadd, 1) := by decide +kernel
theorem d_L_law_495 : decode code 495 = .ok (.iaload, 1) := by decide +kernel
theorem d_L_law_496 : decode code 496 = .ok (.invokevirtual 62, 3) := by decide +kernel
theorem d_L_law_499 : decode code 499 = .ok (.aload_n 2, 1) := by decide +kernel
theorem d_L_law_500 : decode code 500 = .ok (.aload_n 0, 1) := by decide +kernel
theorem d_L_law_501 : decode code 501 = .ok (.iload_n 3, 1) := by decide +kernel
theorem d_L_law_502 : decode code 502 = .ok (.iconst 1, 1) := by decide +kernel
theorem d_L_law_503 : decode code 503 = .ok (.iadd, 1) := by decide +kernel
theorem d_L_law_504 : decode code 504 = .ok (.iaload, 1) := by decide +kernel
theorem d_L_law_505 : decode code 505 = .ok (.aload_n 0, 1) := by decide +kernel
theorem d_L_law_506 : decode code 506 = .ok (.iload_n 3, 1) := by decide +kernel
theorem d_L_law_507 : decode code 507 = .ok (.iconst 2, 1) := by decide +kernel
theorem d_L_law_508 : decode code 508 = .ok (.iadd, 1) := by decide +kernel
theorem d_L_law_509 : decode code 509 = .ok (.iaload, 1) := by decide +kernel
theorem d_L_law_510 : decode code 510 = .ok (.invokevirtual 65, 3) := by decide +kernel
theorem d_L_law_513 : decode code 513 = .ok (.if_icmp .eq 150, 3) := by decide +kernel
theorem d_L_law_516 : decode code 516 = .ok (.iconst 0, 1) := by decide +kernel
theorem d_L_law_517 : decode code 517 = .ok (.ireturn, 1) := by decide +kernel
theorem d_L_law_518 : decode code 518 = .ok (.aload_n 1, 1) := by decide +kernel
theorem d_L_law_519 : decode code 519 = .ok (.aload_n 0, 1) := by decide +kernel
theorem d_L_law_520 : decode code 520 = .ok (.iload_n 3, 1) := by decide +kernel
theorem d_L_law_521 : decode code 521 = .ok (.iconst 1, 1) := by decide +kernel
theorem d_L_law_522 : decode code 522 = .ok (.iadd, 1) := by decide +kernel
theorem d_L_law_523 : decode code 523 = .ok (.iaload, 1) := by decide +kernel
theorem d_L_law_524 : decode code 524 = .ok (.aload_n 0, 1) := by decide +kernel
theorem d_L_law_525 : decode code 525 = .ok (.iload_n 3, 1) := by decide +kernel
theorem d_L_law_526 : decode code 526 = .ok (.iconst 2, 1) := by decide +kernel
theorem d_L_law_527 : decode code 527 = .ok (.iadd, 1) := by decide +kernel
theorem d_L_law_528 : decode code 528 = .ok (.iaload, 1) := by decide +kernel
theorem d_L_law_529 : decode code 529 = .ok (.invokevirtual 66, 3) := by decide +kernel
theorem d_L_law_532 : decode code 532 = .ok (.aload_n 2, 1) := by decide +kernel
theorem d_L_law_533 : decode code 533 = .ok (.aload_n 0, 1) := by decide +kernel
theorem d_L_law_534 : decode code 534 = .ok (.iload_n 3, 1) := by decide +kernel
theorem d_L_law_535 : decode code 535 = .ok (.iconst 1, 1) := by decide +kernel
theorem d_L_law_536 : decode code 536 = .ok (.iadd, 1) := by decide +kernel
theorem d_L_law_537 : decode code 537 = .ok (.iaload, 1) := by decide +kernel
theorem d_L_law_538 : decode code 538 = .ok (.aload_n 0, 1) := by decide +kernel
theorem d_L_law_539 : decode code 539 = .ok (.iload_n 3, 1) := by decide +kernel
theorem d_L_law_540 : decode code 540 = .ok (.iconst 2, 1) := by decide +kernel
theorem d_L_law_541 : decode code 541 = .ok (.iadd, 1) := by decide +kernel
theorem d_L_law_542 : decode code 542 = .ok (.iaload, 1) := by decide +kernel
theorem d_L_law_543 : decode code 543 = .ok (.invokevirtual 69, 3) := by decide +kernel
theorem d_L_law_546 : decode code 546 = .ok (.if_icmp .eq 117, 3) := by decide +kernel
theorem d_L_law_549 : decode code 549 = .ok (.iconst 0, 1) := by decide +kernel
theorem d_L_law_550 : decode code 550 = .ok (.ireturn, 1) := by decide +kernel
theorem d_L_law_551 : decode code 551 = .ok (.aload_n 1, 1) := by decide +kernel
theorem d_L_law_552 : decode code 552 = .ok (.aload_n 0, 1) := by decide +kernel
theorem d_L_law_553 : decode code 553 = .ok (.iload_n 3, 1) := by decide +kernel
theorem d_L_law_554 : decode code 554 = .ok (.iconst 1, 1) := by decide +kernel
theorem d_L_law_555 : decode code 555 = .ok (.iadd, 1) := by decide +kernel
theorem d_L_law_556 : decode code 556 = .ok (.iaload, 1) := by decide +kernel
theorem d_L_law_557 : decode code 557 = .ok (.aload_n 0, 1) := by decide +kernel
theorem d_L_law_558 : decode code 558 = .ok (.iload_n 3, 1) := by decide +kernel
theorem d_L_law_559 : decode code 559 = .ok (.iconst 2, 1) := by decide +kernel
theorem d_L_law_560 : decode code 560 = .ok (.iadd, 1) := by decide +kernel
theorem d_L_law_561 : decode code 561 = .ok (.iaload, 1) := by decide +kernel
theorem d_L_law_562 : decode code 562 = .ok (.invokevirtual 70, 3) := by decide +kernel
theorem d_L_law_565 : decode code 565 = .ok (.aload_n 2, 1) := by decide +kernel
theorem d_L_law_566 : decode code 566 = .ok (.aload_n 0, 1) := by decide +kernel
theorem d_L_law_567 : decode code 567 = .ok (.iload_n 3, 1) := by decide +kernel
theorem d_L_law_568 : decode code 568 = .ok (.iconst 1, 1) := by decide +kernel
theorem d_L_law_569 : decode code 569 = .ok (.iadd, 1) := by decide +kernel
theorem d_L_law_570 : decode code 570 = .ok (.iaload, 1) := by decide +kernel
theorem d_L_law_571 : decode code 571 = .ok (.aload_n 0, 1) := by decide +kernel
theorem d_L_law_572 : decode code 572 = .ok (.iload_n 3, 1) := by decide +kernel
theorem d_L_law_573 : decode code 573 = .ok (.iconst 2, 1) := by decide +kernel
theorem d_L_law_574 : decode code 574 = .ok (.iadd, 1) := by decide +kernel
theorem d_L_law_575 : decode code 575 = .ok (.iaload, 1) := by decide +kernel
theorem d_L_law_576 : decode code 576 = .ok (.invokevirtual 73, 3) := by decide +kernel
theorem d_L_law_579 : decode code 579 = .ok (.if_icmp .eq 84, 3) := by decide +kernel
theorem d_L_law_582 : decode code 582 = .ok (.iconst 0, 1) := by decide +kernel
theorem d_L_law_583 : decode code 583 = .ok (.ireturn, 1) := by decide +kernel
theorem d_L_law_584 : decode code 584 = .ok (.aload_n 1, 1) := by decide +kernel
theorem d_L_law_585 : decode code 585 = .ok (.aload_n 0, 1) := by decide +kernel
theorem d_L_law_586 : decode code 586 = .ok (.iload_n 3, 1) := by decide +kernel
theorem d_L_law_587 : decode code 587 = .ok (.iconst 1, 1) := by decide +kernel
theorem d_L_law_588 : decode code 588 = .ok (.iadd, 1) := by decide +kernel
theorem d_L_law_589 : decode code 589 = .ok (.iaload, 1) := by decide +kernel
theorem d_L_law_590 : decode code 590 = .ok (.invokevirtual 74, 3) := by decide +kernel
theorem d_L_law_593 : decode code 593 = .ok (.aload_n 2, 1) := by decide +kernel
theorem d_L_law_594 : decode code 594 = .ok (.aload_n 0, 1) := by decide +kernel
theorem d_L_law_595 : decode code 595 = .ok (.iload_n 3, 1) := by decide +kernel
theorem d_L_law_596 : decode code 596 = .ok (.iconst 1, 1) := by decide +kernel
theorem d_L_law_597 : decode code 597 = .ok (.iadd, 1) := by decide +kernel
theorem d_L_law_598 : decode code 598 = .ok (.iaload, 1) := by decide +kernel
theorem d_L_law_599 : decode code 599 = .ok (.invokevirtual 77, 3) := by decide +kernel
theorem d_L_law_602 : decode code 602 = .ok (.if_icmp .eq 61, 3) := by decide +kernel
theorem d_L_law_605 : decode code 605 = .ok (.iconst 0, 1) := by decide +kernel
theorem d_L_law_606 : decode code 606 = .ok (.ireturn, 1) := by decide +kernel
theorem d_L_law_607 : decode code 607 = .ok (.aload_n 1, 1) := by decide +kernel
theorem d_L_law_608 : decode code 608 = .ok (.aload_n 0, 1) := by decide +kernel
theorem d_L_law_609 : decode code 609 = .ok (.iload_n 3, 1) := by decide +kernel
theorem d_L_law_610 : decode code 610 = .ok (.iconst 1, 1) := by decide +kernel
theorem d_L_law_611 : decode code 611 = .ok (.iadd, 1) := by decide +kernel
theorem d_L_law_612 : decode code 612 = .ok (.iaload, 1) := by decide +kernel
theorem d_L_law_613 : decode code 613 = .ok (.invokevirtual 78, 3) := by decide +kernel
theorem d_L_law_616 : decode code 616 = .ok (.aload_n 2, 1) := by decide +kernel
theorem d_L_law_617 : decode code 617 = .ok (.aload_n 0, 1) := by decide +kernel
theorem d_L_law_618 : decode code 618 = .ok (.iload_n 3, 1) := by decide +kernel
theorem d_L_law_619 : decode code 619 = .ok (.iconst 1, 1) := by decide +kernel
theorem d_L_law_620 : decode code 620 = .ok (.iadd, 1) := by decide +kernel
theorem d_L_law_621 : decode code 621 = .ok (.iaload, 1) := by decide +kernel
theorem d_L_law_622 : decode code 622 = .ok (.invokevirtual 81, 3) := by decide +kernel
theorem d_L_law_625 : decode code 625 = .ok (.if_icmp .eq 38, 3) := by decide +kernel
theorem d_L_law_628 : decode code 628 = .ok (.iconst 0, 1) := by decide +kernel
theorem d_L_law_629 : decode code 629 = .ok (.ireturn, 1) := by decide +kernel
theorem d_L_law_630 : decode code 630 = .ok (.aload_n 1, 1) := by decide +kernel
theorem d_L_law_631 : decode code 631 = .ok (.aload_n 0, 1) := by decide +kernel
theorem d_L_law_632 : decode code 632 = .ok (.iload_n 3, 1) := by decide +kernel
theorem d_L_law_633 : decode code 633 = .ok (.iconst 1, 1) := by decide +kernel
theorem d_L_law_634 : decode code 634 = .ok (.iadd, 1) := by decide +kernel
theorem d_L_law_635 : decode code 635 = .ok (.iaload, 1) := by decide +kernel
theorem d_L_law_636 : decode code 636 = .ok (.aload_n 0, 1) := by decide +kernel
theorem d_L_law_637 : decode code 637 = .ok (.iload_n 3, 1) := by decide +kernel
theorem d_L_law_638 : decode code 638 = .ok (.iconst 2, 1) := by decide +kernel
theorem d_L_law_639 : decode code 639 = .ok (.iadd, 1) := by decide +kernel
theorem d_L_law_640 : decode code 640 = .ok (.iaload, 1) := by decide +kernel
theorem d_L_law_641 : decode code 641 = .ok (.invokevirtual 82, 3) := by decide +kernel
theorem d_L_law_644 : decode code 644 = .ok (.aload_n 2, 1) := by decide +kernel
theorem d_L_law_645 : decode code 645 = .ok (.aload_n 0, 1) := by decide +kernel
theorem d_L_law_646 : decode code 646 = .ok (.iload_n 3, 1) := by decide +kernel
theorem d_L_law_647 : decode code 647 = .ok (.iconst 1, 1) := by decide +kernel
theorem d_L_law_648 : decode code 648 = .ok (.iadd, 1) := by decide +kernel
theorem d_L_law_649 : decode code 649 = .ok (.iaload, 1) := by decide +kernel
theorem d_L_law_650 : decode code 650 = .ok (.aload_n 0, 1) := by decide +kernel
theorem d_L_law_651 : decode code 651 = .ok (.iload_n 3, 1) := by decide +kernel
theorem d_L_law_652 : decode code 652 = .ok (.iconst 2, 1) := by decide +kernel
theorem d_L_law_653 : decode code 653 = .ok (.iadd, 1) := by decide +kernel
theorem d_L_law_654 : decode code 654 = .ok (.iaload, 1) := by decide +kernel
theorem d_L_law_655 : decode code 655 = .ok (.invokevirtual 85, 3) := by decide +kernel
theorem d_L_law_658 : decode code 658 = .ok (.if_icmp .eq 5, 3) := by decide +kernel
theorem d_L_law_661 : decode code 661 = .ok (.iconst 0, 1) := by decide +kernel
theorem d_L_law_662 : decode code 662 = .ok (.ireturn, 1) := by decide +kernel
theorem d_L_law_663 : decode code 663 = .ok (.iinc 3 4, 3) := by decide +kernel
theorem d_L_law_666 : decode code 666 = .ok (.goto (-648), 3) := by decide +kernel
theorem d_L_law_669 : decode code 669 = .ok (.iconst 1, 1) := by decide +kernel
theorem d_L_law_670 : decode code 670 = .ok (.ireturn, 1) := by decide +kernel
