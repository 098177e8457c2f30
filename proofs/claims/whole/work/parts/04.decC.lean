theorem dX10_init_0 : decode cX10_init 0 = .ok (.aload_n 0, 1) := by decide +kernel
theorem dX10_init_1 : decode cX10_init 1 = .ok (.invokespecial 1, 3) := by decide +kernel
theorem dX10_init_4 : decode cX10_init 4 = .ok (.aload_n 0, 1) := by decide +kernel
theorem dX10_init_5 : decode cX10_init 5 = .ok (.iconst 0, 1) := by decide +kernel
theorem dX10_init_6 : decode cX10_init 6 = .ok (.putfield 9, 3) := by decide +kernel
theorem dX10_init_9 : decode cX10_init 9 = .ok (.aload_n 0, 1) := by decide +kernel
theorem dX10_init_10 : decode cX10_init 10 = .ok (.iconst 1, 1) := by decide +kernel
theorem dX10_init_11 : decode cX10_init 11 = .ok (.putfield 13, 3) := by decide +kernel
theorem dX10_init_14 : decode cX10_init 14 = .ok (.aload_n 0, 1) := by decide +kernel
theorem dX10_init_15 : decode cX10_init 15 = .ok (.iconst 1, 1) := by decide +kernel
theorem dX10_init_16 : decode cX10_init 16 = .ok (.putfield 16, 3) := by decide +kernel
theorem dX10_init_19 : decode cX10_init 19 = .ok (.aload_n 0, 1) := by decide +kernel
theorem dX10_init_20 : decode cX10_init 20 = .ok (.bipush 32, 2) := by decide +kernel
theorem dX10_init_22 : decode cX10_init 22 = .ok (.newarray .int, 2) := by decide +kernel
theorem dX10_init_24 : decode cX10_init 24 = .ok (.putfield 19, 3) := by decide +kernel
theorem dX10_init_27 : decode cX10_init 27 = .ok (.aload_n 0, 1) := by decide +kernel
theorem dX10_init_28 : decode cX10_init 28 = .ok (.bipush 34, 2) := by decide +kernel
theorem dX10_init_30 : decode cX10_init 30 = .ok (.newarray .int, 2) := by decide +kernel
theorem dX10_init_32 : decode cX10_init 32 = .ok (.putfield 23, 3) := by decide +kernel
theorem dX10_init_35 : decode cX10_init 35 = .ok (.aload_n 0, 1) := by decide +kernel
theorem dX10_init_36 : decode cX10_init 36 = .ok (.bipush 17, 2) := by decide +kernel
theorem dX10_init_38 : decode cX10_init 38 = .ok (.newarray .int, 2) := by decide +kernel
theorem dX10_init_40 : decode cX10_init 40 = .ok (.putfield 26, 3) := by decide +kernel
theorem dX10_init_43 : decode cX10_init 43 = .ok (.aload_n 0, 1) := by decide +kernel
theorem dX10_init_44 : decode cX10_init 44 = .ok (.bipush 17, 2) := by decide +kernel
theorem dX10_init_46 : decode cX10_init 46 = .ok (.newarray .int, 2) := by decide +kernel
theorem dX10_init_48 : decode cX10_init 48 = .ok (.putfield 29, 3) := by decide +kernel
theorem dX10_init_51 : decode cX10_init 51 = .ok (.aload_n 0, 1) := by decide +kernel
theorem dX10_init_52 : decode cX10_init 52 = .ok (.bipush 21, 2) := by decide +kernel
theorem dX10_init_54 : decode cX10_init 54 = .ok (.newarray .int, 2) := by decide +kernel
theorem dX10_init_56 : decode cX10_init 56 = .ok (.putfield 32, 3) := by decide +kernel
theorem dX10_init_59 : decode cX10_init 59 = .ok (.aload_n 0, 1) := by decide +kernel
theorem dX10_init_60 : decode cX10_init 60 = .ok (.bipush 21, 2) := by decide +kernel
theorem dX10_init_62 : decode cX10_init 62 = .ok (.newarray .int, 2) := by decide +kernel
theorem dX10_init_64 : decode cX10_init 64 = .ok (.putfield 35, 3) := by decide +kernel
theorem dX10_init_67 : decode cX10_init 67 = .ok (.aload_n 0, 1) := by decide +kernel
theorem dX10_init_68 : decode cX10_init 68 = .ok (.bipush 21, 2) := by decide +kernel
theorem dX10_init_70 : decode cX10_init 70 = .ok (.newarray .int, 2) := by decide +kernel
theorem dX10_init_72 : decode cX10_init 72 = .ok (.putfield 38, 3) := by decide +kernel
theorem dX10_init_75 : decode cX10_init 75 = .ok (.aload_n 0, 1) := by decide +kernel
theorem dX10_init_76 : decode cX10_init 76 = .ok (.sipush 238, 3) := by decide +kernel
theorem dX10_init_79 : decode cX10_init 79 = .ok (.newarray .int, 2) := by decide +kernel
theorem dX10_init_81 : decode cX10_init 81 = .ok (.putfield 41, 3) := by decide +kernel
theorem dX10_init_84 : decode cX10_init 84 = .ok (.aload_n 0, 1) := by decide +kernel
theorem dX10_init_85 : decode cX10_init 85 = .ok (.bipush 6, 2) := by decide +kernel
theorem dX10_init_87 : decode cX10_init 87 = .ok (.newarray .int, 2) := by decide +kernel
theorem dX10_init_89 : decode cX10_init 89 = .ok (.putfield 44, 3) := by decide +kernel
theorem dX10_init_92 : decode cX10_init 92 = .ok (.aload_n 0, 1) := by decide +kernel
theorem dX10_init_93 : decode cX10_init 93 = .ok (.bipush 6, 2) := by decide +kernel
theorem dX10_init_95 : decode cX10_init 95 = .ok (.newarray .int, 2) := by decide +kernel
theorem dX10_init_97 : decode cX10_init 97 = .ok (.putfield 47, 3) := by decide +kernel
theorem dX10_init_100 : decode cX10_init 100 = .ok (.aload_n 0, 1) := by decide +kernel
theorem dX10_init_101 : decode cX10_init 101 = .ok (.bipush 6, 2) := by decide +kernel
theorem dX10_init_103 : decode cX10_init 103 = .ok (.newarray .int, 2) := by decide +kernel
theorem dX10_init_105 : decode cX10_init 105 = .ok (.putfield 50, 3) := by decide +kernel
theorem dX10_init_108 : decode cX10_init 108 = .ok (.aload_n 0, 1) := by decide +kernel
theorem dX10_init_109 : decode cX10_init 109 = .ok (.iconst 2, 1) := by decide +kernel
theorem dX10_init_110 : decode cX10_init 110 = .ok (.newarray .boolean, 2) := by decide +kernel
theorem dX10_init_112 : decode cX10_init 112 = .ok (.putfield 53, 3) := by decide +kernel
theorem dX10_init_115 : decode cX10_init 115 = .ok (.aload_n 0, 1) := by decide +kernel
theorem dX10_init_116 : decode cX10_init 116 = .ok (.bipush 34, 2) := by decide +kernel
theorem dX10_init_118 : decode cX10_init 118 = .ok (.newarray .int, 2) := by decide +kernel
theorem dX10_init_120 : decode cX10_init 120 = .ok (.putfield 57, 3) := by decide +kernel
theorem dX10_init_123 : decode cX10_init 123 = .ok (.return_, 1) := by decide +kernel
theorem dX10_in_0 : decode cX10_in 0 = .ok (.lload_n 0, 1) := by decide +kernel
theorem dX10_in_1 : decode cX10_in 1 = .ok (.lload_n 2, 1) := by decide +kernel
theorem dX10_in_2 : decode cX10_in 2 = .ok (.lcmp, 1) := by decide +kernel
theorem dX10_in_3 : decode cX10_in 3 = .ok (.ifCond .lt 14, 3) := by decide +kernel
theorem dX10_in_6 : decode cX10_in 6 = .ok (.lload_n 0, 1) := by decide +kernel
theorem dX10_in_7 : decode cX10_in 7 = .ok (.lload 4, 2) := by decide +kernel
theorem dX10_in_9 : decode cX10_in 9 = .ok (.lcmp, 1) := by decide +kernel
theorem dX10_in_10 : decode cX10_in 10 = .ok (.ifCond .gt 7, 3) := by decide +kernel
theorem dX10_in_13 : decode cX10_in 13 = .ok (.iconst 1, 1) := by decide +kernel
theorem dX10_in_14 : decode cX10_in 14 = .ok (.goto 4, 3) := by decide +kernel
theorem dX10_in_17 : decode cX10_in 17 = .ok (.iconst 0, 1) := by decide +kernel
theorem dX10_in_18 : decode cX10_in 18 = .ok (.ireturn, 1) := by decide +kernel
theorem dX10_has_0 : decode cX10_has 0 = .ok (.iload_n 0, 1) := by decide +kernel
theorem dX10_has_1 : decode cX10_has 1 = .ok (.iload_n 1, 1) := by decide +kernel
theorem dX10_has_2 : decode cX10_has 2 = .ok (.ishr, 1) := by decide +kernel
theorem dX10_has_3 : decode cX10_has 3 = .ok (.iconst 1, 1) := by decide +kernel
theorem dX10_has_4 : decode cX10_has 4 = .ok (.iand, 1) := by decide +kernel
theorem dX10_has_5 : decode cX10_has 5 = .ok (.iconst 1, 1) := by decide +kernel
theorem dX10_has_6 : decode cX10_has 6 = .ok (.if_icmp .ne 7, 3) := by decide +kernel
theorem dX10_has_9 : decode cX10_has 9 = .ok (.iconst 1, 1) := by decide +kernel
theorem dX10_has_10 : decode cX10_has 10 = .ok (.goto 4, 3) := by decide +kernel
theorem dX10_has_13 : decode cX10_has 13 = .ok (.iconst 0, 1) := by decide +kernel
theorem dX10_has_14 : decode cX10_has 14 = .ok (.ireturn, 1) := by decide +kernel
theorem dX10_ones_0 : decode cX10_ones 0 = .ok (.iconst 0, 1) := by decide +kernel
theorem dX10_ones_1 : decode cX10_ones 1 = .ok (.istore_n 1, 1) := by decide +kernel
theorem dX10_ones_2 : decode cX10_ones 2 = .ok (.iconst 0, 1) := by decide +kernel
theorem dX10_ones_3 : decode cX10_ones 3 = .ok (.istore_n 2, 1) := by decide +kernel
theorem dX10_ones_4 : decode cX10_ones 4 = .ok (.iload_n 2, 1) := by decide +kernel
theorem dX10_ones_5 : decode cX10_ones 5 = .ok (.bipush 16, 2) := by decide +kernel
theorem dX10_ones_7 : decode cX10_ones 7 = .ok (.if_icmp .ge 17, 3) := by decide +kernel
theorem dX10_ones_10 : decode cX10_ones 10 = .ok (.iload_n 1, 1) := by decide +kernel
theorem dX10_ones_11 : decode cX10_ones 11 = .ok (.iload_n 0, 1) := by decide +kernel
theorem dX10_ones_12 : decode cX10_ones 12 = .ok (.iload_n 2, 1) := by decide +kernel
theorem dX10_ones_13 : decode cX10_ones 13 = .ok (.ishr, 1) := by decide +kernel
theorem dX10_ones_14 : decode cX10_ones 14 = .ok (.iconst 1, 1) := by decide +kernel
theorem dX10_ones_15 : decode cX10_ones 15 = .ok (.iand, 1) := by decide +kernel
theorem dX10_ones_16 : decode cX10_ones 16 = .ok (.iadd, 1) := by decide +kernel
theorem dX10_ones_17 : decode cX10_ones 17 = .ok (.istore_n 1, 1) := by decide +kernel
theorem dX10_ones_18 : decode cX10_ones 18 = .ok (.iinc 2 1, 3) := by decide +kernel
theorem dX10_ones_21 : decode cX10_ones 21 = .ok (.goto (-17), 3) := by decide +kernel
theorem dX10_ones_24 : decode cX10_ones 24 = .ok (.iload_n 1, 1) := by decide +kernel
theorem dX10_ones_25 : decode cX10_ones 25 = .ok (.ireturn, 1) := by decide +kernel
theorem dX10_write_0 : decode cX10_write 0 = .ok (.iload_n 1, 1) := by decide +kernel
theorem dX10_write_1 : decode cX10_write 1 = .ok (.i2l, 1) := by decide +kernel
theorem dX10_write_2 : decode cX10_write 2 = .ok (.lconst 0, 1) := by decide +kernel
theorem dX10_write_3 : decode cX10_write 3 = .ok (.ldc2_w 60, 3) := by decide +kernel
theorem dX10_write_6 : decode cX10_write 6 = .ok (.invokestatic 62, 3) := by decide +kernel
theorem dX10_write_9 : decode cX10_write 9 = .ok (.ifCond .ne 6, 3) := by decide +kernel
theorem dX10_write_12 : decode cX10_write 12 = .ok (.bipush (-2), 2) := by decide +kernel
theorem dX10_write_14 : decode cX10_write 14 = .ok (.ireturn, 1) := by decide +kernel
theorem dX10_write_15 : decode cX10_write 15 = .ok (.aload_n 0, 1) := by decide +kernel
theorem dX10_write_16 : decode cX10_write 16 = .ok (.getfield 66, 3) := by decide +kernel
theorem dX10_write_19 : decode cX10_write 19 = .ok (.bipush 32, 2) := by decide +kernel
theorem dX10_write_21 : decode cX10_write 21 = .ok (.if_icmp .ne 6, 3) := by decide +kernel
theorem dX10_write_24 : decode cX10_write 24 = .ok (.bipush (-4), 2) := by decide +kernel
theorem dX10_write_26 : decode cX10_write 26 = .ok (.ireturn, 1) := by decide +kernel
theorem dX10_write_27 : decode cX10_write 27 = .ok (.aload_n 0, 1) := by decide +kernel
theorem dX10_write_28 : decode cX10_write 28 = .ok (.getfield 19, 3) := by decide +kernel
theorem dX10_write_31 : decode cX10_write 31 = .ok (.aload_n 0, 1) := by decide +kernel
theorem dX10_write_32 : decode cX10_write 32 = .ok (.getfield 66, 3) := by decide +kernel
theorem dX10_write_35 : decode cX10_write 35 = .ok (.iload_n 1, 1) := by decide +kernel
theorem dX10_write_36 : decode cX10_write 36 = .ok (.iastore, 1) := by decide +kernel
theorem dX10_write_37 : decode cX10_write 37 = .ok (.aload_n 0, 1) := by decide +kernel
theorem dX10_write_38 : decode cX10_write 38 = .ok (.dup, 1) := by decide +kernel
theorem dX10_write_39 : decode cX10_write 39 = .ok (.getfield 66, 3) := by decide +kernel
theorem dX10_write_42 : decode cX10_write 42 = .ok (.iconst 1, 1) := by decide +kernel
theorem dX10_write_43 : decode cX10_write 43 = .ok (.iadd, 1) := by decide +kernel
theorem dX10_write_44 : decode cX10_write 44 = .ok (.putfield 66, 3) := by decide +kernel
theorem dX10_write_47 : decode cX10_write 47 = .ok (.aload_n 0, 1) := by decide +kernel
theorem dX10_write_48 : decode cX10_write 48 = .ok (.getfield 66, 3) := by decide +kernel
theorem dX10_write_51 : decode cX10_write 51 = .ok (.ireturn, 1) := by decide +kernel
theorem dX10_wipe_0 : decode cX10_wipe 0 = .ok (.aload_n 0, 1) := by decide +kernel
theorem dX10_wipe_1 : decode cX10_wipe 1 = .ok (.getfield 66, 3) := by decide +kernel
theorem dX10_wipe_4 : decode cX10_wipe 4 = .ok (.istore_n 1, 1) := by decide +kernel
theorem dX10_wipe_5 : decode cX10_wipe 5 = .ok (.aload_n 0, 1) := by decide +kernel
theorem dX10_wipe_6 : decode cX10_wipe 6 = .ok (.iconst 0, 1) := by decide +kernel
theorem dX10_wipe_7 : decode cX10_wipe 7 = .ok (.putfield 66, 3) := by decide +kernel
theorem dX10_wipe_10 : decode cX10_wipe 10 = .ok (.iload_n 1, 1) := by decide +kernel
theorem dX10_wipe_11 : decode cX10_wipe 11 = .ok (.ireturn, 1) := by decide +kernel
theorem dX10_fieldOf_0 : decode cX10_fieldOf 0 = .ok (.iload_n 0, 1) := by decide +kernel
theorem dX10_fieldOf_1 : decode cX10_fieldOf 1 = .ok (.lookupswitch 51 #[(45, 49), (97, 43), (98, 45), (118, 47)], 43) := by decide +kernel
theorem dX10_fieldOf_44 : decode cX10_fieldOf 44 = .ok (.iconst 0, 1) := by decide +kernel
theorem dX10_fieldOf_45 : decode cX10_fieldOf 45 = .ok (.ireturn, 1) := by decide +kernel
theorem dX10_fieldOf_46 : decode cX10_fieldOf 46 = .ok (.iconst 1, 1) := by decide +kernel
theorem dX10_fieldOf_47 : decode cX10_fieldOf 47 = .ok (.ireturn, 1) := by decide +kernel
theorem dX10_fieldOf_48 : decode cX10_fieldOf 48 = .ok (.iconst 2, 1) := by decide +kernel
theorem dX10_fieldOf_49 : decode cX10_fieldOf 49 = .ok (.ireturn, 1) := by decide +kernel
theorem dX10_fieldOf_50 : decode cX10_fieldOf 50 = .ok (.iconst 3, 1) := by decide +kernel
theorem dX10_fieldOf_51 : decode cX10_fieldOf 51 = .ok (.ireturn, 1) := by decide +kernel
theorem dX10_fieldOf_52 : decode cX10_fieldOf 52 = .ok (.bipush (-9), 2) := by decide +kernel
theorem dX10_fieldOf_54 : decode cX10_fieldOf 54 = .ok (.ireturn, 1) := by decide +kernel
theorem dX10_letterOf_0 : decode cX10_letterOf 0 = .ok (.bipush 10, 2) := by decide +kernel
theorem dX10_letterOf_2 : decode cX10_letterOf 2 = .ok (.iload_n 0, 1) := by decide +kernel
theorem dX10_letterOf_3 : decode cX10_letterOf 3 = .ok (.imul, 1) := by decide +kernel
theorem dX10_letterOf_4 : decode cX10_letterOf 4 = .ok (.iload_n 1, 1) := by decide +kernel
theorem dX10_letterOf_5 : decode cX10_letterOf 5 = .ok (.iadd, 1) := by decide +kernel
theorem dX10_letterOf_6 : decode cX10_letterOf 6 = .ok (.tableswitch 260 0 44 #[194, 197, 200, 203, 206, 260, 260, 260, 260, 260, 209, 212, 215, 260, 260, 260, 260, 260, 260, 260, 218, 221, 224, 227, 260, 260, 260, 260, 260, 260, 230, 233, 236, 239, 242, 260, 260, 260, 260, 260, 245, 248, 251, 254, 257], 194) := by decide +kernel
theorem dX10_letterOf_200 : decode cX10_letterOf 200 = .ok (.bipush 99, 2) := by decide +kernel
theorem dX10_letterOf_202 : decode cX10_letterOf 202 = .ok (.ireturn, 1) := by decide +kernel
theorem dX10_letterOf_203 : decode cX10_letterOf 203 = .ok (.bipush 111, 2) := by decide +kernel
theorem dX10_letterOf_205 : decode cX10_letterOf 205 = .ok (.ireturn, 1) := by decide +kernel
theorem dX10_letterOf_206 : decode cX10_letterOf 206 = .ok (.bipush 117, 2) := by decide +kernel
theorem dX10_letterOf_208 : decode cX10_letterOf 208 = .ok (.ireturn, 1) := by decide +kernel
theorem dX10_letterOf_209 : decode cX10_letterOf 209 = .ok (.bipush 110, 2) := by decide +kernel
theorem dX10_letterOf_211 : decode cX10_letterOf 211 = .ok (.ireturn, 1) := by decide +kernel
theorem dX10_letterOf_212 : decode cX10_letterOf 212 = .ok (.bipush 116, 2) := by decide +kernel
theorem dX10_letterOf_214 : decode cX10_letterOf 214 = .ok (.ireturn, 1) := by decide +kernel
theorem dX10_letterOf_215 : decode cX10_letterOf 215 = .ok (.bipush 115, 2) := by decide +kernel
theorem dX10_letterOf_217 : decode cX10_letterOf 217 = .ok (.ireturn, 1) := by decide +kernel
theorem dX10_letterOf_218 : decode cX10_letterOf 218 = .ok (.bipush 117, 2) := by decide +kernel
theorem dX10_letterOf_220 : decode cX10_letterOf 220 = .ok (.ireturn, 1) := by decide +kernel
theorem dX10_letterOf_221 : decode cX10_letterOf 221 = .ok (.bipush 109, 2) := by decide +kernel
theorem dX10_letterOf_223 : decode cX10_letterOf 223 = .ok (.ireturn, 1) := by decide +kernel
theorem dX10_letterOf_224 : decode cX10_letterOf 224 = .ok (.bipush 109, 2) := by decide +kernel
theorem dX10_letterOf_226 : decode cX10_letterOf 226 = .ok (.ireturn, 1) := by decide +kernel
theorem dX10_letterOf_227 : decode cX10_letterOf 227 = .ok (.bipush 111, 2) := by decide +kernel
theorem dX10_letterOf_229 : decode cX10_letterOf 229 = .ok (.ireturn, 1) := by decide +kernel
theorem dX10_letterOf_230 : decode cX10_letterOf 230 = .ok (.bipush 115, 2) := by decide +kernel
theorem dX10_letterOf_232 : decode cX10_letterOf 232 = .ok (.ireturn, 1) := by decide +kernel
theorem dX10_letterOf_233 : decode cX10_letterOf 233 = .ok (.bipush 116, 2) := by decide +kernel
theorem dX10_letterOf_235 : decode cX10_letterOf 235 = .ok (.ireturn, 1) := by decide +kernel
theorem dX10_letterOf_236 : decode cX10_letterOf 236 = .ok (.bipush 108, 2) := by decide +kernel
theorem dX10_letterOf_238 : decode cX10_letterOf 238 = .ok (.ireturn, 1) := by decide +kernel
theorem dX10_letterOf_239 : decode cX10_letterOf 239 = .ok (.bipush 101, 2) := by decide +kernel
theorem dX10_letterOf_241 : decode cX10_letterOf 241 = .ok (.ireturn, 1) := by decide +kernel
theorem dX10_letterOf_242 : decode cX10_letterOf 242 = .ok (.bipush 97, 2) := by decide +kernel
theorem dX10_letterOf_244 : decode cX10_letterOf 244 = .ok (.ireturn, 1) := by decide +kernel
theorem dX10_letterOf_245 : decode cX10_letterOf 245 = .ok (.bipush 115, 2) := by decide +kernel
theorem dX10_letterOf_247 : decode cX10_letterOf 247 = .ok (.ireturn, 1) := by decide +kernel
theorem dX10_letterOf_248 : decode cX10_letterOf 248 = .ok (.bipush 116, 2) := by decide +kernel
theorem dX10_letterOf_250 : decode cX10_letterOf 250 = .ok (.ireturn, 1) := by decide +kernel
theorem dX10_letterOf_251 : decode cX10_letterOf 251 = .ok (.bipush 107, 2) := by decide +kernel
theorem dX10_letterOf_253 : decode cX10_letterOf 253 = .ok (.ireturn, 1) := by decide +kernel
theorem dX10_letterOf_254 : decode cX10_letterOf 254 = .ok (.bipush 105, 2) := by decide +kernel
theorem dX10_letterOf_256 : decode cX10_letterOf 256 = .ok (.ireturn, 1) := by decide +kernel
theorem dX10_letterOf_257 : decode cX10_letterOf 257 = .ok (.bipush 110, 2) := by decide +kernel
theorem dX10_letterOf_259 : decode cX10_letterOf 259 = .ok (.ireturn, 1) := by decide +kernel
theorem dX10_letterOf_260 : decode cX10_letterOf 260 = .ok (.bipush 100, 2) := by decide +kernel
theorem dX10_letterOf_262 : decode cX10_letterOf 262 = .ok (.ireturn, 1) := by decide +kernel
theorem dX10_letterOf_263 : decode cX10_letterOf 263 = .ok (.bipush 115, 2) := by decide +kernel
theorem dX10_letterOf_265 : decode cX10_letterOf 265 = .ok (.ireturn, 1) := by decide +kernel
theorem dX10_letterOf_266 : decode cX10_letterOf 266 = .ok (.bipush (-9), 2) := by decide +kernel
theorem dX10_letterOf_268 : decode cX10_letterOf 268 = .ok (.ireturn, 1) := by decide +kernel
theorem dX10_readText_0 : decode cX10_readText 0 = .ok (.aload_n 0, 1) := by decide +kernel
theorem dX10_readText_1 : decode cX10_readText 1 = .ok (.getfield 66, 3) := by decide +kernel
theorem dX10_readText_4 : decode cX10_readText 4 = .ok (.ifCond .eq 23, 3) := by decide +kernel
theorem dX10_readText_7 : decode cX10_readText 7 = .ok (.aload_n 0, 1) := by decide +kernel
theorem dX10_readText_8 : decode cX10_readText 8 = .ok (.getfield 19, 3) := by decide +kernel
theorem dX10_readText_11 : decode cX10_readText 11 = .ok (.iconst 0, 1) := by decide +kernel
theorem dX10_readText_12 : decode cX10_readText 12 = .ok (.iaload, 1) := by decide +kernel
theorem dX10_readText_13 : decode cX10_readText 13 = .ok (.invokestatic 69, 3) := by decide +kernel
theorem dX10_readText_16 : decode cX10_readText 16 = .ok (.i2l, 1) := by decide +kernel
theorem dX10_readText_17 : decode cX10_readText 17 = .ok (.lconst 0, 1) := by decide +kernel
theorem dX10_readText_18 : decode cX10_readText 18 = .ok (.ldc2_w 73, 3) := by decide +kernel
theorem dX10_readText_21 : decode cX10_readText 21 = .ok (.invokestatic 62, 3) := by decide +kernel
theorem dX10_readText_24 : decode cX10_readText 24 = .ok (.ifCond .ne 5, 3) := by decide +kernel
theorem dX10_readText_27 : decode cX10_readText 27 = .ok (.iconst 0, 1) := by decide +kernel
theorem dX10_readText_28 : decode cX10_readText 28 = .ok (.ireturn, 1) := by decide +kernel
theorem dX10_readText_29 : decode cX10_readText 29 = .ok (.aload_n 0, 1) := by decide +kernel
theorem dX10_readText_30 : decode cX10_readText 30 = .ok (.aload_n 0, 1) := by decide +kernel
theorem dX10_readText_31 : decode cX10_readText 31 = .ok (.getfield 19, 3) := by decide +kernel
theorem dX10_readText_34 : decode cX10_readText 34 = .ok (.iconst 0, 1) := by decide +kernel
theorem dX10_readText_35 : decode cX10_readText 35 = .ok (.iaload, 1) := by decide +kernel
theorem dX10_readText_36 : decode cX10_readText 36 = .ok (.invokestatic 69, 3) := by decide +kernel
theorem dX10_readText_39 : decode cX10_readText 39 = .ok (.putfield 75, 3) := by decide +kernel
theorem dX10_readText_42 : decode cX10_readText 42 = .ok (.aload_n 0, 1) := by decide +kernel
theorem dX10_readText_43 : decode cX10_readText 43 = .ok (.getfield 66, 3) := by decide +kernel
theorem dX10_readText_46 : decode cX10_readText 46 = .ok (.iconst 1, 1) := by decide +kernel
theorem dX10_readText_47 : decode cX10_readText 47 = .ok (.if_icmp .eq 33, 3) := by decide +kernel
theorem dX10_readText_50 : decode cX10_readText 50 = .ok (.aload_n 0, 1) := by decide +kernel
theorem dX10_readText_51 : decode cX10_readText 51 = .ok (.getfield 19, 3) := by decide +kernel
theorem dX10_readText_54 : decode cX10_readText 54 = .ok (.iconst 1, 1) := by decide +kernel
theorem dX10_readText_55 : decode cX10_readText 55 = .ok (.iaload, 1) := by decide +kernel
theorem dX10_readText_56 : decode cX10_readText 56 = .ok (.invokestatic 69, 3) := by decide +kernel
theorem dX10_readText_59 : decode cX10_readText 59 = .ok (.bipush (-9), 2) := by decide +kernel
theorem dX10_readText_61 : decode cX10_readText 61 = .ok (.if_icmp .eq 19, 3) := by decide +kernel
theorem dX10_readText_64 : decode cX10_readText 64 = .ok (.aload_n 0, 1) := by decide +kernel
theorem dX10_readText_65 : decode cX10_readText 65 = .ok (.getfield 19, 3) := by decide +kernel
theorem dX10_readText_68 : decode cX10_readText 68 = .ok (.iconst 1, 1) := by decide +kernel
theorem dX10_readText_69 : decode cX10_readText 69 = .ok (.iaload, 1) := by decide +kernel
theorem dX10_readText_70 : decode cX10_readText 70 = .ok (.invokestatic 69, 3) := by decide +kernel
theorem dX10_readText_73 : decode cX10_readText 73 = .ok (.aload_n 0, 1) := by decide +kernel
theorem dX10_readText_74 : decode cX10_readText 74 = .ok (.getfield 75, 3) := by decide +kernel
theorem dX10_readText_77 : decode cX10_readText 77 = .ok (.if_icmp .ne 5, 3) := by decide +kernel
theorem dX10_readText_80 : decode cX10_readText 80 = .ok (.iconst 1, 1) := by decide +kernel
theorem dX10_readText_81 : decode cX10_readText 81 = .ok (.ireturn, 1) := by decide +kernel
theorem dX10_readText_82 : decode cX10_readText 82 = .ok (.aload_n 0, 1) := by decide +kernel
theorem dX10_readText_83 : decode cX10_readText 83 = .ok (.aload_n 0, 1) := by decide +kernel
theorem dX10_readText_84 : decode cX10_readText 84 = .ok (.getfield 19, 3) := by decide +kernel
theorem dX10_readText_87 : decode cX10_readText 87 = .ok (.iconst 1, 1) := by decide +kernel
theorem dX10_readText_88 : decode cX10_readText 88 = .ok (.iaload, 1) := by decide +kernel
theorem dX10_readText_89 : decode cX10_readText 89 = .ok (.invokestatic 69, 3) := by decide +kernel
theorem dX10_readText_92 : decode cX10_readText 92 = .ok (.putfield 78, 3) := by decide +kernel
theorem dX10_readText_95 : decode cX10_readText 95 = .ok (.aload_n 0, 1) := by decide +kernel
theorem dX10_readText_96 : decode cX10_readText 96 = .ok (.bipush (-9), 2) := by decide +kernel
theorem dX10_readText_98 : decode cX10_readText 98 = .ok (.putfield 81, 3) := by decide +kernel
theorem dX10_readText_101 : decode cX10_readText 101 = .ok (.iconst 0, 1) := by decide +kernel
theorem dX10_readText_102 : decode cX10_readText 102 = .ok (.istore_n 1, 1) := by decide +kernel
theorem dX10_readText_103 : decode cX10_readText 103 = .ok (.iload_n 1, 1) := by decide +kernel
theorem dX10_readText_104 : decode cX10_readText 104 = .ok (.iconst 5, 1) := by decide +kernel
theorem dX10_readText_105 : decode cX10_readText 105 = .ok (.if_icmp .ge 43, 3) := by decide +kernel
theorem dX10_readText_108 : decode cX10_readText 108 = .ok (.aload_n 0, 1) := by decide +kernel
theorem dX10_readText_109 : decode cX10_readText 109 = .ok (.aload_n 0, 1) := by decide +kernel
theorem dX10_readText_110 : decode cX10_readText 110 = .ok (.getfield 66, 3) := by decide +kernel
theorem dX10_readText_113 : decode cX10_readText 113 = .ok (.iconst 2, 1) := by decide +kernel
theorem dX10_readText_114 : decode cX10_readText 114 = .ok (.if_icmp .le 21, 3) := by decide +kernel
theorem dX10_readText_117 : decode cX10_readText 117 = .ok (.iload_n 1, 1) := by decide +kernel
theorem dX10_readText_118 : decode cX10_readText 118 = .ok (.iconst 0, 1) := by decide +kernel
theorem dX10_readText_119 : decode cX10_readText 119 = .ok (.invokestatic 84, 3) := by decide +kernel
theorem dX10_readText_122 : decode cX10_readText 122 = .ok (.aload_n 0, 1) := by decide +kernel
theorem dX10_readText_123 : decode cX10_readText 123 = .ok (.getfield 19, 3) := by decide +kernel
theorem dX10_readText_126 : decode cX10_readText 126 = .ok (.iconst 2, 1) := by decide +kernel
theorem dX10_readText_127 : decode cX10_readText 127 = .ok (.iaload, 1) := by decide +kernel
theorem dX10_readText_128 : decode cX10_readText 128 = .ok (.if_icmp .ne 7, 3) := by decide +kernel
theorem dX10_readText_131 : decode cX10_readText 131 = .ok (.iload_n 1, 1) := by decide +kernel
theorem dX10_readText_132 : decode cX10_readText 132 = .ok (.goto 7, 3) := by decide +kernel
theorem dX10_readText_135 : decode cX10_readText 135 = .ok (.aload_n 0, 1) := by decide +kernel
theorem dX10_readText_136 : decode cX10_readText 136 = .ok (.getfield 81, 3) := by decide +kernel
theorem dX10_readText_139 : decode cX10_readText 139 = .ok (.putfield 81, 3) := by decide +kernel
theorem dX10_readText_142 : decode cX10_readText 142 = .ok (.iinc 1 1, 3) := by decide +kernel
theorem dX10_readText_145 : decode cX10_readText 145 = .ok (.goto (-42), 3) := by decide +kernel
theorem dX10_readText_148 : decode cX10_readText 148 = .ok (.aload_n 0, 1) := by decide +kernel
theorem dX10_readText_149 : decode cX10_readText 149 = .ok (.getfield 81, 3) := by decide +kernel
theorem dX10_readText_152 : decode cX10_readText 152 = .ok (.bipush (-9), 2) := by decide +kernel
theorem dX10_readText_154 : decode cX10_readText 154 = .ok (.if_icmp .ne 5, 3) := by decide +kernel
theorem dX10_readText_157 : decode cX10_readText 157 = .ok (.iconst 2, 1) := by decide +kernel
theorem dX10_readText_158 : decode cX10_readText 158 = .ok (.ireturn, 1) := by decide +kernel
theorem dX10_readText_159 : decode cX10_readText 159 = .ok (.iconst 2, 1) := by decide +kernel
theorem dX10_readText_160 : decode cX10_readText 160 = .ok (.istore_n 1, 1) := by decide +kernel
theorem dX10_readText_161 : decode cX10_readText 161 = .ok (.aload_n 0, 1) := by decide +kernel
theorem dX10_readText_162 : decode cX10_readText 162 = .ok (.getfield 81, 3) := by decide +kernel
theorem dX10_readText_165 : decode cX10_readText 165 = .ok (.iload_n 1, 1) := by decide +kernel
theorem dX10_readText_166 : decode cX10_readText 166 = .ok (.iconst 2, 1) := by decide +kernel
theorem dX10_readText_167 : decode cX10_readText 167 = .ok (.isub, 1) := by decide +kernel
theorem dX10_readText_168 : decode cX10_readText 168 = .ok (.invokestatic 84, 3) := by decide +kernel
theorem dX10_readText_171 : decode cX10_readText 171 = .ok (.bipush (-9), 2) := by decide +kernel
theorem dX10_readText_173 : decode cX10_readText 173 = .ok (.if_icmp .eq 38, 3) := by decide +kernel
theorem dX10_readText_176 : decode cX10_readText 176 = .ok (.iload_n 1, 1) := by decide +kernel
theorem dX10_readText_177 : decode cX10_readText 177 = .ok (.aload_n 0, 1) := by decide +kernel
theorem dX10_readText_178 : decode cX10_readText 178 = .ok (.getfield 66, 3) := by decide +kernel
theorem dX10_readText_181 : decode cX10_readText 181 = .ok (.if_icmp .ge 22, 3) := by decide +kernel
theorem dX10_readText_184 : decode cX10_readText 184 = .ok (.aload_n 0, 1) := by decide +kernel
theorem dX10_readText_185 : decode cX10_readText 185 = .ok (.getfield 19, 3) := by decide +kernel
theorem dX10_readText_188 : decode cX10_readText 188 = .ok (.iload_n 1, 1) := by decide +kernel
theorem dX10_readText_189 : decode cX10_readText 189 = .ok (.iaload, 1) := by decide +kernel
theorem dX10_readText_190 : decode cX10_readText 190 = .ok (.aload_n 0, 1) := by decide +kernel
theorem dX10_readText_191 : decode cX10_readText 191 = .ok (.getfield 81, 3) := by decide +kernel
theorem dX10_readText_194 : decode cX10_readText 194 = .ok (.iload_n 1, 1) := by decide +kernel
theorem dX10_readText_195 : decode cX10_readText 195 = .ok (.iconst 2, 1) := by decide +kernel
theorem dX10_readText_196 : decode cX10_readText 196 = .ok (.isub, 1) := by decide +kernel
theorem dX10_readText_197 : decode cX10_readText 197 = .ok (.invokestatic 84, 3) := by decide +kernel
theorem dX10_readText_200 : decode cX10_readText 200 = .ok (.if_icmp .eq 5, 3) := by decide +kernel
theorem dX10_readText_203 : decode cX10_readText 203 = .ok (.iload_n 1, 1) := by decide +kernel
theorem dX10_readText_204 : decode cX10_readText 204 = .ok (.ireturn, 1) := by decide +kernel
theorem dX10_readText_205 : decode cX10_readText 205 = .ok (.iinc 1 1, 3) := by decide +kernel
theorem dX10_readText_208 : decode cX10_readText 208 = .ok (.goto (-47), 3) := by decide +kernel
theorem dX10_readText_211 : decode cX10_readText 211 = .ok (.aload_n 0, 1) := by decide +kernel
theorem dX10_readText_212 : decode cX10_readText 212 = .ok (.iload_n 1, 1) := by decide +kernel
theorem dX10_readText_213 : decode cX10_readText 213 = .ok (.invokevirtual 88, 3) := by decide +kernel
theorem dX10_readText_216 : decode cX10_readText 216 = .ok (.ireturn, 1) := by decide +kernel
theorem dX10_readEnd_0 : decode cX10_readEnd 0 = .ok (.iload_n 1, 1) := by decide +kernel
theorem dX10_readEnd_1 : decode cX10_readEnd 1 = .ok (.aload_n 0, 1) := by decide +kernel
theorem dX10_readEnd_2 : decode cX10_readEnd 2 = .ok (.getfield 66, 3) := by decide +kernel
theorem dX10_readEnd_5 : decode cX10_readEnd 5 = .ok (.if_icmp .ge 14, 3) := by decide +kernel
theorem dX10_readEnd_8 : decode cX10_readEnd 8 = .ok (.aload_n 0, 1) := by decide +kernel
theorem dX10_readEnd_9 : decode cX10_readEnd 9 = .ok (.getfield 19, 3) := by decide +kernel
theorem dX10_readEnd_12 : decode cX10_readEnd 12 = .ok (.iload_n 1, 1) := by decide +kernel
theorem dX10_readEnd_13 : decode cX10_readEnd 13 = .ok (.iaload, 1) := by decide +kernel
theorem dX10_readEnd_14 : decode cX10_readEnd 14 = .ok (.bipush 46, 2) := by decide +kernel
theorem dX10_readEnd_16 : decode cX10_readEnd 16 = .ok (.if_icmp .eq 5, 3) := by decide +kernel
theorem dX10_readEnd_19 : decode cX10_readEnd 19 = .ok (.iload_n 1, 1) := by decide +kernel
theorem dX10_readEnd_20 : decode cX10_readEnd 20 = .ok (.ireturn, 1) := by decide +kernel
theorem dX10_readEnd_21 : decode cX10_readEnd 21 = .ok (.iload_n 1, 1) := by decide +kernel
theorem dX10_readEnd_22 : decode cX10_readEnd 22 = .ok (.iconst 1, 1) := by decide +kernel
theorem dX10_readEnd_23 : decode cX10_readEnd 23 = .ok (.iadd, 1) := by decide +kernel
theorem dX10_readEnd_24 : decode cX10_readEnd 24 = .ok (.aload_n 0, 1) := by decide +kernel
theorem dX10_readEnd_25 : decode cX10_readEnd 25 = .ok (.getfield 66, 3) := by decide +kernel
theorem dX10_readEnd_28 : decode cX10_readEnd 28 = .ok (.if_icmp .ge 24, 3) := by decide +kernel
theorem dX10_readEnd_31 : decode cX10_readEnd 31 = .ok (.aload_n 0, 1) := by decide +kernel
theorem dX10_readEnd_32 : decode cX10_readEnd 32 = .ok (.getfield 19, 3) := by decide +kernel
theorem dX10_readEnd_35 : decode cX10_readEnd 35 = .ok (.iload_n 1, 1) := by decide +kernel
theorem dX10_readEnd_36 : decode cX10_readEnd 36 = .ok (.iconst 1, 1) := by decide +kernel
theorem dX10_readEnd_37 : decode cX10_readEnd 37 = .ok (.iadd, 1) := by decide +kernel
theorem dX10_readEnd_38 : decode cX10_readEnd 38 = .ok (.iaload, 1) := by decide +kernel
theorem dX10_readEnd_39 : decode cX10_readEnd 39 = .ok (.i2l, 1) := by decide +kernel
theorem dX10_readEnd_40 : decode cX10_readEnd 40 = .ok (.ldc2_w 91, 3) := by decide +kernel
theorem dX10_readEnd_43 : decode cX10_readEnd 43 = .ok (.ldc2_w 93, 3) := by decide +kernel
theorem dX10_readEnd_46 : decode cX10_readEnd 46 = .ok (.invokestatic 62, 3) := by decide +kernel
theorem dX10_readEnd_49 : decode cX10_readEnd 49 = .ok (.ifCond .ne 7, 3) := by decide +kernel
theorem dX10_readEnd_52 : decode cX10_readEnd 52 = .ok (.iload_n 1, 1) := by decide +kernel
theorem dX10_readEnd_53 : decode cX10_readEnd 53 = .ok (.iconst 1, 1) := by decide +kernel
theorem dX10_readEnd_54 : decode cX10_readEnd 54 = .ok (.iadd, 1) := by decide +kernel
theorem dX10_readEnd_55 : decode cX10_readEnd 55 = .ok (.ireturn, 1) := by decide +kernel
theorem dX10_readEnd_56 : decode cX10_readEnd 56 = .ok (.iload_n 1, 1) := by decide +kernel
theorem dX10_readEnd_57 : decode cX10_readEnd 57 = .ok (.iconst 2, 1) := by decide +kernel
theorem dX10_readEnd_58 : decode cX10_readEnd 58 = .ok (.iadd, 1) := by decide +kernel
theorem dX10_readEnd_59 : decode cX10_readEnd 59 = .ok (.aload_n 0, 1) := by decide +kernel
theorem dX10_readEnd_60 : decode cX10_readEnd 60 = .ok (.getfield 66, 3) := by decide +kernel
theorem dX10_readEnd_63 : decode cX10_readEnd 63 = .ok (.if_icmp .ge 24, 3) := by decide +kernel
theorem dX10_readEnd_66 : decode cX10_readEnd 66 = .ok (.aload_n 0, 1) := by decide +kernel
theorem dX10_readEnd_67 : decode cX10_readEnd 67 = .ok (.getfield 19, 3) := by decide +kernel
theorem dX10_readEnd_70 : decode cX10_readEnd 70 = .ok (.iload_n 1, 1) := by decide +kernel
theorem dX10_readEnd_71 : decode cX10_readEnd 71 = .ok (.iconst 2, 1) := by decide +kernel
theorem dX10_readEnd_72 : decode cX10_readEnd 72 = .ok (.iadd, 1) := by decide +kernel
theorem dX10_readEnd_73 : decode cX10_readEnd 73 = .ok (.iaload, 1) := by decide +kernel
theorem dX10_readEnd_74 : decode cX10_readEnd 74 = .ok (.i2l, 1) := by decide +kernel
theorem dX10_readEnd_75 : decode cX10_readEnd 75 = .ok (.ldc2_w 95, 3) := by decide +kernel
theorem dX10_readEnd_78 : decode cX10_readEnd 78 = .ok (.ldc2_w 97, 3) := by decide +kernel
theorem dX10_readEnd_81 : decode cX10_readEnd 81 = .ok (.invokestatic 62, 3) := by decide +kernel
theorem dX10_readEnd_84 : decode cX10_readEnd 84 = .ok (.ifCond .ne 7, 3) := by decide +kernel
theorem dX10_readEnd_87 : decode cX10_readEnd 87 = .ok (.iload_n 1, 1) := by decide +kernel
theorem dX10_readEnd_88 : decode cX10_readEnd 88 = .ok (.iconst 2, 1) := by decide +kernel
theorem dX10_readEnd_89 : decode cX10_readEnd 89 = .ok (.iadd, 1) := by decide +kernel
theorem dX10_readEnd_90 : decode cX10_readEnd 90 = .ok (.ireturn, 1) := by decide +kernel
theorem dX10_readEnd_91 : decode cX10_readEnd 91 = .ok (.aload_n 0, 1) := by decide +kernel
theorem dX10_readEnd_92 : decode cX10_readEnd 92 = .ok (.aload_n 0, 1) := by decide +kernel
theorem dX10_readEnd_93 : decode cX10_readEnd 93 = .ok (.getfield 19, 3) := by decide +kernel
theorem dX10_readEnd_96 : decode cX10_readEnd 96 = .ok (.iload_n 1, 1) := by decide +kernel
theorem dX10_readEnd_97 : decode cX10_readEnd 97 = .ok (.iconst 1, 1) := by decide +kernel
theorem dX10_readEnd_98 : decode cX10_readEnd 98 = .ok (.iadd, 1) := by decide +kernel
theorem dX10_readEnd_99 : decode cX10_readEnd 99 = .ok (.iaload, 1) := by decide +kernel
theorem dX10_readEnd_100 : decode cX10_readEnd 100 = .ok (.bipush 48, 2) := by decide +kernel
theorem dX10_readEnd_102 : decode cX10_readEnd 102 = .ok (.isub, 1) := by decide +kernel
theorem dX10_readEnd_103 : decode cX10_readEnd 103 = .ok (.putfield 99, 3) := by decide +kernel
theorem dX10_readEnd_106 : decode cX10_readEnd 106 = .ok (.aload_n 0, 1) := by decide +kernel
theorem dX10_readEnd_107 : decode cX10_readEnd 107 = .ok (.aload_n 0, 1) := by decide +kernel
theorem dX10_readEnd_108 : decode cX10_readEnd 108 = .ok (.getfield 19, 3) := by decide +kernel
theorem dX10_readEnd_111 : decode cX10_readEnd 111 = .ok (.iload_n 1, 1) := by decide +kernel
theorem dX10_readEnd_112 : decode cX10_readEnd 112 = .ok (.iconst 2, 1) := by decide +kernel
theorem dX10_readEnd_113 : decode cX10_readEnd 113 = .ok (.iadd, 1) := by decide +kernel
theorem dX10_readEnd_114 : decode cX10_readEnd 114 = .ok (.iaload, 1) := by decide +kernel
theorem dX10_readEnd_115 : decode cX10_readEnd 115 = .ok (.bipush 48, 2) := by decide +kernel
theorem dX10_readEnd_117 : decode cX10_readEnd 117 = .ok (.isub, 1) := by decide +kernel
theorem dX10_readEnd_118 : decode cX10_readEnd 118 = .ok (.putfield 102, 3) := by decide +kernel
theorem dX10_readEnd_121 : decode cX10_readEnd 121 = .ok (.iload_n 1, 1) := by decide +kernel
theorem dX10_readEnd_122 : decode cX10_readEnd 122 = .ok (.iconst 3, 1) := by decide +kernel
theorem dX10_readEnd_123 : decode cX10_readEnd 123 = .ok (.iadd, 1) := by decide +kernel
theorem dX10_readEnd_124 : decode cX10_readEnd 124 = .ok (.aload_n 0, 1) := by decide +kernel
theorem dX10_readEnd_125 : decode cX10_readEnd 125 = .ok (.getfield 66, 3) := by decide +kernel
theorem dX10_readEnd_128 : decode cX10_readEnd 128 = .ok (.if_icmp .ge 9, 3) := by decide +kernel
theorem dX10_readEnd_131 : decode cX10_readEnd 131 = .ok (.iload_n 1, 1) := by decide +kernel
theorem dX10_readEnd_132 : decode cX10_readEnd 132 = .ok (.iconst 3, 1) := by decide +kernel
theorem dX10_readEnd_133 : decode cX10_readEnd 133 = .ok (.iadd, 1) := by decide +kernel
theorem dX10_readEnd_134 : decode cX10_readEnd 134 = .ok (.goto 5, 3) := by decide +kernel
theorem dX10_readEnd_137 : decode cX10_readEnd 137 = .ok (.bipush (-9), 2) := by decide +kernel
theorem dX10_readEnd_139 : decode cX10_readEnd 139 = .ok (.ireturn, 1) := by decide +kernel
theorem dX10_fault_0 : decode cX10_fault 0 = .ok (.aload_n 0, 1) := by decide +kernel
theorem dX10_fault_1 : decode cX10_fault 1 = .ok (.invokevirtual 105, 3) := by decide +kernel
theorem dX10_fault_4 : decode cX10_fault 4 = .ok (.ireturn, 1) := by decide +kernel
theorem dX10_plan_0 : decode cX10_plan 0 = .ok (.aload_n 0, 1) := by decide +kernel
theorem dX10_plan_1 : decode cX10_plan 1 = .ok (.invokevirtual 105, 3) := by decide +kernel
theorem dX10_plan_4 : decode cX10_plan 4 = .ok (.bipush (-9), 2) := by decide +kernel
theorem dX10_plan_6 : decode cX10_plan 6 = .ok (.if_icmp .eq 6, 3) := by decide +kernel
theorem dX10_plan_9 : decode cX10_plan 9 = .ok (.bipush (-3), 2) := by decide +kernel
theorem dX10_plan_11 : decode cX10_plan 11 = .ok (.ireturn, 1) := by decide +kernel
theorem dX10_plan_12 : decode cX10_plan 12 = .ok (.aload_n 0, 1) := by decide +kernel
theorem dX10_plan_13 : decode cX10_plan 13 = .ok (.aload_n 0, 1) := by decide +kernel
theorem dX10_plan_14 : decode cX10_plan 14 = .ok (.getfield 75, 3) := by decide +kernel
theorem dX10_plan_17 : decode cX10_plan 17 = .ok (.putfield 9, 3) := by decide +kernel
theorem dX10_plan_20 : decode cX10_plan 20 = .ok (.aload_n 0, 1) := by decide +kernel
theorem dX10_plan_21 : decode cX10_plan 21 = .ok (.aload_n 0, 1) := by decide +kernel
theorem dX10_plan_22 : decode cX10_plan 22 = .ok (.getfield 78, 3) := by decide +kernel
theorem dX10_plan_25 : decode cX10_plan 25 = .ok (.putfield 13, 3) := by decide +kernel
theorem dX10_plan_28 : decode cX10_plan 28 = .ok (.aload_n 0, 1) := by decide +kernel
theorem dX10_plan_29 : decode cX10_plan 29 = .ok (.aload_n 0, 1) := by decide +kernel
theorem dX10_plan_30 : decode cX10_plan 30 = .ok (.getfield 81, 3) := by decide +kernel
theorem dX10_plan_33 : decode cX10_plan 33 = .ok (.putfield 109, 3) := by decide +kernel
theorem dX10_plan_36 : decode cX10_plan 36 = .ok (.aload_n 0, 1) := by decide +kernel
theorem dX10_plan_37 : decode cX10_plan 37 = .ok (.aload_n 0, 1) := by decide +kernel
theorem dX10_plan_38 : decode cX10_plan 38 = .ok (.getfield 99, 3) := by decide +kernel
theorem dX10_plan_41 : decode cX10_plan 41 = .ok (.putfield 112, 3) := by decide +kernel
theorem dX10_plan_44 : decode cX10_plan 44 = .ok (.aload_n 0, 1) := by decide +kernel
theorem dX10_plan_45 : decode cX10_plan 45 = .ok (.aload_n 0, 1) := by decide +kernel
theorem dX10_plan_46 : decode cX10_plan 46 = .ok (.getfield 102, 3) := by decide +kernel
theorem dX10_plan_49 : decode cX10_plan 49 = .ok (.putfield 16, 3) := by decide +kernel
theorem dX10_plan_52 : decode cX10_plan 52 = .ok (.aload_n 0, 1) := by decide +kernel
theorem dX10_plan_53 : decode cX10_plan 53 = .ok (.iconst 0, 1) := by decide +kernel
theorem dX10_plan_54 : decode cX10_plan 54 = .ok (.invokevirtual 115, 3) := by decide +kernel
theorem dX10_plan_57 : decode cX10_plan 57 = .ok (.aload_n 0, 1) := by decide +kernel
theorem dX10_plan_58 : decode cX10_plan 58 = .ok (.getfield 119, 3) := by decide +kernel
theorem dX10_plan_61 : decode cX10_plan 61 = .ok (.ireturn, 1) := by decide +kernel
theorem dX10_word_0 : decode cX10_word 0 = .ok (.iload_n 1, 1) := by decide +kernel
theorem dX10_word_1 : decode cX10_word 1 = .ok (.i2l, 1) := by decide +kernel
theorem dX10_word_2 : decode cX10_word 2 = .ok (.lconst 0, 1) := by decide +kernel
theorem dX10_word_3 : decode cX10_word 3 = .ok (.ldc2_w 122, 3) := by decide +kernel
theorem dX10_word_6 : decode cX10_word 6 = .ok (.invokestatic 62, 3) := by decide +kernel
theorem dX10_word_9 : decode cX10_word 9 = .ok (.ifCond .eq 14, 3) := by decide +kernel
theorem dX10_word_12 : decode cX10_word 12 = .ok (.aload_n 0, 1) := by decide +kernel
theorem dX10_word_13 : decode cX10_word 13 = .ok (.getfield 109, 3) := by decide +kernel
theorem dX10_word_16 : decode cX10_word 16 = .ok (.iload_n 1, 1) := by decide +kernel
theorem dX10_word_17 : decode cX10_word 17 = .ok (.invokestatic 84, 3) := by decide +kernel
theorem dX10_word_20 : decode cX10_word 20 = .ok (.goto 5, 3) := by decide +kernel
theorem dX10_word_23 : decode cX10_word 23 = .ok (.bipush (-9), 2) := by decide +kernel
theorem dX10_word_25 : decode cX10_word 25 = .ok (.ireturn, 1) := by decide +kernel
theorem dX10_many_0 : decode cX10_many 0 = .ok (.aload_n 0, 1) := by decide +kernel
theorem dX10_many_1 : decode cX10_many 1 = .ok (.getfield 23, 3) := by decide +kernel
theorem dX10_many_4 : decode cX10_many 4 = .ok (.bipush 17, 2) := by decide +kernel
theorem dX10_many_6 : decode cX10_many 6 = .ok (.iload_n 1, 1) := by decide +kernel
theorem dX10_many_7 : decode cX10_many 7 = .ok (.imul, 1) := by decide +kernel
theorem dX10_many_8 : decode cX10_many 8 = .ok (.iaload, 1) := by decide +kernel
theorem dX10_many_9 : decode cX10_many 9 = .ok (.ireturn, 1) := by decide +kernel
theorem dX10_at_0 : decode cX10_at 0 = .ok (.aload_n 0, 1) := by decide +kernel
theorem dX10_at_1 : decode cX10_at 1 = .ok (.getfield 23, 3) := by decide +kernel
theorem dX10_at_4 : decode cX10_at 4 = .ok (.bipush 17, 2) := by decide +kernel
theorem dX10_at_6 : decode cX10_at 6 = .ok (.iload_n 1, 1) := by decide +kernel
theorem dX10_at_7 : decode cX10_at 7 = .ok (.imul, 1) := by decide +kernel
theorem dX10_at_8 : decode cX10_at 8 = .ok (.iconst 1, 1) := by decide +kernel
theorem dX10_at_9 : decode cX10_at 9 = .ok (.iadd, 1) := by decide +kernel
theorem dX10_at_10 : decode cX10_at 10 = .ok (.iload_n 2, 1) := by decide +kernel
theorem dX10_at_11 : decode cX10_at 11 = .ok (.iadd, 1) := by decide +kernel
theorem dX10_at_12 : decode cX10_at 12 = .ok (.iaload, 1) := by decide +kernel
theorem dX10_at_13 : decode cX10_at 13 = .ok (.ireturn, 1) := by decide +kernel
theorem dX10_amountOf_0 : decode cX10_amountOf 0 = .ok (.aload_n 0, 1) := by decide +kernel
theorem dX10_amountOf_1 : decode cX10_amountOf 1 = .ok (.iload_n 1, 1) := by decide +kernel
theorem dX10_amountOf_2 : decode cX10_amountOf 2 = .ok (.iload_n 2, 1) := by decide +kernel
theorem dX10_amountOf_3 : decode cX10_amountOf 3 = .ok (.invokevirtual 124, 3) := by decide +kernel
theorem dX10_amountOf_6 : decode cX10_amountOf 6 = .ok (.sipush 1000, 3) := by decide +kernel
theorem dX10_amountOf_9 : decode cX10_amountOf 9 = .ok (.irem, 1) := by decide +kernel
theorem dX10_amountOf_10 : decode cX10_amountOf 10 = .ok (.ireturn, 1) := by decide +kernel
theorem dX10_keyOf_0 : decode cX10_keyOf 0 = .ok (.aload_n 0, 1) := by decide +kernel
theorem dX10_keyOf_1 : decode cX10_keyOf 1 = .ok (.iload_n 1, 1) := by decide +kernel
theorem dX10_keyOf_2 : decode cX10_keyOf 2 = .ok (.iload_n 2, 1) := by decide +kernel
theorem dX10_keyOf_3 : decode cX10_keyOf 3 = .ok (.invokevirtual 124, 3) := by decide +kernel
theorem dX10_keyOf_6 : decode cX10_keyOf 6 = .ok (.istore 4, 2) := by decide +kernel
theorem dX10_keyOf_8 : decode cX10_keyOf 8 = .ok (.iload_n 3, 1) := by decide +kernel
theorem dX10_keyOf_9 : decode cX10_keyOf 9 = .ok (.tableswitch 74 0 2 #[27, 34, 44], 27) := by decide +kernel
theorem dX10_keyOf_36 : decode cX10_keyOf 36 = .ok (.iload 4, 2) := by decide +kernel
theorem dX10_keyOf_38 : decode cX10_keyOf 38 = .ok (.sipush 10000, 3) := by decide +kernel
theorem dX10_keyOf_41 : decode cX10_keyOf 41 = .ok (.idiv, 1) := by decide +kernel
theorem dX10_keyOf_42 : decode cX10_keyOf 42 = .ok (.ireturn, 1) := by decide +kernel
theorem dX10_keyOf_43 : decode cX10_keyOf 43 = .ok (.iload 4, 2) := by decide +kernel
theorem dX10_keyOf_45 : decode cX10_keyOf 45 = .ok (.sipush 1000, 3) := by decide +kernel
theorem dX10_keyOf_48 : decode cX10_keyOf 48 = .ok (.idiv, 1) := by decide +kernel
theorem dX10_keyOf_49 : decode cX10_keyOf 49 = .ok (.bipush 10, 2) := by decide +kernel
theorem dX10_keyOf_51 : decode cX10_keyOf 51 = .ok (.irem, 1) := by decide +kernel
theorem dX10_keyOf_52 : decode cX10_keyOf 52 = .ok (.ireturn, 1) := by decide +kernel
theorem dX10_keyOf_53 : decode cX10_keyOf 53 = .ok (.iload 4, 2) := by decide +kernel
theorem dX10_keyOf_55 : decode cX10_keyOf 55 = .ok (.sipush 1000, 3) := by decide +kernel
theorem dX10_keyOf_58 : decode cX10_keyOf 58 = .ok (.irem, 1) := by decide +kernel
theorem dX10_keyOf_59 : decode cX10_keyOf 59 = .ok (.bipush 100, 2) := by decide +kernel
theorem dX10_keyOf_61 : decode cX10_keyOf 61 = .ok (.if_icmp .ne 8, 3) := by decide +kernel
theorem dX10_keyOf_64 : decode cX10_keyOf 64 = .ok (.bipush 20, 2) := by decide +kernel
theorem dX10_keyOf_66 : decode cX10_keyOf 66 = .ok (.goto 16, 3) := by decide +kernel
theorem dX10_keyOf_69 : decode cX10_keyOf 69 = .ok (.iload 4, 2) := by decide +kernel
theorem dX10_keyOf_71 : decode cX10_keyOf 71 = .ok (.sipush 1000, 3) := by decide +kernel
theorem dX10_keyOf_74 : decode cX10_keyOf 74 = .ok (.irem, 1) := by decide +kernel
theorem dX10_keyOf_75 : decode cX10_keyOf 75 = .ok (.iconst 5, 1) := by decide +kernel
theorem dX10_keyOf_76 : decode cX10_keyOf 76 = .ok (.aload_n 0, 1) := by decide +kernel
theorem dX10_keyOf_77 : decode cX10_keyOf 77 = .ok (.getfield 16, 3) := by decide +kernel
theorem dX10_keyOf_80 : decode cX10_keyOf 80 = .ok (.imul, 1) := by decide +kernel
theorem dX10_keyOf_81 : decode cX10_keyOf 81 = .ok (.idiv, 1) := by decide +kernel
theorem dX10_keyOf_82 : decode cX10_keyOf 82 = .ok (.ireturn, 1) := by decide +kernel
theorem dX10_keyOf_83 : decode cX10_keyOf 83 = .ok (.iconst 0, 1) := by decide +kernel
theorem dX10_keyOf_84 : decode cX10_keyOf 84 = .ok (.ireturn, 1) := by decide +kernel
theorem dX10_addOn_0 : decode cX10_addOn 0 = .ok (.aload_n 0, 1) := by decide +kernel
theorem dX10_addOn_1 : decode cX10_addOn 1 = .ok (.getfield 23, 3) := by decide +kernel
theorem dX10_addOn_4 : decode cX10_addOn 4 = .ok (.bipush 17, 2) := by decide +kernel
theorem dX10_addOn_6 : decode cX10_addOn 6 = .ok (.iload_n 1, 1) := by decide +kernel
theorem dX10_addOn_7 : decode cX10_addOn 7 = .ok (.imul, 1) := by decide +kernel
theorem dX10_addOn_8 : decode cX10_addOn 8 = .ok (.iconst 1, 1) := by decide +kernel
theorem dX10_addOn_9 : decode cX10_addOn 9 = .ok (.iadd, 1) := by decide +kernel
theorem dX10_addOn_10 : decode cX10_addOn 10 = .ok (.aload_n 0, 1) := by decide +kernel
theorem dX10_addOn_11 : decode cX10_addOn 11 = .ok (.iload_n 1, 1) := by decide +kernel
theorem dX10_addOn_12 : decode cX10_addOn 12 = .ok (.invokevirtual 127, 3) := by decide +kernel
theorem dX10_addOn_15 : decode cX10_addOn 15 = .ok (.iadd, 1) := by decide +kernel
theorem dX10_addOn_16 : decode cX10_addOn 16 = .ok (.iload_n 2, 1) := by decide +kernel
theorem dX10_addOn_17 : decode cX10_addOn 17 = .ok (.iastore, 1) := by decide +kernel
theorem dX10_addOn_18 : decode cX10_addOn 18 = .ok (.aload_n 0, 1) := by decide +kernel
theorem dX10_addOn_19 : decode cX10_addOn 19 = .ok (.getfield 23, 3) := by decide +kernel
theorem dX10_addOn_22 : decode cX10_addOn 22 = .ok (.bipush 17, 2) := by decide +kernel
theorem dX10_addOn_24 : decode cX10_addOn 24 = .ok (.iload_n 1, 1) := by decide +kernel
theorem dX10_addOn_25 : decode cX10_addOn 25 = .ok (.imul, 1) := by decide +kernel
theorem dX10_addOn_26 : decode cX10_addOn 26 = .ok (.dup2, 1) := by decide +kernel
theorem dX10_addOn_27 : decode cX10_addOn 27 = .ok (.iaload, 1) := by decide +kernel
theorem dX10_addOn_28 : decode cX10_addOn 28 = .ok (.iconst 1, 1) := by decide +kernel
theorem dX10_addOn_29 : decode cX10_addOn 29 = .ok (.iadd, 1) := by decide +kernel
theorem dX10_addOn_30 : decode cX10_addOn 30 = .ok (.iastore, 1) := by decide +kernel
theorem dX10_addOn_31 : decode cX10_addOn 31 = .ok (.return_, 1) := by decide +kernel
theorem dX10_dropOn_0 : decode cX10_dropOn 0 = .ok (.aload_n 0, 1) := by decide +kernel
theorem dX10_dropOn_1 : decode cX10_dropOn 1 = .ok (.getfield 23, 3) := by decide +kernel
theorem dX10_dropOn_4 : decode cX10_dropOn 4 = .ok (.bipush 17, 2) := by decide +kernel
theorem dX10_dropOn_6 : decode cX10_dropOn 6 = .ok (.iload_n 1, 1) := by decide +kernel
theorem dX10_dropOn_7 : decode cX10_dropOn 7 = .ok (.imul, 1) := by decide +kernel
theorem dX10_dropOn_8 : decode cX10_dropOn 8 = .ok (.dup2, 1) := by decide +kernel
theorem dX10_dropOn_9 : decode cX10_dropOn 9 = .ok (.iaload, 1) := by decide +kernel
theorem dX10_dropOn_10 : decode cX10_dropOn 10 = .ok (.iconst 1, 1) := by decide +kernel
theorem dX10_dropOn_11 : decode cX10_dropOn 11 = .ok (.isub, 1) := by decide +kernel
theorem dX10_dropOn_12 : decode cX10_dropOn 12 = .ok (.iastore, 1) := by decide +kernel
theorem dX10_dropOn_13 : decode cX10_dropOn 13 = .ok (.iload_n 2, 1) := by decide +kernel
theorem dX10_dropOn_14 : decode cX10_dropOn 14 = .ok (.istore_n 3, 1) := by decide +kernel
theorem dX10_dropOn_15 : decode cX10_dropOn 15 = .ok (.iload_n 3, 1) := by decide +kernel
theorem dX10_dropOn_16 : decode cX10_dropOn 16 = .ok (.aload_n 0, 1) := by decide +kernel
theorem dX10_dropOn_17 : decode cX10_dropOn 17 = .ok (.iload_n 1, 1) := by decide +kernel
theorem dX10_dropOn_18 : decode cX10_dropOn 18 = .ok (.invokevirtual 127, 3) := by decide +kernel
theorem dX10_dropOn_21 : decode cX10_dropOn 21 = .ok (.if_icmp .ge 35, 3) := by decide +kernel
theorem dX10_dropOn_24 : decode cX10_dropOn 24 = .ok (.aload_n 0, 1) := by decide +kernel
theorem dX10_dropOn_25 : decode cX10_dropOn 25 = .ok (.getfield 23, 3) := by decide +kernel
theorem dX10_dropOn_28 : decode cX10_dropOn 28 = .ok (.bipush 17, 2) := by decide +kernel
theorem dX10_dropOn_30 : decode cX10_dropOn 30 = .ok (.iload_n 1, 1) := by decide +kernel
theorem dX10_dropOn_31 : decode cX10_dropOn 31 = .ok (.imul, 1) := by decide +kernel
theorem dX10_dropOn_32 : decode cX10_dropOn 32 = .ok (.iconst 1, 1) := by decide +kernel
theorem dX10_dropOn_33 : decode cX10_dropOn 33 = .ok (.iadd, 1) := by decide +kernel
theorem dX10_dropOn_34 : decode cX10_dropOn 34 = .ok (.iload_n 3, 1) := by decide +kernel
theorem dX10_dropOn_35 : decode cX10_dropOn 35 = .ok (.iadd, 1) := by decide +kernel
theorem dX10_dropOn_36 : decode cX10_dropOn 36 = .ok (.aload_n 0, 1) := by decide +kernel
theorem dX10_dropOn_37 : decode cX10_dropOn 37 = .ok (.getfield 23, 3) := by decide +kernel
theorem dX10_dropOn_40 : decode cX10_dropOn 40 = .ok (.bipush 17, 2) := by decide +kernel
theorem dX10_dropOn_42 : decode cX10_dropOn 42 = .ok (.iload_n 1, 1) := by decide +kernel
theorem dX10_dropOn_43 : decode cX10_dropOn 43 = .ok (.imul, 1) := by decide +kernel
theorem dX10_dropOn_44 : decode cX10_dropOn 44 = .ok (.iconst 2, 1) := by decide +kernel
theorem dX10_dropOn_45 : decode cX10_dropOn 45 = .ok (.iadd, 1) := by decide +kernel
theorem dX10_dropOn_46 : decode cX10_dropOn 46 = .ok (.iload_n 3, 1) := by decide +kernel
theorem dX10_dropOn_47 : decode cX10_dropOn 47 = .ok (.iadd, 1) := by decide +kernel
theorem dX10_dropOn_48 : decode cX10_dropOn 48 = .ok (.iaload, 1) := by decide +kernel
theorem dX10_dropOn_49 : decode cX10_dropOn 49 = .ok (.iastore, 1) := by decide +kernel
theorem dX10_dropOn_50 : decode cX10_dropOn 50 = .ok (.iinc 3 1, 3) := by decide +kernel
theorem dX10_dropOn_53 : decode cX10_dropOn 53 = .ok (.goto (-38), 3) := by decide +kernel
theorem dX10_dropOn_56 : decode cX10_dropOn 56 = .ok (.return_, 1) := by decide +kernel
theorem dX10_allOf_0 : decode cX10_allOf 0 = .ok (.iconst 1, 1) := by decide +kernel
theorem dX10_allOf_1 : decode cX10_allOf 1 = .ok (.aload_n 0, 1) := by decide +kernel
theorem dX10_allOf_2 : decode cX10_allOf 2 = .ok (.iload_n 1, 1) := by decide +kernel
theorem dX10_allOf_3 : decode cX10_allOf 3 = .ok (.invokevirtual 127, 3) := by decide +kernel
theorem dX10_allOf_6 : decode cX10_allOf 6 = .ok (.ishl, 1) := by decide +kernel
theorem dX10_allOf_7 : decode cX10_allOf 7 = .ok (.iconst 1, 1) := by decide +kernel
theorem dX10_allOf_8 : decode cX10_allOf 8 = .ok (.isub, 1) := by decide +kernel
theorem dX10_allOf_9 : decode cX10_allOf 9 = .ok (.ireturn, 1) := by decide +kernel
theorem dX10_twinsOf_0 : decode cX10_twinsOf 0 = .ok (.iconst 0, 1) := by decide +kernel
theorem dX10_twinsOf_1 : decode cX10_twinsOf 1 = .ok (.istore_n 3, 1) := by decide +kernel
theorem dX10_twinsOf_2 : decode cX10_twinsOf 2 = .ok (.iconst 0, 1) := by decide +kernel
theorem dX10_twinsOf_3 : decode cX10_twinsOf 3 = .ok (.istore 4, 2) := by decide +kernel
theorem dX10_twinsOf_5 : decode cX10_twinsOf 5 = .ok (.iload 4, 2) := by decide +kernel
theorem dX10_twinsOf_7 : decode cX10_twinsOf 7 = .ok (.aload_n 0, 1) := by decide +kernel
theorem dX10_twinsOf_8 : decode cX10_twinsOf 8 = .ok (.iload_n 1, 1) := by decide +kernel
theorem dX10_twinsOf_9 : decode cX10_twinsOf 9 = .ok (.invokevirtual 127, 3) := by decide +kernel
theorem dX10_twinsOf_12 : decode cX10_twinsOf 12 = .ok (.if_icmp .ge 71, 3) := by decide +kernel
theorem dX10_twinsOf_15 : decode cX10_twinsOf 15 = .ok (.iconst 0, 1) := by decide +kernel
theorem dX10_twinsOf_16 : decode cX10_twinsOf 16 = .ok (.istore 5, 2) := by decide +kernel
theorem dX10_twinsOf_18 : decode cX10_twinsOf 18 = .ok (.iload 5, 2) := by decide +kernel
theorem dX10_twinsOf_20 : decode cX10_twinsOf 20 = .ok (.iload 4, 2) := by decide +kernel
theorem dX10_twinsOf_22 : decode cX10_twinsOf 22 = .ok (.if_icmp .ge 55, 3) := by decide +kernel
theorem dX10_twinsOf_25 : decode cX10_twinsOf 25 = .ok (.iload_n 3, 1) := by decide +kernel
theorem dX10_twinsOf_26 : decode cX10_twinsOf 26 = .ok (.iload_n 2, 1) := by decide +kernel
theorem dX10_twinsOf_27 : decode cX10_twinsOf 27 = .ok (.iload 4, 2) := by decide +kernel
theorem dX10_twinsOf_29 : decode cX10_twinsOf 29 = .ok (.invokestatic 130, 3) := by decide +kernel
theorem dX10_twinsOf_32 : decode cX10_twinsOf 32 = .ok (.ifCond .eq 36, 3) := by decide +kernel
theorem dX10_twinsOf_35 : decode cX10_twinsOf 35 = .ok (.iload_n 2, 1) := by decide +kernel
theorem dX10_twinsOf_36 : decode cX10_twinsOf 36 = .ok (.iload 5, 2) := by decide +kernel
theorem dX10_twinsOf_38 : decode cX10_twinsOf 38 = .ok (.invokestatic 130, 3) := by decide +kernel
theorem dX10_twinsOf_41 : decode cX10_twinsOf 41 = .ok (.ifCond .eq 27, 3) := by decide +kernel
theorem dX10_twinsOf_44 : decode cX10_twinsOf 44 = .ok (.aload_n 0, 1) := by decide +kernel
theorem dX10_twinsOf_45 : decode cX10_twinsOf 45 = .ok (.iload_n 1, 1) := by decide +kernel
theorem dX10_twinsOf_46 : decode cX10_twinsOf 46 = .ok (.iload 4, 2) := by decide +kernel
theorem dX10_twinsOf_48 : decode cX10_twinsOf 48 = .ok (.invokevirtual 134, 3) := by decide +kernel
theorem dX10_twinsOf_51 : decode cX10_twinsOf 51 = .ok (.aload_n 0, 1) := by decide +kernel
theorem dX10_twinsOf_52 : decode cX10_twinsOf 52 = .ok (.iload_n 1, 1) := by decide +kernel
theorem dX10_twinsOf_53 : decode cX10_twinsOf 53 = .ok (.iload 5, 2) := by decide +kernel
theorem dX10_twinsOf_55 : decode cX10_twinsOf 55 = .ok (.invokevirtual 134, 3) := by decide +kernel
theorem dX10_twinsOf_58 : decode cX10_twinsOf 58 = .ok (.if_icmp .ne 10, 3) := by decide +kernel
theorem dX10_twinsOf_61 : decode cX10_twinsOf 61 = .ok (.iconst 1, 1) := by decide +kernel
theorem dX10_twinsOf_62 : decode cX10_twinsOf 62 = .ok (.iload 4, 2) := by decide +kernel
theorem dX10_twinsOf_64 : decode cX10_twinsOf 64 = .ok (.ishl, 1) := by decide +kernel
theorem dX10_twinsOf_65 : decode cX10_twinsOf 65 = .ok (.goto 4, 3) := by decide +kernel
theorem dX10_twinsOf_68 : decode cX10_twinsOf 68 = .ok (.iconst 0, 1) := by decide +kernel
theorem dX10_twinsOf_69 : decode cX10_twinsOf 69 = .ok (.ior, 1) := by decide +kernel
theorem dX10_twinsOf_70 : decode cX10_twinsOf 70 = .ok (.istore_n 3, 1) := by decide +kernel
theorem dX10_twinsOf_71 : decode cX10_twinsOf 71 = .ok (.iinc 5 1, 3) := by decide +kernel
theorem dX10_twinsOf_74 : decode cX10_twinsOf 74 = .ok (.goto (-56), 3) := by decide +kernel
theorem dX10_twinsOf_77 : decode cX10_twinsOf 77 = .ok (.iinc 4 1, 3) := by decide +kernel
theorem dX10_twinsOf_80 : decode cX10_twinsOf 80 = .ok (.goto (-75), 3) := by decide +kernel
theorem dX10_twinsOf_83 : decode cX10_twinsOf 83 = .ok (.iload_n 3, 1) := by decide +kernel
theorem dX10_twinsOf_84 : decode cX10_twinsOf 84 = .ok (.ireturn, 1) := by decide +kernel
theorem dX10_measureOf_0 : decode cX10_measureOf 0 = .ok (.iload_n 2, 1) := by decide +kernel
theorem dX10_measureOf_1 : decode cX10_measureOf 1 = .ok (.ifCond .ne 6, 3) := by decide +kernel
theorem dX10_measureOf_4 : decode cX10_measureOf 4 = .ok (.bipush (-9), 2) := by decide +kernel
theorem dX10_measureOf_6 : decode cX10_measureOf 6 = .ok (.ireturn, 1) := by decide +kernel
theorem dX10_measureOf_7 : decode cX10_measureOf 7 = .ok (.iconst 0, 1) := by decide +kernel
theorem dX10_measureOf_8 : decode cX10_measureOf 8 = .ok (.istore_n 3, 1) := by decide +kernel
theorem dX10_measureOf_9 : decode cX10_measureOf 9 = .ok (.iconst 0, 1) := by decide +kernel
theorem dX10_measureOf_10 : decode cX10_measureOf 10 = .ok (.istore 4, 2) := by decide +kernel
theorem dX10_measureOf_12 : decode cX10_measureOf 12 = .ok (.bipush (-9), 2) := by decide +kernel
theorem dX10_measureOf_14 : decode cX10_measureOf 14 = .ok (.istore 5, 2) := by decide +kernel
theorem dX10_measureOf_16 : decode cX10_measureOf 16 = .ok (.bipush (-9), 2) := by decide +kernel
theorem dX10_measureOf_18 : decode cX10_measureOf 18 = .ok (.istore 6, 2) := by decide +kernel
theorem dX10_measureOf_20 : decode cX10_measureOf 20 = .ok (.iconst 0, 1) := by decide +kernel
theorem dX10_measureOf_21 : decode cX10_measureOf 21 = .ok (.istore 7, 2) := by decide +kernel
theorem dX10_measureOf_23 : decode cX10_measureOf 23 = .ok (.aload_n 0, 1) := by decide +kernel
theorem dX10_measureOf_24 : decode cX10_measureOf 24 = .ok (.iload_n 1, 1) := by decide +kernel
theorem dX10_measureOf_25 : decode cX10_measureOf 25 = .ok (.iload_n 2, 1) := by decide +kernel
theorem dX10_measureOf_26 : decode cX10_measureOf 26 = .ok (.invokevirtual 137, 3) := by decide +kernel
theorem dX10_measureOf_29 : decode cX10_measureOf 29 = .ok (.istore 8, 2) := by decide +kernel
theorem dX10_measureOf_31 : decode cX10_measureOf 31 = .ok (.iconst 0, 1) := by decide +kernel
theorem dX10_measureOf_32 : decode cX10_measureOf 32 = .ok (.istore 9, 2) := by decide +kernel
theorem dX10_measureOf_34 : decode cX10_measureOf 34 = .ok (.iload 9, 2) := by decide +kernel
theorem dX10_measureOf_36 : decode cX10_measureOf 36 = .ok (.aload_n 0, 1) := by decide +kernel
theorem dX10_measureOf_37 : decode cX10_measureOf 37 = .ok (.iload_n 1, 1) := by decide +kernel
theorem dX10_measureOf_38 : decode cX10_measureOf 38 = .ok (.invokevirtual 127, 3) := by decide +kernel
theorem dX10_measureOf_41 : decode cX10_measureOf 41 = .ok (.if_icmp .ge 112, 3) := by decide +kernel
theorem dX10_measureOf_44 : decode cX10_measureOf 44 = .ok (.aload_n 0, 1) := by decide +kernel
theorem dX10_measureOf_45 : decode cX10_measureOf 45 = .ok (.iload_n 1, 1) := by decide +kernel
theorem dX10_measureOf_46 : decode cX10_measureOf 46 = .ok (.iload 9, 2) := by decide +kernel
theorem dX10_measureOf_48 : decode cX10_measureOf 48 = .ok (.invokevirtual 134, 3) := by decide +kernel
theorem dX10_measureOf_51 : decode cX10_measureOf 51 = .ok (.istore 10, 2) := by decide +kernel
theorem dX10_measureOf_53 : decode cX10_measureOf 53 = .ok (.iload_n 2, 1) := by decide +kernel
theorem dX10_measureOf_54 : decode cX10_measureOf 54 = .ok (.iload 9, 2) := by decide +kernel
theorem dX10_measureOf_56 : decode cX10_measureOf 56 = .ok (.invokestatic 130, 3) := by decide +kernel
theorem dX10_measureOf_59 : decode cX10_measureOf 59 = .ok (.ifCond .eq 6, 3) := by decide +kernel
theorem dX10_measureOf_62 : decode cX10_measureOf 62 = .ok (.iinc 3 1, 3) := by decide +kernel
theorem dX10_measureOf_65 : decode cX10_measureOf 65 = .ok (.iload_n 2, 1) := by decide +kernel
theorem dX10_measureOf_66 : decode cX10_measureOf 66 = .ok (.iload 9, 2) := by decide +kernel
theorem dX10_measureOf_68 : decode cX10_measureOf 68 = .ok (.invokestatic 130, 3) := by decide +kernel
theorem dX10_measureOf_71 : decode cX10_measureOf 71 = .ok (.ifCond .eq 76, 3) := by decide +kernel
theorem dX10_measureOf_74 : decode cX10_measureOf 74 = .ok (.iload 10, 2) := by decide +kernel
theorem dX10_measureOf_76 : decode cX10_measureOf 76 = .ok (.bipush 100, 2) := by decide +kernel
theorem dX10_measureOf_78 : decode cX10_measureOf 78 = .ok (.if_icmp .eq 69, 3) := by decide +kernel
theorem dX10_measureOf_81 : decode cX10_measureOf 81 = .ok (.iload 4, 2) := by decide +kernel
theorem dX10_measureOf_83 : decode cX10_measureOf 83 = .ok (.iload 10, 2) := by decide +kernel
theorem dX10_measureOf_85 : decode cX10_measureOf 85 = .ok (.iadd, 1) := by decide +kernel
theorem dX10_measureOf_86 : decode cX10_measureOf 86 = .ok (.istore 4, 2) := by decide +kernel
theorem dX10_measureOf_88 : decode cX10_measureOf 88 = .ok (.iload 10, 2) := by decide +kernel
theorem dX10_measureOf_90 : decode cX10_measureOf 90 = .ok (.iload 5, 2) := by decide +kernel
theorem dX10_measureOf_92 : decode cX10_measureOf 92 = .ok (.if_icmp .le 8, 3) := by decide +kernel
theorem dX10_measureOf_95 : decode cX10_measureOf 95 = .ok (.iload 10, 2) := by decide +kernel
theorem dX10_measureOf_97 : decode cX10_measureOf 97 = .ok (.goto 5, 3) := by decide +kernel
theorem dX10_measureOf_100 : decode cX10_measureOf 100 = .ok (.iload 5, 2) := by decide +kernel
theorem dX10_measureOf_102 : decode cX10_measureOf 102 = .ok (.istore 5, 2) := by decide +kernel
theorem dX10_measureOf_104 : decode cX10_measureOf 104 = .ok (.iload 6, 2) := by decide +kernel
theorem dX10_measureOf_106 : decode cX10_measureOf 106 = .ok (.bipush (-9), 2) := by decide +kernel
theorem dX10_measureOf_108 : decode cX10_measureOf 108 = .ok (.if_icmp .eq 10, 3) := by decide +kernel
theorem dX10_measureOf_111 : decode cX10_measureOf 111 = .ok (.iload 10, 2) := by decide +kernel
theorem dX10_measureOf_113 : decode cX10_measureOf 113 = .ok (.iload 6, 2) := by decide +kernel
theorem dX10_measureOf_115 : decode cX10_measureOf 115 = .ok (.if_icmp .ge 8, 3) := by decide +kernel
theorem dX10_measureOf_118 : decode cX10_measureOf 118 = .ok (.iload 10, 2) := by decide +kernel
theorem dX10_measureOf_120 : decode cX10_measureOf 120 = .ok (.goto 5, 3) := by decide +kernel
theorem dX10_measureOf_123 : decode cX10_measureOf 123 = .ok (.iload 6, 2) := by decide +kernel
theorem dX10_measureOf_125 : decode cX10_measureOf 125 = .ok (.istore 6, 2) := by decide +kernel
theorem dX10_measureOf_127 : decode cX10_measureOf 127 = .ok (.iload 7, 2) := by decide +kernel
theorem dX10_measureOf_129 : decode cX10_measureOf 129 = .ok (.iload 8, 2) := by decide +kernel
theorem dX10_measureOf_131 : decode cX10_measureOf 131 = .ok (.iload 9, 2) := by decide +kernel
theorem dX10_measureOf_133 : decode cX10_measureOf 133 = .ok (.invokestatic 130, 3) := by decide +kernel
theorem dX10_measureOf_136 : decode cX10_measureOf 136 = .ok (.ifCond .eq 7, 3) := by decide +kernel
theorem dX10_measureOf_139 : decode cX10_measureOf 139 = .ok (.iconst 0, 1) := by decide +kernel
theorem dX10_measureOf_140 : decode cX10_measureOf 140 = .ok (.goto 4, 3) := by decide +kernel
theorem dX10_measureOf_143 : decode cX10_measureOf 143 = .ok (.iconst 1, 1) := by decide +kernel
theorem dX10_measureOf_144 : decode cX10_measureOf 144 = .ok (.iadd, 1) := by decide +kernel
theorem dX10_measureOf_145 : decode cX10_measureOf 145 = .ok (.istore 7, 2) := by decide +kernel
theorem dX10_measureOf_147 : decode cX10_measureOf 147 = .ok (.iinc 9 1, 3) := by decide +kernel
theorem dX10_measureOf_150 : decode cX10_measureOf 150 = .ok (.goto (-116), 3) := by decide +kernel
theorem dX10_measureOf_153 : decode cX10_measureOf 153 = .ok (.aload_n 0, 1) := by decide +kernel
theorem dX10_measureOf_154 : decode cX10_measureOf 154 = .ok (.getfield 109, 3) := by decide +kernel
theorem dX10_measureOf_157 : decode cX10_measureOf 157 = .ok (.ifCond .ne 7, 3) := by decide +kernel
theorem dX10_measureOf_160 : decode cX10_measureOf 160 = .ok (.iload_n 3, 1) := by decide +kernel
theorem dX10_measureOf_161 : decode cX10_measureOf 161 = .ok (.goto 44, 3) := by decide +kernel
theorem dX10_measureOf_164 : decode cX10_measureOf 164 = .ok (.aload_n 0, 1) := by decide +kernel
theorem dX10_measureOf_165 : decode cX10_measureOf 165 = .ok (.getfield 109, 3) := by decide +kernel
theorem dX10_measureOf_168 : decode cX10_measureOf 168 = .ok (.iconst 1, 1) := by decide +kernel
theorem dX10_measureOf_169 : decode cX10_measureOf 169 = .ok (.if_icmp .ne 8, 3) := by decide +kernel
theorem dX10_measureOf_172 : decode cX10_measureOf 172 = .ok (.iload 4, 2) := by decide +kernel
theorem dX10_measureOf_174 : decode cX10_measureOf 174 = .ok (.goto 31, 3) := by decide +kernel
theorem dX10_measureOf_177 : decode cX10_measureOf 177 = .ok (.aload_n 0, 1) := by decide +kernel
theorem dX10_measureOf_178 : decode cX10_measureOf 178 = .ok (.getfield 109, 3) := by decide +kernel
theorem dX10_measureOf_181 : decode cX10_measureOf 181 = .ok (.iconst 2, 1) := by decide +kernel
theorem dX10_measureOf_182 : decode cX10_measureOf 182 = .ok (.if_icmp .ne 8, 3) := by decide +kernel
theorem dX10_measureOf_185 : decode cX10_measureOf 185 = .ok (.iload 5, 2) := by decide +kernel
theorem dX10_measureOf_187 : decode cX10_measureOf 187 = .ok (.goto 18, 3) := by decide +kernel
theorem dX10_measureOf_190 : decode cX10_measureOf 190 = .ok (.aload_n 0, 1) := by decide +kernel
theorem dX10_measureOf_191 : decode cX10_measureOf 191 = .ok (.getfield 109, 3) := by decide +kernel
theorem dX10_measureOf_194 : decode cX10_measureOf 194 = .ok (.iconst 3, 1) := by decide +kernel
theorem dX10_measureOf_195 : decode cX10_measureOf 195 = .ok (.if_icmp .ne 8, 3) := by decide +kernel
theorem dX10_measureOf_198 : decode cX10_measureOf 198 = .ok (.iload 6, 2) := by decide +kernel
theorem dX10_measureOf_200 : decode cX10_measureOf 200 = .ok (.goto 5, 3) := by decide +kernel
theorem dX10_measureOf_203 : decode cX10_measureOf 203 = .ok (.iload 7, 2) := by decide +kernel
theorem dX10_measureOf_205 : decode cX10_measureOf 205 = .ok (.ireturn, 1) := by decide +kernel
theorem dX10_groupOf_0 : decode cX10_groupOf 0 = .ok (.iconst 0, 1) := by decide +kernel
theorem dX10_groupOf_1 : decode cX10_groupOf 1 = .ok (.istore 4, 2) := by decide +kernel
theorem dX10_groupOf_3 : decode cX10_groupOf 3 = .ok (.iconst 0, 1) := by decide +kernel
theorem dX10_groupOf_4 : decode cX10_groupOf 4 = .ok (.istore 5, 2) := by decide +kernel
theorem dX10_groupOf_6 : decode cX10_groupOf 6 = .ok (.iload 5, 2) := by decide +kernel
theorem dX10_groupOf_8 : decode cX10_groupOf 8 = .ok (.aload_n 0, 1) := by decide +kernel
theorem dX10_groupOf_9 : decode cX10_groupOf 9 = .ok (.iload_n 1, 1) := by decide +kernel
theorem dX10_groupOf_10 : decode cX10_groupOf 10 = .ok (.invokevirtual 127, 3) := by decide +kernel
theorem dX10_groupOf_13 : decode cX10_groupOf 13 = .ok (.if_icmp .ge 34, 3) := by decide +kernel
theorem dX10_groupOf_16 : decode cX10_groupOf 16 = .ok (.iload 4, 2) := by decide +kernel
theorem dX10_groupOf_18 : decode cX10_groupOf 18 = .ok (.aload_n 0, 1) := by decide +kernel
theorem dX10_groupOf_19 : decode cX10_groupOf 19 = .ok (.iload_n 1, 1) := by decide +kernel
theorem dX10_groupOf_20 : decode cX10_groupOf 20 = .ok (.iload 5, 2) := by decide +kernel
theorem dX10_groupOf_22 : decode cX10_groupOf 22 = .ok (.iload_n 2, 1) := by decide +kernel
theorem dX10_groupOf_23 : decode cX10_groupOf 23 = .ok (.invokevirtual 140, 3) := by decide +kernel
theorem dX10_groupOf_26 : decode cX10_groupOf 26 = .ok (.iload_n 3, 1) := by decide +kernel
theorem dX10_groupOf_27 : decode cX10_groupOf 27 = .ok (.if_icmp .ne 10, 3) := by decide +kernel
theorem dX10_groupOf_30 : decode cX10_groupOf 30 = .ok (.iconst 1, 1) := by decide +kernel
theorem dX10_groupOf_31 : decode cX10_groupOf 31 = .ok (.iload 5, 2) := by decide +kernel
theorem dX10_groupOf_33 : decode cX10_groupOf 33 = .ok (.ishl, 1) := by decide +kernel
theorem dX10_groupOf_34 : decode cX10_groupOf 34 = .ok (.goto 4, 3) := by decide +kernel
theorem dX10_groupOf_37 : decode cX10_groupOf 37 = .ok (.iconst 0, 1) := by decide +kernel
theorem dX10_groupOf_38 : decode cX10_groupOf 38 = .ok (.ior, 1) := by decide +kernel
theorem dX10_groupOf_39 : decode cX10_groupOf 39 = .ok (.istore 4, 2) := by decide +kernel
theorem dX10_groupOf_41 : decode cX10_groupOf 41 = .ok (.iinc 5 1, 3) := by decide +kernel
theorem dX10_groupOf_44 : decode cX10_groupOf 44 = .ok (.goto (-38), 3) := by decide +kernel
theorem dX10_groupOf_47 : decode cX10_groupOf 47 = .ok (.iload 4, 2) := by decide +kernel
theorem dX10_groupOf_49 : decode cX10_groupOf 49 = .ok (.ireturn, 1) := by decide +kernel
theorem dX10_pick_0 : decode cX10_pick 0 = .ok (.iconst 0, 1) := by decide +kernel
theorem dX10_pick_1 : decode cX10_pick 1 = .ok (.istore_n 3, 1) := by decide +kernel
theorem dX10_pick_2 : decode cX10_pick 2 = .ok (.iload_n 3, 1) := by decide +kernel
theorem dX10_pick_3 : decode cX10_pick 3 = .ok (.bipush 20, 2) := by decide +kernel
theorem dX10_pick_5 : decode cX10_pick 5 = .ok (.if_icmp .gt 16, 3) := by decide +kernel
theorem dX10_pick_8 : decode cX10_pick 8 = .ok (.aload_n 0, 1) := by decide +kernel
theorem dX10_pick_9 : decode cX10_pick 9 = .ok (.getfield 38, 3) := by decide +kernel
theorem dX10_pick_12 : decode cX10_pick 12 = .ok (.iload_n 3, 1) := by decide +kernel
theorem dX10_pick_13 : decode cX10_pick 13 = .ok (.iconst 0, 1) := by decide +kernel
theorem dX10_pick_14 : decode cX10_pick 14 = .ok (.iastore, 1) := by decide +kernel
theorem dX10_pick_15 : decode cX10_pick 15 = .ok (.iinc 3 1, 3) := by decide +kernel
theorem dX10_pick_18 : decode cX10_pick 18 = .ok (.goto (-16), 3) := by decide +kernel
theorem dX10_pick_21 : decode cX10_pick 21 = .ok (.iconst 0, 1) := by decide +kernel
theorem dX10_pick_22 : decode cX10_pick 22 = .ok (.istore_n 3, 1) := by decide +kernel
theorem dX10_pick_23 : decode cX10_pick 23 = .ok (.iload_n 3, 1) := by decide +kernel
theorem dX10_pick_24 : decode cX10_pick 24 = .ok (.iload_n 2, 1) := by decide +kernel
theorem dX10_pick_25 : decode cX10_pick 25 = .ok (.if_icmp .ge 119, 3) := by decide +kernel
theorem dX10_pick_28 : decode cX10_pick 28 = .ok (.bipush (-9), 2) := by decide +kernel
theorem dX10_pick_30 : decode cX10_pick 30 = .ok (.istore 4, 2) := by decide +kernel
theorem dX10_pick_32 : decode cX10_pick 32 = .ok (.iconst 0, 1) := by decide +kernel
theorem dX10_pick_33 : decode cX10_pick 33 = .ok (.istore 5, 2) := by decide +kernel
theorem dX10_pick_35 : decode cX10_pick 35 = .ok (.iload 5, 2) := by decide +kernel
theorem dX10_pick_37 : decode cX10_pick 37 = .ok (.bipush 20, 2) := by decide +kernel
theorem dX10_pick_39 : decode cX10_pick 39 = .ok (.if_icmp .gt 91, 3) := by decide +kernel
theorem dX10_pick_42 : decode cX10_pick 42 = .ok (.aload_n 0, 1) := by decide +kernel
theorem dX10_pick_43 : decode cX10_pick 43 = .ok (.iload_n 1, 1) := by decide +kernel
theorem dX10_pick_44 : decode cX10_pick 44 = .ok (.aload_n 0, 1) := by decide +kernel
theorem dX10_pick_45 : decode cX10_pick 45 = .ok (.getfield 9, 3) := by decide +kernel
theorem dX10_pick_48 : decode cX10_pick 48 = .ok (.iload 5, 2) := by decide +kernel
theorem dX10_pick_50 : decode cX10_pick 50 = .ok (.invokevirtual 144, 3) := by decide +kernel
theorem dX10_pick_53 : decode cX10_pick 53 = .ok (.istore 6, 2) := by decide +kernel
theorem dX10_pick_55 : decode cX10_pick 55 = .ok (.iload 6, 2) := by decide +kernel
theorem dX10_pick_57 : decode cX10_pick 57 = .ok (.ifCond .eq 17, 3) := by decide +kernel
theorem dX10_pick_60 : decode cX10_pick 60 = .ok (.aload_n 0, 1) := by decide +kernel
theorem dX10_pick_61 : decode cX10_pick 61 = .ok (.getfield 38, 3) := by decide +kernel
theorem dX10_pick_64 : decode cX10_pick 64 = .ok (.iload 5, 2) := by decide +kernel
theorem dX10_pick_66 : decode cX10_pick 66 = .ok (.iaload, 1) := by decide +kernel
theorem dX10_pick_67 : decode cX10_pick 67 = .ok (.ifCond .ne 7, 3) := by decide +kernel
theorem dX10_pick_70 : decode cX10_pick 70 = .ok (.iconst 1, 1) := by decide +kernel
theorem dX10_pick_71 : decode cX10_pick 71 = .ok (.goto 4, 3) := by decide +kernel
theorem dX10_pick_74 : decode cX10_pick 74 = .ok (.iconst 0, 1) := by decide +kernel
theorem dX10_pick_75 : decode cX10_pick 75 = .ok (.istore 7, 2) := by decide +kernel
theorem dX10_pick_77 : decode cX10_pick 77 = .ok (.iload 7, 2) := by decide +kernel
theorem dX10_pick_79 : decode cX10_pick 79 = .ok (.ifCond .eq 41, 3) := by decide +kernel
theorem dX10_pick_82 : decode cX10_pick 82 = .ok (.iload 4, 2) := by decide +kernel
theorem dX10_pick_84 : decode cX10_pick 84 = .ok (.bipush (-9), 2) := by decide +kernel
theorem dX10_pick_86 : decode cX10_pick 86 = .ok (.if_icmp .eq 29, 3) := by decide +kernel
theorem dX10_pick_89 : decode cX10_pick 89 = .ok (.aload_n 0, 1) := by decide +kernel
theorem dX10_pick_90 : decode cX10_pick 90 = .ok (.iload_n 1, 1) := by decide +kernel
theorem dX10_pick_91 : decode cX10_pick 91 = .ok (.iload 6, 2) := by decide +kernel
theorem dX10_pick_93 : decode cX10_pick 93 = .ok (.invokevirtual 147, 3) := by decide +kernel
theorem dX10_pick_96 : decode cX10_pick 96 = .ok (.aload_n 0, 1) := by decide +kernel
theorem dX10_pick_97 : decode cX10_pick 97 = .ok (.iload_n 1, 1) := by decide +kernel
theorem dX10_pick_98 : decode cX10_pick 98 = .ok (.aload_n 0, 1) := by decide +kernel
theorem dX10_pick_99 : decode cX10_pick 99 = .ok (.iload_n 1, 1) := by decide +kernel
theorem dX10_pick_100 : decode cX10_pick 100 = .ok (.aload_n 0, 1) := by decide +kernel
theorem dX10_pick_101 : decode cX10_pick 101 = .ok (.getfield 9, 3) := by decide +kernel
theorem dX10_pick_104 : decode cX10_pick 104 = .ok (.iload 4, 2) := by decide +kernel
theorem dX10_pick_106 : decode cX10_pick 106 = .ok (.invokevirtual 144, 3) := by decide +kernel
theorem dX10_pick_109 : decode cX10_pick 109 = .ok (.invokevirtual 147, 3) := by decide +kernel
theorem dX10_pick_112 : decode cX10_pick 112 = .ok (.if_icmp .le 8, 3) := by decide +kernel
theorem dX10_pick_115 : decode cX10_pick 115 = .ok (.iload 5, 2) := by decide +kernel
theorem dX10_pick_117 : decode cX10_pick 117 = .ok (.goto 5, 3) := by decide +kernel
theorem dX10_pick_120 : decode cX10_pick 120 = .ok (.iload 4, 2) := by decide +kernel
theorem dX10_pick_122 : decode cX10_pick 122 = .ok (.istore 4, 2) := by decide +kernel
theorem dX10_pick_124 : decode cX10_pick 124 = .ok (.iinc 5 1, 3) := by decide +kernel
theorem dX10_pick_127 : decode cX10_pick 127 = .ok (.goto (-92), 3) := by decide +kernel
theorem dX10_pick_130 : decode cX10_pick 130 = .ok (.aload_n 0, 1) := by decide +kernel
theorem dX10_pick_131 : decode cX10_pick 131 = .ok (.getfield 38, 3) := by decide +kernel
theorem dX10_pick_134 : decode cX10_pick 134 = .ok (.iload 4, 2) := by decide +kernel
theorem dX10_pick_136 : decode cX10_pick 136 = .ok (.iconst 1, 1) := by decide +kernel
theorem dX10_pick_137 : decode cX10_pick 137 = .ok (.iastore, 1) := by decide +kernel
theorem dX10_pick_138 : decode cX10_pick 138 = .ok (.iinc 3 1, 3) := by decide +kernel
theorem dX10_pick_141 : decode cX10_pick 141 = .ok (.goto (-118), 3) := by decide +kernel
theorem dX10_pick_144 : decode cX10_pick 144 = .ok (.return_, 1) := by decide +kernel
theorem dX10_findRows_0 : decode cX10_findRows 0 = .ok (.iconst 0, 1) := by decide +kernel
theorem dX10_findRows_1 : decode cX10_findRows 1 = .ok (.istore_n 2, 1) := by decide +kernel
theorem dX10_findRows_2 : decode cX10_findRows 2 = .ok (.iconst 0, 1) := by decide +kernel
theorem dX10_findRows_3 : decode cX10_findRows 3 = .ok (.istore_n 3, 1) := by decide +kernel
theorem dX10_findRows_4 : decode cX10_findRows 4 = .ok (.iload_n 3, 1) := by decide +kernel
theorem dX10_findRows_5 : decode cX10_findRows 5 = .ok (.bipush 20, 2) := by decide +kernel
theorem dX10_findRows_7 : decode cX10_findRows 7 = .ok (.if_icmp .gt 30, 3) := by decide +kernel
theorem dX10_findRows_10 : decode cX10_findRows 10 = .ok (.iload_n 2, 1) := by decide +kernel
theorem dX10_findRows_11 : decode cX10_findRows 11 = .ok (.aload_n 0, 1) := by decide +kernel
theorem dX10_findRows_12 : decode cX10_findRows 12 = .ok (.iload_n 1, 1) := by decide +kernel
theorem dX10_findRows_13 : decode cX10_findRows 13 = .ok (.aload_n 0, 1) := by decide +kernel
theorem dX10_findRows_14 : decode cX10_findRows 14 = .ok (.getfield 9, 3) := by decide +kernel
theorem dX10_findRows_17 : decode cX10_findRows 17 = .ok (.iload_n 3, 1) := by decide +kernel
theorem dX10_findRows_18 : decode cX10_findRows 18 = .ok (.invokevirtual 144, 3) := by decide +kernel
theorem dX10_findRows_21 : decode cX10_findRows 21 = .ok (.ifCond .ne 7, 3) := by decide +kernel
theorem dX10_findRows_24 : decode cX10_findRows 24 = .ok (.iconst 0, 1) := by decide +kernel
theorem dX10_findRows_25 : decode cX10_findRows 25 = .ok (.goto 4, 3) := by decide +kernel
theorem dX10_findRows_28 : decode cX10_findRows 28 = .ok (.iconst 1, 1) := by decide +kernel
theorem dX10_findRows_29 : decode cX10_findRows 29 = .ok (.iadd, 1) := by decide +kernel
theorem dX10_findRows_30 : decode cX10_findRows 30 = .ok (.istore_n 2, 1) := by decide +kernel
theorem dX10_findRows_31 : decode cX10_findRows 31 = .ok (.iinc 3 1, 3) := by decide +kernel
theorem dX10_findRows_34 : decode cX10_findRows 34 = .ok (.goto (-30), 3) := by decide +kernel
theorem dX10_findRows_37 : decode cX10_findRows 37 = .ok (.aload_n 0, 1) := by decide +kernel
theorem dX10_findRows_38 : decode cX10_findRows 38 = .ok (.getfield 112, 3) := by decide +kernel
theorem dX10_findRows_41 : decode cX10_findRows 41 = .ok (.ifCond .eq 11, 3) := by decide +kernel
theorem dX10_findRows_44 : decode cX10_findRows 44 = .ok (.iload_n 2, 1) := by decide +kernel
theorem dX10_findRows_45 : decode cX10_findRows 45 = .ok (.aload_n 0, 1) := by decide +kernel
theorem dX10_findRows_46 : decode cX10_findRows 46 = .ok (.getfield 112, 3) := by decide +kernel
theorem dX10_findRows_49 : decode cX10_findRows 49 = .ok (.if_icmp .gt 7, 3) := by decide +kernel
theorem dX10_findRows_52 : decode cX10_findRows 52 = .ok (.iconst 1, 1) := by decide +kernel
theorem dX10_findRows_53 : decode cX10_findRows 53 = .ok (.goto 4, 3) := by decide +kernel
theorem dX10_findRows_56 : decode cX10_findRows 56 = .ok (.iconst 0, 1) := by decide +kernel
theorem dX10_findRows_57 : decode cX10_findRows 57 = .ok (.istore_n 3, 1) := by decide +kernel
theorem dX10_findRows_58 : decode cX10_findRows 58 = .ok (.aload_n 0, 1) := by decide +kernel
theorem dX10_findRows_59 : decode cX10_findRows 59 = .ok (.iload_n 1, 1) := by decide +kernel
theorem dX10_findRows_60 : decode cX10_findRows 60 = .ok (.iload_n 3, 1) := by decide +kernel
theorem dX10_findRows_61 : decode cX10_findRows 61 = .ok (.ifCond .eq 7, 3) := by decide +kernel
theorem dX10_findRows_64 : decode cX10_findRows 64 = .ok (.iconst 0, 1) := by decide +kernel
theorem dX10_findRows_65 : decode cX10_findRows 65 = .ok (.goto 7, 3) := by decide +kernel
theorem dX10_findRows_68 : decode cX10_findRows 68 = .ok (.aload_n 0, 1) := by decide +kernel
theorem dX10_findRows_69 : decode cX10_findRows 69 = .ok (.getfield 112, 3) := by decide +kernel
theorem dX10_findRows_72 : decode cX10_findRows 72 = .ok (.invokevirtual 150, 3) := by decide +kernel
theorem dX10_findRows_75 : decode cX10_findRows 75 = .ok (.aload_n 0, 1) := by decide +kernel
theorem dX10_findRows_76 : decode cX10_findRows 76 = .ok (.iconst 0, 1) := by decide +kernel
theorem dX10_findRows_77 : decode cX10_findRows 77 = .ok (.putfield 119, 3) := by decide +kernel
theorem dX10_findRows_80 : decode cX10_findRows 80 = .ok (.iconst 0, 1) := by decide +kernel
theorem dX10_findRows_81 : decode cX10_findRows 81 = .ok (.istore 4, 2) := by decide +kernel
theorem dX10_findRows_83 : decode cX10_findRows 83 = .ok (.iconst 0, 1) := by decide +kernel
theorem dX10_findRows_84 : decode cX10_findRows 84 = .ok (.istore 5, 2) := by decide +kernel
theorem dX10_findRows_86 : decode cX10_findRows 86 = .ok (.iload 5, 2) := by decide +kernel
theorem dX10_findRows_88 : decode cX10_findRows 88 = .ok (.bipush 20, 2) := by decide +kernel
theorem dX10_findRows_90 : decode cX10_findRows 90 = .ok (.if_icmp .gt 84, 3) := by decide +kernel
theorem dX10_findRows_93 : decode cX10_findRows 93 = .ok (.aload_n 0, 1) := by decide +kernel
theorem dX10_findRows_94 : decode cX10_findRows 94 = .ok (.iload_n 1, 1) := by decide +kernel
theorem dX10_findRows_95 : decode cX10_findRows 95 = .ok (.aload_n 0, 1) := by decide +kernel
theorem dX10_findRows_96 : decode cX10_findRows 96 = .ok (.getfield 9, 3) := by decide +kernel
theorem dX10_findRows_99 : decode cX10_findRows 99 = .ok (.iload 5, 2) := by decide +kernel
theorem dX10_findRows_101 : decode cX10_findRows 101 = .ok (.invokevirtual 144, 3) := by decide +kernel
theorem dX10_findRows_104 : decode cX10_findRows 104 = .ok (.istore 6, 2) := by decide +kernel
theorem dX10_findRows_106 : decode cX10_findRows 106 = .ok (.iload 6, 2) := by decide +kernel
theorem dX10_findRows_108 : decode cX10_findRows 108 = .ok (.ifCond .eq 53, 3) := by decide +kernel
theorem dX10_findRows_111 : decode cX10_findRows 111 = .ok (.iload_n 3, 1) := by decide +kernel
theorem dX10_findRows_112 : decode cX10_findRows 112 = .ok (.ifCond .ne 14, 3) := by decide +kernel
theorem dX10_findRows_115 : decode cX10_findRows 115 = .ok (.aload_n 0, 1) := by decide +kernel
theorem dX10_findRows_116 : decode cX10_findRows 116 = .ok (.getfield 38, 3) := by decide +kernel
theorem dX10_findRows_119 : decode cX10_findRows 119 = .ok (.iload 5, 2) := by decide +kernel
theorem dX10_findRows_121 : decode cX10_findRows 121 = .ok (.iaload, 1) := by decide +kernel
theorem dX10_findRows_122 : decode cX10_findRows 122 = .ok (.iconst 1, 1) := by decide +kernel
theorem dX10_findRows_123 : decode cX10_findRows 123 = .ok (.if_icmp .ne 38, 3) := by decide +kernel
theorem dX10_findRows_126 : decode cX10_findRows 126 = .ok (.aload_n 0, 1) := by decide +kernel
theorem dX10_findRows_127 : decode cX10_findRows 127 = .ok (.getfield 26, 3) := by decide +kernel
theorem dX10_findRows_130 : decode cX10_findRows 130 = .ok (.aload_n 0, 1) := by decide +kernel
theorem dX10_findRows_131 : decode cX10_findRows 131 = .ok (.getfield 119, 3) := by decide +kernel
theorem dX10_findRows_134 : decode cX10_findRows 134 = .ok (.iload 5, 2) := by decide +kernel
theorem dX10_findRows_136 : decode cX10_findRows 136 = .ok (.iastore, 1) := by decide +kernel
theorem dX10_findRows_137 : decode cX10_findRows 137 = .ok (.aload_n 0, 1) := by decide +kernel
theorem dX10_findRows_138 : decode cX10_findRows 138 = .ok (.getfield 29, 3) := by decide +kernel
theorem dX10_findRows_141 : decode cX10_findRows 141 = .ok (.aload_n 0, 1) := by decide +kernel
theorem dX10_findRows_142 : decode cX10_findRows 142 = .ok (.getfield 119, 3) := by decide +kernel
theorem dX10_findRows_145 : decode cX10_findRows 145 = .ok (.iload 6, 2) := by decide +kernel
theorem dX10_findRows_147 : decode cX10_findRows 147 = .ok (.iastore, 1) := by decide +kernel
theorem dX10_findRows_148 : decode cX10_findRows 148 = .ok (.aload_n 0, 1) := by decide +kernel
theorem dX10_findRows_149 : decode cX10_findRows 149 = .ok (.dup, 1) := by decide +kernel
theorem dX10_findRows_150 : decode cX10_findRows 150 = .ok (.getfield 119, 3) := by decide +kernel
theorem dX10_findRows_153 : decode cX10_findRows 153 = .ok (.iconst 1, 1) := by decide +kernel
theorem dX10_findRows_154 : decode cX10_findRows 154 = .ok (.iadd, 1) := by decide +kernel
theorem dX10_findRows_155 : decode cX10_findRows 155 = .ok (.putfield 119, 3) := by decide +kernel
theorem dX10_findRows_158 : decode cX10_findRows 158 = .ok (.goto 10, 3) := by decide +kernel
theorem dX10_findRows_161 : decode cX10_findRows 161 = .ok (.iload 4, 2) := by decide +kernel
theorem dX10_findRows_163 : decode cX10_findRows 163 = .ok (.iload 6, 2) := by decide +kernel
theorem dX10_findRows_165 : decode cX10_findRows 165 = .ok (.ior, 1) := by decide +kernel
theorem dX10_findRows_166 : decode cX10_findRows 166 = .ok (.istore 4, 2) := by decide +kernel
theorem dX10_findRows_168 : decode cX10_findRows 168 = .ok (.iinc 5 1, 3) := by decide +kernel
theorem dX10_findRows_171 : decode cX10_findRows 171 = .ok (.goto (-85), 3) := by decide +kernel
theorem dX10_findRows_174 : decode cX10_findRows 174 = .ok (.iload 4, 2) := by decide +kernel
theorem dX10_findRows_176 : decode cX10_findRows 176 = .ok (.ifCond .eq 35, 3) := by decide +kernel
theorem dX10_findRows_179 : decode cX10_findRows 179 = .ok (.aload_n 0, 1) := by decide +kernel
theorem dX10_findRows_180 : decode cX10_findRows 180 = .ok (.getfield 26, 3) := by decide +kernel
theorem dX10_findRows_183 : decode cX10_findRows 183 = .ok (.aload_n 0, 1) := by decide +kernel
theorem dX10_findRows_184 : decode cX10_findRows 184 = .ok (.getfield 119, 3) := by decide +kernel
theorem dX10_findRows_187 : decode cX10_findRows 187 = .ok (.bipush 99, 2) := by decide +kernel
theorem dX10_findRows_189 : decode cX10_findRows 189 = .ok (.iastore, 1) := by decide +kernel
theorem dX10_findRows_190 : decode cX10_findRows 190 = .ok (.aload_n 0, 1) := by decide +kernel
theorem dX10_findRows_191 : decode cX10_findRows 191 = .ok (.getfield 29, 3) := by decide +kernel
theorem dX10_findRows_194 : decode cX10_findRows 194 = .ok (.aload_n 0, 1) := by decide +kernel
theorem dX10_findRows_195 : decode cX10_findRows 195 = .ok (.getfield 119, 3) := by decide +kernel
theorem dX10_findRows_198 : decode cX10_findRows 198 = .ok (.iload 4, 2) := by decide +kernel
theorem dX10_findRows_200 : decode cX10_findRows 200 = .ok (.iastore, 1) := by decide +kernel
theorem dX10_findRows_201 : decode cX10_findRows 201 = .ok (.aload_n 0, 1) := by decide +kernel
theorem dX10_findRows_202 : decode cX10_findRows 202 = .ok (.dup, 1) := by decide +kernel
theorem dX10_findRows_203 : decode cX10_findRows 203 = .ok (.getfield 119, 3) := by decide +kernel
theorem dX10_findRows_206 : decode cX10_findRows 206 = .ok (.iconst 1, 1) := by decide +kernel
theorem dX10_findRows_207 : decode cX10_findRows 207 = .ok (.iadd, 1) := by decide +kernel
theorem dX10_findRows_208 : decode cX10_findRows 208 = .ok (.putfield 119, 3) := by decide +kernel
theorem dX10_findRows_211 : decode cX10_findRows 211 = .ok (.return_, 1) := by decide +kernel
theorem dX10_findColumns_0 : decode cX10_findColumns 0 = .ok (.aload_n 0, 1) := by decide +kernel
theorem dX10_findColumns_1 : decode cX10_findColumns 1 = .ok (.iconst 0, 1) := by decide +kernel
theorem dX10_findColumns_2 : decode cX10_findColumns 2 = .ok (.putfield 154, 3) := by decide +kernel
theorem dX10_findColumns_5 : decode cX10_findColumns 5 = .ok (.iconst 0, 1) := by decide +kernel
theorem dX10_findColumns_6 : decode cX10_findColumns 6 = .ok (.istore_n 2, 1) := by decide +kernel
theorem dX10_findColumns_7 : decode cX10_findColumns 7 = .ok (.iload_n 2, 1) := by decide +kernel
theorem dX10_findColumns_8 : decode cX10_findColumns 8 = .ok (.bipush 20, 2) := by decide +kernel
theorem dX10_findColumns_10 : decode cX10_findColumns 10 = .ok (.if_icmp .gt 54, 3) := by decide +kernel
theorem dX10_findColumns_13 : decode cX10_findColumns 13 = .ok (.aload_n 0, 1) := by decide +kernel
theorem dX10_findColumns_14 : decode cX10_findColumns 14 = .ok (.iload_n 1, 1) := by decide +kernel
theorem dX10_findColumns_15 : decode cX10_findColumns 15 = .ok (.aload_n 0, 1) := by decide +kernel
theorem dX10_findColumns_16 : decode cX10_findColumns 16 = .ok (.getfield 13, 3) := by decide +kernel
theorem dX10_findColumns_19 : decode cX10_findColumns 19 = .ok (.iload_n 2, 1) := by decide +kernel
theorem dX10_findColumns_20 : decode cX10_findColumns 20 = .ok (.invokevirtual 144, 3) := by decide +kernel
theorem dX10_findColumns_23 : decode cX10_findColumns 23 = .ok (.istore_n 3, 1) := by decide +kernel
theorem dX10_findColumns_24 : decode cX10_findColumns 24 = .ok (.iload_n 3, 1) := by decide +kernel
theorem dX10_findColumns_25 : decode cX10_findColumns 25 = .ok (.ifCond .eq 33, 3) := by decide +kernel
theorem dX10_findColumns_28 : decode cX10_findColumns 28 = .ok (.aload_n 0, 1) := by decide +kernel
theorem dX10_findColumns_29 : decode cX10_findColumns 29 = .ok (.getfield 32, 3) := by decide +kernel
theorem dX10_findColumns_32 : decode cX10_findColumns 32 = .ok (.aload_n 0, 1) := by decide +kernel
theorem dX10_findColumns_33 : decode cX10_findColumns 33 = .ok (.getfield 154, 3) := by decide +kernel
theorem dX10_findColumns_36 : decode cX10_findColumns 36 = .ok (.iload_n 2, 1) := by decide +kernel
theorem dX10_findColumns_37 : decode cX10_findColumns 37 = .ok (.iastore, 1) := by decide +kernel
theorem dX10_findColumns_38 : decode cX10_findColumns 38 = .ok (.aload_n 0, 1) := by decide +kernel
theorem dX10_findColumns_39 : decode cX10_findColumns 39 = .ok (.getfield 35, 3) := by decide +kernel
theorem dX10_findColumns_42 : decode cX10_findColumns 42 = .ok (.aload_n 0, 1) := by decide +kernel
theorem dX10_findColumns_43 : decode cX10_findColumns 43 = .ok (.getfield 154, 3) := by decide +kernel
theorem dX10_findColumns_46 : decode cX10_findColumns 46 = .ok (.iload_n 3, 1) := by decide +kernel
theorem dX10_findColumns_47 : decode cX10_findColumns 47 = .ok (.iastore, 1) := by decide +kernel
theorem dX10_findColumns_48 : decode cX10_findColumns 48 = .ok (.aload_n 0, 1) := by decide +kernel
theorem dX10_findColumns_49 : decode cX10_findColumns 49 = .ok (.dup, 1) := by decide +kernel
theorem dX10_findColumns_50 : decode cX10_findColumns 50 = .ok (.getfield 154, 3) := by decide +kernel
theorem dX10_findColumns_53 : decode cX10_findColumns 53 = .ok (.iconst 1, 1) := by decide +kernel
theorem dX10_findColumns_54 : decode cX10_findColumns 54 = .ok (.iadd, 1) := by decide +kernel
theorem dX10_findColumns_55 : decode cX10_findColumns 55 = .ok (.putfield 154, 3) := by decide +kernel
theorem dX10_findColumns_58 : decode cX10_findColumns 58 = .ok (.iinc 2 1, 3) := by decide +kernel
theorem dX10_findColumns_61 : decode cX10_findColumns 61 = .ok (.goto (-54), 3) := by decide +kernel
theorem dX10_findColumns_64 : decode cX10_findColumns 64 = .ok (.return_, 1) := by decide +kernel
theorem dX10_rowOf_0 : decode cX10_rowOf 0 = .ok (.iconst 0, 1) := by decide +kernel
theorem dX10_rowOf_1 : decode cX10_rowOf 1 = .ok (.istore_n 2, 1) := by decide +kernel
theorem dX10_rowOf_2 : decode cX10_rowOf 2 = .ok (.iconst 0, 1) := by decide +kernel
theorem dX10_rowOf_3 : decode cX10_rowOf 3 = .ok (.istore_n 3, 1) := by decide +kernel
theorem dX10_rowOf_4 : decode cX10_rowOf 4 = .ok (.iload_n 3, 1) := by decide +kernel
theorem dX10_rowOf_5 : decode cX10_rowOf 5 = .ok (.aload_n 0, 1) := by decide +kernel
theorem dX10_rowOf_6 : decode cX10_rowOf 6 = .ok (.getfield 119, 3) := by decide +kernel
theorem dX10_rowOf_9 : decode cX10_rowOf 9 = .ok (.if_icmp .ge 32, 3) := by decide +kernel
theorem dX10_rowOf_12 : decode cX10_rowOf 12 = .ok (.iload_n 2, 1) := by decide +kernel
theorem dX10_rowOf_13 : decode cX10_rowOf 13 = .ok (.aload_n 0, 1) := by decide +kernel
theorem dX10_rowOf_14 : decode cX10_rowOf 14 = .ok (.getfield 26, 3) := by decide +kernel
theorem dX10_rowOf_17 : decode cX10_rowOf 17 = .ok (.iload_n 3, 1) := by decide +kernel
theorem dX10_rowOf_18 : decode cX10_rowOf 18 = .ok (.iaload, 1) := by decide +kernel
theorem dX10_rowOf_19 : decode cX10_rowOf 19 = .ok (.iload_n 1, 1) := by decide +kernel
theorem dX10_rowOf_20 : decode cX10_rowOf 20 = .ok (.if_icmp .ne 12, 3) := by decide +kernel
theorem dX10_rowOf_23 : decode cX10_rowOf 23 = .ok (.aload_n 0, 1) := by decide +kernel
theorem dX10_rowOf_24 : decode cX10_rowOf 24 = .ok (.getfield 29, 3) := by decide +kernel
theorem dX10_rowOf_27 : decode cX10_rowOf 27 = .ok (.iload_n 3, 1) := by decide +kernel
theorem dX10_rowOf_28 : decode cX10_rowOf 28 = .ok (.iaload, 1) := by decide +kernel
theorem dX10_rowOf_29 : decode cX10_rowOf 29 = .ok (.goto 4, 3) := by decide +kernel
theorem dX10_rowOf_32 : decode cX10_rowOf 32 = .ok (.iconst 0, 1) := by decide +kernel
theorem dX10_rowOf_33 : decode cX10_rowOf 33 = .ok (.ior, 1) := by decide +kernel
theorem dX10_rowOf_34 : decode cX10_rowOf 34 = .ok (.istore_n 2, 1) := by decide +kernel
theorem dX10_rowOf_35 : decode cX10_rowOf 35 = .ok (.iinc 3 1, 3) := by decide +kernel
theorem dX10_rowOf_38 : decode cX10_rowOf 38 = .ok (.goto (-34), 3) := by decide +kernel
theorem dX10_rowOf_41 : decode cX10_rowOf 41 = .ok (.iload_n 2, 1) := by decide +kernel
theorem dX10_rowOf_42 : decode cX10_rowOf 42 = .ok (.ireturn, 1) := by decide +kernel
theorem dX10_columnOf_0 : decode cX10_columnOf 0 = .ok (.iconst 0, 1) := by decide +kernel
theorem dX10_columnOf_1 : decode cX10_columnOf 1 = .ok (.istore_n 2, 1) := by decide +kernel
theorem dX10_columnOf_2 : decode cX10_columnOf 2 = .ok (.iconst 0, 1) := by decide +kernel
theorem dX10_columnOf_3 : decode cX10_columnOf 3 = .ok (.istore_n 3, 1) := by decide +kernel
theorem dX10_columnOf_4 : decode cX10_columnOf 4 = .ok (.iload_n 3, 1) := by decide +kernel
theorem dX10_columnOf_5 : decode cX10_columnOf 5 = .ok (.aload_n 0, 1) := by decide +kernel
theorem dX10_columnOf_6 : decode cX10_columnOf 6 = .ok (.getfield 154, 3) := by decide +kernel
theorem dX10_columnOf_9 : decode cX10_columnOf 9 = .ok (.if_icmp .ge 32, 3) := by decide +kernel
theorem dX10_columnOf_12 : decode cX10_columnOf 12 = .ok (.iload_n 2, 1) := by decide +kernel
theorem dX10_columnOf_13 : decode cX10_columnOf 13 = .ok (.aload_n 0, 1) := by decide +kernel
theorem dX10_columnOf_14 : decode cX10_columnOf 14 = .ok (.getfield 32, 3) := by decide +kernel
theorem dX10_columnOf_17 : decode cX10_columnOf 17 = .ok (.iload_n 3, 1) := by decide +kernel
theorem dX10_columnOf_18 : decode cX10_columnOf 18 = .ok (.iaload, 1) := by decide +kernel
theorem dX10_columnOf_19 : decode cX10_columnOf 19 = .ok (.iload_n 1, 1) := by decide +kernel
theorem dX10_columnOf_20 : decode cX10_columnOf 20 = .ok (.if_icmp .ne 12, 3) := by decide +kernel
theorem dX10_columnOf_23 : decode cX10_columnOf 23 = .ok (.aload_n 0, 1) := by decide +kernel
theorem dX10_columnOf_24 : decode cX10_columnOf 24 = .ok (.getfield 35, 3) := by decide +kernel
theorem dX10_columnOf_27 : decode cX10_columnOf 27 = .ok (.iload_n 3, 1) := by decide +kernel
theorem dX10_columnOf_28 : decode cX10_columnOf 28 = .ok (.iaload, 1) := by decide +kernel
theorem dX10_columnOf_29 : decode cX10_columnOf 29 = .ok (.goto 4, 3) := by decide +kernel
theorem dX10_columnOf_32 : decode cX10_columnOf 32 = .ok (.iconst 0, 1) := by decide +kernel
theorem dX10_columnOf_33 : decode cX10_columnOf 33 = .ok (.ior, 1) := by decide +kernel
theorem dX10_columnOf_34 : decode cX10_columnOf 34 = .ok (.istore_n 2, 1) := by decide +kernel
theorem dX10_columnOf_35 : decode cX10_columnOf 35 = .ok (.iinc 3 1, 3) := by decide +kernel
theorem dX10_columnOf_38 : decode cX10_columnOf 38 = .ok (.goto (-34), 3) := by decide +kernel
theorem dX10_columnOf_41 : decode cX10_columnOf 41 = .ok (.iload_n 2, 1) := by decide +kernel
theorem dX10_columnOf_42 : decode cX10_columnOf 42 = .ok (.ireturn, 1) := by decide +kernel
theorem dX10_keepAct_0 : decode cX10_keepAct 0 = .ok (.iconst 0, 1) := by decide +kernel
theorem dX10_keepAct_1 : decode cX10_keepAct 1 = .ok (.istore_n 1, 1) := by decide +kernel
theorem dX10_keepAct_2 : decode cX10_keepAct 2 = .ok (.iload_n 1, 1) := by decide +kernel
theorem dX10_keepAct_3 : decode cX10_keepAct 3 = .ok (.bipush 17, 2) := by decide +kernel
theorem dX10_keepAct_5 : decode cX10_keepAct 5 = .ok (.if_icmp .ge 29, 3) := by decide +kernel
theorem dX10_keepAct_8 : decode cX10_keepAct 8 = .ok (.aload_n 0, 1) := by decide +kernel
theorem dX10_keepAct_9 : decode cX10_keepAct 9 = .ok (.getfield 41, 3) := by decide +kernel
theorem dX10_keepAct_12 : decode cX10_keepAct 12 = .ok (.bipush 17, 2) := by decide +kernel
theorem dX10_keepAct_14 : decode cX10_keepAct 14 = .ok (.aload_n 0, 1) := by decide +kernel
theorem dX10_keepAct_15 : decode cX10_keepAct 15 = .ok (.getfield 157, 3) := by decide +kernel
theorem dX10_keepAct_18 : decode cX10_keepAct 18 = .ok (.imul, 1) := by decide +kernel
theorem dX10_keepAct_19 : decode cX10_keepAct 19 = .ok (.iload_n 1, 1) := by decide +kernel
theorem dX10_keepAct_20 : decode cX10_keepAct 20 = .ok (.iadd, 1) := by decide +kernel
theorem dX10_keepAct_21 : decode cX10_keepAct 21 = .ok (.aload_n 0, 1) := by decide +kernel
theorem dX10_keepAct_22 : decode cX10_keepAct 22 = .ok (.getfield 23, 3) := by decide +kernel
theorem dX10_keepAct_25 : decode cX10_keepAct 25 = .ok (.iload_n 1, 1) := by decide +kernel
theorem dX10_keepAct_26 : decode cX10_keepAct 26 = .ok (.iaload, 1) := by decide +kernel
theorem dX10_keepAct_27 : decode cX10_keepAct 27 = .ok (.iastore, 1) := by decide +kernel
theorem dX10_keepAct_28 : decode cX10_keepAct 28 = .ok (.iinc 1 1, 3) := by decide +kernel
theorem dX10_keepAct_31 : decode cX10_keepAct 31 = .ok (.goto (-29), 3) := by decide +kernel
theorem dX10_keepAct_34 : decode cX10_keepAct 34 = .ok (.aload_n 0, 1) := by decide +kernel
theorem dX10_keepAct_35 : decode cX10_keepAct 35 = .ok (.aload_n 0, 1) := by decide +kernel
theorem dX10_keepAct_36 : decode cX10_keepAct 36 = .ok (.getfield 157, 3) := by decide +kernel
theorem dX10_keepAct_39 : decode cX10_keepAct 39 = .ok (.iconst 1, 1) := by decide +kernel
theorem dX10_keepAct_40 : decode cX10_keepAct 40 = .ok (.iadd, 1) := by decide +kernel
theorem dX10_keepAct_41 : decode cX10_keepAct 41 = .ok (.bipush 14, 2) := by decide +kernel
theorem dX10_keepAct_43 : decode cX10_keepAct 43 = .ok (.irem, 1) := by decide +kernel
theorem dX10_keepAct_44 : decode cX10_keepAct 44 = .ok (.putfield 157, 3) := by decide +kernel
theorem dX10_keepAct_47 : decode cX10_keepAct 47 = .ok (.aload_n 0, 1) := by decide +kernel
theorem dX10_keepAct_48 : decode cX10_keepAct 48 = .ok (.aload_n 0, 1) := by decide +kernel
theorem dX10_keepAct_49 : decode cX10_keepAct 49 = .ok (.getfield 160, 3) := by decide +kernel
theorem dX10_keepAct_52 : decode cX10_keepAct 52 = .ok (.bipush 14, 2) := by decide +kernel
theorem dX10_keepAct_54 : decode cX10_keepAct 54 = .ok (.if_icmp .ge 12, 3) := by decide +kernel
theorem dX10_keepAct_57 : decode cX10_keepAct 57 = .ok (.aload_n 0, 1) := by decide +kernel
theorem dX10_keepAct_58 : decode cX10_keepAct 58 = .ok (.getfield 160, 3) := by decide +kernel
theorem dX10_keepAct_61 : decode cX10_keepAct 61 = .ok (.iconst 1, 1) := by decide +kernel
theorem dX10_keepAct_62 : decode cX10_keepAct 62 = .ok (.iadd, 1) := by decide +kernel
theorem dX10_keepAct_63 : decode cX10_keepAct 63 = .ok (.goto 5, 3) := by decide +kernel
theorem dX10_keepAct_66 : decode cX10_keepAct 66 = .ok (.bipush 14, 2) := by decide +kernel
theorem dX10_keepAct_68 : decode cX10_keepAct 68 = .ok (.putfield 160, 3) := by decide +kernel
theorem dX10_keepAct_71 : decode cX10_keepAct 71 = .ok (.return_, 1) := by decide +kernel
theorem dX10_isEntry_0 : decode cX10_isEntry 0 = .ok (.iload_n 0, 1) := by decide +kernel
theorem dX10_isEntry_1 : decode cX10_isEntry 1 = .ok (.i2l, 1) := by decide +kernel
theorem dX10_isEntry_2 : decode cX10_isEntry 2 = .ok (.lconst 0, 1) := by decide +kernel
theorem dX10_isEntry_3 : decode cX10_isEntry 3 = .ok (.ldc2_w 163, 3) := by decide +kernel
theorem dX10_isEntry_6 : decode cX10_isEntry 6 = .ok (.invokestatic 62, 3) := by decide +kernel
theorem dX10_isEntry_9 : decode cX10_isEntry 9 = .ok (.ifCond .eq 31, 3) := by decide +kernel
theorem dX10_isEntry_12 : decode cX10_isEntry 12 = .ok (.iload_n 1, 1) := by decide +kernel
theorem dX10_isEntry_13 : decode cX10_isEntry 13 = .ok (.i2l, 1) := by decide +kernel
theorem dX10_isEntry_14 : decode cX10_isEntry 14 = .ok (.lconst 0, 1) := by decide +kernel
theorem dX10_isEntry_15 : decode cX10_isEntry 15 = .ok (.ldc2_w 165, 3) := by decide +kernel
theorem dX10_isEntry_18 : decode cX10_isEntry 18 = .ok (.invokestatic 62, 3) := by decide +kernel
theorem dX10_isEntry_21 : decode cX10_isEntry 21 = .ok (.ifCond .eq 19, 3) := by decide +kernel
theorem dX10_isEntry_24 : decode cX10_isEntry 24 = .ok (.iload_n 2, 1) := by decide +kernel
theorem dX10_isEntry_25 : decode cX10_isEntry 25 = .ok (.i2l, 1) := by decide +kernel
theorem dX10_isEntry_26 : decode cX10_isEntry 26 = .ok (.lconst 0, 1) := by decide +kernel
theorem dX10_isEntry_27 : decode cX10_isEntry 27 = .ok (.ldc2_w 167, 3) := by decide +kernel
theorem dX10_isEntry_30 : decode cX10_isEntry 30 = .ok (.invokestatic 62, 3) := by decide +kernel
theorem dX10_isEntry_33 : decode cX10_isEntry 33 = .ok (.ifCond .eq 7, 3) := by decide +kernel
theorem dX10_isEntry_36 : decode cX10_isEntry 36 = .ok (.iconst 1, 1) := by decide +kernel
theorem dX10_isEntry_37 : decode cX10_isEntry 37 = .ok (.goto 4, 3) := by decide +kernel
theorem dX10_isEntry_40 : decode cX10_isEntry 40 = .ok (.iconst 0, 1) := by decide +kernel
theorem dX10_isEntry_41 : decode cX10_isEntry 41 = .ok (.ireturn, 1) := by decide +kernel
theorem dX10_asOne_0 : decode cX10_asOne 0 = .ok (.sipush 10000, 3) := by decide +kernel
theorem dX10_asOne_3 : decode cX10_asOne 3 = .ok (.iload_n 0, 1) := by decide +kernel
theorem dX10_asOne_4 : decode cX10_asOne 4 = .ok (.imul, 1) := by decide +kernel
theorem dX10_asOne_5 : decode cX10_asOne 5 = .ok (.sipush 1000, 3) := by decide +kernel
theorem dX10_asOne_8 : decode cX10_asOne 8 = .ok (.iload_n 1, 1) := by decide +kernel
theorem dX10_asOne_9 : decode cX10_asOne 9 = .ok (.imul, 1) := by decide +kernel
theorem dX10_asOne_10 : decode cX10_asOne 10 = .ok (.iadd, 1) := by decide +kernel
theorem dX10_asOne_11 : decode cX10_asOne 11 = .ok (.iload_n 2, 1) := by decide +kernel
theorem dX10_asOne_12 : decode cX10_asOne 12 = .ok (.iadd, 1) := by decide +kernel
theorem dX10_asOne_13 : decode cX10_asOne 13 = .ok (.ireturn, 1) := by decide +kernel
theorem dX10_add_0 : decode cX10_add 0 = .ok (.iload_n 1, 1) := by decide +kernel
theorem dX10_add_1 : decode cX10_add 1 = .ok (.iload_n 2, 1) := by decide +kernel
theorem dX10_add_2 : decode cX10_add 2 = .ok (.iload_n 3, 1) := by decide +kernel
theorem dX10_add_3 : decode cX10_add 3 = .ok (.invokestatic 169, 3) := by decide +kernel
theorem dX10_add_6 : decode cX10_add 6 = .ok (.ifCond .ne 6, 3) := by decide +kernel
theorem dX10_add_9 : decode cX10_add 9 = .ok (.bipush (-2), 2) := by decide +kernel
theorem dX10_add_11 : decode cX10_add 11 = .ok (.ireturn, 1) := by decide +kernel
theorem dX10_add_12 : decode cX10_add 12 = .ok (.aload_n 0, 1) := by decide +kernel
theorem dX10_add_13 : decode cX10_add 13 = .ok (.iconst 0, 1) := by decide +kernel
theorem dX10_add_14 : decode cX10_add 14 = .ok (.invokevirtual 127, 3) := by decide +kernel
theorem dX10_add_17 : decode cX10_add 17 = .ok (.bipush 16, 2) := by decide +kernel
theorem dX10_add_19 : decode cX10_add 19 = .ok (.if_icmp .ne 6, 3) := by decide +kernel
theorem dX10_add_22 : decode cX10_add 22 = .ok (.bipush (-4), 2) := by decide +kernel
theorem dX10_add_24 : decode cX10_add 24 = .ok (.ireturn, 1) := by decide +kernel
theorem dX10_add_25 : decode cX10_add 25 = .ok (.aload_n 0, 1) := by decide +kernel
theorem dX10_add_26 : decode cX10_add 26 = .ok (.invokevirtual 173, 3) := by decide +kernel
theorem dX10_add_29 : decode cX10_add 29 = .ok (.aload_n 0, 1) := by decide +kernel
theorem dX10_add_30 : decode cX10_add 30 = .ok (.iconst 0, 1) := by decide +kernel
theorem dX10_add_31 : decode cX10_add 31 = .ok (.iload_n 1, 1) := by decide +kernel
theorem dX10_add_32 : decode cX10_add 32 = .ok (.iload_n 2, 1) := by decide +kernel
theorem dX10_add_33 : decode cX10_add 33 = .ok (.iload_n 3, 1) := by decide +kernel
theorem dX10_add_34 : decode cX10_add 34 = .ok (.invokestatic 176, 3) := by decide +kernel
theorem dX10_add_37 : decode cX10_add 37 = .ok (.invokevirtual 179, 3) := by decide +kernel
theorem dX10_add_40 : decode cX10_add 40 = .ok (.aload_n 0, 1) := by decide +kernel
theorem dX10_add_41 : decode cX10_add 41 = .ok (.iconst 0, 1) := by decide +kernel
theorem dX10_add_42 : decode cX10_add 42 = .ok (.invokevirtual 127, 3) := by decide +kernel
theorem dX10_add_45 : decode cX10_add 45 = .ok (.ireturn, 1) := by decide +kernel
theorem dX10_isThere_0 : decode cX10_isThere 0 = .ok (.iload_n 1, 1) := by decide +kernel
theorem dX10_isThere_1 : decode cX10_isThere 1 = .ok (.i2l, 1) := by decide +kernel
theorem dX10_isThere_2 : decode cX10_isThere 2 = .ok (.lconst 0, 1) := by decide +kernel
theorem dX10_isThere_3 : decode cX10_isThere 3 = .ok (.aload_n 0, 1) := by decide +kernel
theorem dX10_isThere_4 : decode cX10_isThere 4 = .ok (.iconst 0, 1) := by decide +kernel
theorem dX10_isThere_5 : decode cX10_isThere 5 = .ok (.invokevirtual 127, 3) := by decide +kernel
theorem dX10_isThere_8 : decode cX10_isThere 8 = .ok (.iconst 1, 1) := by decide +kernel
theorem dX10_isThere_9 : decode cX10_isThere 9 = .ok (.isub, 1) := by decide +kernel
theorem dX10_isThere_10 : decode cX10_isThere 10 = .ok (.i2l, 1) := by decide +kernel
theorem dX10_isThere_11 : decode cX10_isThere 11 = .ok (.invokestatic 62, 3) := by decide +kernel
theorem dX10_isThere_14 : decode cX10_isThere 14 = .ok (.ireturn, 1) := by decide +kernel
theorem dX10_drop_0 : decode cX10_drop 0 = .ok (.aload_n 0, 1) := by decide +kernel
theorem dX10_drop_1 : decode cX10_drop 1 = .ok (.iload_n 1, 1) := by decide +kernel
theorem dX10_drop_2 : decode cX10_drop 2 = .ok (.invokevirtual 182, 3) := by decide +kernel
theorem dX10_drop_5 : decode cX10_drop 5 = .ok (.ifCond .ne 5, 3) := by decide +kernel
theorem dX10_drop_8 : decode cX10_drop 8 = .ok (.iconst (-1), 1) := by decide +kernel
theorem dX10_drop_9 : decode cX10_drop 9 = .ok (.ireturn, 1) := by decide +kernel
theorem dX10_drop_10 : decode cX10_drop 10 = .ok (.aload_n 0, 1) := by decide +kernel
theorem dX10_drop_11 : decode cX10_drop 11 = .ok (.invokevirtual 173, 3) := by decide +kernel
theorem dX10_drop_14 : decode cX10_drop 14 = .ok (.aload_n 0, 1) := by decide +kernel
theorem dX10_drop_15 : decode cX10_drop 15 = .ok (.iconst 0, 1) := by decide +kernel
theorem dX10_drop_16 : decode cX10_drop 16 = .ok (.iload_n 1, 1) := by decide +kernel
theorem dX10_drop_17 : decode cX10_drop 17 = .ok (.invokevirtual 134, 3) := by decide +kernel
theorem dX10_drop_20 : decode cX10_drop 20 = .ok (.istore_n 2, 1) := by decide +kernel
theorem dX10_drop_21 : decode cX10_drop 21 = .ok (.aload_n 0, 1) := by decide +kernel
theorem dX10_drop_22 : decode cX10_drop 22 = .ok (.iconst 0, 1) := by decide +kernel
theorem dX10_drop_23 : decode cX10_drop 23 = .ok (.iload_n 1, 1) := by decide +kernel
theorem dX10_drop_24 : decode cX10_drop 24 = .ok (.invokevirtual 186, 3) := by decide +kernel
theorem dX10_drop_27 : decode cX10_drop 27 = .ok (.iload_n 2, 1) := by decide +kernel
theorem dX10_drop_28 : decode cX10_drop 28 = .ok (.ireturn, 1) := by decide +kernel
theorem dX10_change_0 : decode cX10_change 0 = .ok (.aload_n 0, 1) := by decide +kernel
theorem dX10_change_1 : decode cX10_change 1 = .ok (.iload_n 1, 1) := by decide +kernel
theorem dX10_change_2 : decode cX10_change 2 = .ok (.invokevirtual 182, 3) := by decide +kernel
theorem dX10_change_5 : decode cX10_change 5 = .ok (.ifCond .ne 5, 3) := by decide +kernel
theorem dX10_change_8 : decode cX10_change 8 = .ok (.iconst (-1), 1) := by decide +kernel
theorem dX10_change_9 : decode cX10_change 9 = .ok (.ireturn, 1) := by decide +kernel
theorem dX10_change_10 : decode cX10_change 10 = .ok (.iload_n 2, 1) := by decide +kernel
theorem dX10_change_11 : decode cX10_change 11 = .ok (.i2l, 1) := by decide +kernel
theorem dX10_change_12 : decode cX10_change 12 = .ok (.lconst 0, 1) := by decide +kernel
theorem dX10_change_13 : decode cX10_change 13 = .ok (.ldc2_w 167, 3) := by decide +kernel
theorem dX10_change_16 : decode cX10_change 16 = .ok (.invokestatic 62, 3) := by decide +kernel
theorem dX10_change_19 : decode cX10_change 19 = .ok (.ifCond .ne 6, 3) := by decide +kernel
theorem dX10_change_22 : decode cX10_change 22 = .ok (.bipush (-2), 2) := by decide +kernel
theorem dX10_change_24 : decode cX10_change 24 = .ok (.ireturn, 1) := by decide +kernel
theorem dX10_change_25 : decode cX10_change 25 = .ok (.aload_n 0, 1) := by decide +kernel
theorem dX10_change_26 : decode cX10_change 26 = .ok (.invokevirtual 173, 3) := by decide +kernel
theorem dX10_change_29 : decode cX10_change 29 = .ok (.aload_n 0, 1) := by decide +kernel
theorem dX10_change_30 : decode cX10_change 30 = .ok (.iconst 0, 1) := by decide +kernel
theorem dX10_change_31 : decode cX10_change 31 = .ok (.iload_n 1, 1) := by decide +kernel
theorem dX10_change_32 : decode cX10_change 32 = .ok (.invokevirtual 134, 3) := by decide +kernel
theorem dX10_change_35 : decode cX10_change 35 = .ok (.istore_n 3, 1) := by decide +kernel
theorem dX10_change_36 : decode cX10_change 36 = .ok (.aload_n 0, 1) := by decide +kernel
theorem dX10_change_37 : decode cX10_change 37 = .ok (.getfield 23, 3) := by decide +kernel
theorem dX10_change_40 : decode cX10_change 40 = .ok (.iconst 1, 1) := by decide +kernel
theorem dX10_change_41 : decode cX10_change 41 = .ok (.iload_n 1, 1) := by decide +kernel
theorem dX10_change_42 : decode cX10_change 42 = .ok (.iadd, 1) := by decide +kernel
theorem dX10_change_43 : decode cX10_change 43 = .ok (.dup2, 1) := by decide +kernel
theorem dX10_change_44 : decode cX10_change 44 = .ok (.iaload, 1) := by decide +kernel
theorem dX10_change_45 : decode cX10_change 45 = .ok (.iload_n 2, 1) := by decide +kernel
theorem dX10_change_46 : decode cX10_change 46 = .ok (.iload_n 3, 1) := by decide +kernel
theorem dX10_change_47 : decode cX10_change 47 = .ok (.isub, 1) := by decide +kernel
theorem dX10_change_48 : decode cX10_change 48 = .ok (.iadd, 1) := by decide +kernel
theorem dX10_change_49 : decode cX10_change 49 = .ok (.iastore, 1) := by decide +kernel
theorem dX10_change_50 : decode cX10_change 50 = .ok (.iload_n 3, 1) := by decide +kernel
theorem dX10_change_51 : decode cX10_change 51 = .ok (.ireturn, 1) := by decide +kernel
theorem dX10_undo_0 : decode cX10_undo 0 = .ok (.aload_n 0, 1) := by decide +kernel
theorem dX10_undo_1 : decode cX10_undo 1 = .ok (.getfield 160, 3) := by decide +kernel
theorem dX10_undo_4 : decode cX10_undo 4 = .ok (.ifCond .ne 6, 3) := by decide +kernel
theorem dX10_undo_7 : decode cX10_undo 7 = .ok (.bipush (-3), 2) := by decide +kernel
theorem dX10_undo_9 : decode cX10_undo 9 = .ok (.ireturn, 1) := by decide +kernel
theorem dX10_undo_10 : decode cX10_undo 10 = .ok (.aload_n 0, 1) := by decide +kernel
theorem dX10_undo_11 : decode cX10_undo 11 = .ok (.dup, 1) := by decide +kernel
theorem dX10_undo_12 : decode cX10_undo 12 = .ok (.getfield 160, 3) := by decide +kernel
theorem dX10_undo_15 : decode cX10_undo 15 = .ok (.iconst 1, 1) := by decide +kernel
theorem dX10_undo_16 : decode cX10_undo 16 = .ok (.isub, 1) := by decide +kernel
theorem dX10_undo_17 : decode cX10_undo 17 = .ok (.putfield 160, 3) := by decide +kernel
theorem dX10_undo_20 : decode cX10_undo 20 = .ok (.aload_n 0, 1) := by decide +kernel
theorem dX10_undo_21 : decode cX10_undo 21 = .ok (.aload_n 0, 1) := by decide +kernel
theorem dX10_undo_22 : decode cX10_undo 22 = .ok (.getfield 157, 3) := by decide +kernel
theorem dX10_undo_25 : decode cX10_undo 25 = .ok (.bipush 13, 2) := by decide +kernel
theorem dX10_undo_27 : decode cX10_undo 27 = .ok (.iadd, 1) := by decide +kernel
theorem dX10_undo_28 : decode cX10_undo 28 = .ok (.bipush 14, 2) := by decide +kernel
theorem dX10_undo_30 : decode cX10_undo 30 = .ok (.irem, 1) := by decide +kernel
theorem dX10_undo_31 : decode cX10_undo 31 = .ok (.putfield 157, 3) := by decide +kernel
theorem dX10_undo_34 : decode cX10_undo 34 = .ok (.iconst 0, 1) := by decide +kernel
theorem dX10_undo_35 : decode cX10_undo 35 = .ok (.istore_n 1, 1) := by decide +kernel
theorem dX10_undo_36 : decode cX10_undo 36 = .ok (.iload_n 1, 1) := by decide +kernel
theorem dX10_undo_37 : decode cX10_undo 37 = .ok (.bipush 17, 2) := by decide +kernel
theorem dX10_undo_39 : decode cX10_undo 39 = .ok (.if_icmp .ge 29, 3) := by decide +kernel
theorem dX10_undo_42 : decode cX10_undo 42 = .ok (.aload_n 0, 1) := by decide +kernel
theorem dX10_undo_43 : decode cX10_undo 43 = .ok (.getfield 23, 3) := by decide +kernel
theorem dX10_undo_46 : decode cX10_undo 46 = .ok (.iload_n 1, 1) := by decide +kernel
theorem dX10_undo_47 : decode cX10_undo 47 = .ok (.aload_n 0, 1) := by decide +kernel
theorem dX10_undo_48 : decode cX10_undo 48 = .ok (.getfield 41, 3) := by decide +kernel
theorem dX10_undo_51 : decode cX10_undo 51 = .ok (.bipush 17, 2) := by decide +kernel
theorem dX10_undo_53 : decode cX10_undo 53 = .ok (.aload_n 0, 1) := by decide +kernel
theorem dX10_undo_54 : decode cX10_undo 54 = .ok (.getfield 157, 3) := by decide +kernel
theorem dX10_undo_57 : decode cX10_undo 57 = .ok (.imul, 1) := by decide +kernel
theorem dX10_undo_58 : decode cX10_undo 58 = .ok (.iload_n 1, 1) := by decide +kernel
theorem dX10_undo_59 : decode cX10_undo 59 = .ok (.iadd, 1) := by decide +kernel
theorem dX10_undo_60 : decode cX10_undo 60 = .ok (.iaload, 1) := by decide +kernel
theorem dX10_undo_61 : decode cX10_undo 61 = .ok (.iastore, 1) := by decide +kernel
theorem dX10_undo_62 : decode cX10_undo 62 = .ok (.iinc 1 1, 3) := by decide +kernel
theorem dX10_undo_65 : decode cX10_undo 65 = .ok (.goto (-29), 3) := by decide +kernel
theorem dX10_undo_68 : decode cX10_undo 68 = .ok (.aload_n 0, 1) := by decide +kernel
theorem dX10_undo_69 : decode cX10_undo 69 = .ok (.getfield 160, 3) := by decide +kernel
theorem dX10_undo_72 : decode cX10_undo 72 = .ok (.ireturn, 1) := by decide +kernel
theorem dX10_rowKeyOf_0 : decode cX10_rowKeyOf 0 = .ok (.bipush (-9), 2) := by decide +kernel
theorem dX10_rowKeyOf_2 : decode cX10_rowKeyOf 2 = .ok (.istore_n 2, 1) := by decide +kernel
theorem dX10_rowKeyOf_3 : decode cX10_rowKeyOf 3 = .ok (.iconst 0, 1) := by decide +kernel
theorem dX10_rowKeyOf_4 : decode cX10_rowKeyOf 4 = .ok (.istore_n 3, 1) := by decide +kernel
theorem dX10_rowKeyOf_5 : decode cX10_rowKeyOf 5 = .ok (.iload_n 3, 1) := by decide +kernel
theorem dX10_rowKeyOf_6 : decode cX10_rowKeyOf 6 = .ok (.aload_n 0, 1) := by decide +kernel
theorem dX10_rowKeyOf_7 : decode cX10_rowKeyOf 7 = .ok (.getfield 119, 3) := by decide +kernel
theorem dX10_rowKeyOf_10 : decode cX10_rowKeyOf 10 = .ok (.if_icmp .ge 33, 3) := by decide +kernel
theorem dX10_rowKeyOf_13 : decode cX10_rowKeyOf 13 = .ok (.aload_n 0, 1) := by decide +kernel
theorem dX10_rowKeyOf_14 : decode cX10_rowKeyOf 14 = .ok (.getfield 29, 3) := by decide +kernel
theorem dX10_rowKeyOf_17 : decode cX10_rowKeyOf 17 = .ok (.iload_n 3, 1) := by decide +kernel
theorem dX10_rowKeyOf_18 : decode cX10_rowKeyOf 18 = .ok (.iaload, 1) := by decide +kernel
theorem dX10_rowKeyOf_19 : decode cX10_rowKeyOf 19 = .ok (.iload_n 1, 1) := by decide +kernel
theorem dX10_rowKeyOf_20 : decode cX10_rowKeyOf 20 = .ok (.invokestatic 130, 3) := by decide +kernel
theorem dX10_rowKeyOf_23 : decode cX10_rowKeyOf 23 = .ok (.ifCond .eq 12, 3) := by decide +kernel
theorem dX10_rowKeyOf_26 : decode cX10_rowKeyOf 26 = .ok (.aload_n 0, 1) := by decide +kernel
theorem dX10_rowKeyOf_27 : decode cX10_rowKeyOf 27 = .ok (.getfield 26, 3) := by decide +kernel
theorem dX10_rowKeyOf_30 : decode cX10_rowKeyOf 30 = .ok (.iload_n 3, 1) := by decide +kernel
theorem dX10_rowKeyOf_31 : decode cX10_rowKeyOf 31 = .ok (.iaload, 1) := by decide +kernel
theorem dX10_rowKeyOf_32 : decode cX10_rowKeyOf 32 = .ok (.goto 4, 3) := by decide +kernel
theorem dX10_rowKeyOf_35 : decode cX10_rowKeyOf 35 = .ok (.iload_n 2, 1) := by decide +kernel
theorem dX10_rowKeyOf_36 : decode cX10_rowKeyOf 36 = .ok (.istore_n 2, 1) := by decide +kernel
theorem dX10_rowKeyOf_37 : decode cX10_rowKeyOf 37 = .ok (.iinc 3 1, 3) := by decide +kernel
theorem dX10_rowKeyOf_40 : decode cX10_rowKeyOf 40 = .ok (.goto (-35), 3) := by decide +kernel
theorem dX10_rowKeyOf_43 : decode cX10_rowKeyOf 43 = .ok (.iload_n 2, 1) := by decide +kernel
theorem dX10_rowKeyOf_44 : decode cX10_rowKeyOf 44 = .ok (.ireturn, 1) := by decide +kernel
theorem dX10_entry_0 : decode cX10_entry 0 = .ok (.aload_n 0, 1) := by decide +kernel
theorem dX10_entry_1 : decode cX10_entry 1 = .ok (.iload_n 1, 1) := by decide +kernel
theorem dX10_entry_2 : decode cX10_entry 2 = .ok (.invokevirtual 182, 3) := by decide +kernel
theorem dX10_entry_5 : decode cX10_entry 5 = .ok (.ifCond .ne 5, 3) := by decide +kernel
theorem dX10_entry_8 : decode cX10_entry 8 = .ok (.iconst (-1), 1) := by decide +kernel
theorem dX10_entry_9 : decode cX10_entry 9 = .ok (.ireturn, 1) := by decide +kernel
theorem dX10_entry_10 : decode cX10_entry 10 = .ok (.aload_n 0, 1) := by decide +kernel
theorem dX10_entry_11 : decode cX10_entry 11 = .ok (.iconst 0, 1) := by decide +kernel
theorem dX10_entry_12 : decode cX10_entry 12 = .ok (.invokevirtual 115, 3) := by decide +kernel
theorem dX10_entry_15 : decode cX10_entry 15 = .ok (.iload_n 2, 1) := by decide +kernel
theorem dX10_entry_16 : decode cX10_entry 16 = .ok (.tableswitch 76 0 4 #[36, 44, 52, 59, 65], 36) := by decide +kernel
theorem dX10_entry_52 : decode cX10_entry 52 = .ok (.aload_n 0, 1) := by decide +kernel
theorem dX10_entry_53 : decode cX10_entry 53 = .ok (.iconst 0, 1) := by decide +kernel
theorem dX10_entry_54 : decode cX10_entry 54 = .ok (.iload_n 1, 1) := by decide +kernel
theorem dX10_entry_55 : decode cX10_entry 55 = .ok (.iconst 0, 1) := by decide +kernel
theorem dX10_entry_56 : decode cX10_entry 56 = .ok (.invokevirtual 140, 3) := by decide +kernel
theorem dX10_entry_59 : decode cX10_entry 59 = .ok (.ireturn, 1) := by decide +kernel
theorem dX10_entry_60 : decode cX10_entry 60 = .ok (.aload_n 0, 1) := by decide +kernel
theorem dX10_entry_61 : decode cX10_entry 61 = .ok (.iconst 0, 1) := by decide +kernel
theorem dX10_entry_62 : decode cX10_entry 62 = .ok (.iload_n 1, 1) := by decide +kernel
theorem dX10_entry_63 : decode cX10_entry 63 = .ok (.iconst 1, 1) := by decide +kernel
theorem dX10_entry_64 : decode cX10_entry 64 = .ok (.invokevirtual 140, 3) := by decide +kernel
theorem dX10_entry_67 : decode cX10_entry 67 = .ok (.ireturn, 1) := by decide +kernel
theorem dX10_entry_68 : decode cX10_entry 68 = .ok (.aload_n 0, 1) := by decide +kernel
theorem dX10_entry_69 : decode cX10_entry 69 = .ok (.iconst 0, 1) := by decide +kernel
theorem dX10_entry_70 : decode cX10_entry 70 = .ok (.iload_n 1, 1) := by decide +kernel
theorem dX10_entry_71 : decode cX10_entry 71 = .ok (.invokevirtual 134, 3) := by decide +kernel
theorem dX10_entry_74 : decode cX10_entry 74 = .ok (.ireturn, 1) := by decide +kernel
theorem dX10_entry_75 : decode cX10_entry 75 = .ok (.aload_n 0, 1) := by decide +kernel
theorem dX10_entry_76 : decode cX10_entry 76 = .ok (.iload_n 1, 1) := by decide +kernel
theorem dX10_entry_77 : decode cX10_entry 77 = .ok (.invokevirtual 189, 3) := by decide +kernel
theorem dX10_entry_80 : decode cX10_entry 80 = .ok (.ireturn, 1) := by decide +kernel
theorem dX10_entry_81 : decode cX10_entry 81 = .ok (.aload_n 0, 1) := by decide +kernel
theorem dX10_entry_82 : decode cX10_entry 82 = .ok (.iconst 0, 1) := by decide +kernel
theorem dX10_entry_83 : decode cX10_entry 83 = .ok (.iload_n 1, 1) := by decide +kernel
theorem dX10_entry_84 : decode cX10_entry 84 = .ok (.aload_n 0, 1) := by decide +kernel
theorem dX10_entry_85 : decode cX10_entry 85 = .ok (.getfield 13, 3) := by decide +kernel
theorem dX10_entry_88 : decode cX10_entry 88 = .ok (.invokevirtual 140, 3) := by decide +kernel
theorem dX10_entry_91 : decode cX10_entry 91 = .ok (.ireturn, 1) := by decide +kernel
theorem dX10_entry_92 : decode cX10_entry 92 = .ok (.bipush (-2), 2) := by decide +kernel
theorem dX10_entry_94 : decode cX10_entry 94 = .ok (.ireturn, 1) := by decide +kernel
theorem dX10_key_0 : decode cX10_key 0 = .ok (.iload_n 1, 1) := by decide +kernel
theorem dX10_key_1 : decode cX10_key 1 = .ok (.i2l, 1) := by decide +kernel
theorem dX10_key_2 : decode cX10_key 2 = .ok (.lconst 0, 1) := by decide +kernel
theorem dX10_key_3 : decode cX10_key 3 = .ok (.lconst 1, 1) := by decide +kernel
theorem dX10_key_4 : decode cX10_key 4 = .ok (.invokestatic 62, 3) := by decide +kernel
theorem dX10_key_7 : decode cX10_key 7 = .ok (.ifCond .ne 6, 3) := by decide +kernel
theorem dX10_key_10 : decode cX10_key 10 = .ok (.bipush (-2), 2) := by decide +kernel
theorem dX10_key_12 : decode cX10_key 12 = .ok (.ireturn, 1) := by decide +kernel
theorem dX10_key_13 : decode cX10_key 13 = .ok (.aload_n 0, 1) := by decide +kernel
theorem dX10_key_14 : decode cX10_key 14 = .ok (.iconst 0, 1) := by decide +kernel
theorem dX10_key_15 : decode cX10_key 15 = .ok (.invokevirtual 115, 3) := by decide +kernel
theorem dX10_key_18 : decode cX10_key 18 = .ok (.aload_n 0, 1) := by decide +kernel
theorem dX10_key_19 : decode cX10_key 19 = .ok (.iconst 0, 1) := by decide +kernel
theorem dX10_key_20 : decode cX10_key 20 = .ok (.invokevirtual 192, 3) := by decide +kernel
theorem dX10_key_23 : decode cX10_key 23 = .ok (.iload_n 1, 1) := by decide +kernel
theorem dX10_key_24 : decode cX10_key 24 = .ok (.ifCond .ne 31, 3) := by decide +kernel
theorem dX10_key_27 : decode cX10_key 27 = .ok (.iload_n 2, 1) := by decide +kernel
theorem dX10_key_28 : decode cX10_key 28 = .ok (.i2l, 1) := by decide +kernel
theorem dX10_key_29 : decode cX10_key 29 = .ok (.lconst 0, 1) := by decide +kernel
theorem dX10_key_30 : decode cX10_key 30 = .ok (.aload_n 0, 1) := by decide +kernel
theorem dX10_key_31 : decode cX10_key 31 = .ok (.getfield 119, 3) := by decide +kernel
theorem dX10_key_34 : decode cX10_key 34 = .ok (.iconst 1, 1) := by decide +kernel
theorem dX10_key_35 : decode cX10_key 35 = .ok (.isub, 1) := by decide +kernel
theorem dX10_key_36 : decode cX10_key 36 = .ok (.i2l, 1) := by decide +kernel
theorem dX10_key_37 : decode cX10_key 37 = .ok (.invokestatic 62, 3) := by decide +kernel
theorem dX10_key_40 : decode cX10_key 40 = .ok (.ifCond .eq 12, 3) := by decide +kernel
theorem dX10_key_43 : decode cX10_key 43 = .ok (.aload_n 0, 1) := by decide +kernel
theorem dX10_key_44 : decode cX10_key 44 = .ok (.getfield 26, 3) := by decide +kernel
theorem dX10_key_47 : decode cX10_key 47 = .ok (.iload_n 2, 1) := by decide +kernel
theorem dX10_key_48 : decode cX10_key 48 = .ok (.iaload, 1) := by decide +kernel
theorem dX10_key_49 : decode cX10_key 49 = .ok (.goto 5, 3) := by decide +kernel
theorem dX10_key_52 : decode cX10_key 52 = .ok (.bipush (-9), 2) := by decide +kernel
theorem dX10_key_54 : decode cX10_key 54 = .ok (.ireturn, 1) := by decide +kernel
theorem dX10_key_55 : decode cX10_key 55 = .ok (.iload_n 2, 1) := by decide +kernel
theorem dX10_key_56 : decode cX10_key 56 = .ok (.i2l, 1) := by decide +kernel
theorem dX10_key_57 : decode cX10_key 57 = .ok (.lconst 0, 1) := by decide +kernel
theorem dX10_key_58 : decode cX10_key 58 = .ok (.aload_n 0, 1) := by decide +kernel
theorem dX10_key_59 : decode cX10_key 59 = .ok (.getfield 154, 3) := by decide +kernel
theorem dX10_key_62 : decode cX10_key 62 = .ok (.iconst 1, 1) := by decide +kernel
theorem dX10_key_63 : decode cX10_key 63 = .ok (.isub, 1) := by decide +kernel
theorem dX10_key_64 : decode cX10_key 64 = .ok (.i2l, 1) := by decide +kernel
theorem dX10_key_65 : decode cX10_key 65 = .ok (.invokestatic 62, 3) := by decide +kernel
theorem dX10_key_68 : decode cX10_key 68 = .ok (.ifCond .eq 12, 3) := by decide +kernel
theorem dX10_key_71 : decode cX10_key 71 = .ok (.aload_n 0, 1) := by decide +kernel
theorem dX10_key_72 : decode cX10_key 72 = .ok (.getfield 32, 3) := by decide +kernel
theorem dX10_key_75 : decode cX10_key 75 = .ok (.iload_n 2, 1) := by decide +kernel
theorem dX10_key_76 : decode cX10_key 76 = .ok (.iaload, 1) := by decide +kernel
theorem dX10_key_77 : decode cX10_key 77 = .ok (.goto 5, 3) := by decide +kernel
theorem dX10_key_80 : decode cX10_key 80 = .ok (.bipush (-9), 2) := by decide +kernel
theorem dX10_key_82 : decode cX10_key 82 = .ok (.ireturn, 1) := by decide +kernel
theorem dX10_cell_0 : decode cX10_cell 0 = .ok (.aload_n 0, 1) := by decide +kernel
theorem dX10_cell_1 : decode cX10_cell 1 = .ok (.iconst 0, 1) := by decide +kernel
theorem dX10_cell_2 : decode cX10_cell 2 = .ok (.invokevirtual 115, 3) := by decide +kernel
theorem dX10_cell_5 : decode cX10_cell 5 = .ok (.aload_n 0, 1) := by decide +kernel
theorem dX10_cell_6 : decode cX10_cell 6 = .ok (.iconst 0, 1) := by decide +kernel
theorem dX10_cell_7 : decode cX10_cell 7 = .ok (.invokevirtual 192, 3) := by decide +kernel
theorem dX10_cell_10 : decode cX10_cell 10 = .ok (.aload_n 0, 1) := by decide +kernel
theorem dX10_cell_11 : decode cX10_cell 11 = .ok (.iconst 0, 1) := by decide +kernel
theorem dX10_cell_12 : decode cX10_cell 12 = .ok (.aload_n 0, 1) := by decide +kernel
theorem dX10_cell_13 : decode cX10_cell 13 = .ok (.iload_n 1, 1) := by decide +kernel
theorem dX10_cell_14 : decode cX10_cell 14 = .ok (.invokevirtual 195, 3) := by decide +kernel
theorem dX10_cell_17 : decode cX10_cell 17 = .ok (.aload_n 0, 1) := by decide +kernel
theorem dX10_cell_18 : decode cX10_cell 18 = .ok (.iload_n 2, 1) := by decide +kernel
theorem dX10_cell_19 : decode cX10_cell 19 = .ok (.invokevirtual 198, 3) := by decide +kernel
theorem dX10_cell_22 : decode cX10_cell 22 = .ok (.iand, 1) := by decide +kernel
theorem dX10_cell_23 : decode cX10_cell 23 = .ok (.invokevirtual 147, 3) := by decide +kernel
theorem dX10_cell_26 : decode cX10_cell 26 = .ok (.ireturn, 1) := by decide +kernel
theorem dX10_drill_0 : decode cX10_drill 0 = .ok (.aload_n 0, 1) := by decide +kernel
theorem dX10_drill_1 : decode cX10_drill 1 = .ok (.iconst 0, 1) := by decide +kernel
theorem dX10_drill_2 : decode cX10_drill 2 = .ok (.invokevirtual 115, 3) := by decide +kernel
theorem dX10_drill_5 : decode cX10_drill 5 = .ok (.aload_n 0, 1) := by decide +kernel
theorem dX10_drill_6 : decode cX10_drill 6 = .ok (.iconst 0, 1) := by decide +kernel
theorem dX10_drill_7 : decode cX10_drill 7 = .ok (.invokevirtual 192, 3) := by decide +kernel
theorem dX10_drill_10 : decode cX10_drill 10 = .ok (.aload_n 0, 1) := by decide +kernel
theorem dX10_drill_11 : decode cX10_drill 11 = .ok (.iload_n 1, 1) := by decide +kernel
theorem dX10_drill_12 : decode cX10_drill 12 = .ok (.invokevirtual 195, 3) := by decide +kernel
theorem dX10_drill_15 : decode cX10_drill 15 = .ok (.aload_n 0, 1) := by decide +kernel
theorem dX10_drill_16 : decode cX10_drill 16 = .ok (.iload_n 2, 1) := by decide +kernel
theorem dX10_drill_17 : decode cX10_drill 17 = .ok (.invokevirtual 198, 3) := by decide +kernel
theorem dX10_drill_20 : decode cX10_drill 20 = .ok (.iand, 1) := by decide +kernel
theorem dX10_drill_21 : decode cX10_drill 21 = .ok (.ireturn, 1) := by decide +kernel
theorem dX10_along_0 : decode cX10_along 0 = .ok (.iload_n 1, 1) := by decide +kernel
theorem dX10_along_1 : decode cX10_along 1 = .ok (.i2l, 1) := by decide +kernel
theorem dX10_along_2 : decode cX10_along 2 = .ok (.lconst 0, 1) := by decide +kernel
theorem dX10_along_3 : decode cX10_along 3 = .ok (.lconst 1, 1) := by decide +kernel
theorem dX10_along_4 : decode cX10_along 4 = .ok (.invokestatic 62, 3) := by decide +kernel
theorem dX10_along_7 : decode cX10_along 7 = .ok (.ifCond .ne 6, 3) := by decide +kernel
theorem dX10_along_10 : decode cX10_along 10 = .ok (.bipush (-2), 2) := by decide +kernel
theorem dX10_along_12 : decode cX10_along 12 = .ok (.ireturn, 1) := by decide +kernel
theorem dX10_along_13 : decode cX10_along 13 = .ok (.aload_n 0, 1) := by decide +kernel
theorem dX10_along_14 : decode cX10_along 14 = .ok (.iconst 0, 1) := by decide +kernel
theorem dX10_along_15 : decode cX10_along 15 = .ok (.invokevirtual 115, 3) := by decide +kernel
theorem dX10_along_18 : decode cX10_along 18 = .ok (.aload_n 0, 1) := by decide +kernel
theorem dX10_along_19 : decode cX10_along 19 = .ok (.iconst 0, 1) := by decide +kernel
theorem dX10_along_20 : decode cX10_along 20 = .ok (.invokevirtual 192, 3) := by decide +kernel
theorem dX10_along_23 : decode cX10_along 23 = .ok (.aload_n 0, 1) := by decide +kernel
theorem dX10_along_24 : decode cX10_along 24 = .ok (.iconst 0, 1) := by decide +kernel
theorem dX10_along_25 : decode cX10_along 25 = .ok (.iload_n 1, 1) := by decide +kernel
theorem dX10_along_26 : decode cX10_along 26 = .ok (.ifCond .ne 11, 3) := by decide +kernel
theorem dX10_along_29 : decode cX10_along 29 = .ok (.aload_n 0, 1) := by decide +kernel
theorem dX10_along_30 : decode cX10_along 30 = .ok (.iload_n 2, 1) := by decide +kernel
theorem dX10_along_31 : decode cX10_along 31 = .ok (.invokevirtual 195, 3) := by decide +kernel
theorem dX10_along_34 : decode cX10_along 34 = .ok (.goto 8, 3) := by decide +kernel
theorem dX10_along_37 : decode cX10_along 37 = .ok (.aload_n 0, 1) := by decide +kernel
theorem dX10_along_38 : decode cX10_along 38 = .ok (.iload_n 2, 1) := by decide +kernel
theorem dX10_along_39 : decode cX10_along 39 = .ok (.invokevirtual 198, 3) := by decide +kernel
theorem dX10_along_42 : decode cX10_along 42 = .ok (.invokevirtual 147, 3) := by decide +kernel
theorem dX10_along_45 : decode cX10_along 45 = .ok (.ireturn, 1) := by decide +kernel
theorem dX10_total_0 : decode cX10_total 0 = .ok (.aload_n 0, 1) := by decide +kernel
theorem dX10_total_1 : decode cX10_total 1 = .ok (.iconst 0, 1) := by decide +kernel
theorem dX10_total_2 : decode cX10_total 2 = .ok (.aload_n 0, 1) := by decide +kernel
theorem dX10_total_3 : decode cX10_total 3 = .ok (.iconst 0, 1) := by decide +kernel
theorem dX10_total_4 : decode cX10_total 4 = .ok (.invokevirtual 201, 3) := by decide +kernel
theorem dX10_total_7 : decode cX10_total 7 = .ok (.invokevirtual 147, 3) := by decide +kernel
theorem dX10_total_10 : decode cX10_total 10 = .ok (.ireturn, 1) := by decide +kernel
theorem dX10_layTrial_0 : decode cX10_layTrial 0 = .ok (.iconst 0, 1) := by decide +kernel
theorem dX10_layTrial_1 : decode cX10_layTrial 1 = .ok (.istore_n 1, 1) := by decide +kernel
theorem dX10_layTrial_2 : decode cX10_layTrial 2 = .ok (.iload_n 1, 1) := by decide +kernel
theorem dX10_layTrial_3 : decode cX10_layTrial 3 = .ok (.bipush 17, 2) := by decide +kernel
theorem dX10_layTrial_5 : decode cX10_layTrial 5 = .ok (.if_icmp .ge 24, 3) := by decide +kernel
theorem dX10_layTrial_8 : decode cX10_layTrial 8 = .ok (.aload_n 0, 1) := by decide +kernel
theorem dX10_layTrial_9 : decode cX10_layTrial 9 = .ok (.getfield 23, 3) := by decide +kernel
theorem dX10_layTrial_12 : decode cX10_layTrial 12 = .ok (.bipush 17, 2) := by decide +kernel
theorem dX10_layTrial_14 : decode cX10_layTrial 14 = .ok (.iload_n 1, 1) := by decide +kernel
theorem dX10_layTrial_15 : decode cX10_layTrial 15 = .ok (.iadd, 1) := by decide +kernel
theorem dX10_layTrial_16 : decode cX10_layTrial 16 = .ok (.aload_n 0, 1) := by decide +kernel
theorem dX10_layTrial_17 : decode cX10_layTrial 17 = .ok (.getfield 23, 3) := by decide +kernel
theorem dX10_layTrial_20 : decode cX10_layTrial 20 = .ok (.iload_n 1, 1) := by decide +kernel
theorem dX10_layTrial_21 : decode cX10_layTrial 21 = .ok (.iaload, 1) := by decide +kernel
theorem dX10_layTrial_22 : decode cX10_layTrial 22 = .ok (.iastore, 1) := by decide +kernel
theorem dX10_layTrial_23 : decode cX10_layTrial 23 = .ok (.iinc 1 1, 3) := by decide +kernel
theorem dX10_layTrial_26 : decode cX10_layTrial 26 = .ok (.goto (-24), 3) := by decide +kernel
theorem dX10_layTrial_29 : decode cX10_layTrial 29 = .ok (.return_, 1) := by decide +kernel
theorem dX10_would_0 : decode cX10_would 0 = .ok (.iload_n 1, 1) := by decide +kernel
theorem dX10_would_1 : decode cX10_would 1 = .ok (.iload_n 2, 1) := by decide +kernel
theorem dX10_would_2 : decode cX10_would 2 = .ok (.iload_n 3, 1) := by decide +kernel
theorem dX10_would_3 : decode cX10_would 3 = .ok (.invokestatic 169, 3) := by decide +kernel
theorem dX10_would_6 : decode cX10_would 6 = .ok (.ifCond .eq 14, 3) := by decide +kernel
theorem dX10_would_9 : decode cX10_would 9 = .ok (.iload 4, 2) := by decide +kernel
theorem dX10_would_11 : decode cX10_would 11 = .ok (.i2l, 1) := by decide +kernel
theorem dX10_would_12 : decode cX10_would 12 = .ok (.lconst 0, 1) := by decide +kernel
theorem dX10_would_13 : decode cX10_would 13 = .ok (.lconst 1, 1) := by decide +kernel
theorem dX10_would_14 : decode cX10_would 14 = .ok (.invokestatic 62, 3) := by decide +kernel
theorem dX10_would_17 : decode cX10_would 17 = .ok (.ifCond .ne 6, 3) := by decide +kernel
theorem dX10_would_20 : decode cX10_would 20 = .ok (.bipush (-2), 2) := by decide +kernel
theorem dX10_would_22 : decode cX10_would 22 = .ok (.ireturn, 1) := by decide +kernel
theorem dX10_would_23 : decode cX10_would 23 = .ok (.aload_n 0, 1) := by decide +kernel
theorem dX10_would_24 : decode cX10_would 24 = .ok (.iconst 0, 1) := by decide +kernel
theorem dX10_would_25 : decode cX10_would 25 = .ok (.invokevirtual 127, 3) := by decide +kernel
theorem dX10_would_28 : decode cX10_would 28 = .ok (.bipush 16, 2) := by decide +kernel
theorem dX10_would_30 : decode cX10_would 30 = .ok (.if_icmp .ne 6, 3) := by decide +kernel
theorem dX10_would_33 : decode cX10_would 33 = .ok (.bipush (-4), 2) := by decide +kernel
theorem dX10_would_35 : decode cX10_would 35 = .ok (.ireturn, 1) := by decide +kernel
theorem dX10_would_36 : decode cX10_would 36 = .ok (.aload_n 0, 1) := by decide +kernel
theorem dX10_would_37 : decode cX10_would 37 = .ok (.invokevirtual 204, 3) := by decide +kernel
theorem dX10_would_40 : decode cX10_would 40 = .ok (.aload_n 0, 1) := by decide +kernel
theorem dX10_would_41 : decode cX10_would 41 = .ok (.iconst 1, 1) := by decide +kernel
theorem dX10_would_42 : decode cX10_would 42 = .ok (.iload_n 1, 1) := by decide +kernel
theorem dX10_would_43 : decode cX10_would 43 = .ok (.iload_n 2, 1) := by decide +kernel
theorem dX10_would_44 : decode cX10_would 44 = .ok (.iload_n 3, 1) := by decide +kernel
theorem dX10_would_45 : decode cX10_would 45 = .ok (.invokestatic 176, 3) := by decide +kernel
theorem dX10_would_48 : decode cX10_would 48 = .ok (.invokevirtual 179, 3) := by decide +kernel
theorem dX10_would_51 : decode cX10_would 51 = .ok (.aload_n 0, 1) := by decide +kernel
theorem dX10_would_52 : decode cX10_would 52 = .ok (.iconst 1, 1) := by decide +kernel
theorem dX10_would_53 : decode cX10_would 53 = .ok (.invokevirtual 115, 3) := by decide +kernel
theorem dX10_would_56 : decode cX10_would 56 = .ok (.iload 4, 2) := by decide +kernel
theorem dX10_would_58 : decode cX10_would 58 = .ok (.ifCond .ne 16, 3) := by decide +kernel
theorem dX10_would_61 : decode cX10_would 61 = .ok (.aload_n 0, 1) := by decide +kernel
theorem dX10_would_62 : decode cX10_would 62 = .ok (.iconst 1, 1) := by decide +kernel
theorem dX10_would_63 : decode cX10_would 63 = .ok (.aload_n 0, 1) := by decide +kernel
theorem dX10_would_64 : decode cX10_would 64 = .ok (.iconst 1, 1) := by decide +kernel
theorem dX10_would_65 : decode cX10_would 65 = .ok (.invokevirtual 201, 3) := by decide +kernel
theorem dX10_would_68 : decode cX10_would 68 = .ok (.invokevirtual 147, 3) := by decide +kernel
theorem dX10_would_71 : decode cX10_would 71 = .ok (.goto 7, 3) := by decide +kernel
theorem dX10_would_74 : decode cX10_would 74 = .ok (.aload_n 0, 1) := by decide +kernel
theorem dX10_would_75 : decode cX10_would 75 = .ok (.getfield 119, 3) := by decide +kernel
theorem dX10_would_78 : decode cX10_would 78 = .ok (.ireturn, 1) := by decide +kernel
theorem dX10_best_0 : decode cX10_best 0 = .ok (.iload_n 1, 1) := by decide +kernel
theorem dX10_best_1 : decode cX10_best 1 = .ok (.i2l, 1) := by decide +kernel
theorem dX10_best_2 : decode cX10_best 2 = .ok (.lconst 0, 1) := by decide +kernel
theorem dX10_best_3 : decode cX10_best 3 = .ok (.lconst 1, 1) := by decide +kernel
theorem dX10_best_4 : decode cX10_best 4 = .ok (.invokestatic 62, 3) := by decide +kernel
theorem dX10_best_7 : decode cX10_best 7 = .ok (.ifCond .ne 6, 3) := by decide +kernel
theorem dX10_best_10 : decode cX10_best 10 = .ok (.bipush (-2), 2) := by decide +kernel
theorem dX10_best_12 : decode cX10_best 12 = .ok (.ireturn, 1) := by decide +kernel
theorem dX10_best_13 : decode cX10_best 13 = .ok (.bipush (-9), 2) := by decide +kernel
theorem dX10_best_15 : decode cX10_best 15 = .ok (.istore_n 2, 1) := by decide +kernel
theorem dX10_best_16 : decode cX10_best 16 = .ok (.bipush (-9), 2) := by decide +kernel
theorem dX10_best_18 : decode cX10_best 18 = .ok (.istore_n 3, 1) := by decide +kernel
theorem dX10_best_19 : decode cX10_best 19 = .ok (.iconst 0, 1) := by decide +kernel
theorem dX10_best_20 : decode cX10_best 20 = .ok (.istore 4, 2) := by decide +kernel
theorem dX10_best_22 : decode cX10_best 22 = .ok (.iload 4, 2) := by decide +kernel
theorem dX10_best_24 : decode cX10_best 24 = .ok (.aload_n 0, 1) := by decide +kernel
theorem dX10_best_25 : decode cX10_best 25 = .ok (.iconst 0, 1) := by decide +kernel
theorem dX10_best_26 : decode cX10_best 26 = .ok (.invokevirtual 127, 3) := by decide +kernel
theorem dX10_best_29 : decode cX10_best 29 = .ok (.if_icmp .ge 75, 3) := by decide +kernel
theorem dX10_best_32 : decode cX10_best 32 = .ok (.aload_n 0, 1) := by decide +kernel
theorem dX10_best_33 : decode cX10_best 33 = .ok (.invokevirtual 204, 3) := by decide +kernel
theorem dX10_best_36 : decode cX10_best 36 = .ok (.aload_n 0, 1) := by decide +kernel
theorem dX10_best_37 : decode cX10_best 37 = .ok (.iconst 1, 1) := by decide +kernel
theorem dX10_best_38 : decode cX10_best 38 = .ok (.iload 4, 2) := by decide +kernel
theorem dX10_best_40 : decode cX10_best 40 = .ok (.invokevirtual 186, 3) := by decide +kernel
theorem dX10_best_43 : decode cX10_best 43 = .ok (.aload_n 0, 1) := by decide +kernel
theorem dX10_best_44 : decode cX10_best 44 = .ok (.iconst 1, 1) := by decide +kernel
theorem dX10_best_45 : decode cX10_best 45 = .ok (.aload_n 0, 1) := by decide +kernel
theorem dX10_best_46 : decode cX10_best 46 = .ok (.iconst 1, 1) := by decide +kernel
theorem dX10_best_47 : decode cX10_best 47 = .ok (.invokevirtual 201, 3) := by decide +kernel
theorem dX10_best_50 : decode cX10_best 50 = .ok (.invokevirtual 147, 3) := by decide +kernel
theorem dX10_best_53 : decode cX10_best 53 = .ok (.istore 5, 2) := by decide +kernel
theorem dX10_best_55 : decode cX10_best 55 = .ok (.iload_n 2, 1) := by decide +kernel
theorem dX10_best_56 : decode cX10_best 56 = .ok (.bipush (-9), 2) := by decide +kernel
theorem dX10_best_58 : decode cX10_best 58 = .ok (.if_icmp .eq 9, 3) := by decide +kernel
theorem dX10_best_61 : decode cX10_best 61 = .ok (.iload 5, 2) := by decide +kernel
theorem dX10_best_63 : decode cX10_best 63 = .ok (.iload_n 3, 1) := by decide +kernel
theorem dX10_best_64 : decode cX10_best 64 = .ok (.if_icmp .le 7, 3) := by decide +kernel
theorem dX10_best_67 : decode cX10_best 67 = .ok (.iconst 1, 1) := by decide +kernel
theorem dX10_best_68 : decode cX10_best 68 = .ok (.goto 4, 3) := by decide +kernel
theorem dX10_best_71 : decode cX10_best 71 = .ok (.iconst 0, 1) := by decide +kernel
theorem dX10_best_72 : decode cX10_best 72 = .ok (.istore 6, 2) := by decide +kernel
theorem dX10_best_74 : decode cX10_best 74 = .ok (.iload 6, 2) := by decide +kernel
theorem dX10_best_76 : decode cX10_best 76 = .ok (.ifCond .eq 8, 3) := by decide +kernel
theorem dX10_best_79 : decode cX10_best 79 = .ok (.iload 4, 2) := by decide +kernel
theorem dX10_best_81 : decode cX10_best 81 = .ok (.goto 4, 3) := by decide +kernel
theorem dX10_best_84 : decode cX10_best 84 = .ok (.iload_n 2, 1) := by decide +kernel
theorem dX10_best_85 : decode cX10_best 85 = .ok (.istore_n 2, 1) := by decide +kernel
theorem dX10_best_86 : decode cX10_best 86 = .ok (.iload 6, 2) := by decide +kernel
theorem dX10_best_88 : decode cX10_best 88 = .ok (.ifCond .eq 8, 3) := by decide +kernel
theorem dX10_best_91 : decode cX10_best 91 = .ok (.iload 5, 2) := by decide +kernel
theorem dX10_best_93 : decode cX10_best 93 = .ok (.goto 4, 3) := by decide +kernel
theorem dX10_best_96 : decode cX10_best 96 = .ok (.iload_n 3, 1) := by decide +kernel
theorem dX10_best_97 : decode cX10_best 97 = .ok (.istore_n 3, 1) := by decide +kernel
theorem dX10_best_98 : decode cX10_best 98 = .ok (.iinc 4 1, 3) := by decide +kernel
theorem dX10_best_101 : decode cX10_best 101 = .ok (.goto (-79), 3) := by decide +kernel
theorem dX10_best_104 : decode cX10_best 104 = .ok (.iload_n 1, 1) := by decide +kernel
theorem dX10_best_105 : decode cX10_best 105 = .ok (.ifCond .ne 7, 3) := by decide +kernel
theorem dX10_best_108 : decode cX10_best 108 = .ok (.iload_n 2, 1) := by decide +kernel
theorem dX10_best_109 : decode cX10_best 109 = .ok (.goto 4, 3) := by decide +kernel
theorem dX10_best_112 : decode cX10_best 112 = .ok (.iload_n 3, 1) := by decide +kernel
theorem dX10_best_113 : decode cX10_best 113 = .ok (.ireturn, 1) := by decide +kernel
theorem dX10_tryThing_0 : decode cX10_tryThing 0 = .ok (.iload_n 1, 1) := by decide +kernel
theorem dX10_tryThing_1 : decode cX10_tryThing 1 = .ok (.tableswitch 272 1 6 #[39, 96, 130, 177, 206, 248], 39) := by decide +kernel
theorem dX10_tryThing_40 : decode cX10_tryThing 40 = .ok (.iload_n 2, 1) := by decide +kernel
theorem dX10_tryThing_41 : decode cX10_tryThing 41 = .ok (.iload_n 3, 1) := by decide +kernel
theorem dX10_tryThing_42 : decode cX10_tryThing 42 = .ok (.bipush 10, 2) := by decide +kernel
theorem dX10_tryThing_44 : decode cX10_tryThing 44 = .ok (.idiv, 1) := by decide +kernel
theorem dX10_tryThing_45 : decode cX10_tryThing 45 = .ok (.iconst 0, 1) := by decide +kernel
theorem dX10_tryThing_46 : decode cX10_tryThing 46 = .ok (.invokestatic 169, 3) := by decide +kernel
theorem dX10_tryThing_49 : decode cX10_tryThing 49 = .ok (.ifCond .eq 17, 3) := by decide +kernel
theorem dX10_tryThing_52 : decode cX10_tryThing 52 = .ok (.aload_n 0, 1) := by decide +kernel
theorem dX10_tryThing_53 : decode cX10_tryThing 53 = .ok (.iconst 1, 1) := by decide +kernel
theorem dX10_tryThing_54 : decode cX10_tryThing 54 = .ok (.invokevirtual 127, 3) := by decide +kernel
theorem dX10_tryThing_57 : decode cX10_tryThing 57 = .ok (.bipush 16, 2) := by decide +kernel
theorem dX10_tryThing_59 : decode cX10_tryThing 59 = .ok (.if_icmp .ge 7, 3) := by decide +kernel
theorem dX10_tryThing_62 : decode cX10_tryThing 62 = .ok (.iconst 1, 1) := by decide +kernel
theorem dX10_tryThing_63 : decode cX10_tryThing 63 = .ok (.goto 4, 3) := by decide +kernel
theorem dX10_tryThing_66 : decode cX10_tryThing 66 = .ok (.iconst 0, 1) := by decide +kernel
theorem dX10_tryThing_67 : decode cX10_tryThing 67 = .ok (.istore 4, 2) := by decide +kernel
theorem dX10_tryThing_69 : decode cX10_tryThing 69 = .ok (.iload 4, 2) := by decide +kernel
theorem dX10_tryThing_71 : decode cX10_tryThing 71 = .ok (.ifCond .eq 23, 3) := by decide +kernel
theorem dX10_tryThing_74 : decode cX10_tryThing 74 = .ok (.aload_n 0, 1) := by decide +kernel
theorem dX10_tryThing_75 : decode cX10_tryThing 75 = .ok (.iconst 1, 1) := by decide +kernel
theorem dX10_tryThing_76 : decode cX10_tryThing 76 = .ok (.iload_n 2, 1) := by decide +kernel
theorem dX10_tryThing_77 : decode cX10_tryThing 77 = .ok (.iload_n 3, 1) := by decide +kernel
theorem dX10_tryThing_78 : decode cX10_tryThing 78 = .ok (.bipush 10, 2) := by decide +kernel
theorem dX10_tryThing_80 : decode cX10_tryThing 80 = .ok (.idiv, 1) := by decide +kernel
theorem dX10_tryThing_81 : decode cX10_tryThing 81 = .ok (.bipush 11, 2) := by decide +kernel
theorem dX10_tryThing_83 : decode cX10_tryThing 83 = .ok (.iload_n 3, 1) := by decide +kernel
theorem dX10_tryThing_84 : decode cX10_tryThing 84 = .ok (.bipush 10, 2) := by decide +kernel
theorem dX10_tryThing_86 : decode cX10_tryThing 86 = .ok (.irem, 1) := by decide +kernel
theorem dX10_tryThing_87 : decode cX10_tryThing 87 = .ok (.imul, 1) := by decide +kernel
theorem dX10_tryThing_88 : decode cX10_tryThing 88 = .ok (.invokestatic 176, 3) := by decide +kernel
theorem dX10_tryThing_91 : decode cX10_tryThing 91 = .ok (.invokevirtual 179, 3) := by decide +kernel
theorem dX10_tryThing_94 : decode cX10_tryThing 94 = .ok (.iload 4, 2) := by decide +kernel
theorem dX10_tryThing_96 : decode cX10_tryThing 96 = .ok (.ireturn, 1) := by decide +kernel
theorem dX10_tryThing_97 : decode cX10_tryThing 97 = .ok (.iload_n 2, 1) := by decide +kernel
theorem dX10_tryThing_98 : decode cX10_tryThing 98 = .ok (.ifCond .ne 16, 3) := by decide +kernel
theorem dX10_tryThing_101 : decode cX10_tryThing 101 = .ok (.iload_n 3, 1) := by decide +kernel
theorem dX10_tryThing_102 : decode cX10_tryThing 102 = .ok (.aload_n 0, 1) := by decide +kernel
theorem dX10_tryThing_103 : decode cX10_tryThing 103 = .ok (.iconst 1, 1) := by decide +kernel
theorem dX10_tryThing_104 : decode cX10_tryThing 104 = .ok (.invokevirtual 127, 3) := by decide +kernel
theorem dX10_tryThing_107 : decode cX10_tryThing 107 = .ok (.if_icmp .ge 7, 3) := by decide +kernel
theorem dX10_tryThing_110 : decode cX10_tryThing 110 = .ok (.iconst 1, 1) := by decide +kernel
theorem dX10_tryThing_111 : decode cX10_tryThing 111 = .ok (.goto 4, 3) := by decide +kernel
theorem dX10_tryThing_114 : decode cX10_tryThing 114 = .ok (.iconst 0, 1) := by decide +kernel
theorem dX10_tryThing_115 : decode cX10_tryThing 115 = .ok (.istore 5, 2) := by decide +kernel
theorem dX10_tryThing_117 : decode cX10_tryThing 117 = .ok (.iload 5, 2) := by decide +kernel
theorem dX10_tryThing_119 : decode cX10_tryThing 119 = .ok (.ifCond .eq 9, 3) := by decide +kernel
theorem dX10_tryThing_122 : decode cX10_tryThing 122 = .ok (.aload_n 0, 1) := by decide +kernel
theorem dX10_tryThing_123 : decode cX10_tryThing 123 = .ok (.iconst 1, 1) := by decide +kernel
theorem dX10_tryThing_124 : decode cX10_tryThing 124 = .ok (.iload_n 3, 1) := by decide +kernel
theorem dX10_tryThing_125 : decode cX10_tryThing 125 = .ok (.invokevirtual 186, 3) := by decide +kernel
theorem dX10_tryThing_128 : decode cX10_tryThing 128 = .ok (.iload 5, 2) := by decide +kernel
theorem dX10_tryThing_130 : decode cX10_tryThing 130 = .ok (.ireturn, 1) := by decide +kernel
theorem dX10_tryThing_131 : decode cX10_tryThing 131 = .ok (.iload_n 3, 1) := by decide +kernel
theorem dX10_tryThing_132 : decode cX10_tryThing 132 = .ok (.aload_n 0, 1) := by decide +kernel
theorem dX10_tryThing_133 : decode cX10_tryThing 133 = .ok (.iconst 1, 1) := by decide +kernel
theorem dX10_tryThing_134 : decode cX10_tryThing 134 = .ok (.invokevirtual 127, 3) := by decide +kernel
theorem dX10_tryThing_137 : decode cX10_tryThing 137 = .ok (.if_icmp .ge 7, 3) := by decide +kernel
theorem dX10_tryThing_140 : decode cX10_tryThing 140 = .ok (.iconst 1, 1) := by decide +kernel
theorem dX10_tryThing_141 : decode cX10_tryThing 141 = .ok (.goto 4, 3) := by decide +kernel
theorem dX10_tryThing_144 : decode cX10_tryThing 144 = .ok (.iconst 0, 1) := by decide +kernel
theorem dX10_tryThing_145 : decode cX10_tryThing 145 = .ok (.istore 6, 2) := by decide +kernel
theorem dX10_tryThing_147 : decode cX10_tryThing 147 = .ok (.iload 6, 2) := by decide +kernel
theorem dX10_tryThing_149 : decode cX10_tryThing 149 = .ok (.ifCond .eq 26, 3) := by decide +kernel
theorem dX10_tryThing_152 : decode cX10_tryThing 152 = .ok (.aload_n 0, 1) := by decide +kernel
theorem dX10_tryThing_153 : decode cX10_tryThing 153 = .ok (.getfield 23, 3) := by decide +kernel
theorem dX10_tryThing_156 : decode cX10_tryThing 156 = .ok (.bipush 18, 2) := by decide +kernel
theorem dX10_tryThing_158 : decode cX10_tryThing 158 = .ok (.iload_n 3, 1) := by decide +kernel
theorem dX10_tryThing_159 : decode cX10_tryThing 159 = .ok (.iadd, 1) := by decide +kernel
theorem dX10_tryThing_160 : decode cX10_tryThing 160 = .ok (.dup2, 1) := by decide +kernel
theorem dX10_tryThing_161 : decode cX10_tryThing 161 = .ok (.iaload, 1) := by decide +kernel
theorem dX10_tryThing_162 : decode cX10_tryThing 162 = .ok (.bipush 11, 2) := by decide +kernel
theorem dX10_tryThing_164 : decode cX10_tryThing 164 = .ok (.iload_n 2, 1) := by decide +kernel
theorem dX10_tryThing_165 : decode cX10_tryThing 165 = .ok (.imul, 1) := by decide +kernel
theorem dX10_tryThing_166 : decode cX10_tryThing 166 = .ok (.aload_n 0, 1) := by decide +kernel
theorem dX10_tryThing_167 : decode cX10_tryThing 167 = .ok (.iconst 1, 1) := by decide +kernel
theorem dX10_tryThing_168 : decode cX10_tryThing 168 = .ok (.iload_n 3, 1) := by decide +kernel
theorem dX10_tryThing_169 : decode cX10_tryThing 169 = .ok (.invokevirtual 134, 3) := by decide +kernel
theorem dX10_tryThing_172 : decode cX10_tryThing 172 = .ok (.isub, 1) := by decide +kernel
theorem dX10_tryThing_173 : decode cX10_tryThing 173 = .ok (.iadd, 1) := by decide +kernel
theorem dX10_tryThing_174 : decode cX10_tryThing 174 = .ok (.iastore, 1) := by decide +kernel
theorem dX10_tryThing_175 : decode cX10_tryThing 175 = .ok (.iload 6, 2) := by decide +kernel
theorem dX10_tryThing_177 : decode cX10_tryThing 177 = .ok (.ireturn, 1) := by decide +kernel
theorem dX10_tryThing_178 : decode cX10_tryThing 178 = .ok (.aload_n 0, 1) := by decide +kernel
theorem dX10_tryThing_179 : decode cX10_tryThing 179 = .ok (.iconst 1, 1) := by decide +kernel
theorem dX10_tryThing_180 : decode cX10_tryThing 180 = .ok (.invokevirtual 115, 3) := by decide +kernel
theorem dX10_tryThing_183 : decode cX10_tryThing 183 = .ok (.iload_n 2, 1) := by decide +kernel
theorem dX10_tryThing_184 : decode cX10_tryThing 184 = .ok (.ifCond .ne 21, 3) := by decide +kernel
theorem dX10_tryThing_187 : decode cX10_tryThing 187 = .ok (.iload_n 3, 1) := by decide +kernel
theorem dX10_tryThing_188 : decode cX10_tryThing 188 = .ok (.bipush 10, 2) := by decide +kernel
theorem dX10_tryThing_190 : decode cX10_tryThing 190 = .ok (.if_icmp .ge 15, 3) := by decide +kernel
theorem dX10_tryThing_193 : decode cX10_tryThing 193 = .ok (.aload_n 0, 1) := by decide +kernel
theorem dX10_tryThing_194 : decode cX10_tryThing 194 = .ok (.getfield 119, 3) := by decide +kernel
theorem dX10_tryThing_197 : decode cX10_tryThing 197 = .ok (.iload_n 3, 1) := by decide +kernel
theorem dX10_tryThing_198 : decode cX10_tryThing 198 = .ok (.if_icmp .lt 7, 3) := by decide +kernel
theorem dX10_tryThing_201 : decode cX10_tryThing 201 = .ok (.iconst 1, 1) := by decide +kernel
theorem dX10_tryThing_202 : decode cX10_tryThing 202 = .ok (.goto 4, 3) := by decide +kernel
theorem dX10_tryThing_205 : decode cX10_tryThing 205 = .ok (.iconst 0, 1) := by decide +kernel
theorem dX10_tryThing_206 : decode cX10_tryThing 206 = .ok (.ireturn, 1) := by decide +kernel
theorem dX10_tryThing_207 : decode cX10_tryThing 207 = .ok (.aload_n 0, 1) := by decide +kernel
theorem dX10_tryThing_208 : decode cX10_tryThing 208 = .ok (.iconst 1, 1) := by decide +kernel
theorem dX10_tryThing_209 : decode cX10_tryThing 209 = .ok (.invokevirtual 115, 3) := by decide +kernel
theorem dX10_tryThing_212 : decode cX10_tryThing 212 = .ok (.aload_n 0, 1) := by decide +kernel
theorem dX10_tryThing_213 : decode cX10_tryThing 213 = .ok (.iconst 1, 1) := by decide +kernel
theorem dX10_tryThing_214 : decode cX10_tryThing 214 = .ok (.invokevirtual 192, 3) := by decide +kernel
theorem dX10_tryThing_217 : decode cX10_tryThing 217 = .ok (.aload_n 0, 1) := by decide +kernel
theorem dX10_tryThing_218 : decode cX10_tryThing 218 = .ok (.iconst 1, 1) := by decide +kernel
theorem dX10_tryThing_219 : decode cX10_tryThing 219 = .ok (.aload_n 0, 1) := by decide +kernel
theorem dX10_tryThing_220 : decode cX10_tryThing 220 = .ok (.iload_n 2, 1) := by decide +kernel
theorem dX10_tryThing_221 : decode cX10_tryThing 221 = .ok (.invokevirtual 195, 3) := by decide +kernel
theorem dX10_tryThing_224 : decode cX10_tryThing 224 = .ok (.aload_n 0, 1) := by decide +kernel
theorem dX10_tryThing_225 : decode cX10_tryThing 225 = .ok (.iload_n 3, 1) := by decide +kernel
theorem dX10_tryThing_226 : decode cX10_tryThing 226 = .ok (.bipush 10, 2) := by decide +kernel
theorem dX10_tryThing_228 : decode cX10_tryThing 228 = .ok (.idiv, 1) := by decide +kernel
theorem dX10_tryThing_229 : decode cX10_tryThing 229 = .ok (.invokevirtual 198, 3) := by decide +kernel
theorem dX10_tryThing_232 : decode cX10_tryThing 232 = .ok (.iand, 1) := by decide +kernel
theorem dX10_tryThing_233 : decode cX10_tryThing 233 = .ok (.invokevirtual 147, 3) := by decide +kernel
theorem dX10_tryThing_236 : decode cX10_tryThing 236 = .ok (.iload_n 3, 1) := by decide +kernel
theorem dX10_tryThing_237 : decode cX10_tryThing 237 = .ok (.bipush 10, 2) := by decide +kernel
theorem dX10_tryThing_239 : decode cX10_tryThing 239 = .ok (.irem, 1) := by decide +kernel
theorem dX10_tryThing_240 : decode cX10_tryThing 240 = .ok (.if_icmp .lt 7, 3) := by decide +kernel
theorem dX10_tryThing_243 : decode cX10_tryThing 243 = .ok (.iconst 1, 1) := by decide +kernel
theorem dX10_tryThing_244 : decode cX10_tryThing 244 = .ok (.goto 4, 3) := by decide +kernel
theorem dX10_tryThing_247 : decode cX10_tryThing 247 = .ok (.iconst 0, 1) := by decide +kernel
theorem dX10_tryThing_248 : decode cX10_tryThing 248 = .ok (.ireturn, 1) := by decide +kernel
theorem dX10_tryThing_249 : decode cX10_tryThing 249 = .ok (.iload_n 2, 1) := by decide +kernel
theorem dX10_tryThing_250 : decode cX10_tryThing 250 = .ok (.ifCond .ne 21, 3) := by decide +kernel
theorem dX10_tryThing_253 : decode cX10_tryThing 253 = .ok (.aload_n 0, 1) := by decide +kernel
theorem dX10_tryThing_254 : decode cX10_tryThing 254 = .ok (.iconst 1, 1) := by decide +kernel
theorem dX10_tryThing_255 : decode cX10_tryThing 255 = .ok (.aload_n 0, 1) := by decide +kernel
theorem dX10_tryThing_256 : decode cX10_tryThing 256 = .ok (.iconst 1, 1) := by decide +kernel
theorem dX10_tryThing_257 : decode cX10_tryThing 257 = .ok (.invokevirtual 201, 3) := by decide +kernel
theorem dX10_tryThing_260 : decode cX10_tryThing 260 = .ok (.invokevirtual 147, 3) := by decide +kernel
theorem dX10_tryThing_263 : decode cX10_tryThing 263 = .ok (.iload_n 3, 1) := by decide +kernel
theorem dX10_tryThing_264 : decode cX10_tryThing 264 = .ok (.if_icmp .lt 7, 3) := by decide +kernel
theorem dX10_tryThing_267 : decode cX10_tryThing 267 = .ok (.iconst 1, 1) := by decide +kernel
theorem dX10_tryThing_268 : decode cX10_tryThing 268 = .ok (.goto 4, 3) := by decide +kernel
theorem dX10_tryThing_271 : decode cX10_tryThing 271 = .ok (.iconst 0, 1) := by decide +kernel
theorem dX10_tryThing_272 : decode cX10_tryThing 272 = .ok (.ireturn, 1) := by decide +kernel
theorem dX10_tryThing_273 : decode cX10_tryThing 273 = .ok (.iconst 0, 1) := by decide +kernel
theorem dX10_tryThing_274 : decode cX10_tryThing 274 = .ok (.ireturn, 1) := by decide +kernel
theorem dX10_tenThousandTo_0 : decode cX10_tenThousandTo 0 = .ok (.lconst 1, 1) := by decide +kernel
theorem dX10_tenThousandTo_1 : decode cX10_tenThousandTo 1 = .ok (.lstore_n 1, 1) := by decide +kernel
theorem dX10_tenThousandTo_2 : decode cX10_tenThousandTo 2 = .ok (.iconst 0, 1) := by decide +kernel
theorem dX10_tenThousandTo_3 : decode cX10_tenThousandTo 3 = .ok (.istore_n 3, 1) := by decide +kernel
theorem dX10_tenThousandTo_4 : decode cX10_tenThousandTo 4 = .ok (.iload_n 3, 1) := by decide +kernel
theorem dX10_tenThousandTo_5 : decode cX10_tenThousandTo 5 = .ok (.iload_n 0, 1) := by decide +kernel
theorem dX10_tenThousandTo_6 : decode cX10_tenThousandTo 6 = .ok (.if_icmp .ge 15, 3) := by decide +kernel
theorem dX10_tenThousandTo_9 : decode cX10_tenThousandTo 9 = .ok (.lload_n 1, 1) := by decide +kernel
theorem dX10_tenThousandTo_10 : decode cX10_tenThousandTo 10 = .ok (.ldc2_w 207, 3) := by decide +kernel
theorem dX10_tenThousandTo_13 : decode cX10_tenThousandTo 13 = .ok (.lmul, 1) := by decide +kernel
theorem dX10_tenThousandTo_14 : decode cX10_tenThousandTo 14 = .ok (.lstore_n 1, 1) := by decide +kernel
theorem dX10_tenThousandTo_15 : decode cX10_tenThousandTo 15 = .ok (.iinc 3 1, 3) := by decide +kernel
theorem dX10_tenThousandTo_18 : decode cX10_tenThousandTo 18 = .ok (.goto (-14), 3) := by decide +kernel
theorem dX10_tenThousandTo_21 : decode cX10_tenThousandTo 21 = .ok (.lload_n 1, 1) := by decide +kernel
theorem dX10_tenThousandTo_22 : decode cX10_tenThousandTo 22 = .ok (.lreturn, 1) := by decide +kernel
theorem dX10_judge_0 : decode cX10_judge 0 = .ok (.iload_n 1, 1) := by decide +kernel
theorem dX10_judge_1 : decode cX10_judge 1 = .ok (.i2l, 1) := by decide +kernel
theorem dX10_judge_2 : decode cX10_judge 2 = .ok (.lconst 1, 1) := by decide +kernel
theorem dX10_judge_3 : decode cX10_judge 3 = .ok (.ldc2_w 165, 3) := by decide +kernel
theorem dX10_judge_6 : decode cX10_judge 6 = .ok (.invokestatic 62, 3) := by decide +kernel
theorem dX10_judge_9 : decode cX10_judge 9 = .ok (.ifCond .eq 17, 3) := by decide +kernel
theorem dX10_judge_12 : decode cX10_judge 12 = .ok (.lload_n 2, 1) := by decide +kernel
theorem dX10_judge_13 : decode cX10_judge 13 = .ok (.lconst 0, 1) := by decide +kernel
theorem dX10_judge_14 : decode cX10_judge 14 = .ok (.iload_n 1, 1) := by decide +kernel
theorem dX10_judge_15 : decode cX10_judge 15 = .ok (.invokestatic 209, 3) := by decide +kernel
theorem dX10_judge_18 : decode cX10_judge 18 = .ok (.lconst 1, 1) := by decide +kernel
theorem dX10_judge_19 : decode cX10_judge 19 = .ok (.lsub, 1) := by decide +kernel
theorem dX10_judge_20 : decode cX10_judge 20 = .ok (.invokestatic 62, 3) := by decide +kernel
theorem dX10_judge_23 : decode cX10_judge 23 = .ok (.ifCond .ne 6, 3) := by decide +kernel
theorem dX10_judge_26 : decode cX10_judge 26 = .ok (.bipush (-2), 2) := by decide +kernel
theorem dX10_judge_28 : decode cX10_judge 28 = .ok (.ireturn, 1) := by decide +kernel
theorem dX10_judge_29 : decode cX10_judge 29 = .ok (.aload_n 0, 1) := by decide +kernel
theorem dX10_judge_30 : decode cX10_judge 30 = .ok (.invokevirtual 204, 3) := by decide +kernel
theorem dX10_judge_33 : decode cX10_judge 33 = .ok (.iconst 0, 1) := by decide +kernel
theorem dX10_judge_34 : decode cX10_judge 34 = .ok (.istore 4, 2) := by decide +kernel
theorem dX10_judge_36 : decode cX10_judge 36 = .ok (.iload 4, 2) := by decide +kernel
theorem dX10_judge_38 : decode cX10_judge 38 = .ok (.iload_n 1, 1) := by decide +kernel
theorem dX10_judge_39 : decode cX10_judge 39 = .ok (.if_icmp .ge 56, 3) := by decide +kernel
theorem dX10_judge_42 : decode cX10_judge 42 = .ok (.lload_n 2, 1) := by decide +kernel
theorem dX10_judge_43 : decode cX10_judge 43 = .ok (.iload_n 1, 1) := by decide +kernel
theorem dX10_judge_44 : decode cX10_judge 44 = .ok (.iconst 1, 1) := by decide +kernel
theorem dX10_judge_45 : decode cX10_judge 45 = .ok (.isub, 1) := by decide +kernel
theorem dX10_judge_46 : decode cX10_judge 46 = .ok (.iload 4, 2) := by decide +kernel
theorem dX10_judge_48 : decode cX10_judge 48 = .ok (.isub, 1) := by decide +kernel
theorem dX10_judge_49 : decode cX10_judge 49 = .ok (.invokestatic 209, 3) := by decide +kernel
theorem dX10_judge_52 : decode cX10_judge 52 = .ok (.ldiv, 1) := by decide +kernel
theorem dX10_judge_53 : decode cX10_judge 53 = .ok (.ldc2_w 207, 3) := by decide +kernel
theorem dX10_judge_56 : decode cX10_judge 56 = .ok (.lrem, 1) := by decide +kernel
theorem dX10_judge_57 : decode cX10_judge 57 = .ok (.l2i, 1) := by decide +kernel
theorem dX10_judge_58 : decode cX10_judge 58 = .ok (.istore 5, 2) := by decide +kernel
theorem dX10_judge_60 : decode cX10_judge 60 = .ok (.aload_n 0, 1) := by decide +kernel
theorem dX10_judge_61 : decode cX10_judge 61 = .ok (.iload 5, 2) := by decide +kernel
theorem dX10_judge_63 : decode cX10_judge 63 = .ok (.sipush 1000, 3) := by decide +kernel
theorem dX10_judge_66 : decode cX10_judge 66 = .ok (.idiv, 1) := by decide +kernel
theorem dX10_judge_67 : decode cX10_judge 67 = .ok (.iload 5, 2) := by decide +kernel
theorem dX10_judge_69 : decode cX10_judge 69 = .ok (.bipush 100, 2) := by decide +kernel
theorem dX10_judge_71 : decode cX10_judge 71 = .ok (.idiv, 1) := by decide +kernel
theorem dX10_judge_72 : decode cX10_judge 72 = .ok (.bipush 10, 2) := by decide +kernel
theorem dX10_judge_74 : decode cX10_judge 74 = .ok (.irem, 1) := by decide +kernel
theorem dX10_judge_75 : decode cX10_judge 75 = .ok (.iload 5, 2) := by decide +kernel
theorem dX10_judge_77 : decode cX10_judge 77 = .ok (.bipush 100, 2) := by decide +kernel
theorem dX10_judge_79 : decode cX10_judge 79 = .ok (.irem, 1) := by decide +kernel
theorem dX10_judge_80 : decode cX10_judge 80 = .ok (.invokevirtual 213, 3) := by decide +kernel
theorem dX10_judge_83 : decode cX10_judge 83 = .ok (.ifCond .ne 6, 3) := by decide +kernel
theorem dX10_judge_86 : decode cX10_judge 86 = .ok (.iload 4, 2) := by decide +kernel
theorem dX10_judge_88 : decode cX10_judge 88 = .ok (.ireturn, 1) := by decide +kernel
theorem dX10_judge_89 : decode cX10_judge 89 = .ok (.iinc 4 1, 3) := by decide +kernel
theorem dX10_judge_92 : decode cX10_judge 92 = .ok (.goto (-56), 3) := by decide +kernel
theorem dX10_judge_95 : decode cX10_judge 95 = .ok (.bipush (-9), 2) := by decide +kernel
theorem dX10_judge_97 : decode cX10_judge 97 = .ok (.ireturn, 1) := by decide +kernel
theorem dX10_see_0 : decode cX10_see 0 = .ok (.iload_n 1, 1) := by decide +kernel
theorem dX10_see_1 : decode cX10_see 1 = .ok (.i2l, 1) := by decide +kernel
theorem dX10_see_2 : decode cX10_see 2 = .ok (.lconst 0, 1) := by decide +kernel
theorem dX10_see_3 : decode cX10_see 3 = .ok (.ldc2_w 216, 3) := by decide +kernel
theorem dX10_see_6 : decode cX10_see 6 = .ok (.invokestatic 62, 3) := by decide +kernel
theorem dX10_see_9 : decode cX10_see 9 = .ok (.ifCond .ne 9, 3) := by decide +kernel
theorem dX10_see_12 : decode cX10_see 12 = .ok (.iload_n 1, 1) := by decide +kernel
theorem dX10_see_13 : decode cX10_see 13 = .ok (.bipush 99, 2) := by decide +kernel
theorem dX10_see_15 : decode cX10_see 15 = .ok (.if_icmp .ne 35, 3) := by decide +kernel
theorem dX10_see_18 : decode cX10_see 18 = .ok (.iload_n 2, 1) := by decide +kernel
theorem dX10_see_19 : decode cX10_see 19 = .ok (.bipush (-9), 2) := by decide +kernel
theorem dX10_see_21 : decode cX10_see 21 = .ok (.if_icmp .eq 15, 3) := by decide +kernel
theorem dX10_see_24 : decode cX10_see 24 = .ok (.iload_n 2, 1) := by decide +kernel
theorem dX10_see_25 : decode cX10_see 25 = .ok (.i2l, 1) := by decide +kernel
theorem dX10_see_26 : decode cX10_see 26 = .ok (.lconst 0, 1) := by decide +kernel
theorem dX10_see_27 : decode cX10_see 27 = .ok (.ldc2_w 218, 3) := by decide +kernel
theorem dX10_see_30 : decode cX10_see 30 = .ok (.invokestatic 62, 3) := by decide +kernel
theorem dX10_see_33 : decode cX10_see 33 = .ok (.ifCond .eq 17, 3) := by decide +kernel
theorem dX10_see_36 : decode cX10_see 36 = .ok (.iload_n 3, 1) := by decide +kernel
theorem dX10_see_37 : decode cX10_see 37 = .ok (.i2l, 1) := by decide +kernel
theorem dX10_see_38 : decode cX10_see 38 = .ok (.lconst 0, 1) := by decide +kernel
theorem dX10_see_39 : decode cX10_see 39 = .ok (.lconst 1, 1) := by decide +kernel
theorem dX10_see_40 : decode cX10_see 40 = .ok (.invokestatic 62, 3) := by decide +kernel
theorem dX10_see_43 : decode cX10_see 43 = .ok (.ifCond .eq 7, 3) := by decide +kernel
theorem dX10_see_46 : decode cX10_see 46 = .ok (.iconst 1, 1) := by decide +kernel
theorem dX10_see_47 : decode cX10_see 47 = .ok (.goto 4, 3) := by decide +kernel
theorem dX10_see_50 : decode cX10_see 50 = .ok (.iconst 0, 1) := by decide +kernel
theorem dX10_see_51 : decode cX10_see 51 = .ok (.istore 4, 2) := by decide +kernel
theorem dX10_see_53 : decode cX10_see 53 = .ok (.iload 4, 2) := by decide +kernel
theorem dX10_see_55 : decode cX10_see 55 = .ok (.ifCond .ne 6, 3) := by decide +kernel
theorem dX10_see_58 : decode cX10_see 58 = .ok (.bipush (-2), 2) := by decide +kernel
theorem dX10_see_60 : decode cX10_see 60 = .ok (.ireturn, 1) := by decide +kernel
theorem dX10_see_61 : decode cX10_see 61 = .ok (.aload_n 0, 1) := by decide +kernel
theorem dX10_see_62 : decode cX10_see 62 = .ok (.getfield 220, 3) := by decide +kernel
theorem dX10_see_65 : decode cX10_see 65 = .ok (.bipush 6, 2) := by decide +kernel
theorem dX10_see_67 : decode cX10_see 67 = .ok (.if_icmp .ne 6, 3) := by decide +kernel
theorem dX10_see_70 : decode cX10_see 70 = .ok (.bipush (-4), 2) := by decide +kernel
theorem dX10_see_72 : decode cX10_see 72 = .ok (.ireturn, 1) := by decide +kernel
theorem dX10_see_73 : decode cX10_see 73 = .ok (.aload_n 0, 1) := by decide +kernel
theorem dX10_see_74 : decode cX10_see 74 = .ok (.getfield 44, 3) := by decide +kernel
theorem dX10_see_77 : decode cX10_see 77 = .ok (.aload_n 0, 1) := by decide +kernel
theorem dX10_see_78 : decode cX10_see 78 = .ok (.getfield 220, 3) := by decide +kernel
theorem dX10_see_81 : decode cX10_see 81 = .ok (.iload_n 1, 1) := by decide +kernel
theorem dX10_see_82 : decode cX10_see 82 = .ok (.iastore, 1) := by decide +kernel
theorem dX10_see_83 : decode cX10_see 83 = .ok (.aload_n 0, 1) := by decide +kernel
theorem dX10_see_84 : decode cX10_see 84 = .ok (.getfield 47, 3) := by decide +kernel
theorem dX10_see_87 : decode cX10_see 87 = .ok (.aload_n 0, 1) := by decide +kernel
theorem dX10_see_88 : decode cX10_see 88 = .ok (.getfield 220, 3) := by decide +kernel
theorem dX10_see_91 : decode cX10_see 91 = .ok (.iload_n 2, 1) := by decide +kernel
theorem dX10_see_92 : decode cX10_see 92 = .ok (.iastore, 1) := by decide +kernel
theorem dX10_see_93 : decode cX10_see 93 = .ok (.aload_n 0, 1) := by decide +kernel
theorem dX10_see_94 : decode cX10_see 94 = .ok (.getfield 50, 3) := by decide +kernel
theorem dX10_see_97 : decode cX10_see 97 = .ok (.aload_n 0, 1) := by decide +kernel
theorem dX10_see_98 : decode cX10_see 98 = .ok (.getfield 220, 3) := by decide +kernel
theorem dX10_see_101 : decode cX10_see 101 = .ok (.iload_n 3, 1) := by decide +kernel
theorem dX10_see_102 : decode cX10_see 102 = .ok (.iastore, 1) := by decide +kernel
theorem dX10_see_103 : decode cX10_see 103 = .ok (.aload_n 0, 1) := by decide +kernel
theorem dX10_see_104 : decode cX10_see 104 = .ok (.dup, 1) := by decide +kernel
theorem dX10_see_105 : decode cX10_see 105 = .ok (.getfield 220, 3) := by decide +kernel
theorem dX10_see_108 : decode cX10_see 108 = .ok (.iconst 1, 1) := by decide +kernel
theorem dX10_see_109 : decode cX10_see 109 = .ok (.iadd, 1) := by decide +kernel
theorem dX10_see_110 : decode cX10_see 110 = .ok (.putfield 220, 3) := by decide +kernel
theorem dX10_see_113 : decode cX10_see 113 = .ok (.aload_n 0, 1) := by decide +kernel
theorem dX10_see_114 : decode cX10_see 114 = .ok (.getfield 220, 3) := by decide +kernel
theorem dX10_see_117 : decode cX10_see 117 = .ok (.ireturn, 1) := by decide +kernel
theorem dX10_unsee_0 : decode cX10_unsee 0 = .ok (.aload_n 0, 1) := by decide +kernel
theorem dX10_unsee_1 : decode cX10_unsee 1 = .ok (.getfield 220, 3) := by decide +kernel
theorem dX10_unsee_4 : decode cX10_unsee 4 = .ok (.istore_n 1, 1) := by decide +kernel
theorem dX10_unsee_5 : decode cX10_unsee 5 = .ok (.aload_n 0, 1) := by decide +kernel
theorem dX10_unsee_6 : decode cX10_unsee 6 = .ok (.iconst 0, 1) := by decide +kernel
theorem dX10_unsee_7 : decode cX10_unsee 7 = .ok (.putfield 220, 3) := by decide +kernel
theorem dX10_unsee_10 : decode cX10_unsee 10 = .ok (.iload_n 1, 1) := by decide +kernel
theorem dX10_unsee_11 : decode cX10_unsee 11 = .ok (.ireturn, 1) := by decide +kernel
theorem dX10_mayBe_0 : decode cX10_mayBe 0 = .ok (.aload_n 0, 1) := by decide +kernel
theorem dX10_mayBe_1 : decode cX10_mayBe 1 = .ok (.getfield 220, 3) := by decide +kernel
theorem dX10_mayBe_4 : decode cX10_mayBe 4 = .ok (.ifCond .ne 5, 3) := by decide +kernel
theorem dX10_mayBe_7 : decode cX10_mayBe 7 = .ok (.iconst 1, 1) := by decide +kernel
theorem dX10_mayBe_8 : decode cX10_mayBe 8 = .ok (.ireturn, 1) := by decide +kernel
theorem dX10_mayBe_9 : decode cX10_mayBe 9 = .ok (.aload_n 0, 1) := by decide +kernel
theorem dX10_mayBe_10 : decode cX10_mayBe 10 = .ok (.invokevirtual 204, 3) := by decide +kernel
theorem dX10_mayBe_13 : decode cX10_mayBe 13 = .ok (.aload_n 0, 1) := by decide +kernel
theorem dX10_mayBe_14 : decode cX10_mayBe 14 = .ok (.iconst 1, 1) := by decide +kernel
theorem dX10_mayBe_15 : decode cX10_mayBe 15 = .ok (.iload_n 1, 1) := by decide +kernel
theorem dX10_mayBe_16 : decode cX10_mayBe 16 = .ok (.invokevirtual 179, 3) := by decide +kernel
theorem dX10_mayBe_19 : decode cX10_mayBe 19 = .ok (.aload_n 0, 1) := by decide +kernel
theorem dX10_mayBe_20 : decode cX10_mayBe 20 = .ok (.iconst 1, 1) := by decide +kernel
theorem dX10_mayBe_21 : decode cX10_mayBe 21 = .ok (.invokevirtual 115, 3) := by decide +kernel
theorem dX10_mayBe_24 : decode cX10_mayBe 24 = .ok (.iconst 1, 1) := by decide +kernel
theorem dX10_mayBe_25 : decode cX10_mayBe 25 = .ok (.istore_n 2, 1) := by decide +kernel
theorem dX10_mayBe_26 : decode cX10_mayBe 26 = .ok (.iconst 0, 1) := by decide +kernel
theorem dX10_mayBe_27 : decode cX10_mayBe 27 = .ok (.istore_n 3, 1) := by decide +kernel
theorem dX10_mayBe_28 : decode cX10_mayBe 28 = .ok (.iload_n 3, 1) := by decide +kernel
theorem dX10_mayBe_29 : decode cX10_mayBe 29 = .ok (.aload_n 0, 1) := by decide +kernel
theorem dX10_mayBe_30 : decode cX10_mayBe 30 = .ok (.getfield 220, 3) := by decide +kernel
theorem dX10_mayBe_33 : decode cX10_mayBe 33 = .ok (.if_icmp .ge 66, 3) := by decide +kernel
theorem dX10_mayBe_36 : decode cX10_mayBe 36 = .ok (.iload_n 2, 1) := by decide +kernel
theorem dX10_mayBe_37 : decode cX10_mayBe 37 = .ok (.ifCond .eq 54, 3) := by decide +kernel
theorem dX10_mayBe_40 : decode cX10_mayBe 40 = .ok (.aload_n 0, 1) := by decide +kernel
theorem dX10_mayBe_41 : decode cX10_mayBe 41 = .ok (.iconst 1, 1) := by decide +kernel
theorem dX10_mayBe_42 : decode cX10_mayBe 42 = .ok (.aload_n 0, 1) := by decide +kernel
theorem dX10_mayBe_43 : decode cX10_mayBe 43 = .ok (.aload_n 0, 1) := by decide +kernel
theorem dX10_mayBe_44 : decode cX10_mayBe 44 = .ok (.getfield 44, 3) := by decide +kernel
theorem dX10_mayBe_47 : decode cX10_mayBe 47 = .ok (.iload_n 3, 1) := by decide +kernel
theorem dX10_mayBe_48 : decode cX10_mayBe 48 = .ok (.iaload, 1) := by decide +kernel
theorem dX10_mayBe_49 : decode cX10_mayBe 49 = .ok (.invokevirtual 195, 3) := by decide +kernel
theorem dX10_mayBe_52 : decode cX10_mayBe 52 = .ok (.invokevirtual 147, 3) := by decide +kernel
theorem dX10_mayBe_55 : decode cX10_mayBe 55 = .ok (.aload_n 0, 1) := by decide +kernel
theorem dX10_mayBe_56 : decode cX10_mayBe 56 = .ok (.getfield 47, 3) := by decide +kernel
theorem dX10_mayBe_59 : decode cX10_mayBe 59 = .ok (.iload_n 3, 1) := by decide +kernel
theorem dX10_mayBe_60 : decode cX10_mayBe 60 = .ok (.iaload, 1) := by decide +kernel
theorem dX10_mayBe_61 : decode cX10_mayBe 61 = .ok (.if_icmp .ne 7, 3) := by decide +kernel
theorem dX10_mayBe_64 : decode cX10_mayBe 64 = .ok (.iconst 1, 1) := by decide +kernel
theorem dX10_mayBe_65 : decode cX10_mayBe 65 = .ok (.goto 4, 3) := by decide +kernel
theorem dX10_mayBe_68 : decode cX10_mayBe 68 = .ok (.iconst 0, 1) := by decide +kernel
theorem dX10_mayBe_69 : decode cX10_mayBe 69 = .ok (.aload_n 0, 1) := by decide +kernel
theorem dX10_mayBe_70 : decode cX10_mayBe 70 = .ok (.getfield 50, 3) := by decide +kernel
theorem dX10_mayBe_73 : decode cX10_mayBe 73 = .ok (.iload_n 3, 1) := by decide +kernel
theorem dX10_mayBe_74 : decode cX10_mayBe 74 = .ok (.iaload, 1) := by decide +kernel
theorem dX10_mayBe_75 : decode cX10_mayBe 75 = .ok (.iconst 1, 1) := by decide +kernel
theorem dX10_mayBe_76 : decode cX10_mayBe 76 = .ok (.if_icmp .ne 7, 3) := by decide +kernel
theorem dX10_mayBe_79 : decode cX10_mayBe 79 = .ok (.iconst 1, 1) := by decide +kernel
theorem dX10_mayBe_80 : decode cX10_mayBe 80 = .ok (.goto 4, 3) := by decide +kernel
theorem dX10_mayBe_83 : decode cX10_mayBe 83 = .ok (.iconst 0, 1) := by decide +kernel
theorem dX10_mayBe_84 : decode cX10_mayBe 84 = .ok (.if_icmp .ne 7, 3) := by decide +kernel
theorem dX10_mayBe_87 : decode cX10_mayBe 87 = .ok (.iconst 1, 1) := by decide +kernel
theorem dX10_mayBe_88 : decode cX10_mayBe 88 = .ok (.goto 4, 3) := by decide +kernel
theorem dX10_mayBe_91 : decode cX10_mayBe 91 = .ok (.iconst 0, 1) := by decide +kernel
theorem dX10_mayBe_92 : decode cX10_mayBe 92 = .ok (.istore_n 2, 1) := by decide +kernel
theorem dX10_mayBe_93 : decode cX10_mayBe 93 = .ok (.iinc 3 1, 3) := by decide +kernel
theorem dX10_mayBe_96 : decode cX10_mayBe 96 = .ok (.goto (-68), 3) := by decide +kernel
theorem dX10_mayBe_99 : decode cX10_mayBe 99 = .ok (.iload_n 2, 1) := by decide +kernel
theorem dX10_mayBe_100 : decode cX10_mayBe 100 = .ok (.ireturn, 1) := by decide +kernel
theorem dX10_hidden_0 : decode cX10_hidden 0 = .ok (.iload_n 1, 1) := by decide +kernel
theorem dX10_hidden_1 : decode cX10_hidden 1 = .ok (.i2l, 1) := by decide +kernel
theorem dX10_hidden_2 : decode cX10_hidden 2 = .ok (.lconst 0, 1) := by decide +kernel
theorem dX10_hidden_3 : decode cX10_hidden 3 = .ok (.lconst 1, 1) := by decide +kernel
theorem dX10_hidden_4 : decode cX10_hidden 4 = .ok (.invokestatic 62, 3) := by decide +kernel
theorem dX10_hidden_7 : decode cX10_hidden 7 = .ok (.ifCond .ne 6, 3) := by decide +kernel
theorem dX10_hidden_10 : decode cX10_hidden 10 = .ok (.bipush (-2), 2) := by decide +kernel
theorem dX10_hidden_12 : decode cX10_hidden 12 = .ok (.ireturn, 1) := by decide +kernel
theorem dX10_hidden_13 : decode cX10_hidden 13 = .ok (.aload_n 0, 1) := by decide +kernel
theorem dX10_hidden_14 : decode cX10_hidden 14 = .ok (.iconst 0, 1) := by decide +kernel
theorem dX10_hidden_15 : decode cX10_hidden 15 = .ok (.invokevirtual 127, 3) := by decide +kernel
theorem dX10_hidden_18 : decode cX10_hidden 18 = .ok (.bipush 16, 2) := by decide +kernel
theorem dX10_hidden_20 : decode cX10_hidden 20 = .ok (.if_icmp .ne 6, 3) := by decide +kernel
theorem dX10_hidden_23 : decode cX10_hidden 23 = .ok (.bipush (-4), 2) := by decide +kernel
theorem dX10_hidden_25 : decode cX10_hidden 25 = .ok (.ireturn, 1) := by decide +kernel
theorem dX10_hidden_26 : decode cX10_hidden 26 = .ok (.iconst 0, 1) := by decide +kernel
theorem dX10_hidden_27 : decode cX10_hidden 27 = .ok (.istore_n 2, 1) := by decide +kernel
theorem dX10_hidden_28 : decode cX10_hidden 28 = .ok (.bipush (-9), 2) := by decide +kernel
theorem dX10_hidden_30 : decode cX10_hidden 30 = .ok (.istore_n 3, 1) := by decide +kernel
theorem dX10_hidden_31 : decode cX10_hidden 31 = .ok (.iconst 0, 1) := by decide +kernel
theorem dX10_hidden_32 : decode cX10_hidden 32 = .ok (.istore 4, 2) := by decide +kernel
theorem dX10_hidden_34 : decode cX10_hidden 34 = .ok (.iload 4, 2) := by decide +kernel
theorem dX10_hidden_36 : decode cX10_hidden 36 = .ok (.sipush 2020, 3) := by decide +kernel
theorem dX10_hidden_39 : decode cX10_hidden 39 = .ok (.if_icmp .ge 55, 3) := by decide +kernel
theorem dX10_hidden_42 : decode cX10_hidden 42 = .ok (.iload 4, 2) := by decide +kernel
theorem dX10_hidden_44 : decode cX10_hidden 44 = .ok (.sipush 505, 3) := by decide +kernel
theorem dX10_hidden_47 : decode cX10_hidden 47 = .ok (.idiv, 1) := by decide +kernel
theorem dX10_hidden_48 : decode cX10_hidden 48 = .ok (.iload 4, 2) := by decide +kernel
theorem dX10_hidden_50 : decode cX10_hidden 50 = .ok (.bipush 101, 2) := by decide +kernel
theorem dX10_hidden_52 : decode cX10_hidden 52 = .ok (.idiv, 1) := by decide +kernel
theorem dX10_hidden_53 : decode cX10_hidden 53 = .ok (.iconst 5, 1) := by decide +kernel
theorem dX10_hidden_54 : decode cX10_hidden 54 = .ok (.irem, 1) := by decide +kernel
theorem dX10_hidden_55 : decode cX10_hidden 55 = .ok (.iload 4, 2) := by decide +kernel
theorem dX10_hidden_57 : decode cX10_hidden 57 = .ok (.bipush 101, 2) := by decide +kernel
theorem dX10_hidden_59 : decode cX10_hidden 59 = .ok (.irem, 1) := by decide +kernel
theorem dX10_hidden_60 : decode cX10_hidden 60 = .ok (.invokestatic 176, 3) := by decide +kernel
theorem dX10_hidden_63 : decode cX10_hidden 63 = .ok (.istore 5, 2) := by decide +kernel
theorem dX10_hidden_65 : decode cX10_hidden 65 = .ok (.aload_n 0, 1) := by decide +kernel
theorem dX10_hidden_66 : decode cX10_hidden 66 = .ok (.iload 5, 2) := by decide +kernel
theorem dX10_hidden_68 : decode cX10_hidden 68 = .ok (.invokevirtual 223, 3) := by decide +kernel
theorem dX10_hidden_71 : decode cX10_hidden 71 = .ok (.ifCond .eq 17, 3) := by decide +kernel
theorem dX10_hidden_74 : decode cX10_hidden 74 = .ok (.iload_n 2, 1) := by decide +kernel
theorem dX10_hidden_75 : decode cX10_hidden 75 = .ok (.ifCond .ne 8, 3) := by decide +kernel
theorem dX10_hidden_78 : decode cX10_hidden 78 = .ok (.iload 5, 2) := by decide +kernel
theorem dX10_hidden_80 : decode cX10_hidden 80 = .ok (.goto 4, 3) := by decide +kernel
theorem dX10_hidden_83 : decode cX10_hidden 83 = .ok (.iload_n 3, 1) := by decide +kernel
theorem dX10_hidden_84 : decode cX10_hidden 84 = .ok (.istore_n 3, 1) := by decide +kernel
theorem dX10_hidden_85 : decode cX10_hidden 85 = .ok (.iinc 2 1, 3) := by decide +kernel
theorem dX10_hidden_88 : decode cX10_hidden 88 = .ok (.iinc 4 1, 3) := by decide +kernel
theorem dX10_hidden_91 : decode cX10_hidden 91 = .ok (.goto (-57), 3) := by decide +kernel
theorem dX10_hidden_94 : decode cX10_hidden 94 = .ok (.iload_n 1, 1) := by decide +kernel
theorem dX10_hidden_95 : decode cX10_hidden 95 = .ok (.ifCond .ne 7, 3) := by decide +kernel
theorem dX10_hidden_98 : decode cX10_hidden 98 = .ok (.iload_n 2, 1) := by decide +kernel
theorem dX10_hidden_99 : decode cX10_hidden 99 = .ok (.goto 4, 3) := by decide +kernel
theorem dX10_hidden_102 : decode cX10_hidden 102 = .ok (.iload_n 3, 1) := by decide +kernel
theorem dX10_hidden_103 : decode cX10_hidden 103 = .ok (.ireturn, 1) := by decide +kernel
theorem dX10_factorial_0 : decode cX10_factorial 0 = .ok (.iconst 1, 1) := by decide +kernel
theorem dX10_factorial_1 : decode cX10_factorial 1 = .ok (.istore_n 1, 1) := by decide +kernel
theorem dX10_factorial_2 : decode cX10_factorial 2 = .ok (.iconst 2, 1) := by decide +kernel
theorem dX10_factorial_3 : decode cX10_factorial 3 = .ok (.istore_n 2, 1) := by decide +kernel
theorem dX10_factorial_4 : decode cX10_factorial 4 = .ok (.iload_n 2, 1) := by decide +kernel
theorem dX10_factorial_5 : decode cX10_factorial 5 = .ok (.iload_n 0, 1) := by decide +kernel
theorem dX10_factorial_6 : decode cX10_factorial 6 = .ok (.if_icmp .gt 13, 3) := by decide +kernel
theorem dX10_factorial_9 : decode cX10_factorial 9 = .ok (.iload_n 1, 1) := by decide +kernel
theorem dX10_factorial_10 : decode cX10_factorial 10 = .ok (.iload_n 2, 1) := by decide +kernel
theorem dX10_factorial_11 : decode cX10_factorial 11 = .ok (.imul, 1) := by decide +kernel
theorem dX10_factorial_12 : decode cX10_factorial 12 = .ok (.istore_n 1, 1) := by decide +kernel
theorem dX10_factorial_13 : decode cX10_factorial 13 = .ok (.iinc 2 1, 3) := by decide +kernel
theorem dX10_factorial_16 : decode cX10_factorial 16 = .ok (.goto (-12), 3) := by decide +kernel
theorem dX10_factorial_19 : decode cX10_factorial 19 = .ok (.iload_n 1, 1) := by decide +kernel
theorem dX10_factorial_20 : decode cX10_factorial 20 = .ok (.ireturn, 1) := by decide +kernel
theorem dX10_common_0 : decode cX10_common 0 = .ok (.iload_n 0, 1) := by decide +kernel
theorem dX10_common_1 : decode cX10_common 1 = .ok (.ifCond .ge 8, 3) := by decide +kernel
theorem dX10_common_4 : decode cX10_common 4 = .ok (.iload_n 0, 1) := by decide +kernel
theorem dX10_common_5 : decode cX10_common 5 = .ok (.ineg, 1) := by decide +kernel
theorem dX10_common_6 : decode cX10_common 6 = .ok (.goto 4, 3) := by decide +kernel
theorem dX10_common_9 : decode cX10_common 9 = .ok (.iload_n 0, 1) := by decide +kernel
theorem dX10_common_10 : decode cX10_common 10 = .ok (.istore_n 2, 1) := by decide +kernel
theorem dX10_common_11 : decode cX10_common 11 = .ok (.iload_n 1, 1) := by decide +kernel
theorem dX10_common_12 : decode cX10_common 12 = .ok (.istore_n 3, 1) := by decide +kernel
theorem dX10_common_13 : decode cX10_common 13 = .ok (.iload_n 3, 1) := by decide +kernel
theorem dX10_common_14 : decode cX10_common 14 = .ok (.ifCond .eq 16, 3) := by decide +kernel
theorem dX10_common_17 : decode cX10_common 17 = .ok (.iload_n 2, 1) := by decide +kernel
theorem dX10_common_18 : decode cX10_common 18 = .ok (.iload_n 3, 1) := by decide +kernel
theorem dX10_common_19 : decode cX10_common 19 = .ok (.irem, 1) := by decide +kernel
theorem dX10_common_20 : decode cX10_common 20 = .ok (.istore 4, 2) := by decide +kernel
theorem dX10_common_22 : decode cX10_common 22 = .ok (.iload_n 3, 1) := by decide +kernel
theorem dX10_common_23 : decode cX10_common 23 = .ok (.istore_n 2, 1) := by decide +kernel
theorem dX10_common_24 : decode cX10_common 24 = .ok (.iload 4, 2) := by decide +kernel
theorem dX10_common_26 : decode cX10_common 26 = .ok (.istore_n 3, 1) := by decide +kernel
theorem dX10_common_27 : decode cX10_common 27 = .ok (.goto (-14), 3) := by decide +kernel
theorem dX10_common_30 : decode cX10_common 30 = .ok (.iload_n 2, 1) := by decide +kernel
theorem dX10_common_31 : decode cX10_common 31 = .ok (.ireturn, 1) := by decide +kernel
theorem dX10_measureBy_0 : decode cX10_measureBy 0 = .ok (.iconst 0, 1) := by decide +kernel
theorem dX10_measureBy_1 : decode cX10_measureBy 1 = .ok (.istore_n 2, 1) := by decide +kernel
theorem dX10_measureBy_2 : decode cX10_measureBy 2 = .ok (.iconst 0, 1) := by decide +kernel
theorem dX10_measureBy_3 : decode cX10_measureBy 3 = .ok (.istore_n 3, 1) := by decide +kernel
theorem dX10_measureBy_4 : decode cX10_measureBy 4 = .ok (.iload_n 3, 1) := by decide +kernel
theorem dX10_measureBy_5 : decode cX10_measureBy 5 = .ok (.aload_n 0, 1) := by decide +kernel
theorem dX10_measureBy_6 : decode cX10_measureBy 6 = .ok (.getfield 119, 3) := by decide +kernel
theorem dX10_measureBy_9 : decode cX10_measureBy 9 = .ok (.if_icmp .ge 30, 3) := by decide +kernel
theorem dX10_measureBy_12 : decode cX10_measureBy 12 = .ok (.iload_n 2, 1) := by decide +kernel
theorem dX10_measureBy_13 : decode cX10_measureBy 13 = .ok (.iload_n 1, 1) := by decide +kernel
theorem dX10_measureBy_14 : decode cX10_measureBy 14 = .ok (.iload_n 3, 1) := by decide +kernel
theorem dX10_measureBy_15 : decode cX10_measureBy 15 = .ok (.invokestatic 130, 3) := by decide +kernel
theorem dX10_measureBy_18 : decode cX10_measureBy 18 = .ok (.ifCond .eq 12, 3) := by decide +kernel
theorem dX10_measureBy_21 : decode cX10_measureBy 21 = .ok (.aload_n 0, 1) := by decide +kernel
theorem dX10_measureBy_22 : decode cX10_measureBy 22 = .ok (.getfield 29, 3) := by decide +kernel
theorem dX10_measureBy_25 : decode cX10_measureBy 25 = .ok (.iload_n 3, 1) := by decide +kernel
theorem dX10_measureBy_26 : decode cX10_measureBy 26 = .ok (.iaload, 1) := by decide +kernel
theorem dX10_measureBy_27 : decode cX10_measureBy 27 = .ok (.goto 4, 3) := by decide +kernel
theorem dX10_measureBy_30 : decode cX10_measureBy 30 = .ok (.iconst 0, 1) := by decide +kernel
theorem dX10_measureBy_31 : decode cX10_measureBy 31 = .ok (.ior, 1) := by decide +kernel
theorem dX10_measureBy_32 : decode cX10_measureBy 32 = .ok (.istore_n 2, 1) := by decide +kernel
theorem dX10_measureBy_33 : decode cX10_measureBy 33 = .ok (.iinc 3 1, 3) := by decide +kernel
theorem dX10_measureBy_36 : decode cX10_measureBy 36 = .ok (.goto (-32), 3) := by decide +kernel
theorem dX10_measureBy_39 : decode cX10_measureBy 39 = .ok (.aload_n 0, 1) := by decide +kernel
theorem dX10_measureBy_40 : decode cX10_measureBy 40 = .ok (.iconst 0, 1) := by decide +kernel
theorem dX10_measureBy_41 : decode cX10_measureBy 41 = .ok (.iload_n 2, 1) := by decide +kernel
theorem dX10_measureBy_42 : decode cX10_measureBy 42 = .ok (.invokevirtual 147, 3) := by decide +kernel
theorem dX10_measureBy_45 : decode cX10_measureBy 45 = .ok (.ireturn, 1) := by decide +kernel
theorem dX10_worthBy_0 : decode cX10_worthBy 0 = .ok (.aload_n 0, 1) := by decide +kernel
theorem dX10_worthBy_1 : decode cX10_worthBy 1 = .ok (.iload_n 1, 1) := by decide +kernel
theorem dX10_worthBy_2 : decode cX10_worthBy 2 = .ok (.invokevirtual 226, 3) := by decide +kernel
theorem dX10_worthBy_5 : decode cX10_worthBy 5 = .ok (.istore_n 2, 1) := by decide +kernel
theorem dX10_worthBy_6 : decode cX10_worthBy 6 = .ok (.iload_n 2, 1) := by decide +kernel
theorem dX10_worthBy_7 : decode cX10_worthBy 7 = .ok (.bipush (-9), 2) := by decide +kernel
theorem dX10_worthBy_9 : decode cX10_worthBy 9 = .ok (.if_icmp .ne 7, 3) := by decide +kernel
theorem dX10_worthBy_12 : decode cX10_worthBy 12 = .ok (.iconst 0, 1) := by decide +kernel
theorem dX10_worthBy_13 : decode cX10_worthBy 13 = .ok (.goto 4, 3) := by decide +kernel
theorem dX10_worthBy_16 : decode cX10_worthBy 16 = .ok (.iload_n 2, 1) := by decide +kernel
theorem dX10_worthBy_17 : decode cX10_worthBy 17 = .ok (.ireturn, 1) := by decide +kernel
theorem dX10_share_0 : decode cX10_share 0 = .ok (.aload_n 0, 1) := by decide +kernel
theorem dX10_share_1 : decode cX10_share 1 = .ok (.iconst 0, 1) := by decide +kernel
theorem dX10_share_2 : decode cX10_share 2 = .ok (.invokevirtual 115, 3) := by decide +kernel
theorem dX10_share_5 : decode cX10_share 5 = .ok (.iload_n 1, 1) := by decide +kernel
theorem dX10_share_6 : decode cX10_share 6 = .ok (.i2l, 1) := by decide +kernel
theorem dX10_share_7 : decode cX10_share 7 = .ok (.lconst 0, 1) := by decide +kernel
theorem dX10_share_8 : decode cX10_share 8 = .ok (.aload_n 0, 1) := by decide +kernel
theorem dX10_share_9 : decode cX10_share 9 = .ok (.getfield 119, 3) := by decide +kernel
theorem dX10_share_12 : decode cX10_share 12 = .ok (.iconst 1, 1) := by decide +kernel
theorem dX10_share_13 : decode cX10_share 13 = .ok (.isub, 1) := by decide +kernel
theorem dX10_share_14 : decode cX10_share 14 = .ok (.i2l, 1) := by decide +kernel
theorem dX10_share_15 : decode cX10_share 15 = .ok (.invokestatic 62, 3) := by decide +kernel
theorem dX10_share_18 : decode cX10_share 18 = .ok (.ifCond .ne 5, 3) := by decide +kernel
theorem dX10_share_21 : decode cX10_share 21 = .ok (.iconst (-1), 1) := by decide +kernel
theorem dX10_share_22 : decode cX10_share 22 = .ok (.ireturn, 1) := by decide +kernel
theorem dX10_share_23 : decode cX10_share 23 = .ok (.aload_n 0, 1) := by decide +kernel
theorem dX10_share_24 : decode cX10_share 24 = .ok (.getfield 119, 3) := by decide +kernel
theorem dX10_share_27 : decode cX10_share 27 = .ok (.bipush 6, 2) := by decide +kernel
theorem dX10_share_29 : decode cX10_share 29 = .ok (.if_icmp .le 6, 3) := by decide +kernel
theorem dX10_share_32 : decode cX10_share 32 = .ok (.bipush (-4), 2) := by decide +kernel
theorem dX10_share_34 : decode cX10_share 34 = .ok (.ireturn, 1) := by decide +kernel
theorem dX10_share_35 : decode cX10_share 35 = .ok (.iconst 0, 1) := by decide +kernel
theorem dX10_share_36 : decode cX10_share 36 = .ok (.istore_n 3, 1) := by decide +kernel
theorem dX10_share_37 : decode cX10_share 37 = .ok (.iconst 0, 1) := by decide +kernel
theorem dX10_share_38 : decode cX10_share 38 = .ok (.istore 4, 2) := by decide +kernel
theorem dX10_share_40 : decode cX10_share 40 = .ok (.iload 4, 2) := by decide +kernel
theorem dX10_share_42 : decode cX10_share 42 = .ok (.iconst 1, 1) := by decide +kernel
theorem dX10_share_43 : decode cX10_share 43 = .ok (.aload_n 0, 1) := by decide +kernel
theorem dX10_share_44 : decode cX10_share 44 = .ok (.getfield 119, 3) := by decide +kernel
theorem dX10_share_47 : decode cX10_share 47 = .ok (.ishl, 1) := by decide +kernel
theorem dX10_share_48 : decode cX10_share 48 = .ok (.if_icmp .ge 67, 3) := by decide +kernel
theorem dX10_share_51 : decode cX10_share 51 = .ok (.iload 4, 2) := by decide +kernel
theorem dX10_share_53 : decode cX10_share 53 = .ok (.iload_n 1, 1) := by decide +kernel
theorem dX10_share_54 : decode cX10_share 54 = .ok (.invokestatic 130, 3) := by decide +kernel
theorem dX10_share_57 : decode cX10_share 57 = .ok (.ifCond .ne 52, 3) := by decide +kernel
theorem dX10_share_60 : decode cX10_share 60 = .ok (.iload 4, 2) := by decide +kernel
theorem dX10_share_62 : decode cX10_share 62 = .ok (.invokestatic 229, 3) := by decide +kernel
theorem dX10_share_65 : decode cX10_share 65 = .ok (.invokestatic 232, 3) := by decide +kernel
theorem dX10_share_68 : decode cX10_share 68 = .ok (.aload_n 0, 1) := by decide +kernel
theorem dX10_share_69 : decode cX10_share 69 = .ok (.getfield 119, 3) := by decide +kernel
theorem dX10_share_72 : decode cX10_share 72 = .ok (.iconst 1, 1) := by decide +kernel
theorem dX10_share_73 : decode cX10_share 73 = .ok (.isub, 1) := by decide +kernel
theorem dX10_share_74 : decode cX10_share 74 = .ok (.iload 4, 2) := by decide +kernel
theorem dX10_share_76 : decode cX10_share 76 = .ok (.invokestatic 229, 3) := by decide +kernel
theorem dX10_share_79 : decode cX10_share 79 = .ok (.isub, 1) := by decide +kernel
theorem dX10_share_80 : decode cX10_share 80 = .ok (.invokestatic 232, 3) := by decide +kernel
theorem dX10_share_83 : decode cX10_share 83 = .ok (.imul, 1) := by decide +kernel
theorem dX10_share_84 : decode cX10_share 84 = .ok (.istore 5, 2) := by decide +kernel
theorem dX10_share_86 : decode cX10_share 86 = .ok (.iload_n 3, 1) := by decide +kernel
theorem dX10_share_87 : decode cX10_share 87 = .ok (.iload 5, 2) := by decide +kernel
theorem dX10_share_89 : decode cX10_share 89 = .ok (.aload_n 0, 1) := by decide +kernel
theorem dX10_share_90 : decode cX10_share 90 = .ok (.iload 4, 2) := by decide +kernel
theorem dX10_share_92 : decode cX10_share 92 = .ok (.iconst 1, 1) := by decide +kernel
theorem dX10_share_93 : decode cX10_share 93 = .ok (.iload_n 1, 1) := by decide +kernel
theorem dX10_share_94 : decode cX10_share 94 = .ok (.ishl, 1) := by decide +kernel
theorem dX10_share_95 : decode cX10_share 95 = .ok (.ior, 1) := by decide +kernel
theorem dX10_share_96 : decode cX10_share 96 = .ok (.invokevirtual 235, 3) := by decide +kernel
theorem dX10_share_99 : decode cX10_share 99 = .ok (.aload_n 0, 1) := by decide +kernel
theorem dX10_share_100 : decode cX10_share 100 = .ok (.iload 4, 2) := by decide +kernel
theorem dX10_share_102 : decode cX10_share 102 = .ok (.invokevirtual 235, 3) := by decide +kernel
theorem dX10_share_105 : decode cX10_share 105 = .ok (.isub, 1) := by decide +kernel
theorem dX10_share_106 : decode cX10_share 106 = .ok (.imul, 1) := by decide +kernel
theorem dX10_share_107 : decode cX10_share 107 = .ok (.iadd, 1) := by decide +kernel
theorem dX10_share_108 : decode cX10_share 108 = .ok (.istore_n 3, 1) := by decide +kernel
theorem dX10_share_109 : decode cX10_share 109 = .ok (.iinc 4 1, 3) := by decide +kernel
theorem dX10_share_112 : decode cX10_share 112 = .ok (.goto (-72), 3) := by decide +kernel
theorem dX10_share_115 : decode cX10_share 115 = .ok (.iload_n 3, 1) := by decide +kernel
theorem dX10_share_116 : decode cX10_share 116 = .ok (.aload_n 0, 1) := by decide +kernel
theorem dX10_share_117 : decode cX10_share 117 = .ok (.getfield 119, 3) := by decide +kernel
theorem dX10_share_120 : decode cX10_share 120 = .ok (.invokestatic 232, 3) := by decide +kernel
theorem dX10_share_123 : decode cX10_share 123 = .ok (.invokestatic 238, 3) := by decide +kernel
theorem dX10_share_126 : decode cX10_share 126 = .ok (.istore 4, 2) := by decide +kernel
theorem dX10_share_128 : decode cX10_share 128 = .ok (.iload_n 2, 1) := by decide +kernel
theorem dX10_share_129 : decode cX10_share 129 = .ok (.ifCond .eq 10, 3) := by decide +kernel
theorem dX10_share_132 : decode cX10_share 132 = .ok (.iload_n 3, 1) := by decide +kernel
theorem dX10_share_133 : decode cX10_share 133 = .ok (.iload 4, 2) := by decide +kernel
theorem dX10_share_135 : decode cX10_share 135 = .ok (.idiv, 1) := by decide +kernel
theorem dX10_share_136 : decode cX10_share 136 = .ok (.goto 13, 3) := by decide +kernel
theorem dX10_share_139 : decode cX10_share 139 = .ok (.aload_n 0, 1) := by decide +kernel
theorem dX10_share_140 : decode cX10_share 140 = .ok (.getfield 119, 3) := by decide +kernel
theorem dX10_share_143 : decode cX10_share 143 = .ok (.invokestatic 232, 3) := by decide +kernel
theorem dX10_share_146 : decode cX10_share 146 = .ok (.iload 4, 2) := by decide +kernel
theorem dX10_share_148 : decode cX10_share 148 = .ok (.idiv, 1) := by decide +kernel
theorem dX10_share_149 : decode cX10_share 149 = .ok (.ireturn, 1) := by decide +kernel
theorem dX10_lost_0 : decode cX10_lost 0 = .ok (.iload_n 1, 1) := by decide +kernel
theorem dX10_lost_1 : decode cX10_lost 1 = .ok (.i2l, 1) := by decide +kernel
theorem dX10_lost_2 : decode cX10_lost 2 = .ok (.lconst 0, 1) := by decide +kernel
theorem dX10_lost_3 : decode cX10_lost 3 = .ok (.ldc2_w 241, 3) := by decide +kernel
theorem dX10_lost_6 : decode cX10_lost 6 = .ok (.invokestatic 62, 3) := by decide +kernel
theorem dX10_lost_9 : decode cX10_lost 9 = .ok (.ifCond .eq 15, 3) := by decide +kernel
theorem dX10_lost_12 : decode cX10_lost 12 = .ok (.iload_n 2, 1) := by decide +kernel
theorem dX10_lost_13 : decode cX10_lost 13 = .ok (.i2l, 1) := by decide +kernel
theorem dX10_lost_14 : decode cX10_lost 14 = .ok (.lconst 0, 1) := by decide +kernel
theorem dX10_lost_15 : decode cX10_lost 15 = .ok (.ldc2_w 243, 3) := by decide +kernel
theorem dX10_lost_18 : decode cX10_lost 18 = .ok (.invokestatic 62, 3) := by decide +kernel
theorem dX10_lost_21 : decode cX10_lost 21 = .ok (.ifCond .ne 6, 3) := by decide +kernel
theorem dX10_lost_24 : decode cX10_lost 24 = .ok (.bipush (-2), 2) := by decide +kernel
theorem dX10_lost_26 : decode cX10_lost 26 = .ok (.ireturn, 1) := by decide +kernel
theorem dX10_lost_27 : decode cX10_lost 27 = .ok (.aload_n 0, 1) := by decide +kernel
theorem dX10_lost_28 : decode cX10_lost 28 = .ok (.iconst 0, 1) := by decide +kernel
theorem dX10_lost_29 : decode cX10_lost 29 = .ok (.invokevirtual 115, 3) := by decide +kernel
theorem dX10_lost_32 : decode cX10_lost 32 = .ok (.aload_n 0, 1) := by decide +kernel
theorem dX10_lost_33 : decode cX10_lost 33 = .ok (.getfield 119, 3) := by decide +kernel
theorem dX10_lost_36 : decode cX10_lost 36 = .ok (.bipush 6, 2) := by decide +kernel
theorem dX10_lost_38 : decode cX10_lost 38 = .ok (.if_icmp .le 6, 3) := by decide +kernel
theorem dX10_lost_41 : decode cX10_lost 41 = .ok (.bipush (-4), 2) := by decide +kernel
theorem dX10_lost_43 : decode cX10_lost 43 = .ok (.ireturn, 1) := by decide +kernel
theorem dX10_lost_44 : decode cX10_lost 44 = .ok (.iconst 0, 1) := by decide +kernel
theorem dX10_lost_45 : decode cX10_lost 45 = .ok (.istore 4, 2) := by decide +kernel
theorem dX10_lost_47 : decode cX10_lost 47 = .ok (.iconst 0, 1) := by decide +kernel
theorem dX10_lost_48 : decode cX10_lost 48 = .ok (.istore 5, 2) := by decide +kernel
theorem dX10_lost_50 : decode cX10_lost 50 = .ok (.iconst 0, 1) := by decide +kernel
theorem dX10_lost_51 : decode cX10_lost 51 = .ok (.istore 6, 2) := by decide +kernel
theorem dX10_lost_53 : decode cX10_lost 53 = .ok (.iload 6, 2) := by decide +kernel
theorem dX10_lost_55 : decode cX10_lost 55 = .ok (.iconst 1, 1) := by decide +kernel
theorem dX10_lost_56 : decode cX10_lost 56 = .ok (.aload_n 0, 1) := by decide +kernel
theorem dX10_lost_57 : decode cX10_lost 57 = .ok (.getfield 119, 3) := by decide +kernel
theorem dX10_lost_60 : decode cX10_lost 60 = .ok (.ishl, 1) := by decide +kernel
theorem dX10_lost_61 : decode cX10_lost 61 = .ok (.if_icmp .ge 81, 3) := by decide +kernel
theorem dX10_lost_64 : decode cX10_lost 64 = .ok (.iconst 1, 1) := by decide +kernel
theorem dX10_lost_65 : decode cX10_lost 65 = .ok (.istore 7, 2) := by decide +kernel
theorem dX10_lost_67 : decode cX10_lost 67 = .ok (.iconst 0, 1) := by decide +kernel
theorem dX10_lost_68 : decode cX10_lost 68 = .ok (.istore 8, 2) := by decide +kernel
theorem dX10_lost_70 : decode cX10_lost 70 = .ok (.iload 8, 2) := by decide +kernel
theorem dX10_lost_72 : decode cX10_lost 72 = .ok (.aload_n 0, 1) := by decide +kernel
theorem dX10_lost_73 : decode cX10_lost 73 = .ok (.getfield 119, 3) := by decide +kernel
theorem dX10_lost_76 : decode cX10_lost 76 = .ok (.if_icmp .ge 32, 3) := by decide +kernel
theorem dX10_lost_79 : decode cX10_lost 79 = .ok (.iload 7, 2) := by decide +kernel
theorem dX10_lost_81 : decode cX10_lost 81 = .ok (.iload 6, 2) := by decide +kernel
theorem dX10_lost_83 : decode cX10_lost 83 = .ok (.iload 8, 2) := by decide +kernel
theorem dX10_lost_85 : decode cX10_lost 85 = .ok (.invokestatic 130, 3) := by decide +kernel
theorem dX10_lost_88 : decode cX10_lost 88 = .ok (.ifCond .eq 10, 3) := by decide +kernel
theorem dX10_lost_91 : decode cX10_lost 91 = .ok (.bipush 10, 2) := by decide +kernel
theorem dX10_lost_93 : decode cX10_lost 93 = .ok (.iload_n 2, 1) := by decide +kernel
theorem dX10_lost_94 : decode cX10_lost 94 = .ok (.isub, 1) := by decide +kernel
theorem dX10_lost_95 : decode cX10_lost 95 = .ok (.goto 4, 3) := by decide +kernel
theorem dX10_lost_98 : decode cX10_lost 98 = .ok (.iload_n 2, 1) := by decide +kernel
theorem dX10_lost_99 : decode cX10_lost 99 = .ok (.imul, 1) := by decide +kernel
theorem dX10_lost_100 : decode cX10_lost 100 = .ok (.istore 7, 2) := by decide +kernel
theorem dX10_lost_102 : decode cX10_lost 102 = .ok (.iinc 8 1, 3) := by decide +kernel
theorem dX10_lost_105 : decode cX10_lost 105 = .ok (.goto (-35), 3) := by decide +kernel
theorem dX10_lost_108 : decode cX10_lost 108 = .ok (.iload 5, 2) := by decide +kernel
theorem dX10_lost_110 : decode cX10_lost 110 = .ok (.iload 7, 2) := by decide +kernel
theorem dX10_lost_112 : decode cX10_lost 112 = .ok (.iadd, 1) := by decide +kernel
theorem dX10_lost_113 : decode cX10_lost 113 = .ok (.istore 5, 2) := by decide +kernel
theorem dX10_lost_115 : decode cX10_lost 115 = .ok (.iload 4, 2) := by decide +kernel
theorem dX10_lost_117 : decode cX10_lost 117 = .ok (.aload_n 0, 1) := by decide +kernel
theorem dX10_lost_118 : decode cX10_lost 118 = .ok (.iload 6, 2) := by decide +kernel
theorem dX10_lost_120 : decode cX10_lost 120 = .ok (.invokevirtual 226, 3) := by decide +kernel
theorem dX10_lost_123 : decode cX10_lost 123 = .ok (.iload_n 1, 1) := by decide +kernel
theorem dX10_lost_124 : decode cX10_lost 124 = .ok (.if_icmp .lt 8, 3) := by decide +kernel
theorem dX10_lost_127 : decode cX10_lost 127 = .ok (.iload 7, 2) := by decide +kernel
theorem dX10_lost_129 : decode cX10_lost 129 = .ok (.goto 4, 3) := by decide +kernel
theorem dX10_lost_132 : decode cX10_lost 132 = .ok (.iconst 0, 1) := by decide +kernel
theorem dX10_lost_133 : decode cX10_lost 133 = .ok (.iadd, 1) := by decide +kernel
theorem dX10_lost_134 : decode cX10_lost 134 = .ok (.istore 4, 2) := by decide +kernel
theorem dX10_lost_136 : decode cX10_lost 136 = .ok (.iinc 6 1, 3) := by decide +kernel
theorem dX10_lost_139 : decode cX10_lost 139 = .ok (.goto (-86), 3) := by decide +kernel
theorem dX10_lost_142 : decode cX10_lost 142 = .ok (.iload 4, 2) := by decide +kernel
theorem dX10_lost_144 : decode cX10_lost 144 = .ok (.iload 5, 2) := by decide +kernel
theorem dX10_lost_146 : decode cX10_lost 146 = .ok (.invokestatic 238, 3) := by decide +kernel
theorem dX10_lost_149 : decode cX10_lost 149 = .ok (.istore 6, 2) := by decide +kernel
theorem dX10_lost_151 : decode cX10_lost 151 = .ok (.iload_n 3, 1) := by decide +kernel
theorem dX10_lost_152 : decode cX10_lost 152 = .ok (.ifCond .eq 11, 3) := by decide +kernel
theorem dX10_lost_155 : decode cX10_lost 155 = .ok (.iload 4, 2) := by decide +kernel
theorem dX10_lost_157 : decode cX10_lost 157 = .ok (.iload 6, 2) := by decide +kernel
theorem dX10_lost_159 : decode cX10_lost 159 = .ok (.idiv, 1) := by decide +kernel
theorem dX10_lost_160 : decode cX10_lost 160 = .ok (.goto 8, 3) := by decide +kernel
theorem dX10_lost_163 : decode cX10_lost 163 = .ok (.iload 5, 2) := by decide +kernel
theorem dX10_lost_165 : decode cX10_lost 165 = .ok (.iload 6, 2) := by decide +kernel
theorem dX10_lost_167 : decode cX10_lost 167 = .ok (.idiv, 1) := by decide +kernel
theorem dX10_lost_168 : decode cX10_lost 168 = .ok (.ireturn, 1) := by decide +kernel
theorem dX10_seed_0 : decode cX10_seed 0 = .ok (.aload_n 0, 1) := by decide +kernel
theorem dX10_seed_1 : decode cX10_seed 1 = .ok (.getfield 245, 3) := by decide +kernel
theorem dX10_seed_4 : decode cX10_seed 4 = .ok (.lstore_n 3, 1) := by decide +kernel
theorem dX10_seed_5 : decode cX10_seed 5 = .ok (.aload_n 0, 1) := by decide +kernel
theorem dX10_seed_6 : decode cX10_seed 6 = .ok (.lload_n 1, 1) := by decide +kernel
theorem dX10_seed_7 : decode cX10_seed 7 = .ok (.putfield 245, 3) := by decide +kernel
theorem dX10_seed_10 : decode cX10_seed 10 = .ok (.lload_n 3, 1) := by decide +kernel
theorem dX10_seed_11 : decode cX10_seed 11 = .ok (.lreturn, 1) := by decide +kernel
theorem dX10_drawn_0 : decode cX10_drawn 0 = .ok (.iload_n 1, 1) := by decide +kernel
theorem dX10_drawn_1 : decode cX10_drawn 1 = .ok (.i2l, 1) := by decide +kernel
theorem dX10_drawn_2 : decode cX10_drawn 2 = .ok (.lconst 1, 1) := by decide +kernel
theorem dX10_drawn_3 : decode cX10_drawn 3 = .ok (.ldc2_w 216, 3) := by decide +kernel
theorem dX10_drawn_6 : decode cX10_drawn 6 = .ok (.invokestatic 62, 3) := by decide +kernel
theorem dX10_drawn_9 : decode cX10_drawn 9 = .ok (.ifCond .ne 6, 3) := by decide +kernel
theorem dX10_drawn_12 : decode cX10_drawn 12 = .ok (.bipush (-2), 2) := by decide +kernel
theorem dX10_drawn_14 : decode cX10_drawn 14 = .ok (.ireturn, 1) := by decide +kernel
theorem dX10_drawn_15 : decode cX10_drawn 15 = .ok (.aload_n 0, 1) := by decide +kernel
theorem dX10_drawn_16 : decode cX10_drawn 16 = .ok (.invokevirtual 204, 3) := by decide +kernel
theorem dX10_drawn_19 : decode cX10_drawn 19 = .ok (.iconst 0, 1) := by decide +kernel
theorem dX10_drawn_20 : decode cX10_drawn 20 = .ok (.istore_n 2, 1) := by decide +kernel
theorem dX10_drawn_21 : decode cX10_drawn 21 = .ok (.iconst 0, 1) := by decide +kernel
theorem dX10_drawn_22 : decode cX10_drawn 22 = .ok (.istore_n 3, 1) := by decide +kernel
theorem dX10_drawn_23 : decode cX10_drawn 23 = .ok (.iload_n 3, 1) := by decide +kernel
theorem dX10_drawn_24 : decode cX10_drawn 24 = .ok (.iload_n 1, 1) := by decide +kernel
theorem dX10_drawn_25 : decode cX10_drawn 25 = .ok (.if_icmp .ge 108, 3) := by decide +kernel
theorem dX10_drawn_28 : decode cX10_drawn 28 = .ok (.aload_n 0, 1) := by decide +kernel
theorem dX10_drawn_29 : decode cX10_drawn 29 = .ok (.aload_n 0, 1) := by decide +kernel
theorem dX10_drawn_30 : decode cX10_drawn 30 = .ok (.getfield 245, 3) := by decide +kernel
theorem dX10_drawn_33 : decode cX10_drawn 33 = .ok (.ldc2_w 249, 3) := by decide +kernel
theorem dX10_drawn_36 : decode cX10_drawn 36 = .ok (.lmul, 1) := by decide +kernel
theorem dX10_drawn_37 : decode cX10_drawn 37 = .ok (.ldc2_w 251, 3) := by decide +kernel
theorem dX10_drawn_40 : decode cX10_drawn 40 = .ok (.ladd, 1) := by decide +kernel
theorem dX10_drawn_41 : decode cX10_drawn 41 = .ok (.putfield 245, 3) := by decide +kernel
theorem dX10_drawn_44 : decode cX10_drawn 44 = .ok (.aload_n 0, 1) := by decide +kernel
theorem dX10_drawn_45 : decode cX10_drawn 45 = .ok (.getfield 245, 3) := by decide +kernel
theorem dX10_drawn_48 : decode cX10_drawn 48 = .ok (.bipush 33, 2) := by decide +kernel
theorem dX10_drawn_50 : decode cX10_drawn 50 = .ok (.lushr, 1) := by decide +kernel
theorem dX10_drawn_51 : decode cX10_drawn 51 = .ok (.l2i, 1) := by decide +kernel
theorem dX10_drawn_52 : decode cX10_drawn 52 = .ok (.istore 4, 2) := by decide +kernel
theorem dX10_drawn_54 : decode cX10_drawn 54 = .ok (.aload_n 0, 1) := by decide +kernel
theorem dX10_drawn_55 : decode cX10_drawn 55 = .ok (.iconst 1, 1) := by decide +kernel
theorem dX10_drawn_56 : decode cX10_drawn 56 = .ok (.invokevirtual 127, 3) := by decide +kernel
theorem dX10_drawn_59 : decode cX10_drawn 59 = .ok (.bipush 16, 2) := by decide +kernel
theorem dX10_drawn_61 : decode cX10_drawn 61 = .ok (.if_icmp .ge 32, 3) := by decide +kernel
theorem dX10_drawn_64 : decode cX10_drawn 64 = .ok (.aload_n 0, 1) := by decide +kernel
theorem dX10_drawn_65 : decode cX10_drawn 65 = .ok (.iconst 1, 1) := by decide +kernel
theorem dX10_drawn_66 : decode cX10_drawn 66 = .ok (.iload 4, 2) := by decide +kernel
theorem dX10_drawn_68 : decode cX10_drawn 68 = .ok (.iconst 4, 1) := by decide +kernel
theorem dX10_drawn_69 : decode cX10_drawn 69 = .ok (.irem, 1) := by decide +kernel
theorem dX10_drawn_70 : decode cX10_drawn 70 = .ok (.iload 4, 2) := by decide +kernel
theorem dX10_drawn_72 : decode cX10_drawn 72 = .ok (.iconst 4, 1) := by decide +kernel
theorem dX10_drawn_73 : decode cX10_drawn 73 = .ok (.idiv, 1) := by decide +kernel
theorem dX10_drawn_74 : decode cX10_drawn 74 = .ok (.iconst 5, 1) := by decide +kernel
theorem dX10_drawn_75 : decode cX10_drawn 75 = .ok (.irem, 1) := by decide +kernel
theorem dX10_drawn_76 : decode cX10_drawn 76 = .ok (.iload 4, 2) := by decide +kernel
theorem dX10_drawn_78 : decode cX10_drawn 78 = .ok (.bipush 32, 2) := by decide +kernel
theorem dX10_drawn_80 : decode cX10_drawn 80 = .ok (.idiv, 1) := by decide +kernel
theorem dX10_drawn_81 : decode cX10_drawn 81 = .ok (.bipush 101, 2) := by decide +kernel
theorem dX10_drawn_83 : decode cX10_drawn 83 = .ok (.irem, 1) := by decide +kernel
theorem dX10_drawn_84 : decode cX10_drawn 84 = .ok (.invokestatic 176, 3) := by decide +kernel
theorem dX10_drawn_87 : decode cX10_drawn 87 = .ok (.invokevirtual 179, 3) := by decide +kernel
theorem dX10_drawn_90 : decode cX10_drawn 90 = .ok (.goto 9, 3) := by decide +kernel
theorem dX10_drawn_93 : decode cX10_drawn 93 = .ok (.aload_n 0, 1) := by decide +kernel
theorem dX10_drawn_94 : decode cX10_drawn 94 = .ok (.iconst 1, 1) := by decide +kernel
theorem dX10_drawn_95 : decode cX10_drawn 95 = .ok (.iconst 0, 1) := by decide +kernel
theorem dX10_drawn_96 : decode cX10_drawn 96 = .ok (.invokevirtual 186, 3) := by decide +kernel
theorem dX10_drawn_99 : decode cX10_drawn 99 = .ok (.aload_n 0, 1) := by decide +kernel
theorem dX10_drawn_100 : decode cX10_drawn 100 = .ok (.iconst 1, 1) := by decide +kernel
theorem dX10_drawn_101 : decode cX10_drawn 101 = .ok (.aload_n 0, 1) := by decide +kernel
theorem dX10_drawn_102 : decode cX10_drawn 102 = .ok (.iconst 1, 1) := by decide +kernel
theorem dX10_drawn_103 : decode cX10_drawn 103 = .ok (.invokevirtual 201, 3) := by decide +kernel
theorem dX10_drawn_106 : decode cX10_drawn 106 = .ok (.invokevirtual 147, 3) := by decide +kernel
theorem dX10_drawn_109 : decode cX10_drawn 109 = .ok (.istore 5, 2) := by decide +kernel
theorem dX10_drawn_111 : decode cX10_drawn 111 = .ok (.iload_n 2, 1) := by decide +kernel
theorem dX10_drawn_112 : decode cX10_drawn 112 = .ok (.iload 5, 2) := by decide +kernel
theorem dX10_drawn_114 : decode cX10_drawn 114 = .ok (.bipush (-9), 2) := by decide +kernel
theorem dX10_drawn_116 : decode cX10_drawn 116 = .ok (.if_icmp .ne 7, 3) := by decide +kernel
theorem dX10_drawn_119 : decode cX10_drawn 119 = .ok (.iconst 0, 1) := by decide +kernel
theorem dX10_drawn_120 : decode cX10_drawn 120 = .ok (.goto 5, 3) := by decide +kernel
theorem dX10_drawn_123 : decode cX10_drawn 123 = .ok (.iload 5, 2) := by decide +kernel
theorem dX10_drawn_125 : decode cX10_drawn 125 = .ok (.iadd, 1) := by decide +kernel
theorem dX10_drawn_126 : decode cX10_drawn 126 = .ok (.istore_n 2, 1) := by decide +kernel
theorem dX10_drawn_127 : decode cX10_drawn 127 = .ok (.iinc 3 1, 3) := by decide +kernel
theorem dX10_drawn_130 : decode cX10_drawn 130 = .ok (.goto (-107), 3) := by decide +kernel
theorem dX10_drawn_133 : decode cX10_drawn 133 = .ok (.iload_n 2, 1) := by decide +kernel
theorem dX10_drawn_134 : decode cX10_drawn 134 = .ok (.ireturn, 1) := by decide +kernel
theorem dX10_keep_0 : decode cX10_keep 0 = .ok (.iload_n 1, 1) := by decide +kernel
theorem dX10_keep_1 : decode cX10_keep 1 = .ok (.i2l, 1) := by decide +kernel
theorem dX10_keep_2 : decode cX10_keep 2 = .ok (.lconst 0, 1) := by decide +kernel
theorem dX10_keep_3 : decode cX10_keep 3 = .ok (.lconst 1, 1) := by decide +kernel
theorem dX10_keep_4 : decode cX10_keep 4 = .ok (.invokestatic 62, 3) := by decide +kernel
theorem dX10_keep_7 : decode cX10_keep 7 = .ok (.ifCond .ne 5, 3) := by decide +kernel
theorem dX10_keep_10 : decode cX10_keep 10 = .ok (.iconst (-1), 1) := by decide +kernel
theorem dX10_keep_11 : decode cX10_keep 11 = .ok (.ireturn, 1) := by decide +kernel
theorem dX10_keep_12 : decode cX10_keep 12 = .ok (.aload_n 0, 1) := by decide +kernel
theorem dX10_keep_13 : decode cX10_keep 13 = .ok (.getfield 53, 3) := by decide +kernel
theorem dX10_keep_16 : decode cX10_keep 16 = .ok (.iload_n 1, 1) := by decide +kernel
theorem dX10_keep_17 : decode cX10_keep 17 = .ok (.iconst 1, 1) := by decide +kernel
theorem dX10_keep_18 : decode cX10_keep 18 = .ok (.bastore, 1) := by decide +kernel
theorem dX10_keep_19 : decode cX10_keep 19 = .ok (.iconst 0, 1) := by decide +kernel
theorem dX10_keep_20 : decode cX10_keep 20 = .ok (.istore_n 2, 1) := by decide +kernel
theorem dX10_keep_21 : decode cX10_keep 21 = .ok (.iload_n 2, 1) := by decide +kernel
theorem dX10_keep_22 : decode cX10_keep 22 = .ok (.bipush 17, 2) := by decide +kernel
theorem dX10_keep_24 : decode cX10_keep 24 = .ok (.if_icmp .ge 26, 3) := by decide +kernel
theorem dX10_keep_27 : decode cX10_keep 27 = .ok (.aload_n 0, 1) := by decide +kernel
theorem dX10_keep_28 : decode cX10_keep 28 = .ok (.getfield 57, 3) := by decide +kernel
theorem dX10_keep_31 : decode cX10_keep 31 = .ok (.bipush 17, 2) := by decide +kernel
theorem dX10_keep_33 : decode cX10_keep 33 = .ok (.iload_n 1, 1) := by decide +kernel
theorem dX10_keep_34 : decode cX10_keep 34 = .ok (.imul, 1) := by decide +kernel
theorem dX10_keep_35 : decode cX10_keep 35 = .ok (.iload_n 2, 1) := by decide +kernel
theorem dX10_keep_36 : decode cX10_keep 36 = .ok (.iadd, 1) := by decide +kernel
theorem dX10_keep_37 : decode cX10_keep 37 = .ok (.aload_n 0, 1) := by decide +kernel
theorem dX10_keep_38 : decode cX10_keep 38 = .ok (.getfield 23, 3) := by decide +kernel
theorem dX10_keep_41 : decode cX10_keep 41 = .ok (.iload_n 2, 1) := by decide +kernel
theorem dX10_keep_42 : decode cX10_keep 42 = .ok (.iaload, 1) := by decide +kernel
theorem dX10_keep_43 : decode cX10_keep 43 = .ok (.iastore, 1) := by decide +kernel
theorem dX10_keep_44 : decode cX10_keep 44 = .ok (.iinc 2 1, 3) := by decide +kernel
theorem dX10_keep_47 : decode cX10_keep 47 = .ok (.goto (-26), 3) := by decide +kernel
theorem dX10_keep_50 : decode cX10_keep 50 = .ok (.aload_n 0, 1) := by decide +kernel
theorem dX10_keep_51 : decode cX10_keep 51 = .ok (.iconst 0, 1) := by decide +kernel
theorem dX10_keep_52 : decode cX10_keep 52 = .ok (.invokevirtual 127, 3) := by decide +kernel
theorem dX10_keep_55 : decode cX10_keep 55 = .ok (.ireturn, 1) := by decide +kernel
theorem dX10_again_0 : decode cX10_again 0 = .ok (.iload_n 1, 1) := by decide +kernel
theorem dX10_again_1 : decode cX10_again 1 = .ok (.i2l, 1) := by decide +kernel
theorem dX10_again_2 : decode cX10_again 2 = .ok (.lconst 0, 1) := by decide +kernel
theorem dX10_again_3 : decode cX10_again 3 = .ok (.lconst 1, 1) := by decide +kernel
theorem dX10_again_4 : decode cX10_again 4 = .ok (.invokestatic 62, 3) := by decide +kernel
theorem dX10_again_7 : decode cX10_again 7 = .ok (.ifCond .ne 5, 3) := by decide +kernel
theorem dX10_again_10 : decode cX10_again 10 = .ok (.iconst (-1), 1) := by decide +kernel
theorem dX10_again_11 : decode cX10_again 11 = .ok (.ireturn, 1) := by decide +kernel
theorem dX10_again_12 : decode cX10_again 12 = .ok (.aload_n 0, 1) := by decide +kernel
theorem dX10_again_13 : decode cX10_again 13 = .ok (.getfield 53, 3) := by decide +kernel
theorem dX10_again_16 : decode cX10_again 16 = .ok (.iload_n 1, 1) := by decide +kernel
theorem dX10_again_17 : decode cX10_again 17 = .ok (.baload, 1) := by decide +kernel
theorem dX10_again_18 : decode cX10_again 18 = .ok (.ifCond .ne 6, 3) := by decide +kernel
theorem dX10_again_21 : decode cX10_again 21 = .ok (.bipush (-3), 2) := by decide +kernel
theorem dX10_again_23 : decode cX10_again 23 = .ok (.ireturn, 1) := by decide +kernel
theorem dX10_again_24 : decode cX10_again 24 = .ok (.iconst 0, 1) := by decide +kernel
theorem dX10_again_25 : decode cX10_again 25 = .ok (.istore_n 2, 1) := by decide +kernel
theorem dX10_again_26 : decode cX10_again 26 = .ok (.iload_n 2, 1) := by decide +kernel
theorem dX10_again_27 : decode cX10_again 27 = .ok (.bipush 17, 2) := by decide +kernel
theorem dX10_again_29 : decode cX10_again 29 = .ok (.if_icmp .ge 26, 3) := by decide +kernel
theorem dX10_again_32 : decode cX10_again 32 = .ok (.aload_n 0, 1) := by decide +kernel
theorem dX10_again_33 : decode cX10_again 33 = .ok (.getfield 23, 3) := by decide +kernel
theorem dX10_again_36 : decode cX10_again 36 = .ok (.iload_n 2, 1) := by decide +kernel
theorem dX10_again_37 : decode cX10_again 37 = .ok (.aload_n 0, 1) := by decide +kernel
theorem dX10_again_38 : decode cX10_again 38 = .ok (.getfield 57, 3) := by decide +kernel
theorem dX10_again_41 : decode cX10_again 41 = .ok (.bipush 17, 2) := by decide +kernel
theorem dX10_again_43 : decode cX10_again 43 = .ok (.iload_n 1, 1) := by decide +kernel
theorem dX10_again_44 : decode cX10_again 44 = .ok (.imul, 1) := by decide +kernel
theorem dX10_again_45 : decode cX10_again 45 = .ok (.iload_n 2, 1) := by decide +kernel
theorem dX10_again_46 : decode cX10_again 46 = .ok (.iadd, 1) := by decide +kernel
theorem dX10_again_47 : decode cX10_again 47 = .ok (.iaload, 1) := by decide +kernel
theorem dX10_again_48 : decode cX10_again 48 = .ok (.iastore, 1) := by decide +kernel
theorem dX10_again_49 : decode cX10_again 49 = .ok (.iinc 2 1, 3) := by decide +kernel
theorem dX10_again_52 : decode cX10_again 52 = .ok (.goto (-26), 3) := by decide +kernel
theorem dX10_again_55 : decode cX10_again 55 = .ok (.aload_n 0, 1) := by decide +kernel
theorem dX10_again_56 : decode cX10_again 56 = .ok (.iconst 0, 1) := by decide +kernel
theorem dX10_again_57 : decode cX10_again 57 = .ok (.putfield 160, 3) := by decide +kernel
theorem dX10_again_60 : decode cX10_again 60 = .ok (.aload_n 0, 1) := by decide +kernel
theorem dX10_again_61 : decode cX10_again 61 = .ok (.iconst 0, 1) := by decide +kernel
theorem dX10_again_62 : decode cX10_again 62 = .ok (.invokevirtual 127, 3) := by decide +kernel
theorem dX10_again_65 : decode cX10_again 65 = .ok (.ireturn, 1) := by decide +kernel
theorem dX10_filledCells_0 : decode cX10_filledCells 0 = .ok (.iconst 0, 1) := by decide +kernel
theorem dX10_filledCells_1 : decode cX10_filledCells 1 = .ok (.istore_n 1, 1) := by decide +kernel
theorem dX10_filledCells_2 : decode cX10_filledCells 2 = .ok (.iconst 0, 1) := by decide +kernel
theorem dX10_filledCells_3 : decode cX10_filledCells 3 = .ok (.istore_n 2, 1) := by decide +kernel
theorem dX10_filledCells_4 : decode cX10_filledCells 4 = .ok (.iload_n 2, 1) := by decide +kernel
theorem dX10_filledCells_5 : decode cX10_filledCells 5 = .ok (.aload_n 0, 1) := by decide +kernel
theorem dX10_filledCells_6 : decode cX10_filledCells 6 = .ok (.getfield 119, 3) := by decide +kernel
theorem dX10_filledCells_9 : decode cX10_filledCells 9 = .ok (.if_icmp .ge 49, 3) := by decide +kernel
theorem dX10_filledCells_12 : decode cX10_filledCells 12 = .ok (.iconst 0, 1) := by decide +kernel
theorem dX10_filledCells_13 : decode cX10_filledCells 13 = .ok (.istore_n 3, 1) := by decide +kernel
theorem dX10_filledCells_14 : decode cX10_filledCells 14 = .ok (.iload_n 3, 1) := by decide +kernel
theorem dX10_filledCells_15 : decode cX10_filledCells 15 = .ok (.aload_n 0, 1) := by decide +kernel
theorem dX10_filledCells_16 : decode cX10_filledCells 16 = .ok (.getfield 154, 3) := by decide +kernel
theorem dX10_filledCells_19 : decode cX10_filledCells 19 = .ok (.if_icmp .ge 33, 3) := by decide +kernel
theorem dX10_filledCells_22 : decode cX10_filledCells 22 = .ok (.iload_n 1, 1) := by decide +kernel
theorem dX10_filledCells_23 : decode cX10_filledCells 23 = .ok (.aload_n 0, 1) := by decide +kernel
theorem dX10_filledCells_24 : decode cX10_filledCells 24 = .ok (.getfield 29, 3) := by decide +kernel
theorem dX10_filledCells_27 : decode cX10_filledCells 27 = .ok (.iload_n 2, 1) := by decide +kernel
theorem dX10_filledCells_28 : decode cX10_filledCells 28 = .ok (.iaload, 1) := by decide +kernel
theorem dX10_filledCells_29 : decode cX10_filledCells 29 = .ok (.aload_n 0, 1) := by decide +kernel
theorem dX10_filledCells_30 : decode cX10_filledCells 30 = .ok (.getfield 35, 3) := by decide +kernel
theorem dX10_filledCells_33 : decode cX10_filledCells 33 = .ok (.iload_n 3, 1) := by decide +kernel
theorem dX10_filledCells_34 : decode cX10_filledCells 34 = .ok (.iaload, 1) := by decide +kernel
theorem dX10_filledCells_35 : decode cX10_filledCells 35 = .ok (.iand, 1) := by decide +kernel
theorem dX10_filledCells_36 : decode cX10_filledCells 36 = .ok (.ifCond .ne 7, 3) := by decide +kernel
theorem dX10_filledCells_39 : decode cX10_filledCells 39 = .ok (.iconst 0, 1) := by decide +kernel
theorem dX10_filledCells_40 : decode cX10_filledCells 40 = .ok (.goto 4, 3) := by decide +kernel
theorem dX10_filledCells_43 : decode cX10_filledCells 43 = .ok (.iconst 1, 1) := by decide +kernel
theorem dX10_filledCells_44 : decode cX10_filledCells 44 = .ok (.iadd, 1) := by decide +kernel
theorem dX10_filledCells_45 : decode cX10_filledCells 45 = .ok (.istore_n 1, 1) := by decide +kernel
theorem dX10_filledCells_46 : decode cX10_filledCells 46 = .ok (.iinc 3 1, 3) := by decide +kernel
theorem dX10_filledCells_49 : decode cX10_filledCells 49 = .ok (.goto (-35), 3) := by decide +kernel
theorem dX10_filledCells_52 : decode cX10_filledCells 52 = .ok (.iinc 2 1, 3) := by decide +kernel
theorem dX10_filledCells_55 : decode cX10_filledCells 55 = .ok (.goto (-51), 3) := by decide +kernel
theorem dX10_filledCells_58 : decode cX10_filledCells 58 = .ok (.iload_n 1, 1) := by decide +kernel
theorem dX10_filledCells_59 : decode cX10_filledCells 59 = .ok (.ireturn, 1) := by decide +kernel
theorem dX10_missingAmounts_0 : decode cX10_missingAmounts 0 = .ok (.iconst 0, 1) := by decide +kernel
theorem dX10_missingAmounts_1 : decode cX10_missingAmounts 1 = .ok (.istore_n 1, 1) := by decide +kernel
theorem dX10_missingAmounts_2 : decode cX10_missingAmounts 2 = .ok (.iconst 0, 1) := by decide +kernel
theorem dX10_missingAmounts_3 : decode cX10_missingAmounts 3 = .ok (.istore_n 2, 1) := by decide +kernel
theorem dX10_missingAmounts_4 : decode cX10_missingAmounts 4 = .ok (.iload_n 2, 1) := by decide +kernel
theorem dX10_missingAmounts_5 : decode cX10_missingAmounts 5 = .ok (.aload_n 0, 1) := by decide +kernel
theorem dX10_missingAmounts_6 : decode cX10_missingAmounts 6 = .ok (.iconst 0, 1) := by decide +kernel
theorem dX10_missingAmounts_7 : decode cX10_missingAmounts 7 = .ok (.invokevirtual 127, 3) := by decide +kernel
theorem dX10_missingAmounts_10 : decode cX10_missingAmounts 10 = .ok (.if_icmp .ge 28, 3) := by decide +kernel
theorem dX10_missingAmounts_13 : decode cX10_missingAmounts 13 = .ok (.iload_n 1, 1) := by decide +kernel
theorem dX10_missingAmounts_14 : decode cX10_missingAmounts 14 = .ok (.aload_n 0, 1) := by decide +kernel
theorem dX10_missingAmounts_15 : decode cX10_missingAmounts 15 = .ok (.iconst 0, 1) := by decide +kernel
theorem dX10_missingAmounts_16 : decode cX10_missingAmounts 16 = .ok (.iload_n 2, 1) := by decide +kernel
theorem dX10_missingAmounts_17 : decode cX10_missingAmounts 17 = .ok (.invokevirtual 134, 3) := by decide +kernel
theorem dX10_missingAmounts_20 : decode cX10_missingAmounts 20 = .ok (.bipush 100, 2) := by decide +kernel
theorem dX10_missingAmounts_22 : decode cX10_missingAmounts 22 = .ok (.if_icmp .ne 7, 3) := by decide +kernel
theorem dX10_missingAmounts_25 : decode cX10_missingAmounts 25 = .ok (.iconst 1, 1) := by decide +kernel
theorem dX10_missingAmounts_26 : decode cX10_missingAmounts 26 = .ok (.goto 4, 3) := by decide +kernel
theorem dX10_missingAmounts_29 : decode cX10_missingAmounts 29 = .ok (.iconst 0, 1) := by decide +kernel
theorem dX10_missingAmounts_30 : decode cX10_missingAmounts 30 = .ok (.iadd, 1) := by decide +kernel
theorem dX10_missingAmounts_31 : decode cX10_missingAmounts 31 = .ok (.istore_n 1, 1) := by decide +kernel
theorem dX10_missingAmounts_32 : decode cX10_missingAmounts 32 = .ok (.iinc 2 1, 3) := by decide +kernel
theorem dX10_missingAmounts_35 : decode cX10_missingAmounts 35 = .ok (.goto (-31), 3) := by decide +kernel
theorem dX10_missingAmounts_38 : decode cX10_missingAmounts 38 = .ok (.iload_n 1, 1) := by decide +kernel
theorem dX10_missingAmounts_39 : decode cX10_missingAmounts 39 = .ok (.ireturn, 1) := by decide +kernel
theorem dX10_count_0 : decode cX10_count 0 = .ok (.aload_n 0, 1) := by decide +kernel
theorem dX10_count_1 : decode cX10_count 1 = .ok (.iconst 0, 1) := by decide +kernel
theorem dX10_count_2 : decode cX10_count 2 = .ok (.invokevirtual 115, 3) := by decide +kernel
theorem dX10_count_5 : decode cX10_count 5 = .ok (.aload_n 0, 1) := by decide +kernel
theorem dX10_count_6 : decode cX10_count 6 = .ok (.iconst 0, 1) := by decide +kernel
theorem dX10_count_7 : decode cX10_count 7 = .ok (.invokevirtual 192, 3) := by decide +kernel
theorem dX10_count_10 : decode cX10_count 10 = .ok (.iload_n 1, 1) := by decide +kernel
theorem dX10_count_11 : decode cX10_count 11 = .ok (.tableswitch 86 0 7 #[45, 50, 56, 61, 66, 71, 76, 81], 45) := by decide +kernel
theorem dX10_count_56 : decode cX10_count 56 = .ok (.aload_n 0, 1) := by decide +kernel
theorem dX10_count_57 : decode cX10_count 57 = .ok (.getfield 66, 3) := by decide +kernel
theorem dX10_count_60 : decode cX10_count 60 = .ok (.ireturn, 1) := by decide +kernel
theorem dX10_count_61 : decode cX10_count 61 = .ok (.aload_n 0, 1) := by decide +kernel
theorem dX10_count_62 : decode cX10_count 62 = .ok (.iconst 0, 1) := by decide +kernel
theorem dX10_count_63 : decode cX10_count 63 = .ok (.invokevirtual 127, 3) := by decide +kernel
theorem dX10_count_66 : decode cX10_count 66 = .ok (.ireturn, 1) := by decide +kernel
theorem dX10_count_67 : decode cX10_count 67 = .ok (.aload_n 0, 1) := by decide +kernel
theorem dX10_count_68 : decode cX10_count 68 = .ok (.getfield 119, 3) := by decide +kernel
theorem dX10_count_71 : decode cX10_count 71 = .ok (.ireturn, 1) := by decide +kernel
theorem dX10_count_72 : decode cX10_count 72 = .ok (.aload_n 0, 1) := by decide +kernel
theorem dX10_count_73 : decode cX10_count 73 = .ok (.getfield 154, 3) := by decide +kernel
theorem dX10_count_76 : decode cX10_count 76 = .ok (.ireturn, 1) := by decide +kernel
theorem dX10_count_77 : decode cX10_count 77 = .ok (.aload_n 0, 1) := by decide +kernel
theorem dX10_count_78 : decode cX10_count 78 = .ok (.invokevirtual 253, 3) := by decide +kernel
theorem dX10_count_81 : decode cX10_count 81 = .ok (.ireturn, 1) := by decide +kernel
theorem dX10_count_82 : decode cX10_count 82 = .ok (.aload_n 0, 1) := by decide +kernel
theorem dX10_count_83 : decode cX10_count 83 = .ok (.invokevirtual 256, 3) := by decide +kernel
theorem dX10_count_86 : decode cX10_count 86 = .ok (.ireturn, 1) := by decide +kernel
theorem dX10_count_87 : decode cX10_count 87 = .ok (.aload_n 0, 1) := by decide +kernel
theorem dX10_count_88 : decode cX10_count 88 = .ok (.getfield 160, 3) := by decide +kernel
theorem dX10_count_91 : decode cX10_count 91 = .ok (.ireturn, 1) := by decide +kernel
theorem dX10_count_92 : decode cX10_count 92 = .ok (.aload_n 0, 1) := by decide +kernel
theorem dX10_count_93 : decode cX10_count 93 = .ok (.getfield 220, 3) := by decide +kernel
theorem dX10_count_96 : decode cX10_count 96 = .ok (.ireturn, 1) := by decide +kernel
theorem dX10_count_97 : decode cX10_count 97 = .ok (.bipush (-2), 2) := by decide +kernel
theorem dX10_count_99 : decode cX10_count 99 = .ok (.ireturn, 1) := by decide +kernel
