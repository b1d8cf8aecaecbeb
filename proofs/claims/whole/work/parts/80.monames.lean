abbrev b_Mo_init : ByteArray := prog_14_method_1_code
def y_Mo_init : MethodName := ⟨R_Mo, "<init>", "(I)V"⟩
theorem d_Mo_init_0 : decode b_Mo_init 0 = .ok (.aload_n 0, 1) := by decide +kernel
theorem d_Mo_init_1 : decode b_Mo_init 1 = .ok (.invokespecial 1, 3) := by decide +kernel
theorem d_Mo_init_4 : decode b_Mo_init 4 = .ok (.aload_n 0, 1) := by decide +kernel
theorem d_Mo_init_5 : decode b_Mo_init 5 = .ok (.ldc 7, 2) := by decide +kernel
theorem d_Mo_init_7 : decode b_Mo_init 7 = .ok (.newarray .byte, 2) := by decide +kernel
theorem d_Mo_init_9 : decode b_Mo_init 9 = .ok (.putfield 8, 3) := by decide +kernel
theorem d_Mo_init_12 : decode b_Mo_init 12 = .ok (.aload_n 0, 1) := by decide +kernel
theorem d_Mo_init_13 : decode b_Mo_init 13 = .ok (.ldc 7, 2) := by decide +kernel
theorem d_Mo_init_15 : decode b_Mo_init 15 = .ok (.newarray .byte, 2) := by decide +kernel
theorem d_Mo_init_17 : decode b_Mo_init 17 = .ok (.putfield 14, 3) := by decide +kernel
theorem d_Mo_init_20 : decode b_Mo_init 20 = .ok (.aload_n 0, 1) := by decide +kernel
theorem d_Mo_init_21 : decode b_Mo_init 21 = .ok (.sipush 4096, 3) := by decide +kernel
theorem d_Mo_init_24 : decode b_Mo_init 24 = .ok (.newarray .byte, 2) := by decide +kernel
theorem d_Mo_init_26 : decode b_Mo_init 26 = .ok (.putfield 17, 3) := by decide +kernel
theorem d_Mo_init_29 : decode b_Mo_init 29 = .ok (.aload_n 0, 1) := by decide +kernel
theorem d_Mo_init_30 : decode b_Mo_init 30 = .ok (.bipush 20, 2) := by decide +kernel
theorem d_Mo_init_32 : decode b_Mo_init 32 = .ok (.newarray .byte, 2) := by decide +kernel
theorem d_Mo_init_34 : decode b_Mo_init 34 = .ok (.putfield 20, 3) := by decide +kernel
theorem d_Mo_init_37 : decode b_Mo_init 37 = .ok (.aload_n 0, 1) := by decide +kernel
theorem d_Mo_init_38 : decode b_Mo_init 38 = .ok (.sipush 560, 3) := by decide +kernel
theorem d_Mo_init_41 : decode b_Mo_init 41 = .ok (.newarray .boolean, 2) := by decide +kernel
theorem d_Mo_init_43 : decode b_Mo_init 43 = .ok (.putfield 23, 3) := by decide +kernel
theorem d_Mo_init_46 : decode b_Mo_init 46 = .ok (.aload_n 0, 1) := by decide +kernel
theorem d_Mo_init_47 : decode b_Mo_init 47 = .ok (.sipush 4200, 3) := by decide +kernel
theorem d_Mo_init_50 : decode b_Mo_init 50 = .ok (.newarray .int, 2) := by decide +kernel
theorem d_Mo_init_52 : decode b_Mo_init 52 = .ok (.putfield 27, 3) := by decide +kernel
theorem d_Mo_init_55 : decode b_Mo_init 55 = .ok (.aload_n 0, 1) := by decide +kernel
theorem d_Mo_init_56 : decode b_Mo_init 56 = .ok (.sipush 4200, 3) := by decide +kernel
theorem d_Mo_init_59 : decode b_Mo_init 59 = .ok (.newarray .int, 2) := by decide +kernel
theorem d_Mo_init_61 : decode b_Mo_init 61 = .ok (.putfield 31, 3) := by decide +kernel
theorem d_Mo_init_64 : decode b_Mo_init 64 = .ok (.aload_n 0, 1) := by decide +kernel
theorem d_Mo_init_65 : decode b_Mo_init 65 = .ok (.sipush 4200, 3) := by decide +kernel
theorem d_Mo_init_68 : decode b_Mo_init 68 = .ok (.newarray .int, 2) := by decide +kernel
theorem d_Mo_init_70 : decode b_Mo_init 70 = .ok (.putfield 34, 3) := by decide +kernel
theorem d_Mo_init_73 : decode b_Mo_init 73 = .ok (.aload_n 0, 1) := by decide +kernel
theorem d_Mo_init_74 : decode b_Mo_init 74 = .ok (.sipush 4200, 3) := by decide +kernel
theorem d_Mo_init_77 : decode b_Mo_init 77 = .ok (.newarray .int, 2) := by decide +kernel
theorem d_Mo_init_79 : decode b_Mo_init 79 = .ok (.putfield 37, 3) := by decide +kernel
theorem d_Mo_init_82 : decode b_Mo_init 82 = .ok (.aload_n 0, 1) := by decide +kernel
theorem d_Mo_init_83 : decode b_Mo_init 83 = .ok (.sipush 4200, 3) := by decide +kernel
theorem d_Mo_init_86 : decode b_Mo_init 86 = .ok (.newarray .int, 2) := by decide +kernel
theorem d_Mo_init_88 : decode b_Mo_init 88 = .ok (.putfield 40, 3) := by decide +kernel
theorem d_Mo_init_91 : decode b_Mo_init 91 = .ok (.aload_n 0, 1) := by decide +kernel
theorem d_Mo_init_92 : decode b_Mo_init 92 = .ok (.sipush 4200, 3) := by decide +kernel
theorem d_Mo_init_95 : decode b_Mo_init 95 = .ok (.newarray .int, 2) := by decide +kernel
theorem d_Mo_init_97 : decode b_Mo_init 97 = .ok (.putfield 43, 3) := by decide +kernel
theorem d_Mo_init_100 : decode b_Mo_init 100 = .ok (.aload_n 0, 1) := by decide +kernel
theorem d_Mo_init_101 : decode b_Mo_init 101 = .ok (.sipush 4200, 3) := by decide +kernel
theorem d_Mo_init_104 : decode b_Mo_init 104 = .ok (.newarray .int, 2) := by decide +kernel
theorem d_Mo_init_106 : decode b_Mo_init 106 = .ok (.putfield 46, 3) := by decide +kernel
theorem d_Mo_init_109 : decode b_Mo_init 109 = .ok (.aload_n 0, 1) := by decide +kernel
theorem d_Mo_init_110 : decode b_Mo_init 110 = .ok (.sipush 4200, 3) := by decide +kernel
theorem d_Mo_init_113 : decode b_Mo_init 113 = .ok (.newarray .int, 2) := by decide +kernel
theorem d_Mo_init_115 : decode b_Mo_init 115 = .ok (.putfield 49, 3) := by decide +kernel
theorem d_Mo_init_118 : decode b_Mo_init 118 = .ok (.aload_n 0, 1) := by decide +kernel
theorem d_Mo_init_119 : decode b_Mo_init 119 = .ok (.ldc 52, 2) := by decide +kernel
theorem d_Mo_init_121 : decode b_Mo_init 121 = .ok (.newarray .char, 2) := by decide +kernel
theorem d_Mo_init_123 : decode b_Mo_init 123 = .ok (.putfield 53, 3) := by decide +kernel
theorem d_Mo_init_126 : decode b_Mo_init 126 = .ok (.aload_n 0, 1) := by decide +kernel
theorem d_Mo_init_127 : decode b_Mo_init 127 = .ok (.sipush 560, 3) := by decide +kernel
theorem d_Mo_init_130 : decode b_Mo_init 130 = .ok (.newarray .int, 2) := by decide +kernel
theorem d_Mo_init_132 : decode b_Mo_init 132 = .ok (.putfield 57, 3) := by decide +kernel
theorem d_Mo_init_135 : decode b_Mo_init 135 = .ok (.aload_n 0, 1) := by decide +kernel
theorem d_Mo_init_136 : decode b_Mo_init 136 = .ok (.sipush 560, 3) := by decide +kernel
theorem d_Mo_init_139 : decode b_Mo_init 139 = .ok (.newarray .int, 2) := by decide +kernel
theorem d_Mo_init_141 : decode b_Mo_init 141 = .ok (.putfield 60, 3) := by decide +kernel
theorem d_Mo_init_144 : decode b_Mo_init 144 = .ok (.aload_n 0, 1) := by decide +kernel
theorem d_Mo_init_145 : decode b_Mo_init 145 = .ok (.sipush 300, 3) := by decide +kernel
theorem d_Mo_init_148 : decode b_Mo_init 148 = .ok (.newarray .char, 2) := by decide +kernel
theorem d_Mo_init_150 : decode b_Mo_init 150 = .ok (.putfield 63, 3) := by decide +kernel
theorem d_Mo_init_153 : decode b_Mo_init 153 = .ok (.aload_n 0, 1) := by decide +kernel
theorem d_Mo_init_154 : decode b_Mo_init 154 = .ok (.bipush 11, 2) := by decide +kernel
theorem d_Mo_init_156 : decode b_Mo_init 156 = .ok (.newarray .int, 2) := by decide +kernel
theorem d_Mo_init_158 : decode b_Mo_init 158 = .ok (.putfield 66, 3) := by decide +kernel
theorem d_Mo_init_161 : decode b_Mo_init 161 = .ok (.aload_n 0, 1) := by decide +kernel
theorem d_Mo_init_162 : decode b_Mo_init 162 = .ok (.sipush 255, 3) := by decide +kernel
theorem d_Mo_init_165 : decode b_Mo_init 165 = .ok (.newarray .int, 2) := by decide +kernel
theorem d_Mo_init_167 : decode b_Mo_init 167 = .ok (.putfield 69, 3) := by decide +kernel
theorem d_Mo_init_170 : decode b_Mo_init 170 = .ok (.aload_n 0, 1) := by decide +kernel
theorem d_Mo_init_171 : decode b_Mo_init 171 = .ok (.iconst 3, 1) := by decide +kernel
theorem d_Mo_init_172 : decode b_Mo_init 172 = .ok (.newarray .int, 2) := by decide +kernel
theorem d_Mo_init_174 : decode b_Mo_init 174 = .ok (.putfield 72, 3) := by decide +kernel
theorem d_Mo_init_177 : decode b_Mo_init 177 = .ok (.aload_n 0, 1) := by decide +kernel
theorem d_Mo_init_178 : decode b_Mo_init 178 = .ok (.sipush 512, 3) := by decide +kernel
theorem d_Mo_init_181 : decode b_Mo_init 181 = .ok (.newarray .boolean, 2) := by decide +kernel
theorem d_Mo_init_183 : decode b_Mo_init 183 = .ok (.putfield 75, 3) := by decide +kernel
theorem d_Mo_init_186 : decode b_Mo_init 186 = .ok (.aload_n 0, 1) := by decide +kernel
theorem d_Mo_init_187 : decode b_Mo_init 187 = .ok (.sipush 512, 3) := by decide +kernel
theorem d_Mo_init_190 : decode b_Mo_init 190 = .ok (.newarray .boolean, 2) := by decide +kernel
theorem d_Mo_init_192 : decode b_Mo_init 192 = .ok (.putfield 78, 3) := by decide +kernel
theorem d_Mo_init_195 : decode b_Mo_init 195 = .ok (.aload_n 0, 1) := by decide +kernel
theorem d_Mo_init_196 : decode b_Mo_init 196 = .ok (.sipush 560, 3) := by decide +kernel
theorem d_Mo_init_199 : decode b_Mo_init 199 = .ok (.newarray .int, 2) := by decide +kernel
theorem d_Mo_init_201 : decode b_Mo_init 201 = .ok (.putfield 81, 3) := by decide +kernel
theorem d_Mo_init_204 : decode b_Mo_init 204 = .ok (.aload_n 0, 1) := by decide +kernel
theorem d_Mo_init_205 : decode b_Mo_init 205 = .ok (.sipush 560, 3) := by decide +kernel
theorem d_Mo_init_208 : decode b_Mo_init 208 = .ok (.newarray .int, 2) := by decide +kernel
theorem d_Mo_init_210 : decode b_Mo_init 210 = .ok (.putfield 84, 3) := by decide +kernel
theorem d_Mo_init_213 : decode b_Mo_init 213 = .ok (.aload_n 0, 1) := by decide +kernel
theorem d_Mo_init_214 : decode b_Mo_init 214 = .ok (.sipush 512, 3) := by decide +kernel
theorem d_Mo_init_217 : decode b_Mo_init 217 = .ok (.newarray .int, 2) := by decide +kernel
theorem d_Mo_init_219 : decode b_Mo_init 219 = .ok (.putfield 87, 3) := by decide +kernel
theorem d_Mo_init_222 : decode b_Mo_init 222 = .ok (.aload_n 0, 1) := by decide +kernel
theorem d_Mo_init_223 : decode b_Mo_init 223 = .ok (.sipush 512, 3) := by decide +kernel
theorem d_Mo_init_226 : decode b_Mo_init 226 = .ok (.newarray .int, 2) := by decide +kernel
theorem d_Mo_init_228 : decode b_Mo_init 228 = .ok (.putfield 90, 3) := by decide +kernel
theorem d_Mo_init_231 : decode b_Mo_init 231 = .ok (.aload_n 0, 1) := by decide +kernel
theorem d_Mo_init_232 : decode b_Mo_init 232 = .ok (.sipush 512, 3) := by decide +kernel
theorem d_Mo_init_235 : decode b_Mo_init 235 = .ok (.newarray .int, 2) := by decide +kernel
theorem d_Mo_init_237 : decode b_Mo_init 237 = .ok (.putfield 93, 3) := by decide +kernel
theorem d_Mo_init_240 : decode b_Mo_init 240 = .ok (.iload_n 1, 1) := by decide +kernel
theorem d_Mo_init_241 : decode b_Mo_init 241 = .ok (.sipush 256, 3) := by decide +kernel
theorem d_Mo_init_244 : decode b_Mo_init 244 = .ok (.if_icmp .ge 9, 3) := by decide +kernel
theorem d_Mo_init_247 : decode b_Mo_init 247 = .ok (.sipush 256, 3) := by decide +kernel
theorem d_Mo_init_250 : decode b_Mo_init 250 = .ok (.goto 17, 3) := by decide +kernel
theorem d_Mo_init_253 : decode b_Mo_init 253 = .ok (.iload_n 1, 1) := by decide +kernel
theorem d_Mo_init_254 : decode b_Mo_init 254 = .ok (.sipush 1024, 3) := by decide +kernel
theorem d_Mo_init_257 : decode b_Mo_init 257 = .ok (.if_icmp .le 9, 3) := by decide +kernel
theorem d_Mo_init_260 : decode b_Mo_init 260 = .ok (.sipush 1024, 3) := by decide +kernel
theorem d_Mo_init_263 : decode b_Mo_init 263 = .ok (.goto 4, 3) := by decide +kernel
theorem d_Mo_init_266 : decode b_Mo_init 266 = .ok (.iload_n 1, 1) := by decide +kernel
theorem d_Mo_init_267 : decode b_Mo_init 267 = .ok (.istore_n 2, 1) := by decide +kernel
theorem d_Mo_init_268 : decode b_Mo_init 268 = .ok (.aload_n 0, 1) := by decide +kernel
theorem d_Mo_init_269 : decode b_Mo_init 269 = .ok (.iload_n 2, 1) := by decide +kernel
theorem d_Mo_init_270 : decode b_Mo_init 270 = .ok (.iconst 2, 1) := by decide +kernel
theorem d_Mo_init_271 : decode b_Mo_init 271 = .ok (.irem, 1) := by decide +kernel
theorem d_Mo_init_272 : decode b_Mo_init 272 = .ok (.ifCond .ne 7, 3) := by decide +kernel
theorem d_Mo_init_275 : decode b_Mo_init 275 = .ok (.iload_n 2, 1) := by decide +kernel
theorem d_Mo_init_276 : decode b_Mo_init 276 = .ok (.goto 6, 3) := by decide +kernel
theorem d_Mo_init_279 : decode b_Mo_init 279 = .ok (.iload_n 2, 1) := by decide +kernel
theorem d_Mo_init_280 : decode b_Mo_init 280 = .ok (.iconst 1, 1) := by decide +kernel
theorem d_Mo_init_281 : decode b_Mo_init 281 = .ok (.isub, 1) := by decide +kernel
theorem d_Mo_init_282 : decode b_Mo_init 282 = .ok (.putfield 96, 3) := by decide +kernel
theorem d_Mo_init_285 : decode b_Mo_init 285 = .ok (.return_, 1) := by decide +kernel
abbrev b_Mo_thrown : ByteArray := prog_14_method_2_code
def y_Mo_thrown : MethodName := ⟨R_Mo, "thrown", "()I"⟩
theorem d_Mo_thrown_0 : decode b_Mo_thrown 0 = .ok (.aload_n 0, 1) := by decide +kernel
theorem d_Mo_thrown_1 : decode b_Mo_thrown 1 = .ok (.getfield 100, 3) := by decide +kernel
theorem d_Mo_thrown_4 : decode b_Mo_thrown 4 = .ok (.ireturn, 1) := by decide +kernel
abbrev b_Mo_fails : ByteArray := prog_14_method_3_code
def y_Mo_fails : MethodName := ⟨R_Mo, "fails", "(ZI)Z"⟩
theorem d_Mo_fails_0 : decode b_Mo_fails 0 = .ok (.iload_n 1, 1) := by decide +kernel
theorem d_Mo_fails_1 : decode b_Mo_fails 1 = .ok (.ifCond .eq 15, 3) := by decide +kernel
theorem d_Mo_fails_4 : decode b_Mo_fails 4 = .ok (.aload_n 0, 1) := by decide +kernel
theorem d_Mo_fails_5 : decode b_Mo_fails 5 = .ok (.getfield 100, 3) := by decide +kernel
theorem d_Mo_fails_8 : decode b_Mo_fails 8 = .ok (.ifCond .ne 8, 3) := by decide +kernel
theorem d_Mo_fails_11 : decode b_Mo_fails 11 = .ok (.aload_n 0, 1) := by decide +kernel
theorem d_Mo_fails_12 : decode b_Mo_fails 12 = .ok (.iload_n 2, 1) := by decide +kernel
theorem d_Mo_fails_13 : decode b_Mo_fails 13 = .ok (.putfield 100, 3) := by decide +kernel
theorem d_Mo_fails_16 : decode b_Mo_fails 16 = .ok (.aload_n 0, 1) := by decide +kernel
theorem d_Mo_fails_17 : decode b_Mo_fails 17 = .ok (.getfield 100, 3) := by decide +kernel
theorem d_Mo_fails_20 : decode b_Mo_fails 20 = .ok (.ifCond .eq 7, 3) := by decide +kernel
theorem d_Mo_fails_23 : decode b_Mo_fails 23 = .ok (.iconst 1, 1) := by decide +kernel
theorem d_Mo_fails_24 : decode b_Mo_fails 24 = .ok (.goto 4, 3) := by decide +kernel
theorem d_Mo_fails_27 : decode b_Mo_fails 27 = .ok (.iconst 0, 1) := by decide +kernel
theorem d_Mo_fails_28 : decode b_Mo_fails 28 = .ok (.ireturn, 1) := by decide +kernel
abbrev b_Mo_one : ByteArray := prog_14_method_4_code
def y_Mo_one : MethodName := ⟨R_Mo, "one", "(I)I"⟩
theorem d_Mo_one_0 : decode b_Mo_one 0 = .ok (.aload_n 0, 1) := by decide +kernel
theorem d_Mo_one_1 : decode b_Mo_one 1 = .ok (.getfield 8, 3) := by decide +kernel
theorem d_Mo_one_4 : decode b_Mo_one 4 = .ok (.iload_n 1, 1) := by decide +kernel
theorem d_Mo_one_5 : decode b_Mo_one 5 = .ok (.baload, 1) := by decide +kernel
theorem d_Mo_one_6 : decode b_Mo_one 6 = .ok (.sipush 255, 3) := by decide +kernel
theorem d_Mo_one_9 : decode b_Mo_one 9 = .ok (.iand, 1) := by decide +kernel
theorem d_Mo_one_10 : decode b_Mo_one 10 = .ok (.ireturn, 1) := by decide +kernel
abbrev b_Mo_two : ByteArray := prog_14_method_5_code
def y_Mo_two : MethodName := ⟨R_Mo, "two", "(I)I"⟩
theorem d_Mo_two_0 : decode b_Mo_two 0 = .ok (.aload_n 0, 1) := by decide +kernel
theorem d_Mo_two_1 : decode b_Mo_two 1 = .ok (.iload_n 1, 1) := by decide +kernel
theorem d_Mo_two_2 : decode b_Mo_two 2 = .ok (.invokevirtual 103, 3) := by decide +kernel
theorem d_Mo_two_5 : decode b_Mo_two 5 = .ok (.aload_n 0, 1) := by decide +kernel
theorem d_Mo_two_6 : decode b_Mo_two 6 = .ok (.iload_n 1, 1) := by decide +kernel
theorem d_Mo_two_7 : decode b_Mo_two 7 = .ok (.iconst 1, 1) := by decide +kernel
theorem d_Mo_two_8 : decode b_Mo_two 8 = .ok (.iadd, 1) := by decide +kernel
theorem d_Mo_two_9 : decode b_Mo_two 9 = .ok (.invokevirtual 103, 3) := by decide +kernel
theorem d_Mo_two_12 : decode b_Mo_two 12 = .ok (.bipush 8, 2) := by decide +kernel
theorem d_Mo_two_14 : decode b_Mo_two 14 = .ok (.ishl, 1) := by decide +kernel
theorem d_Mo_two_15 : decode b_Mo_two 15 = .ok (.ior, 1) := by decide +kernel
theorem d_Mo_two_16 : decode b_Mo_two 16 = .ok (.ireturn, 1) := by decide +kernel
abbrev b_Mo_four : ByteArray := prog_14_method_6_code
def y_Mo_four : MethodName := ⟨R_Mo, "four", "(I)I"⟩
theorem d_Mo_four_0 : decode b_Mo_four 0 = .ok (.aload_n 0, 1) := by decide +kernel
theorem d_Mo_four_1 : decode b_Mo_four 1 = .ok (.iload_n 1, 1) := by decide +kernel
theorem d_Mo_four_2 : decode b_Mo_four 2 = .ok (.invokevirtual 107, 3) := by decide +kernel
theorem d_Mo_four_5 : decode b_Mo_four 5 = .ok (.aload_n 0, 1) := by decide +kernel
theorem d_Mo_four_6 : decode b_Mo_four 6 = .ok (.iload_n 1, 1) := by decide +kernel
theorem d_Mo_four_7 : decode b_Mo_four 7 = .ok (.iconst 2, 1) := by decide +kernel
theorem d_Mo_four_8 : decode b_Mo_four 8 = .ok (.iadd, 1) := by decide +kernel
theorem d_Mo_four_9 : decode b_Mo_four 9 = .ok (.invokevirtual 107, 3) := by decide +kernel
theorem d_Mo_four_12 : decode b_Mo_four 12 = .ok (.bipush 16, 2) := by decide +kernel
theorem d_Mo_four_14 : decode b_Mo_four 14 = .ok (.ishl, 1) := by decide +kernel
theorem d_Mo_four_15 : decode b_Mo_four 15 = .ok (.ior, 1) := by decide +kernel
theorem d_Mo_four_16 : decode b_Mo_four 16 = .ok (.ireturn, 1) := by decide +kernel
abbrev b_Mo_set : ByteArray := prog_14_method_7_code
def y_Mo_set : MethodName := ⟨R_Mo, "set", "(IIJ)V"⟩
theorem d_Mo_set_0 : decode b_Mo_set 0 = .ok (.iconst 0, 1) := by decide +kernel
theorem d_Mo_set_1 : decode b_Mo_set 1 = .ok (.istore 5, 2) := by decide +kernel
theorem d_Mo_set_3 : decode b_Mo_set 3 = .ok (.iload 5, 2) := by decide +kernel
theorem d_Mo_set_5 : decode b_Mo_set 5 = .ok (.iload_n 2, 1) := by decide +kernel
theorem d_Mo_set_6 : decode b_Mo_set 6 = .ok (.if_icmp .ge 27, 3) := by decide +kernel
theorem d_Mo_set_9 : decode b_Mo_set 9 = .ok (.aload_n 0, 1) := by decide +kernel
theorem d_Mo_set_10 : decode b_Mo_set 10 = .ok (.getfield 8, 3) := by decide +kernel
theorem d_Mo_set_13 : decode b_Mo_set 13 = .ok (.iload_n 1, 1) := by decide +kernel
theorem d_Mo_set_14 : decode b_Mo_set 14 = .ok (.iload 5, 2) := by decide +kernel
theorem d_Mo_set_16 : decode b_Mo_set 16 = .ok (.iadd, 1) := by decide +kernel
theorem d_Mo_set_17 : decode b_Mo_set 17 = .ok (.lload_n 3, 1) := by decide +kernel
theorem d_Mo_set_18 : decode b_Mo_set 18 = .ok (.bipush 8, 2) := by decide +kernel
theorem d_Mo_set_20 : decode b_Mo_set 20 = .ok (.iload 5, 2) := by decide +kernel
theorem d_Mo_set_22 : decode b_Mo_set 22 = .ok (.imul, 1) := by decide +kernel
theorem d_Mo_set_23 : decode b_Mo_set 23 = .ok (.lshr, 1) := by decide +kernel
theorem d_Mo_set_24 : decode b_Mo_set 24 = .ok (.l2i, 1) := by decide +kernel
theorem d_Mo_set_25 : decode b_Mo_set 25 = .ok (.i2b, 1) := by decide +kernel
theorem d_Mo_set_26 : decode b_Mo_set 26 = .ok (.bastore, 1) := by decide +kernel
theorem d_Mo_set_27 : decode b_Mo_set 27 = .ok (.iinc 5 1, 3) := by decide +kernel
theorem d_Mo_set_30 : decode b_Mo_set 30 = .ok (.goto (-27), 3) := by decide +kernel
theorem d_Mo_set_33 : decode b_Mo_set 33 = .ok (.return_, 1) := by decide +kernel
abbrev b_Mo_entryAt : ByteArray := prog_14_method_9_code
def y_Mo_entryAt : MethodName := ⟨R_Mo, "entryAt", "(II)I"⟩
theorem d_Mo_entryAt_0 : decode b_Mo_entryAt 0 = .ok (.sipush 512, 3) := by decide +kernel
theorem d_Mo_entryAt_3 : decode b_Mo_entryAt 3 = .ok (.aload_n 0, 1) := by decide +kernel
theorem d_Mo_entryAt_4 : decode b_Mo_entryAt 4 = .ok (.getfield 110, 3) := by decide +kernel
theorem d_Mo_entryAt_7 : decode b_Mo_entryAt 7 = .ok (.iload_n 1, 1) := by decide +kernel
theorem d_Mo_entryAt_8 : decode b_Mo_entryAt 8 = .ok (.aload_n 0, 1) := by decide +kernel
theorem d_Mo_entryAt_9 : decode b_Mo_entryAt 9 = .ok (.getfield 113, 3) := by decide +kernel
theorem d_Mo_entryAt_12 : decode b_Mo_entryAt 12 = .ok (.imul, 1) := by decide +kernel
theorem d_Mo_entryAt_13 : decode b_Mo_entryAt 13 = .ok (.iadd, 1) := by decide +kernel
theorem d_Mo_entryAt_14 : decode b_Mo_entryAt 14 = .ok (.imul, 1) := by decide +kernel
theorem d_Mo_entryAt_15 : decode b_Mo_entryAt 15 = .ok (.iconst 4, 1) := by decide +kernel
theorem d_Mo_entryAt_16 : decode b_Mo_entryAt 16 = .ok (.iload_n 2, 1) := by decide +kernel
theorem d_Mo_entryAt_17 : decode b_Mo_entryAt 17 = .ok (.imul, 1) := by decide +kernel
theorem d_Mo_entryAt_18 : decode b_Mo_entryAt 18 = .ok (.iadd, 1) := by decide +kernel
theorem d_Mo_entryAt_19 : decode b_Mo_entryAt 19 = .ok (.ireturn, 1) := by decide +kernel
abbrev b_Mo_setEntry : ByteArray := prog_14_method_11_code
def y_Mo_setEntry : MethodName := ⟨R_Mo, "setEntry", "(II)V"⟩
theorem d_Mo_setEntry_0 : decode b_Mo_setEntry 0 = .ok (.iconst 0, 1) := by decide +kernel
theorem d_Mo_setEntry_1 : decode b_Mo_setEntry 1 = .ok (.istore_n 3, 1) := by decide +kernel
theorem d_Mo_setEntry_2 : decode b_Mo_setEntry 2 = .ok (.iload_n 3, 1) := by decide +kernel
theorem d_Mo_setEntry_3 : decode b_Mo_setEntry 3 = .ok (.aload_n 0, 1) := by decide +kernel
theorem d_Mo_setEntry_4 : decode b_Mo_setEntry 4 = .ok (.getfield 124, 3) := by decide +kernel
theorem d_Mo_setEntry_7 : decode b_Mo_setEntry 7 = .ok (.if_icmp .ge 36, 3) := by decide +kernel
theorem d_Mo_setEntry_10 : decode b_Mo_setEntry 10 = .ok (.aload_n 0, 1) := by decide +kernel
theorem d_Mo_setEntry_11 : decode b_Mo_setEntry 11 = .ok (.iload_n 3, 1) := by decide +kernel
theorem d_Mo_setEntry_12 : decode b_Mo_setEntry 12 = .ok (.iload_n 1, 1) := by decide +kernel
theorem d_Mo_setEntry_13 : decode b_Mo_setEntry 13 = .ok (.invokevirtual 116, 3) := by decide +kernel
theorem d_Mo_setEntry_16 : decode b_Mo_setEntry 16 = .ok (.istore 4, 2) := by decide +kernel
theorem d_Mo_setEntry_18 : decode b_Mo_setEntry 18 = .ok (.aload_n 0, 1) := by decide +kernel
theorem d_Mo_setEntry_19 : decode b_Mo_setEntry 19 = .ok (.iload 4, 2) := by decide +kernel
theorem d_Mo_setEntry_21 : decode b_Mo_setEntry 21 = .ok (.iconst 4, 1) := by decide +kernel
theorem d_Mo_setEntry_22 : decode b_Mo_setEntry 22 = .ok (.iload_n 2, 1) := by decide +kernel
theorem d_Mo_setEntry_23 : decode b_Mo_setEntry 23 = .ok (.aload_n 0, 1) := by decide +kernel
theorem d_Mo_setEntry_24 : decode b_Mo_setEntry 24 = .ok (.iload 4, 2) := by decide +kernel
theorem d_Mo_setEntry_26 : decode b_Mo_setEntry 26 = .ok (.invokevirtual 120, 3) := by decide +kernel
theorem d_Mo_setEntry_29 : decode b_Mo_setEntry 29 = .ok (.ldc 127, 2) := by decide +kernel
theorem d_Mo_setEntry_31 : decode b_Mo_setEntry 31 = .ok (.iand, 1) := by decide +kernel
theorem d_Mo_setEntry_32 : decode b_Mo_setEntry 32 = .ok (.ior, 1) := by decide +kernel
theorem d_Mo_setEntry_33 : decode b_Mo_setEntry 33 = .ok (.i2l, 1) := by decide +kernel
theorem d_Mo_setEntry_34 : decode b_Mo_setEntry 34 = .ok (.invokevirtual 128, 3) := by decide +kernel
theorem d_Mo_setEntry_37 : decode b_Mo_setEntry 37 = .ok (.iinc 3 1, 3) := by decide +kernel
theorem d_Mo_setEntry_40 : decode b_Mo_setEntry 40 = .ok (.goto (-38), 3) := by decide +kernel
theorem d_Mo_setEntry_43 : decode b_Mo_setEntry 43 = .ok (.return_, 1) := by decide +kernel
abbrev b_Mo_isCluster : ByteArray := prog_14_method_12_code
def y_Mo_isCluster : MethodName := ⟨R_Mo, "isCluster", "(I)Z"⟩
theorem d_Mo_isCluster_0 : decode b_Mo_isCluster 0 = .ok (.iload_n 1, 1) := by decide +kernel
theorem d_Mo_isCluster_1 : decode b_Mo_isCluster 1 = .ok (.iconst 2, 1) := by decide +kernel
theorem d_Mo_isCluster_2 : decode b_Mo_isCluster 2 = .ok (.if_icmp .lt 17, 3) := by decide +kernel
theorem d_Mo_isCluster_5 : decode b_Mo_isCluster 5 = .ok (.iload_n 1, 1) := by decide +kernel
theorem d_Mo_isCluster_6 : decode b_Mo_isCluster 6 = .ok (.aload_n 0, 1) := by decide +kernel
theorem d_Mo_isCluster_7 : decode b_Mo_isCluster 7 = .ok (.getfield 132, 3) := by decide +kernel
theorem d_Mo_isCluster_10 : decode b_Mo_isCluster 10 = .ok (.iconst 1, 1) := by decide +kernel
theorem d_Mo_isCluster_11 : decode b_Mo_isCluster 11 = .ok (.iadd, 1) := by decide +kernel
theorem d_Mo_isCluster_12 : decode b_Mo_isCluster 12 = .ok (.if_icmp .gt 7, 3) := by decide +kernel
theorem d_Mo_isCluster_15 : decode b_Mo_isCluster 15 = .ok (.iconst 1, 1) := by decide +kernel
theorem d_Mo_isCluster_16 : decode b_Mo_isCluster 16 = .ok (.goto 4, 3) := by decide +kernel
theorem d_Mo_isCluster_19 : decode b_Mo_isCluster 19 = .ok (.iconst 0, 1) := by decide +kernel
theorem d_Mo_isCluster_20 : decode b_Mo_isCluster 20 = .ok (.ireturn, 1) := by decide +kernel
abbrev b_Mo_head : ByteArray := prog_14_method_14_code
def y_Mo_head : MethodName := ⟨R_Mo, "head", "()Z"⟩
theorem d_Mo_head_0 : decode b_Mo_head 0 = .ok (.aload_n 0, 1) := by decide +kernel
theorem d_Mo_head_1 : decode b_Mo_head 1 = .ok (.aload_n 0, 1) := by decide +kernel
theorem d_Mo_head_2 : decode b_Mo_head 2 = .ok (.bipush 13, 2) := by decide +kernel
theorem d_Mo_head_4 : decode b_Mo_head 4 = .ok (.invokevirtual 103, 3) := by decide +kernel
theorem d_Mo_head_7 : decode b_Mo_head 7 = .ok (.putfield 138, 3) := by decide +kernel
theorem d_Mo_head_10 : decode b_Mo_head 10 = .ok (.aload_n 0, 1) := by decide +kernel
theorem d_Mo_head_11 : decode b_Mo_head 11 = .ok (.aload_n 0, 1) := by decide +kernel
theorem d_Mo_head_12 : decode b_Mo_head 12 = .ok (.bipush 14, 2) := by decide +kernel
theorem d_Mo_head_14 : decode b_Mo_head 14 = .ok (.invokevirtual 107, 3) := by decide +kernel
theorem d_Mo_head_17 : decode b_Mo_head 17 = .ok (.putfield 110, 3) := by decide +kernel
theorem d_Mo_head_20 : decode b_Mo_head 20 = .ok (.aload_n 0, 1) := by decide +kernel
theorem d_Mo_head_21 : decode b_Mo_head 21 = .ok (.aload_n 0, 1) := by decide +kernel
theorem d_Mo_head_22 : decode b_Mo_head 22 = .ok (.bipush 16, 2) := by decide +kernel
theorem d_Mo_head_24 : decode b_Mo_head 24 = .ok (.invokevirtual 103, 3) := by decide +kernel
theorem d_Mo_head_27 : decode b_Mo_head 27 = .ok (.putfield 124, 3) := by decide +kernel
theorem d_Mo_head_30 : decode b_Mo_head 30 = .ok (.aload_n 0, 1) := by decide +kernel
theorem d_Mo_head_31 : decode b_Mo_head 31 = .ok (.aload_n 0, 1) := by decide +kernel
theorem d_Mo_head_32 : decode b_Mo_head 32 = .ok (.bipush 36, 2) := by decide +kernel
theorem d_Mo_head_34 : decode b_Mo_head 34 = .ok (.invokevirtual 120, 3) := by decide +kernel
theorem d_Mo_head_37 : decode b_Mo_head 37 = .ok (.putfield 113, 3) := by decide +kernel
theorem d_Mo_head_40 : decode b_Mo_head 40 = .ok (.aload_n 0, 1) := by decide +kernel
theorem d_Mo_head_41 : decode b_Mo_head 41 = .ok (.aload_n 0, 1) := by decide +kernel
theorem d_Mo_head_42 : decode b_Mo_head 42 = .ok (.bipush 44, 2) := by decide +kernel
theorem d_Mo_head_44 : decode b_Mo_head 44 = .ok (.invokevirtual 120, 3) := by decide +kernel
theorem d_Mo_head_47 : decode b_Mo_head 47 = .ok (.putfield 141, 3) := by decide +kernel
theorem d_Mo_head_50 : decode b_Mo_head 50 = .ok (.aload_n 0, 1) := by decide +kernel
theorem d_Mo_head_51 : decode b_Mo_head 51 = .ok (.bipush 11, 2) := by decide +kernel
theorem d_Mo_head_53 : decode b_Mo_head 53 = .ok (.invokevirtual 107, 3) := by decide +kernel
theorem d_Mo_head_56 : decode b_Mo_head 56 = .ok (.sipush 512, 3) := by decide +kernel
theorem d_Mo_head_59 : decode b_Mo_head 59 = .ok (.if_icmp .ne 156, 3) := by decide +kernel
theorem d_Mo_head_62 : decode b_Mo_head 62 = .ok (.aload_n 0, 1) := by decide +kernel
theorem d_Mo_head_63 : decode b_Mo_head 63 = .ok (.getfield 138, 3) := by decide +kernel
theorem d_Mo_head_66 : decode b_Mo_head 66 = .ok (.iconst 2, 1) := by decide +kernel
theorem d_Mo_head_67 : decode b_Mo_head 67 = .ok (.if_icmp .eq 20, 3) := by decide +kernel
theorem d_Mo_head_70 : decode b_Mo_head 70 = .ok (.aload_n 0, 1) := by decide +kernel
theorem d_Mo_head_71 : decode b_Mo_head 71 = .ok (.getfield 138, 3) := by decide +kernel
theorem d_Mo_head_74 : decode b_Mo_head 74 = .ok (.iconst 4, 1) := by decide +kernel
theorem d_Mo_head_75 : decode b_Mo_head 75 = .ok (.if_icmp .eq 12, 3) := by decide +kernel
theorem d_Mo_head_78 : decode b_Mo_head 78 = .ok (.aload_n 0, 1) := by decide +kernel
theorem d_Mo_head_79 : decode b_Mo_head 79 = .ok (.getfield 138, 3) := by decide +kernel
theorem d_Mo_head_82 : decode b_Mo_head 82 = .ok (.bipush 8, 2) := by decide +kernel
theorem d_Mo_head_84 : decode b_Mo_head 84 = .ok (.if_icmp .ne 131, 3) := by decide +kernel
theorem d_Mo_head_87 : decode b_Mo_head 87 = .ok (.aload_n 0, 1) := by decide +kernel
theorem d_Mo_head_88 : decode b_Mo_head 88 = .ok (.getfield 110, 3) := by decide +kernel
theorem d_Mo_head_91 : decode b_Mo_head 91 = .ok (.bipush 8, 2) := by decide +kernel
theorem d_Mo_head_93 : decode b_Mo_head 93 = .ok (.if_icmp .lt 122, 3) := by decide +kernel
theorem d_Mo_head_96 : decode b_Mo_head 96 = .ok (.aload_n 0, 1) := by decide +kernel
theorem d_Mo_head_97 : decode b_Mo_head 97 = .ok (.getfield 110, 3) := by decide +kernel
theorem d_Mo_head_100 : decode b_Mo_head 100 = .ok (.bipush 64, 2) := by decide +kernel
theorem d_Mo_head_102 : decode b_Mo_head 102 = .ok (.if_icmp .gt 113, 3) := by decide +kernel
theorem d_Mo_head_105 : decode b_Mo_head 105 = .ok (.aload_n 0, 1) := by decide +kernel
theorem d_Mo_head_106 : decode b_Mo_head 106 = .ok (.getfield 124, 3) := by decide +kernel
theorem d_Mo_head_109 : decode b_Mo_head 109 = .ok (.iconst 1, 1) := by decide +kernel
theorem d_Mo_head_110 : decode b_Mo_head 110 = .ok (.if_icmp .eq 11, 3) := by decide +kernel
theorem d_Mo_head_113 : decode b_Mo_head 113 = .ok (.aload_n 0, 1) := by decide +kernel
theorem d_Mo_head_114 : decode b_Mo_head 114 = .ok (.getfield 124, 3) := by decide +kernel
theorem d_Mo_head_117 : decode b_Mo_head 117 = .ok (.iconst 2, 1) := by decide +kernel
theorem d_Mo_head_118 : decode b_Mo_head 118 = .ok (.if_icmp .ne 97, 3) := by decide +kernel
theorem d_Mo_head_121 : decode b_Mo_head 121 = .ok (.aload_n 0, 1) := by decide +kernel
theorem d_Mo_head_122 : decode b_Mo_head 122 = .ok (.bipush 17, 2) := by decide +kernel
theorem d_Mo_head_124 : decode b_Mo_head 124 = .ok (.invokevirtual 107, 3) := by decide +kernel
theorem d_Mo_head_127 : decode b_Mo_head 127 = .ok (.ifCond .ne 88, 3) := by decide +kernel
theorem d_Mo_head_130 : decode b_Mo_head 130 = .ok (.aload_n 0, 1) := by decide +kernel
theorem d_Mo_head_131 : decode b_Mo_head 131 = .ok (.bipush 19, 2) := by decide +kernel
theorem d_Mo_head_133 : decode b_Mo_head 133 = .ok (.invokevirtual 107, 3) := by decide +kernel
theorem d_Mo_head_136 : decode b_Mo_head 136 = .ok (.ifCond .ne 79, 3) := by decide +kernel
theorem d_Mo_head_139 : decode b_Mo_head 139 = .ok (.aload_n 0, 1) := by decide +kernel
theorem d_Mo_head_140 : decode b_Mo_head 140 = .ok (.bipush 22, 2) := by decide +kernel
theorem d_Mo_head_142 : decode b_Mo_head 142 = .ok (.invokevirtual 107, 3) := by decide +kernel
theorem d_Mo_head_145 : decode b_Mo_head 145 = .ok (.ifCond .ne 70, 3) := by decide +kernel
theorem d_Mo_head_148 : decode b_Mo_head 148 = .ok (.aload_n 0, 1) := by decide +kernel
theorem d_Mo_head_149 : decode b_Mo_head 149 = .ok (.bipush 32, 2) := by decide +kernel
theorem d_Mo_head_151 : decode b_Mo_head 151 = .ok (.invokevirtual 120, 3) := by decide +kernel
theorem d_Mo_head_154 : decode b_Mo_head 154 = .ok (.aload_n 0, 1) := by decide +kernel
theorem d_Mo_head_155 : decode b_Mo_head 155 = .ok (.getfield 96, 3) := by decide +kernel
theorem d_Mo_head_158 : decode b_Mo_head 158 = .ok (.if_icmp .ne 57, 3) := by decide +kernel
theorem d_Mo_head_161 : decode b_Mo_head 161 = .ok (.aload_n 0, 1) := by decide +kernel
theorem d_Mo_head_162 : decode b_Mo_head 162 = .ok (.getfield 113, 3) := by decide +kernel
theorem d_Mo_head_165 : decode b_Mo_head 165 = .ok (.iconst 1, 1) := by decide +kernel
theorem d_Mo_head_166 : decode b_Mo_head 166 = .ok (.if_icmp .lt 49, 3) := by decide +kernel
theorem d_Mo_head_169 : decode b_Mo_head 169 = .ok (.aload_n 0, 1) := by decide +kernel
theorem d_Mo_head_170 : decode b_Mo_head 170 = .ok (.getfield 113, 3) := by decide +kernel
theorem d_Mo_head_173 : decode b_Mo_head 173 = .ok (.bipush 32, 2) := by decide +kernel
theorem d_Mo_head_175 : decode b_Mo_head 175 = .ok (.if_icmp .gt 40, 3) := by decide +kernel
theorem d_Mo_head_178 : decode b_Mo_head 178 = .ok (.aload_n 0, 1) := by decide +kernel
theorem d_Mo_head_179 : decode b_Mo_head 179 = .ok (.bipush 48, 2) := by decide +kernel
theorem d_Mo_head_181 : decode b_Mo_head 181 = .ok (.invokevirtual 107, 3) := by decide +kernel
theorem d_Mo_head_184 : decode b_Mo_head 184 = .ok (.iconst 1, 1) := by decide +kernel
theorem d_Mo_head_185 : decode b_Mo_head 185 = .ok (.if_icmp .ne 30, 3) := by decide +kernel
theorem d_Mo_head_188 : decode b_Mo_head 188 = .ok (.aload_n 0, 1) := by decide +kernel
theorem d_Mo_head_189 : decode b_Mo_head 189 = .ok (.bipush 50, 2) := by decide +kernel
theorem d_Mo_head_191 : decode b_Mo_head 191 = .ok (.invokevirtual 107, 3) := by decide +kernel
theorem d_Mo_head_194 : decode b_Mo_head 194 = .ok (.bipush 6, 2) := by decide +kernel
theorem d_Mo_head_196 : decode b_Mo_head 196 = .ok (.if_icmp .ne 19, 3) := by decide +kernel
theorem d_Mo_head_199 : decode b_Mo_head 199 = .ok (.aload_n 0, 1) := by decide +kernel
theorem d_Mo_head_200 : decode b_Mo_head 200 = .ok (.sipush 510, 3) := by decide +kernel
theorem d_Mo_head_203 : decode b_Mo_head 203 = .ok (.invokevirtual 107, 3) := by decide +kernel
theorem d_Mo_head_206 : decode b_Mo_head 206 = .ok (.ldc 144, 2) := by decide +kernel
theorem d_Mo_head_208 : decode b_Mo_head 208 = .ok (.if_icmp .ne 7, 3) := by decide +kernel
theorem d_Mo_head_211 : decode b_Mo_head 211 = .ok (.iconst 1, 1) := by decide +kernel
theorem d_Mo_head_212 : decode b_Mo_head 212 = .ok (.goto 4, 3) := by decide +kernel
theorem d_Mo_head_215 : decode b_Mo_head 215 = .ok (.iconst 0, 1) := by decide +kernel
theorem d_Mo_head_216 : decode b_Mo_head 216 = .ok (.istore_n 1, 1) := by decide +kernel
theorem d_Mo_head_217 : decode b_Mo_head 217 = .ok (.iload_n 1, 1) := by decide +kernel
theorem d_Mo_head_218 : decode b_Mo_head 218 = .ok (.ifCond .ne 5, 3) := by decide +kernel
theorem d_Mo_head_221 : decode b_Mo_head 221 = .ok (.iconst 0, 1) := by decide +kernel
theorem d_Mo_head_222 : decode b_Mo_head 222 = .ok (.ireturn, 1) := by decide +kernel
theorem d_Mo_head_223 : decode b_Mo_head 223 = .ok (.aload_n 0, 1) := by decide +kernel
theorem d_Mo_head_224 : decode b_Mo_head 224 = .ok (.aload_n 0, 1) := by decide +kernel
theorem d_Mo_head_225 : decode b_Mo_head 225 = .ok (.getfield 110, 3) := by decide +kernel
theorem d_Mo_head_228 : decode b_Mo_head 228 = .ok (.aload_n 0, 1) := by decide +kernel
theorem d_Mo_head_229 : decode b_Mo_head 229 = .ok (.getfield 124, 3) := by decide +kernel
theorem d_Mo_head_232 : decode b_Mo_head 232 = .ok (.aload_n 0, 1) := by decide +kernel
theorem d_Mo_head_233 : decode b_Mo_head 233 = .ok (.getfield 113, 3) := by decide +kernel
theorem d_Mo_head_236 : decode b_Mo_head 236 = .ok (.imul, 1) := by decide +kernel
theorem d_Mo_head_237 : decode b_Mo_head 237 = .ok (.iadd, 1) := by decide +kernel
theorem d_Mo_head_238 : decode b_Mo_head 238 = .ok (.putfield 135, 3) := by decide +kernel
theorem d_Mo_head_241 : decode b_Mo_head 241 = .ok (.aload_n 0, 1) := by decide +kernel
theorem d_Mo_head_242 : decode b_Mo_head 242 = .ok (.aload_n 0, 1) := by decide +kernel
theorem d_Mo_head_243 : decode b_Mo_head 243 = .ok (.getfield 96, 3) := by decide +kernel
theorem d_Mo_head_246 : decode b_Mo_head 246 = .ok (.aload_n 0, 1) := by decide +kernel
theorem d_Mo_head_247 : decode b_Mo_head 247 = .ok (.getfield 135, 3) := by decide +kernel
theorem d_Mo_head_250 : decode b_Mo_head 250 = .ok (.isub, 1) := by decide +kernel
theorem d_Mo_head_251 : decode b_Mo_head 251 = .ok (.aload_n 0, 1) := by decide +kernel
theorem d_Mo_head_252 : decode b_Mo_head 252 = .ok (.getfield 138, 3) := by decide +kernel
theorem d_Mo_head_255 : decode b_Mo_head 255 = .ok (.idiv, 1) := by decide +kernel
theorem d_Mo_head_256 : decode b_Mo_head 256 = .ok (.putfield 132, 3) := by decide +kernel
theorem d_Mo_head_259 : decode b_Mo_head 259 = .ok (.aload_n 0, 1) := by decide +kernel
theorem d_Mo_head_260 : decode b_Mo_head 260 = .ok (.getfield 96, 3) := by decide +kernel
theorem d_Mo_head_263 : decode b_Mo_head 263 = .ok (.aload_n 0, 1) := by decide +kernel
theorem d_Mo_head_264 : decode b_Mo_head 264 = .ok (.getfield 135, 3) := by decide +kernel
theorem d_Mo_head_267 : decode b_Mo_head 267 = .ok (.if_icmp .le 43, 3) := by decide +kernel
theorem d_Mo_head_270 : decode b_Mo_head 270 = .ok (.aload_n 0, 1) := by decide +kernel
theorem d_Mo_head_271 : decode b_Mo_head 271 = .ok (.getfield 132, 3) := by decide +kernel
theorem d_Mo_head_274 : decode b_Mo_head 274 = .ok (.iconst 4, 1) := by decide +kernel
theorem d_Mo_head_275 : decode b_Mo_head 275 = .ok (.if_icmp .lt 35, 3) := by decide +kernel
theorem d_Mo_head_278 : decode b_Mo_head 278 = .ok (.sipush 128, 3) := by decide +kernel
theorem d_Mo_head_281 : decode b_Mo_head 281 = .ok (.aload_n 0, 1) := by decide +kernel
theorem d_Mo_head_282 : decode b_Mo_head 282 = .ok (.getfield 113, 3) := by decide +kernel
theorem d_Mo_head_285 : decode b_Mo_head 285 = .ok (.imul, 1) := by decide +kernel
theorem d_Mo_head_286 : decode b_Mo_head 286 = .ok (.aload_n 0, 1) := by decide +kernel
theorem d_Mo_head_287 : decode b_Mo_head 287 = .ok (.getfield 132, 3) := by decide +kernel
theorem d_Mo_head_290 : decode b_Mo_head 290 = .ok (.iconst 2, 1) := by decide +kernel
theorem d_Mo_head_291 : decode b_Mo_head 291 = .ok (.iadd, 1) := by decide +kernel
theorem d_Mo_head_292 : decode b_Mo_head 292 = .ok (.if_icmp .lt 18, 3) := by decide +kernel
theorem d_Mo_head_295 : decode b_Mo_head 295 = .ok (.aload_n 0, 1) := by decide +kernel
theorem d_Mo_head_296 : decode b_Mo_head 296 = .ok (.aload_n 0, 1) := by decide +kernel
theorem d_Mo_head_297 : decode b_Mo_head 297 = .ok (.getfield 141, 3) := by decide +kernel
theorem d_Mo_head_300 : decode b_Mo_head 300 = .ok (.invokevirtual 145, 3) := by decide +kernel
theorem d_Mo_head_303 : decode b_Mo_head 303 = .ok (.ifCond .eq 7, 3) := by decide +kernel
theorem d_Mo_head_306 : decode b_Mo_head 306 = .ok (.iconst 1, 1) := by decide +kernel
theorem d_Mo_head_307 : decode b_Mo_head 307 = .ok (.goto 4, 3) := by decide +kernel
theorem d_Mo_head_310 : decode b_Mo_head 310 = .ok (.iconst 0, 1) := by decide +kernel
theorem d_Mo_head_311 : decode b_Mo_head 311 = .ok (.ireturn, 1) := by decide +kernel
abbrev b_Mo_look : ByteArray := prog_14_method_22_code
def y_Mo_look : MethodName := ⟨R_Mo, "look", "()V"⟩
theorem d_Mo_look_0 : decode b_Mo_look 0 = .ok (.aload_n 0, 1) := by decide +kernel
theorem d_Mo_look_1 : decode b_Mo_look 1 = .ok (.getfield 162, 3) := by decide +kernel
theorem d_Mo_look_4 : decode b_Mo_look 4 = .ok (.ifCond .eq 4, 3) := by decide +kernel
theorem d_Mo_look_7 : decode b_Mo_look 7 = .ok (.return_, 1) := by decide +kernel
theorem d_Mo_look_8 : decode b_Mo_look 8 = .ok (.aload_n 0, 1) := by decide +kernel
theorem d_Mo_look_9 : decode b_Mo_look 9 = .ok (.iconst 1, 1) := by decide +kernel
theorem d_Mo_look_10 : decode b_Mo_look 10 = .ok (.putfield 162, 3) := by decide +kernel
theorem d_Mo_look_13 : decode b_Mo_look 13 = .ok (.aload_n 0, 1) := by decide +kernel
theorem d_Mo_look_14 : decode b_Mo_look 14 = .ok (.iconst 1, 1) := by decide +kernel
theorem d_Mo_look_15 : decode b_Mo_look 15 = .ok (.putfield 166, 3) := by decide +kernel
theorem d_Mo_look_18 : decode b_Mo_look 18 = .ok (.aload_n 0, 1) := by decide +kernel
theorem d_Mo_look_19 : decode b_Mo_look 19 = .ok (.iconst 0, 1) := by decide +kernel
theorem d_Mo_look_20 : decode b_Mo_look 20 = .ok (.putfield 169, 3) := by decide +kernel
theorem d_Mo_look_23 : decode b_Mo_look 23 = .ok (.aload_n 0, 1) := by decide +kernel
theorem d_Mo_look_24 : decode b_Mo_look 24 = .ok (.iconst (-1), 1) := by decide +kernel
theorem d_Mo_look_25 : decode b_Mo_look 25 = .ok (.putfield 172, 3) := by decide +kernel
theorem d_Mo_look_28 : decode b_Mo_look 28 = .ok (.aload_n 0, 1) := by decide +kernel
theorem d_Mo_look_29 : decode b_Mo_look 29 = .ok (.aload_n 0, 1) := by decide +kernel
theorem d_Mo_look_30 : decode b_Mo_look 30 = .ok (.invokevirtual 175, 3) := by decide +kernel
theorem d_Mo_look_33 : decode b_Mo_look 33 = .ok (.ifCond .ne 7, 3) := by decide +kernel
theorem d_Mo_look_36 : decode b_Mo_look 36 = .ok (.iconst 1, 1) := by decide +kernel
theorem d_Mo_look_37 : decode b_Mo_look 37 = .ok (.goto 15, 3) := by decide +kernel
theorem d_Mo_look_40 : decode b_Mo_look 40 = .ok (.aload_n 0, 1) := by decide +kernel
theorem d_Mo_look_41 : decode b_Mo_look 41 = .ok (.invokevirtual 179, 3) := by decide +kernel
theorem d_Mo_look_44 : decode b_Mo_look 44 = .ok (.ifCond .eq 7, 3) := by decide +kernel
theorem d_Mo_look_47 : decode b_Mo_look 47 = .ok (.iconst 2, 1) := by decide +kernel
theorem d_Mo_look_48 : decode b_Mo_look 48 = .ok (.goto 4, 3) := by decide +kernel
theorem d_Mo_look_51 : decode b_Mo_look 51 = .ok (.iconst 0, 1) := by decide +kernel
theorem d_Mo_look_52 : decode b_Mo_look 52 = .ok (.putfield 182, 3) := by decide +kernel
theorem d_Mo_look_55 : decode b_Mo_look 55 = .ok (.aload_n 0, 1) := by decide +kernel
theorem d_Mo_look_56 : decode b_Mo_look 56 = .ok (.getfield 182, 3) := by decide +kernel
theorem d_Mo_look_59 : decode b_Mo_look 59 = .ok (.ifCond .le 4, 3) := by decide +kernel
theorem d_Mo_look_62 : decode b_Mo_look 62 = .ok (.return_, 1) := by decide +kernel
theorem d_Mo_look_63 : decode b_Mo_look 63 = .ok (.iconst 0, 1) := by decide +kernel
theorem d_Mo_look_64 : decode b_Mo_look 64 = .ok (.istore_n 1, 1) := by decide +kernel
theorem d_Mo_look_65 : decode b_Mo_look 65 = .ok (.iload_n 1, 1) := by decide +kernel
theorem d_Mo_look_66 : decode b_Mo_look 66 = .ok (.sipush 560, 3) := by decide +kernel
theorem d_Mo_look_69 : decode b_Mo_look 69 = .ok (.if_icmp .ge 16, 3) := by decide +kernel
theorem d_Mo_look_72 : decode b_Mo_look 72 = .ok (.aload_n 0, 1) := by decide +kernel
theorem d_Mo_look_73 : decode b_Mo_look 73 = .ok (.getfield 23, 3) := by decide +kernel
theorem d_Mo_look_76 : decode b_Mo_look 76 = .ok (.iload_n 1, 1) := by decide +kernel
theorem d_Mo_look_77 : decode b_Mo_look 77 = .ok (.iconst 0, 1) := by decide +kernel
theorem d_Mo_look_78 : decode b_Mo_look 78 = .ok (.bastore, 1) := by decide +kernel
theorem d_Mo_look_79 : decode b_Mo_look 79 = .ok (.iinc 1 1, 3) := by decide +kernel
theorem d_Mo_look_82 : decode b_Mo_look 82 = .ok (.goto (-17), 3) := by decide +kernel
theorem d_Mo_look_85 : decode b_Mo_look 85 = .ok (.iconst 0, 1) := by decide +kernel
theorem d_Mo_look_86 : decode b_Mo_look 86 = .ok (.istore_n 1, 1) := by decide +kernel
theorem d_Mo_look_87 : decode b_Mo_look 87 = .ok (.iload_n 1, 1) := by decide +kernel
theorem d_Mo_look_88 : decode b_Mo_look 88 = .ok (.aload_n 0, 1) := by decide +kernel
theorem d_Mo_look_89 : decode b_Mo_look 89 = .ok (.getfield 166, 3) := by decide +kernel
theorem d_Mo_look_92 : decode b_Mo_look 92 = .ok (.if_icmp .ge 46, 3) := by decide +kernel
theorem d_Mo_look_95 : decode b_Mo_look 95 = .ok (.aload_n 0, 1) := by decide +kernel
theorem d_Mo_look_96 : decode b_Mo_look 96 = .ok (.getfield 182, 3) := by decide +kernel
theorem d_Mo_look_99 : decode b_Mo_look 99 = .ok (.ifCond .ne 39, 3) := by decide +kernel
theorem d_Mo_look_102 : decode b_Mo_look 102 = .ok (.aload_n 0, 1) := by decide +kernel
theorem d_Mo_look_103 : decode b_Mo_look 103 = .ok (.getfield 43, 3) := by decide +kernel
theorem d_Mo_look_106 : decode b_Mo_look 106 = .ok (.iload_n 1, 1) := by decide +kernel
theorem d_Mo_look_107 : decode b_Mo_look 107 = .ok (.aload_n 0, 1) := by decide +kernel
theorem d_Mo_look_108 : decode b_Mo_look 108 = .ok (.getfield 166, 3) := by decide +kernel
theorem d_Mo_look_111 : decode b_Mo_look 111 = .ok (.iastore, 1) := by decide +kernel
theorem d_Mo_look_112 : decode b_Mo_look 112 = .ok (.aload_n 0, 1) := by decide +kernel
theorem d_Mo_look_113 : decode b_Mo_look 113 = .ok (.getfield 40, 3) := by decide +kernel
theorem d_Mo_look_116 : decode b_Mo_look 116 = .ok (.iload_n 1, 1) := by decide +kernel
theorem d_Mo_look_117 : decode b_Mo_look 117 = .ok (.iconst 0, 1) := by decide +kernel
theorem d_Mo_look_118 : decode b_Mo_look 118 = .ok (.iastore, 1) := by decide +kernel
theorem d_Mo_look_119 : decode b_Mo_look 119 = .ok (.aload_n 0, 1) := by decide +kernel
theorem d_Mo_look_120 : decode b_Mo_look 120 = .ok (.iload_n 1, 1) := by decide +kernel
theorem d_Mo_look_121 : decode b_Mo_look 121 = .ok (.invokevirtual 185, 3) := by decide +kernel
theorem d_Mo_look_124 : decode b_Mo_look 124 = .ok (.ifCond .eq 8, 3) := by decide +kernel
theorem d_Mo_look_127 : decode b_Mo_look 127 = .ok (.aload_n 0, 1) := by decide +kernel
theorem d_Mo_look_128 : decode b_Mo_look 128 = .ok (.iload_n 1, 1) := by decide +kernel
theorem d_Mo_look_129 : decode b_Mo_look 129 = .ok (.invokevirtual 188, 3) := by decide +kernel
theorem d_Mo_look_132 : decode b_Mo_look 132 = .ok (.iinc 1 1, 3) := by decide +kernel
theorem d_Mo_look_135 : decode b_Mo_look 135 = .ok (.goto (-48), 3) := by decide +kernel
theorem d_Mo_look_138 : decode b_Mo_look 138 = .ok (.iconst 2, 1) := by decide +kernel
theorem d_Mo_look_139 : decode b_Mo_look 139 = .ok (.istore_n 1, 1) := by decide +kernel
theorem d_Mo_look_140 : decode b_Mo_look 140 = .ok (.iload_n 1, 1) := by decide +kernel
theorem d_Mo_look_141 : decode b_Mo_look 141 = .ok (.aload_n 0, 1) := by decide +kernel
theorem d_Mo_look_142 : decode b_Mo_look 142 = .ok (.getfield 132, 3) := by decide +kernel
theorem d_Mo_look_145 : decode b_Mo_look 145 = .ok (.iconst 2, 1) := by decide +kernel
theorem d_Mo_look_146 : decode b_Mo_look 146 = .ok (.iadd, 1) := by decide +kernel
theorem d_Mo_look_147 : decode b_Mo_look 147 = .ok (.if_icmp .ge 39, 3) := by decide +kernel
theorem d_Mo_look_150 : decode b_Mo_look 150 = .ok (.aload_n 0, 1) := by decide +kernel
theorem d_Mo_look_151 : decode b_Mo_look 151 = .ok (.getfield 182, 3) := by decide +kernel
theorem d_Mo_look_154 : decode b_Mo_look 154 = .ok (.ifCond .ne 32, 3) := by decide +kernel
theorem d_Mo_look_157 : decode b_Mo_look 157 = .ok (.aload_n 0, 1) := by decide +kernel
theorem d_Mo_look_158 : decode b_Mo_look 158 = .ok (.iload_n 1, 1) := by decide +kernel
theorem d_Mo_look_159 : decode b_Mo_look 159 = .ok (.invokevirtual 149, 3) := by decide +kernel
theorem d_Mo_look_162 : decode b_Mo_look 162 = .ok (.ifCond .eq 18, 3) := by decide +kernel
theorem d_Mo_look_165 : decode b_Mo_look 165 = .ok (.aload_n 0, 1) := by decide +kernel
theorem d_Mo_look_166 : decode b_Mo_look 166 = .ok (.getfield 23, 3) := by decide +kernel
theorem d_Mo_look_169 : decode b_Mo_look 169 = .ok (.iload_n 1, 1) := by decide +kernel
theorem d_Mo_look_170 : decode b_Mo_look 170 = .ok (.baload, 1) := by decide +kernel
theorem d_Mo_look_171 : decode b_Mo_look 171 = .ok (.ifCond .ne 9, 3) := by decide +kernel
theorem d_Mo_look_174 : decode b_Mo_look 174 = .ok (.aload_n 0, 1) := by decide +kernel
theorem d_Mo_look_175 : decode b_Mo_look 175 = .ok (.bipush 6, 2) := by decide +kernel
theorem d_Mo_look_177 : decode b_Mo_look 177 = .ok (.putfield 182, 3) := by decide +kernel
theorem d_Mo_look_180 : decode b_Mo_look 180 = .ok (.iinc 1 1, 3) := by decide +kernel
theorem d_Mo_look_183 : decode b_Mo_look 183 = .ok (.goto (-43), 3) := by decide +kernel
theorem d_Mo_look_186 : decode b_Mo_look 186 = .ok (.return_, 1) := by decide +kernel
abbrev b_Mo_isName : ByteArray := prog_14_method_36_code
def y_Mo_isName : MethodName := ⟨R_Mo, "isName", "()Z"⟩
theorem d_Mo_isName_0 : decode b_Mo_isName 0 = .ok (.aload_n 0, 1) := by decide +kernel
theorem d_Mo_isName_1 : decode b_Mo_isName 1 = .ok (.getfield 224, 3) := by decide +kernel
theorem d_Mo_isName_4 : decode b_Mo_isName 4 = .ok (.iconst 1, 1) := by decide +kernel
theorem d_Mo_isName_5 : decode b_Mo_isName 5 = .ok (.if_icmp .lt 17, 3) := by decide +kernel
theorem d_Mo_isName_8 : decode b_Mo_isName 8 = .ok (.aload_n 0, 1) := by decide +kernel
theorem d_Mo_isName_9 : decode b_Mo_isName 9 = .ok (.getfield 224, 3) := by decide +kernel
theorem d_Mo_isName_12 : decode b_Mo_isName 12 = .ok (.sipush 255, 3) := by decide +kernel
theorem d_Mo_isName_15 : decode b_Mo_isName 15 = .ok (.if_icmp .gt 7, 3) := by decide +kernel
theorem d_Mo_isName_18 : decode b_Mo_isName 18 = .ok (.iconst 1, 1) := by decide +kernel
theorem d_Mo_isName_19 : decode b_Mo_isName 19 = .ok (.goto 4, 3) := by decide +kernel
theorem d_Mo_isName_22 : decode b_Mo_isName 22 = .ok (.iconst 0, 1) := by decide +kernel
theorem d_Mo_isName_23 : decode b_Mo_isName 23 = .ok (.istore_n 1, 1) := by decide +kernel
theorem d_Mo_isName_24 : decode b_Mo_isName 24 = .ok (.iconst 0, 1) := by decide +kernel
theorem d_Mo_isName_25 : decode b_Mo_isName 25 = .ok (.istore_n 2, 1) := by decide +kernel
theorem d_Mo_isName_26 : decode b_Mo_isName 26 = .ok (.iload_n 2, 1) := by decide +kernel
theorem d_Mo_isName_27 : decode b_Mo_isName 27 = .ok (.aload_n 0, 1) := by decide +kernel
theorem d_Mo_isName_28 : decode b_Mo_isName 28 = .ok (.getfield 224, 3) := by decide +kernel
theorem d_Mo_isName_31 : decode b_Mo_isName 31 = .ok (.if_icmp .ge 76, 3) := by decide +kernel
theorem d_Mo_isName_34 : decode b_Mo_isName 34 = .ok (.iload_n 1, 1) := by decide +kernel
theorem d_Mo_isName_35 : decode b_Mo_isName 35 = .ok (.ifCond .eq 72, 3) := by decide +kernel
theorem d_Mo_isName_38 : decode b_Mo_isName 38 = .ok (.aload_n 0, 1) := by decide +kernel
theorem d_Mo_isName_39 : decode b_Mo_isName 39 = .ok (.getfield 63, 3) := by decide +kernel
theorem d_Mo_isName_42 : decode b_Mo_isName 42 = .ok (.iload_n 2, 1) := by decide +kernel
theorem d_Mo_isName_43 : decode b_Mo_isName 43 = .ok (.caload, 1) := by decide +kernel
theorem d_Mo_isName_44 : decode b_Mo_isName 44 = .ok (.istore_n 3, 1) := by decide +kernel
theorem d_Mo_isName_45 : decode b_Mo_isName 45 = .ok (.iload_n 3, 1) := by decide +kernel
theorem d_Mo_isName_46 : decode b_Mo_isName 46 = .ok (.bipush 32, 2) := by decide +kernel
theorem d_Mo_isName_48 : decode b_Mo_isName 48 = .ok (.if_icmp .lt 51, 3) := by decide +kernel
theorem d_Mo_isName_51 : decode b_Mo_isName 51 = .ok (.iload_n 3, 1) := by decide +kernel
theorem d_Mo_isName_52 : decode b_Mo_isName 52 = .ok (.bipush 127, 2) := by decide +kernel
theorem d_Mo_isName_54 : decode b_Mo_isName 54 = .ok (.if_icmp .eq 45, 3) := by decide +kernel
theorem d_Mo_isName_57 : decode b_Mo_isName 57 = .ok (.iload_n 3, 1) := by decide +kernel
theorem d_Mo_isName_58 : decode b_Mo_isName 58 = .ok (.ldc_w 256, 3) := by decide +kernel
theorem d_Mo_isName_61 : decode b_Mo_isName 61 = .ok (.if_icmp .lt 10, 3) := by decide +kernel
theorem d_Mo_isName_64 : decode b_Mo_isName 64 = .ok (.iload_n 3, 1) := by decide +kernel
theorem d_Mo_isName_65 : decode b_Mo_isName 65 = .ok (.ldc_w 257, 3) := by decide +kernel
theorem d_Mo_isName_68 : decode b_Mo_isName 68 = .ok (.if_icmp .le 31, 3) := by decide +kernel
theorem d_Mo_isName_71 : decode b_Mo_isName 71 = .ok (.iload_n 3, 1) := by decide +kernel
theorem d_Mo_isName_72 : decode b_Mo_isName 72 = .ok (.ldc_w 258, 3) := by decide +kernel
theorem d_Mo_isName_75 : decode b_Mo_isName 75 = .ok (.if_icmp .gt 24, 3) := by decide +kernel
theorem d_Mo_isName_78 : decode b_Mo_isName 78 = .ok (.iload_n 3, 1) := by decide +kernel
theorem d_Mo_isName_79 : decode b_Mo_isName 79 = .ok (.bipush 127, 2) := by decide +kernel
theorem d_Mo_isName_81 : decode b_Mo_isName 81 = .ok (.if_icmp .gt 14, 3) := by decide +kernel
theorem d_Mo_isName_84 : decode b_Mo_isName 84 = .ok (.ldc_w 259, 3) := by decide +kernel
theorem d_Mo_isName_87 : decode b_Mo_isName 87 = .ok (.iload_n 3, 1) := by decide +kernel
theorem d_Mo_isName_88 : decode b_Mo_isName 88 = .ok (.i2c, 1) := by decide +kernel
theorem d_Mo_isName_89 : decode b_Mo_isName 89 = .ok (.invokevirtual 232, 3) := by decide +kernel
theorem d_Mo_isName_92 : decode b_Mo_isName 92 = .ok (.ifCond .ge 7, 3) := by decide +kernel
theorem d_Mo_isName_95 : decode b_Mo_isName 95 = .ok (.iconst 1, 1) := by decide +kernel
theorem d_Mo_isName_96 : decode b_Mo_isName 96 = .ok (.goto 4, 3) := by decide +kernel
theorem d_Mo_isName_99 : decode b_Mo_isName 99 = .ok (.iconst 0, 1) := by decide +kernel
theorem d_Mo_isName_100 : decode b_Mo_isName 100 = .ok (.istore_n 1, 1) := by decide +kernel
theorem d_Mo_isName_101 : decode b_Mo_isName 101 = .ok (.iinc 2 1, 3) := by decide +kernel
theorem d_Mo_isName_104 : decode b_Mo_isName 104 = .ok (.goto (-78), 3) := by decide +kernel
theorem d_Mo_isName_107 : decode b_Mo_isName 107 = .ok (.iload_n 1, 1) := by decide +kernel
theorem d_Mo_isName_108 : decode b_Mo_isName 108 = .ok (.ifCond .eq 39, 3) := by decide +kernel
theorem d_Mo_isName_111 : decode b_Mo_isName 111 = .ok (.aload_n 0, 1) := by decide +kernel
theorem d_Mo_isName_112 : decode b_Mo_isName 112 = .ok (.getfield 63, 3) := by decide +kernel
theorem d_Mo_isName_115 : decode b_Mo_isName 115 = .ok (.aload_n 0, 1) := by decide +kernel
theorem d_Mo_isName_116 : decode b_Mo_isName 116 = .ok (.getfield 224, 3) := by decide +kernel
theorem d_Mo_isName_119 : decode b_Mo_isName 119 = .ok (.iconst 1, 1) := by decide +kernel
theorem d_Mo_isName_120 : decode b_Mo_isName 120 = .ok (.isub, 1) := by decide +kernel
theorem d_Mo_isName_121 : decode b_Mo_isName 121 = .ok (.caload, 1) := by decide +kernel
theorem d_Mo_isName_122 : decode b_Mo_isName 122 = .ok (.bipush 32, 2) := by decide +kernel
theorem d_Mo_isName_124 : decode b_Mo_isName 124 = .ok (.if_icmp .eq 23, 3) := by decide +kernel
theorem d_Mo_isName_127 : decode b_Mo_isName 127 = .ok (.aload_n 0, 1) := by decide +kernel
theorem d_Mo_isName_128 : decode b_Mo_isName 128 = .ok (.getfield 63, 3) := by decide +kernel
theorem d_Mo_isName_131 : decode b_Mo_isName 131 = .ok (.aload_n 0, 1) := by decide +kernel
theorem d_Mo_isName_132 : decode b_Mo_isName 132 = .ok (.getfield 224, 3) := by decide +kernel
theorem d_Mo_isName_135 : decode b_Mo_isName 135 = .ok (.iconst 1, 1) := by decide +kernel
theorem d_Mo_isName_136 : decode b_Mo_isName 136 = .ok (.isub, 1) := by decide +kernel
theorem d_Mo_isName_137 : decode b_Mo_isName 137 = .ok (.caload, 1) := by decide +kernel
theorem d_Mo_isName_138 : decode b_Mo_isName 138 = .ok (.bipush 46, 2) := by decide +kernel
theorem d_Mo_isName_140 : decode b_Mo_isName 140 = .ok (.if_icmp .eq 7, 3) := by decide +kernel
theorem d_Mo_isName_143 : decode b_Mo_isName 143 = .ok (.iconst 1, 1) := by decide +kernel
theorem d_Mo_isName_144 : decode b_Mo_isName 144 = .ok (.goto 4, 3) := by decide +kernel
theorem d_Mo_isName_147 : decode b_Mo_isName 147 = .ok (.iconst 0, 1) := by decide +kernel
theorem d_Mo_isName_148 : decode b_Mo_isName 148 = .ok (.ireturn, 1) := by decide +kernel
abbrev b_Mo_feed : ByteArray := prog_14_method_43_code
def y_Mo_feed : MethodName := ⟨R_Mo, "feed", "(IIIII)V"⟩
theorem d_Mo_feed_0 : decode b_Mo_feed 0 = .ok (.aload_n 0, 1) := by decide +kernel
theorem d_Mo_feed_1 : decode b_Mo_feed 1 = .ok (.iconst 0, 1) := by decide +kernel
theorem d_Mo_feed_2 : decode b_Mo_feed 2 = .ok (.putfield 100, 3) := by decide +kernel
theorem d_Mo_feed_5 : decode b_Mo_feed 5 = .ok (.iconst 0, 1) := by decide +kernel
theorem d_Mo_feed_6 : decode b_Mo_feed 6 = .ok (.istore 6, 2) := by decide +kernel
theorem d_Mo_feed_8 : decode b_Mo_feed 8 = .ok (.iload 6, 2) := by decide +kernel
theorem d_Mo_feed_10 : decode b_Mo_feed 10 = .ok (.bipush 20, 2) := by decide +kernel
theorem d_Mo_feed_12 : decode b_Mo_feed 12 = .ok (.if_icmp .ge 78, 3) := by decide +kernel
theorem d_Mo_feed_15 : decode b_Mo_feed 15 = .ok (.iload 6, 2) := by decide +kernel
theorem d_Mo_feed_17 : decode b_Mo_feed 17 = .ok (.iconst 4, 1) := by decide +kernel
theorem d_Mo_feed_18 : decode b_Mo_feed 18 = .ok (.if_icmp .ge 7, 3) := by decide +kernel
theorem d_Mo_feed_21 : decode b_Mo_feed 21 = .ok (.iload_n 1, 1) := by decide +kernel
theorem d_Mo_feed_22 : decode b_Mo_feed 22 = .ok (.goto 39, 3) := by decide +kernel
theorem d_Mo_feed_25 : decode b_Mo_feed 25 = .ok (.iload 6, 2) := by decide +kernel
theorem d_Mo_feed_27 : decode b_Mo_feed 27 = .ok (.bipush 8, 2) := by decide +kernel
theorem d_Mo_feed_29 : decode b_Mo_feed 29 = .ok (.if_icmp .ge 7, 3) := by decide +kernel
theorem d_Mo_feed_32 : decode b_Mo_feed 32 = .ok (.iload_n 2, 1) := by decide +kernel
theorem d_Mo_feed_33 : decode b_Mo_feed 33 = .ok (.goto 28, 3) := by decide +kernel
theorem d_Mo_feed_36 : decode b_Mo_feed 36 = .ok (.iload 6, 2) := by decide +kernel
theorem d_Mo_feed_38 : decode b_Mo_feed 38 = .ok (.bipush 12, 2) := by decide +kernel
theorem d_Mo_feed_40 : decode b_Mo_feed 40 = .ok (.if_icmp .ge 7, 3) := by decide +kernel
theorem d_Mo_feed_43 : decode b_Mo_feed 43 = .ok (.iload_n 3, 1) := by decide +kernel
theorem d_Mo_feed_44 : decode b_Mo_feed 44 = .ok (.goto 17, 3) := by decide +kernel
theorem d_Mo_feed_47 : decode b_Mo_feed 47 = .ok (.iload 6, 2) := by decide +kernel
theorem d_Mo_feed_49 : decode b_Mo_feed 49 = .ok (.bipush 16, 2) := by decide +kernel
theorem d_Mo_feed_51 : decode b_Mo_feed 51 = .ok (.if_icmp .ge 8, 3) := by decide +kernel
theorem d_Mo_feed_54 : decode b_Mo_feed 54 = .ok (.iload 4, 2) := by decide +kernel
theorem d_Mo_feed_56 : decode b_Mo_feed 56 = .ok (.goto 5, 3) := by decide +kernel
theorem d_Mo_feed_59 : decode b_Mo_feed 59 = .ok (.iload 5, 2) := by decide +kernel
theorem d_Mo_feed_61 : decode b_Mo_feed 61 = .ok (.istore 7, 2) := by decide +kernel
theorem d_Mo_feed_63 : decode b_Mo_feed 63 = .ok (.aload_n 0, 1) := by decide +kernel
theorem d_Mo_feed_64 : decode b_Mo_feed 64 = .ok (.getfield 20, 3) := by decide +kernel
theorem d_Mo_feed_67 : decode b_Mo_feed 67 = .ok (.iload 6, 2) := by decide +kernel
theorem d_Mo_feed_69 : decode b_Mo_feed 69 = .ok (.iload 7, 2) := by decide +kernel
theorem d_Mo_feed_71 : decode b_Mo_feed 71 = .ok (.bipush 24, 2) := by decide +kernel
theorem d_Mo_feed_73 : decode b_Mo_feed 73 = .ok (.bipush 8, 2) := by decide +kernel
theorem d_Mo_feed_75 : decode b_Mo_feed 75 = .ok (.iload 6, 2) := by decide +kernel
theorem d_Mo_feed_77 : decode b_Mo_feed 77 = .ok (.iconst 4, 1) := by decide +kernel
theorem d_Mo_feed_78 : decode b_Mo_feed 78 = .ok (.irem, 1) := by decide +kernel
theorem d_Mo_feed_79 : decode b_Mo_feed 79 = .ok (.imul, 1) := by decide +kernel
theorem d_Mo_feed_80 : decode b_Mo_feed 80 = .ok (.isub, 1) := by decide +kernel
theorem d_Mo_feed_81 : decode b_Mo_feed 81 = .ok (.ishr, 1) := by decide +kernel
theorem d_Mo_feed_82 : decode b_Mo_feed 82 = .ok (.i2b, 1) := by decide +kernel
theorem d_Mo_feed_83 : decode b_Mo_feed 83 = .ok (.bastore, 1) := by decide +kernel
theorem d_Mo_feed_84 : decode b_Mo_feed 84 = .ok (.iinc 6 1, 3) := by decide +kernel
theorem d_Mo_feed_87 : decode b_Mo_feed 87 = .ok (.goto (-79), 3) := by decide +kernel
theorem d_Mo_feed_90 : decode b_Mo_feed 90 = .ok (.aload_n 0, 1) := by decide +kernel
theorem d_Mo_feed_91 : decode b_Mo_feed 91 = .ok (.iconst 1, 1) := by decide +kernel
theorem d_Mo_feed_92 : decode b_Mo_feed 92 = .ok (.putfield 293, 3) := by decide +kernel
theorem d_Mo_feed_95 : decode b_Mo_feed 95 = .ok (.return_, 1) := by decide +kernel
abbrev b_Mo_end : ByteArray := prog_14_method_44_code
def y_Mo_end : MethodName := ⟨R_Mo, "end", "(I)I"⟩
theorem d_Mo_end_0 : decode b_Mo_end 0 = .ok (.aload_n 0, 1) := by decide +kernel
theorem d_Mo_end_1 : decode b_Mo_end 1 = .ok (.iconst 0, 1) := by decide +kernel
theorem d_Mo_end_2 : decode b_Mo_end 2 = .ok (.putfield 100, 3) := by decide +kernel
theorem d_Mo_end_5 : decode b_Mo_end 5 = .ok (.iload_n 1, 1) := by decide +kernel
theorem d_Mo_end_6 : decode b_Mo_end 6 = .ok (.ifCond .lt 21, 3) := by decide +kernel
theorem d_Mo_end_9 : decode b_Mo_end 9 = .ok (.iload_n 1, 1) := by decide +kernel
theorem d_Mo_end_10 : decode b_Mo_end 10 = .ok (.bipush 20, 2) := by decide +kernel
theorem d_Mo_end_12 : decode b_Mo_end 12 = .ok (.if_icmp .gt 15, 3) := by decide +kernel
theorem d_Mo_end_15 : decode b_Mo_end 15 = .ok (.aload_n 0, 1) := by decide +kernel
theorem d_Mo_end_16 : decode b_Mo_end 16 = .ok (.getfield 296, 3) := by decide +kernel
theorem d_Mo_end_19 : decode b_Mo_end 19 = .ok (.iload_n 1, 1) := by decide +kernel
theorem d_Mo_end_20 : decode b_Mo_end 20 = .ok (.iadd, 1) := by decide +kernel
theorem d_Mo_end_21 : decode b_Mo_end 21 = .ok (.sipush 4096, 3) := by decide +kernel
theorem d_Mo_end_24 : decode b_Mo_end 24 = .ok (.if_icmp .le 5, 3) := by decide +kernel
theorem d_Mo_end_27 : decode b_Mo_end 27 = .ok (.iconst (-1), 1) := by decide +kernel
theorem d_Mo_end_28 : decode b_Mo_end 28 = .ok (.ireturn, 1) := by decide +kernel
theorem d_Mo_end_29 : decode b_Mo_end 29 = .ok (.iconst 0, 1) := by decide +kernel
theorem d_Mo_end_30 : decode b_Mo_end 30 = .ok (.istore_n 2, 1) := by decide +kernel
theorem d_Mo_end_31 : decode b_Mo_end 31 = .ok (.iload_n 2, 1) := by decide +kernel
theorem d_Mo_end_32 : decode b_Mo_end 32 = .ok (.iload_n 1, 1) := by decide +kernel
theorem d_Mo_end_33 : decode b_Mo_end 33 = .ok (.if_icmp .ge 45, 3) := by decide +kernel
theorem d_Mo_end_36 : decode b_Mo_end 36 = .ok (.aload_n 0, 1) := by decide +kernel
theorem d_Mo_end_37 : decode b_Mo_end 37 = .ok (.getfield 17, 3) := by decide +kernel
theorem d_Mo_end_40 : decode b_Mo_end 40 = .ok (.aload_n 0, 1) := by decide +kernel
theorem d_Mo_end_41 : decode b_Mo_end 41 = .ok (.getfield 296, 3) := by decide +kernel
theorem d_Mo_end_44 : decode b_Mo_end 44 = .ok (.aload_n 0, 1) := by decide +kernel
theorem d_Mo_end_45 : decode b_Mo_end 45 = .ok (.getfield 293, 3) := by decide +kernel
theorem d_Mo_end_48 : decode b_Mo_end 48 = .ok (.ifCond .eq 12, 3) := by decide +kernel
theorem d_Mo_end_51 : decode b_Mo_end 51 = .ok (.aload_n 0, 1) := by decide +kernel
theorem d_Mo_end_52 : decode b_Mo_end 52 = .ok (.getfield 20, 3) := by decide +kernel
theorem d_Mo_end_55 : decode b_Mo_end 55 = .ok (.iload_n 2, 1) := by decide +kernel
theorem d_Mo_end_56 : decode b_Mo_end 56 = .ok (.baload, 1) := by decide +kernel
theorem d_Mo_end_57 : decode b_Mo_end 57 = .ok (.goto 4, 3) := by decide +kernel
theorem d_Mo_end_60 : decode b_Mo_end 60 = .ok (.iconst 0, 1) := by decide +kernel
theorem d_Mo_end_61 : decode b_Mo_end 61 = .ok (.bastore, 1) := by decide +kernel
theorem d_Mo_end_62 : decode b_Mo_end 62 = .ok (.aload_n 0, 1) := by decide +kernel
theorem d_Mo_end_63 : decode b_Mo_end 63 = .ok (.dup, 1) := by decide +kernel
theorem d_Mo_end_64 : decode b_Mo_end 64 = .ok (.getfield 296, 3) := by decide +kernel
theorem d_Mo_end_67 : decode b_Mo_end 67 = .ok (.iconst 1, 1) := by decide +kernel
theorem d_Mo_end_68 : decode b_Mo_end 68 = .ok (.iadd, 1) := by decide +kernel
theorem d_Mo_end_69 : decode b_Mo_end 69 = .ok (.putfield 296, 3) := by decide +kernel
theorem d_Mo_end_72 : decode b_Mo_end 72 = .ok (.iinc 2 1, 3) := by decide +kernel
theorem d_Mo_end_75 : decode b_Mo_end 75 = .ok (.goto (-44), 3) := by decide +kernel
theorem d_Mo_end_78 : decode b_Mo_end 78 = .ok (.aload_n 0, 1) := by decide +kernel
theorem d_Mo_end_79 : decode b_Mo_end 79 = .ok (.iconst 0, 1) := by decide +kernel
theorem d_Mo_end_80 : decode b_Mo_end 80 = .ok (.putfield 293, 3) := by decide +kernel
theorem d_Mo_end_83 : decode b_Mo_end 83 = .ok (.aload_n 0, 1) := by decide +kernel
theorem d_Mo_end_84 : decode b_Mo_end 84 = .ok (.getfield 296, 3) := by decide +kernel
theorem d_Mo_end_87 : decode b_Mo_end 87 = .ok (.ireturn, 1) := by decide +kernel
abbrev b_Mo_clear : ByteArray := prog_14_method_45_code
def y_Mo_clear : MethodName := ⟨R_Mo, "clear", "()V"⟩
theorem d_Mo_clear_0 : decode b_Mo_clear 0 = .ok (.aload_n 0, 1) := by decide +kernel
theorem d_Mo_clear_1 : decode b_Mo_clear 1 = .ok (.iconst 0, 1) := by decide +kernel
theorem d_Mo_clear_2 : decode b_Mo_clear 2 = .ok (.putfield 100, 3) := by decide +kernel
theorem d_Mo_clear_5 : decode b_Mo_clear 5 = .ok (.aload_n 0, 1) := by decide +kernel
theorem d_Mo_clear_6 : decode b_Mo_clear 6 = .ok (.iconst 0, 1) := by decide +kernel
theorem d_Mo_clear_7 : decode b_Mo_clear 7 = .ok (.putfield 296, 3) := by decide +kernel
theorem d_Mo_clear_10 : decode b_Mo_clear 10 = .ok (.return_, 1) := by decide +kernel
abbrev b_Mo_kind : ByteArray := prog_14_method_47_code
def y_Mo_kind : MethodName := ⟨R_Mo, "kind", "()I"⟩
theorem d_Mo_kind_0 : decode b_Mo_kind 0 = .ok (.aload_n 0, 1) := by decide +kernel
theorem d_Mo_kind_1 : decode b_Mo_kind 1 = .ok (.iconst 0, 1) := by decide +kernel
theorem d_Mo_kind_2 : decode b_Mo_kind 2 = .ok (.putfield 100, 3) := by decide +kernel
theorem d_Mo_kind_5 : decode b_Mo_kind 5 = .ok (.aload_n 0, 1) := by decide +kernel
theorem d_Mo_kind_6 : decode b_Mo_kind 6 = .ok (.invokevirtual 299, 3) := by decide +kernel
theorem d_Mo_kind_9 : decode b_Mo_kind 9 = .ok (.aload_n 0, 1) := by decide +kernel
theorem d_Mo_kind_10 : decode b_Mo_kind 10 = .ok (.getfield 302, 3) := by decide +kernel
theorem d_Mo_kind_13 : decode b_Mo_kind 13 = .ok (.ifCond .eq 7, 3) := by decide +kernel
theorem d_Mo_kind_16 : decode b_Mo_kind 16 = .ok (.iconst 2, 1) := by decide +kernel
theorem d_Mo_kind_17 : decode b_Mo_kind 17 = .ok (.goto 16, 3) := by decide +kernel
theorem d_Mo_kind_20 : decode b_Mo_kind 20 = .ok (.aload_n 0, 1) := by decide +kernel
theorem d_Mo_kind_21 : decode b_Mo_kind 21 = .ok (.getfield 182, 3) := by decide +kernel
theorem d_Mo_kind_24 : decode b_Mo_kind 24 = .ok (.iconst 1, 1) := by decide +kernel
theorem d_Mo_kind_25 : decode b_Mo_kind 25 = .ok (.if_icmp .ne 7, 3) := by decide +kernel
theorem d_Mo_kind_28 : decode b_Mo_kind 28 = .ok (.iconst 0, 1) := by decide +kernel
theorem d_Mo_kind_29 : decode b_Mo_kind 29 = .ok (.goto 4, 3) := by decide +kernel
theorem d_Mo_kind_32 : decode b_Mo_kind 32 = .ok (.iconst 1, 1) := by decide +kernel
theorem d_Mo_kind_33 : decode b_Mo_kind 33 = .ok (.ireturn, 1) := by decide +kernel
abbrev b_Mo_fault : ByteArray := prog_14_method_48_code
def y_Mo_fault : MethodName := ⟨R_Mo, "fault", "()I"⟩
theorem d_Mo_fault_0 : decode b_Mo_fault 0 = .ok (.aload_n 0, 1) := by decide +kernel
theorem d_Mo_fault_1 : decode b_Mo_fault 1 = .ok (.iconst 0, 1) := by decide +kernel
theorem d_Mo_fault_2 : decode b_Mo_fault 2 = .ok (.putfield 100, 3) := by decide +kernel
theorem d_Mo_fault_5 : decode b_Mo_fault 5 = .ok (.aload_n 0, 1) := by decide +kernel
theorem d_Mo_fault_6 : decode b_Mo_fault 6 = .ok (.invokevirtual 299, 3) := by decide +kernel
theorem d_Mo_fault_9 : decode b_Mo_fault 9 = .ok (.aload_n 0, 1) := by decide +kernel
theorem d_Mo_fault_10 : decode b_Mo_fault 10 = .ok (.getfield 302, 3) := by decide +kernel
theorem d_Mo_fault_13 : decode b_Mo_fault 13 = .ok (.ifCond .eq 7, 3) := by decide +kernel
theorem d_Mo_fault_16 : decode b_Mo_fault 16 = .ok (.iconst 0, 1) := by decide +kernel
theorem d_Mo_fault_17 : decode b_Mo_fault 17 = .ok (.goto 7, 3) := by decide +kernel
theorem d_Mo_fault_20 : decode b_Mo_fault 20 = .ok (.aload_n 0, 1) := by decide +kernel
theorem d_Mo_fault_21 : decode b_Mo_fault 21 = .ok (.getfield 182, 3) := by decide +kernel
theorem d_Mo_fault_24 : decode b_Mo_fault 24 = .ok (.ireturn, 1) := by decide +kernel
abbrev b_Mo_changed : ByteArray := prog_14_method_49_code
def y_Mo_changed : MethodName := ⟨R_Mo, "changed", "()V"⟩
theorem d_Mo_changed_0 : decode b_Mo_changed 0 = .ok (.aload_n 0, 1) := by decide +kernel
theorem d_Mo_changed_1 : decode b_Mo_changed 1 = .ok (.iconst 0, 1) := by decide +kernel
theorem d_Mo_changed_2 : decode b_Mo_changed 2 = .ok (.putfield 162, 3) := by decide +kernel
theorem d_Mo_changed_5 : decode b_Mo_changed 5 = .ok (.return_, 1) := by decide +kernel
abbrev b_Mo_poke : ByteArray := prog_14_method_50_code
def y_Mo_poke : MethodName := ⟨R_Mo, "poke", "(III)Z"⟩
theorem d_Mo_poke_0 : decode b_Mo_poke 0 = .ok (.aload_n 0, 1) := by decide +kernel
theorem d_Mo_poke_1 : decode b_Mo_poke 1 = .ok (.iconst 0, 1) := by decide +kernel
theorem d_Mo_poke_2 : decode b_Mo_poke 2 = .ok (.putfield 100, 3) := by decide +kernel
theorem d_Mo_poke_5 : decode b_Mo_poke 5 = .ok (.aload_n 0, 1) := by decide +kernel
theorem d_Mo_poke_6 : decode b_Mo_poke 6 = .ok (.getfield 305, 3) := by decide +kernel
theorem d_Mo_poke_9 : decode b_Mo_poke 9 = .ok (.ifCond .ne 37, 3) := by decide +kernel
theorem d_Mo_poke_12 : decode b_Mo_poke 12 = .ok (.iload_n 1, 1) := by decide +kernel
theorem d_Mo_poke_13 : decode b_Mo_poke 13 = .ok (.ifCond .lt 33, 3) := by decide +kernel
theorem d_Mo_poke_16 : decode b_Mo_poke 16 = .ok (.iload_n 1, 1) := by decide +kernel
theorem d_Mo_poke_17 : decode b_Mo_poke 17 = .ok (.aload_n 0, 1) := by decide +kernel
theorem d_Mo_poke_18 : decode b_Mo_poke 18 = .ok (.getfield 96, 3) := by decide +kernel
theorem d_Mo_poke_21 : decode b_Mo_poke 21 = .ok (.if_icmp .ge 25, 3) := by decide +kernel
theorem d_Mo_poke_24 : decode b_Mo_poke 24 = .ok (.iload_n 1, 1) := by decide +kernel
theorem d_Mo_poke_25 : decode b_Mo_poke 25 = .ok (.iconst 2, 1) := by decide +kernel
theorem d_Mo_poke_26 : decode b_Mo_poke 26 = .ok (.if_icmp .eq 20, 3) := by decide +kernel
theorem d_Mo_poke_29 : decode b_Mo_poke 29 = .ok (.iload_n 1, 1) := by decide +kernel
theorem d_Mo_poke_30 : decode b_Mo_poke 30 = .ok (.bipush 7, 2) := by decide +kernel
theorem d_Mo_poke_32 : decode b_Mo_poke 32 = .ok (.if_icmp .eq 14, 3) := by decide +kernel
theorem d_Mo_poke_35 : decode b_Mo_poke 35 = .ok (.iload_n 2, 1) := by decide +kernel
theorem d_Mo_poke_36 : decode b_Mo_poke 36 = .ok (.ifCond .lt 10, 3) := by decide +kernel
theorem d_Mo_poke_39 : decode b_Mo_poke 39 = .ok (.iload_n 2, 1) := by decide +kernel
theorem d_Mo_poke_40 : decode b_Mo_poke 40 = .ok (.sipush 511, 3) := by decide +kernel
theorem d_Mo_poke_43 : decode b_Mo_poke 43 = .ok (.if_icmp .le 5, 3) := by decide +kernel
theorem d_Mo_poke_46 : decode b_Mo_poke 46 = .ok (.iconst 0, 1) := by decide +kernel
theorem d_Mo_poke_47 : decode b_Mo_poke 47 = .ok (.ireturn, 1) := by decide +kernel
theorem d_Mo_poke_48 : decode b_Mo_poke 48 = .ok (.aload_n 0, 1) := by decide +kernel
theorem d_Mo_poke_49 : decode b_Mo_poke 49 = .ok (.getfield 8, 3) := by decide +kernel
theorem d_Mo_poke_52 : decode b_Mo_poke 52 = .ok (.sipush 512, 3) := by decide +kernel
theorem d_Mo_poke_55 : decode b_Mo_poke 55 = .ok (.iload_n 1, 1) := by decide +kernel
theorem d_Mo_poke_56 : decode b_Mo_poke 56 = .ok (.imul, 1) := by decide +kernel
theorem d_Mo_poke_57 : decode b_Mo_poke 57 = .ok (.iload_n 2, 1) := by decide +kernel
theorem d_Mo_poke_58 : decode b_Mo_poke 58 = .ok (.iadd, 1) := by decide +kernel
theorem d_Mo_poke_59 : decode b_Mo_poke 59 = .ok (.iload_n 3, 1) := by decide +kernel
theorem d_Mo_poke_60 : decode b_Mo_poke 60 = .ok (.i2b, 1) := by decide +kernel
theorem d_Mo_poke_61 : decode b_Mo_poke 61 = .ok (.bastore, 1) := by decide +kernel
theorem d_Mo_poke_62 : decode b_Mo_poke 62 = .ok (.aload_n 0, 1) := by decide +kernel
theorem d_Mo_poke_63 : decode b_Mo_poke 63 = .ok (.invokevirtual 308, 3) := by decide +kernel
theorem d_Mo_poke_66 : decode b_Mo_poke 66 = .ok (.aload_n 0, 1) := by decide +kernel
theorem d_Mo_poke_67 : decode b_Mo_poke 67 = .ok (.iconst 0, 1) := by decide +kernel
theorem d_Mo_poke_68 : decode b_Mo_poke 68 = .ok (.putfield 311, 3) := by decide +kernel
theorem d_Mo_poke_71 : decode b_Mo_poke 71 = .ok (.iconst 1, 1) := by decide +kernel
theorem d_Mo_poke_72 : decode b_Mo_poke 72 = .ok (.ireturn, 1) := by decide +kernel
abbrev b_Mo_byteAt : ByteArray := prog_14_method_51_code
def y_Mo_byteAt : MethodName := ⟨R_Mo, "byteAt", "(II)I"⟩
theorem d_Mo_byteAt_0 : decode b_Mo_byteAt 0 = .ok (.aload_n 0, 1) := by decide +kernel
theorem d_Mo_byteAt_1 : decode b_Mo_byteAt 1 = .ok (.iconst 0, 1) := by decide +kernel
theorem d_Mo_byteAt_2 : decode b_Mo_byteAt 2 = .ok (.putfield 100, 3) := by decide +kernel
theorem d_Mo_byteAt_5 : decode b_Mo_byteAt 5 = .ok (.iload_n 1, 1) := by decide +kernel
theorem d_Mo_byteAt_6 : decode b_Mo_byteAt 6 = .ok (.ifCond .lt 22, 3) := by decide +kernel
theorem d_Mo_byteAt_9 : decode b_Mo_byteAt 9 = .ok (.iload_n 1, 1) := by decide +kernel
theorem d_Mo_byteAt_10 : decode b_Mo_byteAt 10 = .ok (.aload_n 0, 1) := by decide +kernel
theorem d_Mo_byteAt_11 : decode b_Mo_byteAt 11 = .ok (.getfield 96, 3) := by decide +kernel
theorem d_Mo_byteAt_14 : decode b_Mo_byteAt 14 = .ok (.if_icmp .ge 14, 3) := by decide +kernel
theorem d_Mo_byteAt_17 : decode b_Mo_byteAt 17 = .ok (.iload_n 2, 1) := by decide +kernel
theorem d_Mo_byteAt_18 : decode b_Mo_byteAt 18 = .ok (.ifCond .lt 10, 3) := by decide +kernel
theorem d_Mo_byteAt_21 : decode b_Mo_byteAt 21 = .ok (.iload_n 2, 1) := by decide +kernel
theorem d_Mo_byteAt_22 : decode b_Mo_byteAt 22 = .ok (.sipush 511, 3) := by decide +kernel
theorem d_Mo_byteAt_25 : decode b_Mo_byteAt 25 = .ok (.if_icmp .le 5, 3) := by decide +kernel
theorem d_Mo_byteAt_28 : decode b_Mo_byteAt 28 = .ok (.iconst (-1), 1) := by decide +kernel
theorem d_Mo_byteAt_29 : decode b_Mo_byteAt 29 = .ok (.ireturn, 1) := by decide +kernel
theorem d_Mo_byteAt_30 : decode b_Mo_byteAt 30 = .ok (.aload_n 0, 1) := by decide +kernel
theorem d_Mo_byteAt_31 : decode b_Mo_byteAt 31 = .ok (.invokevirtual 299, 3) := by decide +kernel
theorem d_Mo_byteAt_34 : decode b_Mo_byteAt 34 = .ok (.aload_n 0, 1) := by decide +kernel
theorem d_Mo_byteAt_35 : decode b_Mo_byteAt 35 = .ok (.getfield 302, 3) := by decide +kernel
theorem d_Mo_byteAt_38 : decode b_Mo_byteAt 38 = .ok (.ifCond .eq 54, 3) := by decide +kernel
theorem d_Mo_byteAt_41 : decode b_Mo_byteAt 41 = .ok (.iload_n 1, 1) := by decide +kernel
theorem d_Mo_byteAt_42 : decode b_Mo_byteAt 42 = .ok (.iconst 2, 1) := by decide +kernel
theorem d_Mo_byteAt_43 : decode b_Mo_byteAt 43 = .ok (.if_icmp .ge 17, 3) := by decide +kernel
theorem d_Mo_byteAt_46 : decode b_Mo_byteAt 46 = .ok (.aload_n 0, 1) := by decide +kernel
theorem d_Mo_byteAt_47 : decode b_Mo_byteAt 47 = .ok (.sipush 512, 3) := by decide +kernel
theorem d_Mo_byteAt_50 : decode b_Mo_byteAt 50 = .ok (.iload_n 1, 1) := by decide +kernel
theorem d_Mo_byteAt_51 : decode b_Mo_byteAt 51 = .ok (.imul, 1) := by decide +kernel
theorem d_Mo_byteAt_52 : decode b_Mo_byteAt 52 = .ok (.iload_n 2, 1) := by decide +kernel
theorem d_Mo_byteAt_53 : decode b_Mo_byteAt 53 = .ok (.iadd, 1) := by decide +kernel
theorem d_Mo_byteAt_54 : decode b_Mo_byteAt 54 = .ok (.invokevirtual 103, 3) := by decide +kernel
theorem d_Mo_byteAt_57 : decode b_Mo_byteAt 57 = .ok (.goto 34, 3) := by decide +kernel
theorem d_Mo_byteAt_60 : decode b_Mo_byteAt 60 = .ok (.aload_n 0, 1) := by decide +kernel
theorem d_Mo_byteAt_61 : decode b_Mo_byteAt 61 = .ok (.getfield 78, 3) := by decide +kernel
theorem d_Mo_byteAt_64 : decode b_Mo_byteAt 64 = .ok (.iload_n 1, 1) := by decide +kernel
theorem d_Mo_byteAt_65 : decode b_Mo_byteAt 65 = .ok (.iconst 2, 1) := by decide +kernel
theorem d_Mo_byteAt_66 : decode b_Mo_byteAt 66 = .ok (.idiv, 1) := by decide +kernel
theorem d_Mo_byteAt_67 : decode b_Mo_byteAt 67 = .ok (.baload, 1) := by decide +kernel
theorem d_Mo_byteAt_68 : decode b_Mo_byteAt 68 = .ok (.ifCond .eq 22, 3) := by decide +kernel
theorem d_Mo_byteAt_71 : decode b_Mo_byteAt 71 = .ok (.aload_n 0, 1) := by decide +kernel
theorem d_Mo_byteAt_72 : decode b_Mo_byteAt 72 = .ok (.getfield 14, 3) := by decide +kernel
theorem d_Mo_byteAt_75 : decode b_Mo_byteAt 75 = .ok (.sipush 512, 3) := by decide +kernel
theorem d_Mo_byteAt_78 : decode b_Mo_byteAt 78 = .ok (.iload_n 1, 1) := by decide +kernel
theorem d_Mo_byteAt_79 : decode b_Mo_byteAt 79 = .ok (.imul, 1) := by decide +kernel
theorem d_Mo_byteAt_80 : decode b_Mo_byteAt 80 = .ok (.iload_n 2, 1) := by decide +kernel
theorem d_Mo_byteAt_81 : decode b_Mo_byteAt 81 = .ok (.iadd, 1) := by decide +kernel
theorem d_Mo_byteAt_82 : decode b_Mo_byteAt 82 = .ok (.baload, 1) := by decide +kernel
theorem d_Mo_byteAt_83 : decode b_Mo_byteAt 83 = .ok (.sipush 255, 3) := by decide +kernel
theorem d_Mo_byteAt_86 : decode b_Mo_byteAt 86 = .ok (.iand, 1) := by decide +kernel
theorem d_Mo_byteAt_87 : decode b_Mo_byteAt 87 = .ok (.goto 4, 3) := by decide +kernel
theorem d_Mo_byteAt_90 : decode b_Mo_byteAt 90 = .ok (.iconst (-1), 1) := by decide +kernel
theorem d_Mo_byteAt_91 : decode b_Mo_byteAt 91 = .ok (.ireturn, 1) := by decide +kernel
theorem d_Mo_byteAt_92 : decode b_Mo_byteAt 92 = .ok (.aload_n 0, 1) := by decide +kernel
theorem d_Mo_byteAt_93 : decode b_Mo_byteAt 93 = .ok (.getfield 182, 3) := by decide +kernel
theorem d_Mo_byteAt_96 : decode b_Mo_byteAt 96 = .ok (.iconst 1, 1) := by decide +kernel
theorem d_Mo_byteAt_97 : decode b_Mo_byteAt 97 = .ok (.if_icmp .eq 43, 3) := by decide +kernel
theorem d_Mo_byteAt_100 : decode b_Mo_byteAt 100 = .ok (.iload_n 1, 1) := by decide +kernel
theorem d_Mo_byteAt_101 : decode b_Mo_byteAt 101 = .ok (.aload_n 0, 1) := by decide +kernel
theorem d_Mo_byteAt_102 : decode b_Mo_byteAt 102 = .ok (.getfield 135, 3) := by decide +kernel
theorem d_Mo_byteAt_105 : decode b_Mo_byteAt 105 = .ok (.if_icmp .lt 35, 3) := by decide +kernel
theorem d_Mo_byteAt_108 : decode b_Mo_byteAt 108 = .ok (.iconst 2, 1) := by decide +kernel
theorem d_Mo_byteAt_109 : decode b_Mo_byteAt 109 = .ok (.iload_n 1, 1) := by decide +kernel
theorem d_Mo_byteAt_110 : decode b_Mo_byteAt 110 = .ok (.aload_n 0, 1) := by decide +kernel
theorem d_Mo_byteAt_111 : decode b_Mo_byteAt 111 = .ok (.getfield 135, 3) := by decide +kernel
theorem d_Mo_byteAt_114 : decode b_Mo_byteAt 114 = .ok (.isub, 1) := by decide +kernel
theorem d_Mo_byteAt_115 : decode b_Mo_byteAt 115 = .ok (.aload_n 0, 1) := by decide +kernel
theorem d_Mo_byteAt_116 : decode b_Mo_byteAt 116 = .ok (.getfield 138, 3) := by decide +kernel
theorem d_Mo_byteAt_119 : decode b_Mo_byteAt 119 = .ok (.idiv, 1) := by decide +kernel
theorem d_Mo_byteAt_120 : decode b_Mo_byteAt 120 = .ok (.iadd, 1) := by decide +kernel
theorem d_Mo_byteAt_121 : decode b_Mo_byteAt 121 = .ok (.istore_n 3, 1) := by decide +kernel
theorem d_Mo_byteAt_122 : decode b_Mo_byteAt 122 = .ok (.aload_n 0, 1) := by decide +kernel
theorem d_Mo_byteAt_123 : decode b_Mo_byteAt 123 = .ok (.iload_n 3, 1) := by decide +kernel
theorem d_Mo_byteAt_124 : decode b_Mo_byteAt 124 = .ok (.invokevirtual 145, 3) := by decide +kernel
theorem d_Mo_byteAt_127 : decode b_Mo_byteAt 127 = .ok (.ifCond .eq 11, 3) := by decide +kernel
theorem d_Mo_byteAt_130 : decode b_Mo_byteAt 130 = .ok (.aload_n 0, 1) := by decide +kernel
theorem d_Mo_byteAt_131 : decode b_Mo_byteAt 131 = .ok (.iload_n 3, 1) := by decide +kernel
theorem d_Mo_byteAt_132 : decode b_Mo_byteAt 132 = .ok (.invokevirtual 149, 3) := by decide +kernel
theorem d_Mo_byteAt_135 : decode b_Mo_byteAt 135 = .ok (.ifCond .ne 5, 3) := by decide +kernel
theorem d_Mo_byteAt_138 : decode b_Mo_byteAt 138 = .ok (.iconst (-1), 1) := by decide +kernel
theorem d_Mo_byteAt_139 : decode b_Mo_byteAt 139 = .ok (.ireturn, 1) := by decide +kernel
theorem d_Mo_byteAt_140 : decode b_Mo_byteAt 140 = .ok (.aload_n 0, 1) := by decide +kernel
theorem d_Mo_byteAt_141 : decode b_Mo_byteAt 141 = .ok (.sipush 512, 3) := by decide +kernel
theorem d_Mo_byteAt_144 : decode b_Mo_byteAt 144 = .ok (.iload_n 1, 1) := by decide +kernel
theorem d_Mo_byteAt_145 : decode b_Mo_byteAt 145 = .ok (.imul, 1) := by decide +kernel
theorem d_Mo_byteAt_146 : decode b_Mo_byteAt 146 = .ok (.iload_n 2, 1) := by decide +kernel
theorem d_Mo_byteAt_147 : decode b_Mo_byteAt 147 = .ok (.iadd, 1) := by decide +kernel
theorem d_Mo_byteAt_148 : decode b_Mo_byteAt 148 = .ok (.invokevirtual 103, 3) := by decide +kernel
theorem d_Mo_byteAt_151 : decode b_Mo_byteAt 151 = .ok (.ireturn, 1) := by decide +kernel
abbrev b_Mo_format : ByteArray := prog_14_method_52_code
def y_Mo_format : MethodName := ⟨R_Mo, "format", "(IIII)I"⟩
theorem d_Mo_format_0 : decode b_Mo_format 0 = .ok (.aload_n 0, 1) := by decide +kernel
theorem d_Mo_format_1 : decode b_Mo_format 1 = .ok (.iconst 0, 1) := by decide +kernel
theorem d_Mo_format_2 : decode b_Mo_format 2 = .ok (.putfield 100, 3) := by decide +kernel
theorem d_Mo_format_5 : decode b_Mo_format 5 = .ok (.aload_n 0, 1) := by decide +kernel
theorem d_Mo_format_6 : decode b_Mo_format 6 = .ok (.getfield 296, 3) := by decide +kernel
theorem d_Mo_format_9 : decode b_Mo_format 9 = .ok (.istore 5, 2) := by decide +kernel
theorem d_Mo_format_11 : decode b_Mo_format 11 = .ok (.aload_n 0, 1) := by decide +kernel
theorem d_Mo_format_12 : decode b_Mo_format 12 = .ok (.iconst 0, 1) := by decide +kernel
theorem d_Mo_format_13 : decode b_Mo_format 13 = .ok (.putfield 296, 3) := by decide +kernel
theorem d_Mo_format_16 : decode b_Mo_format 16 = .ok (.iload_n 1, 1) := by decide +kernel
theorem d_Mo_format_17 : decode b_Mo_format 17 = .ok (.iconst 2, 1) := by decide +kernel
theorem d_Mo_format_18 : decode b_Mo_format 18 = .ok (.if_icmp .eq 14, 3) := by decide +kernel
theorem d_Mo_format_21 : decode b_Mo_format 21 = .ok (.iload_n 1, 1) := by decide +kernel
theorem d_Mo_format_22 : decode b_Mo_format 22 = .ok (.iconst 4, 1) := by decide +kernel
theorem d_Mo_format_23 : decode b_Mo_format 23 = .ok (.if_icmp .eq 9, 3) := by decide +kernel
theorem d_Mo_format_26 : decode b_Mo_format 26 = .ok (.iload_n 1, 1) := by decide +kernel
theorem d_Mo_format_27 : decode b_Mo_format 27 = .ok (.bipush 8, 2) := by decide +kernel
theorem d_Mo_format_29 : decode b_Mo_format 29 = .ok (.if_icmp .ne 36, 3) := by decide +kernel
theorem d_Mo_format_32 : decode b_Mo_format 32 = .ok (.iload_n 2, 1) := by decide +kernel
theorem d_Mo_format_33 : decode b_Mo_format 33 = .ok (.bipush 8, 2) := by decide +kernel
theorem d_Mo_format_35 : decode b_Mo_format 35 = .ok (.if_icmp .lt 30, 3) := by decide +kernel
theorem d_Mo_format_38 : decode b_Mo_format 38 = .ok (.iload_n 2, 1) := by decide +kernel
theorem d_Mo_format_39 : decode b_Mo_format 39 = .ok (.bipush 64, 2) := by decide +kernel
theorem d_Mo_format_41 : decode b_Mo_format 41 = .ok (.if_icmp .gt 24, 3) := by decide +kernel
theorem d_Mo_format_44 : decode b_Mo_format 44 = .ok (.iload_n 3, 1) := by decide +kernel
theorem d_Mo_format_45 : decode b_Mo_format 45 = .ok (.iconst 1, 1) := by decide +kernel
theorem d_Mo_format_46 : decode b_Mo_format 46 = .ok (.if_icmp .eq 8, 3) := by decide +kernel
theorem d_Mo_format_49 : decode b_Mo_format 49 = .ok (.iload_n 3, 1) := by decide +kernel
theorem d_Mo_format_50 : decode b_Mo_format 50 = .ok (.iconst 2, 1) := by decide +kernel
theorem d_Mo_format_51 : decode b_Mo_format 51 = .ok (.if_icmp .ne 14, 3) := by decide +kernel
theorem d_Mo_format_54 : decode b_Mo_format 54 = .ok (.iload 5, 2) := by decide +kernel
theorem d_Mo_format_56 : decode b_Mo_format 56 = .ok (.bipush 11, 2) := by decide +kernel
theorem d_Mo_format_58 : decode b_Mo_format 58 = .ok (.if_icmp .gt 7, 3) := by decide +kernel
theorem d_Mo_format_61 : decode b_Mo_format 61 = .ok (.iconst 1, 1) := by decide +kernel
theorem d_Mo_format_62 : decode b_Mo_format 62 = .ok (.goto 4, 3) := by decide +kernel
theorem d_Mo_format_65 : decode b_Mo_format 65 = .ok (.iconst 0, 1) := by decide +kernel
theorem d_Mo_format_66 : decode b_Mo_format 66 = .ok (.istore 6, 2) := by decide +kernel
theorem d_Mo_format_68 : decode b_Mo_format 68 = .ok (.iconst 0, 1) := by decide +kernel
theorem d_Mo_format_69 : decode b_Mo_format 69 = .ok (.istore 7, 2) := by decide +kernel
theorem d_Mo_format_71 : decode b_Mo_format 71 = .ok (.iload 7, 2) := by decide +kernel
theorem d_Mo_format_73 : decode b_Mo_format 73 = .ok (.iload 5, 2) := by decide +kernel
theorem d_Mo_format_75 : decode b_Mo_format 75 = .ok (.if_icmp .ge 49, 3) := by decide +kernel
theorem d_Mo_format_78 : decode b_Mo_format 78 = .ok (.iload 6, 2) := by decide +kernel
theorem d_Mo_format_80 : decode b_Mo_format 80 = .ok (.ifCond .eq 44, 3) := by decide +kernel
theorem d_Mo_format_83 : decode b_Mo_format 83 = .ok (.aload_n 0, 1) := by decide +kernel
theorem d_Mo_format_84 : decode b_Mo_format 84 = .ok (.iload 7, 2) := by decide +kernel
theorem d_Mo_format_86 : decode b_Mo_format 86 = .ok (.invokevirtual 314, 3) := by decide +kernel
theorem d_Mo_format_89 : decode b_Mo_format 89 = .ok (.bipush 32, 2) := by decide +kernel
theorem d_Mo_format_91 : decode b_Mo_format 91 = .ok (.if_icmp .ne 16, 3) := by decide +kernel
theorem d_Mo_format_94 : decode b_Mo_format 94 = .ok (.iload 7, 2) := by decide +kernel
theorem d_Mo_format_96 : decode b_Mo_format 96 = .ok (.ifCond .le 7, 3) := by decide +kernel
theorem d_Mo_format_99 : decode b_Mo_format 99 = .ok (.iconst 1, 1) := by decide +kernel
theorem d_Mo_format_100 : decode b_Mo_format 100 = .ok (.goto 16, 3) := by decide +kernel
theorem d_Mo_format_103 : decode b_Mo_format 103 = .ok (.iconst 0, 1) := by decide +kernel
theorem d_Mo_format_104 : decode b_Mo_format 104 = .ok (.goto 12, 3) := by decide +kernel
theorem d_Mo_format_107 : decode b_Mo_format 107 = .ok (.aload_n 0, 1) := by decide +kernel
theorem d_Mo_format_108 : decode b_Mo_format 108 = .ok (.iload 7, 2) := by decide +kernel
theorem d_Mo_format_110 : decode b_Mo_format 110 = .ok (.invokevirtual 314, 3) := by decide +kernel
theorem d_Mo_format_113 : decode b_Mo_format 113 = .ok (.invokestatic 237, 3) := by decide +kernel
theorem d_Mo_format_116 : decode b_Mo_format 116 = .ok (.istore 6, 2) := by decide +kernel
theorem d_Mo_format_118 : decode b_Mo_format 118 = .ok (.iinc 7 1, 3) := by decide +kernel
theorem d_Mo_format_121 : decode b_Mo_format 121 = .ok (.goto (-50), 3) := by decide +kernel
theorem d_Mo_format_124 : decode b_Mo_format 124 = .ok (.iconst 1, 1) := by decide +kernel
theorem d_Mo_format_125 : decode b_Mo_format 125 = .ok (.istore 7, 2) := by decide +kernel
theorem d_Mo_format_127 : decode b_Mo_format 127 = .ok (.iload 6, 2) := by decide +kernel
theorem d_Mo_format_129 : decode b_Mo_format 129 = .ok (.ifCond .eq 57, 3) := by decide +kernel
theorem d_Mo_format_132 : decode b_Mo_format 132 = .ok (.iload 7, 2) := by decide +kernel
theorem d_Mo_format_134 : decode b_Mo_format 134 = .ok (.bipush 33, 2) := by decide +kernel
theorem d_Mo_format_136 : decode b_Mo_format 136 = .ok (.if_icmp .ge 50, 3) := by decide +kernel
theorem d_Mo_format_139 : decode b_Mo_format 139 = .ok (.aload_n 0, 1) := by decide +kernel
theorem d_Mo_format_140 : decode b_Mo_format 140 = .ok (.getfield 96, 3) := by decide +kernel
theorem d_Mo_format_143 : decode b_Mo_format 143 = .ok (.iload_n 2, 1) := by decide +kernel
theorem d_Mo_format_144 : decode b_Mo_format 144 = .ok (.isub, 1) := by decide +kernel
theorem d_Mo_format_145 : decode b_Mo_format 145 = .ok (.iload_n 3, 1) := by decide +kernel
theorem d_Mo_format_146 : decode b_Mo_format 146 = .ok (.iload 7, 2) := by decide +kernel
theorem d_Mo_format_148 : decode b_Mo_format 148 = .ok (.imul, 1) := by decide +kernel
theorem d_Mo_format_149 : decode b_Mo_format 149 = .ok (.isub, 1) := by decide +kernel
theorem d_Mo_format_150 : decode b_Mo_format 150 = .ok (.iload_n 1, 1) := by decide +kernel
theorem d_Mo_format_151 : decode b_Mo_format 151 = .ok (.idiv, 1) := by decide +kernel
theorem d_Mo_format_152 : decode b_Mo_format 152 = .ok (.iconst 4, 1) := by decide +kernel
theorem d_Mo_format_153 : decode b_Mo_format 153 = .ok (.if_icmp .lt 27, 3) := by decide +kernel
theorem d_Mo_format_156 : decode b_Mo_format 156 = .ok (.sipush 128, 3) := by decide +kernel
theorem d_Mo_format_159 : decode b_Mo_format 159 = .ok (.iload 7, 2) := by decide +kernel
theorem d_Mo_format_161 : decode b_Mo_format 161 = .ok (.imul, 1) := by decide +kernel
theorem d_Mo_format_162 : decode b_Mo_format 162 = .ok (.aload_n 0, 1) := by decide +kernel
theorem d_Mo_format_163 : decode b_Mo_format 163 = .ok (.getfield 96, 3) := by decide +kernel
theorem d_Mo_format_166 : decode b_Mo_format 166 = .ok (.iload_n 2, 1) := by decide +kernel
theorem d_Mo_format_167 : decode b_Mo_format 167 = .ok (.isub, 1) := by decide +kernel
theorem d_Mo_format_168 : decode b_Mo_format 168 = .ok (.iload_n 3, 1) := by decide +kernel
theorem d_Mo_format_169 : decode b_Mo_format 169 = .ok (.iload 7, 2) := by decide +kernel
theorem d_Mo_format_171 : decode b_Mo_format 171 = .ok (.imul, 1) := by decide +kernel
theorem d_Mo_format_172 : decode b_Mo_format 172 = .ok (.isub, 1) := by decide +kernel
theorem d_Mo_format_173 : decode b_Mo_format 173 = .ok (.iload_n 1, 1) := by decide +kernel
theorem d_Mo_format_174 : decode b_Mo_format 174 = .ok (.idiv, 1) := by decide +kernel
theorem d_Mo_format_175 : decode b_Mo_format 175 = .ok (.iconst 2, 1) := by decide +kernel
theorem d_Mo_format_176 : decode b_Mo_format 176 = .ok (.iadd, 1) := by decide +kernel
theorem d_Mo_format_177 : decode b_Mo_format 177 = .ok (.if_icmp .ge 9, 3) := by decide +kernel
theorem d_Mo_format_180 : decode b_Mo_format 180 = .ok (.iinc 7 1, 3) := by decide +kernel
theorem d_Mo_format_183 : decode b_Mo_format 183 = .ok (.goto (-56), 3) := by decide +kernel
theorem d_Mo_format_186 : decode b_Mo_format 186 = .ok (.aload_n 0, 1) := by decide +kernel
theorem d_Mo_format_187 : decode b_Mo_format 187 = .ok (.iload 6, 2) := by decide +kernel
theorem d_Mo_format_189 : decode b_Mo_format 189 = .ok (.ifCond .eq 10, 3) := by decide +kernel
theorem d_Mo_format_192 : decode b_Mo_format 192 = .ok (.iload 7, 2) := by decide +kernel
theorem d_Mo_format_194 : decode b_Mo_format 194 = .ok (.bipush 32, 2) := by decide +kernel
theorem d_Mo_format_196 : decode b_Mo_format 196 = .ok (.if_icmp .le 7, 3) := by decide +kernel
theorem d_Mo_format_199 : decode b_Mo_format 199 = .ok (.iconst 1, 1) := by decide +kernel
theorem d_Mo_format_200 : decode b_Mo_format 200 = .ok (.goto 4, 3) := by decide +kernel
theorem d_Mo_format_203 : decode b_Mo_format 203 = .ok (.iconst 0, 1) := by decide +kernel
theorem d_Mo_format_204 : decode b_Mo_format 204 = .ok (.iconst 1, 1) := by decide +kernel
theorem d_Mo_format_205 : decode b_Mo_format 205 = .ok (.invokevirtual 317, 3) := by decide +kernel
theorem d_Mo_format_208 : decode b_Mo_format 208 = .ok (.ifCond .eq 5, 3) := by decide +kernel
theorem d_Mo_format_211 : decode b_Mo_format 211 = .ok (.iconst 0, 1) := by decide +kernel
theorem d_Mo_format_212 : decode b_Mo_format 212 = .ok (.ireturn, 1) := by decide +kernel
theorem d_Mo_format_213 : decode b_Mo_format 213 = .ok (.iconst 0, 1) := by decide +kernel
theorem d_Mo_format_214 : decode b_Mo_format 214 = .ok (.istore 8, 2) := by decide +kernel
theorem d_Mo_format_216 : decode b_Mo_format 216 = .ok (.iload 8, 2) := by decide +kernel
theorem d_Mo_format_218 : decode b_Mo_format 218 = .ok (.ldc 7, 2) := by decide +kernel
theorem d_Mo_format_220 : decode b_Mo_format 220 = .ok (.if_icmp .ge 17, 3) := by decide +kernel
theorem d_Mo_format_223 : decode b_Mo_format 223 = .ok (.aload_n 0, 1) := by decide +kernel
theorem d_Mo_format_224 : decode b_Mo_format 224 = .ok (.getfield 8, 3) := by decide +kernel
theorem d_Mo_format_227 : decode b_Mo_format 227 = .ok (.iload 8, 2) := by decide +kernel
theorem d_Mo_format_229 : decode b_Mo_format 229 = .ok (.iconst 0, 1) := by decide +kernel
theorem d_Mo_format_230 : decode b_Mo_format 230 = .ok (.bastore, 1) := by decide +kernel
theorem d_Mo_format_231 : decode b_Mo_format 231 = .ok (.iinc 8 1, 3) := by decide +kernel
theorem d_Mo_format_234 : decode b_Mo_format 234 = .ok (.goto (-18), 3) := by decide +kernel
theorem d_Mo_format_237 : decode b_Mo_format 237 = .ok (.iconst 3, 1) := by decide +kernel
theorem d_Mo_format_238 : decode b_Mo_format 238 = .ok (.istore 8, 2) := by decide +kernel
theorem d_Mo_format_240 : decode b_Mo_format 240 = .ok (.iload 8, 2) := by decide +kernel
theorem d_Mo_format_242 : decode b_Mo_format 242 = .ok (.bipush 11, 2) := by decide +kernel
theorem d_Mo_format_244 : decode b_Mo_format 244 = .ok (.if_icmp .ge 18, 3) := by decide +kernel
theorem d_Mo_format_247 : decode b_Mo_format 247 = .ok (.aload_n 0, 1) := by decide +kernel
theorem d_Mo_format_248 : decode b_Mo_format 248 = .ok (.getfield 8, 3) := by decide +kernel
theorem d_Mo_format_251 : decode b_Mo_format 251 = .ok (.iload 8, 2) := by decide +kernel
theorem d_Mo_format_253 : decode b_Mo_format 253 = .ok (.bipush 32, 2) := by decide +kernel
theorem d_Mo_format_255 : decode b_Mo_format 255 = .ok (.bastore, 1) := by decide +kernel
theorem d_Mo_format_256 : decode b_Mo_format 256 = .ok (.iinc 8 1, 3) := by decide +kernel
theorem d_Mo_format_259 : decode b_Mo_format 259 = .ok (.goto (-19), 3) := by decide +kernel
theorem d_Mo_format_262 : decode b_Mo_format 262 = .ok (.aload_n 0, 1) := by decide +kernel
theorem d_Mo_format_263 : decode b_Mo_format 263 = .ok (.bipush 11, 2) := by decide +kernel
theorem d_Mo_format_265 : decode b_Mo_format 265 = .ok (.iconst 2, 1) := by decide +kernel
theorem d_Mo_format_266 : decode b_Mo_format 266 = .ok (.ldc2_w 321, 3) := by decide +kernel
theorem d_Mo_format_269 : decode b_Mo_format 269 = .ok (.invokevirtual 128, 3) := by decide +kernel
theorem d_Mo_format_272 : decode b_Mo_format 272 = .ok (.aload_n 0, 1) := by decide +kernel
theorem d_Mo_format_273 : decode b_Mo_format 273 = .ok (.bipush 13, 2) := by decide +kernel
theorem d_Mo_format_275 : decode b_Mo_format 275 = .ok (.iconst 1, 1) := by decide +kernel
theorem d_Mo_format_276 : decode b_Mo_format 276 = .ok (.iload_n 1, 1) := by decide +kernel
theorem d_Mo_format_277 : decode b_Mo_format 277 = .ok (.i2l, 1) := by decide +kernel
theorem d_Mo_format_278 : decode b_Mo_format 278 = .ok (.invokevirtual 128, 3) := by decide +kernel
theorem d_Mo_format_281 : decode b_Mo_format 281 = .ok (.aload_n 0, 1) := by decide +kernel
theorem d_Mo_format_282 : decode b_Mo_format 282 = .ok (.bipush 14, 2) := by decide +kernel
theorem d_Mo_format_284 : decode b_Mo_format 284 = .ok (.iconst 2, 1) := by decide +kernel
theorem d_Mo_format_285 : decode b_Mo_format 285 = .ok (.iload_n 2, 1) := by decide +kernel
theorem d_Mo_format_286 : decode b_Mo_format 286 = .ok (.i2l, 1) := by decide +kernel
theorem d_Mo_format_287 : decode b_Mo_format 287 = .ok (.invokevirtual 128, 3) := by decide +kernel
theorem d_Mo_format_290 : decode b_Mo_format 290 = .ok (.aload_n 0, 1) := by decide +kernel
theorem d_Mo_format_291 : decode b_Mo_format 291 = .ok (.bipush 16, 2) := by decide +kernel
theorem d_Mo_format_293 : decode b_Mo_format 293 = .ok (.iconst 1, 1) := by decide +kernel
theorem d_Mo_format_294 : decode b_Mo_format 294 = .ok (.iload_n 3, 1) := by decide +kernel
theorem d_Mo_format_295 : decode b_Mo_format 295 = .ok (.i2l, 1) := by decide +kernel
theorem d_Mo_format_296 : decode b_Mo_format 296 = .ok (.invokevirtual 128, 3) := by decide +kernel
theorem d_Mo_format_299 : decode b_Mo_format 299 = .ok (.aload_n 0, 1) := by decide +kernel
theorem d_Mo_format_300 : decode b_Mo_format 300 = .ok (.bipush 32, 2) := by decide +kernel
theorem d_Mo_format_302 : decode b_Mo_format 302 = .ok (.iconst 4, 1) := by decide +kernel
theorem d_Mo_format_303 : decode b_Mo_format 303 = .ok (.aload_n 0, 1) := by decide +kernel
theorem d_Mo_format_304 : decode b_Mo_format 304 = .ok (.getfield 96, 3) := by decide +kernel
theorem d_Mo_format_307 : decode b_Mo_format 307 = .ok (.i2l, 1) := by decide +kernel
theorem d_Mo_format_308 : decode b_Mo_format 308 = .ok (.invokevirtual 128, 3) := by decide +kernel
theorem d_Mo_format_311 : decode b_Mo_format 311 = .ok (.aload_n 0, 1) := by decide +kernel
theorem d_Mo_format_312 : decode b_Mo_format 312 = .ok (.bipush 36, 2) := by decide +kernel
theorem d_Mo_format_314 : decode b_Mo_format 314 = .ok (.iconst 4, 1) := by decide +kernel
theorem d_Mo_format_315 : decode b_Mo_format 315 = .ok (.iload 7, 2) := by decide +kernel
theorem d_Mo_format_317 : decode b_Mo_format 317 = .ok (.i2l, 1) := by decide +kernel
theorem d_Mo_format_318 : decode b_Mo_format 318 = .ok (.invokevirtual 128, 3) := by decide +kernel
theorem d_Mo_format_321 : decode b_Mo_format 321 = .ok (.aload_n 0, 1) := by decide +kernel
theorem d_Mo_format_322 : decode b_Mo_format 322 = .ok (.bipush 44, 2) := by decide +kernel
theorem d_Mo_format_324 : decode b_Mo_format 324 = .ok (.iconst 4, 1) := by decide +kernel
theorem d_Mo_format_325 : decode b_Mo_format 325 = .ok (.ldc2_w 323, 3) := by decide +kernel
theorem d_Mo_format_328 : decode b_Mo_format 328 = .ok (.invokevirtual 128, 3) := by decide +kernel
theorem d_Mo_format_331 : decode b_Mo_format 331 = .ok (.aload_n 0, 1) := by decide +kernel
theorem d_Mo_format_332 : decode b_Mo_format 332 = .ok (.bipush 48, 2) := by decide +kernel
theorem d_Mo_format_334 : decode b_Mo_format 334 = .ok (.iconst 2, 1) := by decide +kernel
theorem d_Mo_format_335 : decode b_Mo_format 335 = .ok (.lconst 1, 1) := by decide +kernel
theorem d_Mo_format_336 : decode b_Mo_format 336 = .ok (.invokevirtual 128, 3) := by decide +kernel
theorem d_Mo_format_339 : decode b_Mo_format 339 = .ok (.aload_n 0, 1) := by decide +kernel
theorem d_Mo_format_340 : decode b_Mo_format 340 = .ok (.bipush 50, 2) := by decide +kernel
theorem d_Mo_format_342 : decode b_Mo_format 342 = .ok (.iconst 2, 1) := by decide +kernel
theorem d_Mo_format_343 : decode b_Mo_format 343 = .ok (.ldc2_w 325, 3) := by decide +kernel
theorem d_Mo_format_346 : decode b_Mo_format 346 = .ok (.invokevirtual 128, 3) := by decide +kernel
theorem d_Mo_format_349 : decode b_Mo_format 349 = .ok (.aload_n 0, 1) := by decide +kernel
theorem d_Mo_format_350 : decode b_Mo_format 350 = .ok (.bipush 67, 2) := by decide +kernel
theorem d_Mo_format_352 : decode b_Mo_format 352 = .ok (.iconst 4, 1) := by decide +kernel
theorem d_Mo_format_353 : decode b_Mo_format 353 = .ok (.iload 4, 2) := by decide +kernel
theorem d_Mo_format_355 : decode b_Mo_format 355 = .ok (.i2l, 1) := by decide +kernel
theorem d_Mo_format_356 : decode b_Mo_format 356 = .ok (.invokevirtual 128, 3) := by decide +kernel
theorem d_Mo_format_359 : decode b_Mo_format 359 = .ok (.aload_n 0, 1) := by decide +kernel
theorem d_Mo_format_360 : decode b_Mo_format 360 = .ok (.sipush 510, 3) := by decide +kernel
theorem d_Mo_format_363 : decode b_Mo_format 363 = .ok (.iconst 2, 1) := by decide +kernel
theorem d_Mo_format_364 : decode b_Mo_format 364 = .ok (.ldc2_w 327, 3) := by decide +kernel
theorem d_Mo_format_367 : decode b_Mo_format 367 = .ok (.invokevirtual 128, 3) := by decide +kernel
theorem d_Mo_format_370 : decode b_Mo_format 370 = .ok (.iconst 0, 1) := by decide +kernel
theorem d_Mo_format_371 : decode b_Mo_format 371 = .ok (.istore 8, 2) := by decide +kernel
theorem d_Mo_format_373 : decode b_Mo_format 373 = .ok (.iload 8, 2) := by decide +kernel
theorem d_Mo_format_375 : decode b_Mo_format 375 = .ok (.sipush 512, 3) := by decide +kernel
theorem d_Mo_format_378 : decode b_Mo_format 378 = .ok (.if_icmp .ge 27, 3) := by decide +kernel
theorem d_Mo_format_381 : decode b_Mo_format 381 = .ok (.aload_n 0, 1) := by decide +kernel
theorem d_Mo_format_382 : decode b_Mo_format 382 = .ok (.getfield 8, 3) := by decide +kernel
theorem d_Mo_format_385 : decode b_Mo_format 385 = .ok (.sipush 3072, 3) := by decide +kernel
theorem d_Mo_format_388 : decode b_Mo_format 388 = .ok (.iload 8, 2) := by decide +kernel
theorem d_Mo_format_390 : decode b_Mo_format 390 = .ok (.iadd, 1) := by decide +kernel
theorem d_Mo_format_391 : decode b_Mo_format 391 = .ok (.aload_n 0, 1) := by decide +kernel
theorem d_Mo_format_392 : decode b_Mo_format 392 = .ok (.getfield 8, 3) := by decide +kernel
theorem d_Mo_format_395 : decode b_Mo_format 395 = .ok (.iload 8, 2) := by decide +kernel
theorem d_Mo_format_397 : decode b_Mo_format 397 = .ok (.baload, 1) := by decide +kernel
theorem d_Mo_format_398 : decode b_Mo_format 398 = .ok (.bastore, 1) := by decide +kernel
theorem d_Mo_format_399 : decode b_Mo_format 399 = .ok (.iinc 8 1, 3) := by decide +kernel
theorem d_Mo_format_402 : decode b_Mo_format 402 = .ok (.goto (-29), 3) := by decide +kernel
theorem d_Mo_format_405 : decode b_Mo_format 405 = .ok (.aload_n 0, 1) := by decide +kernel
theorem d_Mo_format_406 : decode b_Mo_format 406 = .ok (.sipush 512, 3) := by decide +kernel
theorem d_Mo_format_409 : decode b_Mo_format 409 = .ok (.iconst 4, 1) := by decide +kernel
theorem d_Mo_format_410 : decode b_Mo_format 410 = .ok (.ldc2_w 329, 3) := by decide +kernel
theorem d_Mo_format_413 : decode b_Mo_format 413 = .ok (.invokevirtual 128, 3) := by decide +kernel
theorem d_Mo_format_416 : decode b_Mo_format 416 = .ok (.aload_n 0, 1) := by decide +kernel
theorem d_Mo_format_417 : decode b_Mo_format 417 = .ok (.sipush 996, 3) := by decide +kernel
theorem d_Mo_format_420 : decode b_Mo_format 420 = .ok (.iconst 4, 1) := by decide +kernel
theorem d_Mo_format_421 : decode b_Mo_format 421 = .ok (.ldc2_w 331, 3) := by decide +kernel
theorem d_Mo_format_424 : decode b_Mo_format 424 = .ok (.invokevirtual 128, 3) := by decide +kernel
theorem d_Mo_format_427 : decode b_Mo_format 427 = .ok (.aload_n 0, 1) := by decide +kernel
theorem d_Mo_format_428 : decode b_Mo_format 428 = .ok (.sipush 1000, 3) := by decide +kernel
theorem d_Mo_format_431 : decode b_Mo_format 431 = .ok (.iconst 4, 1) := by decide +kernel
theorem d_Mo_format_432 : decode b_Mo_format 432 = .ok (.ldc2_w 333, 3) := by decide +kernel
theorem d_Mo_format_435 : decode b_Mo_format 435 = .ok (.invokevirtual 128, 3) := by decide +kernel
theorem d_Mo_format_438 : decode b_Mo_format 438 = .ok (.aload_n 0, 1) := by decide +kernel
theorem d_Mo_format_439 : decode b_Mo_format 439 = .ok (.sipush 1004, 3) := by decide +kernel
theorem d_Mo_format_442 : decode b_Mo_format 442 = .ok (.iconst 4, 1) := by decide +kernel
theorem d_Mo_format_443 : decode b_Mo_format 443 = .ok (.ldc2_w 333, 3) := by decide +kernel
theorem d_Mo_format_446 : decode b_Mo_format 446 = .ok (.invokevirtual 128, 3) := by decide +kernel
theorem d_Mo_format_449 : decode b_Mo_format 449 = .ok (.aload_n 0, 1) := by decide +kernel
theorem d_Mo_format_450 : decode b_Mo_format 450 = .ok (.sipush 1020, 3) := by decide +kernel
theorem d_Mo_format_453 : decode b_Mo_format 453 = .ok (.iconst 4, 1) := by decide +kernel
theorem d_Mo_format_454 : decode b_Mo_format 454 = .ok (.ldc2_w 335, 3) := by decide +kernel
theorem d_Mo_format_457 : decode b_Mo_format 457 = .ok (.invokevirtual 128, 3) := by decide +kernel
theorem d_Mo_format_460 : decode b_Mo_format 460 = .ok (.aload_n 0, 1) := by decide +kernel
theorem d_Mo_format_461 : decode b_Mo_format 461 = .ok (.invokevirtual 175, 3) := by decide +kernel
theorem d_Mo_format_464 : decode b_Mo_format 464 = .ok (.istore 8, 2) := by decide +kernel
theorem d_Mo_format_466 : decode b_Mo_format 466 = .ok (.aload_n 0, 1) := by decide +kernel
theorem d_Mo_format_467 : decode b_Mo_format 467 = .ok (.iconst 0, 1) := by decide +kernel
theorem d_Mo_format_468 : decode b_Mo_format 468 = .ok (.ldc 152, 2) := by decide +kernel
theorem d_Mo_format_470 : decode b_Mo_format 470 = .ok (.invokevirtual 337, 3) := by decide +kernel
theorem d_Mo_format_473 : decode b_Mo_format 473 = .ok (.aload_n 0, 1) := by decide +kernel
theorem d_Mo_format_474 : decode b_Mo_format 474 = .ok (.iconst 1, 1) := by decide +kernel
theorem d_Mo_format_475 : decode b_Mo_format 475 = .ok (.ldc 123, 2) := by decide +kernel
theorem d_Mo_format_477 : decode b_Mo_format 477 = .ok (.invokevirtual 337, 3) := by decide +kernel
theorem d_Mo_format_480 : decode b_Mo_format 480 = .ok (.aload_n 0, 1) := by decide +kernel
theorem d_Mo_format_481 : decode b_Mo_format 481 = .ok (.iconst 2, 1) := by decide +kernel
theorem d_Mo_format_482 : decode b_Mo_format 482 = .ok (.ldc 123, 2) := by decide +kernel
theorem d_Mo_format_484 : decode b_Mo_format 484 = .ok (.invokevirtual 337, 3) := by decide +kernel
theorem d_Mo_format_487 : decode b_Mo_format 487 = .ok (.iload 5, 2) := by decide +kernel
theorem d_Mo_format_489 : decode b_Mo_format 489 = .ok (.ifCond .le 81, 3) := by decide +kernel
theorem d_Mo_format_492 : decode b_Mo_format 492 = .ok (.aload_n 0, 1) := by decide +kernel
theorem d_Mo_format_493 : decode b_Mo_format 493 = .ok (.iconst 2, 1) := by decide +kernel
theorem d_Mo_format_494 : decode b_Mo_format 494 = .ok (.invokevirtual 159, 3) := by decide +kernel
theorem d_Mo_format_497 : decode b_Mo_format 497 = .ok (.istore 9, 2) := by decide +kernel
theorem d_Mo_format_499 : decode b_Mo_format 499 = .ok (.iconst 0, 1) := by decide +kernel
theorem d_Mo_format_500 : decode b_Mo_format 500 = .ok (.istore 10, 2) := by decide +kernel
theorem d_Mo_format_502 : decode b_Mo_format 502 = .ok (.iload 10, 2) := by decide +kernel
theorem d_Mo_format_504 : decode b_Mo_format 504 = .ok (.bipush 11, 2) := by decide +kernel
theorem d_Mo_format_506 : decode b_Mo_format 506 = .ok (.if_icmp .ge 38, 3) := by decide +kernel
theorem d_Mo_format_509 : decode b_Mo_format 509 = .ok (.aload_n 0, 1) := by decide +kernel
theorem d_Mo_format_510 : decode b_Mo_format 510 = .ok (.getfield 8, 3) := by decide +kernel
theorem d_Mo_format_513 : decode b_Mo_format 513 = .ok (.iload 9, 2) := by decide +kernel
theorem d_Mo_format_515 : decode b_Mo_format 515 = .ok (.iload 10, 2) := by decide +kernel
theorem d_Mo_format_517 : decode b_Mo_format 517 = .ok (.iadd, 1) := by decide +kernel
theorem d_Mo_format_518 : decode b_Mo_format 518 = .ok (.iload 10, 2) := by decide +kernel
theorem d_Mo_format_520 : decode b_Mo_format 520 = .ok (.iload 5, 2) := by decide +kernel
theorem d_Mo_format_522 : decode b_Mo_format 522 = .ok (.if_icmp .ge 13, 3) := by decide +kernel
theorem d_Mo_format_525 : decode b_Mo_format 525 = .ok (.aload_n 0, 1) := by decide +kernel
theorem d_Mo_format_526 : decode b_Mo_format 526 = .ok (.getfield 17, 3) := by decide +kernel
theorem d_Mo_format_529 : decode b_Mo_format 529 = .ok (.iload 10, 2) := by decide +kernel
theorem d_Mo_format_531 : decode b_Mo_format 531 = .ok (.baload, 1) := by decide +kernel
theorem d_Mo_format_532 : decode b_Mo_format 532 = .ok (.goto 5, 3) := by decide +kernel
theorem d_Mo_format_535 : decode b_Mo_format 535 = .ok (.bipush 32, 2) := by decide +kernel
theorem d_Mo_format_537 : decode b_Mo_format 537 = .ok (.bastore, 1) := by decide +kernel
theorem d_Mo_format_538 : decode b_Mo_format 538 = .ok (.iinc 10 1, 3) := by decide +kernel
theorem d_Mo_format_541 : decode b_Mo_format 541 = .ok (.goto (-39), 3) := by decide +kernel
theorem d_Mo_format_544 : decode b_Mo_format 544 = .ok (.aload_n 0, 1) := by decide +kernel
theorem d_Mo_format_545 : decode b_Mo_format 545 = .ok (.iload 9, 2) := by decide +kernel
theorem d_Mo_format_547 : decode b_Mo_format 547 = .ok (.bipush 11, 2) := by decide +kernel
theorem d_Mo_format_549 : decode b_Mo_format 549 = .ok (.iadd, 1) := by decide +kernel
theorem d_Mo_format_550 : decode b_Mo_format 550 = .ok (.iconst 1, 1) := by decide +kernel
theorem d_Mo_format_551 : decode b_Mo_format 551 = .ok (.ldc2_w 341, 3) := by decide +kernel
theorem d_Mo_format_554 : decode b_Mo_format 554 = .ok (.invokevirtual 128, 3) := by decide +kernel
theorem d_Mo_format_557 : decode b_Mo_format 557 = .ok (.aload_n 0, 1) := by decide +kernel
theorem d_Mo_format_558 : decode b_Mo_format 558 = .ok (.iload 9, 2) := by decide +kernel
theorem d_Mo_format_560 : decode b_Mo_format 560 = .ok (.bipush 24, 2) := by decide +kernel
theorem d_Mo_format_562 : decode b_Mo_format 562 = .ok (.iadd, 1) := by decide +kernel
theorem d_Mo_format_563 : decode b_Mo_format 563 = .ok (.iconst 2, 1) := by decide +kernel
theorem d_Mo_format_564 : decode b_Mo_format 564 = .ok (.ldc2_w 343, 3) := by decide +kernel
theorem d_Mo_format_567 : decode b_Mo_format 567 = .ok (.invokevirtual 128, 3) := by decide +kernel
theorem d_Mo_format_570 : decode b_Mo_format 570 = .ok (.aload_n 0, 1) := by decide +kernel
theorem d_Mo_format_571 : decode b_Mo_format 571 = .ok (.iconst 0, 1) := by decide +kernel
theorem d_Mo_format_572 : decode b_Mo_format 572 = .ok (.putfield 302, 3) := by decide +kernel
theorem d_Mo_format_575 : decode b_Mo_format 575 = .ok (.aload_n 0, 1) := by decide +kernel
theorem d_Mo_format_576 : decode b_Mo_format 576 = .ok (.iconst 0, 1) := by decide +kernel
theorem d_Mo_format_577 : decode b_Mo_format 577 = .ok (.putfield 305, 3) := by decide +kernel
theorem d_Mo_format_580 : decode b_Mo_format 580 = .ok (.aload_n 0, 1) := by decide +kernel
theorem d_Mo_format_581 : decode b_Mo_format 581 = .ok (.iconst 0, 1) := by decide +kernel
theorem d_Mo_format_582 : decode b_Mo_format 582 = .ok (.putfield 311, 3) := by decide +kernel
theorem d_Mo_format_585 : decode b_Mo_format 585 = .ok (.aload_n 0, 1) := by decide +kernel
theorem d_Mo_format_586 : decode b_Mo_format 586 = .ok (.invokevirtual 308, 3) := by decide +kernel
theorem d_Mo_format_589 : decode b_Mo_format 589 = .ok (.iload 8, 2) := by decide +kernel
theorem d_Mo_format_591 : decode b_Mo_format 591 = .ok (.ifCond .eq 10, 3) := by decide +kernel
theorem d_Mo_format_594 : decode b_Mo_format 594 = .ok (.aload_n 0, 1) := by decide +kernel
theorem d_Mo_format_595 : decode b_Mo_format 595 = .ok (.getfield 132, 3) := by decide +kernel
theorem d_Mo_format_598 : decode b_Mo_format 598 = .ok (.goto 4, 3) := by decide +kernel
theorem d_Mo_format_601 : decode b_Mo_format 601 = .ok (.iconst 0, 1) := by decide +kernel
theorem d_Mo_format_602 : decode b_Mo_format 602 = .ok (.ireturn, 1) := by decide +kernel
abbrev b_Mo_none : ByteArray := prog_14_method_53_code
def y_Mo_none : MethodName := ⟨R_Mo, "none", "()Z"⟩
theorem d_Mo_none_0 : decode b_Mo_none 0 = .ok (.aload_n 0, 1) := by decide +kernel
theorem d_Mo_none_1 : decode b_Mo_none 1 = .ok (.iconst 0, 1) := by decide +kernel
theorem d_Mo_none_2 : decode b_Mo_none 2 = .ok (.putfield 100, 3) := by decide +kernel
theorem d_Mo_none_5 : decode b_Mo_none 5 = .ok (.aload_n 0, 1) := by decide +kernel
theorem d_Mo_none_6 : decode b_Mo_none 6 = .ok (.invokevirtual 299, 3) := by decide +kernel
theorem d_Mo_none_9 : decode b_Mo_none 9 = .ok (.aload_n 0, 1) := by decide +kernel
theorem d_Mo_none_10 : decode b_Mo_none 10 = .ok (.aload_n 0, 1) := by decide +kernel
theorem d_Mo_none_11 : decode b_Mo_none 11 = .ok (.getfield 302, 3) := by decide +kernel
theorem d_Mo_none_14 : decode b_Mo_none 14 = .ok (.ifCond .ne 14, 3) := by decide +kernel
theorem d_Mo_none_17 : decode b_Mo_none 17 = .ok (.aload_n 0, 1) := by decide +kernel
theorem d_Mo_none_18 : decode b_Mo_none 18 = .ok (.getfield 182, 3) := by decide +kernel
theorem d_Mo_none_21 : decode b_Mo_none 21 = .ok (.ifCond .le 7, 3) := by decide +kernel
theorem d_Mo_none_24 : decode b_Mo_none 24 = .ok (.iconst 1, 1) := by decide +kernel
theorem d_Mo_none_25 : decode b_Mo_none 25 = .ok (.goto 4, 3) := by decide +kernel
theorem d_Mo_none_28 : decode b_Mo_none 28 = .ok (.iconst 0, 1) := by decide +kernel
theorem d_Mo_none_29 : decode b_Mo_none 29 = .ok (.iconst 1, 1) := by decide +kernel
theorem d_Mo_none_30 : decode b_Mo_none 30 = .ok (.invokevirtual 317, 3) := by decide +kernel
theorem d_Mo_none_33 : decode b_Mo_none 33 = .ok (.ireturn, 1) := by decide +kernel
abbrev b_Mo_items : ByteArray := prog_14_method_56_code
def y_Mo_items : MethodName := ⟨R_Mo, "items", "()I"⟩
theorem d_Mo_items_0 : decode b_Mo_items 0 = .ok (.aload_n 0, 1) := by decide +kernel
theorem d_Mo_items_1 : decode b_Mo_items 1 = .ok (.invokevirtual 349, 3) := by decide +kernel
theorem d_Mo_items_4 : decode b_Mo_items 4 = .ok (.ifCond .eq 7, 3) := by decide +kernel
theorem d_Mo_items_7 : decode b_Mo_items 7 = .ok (.iconst 0, 1) := by decide +kernel
theorem d_Mo_items_8 : decode b_Mo_items 8 = .ok (.goto 7, 3) := by decide +kernel
theorem d_Mo_items_11 : decode b_Mo_items 11 = .ok (.aload_n 0, 1) := by decide +kernel
theorem d_Mo_items_12 : decode b_Mo_items 12 = .ok (.invokevirtual 352, 3) := by decide +kernel
theorem d_Mo_items_15 : decode b_Mo_items 15 = .ok (.ireturn, 1) := by decide +kernel
abbrev b_Mo_no : ByteArray := prog_14_method_57_code
def y_Mo_no : MethodName := ⟨R_Mo, "no", "(I)Z"⟩
theorem d_Mo_no_0 : decode b_Mo_no 0 = .ok (.aload_n 0, 1) := by decide +kernel
theorem d_Mo_no_1 : decode b_Mo_no 1 = .ok (.invokevirtual 349, 3) := by decide +kernel
theorem d_Mo_no_4 : decode b_Mo_no 4 = .ok (.ifCond .ne 28, 3) := by decide +kernel
theorem d_Mo_no_7 : decode b_Mo_no 7 = .ok (.aload_n 0, 1) := by decide +kernel
theorem d_Mo_no_8 : decode b_Mo_no 8 = .ok (.iload_n 1, 1) := by decide +kernel
theorem d_Mo_no_9 : decode b_Mo_no 9 = .ok (.ifCond .lt 11, 3) := by decide +kernel
theorem d_Mo_no_12 : decode b_Mo_no 12 = .ok (.iload_n 1, 1) := by decide +kernel
theorem d_Mo_no_13 : decode b_Mo_no 13 = .ok (.aload_n 0, 1) := by decide +kernel
theorem d_Mo_no_14 : decode b_Mo_no 14 = .ok (.invokevirtual 352, 3) := by decide +kernel
theorem d_Mo_no_17 : decode b_Mo_no 17 = .ok (.if_icmp .lt 7, 3) := by decide +kernel
theorem d_Mo_no_20 : decode b_Mo_no 20 = .ok (.iconst 1, 1) := by decide +kernel
theorem d_Mo_no_21 : decode b_Mo_no 21 = .ok (.goto 4, 3) := by decide +kernel
theorem d_Mo_no_24 : decode b_Mo_no 24 = .ok (.iconst 0, 1) := by decide +kernel
theorem d_Mo_no_25 : decode b_Mo_no 25 = .ok (.iconst 2, 1) := by decide +kernel
theorem d_Mo_no_26 : decode b_Mo_no 26 = .ok (.invokevirtual 317, 3) := by decide +kernel
theorem d_Mo_no_29 : decode b_Mo_no 29 = .ok (.ifCond .eq 7, 3) := by decide +kernel
theorem d_Mo_no_32 : decode b_Mo_no 32 = .ok (.iconst 1, 1) := by decide +kernel
theorem d_Mo_no_33 : decode b_Mo_no 33 = .ok (.goto 4, 3) := by decide +kernel
theorem d_Mo_no_36 : decode b_Mo_no 36 = .ok (.iconst 0, 1) := by decide +kernel
theorem d_Mo_no_37 : decode b_Mo_no 37 = .ok (.ireturn, 1) := by decide +kernel
abbrev b_Mo_letter : ByteArray := prog_14_method_62_code
def y_Mo_letter : MethodName := ⟨R_Mo, "letter", "(II)I"⟩
theorem d_Mo_letter_0 : decode b_Mo_letter 0 = .ok (.aload_n 0, 1) := by decide +kernel
theorem d_Mo_letter_1 : decode b_Mo_letter 1 = .ok (.iload_n 1, 1) := by decide +kernel
theorem d_Mo_letter_2 : decode b_Mo_letter 2 = .ok (.invokevirtual 364, 3) := by decide +kernel
theorem d_Mo_letter_5 : decode b_Mo_letter 5 = .ok (.ifCond .eq 7, 3) := by decide +kernel
theorem d_Mo_letter_8 : decode b_Mo_letter 8 = .ok (.iconst 0, 1) := by decide +kernel
theorem d_Mo_letter_9 : decode b_Mo_letter 9 = .ok (.goto 13, 3) := by decide +kernel
theorem d_Mo_letter_12 : decode b_Mo_letter 12 = .ok (.aload_n 0, 1) := by decide +kernel
theorem d_Mo_letter_13 : decode b_Mo_letter 13 = .ok (.aload_n 0, 1) := by decide +kernel
theorem d_Mo_letter_14 : decode b_Mo_letter 14 = .ok (.iload_n 1, 1) := by decide +kernel
theorem d_Mo_letter_15 : decode b_Mo_letter 15 = .ok (.invokevirtual 367, 3) := by decide +kernel
theorem d_Mo_letter_18 : decode b_Mo_letter 18 = .ok (.iload_n 2, 1) := by decide +kernel
theorem d_Mo_letter_19 : decode b_Mo_letter 19 = .ok (.invokevirtual 370, 3) := by decide +kernel
theorem d_Mo_letter_22 : decode b_Mo_letter 22 = .ok (.ireturn, 1) := by decide +kernel
abbrev b_Mo_about : ByteArray := prog_14_method_65_code
def y_Mo_about : MethodName := ⟨R_Mo, "about", "(II)J"⟩
theorem d_Mo_about_0 : decode b_Mo_about 0 = .ok (.aload_n 0, 1) := by decide +kernel
theorem d_Mo_about_1 : decode b_Mo_about 1 = .ok (.iload_n 1, 1) := by decide +kernel
theorem d_Mo_about_2 : decode b_Mo_about 2 = .ok (.invokevirtual 364, 3) := by decide +kernel
theorem d_Mo_about_5 : decode b_Mo_about 5 = .ok (.ifCond .ne 25, 3) := by decide +kernel
theorem d_Mo_about_8 : decode b_Mo_about 8 = .ok (.aload_n 0, 1) := by decide +kernel
theorem d_Mo_about_9 : decode b_Mo_about 9 = .ok (.iload_n 2, 1) := by decide +kernel
theorem d_Mo_about_10 : decode b_Mo_about 10 = .ok (.ifCond .lt 8, 3) := by decide +kernel
theorem d_Mo_about_13 : decode b_Mo_about 13 = .ok (.iload_n 2, 1) := by decide +kernel
theorem d_Mo_about_14 : decode b_Mo_about 14 = .ok (.iconst 5, 1) := by decide +kernel
theorem d_Mo_about_15 : decode b_Mo_about 15 = .ok (.if_icmp .le 7, 3) := by decide +kernel
theorem d_Mo_about_18 : decode b_Mo_about 18 = .ok (.iconst 1, 1) := by decide +kernel
theorem d_Mo_about_19 : decode b_Mo_about 19 = .ok (.goto 4, 3) := by decide +kernel
theorem d_Mo_about_22 : decode b_Mo_about 22 = .ok (.iconst 0, 1) := by decide +kernel
theorem d_Mo_about_23 : decode b_Mo_about 23 = .ok (.iconst 3, 1) := by decide +kernel
theorem d_Mo_about_24 : decode b_Mo_about 24 = .ok (.invokevirtual 317, 3) := by decide +kernel
theorem d_Mo_about_27 : decode b_Mo_about 27 = .ok (.ifCond .eq 5, 3) := by decide +kernel
theorem d_Mo_about_30 : decode b_Mo_about 30 = .ok (.lconst 0, 1) := by decide +kernel
theorem d_Mo_about_31 : decode b_Mo_about 31 = .ok (.lreturn, 1) := by decide +kernel
theorem d_Mo_about_32 : decode b_Mo_about 32 = .ok (.aload_n 0, 1) := by decide +kernel
theorem d_Mo_about_33 : decode b_Mo_about 33 = .ok (.iload_n 1, 1) := by decide +kernel
theorem d_Mo_about_34 : decode b_Mo_about 34 = .ok (.invokevirtual 367, 3) := by decide +kernel
theorem d_Mo_about_37 : decode b_Mo_about 37 = .ok (.istore_n 3, 1) := by decide +kernel
theorem d_Mo_about_38 : decode b_Mo_about 38 = .ok (.iload_n 3, 1) := by decide +kernel
theorem d_Mo_about_39 : decode b_Mo_about 39 = .ok (.iconst (-1), 1) := by decide +kernel
theorem d_Mo_about_40 : decode b_Mo_about 40 = .ok (.if_icmp .ne 31, 3) := by decide +kernel
theorem d_Mo_about_43 : decode b_Mo_about 43 = .ok (.iload_n 2, 1) := by decide +kernel
theorem d_Mo_about_44 : decode b_Mo_about 44 = .ok (.iconst 1, 1) := by decide +kernel
theorem d_Mo_about_45 : decode b_Mo_about 45 = .ok (.if_icmp .ne 7, 3) := by decide +kernel
theorem d_Mo_about_48 : decode b_Mo_about 48 = .ok (.lconst 1, 1) := by decide +kernel
theorem d_Mo_about_49 : decode b_Mo_about 49 = .ok (.goto 21, 3) := by decide +kernel
theorem d_Mo_about_52 : decode b_Mo_about 52 = .ok (.iload_n 2, 1) := by decide +kernel
theorem d_Mo_about_53 : decode b_Mo_about 53 = .ok (.iconst 5, 1) := by decide +kernel
theorem d_Mo_about_54 : decode b_Mo_about 54 = .ok (.if_icmp .ne 15, 3) := by decide +kernel
theorem d_Mo_about_57 : decode b_Mo_about 57 = .ok (.ldc2_w 387, 3) := by decide +kernel
theorem d_Mo_about_60 : decode b_Mo_about 60 = .ok (.aload_n 0, 1) := by decide +kernel
theorem d_Mo_about_61 : decode b_Mo_about 61 = .ok (.invokevirtual 389, 3) := by decide +kernel
theorem d_Mo_about_64 : decode b_Mo_about 64 = .ok (.i2l, 1) := by decide +kernel
theorem d_Mo_about_65 : decode b_Mo_about 65 = .ok (.lmul, 1) := by decide +kernel
theorem d_Mo_about_66 : decode b_Mo_about 66 = .ok (.goto 4, 3) := by decide +kernel
theorem d_Mo_about_69 : decode b_Mo_about 69 = .ok (.lconst 0, 1) := by decide +kernel
theorem d_Mo_about_70 : decode b_Mo_about 70 = .ok (.lreturn, 1) := by decide +kernel
theorem d_Mo_about_71 : decode b_Mo_about 71 = .ok (.iload_n 2, 1) := by decide +kernel
theorem d_Mo_about_72 : decode b_Mo_about 72 = .ok (.ifCond .ne 17, 3) := by decide +kernel
theorem d_Mo_about_75 : decode b_Mo_about 75 = .ok (.aload_n 0, 1) := by decide +kernel
theorem d_Mo_about_76 : decode b_Mo_about 76 = .ok (.iload_n 3, 1) := by decide +kernel
theorem d_Mo_about_77 : decode b_Mo_about 77 = .ok (.invokevirtual 185, 3) := by decide +kernel
theorem d_Mo_about_80 : decode b_Mo_about 80 = .ok (.ifCond .eq 7, 3) := by decide +kernel
theorem d_Mo_about_83 : decode b_Mo_about 83 = .ok (.lconst 1, 1) := by decide +kernel
theorem d_Mo_about_84 : decode b_Mo_about 84 = .ok (.goto 4, 3) := by decide +kernel
theorem d_Mo_about_87 : decode b_Mo_about 87 = .ok (.lconst 0, 1) := by decide +kernel
theorem d_Mo_about_88 : decode b_Mo_about 88 = .ok (.lreturn, 1) := by decide +kernel
theorem d_Mo_about_89 : decode b_Mo_about 89 = .ok (.iload_n 2, 1) := by decide +kernel
theorem d_Mo_about_90 : decode b_Mo_about 90 = .ok (.iconst 1, 1) := by decide +kernel
theorem d_Mo_about_91 : decode b_Mo_about 91 = .ok (.if_icmp .ne 20, 3) := by decide +kernel
theorem d_Mo_about_94 : decode b_Mo_about 94 = .ok (.aload_n 0, 1) := by decide +kernel
theorem d_Mo_about_95 : decode b_Mo_about 95 = .ok (.aload_n 0, 1) := by decide +kernel
theorem d_Mo_about_96 : decode b_Mo_about 96 = .ok (.getfield 27, 3) := by decide +kernel
theorem d_Mo_about_99 : decode b_Mo_about 99 = .ok (.iload_n 3, 1) := by decide +kernel
theorem d_Mo_about_100 : decode b_Mo_about 100 = .ok (.iaload, 1) := by decide +kernel
theorem d_Mo_about_101 : decode b_Mo_about 101 = .ok (.bipush 11, 2) := by decide +kernel
theorem d_Mo_about_103 : decode b_Mo_about 103 = .ok (.iadd, 1) := by decide +kernel
theorem d_Mo_about_104 : decode b_Mo_about 104 = .ok (.invokevirtual 103, 3) := by decide +kernel
theorem d_Mo_about_107 : decode b_Mo_about 107 = .ok (.iconst 1, 1) := by decide +kernel
theorem d_Mo_about_108 : decode b_Mo_about 108 = .ok (.iand, 1) := by decide +kernel
theorem d_Mo_about_109 : decode b_Mo_about 109 = .ok (.i2l, 1) := by decide +kernel
theorem d_Mo_about_110 : decode b_Mo_about 110 = .ok (.lreturn, 1) := by decide +kernel
theorem d_Mo_about_111 : decode b_Mo_about 111 = .ok (.iload_n 2, 1) := by decide +kernel
theorem d_Mo_about_112 : decode b_Mo_about 112 = .ok (.iconst 5, 1) := by decide +kernel
theorem d_Mo_about_113 : decode b_Mo_about 113 = .ok (.if_icmp .ge 16, 3) := by decide +kernel
theorem d_Mo_about_116 : decode b_Mo_about 116 = .ok (.aload_n 0, 1) := by decide +kernel
theorem d_Mo_about_117 : decode b_Mo_about 117 = .ok (.iload_n 3, 1) := by decide +kernel
theorem d_Mo_about_118 : decode b_Mo_about 118 = .ok (.iload_n 2, 1) := by decide +kernel
theorem d_Mo_about_119 : decode b_Mo_about 119 = .ok (.iconst 2, 1) := by decide +kernel
theorem d_Mo_about_120 : decode b_Mo_about 120 = .ok (.isub, 1) := by decide +kernel
theorem d_Mo_about_121 : decode b_Mo_about 121 = .ok (.invokevirtual 392, 3) := by decide +kernel
theorem d_Mo_about_124 : decode b_Mo_about 124 = .ok (.ldc2_w 333, 3) := by decide +kernel
theorem d_Mo_about_127 : decode b_Mo_about 127 = .ok (.land, 1) := by decide +kernel
theorem d_Mo_about_128 : decode b_Mo_about 128 = .ok (.lreturn, 1) := by decide +kernel
theorem d_Mo_about_129 : decode b_Mo_about 129 = .ok (.aload_n 0, 1) := by decide +kernel
theorem d_Mo_about_130 : decode b_Mo_about 130 = .ok (.iload_n 3, 1) := by decide +kernel
theorem d_Mo_about_131 : decode b_Mo_about 131 = .ok (.invokevirtual 185, 3) := by decide +kernel
theorem d_Mo_about_134 : decode b_Mo_about 134 = .ok (.ifCond .ne 20, 3) := by decide +kernel
theorem d_Mo_about_137 : decode b_Mo_about 137 = .ok (.aload_n 0, 1) := by decide +kernel
theorem d_Mo_about_138 : decode b_Mo_about 138 = .ok (.aload_n 0, 1) := by decide +kernel
theorem d_Mo_about_139 : decode b_Mo_about 139 = .ok (.getfield 27, 3) := by decide +kernel
theorem d_Mo_about_142 : decode b_Mo_about 142 = .ok (.iload_n 3, 1) := by decide +kernel
theorem d_Mo_about_143 : decode b_Mo_about 143 = .ok (.iaload, 1) := by decide +kernel
theorem d_Mo_about_144 : decode b_Mo_about 144 = .ok (.bipush 28, 2) := by decide +kernel
theorem d_Mo_about_146 : decode b_Mo_about 146 = .ok (.iadd, 1) := by decide +kernel
theorem d_Mo_about_147 : decode b_Mo_about 147 = .ok (.invokevirtual 120, 3) := by decide +kernel
theorem d_Mo_about_150 : decode b_Mo_about 150 = .ok (.i2l, 1) := by decide +kernel
theorem d_Mo_about_151 : decode b_Mo_about 151 = .ok (.goto 24, 3) := by decide +kernel
theorem d_Mo_about_154 : decode b_Mo_about 154 = .ok (.aload_n 0, 1) := by decide +kernel
theorem d_Mo_about_155 : decode b_Mo_about 155 = .ok (.getfield 302, 3) := by decide +kernel
theorem d_Mo_about_158 : decode b_Mo_about 158 = .ok (.ifCond .eq 16, 3) := by decide +kernel
theorem d_Mo_about_161 : decode b_Mo_about 161 = .ok (.ldc2_w 387, 3) := by decide +kernel
theorem d_Mo_about_164 : decode b_Mo_about 164 = .ok (.aload_n 0, 1) := by decide +kernel
theorem d_Mo_about_165 : decode b_Mo_about 165 = .ok (.iload_n 3, 1) := by decide +kernel
theorem d_Mo_about_166 : decode b_Mo_about 166 = .ok (.invokevirtual 395, 3) := by decide +kernel
theorem d_Mo_about_169 : decode b_Mo_about 169 = .ok (.i2l, 1) := by decide +kernel
theorem d_Mo_about_170 : decode b_Mo_about 170 = .ok (.lmul, 1) := by decide +kernel
theorem d_Mo_about_171 : decode b_Mo_about 171 = .ok (.goto 4, 3) := by decide +kernel
theorem d_Mo_about_174 : decode b_Mo_about 174 = .ok (.lconst 0, 1) := by decide +kernel
theorem d_Mo_about_175 : decode b_Mo_about 175 = .ok (.lreturn, 1) := by decide +kernel
abbrev b_Mo_content : ByteArray := prog_14_method_66_code
def y_Mo_content : MethodName := ⟨R_Mo, "content", "(II)I"⟩
theorem d_Mo_content_0 : decode b_Mo_content 0 = .ok (.aload_n 0, 1) := by decide +kernel
theorem d_Mo_content_1 : decode b_Mo_content 1 = .ok (.iload_n 1, 1) := by decide +kernel
theorem d_Mo_content_2 : decode b_Mo_content 2 = .ok (.invokevirtual 364, 3) := by decide +kernel
theorem d_Mo_content_5 : decode b_Mo_content 5 = .ok (.ifCond .eq 5, 3) := by decide +kernel
theorem d_Mo_content_8 : decode b_Mo_content 8 = .ok (.iconst 0, 1) := by decide +kernel
theorem d_Mo_content_9 : decode b_Mo_content 9 = .ok (.ireturn, 1) := by decide +kernel
theorem d_Mo_content_10 : decode b_Mo_content 10 = .ok (.aload_n 0, 1) := by decide +kernel
theorem d_Mo_content_11 : decode b_Mo_content 11 = .ok (.iload_n 1, 1) := by decide +kernel
theorem d_Mo_content_12 : decode b_Mo_content 12 = .ok (.invokevirtual 367, 3) := by decide +kernel
theorem d_Mo_content_15 : decode b_Mo_content 15 = .ok (.istore_n 3, 1) := by decide +kernel
theorem d_Mo_content_16 : decode b_Mo_content 16 = .ok (.iload_n 3, 1) := by decide +kernel
theorem d_Mo_content_17 : decode b_Mo_content 17 = .ok (.iconst (-1), 1) := by decide +kernel
theorem d_Mo_content_18 : decode b_Mo_content 18 = .ok (.if_icmp .ne 53, 3) := by decide +kernel
theorem d_Mo_content_21 : decode b_Mo_content 21 = .ok (.iload_n 2, 1) := by decide +kernel
theorem d_Mo_content_22 : decode b_Mo_content 22 = .ok (.ifCond .lt 15, 3) := by decide +kernel
theorem d_Mo_content_25 : decode b_Mo_content 25 = .ok (.iload_n 2, 1) := by decide +kernel
theorem d_Mo_content_26 : decode b_Mo_content 26 = .ok (.sipush 1024, 3) := by decide +kernel
theorem d_Mo_content_29 : decode b_Mo_content 29 = .ok (.aload_n 0, 1) := by decide +kernel
theorem d_Mo_content_30 : decode b_Mo_content 30 = .ok (.invokevirtual 389, 3) := by decide +kernel
theorem d_Mo_content_33 : decode b_Mo_content 33 = .ok (.imul, 1) := by decide +kernel
theorem d_Mo_content_34 : decode b_Mo_content 34 = .ok (.if_icmp .lt 7, 3) := by decide +kernel
theorem d_Mo_content_37 : decode b_Mo_content 37 = .ok (.iconst (-1), 1) := by decide +kernel
theorem d_Mo_content_38 : decode b_Mo_content 38 = .ok (.goto 32, 3) := by decide +kernel
theorem d_Mo_content_41 : decode b_Mo_content 41 = .ok (.aload_n 0, 1) := by decide +kernel
theorem d_Mo_content_42 : decode b_Mo_content 42 = .ok (.getfield 14, 3) := by decide +kernel
theorem d_Mo_content_45 : decode b_Mo_content 45 = .ok (.sipush 1024, 3) := by decide +kernel
theorem d_Mo_content_48 : decode b_Mo_content 48 = .ok (.aload_n 0, 1) := by decide +kernel
theorem d_Mo_content_49 : decode b_Mo_content 49 = .ok (.getfield 90, 3) := by decide +kernel
theorem d_Mo_content_52 : decode b_Mo_content 52 = .ok (.iload_n 2, 1) := by decide +kernel
theorem d_Mo_content_53 : decode b_Mo_content 53 = .ok (.sipush 1024, 3) := by decide +kernel
theorem d_Mo_content_56 : decode b_Mo_content 56 = .ok (.idiv, 1) := by decide +kernel
theorem d_Mo_content_57 : decode b_Mo_content 57 = .ok (.iaload, 1) := by decide +kernel
theorem d_Mo_content_58 : decode b_Mo_content 58 = .ok (.imul, 1) := by decide +kernel
theorem d_Mo_content_59 : decode b_Mo_content 59 = .ok (.iload_n 2, 1) := by decide +kernel
theorem d_Mo_content_60 : decode b_Mo_content 60 = .ok (.sipush 1024, 3) := by decide +kernel
theorem d_Mo_content_63 : decode b_Mo_content 63 = .ok (.irem, 1) := by decide +kernel
theorem d_Mo_content_64 : decode b_Mo_content 64 = .ok (.iadd, 1) := by decide +kernel
theorem d_Mo_content_65 : decode b_Mo_content 65 = .ok (.baload, 1) := by decide +kernel
theorem d_Mo_content_66 : decode b_Mo_content 66 = .ok (.sipush 255, 3) := by decide +kernel
theorem d_Mo_content_69 : decode b_Mo_content 69 = .ok (.iand, 1) := by decide +kernel
theorem d_Mo_content_70 : decode b_Mo_content 70 = .ok (.ireturn, 1) := by decide +kernel
theorem d_Mo_content_71 : decode b_Mo_content 71 = .ok (.aload_n 0, 1) := by decide +kernel
theorem d_Mo_content_72 : decode b_Mo_content 72 = .ok (.iload_n 3, 1) := by decide +kernel
theorem d_Mo_content_73 : decode b_Mo_content 73 = .ok (.invokevirtual 185, 3) := by decide +kernel
theorem d_Mo_content_76 : decode b_Mo_content 76 = .ok (.ifCond .ne 24, 3) := by decide +kernel
theorem d_Mo_content_79 : decode b_Mo_content 79 = .ok (.iload_n 2, 1) := by decide +kernel
theorem d_Mo_content_80 : decode b_Mo_content 80 = .ok (.ifCond .lt 20, 3) := by decide +kernel
theorem d_Mo_content_83 : decode b_Mo_content 83 = .ok (.iload_n 2, 1) := by decide +kernel
theorem d_Mo_content_84 : decode b_Mo_content 84 = .ok (.aload_n 0, 1) := by decide +kernel
theorem d_Mo_content_85 : decode b_Mo_content 85 = .ok (.aload_n 0, 1) := by decide +kernel
theorem d_Mo_content_86 : decode b_Mo_content 86 = .ok (.getfield 27, 3) := by decide +kernel
theorem d_Mo_content_89 : decode b_Mo_content 89 = .ok (.iload_n 3, 1) := by decide +kernel
theorem d_Mo_content_90 : decode b_Mo_content 90 = .ok (.iaload, 1) := by decide +kernel
theorem d_Mo_content_91 : decode b_Mo_content 91 = .ok (.bipush 28, 2) := by decide +kernel
theorem d_Mo_content_93 : decode b_Mo_content 93 = .ok (.iadd, 1) := by decide +kernel
theorem d_Mo_content_94 : decode b_Mo_content 94 = .ok (.invokevirtual 120, 3) := by decide +kernel
theorem d_Mo_content_97 : decode b_Mo_content 97 = .ok (.if_icmp .lt 5, 3) := by decide +kernel
theorem d_Mo_content_100 : decode b_Mo_content 100 = .ok (.iconst (-1), 1) := by decide +kernel
theorem d_Mo_content_101 : decode b_Mo_content 101 = .ok (.ireturn, 1) := by decide +kernel
theorem d_Mo_content_102 : decode b_Mo_content 102 = .ok (.aload_n 0, 1) := by decide +kernel
theorem d_Mo_content_103 : decode b_Mo_content 103 = .ok (.aload_n 0, 1) := by decide +kernel
theorem d_Mo_content_104 : decode b_Mo_content 104 = .ok (.iload_n 3, 1) := by decide +kernel
theorem d_Mo_content_105 : decode b_Mo_content 105 = .ok (.invokevirtual 192, 3) := by decide +kernel
theorem d_Mo_content_108 : decode b_Mo_content 108 = .ok (.invokevirtual 195, 3) := by decide +kernel
theorem d_Mo_content_111 : decode b_Mo_content 111 = .ok (.aload_n 0, 1) := by decide +kernel
theorem d_Mo_content_112 : decode b_Mo_content 112 = .ok (.aload_n 0, 1) := by decide +kernel
theorem d_Mo_content_113 : decode b_Mo_content 113 = .ok (.aload_n 0, 1) := by decide +kernel
theorem d_Mo_content_114 : decode b_Mo_content 114 = .ok (.getfield 57, 3) := by decide +kernel
theorem d_Mo_content_117 : decode b_Mo_content 117 = .ok (.iload_n 2, 1) := by decide +kernel
theorem d_Mo_content_118 : decode b_Mo_content 118 = .ok (.sipush 512, 3) := by decide +kernel
theorem d_Mo_content_121 : decode b_Mo_content 121 = .ok (.aload_n 0, 1) := by decide +kernel
theorem d_Mo_content_122 : decode b_Mo_content 122 = .ok (.getfield 138, 3) := by decide +kernel
theorem d_Mo_content_125 : decode b_Mo_content 125 = .ok (.imul, 1) := by decide +kernel
theorem d_Mo_content_126 : decode b_Mo_content 126 = .ok (.idiv, 1) := by decide +kernel
theorem d_Mo_content_127 : decode b_Mo_content 127 = .ok (.iaload, 1) := by decide +kernel
theorem d_Mo_content_128 : decode b_Mo_content 128 = .ok (.invokevirtual 159, 3) := by decide +kernel
theorem d_Mo_content_131 : decode b_Mo_content 131 = .ok (.iload_n 2, 1) := by decide +kernel
theorem d_Mo_content_132 : decode b_Mo_content 132 = .ok (.sipush 512, 3) := by decide +kernel
theorem d_Mo_content_135 : decode b_Mo_content 135 = .ok (.aload_n 0, 1) := by decide +kernel
theorem d_Mo_content_136 : decode b_Mo_content 136 = .ok (.getfield 138, 3) := by decide +kernel
theorem d_Mo_content_139 : decode b_Mo_content 139 = .ok (.imul, 1) := by decide +kernel
theorem d_Mo_content_140 : decode b_Mo_content 140 = .ok (.irem, 1) := by decide +kernel
theorem d_Mo_content_141 : decode b_Mo_content 141 = .ok (.iadd, 1) := by decide +kernel
theorem d_Mo_content_142 : decode b_Mo_content 142 = .ok (.invokevirtual 103, 3) := by decide +kernel
theorem d_Mo_content_145 : decode b_Mo_content 145 = .ok (.ireturn, 1) := by decide +kernel
abbrev b_Mo_enter : ByteArray := prog_14_method_67_code
def y_Mo_enter : MethodName := ⟨R_Mo, "enter", "(I)I"⟩
theorem d_Mo_enter_0 : decode b_Mo_enter 0 = .ok (.aload_n 0, 1) := by decide +kernel
theorem d_Mo_enter_1 : decode b_Mo_enter 1 = .ok (.iload_n 1, 1) := by decide +kernel
theorem d_Mo_enter_2 : decode b_Mo_enter 2 = .ok (.invokevirtual 364, 3) := by decide +kernel
theorem d_Mo_enter_5 : decode b_Mo_enter 5 = .ok (.ifCond .ne 37, 3) := by decide +kernel
theorem d_Mo_enter_8 : decode b_Mo_enter 8 = .ok (.aload_n 0, 1) := by decide +kernel
theorem d_Mo_enter_9 : decode b_Mo_enter 9 = .ok (.aload_n 0, 1) := by decide +kernel
theorem d_Mo_enter_10 : decode b_Mo_enter 10 = .ok (.iload_n 1, 1) := by decide +kernel
theorem d_Mo_enter_11 : decode b_Mo_enter 11 = .ok (.invokevirtual 367, 3) := by decide +kernel
theorem d_Mo_enter_14 : decode b_Mo_enter 14 = .ok (.iconst (-1), 1) := by decide +kernel
theorem d_Mo_enter_15 : decode b_Mo_enter 15 = .ok (.if_icmp .eq 15, 3) := by decide +kernel
theorem d_Mo_enter_18 : decode b_Mo_enter 18 = .ok (.aload_n 0, 1) := by decide +kernel
theorem d_Mo_enter_19 : decode b_Mo_enter 19 = .ok (.aload_n 0, 1) := by decide +kernel
theorem d_Mo_enter_20 : decode b_Mo_enter 20 = .ok (.iload_n 1, 1) := by decide +kernel
theorem d_Mo_enter_21 : decode b_Mo_enter 21 = .ok (.invokevirtual 367, 3) := by decide +kernel
theorem d_Mo_enter_24 : decode b_Mo_enter 24 = .ok (.invokevirtual 185, 3) := by decide +kernel
theorem d_Mo_enter_27 : decode b_Mo_enter 27 = .ok (.ifCond .ne 7, 3) := by decide +kernel
theorem d_Mo_enter_30 : decode b_Mo_enter 30 = .ok (.iconst 1, 1) := by decide +kernel
theorem d_Mo_enter_31 : decode b_Mo_enter 31 = .ok (.goto 4, 3) := by decide +kernel
theorem d_Mo_enter_34 : decode b_Mo_enter 34 = .ok (.iconst 0, 1) := by decide +kernel
theorem d_Mo_enter_35 : decode b_Mo_enter 35 = .ok (.iconst 3, 1) := by decide +kernel
theorem d_Mo_enter_36 : decode b_Mo_enter 36 = .ok (.invokevirtual 317, 3) := by decide +kernel
theorem d_Mo_enter_39 : decode b_Mo_enter 39 = .ok (.ifCond .eq 5, 3) := by decide +kernel
theorem d_Mo_enter_42 : decode b_Mo_enter 42 = .ok (.iconst 0, 1) := by decide +kernel
theorem d_Mo_enter_43 : decode b_Mo_enter 43 = .ok (.ireturn, 1) := by decide +kernel
theorem d_Mo_enter_44 : decode b_Mo_enter 44 = .ok (.aload_n 0, 1) := by decide +kernel
theorem d_Mo_enter_45 : decode b_Mo_enter 45 = .ok (.aload_n 0, 1) := by decide +kernel
theorem d_Mo_enter_46 : decode b_Mo_enter 46 = .ok (.aload_n 0, 1) := by decide +kernel
theorem d_Mo_enter_47 : decode b_Mo_enter 47 = .ok (.iload_n 1, 1) := by decide +kernel
theorem d_Mo_enter_48 : decode b_Mo_enter 48 = .ok (.invokevirtual 367, 3) := by decide +kernel
theorem d_Mo_enter_51 : decode b_Mo_enter 51 = .ok (.invokevirtual 192, 3) := by decide +kernel
theorem d_Mo_enter_54 : decode b_Mo_enter 54 = .ok (.putfield 311, 3) := by decide +kernel
theorem d_Mo_enter_57 : decode b_Mo_enter 57 = .ok (.aload_n 0, 1) := by decide +kernel
theorem d_Mo_enter_58 : decode b_Mo_enter 58 = .ok (.invokevirtual 352, 3) := by decide +kernel
theorem d_Mo_enter_61 : decode b_Mo_enter 61 = .ok (.ireturn, 1) := by decide +kernel
abbrev b_Mo_up : ByteArray := prog_14_method_68_code
def y_Mo_up : MethodName := ⟨R_Mo, "up", "()Z"⟩
theorem d_Mo_up_0 : decode b_Mo_up 0 = .ok (.aload_n 0, 1) := by decide +kernel
theorem d_Mo_up_1 : decode b_Mo_up 1 = .ok (.invokevirtual 349, 3) := by decide +kernel
theorem d_Mo_up_4 : decode b_Mo_up 4 = .ok (.ifCond .ne 10, 3) := by decide +kernel
theorem d_Mo_up_7 : decode b_Mo_up 7 = .ok (.aload_n 0, 1) := by decide +kernel
theorem d_Mo_up_8 : decode b_Mo_up 8 = .ok (.getfield 311, 3) := by decide +kernel
theorem d_Mo_up_11 : decode b_Mo_up 11 = .ok (.ifCond .ne 5, 3) := by decide +kernel
theorem d_Mo_up_14 : decode b_Mo_up 14 = .ok (.iconst 0, 1) := by decide +kernel
theorem d_Mo_up_15 : decode b_Mo_up 15 = .ok (.ireturn, 1) := by decide +kernel
theorem d_Mo_up_16 : decode b_Mo_up 16 = .ok (.aload_n 0, 1) := by decide +kernel
theorem d_Mo_up_17 : decode b_Mo_up 17 = .ok (.getfield 37, 3) := by decide +kernel
theorem d_Mo_up_20 : decode b_Mo_up 20 = .ok (.aload_n 0, 1) := by decide +kernel
theorem d_Mo_up_21 : decode b_Mo_up 21 = .ok (.invokevirtual 345, 3) := by decide +kernel
theorem d_Mo_up_24 : decode b_Mo_up 24 = .ok (.iaload, 1) := by decide +kernel
theorem d_Mo_up_25 : decode b_Mo_up 25 = .ok (.istore_n 1, 1) := by decide +kernel
theorem d_Mo_up_26 : decode b_Mo_up 26 = .ok (.aload_n 0, 1) := by decide +kernel
theorem d_Mo_up_27 : decode b_Mo_up 27 = .ok (.iload_n 1, 1) := by decide +kernel
theorem d_Mo_up_28 : decode b_Mo_up 28 = .ok (.ifCond .ne 7, 3) := by decide +kernel
theorem d_Mo_up_31 : decode b_Mo_up 31 = .ok (.iconst 0, 1) := by decide +kernel
theorem d_Mo_up_32 : decode b_Mo_up 32 = .ok (.goto 8, 3) := by decide +kernel
theorem d_Mo_up_35 : decode b_Mo_up 35 = .ok (.aload_n 0, 1) := by decide +kernel
theorem d_Mo_up_36 : decode b_Mo_up 36 = .ok (.iload_n 1, 1) := by decide +kernel
theorem d_Mo_up_37 : decode b_Mo_up 37 = .ok (.invokevirtual 192, 3) := by decide +kernel
theorem d_Mo_up_40 : decode b_Mo_up 40 = .ok (.putfield 311, 3) := by decide +kernel
theorem d_Mo_up_43 : decode b_Mo_up 43 = .ok (.iconst 1, 1) := by decide +kernel
theorem d_Mo_up_44 : decode b_Mo_up 44 = .ok (.ireturn, 1) := by decide +kernel
abbrev b_Mo_fixedNow : ByteArray := prog_14_method_69_code
def y_Mo_fixedNow : MethodName := ⟨R_Mo, "fixedNow", "()Z"⟩
theorem d_Mo_fixedNow_0 : decode b_Mo_fixedNow 0 = .ok (.aload_n 0, 1) := by decide +kernel
theorem d_Mo_fixedNow_1 : decode b_Mo_fixedNow 1 = .ok (.iconst 0, 1) := by decide +kernel
theorem d_Mo_fixedNow_2 : decode b_Mo_fixedNow 2 = .ok (.putfield 100, 3) := by decide +kernel
theorem d_Mo_fixedNow_5 : decode b_Mo_fixedNow 5 = .ok (.aload_n 0, 1) := by decide +kernel
theorem d_Mo_fixedNow_6 : decode b_Mo_fixedNow 6 = .ok (.invokevirtual 299, 3) := by decide +kernel
theorem d_Mo_fixedNow_9 : decode b_Mo_fixedNow 9 = .ok (.aload_n 0, 1) := by decide +kernel
theorem d_Mo_fixedNow_10 : decode b_Mo_fixedNow 10 = .ok (.aload_n 0, 1) := by decide +kernel
theorem d_Mo_fixedNow_11 : decode b_Mo_fixedNow 11 = .ok (.getfield 302, 3) := by decide +kernel
theorem d_Mo_fixedNow_14 : decode b_Mo_fixedNow 14 = .ok (.ifCond .ne 10, 3) := by decide +kernel
theorem d_Mo_fixedNow_17 : decode b_Mo_fixedNow 17 = .ok (.aload_n 0, 1) := by decide +kernel
theorem d_Mo_fixedNow_18 : decode b_Mo_fixedNow 18 = .ok (.getfield 182, 3) := by decide +kernel
theorem d_Mo_fixedNow_21 : decode b_Mo_fixedNow 21 = .ok (.ifCond .le 7, 3) := by decide +kernel
theorem d_Mo_fixedNow_24 : decode b_Mo_fixedNow 24 = .ok (.iconst 1, 1) := by decide +kernel
theorem d_Mo_fixedNow_25 : decode b_Mo_fixedNow 25 = .ok (.goto 4, 3) := by decide +kernel
theorem d_Mo_fixedNow_28 : decode b_Mo_fixedNow 28 = .ok (.iconst 0, 1) := by decide +kernel
theorem d_Mo_fixedNow_29 : decode b_Mo_fixedNow 29 = .ok (.iconst 1, 1) := by decide +kernel
theorem d_Mo_fixedNow_30 : decode b_Mo_fixedNow 30 = .ok (.invokevirtual 317, 3) := by decide +kernel
theorem d_Mo_fixedNow_33 : decode b_Mo_fixedNow 33 = .ok (.ireturn, 1) := by decide +kernel
abbrev b_Mo_named : ByteArray := prog_14_method_72_code
def y_Mo_named : MethodName := ⟨R_Mo, "named", "()Z"⟩
theorem d_Mo_named_0 : decode b_Mo_named 0 = .ok (.aload_n 0, 1) := by decide +kernel
theorem d_Mo_named_1 : decode b_Mo_named 1 = .ok (.aload_n 0, 1) := by decide +kernel
theorem d_Mo_named_2 : decode b_Mo_named 2 = .ok (.getfield 296, 3) := by decide +kernel
theorem d_Mo_named_5 : decode b_Mo_named 5 = .ok (.iconst 2, 1) := by decide +kernel
theorem d_Mo_named_6 : decode b_Mo_named 6 = .ok (.irem, 1) := by decide +kernel
theorem d_Mo_named_7 : decode b_Mo_named 7 = .ok (.ifCond .ne 22, 3) := by decide +kernel
theorem d_Mo_named_10 : decode b_Mo_named 10 = .ok (.aload_n 0, 1) := by decide +kernel
theorem d_Mo_named_11 : decode b_Mo_named 11 = .ok (.getfield 296, 3) := by decide +kernel
theorem d_Mo_named_14 : decode b_Mo_named 14 = .ok (.sipush 510, 3) := by decide +kernel
theorem d_Mo_named_17 : decode b_Mo_named 17 = .ok (.if_icmp .gt 12, 3) := by decide +kernel
theorem d_Mo_named_20 : decode b_Mo_named 20 = .ok (.aload_n 0, 1) := by decide +kernel
theorem d_Mo_named_21 : decode b_Mo_named 21 = .ok (.getfield 296, 3) := by decide +kernel
theorem d_Mo_named_24 : decode b_Mo_named 24 = .ok (.iconst 2, 1) := by decide +kernel
theorem d_Mo_named_25 : decode b_Mo_named 25 = .ok (.idiv, 1) := by decide +kernel
theorem d_Mo_named_26 : decode b_Mo_named 26 = .ok (.goto 4, 3) := by decide +kernel
theorem d_Mo_named_29 : decode b_Mo_named 29 = .ok (.iconst 0, 1) := by decide +kernel
theorem d_Mo_named_30 : decode b_Mo_named 30 = .ok (.putfield 224, 3) := by decide +kernel
theorem d_Mo_named_33 : decode b_Mo_named 33 = .ok (.iconst 0, 1) := by decide +kernel
theorem d_Mo_named_34 : decode b_Mo_named 34 = .ok (.istore_n 1, 1) := by decide +kernel
theorem d_Mo_named_35 : decode b_Mo_named 35 = .ok (.iload_n 1, 1) := by decide +kernel
theorem d_Mo_named_36 : decode b_Mo_named 36 = .ok (.aload_n 0, 1) := by decide +kernel
theorem d_Mo_named_37 : decode b_Mo_named 37 = .ok (.getfield 224, 3) := by decide +kernel
theorem d_Mo_named_40 : decode b_Mo_named 40 = .ok (.if_icmp .ge 36, 3) := by decide +kernel
theorem d_Mo_named_43 : decode b_Mo_named 43 = .ok (.aload_n 0, 1) := by decide +kernel
theorem d_Mo_named_44 : decode b_Mo_named 44 = .ok (.getfield 63, 3) := by decide +kernel
theorem d_Mo_named_47 : decode b_Mo_named 47 = .ok (.iload_n 1, 1) := by decide +kernel
theorem d_Mo_named_48 : decode b_Mo_named 48 = .ok (.aload_n 0, 1) := by decide +kernel
theorem d_Mo_named_49 : decode b_Mo_named 49 = .ok (.iconst 2, 1) := by decide +kernel
theorem d_Mo_named_50 : decode b_Mo_named 50 = .ok (.iload_n 1, 1) := by decide +kernel
theorem d_Mo_named_51 : decode b_Mo_named 51 = .ok (.imul, 1) := by decide +kernel
theorem d_Mo_named_52 : decode b_Mo_named 52 = .ok (.invokevirtual 314, 3) := by decide +kernel
theorem d_Mo_named_55 : decode b_Mo_named 55 = .ok (.bipush 8, 2) := by decide +kernel
theorem d_Mo_named_57 : decode b_Mo_named 57 = .ok (.ishl, 1) := by decide +kernel
theorem d_Mo_named_58 : decode b_Mo_named 58 = .ok (.aload_n 0, 1) := by decide +kernel
theorem d_Mo_named_59 : decode b_Mo_named 59 = .ok (.iconst 2, 1) := by decide +kernel
theorem d_Mo_named_60 : decode b_Mo_named 60 = .ok (.iload_n 1, 1) := by decide +kernel
theorem d_Mo_named_61 : decode b_Mo_named 61 = .ok (.imul, 1) := by decide +kernel
theorem d_Mo_named_62 : decode b_Mo_named 62 = .ok (.iconst 1, 1) := by decide +kernel
theorem d_Mo_named_63 : decode b_Mo_named 63 = .ok (.iadd, 1) := by decide +kernel
theorem d_Mo_named_64 : decode b_Mo_named 64 = .ok (.invokevirtual 314, 3) := by decide +kernel
theorem d_Mo_named_67 : decode b_Mo_named 67 = .ok (.ior, 1) := by decide +kernel
theorem d_Mo_named_68 : decode b_Mo_named 68 = .ok (.i2c, 1) := by decide +kernel
theorem d_Mo_named_69 : decode b_Mo_named 69 = .ok (.castore, 1) := by decide +kernel
theorem d_Mo_named_70 : decode b_Mo_named 70 = .ok (.iinc 1 1, 3) := by decide +kernel
theorem d_Mo_named_73 : decode b_Mo_named 73 = .ok (.goto (-38), 3) := by decide +kernel
theorem d_Mo_named_76 : decode b_Mo_named 76 = .ok (.aload_n 0, 1) := by decide +kernel
theorem d_Mo_named_77 : decode b_Mo_named 77 = .ok (.iconst 0, 1) := by decide +kernel
theorem d_Mo_named_78 : decode b_Mo_named 78 = .ok (.putfield 296, 3) := by decide +kernel
theorem d_Mo_named_81 : decode b_Mo_named 81 = .ok (.aload_n 0, 1) := by decide +kernel
theorem d_Mo_named_82 : decode b_Mo_named 82 = .ok (.invokevirtual 265, 3) := by decide +kernel
theorem d_Mo_named_85 : decode b_Mo_named 85 = .ok (.ireturn, 1) := by decide +kernel
abbrev b_Mo_make : ByteArray := prog_14_method_77_code
def y_Mo_make : MethodName := ⟨R_Mo, "make", "(Z)I"⟩
theorem d_Mo_make_0 : decode b_Mo_make 0 = .ok (.aload_n 0, 1) := by decide +kernel
theorem d_Mo_make_1 : decode b_Mo_make 1 = .ok (.invokevirtual 404, 3) := by decide +kernel
theorem d_Mo_make_4 : decode b_Mo_make 4 = .ok (.istore_n 2, 1) := by decide +kernel
theorem d_Mo_make_5 : decode b_Mo_make 5 = .ok (.aload_n 0, 1) := by decide +kernel
theorem d_Mo_make_6 : decode b_Mo_make 6 = .ok (.invokevirtual 407, 3) := by decide +kernel
theorem d_Mo_make_9 : decode b_Mo_make 9 = .ok (.istore_n 3, 1) := by decide +kernel
theorem d_Mo_make_10 : decode b_Mo_make 10 = .ok (.iload_n 2, 1) := by decide +kernel
theorem d_Mo_make_11 : decode b_Mo_make 11 = .ok (.ifCond .ne 31, 3) := by decide +kernel
theorem d_Mo_make_14 : decode b_Mo_make 14 = .ok (.aload_n 0, 1) := by decide +kernel
theorem d_Mo_make_15 : decode b_Mo_make 15 = .ok (.iload_n 3, 1) := by decide +kernel
theorem d_Mo_make_16 : decode b_Mo_make 16 = .ok (.ifCond .eq 14, 3) := by decide +kernel
theorem d_Mo_make_19 : decode b_Mo_make 19 = .ok (.aload_n 0, 1) := by decide +kernel
theorem d_Mo_make_20 : decode b_Mo_make 20 = .ok (.aload_n 0, 1) := by decide +kernel
theorem d_Mo_make_21 : decode b_Mo_make 21 = .ok (.invokevirtual 345, 3) := by decide +kernel
theorem d_Mo_make_24 : decode b_Mo_make 24 = .ok (.invokevirtual 290, 3) := by decide +kernel
theorem d_Mo_make_27 : decode b_Mo_make 27 = .ok (.ifCond .eq 7, 3) := by decide +kernel
theorem d_Mo_make_30 : decode b_Mo_make 30 = .ok (.iconst 1, 1) := by decide +kernel
theorem d_Mo_make_31 : decode b_Mo_make 31 = .ok (.goto 4, 3) := by decide +kernel
theorem d_Mo_make_34 : decode b_Mo_make 34 = .ok (.iconst 0, 1) := by decide +kernel
theorem d_Mo_make_35 : decode b_Mo_make 35 = .ok (.iconst 2, 1) := by decide +kernel
theorem d_Mo_make_36 : decode b_Mo_make 36 = .ok (.invokevirtual 317, 3) := by decide +kernel
theorem d_Mo_make_39 : decode b_Mo_make 39 = .ok (.ifCond .eq 5, 3) := by decide +kernel
theorem d_Mo_make_42 : decode b_Mo_make 42 = .ok (.iconst 0, 1) := by decide +kernel
theorem d_Mo_make_43 : decode b_Mo_make 43 = .ok (.ireturn, 1) := by decide +kernel
theorem d_Mo_make_44 : decode b_Mo_make 44 = .ok (.aload_n 0, 1) := by decide +kernel
theorem d_Mo_make_45 : decode b_Mo_make 45 = .ok (.invokevirtual 345, 3) := by decide +kernel
theorem d_Mo_make_48 : decode b_Mo_make 48 = .ok (.istore 4, 2) := by decide +kernel
theorem d_Mo_make_50 : decode b_Mo_make 50 = .ok (.aload_n 0, 1) := by decide +kernel
theorem d_Mo_make_51 : decode b_Mo_make 51 = .ok (.invokevirtual 410, 3) := by decide +kernel
theorem d_Mo_make_54 : decode b_Mo_make 54 = .ok (.istore 5, 2) := by decide +kernel
theorem d_Mo_make_56 : decode b_Mo_make 56 = .ok (.aload_n 0, 1) := by decide +kernel
theorem d_Mo_make_57 : decode b_Mo_make 57 = .ok (.iload 5, 2) := by decide +kernel
theorem d_Mo_make_59 : decode b_Mo_make 59 = .ok (.ifCond .eq 16, 3) := by decide +kernel
theorem d_Mo_make_62 : decode b_Mo_make 62 = .ok (.aload_n 0, 1) := by decide +kernel
theorem d_Mo_make_63 : decode b_Mo_make 63 = .ok (.iload 4, 2) := by decide +kernel
theorem d_Mo_make_65 : decode b_Mo_make 65 = .ok (.invokevirtual 401, 3) := by decide +kernel
theorem d_Mo_make_68 : decode b_Mo_make 68 = .ok (.ifCond .eq 7, 3) := by decide +kernel
theorem d_Mo_make_71 : decode b_Mo_make 71 = .ok (.iconst 1, 1) := by decide +kernel
theorem d_Mo_make_72 : decode b_Mo_make 72 = .ok (.goto 4, 3) := by decide +kernel
theorem d_Mo_make_75 : decode b_Mo_make 75 = .ok (.iconst 0, 1) := by decide +kernel
theorem d_Mo_make_76 : decode b_Mo_make 76 = .ok (.iconst 2, 1) := by decide +kernel
theorem d_Mo_make_77 : decode b_Mo_make 77 = .ok (.invokevirtual 317, 3) := by decide +kernel
theorem d_Mo_make_80 : decode b_Mo_make 80 = .ok (.ifCond .eq 5, 3) := by decide +kernel
theorem d_Mo_make_83 : decode b_Mo_make 83 = .ok (.iconst 0, 1) := by decide +kernel
theorem d_Mo_make_84 : decode b_Mo_make 84 = .ok (.ireturn, 1) := by decide +kernel
theorem d_Mo_make_85 : decode b_Mo_make 85 = .ok (.iload 5, 2) := by decide +kernel
theorem d_Mo_make_87 : decode b_Mo_make 87 = .ok (.ifCond .ne 9, 3) := by decide +kernel
theorem d_Mo_make_90 : decode b_Mo_make 90 = .ok (.aload_n 0, 1) := by decide +kernel
theorem d_Mo_make_91 : decode b_Mo_make 91 = .ok (.iload 4, 2) := by decide +kernel
theorem d_Mo_make_93 : decode b_Mo_make 93 = .ok (.invokevirtual 413, 3) := by decide +kernel
theorem d_Mo_make_96 : decode b_Mo_make 96 = .ok (.iload 5, 2) := by decide +kernel
theorem d_Mo_make_98 : decode b_Mo_make 98 = .ok (.ifCond .eq 7, 3) := by decide +kernel
theorem d_Mo_make_101 : decode b_Mo_make 101 = .ok (.iconst 1, 1) := by decide +kernel
theorem d_Mo_make_102 : decode b_Mo_make 102 = .ok (.goto 14, 3) := by decide +kernel
theorem d_Mo_make_105 : decode b_Mo_make 105 = .ok (.iconst 1, 1) := by decide +kernel
theorem d_Mo_make_106 : decode b_Mo_make 106 = .ok (.aload_n 0, 1) := by decide +kernel
theorem d_Mo_make_107 : decode b_Mo_make 107 = .ok (.getfield 224, 3) := by decide +kernel
theorem d_Mo_make_110 : decode b_Mo_make 110 = .ok (.bipush 13, 2) := by decide +kernel
theorem d_Mo_make_112 : decode b_Mo_make 112 = .ok (.invokestatic 262, 3) := by decide +kernel
theorem d_Mo_make_115 : decode b_Mo_make 115 = .ok (.iadd, 1) := by decide +kernel
theorem d_Mo_make_116 : decode b_Mo_make 116 = .ok (.istore 6, 2) := by decide +kernel
theorem d_Mo_make_118 : decode b_Mo_make 118 = .ok (.aload_n 0, 1) := by decide +kernel
theorem d_Mo_make_119 : decode b_Mo_make 119 = .ok (.iload 4, 2) := by decide +kernel
theorem d_Mo_make_121 : decode b_Mo_make 121 = .ok (.invokevirtual 416, 3) := by decide +kernel
theorem d_Mo_make_124 : decode b_Mo_make 124 = .ok (.aload_n 0, 1) := by decide +kernel
theorem d_Mo_make_125 : decode b_Mo_make 125 = .ok (.getfield 198, 3) := by decide +kernel
theorem d_Mo_make_128 : decode b_Mo_make 128 = .ok (.bipush 16, 2) := by decide +kernel
theorem d_Mo_make_130 : decode b_Mo_make 130 = .ok (.imul, 1) := by decide +kernel
theorem d_Mo_make_131 : decode b_Mo_make 131 = .ok (.aload_n 0, 1) := by decide +kernel
theorem d_Mo_make_132 : decode b_Mo_make 132 = .ok (.getfield 138, 3) := by decide +kernel
theorem d_Mo_make_135 : decode b_Mo_make 135 = .ok (.imul, 1) := by decide +kernel
theorem d_Mo_make_136 : decode b_Mo_make 136 = .ok (.istore 7, 2) := by decide +kernel
theorem d_Mo_make_138 : decode b_Mo_make 138 = .ok (.iconst 0, 1) := by decide +kernel
theorem d_Mo_make_139 : decode b_Mo_make 139 = .ok (.istore 8, 2) := by decide +kernel
theorem d_Mo_make_141 : decode b_Mo_make 141 = .ok (.iload 8, 2) := by decide +kernel
theorem d_Mo_make_143 : decode b_Mo_make 143 = .ok (.iload 7, 2) := by decide +kernel
theorem d_Mo_make_145 : decode b_Mo_make 145 = .ok (.if_icmp .ge 22, 3) := by decide +kernel
theorem d_Mo_make_148 : decode b_Mo_make 148 = .ok (.aload_n 0, 1) := by decide +kernel
theorem d_Mo_make_149 : decode b_Mo_make 149 = .ok (.aload_n 0, 1) := by decide +kernel
theorem d_Mo_make_150 : decode b_Mo_make 150 = .ok (.iload 8, 2) := by decide +kernel
theorem d_Mo_make_152 : decode b_Mo_make 152 = .ok (.invokevirtual 210, 3) := by decide +kernel
theorem d_Mo_make_155 : decode b_Mo_make 155 = .ok (.invokevirtual 103, 3) := by decide +kernel
theorem d_Mo_make_158 : decode b_Mo_make 158 = .ok (.ifCond .eq 9, 3) := by decide +kernel
theorem d_Mo_make_161 : decode b_Mo_make 161 = .ok (.iinc 8 1, 3) := by decide +kernel
theorem d_Mo_make_164 : decode b_Mo_make 164 = .ok (.goto (-23), 3) := by decide +kernel
theorem d_Mo_make_167 : decode b_Mo_make 167 = .ok (.iconst 0, 1) := by decide +kernel
theorem d_Mo_make_168 : decode b_Mo_make 168 = .ok (.istore 9, 2) := by decide +kernel
theorem d_Mo_make_170 : decode b_Mo_make 170 = .ok (.iconst 0, 1) := by decide +kernel
theorem d_Mo_make_171 : decode b_Mo_make 171 = .ok (.istore 10, 2) := by decide +kernel
theorem d_Mo_make_173 : decode b_Mo_make 173 = .ok (.iload 10, 2) := by decide +kernel
theorem d_Mo_make_175 : decode b_Mo_make 175 = .ok (.iload 7, 2) := by decide +kernel
theorem d_Mo_make_177 : decode b_Mo_make 177 = .ok (.if_icmp .ge 48, 3) := by decide +kernel
theorem d_Mo_make_180 : decode b_Mo_make 180 = .ok (.iload 10, 2) := by decide +kernel
theorem d_Mo_make_182 : decode b_Mo_make 182 = .ok (.iload 9, 2) := by decide +kernel
theorem d_Mo_make_184 : decode b_Mo_make 184 = .ok (.isub, 1) := by decide +kernel
theorem d_Mo_make_185 : decode b_Mo_make 185 = .ok (.iload 6, 2) := by decide +kernel
theorem d_Mo_make_187 : decode b_Mo_make 187 = .ok (.if_icmp .ge 38, 3) := by decide +kernel
theorem d_Mo_make_190 : decode b_Mo_make 190 = .ok (.iload 10, 2) := by decide +kernel
theorem d_Mo_make_192 : decode b_Mo_make 192 = .ok (.iload 8, 2) := by decide +kernel
theorem d_Mo_make_194 : decode b_Mo_make 194 = .ok (.if_icmp .ge 25, 3) := by decide +kernel
theorem d_Mo_make_197 : decode b_Mo_make 197 = .ok (.aload_n 0, 1) := by decide +kernel
theorem d_Mo_make_198 : decode b_Mo_make 198 = .ok (.aload_n 0, 1) := by decide +kernel
theorem d_Mo_make_199 : decode b_Mo_make 199 = .ok (.iload 10, 2) := by decide +kernel
theorem d_Mo_make_201 : decode b_Mo_make 201 = .ok (.invokevirtual 210, 3) := by decide +kernel
theorem d_Mo_make_204 : decode b_Mo_make 204 = .ok (.invokevirtual 103, 3) := by decide +kernel
theorem d_Mo_make_207 : decode b_Mo_make 207 = .ok (.sipush 229, 3) := by decide +kernel
theorem d_Mo_make_210 : decode b_Mo_make 210 = .ok (.if_icmp .eq 9, 3) := by decide +kernel
theorem d_Mo_make_213 : decode b_Mo_make 213 = .ok (.iload 10, 2) := by decide +kernel
theorem d_Mo_make_215 : decode b_Mo_make 215 = .ok (.iconst 1, 1) := by decide +kernel
theorem d_Mo_make_216 : decode b_Mo_make 216 = .ok (.iadd, 1) := by decide +kernel
theorem d_Mo_make_217 : decode b_Mo_make 217 = .ok (.istore 9, 2) := by decide +kernel
theorem d_Mo_make_219 : decode b_Mo_make 219 = .ok (.iinc 10 1, 3) := by decide +kernel
theorem d_Mo_make_222 : decode b_Mo_make 222 = .ok (.goto (-49), 3) := by decide +kernel
theorem d_Mo_make_225 : decode b_Mo_make 225 = .ok (.iload 9, 2) := by decide +kernel
theorem d_Mo_make_227 : decode b_Mo_make 227 = .ok (.iload 6, 2) := by decide +kernel
theorem d_Mo_make_229 : decode b_Mo_make 229 = .ok (.iadd, 1) := by decide +kernel
theorem d_Mo_make_230 : decode b_Mo_make 230 = .ok (.iload 7, 2) := by decide +kernel
theorem d_Mo_make_232 : decode b_Mo_make 232 = .ok (.if_icmp .le 24, 3) := by decide +kernel
theorem d_Mo_make_235 : decode b_Mo_make 235 = .ok (.iload 9, 2) := by decide +kernel
theorem d_Mo_make_237 : decode b_Mo_make 237 = .ok (.iload 6, 2) := by decide +kernel
theorem d_Mo_make_239 : decode b_Mo_make 239 = .ok (.iadd, 1) := by decide +kernel
theorem d_Mo_make_240 : decode b_Mo_make 240 = .ok (.iload 7, 2) := by decide +kernel
theorem d_Mo_make_242 : decode b_Mo_make 242 = .ok (.isub, 1) := by decide +kernel
theorem d_Mo_make_243 : decode b_Mo_make 243 = .ok (.bipush 16, 2) := by decide +kernel
theorem d_Mo_make_245 : decode b_Mo_make 245 = .ok (.aload_n 0, 1) := by decide +kernel
theorem d_Mo_make_246 : decode b_Mo_make 246 = .ok (.getfield 138, 3) := by decide +kernel
theorem d_Mo_make_249 : decode b_Mo_make 249 = .ok (.imul, 1) := by decide +kernel
theorem d_Mo_make_250 : decode b_Mo_make 250 = .ok (.invokestatic 262, 3) := by decide +kernel
theorem d_Mo_make_253 : decode b_Mo_make 253 = .ok (.goto 4, 3) := by decide +kernel
theorem d_Mo_make_256 : decode b_Mo_make 256 = .ok (.iconst 0, 1) := by decide +kernel
theorem d_Mo_make_257 : decode b_Mo_make 257 = .ok (.istore 10, 2) := by decide +kernel
theorem d_Mo_make_259 : decode b_Mo_make 259 = .ok (.aload_n 0, 1) := by decide +kernel
theorem d_Mo_make_260 : decode b_Mo_make 260 = .ok (.iload 10, 2) := by decide +kernel
theorem d_Mo_make_262 : decode b_Mo_make 262 = .ok (.iload_n 1, 1) := by decide +kernel
theorem d_Mo_make_263 : decode b_Mo_make 263 = .ok (.ifCond .eq 7, 3) := by decide +kernel
theorem d_Mo_make_266 : decode b_Mo_make 266 = .ok (.iconst 1, 1) := by decide +kernel
theorem d_Mo_make_267 : decode b_Mo_make 267 = .ok (.goto 4, 3) := by decide +kernel
theorem d_Mo_make_270 : decode b_Mo_make 270 = .ok (.iconst 0, 1) := by decide +kernel
theorem d_Mo_make_271 : decode b_Mo_make 271 = .ok (.iadd, 1) := by decide +kernel
theorem d_Mo_make_272 : decode b_Mo_make 272 = .ok (.aload_n 0, 1) := by decide +kernel
theorem d_Mo_make_273 : decode b_Mo_make 273 = .ok (.invokevirtual 419, 3) := by decide +kernel
theorem d_Mo_make_276 : decode b_Mo_make 276 = .ok (.if_icmp .le 7, 3) := by decide +kernel
theorem d_Mo_make_279 : decode b_Mo_make 279 = .ok (.iconst 1, 1) := by decide +kernel
theorem d_Mo_make_280 : decode b_Mo_make 280 = .ok (.goto 4, 3) := by decide +kernel
theorem d_Mo_make_283 : decode b_Mo_make 283 = .ok (.iconst 0, 1) := by decide +kernel
theorem d_Mo_make_284 : decode b_Mo_make 284 = .ok (.iconst 3, 1) := by decide +kernel
theorem d_Mo_make_285 : decode b_Mo_make 285 = .ok (.invokevirtual 317, 3) := by decide +kernel
theorem d_Mo_make_288 : decode b_Mo_make 288 = .ok (.ifCond .eq 5, 3) := by decide +kernel
theorem d_Mo_make_291 : decode b_Mo_make 291 = .ok (.iconst 0, 1) := by decide +kernel
theorem d_Mo_make_292 : decode b_Mo_make 292 = .ok (.ireturn, 1) := by decide +kernel
theorem d_Mo_make_293 : decode b_Mo_make 293 = .ok (.iload_n 1, 1) := by decide +kernel
theorem d_Mo_make_294 : decode b_Mo_make 294 = .ok (.ifCond .eq 10, 3) := by decide +kernel
theorem d_Mo_make_297 : decode b_Mo_make 297 = .ok (.aload_n 0, 1) := by decide +kernel
theorem d_Mo_make_298 : decode b_Mo_make 298 = .ok (.invokevirtual 422, 3) := by decide +kernel
theorem d_Mo_make_301 : decode b_Mo_make 301 = .ok (.goto 4, 3) := by decide +kernel
theorem d_Mo_make_304 : decode b_Mo_make 304 = .ok (.iconst 0, 1) := by decide +kernel
theorem d_Mo_make_305 : decode b_Mo_make 305 = .ok (.istore 11, 2) := by decide +kernel
theorem d_Mo_make_307 : decode b_Mo_make 307 = .ok (.iconst 0, 1) := by decide +kernel
theorem d_Mo_make_308 : decode b_Mo_make 308 = .ok (.istore 12, 2) := by decide +kernel
theorem d_Mo_make_310 : decode b_Mo_make 310 = .ok (.iload 12, 2) := by decide +kernel
theorem d_Mo_make_312 : decode b_Mo_make 312 = .ok (.iload 10, 2) := by decide +kernel
theorem d_Mo_make_314 : decode b_Mo_make 314 = .ok (.if_icmp .ge 56, 3) := by decide +kernel
theorem d_Mo_make_317 : decode b_Mo_make 317 = .ok (.aload_n 0, 1) := by decide +kernel
theorem d_Mo_make_318 : decode b_Mo_make 318 = .ok (.getfield 60, 3) := by decide +kernel
theorem d_Mo_make_321 : decode b_Mo_make 321 = .ok (.aload_n 0, 1) := by decide +kernel
theorem d_Mo_make_322 : decode b_Mo_make 322 = .ok (.getfield 198, 3) := by decide +kernel
theorem d_Mo_make_325 : decode b_Mo_make 325 = .ok (.aload_n 0, 1) := by decide +kernel
theorem d_Mo_make_326 : decode b_Mo_make 326 = .ok (.invokevirtual 422, 3) := by decide +kernel
theorem d_Mo_make_329 : decode b_Mo_make 329 = .ok (.iastore, 1) := by decide +kernel
theorem d_Mo_make_330 : decode b_Mo_make 330 = .ok (.aload_n 0, 1) := by decide +kernel
theorem d_Mo_make_331 : decode b_Mo_make 331 = .ok (.aload_n 0, 1) := by decide +kernel
theorem d_Mo_make_332 : decode b_Mo_make 332 = .ok (.getfield 60, 3) := by decide +kernel
theorem d_Mo_make_335 : decode b_Mo_make 335 = .ok (.aload_n 0, 1) := by decide +kernel
theorem d_Mo_make_336 : decode b_Mo_make 336 = .ok (.getfield 198, 3) := by decide +kernel
theorem d_Mo_make_339 : decode b_Mo_make 339 = .ok (.iconst 1, 1) := by decide +kernel
theorem d_Mo_make_340 : decode b_Mo_make 340 = .ok (.isub, 1) := by decide +kernel
theorem d_Mo_make_341 : decode b_Mo_make 341 = .ok (.iaload, 1) := by decide +kernel
theorem d_Mo_make_342 : decode b_Mo_make 342 = .ok (.aload_n 0, 1) := by decide +kernel
theorem d_Mo_make_343 : decode b_Mo_make 343 = .ok (.getfield 60, 3) := by decide +kernel
theorem d_Mo_make_346 : decode b_Mo_make 346 = .ok (.aload_n 0, 1) := by decide +kernel
theorem d_Mo_make_347 : decode b_Mo_make 347 = .ok (.getfield 198, 3) := by decide +kernel
theorem d_Mo_make_350 : decode b_Mo_make 350 = .ok (.iaload, 1) := by decide +kernel
theorem d_Mo_make_351 : decode b_Mo_make 351 = .ok (.invokevirtual 337, 3) := by decide +kernel
theorem d_Mo_make_354 : decode b_Mo_make 354 = .ok (.aload_n 0, 1) := by decide +kernel
theorem d_Mo_make_355 : decode b_Mo_make 355 = .ok (.dup, 1) := by decide +kernel
theorem d_Mo_make_356 : decode b_Mo_make 356 = .ok (.getfield 198, 3) := by decide +kernel
theorem d_Mo_make_359 : decode b_Mo_make 359 = .ok (.iconst 1, 1) := by decide +kernel
theorem d_Mo_make_360 : decode b_Mo_make 360 = .ok (.iadd, 1) := by decide +kernel
theorem d_Mo_make_361 : decode b_Mo_make 361 = .ok (.putfield 198, 3) := by decide +kernel
theorem d_Mo_make_364 : decode b_Mo_make 364 = .ok (.iinc 12 1, 3) := by decide +kernel
theorem d_Mo_make_367 : decode b_Mo_make 367 = .ok (.goto (-57), 3) := by decide +kernel
theorem d_Mo_make_370 : decode b_Mo_make 370 = .ok (.iload 9, 2) := by decide +kernel
theorem d_Mo_make_372 : decode b_Mo_make 372 = .ok (.istore 12, 2) := by decide +kernel
theorem d_Mo_make_374 : decode b_Mo_make 374 = .ok (.iload 12, 2) := by decide +kernel
theorem d_Mo_make_376 : decode b_Mo_make 376 = .ok (.iload 9, 2) := by decide +kernel
theorem d_Mo_make_378 : decode b_Mo_make 378 = .ok (.iload 6, 2) := by decide +kernel
theorem d_Mo_make_380 : decode b_Mo_make 380 = .ok (.iadd, 1) := by decide +kernel
theorem d_Mo_make_381 : decode b_Mo_make 381 = .ok (.if_icmp .ge 40, 3) := by decide +kernel
theorem d_Mo_make_384 : decode b_Mo_make 384 = .ok (.iconst 0, 1) := by decide +kernel
theorem d_Mo_make_385 : decode b_Mo_make 385 = .ok (.istore 13, 2) := by decide +kernel
theorem d_Mo_make_387 : decode b_Mo_make 387 = .ok (.iload 13, 2) := by decide +kernel
theorem d_Mo_make_389 : decode b_Mo_make 389 = .ok (.bipush 32, 2) := by decide +kernel
theorem d_Mo_make_391 : decode b_Mo_make 391 = .ok (.if_icmp .ge 24, 3) := by decide +kernel
theorem d_Mo_make_394 : decode b_Mo_make 394 = .ok (.aload_n 0, 1) := by decide +kernel
theorem d_Mo_make_395 : decode b_Mo_make 395 = .ok (.getfield 8, 3) := by decide +kernel
theorem d_Mo_make_398 : decode b_Mo_make 398 = .ok (.aload_n 0, 1) := by decide +kernel
theorem d_Mo_make_399 : decode b_Mo_make 399 = .ok (.iload 12, 2) := by decide +kernel
theorem d_Mo_make_401 : decode b_Mo_make 401 = .ok (.invokevirtual 210, 3) := by decide +kernel
theorem d_Mo_make_404 : decode b_Mo_make 404 = .ok (.iload 13, 2) := by decide +kernel
theorem d_Mo_make_406 : decode b_Mo_make 406 = .ok (.iadd, 1) := by decide +kernel
theorem d_Mo_make_407 : decode b_Mo_make 407 = .ok (.iconst 0, 1) := by decide +kernel
theorem d_Mo_make_408 : decode b_Mo_make 408 = .ok (.bastore, 1) := by decide +kernel
theorem d_Mo_make_409 : decode b_Mo_make 409 = .ok (.iinc 13 1, 3) := by decide +kernel
theorem d_Mo_make_412 : decode b_Mo_make 412 = .ok (.goto (-25), 3) := by decide +kernel
theorem d_Mo_make_415 : decode b_Mo_make 415 = .ok (.iinc 12 1, 3) := by decide +kernel
theorem d_Mo_make_418 : decode b_Mo_make 418 = .ok (.goto (-44), 3) := by decide +kernel
theorem d_Mo_make_421 : decode b_Mo_make 421 = .ok (.aload_n 0, 1) := by decide +kernel
theorem d_Mo_make_422 : decode b_Mo_make 422 = .ok (.iload 9, 2) := by decide +kernel
theorem d_Mo_make_424 : decode b_Mo_make 424 = .ok (.iload 6, 2) := by decide +kernel
theorem d_Mo_make_426 : decode b_Mo_make 426 = .ok (.iadd, 1) := by decide +kernel
theorem d_Mo_make_427 : decode b_Mo_make 427 = .ok (.iconst 1, 1) := by decide +kernel
theorem d_Mo_make_428 : decode b_Mo_make 428 = .ok (.isub, 1) := by decide +kernel
theorem d_Mo_make_429 : decode b_Mo_make 429 = .ok (.invokevirtual 210, 3) := by decide +kernel
theorem d_Mo_make_432 : decode b_Mo_make 432 = .ok (.istore 12, 2) := by decide +kernel
theorem d_Mo_make_434 : decode b_Mo_make 434 = .ok (.iconst 0, 1) := by decide +kernel
theorem d_Mo_make_435 : decode b_Mo_make 435 = .ok (.istore 13, 2) := by decide +kernel
theorem d_Mo_make_437 : decode b_Mo_make 437 = .ok (.iload 13, 2) := by decide +kernel
theorem d_Mo_make_439 : decode b_Mo_make 439 = .ok (.bipush 11, 2) := by decide +kernel
theorem d_Mo_make_441 : decode b_Mo_make 441 = .ok (.if_icmp .ge 27, 3) := by decide +kernel
theorem d_Mo_make_444 : decode b_Mo_make 444 = .ok (.aload_n 0, 1) := by decide +kernel
theorem d_Mo_make_445 : decode b_Mo_make 445 = .ok (.getfield 8, 3) := by decide +kernel
theorem d_Mo_make_448 : decode b_Mo_make 448 = .ok (.iload 12, 2) := by decide +kernel
theorem d_Mo_make_450 : decode b_Mo_make 450 = .ok (.iload 13, 2) := by decide +kernel
theorem d_Mo_make_452 : decode b_Mo_make 452 = .ok (.iadd, 1) := by decide +kernel
theorem d_Mo_make_453 : decode b_Mo_make 453 = .ok (.aload_n 0, 1) := by decide +kernel
theorem d_Mo_make_454 : decode b_Mo_make 454 = .ok (.getfield 66, 3) := by decide +kernel
theorem d_Mo_make_457 : decode b_Mo_make 457 = .ok (.iload 13, 2) := by decide +kernel
theorem d_Mo_make_459 : decode b_Mo_make 459 = .ok (.iaload, 1) := by decide +kernel
theorem d_Mo_make_460 : decode b_Mo_make 460 = .ok (.i2b, 1) := by decide +kernel
theorem d_Mo_make_461 : decode b_Mo_make 461 = .ok (.bastore, 1) := by decide +kernel
theorem d_Mo_make_462 : decode b_Mo_make 462 = .ok (.iinc 13 1, 3) := by decide +kernel
theorem d_Mo_make_465 : decode b_Mo_make 465 = .ok (.goto (-28), 3) := by decide +kernel
theorem d_Mo_make_468 : decode b_Mo_make 468 = .ok (.iload 9, 2) := by decide +kernel
theorem d_Mo_make_470 : decode b_Mo_make 470 = .ok (.istore 13, 2) := by decide +kernel
theorem d_Mo_make_472 : decode b_Mo_make 472 = .ok (.iload 13, 2) := by decide +kernel
theorem d_Mo_make_474 : decode b_Mo_make 474 = .ok (.iload 9, 2) := by decide +kernel
theorem d_Mo_make_476 : decode b_Mo_make 476 = .ok (.iload 6, 2) := by decide +kernel
theorem d_Mo_make_478 : decode b_Mo_make 478 = .ok (.iadd, 1) := by decide +kernel
theorem d_Mo_make_479 : decode b_Mo_make 479 = .ok (.iconst 1, 1) := by decide +kernel
theorem d_Mo_make_480 : decode b_Mo_make 480 = .ok (.isub, 1) := by decide +kernel
theorem d_Mo_make_481 : decode b_Mo_make 481 = .ok (.if_icmp .ge 47, 3) := by decide +kernel
theorem d_Mo_make_484 : decode b_Mo_make 484 = .ok (.aload_n 0, 1) := by decide +kernel
theorem d_Mo_make_485 : decode b_Mo_make 485 = .ok (.aload_n 0, 1) := by decide +kernel
theorem d_Mo_make_486 : decode b_Mo_make 486 = .ok (.iload 13, 2) := by decide +kernel
theorem d_Mo_make_488 : decode b_Mo_make 488 = .ok (.invokevirtual 210, 3) := by decide +kernel
theorem d_Mo_make_491 : decode b_Mo_make 491 = .ok (.iload 6, 2) := by decide +kernel
theorem d_Mo_make_493 : decode b_Mo_make 493 = .ok (.iconst 1, 1) := by decide +kernel
theorem d_Mo_make_494 : decode b_Mo_make 494 = .ok (.isub, 1) := by decide +kernel
theorem d_Mo_make_495 : decode b_Mo_make 495 = .ok (.iload 13, 2) := by decide +kernel
theorem d_Mo_make_497 : decode b_Mo_make 497 = .ok (.iload 9, 2) := by decide +kernel
theorem d_Mo_make_499 : decode b_Mo_make 499 = .ok (.isub, 1) := by decide +kernel
theorem d_Mo_make_500 : decode b_Mo_make 500 = .ok (.isub, 1) := by decide +kernel
theorem d_Mo_make_501 : decode b_Mo_make 501 = .ok (.iload 13, 2) := by decide +kernel
theorem d_Mo_make_503 : decode b_Mo_make 503 = .ok (.iload 9, 2) := by decide +kernel
theorem d_Mo_make_505 : decode b_Mo_make 505 = .ok (.if_icmp .ne 7, 3) := by decide +kernel
theorem d_Mo_make_508 : decode b_Mo_make 508 = .ok (.iconst 1, 1) := by decide +kernel
theorem d_Mo_make_509 : decode b_Mo_make 509 = .ok (.goto 4, 3) := by decide +kernel
theorem d_Mo_make_512 : decode b_Mo_make 512 = .ok (.iconst 0, 1) := by decide +kernel
theorem d_Mo_make_513 : decode b_Mo_make 513 = .ok (.aload_n 0, 1) := by decide +kernel
theorem d_Mo_make_514 : decode b_Mo_make 514 = .ok (.iload 12, 2) := by decide +kernel
theorem d_Mo_make_516 : decode b_Mo_make 516 = .ok (.invokevirtual 281, 3) := by decide +kernel
theorem d_Mo_make_519 : decode b_Mo_make 519 = .ok (.invokevirtual 425, 3) := by decide +kernel
theorem d_Mo_make_522 : decode b_Mo_make 522 = .ok (.iinc 13 1, 3) := by decide +kernel
theorem d_Mo_make_525 : decode b_Mo_make 525 = .ok (.goto (-53), 3) := by decide +kernel
theorem d_Mo_make_528 : decode b_Mo_make 528 = .ok (.aload_n 0, 1) := by decide +kernel
theorem d_Mo_make_529 : decode b_Mo_make 529 = .ok (.iload 12, 2) := by decide +kernel
theorem d_Mo_make_531 : decode b_Mo_make 531 = .ok (.bipush 11, 2) := by decide +kernel
theorem d_Mo_make_533 : decode b_Mo_make 533 = .ok (.iadd, 1) := by decide +kernel
theorem d_Mo_make_534 : decode b_Mo_make 534 = .ok (.iconst 1, 1) := by decide +kernel
theorem d_Mo_make_535 : decode b_Mo_make 535 = .ok (.iload_n 1, 1) := by decide +kernel
theorem d_Mo_make_536 : decode b_Mo_make 536 = .ok (.ifCond .eq 9, 3) := by decide +kernel
theorem d_Mo_make_539 : decode b_Mo_make 539 = .ok (.ldc2_w 429, 3) := by decide +kernel
theorem d_Mo_make_542 : decode b_Mo_make 542 = .ok (.goto 6, 3) := by decide +kernel
theorem d_Mo_make_545 : decode b_Mo_make 545 = .ok (.ldc2_w 431, 3) := by decide +kernel
theorem d_Mo_make_548 : decode b_Mo_make 548 = .ok (.invokevirtual 128, 3) := by decide +kernel
theorem d_Mo_make_551 : decode b_Mo_make 551 = .ok (.aload_n 0, 1) := by decide +kernel
theorem d_Mo_make_552 : decode b_Mo_make 552 = .ok (.iload 12, 2) := by decide +kernel
theorem d_Mo_make_554 : decode b_Mo_make 554 = .ok (.bipush 24, 2) := by decide +kernel
theorem d_Mo_make_556 : decode b_Mo_make 556 = .ok (.iadd, 1) := by decide +kernel
theorem d_Mo_make_557 : decode b_Mo_make 557 = .ok (.iconst 2, 1) := by decide +kernel
theorem d_Mo_make_558 : decode b_Mo_make 558 = .ok (.ldc2_w 343, 3) := by decide +kernel
theorem d_Mo_make_561 : decode b_Mo_make 561 = .ok (.invokevirtual 128, 3) := by decide +kernel
theorem d_Mo_make_564 : decode b_Mo_make 564 = .ok (.aload_n 0, 1) := by decide +kernel
theorem d_Mo_make_565 : decode b_Mo_make 565 = .ok (.iload 12, 2) := by decide +kernel
theorem d_Mo_make_567 : decode b_Mo_make 567 = .ok (.bipush 20, 2) := by decide +kernel
theorem d_Mo_make_569 : decode b_Mo_make 569 = .ok (.iadd, 1) := by decide +kernel
theorem d_Mo_make_570 : decode b_Mo_make 570 = .ok (.iconst 2, 1) := by decide +kernel
theorem d_Mo_make_571 : decode b_Mo_make 571 = .ok (.iload 11, 2) := by decide +kernel
theorem d_Mo_make_573 : decode b_Mo_make 573 = .ok (.bipush 16, 2) := by decide +kernel
theorem d_Mo_make_575 : decode b_Mo_make 575 = .ok (.ishr, 1) := by decide +kernel
theorem d_Mo_make_576 : decode b_Mo_make 576 = .ok (.i2l, 1) := by decide +kernel
theorem d_Mo_make_577 : decode b_Mo_make 577 = .ok (.invokevirtual 128, 3) := by decide +kernel
theorem d_Mo_make_580 : decode b_Mo_make 580 = .ok (.aload_n 0, 1) := by decide +kernel
theorem d_Mo_make_581 : decode b_Mo_make 581 = .ok (.iload 12, 2) := by decide +kernel
theorem d_Mo_make_583 : decode b_Mo_make 583 = .ok (.bipush 26, 2) := by decide +kernel
theorem d_Mo_make_585 : decode b_Mo_make 585 = .ok (.iadd, 1) := by decide +kernel
theorem d_Mo_make_586 : decode b_Mo_make 586 = .ok (.iconst 2, 1) := by decide +kernel
theorem d_Mo_make_587 : decode b_Mo_make 587 = .ok (.iload 11, 2) := by decide +kernel
theorem d_Mo_make_589 : decode b_Mo_make 589 = .ok (.i2l, 1) := by decide +kernel
theorem d_Mo_make_590 : decode b_Mo_make 590 = .ok (.invokevirtual 128, 3) := by decide +kernel
theorem d_Mo_make_593 : decode b_Mo_make 593 = .ok (.iload 9, 2) := by decide +kernel
theorem d_Mo_make_595 : decode b_Mo_make 595 = .ok (.iload 6, 2) := by decide +kernel
theorem d_Mo_make_597 : decode b_Mo_make 597 = .ok (.iadd, 1) := by decide +kernel
theorem d_Mo_make_598 : decode b_Mo_make 598 = .ok (.istore 13, 2) := by decide +kernel
theorem d_Mo_make_600 : decode b_Mo_make 600 = .ok (.iload 13, 2) := by decide +kernel
theorem d_Mo_make_602 : decode b_Mo_make 602 = .ok (.iload 8, 2) := by decide +kernel
theorem d_Mo_make_604 : decode b_Mo_make 604 = .ok (.if_icmp .lt 22, 3) := by decide +kernel
theorem d_Mo_make_607 : decode b_Mo_make 607 = .ok (.iload 13, 2) := by decide +kernel
theorem d_Mo_make_609 : decode b_Mo_make 609 = .ok (.iload 7, 2) := by decide +kernel
theorem d_Mo_make_611 : decode b_Mo_make 611 = .ok (.if_icmp .ge 15, 3) := by decide +kernel
theorem d_Mo_make_614 : decode b_Mo_make 614 = .ok (.aload_n 0, 1) := by decide +kernel
theorem d_Mo_make_615 : decode b_Mo_make 615 = .ok (.getfield 8, 3) := by decide +kernel
theorem d_Mo_make_618 : decode b_Mo_make 618 = .ok (.aload_n 0, 1) := by decide +kernel
theorem d_Mo_make_619 : decode b_Mo_make 619 = .ok (.iload 13, 2) := by decide +kernel
theorem d_Mo_make_621 : decode b_Mo_make 621 = .ok (.invokevirtual 210, 3) := by decide +kernel
theorem d_Mo_make_624 : decode b_Mo_make 624 = .ok (.iconst 0, 1) := by decide +kernel
theorem d_Mo_make_625 : decode b_Mo_make 625 = .ok (.bastore, 1) := by decide +kernel
theorem d_Mo_make_626 : decode b_Mo_make 626 = .ok (.iconst 0, 1) := by decide +kernel
theorem d_Mo_make_627 : decode b_Mo_make 627 = .ok (.istore 14, 2) := by decide +kernel
theorem d_Mo_make_629 : decode b_Mo_make 629 = .ok (.iload 14, 2) := by decide +kernel
theorem d_Mo_make_631 : decode b_Mo_make 631 = .ok (.iconst 2, 1) := by decide +kernel
theorem d_Mo_make_632 : decode b_Mo_make 632 = .ok (.if_icmp .ge 123, 3) := by decide +kernel
theorem d_Mo_make_635 : decode b_Mo_make 635 = .ok (.iload_n 1, 1) := by decide +kernel
theorem d_Mo_make_636 : decode b_Mo_make 636 = .ok (.ifCond .eq 119, 3) := by decide +kernel
theorem d_Mo_make_639 : decode b_Mo_make 639 = .ok (.aload_n 0, 1) := by decide +kernel
theorem d_Mo_make_640 : decode b_Mo_make 640 = .ok (.iload 11, 2) := by decide +kernel
theorem d_Mo_make_642 : decode b_Mo_make 642 = .ok (.invokevirtual 159, 3) := by decide +kernel
theorem d_Mo_make_645 : decode b_Mo_make 645 = .ok (.bipush 32, 2) := by decide +kernel
theorem d_Mo_make_647 : decode b_Mo_make 647 = .ok (.iload 14, 2) := by decide +kernel
theorem d_Mo_make_649 : decode b_Mo_make 649 = .ok (.imul, 1) := by decide +kernel
theorem d_Mo_make_650 : decode b_Mo_make 650 = .ok (.iadd, 1) := by decide +kernel
theorem d_Mo_make_651 : decode b_Mo_make 651 = .ok (.istore 15, 2) := by decide +kernel
theorem d_Mo_make_653 : decode b_Mo_make 653 = .ok (.iload 14, 2) := by decide +kernel
theorem d_Mo_make_655 : decode b_Mo_make 655 = .ok (.ifCond .ne 8, 3) := by decide +kernel
theorem d_Mo_make_658 : decode b_Mo_make 658 = .ok (.iload 11, 2) := by decide +kernel
theorem d_Mo_make_660 : decode b_Mo_make 660 = .ok (.goto 7, 3) := by decide +kernel
theorem d_Mo_make_663 : decode b_Mo_make 663 = .ok (.aload_n 0, 1) := by decide +kernel
theorem d_Mo_make_664 : decode b_Mo_make 664 = .ok (.getfield 311, 3) := by decide +kernel
theorem d_Mo_make_667 : decode b_Mo_make 667 = .ok (.istore 16, 2) := by decide +kernel
theorem d_Mo_make_669 : decode b_Mo_make 669 = .ok (.iconst 0, 1) := by decide +kernel
theorem d_Mo_make_670 : decode b_Mo_make 670 = .ok (.istore 17, 2) := by decide +kernel
theorem d_Mo_make_672 : decode b_Mo_make 672 = .ok (.iload 17, 2) := by decide +kernel
theorem d_Mo_make_674 : decode b_Mo_make 674 = .ok (.bipush 11, 2) := by decide +kernel
theorem d_Mo_make_676 : decode b_Mo_make 676 = .ok (.if_icmp .ge 34, 3) := by decide +kernel
theorem d_Mo_make_679 : decode b_Mo_make 679 = .ok (.aload_n 0, 1) := by decide +kernel
theorem d_Mo_make_680 : decode b_Mo_make 680 = .ok (.getfield 8, 3) := by decide +kernel
theorem d_Mo_make_683 : decode b_Mo_make 683 = .ok (.iload 15, 2) := by decide +kernel
theorem d_Mo_make_685 : decode b_Mo_make 685 = .ok (.iload 17, 2) := by decide +kernel
theorem d_Mo_make_687 : decode b_Mo_make 687 = .ok (.iadd, 1) := by decide +kernel
theorem d_Mo_make_688 : decode b_Mo_make 688 = .ok (.iload 17, 2) := by decide +kernel
theorem d_Mo_make_690 : decode b_Mo_make 690 = .ok (.iload 14, 2) := by decide +kernel
theorem d_Mo_make_692 : decode b_Mo_make 692 = .ok (.if_icmp .gt 8, 3) := by decide +kernel
theorem d_Mo_make_695 : decode b_Mo_make 695 = .ok (.bipush 46, 2) := by decide +kernel
theorem d_Mo_make_697 : decode b_Mo_make 697 = .ok (.goto 5, 3) := by decide +kernel
theorem d_Mo_make_700 : decode b_Mo_make 700 = .ok (.bipush 32, 2) := by decide +kernel
theorem d_Mo_make_702 : decode b_Mo_make 702 = .ok (.i2b, 1) := by decide +kernel
theorem d_Mo_make_703 : decode b_Mo_make 703 = .ok (.bastore, 1) := by decide +kernel
theorem d_Mo_make_704 : decode b_Mo_make 704 = .ok (.iinc 17 1, 3) := by decide +kernel
theorem d_Mo_make_707 : decode b_Mo_make 707 = .ok (.goto (-35), 3) := by decide +kernel
theorem d_Mo_make_710 : decode b_Mo_make 710 = .ok (.aload_n 0, 1) := by decide +kernel
theorem d_Mo_make_711 : decode b_Mo_make 711 = .ok (.iload 15, 2) := by decide +kernel
theorem d_Mo_make_713 : decode b_Mo_make 713 = .ok (.bipush 11, 2) := by decide +kernel
theorem d_Mo_make_715 : decode b_Mo_make 715 = .ok (.iadd, 1) := by decide +kernel
theorem d_Mo_make_716 : decode b_Mo_make 716 = .ok (.iconst 1, 1) := by decide +kernel
theorem d_Mo_make_717 : decode b_Mo_make 717 = .ok (.ldc2_w 433, 3) := by decide +kernel
theorem d_Mo_make_720 : decode b_Mo_make 720 = .ok (.invokevirtual 128, 3) := by decide +kernel
theorem d_Mo_make_723 : decode b_Mo_make 723 = .ok (.aload_n 0, 1) := by decide +kernel
theorem d_Mo_make_724 : decode b_Mo_make 724 = .ok (.iload 15, 2) := by decide +kernel
theorem d_Mo_make_726 : decode b_Mo_make 726 = .ok (.bipush 24, 2) := by decide +kernel
theorem d_Mo_make_728 : decode b_Mo_make 728 = .ok (.iadd, 1) := by decide +kernel
theorem d_Mo_make_729 : decode b_Mo_make 729 = .ok (.iconst 2, 1) := by decide +kernel
theorem d_Mo_make_730 : decode b_Mo_make 730 = .ok (.ldc2_w 343, 3) := by decide +kernel
theorem d_Mo_make_733 : decode b_Mo_make 733 = .ok (.invokevirtual 128, 3) := by decide +kernel
theorem d_Mo_make_736 : decode b_Mo_make 736 = .ok (.aload_n 0, 1) := by decide +kernel
theorem d_Mo_make_737 : decode b_Mo_make 737 = .ok (.iload 15, 2) := by decide +kernel
theorem d_Mo_make_739 : decode b_Mo_make 739 = .ok (.bipush 26, 2) := by decide +kernel
theorem d_Mo_make_741 : decode b_Mo_make 741 = .ok (.iadd, 1) := by decide +kernel
theorem d_Mo_make_742 : decode b_Mo_make 742 = .ok (.iconst 2, 1) := by decide +kernel
theorem d_Mo_make_743 : decode b_Mo_make 743 = .ok (.iload 16, 2) := by decide +kernel
theorem d_Mo_make_745 : decode b_Mo_make 745 = .ok (.i2l, 1) := by decide +kernel
theorem d_Mo_make_746 : decode b_Mo_make 746 = .ok (.invokevirtual 128, 3) := by decide +kernel
theorem d_Mo_make_749 : decode b_Mo_make 749 = .ok (.iinc 14 1, 3) := by decide +kernel
theorem d_Mo_make_752 : decode b_Mo_make 752 = .ok (.goto (-123), 3) := by decide +kernel
theorem d_Mo_make_755 : decode b_Mo_make 755 = .ok (.aload_n 0, 1) := by decide +kernel
theorem d_Mo_make_756 : decode b_Mo_make 756 = .ok (.invokevirtual 308, 3) := by decide +kernel
theorem d_Mo_make_759 : decode b_Mo_make 759 = .ok (.aload_n 0, 1) := by decide +kernel
theorem d_Mo_make_760 : decode b_Mo_make 760 = .ok (.invokevirtual 299, 3) := by decide +kernel
theorem d_Mo_make_763 : decode b_Mo_make 763 = .ok (.aload_n 0, 1) := by decide +kernel
theorem d_Mo_make_764 : decode b_Mo_make 764 = .ok (.invokevirtual 345, 3) := by decide +kernel
theorem d_Mo_make_767 : decode b_Mo_make 767 = .ok (.istore 4, 2) := by decide +kernel
theorem d_Mo_make_769 : decode b_Mo_make 769 = .ok (.iconst 0, 1) := by decide +kernel
theorem d_Mo_make_770 : decode b_Mo_make 770 = .ok (.istore 14, 2) := by decide +kernel
theorem d_Mo_make_772 : decode b_Mo_make 772 = .ok (.aload_n 0, 1) := by decide +kernel
theorem d_Mo_make_773 : decode b_Mo_make 773 = .ok (.getfield 31, 3) := by decide +kernel
theorem d_Mo_make_776 : decode b_Mo_make 776 = .ok (.aload_n 0, 1) := by decide +kernel
theorem d_Mo_make_777 : decode b_Mo_make 777 = .ok (.getfield 43, 3) := by decide +kernel
theorem d_Mo_make_780 : decode b_Mo_make 780 = .ok (.iload 4, 2) := by decide +kernel
theorem d_Mo_make_782 : decode b_Mo_make 782 = .ok (.iaload, 1) := by decide +kernel
theorem d_Mo_make_783 : decode b_Mo_make 783 = .ok (.iload 14, 2) := by decide +kernel
theorem d_Mo_make_785 : decode b_Mo_make 785 = .ok (.iadd, 1) := by decide +kernel
theorem d_Mo_make_786 : decode b_Mo_make 786 = .ok (.iaload, 1) := by decide +kernel
theorem d_Mo_make_787 : decode b_Mo_make 787 = .ok (.iload 9, 2) := by decide +kernel
theorem d_Mo_make_789 : decode b_Mo_make 789 = .ok (.iload 6, 2) := by decide +kernel
theorem d_Mo_make_791 : decode b_Mo_make 791 = .ok (.iadd, 1) := by decide +kernel
theorem d_Mo_make_792 : decode b_Mo_make 792 = .ok (.iconst 1, 1) := by decide +kernel
theorem d_Mo_make_793 : decode b_Mo_make 793 = .ok (.isub, 1) := by decide +kernel
theorem d_Mo_make_794 : decode b_Mo_make 794 = .ok (.if_icmp .eq 9, 3) := by decide +kernel
theorem d_Mo_make_797 : decode b_Mo_make 797 = .ok (.iinc 14 1, 3) := by decide +kernel
theorem d_Mo_make_800 : decode b_Mo_make 800 = .ok (.goto (-28), 3) := by decide +kernel
theorem d_Mo_make_803 : decode b_Mo_make 803 = .ok (.iload 14, 2) := by decide +kernel
theorem d_Mo_make_805 : decode b_Mo_make 805 = .ok (.ireturn, 1) := by decide +kernel
abbrev b_Mo_noFile : ByteArray := prog_14_method_80_code
def y_Mo_noFile : MethodName := ⟨R_Mo, "noFile", "(IZ)Z"⟩
theorem d_Mo_noFile_0 : decode b_Mo_noFile 0 = .ok (.aload_n 0, 1) := by decide +kernel
theorem d_Mo_noFile_1 : decode b_Mo_noFile 1 = .ok (.invokevirtual 404, 3) := by decide +kernel
theorem d_Mo_noFile_4 : decode b_Mo_noFile 4 = .ok (.ifCond .ne 57, 3) := by decide +kernel
theorem d_Mo_noFile_7 : decode b_Mo_noFile 7 = .ok (.aload_n 0, 1) := by decide +kernel
theorem d_Mo_noFile_8 : decode b_Mo_noFile 8 = .ok (.iload_n 1, 1) := by decide +kernel
theorem d_Mo_noFile_9 : decode b_Mo_noFile 9 = .ok (.ifCond .lt 11, 3) := by decide +kernel
theorem d_Mo_noFile_12 : decode b_Mo_noFile 12 = .ok (.iload_n 1, 1) := by decide +kernel
theorem d_Mo_noFile_13 : decode b_Mo_noFile 13 = .ok (.aload_n 0, 1) := by decide +kernel
theorem d_Mo_noFile_14 : decode b_Mo_noFile 14 = .ok (.invokevirtual 352, 3) := by decide +kernel
theorem d_Mo_noFile_17 : decode b_Mo_noFile 17 = .ok (.if_icmp .lt 7, 3) := by decide +kernel
theorem d_Mo_noFile_20 : decode b_Mo_noFile 20 = .ok (.iconst 1, 1) := by decide +kernel
theorem d_Mo_noFile_21 : decode b_Mo_noFile 21 = .ok (.goto 4, 3) := by decide +kernel
theorem d_Mo_noFile_24 : decode b_Mo_noFile 24 = .ok (.iconst 0, 1) := by decide +kernel
theorem d_Mo_noFile_25 : decode b_Mo_noFile 25 = .ok (.iconst 2, 1) := by decide +kernel
theorem d_Mo_noFile_26 : decode b_Mo_noFile 26 = .ok (.invokevirtual 317, 3) := by decide +kernel
theorem d_Mo_noFile_29 : decode b_Mo_noFile 29 = .ok (.ifCond .ne 32, 3) := by decide +kernel
theorem d_Mo_noFile_32 : decode b_Mo_noFile 32 = .ok (.aload_n 0, 1) := by decide +kernel
theorem d_Mo_noFile_33 : decode b_Mo_noFile 33 = .ok (.aload_n 0, 1) := by decide +kernel
theorem d_Mo_noFile_34 : decode b_Mo_noFile 34 = .ok (.aload_n 0, 1) := by decide +kernel
theorem d_Mo_noFile_35 : decode b_Mo_noFile 35 = .ok (.iload_n 1, 1) := by decide +kernel
theorem d_Mo_noFile_36 : decode b_Mo_noFile 36 = .ok (.invokevirtual 367, 3) := by decide +kernel
theorem d_Mo_noFile_39 : decode b_Mo_noFile 39 = .ok (.invokevirtual 185, 3) := by decide +kernel
theorem d_Mo_noFile_42 : decode b_Mo_noFile 42 = .ok (.ifCond .ne 7, 3) := by decide +kernel
theorem d_Mo_noFile_45 : decode b_Mo_noFile 45 = .ok (.iload_n 2, 1) := by decide +kernel
theorem d_Mo_noFile_46 : decode b_Mo_noFile 46 = .ok (.ifCond .eq 7, 3) := by decide +kernel
theorem d_Mo_noFile_49 : decode b_Mo_noFile 49 = .ok (.iconst 1, 1) := by decide +kernel
theorem d_Mo_noFile_50 : decode b_Mo_noFile 50 = .ok (.goto 4, 3) := by decide +kernel
theorem d_Mo_noFile_53 : decode b_Mo_noFile 53 = .ok (.iconst 0, 1) := by decide +kernel
theorem d_Mo_noFile_54 : decode b_Mo_noFile 54 = .ok (.iconst 3, 1) := by decide +kernel
theorem d_Mo_noFile_55 : decode b_Mo_noFile 55 = .ok (.invokevirtual 317, 3) := by decide +kernel
theorem d_Mo_noFile_58 : decode b_Mo_noFile 58 = .ok (.ifCond .eq 7, 3) := by decide +kernel
theorem d_Mo_noFile_61 : decode b_Mo_noFile 61 = .ok (.iconst 1, 1) := by decide +kernel
theorem d_Mo_noFile_62 : decode b_Mo_noFile 62 = .ok (.goto 4, 3) := by decide +kernel
theorem d_Mo_noFile_65 : decode b_Mo_noFile 65 = .ok (.iconst 0, 1) := by decide +kernel
theorem d_Mo_noFile_66 : decode b_Mo_noFile 66 = .ok (.ireturn, 1) := by decide +kernel
abbrev b_Mo_write : ByteArray := prog_14_method_81_code
def y_Mo_write : MethodName := ⟨R_Mo, "write", "(I)I"⟩
theorem d_Mo_write_0 : decode b_Mo_write 0 = .ok (.aload_n 0, 1) := by decide +kernel
theorem d_Mo_write_1 : decode b_Mo_write 1 = .ok (.getfield 296, 3) := by decide +kernel
theorem d_Mo_write_4 : decode b_Mo_write 4 = .ok (.istore_n 2, 1) := by decide +kernel
theorem d_Mo_write_5 : decode b_Mo_write 5 = .ok (.aload_n 0, 1) := by decide +kernel
theorem d_Mo_write_6 : decode b_Mo_write 6 = .ok (.iconst 0, 1) := by decide +kernel
theorem d_Mo_write_7 : decode b_Mo_write 7 = .ok (.putfield 296, 3) := by decide +kernel
theorem d_Mo_write_10 : decode b_Mo_write 10 = .ok (.aload_n 0, 1) := by decide +kernel
theorem d_Mo_write_11 : decode b_Mo_write 11 = .ok (.iload_n 1, 1) := by decide +kernel
theorem d_Mo_write_12 : decode b_Mo_write 12 = .ok (.iconst 0, 1) := by decide +kernel
theorem d_Mo_write_13 : decode b_Mo_write 13 = .ok (.invokevirtual 439, 3) := by decide +kernel
theorem d_Mo_write_16 : decode b_Mo_write 16 = .ok (.ifCond .eq 7, 3) := by decide +kernel
theorem d_Mo_write_19 : decode b_Mo_write 19 = .ok (.iconst 0, 1) := by decide +kernel
theorem d_Mo_write_20 : decode b_Mo_write 20 = .ok (.goto 15, 3) := by decide +kernel
theorem d_Mo_write_23 : decode b_Mo_write 23 = .ok (.aload_n 0, 1) := by decide +kernel
theorem d_Mo_write_24 : decode b_Mo_write 24 = .ok (.aload_n 0, 1) := by decide +kernel
theorem d_Mo_write_25 : decode b_Mo_write 25 = .ok (.iload_n 1, 1) := by decide +kernel
theorem d_Mo_write_26 : decode b_Mo_write 26 = .ok (.invokevirtual 367, 3) := by decide +kernel
theorem d_Mo_write_29 : decode b_Mo_write 29 = .ok (.iload_n 2, 1) := by decide +kernel
theorem d_Mo_write_30 : decode b_Mo_write 30 = .ok (.iconst 1, 1) := by decide +kernel
theorem d_Mo_write_31 : decode b_Mo_write 31 = .ok (.iconst 0, 1) := by decide +kernel
theorem d_Mo_write_32 : decode b_Mo_write 32 = .ok (.invokevirtual 442, 3) := by decide +kernel
theorem d_Mo_write_35 : decode b_Mo_write 35 = .ok (.ireturn, 1) := by decide +kernel
abbrev b_Mo_grow : ByteArray := prog_14_method_82_code
def y_Mo_grow : MethodName := ⟨R_Mo, "grow", "(III)I"⟩
theorem d_Mo_grow_0 : decode b_Mo_grow 0 = .ok (.aload_n 0, 1) := by decide +kernel
theorem d_Mo_grow_1 : decode b_Mo_grow 1 = .ok (.iload_n 1, 1) := by decide +kernel
theorem d_Mo_grow_2 : decode b_Mo_grow 2 = .ok (.iload_n 2, 1) := by decide +kernel
theorem d_Mo_grow_3 : decode b_Mo_grow 3 = .ok (.ifCond .lt 10, 3) := by decide +kernel
theorem d_Mo_grow_6 : decode b_Mo_grow 6 = .ok (.iload_n 2, 1) := by decide +kernel
theorem d_Mo_grow_7 : decode b_Mo_grow 7 = .ok (.ldc_w 446, 3) := by decide +kernel
theorem d_Mo_grow_10 : decode b_Mo_grow 10 = .ok (.if_icmp .le 7, 3) := by decide +kernel
theorem d_Mo_grow_13 : decode b_Mo_grow 13 = .ok (.iconst 1, 1) := by decide +kernel
theorem d_Mo_grow_14 : decode b_Mo_grow 14 = .ok (.goto 4, 3) := by decide +kernel
theorem d_Mo_grow_17 : decode b_Mo_grow 17 = .ok (.iconst 0, 1) := by decide +kernel
theorem d_Mo_grow_18 : decode b_Mo_grow 18 = .ok (.invokevirtual 439, 3) := by decide +kernel
theorem d_Mo_grow_21 : decode b_Mo_grow 21 = .ok (.ifCond .eq 7, 3) := by decide +kernel
theorem d_Mo_grow_24 : decode b_Mo_grow 24 = .ok (.iconst 0, 1) := by decide +kernel
theorem d_Mo_grow_25 : decode b_Mo_grow 25 = .ok (.goto 15, 3) := by decide +kernel
theorem d_Mo_grow_28 : decode b_Mo_grow 28 = .ok (.aload_n 0, 1) := by decide +kernel
theorem d_Mo_grow_29 : decode b_Mo_grow 29 = .ok (.aload_n 0, 1) := by decide +kernel
theorem d_Mo_grow_30 : decode b_Mo_grow 30 = .ok (.iload_n 1, 1) := by decide +kernel
theorem d_Mo_grow_31 : decode b_Mo_grow 31 = .ok (.invokevirtual 367, 3) := by decide +kernel
theorem d_Mo_grow_34 : decode b_Mo_grow 34 = .ok (.iload_n 2, 1) := by decide +kernel
theorem d_Mo_grow_35 : decode b_Mo_grow 35 = .ok (.iconst 0, 1) := by decide +kernel
theorem d_Mo_grow_36 : decode b_Mo_grow 36 = .ok (.iload_n 3, 1) := by decide +kernel
theorem d_Mo_grow_37 : decode b_Mo_grow 37 = .ok (.invokevirtual 442, 3) := by decide +kernel
theorem d_Mo_grow_40 : decode b_Mo_grow 40 = .ok (.ireturn, 1) := by decide +kernel
abbrev b_Mo_cut : ByteArray := prog_14_method_83_code
def y_Mo_cut : MethodName := ⟨R_Mo, "cut", "(II)I"⟩
theorem d_Mo_cut_0 : decode b_Mo_cut 0 = .ok (.aload_n 0, 1) := by decide +kernel
theorem d_Mo_cut_1 : decode b_Mo_cut 1 = .ok (.iload_n 1, 1) := by decide +kernel
theorem d_Mo_cut_2 : decode b_Mo_cut 2 = .ok (.iload_n 2, 1) := by decide +kernel
theorem d_Mo_cut_3 : decode b_Mo_cut 3 = .ok (.ifCond .ge 7, 3) := by decide +kernel
theorem d_Mo_cut_6 : decode b_Mo_cut 6 = .ok (.iconst 1, 1) := by decide +kernel
theorem d_Mo_cut_7 : decode b_Mo_cut 7 = .ok (.goto 4, 3) := by decide +kernel
theorem d_Mo_cut_10 : decode b_Mo_cut 10 = .ok (.iconst 0, 1) := by decide +kernel
theorem d_Mo_cut_11 : decode b_Mo_cut 11 = .ok (.invokevirtual 439, 3) := by decide +kernel
theorem d_Mo_cut_14 : decode b_Mo_cut 14 = .ok (.ifCond .ne 37, 3) := by decide +kernel
theorem d_Mo_cut_17 : decode b_Mo_cut 17 = .ok (.aload_n 0, 1) := by decide +kernel
theorem d_Mo_cut_18 : decode b_Mo_cut 18 = .ok (.iload_n 2, 1) := by decide +kernel
theorem d_Mo_cut_19 : decode b_Mo_cut 19 = .ok (.aload_n 0, 1) := by decide +kernel
theorem d_Mo_cut_20 : decode b_Mo_cut 20 = .ok (.aload_n 0, 1) := by decide +kernel
theorem d_Mo_cut_21 : decode b_Mo_cut 21 = .ok (.getfield 27, 3) := by decide +kernel
theorem d_Mo_cut_24 : decode b_Mo_cut 24 = .ok (.aload_n 0, 1) := by decide +kernel
theorem d_Mo_cut_25 : decode b_Mo_cut 25 = .ok (.iload_n 1, 1) := by decide +kernel
theorem d_Mo_cut_26 : decode b_Mo_cut 26 = .ok (.invokevirtual 367, 3) := by decide +kernel
theorem d_Mo_cut_29 : decode b_Mo_cut 29 = .ok (.iaload, 1) := by decide +kernel
theorem d_Mo_cut_30 : decode b_Mo_cut 30 = .ok (.bipush 28, 2) := by decide +kernel
theorem d_Mo_cut_32 : decode b_Mo_cut 32 = .ok (.iadd, 1) := by decide +kernel
theorem d_Mo_cut_33 : decode b_Mo_cut 33 = .ok (.invokevirtual 120, 3) := by decide +kernel
theorem d_Mo_cut_36 : decode b_Mo_cut 36 = .ok (.if_icmp .le 7, 3) := by decide +kernel
theorem d_Mo_cut_39 : decode b_Mo_cut 39 = .ok (.iconst 1, 1) := by decide +kernel
theorem d_Mo_cut_40 : decode b_Mo_cut 40 = .ok (.goto 4, 3) := by decide +kernel
theorem d_Mo_cut_43 : decode b_Mo_cut 43 = .ok (.iconst 0, 1) := by decide +kernel
theorem d_Mo_cut_44 : decode b_Mo_cut 44 = .ok (.iconst 3, 1) := by decide +kernel
theorem d_Mo_cut_45 : decode b_Mo_cut 45 = .ok (.invokevirtual 317, 3) := by decide +kernel
theorem d_Mo_cut_48 : decode b_Mo_cut 48 = .ok (.ifCond .eq 5, 3) := by decide +kernel
theorem d_Mo_cut_51 : decode b_Mo_cut 51 = .ok (.iconst 0, 1) := by decide +kernel
theorem d_Mo_cut_52 : decode b_Mo_cut 52 = .ok (.ireturn, 1) := by decide +kernel
theorem d_Mo_cut_53 : decode b_Mo_cut 53 = .ok (.aload_n 0, 1) := by decide +kernel
theorem d_Mo_cut_54 : decode b_Mo_cut 54 = .ok (.getfield 27, 3) := by decide +kernel
theorem d_Mo_cut_57 : decode b_Mo_cut 57 = .ok (.aload_n 0, 1) := by decide +kernel
theorem d_Mo_cut_58 : decode b_Mo_cut 58 = .ok (.iload_n 1, 1) := by decide +kernel
theorem d_Mo_cut_59 : decode b_Mo_cut 59 = .ok (.invokevirtual 367, 3) := by decide +kernel
theorem d_Mo_cut_62 : decode b_Mo_cut 62 = .ok (.iaload, 1) := by decide +kernel
theorem d_Mo_cut_63 : decode b_Mo_cut 63 = .ok (.istore_n 3, 1) := by decide +kernel
theorem d_Mo_cut_64 : decode b_Mo_cut 64 = .ok (.iload_n 2, 1) := by decide +kernel
theorem d_Mo_cut_65 : decode b_Mo_cut 65 = .ok (.sipush 512, 3) := by decide +kernel
theorem d_Mo_cut_68 : decode b_Mo_cut 68 = .ok (.aload_n 0, 1) := by decide +kernel
theorem d_Mo_cut_69 : decode b_Mo_cut 69 = .ok (.getfield 138, 3) := by decide +kernel
theorem d_Mo_cut_72 : decode b_Mo_cut 72 = .ok (.imul, 1) := by decide +kernel
theorem d_Mo_cut_73 : decode b_Mo_cut 73 = .ok (.invokestatic 262, 3) := by decide +kernel
theorem d_Mo_cut_76 : decode b_Mo_cut 76 = .ok (.istore 4, 2) := by decide +kernel
theorem d_Mo_cut_78 : decode b_Mo_cut 78 = .ok (.aload_n 0, 1) := by decide +kernel
theorem d_Mo_cut_79 : decode b_Mo_cut 79 = .ok (.aload_n 0, 1) := by decide +kernel
theorem d_Mo_cut_80 : decode b_Mo_cut 80 = .ok (.iload_n 3, 1) := by decide +kernel
theorem d_Mo_cut_81 : decode b_Mo_cut 81 = .ok (.invokevirtual 156, 3) := by decide +kernel
theorem d_Mo_cut_84 : decode b_Mo_cut 84 = .ok (.invokevirtual 195, 3) := by decide +kernel
theorem d_Mo_cut_87 : decode b_Mo_cut 87 = .ok (.iload 4, 2) := by decide +kernel
theorem d_Mo_cut_89 : decode b_Mo_cut 89 = .ok (.istore 5, 2) := by decide +kernel
theorem d_Mo_cut_91 : decode b_Mo_cut 91 = .ok (.iload 5, 2) := by decide +kernel
theorem d_Mo_cut_93 : decode b_Mo_cut 93 = .ok (.aload_n 0, 1) := by decide +kernel
theorem d_Mo_cut_94 : decode b_Mo_cut 94 = .ok (.getfield 153, 3) := by decide +kernel
theorem d_Mo_cut_97 : decode b_Mo_cut 97 = .ok (.if_icmp .ge 21, 3) := by decide +kernel
theorem d_Mo_cut_100 : decode b_Mo_cut 100 = .ok (.aload_n 0, 1) := by decide +kernel
theorem d_Mo_cut_101 : decode b_Mo_cut 101 = .ok (.aload_n 0, 1) := by decide +kernel
theorem d_Mo_cut_102 : decode b_Mo_cut 102 = .ok (.getfield 57, 3) := by decide +kernel
theorem d_Mo_cut_105 : decode b_Mo_cut 105 = .ok (.iload 5, 2) := by decide +kernel
theorem d_Mo_cut_107 : decode b_Mo_cut 107 = .ok (.iaload, 1) := by decide +kernel
theorem d_Mo_cut_108 : decode b_Mo_cut 108 = .ok (.iconst 0, 1) := by decide +kernel
theorem d_Mo_cut_109 : decode b_Mo_cut 109 = .ok (.invokevirtual 337, 3) := by decide +kernel
theorem d_Mo_cut_112 : decode b_Mo_cut 112 = .ok (.iinc 5 1, 3) := by decide +kernel
theorem d_Mo_cut_115 : decode b_Mo_cut 115 = .ok (.goto (-24), 3) := by decide +kernel
theorem d_Mo_cut_118 : decode b_Mo_cut 118 = .ok (.iload 4, 2) := by decide +kernel
theorem d_Mo_cut_120 : decode b_Mo_cut 120 = .ok (.ifCond .le 30, 3) := by decide +kernel
theorem d_Mo_cut_123 : decode b_Mo_cut 123 = .ok (.aload_n 0, 1) := by decide +kernel
theorem d_Mo_cut_124 : decode b_Mo_cut 124 = .ok (.getfield 153, 3) := by decide +kernel
theorem d_Mo_cut_127 : decode b_Mo_cut 127 = .ok (.iload 4, 2) := by decide +kernel
theorem d_Mo_cut_129 : decode b_Mo_cut 129 = .ok (.if_icmp .le 41, 3) := by decide +kernel
theorem d_Mo_cut_132 : decode b_Mo_cut 132 = .ok (.aload_n 0, 1) := by decide +kernel
theorem d_Mo_cut_133 : decode b_Mo_cut 133 = .ok (.aload_n 0, 1) := by decide +kernel
theorem d_Mo_cut_134 : decode b_Mo_cut 134 = .ok (.getfield 57, 3) := by decide +kernel
theorem d_Mo_cut_137 : decode b_Mo_cut 137 = .ok (.iload 4, 2) := by decide +kernel
theorem d_Mo_cut_139 : decode b_Mo_cut 139 = .ok (.iconst 1, 1) := by decide +kernel
theorem d_Mo_cut_140 : decode b_Mo_cut 140 = .ok (.isub, 1) := by decide +kernel
theorem d_Mo_cut_141 : decode b_Mo_cut 141 = .ok (.iaload, 1) := by decide +kernel
theorem d_Mo_cut_142 : decode b_Mo_cut 142 = .ok (.ldc 123, 2) := by decide +kernel
theorem d_Mo_cut_144 : decode b_Mo_cut 144 = .ok (.invokevirtual 337, 3) := by decide +kernel
theorem d_Mo_cut_147 : decode b_Mo_cut 147 = .ok (.goto 23, 3) := by decide +kernel
theorem d_Mo_cut_150 : decode b_Mo_cut 150 = .ok (.aload_n 0, 1) := by decide +kernel
theorem d_Mo_cut_151 : decode b_Mo_cut 151 = .ok (.iload_n 3, 1) := by decide +kernel
theorem d_Mo_cut_152 : decode b_Mo_cut 152 = .ok (.bipush 20, 2) := by decide +kernel
theorem d_Mo_cut_154 : decode b_Mo_cut 154 = .ok (.iadd, 1) := by decide +kernel
theorem d_Mo_cut_155 : decode b_Mo_cut 155 = .ok (.iconst 2, 1) := by decide +kernel
theorem d_Mo_cut_156 : decode b_Mo_cut 156 = .ok (.lconst 0, 1) := by decide +kernel
theorem d_Mo_cut_157 : decode b_Mo_cut 157 = .ok (.invokevirtual 128, 3) := by decide +kernel
theorem d_Mo_cut_160 : decode b_Mo_cut 160 = .ok (.aload_n 0, 1) := by decide +kernel
theorem d_Mo_cut_161 : decode b_Mo_cut 161 = .ok (.iload_n 3, 1) := by decide +kernel
theorem d_Mo_cut_162 : decode b_Mo_cut 162 = .ok (.bipush 26, 2) := by decide +kernel
theorem d_Mo_cut_164 : decode b_Mo_cut 164 = .ok (.iadd, 1) := by decide +kernel
theorem d_Mo_cut_165 : decode b_Mo_cut 165 = .ok (.iconst 2, 1) := by decide +kernel
theorem d_Mo_cut_166 : decode b_Mo_cut 166 = .ok (.lconst 0, 1) := by decide +kernel
theorem d_Mo_cut_167 : decode b_Mo_cut 167 = .ok (.invokevirtual 128, 3) := by decide +kernel
theorem d_Mo_cut_170 : decode b_Mo_cut 170 = .ok (.aload_n 0, 1) := by decide +kernel
theorem d_Mo_cut_171 : decode b_Mo_cut 171 = .ok (.iload_n 3, 1) := by decide +kernel
theorem d_Mo_cut_172 : decode b_Mo_cut 172 = .ok (.bipush 28, 2) := by decide +kernel
theorem d_Mo_cut_174 : decode b_Mo_cut 174 = .ok (.iadd, 1) := by decide +kernel
theorem d_Mo_cut_175 : decode b_Mo_cut 175 = .ok (.iconst 4, 1) := by decide +kernel
theorem d_Mo_cut_176 : decode b_Mo_cut 176 = .ok (.iload_n 2, 1) := by decide +kernel
theorem d_Mo_cut_177 : decode b_Mo_cut 177 = .ok (.i2l, 1) := by decide +kernel
theorem d_Mo_cut_178 : decode b_Mo_cut 178 = .ok (.invokevirtual 128, 3) := by decide +kernel
theorem d_Mo_cut_181 : decode b_Mo_cut 181 = .ok (.aload_n 0, 1) := by decide +kernel
theorem d_Mo_cut_182 : decode b_Mo_cut 182 = .ok (.invokevirtual 308, 3) := by decide +kernel
theorem d_Mo_cut_185 : decode b_Mo_cut 185 = .ok (.aload_n 0, 1) := by decide +kernel
theorem d_Mo_cut_186 : decode b_Mo_cut 186 = .ok (.getfield 153, 3) := by decide +kernel
theorem d_Mo_cut_189 : decode b_Mo_cut 189 = .ok (.iload 4, 2) := by decide +kernel
theorem d_Mo_cut_191 : decode b_Mo_cut 191 = .ok (.isub, 1) := by decide +kernel
theorem d_Mo_cut_192 : decode b_Mo_cut 192 = .ok (.ireturn, 1) := by decide +kernel
abbrev b_Mo_remove : ByteArray := prog_14_method_84_code
def y_Mo_remove : MethodName := ⟨R_Mo, "remove", "(I)V"⟩
theorem d_Mo_remove_0 : decode b_Mo_remove 0 = .ok (.aload_n 0, 1) := by decide +kernel
theorem d_Mo_remove_1 : decode b_Mo_remove 1 = .ok (.invokevirtual 404, 3) := by decide +kernel
theorem d_Mo_remove_4 : decode b_Mo_remove 4 = .ok (.ifCond .ne 28, 3) := by decide +kernel
theorem d_Mo_remove_7 : decode b_Mo_remove 7 = .ok (.aload_n 0, 1) := by decide +kernel
theorem d_Mo_remove_8 : decode b_Mo_remove 8 = .ok (.iload_n 1, 1) := by decide +kernel
theorem d_Mo_remove_9 : decode b_Mo_remove 9 = .ok (.ifCond .lt 11, 3) := by decide +kernel
theorem d_Mo_remove_12 : decode b_Mo_remove 12 = .ok (.iload_n 1, 1) := by decide +kernel
theorem d_Mo_remove_13 : decode b_Mo_remove 13 = .ok (.aload_n 0, 1) := by decide +kernel
theorem d_Mo_remove_14 : decode b_Mo_remove 14 = .ok (.invokevirtual 352, 3) := by decide +kernel
theorem d_Mo_remove_17 : decode b_Mo_remove 17 = .ok (.if_icmp .lt 7, 3) := by decide +kernel
theorem d_Mo_remove_20 : decode b_Mo_remove 20 = .ok (.iconst 1, 1) := by decide +kernel
theorem d_Mo_remove_21 : decode b_Mo_remove 21 = .ok (.goto 4, 3) := by decide +kernel
theorem d_Mo_remove_24 : decode b_Mo_remove 24 = .ok (.iconst 0, 1) := by decide +kernel
theorem d_Mo_remove_25 : decode b_Mo_remove 25 = .ok (.iconst 2, 1) := by decide +kernel
theorem d_Mo_remove_26 : decode b_Mo_remove 26 = .ok (.invokevirtual 317, 3) := by decide +kernel
theorem d_Mo_remove_29 : decode b_Mo_remove 29 = .ok (.ifCond .eq 4, 3) := by decide +kernel
theorem d_Mo_remove_32 : decode b_Mo_remove 32 = .ok (.return_, 1) := by decide +kernel
theorem d_Mo_remove_33 : decode b_Mo_remove 33 = .ok (.aload_n 0, 1) := by decide +kernel
theorem d_Mo_remove_34 : decode b_Mo_remove 34 = .ok (.iload_n 1, 1) := by decide +kernel
theorem d_Mo_remove_35 : decode b_Mo_remove 35 = .ok (.invokevirtual 367, 3) := by decide +kernel
theorem d_Mo_remove_38 : decode b_Mo_remove 38 = .ok (.istore_n 2, 1) := by decide +kernel
theorem d_Mo_remove_39 : decode b_Mo_remove 39 = .ok (.aload_n 0, 1) := by decide +kernel
theorem d_Mo_remove_40 : decode b_Mo_remove 40 = .ok (.aload_n 0, 1) := by decide +kernel
theorem d_Mo_remove_41 : decode b_Mo_remove 41 = .ok (.iload_n 2, 1) := by decide +kernel
theorem d_Mo_remove_42 : decode b_Mo_remove 42 = .ok (.invokevirtual 185, 3) := by decide +kernel
theorem d_Mo_remove_45 : decode b_Mo_remove 45 = .ok (.ifCond .eq 16, 3) := by decide +kernel
theorem d_Mo_remove_48 : decode b_Mo_remove 48 = .ok (.aload_n 0, 1) := by decide +kernel
theorem d_Mo_remove_49 : decode b_Mo_remove 49 = .ok (.getfield 40, 3) := by decide +kernel
theorem d_Mo_remove_52 : decode b_Mo_remove 52 = .ok (.iload_n 2, 1) := by decide +kernel
theorem d_Mo_remove_53 : decode b_Mo_remove 53 = .ok (.iaload, 1) := by decide +kernel
theorem d_Mo_remove_54 : decode b_Mo_remove 54 = .ok (.ifCond .le 7, 3) := by decide +kernel
theorem d_Mo_remove_57 : decode b_Mo_remove 57 = .ok (.iconst 1, 1) := by decide +kernel
theorem d_Mo_remove_58 : decode b_Mo_remove 58 = .ok (.goto 4, 3) := by decide +kernel
theorem d_Mo_remove_61 : decode b_Mo_remove 61 = .ok (.iconst 0, 1) := by decide +kernel
theorem d_Mo_remove_62 : decode b_Mo_remove 62 = .ok (.iconst 3, 1) := by decide +kernel
theorem d_Mo_remove_63 : decode b_Mo_remove 63 = .ok (.invokevirtual 317, 3) := by decide +kernel
theorem d_Mo_remove_66 : decode b_Mo_remove 66 = .ok (.ifCond .eq 4, 3) := by decide +kernel
theorem d_Mo_remove_69 : decode b_Mo_remove 69 = .ok (.return_, 1) := by decide +kernel
theorem d_Mo_remove_70 : decode b_Mo_remove 70 = .ok (.aload_n 0, 1) := by decide +kernel
theorem d_Mo_remove_71 : decode b_Mo_remove 71 = .ok (.aload_n 0, 1) := by decide +kernel
theorem d_Mo_remove_72 : decode b_Mo_remove 72 = .ok (.invokevirtual 345, 3) := by decide +kernel
theorem d_Mo_remove_75 : decode b_Mo_remove 75 = .ok (.invokevirtual 416, 3) := by decide +kernel
theorem d_Mo_remove_78 : decode b_Mo_remove 78 = .ok (.aload_n 0, 1) := by decide +kernel
theorem d_Mo_remove_79 : decode b_Mo_remove 79 = .ok (.aload_n 0, 1) := by decide +kernel
theorem d_Mo_remove_80 : decode b_Mo_remove 80 = .ok (.iload_n 2, 1) := by decide +kernel
theorem d_Mo_remove_81 : decode b_Mo_remove 81 = .ok (.invokevirtual 192, 3) := by decide +kernel
theorem d_Mo_remove_84 : decode b_Mo_remove 84 = .ok (.invokevirtual 195, 3) := by decide +kernel
theorem d_Mo_remove_87 : decode b_Mo_remove 87 = .ok (.iconst 0, 1) := by decide +kernel
theorem d_Mo_remove_88 : decode b_Mo_remove 88 = .ok (.istore_n 3, 1) := by decide +kernel
theorem d_Mo_remove_89 : decode b_Mo_remove 89 = .ok (.iload_n 3, 1) := by decide +kernel
theorem d_Mo_remove_90 : decode b_Mo_remove 90 = .ok (.aload_n 0, 1) := by decide +kernel
theorem d_Mo_remove_91 : decode b_Mo_remove 91 = .ok (.getfield 153, 3) := by decide +kernel
theorem d_Mo_remove_94 : decode b_Mo_remove 94 = .ok (.if_icmp .ge 20, 3) := by decide +kernel
theorem d_Mo_remove_97 : decode b_Mo_remove 97 = .ok (.aload_n 0, 1) := by decide +kernel
theorem d_Mo_remove_98 : decode b_Mo_remove 98 = .ok (.aload_n 0, 1) := by decide +kernel
theorem d_Mo_remove_99 : decode b_Mo_remove 99 = .ok (.getfield 57, 3) := by decide +kernel
theorem d_Mo_remove_102 : decode b_Mo_remove 102 = .ok (.iload_n 3, 1) := by decide +kernel
theorem d_Mo_remove_103 : decode b_Mo_remove 103 = .ok (.iaload, 1) := by decide +kernel
theorem d_Mo_remove_104 : decode b_Mo_remove 104 = .ok (.iconst 0, 1) := by decide +kernel
theorem d_Mo_remove_105 : decode b_Mo_remove 105 = .ok (.invokevirtual 337, 3) := by decide +kernel
theorem d_Mo_remove_108 : decode b_Mo_remove 108 = .ok (.iinc 3 1, 3) := by decide +kernel
theorem d_Mo_remove_111 : decode b_Mo_remove 111 = .ok (.goto (-22), 3) := by decide +kernel
theorem d_Mo_remove_114 : decode b_Mo_remove 114 = .ok (.aload_n 0, 1) := by decide +kernel
theorem d_Mo_remove_115 : decode b_Mo_remove 115 = .ok (.getfield 31, 3) := by decide +kernel
theorem d_Mo_remove_118 : decode b_Mo_remove 118 = .ok (.iload_n 2, 1) := by decide +kernel
theorem d_Mo_remove_119 : decode b_Mo_remove 119 = .ok (.iaload, 1) := by decide +kernel
theorem d_Mo_remove_120 : decode b_Mo_remove 120 = .ok (.aload_n 0, 1) := by decide +kernel
theorem d_Mo_remove_121 : decode b_Mo_remove 121 = .ok (.getfield 34, 3) := by decide +kernel
theorem d_Mo_remove_124 : decode b_Mo_remove 124 = .ok (.iload_n 2, 1) := by decide +kernel
theorem d_Mo_remove_125 : decode b_Mo_remove 125 = .ok (.iaload, 1) := by decide +kernel
theorem d_Mo_remove_126 : decode b_Mo_remove 126 = .ok (.isub, 1) := by decide +kernel
theorem d_Mo_remove_127 : decode b_Mo_remove 127 = .ok (.istore_n 3, 1) := by decide +kernel
theorem d_Mo_remove_128 : decode b_Mo_remove 128 = .ok (.iload_n 3, 1) := by decide +kernel
theorem d_Mo_remove_129 : decode b_Mo_remove 129 = .ok (.aload_n 0, 1) := by decide +kernel
theorem d_Mo_remove_130 : decode b_Mo_remove 130 = .ok (.getfield 31, 3) := by decide +kernel
theorem d_Mo_remove_133 : decode b_Mo_remove 133 = .ok (.iload_n 2, 1) := by decide +kernel
theorem d_Mo_remove_134 : decode b_Mo_remove 134 = .ok (.iaload, 1) := by decide +kernel
theorem d_Mo_remove_135 : decode b_Mo_remove 135 = .ok (.if_icmp .gt 21, 3) := by decide +kernel
theorem d_Mo_remove_138 : decode b_Mo_remove 138 = .ok (.aload_n 0, 1) := by decide +kernel
theorem d_Mo_remove_139 : decode b_Mo_remove 139 = .ok (.getfield 8, 3) := by decide +kernel
theorem d_Mo_remove_142 : decode b_Mo_remove 142 = .ok (.aload_n 0, 1) := by decide +kernel
theorem d_Mo_remove_143 : decode b_Mo_remove 143 = .ok (.iload_n 3, 1) := by decide +kernel
theorem d_Mo_remove_144 : decode b_Mo_remove 144 = .ok (.invokevirtual 210, 3) := by decide +kernel
theorem d_Mo_remove_147 : decode b_Mo_remove 147 = .ok (.bipush (-27), 2) := by decide +kernel
theorem d_Mo_remove_149 : decode b_Mo_remove 149 = .ok (.bastore, 1) := by decide +kernel
theorem d_Mo_remove_150 : decode b_Mo_remove 150 = .ok (.iinc 3 1, 3) := by decide +kernel
theorem d_Mo_remove_153 : decode b_Mo_remove 153 = .ok (.goto (-25), 3) := by decide +kernel
theorem d_Mo_remove_156 : decode b_Mo_remove 156 = .ok (.aload_n 0, 1) := by decide +kernel
theorem d_Mo_remove_157 : decode b_Mo_remove 157 = .ok (.invokevirtual 308, 3) := by decide +kernel
theorem d_Mo_remove_160 : decode b_Mo_remove 160 = .ok (.return_, 1) := by decide +kernel
abbrev b_Mo_stamp : ByteArray := prog_14_method_85_code
def y_Mo_stamp : MethodName := ⟨R_Mo, "stamp", "(IIII)V"⟩
theorem d_Mo_stamp_0 : decode b_Mo_stamp 0 = .ok (.aload_n 0, 1) := by decide +kernel
theorem d_Mo_stamp_1 : decode b_Mo_stamp 1 = .ok (.invokevirtual 404, 3) := by decide +kernel
theorem d_Mo_stamp_4 : decode b_Mo_stamp 4 = .ok (.ifCond .ne 28, 3) := by decide +kernel
theorem d_Mo_stamp_7 : decode b_Mo_stamp 7 = .ok (.aload_n 0, 1) := by decide +kernel
theorem d_Mo_stamp_8 : decode b_Mo_stamp 8 = .ok (.iload_n 1, 1) := by decide +kernel
theorem d_Mo_stamp_9 : decode b_Mo_stamp 9 = .ok (.ifCond .lt 11, 3) := by decide +kernel
theorem d_Mo_stamp_12 : decode b_Mo_stamp 12 = .ok (.iload_n 1, 1) := by decide +kernel
theorem d_Mo_stamp_13 : decode b_Mo_stamp 13 = .ok (.aload_n 0, 1) := by decide +kernel
theorem d_Mo_stamp_14 : decode b_Mo_stamp 14 = .ok (.invokevirtual 352, 3) := by decide +kernel
theorem d_Mo_stamp_17 : decode b_Mo_stamp 17 = .ok (.if_icmp .lt 7, 3) := by decide +kernel
theorem d_Mo_stamp_20 : decode b_Mo_stamp 20 = .ok (.iconst 1, 1) := by decide +kernel
theorem d_Mo_stamp_21 : decode b_Mo_stamp 21 = .ok (.goto 4, 3) := by decide +kernel
theorem d_Mo_stamp_24 : decode b_Mo_stamp 24 = .ok (.iconst 0, 1) := by decide +kernel
theorem d_Mo_stamp_25 : decode b_Mo_stamp 25 = .ok (.iconst 2, 1) := by decide +kernel
theorem d_Mo_stamp_26 : decode b_Mo_stamp 26 = .ok (.invokevirtual 317, 3) := by decide +kernel
theorem d_Mo_stamp_29 : decode b_Mo_stamp 29 = .ok (.ifCond .eq 4, 3) := by decide +kernel
theorem d_Mo_stamp_32 : decode b_Mo_stamp 32 = .ok (.return_, 1) := by decide +kernel
theorem d_Mo_stamp_33 : decode b_Mo_stamp 33 = .ok (.aload_n 0, 1) := by decide +kernel
theorem d_Mo_stamp_34 : decode b_Mo_stamp 34 = .ok (.getfield 27, 3) := by decide +kernel
theorem d_Mo_stamp_37 : decode b_Mo_stamp 37 = .ok (.aload_n 0, 1) := by decide +kernel
theorem d_Mo_stamp_38 : decode b_Mo_stamp 38 = .ok (.iload_n 1, 1) := by decide +kernel
theorem d_Mo_stamp_39 : decode b_Mo_stamp 39 = .ok (.invokevirtual 367, 3) := by decide +kernel
theorem d_Mo_stamp_42 : decode b_Mo_stamp 42 = .ok (.iaload, 1) := by decide +kernel
theorem d_Mo_stamp_43 : decode b_Mo_stamp 43 = .ok (.istore 5, 2) := by decide +kernel
theorem d_Mo_stamp_45 : decode b_Mo_stamp 45 = .ok (.iload_n 2, 1) := by decide +kernel
theorem d_Mo_stamp_46 : decode b_Mo_stamp 46 = .ok (.ifCond .ne 21, 3) := by decide +kernel
theorem d_Mo_stamp_49 : decode b_Mo_stamp 49 = .ok (.iload_n 3, 1) := by decide +kernel
theorem d_Mo_stamp_50 : decode b_Mo_stamp 50 = .ok (.iload 4, 2) := by decide +kernel
theorem d_Mo_stamp_52 : decode b_Mo_stamp 52 = .ok (.aload_n 0, 1) := by decide +kernel
theorem d_Mo_stamp_53 : decode b_Mo_stamp 53 = .ok (.iload 5, 2) := by decide +kernel
theorem d_Mo_stamp_55 : decode b_Mo_stamp 55 = .ok (.bipush 13, 2) := by decide +kernel
theorem d_Mo_stamp_57 : decode b_Mo_stamp 57 = .ok (.iadd, 1) := by decide +kernel
theorem d_Mo_stamp_58 : decode b_Mo_stamp 58 = .ok (.invokevirtual 103, 3) := by decide +kernel
theorem d_Mo_stamp_61 : decode b_Mo_stamp 61 = .ok (.invokestatic 253, 3) := by decide +kernel
theorem d_Mo_stamp_64 : decode b_Mo_stamp 64 = .ok (.goto 112, 3) := by decide +kernel
theorem d_Mo_stamp_67 : decode b_Mo_stamp 67 = .ok (.iload_n 2, 1) := by decide +kernel
theorem d_Mo_stamp_68 : decode b_Mo_stamp 68 = .ok (.iconst 1, 1) := by decide +kernel
theorem d_Mo_stamp_69 : decode b_Mo_stamp 69 = .ok (.if_icmp .ne 27, 3) := by decide +kernel
theorem d_Mo_stamp_72 : decode b_Mo_stamp 72 = .ok (.iload 4, 2) := by decide +kernel
theorem d_Mo_stamp_74 : decode b_Mo_stamp 74 = .ok (.ifCond .ne 18, 3) := by decide +kernel
theorem d_Mo_stamp_77 : decode b_Mo_stamp 77 = .ok (.iload_n 3, 1) := by decide +kernel
theorem d_Mo_stamp_78 : decode b_Mo_stamp 78 = .ok (.ifCond .eq 10, 3) := by decide +kernel
theorem d_Mo_stamp_81 : decode b_Mo_stamp 81 = .ok (.iload_n 3, 1) := by decide +kernel
theorem d_Mo_stamp_82 : decode b_Mo_stamp 82 = .ok (.invokestatic 247, 3) := by decide +kernel
theorem d_Mo_stamp_85 : decode b_Mo_stamp 85 = .ok (.ifCond .eq 7, 3) := by decide +kernel
theorem d_Mo_stamp_88 : decode b_Mo_stamp 88 = .ok (.iconst 1, 1) := by decide +kernel
theorem d_Mo_stamp_89 : decode b_Mo_stamp 89 = .ok (.goto 87, 3) := by decide +kernel
theorem d_Mo_stamp_92 : decode b_Mo_stamp 92 = .ok (.iconst 0, 1) := by decide +kernel
theorem d_Mo_stamp_93 : decode b_Mo_stamp 93 = .ok (.goto 83, 3) := by decide +kernel
theorem d_Mo_stamp_96 : decode b_Mo_stamp 96 = .ok (.iload_n 2, 1) := by decide +kernel
theorem d_Mo_stamp_97 : decode b_Mo_stamp 97 = .ok (.iconst 2, 1) := by decide +kernel
theorem d_Mo_stamp_98 : decode b_Mo_stamp 98 = .ok (.if_icmp .ne 26, 3) := by decide +kernel
theorem d_Mo_stamp_101 : decode b_Mo_stamp 101 = .ok (.iload_n 3, 1) := by decide +kernel
theorem d_Mo_stamp_102 : decode b_Mo_stamp 102 = .ok (.invokestatic 247, 3) := by decide +kernel
theorem d_Mo_stamp_105 : decode b_Mo_stamp 105 = .ok (.ifCond .eq 15, 3) := by decide +kernel
theorem d_Mo_stamp_108 : decode b_Mo_stamp 108 = .ok (.iload 4, 2) := by decide +kernel
theorem d_Mo_stamp_110 : decode b_Mo_stamp 110 = .ok (.invokestatic 250, 3) := by decide +kernel
theorem d_Mo_stamp_113 : decode b_Mo_stamp 113 = .ok (.ifCond .eq 7, 3) := by decide +kernel
theorem d_Mo_stamp_116 : decode b_Mo_stamp 116 = .ok (.iconst 1, 1) := by decide +kernel
theorem d_Mo_stamp_117 : decode b_Mo_stamp 117 = .ok (.goto 59, 3) := by decide +kernel
theorem d_Mo_stamp_120 : decode b_Mo_stamp 120 = .ok (.iconst 0, 1) := by decide +kernel
theorem d_Mo_stamp_121 : decode b_Mo_stamp 121 = .ok (.goto 55, 3) := by decide +kernel
theorem d_Mo_stamp_124 : decode b_Mo_stamp 124 = .ok (.iload_n 2, 1) := by decide +kernel
theorem d_Mo_stamp_125 : decode b_Mo_stamp 125 = .ok (.iconst 3, 1) := by decide +kernel
theorem d_Mo_stamp_126 : decode b_Mo_stamp 126 = .ok (.if_icmp .ne 29, 3) := by decide +kernel
theorem d_Mo_stamp_129 : decode b_Mo_stamp 129 = .ok (.aload_n 0, 1) := by decide +kernel
theorem d_Mo_stamp_130 : decode b_Mo_stamp 130 = .ok (.iload 5, 2) := by decide +kernel
theorem d_Mo_stamp_132 : decode b_Mo_stamp 132 = .ok (.bipush 16, 2) := by decide +kernel
theorem d_Mo_stamp_134 : decode b_Mo_stamp 134 = .ok (.iadd, 1) := by decide +kernel
theorem d_Mo_stamp_135 : decode b_Mo_stamp 135 = .ok (.invokevirtual 107, 3) := by decide +kernel
theorem d_Mo_stamp_138 : decode b_Mo_stamp 138 = .ok (.aload_n 0, 1) := by decide +kernel
theorem d_Mo_stamp_139 : decode b_Mo_stamp 139 = .ok (.iload 5, 2) := by decide +kernel
theorem d_Mo_stamp_141 : decode b_Mo_stamp 141 = .ok (.bipush 14, 2) := by decide +kernel
theorem d_Mo_stamp_143 : decode b_Mo_stamp 143 = .ok (.iadd, 1) := by decide +kernel
theorem d_Mo_stamp_144 : decode b_Mo_stamp 144 = .ok (.invokevirtual 107, 3) := by decide +kernel
theorem d_Mo_stamp_147 : decode b_Mo_stamp 147 = .ok (.iload 4, 2) := by decide +kernel
theorem d_Mo_stamp_149 : decode b_Mo_stamp 149 = .ok (.invokestatic 253, 3) := by decide +kernel
theorem d_Mo_stamp_152 : decode b_Mo_stamp 152 = .ok (.goto 24, 3) := by decide +kernel
theorem d_Mo_stamp_155 : decode b_Mo_stamp 155 = .ok (.iload_n 2, 1) := by decide +kernel
theorem d_Mo_stamp_156 : decode b_Mo_stamp 156 = .ok (.iconst 4, 1) := by decide +kernel
theorem d_Mo_stamp_157 : decode b_Mo_stamp 157 = .ok (.if_icmp .ne 18, 3) := by decide +kernel
theorem d_Mo_stamp_160 : decode b_Mo_stamp 160 = .ok (.iload 4, 2) := by decide +kernel
theorem d_Mo_stamp_162 : decode b_Mo_stamp 162 = .ok (.ifCond .eq 9, 3) := by decide +kernel
theorem d_Mo_stamp_165 : decode b_Mo_stamp 165 = .ok (.iload 4, 2) := by decide +kernel
theorem d_Mo_stamp_167 : decode b_Mo_stamp 167 = .ok (.iconst 1, 1) := by decide +kernel
theorem d_Mo_stamp_168 : decode b_Mo_stamp 168 = .ok (.if_icmp .ne 7, 3) := by decide +kernel
theorem d_Mo_stamp_171 : decode b_Mo_stamp 171 = .ok (.iconst 1, 1) := by decide +kernel
theorem d_Mo_stamp_172 : decode b_Mo_stamp 172 = .ok (.goto 4, 3) := by decide +kernel
theorem d_Mo_stamp_175 : decode b_Mo_stamp 175 = .ok (.iconst 0, 1) := by decide +kernel
theorem d_Mo_stamp_176 : decode b_Mo_stamp 176 = .ok (.istore 6, 2) := by decide +kernel
theorem d_Mo_stamp_178 : decode b_Mo_stamp 178 = .ok (.aload_n 0, 1) := by decide +kernel
theorem d_Mo_stamp_179 : decode b_Mo_stamp 179 = .ok (.iload 6, 2) := by decide +kernel
theorem d_Mo_stamp_181 : decode b_Mo_stamp 181 = .ok (.ifCond .ne 7, 3) := by decide +kernel
theorem d_Mo_stamp_184 : decode b_Mo_stamp 184 = .ok (.iconst 1, 1) := by decide +kernel
theorem d_Mo_stamp_185 : decode b_Mo_stamp 185 = .ok (.goto 4, 3) := by decide +kernel
theorem d_Mo_stamp_188 : decode b_Mo_stamp 188 = .ok (.iconst 0, 1) := by decide +kernel
theorem d_Mo_stamp_189 : decode b_Mo_stamp 189 = .ok (.iconst 3, 1) := by decide +kernel
theorem d_Mo_stamp_190 : decode b_Mo_stamp 190 = .ok (.invokevirtual 317, 3) := by decide +kernel
theorem d_Mo_stamp_193 : decode b_Mo_stamp 193 = .ok (.ifCond .eq 4, 3) := by decide +kernel
theorem d_Mo_stamp_196 : decode b_Mo_stamp 196 = .ok (.return_, 1) := by decide +kernel
theorem d_Mo_stamp_197 : decode b_Mo_stamp 197 = .ok (.iload_n 2, 1) := by decide +kernel
theorem d_Mo_stamp_198 : decode b_Mo_stamp 198 = .ok (.iconst 3, 1) := by decide +kernel
theorem d_Mo_stamp_199 : decode b_Mo_stamp 199 = .ok (.if_icmp .ge 34, 3) := by decide +kernel
theorem d_Mo_stamp_202 : decode b_Mo_stamp 202 = .ok (.aload_n 0, 1) := by decide +kernel
theorem d_Mo_stamp_203 : decode b_Mo_stamp 203 = .ok (.iload 5, 2) := by decide +kernel
theorem d_Mo_stamp_205 : decode b_Mo_stamp 205 = .ok (.iload_n 2, 1) := by decide +kernel
theorem d_Mo_stamp_206 : decode b_Mo_stamp 206 = .ok (.ifCond .ne 8, 3) := by decide +kernel
theorem d_Mo_stamp_209 : decode b_Mo_stamp 209 = .ok (.bipush 16, 2) := by decide +kernel
theorem d_Mo_stamp_211 : decode b_Mo_stamp 211 = .ok (.goto 15, 3) := by decide +kernel
theorem d_Mo_stamp_214 : decode b_Mo_stamp 214 = .ok (.iload_n 2, 1) := by decide +kernel
theorem d_Mo_stamp_215 : decode b_Mo_stamp 215 = .ok (.iconst 1, 1) := by decide +kernel
theorem d_Mo_stamp_216 : decode b_Mo_stamp 216 = .ok (.if_icmp .ne 8, 3) := by decide +kernel
theorem d_Mo_stamp_219 : decode b_Mo_stamp 219 = .ok (.bipush 18, 2) := by decide +kernel
theorem d_Mo_stamp_221 : decode b_Mo_stamp 221 = .ok (.goto 5, 3) := by decide +kernel
theorem d_Mo_stamp_224 : decode b_Mo_stamp 224 = .ok (.bipush 24, 2) := by decide +kernel
theorem d_Mo_stamp_226 : decode b_Mo_stamp 226 = .ok (.iadd, 1) := by decide +kernel
theorem d_Mo_stamp_227 : decode b_Mo_stamp 227 = .ok (.iconst 2, 1) := by decide +kernel
theorem d_Mo_stamp_228 : decode b_Mo_stamp 228 = .ok (.iload_n 3, 1) := by decide +kernel
theorem d_Mo_stamp_229 : decode b_Mo_stamp 229 = .ok (.i2l, 1) := by decide +kernel
theorem d_Mo_stamp_230 : decode b_Mo_stamp 230 = .ok (.invokevirtual 128, 3) := by decide +kernel
theorem d_Mo_stamp_233 : decode b_Mo_stamp 233 = .ok (.iload_n 2, 1) := by decide +kernel
theorem d_Mo_stamp_234 : decode b_Mo_stamp 234 = .ok (.ifCond .eq 8, 3) := by decide +kernel
theorem d_Mo_stamp_237 : decode b_Mo_stamp 237 = .ok (.iload_n 2, 1) := by decide +kernel
theorem d_Mo_stamp_238 : decode b_Mo_stamp 238 = .ok (.iconst 2, 1) := by decide +kernel
theorem d_Mo_stamp_239 : decode b_Mo_stamp 239 = .ok (.if_icmp .ne 25, 3) := by decide +kernel
theorem d_Mo_stamp_242 : decode b_Mo_stamp 242 = .ok (.aload_n 0, 1) := by decide +kernel
theorem d_Mo_stamp_243 : decode b_Mo_stamp 243 = .ok (.iload 5, 2) := by decide +kernel
theorem d_Mo_stamp_245 : decode b_Mo_stamp 245 = .ok (.iload_n 2, 1) := by decide +kernel
theorem d_Mo_stamp_246 : decode b_Mo_stamp 246 = .ok (.ifCond .ne 8, 3) := by decide +kernel
theorem d_Mo_stamp_249 : decode b_Mo_stamp 249 = .ok (.bipush 14, 2) := by decide +kernel
theorem d_Mo_stamp_251 : decode b_Mo_stamp 251 = .ok (.goto 5, 3) := by decide +kernel
theorem d_Mo_stamp_254 : decode b_Mo_stamp 254 = .ok (.bipush 22, 2) := by decide +kernel
theorem d_Mo_stamp_256 : decode b_Mo_stamp 256 = .ok (.iadd, 1) := by decide +kernel
theorem d_Mo_stamp_257 : decode b_Mo_stamp 257 = .ok (.iconst 2, 1) := by decide +kernel
theorem d_Mo_stamp_258 : decode b_Mo_stamp 258 = .ok (.iload 4, 2) := by decide +kernel
theorem d_Mo_stamp_260 : decode b_Mo_stamp 260 = .ok (.i2l, 1) := by decide +kernel
theorem d_Mo_stamp_261 : decode b_Mo_stamp 261 = .ok (.invokevirtual 128, 3) := by decide +kernel
theorem d_Mo_stamp_264 : decode b_Mo_stamp 264 = .ok (.iload_n 2, 1) := by decide +kernel
theorem d_Mo_stamp_265 : decode b_Mo_stamp 265 = .ok (.iconst 3, 1) := by decide +kernel
theorem d_Mo_stamp_266 : decode b_Mo_stamp 266 = .ok (.if_icmp .ne 16, 3) := by decide +kernel
theorem d_Mo_stamp_269 : decode b_Mo_stamp 269 = .ok (.aload_n 0, 1) := by decide +kernel
theorem d_Mo_stamp_270 : decode b_Mo_stamp 270 = .ok (.iload 5, 2) := by decide +kernel
theorem d_Mo_stamp_272 : decode b_Mo_stamp 272 = .ok (.bipush 13, 2) := by decide +kernel
theorem d_Mo_stamp_274 : decode b_Mo_stamp 274 = .ok (.iadd, 1) := by decide +kernel
theorem d_Mo_stamp_275 : decode b_Mo_stamp 275 = .ok (.iconst 1, 1) := by decide +kernel
theorem d_Mo_stamp_276 : decode b_Mo_stamp 276 = .ok (.iload 4, 2) := by decide +kernel
theorem d_Mo_stamp_278 : decode b_Mo_stamp 278 = .ok (.i2l, 1) := by decide +kernel
theorem d_Mo_stamp_279 : decode b_Mo_stamp 279 = .ok (.invokevirtual 128, 3) := by decide +kernel
theorem d_Mo_stamp_282 : decode b_Mo_stamp 282 = .ok (.iload_n 2, 1) := by decide +kernel
theorem d_Mo_stamp_283 : decode b_Mo_stamp 283 = .ok (.iconst 4, 1) := by decide +kernel
theorem d_Mo_stamp_284 : decode b_Mo_stamp 284 = .ok (.if_icmp .ne 30, 3) := by decide +kernel
theorem d_Mo_stamp_287 : decode b_Mo_stamp 287 = .ok (.aload_n 0, 1) := by decide +kernel
theorem d_Mo_stamp_288 : decode b_Mo_stamp 288 = .ok (.iload 5, 2) := by decide +kernel
theorem d_Mo_stamp_290 : decode b_Mo_stamp 290 = .ok (.bipush 11, 2) := by decide +kernel
theorem d_Mo_stamp_292 : decode b_Mo_stamp 292 = .ok (.iadd, 1) := by decide +kernel
theorem d_Mo_stamp_293 : decode b_Mo_stamp 293 = .ok (.iconst 1, 1) := by decide +kernel
theorem d_Mo_stamp_294 : decode b_Mo_stamp 294 = .ok (.aload_n 0, 1) := by decide +kernel
theorem d_Mo_stamp_295 : decode b_Mo_stamp 295 = .ok (.iload 5, 2) := by decide +kernel
theorem d_Mo_stamp_297 : decode b_Mo_stamp 297 = .ok (.bipush 11, 2) := by decide +kernel
theorem d_Mo_stamp_299 : decode b_Mo_stamp 299 = .ok (.iadd, 1) := by decide +kernel
theorem d_Mo_stamp_300 : decode b_Mo_stamp 300 = .ok (.invokevirtual 103, 3) := by decide +kernel
theorem d_Mo_stamp_303 : decode b_Mo_stamp 303 = .ok (.sipush 254, 3) := by decide +kernel
theorem d_Mo_stamp_306 : decode b_Mo_stamp 306 = .ok (.iand, 1) := by decide +kernel
theorem d_Mo_stamp_307 : decode b_Mo_stamp 307 = .ok (.iload 4, 2) := by decide +kernel
theorem d_Mo_stamp_309 : decode b_Mo_stamp 309 = .ok (.ior, 1) := by decide +kernel
theorem d_Mo_stamp_310 : decode b_Mo_stamp 310 = .ok (.i2l, 1) := by decide +kernel
theorem d_Mo_stamp_311 : decode b_Mo_stamp 311 = .ok (.invokevirtual 128, 3) := by decide +kernel
theorem d_Mo_stamp_314 : decode b_Mo_stamp 314 = .ok (.aload_n 0, 1) := by decide +kernel
theorem d_Mo_stamp_315 : decode b_Mo_stamp 315 = .ok (.invokevirtual 308, 3) := by decide +kernel
theorem d_Mo_stamp_318 : decode b_Mo_stamp 318 = .ok (.return_, 1) := by decide +kernel
abbrev b_Mo_plan : ByteArray := prog_14_method_100_code
def y_Mo_plan : MethodName := ⟨R_Mo, "plan", "(II)I"⟩
theorem d_Mo_plan_0 : decode b_Mo_plan 0 = .ok (.aload_n 0, 1) := by decide +kernel
theorem d_Mo_plan_1 : decode b_Mo_plan 1 = .ok (.iconst 0, 1) := by decide +kernel
theorem d_Mo_plan_2 : decode b_Mo_plan 2 = .ok (.putfield 100, 3) := by decide +kernel
theorem d_Mo_plan_5 : decode b_Mo_plan 5 = .ok (.aload_n 0, 1) := by decide +kernel
theorem d_Mo_plan_6 : decode b_Mo_plan 6 = .ok (.invokevirtual 299, 3) := by decide +kernel
theorem d_Mo_plan_9 : decode b_Mo_plan 9 = .ok (.aload_n 0, 1) := by decide +kernel
theorem d_Mo_plan_10 : decode b_Mo_plan 10 = .ok (.getfield 302, 3) := by decide +kernel
theorem d_Mo_plan_13 : decode b_Mo_plan 13 = .ok (.ifCond .ne 21, 3) := by decide +kernel
theorem d_Mo_plan_16 : decode b_Mo_plan 16 = .ok (.aload_n 0, 1) := by decide +kernel
theorem d_Mo_plan_17 : decode b_Mo_plan 17 = .ok (.getfield 182, 3) := by decide +kernel
theorem d_Mo_plan_20 : decode b_Mo_plan 20 = .ok (.iconst 1, 1) := by decide +kernel
theorem d_Mo_plan_21 : decode b_Mo_plan 21 = .ok (.if_icmp .eq 13, 3) := by decide +kernel
theorem d_Mo_plan_24 : decode b_Mo_plan 24 = .ok (.iload_n 2, 1) := by decide +kernel
theorem d_Mo_plan_25 : decode b_Mo_plan 25 = .ok (.ifCond .lt 9, 3) := by decide +kernel
theorem d_Mo_plan_28 : decode b_Mo_plan 28 = .ok (.iload_n 2, 1) := by decide +kernel
theorem d_Mo_plan_29 : decode b_Mo_plan 29 = .ok (.bipush 6, 2) := by decide +kernel
theorem d_Mo_plan_31 : decode b_Mo_plan 31 = .ok (.if_icmp .le 5, 3) := by decide +kernel
theorem d_Mo_plan_34 : decode b_Mo_plan 34 = .ok (.iconst (-1), 1) := by decide +kernel
theorem d_Mo_plan_35 : decode b_Mo_plan 35 = .ok (.ireturn, 1) := by decide +kernel
theorem d_Mo_plan_36 : decode b_Mo_plan 36 = .ok (.aload_n 0, 1) := by decide +kernel
theorem d_Mo_plan_37 : decode b_Mo_plan 37 = .ok (.iload_n 1, 1) := by decide +kernel
theorem d_Mo_plan_38 : decode b_Mo_plan 38 = .ok (.invokevirtual 510, 3) := by decide +kernel
theorem d_Mo_plan_41 : decode b_Mo_plan 41 = .ok (.istore_n 3, 1) := by decide +kernel
theorem d_Mo_plan_42 : decode b_Mo_plan 42 = .ok (.iload_n 2, 1) := by decide +kernel
theorem d_Mo_plan_43 : decode b_Mo_plan 43 = .ok (.ifCond .eq 7, 3) := by decide +kernel
theorem d_Mo_plan_46 : decode b_Mo_plan 46 = .ok (.iload_n 3, 1) := by decide +kernel
theorem d_Mo_plan_47 : decode b_Mo_plan 47 = .ok (.ifCond .le 13, 3) := by decide +kernel
theorem d_Mo_plan_50 : decode b_Mo_plan 50 = .ok (.iload_n 2, 1) := by decide +kernel
theorem d_Mo_plan_51 : decode b_Mo_plan 51 = .ok (.ifCond .ne 7, 3) := by decide +kernel
theorem d_Mo_plan_54 : decode b_Mo_plan 54 = .ok (.iload_n 3, 1) := by decide +kernel
theorem d_Mo_plan_55 : decode b_Mo_plan 55 = .ok (.goto 4, 3) := by decide +kernel
theorem d_Mo_plan_58 : decode b_Mo_plan 58 = .ok (.iconst (-1), 1) := by decide +kernel
theorem d_Mo_plan_59 : decode b_Mo_plan 59 = .ok (.ireturn, 1) := by decide +kernel
theorem d_Mo_plan_60 : decode b_Mo_plan 60 = .ok (.iload_n 2, 1) := by decide +kernel
theorem d_Mo_plan_61 : decode b_Mo_plan 61 = .ok (.iconst 1, 1) := by decide +kernel
theorem d_Mo_plan_62 : decode b_Mo_plan 62 = .ok (.if_icmp .ne 10, 3) := by decide +kernel
theorem d_Mo_plan_65 : decode b_Mo_plan 65 = .ok (.aload_n 0, 1) := by decide +kernel
theorem d_Mo_plan_66 : decode b_Mo_plan 66 = .ok (.getfield 453, 3) := by decide +kernel
theorem d_Mo_plan_69 : decode b_Mo_plan 69 = .ok (.goto 72, 3) := by decide +kernel
theorem d_Mo_plan_72 : decode b_Mo_plan 72 = .ok (.iload_n 2, 1) := by decide +kernel
theorem d_Mo_plan_73 : decode b_Mo_plan 73 = .ok (.iconst 2, 1) := by decide +kernel
theorem d_Mo_plan_74 : decode b_Mo_plan 74 = .ok (.if_icmp .ne 10, 3) := by decide +kernel
theorem d_Mo_plan_77 : decode b_Mo_plan 77 = .ok (.aload_n 0, 1) := by decide +kernel
theorem d_Mo_plan_78 : decode b_Mo_plan 78 = .ok (.getfield 495, 3) := by decide +kernel
theorem d_Mo_plan_81 : decode b_Mo_plan 81 = .ok (.goto 60, 3) := by decide +kernel
theorem d_Mo_plan_84 : decode b_Mo_plan 84 = .ok (.iload_n 2, 1) := by decide +kernel
theorem d_Mo_plan_85 : decode b_Mo_plan 85 = .ok (.iconst 3, 1) := by decide +kernel
theorem d_Mo_plan_86 : decode b_Mo_plan 86 = .ok (.if_icmp .ne 10, 3) := by decide +kernel
theorem d_Mo_plan_89 : decode b_Mo_plan 89 = .ok (.aload_n 0, 1) := by decide +kernel
theorem d_Mo_plan_90 : decode b_Mo_plan 90 = .ok (.getfield 471, 3) := by decide +kernel
theorem d_Mo_plan_93 : decode b_Mo_plan 93 = .ok (.goto 48, 3) := by decide +kernel
theorem d_Mo_plan_96 : decode b_Mo_plan 96 = .ok (.iload_n 2, 1) := by decide +kernel
theorem d_Mo_plan_97 : decode b_Mo_plan 97 = .ok (.iconst 4, 1) := by decide +kernel
theorem d_Mo_plan_98 : decode b_Mo_plan 98 = .ok (.if_icmp .ne 10, 3) := by decide +kernel
theorem d_Mo_plan_101 : decode b_Mo_plan 101 = .ok (.aload_n 0, 1) := by decide +kernel
theorem d_Mo_plan_102 : decode b_Mo_plan 102 = .ok (.getfield 477, 3) := by decide +kernel
theorem d_Mo_plan_105 : decode b_Mo_plan 105 = .ok (.goto 36, 3) := by decide +kernel
theorem d_Mo_plan_108 : decode b_Mo_plan 108 = .ok (.iload_n 2, 1) := by decide +kernel
theorem d_Mo_plan_109 : decode b_Mo_plan 109 = .ok (.iconst 5, 1) := by decide +kernel
theorem d_Mo_plan_110 : decode b_Mo_plan 110 = .ok (.if_icmp .ne 10, 3) := by decide +kernel
theorem d_Mo_plan_113 : decode b_Mo_plan 113 = .ok (.aload_n 0, 1) := by decide +kernel
theorem d_Mo_plan_114 : decode b_Mo_plan 114 = .ok (.getfield 486, 3) := by decide +kernel
theorem d_Mo_plan_117 : decode b_Mo_plan 117 = .ok (.goto 24, 3) := by decide +kernel
theorem d_Mo_plan_120 : decode b_Mo_plan 120 = .ok (.aload_n 0, 1) := by decide +kernel
theorem d_Mo_plan_121 : decode b_Mo_plan 121 = .ok (.getfield 459, 3) := by decide +kernel
theorem d_Mo_plan_124 : decode b_Mo_plan 124 = .ok (.iconst 1, 1) := by decide +kernel
theorem d_Mo_plan_125 : decode b_Mo_plan 125 = .ok (.isub, 1) := by decide +kernel
theorem d_Mo_plan_126 : decode b_Mo_plan 126 = .ok (.aload_n 0, 1) := by decide +kernel
theorem d_Mo_plan_127 : decode b_Mo_plan 127 = .ok (.getfield 471, 3) := by decide +kernel
theorem d_Mo_plan_130 : decode b_Mo_plan 130 = .ok (.isub, 1) := by decide +kernel
theorem d_Mo_plan_131 : decode b_Mo_plan 131 = .ok (.aload_n 0, 1) := by decide +kernel
theorem d_Mo_plan_132 : decode b_Mo_plan 132 = .ok (.getfield 486, 3) := by decide +kernel
theorem d_Mo_plan_135 : decode b_Mo_plan 135 = .ok (.isub, 1) := by decide +kernel
theorem d_Mo_plan_136 : decode b_Mo_plan 136 = .ok (.aload_n 0, 1) := by decide +kernel
theorem d_Mo_plan_137 : decode b_Mo_plan 137 = .ok (.getfield 489, 3) := by decide +kernel
theorem d_Mo_plan_140 : decode b_Mo_plan 140 = .ok (.isub, 1) := by decide +kernel
theorem d_Mo_plan_141 : decode b_Mo_plan 141 = .ok (.ireturn, 1) := by decide +kernel
abbrev b_Mo_target : ByteArray := prog_14_method_101_code
def y_Mo_target : MethodName := ⟨R_Mo, "target", "(II)I"⟩
theorem d_Mo_target_0 : decode b_Mo_target 0 = .ok (.aload_n 0, 1) := by decide +kernel
theorem d_Mo_target_1 : decode b_Mo_target 1 = .ok (.iconst 0, 1) := by decide +kernel
theorem d_Mo_target_2 : decode b_Mo_target 2 = .ok (.putfield 100, 3) := by decide +kernel
theorem d_Mo_target_5 : decode b_Mo_target 5 = .ok (.aload_n 0, 1) := by decide +kernel
theorem d_Mo_target_6 : decode b_Mo_target 6 = .ok (.invokevirtual 299, 3) := by decide +kernel
theorem d_Mo_target_9 : decode b_Mo_target 9 = .ok (.aload_n 0, 1) := by decide +kernel
theorem d_Mo_target_10 : decode b_Mo_target 10 = .ok (.getfield 302, 3) := by decide +kernel
theorem d_Mo_target_13 : decode b_Mo_target 13 = .ok (.ifCond .ne 19, 3) := by decide +kernel
theorem d_Mo_target_16 : decode b_Mo_target 16 = .ok (.aload_n 0, 1) := by decide +kernel
theorem d_Mo_target_17 : decode b_Mo_target 17 = .ok (.getfield 182, 3) := by decide +kernel
theorem d_Mo_target_20 : decode b_Mo_target 20 = .ok (.iconst 1, 1) := by decide +kernel
theorem d_Mo_target_21 : decode b_Mo_target 21 = .ok (.if_icmp .eq 11, 3) := by decide +kernel
theorem d_Mo_target_24 : decode b_Mo_target 24 = .ok (.aload_n 0, 1) := by decide +kernel
theorem d_Mo_target_25 : decode b_Mo_target 25 = .ok (.iload_n 1, 1) := by decide +kernel
theorem d_Mo_target_26 : decode b_Mo_target 26 = .ok (.invokevirtual 510, 3) := by decide +kernel
theorem d_Mo_target_29 : decode b_Mo_target 29 = .ok (.ifCond .le 5, 3) := by decide +kernel
theorem d_Mo_target_32 : decode b_Mo_target 32 = .ok (.iconst (-1), 1) := by decide +kernel
theorem d_Mo_target_33 : decode b_Mo_target 33 = .ok (.ireturn, 1) := by decide +kernel
theorem d_Mo_target_34 : decode b_Mo_target 34 = .ok (.aload_n 0, 1) := by decide +kernel
theorem d_Mo_target_35 : decode b_Mo_target 35 = .ok (.iload_n 2, 1) := by decide +kernel
theorem d_Mo_target_36 : decode b_Mo_target 36 = .ok (.invokevirtual 145, 3) := by decide +kernel
theorem d_Mo_target_39 : decode b_Mo_target 39 = .ok (.ifCond .eq 12, 3) := by decide +kernel
theorem d_Mo_target_42 : decode b_Mo_target 42 = .ok (.aload_n 0, 1) := by decide +kernel
theorem d_Mo_target_43 : decode b_Mo_target 43 = .ok (.getfield 81, 3) := by decide +kernel
theorem d_Mo_target_46 : decode b_Mo_target 46 = .ok (.iload_n 2, 1) := by decide +kernel
theorem d_Mo_target_47 : decode b_Mo_target 47 = .ok (.iaload, 1) := by decide +kernel
theorem d_Mo_target_48 : decode b_Mo_target 48 = .ok (.goto 4, 3) := by decide +kernel
theorem d_Mo_target_51 : decode b_Mo_target 51 = .ok (.iconst (-1), 1) := by decide +kernel
theorem d_Mo_target_52 : decode b_Mo_target 52 = .ok (.ireturn, 1) := by decide +kernel
abbrev b_Mo_fail : ByteArray := prog_14_method_122_code
def y_Mo_fail : MethodName := ⟨R_Mo, "fail", "(II)Z"⟩
theorem d_Mo_fail_0 : decode b_Mo_fail 0 = .ok (.aload_n 0, 1) := by decide +kernel
theorem d_Mo_fail_1 : decode b_Mo_fail 1 = .ok (.iconst 0, 1) := by decide +kernel
theorem d_Mo_fail_2 : decode b_Mo_fail 2 = .ok (.putfield 100, 3) := by decide +kernel
theorem d_Mo_fail_5 : decode b_Mo_fail 5 = .ok (.iload_n 1, 1) := by decide +kernel
theorem d_Mo_fail_6 : decode b_Mo_fail 6 = .ok (.ifCond .lt 21, 3) := by decide +kernel
theorem d_Mo_fail_9 : decode b_Mo_fail 9 = .ok (.iload_n 1, 1) := by decide +kernel
theorem d_Mo_fail_10 : decode b_Mo_fail 10 = .ok (.iconst 1, 1) := by decide +kernel
theorem d_Mo_fail_11 : decode b_Mo_fail 11 = .ok (.if_icmp .gt 16, 3) := by decide +kernel
theorem d_Mo_fail_14 : decode b_Mo_fail 14 = .ok (.iload_n 2, 1) := by decide +kernel
theorem d_Mo_fail_15 : decode b_Mo_fail 15 = .ok (.ifCond .lt 12, 3) := by decide +kernel
theorem d_Mo_fail_18 : decode b_Mo_fail 18 = .ok (.aload_n 0, 1) := by decide +kernel
theorem d_Mo_fail_19 : decode b_Mo_fail 19 = .ok (.getfield 595, 3) := by decide +kernel
theorem d_Mo_fail_22 : decode b_Mo_fail 22 = .ok (.bipush 16, 2) := by decide +kernel
theorem d_Mo_fail_24 : decode b_Mo_fail 24 = .ok (.if_icmp .ne 5, 3) := by decide +kernel
theorem d_Mo_fail_27 : decode b_Mo_fail 27 = .ok (.iconst 0, 1) := by decide +kernel
theorem d_Mo_fail_28 : decode b_Mo_fail 28 = .ok (.ireturn, 1) := by decide +kernel
theorem d_Mo_fail_29 : decode b_Mo_fail 29 = .ok (.aload_n 0, 1) := by decide +kernel
theorem d_Mo_fail_30 : decode b_Mo_fail 30 = .ok (.dup, 1) := by decide +kernel
theorem d_Mo_fail_31 : decode b_Mo_fail 31 = .ok (.getfield 595, 3) := by decide +kernel
theorem d_Mo_fail_34 : decode b_Mo_fail 34 = .ok (.iconst 1, 1) := by decide +kernel
theorem d_Mo_fail_35 : decode b_Mo_fail 35 = .ok (.iadd, 1) := by decide +kernel
theorem d_Mo_fail_36 : decode b_Mo_fail 36 = .ok (.putfield 595, 3) := by decide +kernel
theorem d_Mo_fail_39 : decode b_Mo_fail 39 = .ok (.iconst 1, 1) := by decide +kernel
theorem d_Mo_fail_40 : decode b_Mo_fail 40 = .ok (.ireturn, 1) := by decide +kernel
abbrev b_Mo_run : ByteArray := prog_14_method_123_code
def y_Mo_run : MethodName := ⟨R_Mo, "run", "(II)I"⟩
theorem d_Mo_run_0 : decode b_Mo_run 0 = .ok (.aload_n 0, 1) := by decide +kernel
theorem d_Mo_run_1 : decode b_Mo_run 1 = .ok (.iconst 0, 1) := by decide +kernel
theorem d_Mo_run_2 : decode b_Mo_run 2 = .ok (.putfield 100, 3) := by decide +kernel
theorem d_Mo_run_5 : decode b_Mo_run 5 = .ok (.aload_n 0, 1) := by decide +kernel
theorem d_Mo_run_6 : decode b_Mo_run 6 = .ok (.iconst 0, 1) := by decide +kernel
theorem d_Mo_run_7 : decode b_Mo_run 7 = .ok (.putfield 595, 3) := by decide +kernel
theorem d_Mo_run_10 : decode b_Mo_run 10 = .ok (.aload_n 0, 1) := by decide +kernel
theorem d_Mo_run_11 : decode b_Mo_run 11 = .ok (.invokevirtual 299, 3) := by decide +kernel
theorem d_Mo_run_14 : decode b_Mo_run 14 = .ok (.aload_n 0, 1) := by decide +kernel
theorem d_Mo_run_15 : decode b_Mo_run 15 = .ok (.aload_n 0, 1) := by decide +kernel
theorem d_Mo_run_16 : decode b_Mo_run 16 = .ok (.getfield 302, 3) := by decide +kernel
theorem d_Mo_run_19 : decode b_Mo_run 19 = .ok (.ifCond .ne 15, 3) := by decide +kernel
theorem d_Mo_run_22 : decode b_Mo_run 22 = .ok (.aload_n 0, 1) := by decide +kernel
theorem d_Mo_run_23 : decode b_Mo_run 23 = .ok (.getfield 182, 3) := by decide +kernel
theorem d_Mo_run_26 : decode b_Mo_run 26 = .ok (.iconst 1, 1) := by decide +kernel
theorem d_Mo_run_27 : decode b_Mo_run 27 = .ok (.if_icmp .ne 7, 3) := by decide +kernel
theorem d_Mo_run_30 : decode b_Mo_run 30 = .ok (.iconst 1, 1) := by decide +kernel
theorem d_Mo_run_31 : decode b_Mo_run 31 = .ok (.goto 4, 3) := by decide +kernel
theorem d_Mo_run_34 : decode b_Mo_run 34 = .ok (.iconst 0, 1) := by decide +kernel
theorem d_Mo_run_35 : decode b_Mo_run 35 = .ok (.iconst 1, 1) := by decide +kernel
theorem d_Mo_run_36 : decode b_Mo_run 36 = .ok (.invokevirtual 317, 3) := by decide +kernel
theorem d_Mo_run_39 : decode b_Mo_run 39 = .ok (.ifCond .ne 25, 3) := by decide +kernel
theorem d_Mo_run_42 : decode b_Mo_run 42 = .ok (.aload_n 0, 1) := by decide +kernel
theorem d_Mo_run_43 : decode b_Mo_run 43 = .ok (.iload_n 1, 1) := by decide +kernel
theorem d_Mo_run_44 : decode b_Mo_run 44 = .ok (.ifCond .lt 8, 3) := by decide +kernel
theorem d_Mo_run_47 : decode b_Mo_run 47 = .ok (.iload_n 1, 1) := by decide +kernel
theorem d_Mo_run_48 : decode b_Mo_run 48 = .ok (.iconst 1, 1) := by decide +kernel
theorem d_Mo_run_49 : decode b_Mo_run 49 = .ok (.if_icmp .le 7, 3) := by decide +kernel
theorem d_Mo_run_52 : decode b_Mo_run 52 = .ok (.iconst 1, 1) := by decide +kernel
theorem d_Mo_run_53 : decode b_Mo_run 53 = .ok (.goto 4, 3) := by decide +kernel
theorem d_Mo_run_56 : decode b_Mo_run 56 = .ok (.iconst 0, 1) := by decide +kernel
theorem d_Mo_run_57 : decode b_Mo_run 57 = .ok (.iconst 2, 1) := by decide +kernel
theorem d_Mo_run_58 : decode b_Mo_run 58 = .ok (.invokevirtual 317, 3) := by decide +kernel
theorem d_Mo_run_61 : decode b_Mo_run 61 = .ok (.ifCond .eq 5, 3) := by decide +kernel
theorem d_Mo_run_64 : decode b_Mo_run 64 = .ok (.iconst 0, 1) := by decide +kernel
theorem d_Mo_run_65 : decode b_Mo_run 65 = .ok (.ireturn, 1) := by decide +kernel
theorem d_Mo_run_66 : decode b_Mo_run 66 = .ok (.iconst 0, 1) := by decide +kernel
theorem d_Mo_run_67 : decode b_Mo_run 67 = .ok (.istore_n 3, 1) := by decide +kernel
theorem d_Mo_run_68 : decode b_Mo_run 68 = .ok (.aload_n 0, 1) := by decide +kernel
theorem d_Mo_run_69 : decode b_Mo_run 69 = .ok (.getfield 302, 3) := by decide +kernel
theorem d_Mo_run_72 : decode b_Mo_run 72 = .ok (.ifCond .eq 16, 3) := by decide +kernel
theorem d_Mo_run_75 : decode b_Mo_run 75 = .ok (.iload_n 1, 1) := by decide +kernel
theorem d_Mo_run_76 : decode b_Mo_run 76 = .ok (.iconst 1, 1) := by decide +kernel
theorem d_Mo_run_77 : decode b_Mo_run 77 = .ok (.if_icmp .ne 11, 3) := by decide +kernel
theorem d_Mo_run_80 : decode b_Mo_run 80 = .ok (.aload_n 0, 1) := by decide +kernel
theorem d_Mo_run_81 : decode b_Mo_run 81 = .ok (.iconst 0, 1) := by decide +kernel
theorem d_Mo_run_82 : decode b_Mo_run 82 = .ok (.putfield 302, 3) := by decide +kernel
theorem d_Mo_run_85 : decode b_Mo_run 85 = .ok (.goto 28, 3) := by decide +kernel
theorem d_Mo_run_88 : decode b_Mo_run 88 = .ok (.aload_n 0, 1) := by decide +kernel
theorem d_Mo_run_89 : decode b_Mo_run 89 = .ok (.getfield 302, 3) := by decide +kernel
theorem d_Mo_run_92 : decode b_Mo_run 92 = .ok (.ifCond .ne 21, 3) := by decide +kernel
theorem d_Mo_run_95 : decode b_Mo_run 95 = .ok (.iload_n 1, 1) := by decide +kernel
theorem d_Mo_run_96 : decode b_Mo_run 96 = .ok (.ifCond .ne 17, 3) := by decide +kernel
theorem d_Mo_run_99 : decode b_Mo_run 99 = .ok (.aload_n 0, 1) := by decide +kernel
theorem d_Mo_run_100 : decode b_Mo_run 100 = .ok (.iload_n 2, 1) := by decide +kernel
theorem d_Mo_run_101 : decode b_Mo_run 101 = .ok (.invokevirtual 510, 3) := by decide +kernel
theorem d_Mo_run_104 : decode b_Mo_run 104 = .ok (.istore_n 3, 1) := by decide +kernel
theorem d_Mo_run_105 : decode b_Mo_run 105 = .ok (.iload_n 3, 1) := by decide +kernel
theorem d_Mo_run_106 : decode b_Mo_run 106 = .ok (.ifCond .ne 7, 3) := by decide +kernel
theorem d_Mo_run_109 : decode b_Mo_run 109 = .ok (.aload_n 0, 1) := by decide +kernel
theorem d_Mo_run_110 : decode b_Mo_run 110 = .ok (.invokevirtual 598, 3) := by decide +kernel
theorem d_Mo_run_113 : decode b_Mo_run 113 = .ok (.aload_n 0, 1) := by decide +kernel
theorem d_Mo_run_114 : decode b_Mo_run 114 = .ok (.iconst 1, 1) := by decide +kernel
theorem d_Mo_run_115 : decode b_Mo_run 115 = .ok (.putfield 305, 3) := by decide +kernel
theorem d_Mo_run_118 : decode b_Mo_run 118 = .ok (.aload_n 0, 1) := by decide +kernel
theorem d_Mo_run_119 : decode b_Mo_run 119 = .ok (.iconst 0, 1) := by decide +kernel
theorem d_Mo_run_120 : decode b_Mo_run 120 = .ok (.putfield 311, 3) := by decide +kernel
theorem d_Mo_run_123 : decode b_Mo_run 123 = .ok (.iload_n 3, 1) := by decide +kernel
theorem d_Mo_run_124 : decode b_Mo_run 124 = .ok (.ireturn, 1) := by decide +kernel
abbrev b_Mo_whole : ByteArray := prog_14_method_8_code
def y_Mo_whole : MethodName := ⟨R_Mo, "whole", "(II)I"⟩
abbrev b_Mo_entry : ByteArray := prog_14_method_10_code
def y_Mo_entry : MethodName := ⟨R_Mo, "entry", "(I)I"⟩
abbrev b_Mo_place : ByteArray := prog_14_method_13_code
def y_Mo_place : MethodName := ⟨R_Mo, "place", "(I)I"⟩
abbrev b_Mo_badTables : ByteArray := prog_14_method_15_code
def y_Mo_badTables : MethodName := ⟨R_Mo, "badTables", "()Z"⟩
abbrev b_Mo_follows : ByteArray := prog_14_method_16_code
def y_Mo_follows : MethodName := ⟨R_Mo, "follows", "(I)Z"⟩
abbrev b_Mo_walk : ByteArray := prog_14_method_17_code
def y_Mo_walk : MethodName := ⟨R_Mo, "walk", "(I)V"⟩
abbrev b_Mo_firstOf : ByteArray := prog_14_method_18_code
def y_Mo_firstOf : MethodName := ⟨R_Mo, "firstOf", "(I)I"⟩
abbrev b_Mo_isFolder : ByteArray := prog_14_method_19_code
def y_Mo_isFolder : MethodName := ⟨R_Mo, "isFolder", "(I)Z"⟩
abbrev b_Mo_beginOf : ByteArray := prog_14_method_20_code
def y_Mo_beginOf : MethodName := ⟨R_Mo, "beginOf", "(I)I"⟩
abbrev b_Mo_slotAt : ByteArray := prog_14_method_21_code
def y_Mo_slotAt : MethodName := ⟨R_Mo, "slotAt", "(I)I"⟩
abbrev b_Mo_loadFolder : ByteArray := prog_14_method_23_code
def y_Mo_loadFolder : MethodName := ⟨R_Mo, "loadFolder", "(I)V"⟩
abbrev b_Mo_scan : ByteArray := prog_14_method_24_code
def y_Mo_scan : MethodName := ⟨R_Mo, "scan", "(I)V"⟩
abbrev b_Mo_dots : ByteArray := prog_14_method_25_code
def y_Mo_dots : MethodName := ⟨R_Mo, "dots", "(III)Z"⟩
abbrev b_Mo_part : ByteArray := prog_14_method_26_code
def y_Mo_part : MethodName := ⟨R_Mo, "part", "(I)Z"⟩
abbrev b_Mo_isShortSign : ByteArray := prog_14_method_27_code
def y_Mo_isShortSign : MethodName := ⟨R_Mo, "isShortSign", "(I)Z"⟩
abbrev b_Mo_isShort : ByteArray := prog_14_method_28_code
def y_Mo_isShort : MethodName := ⟨R_Mo, "isShort", "(IZ)Z"⟩
abbrev b_Mo_isLeap : ByteArray := prog_14_method_29_code
def y_Mo_isLeap : MethodName := ⟨R_Mo, "isLeap", "(I)Z"⟩
abbrev b_Mo_daysOf : ByteArray := prog_14_method_30_code
def y_Mo_daysOf : MethodName := ⟨R_Mo, "daysOf", "(II)I"⟩
abbrev b_Mo_isDay : ByteArray := prog_14_method_31_code
def y_Mo_isDay : MethodName := ⟨R_Mo, "isDay", "(I)Z"⟩
abbrev b_Mo_isTime : ByteArray := prog_14_method_32_code
def y_Mo_isTime : MethodName := ⟨R_Mo, "isTime", "(I)Z"⟩
abbrev b_Mo_isMade : ByteArray := prog_14_method_33_code
def y_Mo_isMade : MethodName := ⟨R_Mo, "isMade", "(III)Z"⟩
abbrev b_Mo_areDays : ByteArray := prog_14_method_34_code
def y_Mo_areDays : MethodName := ⟨R_Mo, "areDays", "(I)Z"⟩
abbrev b_Mo_sumOf : ByteArray := prog_14_method_35_code
def y_Mo_sumOf : MethodName := ⟨R_Mo, "sumOf", "(I)I"⟩
abbrev b_Mo_shown : ByteArray := prog_14_method_37_code
def y_Mo_shown : MethodName := ⟨R_Mo, "shown", "(I)V"⟩
abbrev b_Mo_said : ByteArray := prog_14_method_38_code
def y_Mo_said : MethodName := ⟨R_Mo, "said", "()Z"⟩
abbrev b_Mo_capital : ByteArray := prog_14_method_39_code
def y_Mo_capital : MethodName := ⟨R_Mo, "capital", "(I)I"⟩
abbrev b_Mo_isAlike : ByteArray := prog_14_method_40_code
def y_Mo_isAlike : MethodName := ⟨R_Mo, "isAlike", "(I)Z"⟩
abbrev b_Mo_isTaken : ByteArray := prog_14_method_41_code
def y_Mo_isTaken : MethodName := ⟨R_Mo, "isTaken", "(I)Z"⟩
abbrev b_Mo_taken : ByteArray := prog_14_method_46_code
def y_Mo_taken : MethodName := ⟨R_Mo, "taken", "(I)I"⟩
abbrev b_Mo_folderHere : ByteArray := prog_14_method_54_code
def y_Mo_folderHere : MethodName := ⟨R_Mo, "folderHere", "()I"⟩
abbrev b_Mo_many : ByteArray := prog_14_method_55_code
def y_Mo_many : MethodName := ⟨R_Mo, "many", "()I"⟩
abbrev b_Mo_item : ByteArray := prog_14_method_58_code
def y_Mo_item : MethodName := ⟨R_Mo, "item", "(I)I"⟩
abbrev b_Mo_bytesOf : ByteArray := prog_14_method_59_code
def y_Mo_bytesOf : MethodName := ⟨R_Mo, "bytesOf", "(I)I"⟩
abbrev b_Mo_textSize : ByteArray := prog_14_method_60_code
def y_Mo_textSize : MethodName := ⟨R_Mo, "textSize", "(I)I"⟩
abbrev b_Mo_text : ByteArray := prog_14_method_61_code
def y_Mo_text : MethodName := ⟨R_Mo, "text", "(II)I"⟩
abbrev b_Mo_seconds : ByteArray := prog_14_method_63_code
def y_Mo_seconds : MethodName := ⟨R_Mo, "seconds", "(II)J"⟩
abbrev b_Mo_timeOf : ByteArray := prog_14_method_64_code
def y_Mo_timeOf : MethodName := ⟨R_Mo, "timeOf", "(II)J"⟩
abbrev b_Mo_free : ByteArray := prog_14_method_70_code
def y_Mo_free : MethodName := ⟨R_Mo, "free", "()I"⟩
abbrev b_Mo_take : ByteArray := prog_14_method_71_code
def y_Mo_take : MethodName := ⟨R_Mo, "take", "()I"⟩
abbrev b_Mo_isBrief : ByteArray := prog_14_method_73_code
def y_Mo_isBrief : MethodName := ⟨R_Mo, "isBrief", "()Z"⟩
abbrev b_Mo_plain : ByteArray := prog_14_method_74_code
def y_Mo_plain : MethodName := ⟨R_Mo, "plain", "(I)I"⟩
abbrev b_Mo_isBriefTaken : ByteArray := prog_14_method_75_code
def y_Mo_isBriefTaken : MethodName := ⟨R_Mo, "isBriefTaken", "(I)Z"⟩
abbrev b_Mo_shorten : ByteArray := prog_14_method_76_code
def y_Mo_shorten : MethodName := ⟨R_Mo, "shorten", "(I)V"⟩
abbrev b_Mo_layPart : ByteArray := prog_14_method_78_code
def y_Mo_layPart : MethodName := ⟨R_Mo, "layPart", "(IIZI)V"⟩
abbrev b_Mo_append : ByteArray := prog_14_method_79_code
def y_Mo_append : MethodName := ⟨R_Mo, "append", "(IIZI)I"⟩
abbrev b_Mo_folderBlocks : ByteArray := prog_14_method_86_code
def y_Mo_folderBlocks : MethodName := ⟨R_Mo, "folderBlocks", "(I)I"⟩
abbrev b_Mo_clustersOf : ByteArray := prog_14_method_87_code
def y_Mo_clustersOf : MethodName := ⟨R_Mo, "clustersOf", "(I)I"⟩
abbrev b_Mo_recordBlocks : ByteArray := prog_14_method_88_code
def y_Mo_recordBlocks : MethodName := ⟨R_Mo, "recordBlocks", "()I"⟩
abbrev b_Mo_indirect : ByteArray := prog_14_method_89_code
def y_Mo_indirect : MethodName := ⟨R_Mo, "indirect", "(I)I"⟩
abbrev b_Mo_fileBlocks : ByteArray := prog_14_method_90_code
def y_Mo_fileBlocks : MethodName := ⟨R_Mo, "fileBlocks", "(I)I"⟩
abbrev b_Mo_groupSize : ByteArray := prog_14_method_91_code
def y_Mo_groupSize : MethodName := ⟨R_Mo, "groupSize", "(I)I"⟩
abbrev b_Mo_mapOf : ByteArray := prog_14_method_92_code
def y_Mo_mapOf : MethodName := ⟨R_Mo, "mapOf", "(I)I"⟩
abbrev b_Mo_clusterOf : ByteArray := prog_14_method_93_code
def y_Mo_clusterOf : MethodName := ⟨R_Mo, "clusterOf", "(I)I"⟩
abbrev b_Mo_isRoomy : ByteArray := prog_14_method_94_code
def y_Mo_isRoomy : MethodName := ⟨R_Mo, "isRoomy", "()Z"⟩
abbrev b_Mo_isFixed : ByteArray := prog_14_method_95_code
def y_Mo_isFixed : MethodName := ⟨R_Mo, "isFixed", "(I)Z"⟩
abbrev b_Mo_badNames : ByteArray := prog_14_method_96_code
def y_Mo_badNames : MethodName := ⟨R_Mo, "badNames", "()Z"⟩
abbrev b_Mo_badTimes : ByteArray := prog_14_method_97_code
def y_Mo_badTimes : MethodName := ⟨R_Mo, "badTimes", "()Z"⟩
abbrev b_Mo_finds : ByteArray := prog_14_method_98_code
def y_Mo_finds : MethodName := ⟨R_Mo, "finds", "()Z"⟩
abbrev b_Mo_refusal : ByteArray := prog_14_method_99_code
def y_Mo_refusal : MethodName := ⟨R_Mo, "refusal", "(I)I"⟩
abbrev b_Mo_lay : ByteArray := prog_14_method_102_code
def y_Mo_lay : MethodName := ⟨R_Mo, "lay", "(IIJ)V"⟩
abbrev b_Mo_build : ByteArray := prog_14_method_103_code
def y_Mo_build : MethodName := ⟨R_Mo, "build", "()I"⟩
abbrev b_Mo_inodeAt : ByteArray := prog_14_method_104_code
def y_Mo_inodeAt : MethodName := ⟨R_Mo, "inodeAt", "(I)I"⟩
abbrev b_Mo_standing : ByteArray := prog_14_method_105_code
def y_Mo_standing : MethodName := ⟨R_Mo, "standing", "(I)I"⟩
abbrev b_Mo_copied : ByteArray := prog_14_method_106_code
def y_Mo_copied : MethodName := ⟨R_Mo, "copied", "(I)I"⟩
abbrev b_Mo_inode : ByteArray := prog_14_method_107_code
def y_Mo_inode : MethodName := ⟨R_Mo, "inode", "(IIIJJJJ[II)V"⟩
abbrev b_Mo_numberOf : ByteArray := prog_14_method_108_code
def y_Mo_numberOf : MethodName := ⟨R_Mo, "numberOf", "(I)I"⟩
abbrev b_Mo_mode : ByteArray := prog_14_method_109_code
def y_Mo_mode : MethodName := ⟨R_Mo, "mode", "(I)I"⟩
abbrev b_Mo_makeRecord : ByteArray := prog_14_method_110_code
def y_Mo_makeRecord : MethodName := ⟨R_Mo, "makeRecord", "()V"⟩
abbrev b_Mo_begins : ByteArray := prog_14_method_111_code
def y_Mo_begins : MethodName := ⟨R_Mo, "begins", "()V"⟩
abbrev b_Mo_entered : ByteArray := prog_14_method_112_code
def y_Mo_entered : MethodName := ⟨R_Mo, "entered", "(IIIII)I"⟩
abbrev b_Mo_makeFolder : ByteArray := prog_14_method_113_code
def y_Mo_makeFolder : MethodName := ⟨R_Mo, "makeFolder", "(I)V"⟩
abbrev b_Mo_makeFile : ByteArray := prog_14_method_114_code
def y_Mo_makeFile : MethodName := ⟨R_Mo, "makeFile", "(I)V"⟩
abbrev b_Mo_freeBlocks : ByteArray := prog_14_method_115_code
def y_Mo_freeBlocks : MethodName := ⟨R_Mo, "freeBlocks", "(I)I"⟩
abbrev b_Mo_isUsed : ByteArray := prog_14_method_116_code
def y_Mo_isUsed : MethodName := ⟨R_Mo, "isUsed", "(I)Z"⟩
abbrev b_Mo_freeInodes : ByteArray := prog_14_method_117_code
def y_Mo_freeInodes : MethodName := ⟨R_Mo, "freeInodes", "(I)I"⟩
abbrev b_Mo_foldersOf : ByteArray := prog_14_method_118_code
def y_Mo_foldersOf : MethodName := ⟨R_Mo, "foldersOf", "(I)I"⟩
abbrev b_Mo_makeMaps : ByteArray := prog_14_method_119_code
def y_Mo_makeMaps : MethodName := ⟨R_Mo, "makeMaps", "(I)V"⟩
abbrev b_Mo_makeHead : ByteArray := prog_14_method_120_code
def y_Mo_makeHead : MethodName := ⟨R_Mo, "makeHead", "(IJ)V"⟩
abbrev b_Mo_turn : ByteArray := prog_14_method_121_code
def y_Mo_turn : MethodName := ⟨R_Mo, "turn", "()V"⟩
def K_Mo : List Cond := [(.initialized "VolumeTurnerModel"), (.instantiable "VolumeTurnerModel" 66), (.instanceMethod y_Mo_init), (.code y_Mo_init prog_14_method_1_code 3 none), (.methodLink "VolumeTurnerModel" 1 objectInit), (.constant "VolumeTurnerModel" 7 (524288 : Int32)), (.constant "VolumeTurnerModel" 52 (90000 : Int32)), (.fieldLink "VolumeTurnerModel" 96 "VolumeTurnerModel" "n" "I"), (.fieldLink "VolumeTurnerModel" 8 "VolumeTurnerModel" "disk" "[B"), (.fieldLink "VolumeTurnerModel" 14 "VolumeTurnerModel" "fresh" "[B"), (.fieldLink "VolumeTurnerModel" 17 "VolumeTurnerModel" "tape" "[B"), (.fieldLink "VolumeTurnerModel" 20 "VolumeTurnerModel" "ready" "[B"), (.fieldLink "VolumeTurnerModel" 296 "VolumeTurnerModel" "taped" "I"), (.fieldLink "VolumeTurnerModel" 100 "VolumeTurnerModel" "thrown" "I"), (.fieldLink "VolumeTurnerModel" 595 "VolumeTurnerModel" "told" "I"), (.fieldLink "VolumeTurnerModel" 293 "VolumeTurnerModel" "fed" "Z"), (.fieldLink "VolumeTurnerModel" 302 "VolumeTurnerModel" "turned" "Z"), (.fieldLink "VolumeTurnerModel" 305 "VolumeTurnerModel" "ran" "Z"), (.fieldLink "VolumeTurnerModel" 138 "VolumeTurnerModel" "c" "I"), (.fieldLink "VolumeTurnerModel" 110 "VolumeTurnerModel" "v" "I"), (.fieldLink "VolumeTurnerModel" 124 "VolumeTurnerModel" "y" "I"), (.fieldLink "VolumeTurnerModel" 113 "VolumeTurnerModel" "z" "I"), (.fieldLink "VolumeTurnerModel" 141 "VolumeTurnerModel" "root" "I"), (.fieldLink "VolumeTurnerModel" 135 "VolumeTurnerModel" "a" "I"), (.fieldLink "VolumeTurnerModel" 132 "VolumeTurnerModel" "k" "I"), (.fieldLink "VolumeTurnerModel" 311 "VolumeTurnerModel" "here" "I"), (.fieldLink "VolumeTurnerModel" 162 "VolumeTurnerModel" "looked" "Z"), (.fieldLink "VolumeTurnerModel" 182 "VolumeTurnerModel" "fault" "I"), (.fieldLink "VolumeTurnerModel" 166 "VolumeTurnerModel" "items" "I"), (.fieldLink "VolumeTurnerModel" 169 "VolumeTurnerModel" "units" "I"), (.fieldLink "VolumeTurnerModel" 23 "VolumeTurnerModel" "chained" "[Z"), (.fieldLink "VolumeTurnerModel" 27 "VolumeTurnerModel" "at" "[I"), (.fieldLink "VolumeTurnerModel" 31 "VolumeTurnerModel" "slot" "[I"), (.fieldLink "VolumeTurnerModel" 34 "VolumeTurnerModel" "parts" "[I"), (.fieldLink "VolumeTurnerModel" 37 "VolumeTurnerModel" "parent" "[I"), (.fieldLink "VolumeTurnerModel" 40 "VolumeTurnerModel" "kids" "[I"), (.fieldLink "VolumeTurnerModel" 43 "VolumeTurnerModel" "firstKid" "[I"), (.fieldLink "VolumeTurnerModel" 46 "VolumeTurnerModel" "nameAt" "[I"), (.fieldLink "VolumeTurnerModel" 49 "VolumeTurnerModel" "nameSize" "[I"), (.fieldLink "VolumeTurnerModel" 53 "VolumeTurnerModel" "unit" "[C"), (.fieldLink "VolumeTurnerModel" 57 "VolumeTurnerModel" "chain" "[I"), (.fieldLink "VolumeTurnerModel" 60 "VolumeTurnerModel" "folder" "[I"), (.fieldLink "VolumeTurnerModel" 153 "VolumeTurnerModel" "links" "I"), (.fieldLink "VolumeTurnerModel" 198 "VolumeTurnerModel" "folders" "I"), (.fieldLink "VolumeTurnerModel" 172 "VolumeTurnerModel" "label" "I"), (.fieldLink "VolumeTurnerModel" 63 "VolumeTurnerModel" "name" "[C"), (.fieldLink "VolumeTurnerModel" 224 "VolumeTurnerModel" "size" "I"), (.fieldLink "VolumeTurnerModel" 204 "VolumeTurnerModel" "met" "I"), (.fieldLink "VolumeTurnerModel" 207 "VolumeTurnerModel" "left" "I"), (.fieldLink "VolumeTurnerModel" 227 "VolumeTurnerModel" "sum" "I"), (.fieldLink "VolumeTurnerModel" 66 "VolumeTurnerModel" "brief" "[I"), (.fieldLink "VolumeTurnerModel" 69 "VolumeTurnerModel" "stem" "[I"), (.fieldLink "VolumeTurnerModel" 72 "VolumeTurnerModel" "tail" "[I"), (.fieldLink "VolumeTurnerModel" 453 "VolumeTurnerModel" "groups" "I"), (.fieldLink "VolumeTurnerModel" 456 "VolumeTurnerModel" "per" "I"), (.fieldLink "VolumeTurnerModel" 495 "VolumeTurnerModel" "inodes" "I"), (.fieldLink "VolumeTurnerModel" 465 "VolumeTurnerModel" "rows" "I"), (.fieldLink "VolumeTurnerModel" 459 "VolumeTurnerModel" "blocks" "I"), (.fieldLink "VolumeTurnerModel" 75 "VolumeTurnerModel" "fixed" "[Z"), (.fieldLink "VolumeTurnerModel" 78 "VolumeTurnerModel" "used" "[Z"), (.fieldLink "VolumeTurnerModel" 81 "VolumeTurnerModel" "moved" "[I"), (.fieldLink "VolumeTurnerModel" 84 "VolumeTurnerModel" "aimed" "[I"), (.fieldLink "VolumeTurnerModel" 87 "VolumeTurnerModel" "built" "[I"), (.fieldLink "VolumeTurnerModel" 471 "VolumeTurnerModel" "fixedBlocks" "I"), (.fieldLink "VolumeTurnerModel" 477 "VolumeTurnerModel" "moves" "I"), (.fieldLink "VolumeTurnerModel" 486 "VolumeTurnerModel" "builds" "I"), (.fieldLink "VolumeTurnerModel" 489 "VolumeTurnerModel" "kept" "I"), (.fieldLink "VolumeTurnerModel" 513 "VolumeTurnerModel" "next" "I"), (.fieldLink "VolumeTurnerModel" 90 "VolumeTurnerModel" "record" "[I"), (.fieldLink "VolumeTurnerModel" 93 "VolumeTurnerModel" "list" "[I"), (.fieldLink "VolumeTurnerModel" 539 "VolumeTurnerModel" "spot" "I"), (.fieldLink "VolumeTurnerModel" 542 "VolumeTurnerModel" "filled" "I"), (.fieldLink "VolumeTurnerModel" 545 "VolumeTurnerModel" "latest" "I"), (.instanceMethod y_Mo_thrown), (.selects "VolumeTurnerModel" y_Mo_thrown y_Mo_thrown), (.code y_Mo_thrown prog_14_method_2_code 1 (some .int)), (.instanceMethod y_Mo_feed), (.selects "VolumeTurnerModel" y_Mo_feed y_Mo_feed), (.code y_Mo_feed prog_14_method_43_code 8 none), (.instanceMethod y_Mo_end), (.selects "VolumeTurnerModel" y_Mo_end y_Mo_end), (.code y_Mo_end prog_14_method_44_code 3 (some .int)), (.instanceMethod y_Mo_clear), (.selects "VolumeTurnerModel" y_Mo_clear y_Mo_clear), (.code y_Mo_clear prog_14_method_45_code 1 none), (.instanceMethod y_Mo_kind), (.selects "VolumeTurnerModel" y_Mo_kind y_Mo_kind), (.code y_Mo_kind prog_14_method_47_code 1 (some .int)), (.methodLink "VolumeTurnerModel" 299 y_Mo_look), (.instanceMethod y_Mo_look), (.code y_Mo_look prog_14_method_22_code 2 none), (.methodLink "VolumeTurnerModel" 175 y_Mo_head), (.instanceMethod y_Mo_head), (.code y_Mo_head prog_14_method_14_code 2 (some .boolean)), (.methodLink "VolumeTurnerModel" 103 y_Mo_one), (.instanceMethod y_Mo_one), (.code y_Mo_one prog_14_method_4_code 2 (some .int)), (.methodLink "VolumeTurnerModel" 107 y_Mo_two), (.instanceMethod y_Mo_two), (.code y_Mo_two prog_14_method_5_code 2 (some .int)), (.methodLink "VolumeTurnerModel" 120 y_Mo_four), (.instanceMethod y_Mo_four), (.code y_Mo_four prog_14_method_6_code 2 (some .int)), (.constant "VolumeTurnerModel" 144 (43605 : Int32)), (.methodLink "VolumeTurnerModel" 145 y_Mo_isCluster), (.instanceMethod y_Mo_isCluster), (.code y_Mo_isCluster prog_14_method_12_code 2 (some .boolean)), (.methodLink "VolumeTurnerModel" 179 y_Mo_badTables), (.instanceMethod y_Mo_badTables), (.code y_Mo_badTables prog_14_method_15_code 4 (some .boolean)), (.methodLink "VolumeTurnerModel" 149 y_Mo_entry), (.instanceMethod y_Mo_entry), (.code y_Mo_entry prog_14_method_10_code 2 (some .int)), (.methodLink "VolumeTurnerModel" 116 y_Mo_entryAt), (.instanceMethod y_Mo_entryAt), (.code y_Mo_entryAt prog_14_method_9_code 3 (some .int)), (.constant "VolumeTurnerModel" 123 (268435455 : Int32)), (.constant "VolumeTurnerModel" 152 (268435448 : Int32)), (.methodLink "VolumeTurnerModel" 185 y_Mo_isFolder), (.instanceMethod y_Mo_isFolder), (.code y_Mo_isFolder prog_14_method_19_code 2 (some .boolean)), (.methodLink "VolumeTurnerModel" 188 y_Mo_scan), (.instanceMethod y_Mo_scan), (.code y_Mo_scan prog_14_method_24_code 4 none), (.methodLink "VolumeTurnerModel" 192 y_Mo_beginOf), (.instanceMethod y_Mo_beginOf), (.code y_Mo_beginOf prog_14_method_20_code 2 (some .int)), (.methodLink "VolumeTurnerModel" 156 y_Mo_firstOf), (.instanceMethod y_Mo_firstOf), (.code y_Mo_firstOf prog_14_method_18_code 2 (some .int)), (.methodLink "VolumeTurnerModel" 201 y_Mo_follows), (.instanceMethod y_Mo_follows), (.code y_Mo_follows prog_14_method_16_code 3 (some .boolean)), (.methodLink "VolumeTurnerModel" 210 y_Mo_slotAt), (.instanceMethod y_Mo_slotAt), (.code y_Mo_slotAt prog_14_method_21_code 2 (some .int)), (.methodLink "VolumeTurnerModel" 159 y_Mo_place), (.instanceMethod y_Mo_place), (.code y_Mo_place prog_14_method_13_code 2 (some .int)), (.methodLink "VolumeTurnerModel" 213 y_Mo_dots), (.instanceMethod y_Mo_dots), (.code y_Mo_dots prog_14_method_25_code 5 (some .boolean)), (.methodLink "VolumeTurnerModel" 217 y_Mo_part), (.instanceMethod y_Mo_part), (.code y_Mo_part prog_14_method_26_code 4 (some .boolean)), (.methodLink "VolumeTurnerModel" 274 y_Mo_areDays), (.instanceMethod y_Mo_areDays), (.code y_Mo_areDays prog_14_method_34_code 2 (some .boolean)), (.methodLink "VolumeTurnerModel" 253 y_Mo_isMade), (.static y_Mo_isMade), (.code y_Mo_isMade prog_14_method_33_code 3 (some .boolean)), (.methodLink "VolumeTurnerModel" 247 y_Mo_isDay), (.static y_Mo_isDay), (.code y_Mo_isDay prog_14_method_31_code 2 (some .boolean)), (.constant "VolumeTurnerModel" 243 (65536 : Int32)), (.methodLink "VolumeTurnerModel" 244 y_Mo_daysOf), (.static y_Mo_daysOf), (.code y_Mo_daysOf prog_14_method_30_code 2 (some .int)), (.methodLink "VolumeTurnerModel" 240 y_Mo_isLeap), (.static y_Mo_isLeap), (.code y_Mo_isLeap prog_14_method_29_code 1 (some .boolean)), (.methodLink "VolumeTurnerModel" 250 y_Mo_isTime), (.static y_Mo_isTime), (.code y_Mo_isTime prog_14_method_32_code 1 (some .boolean)), (.methodLink "VolumeTurnerModel" 277 y_Mo_isShort), (.instanceMethod y_Mo_isShort), (.code y_Mo_isShort prog_14_method_28_code 6 (some .boolean)), (.methodLink "VolumeTurnerModel" 237 y_Mo_isShortSign), (.static y_Mo_isShortSign), (.code y_Mo_isShortSign prog_14_method_27_code 1 (some .boolean)), (.methodLink "VolumeTurnerModel" 232 ⟨"java/lang/String", "indexOf", "(I)I"⟩), (.methodLink "VolumeTurnerModel" 281 y_Mo_sumOf), (.instanceMethod y_Mo_sumOf), (.code y_Mo_sumOf prog_14_method_35_code 4 (some .int)), (.methodLink "VolumeTurnerModel" 284 y_Mo_said), (.instanceMethod y_Mo_said), (.code y_Mo_said prog_14_method_38_code 4 (some .boolean)), (.constant "VolumeTurnerModel" 261 (65535 : Int32)), (.methodLink "VolumeTurnerModel" 262 y_Mo_whole), (.static y_Mo_whole), (.code y_Mo_whole prog_14_method_8_code 2 (some .int)), (.methodLink "VolumeTurnerModel" 265 y_Mo_isName), (.instanceMethod y_Mo_isName), (.code y_Mo_isName prog_14_method_36_code 4 (some .boolean)), (.constant "VolumeTurnerModel" 256 (55296 : Int32)), (.constant "VolumeTurnerModel" 257 (57343 : Int32)), (.constant "VolumeTurnerModel" 258 (65533 : Int32)), (.methodLink "VolumeTurnerModel" 287 y_Mo_shown), (.instanceMethod y_Mo_shown), (.code y_Mo_shown prog_14_method_37_code 3 none), (.methodLink "VolumeTurnerModel" 290 y_Mo_isTaken), (.instanceMethod y_Mo_isTaken), (.code y_Mo_isTaken prog_14_method_41_code 4 (some .boolean)), (.methodLink "VolumeTurnerModel" 271 y_Mo_isAlike), (.instanceMethod y_Mo_isAlike), (.code y_Mo_isAlike prog_14_method_40_code 4 (some .boolean)), (.methodLink "VolumeTurnerModel" 268 y_Mo_capital), (.static y_Mo_capital), (.code y_Mo_capital prog_14_method_39_code 1 (some .int)), (.instanceMethod y_Mo_fault), (.selects "VolumeTurnerModel" y_Mo_fault y_Mo_fault), (.code y_Mo_fault prog_14_method_48_code 1 (some .int)), (.instanceMethod y_Mo_poke), (.selects "VolumeTurnerModel" y_Mo_poke y_Mo_poke), (.code y_Mo_poke prog_14_method_50_code 4 (some .boolean)), (.methodLink "VolumeTurnerModel" 308 y_Mo_changed), (.instanceMethod y_Mo_changed), (.code y_Mo_changed prog_14_method_49_code 1 none), (.instanceMethod y_Mo_byteAt), (.selects "VolumeTurnerModel" y_Mo_byteAt y_Mo_byteAt), (.code y_Mo_byteAt prog_14_method_51_code 4 (some .int)), (.instanceMethod y_Mo_format), (.selects "VolumeTurnerModel" y_Mo_format y_Mo_format), (.code y_Mo_format prog_14_method_52_code 11 (some .int)), (.methodLink "VolumeTurnerModel" 314 y_Mo_taken), (.instanceMethod y_Mo_taken), (.code y_Mo_taken prog_14_method_46_code 2 (some .int)), (.methodLink "VolumeTurnerModel" 317 y_Mo_fails), (.instanceMethod y_Mo_fails), (.code y_Mo_fails prog_14_method_3_code 3 (some .boolean)), (.constantLong "VolumeTurnerModel" 321 (512 : Int64)), (.methodLink "VolumeTurnerModel" 128 y_Mo_set), (.instanceMethod y_Mo_set), (.code y_Mo_set prog_14_method_7_code 6 none), (.constantLong "VolumeTurnerModel" 323 (2 : Int64)), (.constantLong "VolumeTurnerModel" 325 (6 : Int64)), (.constantLong "VolumeTurnerModel" 327 (43605 : Int64)), (.constantLong "VolumeTurnerModel" 329 (1096897106 : Int64)), (.constantLong "VolumeTurnerModel" 331 (1631679090 : Int64)), (.constantLong "VolumeTurnerModel" 333 (4294967295 : Int64)), (.constantLong "VolumeTurnerModel" 335 (2857697280 : Int64)), (.methodLink "VolumeTurnerModel" 337 y_Mo_setEntry), (.instanceMethod y_Mo_setEntry), (.code y_Mo_setEntry prog_14_method_11_code 5 none), (.constant "VolumeTurnerModel" 127 (-268435456 : Int32)), (.constantLong "VolumeTurnerModel" 341 (8 : Int64)), (.constantLong "VolumeTurnerModel" 343 (33 : Int64)), (.instanceMethod y_Mo_items), (.selects "VolumeTurnerModel" y_Mo_items y_Mo_items), (.code y_Mo_items prog_14_method_56_code 1 (some .int)), (.methodLink "VolumeTurnerModel" 349 y_Mo_none), (.instanceMethod y_Mo_none), (.code y_Mo_none prog_14_method_53_code 1 (some .boolean)), (.methodLink "VolumeTurnerModel" 352 y_Mo_many), (.instanceMethod y_Mo_many), (.code y_Mo_many prog_14_method_55_code 1 (some .int)), (.methodLink "VolumeTurnerModel" 345 y_Mo_folderHere), (.instanceMethod y_Mo_folderHere), (.code y_Mo_folderHere prog_14_method_54_code 2 (some .int)), (.instanceMethod y_Mo_letter), (.selects "VolumeTurnerModel" y_Mo_letter y_Mo_letter), (.code y_Mo_letter prog_14_method_62_code 3 (some .int)), (.methodLink "VolumeTurnerModel" 364 y_Mo_no), (.instanceMethod y_Mo_no), (.code y_Mo_no prog_14_method_57_code 2 (some .boolean)), (.methodLink "VolumeTurnerModel" 367 y_Mo_item), (.instanceMethod y_Mo_item), (.code y_Mo_item prog_14_method_58_code 2 (some .int)), (.methodLink "VolumeTurnerModel" 370 y_Mo_text), (.instanceMethod y_Mo_text), (.code y_Mo_text prog_14_method_61_code 7 (some .int)), (.methodLink "VolumeTurnerModel" 360 ⟨"java/lang/String", "charAt", "(I)C"⟩), (.methodLink "VolumeTurnerModel" 355 y_Mo_bytesOf), (.static y_Mo_bytesOf), (.code y_Mo_bytesOf prog_14_method_59_code 1 (some .int)), (.instanceMethod y_Mo_about), (.selects "VolumeTurnerModel" y_Mo_about y_Mo_about), (.code y_Mo_about prog_14_method_65_code 4 (some .long)), (.constantLong "VolumeTurnerModel" 387 (1024 : Int64)), (.methodLink "VolumeTurnerModel" 389 y_Mo_recordBlocks), (.instanceMethod y_Mo_recordBlocks), (.code y_Mo_recordBlocks prog_14_method_88_code 3 (some .int)), (.methodLink "VolumeTurnerModel" 450 y_Mo_clustersOf), (.instanceMethod y_Mo_clustersOf), (.code y_Mo_clustersOf prog_14_method_87_code 2 (some .int)), (.methodLink "VolumeTurnerModel" 195 y_Mo_walk), (.instanceMethod y_Mo_walk), (.code y_Mo_walk prog_14_method_17_code 3 none), (.methodLink "VolumeTurnerModel" 392 y_Mo_timeOf), (.instanceMethod y_Mo_timeOf), (.code y_Mo_timeOf prog_14_method_64_code 4 (some .long)), (.methodLink "VolumeTurnerModel" 383 y_Mo_seconds), (.static y_Mo_seconds), (.code y_Mo_seconds prog_14_method_63_code 7 (some .long)), (.constantLong "VolumeTurnerModel" 373 (366 : Int64)), (.constantLong "VolumeTurnerModel" 375 (365 : Int64)), (.constantLong "VolumeTurnerModel" 377 (86400 : Int64)), (.constantLong "VolumeTurnerModel" 379 (3600 : Int64)), (.constantLong "VolumeTurnerModel" 381 (60 : Int64)), (.methodLink "VolumeTurnerModel" 395 y_Mo_folderBlocks), (.instanceMethod y_Mo_folderBlocks), (.code y_Mo_folderBlocks prog_14_method_86_code 7 (some .int)), (.methodLink "VolumeTurnerModel" 447 y_Mo_textSize), (.instanceMethod y_Mo_textSize), (.code y_Mo_textSize prog_14_method_60_code 4 (some .int)), (.instanceMethod y_Mo_content), (.selects "VolumeTurnerModel" y_Mo_content y_Mo_content), (.code y_Mo_content prog_14_method_66_code 4 (some .int)), (.instanceMethod y_Mo_enter), (.selects "VolumeTurnerModel" y_Mo_enter y_Mo_enter), (.code y_Mo_enter prog_14_method_67_code 2 (some .int)), (.instanceMethod y_Mo_up), (.selects "VolumeTurnerModel" y_Mo_up y_Mo_up), (.code y_Mo_up prog_14_method_68_code 2 (some .boolean)), (.instanceMethod y_Mo_make), (.selects "VolumeTurnerModel" y_Mo_make y_Mo_make), (.code y_Mo_make prog_14_method_77_code 18 (some .int)), (.methodLink "VolumeTurnerModel" 404 y_Mo_fixedNow), (.instanceMethod y_Mo_fixedNow), (.code y_Mo_fixedNow prog_14_method_69_code 1 (some .boolean)), (.methodLink "VolumeTurnerModel" 407 y_Mo_named), (.instanceMethod y_Mo_named), (.code y_Mo_named prog_14_method_72_code 2 (some .boolean)), (.methodLink "VolumeTurnerModel" 410 y_Mo_isBrief), (.instanceMethod y_Mo_isBrief), (.code y_Mo_isBrief prog_14_method_73_code 3 (some .boolean)), (.methodLink "VolumeTurnerModel" 401 y_Mo_isBriefTaken), (.instanceMethod y_Mo_isBriefTaken), (.code y_Mo_isBriefTaken prog_14_method_75_code 5 (some .boolean)), (.methodLink "VolumeTurnerModel" 413 y_Mo_shorten), (.instanceMethod y_Mo_shorten), (.code y_Mo_shorten prog_14_method_76_code 11 none), (.methodLink "VolumeTurnerModel" 398 y_Mo_plain), (.static y_Mo_plain), (.code y_Mo_plain prog_14_method_74_code 2 (some .int)), (.methodLink "VolumeTurnerModel" 416 y_Mo_loadFolder), (.instanceMethod y_Mo_loadFolder), (.code y_Mo_loadFolder prog_14_method_23_code 3 none), (.methodLink "VolumeTurnerModel" 419 y_Mo_free), (.instanceMethod y_Mo_free), (.code y_Mo_free prog_14_method_70_code 3 (some .int)), (.methodLink "VolumeTurnerModel" 422 y_Mo_take), (.instanceMethod y_Mo_take), (.code y_Mo_take prog_14_method_71_code 3 (some .int)), (.methodLink "VolumeTurnerModel" 425 y_Mo_layPart), (.instanceMethod y_Mo_layPart), (.code y_Mo_layPart prog_14_method_78_code 7 none), (.constantLong "VolumeTurnerModel" 435 (15 : Int64)), (.constantLong "VolumeTurnerModel" 437 (65535 : Int64)), (.constantLong "VolumeTurnerModel" 429 (48 : Int64)), (.constantLong "VolumeTurnerModel" 431 (32 : Int64)), (.constantLong "VolumeTurnerModel" 433 (16 : Int64)), (.instanceMethod y_Mo_write), (.selects "VolumeTurnerModel" y_Mo_write y_Mo_write), (.code y_Mo_write prog_14_method_81_code 3 (some .int)), (.methodLink "VolumeTurnerModel" 439 y_Mo_noFile), (.instanceMethod y_Mo_noFile), (.code y_Mo_noFile prog_14_method_80_code 3 (some .boolean)), (.methodLink "VolumeTurnerModel" 442 y_Mo_append), (.instanceMethod y_Mo_append), (.code y_Mo_append prog_14_method_79_code 11 (some .int)), (.instanceMethod y_Mo_grow), (.selects "VolumeTurnerModel" y_Mo_grow y_Mo_grow), (.code y_Mo_grow prog_14_method_82_code 4 (some .int)), (.constant "VolumeTurnerModel" 446 (400000 : Int32)), (.instanceMethod y_Mo_cut), (.selects "VolumeTurnerModel" y_Mo_cut y_Mo_cut), (.code y_Mo_cut prog_14_method_83_code 6 (some .int)), (.instanceMethod y_Mo_remove), (.selects "VolumeTurnerModel" y_Mo_remove y_Mo_remove), (.code y_Mo_remove prog_14_method_84_code 4 none), (.instanceMethod y_Mo_stamp), (.selects "VolumeTurnerModel" y_Mo_stamp y_Mo_stamp), (.code y_Mo_stamp prog_14_method_85_code 7 none), (.instanceMethod y_Mo_plan), (.selects "VolumeTurnerModel" y_Mo_plan y_Mo_plan), (.code y_Mo_plan prog_14_method_100_code 4 (some .int)), (.methodLink "VolumeTurnerModel" 510 y_Mo_refusal), (.instanceMethod y_Mo_refusal), (.code y_Mo_refusal prog_14_method_99_code 2 (some .int)), (.methodLink "VolumeTurnerModel" 498 y_Mo_isRoomy), (.instanceMethod y_Mo_isRoomy), (.code y_Mo_isRoomy prog_14_method_94_code 4 (some .boolean)), (.methodLink "VolumeTurnerModel" 462 y_Mo_groupSize), (.instanceMethod y_Mo_groupSize), (.code y_Mo_groupSize prog_14_method_91_code 2 (some .int)), (.methodLink "VolumeTurnerModel" 468 y_Mo_mapOf), (.instanceMethod y_Mo_mapOf), (.code y_Mo_mapOf prog_14_method_92_code 2 (some .int)), (.methodLink "VolumeTurnerModel" 474 y_Mo_clusterOf), (.instanceMethod y_Mo_clusterOf), (.code y_Mo_clusterOf prog_14_method_93_code 2 (some .int)), (.methodLink "VolumeTurnerModel" 501 y_Mo_badNames), (.instanceMethod y_Mo_badNames), (.code y_Mo_badNames prog_14_method_96_code 3 (some .boolean)), (.methodLink "VolumeTurnerModel" 504 y_Mo_badTimes), (.instanceMethod y_Mo_badTimes), (.code y_Mo_badTimes prog_14_method_97_code 4 (some .boolean)), (.methodLink "VolumeTurnerModel" 507 y_Mo_finds), (.instanceMethod y_Mo_finds), (.code y_Mo_finds prog_14_method_98_code 5 (some .boolean)), (.methodLink "VolumeTurnerModel" 480 y_Mo_isFixed), (.instanceMethod y_Mo_isFixed), (.code y_Mo_isFixed prog_14_method_95_code 4 (some .boolean)), (.methodLink "VolumeTurnerModel" 483 y_Mo_indirect), (.static y_Mo_indirect), (.code y_Mo_indirect prog_14_method_89_code 1 (some .int)), (.methodLink "VolumeTurnerModel" 492 y_Mo_fileBlocks), (.instanceMethod y_Mo_fileBlocks), (.code y_Mo_fileBlocks prog_14_method_90_code 2 (some .int)), (.instanceMethod y_Mo_target), (.selects "VolumeTurnerModel" y_Mo_target y_Mo_target), (.code y_Mo_target prog_14_method_101_code 3 (some .int)), (.instanceMethod y_Mo_fail), (.selects "VolumeTurnerModel" y_Mo_fail y_Mo_fail), (.code y_Mo_fail prog_14_method_122_code 3 (some .boolean)), (.instanceMethod y_Mo_run), (.selects "VolumeTurnerModel" y_Mo_run y_Mo_run), (.code y_Mo_run prog_14_method_123_code 4 (some .int)), (.methodLink "VolumeTurnerModel" 598 y_Mo_turn), (.instanceMethod y_Mo_turn), (.code y_Mo_turn prog_14_method_121_code 4 none), (.methodLink "VolumeTurnerModel" 579 y_Mo_makeRecord), (.instanceMethod y_Mo_makeRecord), (.code y_Mo_makeRecord prog_14_method_110_code 4 none), (.methodLink "VolumeTurnerModel" 525 y_Mo_build), (.instanceMethod y_Mo_build), (.code y_Mo_build prog_14_method_103_code 2 (some .int)), (.methodLink "VolumeTurnerModel" 522 y_Mo_lay), (.instanceMethod y_Mo_lay), (.code y_Mo_lay prog_14_method_102_code 6 none), (.methodLink "VolumeTurnerModel" 531 y_Mo_copied), (.instanceMethod y_Mo_copied), (.code y_Mo_copied prog_14_method_106_code 5 (some .int)), (.methodLink "VolumeTurnerModel" 516 y_Mo_standing), (.instanceMethod y_Mo_standing), (.code y_Mo_standing prog_14_method_105_code 3 (some .int)), (.constant "VolumeTurnerModel" 534 (33024 : Int32)), (.methodLink "VolumeTurnerModel" 535 y_Mo_inode), (.instanceMethod y_Mo_inode), (.code y_Mo_inode prog_14_method_107_code 18 none), (.methodLink "VolumeTurnerModel" 519 y_Mo_inodeAt), (.instanceMethod y_Mo_inodeAt), (.code y_Mo_inodeAt prog_14_method_104_code 2 (some .int)), (.methodLink "VolumeTurnerModel" 582 y_Mo_makeFolder), (.instanceMethod y_Mo_makeFolder), (.code y_Mo_makeFolder prog_14_method_113_code 5 none), (.methodLink "VolumeTurnerModel" 548 y_Mo_begins), (.instanceMethod y_Mo_begins), (.code y_Mo_begins prog_14_method_111_code 1 none), (.methodLink "VolumeTurnerModel" 551 y_Mo_numberOf), (.instanceMethod y_Mo_numberOf), (.code y_Mo_numberOf prog_14_method_108_code 2 (some .int)), (.methodLink "VolumeTurnerModel" 554 y_Mo_entered), (.instanceMethod y_Mo_entered), (.code y_Mo_entered prog_14_method_112_code 10 (some .int)), (.methodLink "VolumeTurnerModel" 558 y_Mo_mode), (.instanceMethod y_Mo_mode), (.code y_Mo_mode prog_14_method_109_code 2 (some .int)), (.constant "VolumeTurnerModel" 528 (33188 : Int32)), (.methodLink "VolumeTurnerModel" 585 y_Mo_makeFile), (.instanceMethod y_Mo_makeFile), (.code y_Mo_makeFile prog_14_method_114_code 4 none), (.methodLink "VolumeTurnerModel" 570 y_Mo_freeBlocks), (.instanceMethod y_Mo_freeBlocks), (.code y_Mo_freeBlocks prog_14_method_115_code 4 (some .int)), (.methodLink "VolumeTurnerModel" 588 y_Mo_makeMaps), (.instanceMethod y_Mo_makeMaps), (.code y_Mo_makeMaps prog_14_method_119_code 4 none), (.methodLink "VolumeTurnerModel" 561 y_Mo_isUsed), (.instanceMethod y_Mo_isUsed), (.code y_Mo_isUsed prog_14_method_116_code 2 (some .boolean)), (.methodLink "VolumeTurnerModel" 591 y_Mo_makeHead), (.instanceMethod y_Mo_makeHead), (.code y_Mo_makeHead prog_14_method_120_code 8 none), (.constantLong "VolumeTurnerModel" 564 (61267 : Int64)), (.constantLong "VolumeTurnerModel" 566 (11 : Int64)), (.constantLong "VolumeTurnerModel" 568 (128 : Int64)), (.methodLink "VolumeTurnerModel" 573 y_Mo_freeInodes), (.instanceMethod y_Mo_freeInodes), (.code y_Mo_freeInodes prog_14_method_117_code 4 (some .int)), (.methodLink "VolumeTurnerModel" 576 y_Mo_foldersOf), (.instanceMethod y_Mo_foldersOf), (.code y_Mo_foldersOf prog_14_method_118_code 4 (some .int)), (.selects "VolumeTurnerModel" y_Mo_fails y_Mo_fails), (.selects "VolumeTurnerModel" y_Mo_one y_Mo_one), (.selects "VolumeTurnerModel" y_Mo_two y_Mo_two), (.selects "VolumeTurnerModel" y_Mo_four y_Mo_four), (.selects "VolumeTurnerModel" y_Mo_set y_Mo_set), (.selects "VolumeTurnerModel" y_Mo_entryAt y_Mo_entryAt), (.selects "VolumeTurnerModel" y_Mo_entry y_Mo_entry), (.selects "VolumeTurnerModel" y_Mo_setEntry y_Mo_setEntry), (.selects "VolumeTurnerModel" y_Mo_isCluster y_Mo_isCluster), (.selects "VolumeTurnerModel" y_Mo_place y_Mo_place), (.selects "VolumeTurnerModel" y_Mo_head y_Mo_head), (.selects "VolumeTurnerModel" y_Mo_badTables y_Mo_badTables), (.selects "VolumeTurnerModel" y_Mo_follows y_Mo_follows), (.selects "VolumeTurnerModel" y_Mo_walk y_Mo_walk), (.selects "VolumeTurnerModel" y_Mo_firstOf y_Mo_firstOf), (.selects "VolumeTurnerModel" y_Mo_isFolder y_Mo_isFolder), (.selects "VolumeTurnerModel" y_Mo_beginOf y_Mo_beginOf), (.selects "VolumeTurnerModel" y_Mo_slotAt y_Mo_slotAt), (.selects "VolumeTurnerModel" y_Mo_look y_Mo_look), (.selects "VolumeTurnerModel" y_Mo_loadFolder y_Mo_loadFolder), (.selects "VolumeTurnerModel" y_Mo_scan y_Mo_scan), (.selects "VolumeTurnerModel" y_Mo_dots y_Mo_dots), (.selects "VolumeTurnerModel" y_Mo_part y_Mo_part), (.selects "VolumeTurnerModel" y_Mo_isShort y_Mo_isShort), (.selects "VolumeTurnerModel" y_Mo_areDays y_Mo_areDays), (.selects "VolumeTurnerModel" y_Mo_sumOf y_Mo_sumOf), (.selects "VolumeTurnerModel" y_Mo_isName y_Mo_isName), (.selects "VolumeTurnerModel" y_Mo_shown y_Mo_shown), (.selects "VolumeTurnerModel" y_Mo_said y_Mo_said), (.selects "VolumeTurnerModel" y_Mo_isAlike y_Mo_isAlike), (.selects "VolumeTurnerModel" y_Mo_isTaken y_Mo_isTaken), (.selects "VolumeTurnerModel" y_Mo_taken y_Mo_taken), (.selects "VolumeTurnerModel" y_Mo_changed y_Mo_changed), (.selects "VolumeTurnerModel" y_Mo_none y_Mo_none), (.selects "VolumeTurnerModel" y_Mo_folderHere y_Mo_folderHere), (.selects "VolumeTurnerModel" y_Mo_many y_Mo_many), (.selects "VolumeTurnerModel" y_Mo_no y_Mo_no), (.selects "VolumeTurnerModel" y_Mo_item y_Mo_item), (.selects "VolumeTurnerModel" y_Mo_textSize y_Mo_textSize), (.selects "VolumeTurnerModel" y_Mo_text y_Mo_text), (.selects "VolumeTurnerModel" y_Mo_timeOf y_Mo_timeOf), (.selects "VolumeTurnerModel" y_Mo_fixedNow y_Mo_fixedNow), (.selects "VolumeTurnerModel" y_Mo_free y_Mo_free), (.selects "VolumeTurnerModel" y_Mo_take y_Mo_take), (.selects "VolumeTurnerModel" y_Mo_named y_Mo_named), (.selects "VolumeTurnerModel" y_Mo_isBrief y_Mo_isBrief), (.selects "VolumeTurnerModel" y_Mo_isBriefTaken y_Mo_isBriefTaken), (.selects "VolumeTurnerModel" y_Mo_shorten y_Mo_shorten), (.selects "VolumeTurnerModel" y_Mo_layPart y_Mo_layPart), (.selects "VolumeTurnerModel" y_Mo_append y_Mo_append), (.selects "VolumeTurnerModel" y_Mo_noFile y_Mo_noFile), (.selects "VolumeTurnerModel" y_Mo_folderBlocks y_Mo_folderBlocks), (.selects "VolumeTurnerModel" y_Mo_clustersOf y_Mo_clustersOf), (.selects "VolumeTurnerModel" y_Mo_recordBlocks y_Mo_recordBlocks), (.selects "VolumeTurnerModel" y_Mo_fileBlocks y_Mo_fileBlocks), (.selects "VolumeTurnerModel" y_Mo_groupSize y_Mo_groupSize), (.selects "VolumeTurnerModel" y_Mo_mapOf y_Mo_mapOf), (.selects "VolumeTurnerModel" y_Mo_clusterOf y_Mo_clusterOf), (.selects "VolumeTurnerModel" y_Mo_isRoomy y_Mo_isRoomy), (.selects "VolumeTurnerModel" y_Mo_isFixed y_Mo_isFixed), (.selects "VolumeTurnerModel" y_Mo_badNames y_Mo_badNames), (.selects "VolumeTurnerModel" y_Mo_badTimes y_Mo_badTimes), (.selects "VolumeTurnerModel" y_Mo_finds y_Mo_finds), (.selects "VolumeTurnerModel" y_Mo_refusal y_Mo_refusal), (.selects "VolumeTurnerModel" y_Mo_lay y_Mo_lay), (.selects "VolumeTurnerModel" y_Mo_build y_Mo_build), (.selects "VolumeTurnerModel" y_Mo_inodeAt y_Mo_inodeAt), (.selects "VolumeTurnerModel" y_Mo_standing y_Mo_standing), (.selects "VolumeTurnerModel" y_Mo_copied y_Mo_copied), (.selects "VolumeTurnerModel" y_Mo_inode y_Mo_inode), (.selects "VolumeTurnerModel" y_Mo_numberOf y_Mo_numberOf), (.selects "VolumeTurnerModel" y_Mo_mode y_Mo_mode), (.selects "VolumeTurnerModel" y_Mo_makeRecord y_Mo_makeRecord), (.selects "VolumeTurnerModel" y_Mo_begins y_Mo_begins), (.selects "VolumeTurnerModel" y_Mo_entered y_Mo_entered), (.selects "VolumeTurnerModel" y_Mo_makeFolder y_Mo_makeFolder), (.selects "VolumeTurnerModel" y_Mo_makeFile y_Mo_makeFile), (.selects "VolumeTurnerModel" y_Mo_freeBlocks y_Mo_freeBlocks), (.selects "VolumeTurnerModel" y_Mo_isUsed y_Mo_isUsed), (.selects "VolumeTurnerModel" y_Mo_freeInodes y_Mo_freeInodes), (.selects "VolumeTurnerModel" y_Mo_foldersOf y_Mo_foldersOf), (.selects "VolumeTurnerModel" y_Mo_makeMaps y_Mo_makeMaps), (.selects "VolumeTurnerModel" y_Mo_makeHead y_Mo_makeHead), (.selects "VolumeTurnerModel" y_Mo_turn y_Mo_turn)]
theorem j_Mo_0 : (.initialized "VolumeTurnerModel") ∈ K_Mo := List.mem_of_getElem? (i := 0) rfl
theorem j_Mo_1 : (.instantiable "VolumeTurnerModel" 66) ∈ K_Mo := List.mem_of_getElem? (i := 1) rfl
theorem j_Mo_2 : (.instanceMethod y_Mo_init) ∈ K_Mo := List.mem_of_getElem? (i := 2) rfl
theorem j_Mo_3 : (.code y_Mo_init prog_14_method_1_code 3 none) ∈ K_Mo := List.mem_of_getElem? (i := 3) rfl
theorem j_Mo_4 : (.methodLink "VolumeTurnerModel" 1 objectInit) ∈ K_Mo := List.mem_of_getElem? (i := 4) rfl
theorem j_Mo_5 : (.constant "VolumeTurnerModel" 7 (524288 : Int32)) ∈ K_Mo := List.mem_of_getElem? (i := 5) rfl
theorem j_Mo_6 : (.constant "VolumeTurnerModel" 52 (90000 : Int32)) ∈ K_Mo := List.mem_of_getElem? (i := 6) rfl
theorem j_Mo_7 : (.fieldLink "VolumeTurnerModel" 96 "VolumeTurnerModel" "n" "I") ∈ K_Mo := List.mem_of_getElem? (i := 7) rfl
theorem j_Mo_8 : (.fieldLink "VolumeTurnerModel" 8 "VolumeTurnerModel" "disk" "[B") ∈ K_Mo := List.mem_of_getElem? (i := 8) rfl
theorem j_Mo_9 : (.fieldLink "VolumeTurnerModel" 14 "VolumeTurnerModel" "fresh" "[B") ∈ K_Mo := List.mem_of_getElem? (i := 9) rfl
theorem j_Mo_10 : (.fieldLink "VolumeTurnerModel" 17 "VolumeTurnerModel" "tape" "[B") ∈ K_Mo := List.mem_of_getElem? (i := 10) rfl
theorem j_Mo_11 : (.fieldLink "VolumeTurnerModel" 20 "VolumeTurnerModel" "ready" "[B") ∈ K_Mo := List.mem_of_getElem? (i := 11) rfl
theorem j_Mo_12 : (.fieldLink "VolumeTurnerModel" 296 "VolumeTurnerModel" "taped" "I") ∈ K_Mo := List.mem_of_getElem? (i := 12) rfl
theorem j_Mo_13 : (.fieldLink "VolumeTurnerModel" 100 "VolumeTurnerModel" "thrown" "I") ∈ K_Mo := List.mem_of_getElem? (i := 13) rfl
theorem j_Mo_14 : (.fieldLink "VolumeTurnerModel" 595 "VolumeTurnerModel" "told" "I") ∈ K_Mo := List.mem_of_getElem? (i := 14) rfl
theorem j_Mo_15 : (.fieldLink "VolumeTurnerModel" 293 "VolumeTurnerModel" "fed" "Z") ∈ K_Mo := List.mem_of_getElem? (i := 15) rfl
theorem j_Mo_16 : (.fieldLink "VolumeTurnerModel" 302 "VolumeTurnerModel" "turned" "Z") ∈ K_Mo := List.mem_of_getElem? (i := 16) rfl
theorem j_Mo_17 : (.fieldLink "VolumeTurnerModel" 305 "VolumeTurnerModel" "ran" "Z") ∈ K_Mo := List.mem_of_getElem? (i := 17) rfl
theorem j_Mo_18 : (.fieldLink "VolumeTurnerModel" 138 "VolumeTurnerModel" "c" "I") ∈ K_Mo := List.mem_of_getElem? (i := 18) rfl
theorem j_Mo_19 : (.fieldLink "VolumeTurnerModel" 110 "VolumeTurnerModel" "v" "I") ∈ K_Mo := List.mem_of_getElem? (i := 19) rfl
theorem j_Mo_20 : (.fieldLink "VolumeTurnerModel" 124 "VolumeTurnerModel" "y" "I") ∈ K_Mo := List.mem_of_getElem? (i := 20) rfl
theorem j_Mo_21 : (.fieldLink "VolumeTurnerModel" 113 "VolumeTurnerModel" "z" "I") ∈ K_Mo := List.mem_of_getElem? (i := 21) rfl
theorem j_Mo_22 : (.fieldLink "VolumeTurnerModel" 141 "VolumeTurnerModel" "root" "I") ∈ K_Mo := List.mem_of_getElem? (i := 22) rfl
theorem j_Mo_23 : (.fieldLink "VolumeTurnerModel" 135 "VolumeTurnerModel" "a" "I") ∈ K_Mo := List.mem_of_getElem? (i := 23) rfl
theorem j_Mo_24 : (.fieldLink "VolumeTurnerModel" 132 "VolumeTurnerModel" "k" "I") ∈ K_Mo := List.mem_of_getElem? (i := 24) rfl
theorem j_Mo_25 : (.fieldLink "VolumeTurnerModel" 311 "VolumeTurnerModel" "here" "I") ∈ K_Mo := List.mem_of_getElem? (i := 25) rfl
theorem j_Mo_26 : (.fieldLink "VolumeTurnerModel" 162 "VolumeTurnerModel" "looked" "Z") ∈ K_Mo := List.mem_of_getElem? (i := 26) rfl
theorem j_Mo_27 : (.fieldLink "VolumeTurnerModel" 182 "VolumeTurnerModel" "fault" "I") ∈ K_Mo := List.mem_of_getElem? (i := 27) rfl
theorem j_Mo_28 : (.fieldLink "VolumeTurnerModel" 166 "VolumeTurnerModel" "items" "I") ∈ K_Mo := List.mem_of_getElem? (i := 28) rfl
theorem j_Mo_29 : (.fieldLink "VolumeTurnerModel" 169 "VolumeTurnerModel" "units" "I") ∈ K_Mo := List.mem_of_getElem? (i := 29) rfl
theorem j_Mo_30 : (.fieldLink "VolumeTurnerModel" 23 "VolumeTurnerModel" "chained" "[Z") ∈ K_Mo := List.mem_of_getElem? (i := 30) rfl
theorem j_Mo_31 : (.fieldLink "VolumeTurnerModel" 27 "VolumeTurnerModel" "at" "[I") ∈ K_Mo := List.mem_of_getElem? (i := 31) rfl
theorem j_Mo_32 : (.fieldLink "VolumeTurnerModel" 31 "VolumeTurnerModel" "slot" "[I") ∈ K_Mo := List.mem_of_getElem? (i := 32) rfl
theorem j_Mo_33 : (.fieldLink "VolumeTurnerModel" 34 "VolumeTurnerModel" "parts" "[I") ∈ K_Mo := List.mem_of_getElem? (i := 33) rfl
theorem j_Mo_34 : (.fieldLink "VolumeTurnerModel" 37 "VolumeTurnerModel" "parent" "[I") ∈ K_Mo := List.mem_of_getElem? (i := 34) rfl
theorem j_Mo_35 : (.fieldLink "VolumeTurnerModel" 40 "VolumeTurnerModel" "kids" "[I") ∈ K_Mo := List.mem_of_getElem? (i := 35) rfl
theorem j_Mo_36 : (.fieldLink "VolumeTurnerModel" 43 "VolumeTurnerModel" "firstKid" "[I") ∈ K_Mo := List.mem_of_getElem? (i := 36) rfl
theorem j_Mo_37 : (.fieldLink "VolumeTurnerModel" 46 "VolumeTurnerModel" "nameAt" "[I") ∈ K_Mo := List.mem_of_getElem? (i := 37) rfl
theorem j_Mo_38 : (.fieldLink "VolumeTurnerModel" 49 "VolumeTurnerModel" "nameSize" "[I") ∈ K_Mo := List.mem_of_getElem? (i := 38) rfl
theorem j_Mo_39 : (.fieldLink "VolumeTurnerModel" 53 "VolumeTurnerModel" "unit" "[C") ∈ K_Mo := List.mem_of_getElem? (i := 39) rfl
theorem j_Mo_40 : (.fieldLink "VolumeTurnerModel" 57 "VolumeTurnerModel" "chain" "[I") ∈ K_Mo := List.mem_of_getElem? (i := 40) rfl
theorem j_Mo_41 : (.fieldLink "VolumeTurnerModel" 60 "VolumeTurnerModel" "folder" "[I") ∈ K_Mo := List.mem_of_getElem? (i := 41) rfl
theorem j_Mo_42 : (.fieldLink "VolumeTurnerModel" 153 "VolumeTurnerModel" "links" "I") ∈ K_Mo := List.mem_of_getElem? (i := 42) rfl
theorem j_Mo_43 : (.fieldLink "VolumeTurnerModel" 198 "VolumeTurnerModel" "folders" "I") ∈ K_Mo := List.mem_of_getElem? (i := 43) rfl
theorem j_Mo_44 : (.fieldLink "VolumeTurnerModel" 172 "VolumeTurnerModel" "label" "I") ∈ K_Mo := List.mem_of_getElem? (i := 44) rfl
theorem j_Mo_45 : (.fieldLink "VolumeTurnerModel" 63 "VolumeTurnerModel" "name" "[C") ∈ K_Mo := List.mem_of_getElem? (i := 45) rfl
theorem j_Mo_46 : (.fieldLink "VolumeTurnerModel" 224 "VolumeTurnerModel" "size" "I") ∈ K_Mo := List.mem_of_getElem? (i := 46) rfl
theorem j_Mo_47 : (.fieldLink "VolumeTurnerModel" 204 "VolumeTurnerModel" "met" "I") ∈ K_Mo := List.mem_of_getElem? (i := 47) rfl
theorem j_Mo_48 : (.fieldLink "VolumeTurnerModel" 207 "VolumeTurnerModel" "left" "I") ∈ K_Mo := List.mem_of_getElem? (i := 48) rfl
theorem j_Mo_49 : (.fieldLink "VolumeTurnerModel" 227 "VolumeTurnerModel" "sum" "I") ∈ K_Mo := List.mem_of_getElem? (i := 49) rfl
theorem j_Mo_50 : (.fieldLink "VolumeTurnerModel" 66 "VolumeTurnerModel" "brief" "[I") ∈ K_Mo := List.mem_of_getElem? (i := 50) rfl
theorem j_Mo_51 : (.fieldLink "VolumeTurnerModel" 69 "VolumeTurnerModel" "stem" "[I") ∈ K_Mo := List.mem_of_getElem? (i := 51) rfl
theorem j_Mo_52 : (.fieldLink "VolumeTurnerModel" 72 "VolumeTurnerModel" "tail" "[I") ∈ K_Mo := List.mem_of_getElem? (i := 52) rfl
theorem j_Mo_53 : (.fieldLink "VolumeTurnerModel" 453 "VolumeTurnerModel" "groups" "I") ∈ K_Mo := List.mem_of_getElem? (i := 53) rfl
theorem j_Mo_54 : (.fieldLink "VolumeTurnerModel" 456 "VolumeTurnerModel" "per" "I") ∈ K_Mo := List.mem_of_getElem? (i := 54) rfl
theorem j_Mo_55 : (.fieldLink "VolumeTurnerModel" 495 "VolumeTurnerModel" "inodes" "I") ∈ K_Mo := List.mem_of_getElem? (i := 55) rfl
theorem j_Mo_56 : (.fieldLink "VolumeTurnerModel" 465 "VolumeTurnerModel" "rows" "I") ∈ K_Mo := List.mem_of_getElem? (i := 56) rfl
theorem j_Mo_57 : (.fieldLink "VolumeTurnerModel" 459 "VolumeTurnerModel" "blocks" "I") ∈ K_Mo := List.mem_of_getElem? (i := 57) rfl
theorem j_Mo_58 : (.fieldLink "VolumeTurnerModel" 75 "VolumeTurnerModel" "fixed" "[Z") ∈ K_Mo := List.mem_of_getElem? (i := 58) rfl
theorem j_Mo_59 : (.fieldLink "VolumeTurnerModel" 78 "VolumeTurnerModel" "used" "[Z") ∈ K_Mo := List.mem_of_getElem? (i := 59) rfl
theorem j_Mo_60 : (.fieldLink "VolumeTurnerModel" 81 "VolumeTurnerModel" "moved" "[I") ∈ K_Mo := List.mem_of_getElem? (i := 60) rfl
theorem j_Mo_61 : (.fieldLink "VolumeTurnerModel" 84 "VolumeTurnerModel" "aimed" "[I") ∈ K_Mo := List.mem_of_getElem? (i := 61) rfl
theorem j_Mo_62 : (.fieldLink "VolumeTurnerModel" 87 "VolumeTurnerModel" "built" "[I") ∈ K_Mo := List.mem_of_getElem? (i := 62) rfl
theorem j_Mo_63 : (.fieldLink "VolumeTurnerModel" 471 "VolumeTurnerModel" "fixedBlocks" "I") ∈ K_Mo := List.mem_of_getElem? (i := 63) rfl
theorem j_Mo_64 : (.fieldLink "VolumeTurnerModel" 477 "VolumeTurnerModel" "moves" "I") ∈ K_Mo := List.mem_of_getElem? (i := 64) rfl
theorem j_Mo_65 : (.fieldLink "VolumeTurnerModel" 486 "VolumeTurnerModel" "builds" "I") ∈ K_Mo := List.mem_of_getElem? (i := 65) rfl
theorem j_Mo_66 : (.fieldLink "VolumeTurnerModel" 489 "VolumeTurnerModel" "kept" "I") ∈ K_Mo := List.mem_of_getElem? (i := 66) rfl
theorem j_Mo_67 : (.fieldLink "VolumeTurnerModel" 513 "VolumeTurnerModel" "next" "I") ∈ K_Mo := List.mem_of_getElem? (i := 67) rfl
theorem j_Mo_68 : (.fieldLink "VolumeTurnerModel" 90 "VolumeTurnerModel" "record" "[I") ∈ K_Mo := List.mem_of_getElem? (i := 68) rfl
theorem j_Mo_69 : (.fieldLink "VolumeTurnerModel" 93 "VolumeTurnerModel" "list" "[I") ∈ K_Mo := List.mem_of_getElem? (i := 69) rfl
theorem j_Mo_70 : (.fieldLink "VolumeTurnerModel" 539 "VolumeTurnerModel" "spot" "I") ∈ K_Mo := List.mem_of_getElem? (i := 70) rfl
theorem j_Mo_71 : (.fieldLink "VolumeTurnerModel" 542 "VolumeTurnerModel" "filled" "I") ∈ K_Mo := List.mem_of_getElem? (i := 71) rfl
theorem j_Mo_72 : (.fieldLink "VolumeTurnerModel" 545 "VolumeTurnerModel" "latest" "I") ∈ K_Mo := List.mem_of_getElem? (i := 72) rfl
theorem j_Mo_73 : (.instanceMethod y_Mo_thrown) ∈ K_Mo := List.mem_of_getElem? (i := 73) rfl
theorem j_Mo_74 : (.selects "VolumeTurnerModel" y_Mo_thrown y_Mo_thrown) ∈ K_Mo := List.mem_of_getElem? (i := 74) rfl
theorem j_Mo_75 : (.code y_Mo_thrown prog_14_method_2_code 1 (some .int)) ∈ K_Mo := List.mem_of_getElem? (i := 75) rfl
theorem j_Mo_76 : (.instanceMethod y_Mo_feed) ∈ K_Mo := List.mem_of_getElem? (i := 76) rfl
theorem j_Mo_77 : (.selects "VolumeTurnerModel" y_Mo_feed y_Mo_feed) ∈ K_Mo := List.mem_of_getElem? (i := 77) rfl
theorem j_Mo_78 : (.code y_Mo_feed prog_14_method_43_code 8 none) ∈ K_Mo := List.mem_of_getElem? (i := 78) rfl
theorem j_Mo_79 : (.instanceMethod y_Mo_end) ∈ K_Mo := List.mem_of_getElem? (i := 79) rfl
theorem j_Mo_80 : (.selects "VolumeTurnerModel" y_Mo_end y_Mo_end) ∈ K_Mo := List.mem_of_getElem? (i := 80) rfl
theorem j_Mo_81 : (.code y_Mo_end prog_14_method_44_code 3 (some .int)) ∈ K_Mo := List.mem_of_getElem? (i := 81) rfl
theorem j_Mo_82 : (.instanceMethod y_Mo_clear) ∈ K_Mo := List.mem_of_getElem? (i := 82) rfl
theorem j_Mo_83 : (.selects "VolumeTurnerModel" y_Mo_clear y_Mo_clear) ∈ K_Mo := List.mem_of_getElem? (i := 83) rfl
theorem j_Mo_84 : (.code y_Mo_clear prog_14_method_45_code 1 none) ∈ K_Mo := List.mem_of_getElem? (i := 84) rfl
theorem j_Mo_85 : (.instanceMethod y_Mo_kind) ∈ K_Mo := List.mem_of_getElem? (i := 85) rfl
theorem j_Mo_86 : (.selects "VolumeTurnerModel" y_Mo_kind y_Mo_kind) ∈ K_Mo := List.mem_of_getElem? (i := 86) rfl
theorem j_Mo_87 : (.code y_Mo_kind prog_14_method_47_code 1 (some .int)) ∈ K_Mo := List.mem_of_getElem? (i := 87) rfl
theorem j_Mo_88 : (.methodLink "VolumeTurnerModel" 299 y_Mo_look) ∈ K_Mo := List.mem_of_getElem? (i := 88) rfl
theorem j_Mo_89 : (.instanceMethod y_Mo_look) ∈ K_Mo := List.mem_of_getElem? (i := 89) rfl
theorem j_Mo_90 : (.code y_Mo_look prog_14_method_22_code 2 none) ∈ K_Mo := List.mem_of_getElem? (i := 90) rfl
theorem j_Mo_91 : (.methodLink "VolumeTurnerModel" 175 y_Mo_head) ∈ K_Mo := List.mem_of_getElem? (i := 91) rfl
theorem j_Mo_92 : (.instanceMethod y_Mo_head) ∈ K_Mo := List.mem_of_getElem? (i := 92) rfl
theorem j_Mo_93 : (.code y_Mo_head prog_14_method_14_code 2 (some .boolean)) ∈ K_Mo := List.mem_of_getElem? (i := 93) rfl
theorem j_Mo_94 : (.methodLink "VolumeTurnerModel" 103 y_Mo_one) ∈ K_Mo := List.mem_of_getElem? (i := 94) rfl
theorem j_Mo_95 : (.instanceMethod y_Mo_one) ∈ K_Mo := List.mem_of_getElem? (i := 95) rfl
theorem j_Mo_96 : (.code y_Mo_one prog_14_method_4_code 2 (some .int)) ∈ K_Mo := List.mem_of_getElem? (i := 96) rfl
theorem j_Mo_97 : (.methodLink "VolumeTurnerModel" 107 y_Mo_two) ∈ K_Mo := List.mem_of_getElem? (i := 97) rfl
theorem j_Mo_98 : (.instanceMethod y_Mo_two) ∈ K_Mo := List.mem_of_getElem? (i := 98) rfl
theorem j_Mo_99 : (.code y_Mo_two prog_14_method_5_code 2 (some .int)) ∈ K_Mo := List.mem_of_getElem? (i := 99) rfl
theorem j_Mo_100 : (.methodLink "VolumeTurnerModel" 120 y_Mo_four) ∈ K_Mo := List.mem_of_getElem? (i := 100) rfl
theorem j_Mo_101 : (.instanceMethod y_Mo_four) ∈ K_Mo := List.mem_of_getElem? (i := 101) rfl
theorem j_Mo_102 : (.code y_Mo_four prog_14_method_6_code 2 (some .int)) ∈ K_Mo := List.mem_of_getElem? (i := 102) rfl
theorem j_Mo_103 : (.constant "VolumeTurnerModel" 144 (43605 : Int32)) ∈ K_Mo := List.mem_of_getElem? (i := 103) rfl
theorem j_Mo_104 : (.methodLink "VolumeTurnerModel" 145 y_Mo_isCluster) ∈ K_Mo := List.mem_of_getElem? (i := 104) rfl
theorem j_Mo_105 : (.instanceMethod y_Mo_isCluster) ∈ K_Mo := List.mem_of_getElem? (i := 105) rfl
theorem j_Mo_106 : (.code y_Mo_isCluster prog_14_method_12_code 2 (some .boolean)) ∈ K_Mo := List.mem_of_getElem? (i := 106) rfl
theorem j_Mo_107 : (.methodLink "VolumeTurnerModel" 179 y_Mo_badTables) ∈ K_Mo := List.mem_of_getElem? (i := 107) rfl
theorem j_Mo_108 : (.instanceMethod y_Mo_badTables) ∈ K_Mo := List.mem_of_getElem? (i := 108) rfl
theorem j_Mo_109 : (.code y_Mo_badTables prog_14_method_15_code 4 (some .boolean)) ∈ K_Mo := List.mem_of_getElem? (i := 109) rfl
theorem j_Mo_110 : (.methodLink "VolumeTurnerModel" 149 y_Mo_entry) ∈ K_Mo := List.mem_of_getElem? (i := 110) rfl
theorem j_Mo_111 : (.instanceMethod y_Mo_entry) ∈ K_Mo := List.mem_of_getElem? (i := 111) rfl
theorem j_Mo_112 : (.code y_Mo_entry prog_14_method_10_code 2 (some .int)) ∈ K_Mo := List.mem_of_getElem? (i := 112) rfl
theorem j_Mo_113 : (.methodLink "VolumeTurnerModel" 116 y_Mo_entryAt) ∈ K_Mo := List.mem_of_getElem? (i := 113) rfl
theorem j_Mo_114 : (.instanceMethod y_Mo_entryAt) ∈ K_Mo := List.mem_of_getElem? (i := 114) rfl
theorem j_Mo_115 : (.code y_Mo_entryAt prog_14_method_9_code 3 (some .int)) ∈ K_Mo := List.mem_of_getElem? (i := 115) rfl
theorem j_Mo_116 : (.constant "VolumeTurnerModel" 123 (268435455 : Int32)) ∈ K_Mo := List.mem_of_getElem? (i := 116) rfl
theorem j_Mo_117 : (.constant "VolumeTurnerModel" 152 (268435448 : Int32)) ∈ K_Mo := List.mem_of_getElem? (i := 117) rfl
theorem j_Mo_118 : (.methodLink "VolumeTurnerModel" 185 y_Mo_isFolder) ∈ K_Mo := List.mem_of_getElem? (i := 118) rfl
theorem j_Mo_119 : (.instanceMethod y_Mo_isFolder) ∈ K_Mo := List.mem_of_getElem? (i := 119) rfl
theorem j_Mo_120 : (.code y_Mo_isFolder prog_14_method_19_code 2 (some .boolean)) ∈ K_Mo := List.mem_of_getElem? (i := 120) rfl
theorem j_Mo_121 : (.methodLink "VolumeTurnerModel" 188 y_Mo_scan) ∈ K_Mo := List.mem_of_getElem? (i := 121) rfl
theorem j_Mo_122 : (.instanceMethod y_Mo_scan) ∈ K_Mo := List.mem_of_getElem? (i := 122) rfl
theorem j_Mo_123 : (.code y_Mo_scan prog_14_method_24_code 4 none) ∈ K_Mo := List.mem_of_getElem? (i := 123) rfl
theorem j_Mo_124 : (.methodLink "VolumeTurnerModel" 192 y_Mo_beginOf) ∈ K_Mo := List.mem_of_getElem? (i := 124) rfl
theorem j_Mo_125 : (.instanceMethod y_Mo_beginOf) ∈ K_Mo := List.mem_of_getElem? (i := 125) rfl
theorem j_Mo_126 : (.code y_Mo_beginOf prog_14_method_20_code 2 (some .int)) ∈ K_Mo := List.mem_of_getElem? (i := 126) rfl
theorem j_Mo_127 : (.methodLink "VolumeTurnerModel" 156 y_Mo_firstOf) ∈ K_Mo := List.mem_of_getElem? (i := 127) rfl
theorem j_Mo_128 : (.instanceMethod y_Mo_firstOf) ∈ K_Mo := List.mem_of_getElem? (i := 128) rfl
theorem j_Mo_129 : (.code y_Mo_firstOf prog_14_method_18_code 2 (some .int)) ∈ K_Mo := List.mem_of_getElem? (i := 129) rfl
theorem j_Mo_130 : (.methodLink "VolumeTurnerModel" 201 y_Mo_follows) ∈ K_Mo := List.mem_of_getElem? (i := 130) rfl
theorem j_Mo_131 : (.instanceMethod y_Mo_follows) ∈ K_Mo := List.mem_of_getElem? (i := 131) rfl
theorem j_Mo_132 : (.code y_Mo_follows prog_14_method_16_code 3 (some .boolean)) ∈ K_Mo := List.mem_of_getElem? (i := 132) rfl
theorem j_Mo_133 : (.methodLink "VolumeTurnerModel" 210 y_Mo_slotAt) ∈ K_Mo := List.mem_of_getElem? (i := 133) rfl
theorem j_Mo_134 : (.instanceMethod y_Mo_slotAt) ∈ K_Mo := List.mem_of_getElem? (i := 134) rfl
theorem j_Mo_135 : (.code y_Mo_slotAt prog_14_method_21_code 2 (some .int)) ∈ K_Mo := List.mem_of_getElem? (i := 135) rfl
theorem j_Mo_136 : (.methodLink "VolumeTurnerModel" 159 y_Mo_place) ∈ K_Mo := List.mem_of_getElem? (i := 136) rfl
theorem j_Mo_137 : (.instanceMethod y_Mo_place) ∈ K_Mo := List.mem_of_getElem? (i := 137) rfl
theorem j_Mo_138 : (.code y_Mo_place prog_14_method_13_code 2 (some .int)) ∈ K_Mo := List.mem_of_getElem? (i := 138) rfl
theorem j_Mo_139 : (.methodLink "VolumeTurnerModel" 213 y_Mo_dots) ∈ K_Mo := List.mem_of_getElem? (i := 139) rfl
theorem j_Mo_140 : (.instanceMethod y_Mo_dots) ∈ K_Mo := List.mem_of_getElem? (i := 140) rfl
theorem j_Mo_141 : (.code y_Mo_dots prog_14_method_25_code 5 (some .boolean)) ∈ K_Mo := List.mem_of_getElem? (i := 141) rfl
theorem j_Mo_142 : (.methodLink "VolumeTurnerModel" 217 y_Mo_part) ∈ K_Mo := List.mem_of_getElem? (i := 142) rfl
theorem j_Mo_143 : (.instanceMethod y_Mo_part) ∈ K_Mo := List.mem_of_getElem? (i := 143) rfl
theorem j_Mo_144 : (.code y_Mo_part prog_14_method_26_code 4 (some .boolean)) ∈ K_Mo := List.mem_of_getElem? (i := 144) rfl
theorem j_Mo_145 : (.methodLink "VolumeTurnerModel" 274 y_Mo_areDays) ∈ K_Mo := List.mem_of_getElem? (i := 145) rfl
theorem j_Mo_146 : (.instanceMethod y_Mo_areDays) ∈ K_Mo := List.mem_of_getElem? (i := 146) rfl
theorem j_Mo_147 : (.code y_Mo_areDays prog_14_method_34_code 2 (some .boolean)) ∈ K_Mo := List.mem_of_getElem? (i := 147) rfl
theorem j_Mo_148 : (.methodLink "VolumeTurnerModel" 253 y_Mo_isMade) ∈ K_Mo := List.mem_of_getElem? (i := 148) rfl
theorem j_Mo_149 : (.static y_Mo_isMade) ∈ K_Mo := List.mem_of_getElem? (i := 149) rfl
theorem j_Mo_150 : (.code y_Mo_isMade prog_14_method_33_code 3 (some .boolean)) ∈ K_Mo := List.mem_of_getElem? (i := 150) rfl
theorem j_Mo_151 : (.methodLink "VolumeTurnerModel" 247 y_Mo_isDay) ∈ K_Mo := List.mem_of_getElem? (i := 151) rfl
theorem j_Mo_152 : (.static y_Mo_isDay) ∈ K_Mo := List.mem_of_getElem? (i := 152) rfl
theorem j_Mo_153 : (.code y_Mo_isDay prog_14_method_31_code 2 (some .boolean)) ∈ K_Mo := List.mem_of_getElem? (i := 153) rfl
theorem j_Mo_154 : (.constant "VolumeTurnerModel" 243 (65536 : Int32)) ∈ K_Mo := List.mem_of_getElem? (i := 154) rfl
theorem j_Mo_155 : (.methodLink "VolumeTurnerModel" 244 y_Mo_daysOf) ∈ K_Mo := List.mem_of_getElem? (i := 155) rfl
theorem j_Mo_156 : (.static y_Mo_daysOf) ∈ K_Mo := List.mem_of_getElem? (i := 156) rfl
theorem j_Mo_157 : (.code y_Mo_daysOf prog_14_method_30_code 2 (some .int)) ∈ K_Mo := List.mem_of_getElem? (i := 157) rfl
theorem j_Mo_158 : (.methodLink "VolumeTurnerModel" 240 y_Mo_isLeap) ∈ K_Mo := List.mem_of_getElem? (i := 158) rfl
theorem j_Mo_159 : (.static y_Mo_isLeap) ∈ K_Mo := List.mem_of_getElem? (i := 159) rfl
theorem j_Mo_160 : (.code y_Mo_isLeap prog_14_method_29_code 1 (some .boolean)) ∈ K_Mo := List.mem_of_getElem? (i := 160) rfl
theorem j_Mo_161 : (.methodLink "VolumeTurnerModel" 250 y_Mo_isTime) ∈ K_Mo := List.mem_of_getElem? (i := 161) rfl
theorem j_Mo_162 : (.static y_Mo_isTime) ∈ K_Mo := List.mem_of_getElem? (i := 162) rfl
theorem j_Mo_163 : (.code y_Mo_isTime prog_14_method_32_code 1 (some .boolean)) ∈ K_Mo := List.mem_of_getElem? (i := 163) rfl
theorem j_Mo_164 : (.methodLink "VolumeTurnerModel" 277 y_Mo_isShort) ∈ K_Mo := List.mem_of_getElem? (i := 164) rfl
theorem j_Mo_165 : (.instanceMethod y_Mo_isShort) ∈ K_Mo := List.mem_of_getElem? (i := 165) rfl
theorem j_Mo_166 : (.code y_Mo_isShort prog_14_method_28_code 6 (some .boolean)) ∈ K_Mo := List.mem_of_getElem? (i := 166) rfl
theorem j_Mo_167 : (.methodLink "VolumeTurnerModel" 237 y_Mo_isShortSign) ∈ K_Mo := List.mem_of_getElem? (i := 167) rfl
theorem j_Mo_168 : (.static y_Mo_isShortSign) ∈ K_Mo := List.mem_of_getElem? (i := 168) rfl
theorem j_Mo_169 : (.code y_Mo_isShortSign prog_14_method_27_code 1 (some .boolean)) ∈ K_Mo := List.mem_of_getElem? (i := 169) rfl
theorem j_Mo_170 : (.methodLink "VolumeTurnerModel" 232 ⟨"java/lang/String", "indexOf", "(I)I"⟩) ∈ K_Mo := List.mem_of_getElem? (i := 170) rfl
theorem j_Mo_171 : (.methodLink "VolumeTurnerModel" 281 y_Mo_sumOf) ∈ K_Mo := List.mem_of_getElem? (i := 171) rfl
theorem j_Mo_172 : (.instanceMethod y_Mo_sumOf) ∈ K_Mo := List.mem_of_getElem? (i := 172) rfl
theorem j_Mo_173 : (.code y_Mo_sumOf prog_14_method_35_code 4 (some .int)) ∈ K_Mo := List.mem_of_getElem? (i := 173) rfl
theorem j_Mo_174 : (.methodLink "VolumeTurnerModel" 284 y_Mo_said) ∈ K_Mo := List.mem_of_getElem? (i := 174) rfl
theorem j_Mo_175 : (.instanceMethod y_Mo_said) ∈ K_Mo := List.mem_of_getElem? (i := 175) rfl
theorem j_Mo_176 : (.code y_Mo_said prog_14_method_38_code 4 (some .boolean)) ∈ K_Mo := List.mem_of_getElem? (i := 176) rfl
theorem j_Mo_177 : (.constant "VolumeTurnerModel" 261 (65535 : Int32)) ∈ K_Mo := List.mem_of_getElem? (i := 177) rfl
theorem j_Mo_178 : (.methodLink "VolumeTurnerModel" 262 y_Mo_whole) ∈ K_Mo := List.mem_of_getElem? (i := 178) rfl
theorem j_Mo_179 : (.static y_Mo_whole) ∈ K_Mo := List.mem_of_getElem? (i := 179) rfl
theorem j_Mo_180 : (.code y_Mo_whole prog_14_method_8_code 2 (some .int)) ∈ K_Mo := List.mem_of_getElem? (i := 180) rfl
theorem j_Mo_181 : (.methodLink "VolumeTurnerModel" 265 y_Mo_isName) ∈ K_Mo := List.mem_of_getElem? (i := 181) rfl
theorem j_Mo_182 : (.instanceMethod y_Mo_isName) ∈ K_Mo := List.mem_of_getElem? (i := 182) rfl
theorem j_Mo_183 : (.code y_Mo_isName prog_14_method_36_code 4 (some .boolean)) ∈ K_Mo := List.mem_of_getElem? (i := 183) rfl
theorem j_Mo_184 : (.constant "VolumeTurnerModel" 256 (55296 : Int32)) ∈ K_Mo := List.mem_of_getElem? (i := 184) rfl
theorem j_Mo_185 : (.constant "VolumeTurnerModel" 257 (57343 : Int32)) ∈ K_Mo := List.mem_of_getElem? (i := 185) rfl
theorem j_Mo_186 : (.constant "VolumeTurnerModel" 258 (65533 : Int32)) ∈ K_Mo := List.mem_of_getElem? (i := 186) rfl
theorem j_Mo_187 : (.methodLink "VolumeTurnerModel" 287 y_Mo_shown) ∈ K_Mo := List.mem_of_getElem? (i := 187) rfl
theorem j_Mo_188 : (.instanceMethod y_Mo_shown) ∈ K_Mo := List.mem_of_getElem? (i := 188) rfl
theorem j_Mo_189 : (.code y_Mo_shown prog_14_method_37_code 3 none) ∈ K_Mo := List.mem_of_getElem? (i := 189) rfl
theorem j_Mo_190 : (.methodLink "VolumeTurnerModel" 290 y_Mo_isTaken) ∈ K_Mo := List.mem_of_getElem? (i := 190) rfl
theorem j_Mo_191 : (.instanceMethod y_Mo_isTaken) ∈ K_Mo := List.mem_of_getElem? (i := 191) rfl
theorem j_Mo_192 : (.code y_Mo_isTaken prog_14_method_41_code 4 (some .boolean)) ∈ K_Mo := List.mem_of_getElem? (i := 192) rfl
theorem j_Mo_193 : (.methodLink "VolumeTurnerModel" 271 y_Mo_isAlike) ∈ K_Mo := List.mem_of_getElem? (i := 193) rfl
theorem j_Mo_194 : (.instanceMethod y_Mo_isAlike) ∈ K_Mo := List.mem_of_getElem? (i := 194) rfl
theorem j_Mo_195 : (.code y_Mo_isAlike prog_14_method_40_code 4 (some .boolean)) ∈ K_Mo := List.mem_of_getElem? (i := 195) rfl
theorem j_Mo_196 : (.methodLink "VolumeTurnerModel" 268 y_Mo_capital) ∈ K_Mo := List.mem_of_getElem? (i := 196) rfl
theorem j_Mo_197 : (.static y_Mo_capital) ∈ K_Mo := List.mem_of_getElem? (i := 197) rfl
theorem j_Mo_198 : (.code y_Mo_capital prog_14_method_39_code 1 (some .int)) ∈ K_Mo := List.mem_of_getElem? (i := 198) rfl
theorem j_Mo_199 : (.instanceMethod y_Mo_fault) ∈ K_Mo := List.mem_of_getElem? (i := 199) rfl
theorem j_Mo_200 : (.selects "VolumeTurnerModel" y_Mo_fault y_Mo_fault) ∈ K_Mo := List.mem_of_getElem? (i := 200) rfl
theorem j_Mo_201 : (.code y_Mo_fault prog_14_method_48_code 1 (some .int)) ∈ K_Mo := List.mem_of_getElem? (i := 201) rfl
theorem j_Mo_202 : (.instanceMethod y_Mo_poke) ∈ K_Mo := List.mem_of_getElem? (i := 202) rfl
theorem j_Mo_203 : (.selects "VolumeTurnerModel" y_Mo_poke y_Mo_poke) ∈ K_Mo := List.mem_of_getElem? (i := 203) rfl
theorem j_Mo_204 : (.code y_Mo_poke prog_14_method_50_code 4 (some .boolean)) ∈ K_Mo := List.mem_of_getElem? (i := 204) rfl
theorem j_Mo_205 : (.methodLink "VolumeTurnerModel" 308 y_Mo_changed) ∈ K_Mo := List.mem_of_getElem? (i := 205) rfl
theorem j_Mo_206 : (.instanceMethod y_Mo_changed) ∈ K_Mo := List.mem_of_getElem? (i := 206) rfl
theorem j_Mo_207 : (.code y_Mo_changed prog_14_method_49_code 1 none) ∈ K_Mo := List.mem_of_getElem? (i := 207) rfl
theorem j_Mo_208 : (.instanceMethod y_Mo_byteAt) ∈ K_Mo := List.mem_of_getElem? (i := 208) rfl
theorem j_Mo_209 : (.selects "VolumeTurnerModel" y_Mo_byteAt y_Mo_byteAt) ∈ K_Mo := List.mem_of_getElem? (i := 209) rfl
theorem j_Mo_210 : (.code y_Mo_byteAt prog_14_method_51_code 4 (some .int)) ∈ K_Mo := List.mem_of_getElem? (i := 210) rfl
theorem j_Mo_211 : (.instanceMethod y_Mo_format) ∈ K_Mo := List.mem_of_getElem? (i := 211) rfl
theorem j_Mo_212 : (.selects "VolumeTurnerModel" y_Mo_format y_Mo_format) ∈ K_Mo := List.mem_of_getElem? (i := 212) rfl
theorem j_Mo_213 : (.code y_Mo_format prog_14_method_52_code 11 (some .int)) ∈ K_Mo := List.mem_of_getElem? (i := 213) rfl
theorem j_Mo_214 : (.methodLink "VolumeTurnerModel" 314 y_Mo_taken) ∈ K_Mo := List.mem_of_getElem? (i := 214) rfl
theorem j_Mo_215 : (.instanceMethod y_Mo_taken) ∈ K_Mo := List.mem_of_getElem? (i := 215) rfl
theorem j_Mo_216 : (.code y_Mo_taken prog_14_method_46_code 2 (some .int)) ∈ K_Mo := List.mem_of_getElem? (i := 216) rfl
theorem j_Mo_217 : (.methodLink "VolumeTurnerModel" 317 y_Mo_fails) ∈ K_Mo := List.mem_of_getElem? (i := 217) rfl
theorem j_Mo_218 : (.instanceMethod y_Mo_fails) ∈ K_Mo := List.mem_of_getElem? (i := 218) rfl
theorem j_Mo_219 : (.code y_Mo_fails prog_14_method_3_code 3 (some .boolean)) ∈ K_Mo := List.mem_of_getElem? (i := 219) rfl
theorem j_Mo_220 : (.constantLong "VolumeTurnerModel" 321 (512 : Int64)) ∈ K_Mo := List.mem_of_getElem? (i := 220) rfl
theorem j_Mo_221 : (.methodLink "VolumeTurnerModel" 128 y_Mo_set) ∈ K_Mo := List.mem_of_getElem? (i := 221) rfl
theorem j_Mo_222 : (.instanceMethod y_Mo_set) ∈ K_Mo := List.mem_of_getElem? (i := 222) rfl
theorem j_Mo_223 : (.code y_Mo_set prog_14_method_7_code 6 none) ∈ K_Mo := List.mem_of_getElem? (i := 223) rfl
theorem j_Mo_224 : (.constantLong "VolumeTurnerModel" 323 (2 : Int64)) ∈ K_Mo := List.mem_of_getElem? (i := 224) rfl
theorem j_Mo_225 : (.constantLong "VolumeTurnerModel" 325 (6 : Int64)) ∈ K_Mo := List.mem_of_getElem? (i := 225) rfl
theorem j_Mo_226 : (.constantLong "VolumeTurnerModel" 327 (43605 : Int64)) ∈ K_Mo := List.mem_of_getElem? (i := 226) rfl
theorem j_Mo_227 : (.constantLong "VolumeTurnerModel" 329 (1096897106 : Int64)) ∈ K_Mo := List.mem_of_getElem? (i := 227) rfl
theorem j_Mo_228 : (.constantLong "VolumeTurnerModel" 331 (1631679090 : Int64)) ∈ K_Mo := List.mem_of_getElem? (i := 228) rfl
theorem j_Mo_229 : (.constantLong "VolumeTurnerModel" 333 (4294967295 : Int64)) ∈ K_Mo := List.mem_of_getElem? (i := 229) rfl
theorem j_Mo_230 : (.constantLong "VolumeTurnerModel" 335 (2857697280 : Int64)) ∈ K_Mo := List.mem_of_getElem? (i := 230) rfl
theorem j_Mo_231 : (.methodLink "VolumeTurnerModel" 337 y_Mo_setEntry) ∈ K_Mo := List.mem_of_getElem? (i := 231) rfl
theorem j_Mo_232 : (.instanceMethod y_Mo_setEntry) ∈ K_Mo := List.mem_of_getElem? (i := 232) rfl
theorem j_Mo_233 : (.code y_Mo_setEntry prog_14_method_11_code 5 none) ∈ K_Mo := List.mem_of_getElem? (i := 233) rfl
theorem j_Mo_234 : (.constant "VolumeTurnerModel" 127 (-268435456 : Int32)) ∈ K_Mo := List.mem_of_getElem? (i := 234) rfl
theorem j_Mo_235 : (.constantLong "VolumeTurnerModel" 341 (8 : Int64)) ∈ K_Mo := List.mem_of_getElem? (i := 235) rfl
theorem j_Mo_236 : (.constantLong "VolumeTurnerModel" 343 (33 : Int64)) ∈ K_Mo := List.mem_of_getElem? (i := 236) rfl
theorem j_Mo_237 : (.instanceMethod y_Mo_items) ∈ K_Mo := List.mem_of_getElem? (i := 237) rfl
theorem j_Mo_238 : (.selects "VolumeTurnerModel" y_Mo_items y_Mo_items) ∈ K_Mo := List.mem_of_getElem? (i := 238) rfl
theorem j_Mo_239 : (.code y_Mo_items prog_14_method_56_code 1 (some .int)) ∈ K_Mo := List.mem_of_getElem? (i := 239) rfl
theorem j_Mo_240 : (.methodLink "VolumeTurnerModel" 349 y_Mo_none) ∈ K_Mo := List.mem_of_getElem? (i := 240) rfl
theorem j_Mo_241 : (.instanceMethod y_Mo_none) ∈ K_Mo := List.mem_of_getElem? (i := 241) rfl
theorem j_Mo_242 : (.code y_Mo_none prog_14_method_53_code 1 (some .boolean)) ∈ K_Mo := List.mem_of_getElem? (i := 242) rfl
theorem j_Mo_243 : (.methodLink "VolumeTurnerModel" 352 y_Mo_many) ∈ K_Mo := List.mem_of_getElem? (i := 243) rfl
theorem j_Mo_244 : (.instanceMethod y_Mo_many) ∈ K_Mo := List.mem_of_getElem? (i := 244) rfl
theorem j_Mo_245 : (.code y_Mo_many prog_14_method_55_code 1 (some .int)) ∈ K_Mo := List.mem_of_getElem? (i := 245) rfl
theorem j_Mo_246 : (.methodLink "VolumeTurnerModel" 345 y_Mo_folderHere) ∈ K_Mo := List.mem_of_getElem? (i := 246) rfl
theorem j_Mo_247 : (.instanceMethod y_Mo_folderHere) ∈ K_Mo := List.mem_of_getElem? (i := 247) rfl
theorem j_Mo_248 : (.code y_Mo_folderHere prog_14_method_54_code 2 (some .int)) ∈ K_Mo := List.mem_of_getElem? (i := 248) rfl
theorem j_Mo_249 : (.instanceMethod y_Mo_letter) ∈ K_Mo := List.mem_of_getElem? (i := 249) rfl
theorem j_Mo_250 : (.selects "VolumeTurnerModel" y_Mo_letter y_Mo_letter) ∈ K_Mo := List.mem_of_getElem? (i := 250) rfl
theorem j_Mo_251 : (.code y_Mo_letter prog_14_method_62_code 3 (some .int)) ∈ K_Mo := List.mem_of_getElem? (i := 251) rfl
theorem j_Mo_252 : (.methodLink "VolumeTurnerModel" 364 y_Mo_no) ∈ K_Mo := List.mem_of_getElem? (i := 252) rfl
theorem j_Mo_253 : (.instanceMethod y_Mo_no) ∈ K_Mo := List.mem_of_getElem? (i := 253) rfl
theorem j_Mo_254 : (.code y_Mo_no prog_14_method_57_code 2 (some .boolean)) ∈ K_Mo := List.mem_of_getElem? (i := 254) rfl
theorem j_Mo_255 : (.methodLink "VolumeTurnerModel" 367 y_Mo_item) ∈ K_Mo := List.mem_of_getElem? (i := 255) rfl
theorem j_Mo_256 : (.instanceMethod y_Mo_item) ∈ K_Mo := List.mem_of_getElem? (i := 256) rfl
theorem j_Mo_257 : (.code y_Mo_item prog_14_method_58_code 2 (some .int)) ∈ K_Mo := List.mem_of_getElem? (i := 257) rfl
theorem j_Mo_258 : (.methodLink "VolumeTurnerModel" 370 y_Mo_text) ∈ K_Mo := List.mem_of_getElem? (i := 258) rfl
theorem j_Mo_259 : (.instanceMethod y_Mo_text) ∈ K_Mo := List.mem_of_getElem? (i := 259) rfl
theorem j_Mo_260 : (.code y_Mo_text prog_14_method_61_code 7 (some .int)) ∈ K_Mo := List.mem_of_getElem? (i := 260) rfl
theorem j_Mo_261 : (.methodLink "VolumeTurnerModel" 360 ⟨"java/lang/String", "charAt", "(I)C"⟩) ∈ K_Mo := List.mem_of_getElem? (i := 261) rfl
theorem j_Mo_262 : (.methodLink "VolumeTurnerModel" 355 y_Mo_bytesOf) ∈ K_Mo := List.mem_of_getElem? (i := 262) rfl
theorem j_Mo_263 : (.static y_Mo_bytesOf) ∈ K_Mo := List.mem_of_getElem? (i := 263) rfl
theorem j_Mo_264 : (.code y_Mo_bytesOf prog_14_method_59_code 1 (some .int)) ∈ K_Mo := List.mem_of_getElem? (i := 264) rfl
theorem j_Mo_265 : (.instanceMethod y_Mo_about) ∈ K_Mo := List.mem_of_getElem? (i := 265) rfl
theorem j_Mo_266 : (.selects "VolumeTurnerModel" y_Mo_about y_Mo_about) ∈ K_Mo := List.mem_of_getElem? (i := 266) rfl
theorem j_Mo_267 : (.code y_Mo_about prog_14_method_65_code 4 (some .long)) ∈ K_Mo := List.mem_of_getElem? (i := 267) rfl
theorem j_Mo_268 : (.constantLong "VolumeTurnerModel" 387 (1024 : Int64)) ∈ K_Mo := List.mem_of_getElem? (i := 268) rfl
theorem j_Mo_269 : (.methodLink "VolumeTurnerModel" 389 y_Mo_recordBlocks) ∈ K_Mo := List.mem_of_getElem? (i := 269) rfl
theorem j_Mo_270 : (.instanceMethod y_Mo_recordBlocks) ∈ K_Mo := List.mem_of_getElem? (i := 270) rfl
theorem j_Mo_271 : (.code y_Mo_recordBlocks prog_14_method_88_code 3 (some .int)) ∈ K_Mo := List.mem_of_getElem? (i := 271) rfl
theorem j_Mo_272 : (.methodLink "VolumeTurnerModel" 450 y_Mo_clustersOf) ∈ K_Mo := List.mem_of_getElem? (i := 272) rfl
theorem j_Mo_273 : (.instanceMethod y_Mo_clustersOf) ∈ K_Mo := List.mem_of_getElem? (i := 273) rfl
theorem j_Mo_274 : (.code y_Mo_clustersOf prog_14_method_87_code 2 (some .int)) ∈ K_Mo := List.mem_of_getElem? (i := 274) rfl
theorem j_Mo_275 : (.methodLink "VolumeTurnerModel" 195 y_Mo_walk) ∈ K_Mo := List.mem_of_getElem? (i := 275) rfl
theorem j_Mo_276 : (.instanceMethod y_Mo_walk) ∈ K_Mo := List.mem_of_getElem? (i := 276) rfl
theorem j_Mo_277 : (.code y_Mo_walk prog_14_method_17_code 3 none) ∈ K_Mo := List.mem_of_getElem? (i := 277) rfl
theorem j_Mo_278 : (.methodLink "VolumeTurnerModel" 392 y_Mo_timeOf) ∈ K_Mo := List.mem_of_getElem? (i := 278) rfl
theorem j_Mo_279 : (.instanceMethod y_Mo_timeOf) ∈ K_Mo := List.mem_of_getElem? (i := 279) rfl
theorem j_Mo_280 : (.code y_Mo_timeOf prog_14_method_64_code 4 (some .long)) ∈ K_Mo := List.mem_of_getElem? (i := 280) rfl
theorem j_Mo_281 : (.methodLink "VolumeTurnerModel" 383 y_Mo_seconds) ∈ K_Mo := List.mem_of_getElem? (i := 281) rfl
theorem j_Mo_282 : (.static y_Mo_seconds) ∈ K_Mo := List.mem_of_getElem? (i := 282) rfl
theorem j_Mo_283 : (.code y_Mo_seconds prog_14_method_63_code 7 (some .long)) ∈ K_Mo := List.mem_of_getElem? (i := 283) rfl
theorem j_Mo_284 : (.constantLong "VolumeTurnerModel" 373 (366 : Int64)) ∈ K_Mo := List.mem_of_getElem? (i := 284) rfl
theorem j_Mo_285 : (.constantLong "VolumeTurnerModel" 375 (365 : Int64)) ∈ K_Mo := List.mem_of_getElem? (i := 285) rfl
theorem j_Mo_286 : (.constantLong "VolumeTurnerModel" 377 (86400 : Int64)) ∈ K_Mo := List.mem_of_getElem? (i := 286) rfl
theorem j_Mo_287 : (.constantLong "VolumeTurnerModel" 379 (3600 : Int64)) ∈ K_Mo := List.mem_of_getElem? (i := 287) rfl
theorem j_Mo_288 : (.constantLong "VolumeTurnerModel" 381 (60 : Int64)) ∈ K_Mo := List.mem_of_getElem? (i := 288) rfl
theorem j_Mo_289 : (.methodLink "VolumeTurnerModel" 395 y_Mo_folderBlocks) ∈ K_Mo := List.mem_of_getElem? (i := 289) rfl
theorem j_Mo_290 : (.instanceMethod y_Mo_folderBlocks) ∈ K_Mo := List.mem_of_getElem? (i := 290) rfl
theorem j_Mo_291 : (.code y_Mo_folderBlocks prog_14_method_86_code 7 (some .int)) ∈ K_Mo := List.mem_of_getElem? (i := 291) rfl
theorem j_Mo_292 : (.methodLink "VolumeTurnerModel" 447 y_Mo_textSize) ∈ K_Mo := List.mem_of_getElem? (i := 292) rfl
theorem j_Mo_293 : (.instanceMethod y_Mo_textSize) ∈ K_Mo := List.mem_of_getElem? (i := 293) rfl
theorem j_Mo_294 : (.code y_Mo_textSize prog_14_method_60_code 4 (some .int)) ∈ K_Mo := List.mem_of_getElem? (i := 294) rfl
theorem j_Mo_295 : (.instanceMethod y_Mo_content) ∈ K_Mo := List.mem_of_getElem? (i := 295) rfl
theorem j_Mo_296 : (.selects "VolumeTurnerModel" y_Mo_content y_Mo_content) ∈ K_Mo := List.mem_of_getElem? (i := 296) rfl
theorem j_Mo_297 : (.code y_Mo_content prog_14_method_66_code 4 (some .int)) ∈ K_Mo := List.mem_of_getElem? (i := 297) rfl
theorem j_Mo_298 : (.instanceMethod y_Mo_enter) ∈ K_Mo := List.mem_of_getElem? (i := 298) rfl
theorem j_Mo_299 : (.selects "VolumeTurnerModel" y_Mo_enter y_Mo_enter) ∈ K_Mo := List.mem_of_getElem? (i := 299) rfl
theorem j_Mo_300 : (.code y_Mo_enter prog_14_method_67_code 2 (some .int)) ∈ K_Mo := List.mem_of_getElem? (i := 300) rfl
theorem j_Mo_301 : (.instanceMethod y_Mo_up) ∈ K_Mo := List.mem_of_getElem? (i := 301) rfl
theorem j_Mo_302 : (.selects "VolumeTurnerModel" y_Mo_up y_Mo_up) ∈ K_Mo := List.mem_of_getElem? (i := 302) rfl
theorem j_Mo_303 : (.code y_Mo_up prog_14_method_68_code 2 (some .boolean)) ∈ K_Mo := List.mem_of_getElem? (i := 303) rfl
theorem j_Mo_304 : (.instanceMethod y_Mo_make) ∈ K_Mo := List.mem_of_getElem? (i := 304) rfl
theorem j_Mo_305 : (.selects "VolumeTurnerModel" y_Mo_make y_Mo_make) ∈ K_Mo := List.mem_of_getElem? (i := 305) rfl
theorem j_Mo_306 : (.code y_Mo_make prog_14_method_77_code 18 (some .int)) ∈ K_Mo := List.mem_of_getElem? (i := 306) rfl
theorem j_Mo_307 : (.methodLink "VolumeTurnerModel" 404 y_Mo_fixedNow) ∈ K_Mo := List.mem_of_getElem? (i := 307) rfl
theorem j_Mo_308 : (.instanceMethod y_Mo_fixedNow) ∈ K_Mo := List.mem_of_getElem? (i := 308) rfl
theorem j_Mo_309 : (.code y_Mo_fixedNow prog_14_method_69_code 1 (some .boolean)) ∈ K_Mo := List.mem_of_getElem? (i := 309) rfl
theorem j_Mo_310 : (.methodLink "VolumeTurnerModel" 407 y_Mo_named) ∈ K_Mo := List.mem_of_getElem? (i := 310) rfl
theorem j_Mo_311 : (.instanceMethod y_Mo_named) ∈ K_Mo := List.mem_of_getElem? (i := 311) rfl
theorem j_Mo_312 : (.code y_Mo_named prog_14_method_72_code 2 (some .boolean)) ∈ K_Mo := List.mem_of_getElem? (i := 312) rfl
theorem j_Mo_313 : (.methodLink "VolumeTurnerModel" 410 y_Mo_isBrief) ∈ K_Mo := List.mem_of_getElem? (i := 313) rfl
theorem j_Mo_314 : (.instanceMethod y_Mo_isBrief) ∈ K_Mo := List.mem_of_getElem? (i := 314) rfl
theorem j_Mo_315 : (.code y_Mo_isBrief prog_14_method_73_code 3 (some .boolean)) ∈ K_Mo := List.mem_of_getElem? (i := 315) rfl
theorem j_Mo_316 : (.methodLink "VolumeTurnerModel" 401 y_Mo_isBriefTaken) ∈ K_Mo := List.mem_of_getElem? (i := 316) rfl
theorem j_Mo_317 : (.instanceMethod y_Mo_isBriefTaken) ∈ K_Mo := List.mem_of_getElem? (i := 317) rfl
theorem j_Mo_318 : (.code y_Mo_isBriefTaken prog_14_method_75_code 5 (some .boolean)) ∈ K_Mo := List.mem_of_getElem? (i := 318) rfl
theorem j_Mo_319 : (.methodLink "VolumeTurnerModel" 413 y_Mo_shorten) ∈ K_Mo := List.mem_of_getElem? (i := 319) rfl
theorem j_Mo_320 : (.instanceMethod y_Mo_shorten) ∈ K_Mo := List.mem_of_getElem? (i := 320) rfl
theorem j_Mo_321 : (.code y_Mo_shorten prog_14_method_76_code 11 none) ∈ K_Mo := List.mem_of_getElem? (i := 321) rfl
theorem j_Mo_322 : (.methodLink "VolumeTurnerModel" 398 y_Mo_plain) ∈ K_Mo := List.mem_of_getElem? (i := 322) rfl
theorem j_Mo_323 : (.static y_Mo_plain) ∈ K_Mo := List.mem_of_getElem? (i := 323) rfl
theorem j_Mo_324 : (.code y_Mo_plain prog_14_method_74_code 2 (some .int)) ∈ K_Mo := List.mem_of_getElem? (i := 324) rfl
theorem j_Mo_325 : (.methodLink "VolumeTurnerModel" 416 y_Mo_loadFolder) ∈ K_Mo := List.mem_of_getElem? (i := 325) rfl
theorem j_Mo_326 : (.instanceMethod y_Mo_loadFolder) ∈ K_Mo := List.mem_of_getElem? (i := 326) rfl
theorem j_Mo_327 : (.code y_Mo_loadFolder prog_14_method_23_code 3 none) ∈ K_Mo := List.mem_of_getElem? (i := 327) rfl
theorem j_Mo_328 : (.methodLink "VolumeTurnerModel" 419 y_Mo_free) ∈ K_Mo := List.mem_of_getElem? (i := 328) rfl
theorem j_Mo_329 : (.instanceMethod y_Mo_free) ∈ K_Mo := List.mem_of_getElem? (i := 329) rfl
theorem j_Mo_330 : (.code y_Mo_free prog_14_method_70_code 3 (some .int)) ∈ K_Mo := List.mem_of_getElem? (i := 330) rfl
theorem j_Mo_331 : (.methodLink "VolumeTurnerModel" 422 y_Mo_take) ∈ K_Mo := List.mem_of_getElem? (i := 331) rfl
theorem j_Mo_332 : (.instanceMethod y_Mo_take) ∈ K_Mo := List.mem_of_getElem? (i := 332) rfl
theorem j_Mo_333 : (.code y_Mo_take prog_14_method_71_code 3 (some .int)) ∈ K_Mo := List.mem_of_getElem? (i := 333) rfl
theorem j_Mo_334 : (.methodLink "VolumeTurnerModel" 425 y_Mo_layPart) ∈ K_Mo := List.mem_of_getElem? (i := 334) rfl
theorem j_Mo_335 : (.instanceMethod y_Mo_layPart) ∈ K_Mo := List.mem_of_getElem? (i := 335) rfl
theorem j_Mo_336 : (.code y_Mo_layPart prog_14_method_78_code 7 none) ∈ K_Mo := List.mem_of_getElem? (i := 336) rfl
theorem j_Mo_337 : (.constantLong "VolumeTurnerModel" 435 (15 : Int64)) ∈ K_Mo := List.mem_of_getElem? (i := 337) rfl
theorem j_Mo_338 : (.constantLong "VolumeTurnerModel" 437 (65535 : Int64)) ∈ K_Mo := List.mem_of_getElem? (i := 338) rfl
theorem j_Mo_339 : (.constantLong "VolumeTurnerModel" 429 (48 : Int64)) ∈ K_Mo := List.mem_of_getElem? (i := 339) rfl
theorem j_Mo_340 : (.constantLong "VolumeTurnerModel" 431 (32 : Int64)) ∈ K_Mo := List.mem_of_getElem? (i := 340) rfl
theorem j_Mo_341 : (.constantLong "VolumeTurnerModel" 433 (16 : Int64)) ∈ K_Mo := List.mem_of_getElem? (i := 341) rfl
theorem j_Mo_342 : (.instanceMethod y_Mo_write) ∈ K_Mo := List.mem_of_getElem? (i := 342) rfl
theorem j_Mo_343 : (.selects "VolumeTurnerModel" y_Mo_write y_Mo_write) ∈ K_Mo := List.mem_of_getElem? (i := 343) rfl
theorem j_Mo_344 : (.code y_Mo_write prog_14_method_81_code 3 (some .int)) ∈ K_Mo := List.mem_of_getElem? (i := 344) rfl
theorem j_Mo_345 : (.methodLink "VolumeTurnerModel" 439 y_Mo_noFile) ∈ K_Mo := List.mem_of_getElem? (i := 345) rfl
theorem j_Mo_346 : (.instanceMethod y_Mo_noFile) ∈ K_Mo := List.mem_of_getElem? (i := 346) rfl
theorem j_Mo_347 : (.code y_Mo_noFile prog_14_method_80_code 3 (some .boolean)) ∈ K_Mo := List.mem_of_getElem? (i := 347) rfl
theorem j_Mo_348 : (.methodLink "VolumeTurnerModel" 442 y_Mo_append) ∈ K_Mo := List.mem_of_getElem? (i := 348) rfl
theorem j_Mo_349 : (.instanceMethod y_Mo_append) ∈ K_Mo := List.mem_of_getElem? (i := 349) rfl
theorem j_Mo_350 : (.code y_Mo_append prog_14_method_79_code 11 (some .int)) ∈ K_Mo := List.mem_of_getElem? (i := 350) rfl
theorem j_Mo_351 : (.instanceMethod y_Mo_grow) ∈ K_Mo := List.mem_of_getElem? (i := 351) rfl
theorem j_Mo_352 : (.selects "VolumeTurnerModel" y_Mo_grow y_Mo_grow) ∈ K_Mo := List.mem_of_getElem? (i := 352) rfl
theorem j_Mo_353 : (.code y_Mo_grow prog_14_method_82_code 4 (some .int)) ∈ K_Mo := List.mem_of_getElem? (i := 353) rfl
theorem j_Mo_354 : (.constant "VolumeTurnerModel" 446 (400000 : Int32)) ∈ K_Mo := List.mem_of_getElem? (i := 354) rfl
theorem j_Mo_355 : (.instanceMethod y_Mo_cut) ∈ K_Mo := List.mem_of_getElem? (i := 355) rfl
theorem j_Mo_356 : (.selects "VolumeTurnerModel" y_Mo_cut y_Mo_cut) ∈ K_Mo := List.mem_of_getElem? (i := 356) rfl
theorem j_Mo_357 : (.code y_Mo_cut prog_14_method_83_code 6 (some .int)) ∈ K_Mo := List.mem_of_getElem? (i := 357) rfl
theorem j_Mo_358 : (.instanceMethod y_Mo_remove) ∈ K_Mo := List.mem_of_getElem? (i := 358) rfl
theorem j_Mo_359 : (.selects "VolumeTurnerModel" y_Mo_remove y_Mo_remove) ∈ K_Mo := List.mem_of_getElem? (i := 359) rfl
theorem j_Mo_360 : (.code y_Mo_remove prog_14_method_84_code 4 none) ∈ K_Mo := List.mem_of_getElem? (i := 360) rfl
theorem j_Mo_361 : (.instanceMethod y_Mo_stamp) ∈ K_Mo := List.mem_of_getElem? (i := 361) rfl
theorem j_Mo_362 : (.selects "VolumeTurnerModel" y_Mo_stamp y_Mo_stamp) ∈ K_Mo := List.mem_of_getElem? (i := 362) rfl
theorem j_Mo_363 : (.code y_Mo_stamp prog_14_method_85_code 7 none) ∈ K_Mo := List.mem_of_getElem? (i := 363) rfl
theorem j_Mo_364 : (.instanceMethod y_Mo_plan) ∈ K_Mo := List.mem_of_getElem? (i := 364) rfl
theorem j_Mo_365 : (.selects "VolumeTurnerModel" y_Mo_plan y_Mo_plan) ∈ K_Mo := List.mem_of_getElem? (i := 365) rfl
theorem j_Mo_366 : (.code y_Mo_plan prog_14_method_100_code 4 (some .int)) ∈ K_Mo := List.mem_of_getElem? (i := 366) rfl
theorem j_Mo_367 : (.methodLink "VolumeTurnerModel" 510 y_Mo_refusal) ∈ K_Mo := List.mem_of_getElem? (i := 367) rfl
theorem j_Mo_368 : (.instanceMethod y_Mo_refusal) ∈ K_Mo := List.mem_of_getElem? (i := 368) rfl
theorem j_Mo_369 : (.code y_Mo_refusal prog_14_method_99_code 2 (some .int)) ∈ K_Mo := List.mem_of_getElem? (i := 369) rfl
theorem j_Mo_370 : (.methodLink "VolumeTurnerModel" 498 y_Mo_isRoomy) ∈ K_Mo := List.mem_of_getElem? (i := 370) rfl
theorem j_Mo_371 : (.instanceMethod y_Mo_isRoomy) ∈ K_Mo := List.mem_of_getElem? (i := 371) rfl
theorem j_Mo_372 : (.code y_Mo_isRoomy prog_14_method_94_code 4 (some .boolean)) ∈ K_Mo := List.mem_of_getElem? (i := 372) rfl
theorem j_Mo_373 : (.methodLink "VolumeTurnerModel" 462 y_Mo_groupSize) ∈ K_Mo := List.mem_of_getElem? (i := 373) rfl
theorem j_Mo_374 : (.instanceMethod y_Mo_groupSize) ∈ K_Mo := List.mem_of_getElem? (i := 374) rfl
theorem j_Mo_375 : (.code y_Mo_groupSize prog_14_method_91_code 2 (some .int)) ∈ K_Mo := List.mem_of_getElem? (i := 375) rfl
theorem j_Mo_376 : (.methodLink "VolumeTurnerModel" 468 y_Mo_mapOf) ∈ K_Mo := List.mem_of_getElem? (i := 376) rfl
theorem j_Mo_377 : (.instanceMethod y_Mo_mapOf) ∈ K_Mo := List.mem_of_getElem? (i := 377) rfl
theorem j_Mo_378 : (.code y_Mo_mapOf prog_14_method_92_code 2 (some .int)) ∈ K_Mo := List.mem_of_getElem? (i := 378) rfl
theorem j_Mo_379 : (.methodLink "VolumeTurnerModel" 474 y_Mo_clusterOf) ∈ K_Mo := List.mem_of_getElem? (i := 379) rfl
theorem j_Mo_380 : (.instanceMethod y_Mo_clusterOf) ∈ K_Mo := List.mem_of_getElem? (i := 380) rfl
theorem j_Mo_381 : (.code y_Mo_clusterOf prog_14_method_93_code 2 (some .int)) ∈ K_Mo := List.mem_of_getElem? (i := 381) rfl
theorem j_Mo_382 : (.methodLink "VolumeTurnerModel" 501 y_Mo_badNames) ∈ K_Mo := List.mem_of_getElem? (i := 382) rfl
theorem j_Mo_383 : (.instanceMethod y_Mo_badNames) ∈ K_Mo := List.mem_of_getElem? (i := 383) rfl
theorem j_Mo_384 : (.code y_Mo_badNames prog_14_method_96_code 3 (some .boolean)) ∈ K_Mo := List.mem_of_getElem? (i := 384) rfl
theorem j_Mo_385 : (.methodLink "VolumeTurnerModel" 504 y_Mo_badTimes) ∈ K_Mo := List.mem_of_getElem? (i := 385) rfl
theorem j_Mo_386 : (.instanceMethod y_Mo_badTimes) ∈ K_Mo := List.mem_of_getElem? (i := 386) rfl
theorem j_Mo_387 : (.code y_Mo_badTimes prog_14_method_97_code 4 (some .boolean)) ∈ K_Mo := List.mem_of_getElem? (i := 387) rfl
theorem j_Mo_388 : (.methodLink "VolumeTurnerModel" 507 y_Mo_finds) ∈ K_Mo := List.mem_of_getElem? (i := 388) rfl
theorem j_Mo_389 : (.instanceMethod y_Mo_finds) ∈ K_Mo := List.mem_of_getElem? (i := 389) rfl
theorem j_Mo_390 : (.code y_Mo_finds prog_14_method_98_code 5 (some .boolean)) ∈ K_Mo := List.mem_of_getElem? (i := 390) rfl
theorem j_Mo_391 : (.methodLink "VolumeTurnerModel" 480 y_Mo_isFixed) ∈ K_Mo := List.mem_of_getElem? (i := 391) rfl
theorem j_Mo_392 : (.instanceMethod y_Mo_isFixed) ∈ K_Mo := List.mem_of_getElem? (i := 392) rfl
theorem j_Mo_393 : (.code y_Mo_isFixed prog_14_method_95_code 4 (some .boolean)) ∈ K_Mo := List.mem_of_getElem? (i := 393) rfl
theorem j_Mo_394 : (.methodLink "VolumeTurnerModel" 483 y_Mo_indirect) ∈ K_Mo := List.mem_of_getElem? (i := 394) rfl
theorem j_Mo_395 : (.static y_Mo_indirect) ∈ K_Mo := List.mem_of_getElem? (i := 395) rfl
theorem j_Mo_396 : (.code y_Mo_indirect prog_14_method_89_code 1 (some .int)) ∈ K_Mo := List.mem_of_getElem? (i := 396) rfl
theorem j_Mo_397 : (.methodLink "VolumeTurnerModel" 492 y_Mo_fileBlocks) ∈ K_Mo := List.mem_of_getElem? (i := 397) rfl
theorem j_Mo_398 : (.instanceMethod y_Mo_fileBlocks) ∈ K_Mo := List.mem_of_getElem? (i := 398) rfl
theorem j_Mo_399 : (.code y_Mo_fileBlocks prog_14_method_90_code 2 (some .int)) ∈ K_Mo := List.mem_of_getElem? (i := 399) rfl
set_option maxRecDepth 100000 in
theorem j_Mo_400 : (.instanceMethod y_Mo_target) ∈ K_Mo := List.mem_of_getElem? (i := 400) rfl
set_option maxRecDepth 100000 in
theorem j_Mo_401 : (.selects "VolumeTurnerModel" y_Mo_target y_Mo_target) ∈ K_Mo := List.mem_of_getElem? (i := 401) rfl
set_option maxRecDepth 100000 in
theorem j_Mo_402 : (.code y_Mo_target prog_14_method_101_code 3 (some .int)) ∈ K_Mo := List.mem_of_getElem? (i := 402) rfl
set_option maxRecDepth 100000 in
theorem j_Mo_403 : (.instanceMethod y_Mo_fail) ∈ K_Mo := List.mem_of_getElem? (i := 403) rfl
set_option maxRecDepth 100000 in
theorem j_Mo_404 : (.selects "VolumeTurnerModel" y_Mo_fail y_Mo_fail) ∈ K_Mo := List.mem_of_getElem? (i := 404) rfl
set_option maxRecDepth 100000 in
theorem j_Mo_405 : (.code y_Mo_fail prog_14_method_122_code 3 (some .boolean)) ∈ K_Mo := List.mem_of_getElem? (i := 405) rfl
set_option maxRecDepth 100000 in
theorem j_Mo_406 : (.instanceMethod y_Mo_run) ∈ K_Mo := List.mem_of_getElem? (i := 406) rfl
set_option maxRecDepth 100000 in
theorem j_Mo_407 : (.selects "VolumeTurnerModel" y_Mo_run y_Mo_run) ∈ K_Mo := List.mem_of_getElem? (i := 407) rfl
set_option maxRecDepth 100000 in
theorem j_Mo_408 : (.code y_Mo_run prog_14_method_123_code 4 (some .int)) ∈ K_Mo := List.mem_of_getElem? (i := 408) rfl
set_option maxRecDepth 100000 in
theorem j_Mo_409 : (.methodLink "VolumeTurnerModel" 598 y_Mo_turn) ∈ K_Mo := List.mem_of_getElem? (i := 409) rfl
set_option maxRecDepth 100000 in
theorem j_Mo_410 : (.instanceMethod y_Mo_turn) ∈ K_Mo := List.mem_of_getElem? (i := 410) rfl
set_option maxRecDepth 100000 in
theorem j_Mo_411 : (.code y_Mo_turn prog_14_method_121_code 4 none) ∈ K_Mo := List.mem_of_getElem? (i := 411) rfl
set_option maxRecDepth 100000 in
theorem j_Mo_412 : (.methodLink "VolumeTurnerModel" 579 y_Mo_makeRecord) ∈ K_Mo := List.mem_of_getElem? (i := 412) rfl
set_option maxRecDepth 100000 in
theorem j_Mo_413 : (.instanceMethod y_Mo_makeRecord) ∈ K_Mo := List.mem_of_getElem? (i := 413) rfl
set_option maxRecDepth 100000 in
theorem j_Mo_414 : (.code y_Mo_makeRecord prog_14_method_110_code 4 none) ∈ K_Mo := List.mem_of_getElem? (i := 414) rfl
set_option maxRecDepth 100000 in
theorem j_Mo_415 : (.methodLink "VolumeTurnerModel" 525 y_Mo_build) ∈ K_Mo := List.mem_of_getElem? (i := 415) rfl
set_option maxRecDepth 100000 in
theorem j_Mo_416 : (.instanceMethod y_Mo_build) ∈ K_Mo := List.mem_of_getElem? (i := 416) rfl
set_option maxRecDepth 100000 in
theorem j_Mo_417 : (.code y_Mo_build prog_14_method_103_code 2 (some .int)) ∈ K_Mo := List.mem_of_getElem? (i := 417) rfl
set_option maxRecDepth 100000 in
theorem j_Mo_418 : (.methodLink "VolumeTurnerModel" 522 y_Mo_lay) ∈ K_Mo := List.mem_of_getElem? (i := 418) rfl
set_option maxRecDepth 100000 in
theorem j_Mo_419 : (.instanceMethod y_Mo_lay) ∈ K_Mo := List.mem_of_getElem? (i := 419) rfl
set_option maxRecDepth 100000 in
theorem j_Mo_420 : (.code y_Mo_lay prog_14_method_102_code 6 none) ∈ K_Mo := List.mem_of_getElem? (i := 420) rfl
set_option maxRecDepth 100000 in
theorem j_Mo_421 : (.methodLink "VolumeTurnerModel" 531 y_Mo_copied) ∈ K_Mo := List.mem_of_getElem? (i := 421) rfl
set_option maxRecDepth 100000 in
theorem j_Mo_422 : (.instanceMethod y_Mo_copied) ∈ K_Mo := List.mem_of_getElem? (i := 422) rfl
set_option maxRecDepth 100000 in
theorem j_Mo_423 : (.code y_Mo_copied prog_14_method_106_code 5 (some .int)) ∈ K_Mo := List.mem_of_getElem? (i := 423) rfl
set_option maxRecDepth 100000 in
theorem j_Mo_424 : (.methodLink "VolumeTurnerModel" 516 y_Mo_standing) ∈ K_Mo := List.mem_of_getElem? (i := 424) rfl
set_option maxRecDepth 100000 in
theorem j_Mo_425 : (.instanceMethod y_Mo_standing) ∈ K_Mo := List.mem_of_getElem? (i := 425) rfl
set_option maxRecDepth 100000 in
theorem j_Mo_426 : (.code y_Mo_standing prog_14_method_105_code 3 (some .int)) ∈ K_Mo := List.mem_of_getElem? (i := 426) rfl
set_option maxRecDepth 100000 in
theorem j_Mo_427 : (.constant "VolumeTurnerModel" 534 (33024 : Int32)) ∈ K_Mo := List.mem_of_getElem? (i := 427) rfl
set_option maxRecDepth 100000 in
theorem j_Mo_428 : (.methodLink "VolumeTurnerModel" 535 y_Mo_inode) ∈ K_Mo := List.mem_of_getElem? (i := 428) rfl
set_option maxRecDepth 100000 in
theorem j_Mo_429 : (.instanceMethod y_Mo_inode) ∈ K_Mo := List.mem_of_getElem? (i := 429) rfl
set_option maxRecDepth 100000 in
theorem j_Mo_430 : (.code y_Mo_inode prog_14_method_107_code 18 none) ∈ K_Mo := List.mem_of_getElem? (i := 430) rfl
set_option maxRecDepth 100000 in
theorem j_Mo_431 : (.methodLink "VolumeTurnerModel" 519 y_Mo_inodeAt) ∈ K_Mo := List.mem_of_getElem? (i := 431) rfl
set_option maxRecDepth 100000 in
theorem j_Mo_432 : (.instanceMethod y_Mo_inodeAt) ∈ K_Mo := List.mem_of_getElem? (i := 432) rfl
set_option maxRecDepth 100000 in
theorem j_Mo_433 : (.code y_Mo_inodeAt prog_14_method_104_code 2 (some .int)) ∈ K_Mo := List.mem_of_getElem? (i := 433) rfl
set_option maxRecDepth 100000 in
theorem j_Mo_434 : (.methodLink "VolumeTurnerModel" 582 y_Mo_makeFolder) ∈ K_Mo := List.mem_of_getElem? (i := 434) rfl
set_option maxRecDepth 100000 in
theorem j_Mo_435 : (.instanceMethod y_Mo_makeFolder) ∈ K_Mo := List.mem_of_getElem? (i := 435) rfl
set_option maxRecDepth 100000 in
theorem j_Mo_436 : (.code y_Mo_makeFolder prog_14_method_113_code 5 none) ∈ K_Mo := List.mem_of_getElem? (i := 436) rfl
set_option maxRecDepth 100000 in
theorem j_Mo_437 : (.methodLink "VolumeTurnerModel" 548 y_Mo_begins) ∈ K_Mo := List.mem_of_getElem? (i := 437) rfl
set_option maxRecDepth 100000 in
theorem j_Mo_438 : (.instanceMethod y_Mo_begins) ∈ K_Mo := List.mem_of_getElem? (i := 438) rfl
set_option maxRecDepth 100000 in
theorem j_Mo_439 : (.code y_Mo_begins prog_14_method_111_code 1 none) ∈ K_Mo := List.mem_of_getElem? (i := 439) rfl
set_option maxRecDepth 100000 in
theorem j_Mo_440 : (.methodLink "VolumeTurnerModel" 551 y_Mo_numberOf) ∈ K_Mo := List.mem_of_getElem? (i := 440) rfl
set_option maxRecDepth 100000 in
theorem j_Mo_441 : (.instanceMethod y_Mo_numberOf) ∈ K_Mo := List.mem_of_getElem? (i := 441) rfl
set_option maxRecDepth 100000 in
theorem j_Mo_442 : (.code y_Mo_numberOf prog_14_method_108_code 2 (some .int)) ∈ K_Mo := List.mem_of_getElem? (i := 442) rfl
set_option maxRecDepth 100000 in
theorem j_Mo_443 : (.methodLink "VolumeTurnerModel" 554 y_Mo_entered) ∈ K_Mo := List.mem_of_getElem? (i := 443) rfl
set_option maxRecDepth 100000 in
theorem j_Mo_444 : (.instanceMethod y_Mo_entered) ∈ K_Mo := List.mem_of_getElem? (i := 444) rfl
set_option maxRecDepth 100000 in
theorem j_Mo_445 : (.code y_Mo_entered prog_14_method_112_code 10 (some .int)) ∈ K_Mo := List.mem_of_getElem? (i := 445) rfl
set_option maxRecDepth 100000 in
theorem j_Mo_446 : (.methodLink "VolumeTurnerModel" 558 y_Mo_mode) ∈ K_Mo := List.mem_of_getElem? (i := 446) rfl
set_option maxRecDepth 100000 in
theorem j_Mo_447 : (.instanceMethod y_Mo_mode) ∈ K_Mo := List.mem_of_getElem? (i := 447) rfl
set_option maxRecDepth 100000 in
theorem j_Mo_448 : (.code y_Mo_mode prog_14_method_109_code 2 (some .int)) ∈ K_Mo := List.mem_of_getElem? (i := 448) rfl
set_option maxRecDepth 100000 in
theorem j_Mo_449 : (.constant "VolumeTurnerModel" 528 (33188 : Int32)) ∈ K_Mo := List.mem_of_getElem? (i := 449) rfl
set_option maxRecDepth 100000 in
theorem j_Mo_450 : (.methodLink "VolumeTurnerModel" 585 y_Mo_makeFile) ∈ K_Mo := List.mem_of_getElem? (i := 450) rfl
set_option maxRecDepth 100000 in
theorem j_Mo_451 : (.instanceMethod y_Mo_makeFile) ∈ K_Mo := List.mem_of_getElem? (i := 451) rfl
set_option maxRecDepth 100000 in
theorem j_Mo_452 : (.code y_Mo_makeFile prog_14_method_114_code 4 none) ∈ K_Mo := List.mem_of_getElem? (i := 452) rfl
set_option maxRecDepth 100000 in
theorem j_Mo_453 : (.methodLink "VolumeTurnerModel" 570 y_Mo_freeBlocks) ∈ K_Mo := List.mem_of_getElem? (i := 453) rfl
set_option maxRecDepth 100000 in
theorem j_Mo_454 : (.instanceMethod y_Mo_freeBlocks) ∈ K_Mo := List.mem_of_getElem? (i := 454) rfl
set_option maxRecDepth 100000 in
theorem j_Mo_455 : (.code y_Mo_freeBlocks prog_14_method_115_code 4 (some .int)) ∈ K_Mo := List.mem_of_getElem? (i := 455) rfl
set_option maxRecDepth 100000 in
theorem j_Mo_456 : (.methodLink "VolumeTurnerModel" 588 y_Mo_makeMaps) ∈ K_Mo := List.mem_of_getElem? (i := 456) rfl
set_option maxRecDepth 100000 in
theorem j_Mo_457 : (.instanceMethod y_Mo_makeMaps) ∈ K_Mo := List.mem_of_getElem? (i := 457) rfl
set_option maxRecDepth 100000 in
theorem j_Mo_458 : (.code y_Mo_makeMaps prog_14_method_119_code 4 none) ∈ K_Mo := List.mem_of_getElem? (i := 458) rfl
set_option maxRecDepth 100000 in
theorem j_Mo_459 : (.methodLink "VolumeTurnerModel" 561 y_Mo_isUsed) ∈ K_Mo := List.mem_of_getElem? (i := 459) rfl
set_option maxRecDepth 100000 in
theorem j_Mo_460 : (.instanceMethod y_Mo_isUsed) ∈ K_Mo := List.mem_of_getElem? (i := 460) rfl
set_option maxRecDepth 100000 in
theorem j_Mo_461 : (.code y_Mo_isUsed prog_14_method_116_code 2 (some .boolean)) ∈ K_Mo := List.mem_of_getElem? (i := 461) rfl
set_option maxRecDepth 100000 in
theorem j_Mo_462 : (.methodLink "VolumeTurnerModel" 591 y_Mo_makeHead) ∈ K_Mo := List.mem_of_getElem? (i := 462) rfl
set_option maxRecDepth 100000 in
theorem j_Mo_463 : (.instanceMethod y_Mo_makeHead) ∈ K_Mo := List.mem_of_getElem? (i := 463) rfl
set_option maxRecDepth 100000 in
theorem j_Mo_464 : (.code y_Mo_makeHead prog_14_method_120_code 8 none) ∈ K_Mo := List.mem_of_getElem? (i := 464) rfl
set_option maxRecDepth 100000 in
theorem j_Mo_465 : (.constantLong "VolumeTurnerModel" 564 (61267 : Int64)) ∈ K_Mo := List.mem_of_getElem? (i := 465) rfl
set_option maxRecDepth 100000 in
theorem j_Mo_466 : (.constantLong "VolumeTurnerModel" 566 (11 : Int64)) ∈ K_Mo := List.mem_of_getElem? (i := 466) rfl
set_option maxRecDepth 100000 in
theorem j_Mo_467 : (.constantLong "VolumeTurnerModel" 568 (128 : Int64)) ∈ K_Mo := List.mem_of_getElem? (i := 467) rfl
set_option maxRecDepth 100000 in
theorem j_Mo_468 : (.methodLink "VolumeTurnerModel" 573 y_Mo_freeInodes) ∈ K_Mo := List.mem_of_getElem? (i := 468) rfl
set_option maxRecDepth 100000 in
theorem j_Mo_469 : (.instanceMethod y_Mo_freeInodes) ∈ K_Mo := List.mem_of_getElem? (i := 469) rfl
set_option maxRecDepth 100000 in
theorem j_Mo_470 : (.code y_Mo_freeInodes prog_14_method_117_code 4 (some .int)) ∈ K_Mo := List.mem_of_getElem? (i := 470) rfl
set_option maxRecDepth 100000 in
theorem j_Mo_471 : (.methodLink "VolumeTurnerModel" 576 y_Mo_foldersOf) ∈ K_Mo := List.mem_of_getElem? (i := 471) rfl
set_option maxRecDepth 100000 in
theorem j_Mo_472 : (.instanceMethod y_Mo_foldersOf) ∈ K_Mo := List.mem_of_getElem? (i := 472) rfl
set_option maxRecDepth 100000 in
theorem j_Mo_473 : (.code y_Mo_foldersOf prog_14_method_118_code 4 (some .int)) ∈ K_Mo := List.mem_of_getElem? (i := 473) rfl
set_option maxRecDepth 100000 in
theorem j_Mo_474 : (.selects "VolumeTurnerModel" y_Mo_fails y_Mo_fails) ∈ K_Mo := List.mem_of_getElem? (i := 474) rfl
set_option maxRecDepth 100000 in
theorem j_Mo_475 : (.selects "VolumeTurnerModel" y_Mo_one y_Mo_one) ∈ K_Mo := List.mem_of_getElem? (i := 475) rfl
set_option maxRecDepth 100000 in
theorem j_Mo_476 : (.selects "VolumeTurnerModel" y_Mo_two y_Mo_two) ∈ K_Mo := List.mem_of_getElem? (i := 476) rfl
set_option maxRecDepth 100000 in
theorem j_Mo_477 : (.selects "VolumeTurnerModel" y_Mo_four y_Mo_four) ∈ K_Mo := List.mem_of_getElem? (i := 477) rfl
set_option maxRecDepth 100000 in
theorem j_Mo_478 : (.selects "VolumeTurnerModel" y_Mo_set y_Mo_set) ∈ K_Mo := List.mem_of_getElem? (i := 478) rfl
set_option maxRecDepth 100000 in
theorem j_Mo_479 : (.selects "VolumeTurnerModel" y_Mo_entryAt y_Mo_entryAt) ∈ K_Mo := List.mem_of_getElem? (i := 479) rfl
set_option maxRecDepth 100000 in
theorem j_Mo_480 : (.selects "VolumeTurnerModel" y_Mo_entry y_Mo_entry) ∈ K_Mo := List.mem_of_getElem? (i := 480) rfl
set_option maxRecDepth 100000 in
theorem j_Mo_481 : (.selects "VolumeTurnerModel" y_Mo_setEntry y_Mo_setEntry) ∈ K_Mo := List.mem_of_getElem? (i := 481) rfl
set_option maxRecDepth 100000 in
theorem j_Mo_482 : (.selects "VolumeTurnerModel" y_Mo_isCluster y_Mo_isCluster) ∈ K_Mo := List.mem_of_getElem? (i := 482) rfl
set_option maxRecDepth 100000 in
theorem j_Mo_483 : (.selects "VolumeTurnerModel" y_Mo_place y_Mo_place) ∈ K_Mo := List.mem_of_getElem? (i := 483) rfl
set_option maxRecDepth 100000 in
theorem j_Mo_484 : (.selects "VolumeTurnerModel" y_Mo_head y_Mo_head) ∈ K_Mo := List.mem_of_getElem? (i := 484) rfl
set_option maxRecDepth 100000 in
theorem j_Mo_485 : (.selects "VolumeTurnerModel" y_Mo_badTables y_Mo_badTables) ∈ K_Mo := List.mem_of_getElem? (i := 485) rfl
set_option maxRecDepth 100000 in
theorem j_Mo_486 : (.selects "VolumeTurnerModel" y_Mo_follows y_Mo_follows) ∈ K_Mo := List.mem_of_getElem? (i := 486) rfl
set_option maxRecDepth 100000 in
theorem j_Mo_487 : (.selects "VolumeTurnerModel" y_Mo_walk y_Mo_walk) ∈ K_Mo := List.mem_of_getElem? (i := 487) rfl
set_option maxRecDepth 100000 in
theorem j_Mo_488 : (.selects "VolumeTurnerModel" y_Mo_firstOf y_Mo_firstOf) ∈ K_Mo := List.mem_of_getElem? (i := 488) rfl
set_option maxRecDepth 100000 in
theorem j_Mo_489 : (.selects "VolumeTurnerModel" y_Mo_isFolder y_Mo_isFolder) ∈ K_Mo := List.mem_of_getElem? (i := 489) rfl
set_option maxRecDepth 100000 in
theorem j_Mo_490 : (.selects "VolumeTurnerModel" y_Mo_beginOf y_Mo_beginOf) ∈ K_Mo := List.mem_of_getElem? (i := 490) rfl
set_option maxRecDepth 100000 in
theorem j_Mo_491 : (.selects "VolumeTurnerModel" y_Mo_slotAt y_Mo_slotAt) ∈ K_Mo := List.mem_of_getElem? (i := 491) rfl
set_option maxRecDepth 100000 in
theorem j_Mo_492 : (.selects "VolumeTurnerModel" y_Mo_look y_Mo_look) ∈ K_Mo := List.mem_of_getElem? (i := 492) rfl
set_option maxRecDepth 100000 in
theorem j_Mo_493 : (.selects "VolumeTurnerModel" y_Mo_loadFolder y_Mo_loadFolder) ∈ K_Mo := List.mem_of_getElem? (i := 493) rfl
set_option maxRecDepth 100000 in
theorem j_Mo_494 : (.selects "VolumeTurnerModel" y_Mo_scan y_Mo_scan) ∈ K_Mo := List.mem_of_getElem? (i := 494) rfl
set_option maxRecDepth 100000 in
theorem j_Mo_495 : (.selects "VolumeTurnerModel" y_Mo_dots y_Mo_dots) ∈ K_Mo := List.mem_of_getElem? (i := 495) rfl
set_option maxRecDepth 100000 in
theorem j_Mo_496 : (.selects "VolumeTurnerModel" y_Mo_part y_Mo_part) ∈ K_Mo := List.mem_of_getElem? (i := 496) rfl
set_option maxRecDepth 100000 in
theorem j_Mo_497 : (.selects "VolumeTurnerModel" y_Mo_isShort y_Mo_isShort) ∈ K_Mo := List.mem_of_getElem? (i := 497) rfl
set_option maxRecDepth 100000 in
theorem j_Mo_498 : (.selects "VolumeTurnerModel" y_Mo_areDays y_Mo_areDays) ∈ K_Mo := List.mem_of_getElem? (i := 498) rfl
set_option maxRecDepth 100000 in
theorem j_Mo_499 : (.selects "VolumeTurnerModel" y_Mo_sumOf y_Mo_sumOf) ∈ K_Mo := List.mem_of_getElem? (i := 499) rfl
set_option maxRecDepth 100000 in
theorem j_Mo_500 : (.selects "VolumeTurnerModel" y_Mo_isName y_Mo_isName) ∈ K_Mo := List.mem_of_getElem? (i := 500) rfl
set_option maxRecDepth 100000 in
theorem j_Mo_501 : (.selects "VolumeTurnerModel" y_Mo_shown y_Mo_shown) ∈ K_Mo := List.mem_of_getElem? (i := 501) rfl
set_option maxRecDepth 100000 in
theorem j_Mo_502 : (.selects "VolumeTurnerModel" y_Mo_said y_Mo_said) ∈ K_Mo := List.mem_of_getElem? (i := 502) rfl
set_option maxRecDepth 100000 in
theorem j_Mo_503 : (.selects "VolumeTurnerModel" y_Mo_isAlike y_Mo_isAlike) ∈ K_Mo := List.mem_of_getElem? (i := 503) rfl
set_option maxRecDepth 100000 in
theorem j_Mo_504 : (.selects "VolumeTurnerModel" y_Mo_isTaken y_Mo_isTaken) ∈ K_Mo := List.mem_of_getElem? (i := 504) rfl
set_option maxRecDepth 100000 in
theorem j_Mo_505 : (.selects "VolumeTurnerModel" y_Mo_taken y_Mo_taken) ∈ K_Mo := List.mem_of_getElem? (i := 505) rfl
set_option maxRecDepth 100000 in
theorem j_Mo_506 : (.selects "VolumeTurnerModel" y_Mo_changed y_Mo_changed) ∈ K_Mo := List.mem_of_getElem? (i := 506) rfl
set_option maxRecDepth 100000 in
theorem j_Mo_507 : (.selects "VolumeTurnerModel" y_Mo_none y_Mo_none) ∈ K_Mo := List.mem_of_getElem? (i := 507) rfl
set_option maxRecDepth 100000 in
theorem j_Mo_508 : (.selects "VolumeTurnerModel" y_Mo_folderHere y_Mo_folderHere) ∈ K_Mo := List.mem_of_getElem? (i := 508) rfl
set_option maxRecDepth 100000 in
theorem j_Mo_509 : (.selects "VolumeTurnerModel" y_Mo_many y_Mo_many) ∈ K_Mo := List.mem_of_getElem? (i := 509) rfl
set_option maxRecDepth 100000 in
theorem j_Mo_510 : (.selects "VolumeTurnerModel" y_Mo_no y_Mo_no) ∈ K_Mo := List.mem_of_getElem? (i := 510) rfl
set_option maxRecDepth 100000 in
theorem j_Mo_511 : (.selects "VolumeTurnerModel" y_Mo_item y_Mo_item) ∈ K_Mo := List.mem_of_getElem? (i := 511) rfl
set_option maxRecDepth 100000 in
theorem j_Mo_512 : (.selects "VolumeTurnerModel" y_Mo_textSize y_Mo_textSize) ∈ K_Mo := List.mem_of_getElem? (i := 512) rfl
set_option maxRecDepth 100000 in
theorem j_Mo_513 : (.selects "VolumeTurnerModel" y_Mo_text y_Mo_text) ∈ K_Mo := List.mem_of_getElem? (i := 513) rfl
set_option maxRecDepth 100000 in
theorem j_Mo_514 : (.selects "VolumeTurnerModel" y_Mo_timeOf y_Mo_timeOf) ∈ K_Mo := List.mem_of_getElem? (i := 514) rfl
set_option maxRecDepth 100000 in
theorem j_Mo_515 : (.selects "VolumeTurnerModel" y_Mo_fixedNow y_Mo_fixedNow) ∈ K_Mo := List.mem_of_getElem? (i := 515) rfl
set_option maxRecDepth 100000 in
theorem j_Mo_516 : (.selects "VolumeTurnerModel" y_Mo_free y_Mo_free) ∈ K_Mo := List.mem_of_getElem? (i := 516) rfl
set_option maxRecDepth 100000 in
theorem j_Mo_517 : (.selects "VolumeTurnerModel" y_Mo_take y_Mo_take) ∈ K_Mo := List.mem_of_getElem? (i := 517) rfl
set_option maxRecDepth 100000 in
theorem j_Mo_518 : (.selects "VolumeTurnerModel" y_Mo_named y_Mo_named) ∈ K_Mo := List.mem_of_getElem? (i := 518) rfl
set_option maxRecDepth 100000 in
theorem j_Mo_519 : (.selects "VolumeTurnerModel" y_Mo_isBrief y_Mo_isBrief) ∈ K_Mo := List.mem_of_getElem? (i := 519) rfl
set_option maxRecDepth 100000 in
theorem j_Mo_520 : (.selects "VolumeTurnerModel" y_Mo_isBriefTaken y_Mo_isBriefTaken) ∈ K_Mo := List.mem_of_getElem? (i := 520) rfl
set_option maxRecDepth 100000 in
theorem j_Mo_521 : (.selects "VolumeTurnerModel" y_Mo_shorten y_Mo_shorten) ∈ K_Mo := List.mem_of_getElem? (i := 521) rfl
set_option maxRecDepth 100000 in
theorem j_Mo_522 : (.selects "VolumeTurnerModel" y_Mo_layPart y_Mo_layPart) ∈ K_Mo := List.mem_of_getElem? (i := 522) rfl
set_option maxRecDepth 100000 in
theorem j_Mo_523 : (.selects "VolumeTurnerModel" y_Mo_append y_Mo_append) ∈ K_Mo := List.mem_of_getElem? (i := 523) rfl
set_option maxRecDepth 100000 in
theorem j_Mo_524 : (.selects "VolumeTurnerModel" y_Mo_noFile y_Mo_noFile) ∈ K_Mo := List.mem_of_getElem? (i := 524) rfl
set_option maxRecDepth 100000 in
theorem j_Mo_525 : (.selects "VolumeTurnerModel" y_Mo_folderBlocks y_Mo_folderBlocks) ∈ K_Mo := List.mem_of_getElem? (i := 525) rfl
set_option maxRecDepth 100000 in
theorem j_Mo_526 : (.selects "VolumeTurnerModel" y_Mo_clustersOf y_Mo_clustersOf) ∈ K_Mo := List.mem_of_getElem? (i := 526) rfl
set_option maxRecDepth 100000 in
theorem j_Mo_527 : (.selects "VolumeTurnerModel" y_Mo_recordBlocks y_Mo_recordBlocks) ∈ K_Mo := List.mem_of_getElem? (i := 527) rfl
set_option maxRecDepth 100000 in
theorem j_Mo_528 : (.selects "VolumeTurnerModel" y_Mo_fileBlocks y_Mo_fileBlocks) ∈ K_Mo := List.mem_of_getElem? (i := 528) rfl
set_option maxRecDepth 100000 in
theorem j_Mo_529 : (.selects "VolumeTurnerModel" y_Mo_groupSize y_Mo_groupSize) ∈ K_Mo := List.mem_of_getElem? (i := 529) rfl
set_option maxRecDepth 100000 in
theorem j_Mo_530 : (.selects "VolumeTurnerModel" y_Mo_mapOf y_Mo_mapOf) ∈ K_Mo := List.mem_of_getElem? (i := 530) rfl
set_option maxRecDepth 100000 in
theorem j_Mo_531 : (.selects "VolumeTurnerModel" y_Mo_clusterOf y_Mo_clusterOf) ∈ K_Mo := List.mem_of_getElem? (i := 531) rfl
set_option maxRecDepth 100000 in
theorem j_Mo_532 : (.selects "VolumeTurnerModel" y_Mo_isRoomy y_Mo_isRoomy) ∈ K_Mo := List.mem_of_getElem? (i := 532) rfl
set_option maxRecDepth 100000 in
theorem j_Mo_533 : (.selects "VolumeTurnerModel" y_Mo_isFixed y_Mo_isFixed) ∈ K_Mo := List.mem_of_getElem? (i := 533) rfl
set_option maxRecDepth 100000 in
theorem j_Mo_534 : (.selects "VolumeTurnerModel" y_Mo_badNames y_Mo_badNames) ∈ K_Mo := List.mem_of_getElem? (i := 534) rfl
set_option maxRecDepth 100000 in
theorem j_Mo_535 : (.selects "VolumeTurnerModel" y_Mo_badTimes y_Mo_badTimes) ∈ K_Mo := List.mem_of_getElem? (i := 535) rfl
set_option maxRecDepth 100000 in
theorem j_Mo_536 : (.selects "VolumeTurnerModel" y_Mo_finds y_Mo_finds) ∈ K_Mo := List.mem_of_getElem? (i := 536) rfl
set_option maxRecDepth 100000 in
theorem j_Mo_537 : (.selects "VolumeTurnerModel" y_Mo_refusal y_Mo_refusal) ∈ K_Mo := List.mem_of_getElem? (i := 537) rfl
set_option maxRecDepth 100000 in
theorem j_Mo_538 : (.selects "VolumeTurnerModel" y_Mo_lay y_Mo_lay) ∈ K_Mo := List.mem_of_getElem? (i := 538) rfl
set_option maxRecDepth 100000 in
theorem j_Mo_539 : (.selects "VolumeTurnerModel" y_Mo_build y_Mo_build) ∈ K_Mo := List.mem_of_getElem? (i := 539) rfl
set_option maxRecDepth 100000 in
theorem j_Mo_540 : (.selects "VolumeTurnerModel" y_Mo_inodeAt y_Mo_inodeAt) ∈ K_Mo := List.mem_of_getElem? (i := 540) rfl
set_option maxRecDepth 100000 in
theorem j_Mo_541 : (.selects "VolumeTurnerModel" y_Mo_standing y_Mo_standing) ∈ K_Mo := List.mem_of_getElem? (i := 541) rfl
set_option maxRecDepth 100000 in
theorem j_Mo_542 : (.selects "VolumeTurnerModel" y_Mo_copied y_Mo_copied) ∈ K_Mo := List.mem_of_getElem? (i := 542) rfl
set_option maxRecDepth 100000 in
theorem j_Mo_543 : (.selects "VolumeTurnerModel" y_Mo_inode y_Mo_inode) ∈ K_Mo := List.mem_of_getElem? (i := 543) rfl
set_option maxRecDepth 100000 in
theorem j_Mo_544 : (.selects "VolumeTurnerModel" y_Mo_numberOf y_Mo_numberOf) ∈ K_Mo := List.mem_of_getElem? (i := 544) rfl
set_option maxRecDepth 100000 in
theorem j_Mo_545 : (.selects "VolumeTurnerModel" y_Mo_mode y_Mo_mode) ∈ K_Mo := List.mem_of_getElem? (i := 545) rfl
set_option maxRecDepth 100000 in
theorem j_Mo_546 : (.selects "VolumeTurnerModel" y_Mo_makeRecord y_Mo_makeRecord) ∈ K_Mo := List.mem_of_getElem? (i := 546) rfl
set_option maxRecDepth 100000 in
theorem j_Mo_547 : (.selects "VolumeTurnerModel" y_Mo_begins y_Mo_begins) ∈ K_Mo := List.mem_of_getElem? (i := 547) rfl
set_option maxRecDepth 100000 in
theorem j_Mo_548 : (.selects "VolumeTurnerModel" y_Mo_entered y_Mo_entered) ∈ K_Mo := List.mem_of_getElem? (i := 548) rfl
set_option maxRecDepth 100000 in
theorem j_Mo_549 : (.selects "VolumeTurnerModel" y_Mo_makeFolder y_Mo_makeFolder) ∈ K_Mo := List.mem_of_getElem? (i := 549) rfl
set_option maxRecDepth 100000 in
theorem j_Mo_550 : (.selects "VolumeTurnerModel" y_Mo_makeFile y_Mo_makeFile) ∈ K_Mo := List.mem_of_getElem? (i := 550) rfl
set_option maxRecDepth 100000 in
theorem j_Mo_551 : (.selects "VolumeTurnerModel" y_Mo_freeBlocks y_Mo_freeBlocks) ∈ K_Mo := List.mem_of_getElem? (i := 551) rfl
set_option maxRecDepth 100000 in
theorem j_Mo_552 : (.selects "VolumeTurnerModel" y_Mo_isUsed y_Mo_isUsed) ∈ K_Mo := List.mem_of_getElem? (i := 552) rfl
set_option maxRecDepth 100000 in
theorem j_Mo_553 : (.selects "VolumeTurnerModel" y_Mo_freeInodes y_Mo_freeInodes) ∈ K_Mo := List.mem_of_getElem? (i := 553) rfl
set_option maxRecDepth 100000 in
theorem j_Mo_554 : (.selects "VolumeTurnerModel" y_Mo_foldersOf y_Mo_foldersOf) ∈ K_Mo := List.mem_of_getElem? (i := 554) rfl
set_option maxRecDepth 100000 in
theorem j_Mo_555 : (.selects "VolumeTurnerModel" y_Mo_makeMaps y_Mo_makeMaps) ∈ K_Mo := List.mem_of_getElem? (i := 555) rfl
set_option maxRecDepth 100000 in
theorem j_Mo_556 : (.selects "VolumeTurnerModel" y_Mo_makeHead y_Mo_makeHead) ∈ K_Mo := List.mem_of_getElem? (i := 556) rfl
set_option maxRecDepth 100000 in
theorem j_Mo_557 : (.selects "VolumeTurnerModel" y_Mo_turn y_Mo_turn) ∈ K_Mo := List.mem_of_getElem? (i := 557) rfl
def V_Mo : List Cond := w_Mo ++ (K_Mo ++ V_J)
theorem i_Mo : ∀ w ∈ w_Mo, w ∈ V_Mo := fun _ h => List.mem_append_left _ h
theorem kk_Mo : ∀ w ∈ K_Mo, w ∈ V_Mo := fun _ h => List.mem_append_right _ (List.mem_append_left _ h)
theorem u_Mo_J : ∀ w ∈ V_J, w ∈ V_Mo := fun _ h => List.mem_append_right _ (List.mem_append_right _ h)
theorem k_Mo_0 : (.initialized "VolumeTurnerModel") ∈ V_Mo := kk_Mo _ j_Mo_0
theorem k_Mo_1 : (.instantiable "VolumeTurnerModel" 66) ∈ V_Mo := kk_Mo _ j_Mo_1
theorem k_Mo_2 : (.instanceMethod y_Mo_init) ∈ V_Mo := kk_Mo _ j_Mo_2
theorem k_Mo_3 : (.code y_Mo_init prog_14_method_1_code 3 none) ∈ V_Mo := kk_Mo _ j_Mo_3
theorem k_Mo_4 : (.methodLink "VolumeTurnerModel" 1 objectInit) ∈ V_Mo := kk_Mo _ j_Mo_4
theorem k_Mo_5 : (.constant "VolumeTurnerModel" 7 (524288 : Int32)) ∈ V_Mo := kk_Mo _ j_Mo_5
theorem k_Mo_6 : (.constant "VolumeTurnerModel" 52 (90000 : Int32)) ∈ V_Mo := kk_Mo _ j_Mo_6
theorem k_Mo_7 : (.fieldLink "VolumeTurnerModel" 96 "VolumeTurnerModel" "n" "I") ∈ V_Mo := kk_Mo _ j_Mo_7
theorem k_Mo_8 : (.fieldLink "VolumeTurnerModel" 8 "VolumeTurnerModel" "disk" "[B") ∈ V_Mo := kk_Mo _ j_Mo_8
theorem k_Mo_9 : (.fieldLink "VolumeTurnerModel" 14 "VolumeTurnerModel" "fresh" "[B") ∈ V_Mo := kk_Mo _ j_Mo_9
theorem k_Mo_10 : (.fieldLink "VolumeTurnerModel" 17 "VolumeTurnerModel" "tape" "[B") ∈ V_Mo := kk_Mo _ j_Mo_10
theorem k_Mo_11 : (.fieldLink "VolumeTurnerModel" 20 "VolumeTurnerModel" "ready" "[B") ∈ V_Mo := kk_Mo _ j_Mo_11
theorem k_Mo_12 : (.fieldLink "VolumeTurnerModel" 296 "VolumeTurnerModel" "taped" "I") ∈ V_Mo := kk_Mo _ j_Mo_12
theorem k_Mo_13 : (.fieldLink "VolumeTurnerModel" 100 "VolumeTurnerModel" "thrown" "I") ∈ V_Mo := kk_Mo _ j_Mo_13
theorem k_Mo_14 : (.fieldLink "VolumeTurnerModel" 595 "VolumeTurnerModel" "told" "I") ∈ V_Mo := kk_Mo _ j_Mo_14
theorem k_Mo_15 : (.fieldLink "VolumeTurnerModel" 293 "VolumeTurnerModel" "fed" "Z") ∈ V_Mo := kk_Mo _ j_Mo_15
theorem k_Mo_16 : (.fieldLink "VolumeTurnerModel" 302 "VolumeTurnerModel" "turned" "Z") ∈ V_Mo := kk_Mo _ j_Mo_16
theorem k_Mo_17 : (.fieldLink "VolumeTurnerModel" 305 "VolumeTurnerModel" "ran" "Z") ∈ V_Mo := kk_Mo _ j_Mo_17
theorem k_Mo_18 : (.fieldLink "VolumeTurnerModel" 138 "VolumeTurnerModel" "c" "I") ∈ V_Mo := kk_Mo _ j_Mo_18
theorem k_Mo_19 : (.fieldLink "VolumeTurnerModel" 110 "VolumeTurnerModel" "v" "I") ∈ V_Mo := kk_Mo _ j_Mo_19
theorem k_Mo_20 : (.fieldLink "VolumeTurnerModel" 124 "VolumeTurnerModel" "y" "I") ∈ V_Mo := kk_Mo _ j_Mo_20
theorem k_Mo_21 : (.fieldLink "VolumeTurnerModel" 113 "VolumeTurnerModel" "z" "I") ∈ V_Mo := kk_Mo _ j_Mo_21
theorem k_Mo_22 : (.fieldLink "VolumeTurnerModel" 141 "VolumeTurnerModel" "root" "I") ∈ V_Mo := kk_Mo _ j_Mo_22
theorem k_Mo_23 : (.fieldLink "VolumeTurnerModel" 135 "VolumeTurnerModel" "a" "I") ∈ V_Mo := kk_Mo _ j_Mo_23
theorem k_Mo_24 : (.fieldLink "VolumeTurnerModel" 132 "VolumeTurnerModel" "k" "I") ∈ V_Mo := kk_Mo _ j_Mo_24
theorem k_Mo_25 : (.fieldLink "VolumeTurnerModel" 311 "VolumeTurnerModel" "here" "I") ∈ V_Mo := kk_Mo _ j_Mo_25
theorem k_Mo_26 : (.fieldLink "VolumeTurnerModel" 162 "VolumeTurnerModel" "looked" "Z") ∈ V_Mo := kk_Mo _ j_Mo_26
theorem k_Mo_27 : (.fieldLink "VolumeTurnerModel" 182 "VolumeTurnerModel" "fault" "I") ∈ V_Mo := kk_Mo _ j_Mo_27
theorem k_Mo_28 : (.fieldLink "VolumeTurnerModel" 166 "VolumeTurnerModel" "items" "I") ∈ V_Mo := kk_Mo _ j_Mo_28
theorem k_Mo_29 : (.fieldLink "VolumeTurnerModel" 169 "VolumeTurnerModel" "units" "I") ∈ V_Mo := kk_Mo _ j_Mo_29
theorem k_Mo_30 : (.fieldLink "VolumeTurnerModel" 23 "VolumeTurnerModel" "chained" "[Z") ∈ V_Mo := kk_Mo _ j_Mo_30
theorem k_Mo_31 : (.fieldLink "VolumeTurnerModel" 27 "VolumeTurnerModel" "at" "[I") ∈ V_Mo := kk_Mo _ j_Mo_31
theorem k_Mo_32 : (.fieldLink "VolumeTurnerModel" 31 "VolumeTurnerModel" "slot" "[I") ∈ V_Mo := kk_Mo _ j_Mo_32
theorem k_Mo_33 : (.fieldLink "VolumeTurnerModel" 34 "VolumeTurnerModel" "parts" "[I") ∈ V_Mo := kk_Mo _ j_Mo_33
theorem k_Mo_34 : (.fieldLink "VolumeTurnerModel" 37 "VolumeTurnerModel" "parent" "[I") ∈ V_Mo := kk_Mo _ j_Mo_34
theorem k_Mo_35 : (.fieldLink "VolumeTurnerModel" 40 "VolumeTurnerModel" "kids" "[I") ∈ V_Mo := kk_Mo _ j_Mo_35
theorem k_Mo_36 : (.fieldLink "VolumeTurnerModel" 43 "VolumeTurnerModel" "firstKid" "[I") ∈ V_Mo := kk_Mo _ j_Mo_36
theorem k_Mo_37 : (.fieldLink "VolumeTurnerModel" 46 "VolumeTurnerModel" "nameAt" "[I") ∈ V_Mo := kk_Mo _ j_Mo_37
theorem k_Mo_38 : (.fieldLink "VolumeTurnerModel" 49 "VolumeTurnerModel" "nameSize" "[I") ∈ V_Mo := kk_Mo _ j_Mo_38
theorem k_Mo_39 : (.fieldLink "VolumeTurnerModel" 53 "VolumeTurnerModel" "unit" "[C") ∈ V_Mo := kk_Mo _ j_Mo_39
theorem k_Mo_40 : (.fieldLink "VolumeTurnerModel" 57 "VolumeTurnerModel" "chain" "[I") ∈ V_Mo := kk_Mo _ j_Mo_40
theorem k_Mo_41 : (.fieldLink "VolumeTurnerModel" 60 "VolumeTurnerModel" "folder" "[I") ∈ V_Mo := kk_Mo _ j_Mo_41
theorem k_Mo_42 : (.fieldLink "VolumeTurnerModel" 153 "VolumeTurnerModel" "links" "I") ∈ V_Mo := kk_Mo _ j_Mo_42
theorem k_Mo_43 : (.fieldLink "VolumeTurnerModel" 198 "VolumeTurnerModel" "folders" "I") ∈ V_Mo := kk_Mo _ j_Mo_43
theorem k_Mo_44 : (.fieldLink "VolumeTurnerModel" 172 "VolumeTurnerModel" "label" "I") ∈ V_Mo := kk_Mo _ j_Mo_44
theorem k_Mo_45 : (.fieldLink "VolumeTurnerModel" 63 "VolumeTurnerModel" "name" "[C") ∈ V_Mo := kk_Mo _ j_Mo_45
theorem k_Mo_46 : (.fieldLink "VolumeTurnerModel" 224 "VolumeTurnerModel" "size" "I") ∈ V_Mo := kk_Mo _ j_Mo_46
theorem k_Mo_47 : (.fieldLink "VolumeTurnerModel" 204 "VolumeTurnerModel" "met" "I") ∈ V_Mo := kk_Mo _ j_Mo_47
theorem k_Mo_48 : (.fieldLink "VolumeTurnerModel" 207 "VolumeTurnerModel" "left" "I") ∈ V_Mo := kk_Mo _ j_Mo_48
theorem k_Mo_49 : (.fieldLink "VolumeTurnerModel" 227 "VolumeTurnerModel" "sum" "I") ∈ V_Mo := kk_Mo _ j_Mo_49
theorem k_Mo_50 : (.fieldLink "VolumeTurnerModel" 66 "VolumeTurnerModel" "brief" "[I") ∈ V_Mo := kk_Mo _ j_Mo_50
theorem k_Mo_51 : (.fieldLink "VolumeTurnerModel" 69 "VolumeTurnerModel" "stem" "[I") ∈ V_Mo := kk_Mo _ j_Mo_51
theorem k_Mo_52 : (.fieldLink "VolumeTurnerModel" 72 "VolumeTurnerModel" "tail" "[I") ∈ V_Mo := kk_Mo _ j_Mo_52
theorem k_Mo_53 : (.fieldLink "VolumeTurnerModel" 453 "VolumeTurnerModel" "groups" "I") ∈ V_Mo := kk_Mo _ j_Mo_53
theorem k_Mo_54 : (.fieldLink "VolumeTurnerModel" 456 "VolumeTurnerModel" "per" "I") ∈ V_Mo := kk_Mo _ j_Mo_54
theorem k_Mo_55 : (.fieldLink "VolumeTurnerModel" 495 "VolumeTurnerModel" "inodes" "I") ∈ V_Mo := kk_Mo _ j_Mo_55
theorem k_Mo_56 : (.fieldLink "VolumeTurnerModel" 465 "VolumeTurnerModel" "rows" "I") ∈ V_Mo := kk_Mo _ j_Mo_56
theorem k_Mo_57 : (.fieldLink "VolumeTurnerModel" 459 "VolumeTurnerModel" "blocks" "I") ∈ V_Mo := kk_Mo _ j_Mo_57
theorem k_Mo_58 : (.fieldLink "VolumeTurnerModel" 75 "VolumeTurnerModel" "fixed" "[Z") ∈ V_Mo := kk_Mo _ j_Mo_58
theorem k_Mo_59 : (.fieldLink "VolumeTurnerModel" 78 "VolumeTurnerModel" "used" "[Z") ∈ V_Mo := kk_Mo _ j_Mo_59
theorem k_Mo_60 : (.fieldLink "VolumeTurnerModel" 81 "VolumeTurnerModel" "moved" "[I") ∈ V_Mo := kk_Mo _ j_Mo_60
theorem k_Mo_61 : (.fieldLink "VolumeTurnerModel" 84 "VolumeTurnerModel" "aimed" "[I") ∈ V_Mo := kk_Mo _ j_Mo_61
theorem k_Mo_62 : (.fieldLink "VolumeTurnerModel" 87 "VolumeTurnerModel" "built" "[I") ∈ V_Mo := kk_Mo _ j_Mo_62
theorem k_Mo_63 : (.fieldLink "VolumeTurnerModel" 471 "VolumeTurnerModel" "fixedBlocks" "I") ∈ V_Mo := kk_Mo _ j_Mo_63
theorem k_Mo_64 : (.fieldLink "VolumeTurnerModel" 477 "VolumeTurnerModel" "moves" "I") ∈ V_Mo := kk_Mo _ j_Mo_64
theorem k_Mo_65 : (.fieldLink "VolumeTurnerModel" 486 "VolumeTurnerModel" "builds" "I") ∈ V_Mo := kk_Mo _ j_Mo_65
theorem k_Mo_66 : (.fieldLink "VolumeTurnerModel" 489 "VolumeTurnerModel" "kept" "I") ∈ V_Mo := kk_Mo _ j_Mo_66
theorem k_Mo_67 : (.fieldLink "VolumeTurnerModel" 513 "VolumeTurnerModel" "next" "I") ∈ V_Mo := kk_Mo _ j_Mo_67
theorem k_Mo_68 : (.fieldLink "VolumeTurnerModel" 90 "VolumeTurnerModel" "record" "[I") ∈ V_Mo := kk_Mo _ j_Mo_68
theorem k_Mo_69 : (.fieldLink "VolumeTurnerModel" 93 "VolumeTurnerModel" "list" "[I") ∈ V_Mo := kk_Mo _ j_Mo_69
theorem k_Mo_70 : (.fieldLink "VolumeTurnerModel" 539 "VolumeTurnerModel" "spot" "I") ∈ V_Mo := kk_Mo _ j_Mo_70
theorem k_Mo_71 : (.fieldLink "VolumeTurnerModel" 542 "VolumeTurnerModel" "filled" "I") ∈ V_Mo := kk_Mo _ j_Mo_71
theorem k_Mo_72 : (.fieldLink "VolumeTurnerModel" 545 "VolumeTurnerModel" "latest" "I") ∈ V_Mo := kk_Mo _ j_Mo_72
theorem k_Mo_73 : (.instanceMethod y_Mo_thrown) ∈ V_Mo := kk_Mo _ j_Mo_73
theorem k_Mo_74 : (.selects "VolumeTurnerModel" y_Mo_thrown y_Mo_thrown) ∈ V_Mo := kk_Mo _ j_Mo_74
theorem k_Mo_75 : (.code y_Mo_thrown prog_14_method_2_code 1 (some .int)) ∈ V_Mo := kk_Mo _ j_Mo_75
theorem k_Mo_76 : (.instanceMethod y_Mo_feed) ∈ V_Mo := kk_Mo _ j_Mo_76
theorem k_Mo_77 : (.selects "VolumeTurnerModel" y_Mo_feed y_Mo_feed) ∈ V_Mo := kk_Mo _ j_Mo_77
theorem k_Mo_78 : (.code y_Mo_feed prog_14_method_43_code 8 none) ∈ V_Mo := kk_Mo _ j_Mo_78
theorem k_Mo_79 : (.instanceMethod y_Mo_end) ∈ V_Mo := kk_Mo _ j_Mo_79
theorem k_Mo_80 : (.selects "VolumeTurnerModel" y_Mo_end y_Mo_end) ∈ V_Mo := kk_Mo _ j_Mo_80
theorem k_Mo_81 : (.code y_Mo_end prog_14_method_44_code 3 (some .int)) ∈ V_Mo := kk_Mo _ j_Mo_81
theorem k_Mo_82 : (.instanceMethod y_Mo_clear) ∈ V_Mo := kk_Mo _ j_Mo_82
theorem k_Mo_83 : (.selects "VolumeTurnerModel" y_Mo_clear y_Mo_clear) ∈ V_Mo := kk_Mo _ j_Mo_83
theorem k_Mo_84 : (.code y_Mo_clear prog_14_method_45_code 1 none) ∈ V_Mo := kk_Mo _ j_Mo_84
theorem k_Mo_85 : (.instanceMethod y_Mo_kind) ∈ V_Mo := kk_Mo _ j_Mo_85
theorem k_Mo_86 : (.selects "VolumeTurnerModel" y_Mo_kind y_Mo_kind) ∈ V_Mo := kk_Mo _ j_Mo_86
theorem k_Mo_87 : (.code y_Mo_kind prog_14_method_47_code 1 (some .int)) ∈ V_Mo := kk_Mo _ j_Mo_87
theorem k_Mo_88 : (.methodLink "VolumeTurnerModel" 299 y_Mo_look) ∈ V_Mo := kk_Mo _ j_Mo_88
theorem k_Mo_89 : (.instanceMethod y_Mo_look) ∈ V_Mo := kk_Mo _ j_Mo_89
theorem k_Mo_90 : (.code y_Mo_look prog_14_method_22_code 2 none) ∈ V_Mo := kk_Mo _ j_Mo_90
theorem k_Mo_91 : (.methodLink "VolumeTurnerModel" 175 y_Mo_head) ∈ V_Mo := kk_Mo _ j_Mo_91
theorem k_Mo_92 : (.instanceMethod y_Mo_head) ∈ V_Mo := kk_Mo _ j_Mo_92
theorem k_Mo_93 : (.code y_Mo_head prog_14_method_14_code 2 (some .boolean)) ∈ V_Mo := kk_Mo _ j_Mo_93
theorem k_Mo_94 : (.methodLink "VolumeTurnerModel" 103 y_Mo_one) ∈ V_Mo := kk_Mo _ j_Mo_94
theorem k_Mo_95 : (.instanceMethod y_Mo_one) ∈ V_Mo := kk_Mo _ j_Mo_95
theorem k_Mo_96 : (.code y_Mo_one prog_14_method_4_code 2 (some .int)) ∈ V_Mo := kk_Mo _ j_Mo_96
theorem k_Mo_97 : (.methodLink "VolumeTurnerModel" 107 y_Mo_two) ∈ V_Mo := kk_Mo _ j_Mo_97
theorem k_Mo_98 : (.instanceMethod y_Mo_two) ∈ V_Mo := kk_Mo _ j_Mo_98
theorem k_Mo_99 : (.code y_Mo_two prog_14_method_5_code 2 (some .int)) ∈ V_Mo := kk_Mo _ j_Mo_99
theorem k_Mo_100 : (.methodLink "VolumeTurnerModel" 120 y_Mo_four) ∈ V_Mo := kk_Mo _ j_Mo_100
theorem k_Mo_101 : (.instanceMethod y_Mo_four) ∈ V_Mo := kk_Mo _ j_Mo_101
theorem k_Mo_102 : (.code y_Mo_four prog_14_method_6_code 2 (some .int)) ∈ V_Mo := kk_Mo _ j_Mo_102
theorem k_Mo_103 : (.constant "VolumeTurnerModel" 144 (43605 : Int32)) ∈ V_Mo := kk_Mo _ j_Mo_103
theorem k_Mo_104 : (.methodLink "VolumeTurnerModel" 145 y_Mo_isCluster) ∈ V_Mo := kk_Mo _ j_Mo_104
theorem k_Mo_105 : (.instanceMethod y_Mo_isCluster) ∈ V_Mo := kk_Mo _ j_Mo_105
theorem k_Mo_106 : (.code y_Mo_isCluster prog_14_method_12_code 2 (some .boolean)) ∈ V_Mo := kk_Mo _ j_Mo_106
theorem k_Mo_107 : (.methodLink "VolumeTurnerModel" 179 y_Mo_badTables) ∈ V_Mo := kk_Mo _ j_Mo_107
theorem k_Mo_108 : (.instanceMethod y_Mo_badTables) ∈ V_Mo := kk_Mo _ j_Mo_108
theorem k_Mo_109 : (.code y_Mo_badTables prog_14_method_15_code 4 (some .boolean)) ∈ V_Mo := kk_Mo _ j_Mo_109
theorem k_Mo_110 : (.methodLink "VolumeTurnerModel" 149 y_Mo_entry) ∈ V_Mo := kk_Mo _ j_Mo_110
theorem k_Mo_111 : (.instanceMethod y_Mo_entry) ∈ V_Mo := kk_Mo _ j_Mo_111
theorem k_Mo_112 : (.code y_Mo_entry prog_14_method_10_code 2 (some .int)) ∈ V_Mo := kk_Mo _ j_Mo_112
theorem k_Mo_113 : (.methodLink "VolumeTurnerModel" 116 y_Mo_entryAt) ∈ V_Mo := kk_Mo _ j_Mo_113
theorem k_Mo_114 : (.instanceMethod y_Mo_entryAt) ∈ V_Mo := kk_Mo _ j_Mo_114
theorem k_Mo_115 : (.code y_Mo_entryAt prog_14_method_9_code 3 (some .int)) ∈ V_Mo := kk_Mo _ j_Mo_115
theorem k_Mo_116 : (.constant "VolumeTurnerModel" 123 (268435455 : Int32)) ∈ V_Mo := kk_Mo _ j_Mo_116
theorem k_Mo_117 : (.constant "VolumeTurnerModel" 152 (268435448 : Int32)) ∈ V_Mo := kk_Mo _ j_Mo_117
theorem k_Mo_118 : (.methodLink "VolumeTurnerModel" 185 y_Mo_isFolder) ∈ V_Mo := kk_Mo _ j_Mo_118
theorem k_Mo_119 : (.instanceMethod y_Mo_isFolder) ∈ V_Mo := kk_Mo _ j_Mo_119
theorem k_Mo_120 : (.code y_Mo_isFolder prog_14_method_19_code 2 (some .boolean)) ∈ V_Mo := kk_Mo _ j_Mo_120
theorem k_Mo_121 : (.methodLink "VolumeTurnerModel" 188 y_Mo_scan) ∈ V_Mo := kk_Mo _ j_Mo_121
theorem k_Mo_122 : (.instanceMethod y_Mo_scan) ∈ V_Mo := kk_Mo _ j_Mo_122
theorem k_Mo_123 : (.code y_Mo_scan prog_14_method_24_code 4 none) ∈ V_Mo := kk_Mo _ j_Mo_123
theorem k_Mo_124 : (.methodLink "VolumeTurnerModel" 192 y_Mo_beginOf) ∈ V_Mo := kk_Mo _ j_Mo_124
theorem k_Mo_125 : (.instanceMethod y_Mo_beginOf) ∈ V_Mo := kk_Mo _ j_Mo_125
theorem k_Mo_126 : (.code y_Mo_beginOf prog_14_method_20_code 2 (some .int)) ∈ V_Mo := kk_Mo _ j_Mo_126
theorem k_Mo_127 : (.methodLink "VolumeTurnerModel" 156 y_Mo_firstOf) ∈ V_Mo := kk_Mo _ j_Mo_127
theorem k_Mo_128 : (.instanceMethod y_Mo_firstOf) ∈ V_Mo := kk_Mo _ j_Mo_128
theorem k_Mo_129 : (.code y_Mo_firstOf prog_14_method_18_code 2 (some .int)) ∈ V_Mo := kk_Mo _ j_Mo_129
theorem k_Mo_130 : (.methodLink "VolumeTurnerModel" 201 y_Mo_follows) ∈ V_Mo := kk_Mo _ j_Mo_130
theorem k_Mo_131 : (.instanceMethod y_Mo_follows) ∈ V_Mo := kk_Mo _ j_Mo_131
theorem k_Mo_132 : (.code y_Mo_follows prog_14_method_16_code 3 (some .boolean)) ∈ V_Mo := kk_Mo _ j_Mo_132
theorem k_Mo_133 : (.methodLink "VolumeTurnerModel" 210 y_Mo_slotAt) ∈ V_Mo := kk_Mo _ j_Mo_133
theorem k_Mo_134 : (.instanceMethod y_Mo_slotAt) ∈ V_Mo := kk_Mo _ j_Mo_134
theorem k_Mo_135 : (.code y_Mo_slotAt prog_14_method_21_code 2 (some .int)) ∈ V_Mo := kk_Mo _ j_Mo_135
theorem k_Mo_136 : (.methodLink "VolumeTurnerModel" 159 y_Mo_place) ∈ V_Mo := kk_Mo _ j_Mo_136
theorem k_Mo_137 : (.instanceMethod y_Mo_place) ∈ V_Mo := kk_Mo _ j_Mo_137
theorem k_Mo_138 : (.code y_Mo_place prog_14_method_13_code 2 (some .int)) ∈ V_Mo := kk_Mo _ j_Mo_138
theorem k_Mo_139 : (.methodLink "VolumeTurnerModel" 213 y_Mo_dots) ∈ V_Mo := kk_Mo _ j_Mo_139
theorem k_Mo_140 : (.instanceMethod y_Mo_dots) ∈ V_Mo := kk_Mo _ j_Mo_140
theorem k_Mo_141 : (.code y_Mo_dots prog_14_method_25_code 5 (some .boolean)) ∈ V_Mo := kk_Mo _ j_Mo_141
theorem k_Mo_142 : (.methodLink "VolumeTurnerModel" 217 y_Mo_part) ∈ V_Mo := kk_Mo _ j_Mo_142
theorem k_Mo_143 : (.instanceMethod y_Mo_part) ∈ V_Mo := kk_Mo _ j_Mo_143
theorem k_Mo_144 : (.code y_Mo_part prog_14_method_26_code 4 (some .boolean)) ∈ V_Mo := kk_Mo _ j_Mo_144
theorem k_Mo_145 : (.methodLink "VolumeTurnerModel" 274 y_Mo_areDays) ∈ V_Mo := kk_Mo _ j_Mo_145
theorem k_Mo_146 : (.instanceMethod y_Mo_areDays) ∈ V_Mo := kk_Mo _ j_Mo_146
theorem k_Mo_147 : (.code y_Mo_areDays prog_14_method_34_code 2 (some .boolean)) ∈ V_Mo := kk_Mo _ j_Mo_147
theorem k_Mo_148 : (.methodLink "VolumeTurnerModel" 253 y_Mo_isMade) ∈ V_Mo := kk_Mo _ j_Mo_148
theorem k_Mo_149 : (.static y_Mo_isMade) ∈ V_Mo := kk_Mo _ j_Mo_149
theorem k_Mo_150 : (.code y_Mo_isMade prog_14_method_33_code 3 (some .boolean)) ∈ V_Mo := kk_Mo _ j_Mo_150
theorem k_Mo_151 : (.methodLink "VolumeTurnerModel" 247 y_Mo_isDay) ∈ V_Mo := kk_Mo _ j_Mo_151
theorem k_Mo_152 : (.static y_Mo_isDay) ∈ V_Mo := kk_Mo _ j_Mo_152
theorem k_Mo_153 : (.code y_Mo_isDay prog_14_method_31_code 2 (some .boolean)) ∈ V_Mo := kk_Mo _ j_Mo_153
theorem k_Mo_154 : (.constant "VolumeTurnerModel" 243 (65536 : Int32)) ∈ V_Mo := kk_Mo _ j_Mo_154
theorem k_Mo_155 : (.methodLink "VolumeTurnerModel" 244 y_Mo_daysOf) ∈ V_Mo := kk_Mo _ j_Mo_155
theorem k_Mo_156 : (.static y_Mo_daysOf) ∈ V_Mo := kk_Mo _ j_Mo_156
theorem k_Mo_157 : (.code y_Mo_daysOf prog_14_method_30_code 2 (some .int)) ∈ V_Mo := kk_Mo _ j_Mo_157
theorem k_Mo_158 : (.methodLink "VolumeTurnerModel" 240 y_Mo_isLeap) ∈ V_Mo := kk_Mo _ j_Mo_158
theorem k_Mo_159 : (.static y_Mo_isLeap) ∈ V_Mo := kk_Mo _ j_Mo_159
theorem k_Mo_160 : (.code y_Mo_isLeap prog_14_method_29_code 1 (some .boolean)) ∈ V_Mo := kk_Mo _ j_Mo_160
theorem k_Mo_161 : (.methodLink "VolumeTurnerModel" 250 y_Mo_isTime) ∈ V_Mo := kk_Mo _ j_Mo_161
theorem k_Mo_162 : (.static y_Mo_isTime) ∈ V_Mo := kk_Mo _ j_Mo_162
theorem k_Mo_163 : (.code y_Mo_isTime prog_14_method_32_code 1 (some .boolean)) ∈ V_Mo := kk_Mo _ j_Mo_163
theorem k_Mo_164 : (.methodLink "VolumeTurnerModel" 277 y_Mo_isShort) ∈ V_Mo := kk_Mo _ j_Mo_164
theorem k_Mo_165 : (.instanceMethod y_Mo_isShort) ∈ V_Mo := kk_Mo _ j_Mo_165
theorem k_Mo_166 : (.code y_Mo_isShort prog_14_method_28_code 6 (some .boolean)) ∈ V_Mo := kk_Mo _ j_Mo_166
theorem k_Mo_167 : (.methodLink "VolumeTurnerModel" 237 y_Mo_isShortSign) ∈ V_Mo := kk_Mo _ j_Mo_167
theorem k_Mo_168 : (.static y_Mo_isShortSign) ∈ V_Mo := kk_Mo _ j_Mo_168
theorem k_Mo_169 : (.code y_Mo_isShortSign prog_14_method_27_code 1 (some .boolean)) ∈ V_Mo := kk_Mo _ j_Mo_169
theorem k_Mo_170 : (.methodLink "VolumeTurnerModel" 232 ⟨"java/lang/String", "indexOf", "(I)I"⟩) ∈ V_Mo := kk_Mo _ j_Mo_170
theorem k_Mo_171 : (.methodLink "VolumeTurnerModel" 281 y_Mo_sumOf) ∈ V_Mo := kk_Mo _ j_Mo_171
theorem k_Mo_172 : (.instanceMethod y_Mo_sumOf) ∈ V_Mo := kk_Mo _ j_Mo_172
theorem k_Mo_173 : (.code y_Mo_sumOf prog_14_method_35_code 4 (some .int)) ∈ V_Mo := kk_Mo _ j_Mo_173
theorem k_Mo_174 : (.methodLink "VolumeTurnerModel" 284 y_Mo_said) ∈ V_Mo := kk_Mo _ j_Mo_174
theorem k_Mo_175 : (.instanceMethod y_Mo_said) ∈ V_Mo := kk_Mo _ j_Mo_175
theorem k_Mo_176 : (.code y_Mo_said prog_14_method_38_code 4 (some .boolean)) ∈ V_Mo := kk_Mo _ j_Mo_176
theorem k_Mo_177 : (.constant "VolumeTurnerModel" 261 (65535 : Int32)) ∈ V_Mo := kk_Mo _ j_Mo_177
theorem k_Mo_178 : (.methodLink "VolumeTurnerModel" 262 y_Mo_whole) ∈ V_Mo := kk_Mo _ j_Mo_178
theorem k_Mo_179 : (.static y_Mo_whole) ∈ V_Mo := kk_Mo _ j_Mo_179
theorem k_Mo_180 : (.code y_Mo_whole prog_14_method_8_code 2 (some .int)) ∈ V_Mo := kk_Mo _ j_Mo_180
theorem k_Mo_181 : (.methodLink "VolumeTurnerModel" 265 y_Mo_isName) ∈ V_Mo := kk_Mo _ j_Mo_181
theorem k_Mo_182 : (.instanceMethod y_Mo_isName) ∈ V_Mo := kk_Mo _ j_Mo_182
theorem k_Mo_183 : (.code y_Mo_isName prog_14_method_36_code 4 (some .boolean)) ∈ V_Mo := kk_Mo _ j_Mo_183
theorem k_Mo_184 : (.constant "VolumeTurnerModel" 256 (55296 : Int32)) ∈ V_Mo := kk_Mo _ j_Mo_184
theorem k_Mo_185 : (.constant "VolumeTurnerModel" 257 (57343 : Int32)) ∈ V_Mo := kk_Mo _ j_Mo_185
theorem k_Mo_186 : (.constant "VolumeTurnerModel" 258 (65533 : Int32)) ∈ V_Mo := kk_Mo _ j_Mo_186
theorem k_Mo_187 : (.methodLink "VolumeTurnerModel" 287 y_Mo_shown) ∈ V_Mo := kk_Mo _ j_Mo_187
theorem k_Mo_188 : (.instanceMethod y_Mo_shown) ∈ V_Mo := kk_Mo _ j_Mo_188
theorem k_Mo_189 : (.code y_Mo_shown prog_14_method_37_code 3 none) ∈ V_Mo := kk_Mo _ j_Mo_189
theorem k_Mo_190 : (.methodLink "VolumeTurnerModel" 290 y_Mo_isTaken) ∈ V_Mo := kk_Mo _ j_Mo_190
theorem k_Mo_191 : (.instanceMethod y_Mo_isTaken) ∈ V_Mo := kk_Mo _ j_Mo_191
theorem k_Mo_192 : (.code y_Mo_isTaken prog_14_method_41_code 4 (some .boolean)) ∈ V_Mo := kk_Mo _ j_Mo_192
theorem k_Mo_193 : (.methodLink "VolumeTurnerModel" 271 y_Mo_isAlike) ∈ V_Mo := kk_Mo _ j_Mo_193
theorem k_Mo_194 : (.instanceMethod y_Mo_isAlike) ∈ V_Mo := kk_Mo _ j_Mo_194
theorem k_Mo_195 : (.code y_Mo_isAlike prog_14_method_40_code 4 (some .boolean)) ∈ V_Mo := kk_Mo _ j_Mo_195
theorem k_Mo_196 : (.methodLink "VolumeTurnerModel" 268 y_Mo_capital) ∈ V_Mo := kk_Mo _ j_Mo_196
theorem k_Mo_197 : (.static y_Mo_capital) ∈ V_Mo := kk_Mo _ j_Mo_197
theorem k_Mo_198 : (.code y_Mo_capital prog_14_method_39_code 1 (some .int)) ∈ V_Mo := kk_Mo _ j_Mo_198
theorem k_Mo_199 : (.instanceMethod y_Mo_fault) ∈ V_Mo := kk_Mo _ j_Mo_199
theorem k_Mo_200 : (.selects "VolumeTurnerModel" y_Mo_fault y_Mo_fault) ∈ V_Mo := kk_Mo _ j_Mo_200
theorem k_Mo_201 : (.code y_Mo_fault prog_14_method_48_code 1 (some .int)) ∈ V_Mo := kk_Mo _ j_Mo_201
theorem k_Mo_202 : (.instanceMethod y_Mo_poke) ∈ V_Mo := kk_Mo _ j_Mo_202
theorem k_Mo_203 : (.selects "VolumeTurnerModel" y_Mo_poke y_Mo_poke) ∈ V_Mo := kk_Mo _ j_Mo_203
theorem k_Mo_204 : (.code y_Mo_poke prog_14_method_50_code 4 (some .boolean)) ∈ V_Mo := kk_Mo _ j_Mo_204
theorem k_Mo_205 : (.methodLink "VolumeTurnerModel" 308 y_Mo_changed) ∈ V_Mo := kk_Mo _ j_Mo_205
theorem k_Mo_206 : (.instanceMethod y_Mo_changed) ∈ V_Mo := kk_Mo _ j_Mo_206
theorem k_Mo_207 : (.code y_Mo_changed prog_14_method_49_code 1 none) ∈ V_Mo := kk_Mo _ j_Mo_207
theorem k_Mo_208 : (.instanceMethod y_Mo_byteAt) ∈ V_Mo := kk_Mo _ j_Mo_208
theorem k_Mo_209 : (.selects "VolumeTurnerModel" y_Mo_byteAt y_Mo_byteAt) ∈ V_Mo := kk_Mo _ j_Mo_209
theorem k_Mo_210 : (.code y_Mo_byteAt prog_14_method_51_code 4 (some .int)) ∈ V_Mo := kk_Mo _ j_Mo_210
theorem k_Mo_211 : (.instanceMethod y_Mo_format) ∈ V_Mo := kk_Mo _ j_Mo_211
theorem k_Mo_212 : (.selects "VolumeTurnerModel" y_Mo_format y_Mo_format) ∈ V_Mo := kk_Mo _ j_Mo_212
theorem k_Mo_213 : (.code y_Mo_format prog_14_method_52_code 11 (some .int)) ∈ V_Mo := kk_Mo _ j_Mo_213
theorem k_Mo_214 : (.methodLink "VolumeTurnerModel" 314 y_Mo_taken) ∈ V_Mo := kk_Mo _ j_Mo_214
theorem k_Mo_215 : (.instanceMethod y_Mo_taken) ∈ V_Mo := kk_Mo _ j_Mo_215
theorem k_Mo_216 : (.code y_Mo_taken prog_14_method_46_code 2 (some .int)) ∈ V_Mo := kk_Mo _ j_Mo_216
theorem k_Mo_217 : (.methodLink "VolumeTurnerModel" 317 y_Mo_fails) ∈ V_Mo := kk_Mo _ j_Mo_217
theorem k_Mo_218 : (.instanceMethod y_Mo_fails) ∈ V_Mo := kk_Mo _ j_Mo_218
theorem k_Mo_219 : (.code y_Mo_fails prog_14_method_3_code 3 (some .boolean)) ∈ V_Mo := kk_Mo _ j_Mo_219
theorem k_Mo_220 : (.constantLong "VolumeTurnerModel" 321 (512 : Int64)) ∈ V_Mo := kk_Mo _ j_Mo_220
theorem k_Mo_221 : (.methodLink "VolumeTurnerModel" 128 y_Mo_set) ∈ V_Mo := kk_Mo _ j_Mo_221
theorem k_Mo_222 : (.instanceMethod y_Mo_set) ∈ V_Mo := kk_Mo _ j_Mo_222
theorem k_Mo_223 : (.code y_Mo_set prog_14_method_7_code 6 none) ∈ V_Mo := kk_Mo _ j_Mo_223
theorem k_Mo_224 : (.constantLong "VolumeTurnerModel" 323 (2 : Int64)) ∈ V_Mo := kk_Mo _ j_Mo_224
theorem k_Mo_225 : (.constantLong "VolumeTurnerModel" 325 (6 : Int64)) ∈ V_Mo := kk_Mo _ j_Mo_225
theorem k_Mo_226 : (.constantLong "VolumeTurnerModel" 327 (43605 : Int64)) ∈ V_Mo := kk_Mo _ j_Mo_226
theorem k_Mo_227 : (.constantLong "VolumeTurnerModel" 329 (1096897106 : Int64)) ∈ V_Mo := kk_Mo _ j_Mo_227
theorem k_Mo_228 : (.constantLong "VolumeTurnerModel" 331 (1631679090 : Int64)) ∈ V_Mo := kk_Mo _ j_Mo_228
theorem k_Mo_229 : (.constantLong "VolumeTurnerModel" 333 (4294967295 : Int64)) ∈ V_Mo := kk_Mo _ j_Mo_229
theorem k_Mo_230 : (.constantLong "VolumeTurnerModel" 335 (2857697280 : Int64)) ∈ V_Mo := kk_Mo _ j_Mo_230
theorem k_Mo_231 : (.methodLink "VolumeTurnerModel" 337 y_Mo_setEntry) ∈ V_Mo := kk_Mo _ j_Mo_231
theorem k_Mo_232 : (.instanceMethod y_Mo_setEntry) ∈ V_Mo := kk_Mo _ j_Mo_232
theorem k_Mo_233 : (.code y_Mo_setEntry prog_14_method_11_code 5 none) ∈ V_Mo := kk_Mo _ j_Mo_233
theorem k_Mo_234 : (.constant "VolumeTurnerModel" 127 (-268435456 : Int32)) ∈ V_Mo := kk_Mo _ j_Mo_234
theorem k_Mo_235 : (.constantLong "VolumeTurnerModel" 341 (8 : Int64)) ∈ V_Mo := kk_Mo _ j_Mo_235
theorem k_Mo_236 : (.constantLong "VolumeTurnerModel" 343 (33 : Int64)) ∈ V_Mo := kk_Mo _ j_Mo_236
theorem k_Mo_237 : (.instanceMethod y_Mo_items) ∈ V_Mo := kk_Mo _ j_Mo_237
theorem k_Mo_238 : (.selects "VolumeTurnerModel" y_Mo_items y_Mo_items) ∈ V_Mo := kk_Mo _ j_Mo_238
theorem k_Mo_239 : (.code y_Mo_items prog_14_method_56_code 1 (some .int)) ∈ V_Mo := kk_Mo _ j_Mo_239
theorem k_Mo_240 : (.methodLink "VolumeTurnerModel" 349 y_Mo_none) ∈ V_Mo := kk_Mo _ j_Mo_240
theorem k_Mo_241 : (.instanceMethod y_Mo_none) ∈ V_Mo := kk_Mo _ j_Mo_241
theorem k_Mo_242 : (.code y_Mo_none prog_14_method_53_code 1 (some .boolean)) ∈ V_Mo := kk_Mo _ j_Mo_242
theorem k_Mo_243 : (.methodLink "VolumeTurnerModel" 352 y_Mo_many) ∈ V_Mo := kk_Mo _ j_Mo_243
theorem k_Mo_244 : (.instanceMethod y_Mo_many) ∈ V_Mo := kk_Mo _ j_Mo_244
theorem k_Mo_245 : (.code y_Mo_many prog_14_method_55_code 1 (some .int)) ∈ V_Mo := kk_Mo _ j_Mo_245
theorem k_Mo_246 : (.methodLink "VolumeTurnerModel" 345 y_Mo_folderHere) ∈ V_Mo := kk_Mo _ j_Mo_246
theorem k_Mo_247 : (.instanceMethod y_Mo_folderHere) ∈ V_Mo := kk_Mo _ j_Mo_247
theorem k_Mo_248 : (.code y_Mo_folderHere prog_14_method_54_code 2 (some .int)) ∈ V_Mo := kk_Mo _ j_Mo_248
theorem k_Mo_249 : (.instanceMethod y_Mo_letter) ∈ V_Mo := kk_Mo _ j_Mo_249
theorem k_Mo_250 : (.selects "VolumeTurnerModel" y_Mo_letter y_Mo_letter) ∈ V_Mo := kk_Mo _ j_Mo_250
theorem k_Mo_251 : (.code y_Mo_letter prog_14_method_62_code 3 (some .int)) ∈ V_Mo := kk_Mo _ j_Mo_251
theorem k_Mo_252 : (.methodLink "VolumeTurnerModel" 364 y_Mo_no) ∈ V_Mo := kk_Mo _ j_Mo_252
theorem k_Mo_253 : (.instanceMethod y_Mo_no) ∈ V_Mo := kk_Mo _ j_Mo_253
theorem k_Mo_254 : (.code y_Mo_no prog_14_method_57_code 2 (some .boolean)) ∈ V_Mo := kk_Mo _ j_Mo_254
theorem k_Mo_255 : (.methodLink "VolumeTurnerModel" 367 y_Mo_item) ∈ V_Mo := kk_Mo _ j_Mo_255
theorem k_Mo_256 : (.instanceMethod y_Mo_item) ∈ V_Mo := kk_Mo _ j_Mo_256
theorem k_Mo_257 : (.code y_Mo_item prog_14_method_58_code 2 (some .int)) ∈ V_Mo := kk_Mo _ j_Mo_257
theorem k_Mo_258 : (.methodLink "VolumeTurnerModel" 370 y_Mo_text) ∈ V_Mo := kk_Mo _ j_Mo_258
theorem k_Mo_259 : (.instanceMethod y_Mo_text) ∈ V_Mo := kk_Mo _ j_Mo_259
theorem k_Mo_260 : (.code y_Mo_text prog_14_method_61_code 7 (some .int)) ∈ V_Mo := kk_Mo _ j_Mo_260
theorem k_Mo_261 : (.methodLink "VolumeTurnerModel" 360 ⟨"java/lang/String", "charAt", "(I)C"⟩) ∈ V_Mo := kk_Mo _ j_Mo_261
theorem k_Mo_262 : (.methodLink "VolumeTurnerModel" 355 y_Mo_bytesOf) ∈ V_Mo := kk_Mo _ j_Mo_262
theorem k_Mo_263 : (.static y_Mo_bytesOf) ∈ V_Mo := kk_Mo _ j_Mo_263
theorem k_Mo_264 : (.code y_Mo_bytesOf prog_14_method_59_code 1 (some .int)) ∈ V_Mo := kk_Mo _ j_Mo_264
theorem k_Mo_265 : (.instanceMethod y_Mo_about) ∈ V_Mo := kk_Mo _ j_Mo_265
theorem k_Mo_266 : (.selects "VolumeTurnerModel" y_Mo_about y_Mo_about) ∈ V_Mo := kk_Mo _ j_Mo_266
theorem k_Mo_267 : (.code y_Mo_about prog_14_method_65_code 4 (some .long)) ∈ V_Mo := kk_Mo _ j_Mo_267
theorem k_Mo_268 : (.constantLong "VolumeTurnerModel" 387 (1024 : Int64)) ∈ V_Mo := kk_Mo _ j_Mo_268
theorem k_Mo_269 : (.methodLink "VolumeTurnerModel" 389 y_Mo_recordBlocks) ∈ V_Mo := kk_Mo _ j_Mo_269
theorem k_Mo_270 : (.instanceMethod y_Mo_recordBlocks) ∈ V_Mo := kk_Mo _ j_Mo_270
theorem k_Mo_271 : (.code y_Mo_recordBlocks prog_14_method_88_code 3 (some .int)) ∈ V_Mo := kk_Mo _ j_Mo_271
theorem k_Mo_272 : (.methodLink "VolumeTurnerModel" 450 y_Mo_clustersOf) ∈ V_Mo := kk_Mo _ j_Mo_272
theorem k_Mo_273 : (.instanceMethod y_Mo_clustersOf) ∈ V_Mo := kk_Mo _ j_Mo_273
theorem k_Mo_274 : (.code y_Mo_clustersOf prog_14_method_87_code 2 (some .int)) ∈ V_Mo := kk_Mo _ j_Mo_274
theorem k_Mo_275 : (.methodLink "VolumeTurnerModel" 195 y_Mo_walk) ∈ V_Mo := kk_Mo _ j_Mo_275
theorem k_Mo_276 : (.instanceMethod y_Mo_walk) ∈ V_Mo := kk_Mo _ j_Mo_276
theorem k_Mo_277 : (.code y_Mo_walk prog_14_method_17_code 3 none) ∈ V_Mo := kk_Mo _ j_Mo_277
theorem k_Mo_278 : (.methodLink "VolumeTurnerModel" 392 y_Mo_timeOf) ∈ V_Mo := kk_Mo _ j_Mo_278
theorem k_Mo_279 : (.instanceMethod y_Mo_timeOf) ∈ V_Mo := kk_Mo _ j_Mo_279
theorem k_Mo_280 : (.code y_Mo_timeOf prog_14_method_64_code 4 (some .long)) ∈ V_Mo := kk_Mo _ j_Mo_280
theorem k_Mo_281 : (.methodLink "VolumeTurnerModel" 383 y_Mo_seconds) ∈ V_Mo := kk_Mo _ j_Mo_281
theorem k_Mo_282 : (.static y_Mo_seconds) ∈ V_Mo := kk_Mo _ j_Mo_282
theorem k_Mo_283 : (.code y_Mo_seconds prog_14_method_63_code 7 (some .long)) ∈ V_Mo := kk_Mo _ j_Mo_283
theorem k_Mo_284 : (.constantLong "VolumeTurnerModel" 373 (366 : Int64)) ∈ V_Mo := kk_Mo _ j_Mo_284
theorem k_Mo_285 : (.constantLong "VolumeTurnerModel" 375 (365 : Int64)) ∈ V_Mo := kk_Mo _ j_Mo_285
theorem k_Mo_286 : (.constantLong "VolumeTurnerModel" 377 (86400 : Int64)) ∈ V_Mo := kk_Mo _ j_Mo_286
theorem k_Mo_287 : (.constantLong "VolumeTurnerModel" 379 (3600 : Int64)) ∈ V_Mo := kk_Mo _ j_Mo_287
theorem k_Mo_288 : (.constantLong "VolumeTurnerModel" 381 (60 : Int64)) ∈ V_Mo := kk_Mo _ j_Mo_288
theorem k_Mo_289 : (.methodLink "VolumeTurnerModel" 395 y_Mo_folderBlocks) ∈ V_Mo := kk_Mo _ j_Mo_289
theorem k_Mo_290 : (.instanceMethod y_Mo_folderBlocks) ∈ V_Mo := kk_Mo _ j_Mo_290
theorem k_Mo_291 : (.code y_Mo_folderBlocks prog_14_method_86_code 7 (some .int)) ∈ V_Mo := kk_Mo _ j_Mo_291
theorem k_Mo_292 : (.methodLink "VolumeTurnerModel" 447 y_Mo_textSize) ∈ V_Mo := kk_Mo _ j_Mo_292
theorem k_Mo_293 : (.instanceMethod y_Mo_textSize) ∈ V_Mo := kk_Mo _ j_Mo_293
theorem k_Mo_294 : (.code y_Mo_textSize prog_14_method_60_code 4 (some .int)) ∈ V_Mo := kk_Mo _ j_Mo_294
theorem k_Mo_295 : (.instanceMethod y_Mo_content) ∈ V_Mo := kk_Mo _ j_Mo_295
theorem k_Mo_296 : (.selects "VolumeTurnerModel" y_Mo_content y_Mo_content) ∈ V_Mo := kk_Mo _ j_Mo_296
theorem k_Mo_297 : (.code y_Mo_content prog_14_method_66_code 4 (some .int)) ∈ V_Mo := kk_Mo _ j_Mo_297
theorem k_Mo_298 : (.instanceMethod y_Mo_enter) ∈ V_Mo := kk_Mo _ j_Mo_298
theorem k_Mo_299 : (.selects "VolumeTurnerModel" y_Mo_enter y_Mo_enter) ∈ V_Mo := kk_Mo _ j_Mo_299
theorem k_Mo_300 : (.code y_Mo_enter prog_14_method_67_code 2 (some .int)) ∈ V_Mo := kk_Mo _ j_Mo_300
theorem k_Mo_301 : (.instanceMethod y_Mo_up) ∈ V_Mo := kk_Mo _ j_Mo_301
theorem k_Mo_302 : (.selects "VolumeTurnerModel" y_Mo_up y_Mo_up) ∈ V_Mo := kk_Mo _ j_Mo_302
theorem k_Mo_303 : (.code y_Mo_up prog_14_method_68_code 2 (some .boolean)) ∈ V_Mo := kk_Mo _ j_Mo_303
theorem k_Mo_304 : (.instanceMethod y_Mo_make) ∈ V_Mo := kk_Mo _ j_Mo_304
theorem k_Mo_305 : (.selects "VolumeTurnerModel" y_Mo_make y_Mo_make) ∈ V_Mo := kk_Mo _ j_Mo_305
theorem k_Mo_306 : (.code y_Mo_make prog_14_method_77_code 18 (some .int)) ∈ V_Mo := kk_Mo _ j_Mo_306
theorem k_Mo_307 : (.methodLink "VolumeTurnerModel" 404 y_Mo_fixedNow) ∈ V_Mo := kk_Mo _ j_Mo_307
theorem k_Mo_308 : (.instanceMethod y_Mo_fixedNow) ∈ V_Mo := kk_Mo _ j_Mo_308
theorem k_Mo_309 : (.code y_Mo_fixedNow prog_14_method_69_code 1 (some .boolean)) ∈ V_Mo := kk_Mo _ j_Mo_309
theorem k_Mo_310 : (.methodLink "VolumeTurnerModel" 407 y_Mo_named) ∈ V_Mo := kk_Mo _ j_Mo_310
theorem k_Mo_311 : (.instanceMethod y_Mo_named) ∈ V_Mo := kk_Mo _ j_Mo_311
theorem k_Mo_312 : (.code y_Mo_named prog_14_method_72_code 2 (some .boolean)) ∈ V_Mo := kk_Mo _ j_Mo_312
theorem k_Mo_313 : (.methodLink "VolumeTurnerModel" 410 y_Mo_isBrief) ∈ V_Mo := kk_Mo _ j_Mo_313
theorem k_Mo_314 : (.instanceMethod y_Mo_isBrief) ∈ V_Mo := kk_Mo _ j_Mo_314
theorem k_Mo_315 : (.code y_Mo_isBrief prog_14_method_73_code 3 (some .boolean)) ∈ V_Mo := kk_Mo _ j_Mo_315
theorem k_Mo_316 : (.methodLink "VolumeTurnerModel" 401 y_Mo_isBriefTaken) ∈ V_Mo := kk_Mo _ j_Mo_316
theorem k_Mo_317 : (.instanceMethod y_Mo_isBriefTaken) ∈ V_Mo := kk_Mo _ j_Mo_317
theorem k_Mo_318 : (.code y_Mo_isBriefTaken prog_14_method_75_code 5 (some .boolean)) ∈ V_Mo := kk_Mo _ j_Mo_318
theorem k_Mo_319 : (.methodLink "VolumeTurnerModel" 413 y_Mo_shorten) ∈ V_Mo := kk_Mo _ j_Mo_319
theorem k_Mo_320 : (.instanceMethod y_Mo_shorten) ∈ V_Mo := kk_Mo _ j_Mo_320
theorem k_Mo_321 : (.code y_Mo_shorten prog_14_method_76_code 11 none) ∈ V_Mo := kk_Mo _ j_Mo_321
theorem k_Mo_322 : (.methodLink "VolumeTurnerModel" 398 y_Mo_plain) ∈ V_Mo := kk_Mo _ j_Mo_322
theorem k_Mo_323 : (.static y_Mo_plain) ∈ V_Mo := kk_Mo _ j_Mo_323
theorem k_Mo_324 : (.code y_Mo_plain prog_14_method_74_code 2 (some .int)) ∈ V_Mo := kk_Mo _ j_Mo_324
theorem k_Mo_325 : (.methodLink "VolumeTurnerModel" 416 y_Mo_loadFolder) ∈ V_Mo := kk_Mo _ j_Mo_325
theorem k_Mo_326 : (.instanceMethod y_Mo_loadFolder) ∈ V_Mo := kk_Mo _ j_Mo_326
theorem k_Mo_327 : (.code y_Mo_loadFolder prog_14_method_23_code 3 none) ∈ V_Mo := kk_Mo _ j_Mo_327
theorem k_Mo_328 : (.methodLink "VolumeTurnerModel" 419 y_Mo_free) ∈ V_Mo := kk_Mo _ j_Mo_328
theorem k_Mo_329 : (.instanceMethod y_Mo_free) ∈ V_Mo := kk_Mo _ j_Mo_329
theorem k_Mo_330 : (.code y_Mo_free prog_14_method_70_code 3 (some .int)) ∈ V_Mo := kk_Mo _ j_Mo_330
theorem k_Mo_331 : (.methodLink "VolumeTurnerModel" 422 y_Mo_take) ∈ V_Mo := kk_Mo _ j_Mo_331
theorem k_Mo_332 : (.instanceMethod y_Mo_take) ∈ V_Mo := kk_Mo _ j_Mo_332
theorem k_Mo_333 : (.code y_Mo_take prog_14_method_71_code 3 (some .int)) ∈ V_Mo := kk_Mo _ j_Mo_333
theorem k_Mo_334 : (.methodLink "VolumeTurnerModel" 425 y_Mo_layPart) ∈ V_Mo := kk_Mo _ j_Mo_334
theorem k_Mo_335 : (.instanceMethod y_Mo_layPart) ∈ V_Mo := kk_Mo _ j_Mo_335
theorem k_Mo_336 : (.code y_Mo_layPart prog_14_method_78_code 7 none) ∈ V_Mo := kk_Mo _ j_Mo_336
theorem k_Mo_337 : (.constantLong "VolumeTurnerModel" 435 (15 : Int64)) ∈ V_Mo := kk_Mo _ j_Mo_337
theorem k_Mo_338 : (.constantLong "VolumeTurnerModel" 437 (65535 : Int64)) ∈ V_Mo := kk_Mo _ j_Mo_338
theorem k_Mo_339 : (.constantLong "VolumeTurnerModel" 429 (48 : Int64)) ∈ V_Mo := kk_Mo _ j_Mo_339
theorem k_Mo_340 : (.constantLong "VolumeTurnerModel" 431 (32 : Int64)) ∈ V_Mo := kk_Mo _ j_Mo_340
theorem k_Mo_341 : (.constantLong "VolumeTurnerModel" 433 (16 : Int64)) ∈ V_Mo := kk_Mo _ j_Mo_341
theorem k_Mo_342 : (.instanceMethod y_Mo_write) ∈ V_Mo := kk_Mo _ j_Mo_342
theorem k_Mo_343 : (.selects "VolumeTurnerModel" y_Mo_write y_Mo_write) ∈ V_Mo := kk_Mo _ j_Mo_343
theorem k_Mo_344 : (.code y_Mo_write prog_14_method_81_code 3 (some .int)) ∈ V_Mo := kk_Mo _ j_Mo_344
theorem k_Mo_345 : (.methodLink "VolumeTurnerModel" 439 y_Mo_noFile) ∈ V_Mo := kk_Mo _ j_Mo_345
theorem k_Mo_346 : (.instanceMethod y_Mo_noFile) ∈ V_Mo := kk_Mo _ j_Mo_346
theorem k_Mo_347 : (.code y_Mo_noFile prog_14_method_80_code 3 (some .boolean)) ∈ V_Mo := kk_Mo _ j_Mo_347
theorem k_Mo_348 : (.methodLink "VolumeTurnerModel" 442 y_Mo_append) ∈ V_Mo := kk_Mo _ j_Mo_348
theorem k_Mo_349 : (.instanceMethod y_Mo_append) ∈ V_Mo := kk_Mo _ j_Mo_349
theorem k_Mo_350 : (.code y_Mo_append prog_14_method_79_code 11 (some .int)) ∈ V_Mo := kk_Mo _ j_Mo_350
theorem k_Mo_351 : (.instanceMethod y_Mo_grow) ∈ V_Mo := kk_Mo _ j_Mo_351
theorem k_Mo_352 : (.selects "VolumeTurnerModel" y_Mo_grow y_Mo_grow) ∈ V_Mo := kk_Mo _ j_Mo_352
theorem k_Mo_353 : (.code y_Mo_grow prog_14_method_82_code 4 (some .int)) ∈ V_Mo := kk_Mo _ j_Mo_353
theorem k_Mo_354 : (.constant "VolumeTurnerModel" 446 (400000 : Int32)) ∈ V_Mo := kk_Mo _ j_Mo_354
theorem k_Mo_355 : (.instanceMethod y_Mo_cut) ∈ V_Mo := kk_Mo _ j_Mo_355
theorem k_Mo_356 : (.selects "VolumeTurnerModel" y_Mo_cut y_Mo_cut) ∈ V_Mo := kk_Mo _ j_Mo_356
theorem k_Mo_357 : (.code y_Mo_cut prog_14_method_83_code 6 (some .int)) ∈ V_Mo := kk_Mo _ j_Mo_357
theorem k_Mo_358 : (.instanceMethod y_Mo_remove) ∈ V_Mo := kk_Mo _ j_Mo_358
theorem k_Mo_359 : (.selects "VolumeTurnerModel" y_Mo_remove y_Mo_remove) ∈ V_Mo := kk_Mo _ j_Mo_359
theorem k_Mo_360 : (.code y_Mo_remove prog_14_method_84_code 4 none) ∈ V_Mo := kk_Mo _ j_Mo_360
theorem k_Mo_361 : (.instanceMethod y_Mo_stamp) ∈ V_Mo := kk_Mo _ j_Mo_361
theorem k_Mo_362 : (.selects "VolumeTurnerModel" y_Mo_stamp y_Mo_stamp) ∈ V_Mo := kk_Mo _ j_Mo_362
theorem k_Mo_363 : (.code y_Mo_stamp prog_14_method_85_code 7 none) ∈ V_Mo := kk_Mo _ j_Mo_363
theorem k_Mo_364 : (.instanceMethod y_Mo_plan) ∈ V_Mo := kk_Mo _ j_Mo_364
theorem k_Mo_365 : (.selects "VolumeTurnerModel" y_Mo_plan y_Mo_plan) ∈ V_Mo := kk_Mo _ j_Mo_365
theorem k_Mo_366 : (.code y_Mo_plan prog_14_method_100_code 4 (some .int)) ∈ V_Mo := kk_Mo _ j_Mo_366
theorem k_Mo_367 : (.methodLink "VolumeTurnerModel" 510 y_Mo_refusal) ∈ V_Mo := kk_Mo _ j_Mo_367
theorem k_Mo_368 : (.instanceMethod y_Mo_refusal) ∈ V_Mo := kk_Mo _ j_Mo_368
theorem k_Mo_369 : (.code y_Mo_refusal prog_14_method_99_code 2 (some .int)) ∈ V_Mo := kk_Mo _ j_Mo_369
theorem k_Mo_370 : (.methodLink "VolumeTurnerModel" 498 y_Mo_isRoomy) ∈ V_Mo := kk_Mo _ j_Mo_370
theorem k_Mo_371 : (.instanceMethod y_Mo_isRoomy) ∈ V_Mo := kk_Mo _ j_Mo_371
theorem k_Mo_372 : (.code y_Mo_isRoomy prog_14_method_94_code 4 (some .boolean)) ∈ V_Mo := kk_Mo _ j_Mo_372
theorem k_Mo_373 : (.methodLink "VolumeTurnerModel" 462 y_Mo_groupSize) ∈ V_Mo := kk_Mo _ j_Mo_373
theorem k_Mo_374 : (.instanceMethod y_Mo_groupSize) ∈ V_Mo := kk_Mo _ j_Mo_374
theorem k_Mo_375 : (.code y_Mo_groupSize prog_14_method_91_code 2 (some .int)) ∈ V_Mo := kk_Mo _ j_Mo_375
theorem k_Mo_376 : (.methodLink "VolumeTurnerModel" 468 y_Mo_mapOf) ∈ V_Mo := kk_Mo _ j_Mo_376
theorem k_Mo_377 : (.instanceMethod y_Mo_mapOf) ∈ V_Mo := kk_Mo _ j_Mo_377
theorem k_Mo_378 : (.code y_Mo_mapOf prog_14_method_92_code 2 (some .int)) ∈ V_Mo := kk_Mo _ j_Mo_378
theorem k_Mo_379 : (.methodLink "VolumeTurnerModel" 474 y_Mo_clusterOf) ∈ V_Mo := kk_Mo _ j_Mo_379
theorem k_Mo_380 : (.instanceMethod y_Mo_clusterOf) ∈ V_Mo := kk_Mo _ j_Mo_380
theorem k_Mo_381 : (.code y_Mo_clusterOf prog_14_method_93_code 2 (some .int)) ∈ V_Mo := kk_Mo _ j_Mo_381
theorem k_Mo_382 : (.methodLink "VolumeTurnerModel" 501 y_Mo_badNames) ∈ V_Mo := kk_Mo _ j_Mo_382
theorem k_Mo_383 : (.instanceMethod y_Mo_badNames) ∈ V_Mo := kk_Mo _ j_Mo_383
theorem k_Mo_384 : (.code y_Mo_badNames prog_14_method_96_code 3 (some .boolean)) ∈ V_Mo := kk_Mo _ j_Mo_384
theorem k_Mo_385 : (.methodLink "VolumeTurnerModel" 504 y_Mo_badTimes) ∈ V_Mo := kk_Mo _ j_Mo_385
theorem k_Mo_386 : (.instanceMethod y_Mo_badTimes) ∈ V_Mo := kk_Mo _ j_Mo_386
theorem k_Mo_387 : (.code y_Mo_badTimes prog_14_method_97_code 4 (some .boolean)) ∈ V_Mo := kk_Mo _ j_Mo_387
theorem k_Mo_388 : (.methodLink "VolumeTurnerModel" 507 y_Mo_finds) ∈ V_Mo := kk_Mo _ j_Mo_388
theorem k_Mo_389 : (.instanceMethod y_Mo_finds) ∈ V_Mo := kk_Mo _ j_Mo_389
theorem k_Mo_390 : (.code y_Mo_finds prog_14_method_98_code 5 (some .boolean)) ∈ V_Mo := kk_Mo _ j_Mo_390
theorem k_Mo_391 : (.methodLink "VolumeTurnerModel" 480 y_Mo_isFixed) ∈ V_Mo := kk_Mo _ j_Mo_391
theorem k_Mo_392 : (.instanceMethod y_Mo_isFixed) ∈ V_Mo := kk_Mo _ j_Mo_392
theorem k_Mo_393 : (.code y_Mo_isFixed prog_14_method_95_code 4 (some .boolean)) ∈ V_Mo := kk_Mo _ j_Mo_393
theorem k_Mo_394 : (.methodLink "VolumeTurnerModel" 483 y_Mo_indirect) ∈ V_Mo := kk_Mo _ j_Mo_394
theorem k_Mo_395 : (.static y_Mo_indirect) ∈ V_Mo := kk_Mo _ j_Mo_395
theorem k_Mo_396 : (.code y_Mo_indirect prog_14_method_89_code 1 (some .int)) ∈ V_Mo := kk_Mo _ j_Mo_396
theorem k_Mo_397 : (.methodLink "VolumeTurnerModel" 492 y_Mo_fileBlocks) ∈ V_Mo := kk_Mo _ j_Mo_397
theorem k_Mo_398 : (.instanceMethod y_Mo_fileBlocks) ∈ V_Mo := kk_Mo _ j_Mo_398
theorem k_Mo_399 : (.code y_Mo_fileBlocks prog_14_method_90_code 2 (some .int)) ∈ V_Mo := kk_Mo _ j_Mo_399
theorem k_Mo_400 : (.instanceMethod y_Mo_target) ∈ V_Mo := kk_Mo _ j_Mo_400
theorem k_Mo_401 : (.selects "VolumeTurnerModel" y_Mo_target y_Mo_target) ∈ V_Mo := kk_Mo _ j_Mo_401
theorem k_Mo_402 : (.code y_Mo_target prog_14_method_101_code 3 (some .int)) ∈ V_Mo := kk_Mo _ j_Mo_402
theorem k_Mo_403 : (.instanceMethod y_Mo_fail) ∈ V_Mo := kk_Mo _ j_Mo_403
theorem k_Mo_404 : (.selects "VolumeTurnerModel" y_Mo_fail y_Mo_fail) ∈ V_Mo := kk_Mo _ j_Mo_404
theorem k_Mo_405 : (.code y_Mo_fail prog_14_method_122_code 3 (some .boolean)) ∈ V_Mo := kk_Mo _ j_Mo_405
theorem k_Mo_406 : (.instanceMethod y_Mo_run) ∈ V_Mo := kk_Mo _ j_Mo_406
theorem k_Mo_407 : (.selects "VolumeTurnerModel" y_Mo_run y_Mo_run) ∈ V_Mo := kk_Mo _ j_Mo_407
theorem k_Mo_408 : (.code y_Mo_run prog_14_method_123_code 4 (some .int)) ∈ V_Mo := kk_Mo _ j_Mo_408
theorem k_Mo_409 : (.methodLink "VolumeTurnerModel" 598 y_Mo_turn) ∈ V_Mo := kk_Mo _ j_Mo_409
theorem k_Mo_410 : (.instanceMethod y_Mo_turn) ∈ V_Mo := kk_Mo _ j_Mo_410
theorem k_Mo_411 : (.code y_Mo_turn prog_14_method_121_code 4 none) ∈ V_Mo := kk_Mo _ j_Mo_411
theorem k_Mo_412 : (.methodLink "VolumeTurnerModel" 579 y_Mo_makeRecord) ∈ V_Mo := kk_Mo _ j_Mo_412
theorem k_Mo_413 : (.instanceMethod y_Mo_makeRecord) ∈ V_Mo := kk_Mo _ j_Mo_413
theorem k_Mo_414 : (.code y_Mo_makeRecord prog_14_method_110_code 4 none) ∈ V_Mo := kk_Mo _ j_Mo_414
theorem k_Mo_415 : (.methodLink "VolumeTurnerModel" 525 y_Mo_build) ∈ V_Mo := kk_Mo _ j_Mo_415
theorem k_Mo_416 : (.instanceMethod y_Mo_build) ∈ V_Mo := kk_Mo _ j_Mo_416
theorem k_Mo_417 : (.code y_Mo_build prog_14_method_103_code 2 (some .int)) ∈ V_Mo := kk_Mo _ j_Mo_417
theorem k_Mo_418 : (.methodLink "VolumeTurnerModel" 522 y_Mo_lay) ∈ V_Mo := kk_Mo _ j_Mo_418
theorem k_Mo_419 : (.instanceMethod y_Mo_lay) ∈ V_Mo := kk_Mo _ j_Mo_419
theorem k_Mo_420 : (.code y_Mo_lay prog_14_method_102_code 6 none) ∈ V_Mo := kk_Mo _ j_Mo_420
theorem k_Mo_421 : (.methodLink "VolumeTurnerModel" 531 y_Mo_copied) ∈ V_Mo := kk_Mo _ j_Mo_421
theorem k_Mo_422 : (.instanceMethod y_Mo_copied) ∈ V_Mo := kk_Mo _ j_Mo_422
theorem k_Mo_423 : (.code y_Mo_copied prog_14_method_106_code 5 (some .int)) ∈ V_Mo := kk_Mo _ j_Mo_423
theorem k_Mo_424 : (.methodLink "VolumeTurnerModel" 516 y_Mo_standing) ∈ V_Mo := kk_Mo _ j_Mo_424
theorem k_Mo_425 : (.instanceMethod y_Mo_standing) ∈ V_Mo := kk_Mo _ j_Mo_425
theorem k_Mo_426 : (.code y_Mo_standing prog_14_method_105_code 3 (some .int)) ∈ V_Mo := kk_Mo _ j_Mo_426
theorem k_Mo_427 : (.constant "VolumeTurnerModel" 534 (33024 : Int32)) ∈ V_Mo := kk_Mo _ j_Mo_427
theorem k_Mo_428 : (.methodLink "VolumeTurnerModel" 535 y_Mo_inode) ∈ V_Mo := kk_Mo _ j_Mo_428
theorem k_Mo_429 : (.instanceMethod y_Mo_inode) ∈ V_Mo := kk_Mo _ j_Mo_429
theorem k_Mo_430 : (.code y_Mo_inode prog_14_method_107_code 18 none) ∈ V_Mo := kk_Mo _ j_Mo_430
theorem k_Mo_431 : (.methodLink "VolumeTurnerModel" 519 y_Mo_inodeAt) ∈ V_Mo := kk_Mo _ j_Mo_431
theorem k_Mo_432 : (.instanceMethod y_Mo_inodeAt) ∈ V_Mo := kk_Mo _ j_Mo_432
theorem k_Mo_433 : (.code y_Mo_inodeAt prog_14_method_104_code 2 (some .int)) ∈ V_Mo := kk_Mo _ j_Mo_433
theorem k_Mo_434 : (.methodLink "VolumeTurnerModel" 582 y_Mo_makeFolder) ∈ V_Mo := kk_Mo _ j_Mo_434
theorem k_Mo_435 : (.instanceMethod y_Mo_makeFolder) ∈ V_Mo := kk_Mo _ j_Mo_435
theorem k_Mo_436 : (.code y_Mo_makeFolder prog_14_method_113_code 5 none) ∈ V_Mo := kk_Mo _ j_Mo_436
theorem k_Mo_437 : (.methodLink "VolumeTurnerModel" 548 y_Mo_begins) ∈ V_Mo := kk_Mo _ j_Mo_437
theorem k_Mo_438 : (.instanceMethod y_Mo_begins) ∈ V_Mo := kk_Mo _ j_Mo_438
theorem k_Mo_439 : (.code y_Mo_begins prog_14_method_111_code 1 none) ∈ V_Mo := kk_Mo _ j_Mo_439
theorem k_Mo_440 : (.methodLink "VolumeTurnerModel" 551 y_Mo_numberOf) ∈ V_Mo := kk_Mo _ j_Mo_440
theorem k_Mo_441 : (.instanceMethod y_Mo_numberOf) ∈ V_Mo := kk_Mo _ j_Mo_441
theorem k_Mo_442 : (.code y_Mo_numberOf prog_14_method_108_code 2 (some .int)) ∈ V_Mo := kk_Mo _ j_Mo_442
theorem k_Mo_443 : (.methodLink "VolumeTurnerModel" 554 y_Mo_entered) ∈ V_Mo := kk_Mo _ j_Mo_443
theorem k_Mo_444 : (.instanceMethod y_Mo_entered) ∈ V_Mo := kk_Mo _ j_Mo_444
theorem k_Mo_445 : (.code y_Mo_entered prog_14_method_112_code 10 (some .int)) ∈ V_Mo := kk_Mo _ j_Mo_445
theorem k_Mo_446 : (.methodLink "VolumeTurnerModel" 558 y_Mo_mode) ∈ V_Mo := kk_Mo _ j_Mo_446
theorem k_Mo_447 : (.instanceMethod y_Mo_mode) ∈ V_Mo := kk_Mo _ j_Mo_447
theorem k_Mo_448 : (.code y_Mo_mode prog_14_method_109_code 2 (some .int)) ∈ V_Mo := kk_Mo _ j_Mo_448
theorem k_Mo_449 : (.constant "VolumeTurnerModel" 528 (33188 : Int32)) ∈ V_Mo := kk_Mo _ j_Mo_449
theorem k_Mo_450 : (.methodLink "VolumeTurnerModel" 585 y_Mo_makeFile) ∈ V_Mo := kk_Mo _ j_Mo_450
theorem k_Mo_451 : (.instanceMethod y_Mo_makeFile) ∈ V_Mo := kk_Mo _ j_Mo_451
theorem k_Mo_452 : (.code y_Mo_makeFile prog_14_method_114_code 4 none) ∈ V_Mo := kk_Mo _ j_Mo_452
theorem k_Mo_453 : (.methodLink "VolumeTurnerModel" 570 y_Mo_freeBlocks) ∈ V_Mo := kk_Mo _ j_Mo_453
theorem k_Mo_454 : (.instanceMethod y_Mo_freeBlocks) ∈ V_Mo := kk_Mo _ j_Mo_454
theorem k_Mo_455 : (.code y_Mo_freeBlocks prog_14_method_115_code 4 (some .int)) ∈ V_Mo := kk_Mo _ j_Mo_455
theorem k_Mo_456 : (.methodLink "VolumeTurnerModel" 588 y_Mo_makeMaps) ∈ V_Mo := kk_Mo _ j_Mo_456
theorem k_Mo_457 : (.instanceMethod y_Mo_makeMaps) ∈ V_Mo := kk_Mo _ j_Mo_457
theorem k_Mo_458 : (.code y_Mo_makeMaps prog_14_method_119_code 4 none) ∈ V_Mo := kk_Mo _ j_Mo_458
theorem k_Mo_459 : (.methodLink "VolumeTurnerModel" 561 y_Mo_isUsed) ∈ V_Mo := kk_Mo _ j_Mo_459
theorem k_Mo_460 : (.instanceMethod y_Mo_isUsed) ∈ V_Mo := kk_Mo _ j_Mo_460
theorem k_Mo_461 : (.code y_Mo_isUsed prog_14_method_116_code 2 (some .boolean)) ∈ V_Mo := kk_Mo _ j_Mo_461
theorem k_Mo_462 : (.methodLink "VolumeTurnerModel" 591 y_Mo_makeHead) ∈ V_Mo := kk_Mo _ j_Mo_462
theorem k_Mo_463 : (.instanceMethod y_Mo_makeHead) ∈ V_Mo := kk_Mo _ j_Mo_463
theorem k_Mo_464 : (.code y_Mo_makeHead prog_14_method_120_code 8 none) ∈ V_Mo := kk_Mo _ j_Mo_464
theorem k_Mo_465 : (.constantLong "VolumeTurnerModel" 564 (61267 : Int64)) ∈ V_Mo := kk_Mo _ j_Mo_465
theorem k_Mo_466 : (.constantLong "VolumeTurnerModel" 566 (11 : Int64)) ∈ V_Mo := kk_Mo _ j_Mo_466
theorem k_Mo_467 : (.constantLong "VolumeTurnerModel" 568 (128 : Int64)) ∈ V_Mo := kk_Mo _ j_Mo_467
theorem k_Mo_468 : (.methodLink "VolumeTurnerModel" 573 y_Mo_freeInodes) ∈ V_Mo := kk_Mo _ j_Mo_468
theorem k_Mo_469 : (.instanceMethod y_Mo_freeInodes) ∈ V_Mo := kk_Mo _ j_Mo_469
theorem k_Mo_470 : (.code y_Mo_freeInodes prog_14_method_117_code 4 (some .int)) ∈ V_Mo := kk_Mo _ j_Mo_470
theorem k_Mo_471 : (.methodLink "VolumeTurnerModel" 576 y_Mo_foldersOf) ∈ V_Mo := kk_Mo _ j_Mo_471
theorem k_Mo_472 : (.instanceMethod y_Mo_foldersOf) ∈ V_Mo := kk_Mo _ j_Mo_472
theorem k_Mo_473 : (.code y_Mo_foldersOf prog_14_method_118_code 4 (some .int)) ∈ V_Mo := kk_Mo _ j_Mo_473
theorem k_Mo_474 : (.selects "VolumeTurnerModel" y_Mo_fails y_Mo_fails) ∈ V_Mo := kk_Mo _ j_Mo_474
theorem k_Mo_475 : (.selects "VolumeTurnerModel" y_Mo_one y_Mo_one) ∈ V_Mo := kk_Mo _ j_Mo_475
theorem k_Mo_476 : (.selects "VolumeTurnerModel" y_Mo_two y_Mo_two) ∈ V_Mo := kk_Mo _ j_Mo_476
theorem k_Mo_477 : (.selects "VolumeTurnerModel" y_Mo_four y_Mo_four) ∈ V_Mo := kk_Mo _ j_Mo_477
theorem k_Mo_478 : (.selects "VolumeTurnerModel" y_Mo_set y_Mo_set) ∈ V_Mo := kk_Mo _ j_Mo_478
theorem k_Mo_479 : (.selects "VolumeTurnerModel" y_Mo_entryAt y_Mo_entryAt) ∈ V_Mo := kk_Mo _ j_Mo_479
theorem k_Mo_480 : (.selects "VolumeTurnerModel" y_Mo_entry y_Mo_entry) ∈ V_Mo := kk_Mo _ j_Mo_480
theorem k_Mo_481 : (.selects "VolumeTurnerModel" y_Mo_setEntry y_Mo_setEntry) ∈ V_Mo := kk_Mo _ j_Mo_481
theorem k_Mo_482 : (.selects "VolumeTurnerModel" y_Mo_isCluster y_Mo_isCluster) ∈ V_Mo := kk_Mo _ j_Mo_482
theorem k_Mo_483 : (.selects "VolumeTurnerModel" y_Mo_place y_Mo_place) ∈ V_Mo := kk_Mo _ j_Mo_483
theorem k_Mo_484 : (.selects "VolumeTurnerModel" y_Mo_head y_Mo_head) ∈ V_Mo := kk_Mo _ j_Mo_484
theorem k_Mo_485 : (.selects "VolumeTurnerModel" y_Mo_badTables y_Mo_badTables) ∈ V_Mo := kk_Mo _ j_Mo_485
theorem k_Mo_486 : (.selects "VolumeTurnerModel" y_Mo_follows y_Mo_follows) ∈ V_Mo := kk_Mo _ j_Mo_486
theorem k_Mo_487 : (.selects "VolumeTurnerModel" y_Mo_walk y_Mo_walk) ∈ V_Mo := kk_Mo _ j_Mo_487
theorem k_Mo_488 : (.selects "VolumeTurnerModel" y_Mo_firstOf y_Mo_firstOf) ∈ V_Mo := kk_Mo _ j_Mo_488
theorem k_Mo_489 : (.selects "VolumeTurnerModel" y_Mo_isFolder y_Mo_isFolder) ∈ V_Mo := kk_Mo _ j_Mo_489
theorem k_Mo_490 : (.selects "VolumeTurnerModel" y_Mo_beginOf y_Mo_beginOf) ∈ V_Mo := kk_Mo _ j_Mo_490
theorem k_Mo_491 : (.selects "VolumeTurnerModel" y_Mo_slotAt y_Mo_slotAt) ∈ V_Mo := kk_Mo _ j_Mo_491
theorem k_Mo_492 : (.selects "VolumeTurnerModel" y_Mo_look y_Mo_look) ∈ V_Mo := kk_Mo _ j_Mo_492
theorem k_Mo_493 : (.selects "VolumeTurnerModel" y_Mo_loadFolder y_Mo_loadFolder) ∈ V_Mo := kk_Mo _ j_Mo_493
theorem k_Mo_494 : (.selects "VolumeTurnerModel" y_Mo_scan y_Mo_scan) ∈ V_Mo := kk_Mo _ j_Mo_494
theorem k_Mo_495 : (.selects "VolumeTurnerModel" y_Mo_dots y_Mo_dots) ∈ V_Mo := kk_Mo _ j_Mo_495
theorem k_Mo_496 : (.selects "VolumeTurnerModel" y_Mo_part y_Mo_part) ∈ V_Mo := kk_Mo _ j_Mo_496
theorem k_Mo_497 : (.selects "VolumeTurnerModel" y_Mo_isShort y_Mo_isShort) ∈ V_Mo := kk_Mo _ j_Mo_497
theorem k_Mo_498 : (.selects "VolumeTurnerModel" y_Mo_areDays y_Mo_areDays) ∈ V_Mo := kk_Mo _ j_Mo_498
theorem k_Mo_499 : (.selects "VolumeTurnerModel" y_Mo_sumOf y_Mo_sumOf) ∈ V_Mo := kk_Mo _ j_Mo_499
theorem k_Mo_500 : (.selects "VolumeTurnerModel" y_Mo_isName y_Mo_isName) ∈ V_Mo := kk_Mo _ j_Mo_500
theorem k_Mo_501 : (.selects "VolumeTurnerModel" y_Mo_shown y_Mo_shown) ∈ V_Mo := kk_Mo _ j_Mo_501
theorem k_Mo_502 : (.selects "VolumeTurnerModel" y_Mo_said y_Mo_said) ∈ V_Mo := kk_Mo _ j_Mo_502
theorem k_Mo_503 : (.selects "VolumeTurnerModel" y_Mo_isAlike y_Mo_isAlike) ∈ V_Mo := kk_Mo _ j_Mo_503
theorem k_Mo_504 : (.selects "VolumeTurnerModel" y_Mo_isTaken y_Mo_isTaken) ∈ V_Mo := kk_Mo _ j_Mo_504
theorem k_Mo_505 : (.selects "VolumeTurnerModel" y_Mo_taken y_Mo_taken) ∈ V_Mo := kk_Mo _ j_Mo_505
theorem k_Mo_506 : (.selects "VolumeTurnerModel" y_Mo_changed y_Mo_changed) ∈ V_Mo := kk_Mo _ j_Mo_506
theorem k_Mo_507 : (.selects "VolumeTurnerModel" y_Mo_none y_Mo_none) ∈ V_Mo := kk_Mo _ j_Mo_507
theorem k_Mo_508 : (.selects "VolumeTurnerModel" y_Mo_folderHere y_Mo_folderHere) ∈ V_Mo := kk_Mo _ j_Mo_508
theorem k_Mo_509 : (.selects "VolumeTurnerModel" y_Mo_many y_Mo_many) ∈ V_Mo := kk_Mo _ j_Mo_509
theorem k_Mo_510 : (.selects "VolumeTurnerModel" y_Mo_no y_Mo_no) ∈ V_Mo := kk_Mo _ j_Mo_510
theorem k_Mo_511 : (.selects "VolumeTurnerModel" y_Mo_item y_Mo_item) ∈ V_Mo := kk_Mo _ j_Mo_511
theorem k_Mo_512 : (.selects "VolumeTurnerModel" y_Mo_textSize y_Mo_textSize) ∈ V_Mo := kk_Mo _ j_Mo_512
theorem k_Mo_513 : (.selects "VolumeTurnerModel" y_Mo_text y_Mo_text) ∈ V_Mo := kk_Mo _ j_Mo_513
theorem k_Mo_514 : (.selects "VolumeTurnerModel" y_Mo_timeOf y_Mo_timeOf) ∈ V_Mo := kk_Mo _ j_Mo_514
theorem k_Mo_515 : (.selects "VolumeTurnerModel" y_Mo_fixedNow y_Mo_fixedNow) ∈ V_Mo := kk_Mo _ j_Mo_515
theorem k_Mo_516 : (.selects "VolumeTurnerModel" y_Mo_free y_Mo_free) ∈ V_Mo := kk_Mo _ j_Mo_516
theorem k_Mo_517 : (.selects "VolumeTurnerModel" y_Mo_take y_Mo_take) ∈ V_Mo := kk_Mo _ j_Mo_517
theorem k_Mo_518 : (.selects "VolumeTurnerModel" y_Mo_named y_Mo_named) ∈ V_Mo := kk_Mo _ j_Mo_518
theorem k_Mo_519 : (.selects "VolumeTurnerModel" y_Mo_isBrief y_Mo_isBrief) ∈ V_Mo := kk_Mo _ j_Mo_519
theorem k_Mo_520 : (.selects "VolumeTurnerModel" y_Mo_isBriefTaken y_Mo_isBriefTaken) ∈ V_Mo := kk_Mo _ j_Mo_520
theorem k_Mo_521 : (.selects "VolumeTurnerModel" y_Mo_shorten y_Mo_shorten) ∈ V_Mo := kk_Mo _ j_Mo_521
theorem k_Mo_522 : (.selects "VolumeTurnerModel" y_Mo_layPart y_Mo_layPart) ∈ V_Mo := kk_Mo _ j_Mo_522
theorem k_Mo_523 : (.selects "VolumeTurnerModel" y_Mo_append y_Mo_append) ∈ V_Mo := kk_Mo _ j_Mo_523
theorem k_Mo_524 : (.selects "VolumeTurnerModel" y_Mo_noFile y_Mo_noFile) ∈ V_Mo := kk_Mo _ j_Mo_524
theorem k_Mo_525 : (.selects "VolumeTurnerModel" y_Mo_folderBlocks y_Mo_folderBlocks) ∈ V_Mo := kk_Mo _ j_Mo_525
theorem k_Mo_526 : (.selects "VolumeTurnerModel" y_Mo_clustersOf y_Mo_clustersOf) ∈ V_Mo := kk_Mo _ j_Mo_526
theorem k_Mo_527 : (.selects "VolumeTurnerModel" y_Mo_recordBlocks y_Mo_recordBlocks) ∈ V_Mo := kk_Mo _ j_Mo_527
theorem k_Mo_528 : (.selects "VolumeTurnerModel" y_Mo_fileBlocks y_Mo_fileBlocks) ∈ V_Mo := kk_Mo _ j_Mo_528
theorem k_Mo_529 : (.selects "VolumeTurnerModel" y_Mo_groupSize y_Mo_groupSize) ∈ V_Mo := kk_Mo _ j_Mo_529
theorem k_Mo_530 : (.selects "VolumeTurnerModel" y_Mo_mapOf y_Mo_mapOf) ∈ V_Mo := kk_Mo _ j_Mo_530
theorem k_Mo_531 : (.selects "VolumeTurnerModel" y_Mo_clusterOf y_Mo_clusterOf) ∈ V_Mo := kk_Mo _ j_Mo_531
theorem k_Mo_532 : (.selects "VolumeTurnerModel" y_Mo_isRoomy y_Mo_isRoomy) ∈ V_Mo := kk_Mo _ j_Mo_532
theorem k_Mo_533 : (.selects "VolumeTurnerModel" y_Mo_isFixed y_Mo_isFixed) ∈ V_Mo := kk_Mo _ j_Mo_533
theorem k_Mo_534 : (.selects "VolumeTurnerModel" y_Mo_badNames y_Mo_badNames) ∈ V_Mo := kk_Mo _ j_Mo_534
theorem k_Mo_535 : (.selects "VolumeTurnerModel" y_Mo_badTimes y_Mo_badTimes) ∈ V_Mo := kk_Mo _ j_Mo_535
theorem k_Mo_536 : (.selects "VolumeTurnerModel" y_Mo_finds y_Mo_finds) ∈ V_Mo := kk_Mo _ j_Mo_536
theorem k_Mo_537 : (.selects "VolumeTurnerModel" y_Mo_refusal y_Mo_refusal) ∈ V_Mo := kk_Mo _ j_Mo_537
theorem k_Mo_538 : (.selects "VolumeTurnerModel" y_Mo_lay y_Mo_lay) ∈ V_Mo := kk_Mo _ j_Mo_538
theorem k_Mo_539 : (.selects "VolumeTurnerModel" y_Mo_build y_Mo_build) ∈ V_Mo := kk_Mo _ j_Mo_539
theorem k_Mo_540 : (.selects "VolumeTurnerModel" y_Mo_inodeAt y_Mo_inodeAt) ∈ V_Mo := kk_Mo _ j_Mo_540
theorem k_Mo_541 : (.selects "VolumeTurnerModel" y_Mo_standing y_Mo_standing) ∈ V_Mo := kk_Mo _ j_Mo_541
theorem k_Mo_542 : (.selects "VolumeTurnerModel" y_Mo_copied y_Mo_copied) ∈ V_Mo := kk_Mo _ j_Mo_542
theorem k_Mo_543 : (.selects "VolumeTurnerModel" y_Mo_inode y_Mo_inode) ∈ V_Mo := kk_Mo _ j_Mo_543
theorem k_Mo_544 : (.selects "VolumeTurnerModel" y_Mo_numberOf y_Mo_numberOf) ∈ V_Mo := kk_Mo _ j_Mo_544
theorem k_Mo_545 : (.selects "VolumeTurnerModel" y_Mo_mode y_Mo_mode) ∈ V_Mo := kk_Mo _ j_Mo_545
theorem k_Mo_546 : (.selects "VolumeTurnerModel" y_Mo_makeRecord y_Mo_makeRecord) ∈ V_Mo := kk_Mo _ j_Mo_546
theorem k_Mo_547 : (.selects "VolumeTurnerModel" y_Mo_begins y_Mo_begins) ∈ V_Mo := kk_Mo _ j_Mo_547
theorem k_Mo_548 : (.selects "VolumeTurnerModel" y_Mo_entered y_Mo_entered) ∈ V_Mo := kk_Mo _ j_Mo_548
theorem k_Mo_549 : (.selects "VolumeTurnerModel" y_Mo_makeFolder y_Mo_makeFolder) ∈ V_Mo := kk_Mo _ j_Mo_549
theorem k_Mo_550 : (.selects "VolumeTurnerModel" y_Mo_makeFile y_Mo_makeFile) ∈ V_Mo := kk_Mo _ j_Mo_550
theorem k_Mo_551 : (.selects "VolumeTurnerModel" y_Mo_freeBlocks y_Mo_freeBlocks) ∈ V_Mo := kk_Mo _ j_Mo_551
theorem k_Mo_552 : (.selects "VolumeTurnerModel" y_Mo_isUsed y_Mo_isUsed) ∈ V_Mo := kk_Mo _ j_Mo_552
theorem k_Mo_553 : (.selects "VolumeTurnerModel" y_Mo_freeInodes y_Mo_freeInodes) ∈ V_Mo := kk_Mo _ j_Mo_553
theorem k_Mo_554 : (.selects "VolumeTurnerModel" y_Mo_foldersOf y_Mo_foldersOf) ∈ V_Mo := kk_Mo _ j_Mo_554
theorem k_Mo_555 : (.selects "VolumeTurnerModel" y_Mo_makeMaps y_Mo_makeMaps) ∈ V_Mo := kk_Mo _ j_Mo_555
theorem k_Mo_556 : (.selects "VolumeTurnerModel" y_Mo_makeHead y_Mo_makeHead) ∈ V_Mo := kk_Mo _ j_Mo_556
theorem k_Mo_557 : (.selects "VolumeTurnerModel" y_Mo_turn y_Mo_turn) ∈ V_Mo := kk_Mo _ j_Mo_557
theorem gk_Mo : ∀ w ∈ w_Mo ++ K_Mo, goodWord w = true := List.all_eq_true.mp (by decide +kernel)
theorem good_Mo : GoodIn V_Mo V_Mo := fun w h => by
  refine ⟨h, ?_⟩
  rcases List.mem_append.mp h with q | q
  · exact good_of_word (gk_Mo w (List.mem_append_left _ q))
  · rcases List.mem_append.mp q with q | q
    · exact good_of_word (gk_Mo w (List.mem_append_right _ q))
    · exact (good_J w q).2
