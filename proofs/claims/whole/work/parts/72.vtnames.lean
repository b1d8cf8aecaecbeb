abbrev b_Vt_init : ByteArray := prog_1_method_1_code
def y_Vt_init : MethodName := ⟨R_Vt, "<init>", "(I)V"⟩
theorem d_Vt_init_0 : decode b_Vt_init 0 = .ok (.aload_n 0, 1) := by decide +kernel
theorem d_Vt_init_1 : decode b_Vt_init 1 = .ok (.invokespecial 1, 3) := by decide +kernel
theorem d_Vt_init_4 : decode b_Vt_init 4 = .ok (.aload_n 0, 1) := by decide +kernel
theorem d_Vt_init_5 : decode b_Vt_init 5 = .ok (.bipush 16, 2) := by decide +kernel
theorem d_Vt_init_7 : decode b_Vt_init 7 = .ok (.newarray .int, 2) := by decide +kernel
theorem d_Vt_init_9 : decode b_Vt_init 9 = .ok (.putfield 9, 3) := by decide +kernel
theorem d_Vt_init_12 : decode b_Vt_init 12 = .ok (.aload_n 0, 1) := by decide +kernel
theorem d_Vt_init_13 : decode b_Vt_init 13 = .ok (.bipush 16, 2) := by decide +kernel
theorem d_Vt_init_15 : decode b_Vt_init 15 = .ok (.newarray .int, 2) := by decide +kernel
theorem d_Vt_init_17 : decode b_Vt_init 17 = .ok (.putfield 13, 3) := by decide +kernel
theorem d_Vt_init_20 : decode b_Vt_init 20 = .ok (.aload_n 0, 1) := by decide +kernel
theorem d_Vt_init_21 : decode b_Vt_init 21 = .ok (.iconst 0, 1) := by decide +kernel
theorem d_Vt_init_22 : decode b_Vt_init 22 = .ok (.putfield 16, 3) := by decide +kernel
theorem d_Vt_init_25 : decode b_Vt_init 25 = .ok (.aload_n 0, 1) := by decide +kernel
theorem d_Vt_init_26 : decode b_Vt_init 26 = .ok (.iconst 0, 1) := by decide +kernel
theorem d_Vt_init_27 : decode b_Vt_init 27 = .ok (.putfield 20, 3) := by decide +kernel
theorem d_Vt_init_30 : decode b_Vt_init 30 = .ok (.aload_n 0, 1) := by decide +kernel
theorem d_Vt_init_31 : decode b_Vt_init 31 = .ok (.iconst 1, 1) := by decide +kernel
theorem d_Vt_init_32 : decode b_Vt_init 32 = .ok (.putfield 23, 3) := by decide +kernel
theorem d_Vt_init_35 : decode b_Vt_init 35 = .ok (.aload_n 0, 1) := by decide +kernel
theorem d_Vt_init_36 : decode b_Vt_init 36 = .ok (.iconst 1, 1) := by decide +kernel
theorem d_Vt_init_37 : decode b_Vt_init 37 = .ok (.putfield 27, 3) := by decide +kernel
theorem d_Vt_init_40 : decode b_Vt_init 40 = .ok (.aload_n 0, 1) := by decide +kernel
theorem d_Vt_init_41 : decode b_Vt_init 41 = .ok (.iconst 0, 1) := by decide +kernel
theorem d_Vt_init_42 : decode b_Vt_init 42 = .ok (.putfield 30, 3) := by decide +kernel
theorem d_Vt_init_45 : decode b_Vt_init 45 = .ok (.iload_n 1, 1) := by decide +kernel
theorem d_Vt_init_46 : decode b_Vt_init 46 = .ok (.sipush 256, 3) := by decide +kernel
theorem d_Vt_init_49 : decode b_Vt_init 49 = .ok (.invokestatic 33, 3) := by decide +kernel
theorem d_Vt_init_52 : decode b_Vt_init 52 = .ok (.sipush 1024, 3) := by decide +kernel
theorem d_Vt_init_55 : decode b_Vt_init 55 = .ok (.invokestatic 39, 3) := by decide +kernel
theorem d_Vt_init_58 : decode b_Vt_init 58 = .ok (.istore_n 2, 1) := by decide +kernel
theorem d_Vt_init_59 : decode b_Vt_init 59 = .ok (.aload_n 0, 1) := by decide +kernel
theorem d_Vt_init_60 : decode b_Vt_init 60 = .ok (.new 42, 3) := by decide +kernel
theorem d_Vt_init_63 : decode b_Vt_init 63 = .ok (.dup, 1) := by decide +kernel
theorem d_Vt_init_64 : decode b_Vt_init 64 = .ok (.iload_n 2, 1) := by decide +kernel
theorem d_Vt_init_65 : decode b_Vt_init 65 = .ok (.iload_n 2, 1) := by decide +kernel
theorem d_Vt_init_66 : decode b_Vt_init 66 = .ok (.iconst 2, 1) := by decide +kernel
theorem d_Vt_init_67 : decode b_Vt_init 67 = .ok (.irem, 1) := by decide +kernel
theorem d_Vt_init_68 : decode b_Vt_init 68 = .ok (.isub, 1) := by decide +kernel
theorem d_Vt_init_69 : decode b_Vt_init 69 = .ok (.invokespecial 44, 3) := by decide +kernel
theorem d_Vt_init_72 : decode b_Vt_init 72 = .ok (.putfield 47, 3) := by decide +kernel
theorem d_Vt_init_75 : decode b_Vt_init 75 = .ok (.aload_n 0, 1) := by decide +kernel
theorem d_Vt_init_76 : decode b_Vt_init 76 = .ok (.new 51, 3) := by decide +kernel
theorem d_Vt_init_79 : decode b_Vt_init 79 = .ok (.dup, 1) := by decide +kernel
theorem d_Vt_init_80 : decode b_Vt_init 80 = .ok (.invokespecial 53, 3) := by decide +kernel
theorem d_Vt_init_83 : decode b_Vt_init 83 = .ok (.putfield 54, 3) := by decide +kernel
theorem d_Vt_init_86 : decode b_Vt_init 86 = .ok (.aload_n 0, 1) := by decide +kernel
theorem d_Vt_init_87 : decode b_Vt_init 87 = .ok (.new 58, 3) := by decide +kernel
theorem d_Vt_init_90 : decode b_Vt_init 90 = .ok (.dup, 1) := by decide +kernel
theorem d_Vt_init_91 : decode b_Vt_init 91 = .ok (.aload_n 0, 1) := by decide +kernel
theorem d_Vt_init_92 : decode b_Vt_init 92 = .ok (.getfield 47, 3) := by decide +kernel
theorem d_Vt_init_95 : decode b_Vt_init 95 = .ok (.invokespecial 60, 3) := by decide +kernel
theorem d_Vt_init_98 : decode b_Vt_init 98 = .ok (.putfield 63, 3) := by decide +kernel
theorem d_Vt_init_101 : decode b_Vt_init 101 = .ok (.aload_n 0, 1) := by decide +kernel
theorem d_Vt_init_102 : decode b_Vt_init 102 = .ok (.new 67, 3) := by decide +kernel
theorem d_Vt_init_105 : decode b_Vt_init 105 = .ok (.dup, 1) := by decide +kernel
theorem d_Vt_init_106 : decode b_Vt_init 106 = .ok (.invokespecial 69, 3) := by decide +kernel
theorem d_Vt_init_109 : decode b_Vt_init 109 = .ok (.putfield 70, 3) := by decide +kernel
theorem d_Vt_init_112 : decode b_Vt_init 112 = .ok (.aload_n 0, 1) := by decide +kernel
theorem d_Vt_init_113 : decode b_Vt_init 113 = .ok (.new 74, 3) := by decide +kernel
theorem d_Vt_init_116 : decode b_Vt_init 116 = .ok (.dup, 1) := by decide +kernel
theorem d_Vt_init_117 : decode b_Vt_init 117 = .ok (.aload_n 0, 1) := by decide +kernel
theorem d_Vt_init_118 : decode b_Vt_init 118 = .ok (.getfield 47, 3) := by decide +kernel
theorem d_Vt_init_121 : decode b_Vt_init 121 = .ok (.aload_n 0, 1) := by decide +kernel
theorem d_Vt_init_122 : decode b_Vt_init 122 = .ok (.getfield 63, 3) := by decide +kernel
theorem d_Vt_init_125 : decode b_Vt_init 125 = .ok (.aload_n 0, 1) := by decide +kernel
theorem d_Vt_init_126 : decode b_Vt_init 126 = .ok (.getfield 70, 3) := by decide +kernel
theorem d_Vt_init_129 : decode b_Vt_init 129 = .ok (.invokespecial 76, 3) := by decide +kernel
theorem d_Vt_init_132 : decode b_Vt_init 132 = .ok (.putfield 79, 3) := by decide +kernel
theorem d_Vt_init_135 : decode b_Vt_init 135 = .ok (.aload_n 0, 1) := by decide +kernel
theorem d_Vt_init_136 : decode b_Vt_init 136 = .ok (.new 83, 3) := by decide +kernel
theorem d_Vt_init_139 : decode b_Vt_init 139 = .ok (.dup, 1) := by decide +kernel
theorem d_Vt_init_140 : decode b_Vt_init 140 = .ok (.aload_n 0, 1) := by decide +kernel
theorem d_Vt_init_141 : decode b_Vt_init 141 = .ok (.getfield 47, 3) := by decide +kernel
theorem d_Vt_init_144 : decode b_Vt_init 144 = .ok (.aload_n 0, 1) := by decide +kernel
theorem d_Vt_init_145 : decode b_Vt_init 145 = .ok (.getfield 63, 3) := by decide +kernel
theorem d_Vt_init_148 : decode b_Vt_init 148 = .ok (.aload_n 0, 1) := by decide +kernel
theorem d_Vt_init_149 : decode b_Vt_init 149 = .ok (.getfield 70, 3) := by decide +kernel
theorem d_Vt_init_152 : decode b_Vt_init 152 = .ok (.invokespecial 85, 3) := by decide +kernel
theorem d_Vt_init_155 : decode b_Vt_init 155 = .ok (.putfield 86, 3) := by decide +kernel
theorem d_Vt_init_158 : decode b_Vt_init 158 = .ok (.aload_n 0, 1) := by decide +kernel
theorem d_Vt_init_159 : decode b_Vt_init 159 = .ok (.new 90, 3) := by decide +kernel
theorem d_Vt_init_162 : decode b_Vt_init 162 = .ok (.dup, 1) := by decide +kernel
theorem d_Vt_init_163 : decode b_Vt_init 163 = .ok (.aload_n 0, 1) := by decide +kernel
theorem d_Vt_init_164 : decode b_Vt_init 164 = .ok (.getfield 47, 3) := by decide +kernel
theorem d_Vt_init_167 : decode b_Vt_init 167 = .ok (.aload_n 0, 1) := by decide +kernel
theorem d_Vt_init_168 : decode b_Vt_init 168 = .ok (.getfield 63, 3) := by decide +kernel
theorem d_Vt_init_171 : decode b_Vt_init 171 = .ok (.aload_n 0, 1) := by decide +kernel
theorem d_Vt_init_172 : decode b_Vt_init 172 = .ok (.getfield 70, 3) := by decide +kernel
theorem d_Vt_init_175 : decode b_Vt_init 175 = .ok (.invokespecial 92, 3) := by decide +kernel
theorem d_Vt_init_178 : decode b_Vt_init 178 = .ok (.putfield 93, 3) := by decide +kernel
theorem d_Vt_init_181 : decode b_Vt_init 181 = .ok (.aload_n 0, 1) := by decide +kernel
theorem d_Vt_init_182 : decode b_Vt_init 182 = .ok (.new 97, 3) := by decide +kernel
theorem d_Vt_init_185 : decode b_Vt_init 185 = .ok (.dup, 1) := by decide +kernel
theorem d_Vt_init_186 : decode b_Vt_init 186 = .ok (.aload_n 0, 1) := by decide +kernel
theorem d_Vt_init_187 : decode b_Vt_init 187 = .ok (.getfield 47, 3) := by decide +kernel
theorem d_Vt_init_190 : decode b_Vt_init 190 = .ok (.invokespecial 99, 3) := by decide +kernel
theorem d_Vt_init_193 : decode b_Vt_init 193 = .ok (.putfield 100, 3) := by decide +kernel
theorem d_Vt_init_196 : decode b_Vt_init 196 = .ok (.aload_n 0, 1) := by decide +kernel
theorem d_Vt_init_197 : decode b_Vt_init 197 = .ok (.new 104, 3) := by decide +kernel
theorem d_Vt_init_200 : decode b_Vt_init 200 = .ok (.dup, 1) := by decide +kernel
theorem d_Vt_init_201 : decode b_Vt_init 201 = .ok (.aload_n 0, 1) := by decide +kernel
theorem d_Vt_init_202 : decode b_Vt_init 202 = .ok (.getfield 47, 3) := by decide +kernel
theorem d_Vt_init_205 : decode b_Vt_init 205 = .ok (.aload_n 0, 1) := by decide +kernel
theorem d_Vt_init_206 : decode b_Vt_init 206 = .ok (.getfield 63, 3) := by decide +kernel
theorem d_Vt_init_209 : decode b_Vt_init 209 = .ok (.aload_n 0, 1) := by decide +kernel
theorem d_Vt_init_210 : decode b_Vt_init 210 = .ok (.getfield 70, 3) := by decide +kernel
theorem d_Vt_init_213 : decode b_Vt_init 213 = .ok (.aload_n 0, 1) := by decide +kernel
theorem d_Vt_init_214 : decode b_Vt_init 214 = .ok (.getfield 79, 3) := by decide +kernel
theorem d_Vt_init_217 : decode b_Vt_init 217 = .ok (.aload_n 0, 1) := by decide +kernel
theorem d_Vt_init_218 : decode b_Vt_init 218 = .ok (.getfield 93, 3) := by decide +kernel
theorem d_Vt_init_221 : decode b_Vt_init 221 = .ok (.aload_n 0, 1) := by decide +kernel
theorem d_Vt_init_222 : decode b_Vt_init 222 = .ok (.getfield 100, 3) := by decide +kernel
theorem d_Vt_init_225 : decode b_Vt_init 225 = .ok (.invokespecial 106, 3) := by decide +kernel
theorem d_Vt_init_228 : decode b_Vt_init 228 = .ok (.putfield 109, 3) := by decide +kernel
theorem d_Vt_init_231 : decode b_Vt_init 231 = .ok (.return_, 1) := by decide +kernel
abbrev cb_Vt_feed : ByteArray := prog_1_method_2_code
def y_Vt_feed : MethodName := ⟨R_Vt, "feed", "(IIIII)V"⟩
theorem d_Vt_feed_0 : decode cb_Vt_feed 0 = .ok (.aload_n 0, 1) := by decide +kernel
theorem d_Vt_feed_1 : decode cb_Vt_feed 1 = .ok (.getfield 54, 3) := by decide +kernel
theorem d_Vt_feed_4 : decode cb_Vt_feed 4 = .ok (.iconst 0, 1) := by decide +kernel
theorem d_Vt_feed_5 : decode cb_Vt_feed 5 = .ok (.iload_n 1, 1) := by decide +kernel
theorem d_Vt_feed_6 : decode cb_Vt_feed 6 = .ok (.invokevirtual 113, 3) := by decide +kernel
theorem d_Vt_feed_9 : decode cb_Vt_feed 9 = .ok (.aload_n 0, 1) := by decide +kernel
theorem d_Vt_feed_10 : decode cb_Vt_feed 10 = .ok (.getfield 54, 3) := by decide +kernel
theorem d_Vt_feed_13 : decode cb_Vt_feed 13 = .ok (.iconst 4, 1) := by decide +kernel
theorem d_Vt_feed_14 : decode cb_Vt_feed 14 = .ok (.iload_n 2, 1) := by decide +kernel
theorem d_Vt_feed_15 : decode cb_Vt_feed 15 = .ok (.invokevirtual 113, 3) := by decide +kernel
theorem d_Vt_feed_18 : decode cb_Vt_feed 18 = .ok (.aload_n 0, 1) := by decide +kernel
theorem d_Vt_feed_19 : decode cb_Vt_feed 19 = .ok (.getfield 54, 3) := by decide +kernel
theorem d_Vt_feed_22 : decode cb_Vt_feed 22 = .ok (.bipush 8, 2) := by decide +kernel
theorem d_Vt_feed_24 : decode cb_Vt_feed 24 = .ok (.iload_n 3, 1) := by decide +kernel
theorem d_Vt_feed_25 : decode cb_Vt_feed 25 = .ok (.invokevirtual 113, 3) := by decide +kernel
theorem d_Vt_feed_28 : decode cb_Vt_feed 28 = .ok (.aload_n 0, 1) := by decide +kernel
theorem d_Vt_feed_29 : decode cb_Vt_feed 29 = .ok (.getfield 54, 3) := by decide +kernel
theorem d_Vt_feed_32 : decode cb_Vt_feed 32 = .ok (.bipush 12, 2) := by decide +kernel
theorem d_Vt_feed_34 : decode cb_Vt_feed 34 = .ok (.iload 4, 2) := by decide +kernel
theorem d_Vt_feed_36 : decode cb_Vt_feed 36 = .ok (.invokevirtual 113, 3) := by decide +kernel
theorem d_Vt_feed_39 : decode cb_Vt_feed 39 = .ok (.aload_n 0, 1) := by decide +kernel
theorem d_Vt_feed_40 : decode cb_Vt_feed 40 = .ok (.getfield 54, 3) := by decide +kernel
theorem d_Vt_feed_43 : decode cb_Vt_feed 43 = .ok (.bipush 16, 2) := by decide +kernel
theorem d_Vt_feed_45 : decode cb_Vt_feed 45 = .ok (.iload 5, 2) := by decide +kernel
theorem d_Vt_feed_47 : decode cb_Vt_feed 47 = .ok (.invokevirtual 113, 3) := by decide +kernel
theorem d_Vt_feed_50 : decode cb_Vt_feed 50 = .ok (.return_, 1) := by decide +kernel
abbrev cb_Vt_end : ByteArray := prog_1_method_3_code
def y_Vt_end : MethodName := ⟨R_Vt, "end", "(I)I"⟩
theorem d_Vt_end_0 : decode cb_Vt_end 0 = .ok (.aload_n 0, 1) := by decide +kernel
theorem d_Vt_end_1 : decode cb_Vt_end 1 = .ok (.getfield 54, 3) := by decide +kernel
theorem d_Vt_end_4 : decode cb_Vt_end 4 = .ok (.iload_n 1, 1) := by decide +kernel
theorem d_Vt_end_5 : decode cb_Vt_end 5 = .ok (.invokevirtual 117, 3) := by decide +kernel
theorem d_Vt_end_8 : decode cb_Vt_end 8 = .ok (.ireturn, 1) := by decide +kernel
abbrev cb_Vt_clear : ByteArray := prog_1_method_4_code
def y_Vt_clear : MethodName := ⟨R_Vt, "clear", "()V"⟩
theorem d_Vt_clear_0 : decode cb_Vt_clear 0 = .ok (.aload_n 0, 1) := by decide +kernel
theorem d_Vt_clear_1 : decode cb_Vt_clear 1 = .ok (.getfield 54, 3) := by decide +kernel
theorem d_Vt_clear_4 : decode cb_Vt_clear 4 = .ok (.invokevirtual 121, 3) := by decide +kernel
theorem d_Vt_clear_7 : decode cb_Vt_clear 7 = .ok (.pop, 1) := by decide +kernel
theorem d_Vt_clear_8 : decode cb_Vt_clear 8 = .ok (.return_, 1) := by decide +kernel
abbrev cb_Vt_format : ByteArray := prog_1_method_5_code
def y_Vt_format : MethodName := ⟨R_Vt, "format", "(IIII)I"⟩
theorem d_Vt_format_0 : decode cb_Vt_format 0 = .ok (.aload_n 0, 1) := by decide +kernel
theorem d_Vt_format_1 : decode cb_Vt_format 1 = .ok (.getfield 54, 3) := by decide +kernel
theorem d_Vt_format_4 : decode cb_Vt_format 4 = .ok (.invokevirtual 121, 3) := by decide +kernel
theorem d_Vt_format_7 : decode cb_Vt_format 7 = .ok (.istore 5, 2) := by decide +kernel
theorem d_Vt_format_9 : decode cb_Vt_format 9 = .ok (.aload_n 0, 1) := by decide +kernel
theorem d_Vt_format_10 : decode cb_Vt_format 10 = .ok (.getfield 63, 3) := by decide +kernel
theorem d_Vt_format_13 : decode cb_Vt_format 13 = .ok (.iload_n 1, 1) := by decide +kernel
theorem d_Vt_format_14 : decode cb_Vt_format 14 = .ok (.iload_n 2, 1) := by decide +kernel
theorem d_Vt_format_15 : decode cb_Vt_format 15 = .ok (.iload_n 3, 1) := by decide +kernel
theorem d_Vt_format_16 : decode cb_Vt_format 16 = .ok (.invokevirtual 125, 3) := by decide +kernel
theorem d_Vt_format_19 : decode cb_Vt_format 19 = .ok (.istore 6, 2) := by decide +kernel
theorem d_Vt_format_21 : decode cb_Vt_format 21 = .ok (.iload 6, 2) := by decide +kernel
theorem d_Vt_format_23 : decode cb_Vt_format 23 = .ok (.iconst (-1), 1) := by decide +kernel
theorem d_Vt_format_24 : decode cb_Vt_format 24 = .ok (.if_icmp .eq 15, 3) := by decide +kernel
theorem d_Vt_format_27 : decode cb_Vt_format 27 = .ok (.aload_n 0, 1) := by decide +kernel
theorem d_Vt_format_28 : decode cb_Vt_format 28 = .ok (.getfield 54, 3) := by decide +kernel
theorem d_Vt_format_31 : decode cb_Vt_format 31 = .ok (.iload 5, 2) := by decide +kernel
theorem d_Vt_format_33 : decode cb_Vt_format 33 = .ok (.invokevirtual 129, 3) := by decide +kernel
theorem d_Vt_format_36 : decode cb_Vt_format 36 = .ok (.ifCond .ne 13, 3) := by decide +kernel
theorem d_Vt_format_39 : decode cb_Vt_format 39 = .ok (.new 133, 3) := by decide +kernel
theorem d_Vt_format_42 : decode cb_Vt_format 42 = .ok (.dup, 1) := by decide +kernel
theorem d_Vt_format_43 : decode cb_Vt_format 43 = .ok (.ldc 135, 2) := by decide +kernel
theorem d_Vt_format_45 : decode cb_Vt_format 45 = .ok (.invokespecial 137, 3) := by decide +kernel
theorem d_Vt_format_48 : decode cb_Vt_format 48 = .ok (.athrow, 1) := by decide +kernel
theorem d_Vt_format_49 : decode cb_Vt_format 49 = .ok (.aload_n 0, 1) := by decide +kernel
theorem d_Vt_format_50 : decode cb_Vt_format 50 = .ok (.getfield 47, 3) := by decide +kernel
theorem d_Vt_format_53 : decode cb_Vt_format 53 = .ok (.iconst 0, 1) := by decide +kernel
theorem d_Vt_format_54 : decode cb_Vt_format 54 = .ok (.aload_n 0, 1) := by decide +kernel
theorem d_Vt_format_55 : decode cb_Vt_format 55 = .ok (.getfield 47, 3) := by decide +kernel
theorem d_Vt_format_58 : decode cb_Vt_format 58 = .ok (.getfield 140, 3) := by decide +kernel
theorem d_Vt_format_61 : decode cb_Vt_format 61 = .ok (.sipush 512, 3) := by decide +kernel
theorem d_Vt_format_64 : decode cb_Vt_format 64 = .ok (.imul, 1) := by decide +kernel
theorem d_Vt_format_65 : decode cb_Vt_format 65 = .ok (.invokevirtual 143, 3) := by decide +kernel
theorem d_Vt_format_68 : decode cb_Vt_format 68 = .ok (.aload_n 0, 1) := by decide +kernel
theorem d_Vt_format_69 : decode cb_Vt_format 69 = .ok (.getfield 63, 3) := by decide +kernel
theorem d_Vt_format_72 : decode cb_Vt_format 72 = .ok (.iload_n 1, 1) := by decide +kernel
theorem d_Vt_format_73 : decode cb_Vt_format 73 = .ok (.iload_n 2, 1) := by decide +kernel
theorem d_Vt_format_74 : decode cb_Vt_format 74 = .ok (.iload_n 3, 1) := by decide +kernel
theorem d_Vt_format_75 : decode cb_Vt_format 75 = .ok (.iload 6, 2) := by decide +kernel
theorem d_Vt_format_77 : decode cb_Vt_format 77 = .ok (.iload 4, 2) := by decide +kernel
theorem d_Vt_format_79 : decode cb_Vt_format 79 = .ok (.invokevirtual 146, 3) := by decide +kernel
theorem d_Vt_format_82 : decode cb_Vt_format 82 = .ok (.aload_n 0, 1) := by decide +kernel
theorem d_Vt_format_83 : decode cb_Vt_format 83 = .ok (.getfield 63, 3) := by decide +kernel
theorem d_Vt_format_86 : decode cb_Vt_format 86 = .ok (.invokevirtual 150, 3) := by decide +kernel
theorem d_Vt_format_89 : decode cb_Vt_format 89 = .ok (.pop, 1) := by decide +kernel
theorem d_Vt_format_90 : decode cb_Vt_format 90 = .ok (.aload_n 0, 1) := by decide +kernel
theorem d_Vt_format_91 : decode cb_Vt_format 91 = .ok (.getfield 63, 3) := by decide +kernel
theorem d_Vt_format_94 : decode cb_Vt_format 94 = .ok (.invokevirtual 154, 3) := by decide +kernel
theorem d_Vt_format_97 : decode cb_Vt_format 97 = .ok (.iload 5, 2) := by decide +kernel
theorem d_Vt_format_99 : decode cb_Vt_format 99 = .ok (.ifCond .le 16, 3) := by decide +kernel
theorem d_Vt_format_102 : decode cb_Vt_format 102 = .ok (.aload_n 0, 1) := by decide +kernel
theorem d_Vt_format_103 : decode cb_Vt_format 103 = .ok (.getfield 86, 3) := by decide +kernel
theorem d_Vt_format_106 : decode cb_Vt_format 106 = .ok (.aload_n 0, 1) := by decide +kernel
theorem d_Vt_format_107 : decode cb_Vt_format 107 = .ok (.getfield 54, 3) := by decide +kernel
theorem d_Vt_format_110 : decode cb_Vt_format 110 = .ok (.iload 5, 2) := by decide +kernel
theorem d_Vt_format_112 : decode cb_Vt_format 112 = .ok (.invokevirtual 157, 3) := by decide +kernel
theorem d_Vt_format_115 : decode cb_Vt_format 115 = .ok (.aload_n 0, 1) := by decide +kernel
theorem d_Vt_format_116 : decode cb_Vt_format 116 = .ok (.iconst 0, 1) := by decide +kernel
theorem d_Vt_format_117 : decode cb_Vt_format 117 = .ok (.putfield 30, 3) := by decide +kernel
theorem d_Vt_format_120 : decode cb_Vt_format 120 = .ok (.aload_n 0, 1) := by decide +kernel
theorem d_Vt_format_121 : decode cb_Vt_format 121 = .ok (.invokevirtual 161, 3) := by decide +kernel
theorem d_Vt_format_124 : decode cb_Vt_format 124 = .ok (.aload_n 0, 1) := by decide +kernel
theorem d_Vt_format_125 : decode cb_Vt_format 125 = .ok (.iconst 0, 1) := by decide +kernel
theorem d_Vt_format_126 : decode cb_Vt_format 126 = .ok (.putfield 20, 3) := by decide +kernel
theorem d_Vt_format_129 : decode cb_Vt_format 129 = .ok (.aload_n 0, 1) := by decide +kernel
theorem d_Vt_format_130 : decode cb_Vt_format 130 = .ok (.getfield 63, 3) := by decide +kernel
theorem d_Vt_format_133 : decode cb_Vt_format 133 = .ok (.getfield 164, 3) := by decide +kernel
theorem d_Vt_format_136 : decode cb_Vt_format 136 = .ok (.ireturn, 1) := by decide +kernel
abbrev cb_Vt_poke : ByteArray := prog_1_method_6_code
def y_Vt_poke : MethodName := ⟨R_Vt, "poke", "(III)Z"⟩
theorem d_Vt_poke_0 : decode cb_Vt_poke 0 = .ok (.aload_n 0, 1) := by decide +kernel
theorem d_Vt_poke_1 : decode cb_Vt_poke 1 = .ok (.getfield 30, 3) := by decide +kernel
theorem d_Vt_poke_4 : decode cb_Vt_poke 4 = .ok (.ifCond .ne 26, 3) := by decide +kernel
theorem d_Vt_poke_7 : decode cb_Vt_poke 7 = .ok (.aload_n 0, 1) := by decide +kernel
theorem d_Vt_poke_8 : decode cb_Vt_poke 8 = .ok (.getfield 47, 3) := by decide +kernel
theorem d_Vt_poke_11 : decode cb_Vt_poke 11 = .ok (.iload_n 1, 1) := by decide +kernel
theorem d_Vt_poke_12 : decode cb_Vt_poke 12 = .ok (.iload_n 2, 1) := by decide +kernel
theorem d_Vt_poke_13 : decode cb_Vt_poke 13 = .ok (.invokevirtual 167, 3) := by decide +kernel
theorem d_Vt_poke_16 : decode cb_Vt_poke 16 = .ok (.ifCond .eq 14, 3) := by decide +kernel
theorem d_Vt_poke_19 : decode cb_Vt_poke 19 = .ok (.iload_n 1, 1) := by decide +kernel
theorem d_Vt_poke_20 : decode cb_Vt_poke 20 = .ok (.iconst 2, 1) := by decide +kernel
theorem d_Vt_poke_21 : decode cb_Vt_poke 21 = .ok (.if_icmp .eq 9, 3) := by decide +kernel
theorem d_Vt_poke_24 : decode cb_Vt_poke 24 = .ok (.iload_n 1, 1) := by decide +kernel
theorem d_Vt_poke_25 : decode cb_Vt_poke 25 = .ok (.bipush 7, 2) := by decide +kernel
theorem d_Vt_poke_27 : decode cb_Vt_poke 27 = .ok (.if_icmp .ne 5, 3) := by decide +kernel
theorem d_Vt_poke_30 : decode cb_Vt_poke 30 = .ok (.iconst 0, 1) := by decide +kernel
theorem d_Vt_poke_31 : decode cb_Vt_poke 31 = .ok (.ireturn, 1) := by decide +kernel
theorem d_Vt_poke_32 : decode cb_Vt_poke 32 = .ok (.aload_n 0, 1) := by decide +kernel
theorem d_Vt_poke_33 : decode cb_Vt_poke 33 = .ok (.getfield 47, 3) := by decide +kernel
theorem d_Vt_poke_36 : decode cb_Vt_poke 36 = .ok (.iload_n 1, 1) := by decide +kernel
theorem d_Vt_poke_37 : decode cb_Vt_poke 37 = .ok (.sipush 512, 3) := by decide +kernel
theorem d_Vt_poke_40 : decode cb_Vt_poke 40 = .ok (.imul, 1) := by decide +kernel
theorem d_Vt_poke_41 : decode cb_Vt_poke 41 = .ok (.iload_n 2, 1) := by decide +kernel
theorem d_Vt_poke_42 : decode cb_Vt_poke 42 = .ok (.iadd, 1) := by decide +kernel
theorem d_Vt_poke_43 : decode cb_Vt_poke 43 = .ok (.iload_n 3, 1) := by decide +kernel
theorem d_Vt_poke_44 : decode cb_Vt_poke 44 = .ok (.invokevirtual 171, 3) := by decide +kernel
theorem d_Vt_poke_47 : decode cb_Vt_poke 47 = .ok (.aload_n 0, 1) := by decide +kernel
theorem d_Vt_poke_48 : decode cb_Vt_poke 48 = .ok (.invokevirtual 161, 3) := by decide +kernel
theorem d_Vt_poke_51 : decode cb_Vt_poke 51 = .ok (.aload_n 0, 1) := by decide +kernel
theorem d_Vt_poke_52 : decode cb_Vt_poke 52 = .ok (.iconst 0, 1) := by decide +kernel
theorem d_Vt_poke_53 : decode cb_Vt_poke 53 = .ok (.putfield 20, 3) := by decide +kernel
theorem d_Vt_poke_56 : decode cb_Vt_poke 56 = .ok (.iconst 1, 1) := by decide +kernel
theorem d_Vt_poke_57 : decode cb_Vt_poke 57 = .ok (.ireturn, 1) := by decide +kernel
abbrev cb_Vt_kind : ByteArray := prog_1_method_7_code
def y_Vt_kind : MethodName := ⟨R_Vt, "kind", "()I"⟩
theorem d_Vt_kind_0 : decode cb_Vt_kind 0 = .ok (.aload_n 0, 1) := by decide +kernel
theorem d_Vt_kind_1 : decode cb_Vt_kind 1 = .ok (.invokevirtual 174, 3) := by decide +kernel
theorem d_Vt_kind_4 : decode cb_Vt_kind 4 = .ok (.ireturn, 1) := by decide +kernel
abbrev cb_Vt_fault : ByteArray := prog_1_method_8_code
def y_Vt_fault : MethodName := ⟨R_Vt, "fault", "()I"⟩
theorem d_Vt_fault_0 : decode cb_Vt_fault 0 = .ok (.aload_n 0, 1) := by decide +kernel
theorem d_Vt_fault_1 : decode cb_Vt_fault 1 = .ok (.invokevirtual 174, 3) := by decide +kernel
theorem d_Vt_fault_4 : decode cb_Vt_fault 4 = .ok (.iconst 2, 1) := by decide +kernel
theorem d_Vt_fault_5 : decode cb_Vt_fault 5 = .ok (.if_icmp .ne 7, 3) := by decide +kernel
theorem d_Vt_fault_8 : decode cb_Vt_fault 8 = .ok (.iconst 0, 1) := by decide +kernel
theorem d_Vt_fault_9 : decode cb_Vt_fault 9 = .ok (.goto 7, 3) := by decide +kernel
theorem d_Vt_fault_12 : decode cb_Vt_fault 12 = .ok (.aload_n 0, 1) := by decide +kernel
theorem d_Vt_fault_13 : decode cb_Vt_fault 13 = .ok (.getfield 27, 3) := by decide +kernel
theorem d_Vt_fault_16 : decode cb_Vt_fault 16 = .ok (.ireturn, 1) := by decide +kernel
abbrev cb_Vt_byteAt : ByteArray := prog_1_method_9_code
def y_Vt_byteAt : MethodName := ⟨R_Vt, "byteAt", "(II)I"⟩
theorem d_Vt_byteAt_0 : decode cb_Vt_byteAt 0 = .ok (.aload_n 0, 1) := by decide +kernel
theorem d_Vt_byteAt_1 : decode cb_Vt_byteAt 1 = .ok (.getfield 47, 3) := by decide +kernel
theorem d_Vt_byteAt_4 : decode cb_Vt_byteAt 4 = .ok (.iload_n 1, 1) := by decide +kernel
theorem d_Vt_byteAt_5 : decode cb_Vt_byteAt 5 = .ok (.iload_n 2, 1) := by decide +kernel
theorem d_Vt_byteAt_6 : decode cb_Vt_byteAt 6 = .ok (.invokevirtual 167, 3) := by decide +kernel
theorem d_Vt_byteAt_9 : decode cb_Vt_byteAt 9 = .ok (.ifCond .ne 5, 3) := by decide +kernel
theorem d_Vt_byteAt_12 : decode cb_Vt_byteAt 12 = .ok (.iconst (-1), 1) := by decide +kernel
theorem d_Vt_byteAt_13 : decode cb_Vt_byteAt 13 = .ok (.ireturn, 1) := by decide +kernel
theorem d_Vt_byteAt_14 : decode cb_Vt_byteAt 14 = .ok (.aload_n 0, 1) := by decide +kernel
theorem d_Vt_byteAt_15 : decode cb_Vt_byteAt 15 = .ok (.invokevirtual 174, 3) := by decide +kernel
theorem d_Vt_byteAt_18 : decode cb_Vt_byteAt 18 = .ok (.istore_n 3, 1) := by decide +kernel
theorem d_Vt_byteAt_19 : decode cb_Vt_byteAt 19 = .ok (.iload_n 3, 1) := by decide +kernel
theorem d_Vt_byteAt_20 : decode cb_Vt_byteAt 20 = .ok (.ifCond .eq 35, 3) := by decide +kernel
theorem d_Vt_byteAt_23 : decode cb_Vt_byteAt 23 = .ok (.iload_n 3, 1) := by decide +kernel
theorem d_Vt_byteAt_24 : decode cb_Vt_byteAt 24 = .ok (.iconst 1, 1) := by decide +kernel
theorem d_Vt_byteAt_25 : decode cb_Vt_byteAt 25 = .ok (.if_icmp .ne 14, 3) := by decide +kernel
theorem d_Vt_byteAt_28 : decode cb_Vt_byteAt 28 = .ok (.aload_n 0, 1) := by decide +kernel
theorem d_Vt_byteAt_29 : decode cb_Vt_byteAt 29 = .ok (.getfield 63, 3) := by decide +kernel
theorem d_Vt_byteAt_32 : decode cb_Vt_byteAt 32 = .ok (.iload_n 1, 1) := by decide +kernel
theorem d_Vt_byteAt_33 : decode cb_Vt_byteAt 33 = .ok (.invokevirtual 177, 3) := by decide +kernel
theorem d_Vt_byteAt_36 : decode cb_Vt_byteAt 36 = .ok (.ifCond .ne 19, 3) := by decide +kernel
theorem d_Vt_byteAt_39 : decode cb_Vt_byteAt 39 = .ok (.iload_n 3, 1) := by decide +kernel
theorem d_Vt_byteAt_40 : decode cb_Vt_byteAt 40 = .ok (.iconst 2, 1) := by decide +kernel
theorem d_Vt_byteAt_41 : decode cb_Vt_byteAt 41 = .ok (.if_icmp .ne 18, 3) := by decide +kernel
theorem d_Vt_byteAt_44 : decode cb_Vt_byteAt 44 = .ok (.aload_n 0, 1) := by decide +kernel
theorem d_Vt_byteAt_45 : decode cb_Vt_byteAt 45 = .ok (.getfield 100, 3) := by decide +kernel
theorem d_Vt_byteAt_48 : decode cb_Vt_byteAt 48 = .ok (.iload_n 1, 1) := by decide +kernel
theorem d_Vt_byteAt_49 : decode cb_Vt_byteAt 49 = .ok (.invokevirtual 180, 3) := by decide +kernel
theorem d_Vt_byteAt_52 : decode cb_Vt_byteAt 52 = .ok (.ifCond .eq 7, 3) := by decide +kernel
theorem d_Vt_byteAt_55 : decode cb_Vt_byteAt 55 = .ok (.iconst 1, 1) := by decide +kernel
theorem d_Vt_byteAt_56 : decode cb_Vt_byteAt 56 = .ok (.goto 4, 3) := by decide +kernel
theorem d_Vt_byteAt_59 : decode cb_Vt_byteAt 59 = .ok (.iconst 0, 1) := by decide +kernel
theorem d_Vt_byteAt_60 : decode cb_Vt_byteAt 60 = .ok (.istore 4, 2) := by decide +kernel
theorem d_Vt_byteAt_62 : decode cb_Vt_byteAt 62 = .ok (.iload 4, 2) := by decide +kernel
theorem d_Vt_byteAt_64 : decode cb_Vt_byteAt 64 = .ok (.ifCond .eq 20, 3) := by decide +kernel
theorem d_Vt_byteAt_67 : decode cb_Vt_byteAt 67 = .ok (.aload_n 0, 1) := by decide +kernel
theorem d_Vt_byteAt_68 : decode cb_Vt_byteAt 68 = .ok (.getfield 47, 3) := by decide +kernel
theorem d_Vt_byteAt_71 : decode cb_Vt_byteAt 71 = .ok (.iload_n 1, 1) := by decide +kernel
theorem d_Vt_byteAt_72 : decode cb_Vt_byteAt 72 = .ok (.sipush 512, 3) := by decide +kernel
theorem d_Vt_byteAt_75 : decode cb_Vt_byteAt 75 = .ok (.imul, 1) := by decide +kernel
theorem d_Vt_byteAt_76 : decode cb_Vt_byteAt 76 = .ok (.iload_n 2, 1) := by decide +kernel
theorem d_Vt_byteAt_77 : decode cb_Vt_byteAt 77 = .ok (.iadd, 1) := by decide +kernel
theorem d_Vt_byteAt_78 : decode cb_Vt_byteAt 78 = .ok (.invokevirtual 181, 3) := by decide +kernel
theorem d_Vt_byteAt_81 : decode cb_Vt_byteAt 81 = .ok (.goto 4, 3) := by decide +kernel
theorem d_Vt_byteAt_84 : decode cb_Vt_byteAt 84 = .ok (.iconst (-1), 1) := by decide +kernel
theorem d_Vt_byteAt_85 : decode cb_Vt_byteAt 85 = .ok (.ireturn, 1) := by decide +kernel
abbrev cb_Vt_items : ByteArray := prog_1_method_10_code
def y_Vt_items : MethodName := ⟨R_Vt, "items", "()I"⟩
theorem d_Vt_items_0 : decode cb_Vt_items 0 = .ok (.aload_n 0, 1) := by decide +kernel
theorem d_Vt_items_1 : decode cb_Vt_items 1 = .ok (.aload_n 0, 1) := by decide +kernel
theorem d_Vt_items_2 : decode cb_Vt_items 2 = .ok (.invokevirtual 174, 3) := by decide +kernel
theorem d_Vt_items_5 : decode cb_Vt_items 5 = .ok (.invokevirtual 184, 3) := by decide +kernel
theorem d_Vt_items_8 : decode cb_Vt_items 8 = .ok (.ifCond .eq 17, 3) := by decide +kernel
theorem d_Vt_items_11 : decode cb_Vt_items 11 = .ok (.aload_n 0, 1) := by decide +kernel
theorem d_Vt_items_12 : decode cb_Vt_items 12 = .ok (.getfield 100, 3) := by decide +kernel
theorem d_Vt_items_15 : decode cb_Vt_items 15 = .ok (.aload_n 0, 1) := by decide +kernel
theorem d_Vt_items_16 : decode cb_Vt_items 16 = .ok (.getfield 20, 3) := by decide +kernel
theorem d_Vt_items_19 : decode cb_Vt_items 19 = .ok (.invokevirtual 187, 3) := by decide +kernel
theorem d_Vt_items_22 : decode cb_Vt_items 22 = .ok (.goto 14, 3) := by decide +kernel
theorem d_Vt_items_25 : decode cb_Vt_items 25 = .ok (.aload_n 0, 1) := by decide +kernel
theorem d_Vt_items_26 : decode cb_Vt_items 26 = .ok (.getfield 70, 3) := by decide +kernel
theorem d_Vt_items_29 : decode cb_Vt_items 29 = .ok (.aload_n 0, 1) := by decide +kernel
theorem d_Vt_items_30 : decode cb_Vt_items 30 = .ok (.getfield 20, 3) := by decide +kernel
theorem d_Vt_items_33 : decode cb_Vt_items 33 = .ok (.invokevirtual 190, 3) := by decide +kernel
theorem d_Vt_items_36 : decode cb_Vt_items 36 = .ok (.ireturn, 1) := by decide +kernel
abbrev cb_Vt_letter : ByteArray := prog_1_method_11_code
def y_Vt_letter : MethodName := ⟨R_Vt, "letter", "(II)I"⟩
theorem d_Vt_letter_0 : decode cb_Vt_letter 0 = .ok (.aload_n 0, 1) := by decide +kernel
theorem d_Vt_letter_1 : decode cb_Vt_letter 1 = .ok (.aload_n 0, 1) := by decide +kernel
theorem d_Vt_letter_2 : decode cb_Vt_letter 2 = .ok (.invokevirtual 174, 3) := by decide +kernel
theorem d_Vt_letter_5 : decode cb_Vt_letter 5 = .ok (.invokevirtual 184, 3) := by decide +kernel
theorem d_Vt_letter_8 : decode cb_Vt_letter 8 = .ok (.ifCond .eq 17, 3) := by decide +kernel
theorem d_Vt_letter_11 : decode cb_Vt_letter 11 = .ok (.aload_n 0, 1) := by decide +kernel
theorem d_Vt_letter_12 : decode cb_Vt_letter 12 = .ok (.getfield 100, 3) := by decide +kernel
theorem d_Vt_letter_15 : decode cb_Vt_letter 15 = .ok (.aload_n 0, 1) := by decide +kernel
theorem d_Vt_letter_16 : decode cb_Vt_letter 16 = .ok (.iload_n 1, 1) := by decide +kernel
theorem d_Vt_letter_17 : decode cb_Vt_letter 17 = .ok (.invokevirtual 191, 3) := by decide +kernel
theorem d_Vt_letter_20 : decode cb_Vt_letter 20 = .ok (.iload_n 2, 1) := by decide +kernel
theorem d_Vt_letter_21 : decode cb_Vt_letter 21 = .ok (.invokevirtual 194, 3) := by decide +kernel
theorem d_Vt_letter_24 : decode cb_Vt_letter 24 = .ok (.ireturn, 1) := by decide +kernel
theorem d_Vt_letter_25 : decode cb_Vt_letter 25 = .ok (.aload_n 0, 1) := by decide +kernel
theorem d_Vt_letter_26 : decode cb_Vt_letter 26 = .ok (.getfield 70, 3) := by decide +kernel
theorem d_Vt_letter_29 : decode cb_Vt_letter 29 = .ok (.aload_n 0, 1) := by decide +kernel
theorem d_Vt_letter_30 : decode cb_Vt_letter 30 = .ok (.iload_n 1, 1) := by decide +kernel
theorem d_Vt_letter_31 : decode cb_Vt_letter 31 = .ok (.invokevirtual 197, 3) := by decide +kernel
theorem d_Vt_letter_34 : decode cb_Vt_letter 34 = .ok (.iload_n 2, 1) := by decide +kernel
theorem d_Vt_letter_35 : decode cb_Vt_letter 35 = .ok (.invokevirtual 200, 3) := by decide +kernel
theorem d_Vt_letter_38 : decode cb_Vt_letter 38 = .ok (.ireturn, 1) := by decide +kernel
abbrev cb_Vt_about : ByteArray := prog_1_method_12_code
def y_Vt_about : MethodName := ⟨R_Vt, "about", "(II)J"⟩
theorem d_Vt_about_0 : decode cb_Vt_about 0 = .ok (.aload_n 0, 1) := by decide +kernel
theorem d_Vt_about_1 : decode cb_Vt_about 1 = .ok (.aload_n 0, 1) := by decide +kernel
theorem d_Vt_about_2 : decode cb_Vt_about 2 = .ok (.invokevirtual 174, 3) := by decide +kernel
theorem d_Vt_about_5 : decode cb_Vt_about 5 = .ok (.invokevirtual 184, 3) := by decide +kernel
theorem d_Vt_about_8 : decode cb_Vt_about 8 = .ok (.istore_n 3, 1) := by decide +kernel
theorem d_Vt_about_9 : decode cb_Vt_about 9 = .ok (.iload_n 3, 1) := by decide +kernel
theorem d_Vt_about_10 : decode cb_Vt_about 10 = .ok (.ifCond .eq 11, 3) := by decide +kernel
theorem d_Vt_about_13 : decode cb_Vt_about 13 = .ok (.aload_n 0, 1) := by decide +kernel
theorem d_Vt_about_14 : decode cb_Vt_about 14 = .ok (.iload_n 1, 1) := by decide +kernel
theorem d_Vt_about_15 : decode cb_Vt_about 15 = .ok (.invokevirtual 191, 3) := by decide +kernel
theorem d_Vt_about_18 : decode cb_Vt_about 18 = .ok (.goto 8, 3) := by decide +kernel
theorem d_Vt_about_21 : decode cb_Vt_about 21 = .ok (.aload_n 0, 1) := by decide +kernel
theorem d_Vt_about_22 : decode cb_Vt_about 22 = .ok (.iload_n 1, 1) := by decide +kernel
theorem d_Vt_about_23 : decode cb_Vt_about 23 = .ok (.invokevirtual 197, 3) := by decide +kernel
theorem d_Vt_about_26 : decode cb_Vt_about 26 = .ok (.istore 4, 2) := by decide +kernel
theorem d_Vt_about_28 : decode cb_Vt_about 28 = .ok (.iload_n 2, 1) := by decide +kernel
theorem d_Vt_about_29 : decode cb_Vt_about 29 = .ok (.ifCond .lt 8, 3) := by decide +kernel
theorem d_Vt_about_32 : decode cb_Vt_about 32 = .ok (.iload_n 2, 1) := by decide +kernel
theorem d_Vt_about_33 : decode cb_Vt_about 33 = .ok (.iconst 5, 1) := by decide +kernel
theorem d_Vt_about_34 : decode cb_Vt_about 34 = .ok (.if_icmp .le 13, 3) := by decide +kernel
theorem d_Vt_about_37 : decode cb_Vt_about 37 = .ok (.new 133, 3) := by decide +kernel
theorem d_Vt_about_40 : decode cb_Vt_about 40 = .ok (.dup, 1) := by decide +kernel
theorem d_Vt_about_41 : decode cb_Vt_about 41 = .ok (.ldc 201, 2) := by decide +kernel
theorem d_Vt_about_43 : decode cb_Vt_about 43 = .ok (.invokespecial 137, 3) := by decide +kernel
theorem d_Vt_about_46 : decode cb_Vt_about 46 = .ok (.athrow, 1) := by decide +kernel
theorem d_Vt_about_47 : decode cb_Vt_about 47 = .ok (.iload_n 3, 1) := by decide +kernel
theorem d_Vt_about_48 : decode cb_Vt_about 48 = .ok (.ifCond .eq 16, 3) := by decide +kernel
theorem d_Vt_about_51 : decode cb_Vt_about 51 = .ok (.aload_n 0, 1) := by decide +kernel
theorem d_Vt_about_52 : decode cb_Vt_about 52 = .ok (.getfield 100, 3) := by decide +kernel
theorem d_Vt_about_55 : decode cb_Vt_about 55 = .ok (.iload 4, 2) := by decide +kernel
theorem d_Vt_about_57 : decode cb_Vt_about 57 = .ok (.iload_n 2, 1) := by decide +kernel
theorem d_Vt_about_58 : decode cb_Vt_about 58 = .ok (.invokevirtual 203, 3) := by decide +kernel
theorem d_Vt_about_61 : decode cb_Vt_about 61 = .ok (.goto 10, 3) := by decide +kernel
theorem d_Vt_about_64 : decode cb_Vt_about 64 = .ok (.aload_n 0, 1) := by decide +kernel
theorem d_Vt_about_65 : decode cb_Vt_about 65 = .ok (.iload 4, 2) := by decide +kernel
theorem d_Vt_about_67 : decode cb_Vt_about 67 = .ok (.iload_n 2, 1) := by decide +kernel
theorem d_Vt_about_68 : decode cb_Vt_about 68 = .ok (.invokevirtual 207, 3) := by decide +kernel
theorem d_Vt_about_71 : decode cb_Vt_about 71 = .ok (.lreturn, 1) := by decide +kernel
abbrev cb_Vt_content : ByteArray := prog_1_method_13_code
def y_Vt_content : MethodName := ⟨R_Vt, "content", "(II)I"⟩
theorem d_Vt_content_0 : decode cb_Vt_content 0 = .ok (.aload_n 0, 1) := by decide +kernel
theorem d_Vt_content_1 : decode cb_Vt_content 1 = .ok (.aload_n 0, 1) := by decide +kernel
theorem d_Vt_content_2 : decode cb_Vt_content 2 = .ok (.invokevirtual 174, 3) := by decide +kernel
theorem d_Vt_content_5 : decode cb_Vt_content 5 = .ok (.invokevirtual 184, 3) := by decide +kernel
theorem d_Vt_content_8 : decode cb_Vt_content 8 = .ok (.ifCond .eq 17, 3) := by decide +kernel
theorem d_Vt_content_11 : decode cb_Vt_content 11 = .ok (.aload_n 0, 1) := by decide +kernel
theorem d_Vt_content_12 : decode cb_Vt_content 12 = .ok (.getfield 100, 3) := by decide +kernel
theorem d_Vt_content_15 : decode cb_Vt_content 15 = .ok (.aload_n 0, 1) := by decide +kernel
theorem d_Vt_content_16 : decode cb_Vt_content 16 = .ok (.iload_n 1, 1) := by decide +kernel
theorem d_Vt_content_17 : decode cb_Vt_content 17 = .ok (.invokevirtual 191, 3) := by decide +kernel
theorem d_Vt_content_20 : decode cb_Vt_content 20 = .ok (.iload_n 2, 1) := by decide +kernel
theorem d_Vt_content_21 : decode cb_Vt_content 21 = .ok (.invokevirtual 210, 3) := by decide +kernel
theorem d_Vt_content_24 : decode cb_Vt_content 24 = .ok (.ireturn, 1) := by decide +kernel
theorem d_Vt_content_25 : decode cb_Vt_content 25 = .ok (.aload_n 0, 1) := by decide +kernel
theorem d_Vt_content_26 : decode cb_Vt_content 26 = .ok (.iload_n 1, 1) := by decide +kernel
theorem d_Vt_content_27 : decode cb_Vt_content 27 = .ok (.invokevirtual 197, 3) := by decide +kernel
theorem d_Vt_content_30 : decode cb_Vt_content 30 = .ok (.istore_n 3, 1) := by decide +kernel
theorem d_Vt_content_31 : decode cb_Vt_content 31 = .ok (.aload_n 0, 1) := by decide +kernel
theorem d_Vt_content_32 : decode cb_Vt_content 32 = .ok (.getfield 70, 3) := by decide +kernel
theorem d_Vt_content_35 : decode cb_Vt_content 35 = .ok (.iload_n 3, 1) := by decide +kernel
theorem d_Vt_content_36 : decode cb_Vt_content 36 = .ok (.invokevirtual 213, 3) := by decide +kernel
theorem d_Vt_content_39 : decode cb_Vt_content 39 = .ok (.ifCond .ne 19, 3) := by decide +kernel
theorem d_Vt_content_42 : decode cb_Vt_content 42 = .ok (.iload_n 2, 1) := by decide +kernel
theorem d_Vt_content_43 : decode cb_Vt_content 43 = .ok (.ifCond .lt 15, 3) := by decide +kernel
theorem d_Vt_content_46 : decode cb_Vt_content 46 = .ok (.iload_n 2, 1) := by decide +kernel
theorem d_Vt_content_47 : decode cb_Vt_content 47 = .ok (.aload_n 0, 1) := by decide +kernel
theorem d_Vt_content_48 : decode cb_Vt_content 48 = .ok (.getfield 70, 3) := by decide +kernel
theorem d_Vt_content_51 : decode cb_Vt_content 51 = .ok (.iload_n 3, 1) := by decide +kernel
theorem d_Vt_content_52 : decode cb_Vt_content 52 = .ok (.invokevirtual 216, 3) := by decide +kernel
theorem d_Vt_content_55 : decode cb_Vt_content 55 = .ok (.if_icmp .lt 5, 3) := by decide +kernel
theorem d_Vt_content_58 : decode cb_Vt_content 58 = .ok (.iconst (-1), 1) := by decide +kernel
theorem d_Vt_content_59 : decode cb_Vt_content 59 = .ok (.ireturn, 1) := by decide +kernel
theorem d_Vt_content_60 : decode cb_Vt_content 60 = .ok (.aload_n 0, 1) := by decide +kernel
theorem d_Vt_content_61 : decode cb_Vt_content 61 = .ok (.getfield 47, 3) := by decide +kernel
theorem d_Vt_content_64 : decode cb_Vt_content 64 = .ok (.aload_n 0, 1) := by decide +kernel
theorem d_Vt_content_65 : decode cb_Vt_content 65 = .ok (.getfield 86, 3) := by decide +kernel
theorem d_Vt_content_68 : decode cb_Vt_content 68 = .ok (.iload_n 3, 1) := by decide +kernel
theorem d_Vt_content_69 : decode cb_Vt_content 69 = .ok (.iload_n 2, 1) := by decide +kernel
theorem d_Vt_content_70 : decode cb_Vt_content 70 = .ok (.invokevirtual 219, 3) := by decide +kernel
theorem d_Vt_content_73 : decode cb_Vt_content 73 = .ok (.invokevirtual 181, 3) := by decide +kernel
theorem d_Vt_content_76 : decode cb_Vt_content 76 = .ok (.ireturn, 1) := by decide +kernel
abbrev cb_Vt_enter : ByteArray := prog_1_method_14_code
def y_Vt_enter : MethodName := ⟨R_Vt, "enter", "(I)I"⟩
theorem d_Vt_enter_0 : decode cb_Vt_enter 0 = .ok (.aload_n 0, 1) := by decide +kernel
theorem d_Vt_enter_1 : decode cb_Vt_enter 1 = .ok (.aload_n 0, 1) := by decide +kernel
theorem d_Vt_enter_2 : decode cb_Vt_enter 2 = .ok (.invokevirtual 174, 3) := by decide +kernel
theorem d_Vt_enter_5 : decode cb_Vt_enter 5 = .ok (.invokevirtual 184, 3) := by decide +kernel
theorem d_Vt_enter_8 : decode cb_Vt_enter 8 = .ok (.istore_n 2, 1) := by decide +kernel
theorem d_Vt_enter_9 : decode cb_Vt_enter 9 = .ok (.iload_n 2, 1) := by decide +kernel
theorem d_Vt_enter_10 : decode cb_Vt_enter 10 = .ok (.ifCond .eq 11, 3) := by decide +kernel
theorem d_Vt_enter_13 : decode cb_Vt_enter 13 = .ok (.aload_n 0, 1) := by decide +kernel
theorem d_Vt_enter_14 : decode cb_Vt_enter 14 = .ok (.iload_n 1, 1) := by decide +kernel
theorem d_Vt_enter_15 : decode cb_Vt_enter 15 = .ok (.invokevirtual 191, 3) := by decide +kernel
theorem d_Vt_enter_18 : decode cb_Vt_enter 18 = .ok (.goto 8, 3) := by decide +kernel
theorem d_Vt_enter_21 : decode cb_Vt_enter 21 = .ok (.aload_n 0, 1) := by decide +kernel
theorem d_Vt_enter_22 : decode cb_Vt_enter 22 = .ok (.iload_n 1, 1) := by decide +kernel
theorem d_Vt_enter_23 : decode cb_Vt_enter 23 = .ok (.invokevirtual 197, 3) := by decide +kernel
theorem d_Vt_enter_26 : decode cb_Vt_enter 26 = .ok (.istore_n 3, 1) := by decide +kernel
theorem d_Vt_enter_27 : decode cb_Vt_enter 27 = .ok (.iload_n 2, 1) := by decide +kernel
theorem d_Vt_enter_28 : decode cb_Vt_enter 28 = .ok (.ifCond .eq 17, 3) := by decide +kernel
theorem d_Vt_enter_31 : decode cb_Vt_enter 31 = .ok (.aload_n 0, 1) := by decide +kernel
theorem d_Vt_enter_32 : decode cb_Vt_enter 32 = .ok (.getfield 100, 3) := by decide +kernel
theorem d_Vt_enter_35 : decode cb_Vt_enter 35 = .ok (.iload_n 3, 1) := by decide +kernel
theorem d_Vt_enter_36 : decode cb_Vt_enter 36 = .ok (.invokevirtual 222, 3) := by decide +kernel
theorem d_Vt_enter_39 : decode cb_Vt_enter 39 = .ok (.ifCond .ne 27, 3) := by decide +kernel
theorem d_Vt_enter_42 : decode cb_Vt_enter 42 = .ok (.goto 14, 3) := by decide +kernel
theorem d_Vt_enter_45 : decode cb_Vt_enter 45 = .ok (.aload_n 0, 1) := by decide +kernel
theorem d_Vt_enter_46 : decode cb_Vt_enter 46 = .ok (.getfield 70, 3) := by decide +kernel
theorem d_Vt_enter_49 : decode cb_Vt_enter 49 = .ok (.iload_n 3, 1) := by decide +kernel
theorem d_Vt_enter_50 : decode cb_Vt_enter 50 = .ok (.invokevirtual 213, 3) := by decide +kernel
theorem d_Vt_enter_53 : decode cb_Vt_enter 53 = .ok (.ifCond .ne 13, 3) := by decide +kernel
theorem d_Vt_enter_56 : decode cb_Vt_enter 56 = .ok (.new 133, 3) := by decide +kernel
theorem d_Vt_enter_59 : decode cb_Vt_enter 59 = .ok (.dup, 1) := by decide +kernel
theorem d_Vt_enter_60 : decode cb_Vt_enter 60 = .ok (.ldc 223, 2) := by decide +kernel
theorem d_Vt_enter_62 : decode cb_Vt_enter 62 = .ok (.invokespecial 137, 3) := by decide +kernel
theorem d_Vt_enter_65 : decode cb_Vt_enter 65 = .ok (.athrow, 1) := by decide +kernel
theorem d_Vt_enter_66 : decode cb_Vt_enter 66 = .ok (.aload_n 0, 1) := by decide +kernel
theorem d_Vt_enter_67 : decode cb_Vt_enter 67 = .ok (.iload_n 2, 1) := by decide +kernel
theorem d_Vt_enter_68 : decode cb_Vt_enter 68 = .ok (.ifCond .eq 14, 3) := by decide +kernel
theorem d_Vt_enter_71 : decode cb_Vt_enter 71 = .ok (.aload_n 0, 1) := by decide +kernel
theorem d_Vt_enter_72 : decode cb_Vt_enter 72 = .ok (.getfield 100, 3) := by decide +kernel
theorem d_Vt_enter_75 : decode cb_Vt_enter 75 = .ok (.iload_n 3, 1) := by decide +kernel
theorem d_Vt_enter_76 : decode cb_Vt_enter 76 = .ok (.invokevirtual 225, 3) := by decide +kernel
theorem d_Vt_enter_79 : decode cb_Vt_enter 79 = .ok (.goto 4, 3) := by decide +kernel
theorem d_Vt_enter_82 : decode cb_Vt_enter 82 = .ok (.iload_n 3, 1) := by decide +kernel
theorem d_Vt_enter_83 : decode cb_Vt_enter 83 = .ok (.putfield 20, 3) := by decide +kernel
theorem d_Vt_enter_86 : decode cb_Vt_enter 86 = .ok (.iload_n 2, 1) := by decide +kernel
theorem d_Vt_enter_87 : decode cb_Vt_enter 87 = .ok (.ifCond .eq 17, 3) := by decide +kernel
theorem d_Vt_enter_90 : decode cb_Vt_enter 90 = .ok (.aload_n 0, 1) := by decide +kernel
theorem d_Vt_enter_91 : decode cb_Vt_enter 91 = .ok (.getfield 100, 3) := by decide +kernel
theorem d_Vt_enter_94 : decode cb_Vt_enter 94 = .ok (.aload_n 0, 1) := by decide +kernel
theorem d_Vt_enter_95 : decode cb_Vt_enter 95 = .ok (.getfield 20, 3) := by decide +kernel
theorem d_Vt_enter_98 : decode cb_Vt_enter 98 = .ok (.invokevirtual 187, 3) := by decide +kernel
theorem d_Vt_enter_101 : decode cb_Vt_enter 101 = .ok (.goto 14, 3) := by decide +kernel
theorem d_Vt_enter_104 : decode cb_Vt_enter 104 = .ok (.aload_n 0, 1) := by decide +kernel
theorem d_Vt_enter_105 : decode cb_Vt_enter 105 = .ok (.getfield 70, 3) := by decide +kernel
theorem d_Vt_enter_108 : decode cb_Vt_enter 108 = .ok (.aload_n 0, 1) := by decide +kernel
theorem d_Vt_enter_109 : decode cb_Vt_enter 109 = .ok (.getfield 20, 3) := by decide +kernel
theorem d_Vt_enter_112 : decode cb_Vt_enter 112 = .ok (.invokevirtual 190, 3) := by decide +kernel
theorem d_Vt_enter_115 : decode cb_Vt_enter 115 = .ok (.ireturn, 1) := by decide +kernel
abbrev cb_Vt_up : ByteArray := prog_1_method_15_code
def y_Vt_up : MethodName := ⟨R_Vt, "up", "()Z"⟩
theorem d_Vt_up_0 : decode cb_Vt_up 0 = .ok (.aload_n 0, 1) := by decide +kernel
theorem d_Vt_up_1 : decode cb_Vt_up 1 = .ok (.aload_n 0, 1) := by decide +kernel
theorem d_Vt_up_2 : decode cb_Vt_up 2 = .ok (.invokevirtual 174, 3) := by decide +kernel
theorem d_Vt_up_5 : decode cb_Vt_up 5 = .ok (.invokevirtual 184, 3) := by decide +kernel
theorem d_Vt_up_8 : decode cb_Vt_up 8 = .ok (.istore_n 1, 1) := by decide +kernel
theorem d_Vt_up_9 : decode cb_Vt_up 9 = .ok (.aload_n 0, 1) := by decide +kernel
theorem d_Vt_up_10 : decode cb_Vt_up 10 = .ok (.getfield 20, 3) := by decide +kernel
theorem d_Vt_up_13 : decode cb_Vt_up 13 = .ok (.ifCond .ne 5, 3) := by decide +kernel
theorem d_Vt_up_16 : decode cb_Vt_up 16 = .ok (.iconst 0, 1) := by decide +kernel
theorem d_Vt_up_17 : decode cb_Vt_up 17 = .ok (.ireturn, 1) := by decide +kernel
theorem d_Vt_up_18 : decode cb_Vt_up 18 = .ok (.aload_n 0, 1) := by decide +kernel
theorem d_Vt_up_19 : decode cb_Vt_up 19 = .ok (.iload_n 1, 1) := by decide +kernel
theorem d_Vt_up_20 : decode cb_Vt_up 20 = .ok (.ifCond .eq 17, 3) := by decide +kernel
theorem d_Vt_up_23 : decode cb_Vt_up 23 = .ok (.aload_n 0, 1) := by decide +kernel
theorem d_Vt_up_24 : decode cb_Vt_up 24 = .ok (.getfield 100, 3) := by decide +kernel
theorem d_Vt_up_27 : decode cb_Vt_up 27 = .ok (.aload_n 0, 1) := by decide +kernel
theorem d_Vt_up_28 : decode cb_Vt_up 28 = .ok (.getfield 20, 3) := by decide +kernel
theorem d_Vt_up_31 : decode cb_Vt_up 31 = .ok (.invokevirtual 228, 3) := by decide +kernel
theorem d_Vt_up_34 : decode cb_Vt_up 34 = .ok (.goto 14, 3) := by decide +kernel
theorem d_Vt_up_37 : decode cb_Vt_up 37 = .ok (.aload_n 0, 1) := by decide +kernel
theorem d_Vt_up_38 : decode cb_Vt_up 38 = .ok (.getfield 70, 3) := by decide +kernel
theorem d_Vt_up_41 : decode cb_Vt_up 41 = .ok (.aload_n 0, 1) := by decide +kernel
theorem d_Vt_up_42 : decode cb_Vt_up 42 = .ok (.getfield 20, 3) := by decide +kernel
theorem d_Vt_up_45 : decode cb_Vt_up 45 = .ok (.invokevirtual 231, 3) := by decide +kernel
theorem d_Vt_up_48 : decode cb_Vt_up 48 = .ok (.putfield 20, 3) := by decide +kernel
theorem d_Vt_up_51 : decode cb_Vt_up 51 = .ok (.iconst 1, 1) := by decide +kernel
theorem d_Vt_up_52 : decode cb_Vt_up 52 = .ok (.ireturn, 1) := by decide +kernel
abbrev cb_Vt_make : ByteArray := prog_1_method_16_code
def y_Vt_make : MethodName := ⟨R_Vt, "make", "(Z)I"⟩
theorem d_Vt_make_0 : decode cb_Vt_make 0 = .ok (.aload_n 0, 1) := by decide +kernel
theorem d_Vt_make_1 : decode cb_Vt_make 1 = .ok (.getfield 54, 3) := by decide +kernel
theorem d_Vt_make_4 : decode cb_Vt_make 4 = .ok (.invokevirtual 121, 3) := by decide +kernel
theorem d_Vt_make_7 : decode cb_Vt_make 7 = .ok (.istore_n 2, 1) := by decide +kernel
theorem d_Vt_make_8 : decode cb_Vt_make 8 = .ok (.aload_n 0, 1) := by decide +kernel
theorem d_Vt_make_9 : decode cb_Vt_make 9 = .ok (.aload_n 0, 1) := by decide +kernel
theorem d_Vt_make_10 : decode cb_Vt_make 10 = .ok (.invokevirtual 174, 3) := by decide +kernel
theorem d_Vt_make_13 : decode cb_Vt_make 13 = .ok (.invokevirtual 232, 3) := by decide +kernel
theorem d_Vt_make_16 : decode cb_Vt_make 16 = .ok (.aload_n 0, 1) := by decide +kernel
theorem d_Vt_make_17 : decode cb_Vt_make 17 = .ok (.getfield 86, 3) := by decide +kernel
theorem d_Vt_make_20 : decode cb_Vt_make 20 = .ok (.aload_n 0, 1) := by decide +kernel
theorem d_Vt_make_21 : decode cb_Vt_make 21 = .ok (.getfield 54, 3) := by decide +kernel
theorem d_Vt_make_24 : decode cb_Vt_make 24 = .ok (.iload_n 2, 1) := by decide +kernel
theorem d_Vt_make_25 : decode cb_Vt_make 25 = .ok (.invokevirtual 235, 3) := by decide +kernel
theorem d_Vt_make_28 : decode cb_Vt_make 28 = .ok (.ifCond .eq 17, 3) := by decide +kernel
theorem d_Vt_make_31 : decode cb_Vt_make 31 = .ok (.aload_n 0, 1) := by decide +kernel
theorem d_Vt_make_32 : decode cb_Vt_make 32 = .ok (.getfield 86, 3) := by decide +kernel
theorem d_Vt_make_35 : decode cb_Vt_make 35 = .ok (.aload_n 0, 1) := by decide +kernel
theorem d_Vt_make_36 : decode cb_Vt_make 36 = .ok (.getfield 20, 3) := by decide +kernel
theorem d_Vt_make_39 : decode cb_Vt_make 39 = .ok (.invokevirtual 239, 3) := by decide +kernel
theorem d_Vt_make_42 : decode cb_Vt_make 42 = .ok (.ifCond .eq 13, 3) := by decide +kernel
theorem d_Vt_make_45 : decode cb_Vt_make 45 = .ok (.new 133, 3) := by decide +kernel
theorem d_Vt_make_48 : decode cb_Vt_make 48 = .ok (.dup, 1) := by decide +kernel
theorem d_Vt_make_49 : decode cb_Vt_make 49 = .ok (.ldc 242, 2) := by decide +kernel
theorem d_Vt_make_51 : decode cb_Vt_make 51 = .ok (.invokespecial 137, 3) := by decide +kernel
theorem d_Vt_make_54 : decode cb_Vt_make 54 = .ok (.athrow, 1) := by decide +kernel
theorem d_Vt_make_55 : decode cb_Vt_make 55 = .ok (.aload_n 0, 1) := by decide +kernel
theorem d_Vt_make_56 : decode cb_Vt_make 56 = .ok (.getfield 86, 3) := by decide +kernel
theorem d_Vt_make_59 : decode cb_Vt_make 59 = .ok (.aload_n 0, 1) := by decide +kernel
theorem d_Vt_make_60 : decode cb_Vt_make 60 = .ok (.getfield 20, 3) := by decide +kernel
theorem d_Vt_make_63 : decode cb_Vt_make 63 = .ok (.iload_n 1, 1) := by decide +kernel
theorem d_Vt_make_64 : decode cb_Vt_make 64 = .ok (.invokevirtual 244, 3) := by decide +kernel
theorem d_Vt_make_67 : decode cb_Vt_make 67 = .ok (.ifCond .ne 13, 3) := by decide +kernel
theorem d_Vt_make_70 : decode cb_Vt_make 70 = .ok (.new 248, 3) := by decide +kernel
theorem d_Vt_make_73 : decode cb_Vt_make 73 = .ok (.dup, 1) := by decide +kernel
theorem d_Vt_make_74 : decode cb_Vt_make 74 = .ok (.ldc 250, 2) := by decide +kernel
theorem d_Vt_make_76 : decode cb_Vt_make 76 = .ok (.invokespecial 252, 3) := by decide +kernel
theorem d_Vt_make_79 : decode cb_Vt_make 79 = .ok (.athrow, 1) := by decide +kernel
theorem d_Vt_make_80 : decode cb_Vt_make 80 = .ok (.aload_n 0, 1) := by decide +kernel
theorem d_Vt_make_81 : decode cb_Vt_make 81 = .ok (.invokevirtual 161, 3) := by decide +kernel
theorem d_Vt_make_84 : decode cb_Vt_make 84 = .ok (.aload_n 0, 1) := by decide +kernel
theorem d_Vt_make_85 : decode cb_Vt_make 85 = .ok (.getfield 86, 3) := by decide +kernel
theorem d_Vt_make_88 : decode cb_Vt_make 88 = .ok (.aload_n 0, 1) := by decide +kernel
theorem d_Vt_make_89 : decode cb_Vt_make 89 = .ok (.getfield 20, 3) := by decide +kernel
theorem d_Vt_make_92 : decode cb_Vt_make 92 = .ok (.iload_n 1, 1) := by decide +kernel
theorem d_Vt_make_93 : decode cb_Vt_make 93 = .ok (.invokevirtual 253, 3) := by decide +kernel
theorem d_Vt_make_96 : decode cb_Vt_make 96 = .ok (.ireturn, 1) := by decide +kernel
abbrev cb_Vt_write : ByteArray := prog_1_method_17_code
def y_Vt_write : MethodName := ⟨R_Vt, "write", "(I)I"⟩
theorem d_Vt_write_0 : decode cb_Vt_write 0 = .ok (.aload_n 0, 1) := by decide +kernel
theorem d_Vt_write_1 : decode cb_Vt_write 1 = .ok (.getfield 54, 3) := by decide +kernel
theorem d_Vt_write_4 : decode cb_Vt_write 4 = .ok (.invokevirtual 121, 3) := by decide +kernel
theorem d_Vt_write_7 : decode cb_Vt_write 7 = .ok (.istore_n 2, 1) := by decide +kernel
theorem d_Vt_write_8 : decode cb_Vt_write 8 = .ok (.aload_n 0, 1) := by decide +kernel
theorem d_Vt_write_9 : decode cb_Vt_write 9 = .ok (.aload_n 0, 1) := by decide +kernel
theorem d_Vt_write_10 : decode cb_Vt_write 10 = .ok (.invokevirtual 174, 3) := by decide +kernel
theorem d_Vt_write_13 : decode cb_Vt_write 13 = .ok (.invokevirtual 232, 3) := by decide +kernel
theorem d_Vt_write_16 : decode cb_Vt_write 16 = .ok (.aload_n 0, 1) := by decide +kernel
theorem d_Vt_write_17 : decode cb_Vt_write 17 = .ok (.iload_n 1, 1) := by decide +kernel
theorem d_Vt_write_18 : decode cb_Vt_write 18 = .ok (.invokevirtual 257, 3) := by decide +kernel
theorem d_Vt_write_21 : decode cb_Vt_write 21 = .ok (.istore_n 3, 1) := by decide +kernel
theorem d_Vt_write_22 : decode cb_Vt_write 22 = .ok (.aload_n 0, 1) := by decide +kernel
theorem d_Vt_write_23 : decode cb_Vt_write 23 = .ok (.iload_n 3, 1) := by decide +kernel
theorem d_Vt_write_24 : decode cb_Vt_write 24 = .ok (.iload_n 2, 1) := by decide +kernel
theorem d_Vt_write_25 : decode cb_Vt_write 25 = .ok (.invokevirtual 260, 3) := by decide +kernel
theorem d_Vt_write_28 : decode cb_Vt_write 28 = .ok (.istore 4, 2) := by decide +kernel
theorem d_Vt_write_30 : decode cb_Vt_write 30 = .ok (.aload_n 0, 1) := by decide +kernel
theorem d_Vt_write_31 : decode cb_Vt_write 31 = .ok (.getfield 86, 3) := by decide +kernel
theorem d_Vt_write_34 : decode cb_Vt_write 34 = .ok (.iload 4, 2) := by decide +kernel
theorem d_Vt_write_36 : decode cb_Vt_write 36 = .ok (.iconst 1, 1) := by decide +kernel
theorem d_Vt_write_37 : decode cb_Vt_write 37 = .ok (.isub, 1) := by decide +kernel
theorem d_Vt_write_38 : decode cb_Vt_write 38 = .ok (.invokevirtual 263, 3) := by decide +kernel
theorem d_Vt_write_41 : decode cb_Vt_write 41 = .ok (.istore 5, 2) := by decide +kernel
theorem d_Vt_write_43 : decode cb_Vt_write 43 = .ok (.iconst 0, 1) := by decide +kernel
theorem d_Vt_write_44 : decode cb_Vt_write 44 = .ok (.istore 6, 2) := by decide +kernel
theorem d_Vt_write_46 : decode cb_Vt_write 46 = .ok (.iload 6, 2) := by decide +kernel
theorem d_Vt_write_48 : decode cb_Vt_write 48 = .ok (.iload_n 2, 1) := by decide +kernel
theorem d_Vt_write_49 : decode cb_Vt_write 49 = .ok (.if_icmp .ge 43, 3) := by decide +kernel
theorem d_Vt_write_52 : decode cb_Vt_write 52 = .ok (.aload_n 0, 1) := by decide +kernel
theorem d_Vt_write_53 : decode cb_Vt_write 53 = .ok (.getfield 86, 3) := by decide +kernel
theorem d_Vt_write_56 : decode cb_Vt_write 56 = .ok (.iload 5, 2) := by decide +kernel
theorem d_Vt_write_58 : decode cb_Vt_write 58 = .ok (.iload 4, 2) := by decide +kernel
theorem d_Vt_write_60 : decode cb_Vt_write 60 = .ok (.iload 6, 2) := by decide +kernel
theorem d_Vt_write_62 : decode cb_Vt_write 62 = .ok (.iadd, 1) := by decide +kernel
theorem d_Vt_write_63 : decode cb_Vt_write 63 = .ok (.invokevirtual 266, 3) := by decide +kernel
theorem d_Vt_write_66 : decode cb_Vt_write 66 = .ok (.istore 5, 2) := by decide +kernel
theorem d_Vt_write_68 : decode cb_Vt_write 68 = .ok (.aload_n 0, 1) := by decide +kernel
theorem d_Vt_write_69 : decode cb_Vt_write 69 = .ok (.getfield 47, 3) := by decide +kernel
theorem d_Vt_write_72 : decode cb_Vt_write 72 = .ok (.iload 5, 2) := by decide +kernel
theorem d_Vt_write_74 : decode cb_Vt_write 74 = .ok (.aload_n 0, 1) := by decide +kernel
theorem d_Vt_write_75 : decode cb_Vt_write 75 = .ok (.getfield 54, 3) := by decide +kernel
theorem d_Vt_write_78 : decode cb_Vt_write 78 = .ok (.iload 6, 2) := by decide +kernel
theorem d_Vt_write_80 : decode cb_Vt_write 80 = .ok (.invokevirtual 269, 3) := by decide +kernel
theorem d_Vt_write_83 : decode cb_Vt_write 83 = .ok (.invokevirtual 171, 3) := by decide +kernel
theorem d_Vt_write_86 : decode cb_Vt_write 86 = .ok (.iinc 6 1, 3) := by decide +kernel
theorem d_Vt_write_89 : decode cb_Vt_write 89 = .ok (.goto (-43), 3) := by decide +kernel
theorem d_Vt_write_92 : decode cb_Vt_write 92 = .ok (.iload 4, 2) := by decide +kernel
theorem d_Vt_write_94 : decode cb_Vt_write 94 = .ok (.iload_n 2, 1) := by decide +kernel
theorem d_Vt_write_95 : decode cb_Vt_write 95 = .ok (.iadd, 1) := by decide +kernel
theorem d_Vt_write_96 : decode cb_Vt_write 96 = .ok (.ireturn, 1) := by decide +kernel
abbrev cb_Vt_grow : ByteArray := prog_1_method_18_code
def y_Vt_grow : MethodName := ⟨R_Vt, "grow", "(III)I"⟩
theorem d_Vt_grow_0 : decode cb_Vt_grow 0 = .ok (.aload_n 0, 1) := by decide +kernel
theorem d_Vt_grow_1 : decode cb_Vt_grow 1 = .ok (.aload_n 0, 1) := by decide +kernel
theorem d_Vt_grow_2 : decode cb_Vt_grow 2 = .ok (.invokevirtual 174, 3) := by decide +kernel
theorem d_Vt_grow_5 : decode cb_Vt_grow 5 = .ok (.invokevirtual 232, 3) := by decide +kernel
theorem d_Vt_grow_8 : decode cb_Vt_grow 8 = .ok (.aload_n 0, 1) := by decide +kernel
theorem d_Vt_grow_9 : decode cb_Vt_grow 9 = .ok (.iload_n 1, 1) := by decide +kernel
theorem d_Vt_grow_10 : decode cb_Vt_grow 10 = .ok (.invokevirtual 257, 3) := by decide +kernel
theorem d_Vt_grow_13 : decode cb_Vt_grow 13 = .ok (.istore 4, 2) := by decide +kernel
theorem d_Vt_grow_15 : decode cb_Vt_grow 15 = .ok (.iload_n 2, 1) := by decide +kernel
theorem d_Vt_grow_16 : decode cb_Vt_grow 16 = .ok (.ifCond .lt 10, 3) := by decide +kernel
theorem d_Vt_grow_19 : decode cb_Vt_grow 19 = .ok (.iload_n 2, 1) := by decide +kernel
theorem d_Vt_grow_20 : decode cb_Vt_grow 20 = .ok (.ldc_w 270, 3) := by decide +kernel
theorem d_Vt_grow_23 : decode cb_Vt_grow 23 = .ok (.if_icmp .le 14, 3) := by decide +kernel
theorem d_Vt_grow_26 : decode cb_Vt_grow 26 = .ok (.new 133, 3) := by decide +kernel
theorem d_Vt_grow_29 : decode cb_Vt_grow 29 = .ok (.dup, 1) := by decide +kernel
theorem d_Vt_grow_30 : decode cb_Vt_grow 30 = .ok (.ldc_w 271, 3) := by decide +kernel
theorem d_Vt_grow_33 : decode cb_Vt_grow 33 = .ok (.invokespecial 137, 3) := by decide +kernel
theorem d_Vt_grow_36 : decode cb_Vt_grow 36 = .ok (.athrow, 1) := by decide +kernel
theorem d_Vt_grow_37 : decode cb_Vt_grow 37 = .ok (.aload_n 0, 1) := by decide +kernel
theorem d_Vt_grow_38 : decode cb_Vt_grow 38 = .ok (.iload 4, 2) := by decide +kernel
theorem d_Vt_grow_40 : decode cb_Vt_grow 40 = .ok (.iload_n 2, 1) := by decide +kernel
theorem d_Vt_grow_41 : decode cb_Vt_grow 41 = .ok (.invokevirtual 260, 3) := by decide +kernel
theorem d_Vt_grow_44 : decode cb_Vt_grow 44 = .ok (.istore 5, 2) := by decide +kernel
theorem d_Vt_grow_46 : decode cb_Vt_grow 46 = .ok (.aload_n 0, 1) := by decide +kernel
theorem d_Vt_grow_47 : decode cb_Vt_grow 47 = .ok (.getfield 86, 3) := by decide +kernel
theorem d_Vt_grow_50 : decode cb_Vt_grow 50 = .ok (.iload 5, 2) := by decide +kernel
theorem d_Vt_grow_52 : decode cb_Vt_grow 52 = .ok (.iconst 1, 1) := by decide +kernel
theorem d_Vt_grow_53 : decode cb_Vt_grow 53 = .ok (.isub, 1) := by decide +kernel
theorem d_Vt_grow_54 : decode cb_Vt_grow 54 = .ok (.invokevirtual 263, 3) := by decide +kernel
theorem d_Vt_grow_57 : decode cb_Vt_grow 57 = .ok (.istore 6, 2) := by decide +kernel
theorem d_Vt_grow_59 : decode cb_Vt_grow 59 = .ok (.iconst 0, 1) := by decide +kernel
theorem d_Vt_grow_60 : decode cb_Vt_grow 60 = .ok (.istore 7, 2) := by decide +kernel
theorem d_Vt_grow_62 : decode cb_Vt_grow 62 = .ok (.iload 7, 2) := by decide +kernel
theorem d_Vt_grow_64 : decode cb_Vt_grow 64 = .ok (.iload_n 2, 1) := by decide +kernel
theorem d_Vt_grow_65 : decode cb_Vt_grow 65 = .ok (.if_icmp .ge 47, 3) := by decide +kernel
theorem d_Vt_grow_68 : decode cb_Vt_grow 68 = .ok (.aload_n 0, 1) := by decide +kernel
theorem d_Vt_grow_69 : decode cb_Vt_grow 69 = .ok (.getfield 86, 3) := by decide +kernel
theorem d_Vt_grow_72 : decode cb_Vt_grow 72 = .ok (.iload 6, 2) := by decide +kernel
theorem d_Vt_grow_74 : decode cb_Vt_grow 74 = .ok (.iload 5, 2) := by decide +kernel
theorem d_Vt_grow_76 : decode cb_Vt_grow 76 = .ok (.iload 7, 2) := by decide +kernel
theorem d_Vt_grow_78 : decode cb_Vt_grow 78 = .ok (.iadd, 1) := by decide +kernel
theorem d_Vt_grow_79 : decode cb_Vt_grow 79 = .ok (.invokevirtual 266, 3) := by decide +kernel
theorem d_Vt_grow_82 : decode cb_Vt_grow 82 = .ok (.istore 6, 2) := by decide +kernel
theorem d_Vt_grow_84 : decode cb_Vt_grow 84 = .ok (.aload_n 0, 1) := by decide +kernel
theorem d_Vt_grow_85 : decode cb_Vt_grow 85 = .ok (.getfield 47, 3) := by decide +kernel
theorem d_Vt_grow_88 : decode cb_Vt_grow 88 = .ok (.iload 6, 2) := by decide +kernel
theorem d_Vt_grow_90 : decode cb_Vt_grow 90 = .ok (.iload_n 3, 1) := by decide +kernel
theorem d_Vt_grow_91 : decode cb_Vt_grow 91 = .ok (.iload 7, 2) := by decide +kernel
theorem d_Vt_grow_93 : decode cb_Vt_grow 93 = .ok (.iload 7, 2) := by decide +kernel
theorem d_Vt_grow_95 : decode cb_Vt_grow 95 = .ok (.imul, 1) := by decide +kernel
theorem d_Vt_grow_96 : decode cb_Vt_grow 96 = .ok (.iadd, 1) := by decide +kernel
theorem d_Vt_grow_97 : decode cb_Vt_grow 97 = .ok (.iload 7, 2) := by decide +kernel
theorem d_Vt_grow_99 : decode cb_Vt_grow 99 = .ok (.bipush 8, 2) := by decide +kernel
theorem d_Vt_grow_101 : decode cb_Vt_grow 101 = .ok (.ishr, 1) := by decide +kernel
theorem d_Vt_grow_102 : decode cb_Vt_grow 102 = .ok (.iadd, 1) := by decide +kernel
theorem d_Vt_grow_103 : decode cb_Vt_grow 103 = .ok (.invokevirtual 171, 3) := by decide +kernel
theorem d_Vt_grow_106 : decode cb_Vt_grow 106 = .ok (.iinc 7 1, 3) := by decide +kernel
theorem d_Vt_grow_109 : decode cb_Vt_grow 109 = .ok (.goto (-47), 3) := by decide +kernel
theorem d_Vt_grow_112 : decode cb_Vt_grow 112 = .ok (.iload 5, 2) := by decide +kernel
theorem d_Vt_grow_114 : decode cb_Vt_grow 114 = .ok (.iload_n 2, 1) := by decide +kernel
theorem d_Vt_grow_115 : decode cb_Vt_grow 115 = .ok (.iadd, 1) := by decide +kernel
theorem d_Vt_grow_116 : decode cb_Vt_grow 116 = .ok (.ireturn, 1) := by decide +kernel
abbrev cb_Vt_cut : ByteArray := prog_1_method_19_code
def y_Vt_cut : MethodName := ⟨R_Vt, "cut", "(II)I"⟩
theorem d_Vt_cut_0 : decode cb_Vt_cut 0 = .ok (.aload_n 0, 1) := by decide +kernel
theorem d_Vt_cut_1 : decode cb_Vt_cut 1 = .ok (.aload_n 0, 1) := by decide +kernel
theorem d_Vt_cut_2 : decode cb_Vt_cut 2 = .ok (.invokevirtual 174, 3) := by decide +kernel
theorem d_Vt_cut_5 : decode cb_Vt_cut 5 = .ok (.invokevirtual 232, 3) := by decide +kernel
theorem d_Vt_cut_8 : decode cb_Vt_cut 8 = .ok (.aload_n 0, 1) := by decide +kernel
theorem d_Vt_cut_9 : decode cb_Vt_cut 9 = .ok (.iload_n 1, 1) := by decide +kernel
theorem d_Vt_cut_10 : decode cb_Vt_cut 10 = .ok (.invokevirtual 257, 3) := by decide +kernel
theorem d_Vt_cut_13 : decode cb_Vt_cut 13 = .ok (.istore_n 3, 1) := by decide +kernel
theorem d_Vt_cut_14 : decode cb_Vt_cut 14 = .ok (.iload_n 2, 1) := by decide +kernel
theorem d_Vt_cut_15 : decode cb_Vt_cut 15 = .ok (.ifCond .lt 15, 3) := by decide +kernel
theorem d_Vt_cut_18 : decode cb_Vt_cut 18 = .ok (.iload_n 2, 1) := by decide +kernel
theorem d_Vt_cut_19 : decode cb_Vt_cut 19 = .ok (.aload_n 0, 1) := by decide +kernel
theorem d_Vt_cut_20 : decode cb_Vt_cut 20 = .ok (.getfield 70, 3) := by decide +kernel
theorem d_Vt_cut_23 : decode cb_Vt_cut 23 = .ok (.iload_n 3, 1) := by decide +kernel
theorem d_Vt_cut_24 : decode cb_Vt_cut 24 = .ok (.invokevirtual 216, 3) := by decide +kernel
theorem d_Vt_cut_27 : decode cb_Vt_cut 27 = .ok (.if_icmp .le 14, 3) := by decide +kernel
theorem d_Vt_cut_30 : decode cb_Vt_cut 30 = .ok (.new 133, 3) := by decide +kernel
theorem d_Vt_cut_33 : decode cb_Vt_cut 33 = .ok (.dup, 1) := by decide +kernel
theorem d_Vt_cut_34 : decode cb_Vt_cut 34 = .ok (.ldc_w 273, 3) := by decide +kernel
theorem d_Vt_cut_37 : decode cb_Vt_cut 37 = .ok (.invokespecial 137, 3) := by decide +kernel
theorem d_Vt_cut_40 : decode cb_Vt_cut 40 = .ok (.athrow, 1) := by decide +kernel
theorem d_Vt_cut_41 : decode cb_Vt_cut 41 = .ok (.aload_n 0, 1) := by decide +kernel
theorem d_Vt_cut_42 : decode cb_Vt_cut 42 = .ok (.invokevirtual 161, 3) := by decide +kernel
theorem d_Vt_cut_45 : decode cb_Vt_cut 45 = .ok (.aload_n 0, 1) := by decide +kernel
theorem d_Vt_cut_46 : decode cb_Vt_cut 46 = .ok (.getfield 86, 3) := by decide +kernel
theorem d_Vt_cut_49 : decode cb_Vt_cut 49 = .ok (.iload_n 3, 1) := by decide +kernel
theorem d_Vt_cut_50 : decode cb_Vt_cut 50 = .ok (.iload_n 2, 1) := by decide +kernel
theorem d_Vt_cut_51 : decode cb_Vt_cut 51 = .ok (.invokevirtual 275, 3) := by decide +kernel
theorem d_Vt_cut_54 : decode cb_Vt_cut 54 = .ok (.ireturn, 1) := by decide +kernel
abbrev cb_Vt_remove : ByteArray := prog_1_method_20_code
def y_Vt_remove : MethodName := ⟨R_Vt, "remove", "(I)V"⟩
theorem d_Vt_remove_0 : decode cb_Vt_remove 0 = .ok (.aload_n 0, 1) := by decide +kernel
theorem d_Vt_remove_1 : decode cb_Vt_remove 1 = .ok (.aload_n 0, 1) := by decide +kernel
theorem d_Vt_remove_2 : decode cb_Vt_remove 2 = .ok (.invokevirtual 174, 3) := by decide +kernel
theorem d_Vt_remove_5 : decode cb_Vt_remove 5 = .ok (.invokevirtual 232, 3) := by decide +kernel
theorem d_Vt_remove_8 : decode cb_Vt_remove 8 = .ok (.aload_n 0, 1) := by decide +kernel
theorem d_Vt_remove_9 : decode cb_Vt_remove 9 = .ok (.iload_n 1, 1) := by decide +kernel
theorem d_Vt_remove_10 : decode cb_Vt_remove 10 = .ok (.invokevirtual 197, 3) := by decide +kernel
theorem d_Vt_remove_13 : decode cb_Vt_remove 13 = .ok (.istore_n 2, 1) := by decide +kernel
theorem d_Vt_remove_14 : decode cb_Vt_remove 14 = .ok (.aload_n 0, 1) := by decide +kernel
theorem d_Vt_remove_15 : decode cb_Vt_remove 15 = .ok (.getfield 70, 3) := by decide +kernel
theorem d_Vt_remove_18 : decode cb_Vt_remove 18 = .ok (.iload_n 2, 1) := by decide +kernel
theorem d_Vt_remove_19 : decode cb_Vt_remove 19 = .ok (.invokevirtual 190, 3) := by decide +kernel
theorem d_Vt_remove_22 : decode cb_Vt_remove 22 = .ok (.ifCond .le 14, 3) := by decide +kernel
theorem d_Vt_remove_25 : decode cb_Vt_remove 25 = .ok (.new 133, 3) := by decide +kernel
theorem d_Vt_remove_28 : decode cb_Vt_remove 28 = .ok (.dup, 1) := by decide +kernel
theorem d_Vt_remove_29 : decode cb_Vt_remove 29 = .ok (.ldc_w 278, 3) := by decide +kernel
theorem d_Vt_remove_32 : decode cb_Vt_remove 32 = .ok (.invokespecial 137, 3) := by decide +kernel
theorem d_Vt_remove_35 : decode cb_Vt_remove 35 = .ok (.athrow, 1) := by decide +kernel
theorem d_Vt_remove_36 : decode cb_Vt_remove 36 = .ok (.aload_n 0, 1) := by decide +kernel
theorem d_Vt_remove_37 : decode cb_Vt_remove 37 = .ok (.invokevirtual 161, 3) := by decide +kernel
theorem d_Vt_remove_40 : decode cb_Vt_remove 40 = .ok (.aload_n 0, 1) := by decide +kernel
theorem d_Vt_remove_41 : decode cb_Vt_remove 41 = .ok (.getfield 86, 3) := by decide +kernel
theorem d_Vt_remove_44 : decode cb_Vt_remove 44 = .ok (.aload_n 0, 1) := by decide +kernel
theorem d_Vt_remove_45 : decode cb_Vt_remove 45 = .ok (.getfield 20, 3) := by decide +kernel
theorem d_Vt_remove_48 : decode cb_Vt_remove 48 = .ok (.iload_n 2, 1) := by decide +kernel
theorem d_Vt_remove_49 : decode cb_Vt_remove 49 = .ok (.invokevirtual 280, 3) := by decide +kernel
theorem d_Vt_remove_52 : decode cb_Vt_remove 52 = .ok (.return_, 1) := by decide +kernel
abbrev cb_Vt_stamp : ByteArray := prog_1_method_21_code
def y_Vt_stamp : MethodName := ⟨R_Vt, "stamp", "(IIII)V"⟩
theorem d_Vt_stamp_0 : decode cb_Vt_stamp 0 = .ok (.aload_n 0, 1) := by decide +kernel
theorem d_Vt_stamp_1 : decode cb_Vt_stamp 1 = .ok (.aload_n 0, 1) := by decide +kernel
theorem d_Vt_stamp_2 : decode cb_Vt_stamp 2 = .ok (.invokevirtual 174, 3) := by decide +kernel
theorem d_Vt_stamp_5 : decode cb_Vt_stamp 5 = .ok (.invokevirtual 232, 3) := by decide +kernel
theorem d_Vt_stamp_8 : decode cb_Vt_stamp 8 = .ok (.aload_n 0, 1) := by decide +kernel
theorem d_Vt_stamp_9 : decode cb_Vt_stamp 9 = .ok (.iload_n 1, 1) := by decide +kernel
theorem d_Vt_stamp_10 : decode cb_Vt_stamp 10 = .ok (.invokevirtual 197, 3) := by decide +kernel
theorem d_Vt_stamp_13 : decode cb_Vt_stamp 13 = .ok (.istore 5, 2) := by decide +kernel
theorem d_Vt_stamp_15 : decode cb_Vt_stamp 15 = .ok (.aload_n 0, 1) := by decide +kernel
theorem d_Vt_stamp_16 : decode cb_Vt_stamp 16 = .ok (.getfield 70, 3) := by decide +kernel
theorem d_Vt_stamp_19 : decode cb_Vt_stamp 19 = .ok (.iload 5, 2) := by decide +kernel
theorem d_Vt_stamp_21 : decode cb_Vt_stamp 21 = .ok (.invokevirtual 283, 3) := by decide +kernel
theorem d_Vt_stamp_24 : decode cb_Vt_stamp 24 = .ok (.istore 6, 2) := by decide +kernel
theorem d_Vt_stamp_26 : decode cb_Vt_stamp 26 = .ok (.aload_n 0, 1) := by decide +kernel
theorem d_Vt_stamp_27 : decode cb_Vt_stamp 27 = .ok (.getfield 47, 3) := by decide +kernel
theorem d_Vt_stamp_30 : decode cb_Vt_stamp 30 = .ok (.iload 6, 2) := by decide +kernel
theorem d_Vt_stamp_32 : decode cb_Vt_stamp 32 = .ok (.iload_n 2, 1) := by decide +kernel
theorem d_Vt_stamp_33 : decode cb_Vt_stamp 33 = .ok (.iload_n 3, 1) := by decide +kernel
theorem d_Vt_stamp_34 : decode cb_Vt_stamp 34 = .ok (.iload 4, 2) := by decide +kernel
theorem d_Vt_stamp_36 : decode cb_Vt_stamp 36 = .ok (.invokestatic 286, 3) := by decide +kernel
theorem d_Vt_stamp_39 : decode cb_Vt_stamp 39 = .ok (.ifCond .ne 14, 3) := by decide +kernel
theorem d_Vt_stamp_42 : decode cb_Vt_stamp 42 = .ok (.new 133, 3) := by decide +kernel
theorem d_Vt_stamp_45 : decode cb_Vt_stamp 45 = .ok (.dup, 1) := by decide +kernel
theorem d_Vt_stamp_46 : decode cb_Vt_stamp 46 = .ok (.ldc_w 292, 3) := by decide +kernel
theorem d_Vt_stamp_49 : decode cb_Vt_stamp 49 = .ok (.invokespecial 137, 3) := by decide +kernel
theorem d_Vt_stamp_52 : decode cb_Vt_stamp 52 = .ok (.athrow, 1) := by decide +kernel
theorem d_Vt_stamp_53 : decode cb_Vt_stamp 53 = .ok (.aload_n 0, 1) := by decide +kernel
theorem d_Vt_stamp_54 : decode cb_Vt_stamp 54 = .ok (.invokevirtual 161, 3) := by decide +kernel
theorem d_Vt_stamp_57 : decode cb_Vt_stamp 57 = .ok (.aload_n 0, 1) := by decide +kernel
theorem d_Vt_stamp_58 : decode cb_Vt_stamp 58 = .ok (.getfield 86, 3) := by decide +kernel
theorem d_Vt_stamp_61 : decode cb_Vt_stamp 61 = .ok (.iload 6, 2) := by decide +kernel
theorem d_Vt_stamp_63 : decode cb_Vt_stamp 63 = .ok (.iload_n 2, 1) := by decide +kernel
theorem d_Vt_stamp_64 : decode cb_Vt_stamp 64 = .ok (.iload_n 3, 1) := by decide +kernel
theorem d_Vt_stamp_65 : decode cb_Vt_stamp 65 = .ok (.iload 4, 2) := by decide +kernel
theorem d_Vt_stamp_67 : decode cb_Vt_stamp 67 = .ok (.invokevirtual 294, 3) := by decide +kernel
theorem d_Vt_stamp_70 : decode cb_Vt_stamp 70 = .ok (.return_, 1) := by decide +kernel
abbrev cb_Vt_plan : ByteArray := prog_1_method_22_code
def y_Vt_plan : MethodName := ⟨R_Vt, "plan", "(II)I"⟩
theorem d_Vt_plan_0 : decode cb_Vt_plan 0 = .ok (.iload_n 2, 1) := by decide +kernel
theorem d_Vt_plan_1 : decode cb_Vt_plan 1 = .ok (.ifCond .lt 17, 3) := by decide +kernel
theorem d_Vt_plan_4 : decode cb_Vt_plan 4 = .ok (.iload_n 2, 1) := by decide +kernel
theorem d_Vt_plan_5 : decode cb_Vt_plan 5 = .ok (.bipush 6, 2) := by decide +kernel
theorem d_Vt_plan_7 : decode cb_Vt_plan 7 = .ok (.if_icmp .gt 11, 3) := by decide +kernel
theorem d_Vt_plan_10 : decode cb_Vt_plan 10 = .ok (.aload_n 0, 1) := by decide +kernel
theorem d_Vt_plan_11 : decode cb_Vt_plan 11 = .ok (.invokevirtual 174, 3) := by decide +kernel
theorem d_Vt_plan_14 : decode cb_Vt_plan 14 = .ok (.iconst 1, 1) := by decide +kernel
theorem d_Vt_plan_15 : decode cb_Vt_plan 15 = .ok (.if_icmp .eq 5, 3) := by decide +kernel
theorem d_Vt_plan_18 : decode cb_Vt_plan 18 = .ok (.iconst (-1), 1) := by decide +kernel
theorem d_Vt_plan_19 : decode cb_Vt_plan 19 = .ok (.ireturn, 1) := by decide +kernel
theorem d_Vt_plan_20 : decode cb_Vt_plan 20 = .ok (.aload_n 0, 1) := by decide +kernel
theorem d_Vt_plan_21 : decode cb_Vt_plan 21 = .ok (.getfield 93, 3) := by decide +kernel
theorem d_Vt_plan_24 : decode cb_Vt_plan 24 = .ok (.iload_n 1, 1) := by decide +kernel
theorem d_Vt_plan_25 : decode cb_Vt_plan 25 = .ok (.aload_n 0, 1) := by decide +kernel
theorem d_Vt_plan_26 : decode cb_Vt_plan 26 = .ok (.getfield 27, 3) := by decide +kernel
theorem d_Vt_plan_29 : decode cb_Vt_plan 29 = .ok (.invokevirtual 298, 3) := by decide +kernel
theorem d_Vt_plan_32 : decode cb_Vt_plan 32 = .ok (.istore_n 3, 1) := by decide +kernel
theorem d_Vt_plan_33 : decode cb_Vt_plan 33 = .ok (.iload_n 2, 1) := by decide +kernel
theorem d_Vt_plan_34 : decode cb_Vt_plan 34 = .ok (.ifCond .ne 5, 3) := by decide +kernel
theorem d_Vt_plan_37 : decode cb_Vt_plan 37 = .ok (.iload_n 3, 1) := by decide +kernel
theorem d_Vt_plan_38 : decode cb_Vt_plan 38 = .ok (.ireturn, 1) := by decide +kernel
theorem d_Vt_plan_39 : decode cb_Vt_plan 39 = .ok (.iload_n 3, 1) := by decide +kernel
theorem d_Vt_plan_40 : decode cb_Vt_plan 40 = .ok (.ifCond .ne 14, 3) := by decide +kernel
theorem d_Vt_plan_43 : decode cb_Vt_plan 43 = .ok (.aload_n 0, 1) := by decide +kernel
theorem d_Vt_plan_44 : decode cb_Vt_plan 44 = .ok (.getfield 93, 3) := by decide +kernel
theorem d_Vt_plan_47 : decode cb_Vt_plan 47 = .ok (.iload_n 2, 1) := by decide +kernel
theorem d_Vt_plan_48 : decode cb_Vt_plan 48 = .ok (.invokevirtual 301, 3) := by decide +kernel
theorem d_Vt_plan_51 : decode cb_Vt_plan 51 = .ok (.goto 4, 3) := by decide +kernel
theorem d_Vt_plan_54 : decode cb_Vt_plan 54 = .ok (.iconst (-1), 1) := by decide +kernel
theorem d_Vt_plan_55 : decode cb_Vt_plan 55 = .ok (.ireturn, 1) := by decide +kernel
abbrev cb_Vt_target : ByteArray := prog_1_method_23_code
def y_Vt_target : MethodName := ⟨R_Vt, "target", "(II)I"⟩
theorem d_Vt_target_0 : decode cb_Vt_target 0 = .ok (.aload_n 0, 1) := by decide +kernel
theorem d_Vt_target_1 : decode cb_Vt_target 1 = .ok (.invokevirtual 174, 3) := by decide +kernel
theorem d_Vt_target_4 : decode cb_Vt_target 4 = .ok (.iconst 1, 1) := by decide +kernel
theorem d_Vt_target_5 : decode cb_Vt_target 5 = .ok (.if_icmp .ne 18, 3) := by decide +kernel
theorem d_Vt_target_8 : decode cb_Vt_target 8 = .ok (.aload_n 0, 1) := by decide +kernel
theorem d_Vt_target_9 : decode cb_Vt_target 9 = .ok (.getfield 93, 3) := by decide +kernel
theorem d_Vt_target_12 : decode cb_Vt_target 12 = .ok (.iload_n 1, 1) := by decide +kernel
theorem d_Vt_target_13 : decode cb_Vt_target 13 = .ok (.aload_n 0, 1) := by decide +kernel
theorem d_Vt_target_14 : decode cb_Vt_target 14 = .ok (.getfield 27, 3) := by decide +kernel
theorem d_Vt_target_17 : decode cb_Vt_target 17 = .ok (.invokevirtual 298, 3) := by decide +kernel
theorem d_Vt_target_20 : decode cb_Vt_target 20 = .ok (.ifCond .eq 5, 3) := by decide +kernel
theorem d_Vt_target_23 : decode cb_Vt_target 23 = .ok (.iconst (-1), 1) := by decide +kernel
theorem d_Vt_target_24 : decode cb_Vt_target 24 = .ok (.ireturn, 1) := by decide +kernel
theorem d_Vt_target_25 : decode cb_Vt_target 25 = .ok (.aload_n 0, 1) := by decide +kernel
theorem d_Vt_target_26 : decode cb_Vt_target 26 = .ok (.getfield 63, 3) := by decide +kernel
theorem d_Vt_target_29 : decode cb_Vt_target 29 = .ok (.iload_n 2, 1) := by decide +kernel
theorem d_Vt_target_30 : decode cb_Vt_target 30 = .ok (.invokevirtual 304, 3) := by decide +kernel
theorem d_Vt_target_33 : decode cb_Vt_target 33 = .ok (.ifCond .eq 14, 3) := by decide +kernel
theorem d_Vt_target_36 : decode cb_Vt_target 36 = .ok (.aload_n 0, 1) := by decide +kernel
theorem d_Vt_target_37 : decode cb_Vt_target 37 = .ok (.getfield 63, 3) := by decide +kernel
theorem d_Vt_target_40 : decode cb_Vt_target 40 = .ok (.iload_n 2, 1) := by decide +kernel
theorem d_Vt_target_41 : decode cb_Vt_target 41 = .ok (.invokevirtual 307, 3) := by decide +kernel
theorem d_Vt_target_44 : decode cb_Vt_target 44 = .ok (.goto 4, 3) := by decide +kernel
theorem d_Vt_target_47 : decode cb_Vt_target 47 = .ok (.iconst (-1), 1) := by decide +kernel
theorem d_Vt_target_48 : decode cb_Vt_target 48 = .ok (.ireturn, 1) := by decide +kernel
abbrev cb_Vt_fail : ByteArray := prog_1_method_24_code
def y_Vt_fail : MethodName := ⟨R_Vt, "fail", "(II)Z"⟩
theorem d_Vt_fail_0 : decode cb_Vt_fail 0 = .ok (.iload_n 1, 1) := by decide +kernel
theorem d_Vt_fail_1 : decode cb_Vt_fail 1 = .ok (.ifCond .eq 8, 3) := by decide +kernel
theorem d_Vt_fail_4 : decode cb_Vt_fail 4 = .ok (.iload_n 1, 1) := by decide +kernel
theorem d_Vt_fail_5 : decode cb_Vt_fail 5 = .ok (.iconst 1, 1) := by decide +kernel
theorem d_Vt_fail_6 : decode cb_Vt_fail 6 = .ok (.if_icmp .ne 16, 3) := by decide +kernel
theorem d_Vt_fail_9 : decode cb_Vt_fail 9 = .ok (.iload_n 2, 1) := by decide +kernel
theorem d_Vt_fail_10 : decode cb_Vt_fail 10 = .ok (.ifCond .lt 12, 3) := by decide +kernel
theorem d_Vt_fail_13 : decode cb_Vt_fail 13 = .ok (.aload_n 0, 1) := by decide +kernel
theorem d_Vt_fail_14 : decode cb_Vt_fail 14 = .ok (.getfield 16, 3) := by decide +kernel
theorem d_Vt_fail_17 : decode cb_Vt_fail 17 = .ok (.bipush 16, 2) := by decide +kernel
theorem d_Vt_fail_19 : decode cb_Vt_fail 19 = .ok (.if_icmp .lt 5, 3) := by decide +kernel
theorem d_Vt_fail_22 : decode cb_Vt_fail 22 = .ok (.iconst 0, 1) := by decide +kernel
theorem d_Vt_fail_23 : decode cb_Vt_fail 23 = .ok (.ireturn, 1) := by decide +kernel
theorem d_Vt_fail_24 : decode cb_Vt_fail 24 = .ok (.aload_n 0, 1) := by decide +kernel
theorem d_Vt_fail_25 : decode cb_Vt_fail 25 = .ok (.getfield 9, 3) := by decide +kernel
theorem d_Vt_fail_28 : decode cb_Vt_fail 28 = .ok (.aload_n 0, 1) := by decide +kernel
theorem d_Vt_fail_29 : decode cb_Vt_fail 29 = .ok (.getfield 16, 3) := by decide +kernel
theorem d_Vt_fail_32 : decode cb_Vt_fail 32 = .ok (.iload_n 1, 1) := by decide +kernel
theorem d_Vt_fail_33 : decode cb_Vt_fail 33 = .ok (.iastore, 1) := by decide +kernel
theorem d_Vt_fail_34 : decode cb_Vt_fail 34 = .ok (.aload_n 0, 1) := by decide +kernel
theorem d_Vt_fail_35 : decode cb_Vt_fail 35 = .ok (.getfield 13, 3) := by decide +kernel
theorem d_Vt_fail_38 : decode cb_Vt_fail 38 = .ok (.aload_n 0, 1) := by decide +kernel
theorem d_Vt_fail_39 : decode cb_Vt_fail 39 = .ok (.getfield 16, 3) := by decide +kernel
theorem d_Vt_fail_42 : decode cb_Vt_fail 42 = .ok (.iload_n 2, 1) := by decide +kernel
theorem d_Vt_fail_43 : decode cb_Vt_fail 43 = .ok (.iastore, 1) := by decide +kernel
theorem d_Vt_fail_44 : decode cb_Vt_fail 44 = .ok (.aload_n 0, 1) := by decide +kernel
theorem d_Vt_fail_45 : decode cb_Vt_fail 45 = .ok (.dup, 1) := by decide +kernel
theorem d_Vt_fail_46 : decode cb_Vt_fail 46 = .ok (.getfield 16, 3) := by decide +kernel
theorem d_Vt_fail_49 : decode cb_Vt_fail 49 = .ok (.iconst 1, 1) := by decide +kernel
theorem d_Vt_fail_50 : decode cb_Vt_fail 50 = .ok (.iadd, 1) := by decide +kernel
theorem d_Vt_fail_51 : decode cb_Vt_fail 51 = .ok (.putfield 16, 3) := by decide +kernel
theorem d_Vt_fail_54 : decode cb_Vt_fail 54 = .ok (.iconst 1, 1) := by decide +kernel
theorem d_Vt_fail_55 : decode cb_Vt_fail 55 = .ok (.ireturn, 1) := by decide +kernel
abbrev cb_Vt_run : ByteArray := prog_1_method_25_code
def y_Vt_run : MethodName := ⟨R_Vt, "run", "(II)I"⟩
theorem d_Vt_run_0 : decode cb_Vt_run 0 = .ok (.aload_n 0, 1) := by decide +kernel
theorem d_Vt_run_1 : decode cb_Vt_run 1 = .ok (.getfield 16, 3) := by decide +kernel
theorem d_Vt_run_4 : decode cb_Vt_run 4 = .ok (.istore_n 3, 1) := by decide +kernel
theorem d_Vt_run_5 : decode cb_Vt_run 5 = .ok (.aload_n 0, 1) := by decide +kernel
theorem d_Vt_run_6 : decode cb_Vt_run 6 = .ok (.iconst 0, 1) := by decide +kernel
theorem d_Vt_run_7 : decode cb_Vt_run 7 = .ok (.putfield 16, 3) := by decide +kernel
theorem d_Vt_run_10 : decode cb_Vt_run 10 = .ok (.aload_n 0, 1) := by decide +kernel
theorem d_Vt_run_11 : decode cb_Vt_run 11 = .ok (.invokevirtual 174, 3) := by decide +kernel
theorem d_Vt_run_14 : decode cb_Vt_run 14 = .ok (.istore 4, 2) := by decide +kernel
theorem d_Vt_run_16 : decode cb_Vt_run 16 = .ok (.iload 4, 2) := by decide +kernel
theorem d_Vt_run_18 : decode cb_Vt_run 18 = .ok (.ifCond .ne 14, 3) := by decide +kernel
theorem d_Vt_run_21 : decode cb_Vt_run 21 = .ok (.new 310, 3) := by decide +kernel
theorem d_Vt_run_24 : decode cb_Vt_run 24 = .ok (.dup, 1) := by decide +kernel
theorem d_Vt_run_25 : decode cb_Vt_run 25 = .ok (.ldc_w 312, 3) := by decide +kernel
theorem d_Vt_run_28 : decode cb_Vt_run 28 = .ok (.invokespecial 314, 3) := by decide +kernel
theorem d_Vt_run_31 : decode cb_Vt_run 31 = .ok (.athrow, 1) := by decide +kernel
theorem d_Vt_run_32 : decode cb_Vt_run 32 = .ok (.iload_n 1, 1) := by decide +kernel
theorem d_Vt_run_33 : decode cb_Vt_run 33 = .ok (.ifCond .eq 19, 3) := by decide +kernel
theorem d_Vt_run_36 : decode cb_Vt_run 36 = .ok (.iload_n 1, 1) := by decide +kernel
theorem d_Vt_run_37 : decode cb_Vt_run 37 = .ok (.iconst 1, 1) := by decide +kernel
theorem d_Vt_run_38 : decode cb_Vt_run 38 = .ok (.if_icmp .eq 14, 3) := by decide +kernel
theorem d_Vt_run_41 : decode cb_Vt_run 41 = .ok (.new 133, 3) := by decide +kernel
theorem d_Vt_run_44 : decode cb_Vt_run 44 = .ok (.dup, 1) := by decide +kernel
theorem d_Vt_run_45 : decode cb_Vt_run 45 = .ok (.ldc_w 315, 3) := by decide +kernel
theorem d_Vt_run_48 : decode cb_Vt_run 48 = .ok (.invokespecial 137, 3) := by decide +kernel
theorem d_Vt_run_51 : decode cb_Vt_run 51 = .ok (.athrow, 1) := by decide +kernel
theorem d_Vt_run_52 : decode cb_Vt_run 52 = .ok (.iload 4, 2) := by decide +kernel
theorem d_Vt_run_54 : decode cb_Vt_run 54 = .ok (.iconst 2, 1) := by decide +kernel
theorem d_Vt_run_55 : decode cb_Vt_run 55 = .ok (.if_icmp .ne 13, 3) := by decide +kernel
theorem d_Vt_run_58 : decode cb_Vt_run 58 = .ok (.aload_n 0, 1) := by decide +kernel
theorem d_Vt_run_59 : decode cb_Vt_run 59 = .ok (.getfield 100, 3) := by decide +kernel
theorem d_Vt_run_62 : decode cb_Vt_run 62 = .ok (.invokevirtual 317, 3) := by decide +kernel
theorem d_Vt_run_65 : decode cb_Vt_run 65 = .ok (.goto 4, 3) := by decide +kernel
theorem d_Vt_run_68 : decode cb_Vt_run 68 = .ok (.iload_n 2, 1) := by decide +kernel
theorem d_Vt_run_69 : decode cb_Vt_run 69 = .ok (.istore 5, 2) := by decide +kernel
theorem d_Vt_run_71 : decode cb_Vt_run 71 = .ok (.iconst 0, 1) := by decide +kernel
theorem d_Vt_run_72 : decode cb_Vt_run 72 = .ok (.istore 6, 2) := by decide +kernel
theorem d_Vt_run_74 : decode cb_Vt_run 74 = .ok (.iload 6, 2) := by decide +kernel
theorem d_Vt_run_76 : decode cb_Vt_run 76 = .ok (.iload_n 3, 1) := by decide +kernel
theorem d_Vt_run_77 : decode cb_Vt_run 77 = .ok (.if_icmp .ge 47, 3) := by decide +kernel
theorem d_Vt_run_80 : decode cb_Vt_run 80 = .ok (.iload 6, 2) := by decide +kernel
theorem d_Vt_run_82 : decode cb_Vt_run 82 = .ok (.bipush 16, 2) := by decide +kernel
theorem d_Vt_run_84 : decode cb_Vt_run 84 = .ok (.if_icmp .ge 40, 3) := by decide +kernel
theorem d_Vt_run_87 : decode cb_Vt_run 87 = .ok (.aload_n 0, 1) := by decide +kernel
theorem d_Vt_run_88 : decode cb_Vt_run 88 = .ok (.getfield 47, 3) := by decide +kernel
theorem d_Vt_run_91 : decode cb_Vt_run 91 = .ok (.aload_n 0, 1) := by decide +kernel
theorem d_Vt_run_92 : decode cb_Vt_run 92 = .ok (.getfield 13, 3) := by decide +kernel
theorem d_Vt_run_95 : decode cb_Vt_run 95 = .ok (.iload 6, 2) := by decide +kernel
theorem d_Vt_run_97 : decode cb_Vt_run 97 = .ok (.iaload, 1) := by decide +kernel
theorem d_Vt_run_98 : decode cb_Vt_run 98 = .ok (.invokevirtual 320, 3) := by decide +kernel
theorem d_Vt_run_101 : decode cb_Vt_run 101 = .ok (.aload_n 0, 1) := by decide +kernel
theorem d_Vt_run_102 : decode cb_Vt_run 102 = .ok (.getfield 109, 3) := by decide +kernel
theorem d_Vt_run_105 : decode cb_Vt_run 105 = .ok (.aload_n 0, 1) := by decide +kernel
theorem d_Vt_run_106 : decode cb_Vt_run 106 = .ok (.getfield 9, 3) := by decide +kernel
theorem d_Vt_run_109 : decode cb_Vt_run 109 = .ok (.iload 6, 2) := by decide +kernel
theorem d_Vt_run_111 : decode cb_Vt_run 111 = .ok (.iaload, 1) := by decide +kernel
theorem d_Vt_run_112 : decode cb_Vt_run 112 = .ok (.iload 5, 2) := by decide +kernel
theorem d_Vt_run_114 : decode cb_Vt_run 114 = .ok (.invokevirtual 323, 3) := by decide +kernel
theorem d_Vt_run_117 : decode cb_Vt_run 117 = .ok (.pop, 1) := by decide +kernel
theorem d_Vt_run_118 : decode cb_Vt_run 118 = .ok (.iinc 6 1, 3) := by decide +kernel
theorem d_Vt_run_121 : decode cb_Vt_run 121 = .ok (.goto (-47), 3) := by decide +kernel
theorem d_Vt_run_124 : decode cb_Vt_run 124 = .ok (.aload_n 0, 1) := by decide +kernel
theorem d_Vt_run_125 : decode cb_Vt_run 125 = .ok (.getfield 47, 3) := by decide +kernel
theorem d_Vt_run_128 : decode cb_Vt_run 128 = .ok (.iconst (-1), 1) := by decide +kernel
theorem d_Vt_run_129 : decode cb_Vt_run 129 = .ok (.invokevirtual 320, 3) := by decide +kernel
theorem d_Vt_run_132 : decode cb_Vt_run 132 = .ok (.aload_n 0, 1) := by decide +kernel
theorem d_Vt_run_133 : decode cb_Vt_run 133 = .ok (.getfield 109, 3) := by decide +kernel
theorem d_Vt_run_136 : decode cb_Vt_run 136 = .ok (.iload_n 1, 1) := by decide +kernel
theorem d_Vt_run_137 : decode cb_Vt_run 137 = .ok (.iload 5, 2) := by decide +kernel
theorem d_Vt_run_139 : decode cb_Vt_run 139 = .ok (.invokevirtual 323, 3) := by decide +kernel
theorem d_Vt_run_142 : decode cb_Vt_run 142 = .ok (.istore 6, 2) := by decide +kernel
theorem d_Vt_run_144 : decode cb_Vt_run 144 = .ok (.aload_n 0, 1) := by decide +kernel
theorem d_Vt_run_145 : decode cb_Vt_run 145 = .ok (.iconst 1, 1) := by decide +kernel
theorem d_Vt_run_146 : decode cb_Vt_run 146 = .ok (.putfield 30, 3) := by decide +kernel
theorem d_Vt_run_149 : decode cb_Vt_run 149 = .ok (.aload_n 0, 1) := by decide +kernel
theorem d_Vt_run_150 : decode cb_Vt_run 150 = .ok (.invokevirtual 161, 3) := by decide +kernel
theorem d_Vt_run_153 : decode cb_Vt_run 153 = .ok (.aload_n 0, 1) := by decide +kernel
theorem d_Vt_run_154 : decode cb_Vt_run 154 = .ok (.iconst 0, 1) := by decide +kernel
theorem d_Vt_run_155 : decode cb_Vt_run 155 = .ok (.putfield 20, 3) := by decide +kernel
theorem d_Vt_run_158 : decode cb_Vt_run 158 = .ok (.iload 6, 2) := by decide +kernel
theorem d_Vt_run_160 : decode cb_Vt_run 160 = .ok (.ireturn, 1) := by decide +kernel
abbrev cb_Vt_changed : ByteArray := prog_1_method_26_code
def y_Vt_changed : MethodName := ⟨R_Vt, "changed", "()V"⟩
theorem d_Vt_changed_0 : decode cb_Vt_changed 0 = .ok (.aload_n 0, 1) := by decide +kernel
theorem d_Vt_changed_1 : decode cb_Vt_changed 1 = .ok (.iconst 1, 1) := by decide +kernel
theorem d_Vt_changed_2 : decode cb_Vt_changed 2 = .ok (.putfield 23, 3) := by decide +kernel
theorem d_Vt_changed_5 : decode cb_Vt_changed 5 = .ok (.return_, 1) := by decide +kernel
abbrev cb_Vt_look : ByteArray := prog_1_method_27_code
def y_Vt_look : MethodName := ⟨R_Vt, "look", "()I"⟩
theorem d_Vt_look_0 : decode cb_Vt_look 0 = .ok (.aload_n 0, 1) := by decide +kernel
theorem d_Vt_look_1 : decode cb_Vt_look 1 = .ok (.getfield 100, 3) := by decide +kernel
theorem d_Vt_look_4 : decode cb_Vt_look 4 = .ok (.invokevirtual 326, 3) := by decide +kernel
theorem d_Vt_look_7 : decode cb_Vt_look 7 = .ok (.ifCond .eq 5, 3) := by decide +kernel
theorem d_Vt_look_10 : decode cb_Vt_look 10 = .ok (.iconst 2, 1) := by decide +kernel
theorem d_Vt_look_11 : decode cb_Vt_look 11 = .ok (.ireturn, 1) := by decide +kernel
theorem d_Vt_look_12 : decode cb_Vt_look 12 = .ok (.aload_n 0, 1) := by decide +kernel
theorem d_Vt_look_13 : decode cb_Vt_look 13 = .ok (.getfield 23, 3) := by decide +kernel
theorem d_Vt_look_16 : decode cb_Vt_look 16 = .ok (.ifCond .eq 20, 3) := by decide +kernel
theorem d_Vt_look_19 : decode cb_Vt_look 19 = .ok (.aload_n 0, 1) := by decide +kernel
theorem d_Vt_look_20 : decode cb_Vt_look 20 = .ok (.aload_n 0, 1) := by decide +kernel
theorem d_Vt_look_21 : decode cb_Vt_look 21 = .ok (.getfield 79, 3) := by decide +kernel
theorem d_Vt_look_24 : decode cb_Vt_look 24 = .ok (.iconst 0, 1) := by decide +kernel
theorem d_Vt_look_25 : decode cb_Vt_look 25 = .ok (.invokevirtual 329, 3) := by decide +kernel
theorem d_Vt_look_28 : decode cb_Vt_look 28 = .ok (.putfield 27, 3) := by decide +kernel
theorem d_Vt_look_31 : decode cb_Vt_look 31 = .ok (.aload_n 0, 1) := by decide +kernel
theorem d_Vt_look_32 : decode cb_Vt_look 32 = .ok (.iconst 0, 1) := by decide +kernel
theorem d_Vt_look_33 : decode cb_Vt_look 33 = .ok (.putfield 23, 3) := by decide +kernel
theorem d_Vt_look_36 : decode cb_Vt_look 36 = .ok (.aload_n 0, 1) := by decide +kernel
theorem d_Vt_look_37 : decode cb_Vt_look 37 = .ok (.getfield 27, 3) := by decide +kernel
theorem d_Vt_look_40 : decode cb_Vt_look 40 = .ok (.iconst 1, 1) := by decide +kernel
theorem d_Vt_look_41 : decode cb_Vt_look 41 = .ok (.if_icmp .ne 7, 3) := by decide +kernel
theorem d_Vt_look_44 : decode cb_Vt_look 44 = .ok (.iconst 0, 1) := by decide +kernel
theorem d_Vt_look_45 : decode cb_Vt_look 45 = .ok (.goto 4, 3) := by decide +kernel
theorem d_Vt_look_48 : decode cb_Vt_look 48 = .ok (.iconst 1, 1) := by decide +kernel
theorem d_Vt_look_49 : decode cb_Vt_look 49 = .ok (.ireturn, 1) := by decide +kernel
abbrev cb_Vt_readsInodes : ByteArray := prog_1_method_28_code
def y_Vt_readsInodes : MethodName := ⟨R_Vt, "readsInodes", "(I)Z"⟩
theorem d_Vt_readsInodes_0 : decode cb_Vt_readsInodes 0 = .ok (.iload_n 1, 1) := by decide +kernel
theorem d_Vt_readsInodes_1 : decode cb_Vt_readsInodes 1 = .ok (.iconst 2, 1) := by decide +kernel
theorem d_Vt_readsInodes_2 : decode cb_Vt_readsInodes 2 = .ok (.if_icmp .eq 21, 3) := by decide +kernel
theorem d_Vt_readsInodes_5 : decode cb_Vt_readsInodes 5 = .ok (.aload_n 0, 1) := by decide +kernel
theorem d_Vt_readsInodes_6 : decode cb_Vt_readsInodes 6 = .ok (.getfield 27, 3) := by decide +kernel
theorem d_Vt_readsInodes_9 : decode cb_Vt_readsInodes 9 = .ok (.ifCond .eq 14, 3) := by decide +kernel
theorem d_Vt_readsInodes_12 : decode cb_Vt_readsInodes 12 = .ok (.new 310, 3) := by decide +kernel
theorem d_Vt_readsInodes_15 : decode cb_Vt_readsInodes 15 = .ok (.dup, 1) := by decide +kernel
theorem d_Vt_readsInodes_16 : decode cb_Vt_readsInodes 16 = .ok (.ldc_w 333, 3) := by decide +kernel
theorem d_Vt_readsInodes_19 : decode cb_Vt_readsInodes 19 = .ok (.invokespecial 314, 3) := by decide +kernel
theorem d_Vt_readsInodes_22 : decode cb_Vt_readsInodes 22 = .ok (.athrow, 1) := by decide +kernel
theorem d_Vt_readsInodes_23 : decode cb_Vt_readsInodes 23 = .ok (.iload_n 1, 1) := by decide +kernel
theorem d_Vt_readsInodes_24 : decode cb_Vt_readsInodes 24 = .ok (.iconst 2, 1) := by decide +kernel
theorem d_Vt_readsInodes_25 : decode cb_Vt_readsInodes 25 = .ok (.if_icmp .ne 7, 3) := by decide +kernel
theorem d_Vt_readsInodes_28 : decode cb_Vt_readsInodes 28 = .ok (.iconst 1, 1) := by decide +kernel
theorem d_Vt_readsInodes_29 : decode cb_Vt_readsInodes 29 = .ok (.goto 4, 3) := by decide +kernel
theorem d_Vt_readsInodes_32 : decode cb_Vt_readsInodes 32 = .ok (.iconst 0, 1) := by decide +kernel
theorem d_Vt_readsInodes_33 : decode cb_Vt_readsInodes 33 = .ok (.ireturn, 1) := by decide +kernel
abbrev cb_Vt_wantSoundTable : ByteArray := prog_1_method_29_code
def y_Vt_wantSoundTable : MethodName := ⟨R_Vt, "wantSoundTable", "(I)V"⟩
theorem d_Vt_wantSoundTable_0 : decode cb_Vt_wantSoundTable 0 = .ok (.iload_n 1, 1) := by decide +kernel
theorem d_Vt_wantSoundTable_1 : decode cb_Vt_wantSoundTable 1 = .ok (.iconst 1, 1) := by decide +kernel
theorem d_Vt_wantSoundTable_2 : decode cb_Vt_wantSoundTable 2 = .ok (.if_icmp .ne 10, 3) := by decide +kernel
theorem d_Vt_wantSoundTable_5 : decode cb_Vt_wantSoundTable 5 = .ok (.aload_n 0, 1) := by decide +kernel
theorem d_Vt_wantSoundTable_6 : decode cb_Vt_wantSoundTable 6 = .ok (.getfield 27, 3) := by decide +kernel
theorem d_Vt_wantSoundTable_9 : decode cb_Vt_wantSoundTable 9 = .ok (.ifCond .eq 14, 3) := by decide +kernel
theorem d_Vt_wantSoundTable_12 : decode cb_Vt_wantSoundTable 12 = .ok (.new 310, 3) := by decide +kernel
theorem d_Vt_wantSoundTable_15 : decode cb_Vt_wantSoundTable 15 = .ok (.dup, 1) := by decide +kernel
theorem d_Vt_wantSoundTable_16 : decode cb_Vt_wantSoundTable 16 = .ok (.ldc_w 335, 3) := by decide +kernel
theorem d_Vt_wantSoundTable_19 : decode cb_Vt_wantSoundTable 19 = .ok (.invokespecial 314, 3) := by decide +kernel
theorem d_Vt_wantSoundTable_22 : decode cb_Vt_wantSoundTable 22 = .ok (.athrow, 1) := by decide +kernel
theorem d_Vt_wantSoundTable_23 : decode cb_Vt_wantSoundTable 23 = .ok (.return_, 1) := by decide +kernel
abbrev cb_Vt_itemHere : ByteArray := prog_1_method_30_code
def y_Vt_itemHere : MethodName := ⟨R_Vt, "itemHere", "(I)I"⟩
theorem d_Vt_itemHere_0 : decode cb_Vt_itemHere 0 = .ok (.iload_n 1, 1) := by decide +kernel
theorem d_Vt_itemHere_1 : decode cb_Vt_itemHere 1 = .ok (.ifCond .lt 18, 3) := by decide +kernel
theorem d_Vt_itemHere_4 : decode cb_Vt_itemHere 4 = .ok (.iload_n 1, 1) := by decide +kernel
theorem d_Vt_itemHere_5 : decode cb_Vt_itemHere 5 = .ok (.aload_n 0, 1) := by decide +kernel
theorem d_Vt_itemHere_6 : decode cb_Vt_itemHere 6 = .ok (.getfield 70, 3) := by decide +kernel
theorem d_Vt_itemHere_9 : decode cb_Vt_itemHere 9 = .ok (.aload_n 0, 1) := by decide +kernel
theorem d_Vt_itemHere_10 : decode cb_Vt_itemHere 10 = .ok (.getfield 20, 3) := by decide +kernel
theorem d_Vt_itemHere_13 : decode cb_Vt_itemHere 13 = .ok (.invokevirtual 190, 3) := by decide +kernel
theorem d_Vt_itemHere_16 : decode cb_Vt_itemHere 16 = .ok (.if_icmp .lt 14, 3) := by decide +kernel
theorem d_Vt_itemHere_19 : decode cb_Vt_itemHere 19 = .ok (.new 337, 3) := by decide +kernel
theorem d_Vt_itemHere_22 : decode cb_Vt_itemHere 22 = .ok (.dup, 1) := by decide +kernel
theorem d_Vt_itemHere_23 : decode cb_Vt_itemHere 23 = .ok (.ldc_w 339, 3) := by decide +kernel
theorem d_Vt_itemHere_26 : decode cb_Vt_itemHere 26 = .ok (.invokespecial 341, 3) := by decide +kernel
theorem d_Vt_itemHere_29 : decode cb_Vt_itemHere 29 = .ok (.athrow, 1) := by decide +kernel
theorem d_Vt_itemHere_30 : decode cb_Vt_itemHere 30 = .ok (.aload_n 0, 1) := by decide +kernel
theorem d_Vt_itemHere_31 : decode cb_Vt_itemHere 31 = .ok (.getfield 70, 3) := by decide +kernel
theorem d_Vt_itemHere_34 : decode cb_Vt_itemHere 34 = .ok (.aload_n 0, 1) := by decide +kernel
theorem d_Vt_itemHere_35 : decode cb_Vt_itemHere 35 = .ok (.getfield 20, 3) := by decide +kernel
theorem d_Vt_itemHere_38 : decode cb_Vt_itemHere 38 = .ok (.iload_n 1, 1) := by decide +kernel
theorem d_Vt_itemHere_39 : decode cb_Vt_itemHere 39 = .ok (.invokevirtual 342, 3) := by decide +kernel
theorem d_Vt_itemHere_42 : decode cb_Vt_itemHere 42 = .ok (.ireturn, 1) := by decide +kernel
abbrev cb_Vt_entryHere : ByteArray := prog_1_method_31_code
def y_Vt_entryHere : MethodName := ⟨R_Vt, "entryHere", "(I)I"⟩
theorem d_Vt_entryHere_0 : decode cb_Vt_entryHere 0 = .ok (.iload_n 1, 1) := by decide +kernel
theorem d_Vt_entryHere_1 : decode cb_Vt_entryHere 1 = .ok (.ifCond .lt 18, 3) := by decide +kernel
theorem d_Vt_entryHere_4 : decode cb_Vt_entryHere 4 = .ok (.iload_n 1, 1) := by decide +kernel
theorem d_Vt_entryHere_5 : decode cb_Vt_entryHere 5 = .ok (.aload_n 0, 1) := by decide +kernel
theorem d_Vt_entryHere_6 : decode cb_Vt_entryHere 6 = .ok (.getfield 100, 3) := by decide +kernel
theorem d_Vt_entryHere_9 : decode cb_Vt_entryHere 9 = .ok (.aload_n 0, 1) := by decide +kernel
theorem d_Vt_entryHere_10 : decode cb_Vt_entryHere 10 = .ok (.getfield 20, 3) := by decide +kernel
theorem d_Vt_entryHere_13 : decode cb_Vt_entryHere 13 = .ok (.invokevirtual 187, 3) := by decide +kernel
theorem d_Vt_entryHere_16 : decode cb_Vt_entryHere 16 = .ok (.if_icmp .lt 14, 3) := by decide +kernel
theorem d_Vt_entryHere_19 : decode cb_Vt_entryHere 19 = .ok (.new 337, 3) := by decide +kernel
theorem d_Vt_entryHere_22 : decode cb_Vt_entryHere 22 = .ok (.dup, 1) := by decide +kernel
theorem d_Vt_entryHere_23 : decode cb_Vt_entryHere 23 = .ok (.ldc_w 339, 3) := by decide +kernel
theorem d_Vt_entryHere_26 : decode cb_Vt_entryHere 26 = .ok (.invokespecial 341, 3) := by decide +kernel
theorem d_Vt_entryHere_29 : decode cb_Vt_entryHere 29 = .ok (.athrow, 1) := by decide +kernel
theorem d_Vt_entryHere_30 : decode cb_Vt_entryHere 30 = .ok (.aload_n 0, 1) := by decide +kernel
theorem d_Vt_entryHere_31 : decode cb_Vt_entryHere 31 = .ok (.getfield 100, 3) := by decide +kernel
theorem d_Vt_entryHere_34 : decode cb_Vt_entryHere 34 = .ok (.aload_n 0, 1) := by decide +kernel
theorem d_Vt_entryHere_35 : decode cb_Vt_entryHere 35 = .ok (.getfield 20, 3) := by decide +kernel
theorem d_Vt_entryHere_38 : decode cb_Vt_entryHere 38 = .ok (.iload_n 1, 1) := by decide +kernel
theorem d_Vt_entryHere_39 : decode cb_Vt_entryHere 39 = .ok (.iconst 2, 1) := by decide +kernel
theorem d_Vt_entryHere_40 : decode cb_Vt_entryHere 40 = .ok (.iadd, 1) := by decide +kernel
theorem d_Vt_entryHere_41 : decode cb_Vt_entryHere 41 = .ok (.invokevirtual 345, 3) := by decide +kernel
theorem d_Vt_entryHere_44 : decode cb_Vt_entryHere 44 = .ok (.ireturn, 1) := by decide +kernel
abbrev cb_Vt_fileHere : ByteArray := prog_1_method_32_code
def y_Vt_fileHere : MethodName := ⟨R_Vt, "fileHere", "(I)I"⟩
theorem d_Vt_fileHere_0 : decode cb_Vt_fileHere 0 = .ok (.aload_n 0, 1) := by decide +kernel
theorem d_Vt_fileHere_1 : decode cb_Vt_fileHere 1 = .ok (.iload_n 1, 1) := by decide +kernel
theorem d_Vt_fileHere_2 : decode cb_Vt_fileHere 2 = .ok (.invokevirtual 197, 3) := by decide +kernel
theorem d_Vt_fileHere_5 : decode cb_Vt_fileHere 5 = .ok (.istore_n 2, 1) := by decide +kernel
theorem d_Vt_fileHere_6 : decode cb_Vt_fileHere 6 = .ok (.aload_n 0, 1) := by decide +kernel
theorem d_Vt_fileHere_7 : decode cb_Vt_fileHere 7 = .ok (.getfield 70, 3) := by decide +kernel
theorem d_Vt_fileHere_10 : decode cb_Vt_fileHere 10 = .ok (.iload_n 2, 1) := by decide +kernel
theorem d_Vt_fileHere_11 : decode cb_Vt_fileHere 11 = .ok (.invokevirtual 213, 3) := by decide +kernel
theorem d_Vt_fileHere_14 : decode cb_Vt_fileHere 14 = .ok (.ifCond .eq 14, 3) := by decide +kernel
theorem d_Vt_fileHere_17 : decode cb_Vt_fileHere 17 = .ok (.new 133, 3) := by decide +kernel
theorem d_Vt_fileHere_20 : decode cb_Vt_fileHere 20 = .ok (.dup, 1) := by decide +kernel
theorem d_Vt_fileHere_21 : decode cb_Vt_fileHere 21 = .ok (.ldc_w 348, 3) := by decide +kernel
theorem d_Vt_fileHere_24 : decode cb_Vt_fileHere 24 = .ok (.invokespecial 137, 3) := by decide +kernel
theorem d_Vt_fileHere_27 : decode cb_Vt_fileHere 27 = .ok (.athrow, 1) := by decide +kernel
theorem d_Vt_fileHere_28 : decode cb_Vt_fileHere 28 = .ok (.iload_n 2, 1) := by decide +kernel
theorem d_Vt_fileHere_29 : decode cb_Vt_fileHere 29 = .ok (.ireturn, 1) := by decide +kernel
abbrev cb_Vt_lengthen : ByteArray := prog_1_method_33_code
def y_Vt_lengthen : MethodName := ⟨R_Vt, "lengthen", "(II)I"⟩
theorem d_Vt_lengthen_0 : decode cb_Vt_lengthen 0 = .ok (.aload_n 0, 1) := by decide +kernel
theorem d_Vt_lengthen_1 : decode cb_Vt_lengthen 1 = .ok (.getfield 70, 3) := by decide +kernel
theorem d_Vt_lengthen_4 : decode cb_Vt_lengthen 4 = .ok (.iload_n 1, 1) := by decide +kernel
theorem d_Vt_lengthen_5 : decode cb_Vt_lengthen 5 = .ok (.invokevirtual 216, 3) := by decide +kernel
theorem d_Vt_lengthen_8 : decode cb_Vt_lengthen 8 = .ok (.istore_n 3, 1) := by decide +kernel
theorem d_Vt_lengthen_9 : decode cb_Vt_lengthen 9 = .ok (.aload_n 0, 1) := by decide +kernel
theorem d_Vt_lengthen_10 : decode cb_Vt_lengthen 10 = .ok (.getfield 86, 3) := by decide +kernel
theorem d_Vt_lengthen_13 : decode cb_Vt_lengthen 13 = .ok (.iload_n 1, 1) := by decide +kernel
theorem d_Vt_lengthen_14 : decode cb_Vt_lengthen 14 = .ok (.iload_n 2, 1) := by decide +kernel
theorem d_Vt_lengthen_15 : decode cb_Vt_lengthen 15 = .ok (.invokevirtual 350, 3) := by decide +kernel
theorem d_Vt_lengthen_18 : decode cb_Vt_lengthen 18 = .ok (.ifCond .ne 13, 3) := by decide +kernel
theorem d_Vt_lengthen_21 : decode cb_Vt_lengthen 21 = .ok (.new 248, 3) := by decide +kernel
theorem d_Vt_lengthen_24 : decode cb_Vt_lengthen 24 = .ok (.dup, 1) := by decide +kernel
theorem d_Vt_lengthen_25 : decode cb_Vt_lengthen 25 = .ok (.ldc 250, 2) := by decide +kernel
theorem d_Vt_lengthen_27 : decode cb_Vt_lengthen 27 = .ok (.invokespecial 252, 3) := by decide +kernel
theorem d_Vt_lengthen_30 : decode cb_Vt_lengthen 30 = .ok (.athrow, 1) := by decide +kernel
theorem d_Vt_lengthen_31 : decode cb_Vt_lengthen 31 = .ok (.aload_n 0, 1) := by decide +kernel
theorem d_Vt_lengthen_32 : decode cb_Vt_lengthen 32 = .ok (.invokevirtual 161, 3) := by decide +kernel
theorem d_Vt_lengthen_35 : decode cb_Vt_lengthen 35 = .ok (.aload_n 0, 1) := by decide +kernel
theorem d_Vt_lengthen_36 : decode cb_Vt_lengthen 36 = .ok (.getfield 86, 3) := by decide +kernel
theorem d_Vt_lengthen_39 : decode cb_Vt_lengthen 39 = .ok (.iload_n 1, 1) := by decide +kernel
theorem d_Vt_lengthen_40 : decode cb_Vt_lengthen 40 = .ok (.iload_n 2, 1) := by decide +kernel
theorem d_Vt_lengthen_41 : decode cb_Vt_lengthen 41 = .ok (.invokevirtual 353, 3) := by decide +kernel
theorem d_Vt_lengthen_44 : decode cb_Vt_lengthen 44 = .ok (.iload_n 3, 1) := by decide +kernel
theorem d_Vt_lengthen_45 : decode cb_Vt_lengthen 45 = .ok (.ireturn, 1) := by decide +kernel
abbrev cb_Vt_tellItem : ByteArray := prog_1_method_34_code
def y_Vt_tellItem : MethodName := ⟨R_Vt, "tellItem", "(II)J"⟩
theorem d_Vt_tellItem_0 : decode cb_Vt_tellItem 0 = .ok (.iload_n 2, 1) := by decide +kernel
theorem d_Vt_tellItem_1 : decode cb_Vt_tellItem 1 = .ok (.lookupswitch 79 #[(0, 35), (1, 52), (5, 69)], 35) := by decide +kernel
theorem d_Vt_tellItem_36 : decode cb_Vt_tellItem 36 = .ok (.aload_n 0, 1) := by decide +kernel
theorem d_Vt_tellItem_37 : decode cb_Vt_tellItem 37 = .ok (.getfield 70, 3) := by decide +kernel
theorem d_Vt_tellItem_40 : decode cb_Vt_tellItem 40 = .ok (.iload_n 1, 1) := by decide +kernel
theorem d_Vt_tellItem_41 : decode cb_Vt_tellItem 41 = .ok (.invokevirtual 213, 3) := by decide +kernel
theorem d_Vt_tellItem_44 : decode cb_Vt_tellItem 44 = .ok (.ifCond .eq 7, 3) := by decide +kernel
theorem d_Vt_tellItem_47 : decode cb_Vt_tellItem 47 = .ok (.lconst 1, 1) := by decide +kernel
theorem d_Vt_tellItem_48 : decode cb_Vt_tellItem 48 = .ok (.goto 4, 3) := by decide +kernel
theorem d_Vt_tellItem_51 : decode cb_Vt_tellItem 51 = .ok (.lconst 0, 1) := by decide +kernel
theorem d_Vt_tellItem_52 : decode cb_Vt_tellItem 52 = .ok (.lreturn, 1) := by decide +kernel
theorem d_Vt_tellItem_53 : decode cb_Vt_tellItem 53 = .ok (.aload_n 0, 1) := by decide +kernel
theorem d_Vt_tellItem_54 : decode cb_Vt_tellItem 54 = .ok (.getfield 70, 3) := by decide +kernel
theorem d_Vt_tellItem_57 : decode cb_Vt_tellItem 57 = .ok (.iload_n 1, 1) := by decide +kernel
theorem d_Vt_tellItem_58 : decode cb_Vt_tellItem 58 = .ok (.invokevirtual 355, 3) := by decide +kernel
theorem d_Vt_tellItem_61 : decode cb_Vt_tellItem 61 = .ok (.ifCond .eq 7, 3) := by decide +kernel
theorem d_Vt_tellItem_64 : decode cb_Vt_tellItem 64 = .ok (.lconst 1, 1) := by decide +kernel
theorem d_Vt_tellItem_65 : decode cb_Vt_tellItem 65 = .ok (.goto 4, 3) := by decide +kernel
theorem d_Vt_tellItem_68 : decode cb_Vt_tellItem 68 = .ok (.lconst 0, 1) := by decide +kernel
theorem d_Vt_tellItem_69 : decode cb_Vt_tellItem 69 = .ok (.lreturn, 1) := by decide +kernel
theorem d_Vt_tellItem_70 : decode cb_Vt_tellItem 70 = .ok (.aload_n 0, 1) := by decide +kernel
theorem d_Vt_tellItem_71 : decode cb_Vt_tellItem 71 = .ok (.getfield 70, 3) := by decide +kernel
theorem d_Vt_tellItem_74 : decode cb_Vt_tellItem 74 = .ok (.iload_n 1, 1) := by decide +kernel
theorem d_Vt_tellItem_75 : decode cb_Vt_tellItem 75 = .ok (.invokevirtual 216, 3) := by decide +kernel
theorem d_Vt_tellItem_78 : decode cb_Vt_tellItem 78 = .ok (.i2l, 1) := by decide +kernel
theorem d_Vt_tellItem_79 : decode cb_Vt_tellItem 79 = .ok (.lreturn, 1) := by decide +kernel
theorem d_Vt_tellItem_80 : decode cb_Vt_tellItem 80 = .ok (.aload_n 0, 1) := by decide +kernel
theorem d_Vt_tellItem_81 : decode cb_Vt_tellItem 81 = .ok (.getfield 47, 3) := by decide +kernel
theorem d_Vt_tellItem_84 : decode cb_Vt_tellItem 84 = .ok (.aload_n 0, 1) := by decide +kernel
theorem d_Vt_tellItem_85 : decode cb_Vt_tellItem 85 = .ok (.getfield 70, 3) := by decide +kernel
theorem d_Vt_tellItem_88 : decode cb_Vt_tellItem 88 = .ok (.iload_n 1, 1) := by decide +kernel
theorem d_Vt_tellItem_89 : decode cb_Vt_tellItem 89 = .ok (.invokevirtual 283, 3) := by decide +kernel
theorem d_Vt_tellItem_92 : decode cb_Vt_tellItem 92 = .ok (.iload_n 2, 1) := by decide +kernel
theorem d_Vt_tellItem_93 : decode cb_Vt_tellItem 93 = .ok (.invokestatic 358, 3) := by decide +kernel
theorem d_Vt_tellItem_96 : decode cb_Vt_tellItem 96 = .ok (.ldc2_w 362, 3) := by decide +kernel
theorem d_Vt_tellItem_99 : decode cb_Vt_tellItem 99 = .ok (.land, 1) := by decide +kernel
theorem d_Vt_tellItem_100 : decode cb_Vt_tellItem 100 = .ok (.lreturn, 1) := by decide +kernel
def K_Vt : List Cond := [(.initialized "VolumeTurner"), (.initialized "java/lang/IllegalArgumentException"), (.initialized "java/lang/IndexOutOfBoundsException"), (.initialized "java/lang/IllegalStateException"), (.initialized "java/lang/UnsupportedOperationException"), (.instantiable "VolumeTurner" 16), (.instanceMethod y_Vt_init), (.code y_Vt_init prog_1_method_1_code 3 none), (.methodLink "VolumeTurner" 1 objectInit), (.methodLink "VolumeTurner" 33 ⟨"java/lang/Math", "max", "(II)I"⟩), (.methodLink "VolumeTurner" 39 ⟨"java/lang/Math", "min", "(II)I"⟩), (.classLink "VolumeTurner" 42 "VolumeTurner$Disk"), (.methodLink "VolumeTurner" 44 y_Dk_init), (.fieldLink "VolumeTurner" 140 "VolumeTurner$Disk" "sectors" "I"), (.classLink "VolumeTurner" 51 "VolumeTurner$Tape"), (.classLink "VolumeTurner" 58 "VolumeTurner$Table"), (.methodLink "VolumeTurner" 60 y_Tb_init), (.fieldLink "VolumeTurner" 164 "VolumeTurner$Table" "clusters" "I"), (.classLink "VolumeTurner" 67 "VolumeTurner$Tree"), (.classLink "VolumeTurner" 74 "VolumeTurner$Reader"), (.methodLink "VolumeTurner" 76 y_Rd_init), (.classLink "VolumeTurner" 83 "VolumeTurner$Editor"), (.methodLink "VolumeTurner" 85 y_Ed_init), (.classLink "VolumeTurner" 90 "VolumeTurner$Plan"), (.methodLink "VolumeTurner" 92 y_Pl_init), (.classLink "VolumeTurner" 97 "VolumeTurner$Inodes"), (.methodLink "VolumeTurner" 99 y_In_init), (.classLink "VolumeTurner" 104 "VolumeTurner$Turner"), (.methodLink "VolumeTurner" 106 y_Tu_init), (.fieldLink "VolumeTurner" 47 "VolumeTurner" "disk" "LVolumeTurner$Disk;"), (.fieldLink "VolumeTurner" 54 "VolumeTurner" "tape" "LVolumeTurner$Tape;"), (.fieldLink "VolumeTurner" 63 "VolumeTurner" "table" "LVolumeTurner$Table;"), (.fieldLink "VolumeTurner" 70 "VolumeTurner" "tree" "LVolumeTurner$Tree;"), (.fieldLink "VolumeTurner" 79 "VolumeTurner" "reader" "LVolumeTurner$Reader;"), (.fieldLink "VolumeTurner" 86 "VolumeTurner" "editor" "LVolumeTurner$Editor;"), (.fieldLink "VolumeTurner" 93 "VolumeTurner" "planner" "LVolumeTurner$Plan;"), (.fieldLink "VolumeTurner" 109 "VolumeTurner" "turner" "LVolumeTurner$Turner;"), (.fieldLink "VolumeTurner" 100 "VolumeTurner" "inodes" "LVolumeTurner$Inodes;"), (.fieldLink "VolumeTurner" 9 "VolumeTurner" "failAsks" "[I"), (.fieldLink "VolumeTurner" 13 "VolumeTurner" "failWrites" "[I"), (.fieldLink "VolumeTurner" 16 "VolumeTurner" "fails" "I"), (.fieldLink "VolumeTurner" 20 "VolumeTurner" "here" "I"), (.fieldLink "VolumeTurner" 23 "VolumeTurner" "stale" "Z"), (.fieldLink "VolumeTurner" 27 "VolumeTurner" "lastFault" "I"), (.fieldLink "VolumeTurner" 30 "VolumeTurner" "hasRun" "Z"), (.instanceMethod y_Vt_feed), (.selects "VolumeTurner" y_Vt_feed y_Vt_feed), (.code y_Vt_feed prog_1_method_2_code 6 none), (.methodLink "VolumeTurner" 113 y_Tp_prepare), (.instanceMethod y_Vt_end), (.selects "VolumeTurner" y_Vt_end y_Vt_end), (.code y_Vt_end prog_1_method_3_code 2 (some .int)), (.methodLink "VolumeTurner" 117 y_Tp_append), (.instanceMethod y_Vt_clear), (.selects "VolumeTurner" y_Vt_clear y_Vt_clear), (.code y_Vt_clear prog_1_method_4_code 1 none), (.methodLink "VolumeTurner" 121 y_Tp_useUp), (.instanceMethod y_Vt_poke), (.selects "VolumeTurner" y_Vt_poke y_Vt_poke), (.code y_Vt_poke prog_1_method_6_code 4 (some .boolean)), (.methodLink "VolumeTurner" 167 y_Dk_has), (.methodLink "VolumeTurner" 171 y_Dk_putOne), (.methodLink "VolumeTurner" 161 y_Vt_changed), (.instanceMethod y_Vt_changed), (.code y_Vt_changed prog_1_method_26_code 1 none), (.instanceMethod y_Vt_kind), (.selects "VolumeTurner" y_Vt_kind y_Vt_kind), (.code y_Vt_kind prog_1_method_7_code 1 (some .int)), (.methodLink "VolumeTurner" 174 y_Vt_look), (.instanceMethod y_Vt_look), (.code y_Vt_look prog_1_method_27_code 1 (some .int)), (.methodLink "VolumeTurner" 326 y_In_isThere), (.methodLink "VolumeTurner" 329 y_Rd_scan), (.instanceMethod y_Vt_fault), (.selects "VolumeTurner" y_Vt_fault y_Vt_fault), (.code y_Vt_fault prog_1_method_8_code 1 (some .int)), (.instanceMethod y_Vt_byteAt), (.selects "VolumeTurner" y_Vt_byteAt y_Vt_byteAt), (.code y_Vt_byteAt prog_1_method_9_code 5 (some .int)), (.methodLink "VolumeTurner" 177 y_Tb_shows), (.methodLink "VolumeTurner" 180 y_In_shows), (.methodLink "VolumeTurner" 181 y_Dk_one), (.instanceMethod y_Vt_plan), (.selects "VolumeTurner" y_Vt_plan y_Vt_plan), (.code y_Vt_plan prog_1_method_22_code 4 (some .int)), (.methodLink "VolumeTurner" 298 y_Pl_refusal), (.methodLink "VolumeTurner" 301 y_Pl_number), (.instanceMethod y_Vt_target), (.selects "VolumeTurner" y_Vt_target y_Vt_target), (.code y_Vt_target prog_1_method_23_code 3 (some .int)), (.methodLink "VolumeTurner" 304 y_Tb_hasCluster), (.methodLink "VolumeTurner" 307 y_Tb_goalOf), (.instanceMethod y_Vt_fail), (.selects "VolumeTurner" y_Vt_fail y_Vt_fail), (.code y_Vt_fail prog_1_method_24_code 3 (some .boolean)), (.instanceMethod y_Vt_format), (.selects "VolumeTurner" y_Vt_format y_Vt_format), (.code y_Vt_format prog_1_method_5_code 7 (some .int)), (.methodLink "VolumeTurner" 125 y_Tb_leastLength), (.methodLink "VolumeTurner" 129 y_Tp_isLabel), (.classLink "VolumeTurner" 133 "java/lang/IllegalArgumentException"), (.instantiable "java/lang/IllegalArgumentException" 6), (.methodLink "VolumeTurner" 137 ⟨"java/lang/IllegalArgumentException", "<init>", "(Ljava/lang/String;)V"⟩), (.methodLink "VolumeTurner" 143 y_Dk_zero), (.methodLink "VolumeTurner" 146 y_Tb_writeFirstSectors), (.methodLink "VolumeTurner" 150 y_Tb_read), (.methodLink "VolumeTurner" 154 y_Tb_startTables), (.methodLink "VolumeTurner" 157 y_Ed_writeLabel), (.instanceMethod y_Vt_items), (.selects "VolumeTurner" y_Vt_items y_Vt_items), (.code y_Vt_items prog_1_method_10_code 1 (some .int)), (.methodLink "VolumeTurner" 184 y_Vt_readsInodes), (.instanceMethod y_Vt_readsInodes), (.code y_Vt_readsInodes prog_1_method_28_code 2 (some .boolean)), (.classLink "VolumeTurner" 310 "java/lang/IllegalStateException"), (.instantiable "java/lang/IllegalStateException" 6), (.methodLink "VolumeTurner" 314 ⟨"java/lang/IllegalStateException", "<init>", "(Ljava/lang/String;)V"⟩), (.methodLink "VolumeTurner" 187 y_In_countIn), (.methodLink "VolumeTurner" 190 y_Tr_countIn), (.instanceMethod y_Vt_letter), (.selects "VolumeTurner" y_Vt_letter y_Vt_letter), (.code y_Vt_letter prog_1_method_11_code 3 (some .int)), (.methodLink "VolumeTurner" 191 y_Vt_entryHere), (.instanceMethod y_Vt_entryHere), (.code y_Vt_entryHere prog_1_method_31_code 2 (some .int)), (.classLink "VolumeTurner" 337 "java/lang/IndexOutOfBoundsException"), (.instantiable "java/lang/IndexOutOfBoundsException" 6), (.methodLink "VolumeTurner" 341 ⟨"java/lang/IndexOutOfBoundsException", "<init>", "(Ljava/lang/String;)V"⟩), (.methodLink "VolumeTurner" 345 y_In_findEntry), (.methodLink "VolumeTurner" 194 y_In_nameByte), (.methodLink "VolumeTurner" 197 y_Vt_itemHere), (.instanceMethod y_Vt_itemHere), (.code y_Vt_itemHere prog_1_method_30_code 2 (some .int)), (.methodLink "VolumeTurner" 342 y_Tr_kid), (.methodLink "VolumeTurner" 200 y_Tr_nameByte), (.instanceMethod y_Vt_about), (.selects "VolumeTurner" y_Vt_about y_Vt_about), (.code y_Vt_about prog_1_method_12_code 5 (some .long)), (.methodLink "VolumeTurner" 203 y_In_tell), (.methodLink "VolumeTurner" 207 y_Vt_tellItem), (.instanceMethod y_Vt_tellItem), (.code y_Vt_tellItem prog_1_method_34_code 3 (some .long)), (.methodLink "VolumeTurner" 213 y_Tr_isDirectory), (.methodLink "VolumeTurner" 355 y_Tr_isReadOnly), (.methodLink "VolumeTurner" 216 y_Tr_sizeOf), (.methodLink "VolumeTurner" 283 y_Tr_spotOf), (.methodLink "VolumeTurner" 358 y_Da_seconds), (.constantLong "VolumeTurner" 362 (4294967295 : Int64)), (.instanceMethod y_Vt_content), (.selects "VolumeTurner" y_Vt_content y_Vt_content), (.code y_Vt_content prog_1_method_13_code 4 (some .int)), (.methodLink "VolumeTurner" 210 y_In_fileByte), (.methodLink "VolumeTurner" 219 y_Ed_placeOf), (.instanceMethod y_Vt_enter), (.selects "VolumeTurner" y_Vt_enter y_Vt_enter), (.code y_Vt_enter prog_1_method_14_code 4 (some .int)), (.methodLink "VolumeTurner" 222 y_In_isDirectory), (.methodLink "VolumeTurner" 225 y_In_inodeOf), (.instanceMethod y_Vt_up), (.selects "VolumeTurner" y_Vt_up y_Vt_up), (.code y_Vt_up prog_1_method_15_code 2 (some .boolean)), (.methodLink "VolumeTurner" 228 y_In_parentOf), (.methodLink "VolumeTurner" 231 y_Tr_parentOf), (.instanceMethod y_Vt_make), (.selects "VolumeTurner" y_Vt_make y_Vt_make), (.code y_Vt_make prog_1_method_16_code 3 (some .int)), (.methodLink "VolumeTurner" 232 y_Vt_wantSoundTable), (.instanceMethod y_Vt_wantSoundTable), (.code y_Vt_wantSoundTable prog_1_method_29_code 2 none), (.methodLink "VolumeTurner" 235 y_Ed_readName), (.methodLink "VolumeTurner" 239 y_Ed_clashes), (.methodLink "VolumeTurner" 244 y_Ed_findSlots), (.classLink "VolumeTurner" 248 "java/lang/UnsupportedOperationException"), (.instantiable "java/lang/UnsupportedOperationException" 6), (.methodLink "VolumeTurner" 252 ⟨"java/lang/UnsupportedOperationException", "<init>", "(Ljava/lang/String;)V"⟩), (.methodLink "VolumeTurner" 253 y_Ed_addItem), (.instanceMethod y_Vt_write), (.selects "VolumeTurner" y_Vt_write y_Vt_write), (.code y_Vt_write prog_1_method_17_code 7 (some .int)), (.methodLink "VolumeTurner" 257 y_Vt_fileHere), (.instanceMethod y_Vt_fileHere), (.code y_Vt_fileHere prog_1_method_32_code 3 (some .int)), (.methodLink "VolumeTurner" 260 y_Vt_lengthen), (.instanceMethod y_Vt_lengthen), (.code y_Vt_lengthen prog_1_method_33_code 4 (some .int)), (.methodLink "VolumeTurner" 350 y_Ed_canHold), (.methodLink "VolumeTurner" 353 y_Ed_lengthen), (.methodLink "VolumeTurner" 263 y_Ed_placeOnRoad), (.methodLink "VolumeTurner" 266 y_Ed_placeBehind), (.methodLink "VolumeTurner" 269 y_Tp_one), (.instanceMethod y_Vt_grow), (.selects "VolumeTurner" y_Vt_grow y_Vt_grow), (.code y_Vt_grow prog_1_method_18_code 8 (some .int)), (.constant "VolumeTurner" 270 (400000 : Int32)), (.instanceMethod y_Vt_cut), (.selects "VolumeTurner" y_Vt_cut y_Vt_cut), (.code y_Vt_cut prog_1_method_19_code 4 (some .int)), (.methodLink "VolumeTurner" 275 y_Ed_shorten), (.instanceMethod y_Vt_remove), (.selects "VolumeTurner" y_Vt_remove y_Vt_remove), (.code y_Vt_remove prog_1_method_20_code 3 none), (.methodLink "VolumeTurner" 280 y_Ed_dropItem), (.instanceMethod y_Vt_stamp), (.selects "VolumeTurner" y_Vt_stamp y_Vt_stamp), (.code y_Vt_stamp prog_1_method_21_code 7 none), (.methodLink "VolumeTurner" 286 y_Da_wouldFit), (.methodLink "VolumeTurner" 294 y_Ed_putStamp), (.instanceMethod y_Vt_run), (.selects "VolumeTurner" y_Vt_run y_Vt_run), (.code y_Vt_run prog_1_method_25_code 7 (some .int)), (.methodLink "VolumeTurner" 317 y_In_groupSize), (.methodLink "VolumeTurner" 320 y_Dk_supply), (.methodLink "VolumeTurner" 323 y_Tu_turn), (.selects "VolumeTurner" y_Vt_changed y_Vt_changed), (.selects "VolumeTurner" y_Vt_look y_Vt_look), (.selects "VolumeTurner" y_Vt_readsInodes y_Vt_readsInodes), (.selects "VolumeTurner" y_Vt_wantSoundTable y_Vt_wantSoundTable), (.selects "VolumeTurner" y_Vt_itemHere y_Vt_itemHere), (.selects "VolumeTurner" y_Vt_entryHere y_Vt_entryHere), (.selects "VolumeTurner" y_Vt_fileHere y_Vt_fileHere), (.selects "VolumeTurner" y_Vt_lengthen y_Vt_lengthen), (.selects "VolumeTurner" y_Vt_tellItem y_Vt_tellItem)]
theorem j_Vt_0 : (.initialized "VolumeTurner") ∈ K_Vt := List.mem_of_getElem? (i := 0) rfl
theorem j_Vt_1 : (.initialized "java/lang/IllegalArgumentException") ∈ K_Vt := List.mem_of_getElem? (i := 1) rfl
theorem j_Vt_2 : (.initialized "java/lang/IndexOutOfBoundsException") ∈ K_Vt := List.mem_of_getElem? (i := 2) rfl
theorem j_Vt_3 : (.initialized "java/lang/IllegalStateException") ∈ K_Vt := List.mem_of_getElem? (i := 3) rfl
theorem j_Vt_4 : (.initialized "java/lang/UnsupportedOperationException") ∈ K_Vt := List.mem_of_getElem? (i := 4) rfl
theorem j_Vt_5 : (.instantiable "VolumeTurner" 16) ∈ K_Vt := List.mem_of_getElem? (i := 5) rfl
theorem j_Vt_6 : (.instanceMethod y_Vt_init) ∈ K_Vt := List.mem_of_getElem? (i := 6) rfl
theorem j_Vt_7 : (.code y_Vt_init prog_1_method_1_code 3 none) ∈ K_Vt := List.mem_of_getElem? (i := 7) rfl
theorem j_Vt_8 : (.methodLink "VolumeTurner" 1 objectInit) ∈ K_Vt := List.mem_of_getElem? (i := 8) rfl
theorem j_Vt_9 : (.methodLink "VolumeTurner" 33 ⟨"java/lang/Math", "max", "(II)I"⟩) ∈ K_Vt := List.mem_of_getElem? (i := 9) rfl
theorem j_Vt_10 : (.methodLink "VolumeTurner" 39 ⟨"java/lang/Math", "min", "(II)I"⟩) ∈ K_Vt := List.mem_of_getElem? (i := 10) rfl
theorem j_Vt_11 : (.classLink "VolumeTurner" 42 "VolumeTurner$Disk") ∈ K_Vt := List.mem_of_getElem? (i := 11) rfl
theorem j_Vt_12 : (.methodLink "VolumeTurner" 44 y_Dk_init) ∈ K_Vt := List.mem_of_getElem? (i := 12) rfl
theorem j_Vt_13 : (.fieldLink "VolumeTurner" 140 "VolumeTurner$Disk" "sectors" "I") ∈ K_Vt := List.mem_of_getElem? (i := 13) rfl
theorem j_Vt_14 : (.classLink "VolumeTurner" 51 "VolumeTurner$Tape") ∈ K_Vt := List.mem_of_getElem? (i := 14) rfl
theorem j_Vt_15 : (.classLink "VolumeTurner" 58 "VolumeTurner$Table") ∈ K_Vt := List.mem_of_getElem? (i := 15) rfl
theorem j_Vt_16 : (.methodLink "VolumeTurner" 60 y_Tb_init) ∈ K_Vt := List.mem_of_getElem? (i := 16) rfl
theorem j_Vt_17 : (.fieldLink "VolumeTurner" 164 "VolumeTurner$Table" "clusters" "I") ∈ K_Vt := List.mem_of_getElem? (i := 17) rfl
theorem j_Vt_18 : (.classLink "VolumeTurner" 67 "VolumeTurner$Tree") ∈ K_Vt := List.mem_of_getElem? (i := 18) rfl
theorem j_Vt_19 : (.classLink "VolumeTurner" 74 "VolumeTurner$Reader") ∈ K_Vt := List.mem_of_getElem? (i := 19) rfl
theorem j_Vt_20 : (.methodLink "VolumeTurner" 76 y_Rd_init) ∈ K_Vt := List.mem_of_getElem? (i := 20) rfl
theorem j_Vt_21 : (.classLink "VolumeTurner" 83 "VolumeTurner$Editor") ∈ K_Vt := List.mem_of_getElem? (i := 21) rfl
theorem j_Vt_22 : (.methodLink "VolumeTurner" 85 y_Ed_init) ∈ K_Vt := List.mem_of_getElem? (i := 22) rfl
theorem j_Vt_23 : (.classLink "VolumeTurner" 90 "VolumeTurner$Plan") ∈ K_Vt := List.mem_of_getElem? (i := 23) rfl
theorem j_Vt_24 : (.methodLink "VolumeTurner" 92 y_Pl_init) ∈ K_Vt := List.mem_of_getElem? (i := 24) rfl
theorem j_Vt_25 : (.classLink "VolumeTurner" 97 "VolumeTurner$Inodes") ∈ K_Vt := List.mem_of_getElem? (i := 25) rfl
theorem j_Vt_26 : (.methodLink "VolumeTurner" 99 y_In_init) ∈ K_Vt := List.mem_of_getElem? (i := 26) rfl
theorem j_Vt_27 : (.classLink "VolumeTurner" 104 "VolumeTurner$Turner") ∈ K_Vt := List.mem_of_getElem? (i := 27) rfl
theorem j_Vt_28 : (.methodLink "VolumeTurner" 106 y_Tu_init) ∈ K_Vt := List.mem_of_getElem? (i := 28) rfl
theorem j_Vt_29 : (.fieldLink "VolumeTurner" 47 "VolumeTurner" "disk" "LVolumeTurner$Disk;") ∈ K_Vt := List.mem_of_getElem? (i := 29) rfl
theorem j_Vt_30 : (.fieldLink "VolumeTurner" 54 "VolumeTurner" "tape" "LVolumeTurner$Tape;") ∈ K_Vt := List.mem_of_getElem? (i := 30) rfl
theorem j_Vt_31 : (.fieldLink "VolumeTurner" 63 "VolumeTurner" "table" "LVolumeTurner$Table;") ∈ K_Vt := List.mem_of_getElem? (i := 31) rfl
theorem j_Vt_32 : (.fieldLink "VolumeTurner" 70 "VolumeTurner" "tree" "LVolumeTurner$Tree;") ∈ K_Vt := List.mem_of_getElem? (i := 32) rfl
theorem j_Vt_33 : (.fieldLink "VolumeTurner" 79 "VolumeTurner" "reader" "LVolumeTurner$Reader;") ∈ K_Vt := List.mem_of_getElem? (i := 33) rfl
theorem j_Vt_34 : (.fieldLink "VolumeTurner" 86 "VolumeTurner" "editor" "LVolumeTurner$Editor;") ∈ K_Vt := List.mem_of_getElem? (i := 34) rfl
theorem j_Vt_35 : (.fieldLink "VolumeTurner" 93 "VolumeTurner" "planner" "LVolumeTurner$Plan;") ∈ K_Vt := List.mem_of_getElem? (i := 35) rfl
theorem j_Vt_36 : (.fieldLink "VolumeTurner" 109 "VolumeTurner" "turner" "LVolumeTurner$Turner;") ∈ K_Vt := List.mem_of_getElem? (i := 36) rfl
theorem j_Vt_37 : (.fieldLink "VolumeTurner" 100 "VolumeTurner" "inodes" "LVolumeTurner$Inodes;") ∈ K_Vt := List.mem_of_getElem? (i := 37) rfl
theorem j_Vt_38 : (.fieldLink "VolumeTurner" 9 "VolumeTurner" "failAsks" "[I") ∈ K_Vt := List.mem_of_getElem? (i := 38) rfl
theorem j_Vt_39 : (.fieldLink "VolumeTurner" 13 "VolumeTurner" "failWrites" "[I") ∈ K_Vt := List.mem_of_getElem? (i := 39) rfl
theorem j_Vt_40 : (.fieldLink "VolumeTurner" 16 "VolumeTurner" "fails" "I") ∈ K_Vt := List.mem_of_getElem? (i := 40) rfl
theorem j_Vt_41 : (.fieldLink "VolumeTurner" 20 "VolumeTurner" "here" "I") ∈ K_Vt := List.mem_of_getElem? (i := 41) rfl
theorem j_Vt_42 : (.fieldLink "VolumeTurner" 23 "VolumeTurner" "stale" "Z") ∈ K_Vt := List.mem_of_getElem? (i := 42) rfl
theorem j_Vt_43 : (.fieldLink "VolumeTurner" 27 "VolumeTurner" "lastFault" "I") ∈ K_Vt := List.mem_of_getElem? (i := 43) rfl
theorem j_Vt_44 : (.fieldLink "VolumeTurner" 30 "VolumeTurner" "hasRun" "Z") ∈ K_Vt := List.mem_of_getElem? (i := 44) rfl
theorem j_Vt_45 : (.instanceMethod y_Vt_feed) ∈ K_Vt := List.mem_of_getElem? (i := 45) rfl
theorem j_Vt_46 : (.selects "VolumeTurner" y_Vt_feed y_Vt_feed) ∈ K_Vt := List.mem_of_getElem? (i := 46) rfl
theorem j_Vt_47 : (.code y_Vt_feed prog_1_method_2_code 6 none) ∈ K_Vt := List.mem_of_getElem? (i := 47) rfl
theorem j_Vt_48 : (.methodLink "VolumeTurner" 113 y_Tp_prepare) ∈ K_Vt := List.mem_of_getElem? (i := 48) rfl
theorem j_Vt_49 : (.instanceMethod y_Vt_end) ∈ K_Vt := List.mem_of_getElem? (i := 49) rfl
theorem j_Vt_50 : (.selects "VolumeTurner" y_Vt_end y_Vt_end) ∈ K_Vt := List.mem_of_getElem? (i := 50) rfl
theorem j_Vt_51 : (.code y_Vt_end prog_1_method_3_code 2 (some .int)) ∈ K_Vt := List.mem_of_getElem? (i := 51) rfl
theorem j_Vt_52 : (.methodLink "VolumeTurner" 117 y_Tp_append) ∈ K_Vt := List.mem_of_getElem? (i := 52) rfl
theorem j_Vt_53 : (.instanceMethod y_Vt_clear) ∈ K_Vt := List.mem_of_getElem? (i := 53) rfl
theorem j_Vt_54 : (.selects "VolumeTurner" y_Vt_clear y_Vt_clear) ∈ K_Vt := List.mem_of_getElem? (i := 54) rfl
theorem j_Vt_55 : (.code y_Vt_clear prog_1_method_4_code 1 none) ∈ K_Vt := List.mem_of_getElem? (i := 55) rfl
theorem j_Vt_56 : (.methodLink "VolumeTurner" 121 y_Tp_useUp) ∈ K_Vt := List.mem_of_getElem? (i := 56) rfl
theorem j_Vt_57 : (.instanceMethod y_Vt_poke) ∈ K_Vt := List.mem_of_getElem? (i := 57) rfl
theorem j_Vt_58 : (.selects "VolumeTurner" y_Vt_poke y_Vt_poke) ∈ K_Vt := List.mem_of_getElem? (i := 58) rfl
theorem j_Vt_59 : (.code y_Vt_poke prog_1_method_6_code 4 (some .boolean)) ∈ K_Vt := List.mem_of_getElem? (i := 59) rfl
theorem j_Vt_60 : (.methodLink "VolumeTurner" 167 y_Dk_has) ∈ K_Vt := List.mem_of_getElem? (i := 60) rfl
theorem j_Vt_61 : (.methodLink "VolumeTurner" 171 y_Dk_putOne) ∈ K_Vt := List.mem_of_getElem? (i := 61) rfl
theorem j_Vt_62 : (.methodLink "VolumeTurner" 161 y_Vt_changed) ∈ K_Vt := List.mem_of_getElem? (i := 62) rfl
theorem j_Vt_63 : (.instanceMethod y_Vt_changed) ∈ K_Vt := List.mem_of_getElem? (i := 63) rfl
theorem j_Vt_64 : (.code y_Vt_changed prog_1_method_26_code 1 none) ∈ K_Vt := List.mem_of_getElem? (i := 64) rfl
theorem j_Vt_65 : (.instanceMethod y_Vt_kind) ∈ K_Vt := List.mem_of_getElem? (i := 65) rfl
theorem j_Vt_66 : (.selects "VolumeTurner" y_Vt_kind y_Vt_kind) ∈ K_Vt := List.mem_of_getElem? (i := 66) rfl
theorem j_Vt_67 : (.code y_Vt_kind prog_1_method_7_code 1 (some .int)) ∈ K_Vt := List.mem_of_getElem? (i := 67) rfl
theorem j_Vt_68 : (.methodLink "VolumeTurner" 174 y_Vt_look) ∈ K_Vt := List.mem_of_getElem? (i := 68) rfl
theorem j_Vt_69 : (.instanceMethod y_Vt_look) ∈ K_Vt := List.mem_of_getElem? (i := 69) rfl
theorem j_Vt_70 : (.code y_Vt_look prog_1_method_27_code 1 (some .int)) ∈ K_Vt := List.mem_of_getElem? (i := 70) rfl
theorem j_Vt_71 : (.methodLink "VolumeTurner" 326 y_In_isThere) ∈ K_Vt := List.mem_of_getElem? (i := 71) rfl
theorem j_Vt_72 : (.methodLink "VolumeTurner" 329 y_Rd_scan) ∈ K_Vt := List.mem_of_getElem? (i := 72) rfl
theorem j_Vt_73 : (.instanceMethod y_Vt_fault) ∈ K_Vt := List.mem_of_getElem? (i := 73) rfl
theorem j_Vt_74 : (.selects "VolumeTurner" y_Vt_fault y_Vt_fault) ∈ K_Vt := List.mem_of_getElem? (i := 74) rfl
theorem j_Vt_75 : (.code y_Vt_fault prog_1_method_8_code 1 (some .int)) ∈ K_Vt := List.mem_of_getElem? (i := 75) rfl
theorem j_Vt_76 : (.instanceMethod y_Vt_byteAt) ∈ K_Vt := List.mem_of_getElem? (i := 76) rfl
theorem j_Vt_77 : (.selects "VolumeTurner" y_Vt_byteAt y_Vt_byteAt) ∈ K_Vt := List.mem_of_getElem? (i := 77) rfl
theorem j_Vt_78 : (.code y_Vt_byteAt prog_1_method_9_code 5 (some .int)) ∈ K_Vt := List.mem_of_getElem? (i := 78) rfl
theorem j_Vt_79 : (.methodLink "VolumeTurner" 177 y_Tb_shows) ∈ K_Vt := List.mem_of_getElem? (i := 79) rfl
theorem j_Vt_80 : (.methodLink "VolumeTurner" 180 y_In_shows) ∈ K_Vt := List.mem_of_getElem? (i := 80) rfl
theorem j_Vt_81 : (.methodLink "VolumeTurner" 181 y_Dk_one) ∈ K_Vt := List.mem_of_getElem? (i := 81) rfl
theorem j_Vt_82 : (.instanceMethod y_Vt_plan) ∈ K_Vt := List.mem_of_getElem? (i := 82) rfl
theorem j_Vt_83 : (.selects "VolumeTurner" y_Vt_plan y_Vt_plan) ∈ K_Vt := List.mem_of_getElem? (i := 83) rfl
theorem j_Vt_84 : (.code y_Vt_plan prog_1_method_22_code 4 (some .int)) ∈ K_Vt := List.mem_of_getElem? (i := 84) rfl
theorem j_Vt_85 : (.methodLink "VolumeTurner" 298 y_Pl_refusal) ∈ K_Vt := List.mem_of_getElem? (i := 85) rfl
theorem j_Vt_86 : (.methodLink "VolumeTurner" 301 y_Pl_number) ∈ K_Vt := List.mem_of_getElem? (i := 86) rfl
theorem j_Vt_87 : (.instanceMethod y_Vt_target) ∈ K_Vt := List.mem_of_getElem? (i := 87) rfl
theorem j_Vt_88 : (.selects "VolumeTurner" y_Vt_target y_Vt_target) ∈ K_Vt := List.mem_of_getElem? (i := 88) rfl
theorem j_Vt_89 : (.code y_Vt_target prog_1_method_23_code 3 (some .int)) ∈ K_Vt := List.mem_of_getElem? (i := 89) rfl
theorem j_Vt_90 : (.methodLink "VolumeTurner" 304 y_Tb_hasCluster) ∈ K_Vt := List.mem_of_getElem? (i := 90) rfl
theorem j_Vt_91 : (.methodLink "VolumeTurner" 307 y_Tb_goalOf) ∈ K_Vt := List.mem_of_getElem? (i := 91) rfl
theorem j_Vt_92 : (.instanceMethod y_Vt_fail) ∈ K_Vt := List.mem_of_getElem? (i := 92) rfl
theorem j_Vt_93 : (.selects "VolumeTurner" y_Vt_fail y_Vt_fail) ∈ K_Vt := List.mem_of_getElem? (i := 93) rfl
theorem j_Vt_94 : (.code y_Vt_fail prog_1_method_24_code 3 (some .boolean)) ∈ K_Vt := List.mem_of_getElem? (i := 94) rfl
theorem j_Vt_95 : (.instanceMethod y_Vt_format) ∈ K_Vt := List.mem_of_getElem? (i := 95) rfl
theorem j_Vt_96 : (.selects "VolumeTurner" y_Vt_format y_Vt_format) ∈ K_Vt := List.mem_of_getElem? (i := 96) rfl
theorem j_Vt_97 : (.code y_Vt_format prog_1_method_5_code 7 (some .int)) ∈ K_Vt := List.mem_of_getElem? (i := 97) rfl
theorem j_Vt_98 : (.methodLink "VolumeTurner" 125 y_Tb_leastLength) ∈ K_Vt := List.mem_of_getElem? (i := 98) rfl
theorem j_Vt_99 : (.methodLink "VolumeTurner" 129 y_Tp_isLabel) ∈ K_Vt := List.mem_of_getElem? (i := 99) rfl
theorem j_Vt_100 : (.classLink "VolumeTurner" 133 "java/lang/IllegalArgumentException") ∈ K_Vt := List.mem_of_getElem? (i := 100) rfl
theorem j_Vt_101 : (.instantiable "java/lang/IllegalArgumentException" 6) ∈ K_Vt := List.mem_of_getElem? (i := 101) rfl
theorem j_Vt_103 : (.methodLink "VolumeTurner" 143 y_Dk_zero) ∈ K_Vt := List.mem_of_getElem? (i := 103) rfl
theorem j_Vt_104 : (.methodLink "VolumeTurner" 146 y_Tb_writeFirstSectors) ∈ K_Vt := List.mem_of_getElem? (i := 104) rfl
theorem j_Vt_105 : (.methodLink "VolumeTurner" 150 y_Tb_read) ∈ K_Vt := List.mem_of_getElem? (i := 105) rfl
theorem j_Vt_106 : (.methodLink "VolumeTurner" 154 y_Tb_startTables) ∈ K_Vt := List.mem_of_getElem? (i := 106) rfl
theorem j_Vt_107 : (.methodLink "VolumeTurner" 157 y_Ed_writeLabel) ∈ K_Vt := List.mem_of_getElem? (i := 107) rfl
theorem j_Vt_108 : (.instanceMethod y_Vt_items) ∈ K_Vt := List.mem_of_getElem? (i := 108) rfl
theorem j_Vt_109 : (.selects "VolumeTurner" y_Vt_items y_Vt_items) ∈ K_Vt := List.mem_of_getElem? (i := 109) rfl
theorem j_Vt_110 : (.code y_Vt_items prog_1_method_10_code 1 (some .int)) ∈ K_Vt := List.mem_of_getElem? (i := 110) rfl
theorem j_Vt_111 : (.methodLink "VolumeTurner" 184 y_Vt_readsInodes) ∈ K_Vt := List.mem_of_getElem? (i := 111) rfl
theorem j_Vt_112 : (.instanceMethod y_Vt_readsInodes) ∈ K_Vt := List.mem_of_getElem? (i := 112) rfl
theorem j_Vt_113 : (.code y_Vt_readsInodes prog_1_method_28_code 2 (some .boolean)) ∈ K_Vt := List.mem_of_getElem? (i := 113) rfl
theorem j_Vt_114 : (.classLink "VolumeTurner" 310 "java/lang/IllegalStateException") ∈ K_Vt := List.mem_of_getElem? (i := 114) rfl
theorem j_Vt_115 : (.instantiable "java/lang/IllegalStateException" 6) ∈ K_Vt := List.mem_of_getElem? (i := 115) rfl
theorem j_Vt_117 : (.methodLink "VolumeTurner" 187 y_In_countIn) ∈ K_Vt := List.mem_of_getElem? (i := 117) rfl
theorem j_Vt_118 : (.methodLink "VolumeTurner" 190 y_Tr_countIn) ∈ K_Vt := List.mem_of_getElem? (i := 118) rfl
theorem j_Vt_119 : (.instanceMethod y_Vt_letter) ∈ K_Vt := List.mem_of_getElem? (i := 119) rfl
theorem j_Vt_120 : (.selects "VolumeTurner" y_Vt_letter y_Vt_letter) ∈ K_Vt := List.mem_of_getElem? (i := 120) rfl
theorem j_Vt_121 : (.code y_Vt_letter prog_1_method_11_code 3 (some .int)) ∈ K_Vt := List.mem_of_getElem? (i := 121) rfl
theorem j_Vt_122 : (.methodLink "VolumeTurner" 191 y_Vt_entryHere) ∈ K_Vt := List.mem_of_getElem? (i := 122) rfl
theorem j_Vt_123 : (.instanceMethod y_Vt_entryHere) ∈ K_Vt := List.mem_of_getElem? (i := 123) rfl
theorem j_Vt_124 : (.code y_Vt_entryHere prog_1_method_31_code 2 (some .int)) ∈ K_Vt := List.mem_of_getElem? (i := 124) rfl
theorem j_Vt_125 : (.classLink "VolumeTurner" 337 "java/lang/IndexOutOfBoundsException") ∈ K_Vt := List.mem_of_getElem? (i := 125) rfl
theorem j_Vt_126 : (.instantiable "java/lang/IndexOutOfBoundsException" 6) ∈ K_Vt := List.mem_of_getElem? (i := 126) rfl
theorem j_Vt_128 : (.methodLink "VolumeTurner" 345 y_In_findEntry) ∈ K_Vt := List.mem_of_getElem? (i := 128) rfl
theorem j_Vt_129 : (.methodLink "VolumeTurner" 194 y_In_nameByte) ∈ K_Vt := List.mem_of_getElem? (i := 129) rfl
theorem j_Vt_130 : (.methodLink "VolumeTurner" 197 y_Vt_itemHere) ∈ K_Vt := List.mem_of_getElem? (i := 130) rfl
theorem j_Vt_131 : (.instanceMethod y_Vt_itemHere) ∈ K_Vt := List.mem_of_getElem? (i := 131) rfl
theorem j_Vt_132 : (.code y_Vt_itemHere prog_1_method_30_code 2 (some .int)) ∈ K_Vt := List.mem_of_getElem? (i := 132) rfl
theorem j_Vt_133 : (.methodLink "VolumeTurner" 342 y_Tr_kid) ∈ K_Vt := List.mem_of_getElem? (i := 133) rfl
theorem j_Vt_134 : (.methodLink "VolumeTurner" 200 y_Tr_nameByte) ∈ K_Vt := List.mem_of_getElem? (i := 134) rfl
theorem j_Vt_135 : (.instanceMethod y_Vt_about) ∈ K_Vt := List.mem_of_getElem? (i := 135) rfl
theorem j_Vt_136 : (.selects "VolumeTurner" y_Vt_about y_Vt_about) ∈ K_Vt := List.mem_of_getElem? (i := 136) rfl
theorem j_Vt_137 : (.code y_Vt_about prog_1_method_12_code 5 (some .long)) ∈ K_Vt := List.mem_of_getElem? (i := 137) rfl
theorem j_Vt_138 : (.methodLink "VolumeTurner" 203 y_In_tell) ∈ K_Vt := List.mem_of_getElem? (i := 138) rfl
theorem j_Vt_139 : (.methodLink "VolumeTurner" 207 y_Vt_tellItem) ∈ K_Vt := List.mem_of_getElem? (i := 139) rfl
theorem j_Vt_140 : (.instanceMethod y_Vt_tellItem) ∈ K_Vt := List.mem_of_getElem? (i := 140) rfl
theorem j_Vt_141 : (.code y_Vt_tellItem prog_1_method_34_code 3 (some .long)) ∈ K_Vt := List.mem_of_getElem? (i := 141) rfl
theorem j_Vt_142 : (.methodLink "VolumeTurner" 213 y_Tr_isDirectory) ∈ K_Vt := List.mem_of_getElem? (i := 142) rfl
theorem j_Vt_143 : (.methodLink "VolumeTurner" 355 y_Tr_isReadOnly) ∈ K_Vt := List.mem_of_getElem? (i := 143) rfl
theorem j_Vt_144 : (.methodLink "VolumeTurner" 216 y_Tr_sizeOf) ∈ K_Vt := List.mem_of_getElem? (i := 144) rfl
theorem j_Vt_145 : (.methodLink "VolumeTurner" 283 y_Tr_spotOf) ∈ K_Vt := List.mem_of_getElem? (i := 145) rfl
theorem j_Vt_146 : (.methodLink "VolumeTurner" 358 y_Da_seconds) ∈ K_Vt := List.mem_of_getElem? (i := 146) rfl
theorem j_Vt_147 : (.constantLong "VolumeTurner" 362 (4294967295 : Int64)) ∈ K_Vt := List.mem_of_getElem? (i := 147) rfl
theorem j_Vt_148 : (.instanceMethod y_Vt_content) ∈ K_Vt := List.mem_of_getElem? (i := 148) rfl
theorem j_Vt_149 : (.selects "VolumeTurner" y_Vt_content y_Vt_content) ∈ K_Vt := List.mem_of_getElem? (i := 149) rfl
theorem j_Vt_150 : (.code y_Vt_content prog_1_method_13_code 4 (some .int)) ∈ K_Vt := List.mem_of_getElem? (i := 150) rfl
theorem j_Vt_151 : (.methodLink "VolumeTurner" 210 y_In_fileByte) ∈ K_Vt := List.mem_of_getElem? (i := 151) rfl
theorem j_Vt_152 : (.methodLink "VolumeTurner" 219 y_Ed_placeOf) ∈ K_Vt := List.mem_of_getElem? (i := 152) rfl
theorem j_Vt_153 : (.instanceMethod y_Vt_enter) ∈ K_Vt := List.mem_of_getElem? (i := 153) rfl
theorem j_Vt_154 : (.selects "VolumeTurner" y_Vt_enter y_Vt_enter) ∈ K_Vt := List.mem_of_getElem? (i := 154) rfl
theorem j_Vt_155 : (.code y_Vt_enter prog_1_method_14_code 4 (some .int)) ∈ K_Vt := List.mem_of_getElem? (i := 155) rfl
theorem j_Vt_156 : (.methodLink "VolumeTurner" 222 y_In_isDirectory) ∈ K_Vt := List.mem_of_getElem? (i := 156) rfl
theorem j_Vt_157 : (.methodLink "VolumeTurner" 225 y_In_inodeOf) ∈ K_Vt := List.mem_of_getElem? (i := 157) rfl
theorem j_Vt_158 : (.instanceMethod y_Vt_up) ∈ K_Vt := List.mem_of_getElem? (i := 158) rfl
theorem j_Vt_159 : (.selects "VolumeTurner" y_Vt_up y_Vt_up) ∈ K_Vt := List.mem_of_getElem? (i := 159) rfl
theorem j_Vt_160 : (.code y_Vt_up prog_1_method_15_code 2 (some .boolean)) ∈ K_Vt := List.mem_of_getElem? (i := 160) rfl
theorem j_Vt_161 : (.methodLink "VolumeTurner" 228 y_In_parentOf) ∈ K_Vt := List.mem_of_getElem? (i := 161) rfl
theorem j_Vt_162 : (.methodLink "VolumeTurner" 231 y_Tr_parentOf) ∈ K_Vt := List.mem_of_getElem? (i := 162) rfl
theorem j_Vt_163 : (.instanceMethod y_Vt_make) ∈ K_Vt := List.mem_of_getElem? (i := 163) rfl
theorem j_Vt_164 : (.selects "VolumeTurner" y_Vt_make y_Vt_make) ∈ K_Vt := List.mem_of_getElem? (i := 164) rfl
theorem j_Vt_165 : (.code y_Vt_make prog_1_method_16_code 3 (some .int)) ∈ K_Vt := List.mem_of_getElem? (i := 165) rfl
theorem j_Vt_166 : (.methodLink "VolumeTurner" 232 y_Vt_wantSoundTable) ∈ K_Vt := List.mem_of_getElem? (i := 166) rfl
theorem j_Vt_167 : (.instanceMethod y_Vt_wantSoundTable) ∈ K_Vt := List.mem_of_getElem? (i := 167) rfl
theorem j_Vt_168 : (.code y_Vt_wantSoundTable prog_1_method_29_code 2 none) ∈ K_Vt := List.mem_of_getElem? (i := 168) rfl
theorem j_Vt_169 : (.methodLink "VolumeTurner" 235 y_Ed_readName) ∈ K_Vt := List.mem_of_getElem? (i := 169) rfl
theorem j_Vt_170 : (.methodLink "VolumeTurner" 239 y_Ed_clashes) ∈ K_Vt := List.mem_of_getElem? (i := 170) rfl
theorem j_Vt_171 : (.methodLink "VolumeTurner" 244 y_Ed_findSlots) ∈ K_Vt := List.mem_of_getElem? (i := 171) rfl
theorem j_Vt_172 : (.classLink "VolumeTurner" 248 "java/lang/UnsupportedOperationException") ∈ K_Vt := List.mem_of_getElem? (i := 172) rfl
theorem j_Vt_173 : (.instantiable "java/lang/UnsupportedOperationException" 6) ∈ K_Vt := List.mem_of_getElem? (i := 173) rfl
theorem j_Vt_175 : (.methodLink "VolumeTurner" 253 y_Ed_addItem) ∈ K_Vt := List.mem_of_getElem? (i := 175) rfl
theorem j_Vt_176 : (.instanceMethod y_Vt_write) ∈ K_Vt := List.mem_of_getElem? (i := 176) rfl
theorem j_Vt_177 : (.selects "VolumeTurner" y_Vt_write y_Vt_write) ∈ K_Vt := List.mem_of_getElem? (i := 177) rfl
theorem j_Vt_178 : (.code y_Vt_write prog_1_method_17_code 7 (some .int)) ∈ K_Vt := List.mem_of_getElem? (i := 178) rfl
theorem j_Vt_179 : (.methodLink "VolumeTurner" 257 y_Vt_fileHere) ∈ K_Vt := List.mem_of_getElem? (i := 179) rfl
theorem j_Vt_180 : (.instanceMethod y_Vt_fileHere) ∈ K_Vt := List.mem_of_getElem? (i := 180) rfl
theorem j_Vt_181 : (.code y_Vt_fileHere prog_1_method_32_code 3 (some .int)) ∈ K_Vt := List.mem_of_getElem? (i := 181) rfl
theorem j_Vt_182 : (.methodLink "VolumeTurner" 260 y_Vt_lengthen) ∈ K_Vt := List.mem_of_getElem? (i := 182) rfl
theorem j_Vt_183 : (.instanceMethod y_Vt_lengthen) ∈ K_Vt := List.mem_of_getElem? (i := 183) rfl
theorem j_Vt_184 : (.code y_Vt_lengthen prog_1_method_33_code 4 (some .int)) ∈ K_Vt := List.mem_of_getElem? (i := 184) rfl
theorem j_Vt_185 : (.methodLink "VolumeTurner" 350 y_Ed_canHold) ∈ K_Vt := List.mem_of_getElem? (i := 185) rfl
theorem j_Vt_186 : (.methodLink "VolumeTurner" 353 y_Ed_lengthen) ∈ K_Vt := List.mem_of_getElem? (i := 186) rfl
theorem j_Vt_187 : (.methodLink "VolumeTurner" 263 y_Ed_placeOnRoad) ∈ K_Vt := List.mem_of_getElem? (i := 187) rfl
theorem j_Vt_188 : (.methodLink "VolumeTurner" 266 y_Ed_placeBehind) ∈ K_Vt := List.mem_of_getElem? (i := 188) rfl
theorem j_Vt_189 : (.methodLink "VolumeTurner" 269 y_Tp_one) ∈ K_Vt := List.mem_of_getElem? (i := 189) rfl
theorem j_Vt_190 : (.instanceMethod y_Vt_grow) ∈ K_Vt := List.mem_of_getElem? (i := 190) rfl
theorem j_Vt_191 : (.selects "VolumeTurner" y_Vt_grow y_Vt_grow) ∈ K_Vt := List.mem_of_getElem? (i := 191) rfl
theorem j_Vt_192 : (.code y_Vt_grow prog_1_method_18_code 8 (some .int)) ∈ K_Vt := List.mem_of_getElem? (i := 192) rfl
theorem j_Vt_193 : (.constant "VolumeTurner" 270 (400000 : Int32)) ∈ K_Vt := List.mem_of_getElem? (i := 193) rfl
theorem j_Vt_194 : (.instanceMethod y_Vt_cut) ∈ K_Vt := List.mem_of_getElem? (i := 194) rfl
theorem j_Vt_195 : (.selects "VolumeTurner" y_Vt_cut y_Vt_cut) ∈ K_Vt := List.mem_of_getElem? (i := 195) rfl
theorem j_Vt_196 : (.code y_Vt_cut prog_1_method_19_code 4 (some .int)) ∈ K_Vt := List.mem_of_getElem? (i := 196) rfl
theorem j_Vt_197 : (.methodLink "VolumeTurner" 275 y_Ed_shorten) ∈ K_Vt := List.mem_of_getElem? (i := 197) rfl
theorem j_Vt_198 : (.instanceMethod y_Vt_remove) ∈ K_Vt := List.mem_of_getElem? (i := 198) rfl
theorem j_Vt_199 : (.selects "VolumeTurner" y_Vt_remove y_Vt_remove) ∈ K_Vt := List.mem_of_getElem? (i := 199) rfl
theorem j_Vt_200 : (.code y_Vt_remove prog_1_method_20_code 3 none) ∈ K_Vt := List.mem_of_getElem? (i := 200) rfl
theorem j_Vt_201 : (.methodLink "VolumeTurner" 280 y_Ed_dropItem) ∈ K_Vt := List.mem_of_getElem? (i := 201) rfl
theorem j_Vt_202 : (.instanceMethod y_Vt_stamp) ∈ K_Vt := List.mem_of_getElem? (i := 202) rfl
theorem j_Vt_203 : (.selects "VolumeTurner" y_Vt_stamp y_Vt_stamp) ∈ K_Vt := List.mem_of_getElem? (i := 203) rfl
theorem j_Vt_204 : (.code y_Vt_stamp prog_1_method_21_code 7 none) ∈ K_Vt := List.mem_of_getElem? (i := 204) rfl
theorem j_Vt_205 : (.methodLink "VolumeTurner" 286 y_Da_wouldFit) ∈ K_Vt := List.mem_of_getElem? (i := 205) rfl
theorem j_Vt_206 : (.methodLink "VolumeTurner" 294 y_Ed_putStamp) ∈ K_Vt := List.mem_of_getElem? (i := 206) rfl
theorem j_Vt_207 : (.instanceMethod y_Vt_run) ∈ K_Vt := List.mem_of_getElem? (i := 207) rfl
theorem j_Vt_208 : (.selects "VolumeTurner" y_Vt_run y_Vt_run) ∈ K_Vt := List.mem_of_getElem? (i := 208) rfl
theorem j_Vt_209 : (.code y_Vt_run prog_1_method_25_code 7 (some .int)) ∈ K_Vt := List.mem_of_getElem? (i := 209) rfl
theorem j_Vt_210 : (.methodLink "VolumeTurner" 317 y_In_groupSize) ∈ K_Vt := List.mem_of_getElem? (i := 210) rfl
theorem j_Vt_211 : (.methodLink "VolumeTurner" 320 y_Dk_supply) ∈ K_Vt := List.mem_of_getElem? (i := 211) rfl
theorem j_Vt_212 : (.methodLink "VolumeTurner" 323 y_Tu_turn) ∈ K_Vt := List.mem_of_getElem? (i := 212) rfl
theorem j_Vt_213 : (.selects "VolumeTurner" y_Vt_changed y_Vt_changed) ∈ K_Vt := List.mem_of_getElem? (i := 213) rfl
theorem j_Vt_214 : (.selects "VolumeTurner" y_Vt_look y_Vt_look) ∈ K_Vt := List.mem_of_getElem? (i := 214) rfl
theorem j_Vt_215 : (.selects "VolumeTurner" y_Vt_readsInodes y_Vt_readsInodes) ∈ K_Vt := List.mem_of_getElem? (i := 215) rfl
theorem j_Vt_216 : (.selects "VolumeTurner" y_Vt_wantSoundTable y_Vt_wantSoundTable) ∈ K_Vt := List.mem_of_getElem? (i := 216) rfl
theorem j_Vt_217 : (.selects "VolumeTurner" y_Vt_itemHere y_Vt_itemHere) ∈ K_Vt := List.mem_of_getElem? (i := 217) rfl
theorem j_Vt_218 : (.selects "VolumeTurner" y_Vt_entryHere y_Vt_entryHere) ∈ K_Vt := List.mem_of_getElem? (i := 218) rfl
theorem j_Vt_219 : (.selects "VolumeTurner" y_Vt_fileHere y_Vt_fileHere) ∈ K_Vt := List.mem_of_getElem? (i := 219) rfl
theorem j_Vt_220 : (.selects "VolumeTurner" y_Vt_lengthen y_Vt_lengthen) ∈ K_Vt := List.mem_of_getElem? (i := 220) rfl
theorem j_Vt_221 : (.selects "VolumeTurner" y_Vt_tellItem y_Vt_tellItem) ∈ K_Vt := List.mem_of_getElem? (i := 221) rfl
def V_Vt : List Cond := w_Vt ++ (K_Vt ++ V_Tu)
theorem i_Vt : ∀ w ∈ w_Vt, w ∈ V_Vt := fun _ h => List.mem_append_left _ h
theorem kk_Vt : ∀ w ∈ K_Vt, w ∈ V_Vt := fun _ h => List.mem_append_right _ (List.mem_append_left _ h)
theorem u_Vt_Tu : ∀ w ∈ V_Tu, w ∈ V_Vt := fun _ h => List.mem_append_right _ (List.mem_append_right _ h)
theorem u_Vt_J : ∀ w ∈ V_J, w ∈ V_Vt := fun w h => u_Vt_Tu w (u_Tu_J w h)
theorem u_Vt_Dk : ∀ w ∈ V_Dk, w ∈ V_Vt := fun w h => u_Vt_Tu w (u_Tu_Dk w h)
theorem u_Vt_Wo : ∀ w ∈ V_Wo, w ∈ V_Vt := fun w h => u_Vt_Tu w (u_Tu_Wo w h)
theorem u_Vt_Da : ∀ w ∈ V_Da, w ∈ V_Vt := fun w h => u_Vt_Tu w (u_Tu_Da w h)
theorem u_Vt_Tp : ∀ w ∈ V_Tp, w ∈ V_Vt := fun w h => u_Vt_Tu w (u_Tu_Tp w h)
theorem u_Vt_Tb : ∀ w ∈ V_Tb, w ∈ V_Vt := fun w h => u_Vt_Tu w (u_Tu_Tb w h)
theorem u_Vt_Tr : ∀ w ∈ V_Tr, w ∈ V_Vt := fun w h => u_Vt_Tu w (u_Tu_Tr w h)
theorem u_Vt_In : ∀ w ∈ V_In, w ∈ V_Vt := fun w h => u_Vt_Tu w (u_Tu_In w h)
theorem u_Vt_Rd : ∀ w ∈ V_Rd, w ∈ V_Vt := fun w h => u_Vt_Tu w (u_Tu_Rd w h)
theorem u_Vt_Ed : ∀ w ∈ V_Ed, w ∈ V_Vt := fun w h => u_Vt_Tu w (u_Tu_Ed w h)
theorem u_Vt_Pl : ∀ w ∈ V_Pl, w ∈ V_Vt := fun w h => u_Vt_Tu w (u_Tu_Pl w h)
theorem k_Vt_0 : (.initialized "VolumeTurner") ∈ V_Vt := kk_Vt _ j_Vt_0
theorem k_Vt_1 : (.initialized "java/lang/IllegalArgumentException") ∈ V_Vt := kk_Vt _ j_Vt_1
theorem k_Vt_2 : (.initialized "java/lang/IndexOutOfBoundsException") ∈ V_Vt := kk_Vt _ j_Vt_2
theorem k_Vt_3 : (.initialized "java/lang/IllegalStateException") ∈ V_Vt := kk_Vt _ j_Vt_3
theorem k_Vt_4 : (.initialized "java/lang/UnsupportedOperationException") ∈ V_Vt := kk_Vt _ j_Vt_4
theorem k_Vt_5 : (.instantiable "VolumeTurner" 16) ∈ V_Vt := kk_Vt _ j_Vt_5
theorem k_Vt_6 : (.instanceMethod y_Vt_init) ∈ V_Vt := kk_Vt _ j_Vt_6
theorem k_Vt_7 : (.code y_Vt_init prog_1_method_1_code 3 none) ∈ V_Vt := kk_Vt _ j_Vt_7
theorem k_Vt_8 : (.methodLink "VolumeTurner" 1 objectInit) ∈ V_Vt := kk_Vt _ j_Vt_8
theorem k_Vt_9 : (.methodLink "VolumeTurner" 33 ⟨"java/lang/Math", "max", "(II)I"⟩) ∈ V_Vt := kk_Vt _ j_Vt_9
theorem k_Vt_10 : (.methodLink "VolumeTurner" 39 ⟨"java/lang/Math", "min", "(II)I"⟩) ∈ V_Vt := kk_Vt _ j_Vt_10
theorem k_Vt_11 : (.classLink "VolumeTurner" 42 "VolumeTurner$Disk") ∈ V_Vt := kk_Vt _ j_Vt_11
theorem k_Vt_12 : (.methodLink "VolumeTurner" 44 y_Dk_init) ∈ V_Vt := kk_Vt _ j_Vt_12
theorem k_Vt_13 : (.fieldLink "VolumeTurner" 140 "VolumeTurner$Disk" "sectors" "I") ∈ V_Vt := kk_Vt _ j_Vt_13
theorem k_Vt_14 : (.classLink "VolumeTurner" 51 "VolumeTurner$Tape") ∈ V_Vt := kk_Vt _ j_Vt_14
theorem k_Vt_15 : (.classLink "VolumeTurner" 58 "VolumeTurner$Table") ∈ V_Vt := kk_Vt _ j_Vt_15
theorem k_Vt_16 : (.methodLink "VolumeTurner" 60 y_Tb_init) ∈ V_Vt := kk_Vt _ j_Vt_16
theorem k_Vt_17 : (.fieldLink "VolumeTurner" 164 "VolumeTurner$Table" "clusters" "I") ∈ V_Vt := kk_Vt _ j_Vt_17
theorem k_Vt_18 : (.classLink "VolumeTurner" 67 "VolumeTurner$Tree") ∈ V_Vt := kk_Vt _ j_Vt_18
theorem k_Vt_19 : (.classLink "VolumeTurner" 74 "VolumeTurner$Reader") ∈ V_Vt := kk_Vt _ j_Vt_19
theorem k_Vt_20 : (.methodLink "VolumeTurner" 76 y_Rd_init) ∈ V_Vt := kk_Vt _ j_Vt_20
theorem k_Vt_21 : (.classLink "VolumeTurner" 83 "VolumeTurner$Editor") ∈ V_Vt := kk_Vt _ j_Vt_21
theorem k_Vt_22 : (.methodLink "VolumeTurner" 85 y_Ed_init) ∈ V_Vt := kk_Vt _ j_Vt_22
theorem k_Vt_23 : (.classLink "VolumeTurner" 90 "VolumeTurner$Plan") ∈ V_Vt := kk_Vt _ j_Vt_23
theorem k_Vt_24 : (.methodLink "VolumeTurner" 92 y_Pl_init) ∈ V_Vt := kk_Vt _ j_Vt_24
theorem k_Vt_25 : (.classLink "VolumeTurner" 97 "VolumeTurner$Inodes") ∈ V_Vt := kk_Vt _ j_Vt_25
theorem k_Vt_26 : (.methodLink "VolumeTurner" 99 y_In_init) ∈ V_Vt := kk_Vt _ j_Vt_26
theorem k_Vt_27 : (.classLink "VolumeTurner" 104 "VolumeTurner$Turner") ∈ V_Vt := kk_Vt _ j_Vt_27
theorem k_Vt_28 : (.methodLink "VolumeTurner" 106 y_Tu_init) ∈ V_Vt := kk_Vt _ j_Vt_28
theorem k_Vt_29 : (.fieldLink "VolumeTurner" 47 "VolumeTurner" "disk" "LVolumeTurner$Disk;") ∈ V_Vt := kk_Vt _ j_Vt_29
theorem k_Vt_30 : (.fieldLink "VolumeTurner" 54 "VolumeTurner" "tape" "LVolumeTurner$Tape;") ∈ V_Vt := kk_Vt _ j_Vt_30
theorem k_Vt_31 : (.fieldLink "VolumeTurner" 63 "VolumeTurner" "table" "LVolumeTurner$Table;") ∈ V_Vt := kk_Vt _ j_Vt_31
theorem k_Vt_32 : (.fieldLink "VolumeTurner" 70 "VolumeTurner" "tree" "LVolumeTurner$Tree;") ∈ V_Vt := kk_Vt _ j_Vt_32
theorem k_Vt_33 : (.fieldLink "VolumeTurner" 79 "VolumeTurner" "reader" "LVolumeTurner$Reader;") ∈ V_Vt := kk_Vt _ j_Vt_33
theorem k_Vt_34 : (.fieldLink "VolumeTurner" 86 "VolumeTurner" "editor" "LVolumeTurner$Editor;") ∈ V_Vt := kk_Vt _ j_Vt_34
theorem k_Vt_35 : (.fieldLink "VolumeTurner" 93 "VolumeTurner" "planner" "LVolumeTurner$Plan;") ∈ V_Vt := kk_Vt _ j_Vt_35
theorem k_Vt_36 : (.fieldLink "VolumeTurner" 109 "VolumeTurner" "turner" "LVolumeTurner$Turner;") ∈ V_Vt := kk_Vt _ j_Vt_36
theorem k_Vt_37 : (.fieldLink "VolumeTurner" 100 "VolumeTurner" "inodes" "LVolumeTurner$Inodes;") ∈ V_Vt := kk_Vt _ j_Vt_37
theorem k_Vt_38 : (.fieldLink "VolumeTurner" 9 "VolumeTurner" "failAsks" "[I") ∈ V_Vt := kk_Vt _ j_Vt_38
theorem k_Vt_39 : (.fieldLink "VolumeTurner" 13 "VolumeTurner" "failWrites" "[I") ∈ V_Vt := kk_Vt _ j_Vt_39
theorem k_Vt_40 : (.fieldLink "VolumeTurner" 16 "VolumeTurner" "fails" "I") ∈ V_Vt := kk_Vt _ j_Vt_40
theorem k_Vt_41 : (.fieldLink "VolumeTurner" 20 "VolumeTurner" "here" "I") ∈ V_Vt := kk_Vt _ j_Vt_41
theorem k_Vt_42 : (.fieldLink "VolumeTurner" 23 "VolumeTurner" "stale" "Z") ∈ V_Vt := kk_Vt _ j_Vt_42
theorem k_Vt_43 : (.fieldLink "VolumeTurner" 27 "VolumeTurner" "lastFault" "I") ∈ V_Vt := kk_Vt _ j_Vt_43
theorem k_Vt_44 : (.fieldLink "VolumeTurner" 30 "VolumeTurner" "hasRun" "Z") ∈ V_Vt := kk_Vt _ j_Vt_44
theorem k_Vt_45 : (.instanceMethod y_Vt_feed) ∈ V_Vt := kk_Vt _ j_Vt_45
theorem k_Vt_46 : (.selects "VolumeTurner" y_Vt_feed y_Vt_feed) ∈ V_Vt := kk_Vt _ j_Vt_46
theorem k_Vt_47 : (.code y_Vt_feed prog_1_method_2_code 6 none) ∈ V_Vt := kk_Vt _ j_Vt_47
theorem k_Vt_48 : (.methodLink "VolumeTurner" 113 y_Tp_prepare) ∈ V_Vt := kk_Vt _ j_Vt_48
theorem k_Vt_49 : (.instanceMethod y_Vt_end) ∈ V_Vt := kk_Vt _ j_Vt_49
theorem k_Vt_50 : (.selects "VolumeTurner" y_Vt_end y_Vt_end) ∈ V_Vt := kk_Vt _ j_Vt_50
theorem k_Vt_51 : (.code y_Vt_end prog_1_method_3_code 2 (some .int)) ∈ V_Vt := kk_Vt _ j_Vt_51
theorem k_Vt_52 : (.methodLink "VolumeTurner" 117 y_Tp_append) ∈ V_Vt := kk_Vt _ j_Vt_52
theorem k_Vt_53 : (.instanceMethod y_Vt_clear) ∈ V_Vt := kk_Vt _ j_Vt_53
theorem k_Vt_54 : (.selects "VolumeTurner" y_Vt_clear y_Vt_clear) ∈ V_Vt := kk_Vt _ j_Vt_54
theorem k_Vt_55 : (.code y_Vt_clear prog_1_method_4_code 1 none) ∈ V_Vt := kk_Vt _ j_Vt_55
theorem k_Vt_56 : (.methodLink "VolumeTurner" 121 y_Tp_useUp) ∈ V_Vt := kk_Vt _ j_Vt_56
theorem k_Vt_57 : (.instanceMethod y_Vt_poke) ∈ V_Vt := kk_Vt _ j_Vt_57
theorem k_Vt_58 : (.selects "VolumeTurner" y_Vt_poke y_Vt_poke) ∈ V_Vt := kk_Vt _ j_Vt_58
theorem k_Vt_59 : (.code y_Vt_poke prog_1_method_6_code 4 (some .boolean)) ∈ V_Vt := kk_Vt _ j_Vt_59
theorem k_Vt_60 : (.methodLink "VolumeTurner" 167 y_Dk_has) ∈ V_Vt := kk_Vt _ j_Vt_60
theorem k_Vt_61 : (.methodLink "VolumeTurner" 171 y_Dk_putOne) ∈ V_Vt := kk_Vt _ j_Vt_61
theorem k_Vt_62 : (.methodLink "VolumeTurner" 161 y_Vt_changed) ∈ V_Vt := kk_Vt _ j_Vt_62
theorem k_Vt_63 : (.instanceMethod y_Vt_changed) ∈ V_Vt := kk_Vt _ j_Vt_63
theorem k_Vt_64 : (.code y_Vt_changed prog_1_method_26_code 1 none) ∈ V_Vt := kk_Vt _ j_Vt_64
theorem k_Vt_65 : (.instanceMethod y_Vt_kind) ∈ V_Vt := kk_Vt _ j_Vt_65
theorem k_Vt_66 : (.selects "VolumeTurner" y_Vt_kind y_Vt_kind) ∈ V_Vt := kk_Vt _ j_Vt_66
theorem k_Vt_67 : (.code y_Vt_kind prog_1_method_7_code 1 (some .int)) ∈ V_Vt := kk_Vt _ j_Vt_67
theorem k_Vt_68 : (.methodLink "VolumeTurner" 174 y_Vt_look) ∈ V_Vt := kk_Vt _ j_Vt_68
theorem k_Vt_69 : (.instanceMethod y_Vt_look) ∈ V_Vt := kk_Vt _ j_Vt_69
theorem k_Vt_70 : (.code y_Vt_look prog_1_method_27_code 1 (some .int)) ∈ V_Vt := kk_Vt _ j_Vt_70
theorem k_Vt_71 : (.methodLink "VolumeTurner" 326 y_In_isThere) ∈ V_Vt := kk_Vt _ j_Vt_71
theorem k_Vt_72 : (.methodLink "VolumeTurner" 329 y_Rd_scan) ∈ V_Vt := kk_Vt _ j_Vt_72
theorem k_Vt_73 : (.instanceMethod y_Vt_fault) ∈ V_Vt := kk_Vt _ j_Vt_73
theorem k_Vt_74 : (.selects "VolumeTurner" y_Vt_fault y_Vt_fault) ∈ V_Vt := kk_Vt _ j_Vt_74
theorem k_Vt_75 : (.code y_Vt_fault prog_1_method_8_code 1 (some .int)) ∈ V_Vt := kk_Vt _ j_Vt_75
theorem k_Vt_76 : (.instanceMethod y_Vt_byteAt) ∈ V_Vt := kk_Vt _ j_Vt_76
theorem k_Vt_77 : (.selects "VolumeTurner" y_Vt_byteAt y_Vt_byteAt) ∈ V_Vt := kk_Vt _ j_Vt_77
theorem k_Vt_78 : (.code y_Vt_byteAt prog_1_method_9_code 5 (some .int)) ∈ V_Vt := kk_Vt _ j_Vt_78
theorem k_Vt_79 : (.methodLink "VolumeTurner" 177 y_Tb_shows) ∈ V_Vt := kk_Vt _ j_Vt_79
theorem k_Vt_80 : (.methodLink "VolumeTurner" 180 y_In_shows) ∈ V_Vt := kk_Vt _ j_Vt_80
theorem k_Vt_81 : (.methodLink "VolumeTurner" 181 y_Dk_one) ∈ V_Vt := kk_Vt _ j_Vt_81
theorem k_Vt_82 : (.instanceMethod y_Vt_plan) ∈ V_Vt := kk_Vt _ j_Vt_82
theorem k_Vt_83 : (.selects "VolumeTurner" y_Vt_plan y_Vt_plan) ∈ V_Vt := kk_Vt _ j_Vt_83
theorem k_Vt_84 : (.code y_Vt_plan prog_1_method_22_code 4 (some .int)) ∈ V_Vt := kk_Vt _ j_Vt_84
theorem k_Vt_85 : (.methodLink "VolumeTurner" 298 y_Pl_refusal) ∈ V_Vt := kk_Vt _ j_Vt_85
theorem k_Vt_86 : (.methodLink "VolumeTurner" 301 y_Pl_number) ∈ V_Vt := kk_Vt _ j_Vt_86
theorem k_Vt_87 : (.instanceMethod y_Vt_target) ∈ V_Vt := kk_Vt _ j_Vt_87
theorem k_Vt_88 : (.selects "VolumeTurner" y_Vt_target y_Vt_target) ∈ V_Vt := kk_Vt _ j_Vt_88
theorem k_Vt_89 : (.code y_Vt_target prog_1_method_23_code 3 (some .int)) ∈ V_Vt := kk_Vt _ j_Vt_89
theorem k_Vt_90 : (.methodLink "VolumeTurner" 304 y_Tb_hasCluster) ∈ V_Vt := kk_Vt _ j_Vt_90
theorem k_Vt_91 : (.methodLink "VolumeTurner" 307 y_Tb_goalOf) ∈ V_Vt := kk_Vt _ j_Vt_91
theorem k_Vt_92 : (.instanceMethod y_Vt_fail) ∈ V_Vt := kk_Vt _ j_Vt_92
theorem k_Vt_93 : (.selects "VolumeTurner" y_Vt_fail y_Vt_fail) ∈ V_Vt := kk_Vt _ j_Vt_93
theorem k_Vt_94 : (.code y_Vt_fail prog_1_method_24_code 3 (some .boolean)) ∈ V_Vt := kk_Vt _ j_Vt_94
theorem k_Vt_95 : (.instanceMethod y_Vt_format) ∈ V_Vt := kk_Vt _ j_Vt_95
theorem k_Vt_96 : (.selects "VolumeTurner" y_Vt_format y_Vt_format) ∈ V_Vt := kk_Vt _ j_Vt_96
theorem k_Vt_97 : (.code y_Vt_format prog_1_method_5_code 7 (some .int)) ∈ V_Vt := kk_Vt _ j_Vt_97
theorem k_Vt_98 : (.methodLink "VolumeTurner" 125 y_Tb_leastLength) ∈ V_Vt := kk_Vt _ j_Vt_98
theorem k_Vt_99 : (.methodLink "VolumeTurner" 129 y_Tp_isLabel) ∈ V_Vt := kk_Vt _ j_Vt_99
theorem k_Vt_100 : (.classLink "VolumeTurner" 133 "java/lang/IllegalArgumentException") ∈ V_Vt := kk_Vt _ j_Vt_100
theorem k_Vt_101 : (.instantiable "java/lang/IllegalArgumentException" 6) ∈ V_Vt := kk_Vt _ j_Vt_101
theorem k_Vt_103 : (.methodLink "VolumeTurner" 143 y_Dk_zero) ∈ V_Vt := kk_Vt _ j_Vt_103
theorem k_Vt_104 : (.methodLink "VolumeTurner" 146 y_Tb_writeFirstSectors) ∈ V_Vt := kk_Vt _ j_Vt_104
theorem k_Vt_105 : (.methodLink "VolumeTurner" 150 y_Tb_read) ∈ V_Vt := kk_Vt _ j_Vt_105
theorem k_Vt_106 : (.methodLink "VolumeTurner" 154 y_Tb_startTables) ∈ V_Vt := kk_Vt _ j_Vt_106
theorem k_Vt_107 : (.methodLink "VolumeTurner" 157 y_Ed_writeLabel) ∈ V_Vt := kk_Vt _ j_Vt_107
theorem k_Vt_108 : (.instanceMethod y_Vt_items) ∈ V_Vt := kk_Vt _ j_Vt_108
theorem k_Vt_109 : (.selects "VolumeTurner" y_Vt_items y_Vt_items) ∈ V_Vt := kk_Vt _ j_Vt_109
theorem k_Vt_110 : (.code y_Vt_items prog_1_method_10_code 1 (some .int)) ∈ V_Vt := kk_Vt _ j_Vt_110
theorem k_Vt_111 : (.methodLink "VolumeTurner" 184 y_Vt_readsInodes) ∈ V_Vt := kk_Vt _ j_Vt_111
theorem k_Vt_112 : (.instanceMethod y_Vt_readsInodes) ∈ V_Vt := kk_Vt _ j_Vt_112
theorem k_Vt_113 : (.code y_Vt_readsInodes prog_1_method_28_code 2 (some .boolean)) ∈ V_Vt := kk_Vt _ j_Vt_113
theorem k_Vt_114 : (.classLink "VolumeTurner" 310 "java/lang/IllegalStateException") ∈ V_Vt := kk_Vt _ j_Vt_114
theorem k_Vt_115 : (.instantiable "java/lang/IllegalStateException" 6) ∈ V_Vt := kk_Vt _ j_Vt_115
theorem k_Vt_117 : (.methodLink "VolumeTurner" 187 y_In_countIn) ∈ V_Vt := kk_Vt _ j_Vt_117
theorem k_Vt_118 : (.methodLink "VolumeTurner" 190 y_Tr_countIn) ∈ V_Vt := kk_Vt _ j_Vt_118
theorem k_Vt_119 : (.instanceMethod y_Vt_letter) ∈ V_Vt := kk_Vt _ j_Vt_119
theorem k_Vt_120 : (.selects "VolumeTurner" y_Vt_letter y_Vt_letter) ∈ V_Vt := kk_Vt _ j_Vt_120
theorem k_Vt_121 : (.code y_Vt_letter prog_1_method_11_code 3 (some .int)) ∈ V_Vt := kk_Vt _ j_Vt_121
theorem k_Vt_122 : (.methodLink "VolumeTurner" 191 y_Vt_entryHere) ∈ V_Vt := kk_Vt _ j_Vt_122
theorem k_Vt_123 : (.instanceMethod y_Vt_entryHere) ∈ V_Vt := kk_Vt _ j_Vt_123
theorem k_Vt_124 : (.code y_Vt_entryHere prog_1_method_31_code 2 (some .int)) ∈ V_Vt := kk_Vt _ j_Vt_124
theorem k_Vt_125 : (.classLink "VolumeTurner" 337 "java/lang/IndexOutOfBoundsException") ∈ V_Vt := kk_Vt _ j_Vt_125
theorem k_Vt_126 : (.instantiable "java/lang/IndexOutOfBoundsException" 6) ∈ V_Vt := kk_Vt _ j_Vt_126
theorem k_Vt_128 : (.methodLink "VolumeTurner" 345 y_In_findEntry) ∈ V_Vt := kk_Vt _ j_Vt_128
theorem k_Vt_129 : (.methodLink "VolumeTurner" 194 y_In_nameByte) ∈ V_Vt := kk_Vt _ j_Vt_129
theorem k_Vt_130 : (.methodLink "VolumeTurner" 197 y_Vt_itemHere) ∈ V_Vt := kk_Vt _ j_Vt_130
theorem k_Vt_131 : (.instanceMethod y_Vt_itemHere) ∈ V_Vt := kk_Vt _ j_Vt_131
theorem k_Vt_132 : (.code y_Vt_itemHere prog_1_method_30_code 2 (some .int)) ∈ V_Vt := kk_Vt _ j_Vt_132
theorem k_Vt_133 : (.methodLink "VolumeTurner" 342 y_Tr_kid) ∈ V_Vt := kk_Vt _ j_Vt_133
theorem k_Vt_134 : (.methodLink "VolumeTurner" 200 y_Tr_nameByte) ∈ V_Vt := kk_Vt _ j_Vt_134
theorem k_Vt_135 : (.instanceMethod y_Vt_about) ∈ V_Vt := kk_Vt _ j_Vt_135
theorem k_Vt_136 : (.selects "VolumeTurner" y_Vt_about y_Vt_about) ∈ V_Vt := kk_Vt _ j_Vt_136
theorem k_Vt_137 : (.code y_Vt_about prog_1_method_12_code 5 (some .long)) ∈ V_Vt := kk_Vt _ j_Vt_137
theorem k_Vt_138 : (.methodLink "VolumeTurner" 203 y_In_tell) ∈ V_Vt := kk_Vt _ j_Vt_138
theorem k_Vt_139 : (.methodLink "VolumeTurner" 207 y_Vt_tellItem) ∈ V_Vt := kk_Vt _ j_Vt_139
theorem k_Vt_140 : (.instanceMethod y_Vt_tellItem) ∈ V_Vt := kk_Vt _ j_Vt_140
theorem k_Vt_141 : (.code y_Vt_tellItem prog_1_method_34_code 3 (some .long)) ∈ V_Vt := kk_Vt _ j_Vt_141
theorem k_Vt_142 : (.methodLink "VolumeTurner" 213 y_Tr_isDirectory) ∈ V_Vt := kk_Vt _ j_Vt_142
theorem k_Vt_143 : (.methodLink "VolumeTurner" 355 y_Tr_isReadOnly) ∈ V_Vt := kk_Vt _ j_Vt_143
theorem k_Vt_144 : (.methodLink "VolumeTurner" 216 y_Tr_sizeOf) ∈ V_Vt := kk_Vt _ j_Vt_144
theorem k_Vt_145 : (.methodLink "VolumeTurner" 283 y_Tr_spotOf) ∈ V_Vt := kk_Vt _ j_Vt_145
theorem k_Vt_146 : (.methodLink "VolumeTurner" 358 y_Da_seconds) ∈ V_Vt := kk_Vt _ j_Vt_146
theorem k_Vt_147 : (.constantLong "VolumeTurner" 362 (4294967295 : Int64)) ∈ V_Vt := kk_Vt _ j_Vt_147
theorem k_Vt_148 : (.instanceMethod y_Vt_content) ∈ V_Vt := kk_Vt _ j_Vt_148
theorem k_Vt_149 : (.selects "VolumeTurner" y_Vt_content y_Vt_content) ∈ V_Vt := kk_Vt _ j_Vt_149
theorem k_Vt_150 : (.code y_Vt_content prog_1_method_13_code 4 (some .int)) ∈ V_Vt := kk_Vt _ j_Vt_150
theorem k_Vt_151 : (.methodLink "VolumeTurner" 210 y_In_fileByte) ∈ V_Vt := kk_Vt _ j_Vt_151
theorem k_Vt_152 : (.methodLink "VolumeTurner" 219 y_Ed_placeOf) ∈ V_Vt := kk_Vt _ j_Vt_152
theorem k_Vt_153 : (.instanceMethod y_Vt_enter) ∈ V_Vt := kk_Vt _ j_Vt_153
theorem k_Vt_154 : (.selects "VolumeTurner" y_Vt_enter y_Vt_enter) ∈ V_Vt := kk_Vt _ j_Vt_154
theorem k_Vt_155 : (.code y_Vt_enter prog_1_method_14_code 4 (some .int)) ∈ V_Vt := kk_Vt _ j_Vt_155
theorem k_Vt_156 : (.methodLink "VolumeTurner" 222 y_In_isDirectory) ∈ V_Vt := kk_Vt _ j_Vt_156
theorem k_Vt_157 : (.methodLink "VolumeTurner" 225 y_In_inodeOf) ∈ V_Vt := kk_Vt _ j_Vt_157
theorem k_Vt_158 : (.instanceMethod y_Vt_up) ∈ V_Vt := kk_Vt _ j_Vt_158
theorem k_Vt_159 : (.selects "VolumeTurner" y_Vt_up y_Vt_up) ∈ V_Vt := kk_Vt _ j_Vt_159
theorem k_Vt_160 : (.code y_Vt_up prog_1_method_15_code 2 (some .boolean)) ∈ V_Vt := kk_Vt _ j_Vt_160
theorem k_Vt_161 : (.methodLink "VolumeTurner" 228 y_In_parentOf) ∈ V_Vt := kk_Vt _ j_Vt_161
theorem k_Vt_162 : (.methodLink "VolumeTurner" 231 y_Tr_parentOf) ∈ V_Vt := kk_Vt _ j_Vt_162
theorem k_Vt_163 : (.instanceMethod y_Vt_make) ∈ V_Vt := kk_Vt _ j_Vt_163
theorem k_Vt_164 : (.selects "VolumeTurner" y_Vt_make y_Vt_make) ∈ V_Vt := kk_Vt _ j_Vt_164
theorem k_Vt_165 : (.code y_Vt_make prog_1_method_16_code 3 (some .int)) ∈ V_Vt := kk_Vt _ j_Vt_165
theorem k_Vt_166 : (.methodLink "VolumeTurner" 232 y_Vt_wantSoundTable) ∈ V_Vt := kk_Vt _ j_Vt_166
theorem k_Vt_167 : (.instanceMethod y_Vt_wantSoundTable) ∈ V_Vt := kk_Vt _ j_Vt_167
theorem k_Vt_168 : (.code y_Vt_wantSoundTable prog_1_method_29_code 2 none) ∈ V_Vt := kk_Vt _ j_Vt_168
theorem k_Vt_169 : (.methodLink "VolumeTurner" 235 y_Ed_readName) ∈ V_Vt := kk_Vt _ j_Vt_169
theorem k_Vt_170 : (.methodLink "VolumeTurner" 239 y_Ed_clashes) ∈ V_Vt := kk_Vt _ j_Vt_170
theorem k_Vt_171 : (.methodLink "VolumeTurner" 244 y_Ed_findSlots) ∈ V_Vt := kk_Vt _ j_Vt_171
theorem k_Vt_172 : (.classLink "VolumeTurner" 248 "java/lang/UnsupportedOperationException") ∈ V_Vt := kk_Vt _ j_Vt_172
theorem k_Vt_173 : (.instantiable "java/lang/UnsupportedOperationException" 6) ∈ V_Vt := kk_Vt _ j_Vt_173
theorem k_Vt_175 : (.methodLink "VolumeTurner" 253 y_Ed_addItem) ∈ V_Vt := kk_Vt _ j_Vt_175
theorem k_Vt_176 : (.instanceMethod y_Vt_write) ∈ V_Vt := kk_Vt _ j_Vt_176
theorem k_Vt_177 : (.selects "VolumeTurner" y_Vt_write y_Vt_write) ∈ V_Vt := kk_Vt _ j_Vt_177
theorem k_Vt_178 : (.code y_Vt_write prog_1_method_17_code 7 (some .int)) ∈ V_Vt := kk_Vt _ j_Vt_178
theorem k_Vt_179 : (.methodLink "VolumeTurner" 257 y_Vt_fileHere) ∈ V_Vt := kk_Vt _ j_Vt_179
theorem k_Vt_180 : (.instanceMethod y_Vt_fileHere) ∈ V_Vt := kk_Vt _ j_Vt_180
theorem k_Vt_181 : (.code y_Vt_fileHere prog_1_method_32_code 3 (some .int)) ∈ V_Vt := kk_Vt _ j_Vt_181
theorem k_Vt_182 : (.methodLink "VolumeTurner" 260 y_Vt_lengthen) ∈ V_Vt := kk_Vt _ j_Vt_182
theorem k_Vt_183 : (.instanceMethod y_Vt_lengthen) ∈ V_Vt := kk_Vt _ j_Vt_183
theorem k_Vt_184 : (.code y_Vt_lengthen prog_1_method_33_code 4 (some .int)) ∈ V_Vt := kk_Vt _ j_Vt_184
theorem k_Vt_185 : (.methodLink "VolumeTurner" 350 y_Ed_canHold) ∈ V_Vt := kk_Vt _ j_Vt_185
theorem k_Vt_186 : (.methodLink "VolumeTurner" 353 y_Ed_lengthen) ∈ V_Vt := kk_Vt _ j_Vt_186
theorem k_Vt_187 : (.methodLink "VolumeTurner" 263 y_Ed_placeOnRoad) ∈ V_Vt := kk_Vt _ j_Vt_187
theorem k_Vt_188 : (.methodLink "VolumeTurner" 266 y_Ed_placeBehind) ∈ V_Vt := kk_Vt _ j_Vt_188
theorem k_Vt_189 : (.methodLink "VolumeTurner" 269 y_Tp_one) ∈ V_Vt := kk_Vt _ j_Vt_189
theorem k_Vt_190 : (.instanceMethod y_Vt_grow) ∈ V_Vt := kk_Vt _ j_Vt_190
theorem k_Vt_191 : (.selects "VolumeTurner" y_Vt_grow y_Vt_grow) ∈ V_Vt := kk_Vt _ j_Vt_191
theorem k_Vt_192 : (.code y_Vt_grow prog_1_method_18_code 8 (some .int)) ∈ V_Vt := kk_Vt _ j_Vt_192
theorem k_Vt_193 : (.constant "VolumeTurner" 270 (400000 : Int32)) ∈ V_Vt := kk_Vt _ j_Vt_193
theorem k_Vt_194 : (.instanceMethod y_Vt_cut) ∈ V_Vt := kk_Vt _ j_Vt_194
theorem k_Vt_195 : (.selects "VolumeTurner" y_Vt_cut y_Vt_cut) ∈ V_Vt := kk_Vt _ j_Vt_195
theorem k_Vt_196 : (.code y_Vt_cut prog_1_method_19_code 4 (some .int)) ∈ V_Vt := kk_Vt _ j_Vt_196
theorem k_Vt_197 : (.methodLink "VolumeTurner" 275 y_Ed_shorten) ∈ V_Vt := kk_Vt _ j_Vt_197
theorem k_Vt_198 : (.instanceMethod y_Vt_remove) ∈ V_Vt := kk_Vt _ j_Vt_198
theorem k_Vt_199 : (.selects "VolumeTurner" y_Vt_remove y_Vt_remove) ∈ V_Vt := kk_Vt _ j_Vt_199
theorem k_Vt_200 : (.code y_Vt_remove prog_1_method_20_code 3 none) ∈ V_Vt := kk_Vt _ j_Vt_200
theorem k_Vt_201 : (.methodLink "VolumeTurner" 280 y_Ed_dropItem) ∈ V_Vt := kk_Vt _ j_Vt_201
theorem k_Vt_202 : (.instanceMethod y_Vt_stamp) ∈ V_Vt := kk_Vt _ j_Vt_202
theorem k_Vt_203 : (.selects "VolumeTurner" y_Vt_stamp y_Vt_stamp) ∈ V_Vt := kk_Vt _ j_Vt_203
theorem k_Vt_204 : (.code y_Vt_stamp prog_1_method_21_code 7 none) ∈ V_Vt := kk_Vt _ j_Vt_204
theorem k_Vt_205 : (.methodLink "VolumeTurner" 286 y_Da_wouldFit) ∈ V_Vt := kk_Vt _ j_Vt_205
theorem k_Vt_206 : (.methodLink "VolumeTurner" 294 y_Ed_putStamp) ∈ V_Vt := kk_Vt _ j_Vt_206
theorem k_Vt_207 : (.instanceMethod y_Vt_run) ∈ V_Vt := kk_Vt _ j_Vt_207
theorem k_Vt_208 : (.selects "VolumeTurner" y_Vt_run y_Vt_run) ∈ V_Vt := kk_Vt _ j_Vt_208
theorem k_Vt_209 : (.code y_Vt_run prog_1_method_25_code 7 (some .int)) ∈ V_Vt := kk_Vt _ j_Vt_209
theorem k_Vt_210 : (.methodLink "VolumeTurner" 317 y_In_groupSize) ∈ V_Vt := kk_Vt _ j_Vt_210
theorem k_Vt_211 : (.methodLink "VolumeTurner" 320 y_Dk_supply) ∈ V_Vt := kk_Vt _ j_Vt_211
theorem k_Vt_212 : (.methodLink "VolumeTurner" 323 y_Tu_turn) ∈ V_Vt := kk_Vt _ j_Vt_212
theorem k_Vt_213 : (.selects "VolumeTurner" y_Vt_changed y_Vt_changed) ∈ V_Vt := kk_Vt _ j_Vt_213
theorem k_Vt_214 : (.selects "VolumeTurner" y_Vt_look y_Vt_look) ∈ V_Vt := kk_Vt _ j_Vt_214
theorem k_Vt_215 : (.selects "VolumeTurner" y_Vt_readsInodes y_Vt_readsInodes) ∈ V_Vt := kk_Vt _ j_Vt_215
theorem k_Vt_216 : (.selects "VolumeTurner" y_Vt_wantSoundTable y_Vt_wantSoundTable) ∈ V_Vt := kk_Vt _ j_Vt_216
theorem k_Vt_217 : (.selects "VolumeTurner" y_Vt_itemHere y_Vt_itemHere) ∈ V_Vt := kk_Vt _ j_Vt_217
theorem k_Vt_218 : (.selects "VolumeTurner" y_Vt_entryHere y_Vt_entryHere) ∈ V_Vt := kk_Vt _ j_Vt_218
theorem k_Vt_219 : (.selects "VolumeTurner" y_Vt_fileHere y_Vt_fileHere) ∈ V_Vt := kk_Vt _ j_Vt_219
theorem k_Vt_220 : (.selects "VolumeTurner" y_Vt_lengthen y_Vt_lengthen) ∈ V_Vt := kk_Vt _ j_Vt_220
theorem k_Vt_221 : (.selects "VolumeTurner" y_Vt_tellItem y_Vt_tellItem) ∈ V_Vt := kk_Vt _ j_Vt_221
theorem gk_Vt : ∀ w ∈ w_Vt ++ K_Vt, goodWord w = true := List.all_eq_true.mp (by decide +kernel)
theorem good_Vt : GoodIn V_Vt V_Vt := fun w h => by
  refine ⟨h, ?_⟩
  rcases List.mem_append.mp h with q | q
  · exact good_of_word (gk_Vt w (List.mem_append_left _ q))
  · rcases List.mem_append.mp q with q | q
    · exact good_of_word (gk_Vt w (List.mem_append_right _ q))
    · exact (good_Tu w q).2
