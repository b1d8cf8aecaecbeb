/-! Names and decodings that were wanting. -/
theorem d_Rd_hasStrays_0 : decode cb_Rd_hasStrays 0 = .ok (.iconst 2, 1) := by decide +kernel
theorem d_Rd_hasStrays_1 : decode cb_Rd_hasStrays 1 = .ok (.istore_n 1, 1) := by decide +kernel
theorem d_Rd_hasStrays_2 : decode cb_Rd_hasStrays 2 = .ok (.iload_n 1, 1) := by decide +kernel
theorem d_Rd_hasStrays_3 : decode cb_Rd_hasStrays 3 = .ok (.aload_n 0, 1) := by decide +kernel
theorem d_Rd_hasStrays_4 : decode cb_Rd_hasStrays 4 = .ok (.getfield 29, 3) := by decide +kernel
theorem d_Rd_hasStrays_7 : decode cb_Rd_hasStrays 7 = .ok (.getfield 84, 3) := by decide +kernel
theorem d_Rd_hasStrays_10 : decode cb_Rd_hasStrays 10 = .ok (.iconst 2, 1) := by decide +kernel
theorem d_Rd_hasStrays_11 : decode cb_Rd_hasStrays 11 = .ok (.iadd, 1) := by decide +kernel
theorem d_Rd_hasStrays_12 : decode cb_Rd_hasStrays 12 = .ok (.if_icmp .ge 40, 3) := by decide +kernel
theorem d_Rd_hasStrays_15 : decode cb_Rd_hasStrays 15 = .ok (.iload_n 1, 1) := by decide +kernel
theorem d_Rd_hasStrays_16 : decode cb_Rd_hasStrays 16 = .ok (.aload_n 0, 1) := by decide +kernel
theorem d_Rd_hasStrays_17 : decode cb_Rd_hasStrays 17 = .ok (.getfield 43, 3) := by decide +kernel
theorem d_Rd_hasStrays_20 : decode cb_Rd_hasStrays 20 = .ok (.arraylength, 1) := by decide +kernel
theorem d_Rd_hasStrays_21 : decode cb_Rd_hasStrays 21 = .ok (.if_icmp .ge 31, 3) := by decide +kernel
theorem d_Rd_hasStrays_24 : decode cb_Rd_hasStrays 24 = .ok (.aload_n 0, 1) := by decide +kernel
theorem d_Rd_hasStrays_25 : decode cb_Rd_hasStrays 25 = .ok (.getfield 29, 3) := by decide +kernel
theorem d_Rd_hasStrays_28 : decode cb_Rd_hasStrays 28 = .ok (.iload_n 1, 1) := by decide +kernel
theorem d_Rd_hasStrays_29 : decode cb_Rd_hasStrays 29 = .ok (.invokevirtual 87, 3) := by decide +kernel
theorem d_Rd_hasStrays_32 : decode cb_Rd_hasStrays 32 = .ok (.ifCond .ne 14, 3) := by decide +kernel
theorem d_Rd_hasStrays_35 : decode cb_Rd_hasStrays 35 = .ok (.aload_n 0, 1) := by decide +kernel
theorem d_Rd_hasStrays_36 : decode cb_Rd_hasStrays 36 = .ok (.getfield 43, 3) := by decide +kernel
theorem d_Rd_hasStrays_39 : decode cb_Rd_hasStrays 39 = .ok (.iload_n 1, 1) := by decide +kernel
theorem d_Rd_hasStrays_40 : decode cb_Rd_hasStrays 40 = .ok (.baload, 1) := by decide +kernel
theorem d_Rd_hasStrays_41 : decode cb_Rd_hasStrays 41 = .ok (.ifCond .ne 5, 3) := by decide +kernel
theorem d_Rd_hasStrays_44 : decode cb_Rd_hasStrays 44 = .ok (.iconst 1, 1) := by decide +kernel
theorem d_Rd_hasStrays_45 : decode cb_Rd_hasStrays 45 = .ok (.ireturn, 1) := by decide +kernel
theorem d_Rd_hasStrays_46 : decode cb_Rd_hasStrays 46 = .ok (.iinc 1 1, 3) := by decide +kernel
theorem d_Rd_hasStrays_49 : decode cb_Rd_hasStrays 49 = .ok (.goto (-47), 3) := by decide +kernel
theorem d_Rd_hasStrays_52 : decode cb_Rd_hasStrays 52 = .ok (.iconst 0, 1) := by decide +kernel
theorem d_Rd_hasStrays_53 : decode cb_Rd_hasStrays 53 = .ok (.ireturn, 1) := by decide +kernel
theorem d_Rd_follow_0 : decode b_Rd_follow 0 = .ok (.iload_n 1, 1) := by decide +kernel
theorem d_Rd_follow_1 : decode b_Rd_follow 1 = .ok (.istore_n 3, 1) := by decide +kernel
theorem d_Rd_follow_2 : decode b_Rd_follow 2 = .ok (.iconst 0, 1) := by decide +kernel
theorem d_Rd_follow_3 : decode b_Rd_follow 3 = .ok (.istore 4, 2) := by decide +kernel
theorem d_Rd_follow_5 : decode b_Rd_follow 5 = .ok (.iload 4, 2) := by decide +kernel
theorem d_Rd_follow_7 : decode b_Rd_follow 7 = .ok (.aload_n 2, 1) := by decide +kernel
theorem d_Rd_follow_8 : decode b_Rd_follow 8 = .ok (.arraylength, 1) := by decide +kernel
theorem d_Rd_follow_9 : decode b_Rd_follow 9 = .ok (.if_icmp .ge 72, 3) := by decide +kernel
theorem d_Rd_follow_12 : decode b_Rd_follow 12 = .ok (.aload_n 0, 1) := by decide +kernel
theorem d_Rd_follow_13 : decode b_Rd_follow 13 = .ok (.getfield 29, 3) := by decide +kernel
theorem d_Rd_follow_16 : decode b_Rd_follow 16 = .ok (.iload_n 3, 1) := by decide +kernel
theorem d_Rd_follow_17 : decode b_Rd_follow 17 = .ok (.invokevirtual 90, 3) := by decide +kernel
theorem d_Rd_follow_20 : decode b_Rd_follow 20 = .ok (.ifCond .eq 21, 3) := by decide +kernel
theorem d_Rd_follow_23 : decode b_Rd_follow 23 = .ok (.iload_n 3, 1) := by decide +kernel
theorem d_Rd_follow_24 : decode b_Rd_follow 24 = .ok (.aload_n 0, 1) := by decide +kernel
theorem d_Rd_follow_25 : decode b_Rd_follow 25 = .ok (.getfield 43, 3) := by decide +kernel
theorem d_Rd_follow_28 : decode b_Rd_follow 28 = .ok (.arraylength, 1) := by decide +kernel
theorem d_Rd_follow_29 : decode b_Rd_follow 29 = .ok (.if_icmp .ge 12, 3) := by decide +kernel
theorem d_Rd_follow_32 : decode b_Rd_follow 32 = .ok (.aload_n 0, 1) := by decide +kernel
theorem d_Rd_follow_33 : decode b_Rd_follow 33 = .ok (.getfield 43, 3) := by decide +kernel
theorem d_Rd_follow_36 : decode b_Rd_follow 36 = .ok (.iload_n 3, 1) := by decide +kernel
theorem d_Rd_follow_37 : decode b_Rd_follow 37 = .ok (.baload, 1) := by decide +kernel
theorem d_Rd_follow_38 : decode b_Rd_follow 38 = .ok (.ifCond .eq 5, 3) := by decide +kernel
theorem d_Rd_follow_41 : decode b_Rd_follow 41 = .ok (.iconst (-1), 1) := by decide +kernel
theorem d_Rd_follow_42 : decode b_Rd_follow 42 = .ok (.ireturn, 1) := by decide +kernel
theorem d_Rd_follow_43 : decode b_Rd_follow 43 = .ok (.aload_n 0, 1) := by decide +kernel
theorem d_Rd_follow_44 : decode b_Rd_follow 44 = .ok (.getfield 43, 3) := by decide +kernel
theorem d_Rd_follow_47 : decode b_Rd_follow 47 = .ok (.iload_n 3, 1) := by decide +kernel
theorem d_Rd_follow_48 : decode b_Rd_follow 48 = .ok (.iconst 1, 1) := by decide +kernel
theorem d_Rd_follow_49 : decode b_Rd_follow 49 = .ok (.bastore, 1) := by decide +kernel
theorem d_Rd_follow_50 : decode b_Rd_follow 50 = .ok (.aload_n 2, 1) := by decide +kernel
theorem d_Rd_follow_51 : decode b_Rd_follow 51 = .ok (.iload 4, 2) := by decide +kernel
theorem d_Rd_follow_53 : decode b_Rd_follow 53 = .ok (.iload_n 3, 1) := by decide +kernel
theorem d_Rd_follow_54 : decode b_Rd_follow 54 = .ok (.iastore, 1) := by decide +kernel
theorem d_Rd_follow_55 : decode b_Rd_follow 55 = .ok (.aload_n 0, 1) := by decide +kernel
theorem d_Rd_follow_56 : decode b_Rd_follow 56 = .ok (.getfield 29, 3) := by decide +kernel
theorem d_Rd_follow_59 : decode b_Rd_follow 59 = .ok (.iload_n 3, 1) := by decide +kernel
theorem d_Rd_follow_60 : decode b_Rd_follow 60 = .ok (.invokevirtual 90, 3) := by decide +kernel
theorem d_Rd_follow_63 : decode b_Rd_follow 63 = .ok (.istore_n 3, 1) := by decide +kernel
theorem d_Rd_follow_64 : decode b_Rd_follow 64 = .ok (.iload_n 3, 1) := by decide +kernel
theorem d_Rd_follow_65 : decode b_Rd_follow 65 = .ok (.ldc 94, 2) := by decide +kernel
theorem d_Rd_follow_67 : decode b_Rd_follow 67 = .ok (.if_icmp .lt 8, 3) := by decide +kernel
theorem d_Rd_follow_70 : decode b_Rd_follow 70 = .ok (.iload 4, 2) := by decide +kernel
theorem d_Rd_follow_72 : decode b_Rd_follow 72 = .ok (.iconst 1, 1) := by decide +kernel
theorem d_Rd_follow_73 : decode b_Rd_follow 73 = .ok (.iadd, 1) := by decide +kernel
theorem d_Rd_follow_74 : decode b_Rd_follow 74 = .ok (.ireturn, 1) := by decide +kernel
theorem d_Rd_follow_75 : decode b_Rd_follow 75 = .ok (.iinc 4 1, 3) := by decide +kernel
theorem d_Rd_follow_78 : decode b_Rd_follow 78 = .ok (.goto (-73), 3) := by decide +kernel
theorem d_Rd_follow_81 : decode b_Rd_follow 81 = .ok (.iconst (-1), 1) := by decide +kernel
theorem d_Rd_follow_82 : decode b_Rd_follow 82 = .ok (.ireturn, 1) := by decide +kernel
theorem d_Rd_readDirectory_0 : decode cb_Rd_readDirectory 0 = .ok (.aload_n 0, 1) := by decide +kernel
theorem d_Rd_readDirectory_1 : decode cb_Rd_readDirectory 1 = .ok (.aload_n 0, 1) := by decide +kernel
theorem d_Rd_readDirectory_2 : decode cb_Rd_readDirectory 2 = .ok (.getfield 33, 3) := by decide +kernel
theorem d_Rd_readDirectory_5 : decode cb_Rd_readDirectory 5 = .ok (.iload_n 1, 1) := by decide +kernel
theorem d_Rd_readDirectory_6 : decode cb_Rd_readDirectory 6 = .ok (.invokevirtual 95, 3) := by decide +kernel
theorem d_Rd_readDirectory_9 : decode cb_Rd_readDirectory 9 = .ok (.aload_n 0, 1) := by decide +kernel
theorem d_Rd_readDirectory_10 : decode cb_Rd_readDirectory 10 = .ok (.getfield 47, 3) := by decide +kernel
theorem d_Rd_readDirectory_13 : decode cb_Rd_readDirectory 13 = .ok (.invokevirtual 98, 3) := by decide +kernel
theorem d_Rd_readDirectory_16 : decode cb_Rd_readDirectory 16 = .ok (.istore_n 3, 1) := by decide +kernel
theorem d_Rd_readDirectory_17 : decode cb_Rd_readDirectory 17 = .ok (.iload_n 3, 1) := by decide +kernel
theorem d_Rd_readDirectory_18 : decode cb_Rd_readDirectory 18 = .ok (.iconst (-1), 1) := by decide +kernel
theorem d_Rd_readDirectory_19 : decode cb_Rd_readDirectory 19 = .ok (.if_icmp .ne 5, 3) := by decide +kernel
theorem d_Rd_readDirectory_22 : decode cb_Rd_readDirectory 22 = .ok (.iconst 3, 1) := by decide +kernel
theorem d_Rd_readDirectory_23 : decode cb_Rd_readDirectory 23 = .ok (.ireturn, 1) := by decide +kernel
theorem d_Rd_readDirectory_24 : decode cb_Rd_readDirectory 24 = .ok (.iconst 0, 1) := by decide +kernel
theorem d_Rd_readDirectory_25 : decode cb_Rd_readDirectory 25 = .ok (.istore 4, 2) := by decide +kernel
theorem d_Rd_readDirectory_27 : decode cb_Rd_readDirectory 27 = .ok (.iload_n 2, 1) := by decide +kernel
theorem d_Rd_readDirectory_28 : decode cb_Rd_readDirectory 28 = .ok (.ifCond .eq 63, 3) := by decide +kernel
theorem d_Rd_readDirectory_31 : decode cb_Rd_readDirectory 31 = .ok (.iload 4, 2) := by decide +kernel
theorem d_Rd_readDirectory_33 : decode cb_Rd_readDirectory 33 = .ok (.iload_n 3, 1) := by decide +kernel
theorem d_Rd_readDirectory_34 : decode cb_Rd_readDirectory 34 = .ok (.if_icmp .ge 57, 3) := by decide +kernel
theorem d_Rd_readDirectory_37 : decode cb_Rd_readDirectory 37 = .ok (.aload_n 0, 1) := by decide +kernel
theorem d_Rd_readDirectory_38 : decode cb_Rd_readDirectory 38 = .ok (.getfield 47, 3) := by decide +kernel
theorem d_Rd_readDirectory_41 : decode cb_Rd_readDirectory 41 = .ok (.iload 4, 2) := by decide +kernel
theorem d_Rd_readDirectory_43 : decode cb_Rd_readDirectory 43 = .ok (.aload_n 0, 1) := by decide +kernel
theorem d_Rd_readDirectory_44 : decode cb_Rd_readDirectory 44 = .ok (.getfield 29, 3) := by decide +kernel
theorem d_Rd_readDirectory_47 : decode cb_Rd_readDirectory 47 = .ok (.aload_n 0, 1) := by decide +kernel
theorem d_Rd_readDirectory_48 : decode cb_Rd_readDirectory 48 = .ok (.getfield 47, 3) := by decide +kernel
theorem d_Rd_readDirectory_51 : decode cb_Rd_readDirectory 51 = .ok (.iload 4, 2) := by decide +kernel
theorem d_Rd_readDirectory_53 : decode cb_Rd_readDirectory 53 = .ok (.iaload, 1) := by decide +kernel
theorem d_Rd_readDirectory_54 : decode cb_Rd_readDirectory 54 = .ok (.invokevirtual 102, 3) := by decide +kernel
theorem d_Rd_readDirectory_57 : decode cb_Rd_readDirectory 57 = .ok (.ifCond .ne 13, 3) := by decide +kernel
theorem d_Rd_readDirectory_60 : decode cb_Rd_readDirectory 60 = .ok (.aload_n 0, 1) := by decide +kernel
theorem d_Rd_readDirectory_61 : decode cb_Rd_readDirectory 61 = .ok (.getfield 47, 3) := by decide +kernel
theorem d_Rd_readDirectory_64 : decode cb_Rd_readDirectory 64 = .ok (.iload 4, 2) := by decide +kernel
theorem d_Rd_readDirectory_66 : decode cb_Rd_readDirectory 66 = .ok (.iaload, 1) := by decide +kernel
theorem d_Rd_readDirectory_67 : decode cb_Rd_readDirectory 67 = .ok (.goto 17, 3) := by decide +kernel
theorem d_Rd_readDirectory_70 : decode cb_Rd_readDirectory 70 = .ok (.aload_n 0, 1) := by decide +kernel
theorem d_Rd_readDirectory_71 : decode cb_Rd_readDirectory 71 = .ok (.getfield 29, 3) := by decide +kernel
theorem d_Rd_readDirectory_74 : decode cb_Rd_readDirectory 74 = .ok (.aload_n 0, 1) := by decide +kernel
theorem d_Rd_readDirectory_75 : decode cb_Rd_readDirectory 75 = .ok (.getfield 47, 3) := by decide +kernel
theorem d_Rd_readDirectory_78 : decode cb_Rd_readDirectory 78 = .ok (.iload 4, 2) := by decide +kernel
theorem d_Rd_readDirectory_80 : decode cb_Rd_readDirectory 80 = .ok (.iaload, 1) := by decide +kernel
theorem d_Rd_readDirectory_81 : decode cb_Rd_readDirectory 81 = .ok (.invokevirtual 102, 3) := by decide +kernel
theorem d_Rd_readDirectory_84 : decode cb_Rd_readDirectory 84 = .ok (.iastore, 1) := by decide +kernel
theorem d_Rd_readDirectory_85 : decode cb_Rd_readDirectory 85 = .ok (.iinc 4 1, 3) := by decide +kernel
theorem d_Rd_readDirectory_88 : decode cb_Rd_readDirectory 88 = .ok (.goto (-61), 3) := by decide +kernel
theorem d_Rd_readDirectory_91 : decode cb_Rd_readDirectory 91 = .ok (.aload_n 0, 1) := by decide +kernel
theorem d_Rd_readDirectory_92 : decode cb_Rd_readDirectory 92 = .ok (.getfield 33, 3) := by decide +kernel
theorem d_Rd_readDirectory_95 : decode cb_Rd_readDirectory 95 = .ok (.iload_n 1, 1) := by decide +kernel
theorem d_Rd_readDirectory_96 : decode cb_Rd_readDirectory 96 = .ok (.invokevirtual 105, 3) := by decide +kernel
theorem d_Rd_readDirectory_99 : decode cb_Rd_readDirectory 99 = .ok (.aload_n 0, 1) := by decide +kernel
theorem d_Rd_readDirectory_100 : decode cb_Rd_readDirectory 100 = .ok (.iconst 0, 1) := by decide +kernel
theorem d_Rd_readDirectory_101 : decode cb_Rd_readDirectory 101 = .ok (.putfield 15, 3) := by decide +kernel
theorem d_Rd_readDirectory_104 : decode cb_Rd_readDirectory 104 = .ok (.iload_n 3, 1) := by decide +kernel
theorem d_Rd_readDirectory_105 : decode cb_Rd_readDirectory 105 = .ok (.aload_n 0, 1) := by decide +kernel
theorem d_Rd_readDirectory_106 : decode cb_Rd_readDirectory 106 = .ok (.getfield 29, 3) := by decide +kernel
theorem d_Rd_readDirectory_109 : decode cb_Rd_readDirectory 109 = .ok (.invokevirtual 108, 3) := by decide +kernel
theorem d_Rd_readDirectory_112 : decode cb_Rd_readDirectory 112 = .ok (.imul, 1) := by decide +kernel
theorem d_Rd_readDirectory_113 : decode cb_Rd_readDirectory 113 = .ok (.istore 4, 2) := by decide +kernel
theorem d_Rd_readDirectory_115 : decode cb_Rd_readDirectory 115 = .ok (.iconst 0, 1) := by decide +kernel
theorem d_Rd_readDirectory_116 : decode cb_Rd_readDirectory 116 = .ok (.istore 5, 2) := by decide +kernel
theorem d_Rd_readDirectory_118 : decode cb_Rd_readDirectory 118 = .ok (.iload 5, 2) := by decide +kernel
theorem d_Rd_readDirectory_120 : decode cb_Rd_readDirectory 120 = .ok (.iload 4, 2) := by decide +kernel
theorem d_Rd_readDirectory_122 : decode cb_Rd_readDirectory 122 = .ok (.if_icmp .ge 166, 3) := by decide +kernel
theorem d_Rd_readDirectory_125 : decode cb_Rd_readDirectory 125 = .ok (.aload_n 0, 1) := by decide +kernel
theorem d_Rd_readDirectory_126 : decode cb_Rd_readDirectory 126 = .ok (.getfield 29, 3) := by decide +kernel
theorem d_Rd_readDirectory_129 : decode cb_Rd_readDirectory 129 = .ok (.aload_n 0, 1) := by decide +kernel
theorem d_Rd_readDirectory_130 : decode cb_Rd_readDirectory 130 = .ok (.getfield 47, 3) := by decide +kernel
theorem d_Rd_readDirectory_133 : decode cb_Rd_readDirectory 133 = .ok (.iload 5, 2) := by decide +kernel
theorem d_Rd_readDirectory_135 : decode cb_Rd_readDirectory 135 = .ok (.invokevirtual 111, 3) := by decide +kernel
theorem d_Rd_readDirectory_138 : decode cb_Rd_readDirectory 138 = .ok (.istore 6, 2) := by decide +kernel
theorem d_Rd_readDirectory_140 : decode cb_Rd_readDirectory 140 = .ok (.iconst 0, 1) := by decide +kernel
theorem d_Rd_readDirectory_141 : decode cb_Rd_readDirectory 141 = .ok (.istore 7, 2) := by decide +kernel
theorem d_Rd_readDirectory_143 : decode cb_Rd_readDirectory 143 = .ok (.aload_n 0, 1) := by decide +kernel
theorem d_Rd_readDirectory_144 : decode cb_Rd_readDirectory 144 = .ok (.getfield 25, 3) := by decide +kernel
theorem d_Rd_readDirectory_147 : decode cb_Rd_readDirectory 147 = .ok (.iload 6, 2) := by decide +kernel
theorem d_Rd_readDirectory_149 : decode cb_Rd_readDirectory 149 = .ok (.invokevirtual 115, 3) := by decide +kernel
theorem d_Rd_readDirectory_152 : decode cb_Rd_readDirectory 152 = .ok (.ifCond .ne 6, 3) := by decide +kernel
theorem d_Rd_readDirectory_155 : decode cb_Rd_readDirectory 155 = .ok (.goto 133, 3) := by decide +kernel
theorem d_Rd_readDirectory_158 : decode cb_Rd_readDirectory 158 = .ok (.iload_n 1, 1) := by decide +kernel
theorem d_Rd_readDirectory_159 : decode cb_Rd_readDirectory 159 = .ok (.ifCond .eq 33, 3) := by decide +kernel
theorem d_Rd_readDirectory_162 : decode cb_Rd_readDirectory 162 = .ok (.iload 5, 2) := by decide +kernel
theorem d_Rd_readDirectory_164 : decode cb_Rd_readDirectory 164 = .ok (.iconst 2, 1) := by decide +kernel
theorem d_Rd_readDirectory_165 : decode cb_Rd_readDirectory 165 = .ok (.if_icmp .ge 27, 3) := by decide +kernel
theorem d_Rd_readDirectory_168 : decode cb_Rd_readDirectory 168 = .ok (.aload_n 0, 1) := by decide +kernel
theorem d_Rd_readDirectory_169 : decode cb_Rd_readDirectory 169 = .ok (.iload_n 1, 1) := by decide +kernel
theorem d_Rd_readDirectory_170 : decode cb_Rd_readDirectory 170 = .ok (.iload 5, 2) := by decide +kernel
theorem d_Rd_readDirectory_172 : decode cb_Rd_readDirectory 172 = .ok (.iconst 1, 1) := by decide +kernel
theorem d_Rd_readDirectory_173 : decode cb_Rd_readDirectory 173 = .ok (.iadd, 1) := by decide +kernel
theorem d_Rd_readDirectory_174 : decode cb_Rd_readDirectory 174 = .ok (.iload 6, 2) := by decide +kernel
theorem d_Rd_readDirectory_176 : decode cb_Rd_readDirectory 176 = .ok (.invokevirtual 120, 3) := by decide +kernel
theorem d_Rd_readDirectory_179 : decode cb_Rd_readDirectory 179 = .ok (.ifCond .eq 7, 3) := by decide +kernel
theorem d_Rd_readDirectory_182 : decode cb_Rd_readDirectory 182 = .ok (.iconst 0, 1) := by decide +kernel
theorem d_Rd_readDirectory_183 : decode cb_Rd_readDirectory 183 = .ok (.goto 4, 3) := by decide +kernel
theorem d_Rd_readDirectory_186 : decode cb_Rd_readDirectory 186 = .ok (.iconst 4, 1) := by decide +kernel
theorem d_Rd_readDirectory_187 : decode cb_Rd_readDirectory 187 = .ok (.istore 7, 2) := by decide +kernel
theorem d_Rd_readDirectory_189 : decode cb_Rd_readDirectory 189 = .ok (.goto 85, 3) := by decide +kernel
theorem d_Rd_readDirectory_192 : decode cb_Rd_readDirectory 192 = .ok (.aload_n 0, 1) := by decide +kernel
theorem d_Rd_readDirectory_193 : decode cb_Rd_readDirectory 193 = .ok (.getfield 25, 3) := by decide +kernel
theorem d_Rd_readDirectory_196 : decode cb_Rd_readDirectory 196 = .ok (.iload 6, 2) := by decide +kernel
theorem d_Rd_readDirectory_198 : decode cb_Rd_readDirectory 198 = .ok (.invokevirtual 115, 3) := by decide +kernel
theorem d_Rd_readDirectory_201 : decode cb_Rd_readDirectory 201 = .ok (.sipush 229, 3) := by decide +kernel
theorem d_Rd_readDirectory_204 : decode cb_Rd_readDirectory 204 = .ok (.if_icmp .ne 20, 3) := by decide +kernel
theorem d_Rd_readDirectory_207 : decode cb_Rd_readDirectory 207 = .ok (.aload_n 0, 1) := by decide +kernel
theorem d_Rd_readDirectory_208 : decode cb_Rd_readDirectory 208 = .ok (.getfield 15, 3) := by decide +kernel
theorem d_Rd_readDirectory_211 : decode cb_Rd_readDirectory 211 = .ok (.ifCond .ne 7, 3) := by decide +kernel
theorem d_Rd_readDirectory_214 : decode cb_Rd_readDirectory 214 = .ok (.iconst 0, 1) := by decide +kernel
theorem d_Rd_readDirectory_215 : decode cb_Rd_readDirectory 215 = .ok (.goto 4, 3) := by decide +kernel
theorem d_Rd_readDirectory_218 : decode cb_Rd_readDirectory 218 = .ok (.iconst 4, 1) := by decide +kernel
theorem d_Rd_readDirectory_219 : decode cb_Rd_readDirectory 219 = .ok (.istore 7, 2) := by decide +kernel
theorem d_Rd_readDirectory_221 : decode cb_Rd_readDirectory 221 = .ok (.goto 53, 3) := by decide +kernel
theorem d_Rd_readDirectory_224 : decode cb_Rd_readDirectory 224 = .ok (.aload_n 0, 1) := by decide +kernel
theorem d_Rd_readDirectory_225 : decode cb_Rd_readDirectory 225 = .ok (.getfield 25, 3) := by decide +kernel
theorem d_Rd_readDirectory_228 : decode cb_Rd_readDirectory 228 = .ok (.iload 6, 2) := by decide +kernel
theorem d_Rd_readDirectory_230 : decode cb_Rd_readDirectory 230 = .ok (.bipush 11, 2) := by decide +kernel
theorem d_Rd_readDirectory_232 : decode cb_Rd_readDirectory 232 = .ok (.iadd, 1) := by decide +kernel
theorem d_Rd_readDirectory_233 : decode cb_Rd_readDirectory 233 = .ok (.invokevirtual 115, 3) := by decide +kernel
theorem d_Rd_readDirectory_236 : decode cb_Rd_readDirectory 236 = .ok (.bipush 63, 2) := by decide +kernel
theorem d_Rd_readDirectory_238 : decode cb_Rd_readDirectory 238 = .ok (.iand, 1) := by decide +kernel
theorem d_Rd_readDirectory_239 : decode cb_Rd_readDirectory 239 = .ok (.bipush 15, 2) := by decide +kernel
theorem d_Rd_readDirectory_241 : decode cb_Rd_readDirectory 241 = .ok (.if_icmp .ne 22, 3) := by decide +kernel
theorem d_Rd_readDirectory_244 : decode cb_Rd_readDirectory 244 = .ok (.aload_n 0, 1) := by decide +kernel
theorem d_Rd_readDirectory_245 : decode cb_Rd_readDirectory 245 = .ok (.iload 6, 2) := by decide +kernel
theorem d_Rd_readDirectory_247 : decode cb_Rd_readDirectory 247 = .ok (.invokevirtual 124, 3) := by decide +kernel
theorem d_Rd_readDirectory_250 : decode cb_Rd_readDirectory 250 = .ok (.ifCond .eq 7, 3) := by decide +kernel
theorem d_Rd_readDirectory_253 : decode cb_Rd_readDirectory 253 = .ok (.iconst 0, 1) := by decide +kernel
theorem d_Rd_readDirectory_254 : decode cb_Rd_readDirectory 254 = .ok (.goto 4, 3) := by decide +kernel
theorem d_Rd_readDirectory_257 : decode cb_Rd_readDirectory 257 = .ok (.iconst 4, 1) := by decide +kernel
theorem d_Rd_readDirectory_258 : decode cb_Rd_readDirectory 258 = .ok (.istore 7, 2) := by decide +kernel
theorem d_Rd_readDirectory_260 : decode cb_Rd_readDirectory 260 = .ok (.goto 14, 3) := by decide +kernel
theorem d_Rd_readDirectory_263 : decode cb_Rd_readDirectory 263 = .ok (.aload_n 0, 1) := by decide +kernel
theorem d_Rd_readDirectory_264 : decode cb_Rd_readDirectory 264 = .ok (.iload_n 1, 1) := by decide +kernel
theorem d_Rd_readDirectory_265 : decode cb_Rd_readDirectory 265 = .ok (.iload 5, 2) := by decide +kernel
theorem d_Rd_readDirectory_267 : decode cb_Rd_readDirectory 267 = .ok (.iload 6, 2) := by decide +kernel
theorem d_Rd_readDirectory_269 : decode cb_Rd_readDirectory 269 = .ok (.invokevirtual 127, 3) := by decide +kernel
theorem d_Rd_readDirectory_272 : decode cb_Rd_readDirectory 272 = .ok (.istore 7, 2) := by decide +kernel
theorem d_Rd_readDirectory_274 : decode cb_Rd_readDirectory 274 = .ok (.iload 7, 2) := by decide +kernel
theorem d_Rd_readDirectory_276 : decode cb_Rd_readDirectory 276 = .ok (.ifCond .eq 6, 3) := by decide +kernel
theorem d_Rd_readDirectory_279 : decode cb_Rd_readDirectory 279 = .ok (.iload 7, 2) := by decide +kernel
theorem d_Rd_readDirectory_281 : decode cb_Rd_readDirectory 281 = .ok (.ireturn, 1) := by decide +kernel
theorem d_Rd_readDirectory_282 : decode cb_Rd_readDirectory 282 = .ok (.iinc 5 1, 3) := by decide +kernel
theorem d_Rd_readDirectory_285 : decode cb_Rd_readDirectory 285 = .ok (.goto (-167), 3) := by decide +kernel
theorem d_Rd_readDirectory_288 : decode cb_Rd_readDirectory 288 = .ok (.aload_n 0, 1) := by decide +kernel
theorem d_Rd_readDirectory_289 : decode cb_Rd_readDirectory 289 = .ok (.getfield 33, 3) := by decide +kernel
theorem d_Rd_readDirectory_292 : decode cb_Rd_readDirectory 292 = .ok (.iload_n 1, 1) := by decide +kernel
theorem d_Rd_readDirectory_293 : decode cb_Rd_readDirectory 293 = .ok (.invokevirtual 131, 3) := by decide +kernel
theorem d_Rd_readDirectory_296 : decode cb_Rd_readDirectory 296 = .ok (.aload_n 0, 1) := by decide +kernel
theorem d_Rd_readDirectory_297 : decode cb_Rd_readDirectory 297 = .ok (.getfield 15, 3) := by decide +kernel
theorem d_Rd_readDirectory_300 : decode cb_Rd_readDirectory 300 = .ok (.ifCond .ne 13, 3) := by decide +kernel
theorem d_Rd_readDirectory_303 : decode cb_Rd_readDirectory 303 = .ok (.iload_n 1, 1) := by decide +kernel
theorem d_Rd_readDirectory_304 : decode cb_Rd_readDirectory 304 = .ok (.ifCond .eq 13, 3) := by decide +kernel
theorem d_Rd_readDirectory_307 : decode cb_Rd_readDirectory 307 = .ok (.iload 5, 2) := by decide +kernel
theorem d_Rd_readDirectory_309 : decode cb_Rd_readDirectory 309 = .ok (.iconst 2, 1) := by decide +kernel
theorem d_Rd_readDirectory_310 : decode cb_Rd_readDirectory 310 = .ok (.if_icmp .ge 7, 3) := by decide +kernel
theorem d_Rd_readDirectory_313 : decode cb_Rd_readDirectory 313 = .ok (.iconst 4, 1) := by decide +kernel
theorem d_Rd_readDirectory_314 : decode cb_Rd_readDirectory 314 = .ok (.goto 4, 3) := by decide +kernel
theorem d_Rd_readDirectory_317 : decode cb_Rd_readDirectory 317 = .ok (.iconst 0, 1) := by decide +kernel
theorem d_Rd_readDirectory_318 : decode cb_Rd_readDirectory 318 = .ok (.ireturn, 1) := by decide +kernel
theorem d_Rd_isDots_0 : decode cb_Rd_isDots 0 = .ok (.iconst 0, 1) := by decide +kernel
theorem d_Rd_isDots_1 : decode cb_Rd_isDots 1 = .ok (.istore 4, 2) := by decide +kernel
theorem d_Rd_isDots_3 : decode cb_Rd_isDots 3 = .ok (.iload 4, 2) := by decide +kernel
theorem d_Rd_isDots_5 : decode cb_Rd_isDots 5 = .ok (.bipush 11, 2) := by decide +kernel
theorem d_Rd_isDots_7 : decode cb_Rd_isDots 7 = .ok (.if_icmp .ge 38, 3) := by decide +kernel
theorem d_Rd_isDots_10 : decode cb_Rd_isDots 10 = .ok (.aload_n 0, 1) := by decide +kernel
theorem d_Rd_isDots_11 : decode cb_Rd_isDots 11 = .ok (.getfield 25, 3) := by decide +kernel
theorem d_Rd_isDots_14 : decode cb_Rd_isDots 14 = .ok (.iload_n 3, 1) := by decide +kernel
theorem d_Rd_isDots_15 : decode cb_Rd_isDots 15 = .ok (.iload 4, 2) := by decide +kernel
theorem d_Rd_isDots_17 : decode cb_Rd_isDots 17 = .ok (.iadd, 1) := by decide +kernel
theorem d_Rd_isDots_18 : decode cb_Rd_isDots 18 = .ok (.invokevirtual 115, 3) := by decide +kernel
theorem d_Rd_isDots_21 : decode cb_Rd_isDots 21 = .ok (.iload 4, 2) := by decide +kernel
theorem d_Rd_isDots_23 : decode cb_Rd_isDots 23 = .ok (.iload_n 2, 1) := by decide +kernel
theorem d_Rd_isDots_24 : decode cb_Rd_isDots 24 = .ok (.if_icmp .ge 8, 3) := by decide +kernel
theorem d_Rd_isDots_27 : decode cb_Rd_isDots 27 = .ok (.bipush 46, 2) := by decide +kernel
theorem d_Rd_isDots_29 : decode cb_Rd_isDots 29 = .ok (.goto 5, 3) := by decide +kernel
theorem d_Rd_isDots_32 : decode cb_Rd_isDots 32 = .ok (.bipush 32, 2) := by decide +kernel
theorem d_Rd_isDots_34 : decode cb_Rd_isDots 34 = .ok (.if_icmp .eq 5, 3) := by decide +kernel
theorem d_Rd_isDots_37 : decode cb_Rd_isDots 37 = .ok (.iconst 0, 1) := by decide +kernel
theorem d_Rd_isDots_38 : decode cb_Rd_isDots 38 = .ok (.ireturn, 1) := by decide +kernel
theorem d_Rd_isDots_39 : decode cb_Rd_isDots 39 = .ok (.iinc 4 1, 3) := by decide +kernel
theorem d_Rd_isDots_42 : decode cb_Rd_isDots 42 = .ok (.goto (-39), 3) := by decide +kernel
theorem d_Rd_isDots_45 : decode cb_Rd_isDots 45 = .ok (.aload_n 0, 1) := by decide +kernel
theorem d_Rd_isDots_46 : decode cb_Rd_isDots 46 = .ok (.getfield 33, 3) := by decide +kernel
theorem d_Rd_isDots_49 : decode cb_Rd_isDots 49 = .ok (.iload_n 1, 1) := by decide +kernel
theorem d_Rd_isDots_50 : decode cb_Rd_isDots 50 = .ok (.invokevirtual 134, 3) := by decide +kernel
theorem d_Rd_isDots_53 : decode cb_Rd_isDots 53 = .ok (.istore 4, 2) := by decide +kernel
theorem d_Rd_isDots_55 : decode cb_Rd_isDots 55 = .ok (.iload_n 2, 1) := by decide +kernel
theorem d_Rd_isDots_56 : decode cb_Rd_isDots 56 = .ok (.iconst 1, 1) := by decide +kernel
theorem d_Rd_isDots_57 : decode cb_Rd_isDots 57 = .ok (.if_icmp .ne 14, 3) := by decide +kernel
theorem d_Rd_isDots_60 : decode cb_Rd_isDots 60 = .ok (.aload_n 0, 1) := by decide +kernel
theorem d_Rd_isDots_61 : decode cb_Rd_isDots 61 = .ok (.getfield 33, 3) := by decide +kernel
theorem d_Rd_isDots_64 : decode cb_Rd_isDots 64 = .ok (.iload_n 1, 1) := by decide +kernel
theorem d_Rd_isDots_65 : decode cb_Rd_isDots 65 = .ok (.invokevirtual 95, 3) := by decide +kernel
theorem d_Rd_isDots_68 : decode cb_Rd_isDots 68 = .ok (.goto 21, 3) := by decide +kernel
theorem d_Rd_isDots_71 : decode cb_Rd_isDots 71 = .ok (.iload 4, 2) := by decide +kernel
theorem d_Rd_isDots_73 : decode cb_Rd_isDots 73 = .ok (.ifCond .ne 7, 3) := by decide +kernel
theorem d_Rd_isDots_76 : decode cb_Rd_isDots 76 = .ok (.iconst 0, 1) := by decide +kernel
theorem d_Rd_isDots_77 : decode cb_Rd_isDots 77 = .ok (.goto 12, 3) := by decide +kernel
theorem d_Rd_isDots_80 : decode cb_Rd_isDots 80 = .ok (.aload_n 0, 1) := by decide +kernel
theorem d_Rd_isDots_81 : decode cb_Rd_isDots 81 = .ok (.getfield 33, 3) := by decide +kernel
theorem d_Rd_isDots_84 : decode cb_Rd_isDots 84 = .ok (.iload 4, 2) := by decide +kernel
theorem d_Rd_isDots_86 : decode cb_Rd_isDots 86 = .ok (.invokevirtual 95, 3) := by decide +kernel
theorem d_Rd_isDots_89 : decode cb_Rd_isDots 89 = .ok (.istore 5, 2) := by decide +kernel
theorem d_Rd_isDots_91 : decode cb_Rd_isDots 91 = .ok (.aload_n 0, 1) := by decide +kernel
theorem d_Rd_isDots_92 : decode cb_Rd_isDots 92 = .ok (.getfield 25, 3) := by decide +kernel
theorem d_Rd_isDots_95 : decode cb_Rd_isDots 95 = .ok (.iload_n 3, 1) := by decide +kernel
theorem d_Rd_isDots_96 : decode cb_Rd_isDots 96 = .ok (.bipush 11, 2) := by decide +kernel
theorem d_Rd_isDots_98 : decode cb_Rd_isDots 98 = .ok (.iadd, 1) := by decide +kernel
theorem d_Rd_isDots_99 : decode cb_Rd_isDots 99 = .ok (.invokevirtual 115, 3) := by decide +kernel
theorem d_Rd_isDots_102 : decode cb_Rd_isDots 102 = .ok (.bipush 16, 2) := by decide +kernel
theorem d_Rd_isDots_104 : decode cb_Rd_isDots 104 = .ok (.if_icmp .ne 17, 3) := by decide +kernel
theorem d_Rd_isDots_107 : decode cb_Rd_isDots 107 = .ok (.aload_n 0, 1) := by decide +kernel
theorem d_Rd_isDots_108 : decode cb_Rd_isDots 108 = .ok (.iload_n 3, 1) := by decide +kernel
theorem d_Rd_isDots_109 : decode cb_Rd_isDots 109 = .ok (.invokevirtual 137, 3) := by decide +kernel
theorem d_Rd_isDots_112 : decode cb_Rd_isDots 112 = .ok (.iload 5, 2) := by decide +kernel
theorem d_Rd_isDots_114 : decode cb_Rd_isDots 114 = .ok (.if_icmp .ne 7, 3) := by decide +kernel
theorem d_Rd_isDots_117 : decode cb_Rd_isDots 117 = .ok (.iconst 1, 1) := by decide +kernel
theorem d_Rd_isDots_118 : decode cb_Rd_isDots 118 = .ok (.goto 4, 3) := by decide +kernel
theorem d_Rd_isDots_121 : decode cb_Rd_isDots 121 = .ok (.iconst 0, 1) := by decide +kernel
theorem d_Rd_isDots_122 : decode cb_Rd_isDots 122 = .ok (.ireturn, 1) := by decide +kernel
theorem d_Rd_firstCluster_0 : decode cb_Rd_firstCluster 0 = .ok (.aload_n 0, 1) := by decide +kernel
theorem d_Rd_firstCluster_1 : decode cb_Rd_firstCluster 1 = .ok (.getfield 25, 3) := by decide +kernel
theorem d_Rd_firstCluster_4 : decode cb_Rd_firstCluster 4 = .ok (.iload_n 1, 1) := by decide +kernel
theorem d_Rd_firstCluster_5 : decode cb_Rd_firstCluster 5 = .ok (.bipush 20, 2) := by decide +kernel
theorem d_Rd_firstCluster_7 : decode cb_Rd_firstCluster 7 = .ok (.iadd, 1) := by decide +kernel
theorem d_Rd_firstCluster_8 : decode cb_Rd_firstCluster 8 = .ok (.invokevirtual 140, 3) := by decide +kernel
theorem d_Rd_firstCluster_11 : decode cb_Rd_firstCluster 11 = .ok (.bipush 16, 2) := by decide +kernel
theorem d_Rd_firstCluster_13 : decode cb_Rd_firstCluster 13 = .ok (.ishl, 1) := by decide +kernel
theorem d_Rd_firstCluster_14 : decode cb_Rd_firstCluster 14 = .ok (.aload_n 0, 1) := by decide +kernel
theorem d_Rd_firstCluster_15 : decode cb_Rd_firstCluster 15 = .ok (.getfield 25, 3) := by decide +kernel
theorem d_Rd_firstCluster_18 : decode cb_Rd_firstCluster 18 = .ok (.iload_n 1, 1) := by decide +kernel
theorem d_Rd_firstCluster_19 : decode cb_Rd_firstCluster 19 = .ok (.bipush 26, 2) := by decide +kernel
theorem d_Rd_firstCluster_21 : decode cb_Rd_firstCluster 21 = .ok (.iadd, 1) := by decide +kernel
theorem d_Rd_firstCluster_22 : decode cb_Rd_firstCluster 22 = .ok (.invokevirtual 140, 3) := by decide +kernel
theorem d_Rd_firstCluster_25 : decode cb_Rd_firstCluster 25 = .ok (.ior, 1) := by decide +kernel
theorem d_Rd_firstCluster_26 : decode cb_Rd_firstCluster 26 = .ok (.ireturn, 1) := by decide +kernel
theorem d_Rd_readPart_0 : decode cb_Rd_readPart 0 = .ok (.aload_n 0, 1) := by decide +kernel
theorem d_Rd_readPart_1 : decode cb_Rd_readPart 1 = .ok (.getfield 25, 3) := by decide +kernel
theorem d_Rd_readPart_4 : decode cb_Rd_readPart 4 = .ok (.iload_n 1, 1) := by decide +kernel
theorem d_Rd_readPart_5 : decode cb_Rd_readPart 5 = .ok (.invokevirtual 115, 3) := by decide +kernel
theorem d_Rd_readPart_8 : decode cb_Rd_readPart 8 = .ok (.istore_n 2, 1) := by decide +kernel
theorem d_Rd_readPart_9 : decode cb_Rd_readPart 9 = .ok (.aload_n 0, 1) := by decide +kernel
theorem d_Rd_readPart_10 : decode cb_Rd_readPart 10 = .ok (.getfield 15, 3) := by decide +kernel
theorem d_Rd_readPart_13 : decode cb_Rd_readPart 13 = .ok (.ifCond .ne 44, 3) := by decide +kernel
theorem d_Rd_readPart_16 : decode cb_Rd_readPart 16 = .ok (.iinc 2 (-64), 3) := by decide +kernel
theorem d_Rd_readPart_19 : decode cb_Rd_readPart 19 = .ok (.iload_n 2, 1) := by decide +kernel
theorem d_Rd_readPart_20 : decode cb_Rd_readPart 20 = .ok (.iconst 1, 1) := by decide +kernel
theorem d_Rd_readPart_21 : decode cb_Rd_readPart 21 = .ok (.if_icmp .lt 9, 3) := by decide +kernel
theorem d_Rd_readPart_24 : decode cb_Rd_readPart 24 = .ok (.iload_n 2, 1) := by decide +kernel
theorem d_Rd_readPart_25 : decode cb_Rd_readPart 25 = .ok (.bipush 20, 2) := by decide +kernel
theorem d_Rd_readPart_27 : decode cb_Rd_readPart 27 = .ok (.if_icmp .le 5, 3) := by decide +kernel
theorem d_Rd_readPart_30 : decode cb_Rd_readPart 30 = .ok (.iconst 0, 1) := by decide +kernel
theorem d_Rd_readPart_31 : decode cb_Rd_readPart 31 = .ok (.ireturn, 1) := by decide +kernel
theorem d_Rd_readPart_32 : decode cb_Rd_readPart 32 = .ok (.aload_n 0, 1) := by decide +kernel
theorem d_Rd_readPart_33 : decode cb_Rd_readPart 33 = .ok (.iload_n 2, 1) := by decide +kernel
theorem d_Rd_readPart_34 : decode cb_Rd_readPart 34 = .ok (.putfield 15, 3) := by decide +kernel
theorem d_Rd_readPart_37 : decode cb_Rd_readPart 37 = .ok (.aload_n 0, 1) := by decide +kernel
theorem d_Rd_readPart_38 : decode cb_Rd_readPart 38 = .ok (.iload_n 2, 1) := by decide +kernel
theorem d_Rd_readPart_39 : decode cb_Rd_readPart 39 = .ok (.putfield 19, 3) := by decide +kernel
theorem d_Rd_readPart_42 : decode cb_Rd_readPart 42 = .ok (.aload_n 0, 1) := by decide +kernel
theorem d_Rd_readPart_43 : decode cb_Rd_readPart 43 = .ok (.aload_n 0, 1) := by decide +kernel
theorem d_Rd_readPart_44 : decode cb_Rd_readPart 44 = .ok (.getfield 25, 3) := by decide +kernel
theorem d_Rd_readPart_47 : decode cb_Rd_readPart 47 = .ok (.iload_n 1, 1) := by decide +kernel
theorem d_Rd_readPart_48 : decode cb_Rd_readPart 48 = .ok (.bipush 13, 2) := by decide +kernel
theorem d_Rd_readPart_50 : decode cb_Rd_readPart 50 = .ok (.iadd, 1) := by decide +kernel
theorem d_Rd_readPart_51 : decode cb_Rd_readPart 51 = .ok (.invokevirtual 115, 3) := by decide +kernel
theorem d_Rd_readPart_54 : decode cb_Rd_readPart 54 = .ok (.putfield 22, 3) := by decide +kernel
theorem d_Rd_readPart_57 : decode cb_Rd_readPart 57 = .ok (.iload_n 2, 1) := by decide +kernel
theorem d_Rd_readPart_58 : decode cb_Rd_readPart 58 = .ok (.aload_n 0, 1) := by decide +kernel
theorem d_Rd_readPart_59 : decode cb_Rd_readPart 59 = .ok (.getfield 19, 3) := by decide +kernel
theorem d_Rd_readPart_62 : decode cb_Rd_readPart 62 = .ok (.if_icmp .ne 49, 3) := by decide +kernel
theorem d_Rd_readPart_65 : decode cb_Rd_readPart 65 = .ok (.aload_n 0, 1) := by decide +kernel
theorem d_Rd_readPart_66 : decode cb_Rd_readPart 66 = .ok (.getfield 25, 3) := by decide +kernel
theorem d_Rd_readPart_69 : decode cb_Rd_readPart 69 = .ok (.iload_n 1, 1) := by decide +kernel
theorem d_Rd_readPart_70 : decode cb_Rd_readPart 70 = .ok (.bipush 12, 2) := by decide +kernel
theorem d_Rd_readPart_72 : decode cb_Rd_readPart 72 = .ok (.iadd, 1) := by decide +kernel
theorem d_Rd_readPart_73 : decode cb_Rd_readPart 73 = .ok (.invokevirtual 115, 3) := by decide +kernel
theorem d_Rd_readPart_76 : decode cb_Rd_readPart 76 = .ok (.ifCond .ne 35, 3) := by decide +kernel
theorem d_Rd_readPart_79 : decode cb_Rd_readPart 79 = .ok (.aload_n 0, 1) := by decide +kernel
theorem d_Rd_readPart_80 : decode cb_Rd_readPart 80 = .ok (.getfield 25, 3) := by decide +kernel
theorem d_Rd_readPart_83 : decode cb_Rd_readPart 83 = .ok (.iload_n 1, 1) := by decide +kernel
theorem d_Rd_readPart_84 : decode cb_Rd_readPart 84 = .ok (.bipush 26, 2) := by decide +kernel
theorem d_Rd_readPart_86 : decode cb_Rd_readPart 86 = .ok (.iadd, 1) := by decide +kernel
theorem d_Rd_readPart_87 : decode cb_Rd_readPart 87 = .ok (.invokevirtual 140, 3) := by decide +kernel
theorem d_Rd_readPart_90 : decode cb_Rd_readPart 90 = .ok (.ifCond .ne 21, 3) := by decide +kernel
theorem d_Rd_readPart_93 : decode cb_Rd_readPart 93 = .ok (.aload_n 0, 1) := by decide +kernel
theorem d_Rd_readPart_94 : decode cb_Rd_readPart 94 = .ok (.getfield 25, 3) := by decide +kernel
theorem d_Rd_readPart_97 : decode cb_Rd_readPart 97 = .ok (.iload_n 1, 1) := by decide +kernel
theorem d_Rd_readPart_98 : decode cb_Rd_readPart 98 = .ok (.bipush 13, 2) := by decide +kernel
theorem d_Rd_readPart_100 : decode cb_Rd_readPart 100 = .ok (.iadd, 1) := by decide +kernel
theorem d_Rd_readPart_101 : decode cb_Rd_readPart 101 = .ok (.invokevirtual 115, 3) := by decide +kernel
theorem d_Rd_readPart_104 : decode cb_Rd_readPart 104 = .ok (.aload_n 0, 1) := by decide +kernel
theorem d_Rd_readPart_105 : decode cb_Rd_readPart 105 = .ok (.getfield 22, 3) := by decide +kernel
theorem d_Rd_readPart_108 : decode cb_Rd_readPart 108 = .ok (.if_icmp .eq 5, 3) := by decide +kernel
theorem d_Rd_readPart_111 : decode cb_Rd_readPart 111 = .ok (.iconst 0, 1) := by decide +kernel
theorem d_Rd_readPart_112 : decode cb_Rd_readPart 112 = .ok (.ireturn, 1) := by decide +kernel
theorem d_Rd_readPart_113 : decode cb_Rd_readPart 113 = .ok (.aload_n 0, 1) := by decide +kernel
theorem d_Rd_readPart_114 : decode cb_Rd_readPart 114 = .ok (.dup, 1) := by decide +kernel
theorem d_Rd_readPart_115 : decode cb_Rd_readPart 115 = .ok (.getfield 19, 3) := by decide +kernel
theorem d_Rd_readPart_118 : decode cb_Rd_readPart 118 = .ok (.iconst 1, 1) := by decide +kernel
theorem d_Rd_readPart_119 : decode cb_Rd_readPart 119 = .ok (.isub, 1) := by decide +kernel
theorem d_Rd_readPart_120 : decode cb_Rd_readPart 120 = .ok (.putfield 19, 3) := by decide +kernel
theorem d_Rd_readPart_123 : decode cb_Rd_readPart 123 = .ok (.iconst 0, 1) := by decide +kernel
theorem d_Rd_readPart_124 : decode cb_Rd_readPart 124 = .ok (.istore_n 3, 1) := by decide +kernel
theorem d_Rd_readPart_125 : decode cb_Rd_readPart 125 = .ok (.iload_n 3, 1) := by decide +kernel
theorem d_Rd_readPart_126 : decode cb_Rd_readPart 126 = .ok (.bipush 13, 2) := by decide +kernel
theorem d_Rd_readPart_128 : decode cb_Rd_readPart 128 = .ok (.if_icmp .ge 36, 3) := by decide +kernel
theorem d_Rd_readPart_131 : decode cb_Rd_readPart 131 = .ok (.aload_n 0, 1) := by decide +kernel
theorem d_Rd_readPart_132 : decode cb_Rd_readPart 132 = .ok (.getfield 9, 3) := by decide +kernel
theorem d_Rd_readPart_135 : decode cb_Rd_readPart 135 = .ok (.aload_n 0, 1) := by decide +kernel
theorem d_Rd_readPart_136 : decode cb_Rd_readPart 136 = .ok (.getfield 19, 3) := by decide +kernel
theorem d_Rd_readPart_139 : decode cb_Rd_readPart 139 = .ok (.bipush 13, 2) := by decide +kernel
theorem d_Rd_readPart_141 : decode cb_Rd_readPart 141 = .ok (.imul, 1) := by decide +kernel
theorem d_Rd_readPart_142 : decode cb_Rd_readPart 142 = .ok (.iload_n 3, 1) := by decide +kernel
theorem d_Rd_readPart_143 : decode cb_Rd_readPart 143 = .ok (.iadd, 1) := by decide +kernel
theorem d_Rd_readPart_144 : decode cb_Rd_readPart 144 = .ok (.aload_n 0, 1) := by decide +kernel
theorem d_Rd_readPart_145 : decode cb_Rd_readPart 145 = .ok (.getfield 25, 3) := by decide +kernel
theorem d_Rd_readPart_148 : decode cb_Rd_readPart 148 = .ok (.iload_n 1, 1) := by decide +kernel
theorem d_Rd_readPart_149 : decode cb_Rd_readPart 149 = .ok (.iload_n 3, 1) := by decide +kernel
theorem d_Rd_readPart_150 : decode cb_Rd_readPart 150 = .ok (.invokestatic 143, 3) := by decide +kernel
theorem d_Rd_readPart_153 : decode cb_Rd_readPart 153 = .ok (.iadd, 1) := by decide +kernel
theorem d_Rd_readPart_154 : decode cb_Rd_readPart 154 = .ok (.invokevirtual 140, 3) := by decide +kernel
theorem d_Rd_readPart_157 : decode cb_Rd_readPart 157 = .ok (.iastore, 1) := by decide +kernel
theorem d_Rd_readPart_158 : decode cb_Rd_readPart 158 = .ok (.iinc 3 1, 3) := by decide +kernel
theorem d_Rd_readPart_161 : decode cb_Rd_readPart 161 = .ok (.goto (-36), 3) := by decide +kernel
theorem d_Rd_readPart_164 : decode cb_Rd_readPart 164 = .ok (.iconst 1, 1) := by decide +kernel
theorem d_Rd_readPart_165 : decode cb_Rd_readPart 165 = .ok (.ireturn, 1) := by decide +kernel
theorem d_Rd_readEntry_0 : decode cb_Rd_readEntry 0 = .ok (.aload_n 0, 1) := by decide +kernel
theorem d_Rd_readEntry_1 : decode cb_Rd_readEntry 1 = .ok (.getfield 25, 3) := by decide +kernel
theorem d_Rd_readEntry_4 : decode cb_Rd_readEntry 4 = .ok (.iload_n 3, 1) := by decide +kernel
theorem d_Rd_readEntry_5 : decode cb_Rd_readEntry 5 = .ok (.bipush 11, 2) := by decide +kernel
theorem d_Rd_readEntry_7 : decode cb_Rd_readEntry 7 = .ok (.iadd, 1) := by decide +kernel
theorem d_Rd_readEntry_8 : decode cb_Rd_readEntry 8 = .ok (.invokevirtual 115, 3) := by decide +kernel
theorem d_Rd_readEntry_11 : decode cb_Rd_readEntry 11 = .ok (.istore 4, 2) := by decide +kernel
theorem d_Rd_readEntry_13 : decode cb_Rd_readEntry 13 = .ok (.iload 4, 2) := by decide +kernel
theorem d_Rd_readEntry_15 : decode cb_Rd_readEntry 15 = .ok (.bipush 8, 2) := by decide +kernel
theorem d_Rd_readEntry_17 : decode cb_Rd_readEntry 17 = .ok (.iand, 1) := by decide +kernel
theorem d_Rd_readEntry_18 : decode cb_Rd_readEntry 18 = .ok (.ifCond .eq 7, 3) := by decide +kernel
theorem d_Rd_readEntry_21 : decode cb_Rd_readEntry 21 = .ok (.iconst 1, 1) := by decide +kernel
theorem d_Rd_readEntry_22 : decode cb_Rd_readEntry 22 = .ok (.goto 4, 3) := by decide +kernel
theorem d_Rd_readEntry_25 : decode cb_Rd_readEntry 25 = .ok (.iconst 0, 1) := by decide +kernel
theorem d_Rd_readEntry_26 : decode cb_Rd_readEntry 26 = .ok (.istore 5, 2) := by decide +kernel
theorem d_Rd_readEntry_28 : decode cb_Rd_readEntry 28 = .ok (.aload_n 0, 1) := by decide +kernel
theorem d_Rd_readEntry_29 : decode cb_Rd_readEntry 29 = .ok (.iload_n 3, 1) := by decide +kernel
theorem d_Rd_readEntry_30 : decode cb_Rd_readEntry 30 = .ok (.iload 4, 2) := by decide +kernel
theorem d_Rd_readEntry_32 : decode cb_Rd_readEntry 32 = .ok (.invokevirtual 146, 3) := by decide +kernel
theorem d_Rd_readEntry_35 : decode cb_Rd_readEntry 35 = .ok (.ifCond .eq 27, 3) := by decide +kernel
theorem d_Rd_readEntry_38 : decode cb_Rd_readEntry 38 = .ok (.aload_n 0, 1) := by decide +kernel
theorem d_Rd_readEntry_39 : decode cb_Rd_readEntry 39 = .ok (.getfield 25, 3) := by decide +kernel
theorem d_Rd_readEntry_42 : decode cb_Rd_readEntry 42 = .ok (.iload_n 3, 1) := by decide +kernel
theorem d_Rd_readEntry_43 : decode cb_Rd_readEntry 43 = .ok (.iload 5, 2) := by decide +kernel
theorem d_Rd_readEntry_45 : decode cb_Rd_readEntry 45 = .ok (.invokestatic 150, 3) := by decide +kernel
theorem d_Rd_readEntry_48 : decode cb_Rd_readEntry 48 = .ok (.ifCond .eq 14, 3) := by decide +kernel
theorem d_Rd_readEntry_51 : decode cb_Rd_readEntry 51 = .ok (.aload_n 0, 1) := by decide +kernel
theorem d_Rd_readEntry_52 : decode cb_Rd_readEntry 52 = .ok (.getfield 25, 3) := by decide +kernel
theorem d_Rd_readEntry_55 : decode cb_Rd_readEntry 55 = .ok (.iload_n 3, 1) := by decide +kernel
theorem d_Rd_readEntry_56 : decode cb_Rd_readEntry 56 = .ok (.invokestatic 156, 3) := by decide +kernel
theorem d_Rd_readEntry_59 : decode cb_Rd_readEntry 59 = .ok (.ifCond .ne 5, 3) := by decide +kernel
theorem d_Rd_readEntry_62 : decode cb_Rd_readEntry 62 = .ok (.iconst 4, 1) := by decide +kernel
theorem d_Rd_readEntry_63 : decode cb_Rd_readEntry 63 = .ok (.ireturn, 1) := by decide +kernel
theorem d_Rd_readEntry_64 : decode cb_Rd_readEntry 64 = .ok (.iload 5, 2) := by decide +kernel
theorem d_Rd_readEntry_66 : decode cb_Rd_readEntry 66 = .ok (.ifCond .eq 51, 3) := by decide +kernel
theorem d_Rd_readEntry_69 : decode cb_Rd_readEntry 69 = .ok (.aload_n 0, 1) := by decide +kernel
theorem d_Rd_readEntry_70 : decode cb_Rd_readEntry 70 = .ok (.getfield 15, 3) := by decide +kernel
theorem d_Rd_readEntry_73 : decode cb_Rd_readEntry 73 = .ok (.ifCond .ne 18, 3) := by decide +kernel
theorem d_Rd_readEntry_76 : decode cb_Rd_readEntry 76 = .ok (.iload_n 1, 1) := by decide +kernel
theorem d_Rd_readEntry_77 : decode cb_Rd_readEntry 77 = .ok (.ifCond .ne 14, 3) := by decide +kernel
theorem d_Rd_readEntry_80 : decode cb_Rd_readEntry 80 = .ok (.aload_n 0, 1) := by decide +kernel
theorem d_Rd_readEntry_81 : decode cb_Rd_readEntry 81 = .ok (.getfield 33, 3) := by decide +kernel
theorem d_Rd_readEntry_84 : decode cb_Rd_readEntry 84 = .ok (.getfield 162, 3) := by decide +kernel
theorem d_Rd_readEntry_87 : decode cb_Rd_readEntry 87 = .ok (.iconst (-1), 1) := by decide +kernel
theorem d_Rd_readEntry_88 : decode cb_Rd_readEntry 88 = .ok (.if_icmp .eq 7, 3) := by decide +kernel
theorem d_Rd_readEntry_91 : decode cb_Rd_readEntry 91 = .ok (.iconst 1, 1) := by decide +kernel
theorem d_Rd_readEntry_92 : decode cb_Rd_readEntry 92 = .ok (.goto 4, 3) := by decide +kernel
theorem d_Rd_readEntry_95 : decode cb_Rd_readEntry 95 = .ok (.iconst 0, 1) := by decide +kernel
theorem d_Rd_readEntry_96 : decode cb_Rd_readEntry 96 = .ok (.istore 6, 2) := by decide +kernel
theorem d_Rd_readEntry_98 : decode cb_Rd_readEntry 98 = .ok (.aload_n 0, 1) := by decide +kernel
theorem d_Rd_readEntry_99 : decode cb_Rd_readEntry 99 = .ok (.getfield 33, 3) := by decide +kernel
theorem d_Rd_readEntry_102 : decode cb_Rd_readEntry 102 = .ok (.iload_n 3, 1) := by decide +kernel
theorem d_Rd_readEntry_103 : decode cb_Rd_readEntry 103 = .ok (.putfield 162, 3) := by decide +kernel
theorem d_Rd_readEntry_106 : decode cb_Rd_readEntry 106 = .ok (.iload 6, 2) := by decide +kernel
theorem d_Rd_readEntry_108 : decode cb_Rd_readEntry 108 = .ok (.ifCond .eq 7, 3) := by decide +kernel
theorem d_Rd_readEntry_111 : decode cb_Rd_readEntry 111 = .ok (.iconst 4, 1) := by decide +kernel
theorem d_Rd_readEntry_112 : decode cb_Rd_readEntry 112 = .ok (.goto 4, 3) := by decide +kernel
theorem d_Rd_readEntry_115 : decode cb_Rd_readEntry 115 = .ok (.iconst 0, 1) := by decide +kernel
theorem d_Rd_readEntry_116 : decode cb_Rd_readEntry 116 = .ok (.ireturn, 1) := by decide +kernel
theorem d_Rd_readEntry_117 : decode cb_Rd_readEntry 117 = .ok (.aload_n 0, 1) := by decide +kernel
theorem d_Rd_readEntry_118 : decode cb_Rd_readEntry 118 = .ok (.getfield 15, 3) := by decide +kernel
theorem d_Rd_readEntry_121 : decode cb_Rd_readEntry 121 = .ok (.ifCond .ne 11, 3) := by decide +kernel
theorem d_Rd_readEntry_124 : decode cb_Rd_readEntry 124 = .ok (.aload_n 0, 1) := by decide +kernel
theorem d_Rd_readEntry_125 : decode cb_Rd_readEntry 125 = .ok (.iload_n 3, 1) := by decide +kernel
theorem d_Rd_readEntry_126 : decode cb_Rd_readEntry 126 = .ok (.invokevirtual 165, 3) := by decide +kernel
theorem d_Rd_readEntry_129 : decode cb_Rd_readEntry 129 = .ok (.goto 8, 3) := by decide +kernel
theorem d_Rd_readEntry_132 : decode cb_Rd_readEntry 132 = .ok (.aload_n 0, 1) := by decide +kernel
theorem d_Rd_readEntry_133 : decode cb_Rd_readEntry 133 = .ok (.iload_n 3, 1) := by decide +kernel
theorem d_Rd_readEntry_134 : decode cb_Rd_readEntry 134 = .ok (.invokevirtual 168, 3) := by decide +kernel
theorem d_Rd_readEntry_137 : decode cb_Rd_readEntry 137 = .ok (.istore 6, 2) := by decide +kernel
theorem d_Rd_readEntry_139 : decode cb_Rd_readEntry 139 = .ok (.iload 6, 2) := by decide +kernel
theorem d_Rd_readEntry_141 : decode cb_Rd_readEntry 141 = .ok (.ifCond .ne 5, 3) := by decide +kernel
theorem d_Rd_readEntry_144 : decode cb_Rd_readEntry 144 = .ok (.iconst 4, 1) := by decide +kernel
theorem d_Rd_readEntry_145 : decode cb_Rd_readEntry 145 = .ok (.ireturn, 1) := by decide +kernel
theorem d_Rd_readEntry_146 : decode cb_Rd_readEntry 146 = .ok (.aload_n 0, 1) := by decide +kernel
theorem d_Rd_readEntry_147 : decode cb_Rd_readEntry 147 = .ok (.iload_n 1, 1) := by decide +kernel
theorem d_Rd_readEntry_148 : decode cb_Rd_readEntry 148 = .ok (.iload_n 3, 1) := by decide +kernel
theorem d_Rd_readEntry_149 : decode cb_Rd_readEntry 149 = .ok (.iload 6, 2) := by decide +kernel
theorem d_Rd_readEntry_151 : decode cb_Rd_readEntry 151 = .ok (.invokevirtual 171, 3) := by decide +kernel
theorem d_Rd_readEntry_154 : decode cb_Rd_readEntry 154 = .ok (.istore 7, 2) := by decide +kernel
theorem d_Rd_readEntry_156 : decode cb_Rd_readEntry 156 = .ok (.aload_n 0, 1) := by decide +kernel
theorem d_Rd_readEntry_157 : decode cb_Rd_readEntry 157 = .ok (.getfield 33, 3) := by decide +kernel
theorem d_Rd_readEntry_160 : decode cb_Rd_readEntry 160 = .ok (.iload_n 1, 1) := by decide +kernel
theorem d_Rd_readEntry_161 : decode cb_Rd_readEntry 161 = .ok (.iload 4, 2) := by decide +kernel
theorem d_Rd_readEntry_163 : decode cb_Rd_readEntry 163 = .ok (.invokevirtual 174, 3) := by decide +kernel
theorem d_Rd_readEntry_166 : decode cb_Rd_readEntry 166 = .ok (.istore 8, 2) := by decide +kernel
theorem d_Rd_readEntry_168 : decode cb_Rd_readEntry 168 = .ok (.aload_n 0, 1) := by decide +kernel
theorem d_Rd_readEntry_169 : decode cb_Rd_readEntry 169 = .ok (.getfield 33, 3) := by decide +kernel
theorem d_Rd_readEntry_172 : decode cb_Rd_readEntry 172 = .ok (.aload_n 0, 1) := by decide +kernel
theorem d_Rd_readEntry_173 : decode cb_Rd_readEntry 173 = .ok (.getfield 9, 3) := by decide +kernel
theorem d_Rd_readEntry_176 : decode cb_Rd_readEntry 176 = .ok (.iload 6, 2) := by decide +kernel
theorem d_Rd_readEntry_178 : decode cb_Rd_readEntry 178 = .ok (.invokevirtual 178, 3) := by decide +kernel
theorem d_Rd_readEntry_181 : decode cb_Rd_readEntry 181 = .ok (.aload_n 0, 1) := by decide +kernel
theorem d_Rd_readEntry_182 : decode cb_Rd_readEntry 182 = .ok (.getfield 33, 3) := by decide +kernel
theorem d_Rd_readEntry_185 : decode cb_Rd_readEntry 185 = .ok (.iload 8, 2) := by decide +kernel
theorem d_Rd_readEntry_187 : decode cb_Rd_readEntry 187 = .ok (.aload_n 0, 1) := by decide +kernel
theorem d_Rd_readEntry_188 : decode cb_Rd_readEntry 188 = .ok (.iload_n 3, 1) := by decide +kernel
theorem d_Rd_readEntry_189 : decode cb_Rd_readEntry 189 = .ok (.invokevirtual 137, 3) := by decide +kernel
theorem d_Rd_readEntry_192 : decode cb_Rd_readEntry 192 = .ok (.iload_n 3, 1) := by decide +kernel
theorem d_Rd_readEntry_193 : decode cb_Rd_readEntry 193 = .ok (.iload_n 2, 1) := by decide +kernel
theorem d_Rd_readEntry_194 : decode cb_Rd_readEntry 194 = .ok (.aload_n 0, 1) := by decide +kernel
theorem d_Rd_readEntry_195 : decode cb_Rd_readEntry 195 = .ok (.getfield 15, 3) := by decide +kernel
theorem d_Rd_readEntry_198 : decode cb_Rd_readEntry 198 = .ok (.invokevirtual 182, 3) := by decide +kernel
theorem d_Rd_readEntry_201 : decode cb_Rd_readEntry 201 = .ok (.aload_n 0, 1) := by decide +kernel
theorem d_Rd_readEntry_202 : decode cb_Rd_readEntry 202 = .ok (.iconst 0, 1) := by decide +kernel
theorem d_Rd_readEntry_203 : decode cb_Rd_readEntry 203 = .ok (.putfield 15, 3) := by decide +kernel
theorem d_Rd_readEntry_206 : decode cb_Rd_readEntry 206 = .ok (.iload 7, 2) := by decide +kernel
theorem d_Rd_readEntry_208 : decode cb_Rd_readEntry 208 = .ok (.ifCond .eq 5, 3) := by decide +kernel
theorem d_Rd_readEntry_211 : decode cb_Rd_readEntry 211 = .ok (.iconst 5, 1) := by decide +kernel
theorem d_Rd_readEntry_212 : decode cb_Rd_readEntry 212 = .ok (.ireturn, 1) := by decide +kernel
theorem d_Rd_readEntry_213 : decode cb_Rd_readEntry 213 = .ok (.aload_n 0, 1) := by decide +kernel
theorem d_Rd_readEntry_214 : decode cb_Rd_readEntry 214 = .ok (.iload 8, 2) := by decide +kernel
theorem d_Rd_readEntry_216 : decode cb_Rd_readEntry 216 = .ok (.aload_n 0, 1) := by decide +kernel
theorem d_Rd_readEntry_217 : decode cb_Rd_readEntry 217 = .ok (.getfield 25, 3) := by decide +kernel
theorem d_Rd_readEntry_220 : decode cb_Rd_readEntry 220 = .ok (.iload_n 3, 1) := by decide +kernel
theorem d_Rd_readEntry_221 : decode cb_Rd_readEntry 221 = .ok (.bipush 28, 2) := by decide +kernel
theorem d_Rd_readEntry_223 : decode cb_Rd_readEntry 223 = .ok (.iadd, 1) := by decide +kernel
theorem d_Rd_readEntry_224 : decode cb_Rd_readEntry 224 = .ok (.invokevirtual 186, 3) := by decide +kernel
theorem d_Rd_readEntry_227 : decode cb_Rd_readEntry 227 = .ok (.i2l, 1) := by decide +kernel
theorem d_Rd_readEntry_228 : decode cb_Rd_readEntry 228 = .ok (.ldc2_w 189, 3) := by decide +kernel
theorem d_Rd_readEntry_231 : decode cb_Rd_readEntry 231 = .ok (.land, 1) := by decide +kernel
theorem d_Rd_readEntry_232 : decode cb_Rd_readEntry 232 = .ok (.invokevirtual 191, 3) := by decide +kernel
theorem d_Rd_readEntry_235 : decode cb_Rd_readEntry 235 = .ok (.ifCond .eq 7, 3) := by decide +kernel
theorem d_Rd_readEntry_238 : decode cb_Rd_readEntry 238 = .ok (.iconst 0, 1) := by decide +kernel
theorem d_Rd_readEntry_239 : decode cb_Rd_readEntry 239 = .ok (.goto 4, 3) := by decide +kernel
theorem d_Rd_readEntry_242 : decode cb_Rd_readEntry 242 = .ok (.iconst 3, 1) := by decide +kernel
theorem d_Rd_readEntry_243 : decode cb_Rd_readEntry 243 = .ok (.ireturn, 1) := by decide +kernel
theorem d_Rd_bitsFit_0 : decode cb_Rd_bitsFit 0 = .ok (.iload_n 2, 1) := by decide +kernel
theorem d_Rd_bitsFit_1 : decode cb_Rd_bitsFit 1 = .ok (.bipush 8, 2) := by decide +kernel
theorem d_Rd_bitsFit_3 : decode cb_Rd_bitsFit 3 = .ok (.iand, 1) := by decide +kernel
theorem d_Rd_bitsFit_4 : decode cb_Rd_bitsFit 4 = .ok (.ifCond .eq 7, 3) := by decide +kernel
theorem d_Rd_bitsFit_7 : decode cb_Rd_bitsFit 7 = .ok (.iconst 1, 1) := by decide +kernel
theorem d_Rd_bitsFit_8 : decode cb_Rd_bitsFit 8 = .ok (.goto 4, 3) := by decide +kernel
theorem d_Rd_bitsFit_11 : decode cb_Rd_bitsFit 11 = .ok (.iconst 0, 1) := by decide +kernel
theorem d_Rd_bitsFit_12 : decode cb_Rd_bitsFit 12 = .ok (.istore_n 3, 1) := by decide +kernel
theorem d_Rd_bitsFit_13 : decode cb_Rd_bitsFit 13 = .ok (.iload_n 2, 1) := by decide +kernel
theorem d_Rd_bitsFit_14 : decode cb_Rd_bitsFit 14 = .ok (.bipush 16, 2) := by decide +kernel
theorem d_Rd_bitsFit_16 : decode cb_Rd_bitsFit 16 = .ok (.iand, 1) := by decide +kernel
theorem d_Rd_bitsFit_17 : decode cb_Rd_bitsFit 17 = .ok (.ifCond .eq 7, 3) := by decide +kernel
theorem d_Rd_bitsFit_20 : decode cb_Rd_bitsFit 20 = .ok (.iconst 1, 1) := by decide +kernel
theorem d_Rd_bitsFit_21 : decode cb_Rd_bitsFit 21 = .ok (.goto 4, 3) := by decide +kernel
theorem d_Rd_bitsFit_24 : decode cb_Rd_bitsFit 24 = .ok (.iconst 0, 1) := by decide +kernel
theorem d_Rd_bitsFit_25 : decode cb_Rd_bitsFit 25 = .ok (.istore 4, 2) := by decide +kernel
theorem d_Rd_bitsFit_27 : decode cb_Rd_bitsFit 27 = .ok (.iload_n 2, 1) := by decide +kernel
theorem d_Rd_bitsFit_28 : decode cb_Rd_bitsFit 28 = .ok (.bipush 63, 2) := by decide +kernel
theorem d_Rd_bitsFit_30 : decode cb_Rd_bitsFit 30 = .ok (.if_icmp .gt 12, 3) := by decide +kernel
theorem d_Rd_bitsFit_33 : decode cb_Rd_bitsFit 33 = .ok (.iload_n 3, 1) := by decide +kernel
theorem d_Rd_bitsFit_34 : decode cb_Rd_bitsFit 34 = .ok (.ifCond .eq 10, 3) := by decide +kernel
theorem d_Rd_bitsFit_37 : decode cb_Rd_bitsFit 37 = .ok (.iload 4, 2) := by decide +kernel
theorem d_Rd_bitsFit_39 : decode cb_Rd_bitsFit 39 = .ok (.ifCond .eq 5, 3) := by decide +kernel
theorem d_Rd_bitsFit_42 : decode cb_Rd_bitsFit 42 = .ok (.iconst 0, 1) := by decide +kernel
theorem d_Rd_bitsFit_43 : decode cb_Rd_bitsFit 43 = .ok (.ireturn, 1) := by decide +kernel
theorem d_Rd_bitsFit_44 : decode cb_Rd_bitsFit 44 = .ok (.iload_n 3, 1) := by decide +kernel
theorem d_Rd_bitsFit_45 : decode cb_Rd_bitsFit 45 = .ok (.ifCond .eq 13, 3) := by decide +kernel
theorem d_Rd_bitsFit_48 : decode cb_Rd_bitsFit 48 = .ok (.aload_n 0, 1) := by decide +kernel
theorem d_Rd_bitsFit_49 : decode cb_Rd_bitsFit 49 = .ok (.iload_n 1, 1) := by decide +kernel
theorem d_Rd_bitsFit_50 : decode cb_Rd_bitsFit 50 = .ok (.invokevirtual 137, 3) := by decide +kernel
theorem d_Rd_bitsFit_53 : decode cb_Rd_bitsFit 53 = .ok (.ifCond .eq 5, 3) := by decide +kernel
theorem d_Rd_bitsFit_56 : decode cb_Rd_bitsFit 56 = .ok (.iconst 0, 1) := by decide +kernel
theorem d_Rd_bitsFit_57 : decode cb_Rd_bitsFit 57 = .ok (.ireturn, 1) := by decide +kernel
theorem d_Rd_bitsFit_58 : decode cb_Rd_bitsFit 58 = .ok (.iload_n 3, 1) := by decide +kernel
theorem d_Rd_bitsFit_59 : decode cb_Rd_bitsFit 59 = .ok (.ifCond .ne 8, 3) := by decide +kernel
theorem d_Rd_bitsFit_62 : decode cb_Rd_bitsFit 62 = .ok (.iload 4, 2) := by decide +kernel
theorem d_Rd_bitsFit_64 : decode cb_Rd_bitsFit 64 = .ok (.ifCond .eq 17, 3) := by decide +kernel
theorem d_Rd_bitsFit_67 : decode cb_Rd_bitsFit 67 = .ok (.aload_n 0, 1) := by decide +kernel
theorem d_Rd_bitsFit_68 : decode cb_Rd_bitsFit 68 = .ok (.getfield 25, 3) := by decide +kernel
theorem d_Rd_bitsFit_71 : decode cb_Rd_bitsFit 71 = .ok (.iload_n 1, 1) := by decide +kernel
theorem d_Rd_bitsFit_72 : decode cb_Rd_bitsFit 72 = .ok (.bipush 28, 2) := by decide +kernel
theorem d_Rd_bitsFit_74 : decode cb_Rd_bitsFit 74 = .ok (.iadd, 1) := by decide +kernel
theorem d_Rd_bitsFit_75 : decode cb_Rd_bitsFit 75 = .ok (.invokevirtual 186, 3) := by decide +kernel
theorem d_Rd_bitsFit_78 : decode cb_Rd_bitsFit 78 = .ok (.ifCond .ne 7, 3) := by decide +kernel
theorem d_Rd_bitsFit_81 : decode cb_Rd_bitsFit 81 = .ok (.iconst 1, 1) := by decide +kernel
theorem d_Rd_bitsFit_82 : decode cb_Rd_bitsFit 82 = .ok (.goto 4, 3) := by decide +kernel
theorem d_Rd_bitsFit_85 : decode cb_Rd_bitsFit 85 = .ok (.iconst 0, 1) := by decide +kernel
theorem d_Rd_bitsFit_86 : decode cb_Rd_bitsFit 86 = .ok (.ireturn, 1) := by decide +kernel
theorem d_Rd_showShortName_0 : decode cb_Rd_showShortName 0 = .ok (.iconst 0, 1) := by decide +kernel
theorem d_Rd_showShortName_1 : decode cb_Rd_showShortName 1 = .ok (.istore_n 2, 1) := by decide +kernel
theorem d_Rd_showShortName_2 : decode cb_Rd_showShortName 2 = .ok (.iconst 0, 1) := by decide +kernel
theorem d_Rd_showShortName_3 : decode cb_Rd_showShortName 3 = .ok (.istore_n 3, 1) := by decide +kernel
theorem d_Rd_showShortName_4 : decode cb_Rd_showShortName 4 = .ok (.iload_n 3, 1) := by decide +kernel
theorem d_Rd_showShortName_5 : decode cb_Rd_showShortName 5 = .ok (.bipush 11, 2) := by decide +kernel
theorem d_Rd_showShortName_7 : decode cb_Rd_showShortName 7 = .ok (.if_icmp .ge 63, 3) := by decide +kernel
theorem d_Rd_showShortName_10 : decode cb_Rd_showShortName 10 = .ok (.aload_n 0, 1) := by decide +kernel
theorem d_Rd_showShortName_11 : decode cb_Rd_showShortName 11 = .ok (.getfield 25, 3) := by decide +kernel
theorem d_Rd_showShortName_14 : decode cb_Rd_showShortName 14 = .ok (.iload_n 1, 1) := by decide +kernel
theorem d_Rd_showShortName_15 : decode cb_Rd_showShortName 15 = .ok (.iload_n 3, 1) := by decide +kernel
theorem d_Rd_showShortName_16 : decode cb_Rd_showShortName 16 = .ok (.iadd, 1) := by decide +kernel
theorem d_Rd_showShortName_17 : decode cb_Rd_showShortName 17 = .ok (.invokevirtual 115, 3) := by decide +kernel
theorem d_Rd_showShortName_20 : decode cb_Rd_showShortName 20 = .ok (.istore 4, 2) := by decide +kernel
theorem d_Rd_showShortName_22 : decode cb_Rd_showShortName 22 = .ok (.iload_n 3, 1) := by decide +kernel
theorem d_Rd_showShortName_23 : decode cb_Rd_showShortName 23 = .ok (.bipush 8, 2) := by decide +kernel
theorem d_Rd_showShortName_25 : decode cb_Rd_showShortName 25 = .ok (.if_icmp .ne 21, 3) := by decide +kernel
theorem d_Rd_showShortName_28 : decode cb_Rd_showShortName 28 = .ok (.iload 4, 2) := by decide +kernel
theorem d_Rd_showShortName_30 : decode cb_Rd_showShortName 30 = .ok (.bipush 32, 2) := by decide +kernel
theorem d_Rd_showShortName_32 : decode cb_Rd_showShortName 32 = .ok (.if_icmp .eq 14, 3) := by decide +kernel
theorem d_Rd_showShortName_35 : decode cb_Rd_showShortName 35 = .ok (.aload_n 0, 1) := by decide +kernel
theorem d_Rd_showShortName_36 : decode cb_Rd_showShortName 36 = .ok (.getfield 9, 3) := by decide +kernel
theorem d_Rd_showShortName_39 : decode cb_Rd_showShortName 39 = .ok (.iload_n 2, 1) := by decide +kernel
theorem d_Rd_showShortName_40 : decode cb_Rd_showShortName 40 = .ok (.bipush 46, 2) := by decide +kernel
theorem d_Rd_showShortName_42 : decode cb_Rd_showShortName 42 = .ok (.iastore, 1) := by decide +kernel
theorem d_Rd_showShortName_43 : decode cb_Rd_showShortName 43 = .ok (.iinc 2 1, 3) := by decide +kernel
theorem d_Rd_showShortName_46 : decode cb_Rd_showShortName 46 = .ok (.iload 4, 2) := by decide +kernel
theorem d_Rd_showShortName_48 : decode cb_Rd_showShortName 48 = .ok (.bipush 32, 2) := by decide +kernel
theorem d_Rd_showShortName_50 : decode cb_Rd_showShortName 50 = .ok (.if_icmp .eq 14, 3) := by decide +kernel
theorem d_Rd_showShortName_53 : decode cb_Rd_showShortName 53 = .ok (.aload_n 0, 1) := by decide +kernel
theorem d_Rd_showShortName_54 : decode cb_Rd_showShortName 54 = .ok (.getfield 9, 3) := by decide +kernel
theorem d_Rd_showShortName_57 : decode cb_Rd_showShortName 57 = .ok (.iload_n 2, 1) := by decide +kernel
theorem d_Rd_showShortName_58 : decode cb_Rd_showShortName 58 = .ok (.iload 4, 2) := by decide +kernel
theorem d_Rd_showShortName_60 : decode cb_Rd_showShortName 60 = .ok (.iastore, 1) := by decide +kernel
theorem d_Rd_showShortName_61 : decode cb_Rd_showShortName 61 = .ok (.iinc 2 1, 3) := by decide +kernel
theorem d_Rd_showShortName_64 : decode cb_Rd_showShortName 64 = .ok (.iinc 3 1, 3) := by decide +kernel
theorem d_Rd_showShortName_67 : decode cb_Rd_showShortName 67 = .ok (.goto (-63), 3) := by decide +kernel
theorem d_Rd_showShortName_70 : decode cb_Rd_showShortName 70 = .ok (.iload_n 2, 1) := by decide +kernel
theorem d_Rd_showShortName_71 : decode cb_Rd_showShortName 71 = .ok (.ireturn, 1) := by decide +kernel
theorem d_Rd_closeParts_0 : decode cb_Rd_closeParts 0 = .ok (.aload_n 0, 1) := by decide +kernel
theorem d_Rd_closeParts_1 : decode cb_Rd_closeParts 1 = .ok (.getfield 15, 3) := by decide +kernel
theorem d_Rd_closeParts_4 : decode cb_Rd_closeParts 4 = .ok (.bipush 13, 2) := by decide +kernel
theorem d_Rd_closeParts_6 : decode cb_Rd_closeParts 6 = .ok (.imul, 1) := by decide +kernel
theorem d_Rd_closeParts_7 : decode cb_Rd_closeParts 7 = .ok (.istore_n 2, 1) := by decide +kernel
theorem d_Rd_closeParts_8 : decode cb_Rd_closeParts 8 = .ok (.aload_n 0, 1) := by decide +kernel
theorem d_Rd_closeParts_9 : decode cb_Rd_closeParts 9 = .ok (.getfield 19, 3) := by decide +kernel
theorem d_Rd_closeParts_12 : decode cb_Rd_closeParts 12 = .ok (.ifCond .ne 27, 3) := by decide +kernel
theorem d_Rd_closeParts_15 : decode cb_Rd_closeParts 15 = .ok (.aload_n 0, 1) := by decide +kernel
theorem d_Rd_closeParts_16 : decode cb_Rd_closeParts 16 = .ok (.getfield 22, 3) := by decide +kernel
theorem d_Rd_closeParts_19 : decode cb_Rd_closeParts 19 = .ok (.aload_n 0, 1) := by decide +kernel
theorem d_Rd_closeParts_20 : decode cb_Rd_closeParts 20 = .ok (.getfield 25, 3) := by decide +kernel
theorem d_Rd_closeParts_23 : decode cb_Rd_closeParts 23 = .ok (.iload_n 1, 1) := by decide +kernel
theorem d_Rd_closeParts_24 : decode cb_Rd_closeParts 24 = .ok (.invokestatic 195, 3) := by decide +kernel
theorem d_Rd_closeParts_27 : decode cb_Rd_closeParts 27 = .ok (.if_icmp .ne 12, 3) := by decide +kernel
theorem d_Rd_closeParts_30 : decode cb_Rd_closeParts 30 = .ok (.iload_n 2, 1) := by decide +kernel
theorem d_Rd_closeParts_31 : decode cb_Rd_closeParts 31 = .ok (.aload_n 0, 1) := by decide +kernel
theorem d_Rd_closeParts_32 : decode cb_Rd_closeParts 32 = .ok (.getfield 9, 3) := by decide +kernel
theorem d_Rd_closeParts_35 : decode cb_Rd_closeParts 35 = .ok (.arraylength, 1) := by decide +kernel
theorem d_Rd_closeParts_36 : decode cb_Rd_closeParts 36 = .ok (.if_icmp .le 5, 3) := by decide +kernel
theorem d_Rd_closeParts_39 : decode cb_Rd_closeParts 39 = .ok (.iconst 0, 1) := by decide +kernel
theorem d_Rd_closeParts_40 : decode cb_Rd_closeParts 40 = .ok (.ireturn, 1) := by decide +kernel
theorem d_Rd_closeParts_41 : decode cb_Rd_closeParts 41 = .ok (.iconst 0, 1) := by decide +kernel
theorem d_Rd_closeParts_42 : decode cb_Rd_closeParts 42 = .ok (.istore_n 3, 1) := by decide +kernel
theorem d_Rd_closeParts_43 : decode cb_Rd_closeParts 43 = .ok (.iload_n 3, 1) := by decide +kernel
theorem d_Rd_closeParts_44 : decode cb_Rd_closeParts 44 = .ok (.iload_n 2, 1) := by decide +kernel
theorem d_Rd_closeParts_45 : decode cb_Rd_closeParts 45 = .ok (.if_icmp .ge 18, 3) := by decide +kernel
theorem d_Rd_closeParts_48 : decode cb_Rd_closeParts 48 = .ok (.aload_n 0, 1) := by decide +kernel
theorem d_Rd_closeParts_49 : decode cb_Rd_closeParts 49 = .ok (.getfield 9, 3) := by decide +kernel
theorem d_Rd_closeParts_52 : decode cb_Rd_closeParts 52 = .ok (.iload_n 3, 1) := by decide +kernel
theorem d_Rd_closeParts_53 : decode cb_Rd_closeParts 53 = .ok (.iaload, 1) := by decide +kernel
theorem d_Rd_closeParts_54 : decode cb_Rd_closeParts 54 = .ok (.ifCond .eq 9, 3) := by decide +kernel
theorem d_Rd_closeParts_57 : decode cb_Rd_closeParts 57 = .ok (.iinc 3 1, 3) := by decide +kernel
theorem d_Rd_closeParts_60 : decode cb_Rd_closeParts 60 = .ok (.goto (-17), 3) := by decide +kernel
theorem d_Rd_closeParts_63 : decode cb_Rd_closeParts 63 = .ok (.iload_n 3, 1) := by decide +kernel
theorem d_Rd_closeParts_64 : decode cb_Rd_closeParts 64 = .ok (.iconst 1, 1) := by decide +kernel
theorem d_Rd_closeParts_65 : decode cb_Rd_closeParts 65 = .ok (.iadd, 1) := by decide +kernel
theorem d_Rd_closeParts_66 : decode cb_Rd_closeParts 66 = .ok (.istore 4, 2) := by decide +kernel
theorem d_Rd_closeParts_68 : decode cb_Rd_closeParts 68 = .ok (.iload 4, 2) := by decide +kernel
theorem d_Rd_closeParts_70 : decode cb_Rd_closeParts 70 = .ok (.iload_n 2, 1) := by decide +kernel
theorem d_Rd_closeParts_71 : decode cb_Rd_closeParts 71 = .ok (.if_icmp .ge 23, 3) := by decide +kernel
theorem d_Rd_closeParts_74 : decode cb_Rd_closeParts 74 = .ok (.aload_n 0, 1) := by decide +kernel
theorem d_Rd_closeParts_75 : decode cb_Rd_closeParts 75 = .ok (.getfield 9, 3) := by decide +kernel
theorem d_Rd_closeParts_78 : decode cb_Rd_closeParts 78 = .ok (.iload 4, 2) := by decide +kernel
theorem d_Rd_closeParts_80 : decode cb_Rd_closeParts 80 = .ok (.iaload, 1) := by decide +kernel
theorem d_Rd_closeParts_81 : decode cb_Rd_closeParts 81 = .ok (.ldc 198, 2) := by decide +kernel
theorem d_Rd_closeParts_83 : decode cb_Rd_closeParts 83 = .ok (.if_icmp .eq 5, 3) := by decide +kernel
theorem d_Rd_closeParts_86 : decode cb_Rd_closeParts 86 = .ok (.iconst 0, 1) := by decide +kernel
theorem d_Rd_closeParts_87 : decode cb_Rd_closeParts 87 = .ok (.ireturn, 1) := by decide +kernel
theorem d_Rd_closeParts_88 : decode cb_Rd_closeParts 88 = .ok (.iinc 4 1, 3) := by decide +kernel
theorem d_Rd_closeParts_91 : decode cb_Rd_closeParts 91 = .ok (.goto (-23), 3) := by decide +kernel
theorem d_Rd_closeParts_94 : decode cb_Rd_closeParts 94 = .ok (.iload_n 3, 1) := by decide +kernel
theorem d_Rd_closeParts_95 : decode cb_Rd_closeParts 95 = .ok (.iload_n 2, 1) := by decide +kernel
theorem d_Rd_closeParts_96 : decode cb_Rd_closeParts 96 = .ok (.bipush 13, 2) := by decide +kernel
theorem d_Rd_closeParts_98 : decode cb_Rd_closeParts 98 = .ok (.isub, 1) := by decide +kernel
theorem d_Rd_closeParts_99 : decode cb_Rd_closeParts 99 = .ok (.if_icmp .le 18, 3) := by decide +kernel
theorem d_Rd_closeParts_102 : decode cb_Rd_closeParts 102 = .ok (.aload_n 0, 1) := by decide +kernel
theorem d_Rd_closeParts_103 : decode cb_Rd_closeParts 103 = .ok (.getfield 9, 3) := by decide +kernel
theorem d_Rd_closeParts_106 : decode cb_Rd_closeParts 106 = .ok (.iload_n 3, 1) := by decide +kernel
theorem d_Rd_closeParts_107 : decode cb_Rd_closeParts 107 = .ok (.invokestatic 199, 3) := by decide +kernel
theorem d_Rd_closeParts_110 : decode cb_Rd_closeParts 110 = .ok (.ifCond .eq 7, 3) := by decide +kernel
theorem d_Rd_closeParts_113 : decode cb_Rd_closeParts 113 = .ok (.iload_n 3, 1) := by decide +kernel
theorem d_Rd_closeParts_114 : decode cb_Rd_closeParts 114 = .ok (.goto 4, 3) := by decide +kernel
theorem d_Rd_closeParts_117 : decode cb_Rd_closeParts 117 = .ok (.iconst 0, 1) := by decide +kernel
theorem d_Rd_closeParts_118 : decode cb_Rd_closeParts 118 = .ok (.ireturn, 1) := by decide +kernel
theorem d_Rd_hasTwin_0 : decode cb_Rd_hasTwin 0 = .ok (.aload_n 0, 1) := by decide +kernel
theorem d_Rd_hasTwin_1 : decode cb_Rd_hasTwin 1 = .ok (.getfield 33, 3) := by decide +kernel
theorem d_Rd_hasTwin_4 : decode cb_Rd_hasTwin 4 = .ok (.iload_n 1, 1) := by decide +kernel
theorem d_Rd_hasTwin_5 : decode cb_Rd_hasTwin 5 = .ok (.iconst 0, 1) := by decide +kernel
theorem d_Rd_hasTwin_6 : decode cb_Rd_hasTwin 6 = .ok (.invokevirtual 203, 3) := by decide +kernel
theorem d_Rd_hasTwin_9 : decode cb_Rd_hasTwin 9 = .ok (.istore 4, 2) := by decide +kernel
theorem d_Rd_hasTwin_11 : decode cb_Rd_hasTwin 11 = .ok (.iload 4, 2) := by decide +kernel
theorem d_Rd_hasTwin_13 : decode cb_Rd_hasTwin 13 = .ok (.aload_n 0, 1) := by decide +kernel
theorem d_Rd_hasTwin_14 : decode cb_Rd_hasTwin 14 = .ok (.getfield 33, 3) := by decide +kernel
theorem d_Rd_hasTwin_17 : decode cb_Rd_hasTwin 17 = .ok (.getfield 70, 3) := by decide +kernel
theorem d_Rd_hasTwin_20 : decode cb_Rd_hasTwin 20 = .ok (.if_icmp .ge 45, 3) := by decide +kernel
theorem d_Rd_hasTwin_23 : decode cb_Rd_hasTwin 23 = .ok (.aload_n 0, 1) := by decide +kernel
theorem d_Rd_hasTwin_24 : decode cb_Rd_hasTwin 24 = .ok (.aload_n 0, 1) := by decide +kernel
theorem d_Rd_hasTwin_25 : decode cb_Rd_hasTwin 25 = .ok (.getfield 33, 3) := by decide +kernel
theorem d_Rd_hasTwin_28 : decode cb_Rd_hasTwin 28 = .ok (.iload 4, 2) := by decide +kernel
theorem d_Rd_hasTwin_30 : decode cb_Rd_hasTwin 30 = .ok (.invokevirtual 206, 3) := by decide +kernel
theorem d_Rd_hasTwin_33 : decode cb_Rd_hasTwin 33 = .ok (.iload_n 2, 1) := by decide +kernel
theorem d_Rd_hasTwin_34 : decode cb_Rd_hasTwin 34 = .ok (.invokevirtual 209, 3) := by decide +kernel
theorem d_Rd_hasTwin_37 : decode cb_Rd_hasTwin 37 = .ok (.ifCond .ne 20, 3) := by decide +kernel
theorem d_Rd_hasTwin_40 : decode cb_Rd_hasTwin 40 = .ok (.aload_n 0, 1) := by decide +kernel
theorem d_Rd_hasTwin_41 : decode cb_Rd_hasTwin 41 = .ok (.getfield 33, 3) := by decide +kernel
theorem d_Rd_hasTwin_44 : decode cb_Rd_hasTwin 44 = .ok (.iload 4, 2) := by decide +kernel
theorem d_Rd_hasTwin_46 : decode cb_Rd_hasTwin 46 = .ok (.aload_n 0, 1) := by decide +kernel
theorem d_Rd_hasTwin_47 : decode cb_Rd_hasTwin 47 = .ok (.getfield 9, 3) := by decide +kernel
theorem d_Rd_hasTwin_50 : decode cb_Rd_hasTwin 50 = .ok (.iload_n 3, 1) := by decide +kernel
theorem d_Rd_hasTwin_51 : decode cb_Rd_hasTwin 51 = .ok (.invokevirtual 212, 3) := by decide +kernel
theorem d_Rd_hasTwin_54 : decode cb_Rd_hasTwin 54 = .ok (.ifCond .eq 5, 3) := by decide +kernel
theorem d_Rd_hasTwin_57 : decode cb_Rd_hasTwin 57 = .ok (.iconst 1, 1) := by decide +kernel
theorem d_Rd_hasTwin_58 : decode cb_Rd_hasTwin 58 = .ok (.ireturn, 1) := by decide +kernel
theorem d_Rd_hasTwin_59 : decode cb_Rd_hasTwin 59 = .ok (.iinc 4 1, 3) := by decide +kernel
theorem d_Rd_hasTwin_62 : decode cb_Rd_hasTwin 62 = .ok (.goto (-51), 3) := by decide +kernel
theorem d_Rd_hasTwin_65 : decode cb_Rd_hasTwin 65 = .ok (.iconst 0, 1) := by decide +kernel
theorem d_Rd_hasTwin_66 : decode cb_Rd_hasTwin 66 = .ok (.ireturn, 1) := by decide +kernel
theorem d_Rd_sameShortName_0 : decode cb_Rd_sameShortName 0 = .ok (.iconst 0, 1) := by decide +kernel
theorem d_Rd_sameShortName_1 : decode cb_Rd_sameShortName 1 = .ok (.istore_n 3, 1) := by decide +kernel
theorem d_Rd_sameShortName_2 : decode cb_Rd_sameShortName 2 = .ok (.iload_n 3, 1) := by decide +kernel
theorem d_Rd_sameShortName_3 : decode cb_Rd_sameShortName 3 = .ok (.bipush 11, 2) := by decide +kernel
theorem d_Rd_sameShortName_5 : decode cb_Rd_sameShortName 5 = .ok (.if_icmp .ge 34, 3) := by decide +kernel
theorem d_Rd_sameShortName_8 : decode cb_Rd_sameShortName 8 = .ok (.aload_n 0, 1) := by decide +kernel
theorem d_Rd_sameShortName_9 : decode cb_Rd_sameShortName 9 = .ok (.getfield 25, 3) := by decide +kernel
theorem d_Rd_sameShortName_12 : decode cb_Rd_sameShortName 12 = .ok (.iload_n 1, 1) := by decide +kernel
theorem d_Rd_sameShortName_13 : decode cb_Rd_sameShortName 13 = .ok (.iload_n 3, 1) := by decide +kernel
theorem d_Rd_sameShortName_14 : decode cb_Rd_sameShortName 14 = .ok (.iadd, 1) := by decide +kernel
theorem d_Rd_sameShortName_15 : decode cb_Rd_sameShortName 15 = .ok (.invokevirtual 115, 3) := by decide +kernel
theorem d_Rd_sameShortName_18 : decode cb_Rd_sameShortName 18 = .ok (.aload_n 0, 1) := by decide +kernel
theorem d_Rd_sameShortName_19 : decode cb_Rd_sameShortName 19 = .ok (.getfield 25, 3) := by decide +kernel
theorem d_Rd_sameShortName_22 : decode cb_Rd_sameShortName 22 = .ok (.iload_n 2, 1) := by decide +kernel
theorem d_Rd_sameShortName_23 : decode cb_Rd_sameShortName 23 = .ok (.iload_n 3, 1) := by decide +kernel
theorem d_Rd_sameShortName_24 : decode cb_Rd_sameShortName 24 = .ok (.iadd, 1) := by decide +kernel
theorem d_Rd_sameShortName_25 : decode cb_Rd_sameShortName 25 = .ok (.invokevirtual 115, 3) := by decide +kernel
theorem d_Rd_sameShortName_28 : decode cb_Rd_sameShortName 28 = .ok (.if_icmp .eq 5, 3) := by decide +kernel
theorem d_Rd_sameShortName_31 : decode cb_Rd_sameShortName 31 = .ok (.iconst 0, 1) := by decide +kernel
theorem d_Rd_sameShortName_32 : decode cb_Rd_sameShortName 32 = .ok (.ireturn, 1) := by decide +kernel
theorem d_Rd_sameShortName_33 : decode cb_Rd_sameShortName 33 = .ok (.iinc 3 1, 3) := by decide +kernel
theorem d_Rd_sameShortName_36 : decode cb_Rd_sameShortName 36 = .ok (.goto (-34), 3) := by decide +kernel
theorem d_Rd_sameShortName_39 : decode cb_Rd_sameShortName 39 = .ok (.iconst 1, 1) := by decide +kernel
theorem d_Rd_sameShortName_40 : decode cb_Rd_sameShortName 40 = .ok (.ireturn, 1) := by decide +kernel
theorem d_Rd_followFile_0 : decode cb_Rd_followFile 0 = .ok (.aload_n 0, 1) := by decide +kernel
theorem d_Rd_followFile_1 : decode cb_Rd_followFile 1 = .ok (.getfield 33, 3) := by decide +kernel
theorem d_Rd_followFile_4 : decode cb_Rd_followFile 4 = .ok (.iload_n 1, 1) := by decide +kernel
theorem d_Rd_followFile_5 : decode cb_Rd_followFile 5 = .ok (.invokevirtual 73, 3) := by decide +kernel
theorem d_Rd_followFile_8 : decode cb_Rd_followFile 8 = .ok (.ifCond .eq 5, 3) := by decide +kernel
theorem d_Rd_followFile_11 : decode cb_Rd_followFile 11 = .ok (.iconst 1, 1) := by decide +kernel
theorem d_Rd_followFile_12 : decode cb_Rd_followFile 12 = .ok (.ireturn, 1) := by decide +kernel
theorem d_Rd_followFile_13 : decode cb_Rd_followFile 13 = .ok (.lload_n 2, 1) := by decide +kernel
theorem d_Rd_followFile_14 : decode cb_Rd_followFile 14 = .ok (.lconst 0, 1) := by decide +kernel
theorem d_Rd_followFile_15 : decode cb_Rd_followFile 15 = .ok (.lcmp, 1) := by decide +kernel
theorem d_Rd_followFile_16 : decode cb_Rd_followFile 16 = .ok (.ifCond .ne 20, 3) := by decide +kernel
theorem d_Rd_followFile_19 : decode cb_Rd_followFile 19 = .ok (.aload_n 0, 1) := by decide +kernel
theorem d_Rd_followFile_20 : decode cb_Rd_followFile 20 = .ok (.getfield 33, 3) := by decide +kernel
theorem d_Rd_followFile_23 : decode cb_Rd_followFile 23 = .ok (.iload_n 1, 1) := by decide +kernel
theorem d_Rd_followFile_24 : decode cb_Rd_followFile 24 = .ok (.invokevirtual 95, 3) := by decide +kernel
theorem d_Rd_followFile_27 : decode cb_Rd_followFile 27 = .ok (.ifCond .ne 7, 3) := by decide +kernel
theorem d_Rd_followFile_30 : decode cb_Rd_followFile 30 = .ok (.iconst 1, 1) := by decide +kernel
theorem d_Rd_followFile_31 : decode cb_Rd_followFile 31 = .ok (.goto 4, 3) := by decide +kernel
theorem d_Rd_followFile_34 : decode cb_Rd_followFile 34 = .ok (.iconst 0, 1) := by decide +kernel
theorem d_Rd_followFile_35 : decode cb_Rd_followFile 35 = .ok (.ireturn, 1) := by decide +kernel
theorem d_Rd_followFile_36 : decode cb_Rd_followFile 36 = .ok (.aload_n 0, 1) := by decide +kernel
theorem d_Rd_followFile_37 : decode cb_Rd_followFile 37 = .ok (.getfield 29, 3) := by decide +kernel
theorem d_Rd_followFile_40 : decode cb_Rd_followFile 40 = .ok (.invokevirtual 216, 3) := by decide +kernel
theorem d_Rd_followFile_43 : decode cb_Rd_followFile 43 = .ok (.i2l, 1) := by decide +kernel
theorem d_Rd_followFile_44 : decode cb_Rd_followFile 44 = .ok (.lstore 4, 2) := by decide +kernel
theorem d_Rd_followFile_46 : decode cb_Rd_followFile 46 = .ok (.lload 4, 2) := by decide +kernel
theorem d_Rd_followFile_48 : decode cb_Rd_followFile 48 = .ok (.lconst 1, 1) := by decide +kernel
theorem d_Rd_followFile_49 : decode cb_Rd_followFile 49 = .ok (.lcmp, 1) := by decide +kernel
theorem d_Rd_followFile_50 : decode cb_Rd_followFile 50 = .ok (.ifCond .lt 33, 3) := by decide +kernel
theorem d_Rd_followFile_53 : decode cb_Rd_followFile 53 = .ok (.aload_n 0, 1) := by decide +kernel
theorem d_Rd_followFile_54 : decode cb_Rd_followFile 54 = .ok (.aload_n 0, 1) := by decide +kernel
theorem d_Rd_followFile_55 : decode cb_Rd_followFile 55 = .ok (.getfield 33, 3) := by decide +kernel
theorem d_Rd_followFile_58 : decode cb_Rd_followFile 58 = .ok (.iload_n 1, 1) := by decide +kernel
theorem d_Rd_followFile_59 : decode cb_Rd_followFile 59 = .ok (.invokevirtual 95, 3) := by decide +kernel
theorem d_Rd_followFile_62 : decode cb_Rd_followFile 62 = .ok (.aload_n 0, 1) := by decide +kernel
theorem d_Rd_followFile_63 : decode cb_Rd_followFile 63 = .ok (.getfield 50, 3) := by decide +kernel
theorem d_Rd_followFile_66 : decode cb_Rd_followFile 66 = .ok (.invokevirtual 98, 3) := by decide +kernel
theorem d_Rd_followFile_69 : decode cb_Rd_followFile 69 = .ok (.i2l, 1) := by decide +kernel
theorem d_Rd_followFile_70 : decode cb_Rd_followFile 70 = .ok (.lload_n 2, 1) := by decide +kernel
theorem d_Rd_followFile_71 : decode cb_Rd_followFile 71 = .ok (.lload 4, 2) := by decide +kernel
theorem d_Rd_followFile_73 : decode cb_Rd_followFile 73 = .ok (.ladd, 1) := by decide +kernel
theorem d_Rd_followFile_74 : decode cb_Rd_followFile 74 = .ok (.lconst 1, 1) := by decide +kernel
theorem d_Rd_followFile_75 : decode cb_Rd_followFile 75 = .ok (.lsub, 1) := by decide +kernel
theorem d_Rd_followFile_76 : decode cb_Rd_followFile 76 = .ok (.lload 4, 2) := by decide +kernel
theorem d_Rd_followFile_78 : decode cb_Rd_followFile 78 = .ok (.ldiv, 1) := by decide +kernel
theorem d_Rd_followFile_79 : decode cb_Rd_followFile 79 = .ok (.lcmp, 1) := by decide +kernel
theorem d_Rd_followFile_80 : decode cb_Rd_followFile 80 = .ok (.ifCond .eq 5, 3) := by decide +kernel
theorem d_Rd_followFile_83 : decode cb_Rd_followFile 83 = .ok (.iconst 0, 1) := by decide +kernel
theorem d_Rd_followFile_84 : decode cb_Rd_followFile 84 = .ok (.ireturn, 1) := by decide +kernel
theorem d_Rd_followFile_85 : decode cb_Rd_followFile 85 = .ok (.aload_n 0, 1) := by decide +kernel
theorem d_Rd_followFile_86 : decode cb_Rd_followFile 86 = .ok (.getfield 33, 3) := by decide +kernel
theorem d_Rd_followFile_89 : decode cb_Rd_followFile 89 = .ok (.iload_n 1, 1) := by decide +kernel
theorem d_Rd_followFile_90 : decode cb_Rd_followFile 90 = .ok (.lload_n 2, 1) := by decide +kernel
theorem d_Rd_followFile_91 : decode cb_Rd_followFile 91 = .ok (.l2i, 1) := by decide +kernel
theorem d_Rd_followFile_92 : decode cb_Rd_followFile 92 = .ok (.invokevirtual 219, 3) := by decide +kernel
theorem d_Rd_followFile_95 : decode cb_Rd_followFile 95 = .ok (.iconst 1, 1) := by decide +kernel
theorem d_Rd_followFile_96 : decode cb_Rd_followFile 96 = .ok (.ireturn, 1) := by decide +kernel
theorem d_Rd_unitPlace_0 : decode b_Rd_unitPlace 0 = .ok (.iload_n 0, 1) := by decide +kernel
theorem d_Rd_unitPlace_1 : decode b_Rd_unitPlace 1 = .ok (.iconst 5, 1) := by decide +kernel
theorem d_Rd_unitPlace_2 : decode b_Rd_unitPlace 2 = .ok (.if_icmp .ge 11, 3) := by decide +kernel
theorem d_Rd_unitPlace_5 : decode b_Rd_unitPlace 5 = .ok (.iconst 1, 1) := by decide +kernel
theorem d_Rd_unitPlace_6 : decode b_Rd_unitPlace 6 = .ok (.iconst 2, 1) := by decide +kernel
theorem d_Rd_unitPlace_7 : decode b_Rd_unitPlace 7 = .ok (.iload_n 0, 1) := by decide +kernel
theorem d_Rd_unitPlace_8 : decode b_Rd_unitPlace 8 = .ok (.imul, 1) := by decide +kernel
theorem d_Rd_unitPlace_9 : decode b_Rd_unitPlace 9 = .ok (.iadd, 1) := by decide +kernel
theorem d_Rd_unitPlace_10 : decode b_Rd_unitPlace 10 = .ok (.goto 23, 3) := by decide +kernel
theorem d_Rd_unitPlace_13 : decode b_Rd_unitPlace 13 = .ok (.iload_n 0, 1) := by decide +kernel
theorem d_Rd_unitPlace_14 : decode b_Rd_unitPlace 14 = .ok (.bipush 11, 2) := by decide +kernel
theorem d_Rd_unitPlace_16 : decode b_Rd_unitPlace 16 = .ok (.if_icmp .ge 11, 3) := by decide +kernel
theorem d_Rd_unitPlace_19 : decode b_Rd_unitPlace 19 = .ok (.iconst 4, 1) := by decide +kernel
theorem d_Rd_unitPlace_20 : decode b_Rd_unitPlace 20 = .ok (.iconst 2, 1) := by decide +kernel
theorem d_Rd_unitPlace_21 : decode b_Rd_unitPlace 21 = .ok (.iload_n 0, 1) := by decide +kernel
theorem d_Rd_unitPlace_22 : decode b_Rd_unitPlace 22 = .ok (.imul, 1) := by decide +kernel
theorem d_Rd_unitPlace_23 : decode b_Rd_unitPlace 23 = .ok (.iadd, 1) := by decide +kernel
theorem d_Rd_unitPlace_24 : decode b_Rd_unitPlace 24 = .ok (.goto 9, 3) := by decide +kernel
theorem d_Rd_unitPlace_27 : decode b_Rd_unitPlace 27 = .ok (.bipush 6, 2) := by decide +kernel
theorem d_Rd_unitPlace_29 : decode b_Rd_unitPlace 29 = .ok (.iconst 2, 1) := by decide +kernel
theorem d_Rd_unitPlace_30 : decode b_Rd_unitPlace 30 = .ok (.iload_n 0, 1) := by decide +kernel
theorem d_Rd_unitPlace_31 : decode b_Rd_unitPlace 31 = .ok (.imul, 1) := by decide +kernel
theorem d_Rd_unitPlace_32 : decode b_Rd_unitPlace 32 = .ok (.iadd, 1) := by decide +kernel
theorem d_Rd_unitPlace_33 : decode b_Rd_unitPlace 33 = .ok (.ireturn, 1) := by decide +kernel
theorem d_Ed_writeLabel_0 : decode cb_Ed_writeLabel 0 = .ok (.aload_n 0, 1) := by decide +kernel
theorem d_Ed_writeLabel_1 : decode cb_Ed_writeLabel 1 = .ok (.getfield 45, 3) := by decide +kernel
theorem d_Ed_writeLabel_4 : decode cb_Ed_writeLabel 4 = .ok (.aload_n 0, 1) := by decide +kernel
theorem d_Ed_writeLabel_5 : decode cb_Ed_writeLabel 5 = .ok (.getfield 45, 3) := by decide +kernel
theorem d_Ed_writeLabel_8 : decode cb_Ed_writeLabel 8 = .ok (.getfield 62, 3) := by decide +kernel
theorem d_Ed_writeLabel_11 : decode cb_Ed_writeLabel 11 = .ok (.invokevirtual 65, 3) := by decide +kernel
theorem d_Ed_writeLabel_14 : decode cb_Ed_writeLabel 14 = .ok (.istore_n 3, 1) := by decide +kernel
theorem d_Ed_writeLabel_15 : decode cb_Ed_writeLabel 15 = .ok (.iconst 0, 1) := by decide +kernel
theorem d_Ed_writeLabel_16 : decode cb_Ed_writeLabel 16 = .ok (.istore 4, 2) := by decide +kernel
theorem d_Ed_writeLabel_18 : decode cb_Ed_writeLabel 18 = .ok (.iload 4, 2) := by decide +kernel
theorem d_Ed_writeLabel_20 : decode cb_Ed_writeLabel 20 = .ok (.bipush 11, 2) := by decide +kernel
theorem d_Ed_writeLabel_22 : decode cb_Ed_writeLabel 22 = .ok (.if_icmp .ge 37, 3) := by decide +kernel
theorem d_Ed_writeLabel_25 : decode cb_Ed_writeLabel 25 = .ok (.aload_n 0, 1) := by decide +kernel
theorem d_Ed_writeLabel_26 : decode cb_Ed_writeLabel 26 = .ok (.getfield 41, 3) := by decide +kernel
theorem d_Ed_writeLabel_29 : decode cb_Ed_writeLabel 29 = .ok (.iload_n 3, 1) := by decide +kernel
theorem d_Ed_writeLabel_30 : decode cb_Ed_writeLabel 30 = .ok (.iload 4, 2) := by decide +kernel
theorem d_Ed_writeLabel_32 : decode cb_Ed_writeLabel 32 = .ok (.iadd, 1) := by decide +kernel
theorem d_Ed_writeLabel_33 : decode cb_Ed_writeLabel 33 = .ok (.iload 4, 2) := by decide +kernel
theorem d_Ed_writeLabel_35 : decode cb_Ed_writeLabel 35 = .ok (.iload_n 2, 1) := by decide +kernel
theorem d_Ed_writeLabel_36 : decode cb_Ed_writeLabel 36 = .ok (.if_icmp .ge 12, 3) := by decide +kernel
theorem d_Ed_writeLabel_39 : decode cb_Ed_writeLabel 39 = .ok (.aload_n 1, 1) := by decide +kernel
theorem d_Ed_writeLabel_40 : decode cb_Ed_writeLabel 40 = .ok (.iload 4, 2) := by decide +kernel
theorem d_Ed_writeLabel_42 : decode cb_Ed_writeLabel 42 = .ok (.invokevirtual 69, 3) := by decide +kernel
theorem d_Ed_writeLabel_45 : decode cb_Ed_writeLabel 45 = .ok (.goto 5, 3) := by decide +kernel
theorem d_Ed_writeLabel_48 : decode cb_Ed_writeLabel 48 = .ok (.bipush 32, 2) := by decide +kernel
theorem d_Ed_writeLabel_50 : decode cb_Ed_writeLabel 50 = .ok (.invokevirtual 74, 3) := by decide +kernel
theorem d_Ed_writeLabel_53 : decode cb_Ed_writeLabel 53 = .ok (.iinc 4 1, 3) := by decide +kernel
theorem d_Ed_writeLabel_56 : decode cb_Ed_writeLabel 56 = .ok (.goto (-38), 3) := by decide +kernel
theorem d_Ed_writeLabel_59 : decode cb_Ed_writeLabel 59 = .ok (.aload_n 0, 1) := by decide +kernel
theorem d_Ed_writeLabel_60 : decode cb_Ed_writeLabel 60 = .ok (.getfield 41, 3) := by decide +kernel
theorem d_Ed_writeLabel_63 : decode cb_Ed_writeLabel 63 = .ok (.iload_n 3, 1) := by decide +kernel
theorem d_Ed_writeLabel_64 : decode cb_Ed_writeLabel 64 = .ok (.bipush 11, 2) := by decide +kernel
theorem d_Ed_writeLabel_66 : decode cb_Ed_writeLabel 66 = .ok (.iadd, 1) := by decide +kernel
theorem d_Ed_writeLabel_67 : decode cb_Ed_writeLabel 67 = .ok (.bipush 8, 2) := by decide +kernel
theorem d_Ed_writeLabel_69 : decode cb_Ed_writeLabel 69 = .ok (.invokevirtual 74, 3) := by decide +kernel
theorem d_Ed_writeLabel_72 : decode cb_Ed_writeLabel 72 = .ok (.aload_n 0, 1) := by decide +kernel
theorem d_Ed_writeLabel_73 : decode cb_Ed_writeLabel 73 = .ok (.getfield 41, 3) := by decide +kernel
theorem d_Ed_writeLabel_76 : decode cb_Ed_writeLabel 76 = .ok (.iload_n 3, 1) := by decide +kernel
theorem d_Ed_writeLabel_77 : decode cb_Ed_writeLabel 77 = .ok (.bipush 24, 2) := by decide +kernel
theorem d_Ed_writeLabel_79 : decode cb_Ed_writeLabel 79 = .ok (.iadd, 1) := by decide +kernel
theorem d_Ed_writeLabel_80 : decode cb_Ed_writeLabel 80 = .ok (.bipush 33, 2) := by decide +kernel
theorem d_Ed_writeLabel_82 : decode cb_Ed_writeLabel 82 = .ok (.invokevirtual 82, 3) := by decide +kernel
theorem d_Ed_writeLabel_85 : decode cb_Ed_writeLabel 85 = .ok (.return_, 1) := by decide +kernel
theorem d_Ed_readName_0 : decode cb_Ed_readName 0 = .ok (.iload_n 2, 1) := by decide +kernel
theorem d_Ed_readName_1 : decode cb_Ed_readName 1 = .ok (.iconst 2, 1) := by decide +kernel
theorem d_Ed_readName_2 : decode cb_Ed_readName 2 = .ok (.irem, 1) := by decide +kernel
theorem d_Ed_readName_3 : decode cb_Ed_readName 3 = .ok (.ifCond .ne 10, 3) := by decide +kernel
theorem d_Ed_readName_6 : decode cb_Ed_readName 6 = .ok (.iload_n 2, 1) := by decide +kernel
theorem d_Ed_readName_7 : decode cb_Ed_readName 7 = .ok (.sipush 510, 3) := by decide +kernel
theorem d_Ed_readName_10 : decode cb_Ed_readName 10 = .ok (.if_icmp .le 5, 3) := by decide +kernel
theorem d_Ed_readName_13 : decode cb_Ed_readName 13 = .ok (.iconst 0, 1) := by decide +kernel
theorem d_Ed_readName_14 : decode cb_Ed_readName 14 = .ok (.ireturn, 1) := by decide +kernel
theorem d_Ed_readName_15 : decode cb_Ed_readName 15 = .ok (.aload_n 0, 1) := by decide +kernel
theorem d_Ed_readName_16 : decode cb_Ed_readName 16 = .ok (.iload_n 2, 1) := by decide +kernel
theorem d_Ed_readName_17 : decode cb_Ed_readName 17 = .ok (.iconst 2, 1) := by decide +kernel
theorem d_Ed_readName_18 : decode cb_Ed_readName 18 = .ok (.idiv, 1) := by decide +kernel
theorem d_Ed_readName_19 : decode cb_Ed_readName 19 = .ok (.putfield 19, 3) := by decide +kernel
theorem d_Ed_readName_22 : decode cb_Ed_readName 22 = .ok (.iconst 0, 1) := by decide +kernel
theorem d_Ed_readName_23 : decode cb_Ed_readName 23 = .ok (.istore_n 3, 1) := by decide +kernel
theorem d_Ed_readName_24 : decode cb_Ed_readName 24 = .ok (.iload_n 3, 1) := by decide +kernel
theorem d_Ed_readName_25 : decode cb_Ed_readName 25 = .ok (.aload_n 0, 1) := by decide +kernel
theorem d_Ed_readName_26 : decode cb_Ed_readName 26 = .ok (.getfield 19, 3) := by decide +kernel
theorem d_Ed_readName_29 : decode cb_Ed_readName 29 = .ok (.if_icmp .ge 42, 3) := by decide +kernel
theorem d_Ed_readName_32 : decode cb_Ed_readName 32 = .ok (.iload_n 3, 1) := by decide +kernel
theorem d_Ed_readName_33 : decode cb_Ed_readName 33 = .ok (.sipush 255, 3) := by decide +kernel
theorem d_Ed_readName_36 : decode cb_Ed_readName 36 = .ok (.if_icmp .ge 35, 3) := by decide +kernel
theorem d_Ed_readName_39 : decode cb_Ed_readName 39 = .ok (.aload_n 0, 1) := by decide +kernel
theorem d_Ed_readName_40 : decode cb_Ed_readName 40 = .ok (.getfield 15, 3) := by decide +kernel
theorem d_Ed_readName_43 : decode cb_Ed_readName 43 = .ok (.iload_n 3, 1) := by decide +kernel
theorem d_Ed_readName_44 : decode cb_Ed_readName 44 = .ok (.aload_n 1, 1) := by decide +kernel
theorem d_Ed_readName_45 : decode cb_Ed_readName 45 = .ok (.iconst 2, 1) := by decide +kernel
theorem d_Ed_readName_46 : decode cb_Ed_readName 46 = .ok (.iload_n 3, 1) := by decide +kernel
theorem d_Ed_readName_47 : decode cb_Ed_readName 47 = .ok (.imul, 1) := by decide +kernel
theorem d_Ed_readName_48 : decode cb_Ed_readName 48 = .ok (.invokevirtual 69, 3) := by decide +kernel
theorem d_Ed_readName_51 : decode cb_Ed_readName 51 = .ok (.bipush 8, 2) := by decide +kernel
theorem d_Ed_readName_53 : decode cb_Ed_readName 53 = .ok (.ishl, 1) := by decide +kernel
theorem d_Ed_readName_54 : decode cb_Ed_readName 54 = .ok (.aload_n 1, 1) := by decide +kernel
theorem d_Ed_readName_55 : decode cb_Ed_readName 55 = .ok (.iconst 2, 1) := by decide +kernel
theorem d_Ed_readName_56 : decode cb_Ed_readName 56 = .ok (.iload_n 3, 1) := by decide +kernel
theorem d_Ed_readName_57 : decode cb_Ed_readName 57 = .ok (.imul, 1) := by decide +kernel
theorem d_Ed_readName_58 : decode cb_Ed_readName 58 = .ok (.iconst 1, 1) := by decide +kernel
theorem d_Ed_readName_59 : decode cb_Ed_readName 59 = .ok (.iadd, 1) := by decide +kernel
theorem d_Ed_readName_60 : decode cb_Ed_readName 60 = .ok (.invokevirtual 69, 3) := by decide +kernel
theorem d_Ed_readName_63 : decode cb_Ed_readName 63 = .ok (.ior, 1) := by decide +kernel
theorem d_Ed_readName_64 : decode cb_Ed_readName 64 = .ok (.iastore, 1) := by decide +kernel
theorem d_Ed_readName_65 : decode cb_Ed_readName 65 = .ok (.iinc 3 1, 3) := by decide +kernel
theorem d_Ed_readName_68 : decode cb_Ed_readName 68 = .ok (.goto (-44), 3) := by decide +kernel
theorem d_Ed_readName_71 : decode cb_Ed_readName 71 = .ok (.aload_n 0, 1) := by decide +kernel
theorem d_Ed_readName_72 : decode cb_Ed_readName 72 = .ok (.getfield 15, 3) := by decide +kernel
theorem d_Ed_readName_75 : decode cb_Ed_readName 75 = .ok (.aload_n 0, 1) := by decide +kernel
theorem d_Ed_readName_76 : decode cb_Ed_readName 76 = .ok (.getfield 19, 3) := by decide +kernel
theorem d_Ed_readName_79 : decode cb_Ed_readName 79 = .ok (.invokestatic 85, 3) := by decide +kernel
theorem d_Ed_readName_82 : decode cb_Ed_readName 82 = .ok (.ifCond .ne 5, 3) := by decide +kernel
theorem d_Ed_readName_85 : decode cb_Ed_readName 85 = .ok (.iconst 0, 1) := by decide +kernel
theorem d_Ed_readName_86 : decode cb_Ed_readName 86 = .ok (.ireturn, 1) := by decide +kernel
theorem d_Ed_readName_87 : decode cb_Ed_readName 87 = .ok (.aload_n 0, 1) := by decide +kernel
theorem d_Ed_readName_88 : decode cb_Ed_readName 88 = .ok (.aload_n 0, 1) := by decide +kernel
theorem d_Ed_readName_89 : decode cb_Ed_readName 89 = .ok (.invokevirtual 91, 3) := by decide +kernel
theorem d_Ed_readName_92 : decode cb_Ed_readName 92 = .ok (.putfield 25, 3) := by decide +kernel
theorem d_Ed_readName_95 : decode cb_Ed_readName 95 = .ok (.iconst 1, 1) := by decide +kernel
theorem d_Ed_readName_96 : decode cb_Ed_readName 96 = .ok (.ireturn, 1) := by decide +kernel
theorem d_Ed_lastPoint_0 : decode cb_Ed_lastPoint 0 = .ok (.aload_n 0, 1) := by decide +kernel
theorem d_Ed_lastPoint_1 : decode cb_Ed_lastPoint 1 = .ok (.getfield 19, 3) := by decide +kernel
theorem d_Ed_lastPoint_4 : decode cb_Ed_lastPoint 4 = .ok (.iconst 1, 1) := by decide +kernel
theorem d_Ed_lastPoint_5 : decode cb_Ed_lastPoint 5 = .ok (.isub, 1) := by decide +kernel
theorem d_Ed_lastPoint_6 : decode cb_Ed_lastPoint 6 = .ok (.istore_n 1, 1) := by decide +kernel
theorem d_Ed_lastPoint_7 : decode cb_Ed_lastPoint 7 = .ok (.iload_n 1, 1) := by decide +kernel
theorem d_Ed_lastPoint_8 : decode cb_Ed_lastPoint 8 = .ok (.ifCond .le 22, 3) := by decide +kernel
theorem d_Ed_lastPoint_11 : decode cb_Ed_lastPoint 11 = .ok (.aload_n 0, 1) := by decide +kernel
theorem d_Ed_lastPoint_12 : decode cb_Ed_lastPoint 12 = .ok (.getfield 15, 3) := by decide +kernel
theorem d_Ed_lastPoint_15 : decode cb_Ed_lastPoint 15 = .ok (.iload_n 1, 1) := by decide +kernel
theorem d_Ed_lastPoint_16 : decode cb_Ed_lastPoint 16 = .ok (.iaload, 1) := by decide +kernel
theorem d_Ed_lastPoint_17 : decode cb_Ed_lastPoint 17 = .ok (.bipush 46, 2) := by decide +kernel
theorem d_Ed_lastPoint_19 : decode cb_Ed_lastPoint 19 = .ok (.if_icmp .ne 5, 3) := by decide +kernel
theorem d_Ed_lastPoint_22 : decode cb_Ed_lastPoint 22 = .ok (.iload_n 1, 1) := by decide +kernel
theorem d_Ed_lastPoint_23 : decode cb_Ed_lastPoint 23 = .ok (.ireturn, 1) := by decide +kernel
theorem d_Ed_lastPoint_24 : decode cb_Ed_lastPoint 24 = .ok (.iinc 1 (-1), 3) := by decide +kernel
theorem d_Ed_lastPoint_27 : decode cb_Ed_lastPoint 27 = .ok (.goto (-20), 3) := by decide +kernel
theorem d_Ed_lastPoint_30 : decode cb_Ed_lastPoint 30 = .ok (.iconst (-1), 1) := by decide +kernel
theorem d_Ed_lastPoint_31 : decode cb_Ed_lastPoint 31 = .ok (.ireturn, 1) := by decide +kernel
theorem d_Ed_takePlainName_0 : decode cb_Ed_takePlainName 0 = .ok (.aload_n 0, 1) := by decide +kernel
theorem d_Ed_takePlainName_1 : decode cb_Ed_takePlainName 1 = .ok (.invokevirtual 95, 3) := by decide +kernel
theorem d_Ed_takePlainName_4 : decode cb_Ed_takePlainName 4 = .ok (.istore_n 1, 1) := by decide +kernel
theorem d_Ed_takePlainName_5 : decode cb_Ed_takePlainName 5 = .ok (.iload_n 1, 1) := by decide +kernel
theorem d_Ed_takePlainName_6 : decode cb_Ed_takePlainName 6 = .ok (.iconst (-1), 1) := by decide +kernel
theorem d_Ed_takePlainName_7 : decode cb_Ed_takePlainName 7 = .ok (.if_icmp .ne 10, 3) := by decide +kernel
theorem d_Ed_takePlainName_10 : decode cb_Ed_takePlainName 10 = .ok (.aload_n 0, 1) := by decide +kernel
theorem d_Ed_takePlainName_11 : decode cb_Ed_takePlainName 11 = .ok (.getfield 19, 3) := by decide +kernel
theorem d_Ed_takePlainName_14 : decode cb_Ed_takePlainName 14 = .ok (.goto 4, 3) := by decide +kernel
theorem d_Ed_takePlainName_17 : decode cb_Ed_takePlainName 17 = .ok (.iload_n 1, 1) := by decide +kernel
theorem d_Ed_takePlainName_18 : decode cb_Ed_takePlainName 18 = .ok (.istore_n 2, 1) := by decide +kernel
theorem d_Ed_takePlainName_19 : decode cb_Ed_takePlainName 19 = .ok (.iload_n 1, 1) := by decide +kernel
theorem d_Ed_takePlainName_20 : decode cb_Ed_takePlainName 20 = .ok (.iconst (-1), 1) := by decide +kernel
theorem d_Ed_takePlainName_21 : decode cb_Ed_takePlainName 21 = .ok (.if_icmp .ne 7, 3) := by decide +kernel
theorem d_Ed_takePlainName_24 : decode cb_Ed_takePlainName 24 = .ok (.iconst 0, 1) := by decide +kernel
theorem d_Ed_takePlainName_25 : decode cb_Ed_takePlainName 25 = .ok (.goto 11, 3) := by decide +kernel
theorem d_Ed_takePlainName_28 : decode cb_Ed_takePlainName 28 = .ok (.aload_n 0, 1) := by decide +kernel
theorem d_Ed_takePlainName_29 : decode cb_Ed_takePlainName 29 = .ok (.getfield 19, 3) := by decide +kernel
theorem d_Ed_takePlainName_32 : decode cb_Ed_takePlainName 32 = .ok (.iload_n 1, 1) := by decide +kernel
theorem d_Ed_takePlainName_33 : decode cb_Ed_takePlainName 33 = .ok (.isub, 1) := by decide +kernel
theorem d_Ed_takePlainName_34 : decode cb_Ed_takePlainName 34 = .ok (.iconst 1, 1) := by decide +kernel
theorem d_Ed_takePlainName_35 : decode cb_Ed_takePlainName 35 = .ok (.isub, 1) := by decide +kernel
theorem d_Ed_takePlainName_36 : decode cb_Ed_takePlainName 36 = .ok (.istore_n 3, 1) := by decide +kernel
theorem d_Ed_takePlainName_37 : decode cb_Ed_takePlainName 37 = .ok (.iload_n 2, 1) := by decide +kernel
theorem d_Ed_takePlainName_38 : decode cb_Ed_takePlainName 38 = .ok (.bipush 8, 2) := by decide +kernel
theorem d_Ed_takePlainName_40 : decode cb_Ed_takePlainName 40 = .ok (.if_icmp .gt 8, 3) := by decide +kernel
theorem d_Ed_takePlainName_43 : decode cb_Ed_takePlainName 43 = .ok (.iload_n 3, 1) := by decide +kernel
theorem d_Ed_takePlainName_44 : decode cb_Ed_takePlainName 44 = .ok (.iconst 3, 1) := by decide +kernel
theorem d_Ed_takePlainName_45 : decode cb_Ed_takePlainName 45 = .ok (.if_icmp .le 5, 3) := by decide +kernel
theorem d_Ed_takePlainName_48 : decode cb_Ed_takePlainName 48 = .ok (.iconst 0, 1) := by decide +kernel
theorem d_Ed_takePlainName_49 : decode cb_Ed_takePlainName 49 = .ok (.ireturn, 1) := by decide +kernel
theorem d_Ed_takePlainName_50 : decode cb_Ed_takePlainName 50 = .ok (.aload_n 0, 1) := by decide +kernel
theorem d_Ed_takePlainName_51 : decode cb_Ed_takePlainName 51 = .ok (.getfield 22, 3) := by decide +kernel
theorem d_Ed_takePlainName_54 : decode cb_Ed_takePlainName 54 = .ok (.bipush 32, 2) := by decide +kernel
theorem d_Ed_takePlainName_56 : decode cb_Ed_takePlainName 56 = .ok (.invokestatic 98, 3) := by decide +kernel
theorem d_Ed_takePlainName_59 : decode cb_Ed_takePlainName 59 = .ok (.iconst 0, 1) := by decide +kernel
theorem d_Ed_takePlainName_60 : decode cb_Ed_takePlainName 60 = .ok (.istore 4, 2) := by decide +kernel
theorem d_Ed_takePlainName_62 : decode cb_Ed_takePlainName 62 = .ok (.iload 4, 2) := by decide +kernel
theorem d_Ed_takePlainName_64 : decode cb_Ed_takePlainName 64 = .ok (.aload_n 0, 1) := by decide +kernel
theorem d_Ed_takePlainName_65 : decode cb_Ed_takePlainName 65 = .ok (.getfield 19, 3) := by decide +kernel
theorem d_Ed_takePlainName_68 : decode cb_Ed_takePlainName 68 = .ok (.if_icmp .ge 68, 3) := by decide +kernel
theorem d_Ed_takePlainName_71 : decode cb_Ed_takePlainName 71 = .ok (.iload 4, 2) := by decide +kernel
theorem d_Ed_takePlainName_73 : decode cb_Ed_takePlainName 73 = .ok (.iload_n 1, 1) := by decide +kernel
theorem d_Ed_takePlainName_74 : decode cb_Ed_takePlainName 74 = .ok (.if_icmp .eq 18, 3) := by decide +kernel
theorem d_Ed_takePlainName_77 : decode cb_Ed_takePlainName 77 = .ok (.aload_n 0, 1) := by decide +kernel
theorem d_Ed_takePlainName_78 : decode cb_Ed_takePlainName 78 = .ok (.getfield 15, 3) := by decide +kernel
theorem d_Ed_takePlainName_81 : decode cb_Ed_takePlainName 81 = .ok (.iload 4, 2) := by decide +kernel
theorem d_Ed_takePlainName_83 : decode cb_Ed_takePlainName 83 = .ok (.iaload, 1) := by decide +kernel
theorem d_Ed_takePlainName_84 : decode cb_Ed_takePlainName 84 = .ok (.invokestatic 104, 3) := by decide +kernel
theorem d_Ed_takePlainName_87 : decode cb_Ed_takePlainName 87 = .ok (.ifCond .ne 5, 3) := by decide +kernel
theorem d_Ed_takePlainName_90 : decode cb_Ed_takePlainName 90 = .ok (.iconst 0, 1) := by decide +kernel
theorem d_Ed_takePlainName_91 : decode cb_Ed_takePlainName 91 = .ok (.ireturn, 1) := by decide +kernel
theorem d_Ed_takePlainName_92 : decode cb_Ed_takePlainName 92 = .ok (.iload 4, 2) := by decide +kernel
theorem d_Ed_takePlainName_94 : decode cb_Ed_takePlainName 94 = .ok (.iload_n 1, 1) := by decide +kernel
theorem d_Ed_takePlainName_95 : decode cb_Ed_takePlainName 95 = .ok (.if_icmp .eq 35, 3) := by decide +kernel
theorem d_Ed_takePlainName_98 : decode cb_Ed_takePlainName 98 = .ok (.aload_n 0, 1) := by decide +kernel
theorem d_Ed_takePlainName_99 : decode cb_Ed_takePlainName 99 = .ok (.getfield 22, 3) := by decide +kernel
theorem d_Ed_takePlainName_102 : decode cb_Ed_takePlainName 102 = .ok (.iload 4, 2) := by decide +kernel
theorem d_Ed_takePlainName_104 : decode cb_Ed_takePlainName 104 = .ok (.iload_n 2, 1) := by decide +kernel
theorem d_Ed_takePlainName_105 : decode cb_Ed_takePlainName 105 = .ok (.if_icmp .ge 8, 3) := by decide +kernel
theorem d_Ed_takePlainName_108 : decode cb_Ed_takePlainName 108 = .ok (.iload 4, 2) := by decide +kernel
theorem d_Ed_takePlainName_110 : decode cb_Ed_takePlainName 110 = .ok (.goto 12, 3) := by decide +kernel
theorem d_Ed_takePlainName_113 : decode cb_Ed_takePlainName 113 = .ok (.bipush 8, 2) := by decide +kernel
theorem d_Ed_takePlainName_115 : decode cb_Ed_takePlainName 115 = .ok (.iload 4, 2) := by decide +kernel
theorem d_Ed_takePlainName_117 : decode cb_Ed_takePlainName 117 = .ok (.iadd, 1) := by decide +kernel
theorem d_Ed_takePlainName_118 : decode cb_Ed_takePlainName 118 = .ok (.iload_n 2, 1) := by decide +kernel
theorem d_Ed_takePlainName_119 : decode cb_Ed_takePlainName 119 = .ok (.isub, 1) := by decide +kernel
theorem d_Ed_takePlainName_120 : decode cb_Ed_takePlainName 120 = .ok (.iconst 1, 1) := by decide +kernel
theorem d_Ed_takePlainName_121 : decode cb_Ed_takePlainName 121 = .ok (.isub, 1) := by decide +kernel
theorem d_Ed_takePlainName_122 : decode cb_Ed_takePlainName 122 = .ok (.aload_n 0, 1) := by decide +kernel
theorem d_Ed_takePlainName_123 : decode cb_Ed_takePlainName 123 = .ok (.getfield 15, 3) := by decide +kernel
theorem d_Ed_takePlainName_126 : decode cb_Ed_takePlainName 126 = .ok (.iload 4, 2) := by decide +kernel
theorem d_Ed_takePlainName_128 : decode cb_Ed_takePlainName 128 = .ok (.iaload, 1) := by decide +kernel
theorem d_Ed_takePlainName_129 : decode cb_Ed_takePlainName 129 = .ok (.iastore, 1) := by decide +kernel
theorem d_Ed_takePlainName_130 : decode cb_Ed_takePlainName 130 = .ok (.iinc 4 1, 3) := by decide +kernel
theorem d_Ed_takePlainName_133 : decode cb_Ed_takePlainName 133 = .ok (.goto (-71), 3) := by decide +kernel
theorem d_Ed_takePlainName_136 : decode cb_Ed_takePlainName 136 = .ok (.iconst 1, 1) := by decide +kernel
theorem d_Ed_takePlainName_137 : decode cb_Ed_takePlainName 137 = .ok (.ireturn, 1) := by decide +kernel
theorem d_Ed_clashes_0 : decode cb_Ed_clashes 0 = .ok (.iconst 0, 1) := by decide +kernel
theorem d_Ed_clashes_1 : decode cb_Ed_clashes 1 = .ok (.istore_n 2, 1) := by decide +kernel
theorem d_Ed_clashes_2 : decode cb_Ed_clashes 2 = .ok (.iload_n 2, 1) := by decide +kernel
theorem d_Ed_clashes_3 : decode cb_Ed_clashes 3 = .ok (.aload_n 0, 1) := by decide +kernel
theorem d_Ed_clashes_4 : decode cb_Ed_clashes 4 = .ok (.getfield 49, 3) := by decide +kernel
theorem d_Ed_clashes_7 : decode cb_Ed_clashes 7 = .ok (.iload_n 1, 1) := by decide +kernel
theorem d_Ed_clashes_8 : decode cb_Ed_clashes 8 = .ok (.invokevirtual 108, 3) := by decide +kernel
theorem d_Ed_clashes_11 : decode cb_Ed_clashes 11 = .ok (.if_icmp .ge 55, 3) := by decide +kernel
theorem d_Ed_clashes_14 : decode cb_Ed_clashes 14 = .ok (.aload_n 0, 1) := by decide +kernel
theorem d_Ed_clashes_15 : decode cb_Ed_clashes 15 = .ok (.getfield 49, 3) := by decide +kernel
theorem d_Ed_clashes_18 : decode cb_Ed_clashes 18 = .ok (.iload_n 1, 1) := by decide +kernel
theorem d_Ed_clashes_19 : decode cb_Ed_clashes 19 = .ok (.iload_n 2, 1) := by decide +kernel
theorem d_Ed_clashes_20 : decode cb_Ed_clashes 20 = .ok (.invokevirtual 113, 3) := by decide +kernel
theorem d_Ed_clashes_23 : decode cb_Ed_clashes 23 = .ok (.istore_n 3, 1) := by decide +kernel
theorem d_Ed_clashes_24 : decode cb_Ed_clashes 24 = .ok (.aload_n 0, 1) := by decide +kernel
theorem d_Ed_clashes_25 : decode cb_Ed_clashes 25 = .ok (.getfield 49, 3) := by decide +kernel
theorem d_Ed_clashes_28 : decode cb_Ed_clashes 28 = .ok (.iload_n 3, 1) := by decide +kernel
theorem d_Ed_clashes_29 : decode cb_Ed_clashes 29 = .ok (.aload_n 0, 1) := by decide +kernel
theorem d_Ed_clashes_30 : decode cb_Ed_clashes 30 = .ok (.getfield 15, 3) := by decide +kernel
theorem d_Ed_clashes_33 : decode cb_Ed_clashes 33 = .ok (.aload_n 0, 1) := by decide +kernel
theorem d_Ed_clashes_34 : decode cb_Ed_clashes 34 = .ok (.getfield 19, 3) := by decide +kernel
theorem d_Ed_clashes_37 : decode cb_Ed_clashes 37 = .ok (.invokevirtual 117, 3) := by decide +kernel
theorem d_Ed_clashes_40 : decode cb_Ed_clashes 40 = .ok (.ifCond .ne 18, 3) := by decide +kernel
theorem d_Ed_clashes_43 : decode cb_Ed_clashes 43 = .ok (.aload_n 0, 1) := by decide +kernel
theorem d_Ed_clashes_44 : decode cb_Ed_clashes 44 = .ok (.getfield 25, 3) := by decide +kernel
theorem d_Ed_clashes_47 : decode cb_Ed_clashes 47 = .ok (.ifCond .eq 13, 3) := by decide +kernel
theorem d_Ed_clashes_50 : decode cb_Ed_clashes 50 = .ok (.aload_n 0, 1) := by decide +kernel
theorem d_Ed_clashes_51 : decode cb_Ed_clashes 51 = .ok (.iload_n 3, 1) := by decide +kernel
theorem d_Ed_clashes_52 : decode cb_Ed_clashes 52 = .ok (.invokevirtual 121, 3) := by decide +kernel
theorem d_Ed_clashes_55 : decode cb_Ed_clashes 55 = .ok (.ifCond .eq 5, 3) := by decide +kernel
theorem d_Ed_clashes_58 : decode cb_Ed_clashes 58 = .ok (.iconst 1, 1) := by decide +kernel
theorem d_Ed_clashes_59 : decode cb_Ed_clashes 59 = .ok (.ireturn, 1) := by decide +kernel
theorem d_Ed_clashes_60 : decode cb_Ed_clashes 60 = .ok (.iinc 2 1, 3) := by decide +kernel
theorem d_Ed_clashes_63 : decode cb_Ed_clashes 63 = .ok (.goto (-61), 3) := by decide +kernel
theorem d_Ed_clashes_66 : decode cb_Ed_clashes 66 = .ok (.iconst 0, 1) := by decide +kernel
theorem d_Ed_clashes_67 : decode cb_Ed_clashes 67 = .ok (.ireturn, 1) := by decide +kernel
theorem d_Ed_hasShortName_0 : decode cb_Ed_hasShortName 0 = .ok (.aload_n 0, 1) := by decide +kernel
theorem d_Ed_hasShortName_1 : decode cb_Ed_hasShortName 1 = .ok (.getfield 49, 3) := by decide +kernel
theorem d_Ed_hasShortName_4 : decode cb_Ed_hasShortName 4 = .ok (.iload_n 1, 1) := by decide +kernel
theorem d_Ed_hasShortName_5 : decode cb_Ed_hasShortName 5 = .ok (.invokevirtual 124, 3) := by decide +kernel
theorem d_Ed_hasShortName_8 : decode cb_Ed_hasShortName 8 = .ok (.istore_n 2, 1) := by decide +kernel
theorem d_Ed_hasShortName_9 : decode cb_Ed_hasShortName 9 = .ok (.iconst 0, 1) := by decide +kernel
theorem d_Ed_hasShortName_10 : decode cb_Ed_hasShortName 10 = .ok (.istore_n 3, 1) := by decide +kernel
theorem d_Ed_hasShortName_11 : decode cb_Ed_hasShortName 11 = .ok (.iload_n 3, 1) := by decide +kernel
theorem d_Ed_hasShortName_12 : decode cb_Ed_hasShortName 12 = .ok (.bipush 11, 2) := by decide +kernel
theorem d_Ed_hasShortName_14 : decode cb_Ed_hasShortName 14 = .ok (.if_icmp .ge 30, 3) := by decide +kernel
theorem d_Ed_hasShortName_17 : decode cb_Ed_hasShortName 17 = .ok (.aload_n 0, 1) := by decide +kernel
theorem d_Ed_hasShortName_18 : decode cb_Ed_hasShortName 18 = .ok (.getfield 41, 3) := by decide +kernel
theorem d_Ed_hasShortName_21 : decode cb_Ed_hasShortName 21 = .ok (.iload_n 2, 1) := by decide +kernel
theorem d_Ed_hasShortName_22 : decode cb_Ed_hasShortName 22 = .ok (.iload_n 3, 1) := by decide +kernel
theorem d_Ed_hasShortName_23 : decode cb_Ed_hasShortName 23 = .ok (.iadd, 1) := by decide +kernel
theorem d_Ed_hasShortName_24 : decode cb_Ed_hasShortName 24 = .ok (.invokevirtual 127, 3) := by decide +kernel
theorem d_Ed_hasShortName_27 : decode cb_Ed_hasShortName 27 = .ok (.aload_n 0, 1) := by decide +kernel
theorem d_Ed_hasShortName_28 : decode cb_Ed_hasShortName 28 = .ok (.getfield 22, 3) := by decide +kernel
theorem d_Ed_hasShortName_31 : decode cb_Ed_hasShortName 31 = .ok (.iload_n 3, 1) := by decide +kernel
theorem d_Ed_hasShortName_32 : decode cb_Ed_hasShortName 32 = .ok (.iaload, 1) := by decide +kernel
theorem d_Ed_hasShortName_33 : decode cb_Ed_hasShortName 33 = .ok (.if_icmp .eq 5, 3) := by decide +kernel
theorem d_Ed_hasShortName_36 : decode cb_Ed_hasShortName 36 = .ok (.iconst 0, 1) := by decide +kernel
theorem d_Ed_hasShortName_37 : decode cb_Ed_hasShortName 37 = .ok (.ireturn, 1) := by decide +kernel
theorem d_Ed_hasShortName_38 : decode cb_Ed_hasShortName 38 = .ok (.iinc 3 1, 3) := by decide +kernel
theorem d_Ed_hasShortName_41 : decode cb_Ed_hasShortName 41 = .ok (.goto (-30), 3) := by decide +kernel
theorem d_Ed_hasShortName_44 : decode cb_Ed_hasShortName 44 = .ok (.iconst 1, 1) := by decide +kernel
theorem d_Ed_hasShortName_45 : decode cb_Ed_hasShortName 45 = .ok (.ireturn, 1) := by decide +kernel
theorem d_Ed_isShortNameTaken_0 : decode cb_Ed_isShortNameTaken 0 = .ok (.iconst 0, 1) := by decide +kernel
theorem d_Ed_isShortNameTaken_1 : decode cb_Ed_isShortNameTaken 1 = .ok (.istore_n 2, 1) := by decide +kernel
theorem d_Ed_isShortNameTaken_2 : decode cb_Ed_isShortNameTaken 2 = .ok (.iload_n 2, 1) := by decide +kernel
theorem d_Ed_isShortNameTaken_3 : decode cb_Ed_isShortNameTaken 3 = .ok (.aload_n 0, 1) := by decide +kernel
theorem d_Ed_isShortNameTaken_4 : decode cb_Ed_isShortNameTaken 4 = .ok (.getfield 49, 3) := by decide +kernel
theorem d_Ed_isShortNameTaken_7 : decode cb_Ed_isShortNameTaken 7 = .ok (.iload_n 1, 1) := by decide +kernel
theorem d_Ed_isShortNameTaken_8 : decode cb_Ed_isShortNameTaken 8 = .ok (.invokevirtual 108, 3) := by decide +kernel
theorem d_Ed_isShortNameTaken_11 : decode cb_Ed_isShortNameTaken 11 = .ok (.if_icmp .ge 27, 3) := by decide +kernel
theorem d_Ed_isShortNameTaken_14 : decode cb_Ed_isShortNameTaken 14 = .ok (.aload_n 0, 1) := by decide +kernel
theorem d_Ed_isShortNameTaken_15 : decode cb_Ed_isShortNameTaken 15 = .ok (.aload_n 0, 1) := by decide +kernel
theorem d_Ed_isShortNameTaken_16 : decode cb_Ed_isShortNameTaken 16 = .ok (.getfield 49, 3) := by decide +kernel
theorem d_Ed_isShortNameTaken_19 : decode cb_Ed_isShortNameTaken 19 = .ok (.iload_n 1, 1) := by decide +kernel
theorem d_Ed_isShortNameTaken_20 : decode cb_Ed_isShortNameTaken 20 = .ok (.iload_n 2, 1) := by decide +kernel
theorem d_Ed_isShortNameTaken_21 : decode cb_Ed_isShortNameTaken 21 = .ok (.invokevirtual 113, 3) := by decide +kernel
theorem d_Ed_isShortNameTaken_24 : decode cb_Ed_isShortNameTaken 24 = .ok (.invokevirtual 121, 3) := by decide +kernel
theorem d_Ed_isShortNameTaken_27 : decode cb_Ed_isShortNameTaken 27 = .ok (.ifCond .eq 5, 3) := by decide +kernel
theorem d_Ed_isShortNameTaken_30 : decode cb_Ed_isShortNameTaken 30 = .ok (.iconst 1, 1) := by decide +kernel
theorem d_Ed_isShortNameTaken_31 : decode cb_Ed_isShortNameTaken 31 = .ok (.ireturn, 1) := by decide +kernel
theorem d_Ed_isShortNameTaken_32 : decode cb_Ed_isShortNameTaken 32 = .ok (.iinc 2 1, 3) := by decide +kernel
theorem d_Ed_isShortNameTaken_35 : decode cb_Ed_isShortNameTaken 35 = .ok (.goto (-33), 3) := by decide +kernel
theorem d_Ed_isShortNameTaken_38 : decode cb_Ed_isShortNameTaken 38 = .ok (.iconst 0, 1) := by decide +kernel
theorem d_Ed_isShortNameTaken_39 : decode cb_Ed_isShortNameTaken 39 = .ok (.ireturn, 1) := by decide +kernel
theorem d_Ed_squeeze_0 : decode cb_Ed_squeeze 0 = .ok (.iconst 0, 1) := by decide +kernel
theorem d_Ed_squeeze_1 : decode cb_Ed_squeeze 1 = .ok (.istore 5, 2) := by decide +kernel
theorem d_Ed_squeeze_3 : decode cb_Ed_squeeze 3 = .ok (.iload_n 1, 1) := by decide +kernel
theorem d_Ed_squeeze_4 : decode cb_Ed_squeeze 4 = .ok (.istore 6, 2) := by decide +kernel
theorem d_Ed_squeeze_6 : decode cb_Ed_squeeze 6 = .ok (.iload 6, 2) := by decide +kernel
theorem d_Ed_squeeze_8 : decode cb_Ed_squeeze 8 = .ok (.iload_n 2, 1) := by decide +kernel
theorem d_Ed_squeeze_9 : decode cb_Ed_squeeze 9 = .ok (.if_icmp .ge 69, 3) := by decide +kernel
theorem d_Ed_squeeze_12 : decode cb_Ed_squeeze 12 = .ok (.iload 5, 2) := by decide +kernel
theorem d_Ed_squeeze_14 : decode cb_Ed_squeeze 14 = .ok (.iload 4, 2) := by decide +kernel
theorem d_Ed_squeeze_16 : decode cb_Ed_squeeze 16 = .ok (.if_icmp .ge 62, 3) := by decide +kernel
theorem d_Ed_squeeze_19 : decode cb_Ed_squeeze 19 = .ok (.aload_n 0, 1) := by decide +kernel
theorem d_Ed_squeeze_20 : decode cb_Ed_squeeze 20 = .ok (.getfield 15, 3) := by decide +kernel
theorem d_Ed_squeeze_23 : decode cb_Ed_squeeze 23 = .ok (.iload 6, 2) := by decide +kernel
theorem d_Ed_squeeze_25 : decode cb_Ed_squeeze 25 = .ok (.iaload, 1) := by decide +kernel
theorem d_Ed_squeeze_26 : decode cb_Ed_squeeze 26 = .ok (.invokestatic 128, 3) := by decide +kernel
theorem d_Ed_squeeze_29 : decode cb_Ed_squeeze 29 = .ok (.istore 7, 2) := by decide +kernel
theorem d_Ed_squeeze_31 : decode cb_Ed_squeeze 31 = .ok (.iload 7, 2) := by decide +kernel
theorem d_Ed_squeeze_33 : decode cb_Ed_squeeze 33 = .ok (.bipush 32, 2) := by decide +kernel
theorem d_Ed_squeeze_35 : decode cb_Ed_squeeze 35 = .ok (.if_icmp .eq 37, 3) := by decide +kernel
theorem d_Ed_squeeze_38 : decode cb_Ed_squeeze 38 = .ok (.iload 7, 2) := by decide +kernel
theorem d_Ed_squeeze_40 : decode cb_Ed_squeeze 40 = .ok (.bipush 46, 2) := by decide +kernel
theorem d_Ed_squeeze_42 : decode cb_Ed_squeeze 42 = .ok (.if_icmp .eq 30, 3) := by decide +kernel
theorem d_Ed_squeeze_45 : decode cb_Ed_squeeze 45 = .ok (.aload_n 0, 1) := by decide +kernel
theorem d_Ed_squeeze_46 : decode cb_Ed_squeeze 46 = .ok (.getfield 22, 3) := by decide +kernel
theorem d_Ed_squeeze_49 : decode cb_Ed_squeeze 49 = .ok (.iload_n 3, 1) := by decide +kernel
theorem d_Ed_squeeze_50 : decode cb_Ed_squeeze 50 = .ok (.iload 5, 2) := by decide +kernel
theorem d_Ed_squeeze_52 : decode cb_Ed_squeeze 52 = .ok (.iadd, 1) := by decide +kernel
theorem d_Ed_squeeze_53 : decode cb_Ed_squeeze 53 = .ok (.iload 7, 2) := by decide +kernel
theorem d_Ed_squeeze_55 : decode cb_Ed_squeeze 55 = .ok (.invokestatic 104, 3) := by decide +kernel
theorem d_Ed_squeeze_58 : decode cb_Ed_squeeze 58 = .ok (.ifCond .eq 8, 3) := by decide +kernel
theorem d_Ed_squeeze_61 : decode cb_Ed_squeeze 61 = .ok (.iload 7, 2) := by decide +kernel
theorem d_Ed_squeeze_63 : decode cb_Ed_squeeze 63 = .ok (.goto 5, 3) := by decide +kernel
theorem d_Ed_squeeze_66 : decode cb_Ed_squeeze 66 = .ok (.bipush 95, 2) := by decide +kernel
theorem d_Ed_squeeze_68 : decode cb_Ed_squeeze 68 = .ok (.iastore, 1) := by decide +kernel
theorem d_Ed_squeeze_69 : decode cb_Ed_squeeze 69 = .ok (.iinc 5 1, 3) := by decide +kernel
theorem d_Ed_squeeze_72 : decode cb_Ed_squeeze 72 = .ok (.iinc 6 1, 3) := by decide +kernel
theorem d_Ed_squeeze_75 : decode cb_Ed_squeeze 75 = .ok (.goto (-69), 3) := by decide +kernel
theorem d_Ed_squeeze_78 : decode cb_Ed_squeeze 78 = .ok (.iload 5, 2) := by decide +kernel
theorem d_Ed_squeeze_80 : decode cb_Ed_squeeze 80 = .ok (.ireturn, 1) := by decide +kernel
theorem d_Ed_inventShortName_0 : decode cb_Ed_inventShortName 0 = .ok (.aload_n 0, 1) := by decide +kernel
theorem d_Ed_inventShortName_1 : decode cb_Ed_inventShortName 1 = .ok (.invokevirtual 95, 3) := by decide +kernel
theorem d_Ed_inventShortName_4 : decode cb_Ed_inventShortName 4 = .ok (.istore_n 2, 1) := by decide +kernel
theorem d_Ed_inventShortName_5 : decode cb_Ed_inventShortName 5 = .ok (.aload_n 0, 1) := by decide +kernel
theorem d_Ed_inventShortName_6 : decode cb_Ed_inventShortName 6 = .ok (.getfield 49, 3) := by decide +kernel
theorem d_Ed_inventShortName_9 : decode cb_Ed_inventShortName 9 = .ok (.iload_n 1, 1) := by decide +kernel
theorem d_Ed_inventShortName_10 : decode cb_Ed_inventShortName 10 = .ok (.invokevirtual 108, 3) := by decide +kernel
theorem d_Ed_inventShortName_13 : decode cb_Ed_inventShortName 13 = .ok (.iconst 1, 1) := by decide +kernel
theorem d_Ed_inventShortName_14 : decode cb_Ed_inventShortName 14 = .ok (.iadd, 1) := by decide +kernel
theorem d_Ed_inventShortName_15 : decode cb_Ed_inventShortName 15 = .ok (.istore_n 3, 1) := by decide +kernel
theorem d_Ed_inventShortName_16 : decode cb_Ed_inventShortName 16 = .ok (.iconst 1, 1) := by decide +kernel
theorem d_Ed_inventShortName_17 : decode cb_Ed_inventShortName 17 = .ok (.istore 4, 2) := by decide +kernel
theorem d_Ed_inventShortName_19 : decode cb_Ed_inventShortName 19 = .ok (.bipush 10, 2) := by decide +kernel
theorem d_Ed_inventShortName_21 : decode cb_Ed_inventShortName 21 = .ok (.istore 5, 2) := by decide +kernel
theorem d_Ed_inventShortName_23 : decode cb_Ed_inventShortName 23 = .ok (.iconst 1, 1) := by decide +kernel
theorem d_Ed_inventShortName_24 : decode cb_Ed_inventShortName 24 = .ok (.istore 6, 2) := by decide +kernel
theorem d_Ed_inventShortName_26 : decode cb_Ed_inventShortName 26 = .ok (.iload 6, 2) := by decide +kernel
theorem d_Ed_inventShortName_28 : decode cb_Ed_inventShortName 28 = .ok (.iload_n 3, 1) := by decide +kernel
theorem d_Ed_inventShortName_29 : decode cb_Ed_inventShortName 29 = .ok (.if_icmp .gt 156, 3) := by decide +kernel
theorem d_Ed_inventShortName_32 : decode cb_Ed_inventShortName 32 = .ok (.iload 6, 2) := by decide +kernel
theorem d_Ed_inventShortName_34 : decode cb_Ed_inventShortName 34 = .ok (.iload 5, 2) := by decide +kernel
theorem d_Ed_inventShortName_36 : decode cb_Ed_inventShortName 36 = .ok (.if_icmp .ne 13, 3) := by decide +kernel
theorem d_Ed_inventShortName_39 : decode cb_Ed_inventShortName 39 = .ok (.iinc 4 1, 3) := by decide +kernel
theorem d_Ed_inventShortName_42 : decode cb_Ed_inventShortName 42 = .ok (.iload 5, 2) := by decide +kernel
theorem d_Ed_inventShortName_44 : decode cb_Ed_inventShortName 44 = .ok (.bipush 10, 2) := by decide +kernel
theorem d_Ed_inventShortName_46 : decode cb_Ed_inventShortName 46 = .ok (.imul, 1) := by decide +kernel
theorem d_Ed_inventShortName_47 : decode cb_Ed_inventShortName 47 = .ok (.istore 5, 2) := by decide +kernel
theorem d_Ed_inventShortName_49 : decode cb_Ed_inventShortName 49 = .ok (.aload_n 0, 1) := by decide +kernel
theorem d_Ed_inventShortName_50 : decode cb_Ed_inventShortName 50 = .ok (.getfield 22, 3) := by decide +kernel
theorem d_Ed_inventShortName_53 : decode cb_Ed_inventShortName 53 = .ok (.bipush 32, 2) := by decide +kernel
theorem d_Ed_inventShortName_55 : decode cb_Ed_inventShortName 55 = .ok (.invokestatic 98, 3) := by decide +kernel
theorem d_Ed_inventShortName_58 : decode cb_Ed_inventShortName 58 = .ok (.aload_n 0, 1) := by decide +kernel
theorem d_Ed_inventShortName_59 : decode cb_Ed_inventShortName 59 = .ok (.iconst 0, 1) := by decide +kernel
theorem d_Ed_inventShortName_60 : decode cb_Ed_inventShortName 60 = .ok (.iload_n 2, 1) := by decide +kernel
theorem d_Ed_inventShortName_61 : decode cb_Ed_inventShortName 61 = .ok (.iconst (-1), 1) := by decide +kernel
theorem d_Ed_inventShortName_62 : decode cb_Ed_inventShortName 62 = .ok (.if_icmp .ne 10, 3) := by decide +kernel
theorem d_Ed_inventShortName_65 : decode cb_Ed_inventShortName 65 = .ok (.aload_n 0, 1) := by decide +kernel
theorem d_Ed_inventShortName_66 : decode cb_Ed_inventShortName 66 = .ok (.getfield 19, 3) := by decide +kernel
theorem d_Ed_inventShortName_69 : decode cb_Ed_inventShortName 69 = .ok (.goto 4, 3) := by decide +kernel
theorem d_Ed_inventShortName_72 : decode cb_Ed_inventShortName 72 = .ok (.iload_n 2, 1) := by decide +kernel
theorem d_Ed_inventShortName_73 : decode cb_Ed_inventShortName 73 = .ok (.iconst 0, 1) := by decide +kernel
theorem d_Ed_inventShortName_74 : decode cb_Ed_inventShortName 74 = .ok (.bipush 7, 2) := by decide +kernel
theorem d_Ed_inventShortName_76 : decode cb_Ed_inventShortName 76 = .ok (.iload 4, 2) := by decide +kernel
theorem d_Ed_inventShortName_78 : decode cb_Ed_inventShortName 78 = .ok (.isub, 1) := by decide +kernel
theorem d_Ed_inventShortName_79 : decode cb_Ed_inventShortName 79 = .ok (.iconst 0, 1) := by decide +kernel
theorem d_Ed_inventShortName_80 : decode cb_Ed_inventShortName 80 = .ok (.invokestatic 131, 3) := by decide +kernel
theorem d_Ed_inventShortName_83 : decode cb_Ed_inventShortName 83 = .ok (.invokevirtual 136, 3) := by decide +kernel
theorem d_Ed_inventShortName_86 : decode cb_Ed_inventShortName 86 = .ok (.istore 7, 2) := by decide +kernel
theorem d_Ed_inventShortName_88 : decode cb_Ed_inventShortName 88 = .ok (.iload_n 2, 1) := by decide +kernel
theorem d_Ed_inventShortName_89 : decode cb_Ed_inventShortName 89 = .ok (.iconst (-1), 1) := by decide +kernel
theorem d_Ed_inventShortName_90 : decode cb_Ed_inventShortName 90 = .ok (.if_icmp .eq 18, 3) := by decide +kernel
theorem d_Ed_inventShortName_93 : decode cb_Ed_inventShortName 93 = .ok (.aload_n 0, 1) := by decide +kernel
theorem d_Ed_inventShortName_94 : decode cb_Ed_inventShortName 94 = .ok (.iload_n 2, 1) := by decide +kernel
theorem d_Ed_inventShortName_95 : decode cb_Ed_inventShortName 95 = .ok (.iconst 1, 1) := by decide +kernel
theorem d_Ed_inventShortName_96 : decode cb_Ed_inventShortName 96 = .ok (.iadd, 1) := by decide +kernel
theorem d_Ed_inventShortName_97 : decode cb_Ed_inventShortName 97 = .ok (.aload_n 0, 1) := by decide +kernel
theorem d_Ed_inventShortName_98 : decode cb_Ed_inventShortName 98 = .ok (.getfield 19, 3) := by decide +kernel
theorem d_Ed_inventShortName_101 : decode cb_Ed_inventShortName 101 = .ok (.bipush 8, 2) := by decide +kernel
theorem d_Ed_inventShortName_103 : decode cb_Ed_inventShortName 103 = .ok (.iconst 3, 1) := by decide +kernel
theorem d_Ed_inventShortName_104 : decode cb_Ed_inventShortName 104 = .ok (.invokevirtual 136, 3) := by decide +kernel
theorem d_Ed_inventShortName_107 : decode cb_Ed_inventShortName 107 = .ok (.pop, 1) := by decide +kernel
theorem d_Ed_inventShortName_108 : decode cb_Ed_inventShortName 108 = .ok (.aload_n 0, 1) := by decide +kernel
theorem d_Ed_inventShortName_109 : decode cb_Ed_inventShortName 109 = .ok (.getfield 22, 3) := by decide +kernel
theorem d_Ed_inventShortName_112 : decode cb_Ed_inventShortName 112 = .ok (.iload 7, 2) := by decide +kernel
theorem d_Ed_inventShortName_114 : decode cb_Ed_inventShortName 114 = .ok (.bipush 126, 2) := by decide +kernel
theorem d_Ed_inventShortName_116 : decode cb_Ed_inventShortName 116 = .ok (.iastore, 1) := by decide +kernel
theorem d_Ed_inventShortName_117 : decode cb_Ed_inventShortName 117 = .ok (.iload 6, 2) := by decide +kernel
theorem d_Ed_inventShortName_119 : decode cb_Ed_inventShortName 119 = .ok (.istore 8, 2) := by decide +kernel
theorem d_Ed_inventShortName_121 : decode cb_Ed_inventShortName 121 = .ok (.iload 7, 2) := by decide +kernel
theorem d_Ed_inventShortName_123 : decode cb_Ed_inventShortName 123 = .ok (.iload 4, 2) := by decide +kernel
theorem d_Ed_inventShortName_125 : decode cb_Ed_inventShortName 125 = .ok (.iadd, 1) := by decide +kernel
theorem d_Ed_inventShortName_126 : decode cb_Ed_inventShortName 126 = .ok (.istore 9, 2) := by decide +kernel
theorem d_Ed_inventShortName_128 : decode cb_Ed_inventShortName 128 = .ok (.iload 9, 2) := by decide +kernel
theorem d_Ed_inventShortName_130 : decode cb_Ed_inventShortName 130 = .ok (.iload 7, 2) := by decide +kernel
theorem d_Ed_inventShortName_132 : decode cb_Ed_inventShortName 132 = .ok (.if_icmp .le 38, 3) := by decide +kernel
theorem d_Ed_inventShortName_135 : decode cb_Ed_inventShortName 135 = .ok (.iload 9, 2) := by decide +kernel
theorem d_Ed_inventShortName_137 : decode cb_Ed_inventShortName 137 = .ok (.bipush 8, 2) := by decide +kernel
theorem d_Ed_inventShortName_139 : decode cb_Ed_inventShortName 139 = .ok (.if_icmp .ge 31, 3) := by decide +kernel
theorem d_Ed_inventShortName_142 : decode cb_Ed_inventShortName 142 = .ok (.aload_n 0, 1) := by decide +kernel
theorem d_Ed_inventShortName_143 : decode cb_Ed_inventShortName 143 = .ok (.getfield 22, 3) := by decide +kernel
theorem d_Ed_inventShortName_146 : decode cb_Ed_inventShortName 146 = .ok (.iload 9, 2) := by decide +kernel
theorem d_Ed_inventShortName_148 : decode cb_Ed_inventShortName 148 = .ok (.bipush 48, 2) := by decide +kernel
theorem d_Ed_inventShortName_150 : decode cb_Ed_inventShortName 150 = .ok (.iload 8, 2) := by decide +kernel
theorem d_Ed_inventShortName_152 : decode cb_Ed_inventShortName 152 = .ok (.bipush 10, 2) := by decide +kernel
theorem d_Ed_inventShortName_154 : decode cb_Ed_inventShortName 154 = .ok (.irem, 1) := by decide +kernel
theorem d_Ed_inventShortName_155 : decode cb_Ed_inventShortName 155 = .ok (.iadd, 1) := by decide +kernel
theorem d_Ed_inventShortName_156 : decode cb_Ed_inventShortName 156 = .ok (.iastore, 1) := by decide +kernel
theorem d_Ed_inventShortName_157 : decode cb_Ed_inventShortName 157 = .ok (.iload 8, 2) := by decide +kernel
theorem d_Ed_inventShortName_159 : decode cb_Ed_inventShortName 159 = .ok (.bipush 10, 2) := by decide +kernel
theorem d_Ed_inventShortName_161 : decode cb_Ed_inventShortName 161 = .ok (.idiv, 1) := by decide +kernel
theorem d_Ed_inventShortName_162 : decode cb_Ed_inventShortName 162 = .ok (.istore 8, 2) := by decide +kernel
theorem d_Ed_inventShortName_164 : decode cb_Ed_inventShortName 164 = .ok (.iinc 9 (-1), 3) := by decide +kernel
theorem d_Ed_inventShortName_167 : decode cb_Ed_inventShortName 167 = .ok (.goto (-39), 3) := by decide +kernel
theorem d_Ed_inventShortName_170 : decode cb_Ed_inventShortName 170 = .ok (.aload_n 0, 1) := by decide +kernel
theorem d_Ed_inventShortName_171 : decode cb_Ed_inventShortName 171 = .ok (.iload_n 1, 1) := by decide +kernel
theorem d_Ed_inventShortName_172 : decode cb_Ed_inventShortName 172 = .ok (.invokevirtual 140, 3) := by decide +kernel
theorem d_Ed_inventShortName_175 : decode cb_Ed_inventShortName 175 = .ok (.ifCond .ne 4, 3) := by decide +kernel
theorem d_Ed_inventShortName_178 : decode cb_Ed_inventShortName 178 = .ok (.return_, 1) := by decide +kernel
theorem d_Ed_inventShortName_179 : decode cb_Ed_inventShortName 179 = .ok (.iinc 6 1, 3) := by decide +kernel
theorem d_Ed_inventShortName_182 : decode cb_Ed_inventShortName 182 = .ok (.goto (-156), 3) := by decide +kernel
theorem d_Ed_inventShortName_185 : decode cb_Ed_inventShortName 185 = .ok (.return_, 1) := by decide +kernel
theorem d_Ed_findSlots_0 : decode cb_Ed_findSlots 0 = .ok (.aload_n 0, 1) := by decide +kernel
theorem d_Ed_findSlots_1 : decode cb_Ed_findSlots 1 = .ok (.aload_n 0, 1) := by decide +kernel
theorem d_Ed_findSlots_2 : decode cb_Ed_findSlots 2 = .ok (.getfield 25, 3) := by decide +kernel
theorem d_Ed_findSlots_5 : decode cb_Ed_findSlots 5 = .ok (.ifCond .eq 7, 3) := by decide +kernel
theorem d_Ed_findSlots_8 : decode cb_Ed_findSlots 8 = .ok (.iconst 1, 1) := by decide +kernel
theorem d_Ed_findSlots_9 : decode cb_Ed_findSlots 9 = .ok (.goto 17, 3) := by decide +kernel
theorem d_Ed_findSlots_12 : decode cb_Ed_findSlots 12 = .ok (.aload_n 0, 1) := by decide +kernel
theorem d_Ed_findSlots_13 : decode cb_Ed_findSlots 13 = .ok (.getfield 19, 3) := by decide +kernel
theorem d_Ed_findSlots_16 : decode cb_Ed_findSlots 16 = .ok (.bipush 13, 2) := by decide +kernel
theorem d_Ed_findSlots_18 : decode cb_Ed_findSlots 18 = .ok (.iadd, 1) := by decide +kernel
theorem d_Ed_findSlots_19 : decode cb_Ed_findSlots 19 = .ok (.iconst 1, 1) := by decide +kernel
theorem d_Ed_findSlots_20 : decode cb_Ed_findSlots 20 = .ok (.isub, 1) := by decide +kernel
theorem d_Ed_findSlots_21 : decode cb_Ed_findSlots 21 = .ok (.bipush 13, 2) := by decide +kernel
theorem d_Ed_findSlots_23 : decode cb_Ed_findSlots 23 = .ok (.idiv, 1) := by decide +kernel
theorem d_Ed_findSlots_24 : decode cb_Ed_findSlots 24 = .ok (.iconst 1, 1) := by decide +kernel
theorem d_Ed_findSlots_25 : decode cb_Ed_findSlots 25 = .ok (.iadd, 1) := by decide +kernel
theorem d_Ed_findSlots_26 : decode cb_Ed_findSlots 26 = .ok (.putfield 32, 3) := by decide +kernel
theorem d_Ed_findSlots_29 : decode cb_Ed_findSlots 29 = .ok (.aload_n 0, 1) := by decide +kernel
theorem d_Ed_findSlots_30 : decode cb_Ed_findSlots 30 = .ok (.aload_n 0, 1) := by decide +kernel
theorem d_Ed_findSlots_31 : decode cb_Ed_findSlots 31 = .ok (.getfield 45, 3) := by decide +kernel
theorem d_Ed_findSlots_34 : decode cb_Ed_findSlots 34 = .ok (.aload_n 0, 1) := by decide +kernel
theorem d_Ed_findSlots_35 : decode cb_Ed_findSlots 35 = .ok (.getfield 49, 3) := by decide +kernel
theorem d_Ed_findSlots_38 : decode cb_Ed_findSlots 38 = .ok (.iload_n 1, 1) := by decide +kernel
theorem d_Ed_findSlots_39 : decode cb_Ed_findSlots 39 = .ok (.invokevirtual 143, 3) := by decide +kernel
theorem d_Ed_findSlots_42 : decode cb_Ed_findSlots 42 = .ok (.aload_n 0, 1) := by decide +kernel
theorem d_Ed_findSlots_43 : decode cb_Ed_findSlots 43 = .ok (.getfield 59, 3) := by decide +kernel
theorem d_Ed_findSlots_46 : decode cb_Ed_findSlots 46 = .ok (.invokevirtual 146, 3) := by decide +kernel
theorem d_Ed_findSlots_49 : decode cb_Ed_findSlots 49 = .ok (.putfield 9, 3) := by decide +kernel
theorem d_Ed_findSlots_52 : decode cb_Ed_findSlots 52 = .ok (.aload_n 0, 1) := by decide +kernel
theorem d_Ed_findSlots_53 : decode cb_Ed_findSlots 53 = .ok (.getfield 45, 3) := by decide +kernel
theorem d_Ed_findSlots_56 : decode cb_Ed_findSlots 56 = .ok (.invokevirtual 149, 3) := by decide +kernel
theorem d_Ed_findSlots_59 : decode cb_Ed_findSlots 59 = .ok (.istore_n 3, 1) := by decide +kernel
theorem d_Ed_findSlots_60 : decode cb_Ed_findSlots 60 = .ok (.aload_n 0, 1) := by decide +kernel
theorem d_Ed_findSlots_61 : decode cb_Ed_findSlots 61 = .ok (.getfield 9, 3) := by decide +kernel
theorem d_Ed_findSlots_64 : decode cb_Ed_findSlots 64 = .ok (.iload_n 3, 1) := by decide +kernel
theorem d_Ed_findSlots_65 : decode cb_Ed_findSlots 65 = .ok (.imul, 1) := by decide +kernel
theorem d_Ed_findSlots_66 : decode cb_Ed_findSlots 66 = .ok (.istore 4, 2) := by decide +kernel
theorem d_Ed_findSlots_68 : decode cb_Ed_findSlots 68 = .ok (.aload_n 0, 1) := by decide +kernel
theorem d_Ed_findSlots_69 : decode cb_Ed_findSlots 69 = .ok (.iload 4, 2) := by decide +kernel
theorem d_Ed_findSlots_71 : decode cb_Ed_findSlots 71 = .ok (.putfield 35, 3) := by decide +kernel
theorem d_Ed_findSlots_74 : decode cb_Ed_findSlots 74 = .ok (.aload_n 0, 1) := by decide +kernel
theorem d_Ed_findSlots_75 : decode cb_Ed_findSlots 75 = .ok (.iconst 0, 1) := by decide +kernel
theorem d_Ed_findSlots_76 : decode cb_Ed_findSlots 76 = .ok (.putfield 38, 3) := by decide +kernel
theorem d_Ed_findSlots_79 : decode cb_Ed_findSlots 79 = .ok (.iconst 0, 1) := by decide +kernel
theorem d_Ed_findSlots_80 : decode cb_Ed_findSlots 80 = .ok (.istore 5, 2) := by decide +kernel
theorem d_Ed_findSlots_82 : decode cb_Ed_findSlots 82 = .ok (.iconst 0, 1) := by decide +kernel
theorem d_Ed_findSlots_83 : decode cb_Ed_findSlots 83 = .ok (.istore 6, 2) := by decide +kernel
theorem d_Ed_findSlots_85 : decode cb_Ed_findSlots 85 = .ok (.iload 6, 2) := by decide +kernel
theorem d_Ed_findSlots_87 : decode cb_Ed_findSlots 87 = .ok (.iload 4, 2) := by decide +kernel
theorem d_Ed_findSlots_89 : decode cb_Ed_findSlots 89 = .ok (.if_icmp .ge 94, 3) := by decide +kernel
theorem d_Ed_findSlots_92 : decode cb_Ed_findSlots 92 = .ok (.aload_n 0, 1) := by decide +kernel
theorem d_Ed_findSlots_93 : decode cb_Ed_findSlots 93 = .ok (.getfield 41, 3) := by decide +kernel
theorem d_Ed_findSlots_96 : decode cb_Ed_findSlots 96 = .ok (.aload_n 0, 1) := by decide +kernel
theorem d_Ed_findSlots_97 : decode cb_Ed_findSlots 97 = .ok (.iload 6, 2) := by decide +kernel
theorem d_Ed_findSlots_99 : decode cb_Ed_findSlots 99 = .ok (.invokevirtual 152, 3) := by decide +kernel
theorem d_Ed_findSlots_102 : decode cb_Ed_findSlots 102 = .ok (.invokevirtual 127, 3) := by decide +kernel
theorem d_Ed_findSlots_105 : decode cb_Ed_findSlots 105 = .ok (.istore 7, 2) := by decide +kernel
theorem d_Ed_findSlots_107 : decode cb_Ed_findSlots 107 = .ok (.iload 7, 2) := by decide +kernel
theorem d_Ed_findSlots_109 : decode cb_Ed_findSlots 109 = .ok (.ifCond .ne 18, 3) := by decide +kernel
theorem d_Ed_findSlots_112 : decode cb_Ed_findSlots 112 = .ok (.aload_n 0, 1) := by decide +kernel
theorem d_Ed_findSlots_113 : decode cb_Ed_findSlots 113 = .ok (.getfield 35, 3) := by decide +kernel
theorem d_Ed_findSlots_116 : decode cb_Ed_findSlots 116 = .ok (.iload 4, 2) := by decide +kernel
theorem d_Ed_findSlots_118 : decode cb_Ed_findSlots 118 = .ok (.if_icmp .ne 9, 3) := by decide +kernel
theorem d_Ed_findSlots_121 : decode cb_Ed_findSlots 121 = .ok (.aload_n 0, 1) := by decide +kernel
theorem d_Ed_findSlots_122 : decode cb_Ed_findSlots 122 = .ok (.iload 6, 2) := by decide +kernel
theorem d_Ed_findSlots_124 : decode cb_Ed_findSlots 124 = .ok (.putfield 35, 3) := by decide +kernel
theorem d_Ed_findSlots_127 : decode cb_Ed_findSlots 127 = .ok (.iload 7, 2) := by decide +kernel
theorem d_Ed_findSlots_129 : decode cb_Ed_findSlots 129 = .ok (.sipush 229, 3) := by decide +kernel
theorem d_Ed_findSlots_132 : decode cb_Ed_findSlots 132 = .ok (.if_icmp .eq 12, 3) := by decide +kernel
theorem d_Ed_findSlots_135 : decode cb_Ed_findSlots 135 = .ok (.iload 6, 2) := by decide +kernel
theorem d_Ed_findSlots_137 : decode cb_Ed_findSlots 137 = .ok (.aload_n 0, 1) := by decide +kernel
theorem d_Ed_findSlots_138 : decode cb_Ed_findSlots 138 = .ok (.getfield 35, 3) := by decide +kernel
theorem d_Ed_findSlots_141 : decode cb_Ed_findSlots 141 = .ok (.if_icmp .lt 10, 3) := by decide +kernel
theorem d_Ed_findSlots_144 : decode cb_Ed_findSlots 144 = .ok (.iload 5, 2) := by decide +kernel
theorem d_Ed_findSlots_146 : decode cb_Ed_findSlots 146 = .ok (.iconst 1, 1) := by decide +kernel
theorem d_Ed_findSlots_147 : decode cb_Ed_findSlots 147 = .ok (.iadd, 1) := by decide +kernel
theorem d_Ed_findSlots_148 : decode cb_Ed_findSlots 148 = .ok (.goto 4, 3) := by decide +kernel
theorem d_Ed_findSlots_151 : decode cb_Ed_findSlots 151 = .ok (.iconst 0, 1) := by decide +kernel
theorem d_Ed_findSlots_152 : decode cb_Ed_findSlots 152 = .ok (.istore 5, 2) := by decide +kernel
theorem d_Ed_findSlots_154 : decode cb_Ed_findSlots 154 = .ok (.aload_n 0, 1) := by decide +kernel
theorem d_Ed_findSlots_155 : decode cb_Ed_findSlots 155 = .ok (.iload 6, 2) := by decide +kernel
theorem d_Ed_findSlots_157 : decode cb_Ed_findSlots 157 = .ok (.iconst 1, 1) := by decide +kernel
theorem d_Ed_findSlots_158 : decode cb_Ed_findSlots 158 = .ok (.iadd, 1) := by decide +kernel
theorem d_Ed_findSlots_159 : decode cb_Ed_findSlots 159 = .ok (.iload 5, 2) := by decide +kernel
theorem d_Ed_findSlots_161 : decode cb_Ed_findSlots 161 = .ok (.isub, 1) := by decide +kernel
theorem d_Ed_findSlots_162 : decode cb_Ed_findSlots 162 = .ok (.putfield 29, 3) := by decide +kernel
theorem d_Ed_findSlots_165 : decode cb_Ed_findSlots 165 = .ok (.iload 5, 2) := by decide +kernel
theorem d_Ed_findSlots_167 : decode cb_Ed_findSlots 167 = .ok (.aload_n 0, 1) := by decide +kernel
theorem d_Ed_findSlots_168 : decode cb_Ed_findSlots 168 = .ok (.getfield 32, 3) := by decide +kernel
theorem d_Ed_findSlots_171 : decode cb_Ed_findSlots 171 = .ok (.if_icmp .ne 6, 3) := by decide +kernel
theorem d_Ed_findSlots_174 : decode cb_Ed_findSlots 174 = .ok (.goto 9, 3) := by decide +kernel
theorem d_Ed_findSlots_177 : decode cb_Ed_findSlots 177 = .ok (.iinc 6 1, 3) := by decide +kernel
theorem d_Ed_findSlots_180 : decode cb_Ed_findSlots 180 = .ok (.goto (-95), 3) := by decide +kernel
theorem d_Ed_findSlots_183 : decode cb_Ed_findSlots 183 = .ok (.iload 5, 2) := by decide +kernel
theorem d_Ed_findSlots_185 : decode cb_Ed_findSlots 185 = .ok (.aload_n 0, 1) := by decide +kernel
theorem d_Ed_findSlots_186 : decode cb_Ed_findSlots 186 = .ok (.getfield 32, 3) := by decide +kernel
theorem d_Ed_findSlots_189 : decode cb_Ed_findSlots 189 = .ok (.if_icmp .ge 29, 3) := by decide +kernel
theorem d_Ed_findSlots_192 : decode cb_Ed_findSlots 192 = .ok (.aload_n 0, 1) := by decide +kernel
theorem d_Ed_findSlots_193 : decode cb_Ed_findSlots 193 = .ok (.iload_n 3, 1) := by decide +kernel
theorem d_Ed_findSlots_194 : decode cb_Ed_findSlots 194 = .ok (.iconst 1, 1) := by decide +kernel
theorem d_Ed_findSlots_195 : decode cb_Ed_findSlots 195 = .ok (.if_icmp .ge 7, 3) := by decide +kernel
theorem d_Ed_findSlots_198 : decode cb_Ed_findSlots 198 = .ok (.iconst 0, 1) := by decide +kernel
theorem d_Ed_findSlots_199 : decode cb_Ed_findSlots 199 = .ok (.goto 16, 3) := by decide +kernel
theorem d_Ed_findSlots_202 : decode cb_Ed_findSlots 202 = .ok (.aload_n 0, 1) := by decide +kernel
theorem d_Ed_findSlots_203 : decode cb_Ed_findSlots 203 = .ok (.getfield 32, 3) := by decide +kernel
theorem d_Ed_findSlots_206 : decode cb_Ed_findSlots 206 = .ok (.iload 5, 2) := by decide +kernel
theorem d_Ed_findSlots_208 : decode cb_Ed_findSlots 208 = .ok (.isub, 1) := by decide +kernel
theorem d_Ed_findSlots_209 : decode cb_Ed_findSlots 209 = .ok (.iload_n 3, 1) := by decide +kernel
theorem d_Ed_findSlots_210 : decode cb_Ed_findSlots 210 = .ok (.iadd, 1) := by decide +kernel
theorem d_Ed_findSlots_211 : decode cb_Ed_findSlots 211 = .ok (.iconst 1, 1) := by decide +kernel
theorem d_Ed_findSlots_212 : decode cb_Ed_findSlots 212 = .ok (.isub, 1) := by decide +kernel
theorem d_Ed_findSlots_213 : decode cb_Ed_findSlots 213 = .ok (.iload_n 3, 1) := by decide +kernel
theorem d_Ed_findSlots_214 : decode cb_Ed_findSlots 214 = .ok (.idiv, 1) := by decide +kernel
theorem d_Ed_findSlots_215 : decode cb_Ed_findSlots 215 = .ok (.putfield 38, 3) := by decide +kernel
theorem d_Ed_findSlots_218 : decode cb_Ed_findSlots 218 = .ok (.aload_n 0, 1) := by decide +kernel
theorem d_Ed_findSlots_219 : decode cb_Ed_findSlots 219 = .ok (.getfield 38, 3) := by decide +kernel
theorem d_Ed_findSlots_222 : decode cb_Ed_findSlots 222 = .ok (.iload_n 2, 1) := by decide +kernel
theorem d_Ed_findSlots_223 : decode cb_Ed_findSlots 223 = .ok (.ifCond .eq 7, 3) := by decide +kernel
theorem d_Ed_findSlots_226 : decode cb_Ed_findSlots 226 = .ok (.iconst 1, 1) := by decide +kernel
theorem d_Ed_findSlots_227 : decode cb_Ed_findSlots 227 = .ok (.goto 4, 3) := by decide +kernel
theorem d_Ed_findSlots_230 : decode cb_Ed_findSlots 230 = .ok (.iconst 0, 1) := by decide +kernel
theorem d_Ed_findSlots_231 : decode cb_Ed_findSlots 231 = .ok (.iadd, 1) := by decide +kernel
theorem d_Ed_findSlots_232 : decode cb_Ed_findSlots 232 = .ok (.aload_n 0, 1) := by decide +kernel
theorem d_Ed_findSlots_233 : decode cb_Ed_findSlots 233 = .ok (.getfield 45, 3) := by decide +kernel
theorem d_Ed_findSlots_236 : decode cb_Ed_findSlots 236 = .ok (.invokevirtual 155, 3) := by decide +kernel
theorem d_Ed_findSlots_239 : decode cb_Ed_findSlots 239 = .ok (.if_icmp .gt 7, 3) := by decide +kernel
theorem d_Ed_findSlots_242 : decode cb_Ed_findSlots 242 = .ok (.iconst 1, 1) := by decide +kernel
theorem d_Ed_findSlots_243 : decode cb_Ed_findSlots 243 = .ok (.goto 4, 3) := by decide +kernel
theorem d_Ed_findSlots_246 : decode cb_Ed_findSlots 246 = .ok (.iconst 0, 1) := by decide +kernel
theorem d_Ed_findSlots_247 : decode cb_Ed_findSlots 247 = .ok (.ireturn, 1) := by decide +kernel
theorem d_Ed_slotPlace_0 : decode cb_Ed_slotPlace 0 = .ok (.iload_n 1, 1) := by decide +kernel
theorem d_Ed_slotPlace_1 : decode cb_Ed_slotPlace 1 = .ok (.aload_n 0, 1) := by decide +kernel
theorem d_Ed_slotPlace_2 : decode cb_Ed_slotPlace 2 = .ok (.getfield 9, 3) := by decide +kernel
theorem d_Ed_slotPlace_5 : decode cb_Ed_slotPlace 5 = .ok (.aload_n 0, 1) := by decide +kernel
theorem d_Ed_slotPlace_6 : decode cb_Ed_slotPlace 6 = .ok (.getfield 45, 3) := by decide +kernel
theorem d_Ed_slotPlace_9 : decode cb_Ed_slotPlace 9 = .ok (.invokevirtual 149, 3) := by decide +kernel
theorem d_Ed_slotPlace_12 : decode cb_Ed_slotPlace 12 = .ok (.imul, 1) := by decide +kernel
theorem d_Ed_slotPlace_13 : decode cb_Ed_slotPlace 13 = .ok (.if_icmp .ge 18, 3) := by decide +kernel
theorem d_Ed_slotPlace_16 : decode cb_Ed_slotPlace 16 = .ok (.aload_n 0, 1) := by decide +kernel
theorem d_Ed_slotPlace_17 : decode cb_Ed_slotPlace 17 = .ok (.getfield 45, 3) := by decide +kernel
theorem d_Ed_slotPlace_20 : decode cb_Ed_slotPlace 20 = .ok (.aload_n 0, 1) := by decide +kernel
theorem d_Ed_slotPlace_21 : decode cb_Ed_slotPlace 21 = .ok (.getfield 59, 3) := by decide +kernel
theorem d_Ed_slotPlace_24 : decode cb_Ed_slotPlace 24 = .ok (.iload_n 1, 1) := by decide +kernel
theorem d_Ed_slotPlace_25 : decode cb_Ed_slotPlace 25 = .ok (.invokevirtual 158, 3) := by decide +kernel
theorem d_Ed_slotPlace_28 : decode cb_Ed_slotPlace 28 = .ok (.goto 4, 3) := by decide +kernel
theorem d_Ed_slotPlace_31 : decode cb_Ed_slotPlace 31 = .ok (.iconst (-1), 1) := by decide +kernel
theorem d_Ed_slotPlace_32 : decode cb_Ed_slotPlace 32 = .ok (.ireturn, 1) := by decide +kernel
theorem d_Ed_addItem_0 : decode cb_Ed_addItem 0 = .ok (.aload_n 0, 1) := by decide +kernel
theorem d_Ed_addItem_1 : decode cb_Ed_addItem 1 = .ok (.getfield 25, 3) := by decide +kernel
theorem d_Ed_addItem_4 : decode cb_Ed_addItem 4 = .ok (.ifCond .ne 8, 3) := by decide +kernel
theorem d_Ed_addItem_7 : decode cb_Ed_addItem 7 = .ok (.aload_n 0, 1) := by decide +kernel
theorem d_Ed_addItem_8 : decode cb_Ed_addItem 8 = .ok (.iload_n 1, 1) := by decide +kernel
theorem d_Ed_addItem_9 : decode cb_Ed_addItem 9 = .ok (.invokevirtual 161, 3) := by decide +kernel
theorem d_Ed_addItem_12 : decode cb_Ed_addItem 12 = .ok (.iload_n 2, 1) := by decide +kernel
theorem d_Ed_addItem_13 : decode cb_Ed_addItem 13 = .ok (.ifCond .eq 13, 3) := by decide +kernel
theorem d_Ed_addItem_16 : decode cb_Ed_addItem 16 = .ok (.aload_n 0, 1) := by decide +kernel
theorem d_Ed_addItem_17 : decode cb_Ed_addItem 17 = .ok (.getfield 45, 3) := by decide +kernel
theorem d_Ed_addItem_20 : decode cb_Ed_addItem 20 = .ok (.invokevirtual 165, 3) := by decide +kernel
theorem d_Ed_addItem_23 : decode cb_Ed_addItem 23 = .ok (.goto 4, 3) := by decide +kernel
theorem d_Ed_addItem_26 : decode cb_Ed_addItem 26 = .ok (.iconst 0, 1) := by decide +kernel
theorem d_Ed_addItem_27 : decode cb_Ed_addItem 27 = .ok (.istore_n 3, 1) := by decide +kernel
theorem d_Ed_addItem_28 : decode cb_Ed_addItem 28 = .ok (.iconst 0, 1) := by decide +kernel
theorem d_Ed_addItem_29 : decode cb_Ed_addItem 29 = .ok (.istore 4, 2) := by decide +kernel
theorem d_Ed_addItem_31 : decode cb_Ed_addItem 31 = .ok (.iload 4, 2) := by decide +kernel
theorem d_Ed_addItem_33 : decode cb_Ed_addItem 33 = .ok (.aload_n 0, 1) := by decide +kernel
theorem d_Ed_addItem_34 : decode cb_Ed_addItem 34 = .ok (.getfield 38, 3) := by decide +kernel
theorem d_Ed_addItem_37 : decode cb_Ed_addItem 37 = .ok (.if_icmp .ge 13, 3) := by decide +kernel
theorem d_Ed_addItem_40 : decode cb_Ed_addItem 40 = .ok (.aload_n 0, 1) := by decide +kernel
theorem d_Ed_addItem_41 : decode cb_Ed_addItem 41 = .ok (.invokevirtual 168, 3) := by decide +kernel
theorem d_Ed_addItem_44 : decode cb_Ed_addItem 44 = .ok (.iinc 4 1, 3) := by decide +kernel
theorem d_Ed_addItem_47 : decode cb_Ed_addItem 47 = .ok (.goto (-16), 3) := by decide +kernel
theorem d_Ed_addItem_50 : decode cb_Ed_addItem 50 = .ok (.aload_n 0, 1) := by decide +kernel
theorem d_Ed_addItem_51 : decode cb_Ed_addItem 51 = .ok (.aload_n 0, 1) := by decide +kernel
theorem d_Ed_addItem_52 : decode cb_Ed_addItem 52 = .ok (.aload_n 0, 1) := by decide +kernel
theorem d_Ed_addItem_53 : decode cb_Ed_addItem 53 = .ok (.getfield 29, 3) := by decide +kernel
theorem d_Ed_addItem_56 : decode cb_Ed_addItem 56 = .ok (.aload_n 0, 1) := by decide +kernel
theorem d_Ed_addItem_57 : decode cb_Ed_addItem 57 = .ok (.getfield 32, 3) := by decide +kernel
theorem d_Ed_addItem_60 : decode cb_Ed_addItem 60 = .ok (.iadd, 1) := by decide +kernel
theorem d_Ed_addItem_61 : decode cb_Ed_addItem 61 = .ok (.iconst 1, 1) := by decide +kernel
theorem d_Ed_addItem_62 : decode cb_Ed_addItem 62 = .ok (.isub, 1) := by decide +kernel
theorem d_Ed_addItem_63 : decode cb_Ed_addItem 63 = .ok (.invokevirtual 152, 3) := by decide +kernel
theorem d_Ed_addItem_66 : decode cb_Ed_addItem 66 = .ok (.iload_n 3, 1) := by decide +kernel
theorem d_Ed_addItem_67 : decode cb_Ed_addItem 67 = .ok (.iload_n 2, 1) := by decide +kernel
theorem d_Ed_addItem_68 : decode cb_Ed_addItem 68 = .ok (.invokevirtual 171, 3) := by decide +kernel
theorem d_Ed_addItem_71 : decode cb_Ed_addItem 71 = .ok (.iconst 1, 1) := by decide +kernel
theorem d_Ed_addItem_72 : decode cb_Ed_addItem 72 = .ok (.istore 4, 2) := by decide +kernel
theorem d_Ed_addItem_74 : decode cb_Ed_addItem 74 = .ok (.iload 4, 2) := by decide +kernel
theorem d_Ed_addItem_76 : decode cb_Ed_addItem 76 = .ok (.aload_n 0, 1) := by decide +kernel
theorem d_Ed_addItem_77 : decode cb_Ed_addItem 77 = .ok (.getfield 32, 3) := by decide +kernel
theorem d_Ed_addItem_80 : decode cb_Ed_addItem 80 = .ok (.if_icmp .ge 33, 3) := by decide +kernel
theorem d_Ed_addItem_83 : decode cb_Ed_addItem 83 = .ok (.aload_n 0, 1) := by decide +kernel
theorem d_Ed_addItem_84 : decode cb_Ed_addItem 84 = .ok (.aload_n 0, 1) := by decide +kernel
theorem d_Ed_addItem_85 : decode cb_Ed_addItem 85 = .ok (.aload_n 0, 1) := by decide +kernel
theorem d_Ed_addItem_86 : decode cb_Ed_addItem 86 = .ok (.getfield 29, 3) := by decide +kernel
theorem d_Ed_addItem_89 : decode cb_Ed_addItem 89 = .ok (.aload_n 0, 1) := by decide +kernel
theorem d_Ed_addItem_90 : decode cb_Ed_addItem 90 = .ok (.getfield 32, 3) := by decide +kernel
theorem d_Ed_addItem_93 : decode cb_Ed_addItem 93 = .ok (.iadd, 1) := by decide +kernel
theorem d_Ed_addItem_94 : decode cb_Ed_addItem 94 = .ok (.iconst 1, 1) := by decide +kernel
theorem d_Ed_addItem_95 : decode cb_Ed_addItem 95 = .ok (.isub, 1) := by decide +kernel
theorem d_Ed_addItem_96 : decode cb_Ed_addItem 96 = .ok (.iload 4, 2) := by decide +kernel
theorem d_Ed_addItem_98 : decode cb_Ed_addItem 98 = .ok (.isub, 1) := by decide +kernel
theorem d_Ed_addItem_99 : decode cb_Ed_addItem 99 = .ok (.invokevirtual 152, 3) := by decide +kernel
theorem d_Ed_addItem_102 : decode cb_Ed_addItem 102 = .ok (.iload 4, 2) := by decide +kernel
theorem d_Ed_addItem_104 : decode cb_Ed_addItem 104 = .ok (.invokevirtual 175, 3) := by decide +kernel
theorem d_Ed_addItem_107 : decode cb_Ed_addItem 107 = .ok (.iinc 4 1, 3) := by decide +kernel
theorem d_Ed_addItem_110 : decode cb_Ed_addItem 110 = .ok (.goto (-36), 3) := by decide +kernel
theorem d_Ed_addItem_113 : decode cb_Ed_addItem 113 = .ok (.aload_n 0, 1) := by decide +kernel
theorem d_Ed_addItem_114 : decode cb_Ed_addItem 114 = .ok (.getfield 35, 3) := by decide +kernel
theorem d_Ed_addItem_117 : decode cb_Ed_addItem 117 = .ok (.aload_n 0, 1) := by decide +kernel
theorem d_Ed_addItem_118 : decode cb_Ed_addItem 118 = .ok (.getfield 29, 3) := by decide +kernel
theorem d_Ed_addItem_121 : decode cb_Ed_addItem 121 = .ok (.aload_n 0, 1) := by decide +kernel
theorem d_Ed_addItem_122 : decode cb_Ed_addItem 122 = .ok (.getfield 32, 3) := by decide +kernel
theorem d_Ed_addItem_125 : decode cb_Ed_addItem 125 = .ok (.iadd, 1) := by decide +kernel
theorem d_Ed_addItem_126 : decode cb_Ed_addItem 126 = .ok (.if_icmp .ge 24, 3) := by decide +kernel
theorem d_Ed_addItem_129 : decode cb_Ed_addItem 129 = .ok (.aload_n 0, 1) := by decide +kernel
theorem d_Ed_addItem_130 : decode cb_Ed_addItem 130 = .ok (.getfield 41, 3) := by decide +kernel
theorem d_Ed_addItem_133 : decode cb_Ed_addItem 133 = .ok (.aload_n 0, 1) := by decide +kernel
theorem d_Ed_addItem_134 : decode cb_Ed_addItem 134 = .ok (.aload_n 0, 1) := by decide +kernel
theorem d_Ed_addItem_135 : decode cb_Ed_addItem 135 = .ok (.getfield 29, 3) := by decide +kernel
theorem d_Ed_addItem_138 : decode cb_Ed_addItem 138 = .ok (.aload_n 0, 1) := by decide +kernel
theorem d_Ed_addItem_139 : decode cb_Ed_addItem 139 = .ok (.getfield 32, 3) := by decide +kernel
theorem d_Ed_addItem_142 : decode cb_Ed_addItem 142 = .ok (.iadd, 1) := by decide +kernel
theorem d_Ed_addItem_143 : decode cb_Ed_addItem 143 = .ok (.invokevirtual 152, 3) := by decide +kernel
theorem d_Ed_addItem_146 : decode cb_Ed_addItem 146 = .ok (.iconst 0, 1) := by decide +kernel
theorem d_Ed_addItem_147 : decode cb_Ed_addItem 147 = .ok (.invokevirtual 74, 3) := by decide +kernel
theorem d_Ed_addItem_150 : decode cb_Ed_addItem 150 = .ok (.iload_n 2, 1) := by decide +kernel
theorem d_Ed_addItem_151 : decode cb_Ed_addItem 151 = .ok (.ifCond .eq 9, 3) := by decide +kernel
theorem d_Ed_addItem_154 : decode cb_Ed_addItem 154 = .ok (.aload_n 0, 1) := by decide +kernel
theorem d_Ed_addItem_155 : decode cb_Ed_addItem 155 = .ok (.iload_n 3, 1) := by decide +kernel
theorem d_Ed_addItem_156 : decode cb_Ed_addItem 156 = .ok (.iload_n 1, 1) := by decide +kernel
theorem d_Ed_addItem_157 : decode cb_Ed_addItem 157 = .ok (.invokevirtual 178, 3) := by decide +kernel
theorem d_Ed_addItem_160 : decode cb_Ed_addItem 160 = .ok (.iconst 0, 1) := by decide +kernel
theorem d_Ed_addItem_161 : decode cb_Ed_addItem 161 = .ok (.istore 4, 2) := by decide +kernel
theorem d_Ed_addItem_163 : decode cb_Ed_addItem 163 = .ok (.iconst 0, 1) := by decide +kernel
theorem d_Ed_addItem_164 : decode cb_Ed_addItem 164 = .ok (.istore 5, 2) := by decide +kernel
theorem d_Ed_addItem_166 : decode cb_Ed_addItem 166 = .ok (.iload 5, 2) := by decide +kernel
theorem d_Ed_addItem_168 : decode cb_Ed_addItem 168 = .ok (.aload_n 0, 1) := by decide +kernel
theorem d_Ed_addItem_169 : decode cb_Ed_addItem 169 = .ok (.getfield 49, 3) := by decide +kernel
theorem d_Ed_addItem_172 : decode cb_Ed_addItem 172 = .ok (.iload_n 1, 1) := by decide +kernel
theorem d_Ed_addItem_173 : decode cb_Ed_addItem 173 = .ok (.invokevirtual 108, 3) := by decide +kernel
theorem d_Ed_addItem_176 : decode cb_Ed_addItem 176 = .ok (.if_icmp .ge 43, 3) := by decide +kernel
theorem d_Ed_addItem_179 : decode cb_Ed_addItem 179 = .ok (.iload 4, 2) := by decide +kernel
theorem d_Ed_addItem_181 : decode cb_Ed_addItem 181 = .ok (.aload_n 0, 1) := by decide +kernel
theorem d_Ed_addItem_182 : decode cb_Ed_addItem 182 = .ok (.getfield 49, 3) := by decide +kernel
theorem d_Ed_addItem_185 : decode cb_Ed_addItem 185 = .ok (.aload_n 0, 1) := by decide +kernel
theorem d_Ed_addItem_186 : decode cb_Ed_addItem 186 = .ok (.getfield 49, 3) := by decide +kernel
theorem d_Ed_addItem_189 : decode cb_Ed_addItem 189 = .ok (.iload_n 1, 1) := by decide +kernel
theorem d_Ed_addItem_190 : decode cb_Ed_addItem 190 = .ok (.iload 5, 2) := by decide +kernel
theorem d_Ed_addItem_192 : decode cb_Ed_addItem 192 = .ok (.invokevirtual 113, 3) := by decide +kernel
theorem d_Ed_addItem_195 : decode cb_Ed_addItem 195 = .ok (.invokevirtual 181, 3) := by decide +kernel
theorem d_Ed_addItem_198 : decode cb_Ed_addItem 198 = .ok (.aload_n 0, 1) := by decide +kernel
theorem d_Ed_addItem_199 : decode cb_Ed_addItem 199 = .ok (.getfield 29, 3) := by decide +kernel
theorem d_Ed_addItem_202 : decode cb_Ed_addItem 202 = .ok (.if_icmp .ge 7, 3) := by decide +kernel
theorem d_Ed_addItem_205 : decode cb_Ed_addItem 205 = .ok (.iconst 1, 1) := by decide +kernel
theorem d_Ed_addItem_206 : decode cb_Ed_addItem 206 = .ok (.goto 4, 3) := by decide +kernel
theorem d_Ed_addItem_209 : decode cb_Ed_addItem 209 = .ok (.iconst 0, 1) := by decide +kernel
theorem d_Ed_addItem_210 : decode cb_Ed_addItem 210 = .ok (.iadd, 1) := by decide +kernel
theorem d_Ed_addItem_211 : decode cb_Ed_addItem 211 = .ok (.istore 4, 2) := by decide +kernel
theorem d_Ed_addItem_213 : decode cb_Ed_addItem 213 = .ok (.iinc 5 1, 3) := by decide +kernel
theorem d_Ed_addItem_216 : decode cb_Ed_addItem 216 = .ok (.goto (-50), 3) := by decide +kernel
theorem d_Ed_addItem_219 : decode cb_Ed_addItem 219 = .ok (.iload 4, 2) := by decide +kernel
theorem d_Ed_addItem_221 : decode cb_Ed_addItem 221 = .ok (.ireturn, 1) := by decide +kernel
theorem d_Ed_lengthenRoad_0 : decode cb_Ed_lengthenRoad 0 = .ok (.aload_n 0, 1) := by decide +kernel
theorem d_Ed_lengthenRoad_1 : decode cb_Ed_lengthenRoad 1 = .ok (.getfield 45, 3) := by decide +kernel
theorem d_Ed_lengthenRoad_4 : decode cb_Ed_lengthenRoad 4 = .ok (.invokevirtual 165, 3) := by decide +kernel
theorem d_Ed_lengthenRoad_7 : decode cb_Ed_lengthenRoad 7 = .ok (.istore_n 1, 1) := by decide +kernel
theorem d_Ed_lengthenRoad_8 : decode cb_Ed_lengthenRoad 8 = .ok (.aload_n 0, 1) := by decide +kernel
theorem d_Ed_lengthenRoad_9 : decode cb_Ed_lengthenRoad 9 = .ok (.getfield 9, 3) := by decide +kernel
theorem d_Ed_lengthenRoad_12 : decode cb_Ed_lengthenRoad 12 = .ok (.aload_n 0, 1) := by decide +kernel
theorem d_Ed_lengthenRoad_13 : decode cb_Ed_lengthenRoad 13 = .ok (.getfield 59, 3) := by decide +kernel
theorem d_Ed_lengthenRoad_16 : decode cb_Ed_lengthenRoad 16 = .ok (.arraylength, 1) := by decide +kernel
theorem d_Ed_lengthenRoad_17 : decode cb_Ed_lengthenRoad 17 = .ok (.if_icmp .lt 4, 3) := by decide +kernel
theorem d_Ed_lengthenRoad_20 : decode cb_Ed_lengthenRoad 20 = .ok (.return_, 1) := by decide +kernel
theorem d_Ed_lengthenRoad_21 : decode cb_Ed_lengthenRoad 21 = .ok (.aload_n 0, 1) := by decide +kernel
theorem d_Ed_lengthenRoad_22 : decode cb_Ed_lengthenRoad 22 = .ok (.getfield 9, 3) := by decide +kernel
theorem d_Ed_lengthenRoad_25 : decode cb_Ed_lengthenRoad 25 = .ok (.ifCond .le 22, 3) := by decide +kernel
theorem d_Ed_lengthenRoad_28 : decode cb_Ed_lengthenRoad 28 = .ok (.aload_n 0, 1) := by decide +kernel
theorem d_Ed_lengthenRoad_29 : decode cb_Ed_lengthenRoad 29 = .ok (.getfield 45, 3) := by decide +kernel
theorem d_Ed_lengthenRoad_32 : decode cb_Ed_lengthenRoad 32 = .ok (.aload_n 0, 1) := by decide +kernel
theorem d_Ed_lengthenRoad_33 : decode cb_Ed_lengthenRoad 33 = .ok (.getfield 59, 3) := by decide +kernel
theorem d_Ed_lengthenRoad_36 : decode cb_Ed_lengthenRoad 36 = .ok (.aload_n 0, 1) := by decide +kernel
theorem d_Ed_lengthenRoad_37 : decode cb_Ed_lengthenRoad 37 = .ok (.getfield 9, 3) := by decide +kernel
theorem d_Ed_lengthenRoad_40 : decode cb_Ed_lengthenRoad 40 = .ok (.iconst 1, 1) := by decide +kernel
theorem d_Ed_lengthenRoad_41 : decode cb_Ed_lengthenRoad 41 = .ok (.isub, 1) := by decide +kernel
theorem d_Ed_lengthenRoad_42 : decode cb_Ed_lengthenRoad 42 = .ok (.iaload, 1) := by decide +kernel
theorem d_Ed_lengthenRoad_43 : decode cb_Ed_lengthenRoad 43 = .ok (.iload_n 1, 1) := by decide +kernel
theorem d_Ed_lengthenRoad_44 : decode cb_Ed_lengthenRoad 44 = .ok (.invokevirtual 184, 3) := by decide +kernel
theorem d_Ed_lengthenRoad_47 : decode cb_Ed_lengthenRoad 47 = .ok (.aload_n 0, 1) := by decide +kernel
theorem d_Ed_lengthenRoad_48 : decode cb_Ed_lengthenRoad 48 = .ok (.getfield 59, 3) := by decide +kernel
theorem d_Ed_lengthenRoad_51 : decode cb_Ed_lengthenRoad 51 = .ok (.aload_n 0, 1) := by decide +kernel
theorem d_Ed_lengthenRoad_52 : decode cb_Ed_lengthenRoad 52 = .ok (.getfield 9, 3) := by decide +kernel
theorem d_Ed_lengthenRoad_55 : decode cb_Ed_lengthenRoad 55 = .ok (.iload_n 1, 1) := by decide +kernel
theorem d_Ed_lengthenRoad_56 : decode cb_Ed_lengthenRoad 56 = .ok (.iastore, 1) := by decide +kernel
theorem d_Ed_lengthenRoad_57 : decode cb_Ed_lengthenRoad 57 = .ok (.aload_n 0, 1) := by decide +kernel
theorem d_Ed_lengthenRoad_58 : decode cb_Ed_lengthenRoad 58 = .ok (.dup, 1) := by decide +kernel
theorem d_Ed_lengthenRoad_59 : decode cb_Ed_lengthenRoad 59 = .ok (.getfield 9, 3) := by decide +kernel
theorem d_Ed_lengthenRoad_62 : decode cb_Ed_lengthenRoad 62 = .ok (.iconst 1, 1) := by decide +kernel
theorem d_Ed_lengthenRoad_63 : decode cb_Ed_lengthenRoad 63 = .ok (.iadd, 1) := by decide +kernel
theorem d_Ed_lengthenRoad_64 : decode cb_Ed_lengthenRoad 64 = .ok (.putfield 9, 3) := by decide +kernel
theorem d_Ed_lengthenRoad_67 : decode cb_Ed_lengthenRoad 67 = .ok (.return_, 1) := by decide +kernel
theorem d_Ed_putEntry_0 : decode cb_Ed_putEntry 0 = .ok (.aload_n 0, 1) := by decide +kernel
theorem d_Ed_putEntry_1 : decode cb_Ed_putEntry 1 = .ok (.getfield 41, 3) := by decide +kernel
theorem d_Ed_putEntry_4 : decode cb_Ed_putEntry 4 = .ok (.iload_n 1, 1) := by decide +kernel
theorem d_Ed_putEntry_5 : decode cb_Ed_putEntry 5 = .ok (.bipush 32, 2) := by decide +kernel
theorem d_Ed_putEntry_7 : decode cb_Ed_putEntry 7 = .ok (.invokevirtual 187, 3) := by decide +kernel
theorem d_Ed_putEntry_10 : decode cb_Ed_putEntry 10 = .ok (.iconst 0, 1) := by decide +kernel
theorem d_Ed_putEntry_11 : decode cb_Ed_putEntry 11 = .ok (.istore 4, 2) := by decide +kernel
theorem d_Ed_putEntry_13 : decode cb_Ed_putEntry 13 = .ok (.iload 4, 2) := by decide +kernel
theorem d_Ed_putEntry_15 : decode cb_Ed_putEntry 15 = .ok (.bipush 11, 2) := by decide +kernel
theorem d_Ed_putEntry_17 : decode cb_Ed_putEntry 17 = .ok (.if_icmp .ge 27, 3) := by decide +kernel
theorem d_Ed_putEntry_20 : decode cb_Ed_putEntry 20 = .ok (.aload_n 0, 1) := by decide +kernel
theorem d_Ed_putEntry_21 : decode cb_Ed_putEntry 21 = .ok (.getfield 41, 3) := by decide +kernel
theorem d_Ed_putEntry_24 : decode cb_Ed_putEntry 24 = .ok (.iload_n 1, 1) := by decide +kernel
theorem d_Ed_putEntry_25 : decode cb_Ed_putEntry 25 = .ok (.iload 4, 2) := by decide +kernel
theorem d_Ed_putEntry_27 : decode cb_Ed_putEntry 27 = .ok (.iadd, 1) := by decide +kernel
theorem d_Ed_putEntry_28 : decode cb_Ed_putEntry 28 = .ok (.aload_n 0, 1) := by decide +kernel
theorem d_Ed_putEntry_29 : decode cb_Ed_putEntry 29 = .ok (.getfield 22, 3) := by decide +kernel
theorem d_Ed_putEntry_32 : decode cb_Ed_putEntry 32 = .ok (.iload 4, 2) := by decide +kernel
theorem d_Ed_putEntry_34 : decode cb_Ed_putEntry 34 = .ok (.iaload, 1) := by decide +kernel
theorem d_Ed_putEntry_35 : decode cb_Ed_putEntry 35 = .ok (.invokevirtual 74, 3) := by decide +kernel
theorem d_Ed_putEntry_38 : decode cb_Ed_putEntry 38 = .ok (.iinc 4 1, 3) := by decide +kernel
theorem d_Ed_putEntry_41 : decode cb_Ed_putEntry 41 = .ok (.goto (-28), 3) := by decide +kernel
theorem d_Ed_putEntry_44 : decode cb_Ed_putEntry 44 = .ok (.aload_n 0, 1) := by decide +kernel
theorem d_Ed_putEntry_45 : decode cb_Ed_putEntry 45 = .ok (.getfield 41, 3) := by decide +kernel
theorem d_Ed_putEntry_48 : decode cb_Ed_putEntry 48 = .ok (.iload_n 1, 1) := by decide +kernel
theorem d_Ed_putEntry_49 : decode cb_Ed_putEntry 49 = .ok (.bipush 11, 2) := by decide +kernel
theorem d_Ed_putEntry_51 : decode cb_Ed_putEntry 51 = .ok (.iadd, 1) := by decide +kernel
theorem d_Ed_putEntry_52 : decode cb_Ed_putEntry 52 = .ok (.iload_n 3, 1) := by decide +kernel
theorem d_Ed_putEntry_53 : decode cb_Ed_putEntry 53 = .ok (.ifCond .eq 8, 3) := by decide +kernel
theorem d_Ed_putEntry_56 : decode cb_Ed_putEntry 56 = .ok (.bipush 48, 2) := by decide +kernel
theorem d_Ed_putEntry_58 : decode cb_Ed_putEntry 58 = .ok (.goto 5, 3) := by decide +kernel
theorem d_Ed_putEntry_61 : decode cb_Ed_putEntry 61 = .ok (.bipush 32, 2) := by decide +kernel
theorem d_Ed_putEntry_63 : decode cb_Ed_putEntry 63 = .ok (.invokevirtual 74, 3) := by decide +kernel
theorem d_Ed_putEntry_66 : decode cb_Ed_putEntry 66 = .ok (.aload_n 0, 1) := by decide +kernel
theorem d_Ed_putEntry_67 : decode cb_Ed_putEntry 67 = .ok (.getfield 41, 3) := by decide +kernel
theorem d_Ed_putEntry_70 : decode cb_Ed_putEntry 70 = .ok (.iload_n 1, 1) := by decide +kernel
theorem d_Ed_putEntry_71 : decode cb_Ed_putEntry 71 = .ok (.bipush 24, 2) := by decide +kernel
theorem d_Ed_putEntry_73 : decode cb_Ed_putEntry 73 = .ok (.iadd, 1) := by decide +kernel
theorem d_Ed_putEntry_74 : decode cb_Ed_putEntry 74 = .ok (.bipush 33, 2) := by decide +kernel
theorem d_Ed_putEntry_76 : decode cb_Ed_putEntry 76 = .ok (.invokevirtual 82, 3) := by decide +kernel
theorem d_Ed_putEntry_79 : decode cb_Ed_putEntry 79 = .ok (.aload_n 0, 1) := by decide +kernel
theorem d_Ed_putEntry_80 : decode cb_Ed_putEntry 80 = .ok (.iload_n 1, 1) := by decide +kernel
theorem d_Ed_putEntry_81 : decode cb_Ed_putEntry 81 = .ok (.iload_n 2, 1) := by decide +kernel
theorem d_Ed_putEntry_82 : decode cb_Ed_putEntry 82 = .ok (.invokevirtual 190, 3) := by decide +kernel
theorem d_Ed_putEntry_85 : decode cb_Ed_putEntry 85 = .ok (.return_, 1) := by decide +kernel
theorem d_Ed_putFirstCluster_0 : decode cb_Ed_putFirstCluster 0 = .ok (.aload_n 0, 1) := by decide +kernel
theorem d_Ed_putFirstCluster_1 : decode cb_Ed_putFirstCluster 1 = .ok (.getfield 41, 3) := by decide +kernel
theorem d_Ed_putFirstCluster_4 : decode cb_Ed_putFirstCluster 4 = .ok (.iload_n 1, 1) := by decide +kernel
theorem d_Ed_putFirstCluster_5 : decode cb_Ed_putFirstCluster 5 = .ok (.bipush 20, 2) := by decide +kernel
theorem d_Ed_putFirstCluster_7 : decode cb_Ed_putFirstCluster 7 = .ok (.iadd, 1) := by decide +kernel
theorem d_Ed_putFirstCluster_8 : decode cb_Ed_putFirstCluster 8 = .ok (.iload_n 2, 1) := by decide +kernel
theorem d_Ed_putFirstCluster_9 : decode cb_Ed_putFirstCluster 9 = .ok (.bipush 16, 2) := by decide +kernel
theorem d_Ed_putFirstCluster_11 : decode cb_Ed_putFirstCluster 11 = .ok (.ishr, 1) := by decide +kernel
theorem d_Ed_putFirstCluster_12 : decode cb_Ed_putFirstCluster 12 = .ok (.invokevirtual 82, 3) := by decide +kernel
theorem d_Ed_putFirstCluster_15 : decode cb_Ed_putFirstCluster 15 = .ok (.aload_n 0, 1) := by decide +kernel
theorem d_Ed_putFirstCluster_16 : decode cb_Ed_putFirstCluster 16 = .ok (.getfield 41, 3) := by decide +kernel
theorem d_Ed_putFirstCluster_19 : decode cb_Ed_putFirstCluster 19 = .ok (.iload_n 1, 1) := by decide +kernel
theorem d_Ed_putFirstCluster_20 : decode cb_Ed_putFirstCluster 20 = .ok (.bipush 26, 2) := by decide +kernel
theorem d_Ed_putFirstCluster_22 : decode cb_Ed_putFirstCluster 22 = .ok (.iadd, 1) := by decide +kernel
theorem d_Ed_putFirstCluster_23 : decode cb_Ed_putFirstCluster 23 = .ok (.iload_n 2, 1) := by decide +kernel
theorem d_Ed_putFirstCluster_24 : decode cb_Ed_putFirstCluster 24 = .ok (.invokevirtual 82, 3) := by decide +kernel
theorem d_Ed_putFirstCluster_27 : decode cb_Ed_putFirstCluster 27 = .ok (.return_, 1) := by decide +kernel
theorem d_Ed_putPart_0 : decode cb_Ed_putPart 0 = .ok (.aload_n 0, 1) := by decide +kernel
theorem d_Ed_putPart_1 : decode cb_Ed_putPart 1 = .ok (.getfield 41, 3) := by decide +kernel
theorem d_Ed_putPart_4 : decode cb_Ed_putPart 4 = .ok (.iload_n 1, 1) := by decide +kernel
theorem d_Ed_putPart_5 : decode cb_Ed_putPart 5 = .ok (.bipush 32, 2) := by decide +kernel
theorem d_Ed_putPart_7 : decode cb_Ed_putPart 7 = .ok (.invokevirtual 187, 3) := by decide +kernel
theorem d_Ed_putPart_10 : decode cb_Ed_putPart 10 = .ok (.aload_n 0, 1) := by decide +kernel
theorem d_Ed_putPart_11 : decode cb_Ed_putPart 11 = .ok (.getfield 41, 3) := by decide +kernel
theorem d_Ed_putPart_14 : decode cb_Ed_putPart 14 = .ok (.iload_n 1, 1) := by decide +kernel
theorem d_Ed_putPart_15 : decode cb_Ed_putPart 15 = .ok (.iload_n 2, 1) := by decide +kernel
theorem d_Ed_putPart_16 : decode cb_Ed_putPart 16 = .ok (.aload_n 0, 1) := by decide +kernel
theorem d_Ed_putPart_17 : decode cb_Ed_putPart 17 = .ok (.getfield 32, 3) := by decide +kernel
theorem d_Ed_putPart_20 : decode cb_Ed_putPart 20 = .ok (.iconst 1, 1) := by decide +kernel
theorem d_Ed_putPart_21 : decode cb_Ed_putPart 21 = .ok (.isub, 1) := by decide +kernel
theorem d_Ed_putPart_22 : decode cb_Ed_putPart 22 = .ok (.if_icmp .ne 10, 3) := by decide +kernel
theorem d_Ed_putPart_25 : decode cb_Ed_putPart 25 = .ok (.iload_n 2, 1) := by decide +kernel
theorem d_Ed_putPart_26 : decode cb_Ed_putPart 26 = .ok (.bipush 64, 2) := by decide +kernel
theorem d_Ed_putPart_28 : decode cb_Ed_putPart 28 = .ok (.iadd, 1) := by decide +kernel
theorem d_Ed_putPart_29 : decode cb_Ed_putPart 29 = .ok (.goto 4, 3) := by decide +kernel
theorem d_Ed_putPart_32 : decode cb_Ed_putPart 32 = .ok (.iload_n 2, 1) := by decide +kernel
theorem d_Ed_putPart_33 : decode cb_Ed_putPart 33 = .ok (.invokevirtual 74, 3) := by decide +kernel
theorem d_Ed_putPart_36 : decode cb_Ed_putPart 36 = .ok (.aload_n 0, 1) := by decide +kernel
theorem d_Ed_putPart_37 : decode cb_Ed_putPart 37 = .ok (.getfield 41, 3) := by decide +kernel
theorem d_Ed_putPart_40 : decode cb_Ed_putPart 40 = .ok (.iload_n 1, 1) := by decide +kernel
theorem d_Ed_putPart_41 : decode cb_Ed_putPart 41 = .ok (.bipush 11, 2) := by decide +kernel
theorem d_Ed_putPart_43 : decode cb_Ed_putPart 43 = .ok (.iadd, 1) := by decide +kernel
theorem d_Ed_putPart_44 : decode cb_Ed_putPart 44 = .ok (.bipush 15, 2) := by decide +kernel
theorem d_Ed_putPart_46 : decode cb_Ed_putPart 46 = .ok (.invokevirtual 74, 3) := by decide +kernel
theorem d_Ed_putPart_49 : decode cb_Ed_putPart 49 = .ok (.aload_n 0, 1) := by decide +kernel
theorem d_Ed_putPart_50 : decode cb_Ed_putPart 50 = .ok (.getfield 41, 3) := by decide +kernel
theorem d_Ed_putPart_53 : decode cb_Ed_putPart 53 = .ok (.iload_n 1, 1) := by decide +kernel
theorem d_Ed_putPart_54 : decode cb_Ed_putPart 54 = .ok (.bipush 13, 2) := by decide +kernel
theorem d_Ed_putPart_56 : decode cb_Ed_putPart 56 = .ok (.iadd, 1) := by decide +kernel
theorem d_Ed_putPart_57 : decode cb_Ed_putPart 57 = .ok (.aload_n 0, 1) := by decide +kernel
theorem d_Ed_putPart_58 : decode cb_Ed_putPart 58 = .ok (.getfield 41, 3) := by decide +kernel
theorem d_Ed_putPart_61 : decode cb_Ed_putPart 61 = .ok (.aload_n 0, 1) := by decide +kernel
theorem d_Ed_putPart_62 : decode cb_Ed_putPart 62 = .ok (.aload_n 0, 1) := by decide +kernel
theorem d_Ed_putPart_63 : decode cb_Ed_putPart 63 = .ok (.getfield 29, 3) := by decide +kernel
theorem d_Ed_putPart_66 : decode cb_Ed_putPart 66 = .ok (.aload_n 0, 1) := by decide +kernel
theorem d_Ed_putPart_67 : decode cb_Ed_putPart 67 = .ok (.getfield 32, 3) := by decide +kernel
theorem d_Ed_putPart_70 : decode cb_Ed_putPart 70 = .ok (.iadd, 1) := by decide +kernel
theorem d_Ed_putPart_71 : decode cb_Ed_putPart 71 = .ok (.iconst 1, 1) := by decide +kernel
theorem d_Ed_putPart_72 : decode cb_Ed_putPart 72 = .ok (.isub, 1) := by decide +kernel
theorem d_Ed_putPart_73 : decode cb_Ed_putPart 73 = .ok (.invokevirtual 152, 3) := by decide +kernel
theorem d_Ed_putPart_76 : decode cb_Ed_putPart 76 = .ok (.invokestatic 193, 3) := by decide +kernel
theorem d_Ed_putPart_79 : decode cb_Ed_putPart 79 = .ok (.invokevirtual 74, 3) := by decide +kernel
theorem d_Ed_putPart_82 : decode cb_Ed_putPart 82 = .ok (.iconst 0, 1) := by decide +kernel
theorem d_Ed_putPart_83 : decode cb_Ed_putPart 83 = .ok (.istore_n 3, 1) := by decide +kernel
theorem d_Ed_putPart_84 : decode cb_Ed_putPart 84 = .ok (.iload_n 3, 1) := by decide +kernel
theorem d_Ed_putPart_85 : decode cb_Ed_putPart 85 = .ok (.bipush 13, 2) := by decide +kernel
theorem d_Ed_putPart_87 : decode cb_Ed_putPart 87 = .ok (.if_icmp .ge 70, 3) := by decide +kernel
theorem d_Ed_putPart_90 : decode cb_Ed_putPart 90 = .ok (.iload_n 2, 1) := by decide +kernel
theorem d_Ed_putPart_91 : decode cb_Ed_putPart 91 = .ok (.iconst 1, 1) := by decide +kernel
theorem d_Ed_putPart_92 : decode cb_Ed_putPart 92 = .ok (.isub, 1) := by decide +kernel
theorem d_Ed_putPart_93 : decode cb_Ed_putPart 93 = .ok (.bipush 13, 2) := by decide +kernel
theorem d_Ed_putPart_95 : decode cb_Ed_putPart 95 = .ok (.imul, 1) := by decide +kernel
theorem d_Ed_putPart_96 : decode cb_Ed_putPart 96 = .ok (.iload_n 3, 1) := by decide +kernel
theorem d_Ed_putPart_97 : decode cb_Ed_putPart 97 = .ok (.iadd, 1) := by decide +kernel
theorem d_Ed_putPart_98 : decode cb_Ed_putPart 98 = .ok (.istore 4, 2) := by decide +kernel
theorem d_Ed_putPart_100 : decode cb_Ed_putPart 100 = .ok (.iload 4, 2) := by decide +kernel
theorem d_Ed_putPart_102 : decode cb_Ed_putPart 102 = .ok (.aload_n 0, 1) := by decide +kernel
theorem d_Ed_putPart_103 : decode cb_Ed_putPart 103 = .ok (.getfield 19, 3) := by decide +kernel
theorem d_Ed_putPart_106 : decode cb_Ed_putPart 106 = .ok (.if_icmp .ge 13, 3) := by decide +kernel
theorem d_Ed_putPart_109 : decode cb_Ed_putPart 109 = .ok (.aload_n 0, 1) := by decide +kernel
theorem d_Ed_putPart_110 : decode cb_Ed_putPart 110 = .ok (.getfield 15, 3) := by decide +kernel
theorem d_Ed_putPart_113 : decode cb_Ed_putPart 113 = .ok (.iload 4, 2) := by decide +kernel
theorem d_Ed_putPart_115 : decode cb_Ed_putPart 115 = .ok (.iaload, 1) := by decide +kernel
theorem d_Ed_putPart_116 : decode cb_Ed_putPart 116 = .ok (.goto 18, 3) := by decide +kernel
theorem d_Ed_putPart_119 : decode cb_Ed_putPart 119 = .ok (.iload 4, 2) := by decide +kernel
theorem d_Ed_putPart_121 : decode cb_Ed_putPart 121 = .ok (.aload_n 0, 1) := by decide +kernel
theorem d_Ed_putPart_122 : decode cb_Ed_putPart 122 = .ok (.getfield 19, 3) := by decide +kernel
theorem d_Ed_putPart_125 : decode cb_Ed_putPart 125 = .ok (.if_icmp .ne 7, 3) := by decide +kernel
theorem d_Ed_putPart_128 : decode cb_Ed_putPart 128 = .ok (.iconst 0, 1) := by decide +kernel
theorem d_Ed_putPart_129 : decode cb_Ed_putPart 129 = .ok (.goto 5, 3) := by decide +kernel
theorem d_Ed_putPart_132 : decode cb_Ed_putPart 132 = .ok (.ldc 197, 2) := by decide +kernel
theorem d_Ed_putPart_134 : decode cb_Ed_putPart 134 = .ok (.istore 5, 2) := by decide +kernel
theorem d_Ed_putPart_136 : decode cb_Ed_putPart 136 = .ok (.aload_n 0, 1) := by decide +kernel
theorem d_Ed_putPart_137 : decode cb_Ed_putPart 137 = .ok (.getfield 41, 3) := by decide +kernel
theorem d_Ed_putPart_140 : decode cb_Ed_putPart 140 = .ok (.iload_n 1, 1) := by decide +kernel
theorem d_Ed_putPart_141 : decode cb_Ed_putPart 141 = .ok (.iload_n 3, 1) := by decide +kernel
theorem d_Ed_putPart_142 : decode cb_Ed_putPart 142 = .ok (.invokestatic 198, 3) := by decide +kernel
theorem d_Ed_putPart_145 : decode cb_Ed_putPart 145 = .ok (.iadd, 1) := by decide +kernel
theorem d_Ed_putPart_146 : decode cb_Ed_putPart 146 = .ok (.iload 5, 2) := by decide +kernel
theorem d_Ed_putPart_148 : decode cb_Ed_putPart 148 = .ok (.invokevirtual 82, 3) := by decide +kernel
theorem d_Ed_putPart_151 : decode cb_Ed_putPart 151 = .ok (.iinc 3 1, 3) := by decide +kernel
theorem d_Ed_putPart_154 : decode cb_Ed_putPart 154 = .ok (.goto (-70), 3) := by decide +kernel
theorem d_Ed_putPart_157 : decode cb_Ed_putPart 157 = .ok (.return_, 1) := by decide +kernel
theorem d_Ed_putDots_0 : decode cb_Ed_putDots 0 = .ok (.iconst 1, 1) := by decide +kernel
theorem d_Ed_putDots_1 : decode cb_Ed_putDots 1 = .ok (.istore_n 3, 1) := by decide +kernel
theorem d_Ed_putDots_2 : decode cb_Ed_putDots 2 = .ok (.iload_n 3, 1) := by decide +kernel
theorem d_Ed_putDots_3 : decode cb_Ed_putDots 3 = .ok (.iconst 2, 1) := by decide +kernel
theorem d_Ed_putDots_4 : decode cb_Ed_putDots 4 = .ok (.if_icmp .gt 126, 3) := by decide +kernel
theorem d_Ed_putDots_7 : decode cb_Ed_putDots 7 = .ok (.aload_n 0, 1) := by decide +kernel
theorem d_Ed_putDots_8 : decode cb_Ed_putDots 8 = .ok (.getfield 45, 3) := by decide +kernel
theorem d_Ed_putDots_11 : decode cb_Ed_putDots 11 = .ok (.iload_n 1, 1) := by decide +kernel
theorem d_Ed_putDots_12 : decode cb_Ed_putDots 12 = .ok (.invokevirtual 65, 3) := by decide +kernel
theorem d_Ed_putDots_15 : decode cb_Ed_putDots 15 = .ok (.iload_n 3, 1) := by decide +kernel
theorem d_Ed_putDots_16 : decode cb_Ed_putDots 16 = .ok (.iconst 1, 1) := by decide +kernel
theorem d_Ed_putDots_17 : decode cb_Ed_putDots 17 = .ok (.isub, 1) := by decide +kernel
theorem d_Ed_putDots_18 : decode cb_Ed_putDots 18 = .ok (.bipush 32, 2) := by decide +kernel
theorem d_Ed_putDots_20 : decode cb_Ed_putDots 20 = .ok (.imul, 1) := by decide +kernel
theorem d_Ed_putDots_21 : decode cb_Ed_putDots 21 = .ok (.iadd, 1) := by decide +kernel
theorem d_Ed_putDots_22 : decode cb_Ed_putDots 22 = .ok (.istore 4, 2) := by decide +kernel
theorem d_Ed_putDots_24 : decode cb_Ed_putDots 24 = .ok (.iconst 0, 1) := by decide +kernel
theorem d_Ed_putDots_25 : decode cb_Ed_putDots 25 = .ok (.istore 5, 2) := by decide +kernel
theorem d_Ed_putDots_27 : decode cb_Ed_putDots 27 = .ok (.iload 5, 2) := by decide +kernel
theorem d_Ed_putDots_29 : decode cb_Ed_putDots 29 = .ok (.bipush 11, 2) := by decide +kernel
theorem d_Ed_putDots_31 : decode cb_Ed_putDots 31 = .ok (.if_icmp .ge 34, 3) := by decide +kernel
theorem d_Ed_putDots_34 : decode cb_Ed_putDots 34 = .ok (.aload_n 0, 1) := by decide +kernel
theorem d_Ed_putDots_35 : decode cb_Ed_putDots 35 = .ok (.getfield 41, 3) := by decide +kernel
theorem d_Ed_putDots_38 : decode cb_Ed_putDots 38 = .ok (.iload 4, 2) := by decide +kernel
theorem d_Ed_putDots_40 : decode cb_Ed_putDots 40 = .ok (.iload 5, 2) := by decide +kernel
theorem d_Ed_putDots_42 : decode cb_Ed_putDots 42 = .ok (.iadd, 1) := by decide +kernel
theorem d_Ed_putDots_43 : decode cb_Ed_putDots 43 = .ok (.iload 5, 2) := by decide +kernel
theorem d_Ed_putDots_45 : decode cb_Ed_putDots 45 = .ok (.iload_n 3, 1) := by decide +kernel
theorem d_Ed_putDots_46 : decode cb_Ed_putDots 46 = .ok (.if_icmp .ge 8, 3) := by decide +kernel
theorem d_Ed_putDots_49 : decode cb_Ed_putDots 49 = .ok (.bipush 46, 2) := by decide +kernel
theorem d_Ed_putDots_51 : decode cb_Ed_putDots 51 = .ok (.goto 5, 3) := by decide +kernel
theorem d_Ed_putDots_54 : decode cb_Ed_putDots 54 = .ok (.bipush 32, 2) := by decide +kernel
theorem d_Ed_putDots_56 : decode cb_Ed_putDots 56 = .ok (.invokevirtual 74, 3) := by decide +kernel
theorem d_Ed_putDots_59 : decode cb_Ed_putDots 59 = .ok (.iinc 5 1, 3) := by decide +kernel
theorem d_Ed_putDots_62 : decode cb_Ed_putDots 62 = .ok (.goto (-35), 3) := by decide +kernel
theorem d_Ed_putDots_65 : decode cb_Ed_putDots 65 = .ok (.aload_n 0, 1) := by decide +kernel
theorem d_Ed_putDots_66 : decode cb_Ed_putDots 66 = .ok (.getfield 41, 3) := by decide +kernel
theorem d_Ed_putDots_69 : decode cb_Ed_putDots 69 = .ok (.iload 4, 2) := by decide +kernel
theorem d_Ed_putDots_71 : decode cb_Ed_putDots 71 = .ok (.bipush 11, 2) := by decide +kernel
theorem d_Ed_putDots_73 : decode cb_Ed_putDots 73 = .ok (.iadd, 1) := by decide +kernel
theorem d_Ed_putDots_74 : decode cb_Ed_putDots 74 = .ok (.bipush 16, 2) := by decide +kernel
theorem d_Ed_putDots_76 : decode cb_Ed_putDots 76 = .ok (.invokevirtual 74, 3) := by decide +kernel
theorem d_Ed_putDots_79 : decode cb_Ed_putDots 79 = .ok (.aload_n 0, 1) := by decide +kernel
theorem d_Ed_putDots_80 : decode cb_Ed_putDots 80 = .ok (.getfield 41, 3) := by decide +kernel
theorem d_Ed_putDots_83 : decode cb_Ed_putDots 83 = .ok (.iload 4, 2) := by decide +kernel
theorem d_Ed_putDots_85 : decode cb_Ed_putDots 85 = .ok (.bipush 24, 2) := by decide +kernel
theorem d_Ed_putDots_87 : decode cb_Ed_putDots 87 = .ok (.iadd, 1) := by decide +kernel
theorem d_Ed_putDots_88 : decode cb_Ed_putDots 88 = .ok (.bipush 33, 2) := by decide +kernel
theorem d_Ed_putDots_90 : decode cb_Ed_putDots 90 = .ok (.invokevirtual 82, 3) := by decide +kernel
theorem d_Ed_putDots_93 : decode cb_Ed_putDots 93 = .ok (.aload_n 0, 1) := by decide +kernel
theorem d_Ed_putDots_94 : decode cb_Ed_putDots 94 = .ok (.iload 4, 2) := by decide +kernel
theorem d_Ed_putDots_96 : decode cb_Ed_putDots 96 = .ok (.iload_n 3, 1) := by decide +kernel
theorem d_Ed_putDots_97 : decode cb_Ed_putDots 97 = .ok (.iconst 1, 1) := by decide +kernel
theorem d_Ed_putDots_98 : decode cb_Ed_putDots 98 = .ok (.if_icmp .ne 7, 3) := by decide +kernel
theorem d_Ed_putDots_101 : decode cb_Ed_putDots 101 = .ok (.iload_n 1, 1) := by decide +kernel
theorem d_Ed_putDots_102 : decode cb_Ed_putDots 102 = .ok (.goto 19, 3) := by decide +kernel
theorem d_Ed_putDots_105 : decode cb_Ed_putDots 105 = .ok (.iload_n 2, 1) := by decide +kernel
theorem d_Ed_putDots_106 : decode cb_Ed_putDots 106 = .ok (.ifCond .ne 7, 3) := by decide +kernel
theorem d_Ed_putDots_109 : decode cb_Ed_putDots 109 = .ok (.iconst 0, 1) := by decide +kernel
theorem d_Ed_putDots_110 : decode cb_Ed_putDots 110 = .ok (.goto 11, 3) := by decide +kernel
theorem d_Ed_putDots_113 : decode cb_Ed_putDots 113 = .ok (.aload_n 0, 1) := by decide +kernel
theorem d_Ed_putDots_114 : decode cb_Ed_putDots 114 = .ok (.getfield 49, 3) := by decide +kernel
theorem d_Ed_putDots_117 : decode cb_Ed_putDots 117 = .ok (.iload_n 2, 1) := by decide +kernel
theorem d_Ed_putDots_118 : decode cb_Ed_putDots 118 = .ok (.invokevirtual 143, 3) := by decide +kernel
theorem d_Ed_putDots_121 : decode cb_Ed_putDots 121 = .ok (.invokevirtual 190, 3) := by decide +kernel
theorem d_Ed_putDots_124 : decode cb_Ed_putDots 124 = .ok (.iinc 3 1, 3) := by decide +kernel
theorem d_Ed_putDots_127 : decode cb_Ed_putDots 127 = .ok (.goto (-125), 3) := by decide +kernel
theorem d_Ed_putDots_130 : decode cb_Ed_putDots 130 = .ok (.return_, 1) := by decide +kernel
theorem d_Ed_clustersFor_0 : decode cb_Ed_clustersFor 0 = .ok (.aload_n 0, 1) := by decide +kernel
theorem d_Ed_clustersFor_1 : decode cb_Ed_clustersFor 1 = .ok (.getfield 45, 3) := by decide +kernel
theorem d_Ed_clustersFor_4 : decode cb_Ed_clustersFor 4 = .ok (.invokevirtual 203, 3) := by decide +kernel
theorem d_Ed_clustersFor_7 : decode cb_Ed_clustersFor 7 = .ok (.istore_n 2, 1) := by decide +kernel
theorem d_Ed_clustersFor_8 : decode cb_Ed_clustersFor 8 = .ok (.iload_n 2, 1) := by decide +kernel
theorem d_Ed_clustersFor_9 : decode cb_Ed_clustersFor 9 = .ok (.iconst 1, 1) := by decide +kernel
theorem d_Ed_clustersFor_10 : decode cb_Ed_clustersFor 10 = .ok (.if_icmp .ge 7, 3) := by decide +kernel
theorem d_Ed_clustersFor_13 : decode cb_Ed_clustersFor 13 = .ok (.iconst 0, 1) := by decide +kernel
theorem d_Ed_clustersFor_14 : decode cb_Ed_clustersFor 14 = .ok (.goto 10, 3) := by decide +kernel
theorem d_Ed_clustersFor_17 : decode cb_Ed_clustersFor 17 = .ok (.iload_n 1, 1) := by decide +kernel
theorem d_Ed_clustersFor_18 : decode cb_Ed_clustersFor 18 = .ok (.iload_n 2, 1) := by decide +kernel
theorem d_Ed_clustersFor_19 : decode cb_Ed_clustersFor 19 = .ok (.iadd, 1) := by decide +kernel
theorem d_Ed_clustersFor_20 : decode cb_Ed_clustersFor 20 = .ok (.iconst 1, 1) := by decide +kernel
theorem d_Ed_clustersFor_21 : decode cb_Ed_clustersFor 21 = .ok (.isub, 1) := by decide +kernel
theorem d_Ed_clustersFor_22 : decode cb_Ed_clustersFor 22 = .ok (.iload_n 2, 1) := by decide +kernel
theorem d_Ed_clustersFor_23 : decode cb_Ed_clustersFor 23 = .ok (.idiv, 1) := by decide +kernel
theorem d_Ed_clustersFor_24 : decode cb_Ed_clustersFor 24 = .ok (.ireturn, 1) := by decide +kernel
theorem d_Ed_canHold_0 : decode cb_Ed_canHold 0 = .ok (.aload_n 0, 1) := by decide +kernel
theorem d_Ed_canHold_1 : decode cb_Ed_canHold 1 = .ok (.getfield 49, 3) := by decide +kernel
theorem d_Ed_canHold_4 : decode cb_Ed_canHold 4 = .ok (.iload_n 1, 1) := by decide +kernel
theorem d_Ed_canHold_5 : decode cb_Ed_canHold 5 = .ok (.invokevirtual 206, 3) := by decide +kernel
theorem d_Ed_canHold_8 : decode cb_Ed_canHold 8 = .ok (.istore_n 3, 1) := by decide +kernel
theorem d_Ed_canHold_9 : decode cb_Ed_canHold 9 = .ok (.aload_n 0, 1) := by decide +kernel
theorem d_Ed_canHold_10 : decode cb_Ed_canHold 10 = .ok (.iload_n 3, 1) := by decide +kernel
theorem d_Ed_canHold_11 : decode cb_Ed_canHold 11 = .ok (.iload_n 2, 1) := by decide +kernel
theorem d_Ed_canHold_12 : decode cb_Ed_canHold 12 = .ok (.iadd, 1) := by decide +kernel
theorem d_Ed_canHold_13 : decode cb_Ed_canHold 13 = .ok (.invokevirtual 209, 3) := by decide +kernel
theorem d_Ed_canHold_16 : decode cb_Ed_canHold 16 = .ok (.aload_n 0, 1) := by decide +kernel
theorem d_Ed_canHold_17 : decode cb_Ed_canHold 17 = .ok (.iload_n 3, 1) := by decide +kernel
theorem d_Ed_canHold_18 : decode cb_Ed_canHold 18 = .ok (.invokevirtual 209, 3) := by decide +kernel
theorem d_Ed_canHold_21 : decode cb_Ed_canHold 21 = .ok (.isub, 1) := by decide +kernel
theorem d_Ed_canHold_22 : decode cb_Ed_canHold 22 = .ok (.aload_n 0, 1) := by decide +kernel
theorem d_Ed_canHold_23 : decode cb_Ed_canHold 23 = .ok (.getfield 45, 3) := by decide +kernel
theorem d_Ed_canHold_26 : decode cb_Ed_canHold 26 = .ok (.invokevirtual 155, 3) := by decide +kernel
theorem d_Ed_canHold_29 : decode cb_Ed_canHold 29 = .ok (.if_icmp .gt 7, 3) := by decide +kernel
theorem d_Ed_canHold_32 : decode cb_Ed_canHold 32 = .ok (.iconst 1, 1) := by decide +kernel
theorem d_Ed_canHold_33 : decode cb_Ed_canHold 33 = .ok (.goto 4, 3) := by decide +kernel
theorem d_Ed_canHold_36 : decode cb_Ed_canHold 36 = .ok (.iconst 0, 1) := by decide +kernel
theorem d_Ed_canHold_37 : decode cb_Ed_canHold 37 = .ok (.ireturn, 1) := by decide +kernel
theorem d_Ed_lengthen_0 : decode cb_Ed_lengthen 0 = .ok (.aload_n 0, 1) := by decide +kernel
theorem d_Ed_lengthen_1 : decode cb_Ed_lengthen 1 = .ok (.getfield 49, 3) := by decide +kernel
theorem d_Ed_lengthen_4 : decode cb_Ed_lengthen 4 = .ok (.iload_n 1, 1) := by decide +kernel
theorem d_Ed_lengthen_5 : decode cb_Ed_lengthen 5 = .ok (.invokevirtual 124, 3) := by decide +kernel
theorem d_Ed_lengthen_8 : decode cb_Ed_lengthen 8 = .ok (.istore_n 3, 1) := by decide +kernel
theorem d_Ed_lengthen_9 : decode cb_Ed_lengthen 9 = .ok (.aload_n 0, 1) := by decide +kernel
theorem d_Ed_lengthen_10 : decode cb_Ed_lengthen 10 = .ok (.getfield 49, 3) := by decide +kernel
theorem d_Ed_lengthen_13 : decode cb_Ed_lengthen 13 = .ok (.iload_n 1, 1) := by decide +kernel
theorem d_Ed_lengthen_14 : decode cb_Ed_lengthen 14 = .ok (.invokevirtual 206, 3) := by decide +kernel
theorem d_Ed_lengthen_17 : decode cb_Ed_lengthen 17 = .ok (.istore 4, 2) := by decide +kernel
theorem d_Ed_lengthen_19 : decode cb_Ed_lengthen 19 = .ok (.aload_n 0, 1) := by decide +kernel
theorem d_Ed_lengthen_20 : decode cb_Ed_lengthen 20 = .ok (.aload_n 0, 1) := by decide +kernel
theorem d_Ed_lengthen_21 : decode cb_Ed_lengthen 21 = .ok (.getfield 45, 3) := by decide +kernel
theorem d_Ed_lengthen_24 : decode cb_Ed_lengthen 24 = .ok (.aload_n 0, 1) := by decide +kernel
theorem d_Ed_lengthen_25 : decode cb_Ed_lengthen 25 = .ok (.getfield 49, 3) := by decide +kernel
theorem d_Ed_lengthen_28 : decode cb_Ed_lengthen 28 = .ok (.iload_n 1, 1) := by decide +kernel
theorem d_Ed_lengthen_29 : decode cb_Ed_lengthen 29 = .ok (.invokevirtual 143, 3) := by decide +kernel
theorem d_Ed_lengthen_32 : decode cb_Ed_lengthen 32 = .ok (.aload_n 0, 1) := by decide +kernel
theorem d_Ed_lengthen_33 : decode cb_Ed_lengthen 33 = .ok (.getfield 59, 3) := by decide +kernel
theorem d_Ed_lengthen_36 : decode cb_Ed_lengthen 36 = .ok (.invokevirtual 146, 3) := by decide +kernel
theorem d_Ed_lengthen_39 : decode cb_Ed_lengthen 39 = .ok (.putfield 9, 3) := by decide +kernel
theorem d_Ed_lengthen_42 : decode cb_Ed_lengthen 42 = .ok (.aload_n 0, 1) := by decide +kernel
theorem d_Ed_lengthen_43 : decode cb_Ed_lengthen 43 = .ok (.iload 4, 2) := by decide +kernel
theorem d_Ed_lengthen_45 : decode cb_Ed_lengthen 45 = .ok (.iload_n 2, 1) := by decide +kernel
theorem d_Ed_lengthen_46 : decode cb_Ed_lengthen 46 = .ok (.iadd, 1) := by decide +kernel
theorem d_Ed_lengthen_47 : decode cb_Ed_lengthen 47 = .ok (.invokevirtual 209, 3) := by decide +kernel
theorem d_Ed_lengthen_50 : decode cb_Ed_lengthen 50 = .ok (.istore 5, 2) := by decide +kernel
theorem d_Ed_lengthen_52 : decode cb_Ed_lengthen 52 = .ok (.aload_n 0, 1) := by decide +kernel
theorem d_Ed_lengthen_53 : decode cb_Ed_lengthen 53 = .ok (.getfield 9, 3) := by decide +kernel
theorem d_Ed_lengthen_56 : decode cb_Ed_lengthen 56 = .ok (.ifCond .ne 23, 3) := by decide +kernel
theorem d_Ed_lengthen_59 : decode cb_Ed_lengthen 59 = .ok (.iload 5, 2) := by decide +kernel
theorem d_Ed_lengthen_61 : decode cb_Ed_lengthen 61 = .ok (.ifCond .le 18, 3) := by decide +kernel
theorem d_Ed_lengthen_64 : decode cb_Ed_lengthen 64 = .ok (.aload_n 0, 1) := by decide +kernel
theorem d_Ed_lengthen_65 : decode cb_Ed_lengthen 65 = .ok (.invokevirtual 168, 3) := by decide +kernel
theorem d_Ed_lengthen_68 : decode cb_Ed_lengthen 68 = .ok (.aload_n 0, 1) := by decide +kernel
theorem d_Ed_lengthen_69 : decode cb_Ed_lengthen 69 = .ok (.iload_n 3, 1) := by decide +kernel
theorem d_Ed_lengthen_70 : decode cb_Ed_lengthen 70 = .ok (.aload_n 0, 1) := by decide +kernel
theorem d_Ed_lengthen_71 : decode cb_Ed_lengthen 71 = .ok (.getfield 59, 3) := by decide +kernel
theorem d_Ed_lengthen_74 : decode cb_Ed_lengthen 74 = .ok (.iconst 0, 1) := by decide +kernel
theorem d_Ed_lengthen_75 : decode cb_Ed_lengthen 75 = .ok (.iaload, 1) := by decide +kernel
theorem d_Ed_lengthen_76 : decode cb_Ed_lengthen 76 = .ok (.invokevirtual 190, 3) := by decide +kernel
theorem d_Ed_lengthen_79 : decode cb_Ed_lengthen 79 = .ok (.aload_n 0, 1) := by decide +kernel
theorem d_Ed_lengthen_80 : decode cb_Ed_lengthen 80 = .ok (.getfield 9, 3) := by decide +kernel
theorem d_Ed_lengthen_83 : decode cb_Ed_lengthen 83 = .ok (.istore 6, 2) := by decide +kernel
theorem d_Ed_lengthen_85 : decode cb_Ed_lengthen 85 = .ok (.iload 6, 2) := by decide +kernel
theorem d_Ed_lengthen_87 : decode cb_Ed_lengthen 87 = .ok (.iload 5, 2) := by decide +kernel
theorem d_Ed_lengthen_89 : decode cb_Ed_lengthen 89 = .ok (.if_icmp .ge 13, 3) := by decide +kernel
theorem d_Ed_lengthen_92 : decode cb_Ed_lengthen 92 = .ok (.aload_n 0, 1) := by decide +kernel
theorem d_Ed_lengthen_93 : decode cb_Ed_lengthen 93 = .ok (.invokevirtual 168, 3) := by decide +kernel
theorem d_Ed_lengthen_96 : decode cb_Ed_lengthen 96 = .ok (.iinc 6 1, 3) := by decide +kernel
theorem d_Ed_lengthen_99 : decode cb_Ed_lengthen 99 = .ok (.goto (-14), 3) := by decide +kernel
theorem d_Ed_lengthen_102 : decode cb_Ed_lengthen 102 = .ok (.aload_n 0, 1) := by decide +kernel
theorem d_Ed_lengthen_103 : decode cb_Ed_lengthen 103 = .ok (.getfield 41, 3) := by decide +kernel
theorem d_Ed_lengthen_106 : decode cb_Ed_lengthen 106 = .ok (.iload_n 3, 1) := by decide +kernel
theorem d_Ed_lengthen_107 : decode cb_Ed_lengthen 107 = .ok (.bipush 28, 2) := by decide +kernel
theorem d_Ed_lengthen_109 : decode cb_Ed_lengthen 109 = .ok (.iadd, 1) := by decide +kernel
theorem d_Ed_lengthen_110 : decode cb_Ed_lengthen 110 = .ok (.iload 4, 2) := by decide +kernel
theorem d_Ed_lengthen_112 : decode cb_Ed_lengthen 112 = .ok (.iload_n 2, 1) := by decide +kernel
theorem d_Ed_lengthen_113 : decode cb_Ed_lengthen 113 = .ok (.iadd, 1) := by decide +kernel
theorem d_Ed_lengthen_114 : decode cb_Ed_lengthen 114 = .ok (.invokevirtual 212, 3) := by decide +kernel
theorem d_Ed_lengthen_117 : decode cb_Ed_lengthen 117 = .ok (.return_, 1) := by decide +kernel
theorem d_Ed_placeOnRoad_0 : decode cb_Ed_placeOnRoad 0 = .ok (.aload_n 0, 1) := by decide +kernel
theorem d_Ed_placeOnRoad_1 : decode cb_Ed_placeOnRoad 1 = .ok (.getfield 45, 3) := by decide +kernel
theorem d_Ed_placeOnRoad_4 : decode cb_Ed_placeOnRoad 4 = .ok (.invokevirtual 203, 3) := by decide +kernel
theorem d_Ed_placeOnRoad_7 : decode cb_Ed_placeOnRoad 7 = .ok (.istore_n 2, 1) := by decide +kernel
theorem d_Ed_placeOnRoad_8 : decode cb_Ed_placeOnRoad 8 = .ok (.iload_n 2, 1) := by decide +kernel
theorem d_Ed_placeOnRoad_9 : decode cb_Ed_placeOnRoad 9 = .ok (.iconst 1, 1) := by decide +kernel
theorem d_Ed_placeOnRoad_10 : decode cb_Ed_placeOnRoad 10 = .ok (.if_icmp .lt 17, 3) := by decide +kernel
theorem d_Ed_placeOnRoad_13 : decode cb_Ed_placeOnRoad 13 = .ok (.iload_n 1, 1) := by decide +kernel
theorem d_Ed_placeOnRoad_14 : decode cb_Ed_placeOnRoad 14 = .ok (.ifCond .lt 13, 3) := by decide +kernel
theorem d_Ed_placeOnRoad_17 : decode cb_Ed_placeOnRoad 17 = .ok (.iload_n 1, 1) := by decide +kernel
theorem d_Ed_placeOnRoad_18 : decode cb_Ed_placeOnRoad 18 = .ok (.iload_n 2, 1) := by decide +kernel
theorem d_Ed_placeOnRoad_19 : decode cb_Ed_placeOnRoad 19 = .ok (.idiv, 1) := by decide +kernel
theorem d_Ed_placeOnRoad_20 : decode cb_Ed_placeOnRoad 20 = .ok (.aload_n 0, 1) := by decide +kernel
theorem d_Ed_placeOnRoad_21 : decode cb_Ed_placeOnRoad 21 = .ok (.getfield 9, 3) := by decide +kernel
theorem d_Ed_placeOnRoad_24 : decode cb_Ed_placeOnRoad 24 = .ok (.if_icmp .lt 5, 3) := by decide +kernel
theorem d_Ed_placeOnRoad_27 : decode cb_Ed_placeOnRoad 27 = .ok (.iconst (-1), 1) := by decide +kernel
theorem d_Ed_placeOnRoad_28 : decode cb_Ed_placeOnRoad 28 = .ok (.ireturn, 1) := by decide +kernel
theorem d_Ed_placeOnRoad_29 : decode cb_Ed_placeOnRoad 29 = .ok (.aload_n 0, 1) := by decide +kernel
theorem d_Ed_placeOnRoad_30 : decode cb_Ed_placeOnRoad 30 = .ok (.getfield 45, 3) := by decide +kernel
theorem d_Ed_placeOnRoad_33 : decode cb_Ed_placeOnRoad 33 = .ok (.aload_n 0, 1) := by decide +kernel
theorem d_Ed_placeOnRoad_34 : decode cb_Ed_placeOnRoad 34 = .ok (.getfield 59, 3) := by decide +kernel
theorem d_Ed_placeOnRoad_37 : decode cb_Ed_placeOnRoad 37 = .ok (.iload_n 1, 1) := by decide +kernel
theorem d_Ed_placeOnRoad_38 : decode cb_Ed_placeOnRoad 38 = .ok (.iload_n 2, 1) := by decide +kernel
theorem d_Ed_placeOnRoad_39 : decode cb_Ed_placeOnRoad 39 = .ok (.idiv, 1) := by decide +kernel
theorem d_Ed_placeOnRoad_40 : decode cb_Ed_placeOnRoad 40 = .ok (.iaload, 1) := by decide +kernel
theorem d_Ed_placeOnRoad_41 : decode cb_Ed_placeOnRoad 41 = .ok (.invokevirtual 65, 3) := by decide +kernel
theorem d_Ed_placeOnRoad_44 : decode cb_Ed_placeOnRoad 44 = .ok (.iload_n 1, 1) := by decide +kernel
theorem d_Ed_placeOnRoad_45 : decode cb_Ed_placeOnRoad 45 = .ok (.iload_n 2, 1) := by decide +kernel
theorem d_Ed_placeOnRoad_46 : decode cb_Ed_placeOnRoad 46 = .ok (.irem, 1) := by decide +kernel
theorem d_Ed_placeOnRoad_47 : decode cb_Ed_placeOnRoad 47 = .ok (.iadd, 1) := by decide +kernel
theorem d_Ed_placeOnRoad_48 : decode cb_Ed_placeOnRoad 48 = .ok (.ireturn, 1) := by decide +kernel
theorem d_Ed_placeBehind_0 : decode cb_Ed_placeBehind 0 = .ok (.iload_n 2, 1) := by decide +kernel
theorem d_Ed_placeBehind_1 : decode cb_Ed_placeBehind 1 = .ok (.sipush 512, 3) := by decide +kernel
theorem d_Ed_placeBehind_4 : decode cb_Ed_placeBehind 4 = .ok (.irem, 1) := by decide +kernel
theorem d_Ed_placeBehind_5 : decode cb_Ed_placeBehind 5 = .ok (.ifCond .ne 11, 3) := by decide +kernel
theorem d_Ed_placeBehind_8 : decode cb_Ed_placeBehind 8 = .ok (.aload_n 0, 1) := by decide +kernel
theorem d_Ed_placeBehind_9 : decode cb_Ed_placeBehind 9 = .ok (.iload_n 2, 1) := by decide +kernel
theorem d_Ed_placeBehind_10 : decode cb_Ed_placeBehind 10 = .ok (.invokevirtual 215, 3) := by decide +kernel
theorem d_Ed_placeBehind_13 : decode cb_Ed_placeBehind 13 = .ok (.goto 6, 3) := by decide +kernel
theorem d_Ed_placeBehind_16 : decode cb_Ed_placeBehind 16 = .ok (.iload_n 1, 1) := by decide +kernel
theorem d_Ed_placeBehind_17 : decode cb_Ed_placeBehind 17 = .ok (.iconst 1, 1) := by decide +kernel
theorem d_Ed_placeBehind_18 : decode cb_Ed_placeBehind 18 = .ok (.iadd, 1) := by decide +kernel
theorem d_Ed_placeBehind_19 : decode cb_Ed_placeBehind 19 = .ok (.ireturn, 1) := by decide +kernel
theorem d_Ed_placeOf_0 : decode cb_Ed_placeOf 0 = .ok (.aload_n 0, 1) := by decide +kernel
theorem d_Ed_placeOf_1 : decode cb_Ed_placeOf 1 = .ok (.aload_n 0, 1) := by decide +kernel
theorem d_Ed_placeOf_2 : decode cb_Ed_placeOf 2 = .ok (.getfield 45, 3) := by decide +kernel
theorem d_Ed_placeOf_5 : decode cb_Ed_placeOf 5 = .ok (.aload_n 0, 1) := by decide +kernel
theorem d_Ed_placeOf_6 : decode cb_Ed_placeOf 6 = .ok (.getfield 49, 3) := by decide +kernel
theorem d_Ed_placeOf_9 : decode cb_Ed_placeOf 9 = .ok (.iload_n 1, 1) := by decide +kernel
theorem d_Ed_placeOf_10 : decode cb_Ed_placeOf 10 = .ok (.invokevirtual 143, 3) := by decide +kernel
theorem d_Ed_placeOf_13 : decode cb_Ed_placeOf 13 = .ok (.aload_n 0, 1) := by decide +kernel
theorem d_Ed_placeOf_14 : decode cb_Ed_placeOf 14 = .ok (.getfield 59, 3) := by decide +kernel
theorem d_Ed_placeOf_17 : decode cb_Ed_placeOf 17 = .ok (.invokevirtual 146, 3) := by decide +kernel
theorem d_Ed_placeOf_20 : decode cb_Ed_placeOf 20 = .ok (.putfield 9, 3) := by decide +kernel
theorem d_Ed_placeOf_23 : decode cb_Ed_placeOf 23 = .ok (.aload_n 0, 1) := by decide +kernel
theorem d_Ed_placeOf_24 : decode cb_Ed_placeOf 24 = .ok (.iload_n 2, 1) := by decide +kernel
theorem d_Ed_placeOf_25 : decode cb_Ed_placeOf 25 = .ok (.invokevirtual 215, 3) := by decide +kernel
theorem d_Ed_placeOf_28 : decode cb_Ed_placeOf 28 = .ok (.ireturn, 1) := by decide +kernel
theorem d_Ed_shorten_0 : decode cb_Ed_shorten 0 = .ok (.aload_n 0, 1) := by decide +kernel
theorem d_Ed_shorten_1 : decode cb_Ed_shorten 1 = .ok (.getfield 49, 3) := by decide +kernel
theorem d_Ed_shorten_4 : decode cb_Ed_shorten 4 = .ok (.iload_n 1, 1) := by decide +kernel
theorem d_Ed_shorten_5 : decode cb_Ed_shorten 5 = .ok (.invokevirtual 124, 3) := by decide +kernel
theorem d_Ed_shorten_8 : decode cb_Ed_shorten 8 = .ok (.istore_n 3, 1) := by decide +kernel
theorem d_Ed_shorten_9 : decode cb_Ed_shorten 9 = .ok (.aload_n 0, 1) := by decide +kernel
theorem d_Ed_shorten_10 : decode cb_Ed_shorten 10 = .ok (.aload_n 0, 1) := by decide +kernel
theorem d_Ed_shorten_11 : decode cb_Ed_shorten 11 = .ok (.getfield 45, 3) := by decide +kernel
theorem d_Ed_shorten_14 : decode cb_Ed_shorten 14 = .ok (.aload_n 0, 1) := by decide +kernel
theorem d_Ed_shorten_15 : decode cb_Ed_shorten 15 = .ok (.getfield 49, 3) := by decide +kernel
theorem d_Ed_shorten_18 : decode cb_Ed_shorten 18 = .ok (.iload_n 1, 1) := by decide +kernel
theorem d_Ed_shorten_19 : decode cb_Ed_shorten 19 = .ok (.invokevirtual 143, 3) := by decide +kernel
theorem d_Ed_shorten_22 : decode cb_Ed_shorten 22 = .ok (.aload_n 0, 1) := by decide +kernel
theorem d_Ed_shorten_23 : decode cb_Ed_shorten 23 = .ok (.getfield 59, 3) := by decide +kernel
theorem d_Ed_shorten_26 : decode cb_Ed_shorten 26 = .ok (.invokevirtual 146, 3) := by decide +kernel
theorem d_Ed_shorten_29 : decode cb_Ed_shorten 29 = .ok (.putfield 9, 3) := by decide +kernel
theorem d_Ed_shorten_32 : decode cb_Ed_shorten 32 = .ok (.aload_n 0, 1) := by decide +kernel
theorem d_Ed_shorten_33 : decode cb_Ed_shorten 33 = .ok (.iload_n 2, 1) := by decide +kernel
theorem d_Ed_shorten_34 : decode cb_Ed_shorten 34 = .ok (.invokevirtual 209, 3) := by decide +kernel
theorem d_Ed_shorten_37 : decode cb_Ed_shorten 37 = .ok (.istore 4, 2) := by decide +kernel
theorem d_Ed_shorten_39 : decode cb_Ed_shorten 39 = .ok (.iload 4, 2) := by decide +kernel
theorem d_Ed_shorten_41 : decode cb_Ed_shorten 41 = .ok (.aload_n 0, 1) := by decide +kernel
theorem d_Ed_shorten_42 : decode cb_Ed_shorten 42 = .ok (.getfield 9, 3) := by decide +kernel
theorem d_Ed_shorten_45 : decode cb_Ed_shorten 45 = .ok (.if_icmp .ge 26, 3) := by decide +kernel
theorem d_Ed_shorten_48 : decode cb_Ed_shorten 48 = .ok (.iload 4, 2) := by decide +kernel
theorem d_Ed_shorten_50 : decode cb_Ed_shorten 50 = .ok (.ifCond .le 21, 3) := by decide +kernel
theorem d_Ed_shorten_53 : decode cb_Ed_shorten 53 = .ok (.aload_n 0, 1) := by decide +kernel
theorem d_Ed_shorten_54 : decode cb_Ed_shorten 54 = .ok (.getfield 45, 3) := by decide +kernel
theorem d_Ed_shorten_57 : decode cb_Ed_shorten 57 = .ok (.aload_n 0, 1) := by decide +kernel
theorem d_Ed_shorten_58 : decode cb_Ed_shorten 58 = .ok (.getfield 59, 3) := by decide +kernel
theorem d_Ed_shorten_61 : decode cb_Ed_shorten 61 = .ok (.iload 4, 2) := by decide +kernel
theorem d_Ed_shorten_63 : decode cb_Ed_shorten 63 = .ok (.iconst 1, 1) := by decide +kernel
theorem d_Ed_shorten_64 : decode cb_Ed_shorten 64 = .ok (.isub, 1) := by decide +kernel
theorem d_Ed_shorten_65 : decode cb_Ed_shorten 65 = .ok (.iaload, 1) := by decide +kernel
theorem d_Ed_shorten_66 : decode cb_Ed_shorten 66 = .ok (.ldc 218, 2) := by decide +kernel
theorem d_Ed_shorten_68 : decode cb_Ed_shorten 68 = .ok (.invokevirtual 184, 3) := by decide +kernel
theorem d_Ed_shorten_71 : decode cb_Ed_shorten 71 = .ok (.iload 4, 2) := by decide +kernel
theorem d_Ed_shorten_73 : decode cb_Ed_shorten 73 = .ok (.ifCond .ne 9, 3) := by decide +kernel
theorem d_Ed_shorten_76 : decode cb_Ed_shorten 76 = .ok (.aload_n 0, 1) := by decide +kernel
theorem d_Ed_shorten_77 : decode cb_Ed_shorten 77 = .ok (.iload_n 3, 1) := by decide +kernel
theorem d_Ed_shorten_78 : decode cb_Ed_shorten 78 = .ok (.iconst 0, 1) := by decide +kernel
theorem d_Ed_shorten_79 : decode cb_Ed_shorten 79 = .ok (.invokevirtual 190, 3) := by decide +kernel
theorem d_Ed_shorten_82 : decode cb_Ed_shorten 82 = .ok (.iload 4, 2) := by decide +kernel
theorem d_Ed_shorten_84 : decode cb_Ed_shorten 84 = .ok (.istore 5, 2) := by decide +kernel
theorem d_Ed_shorten_86 : decode cb_Ed_shorten 86 = .ok (.iload 5, 2) := by decide +kernel
theorem d_Ed_shorten_88 : decode cb_Ed_shorten 88 = .ok (.aload_n 0, 1) := by decide +kernel
theorem d_Ed_shorten_89 : decode cb_Ed_shorten 89 = .ok (.getfield 9, 3) := by decide +kernel
theorem d_Ed_shorten_92 : decode cb_Ed_shorten 92 = .ok (.if_icmp .ge 24, 3) := by decide +kernel
theorem d_Ed_shorten_95 : decode cb_Ed_shorten 95 = .ok (.aload_n 0, 1) := by decide +kernel
theorem d_Ed_shorten_96 : decode cb_Ed_shorten 96 = .ok (.getfield 45, 3) := by decide +kernel
theorem d_Ed_shorten_99 : decode cb_Ed_shorten 99 = .ok (.aload_n 0, 1) := by decide +kernel
theorem d_Ed_shorten_100 : decode cb_Ed_shorten 100 = .ok (.getfield 59, 3) := by decide +kernel
theorem d_Ed_shorten_103 : decode cb_Ed_shorten 103 = .ok (.iload 5, 2) := by decide +kernel
theorem d_Ed_shorten_105 : decode cb_Ed_shorten 105 = .ok (.iaload, 1) := by decide +kernel
theorem d_Ed_shorten_106 : decode cb_Ed_shorten 106 = .ok (.iconst 0, 1) := by decide +kernel
theorem d_Ed_shorten_107 : decode cb_Ed_shorten 107 = .ok (.invokevirtual 184, 3) := by decide +kernel
theorem d_Ed_shorten_110 : decode cb_Ed_shorten 110 = .ok (.iinc 5 1, 3) := by decide +kernel
theorem d_Ed_shorten_113 : decode cb_Ed_shorten 113 = .ok (.goto (-27), 3) := by decide +kernel
theorem d_Ed_shorten_116 : decode cb_Ed_shorten 116 = .ok (.aload_n 0, 1) := by decide +kernel
theorem d_Ed_shorten_117 : decode cb_Ed_shorten 117 = .ok (.getfield 41, 3) := by decide +kernel
theorem d_Ed_shorten_120 : decode cb_Ed_shorten 120 = .ok (.iload_n 3, 1) := by decide +kernel
theorem d_Ed_shorten_121 : decode cb_Ed_shorten 121 = .ok (.bipush 28, 2) := by decide +kernel
theorem d_Ed_shorten_123 : decode cb_Ed_shorten 123 = .ok (.iadd, 1) := by decide +kernel
theorem d_Ed_shorten_124 : decode cb_Ed_shorten 124 = .ok (.iload_n 2, 1) := by decide +kernel
theorem d_Ed_shorten_125 : decode cb_Ed_shorten 125 = .ok (.invokevirtual 212, 3) := by decide +kernel
theorem d_Ed_shorten_128 : decode cb_Ed_shorten 128 = .ok (.aload_n 0, 1) := by decide +kernel
theorem d_Ed_shorten_129 : decode cb_Ed_shorten 129 = .ok (.getfield 9, 3) := by decide +kernel
theorem d_Ed_shorten_132 : decode cb_Ed_shorten 132 = .ok (.iload 4, 2) := by decide +kernel
theorem d_Ed_shorten_134 : decode cb_Ed_shorten 134 = .ok (.isub, 1) := by decide +kernel
theorem d_Ed_shorten_135 : decode cb_Ed_shorten 135 = .ok (.ireturn, 1) := by decide +kernel
theorem d_Ed_dropItem_0 : decode cb_Ed_dropItem 0 = .ok (.aload_n 0, 1) := by decide +kernel
theorem d_Ed_dropItem_1 : decode cb_Ed_dropItem 1 = .ok (.aload_n 0, 1) := by decide +kernel
theorem d_Ed_dropItem_2 : decode cb_Ed_dropItem 2 = .ok (.getfield 45, 3) := by decide +kernel
theorem d_Ed_dropItem_5 : decode cb_Ed_dropItem 5 = .ok (.aload_n 0, 1) := by decide +kernel
theorem d_Ed_dropItem_6 : decode cb_Ed_dropItem 6 = .ok (.getfield 49, 3) := by decide +kernel
theorem d_Ed_dropItem_9 : decode cb_Ed_dropItem 9 = .ok (.iload_n 1, 1) := by decide +kernel
theorem d_Ed_dropItem_10 : decode cb_Ed_dropItem 10 = .ok (.invokevirtual 143, 3) := by decide +kernel
theorem d_Ed_dropItem_13 : decode cb_Ed_dropItem 13 = .ok (.aload_n 0, 1) := by decide +kernel
theorem d_Ed_dropItem_14 : decode cb_Ed_dropItem 14 = .ok (.getfield 59, 3) := by decide +kernel
theorem d_Ed_dropItem_17 : decode cb_Ed_dropItem 17 = .ok (.invokevirtual 146, 3) := by decide +kernel
theorem d_Ed_dropItem_20 : decode cb_Ed_dropItem 20 = .ok (.putfield 9, 3) := by decide +kernel
theorem d_Ed_dropItem_23 : decode cb_Ed_dropItem 23 = .ok (.aload_n 0, 1) := by decide +kernel
theorem d_Ed_dropItem_24 : decode cb_Ed_dropItem 24 = .ok (.getfield 49, 3) := by decide +kernel
theorem d_Ed_dropItem_27 : decode cb_Ed_dropItem 27 = .ok (.iload_n 2, 1) := by decide +kernel
theorem d_Ed_dropItem_28 : decode cb_Ed_dropItem 28 = .ok (.invokevirtual 181, 3) := by decide +kernel
theorem d_Ed_dropItem_31 : decode cb_Ed_dropItem 31 = .ok (.istore_n 3, 1) := by decide +kernel
theorem d_Ed_dropItem_32 : decode cb_Ed_dropItem 32 = .ok (.iload_n 3, 1) := by decide +kernel
theorem d_Ed_dropItem_33 : decode cb_Ed_dropItem 33 = .ok (.aload_n 0, 1) := by decide +kernel
theorem d_Ed_dropItem_34 : decode cb_Ed_dropItem 34 = .ok (.getfield 49, 3) := by decide +kernel
theorem d_Ed_dropItem_37 : decode cb_Ed_dropItem 37 = .ok (.iload_n 2, 1) := by decide +kernel
theorem d_Ed_dropItem_38 : decode cb_Ed_dropItem 38 = .ok (.invokevirtual 219, 3) := by decide +kernel
theorem d_Ed_dropItem_41 : decode cb_Ed_dropItem 41 = .ok (.isub, 1) := by decide +kernel
theorem d_Ed_dropItem_42 : decode cb_Ed_dropItem 42 = .ok (.istore 4, 2) := by decide +kernel
theorem d_Ed_dropItem_44 : decode cb_Ed_dropItem 44 = .ok (.iload 4, 2) := by decide +kernel
theorem d_Ed_dropItem_46 : decode cb_Ed_dropItem 46 = .ok (.iload_n 3, 1) := by decide +kernel
theorem d_Ed_dropItem_47 : decode cb_Ed_dropItem 47 = .ok (.if_icmp .gt 25, 3) := by decide +kernel
theorem d_Ed_dropItem_50 : decode cb_Ed_dropItem 50 = .ok (.aload_n 0, 1) := by decide +kernel
theorem d_Ed_dropItem_51 : decode cb_Ed_dropItem 51 = .ok (.getfield 41, 3) := by decide +kernel
theorem d_Ed_dropItem_54 : decode cb_Ed_dropItem 54 = .ok (.aload_n 0, 1) := by decide +kernel
theorem d_Ed_dropItem_55 : decode cb_Ed_dropItem 55 = .ok (.iload 4, 2) := by decide +kernel
theorem d_Ed_dropItem_57 : decode cb_Ed_dropItem 57 = .ok (.invokevirtual 152, 3) := by decide +kernel
theorem d_Ed_dropItem_60 : decode cb_Ed_dropItem 60 = .ok (.sipush 229, 3) := by decide +kernel
theorem d_Ed_dropItem_63 : decode cb_Ed_dropItem 63 = .ok (.invokevirtual 74, 3) := by decide +kernel
theorem d_Ed_dropItem_66 : decode cb_Ed_dropItem 66 = .ok (.iinc 4 1, 3) := by decide +kernel
theorem d_Ed_dropItem_69 : decode cb_Ed_dropItem 69 = .ok (.goto (-25), 3) := by decide +kernel
theorem d_Ed_dropItem_72 : decode cb_Ed_dropItem 72 = .ok (.aload_n 0, 1) := by decide +kernel
theorem d_Ed_dropItem_73 : decode cb_Ed_dropItem 73 = .ok (.aload_n 0, 1) := by decide +kernel
theorem d_Ed_dropItem_74 : decode cb_Ed_dropItem 74 = .ok (.getfield 45, 3) := by decide +kernel
theorem d_Ed_dropItem_77 : decode cb_Ed_dropItem 77 = .ok (.aload_n 0, 1) := by decide +kernel
theorem d_Ed_dropItem_78 : decode cb_Ed_dropItem 78 = .ok (.getfield 49, 3) := by decide +kernel
theorem d_Ed_dropItem_81 : decode cb_Ed_dropItem 81 = .ok (.iload_n 2, 1) := by decide +kernel
theorem d_Ed_dropItem_82 : decode cb_Ed_dropItem 82 = .ok (.invokevirtual 143, 3) := by decide +kernel
theorem d_Ed_dropItem_85 : decode cb_Ed_dropItem 85 = .ok (.aload_n 0, 1) := by decide +kernel
theorem d_Ed_dropItem_86 : decode cb_Ed_dropItem 86 = .ok (.getfield 59, 3) := by decide +kernel
theorem d_Ed_dropItem_89 : decode cb_Ed_dropItem 89 = .ok (.invokevirtual 146, 3) := by decide +kernel
theorem d_Ed_dropItem_92 : decode cb_Ed_dropItem 92 = .ok (.putfield 9, 3) := by decide +kernel
theorem d_Ed_dropItem_95 : decode cb_Ed_dropItem 95 = .ok (.iconst 0, 1) := by decide +kernel
theorem d_Ed_dropItem_96 : decode cb_Ed_dropItem 96 = .ok (.istore 4, 2) := by decide +kernel
theorem d_Ed_dropItem_98 : decode cb_Ed_dropItem 98 = .ok (.iload 4, 2) := by decide +kernel
theorem d_Ed_dropItem_100 : decode cb_Ed_dropItem 100 = .ok (.aload_n 0, 1) := by decide +kernel
theorem d_Ed_dropItem_101 : decode cb_Ed_dropItem 101 = .ok (.getfield 9, 3) := by decide +kernel
theorem d_Ed_dropItem_104 : decode cb_Ed_dropItem 104 = .ok (.if_icmp .ge 24, 3) := by decide +kernel
theorem d_Ed_dropItem_107 : decode cb_Ed_dropItem 107 = .ok (.aload_n 0, 1) := by decide +kernel
theorem d_Ed_dropItem_108 : decode cb_Ed_dropItem 108 = .ok (.getfield 45, 3) := by decide +kernel
theorem d_Ed_dropItem_111 : decode cb_Ed_dropItem 111 = .ok (.aload_n 0, 1) := by decide +kernel
theorem d_Ed_dropItem_112 : decode cb_Ed_dropItem 112 = .ok (.getfield 59, 3) := by decide +kernel
theorem d_Ed_dropItem_115 : decode cb_Ed_dropItem 115 = .ok (.iload 4, 2) := by decide +kernel
theorem d_Ed_dropItem_117 : decode cb_Ed_dropItem 117 = .ok (.iaload, 1) := by decide +kernel
theorem d_Ed_dropItem_118 : decode cb_Ed_dropItem 118 = .ok (.iconst 0, 1) := by decide +kernel
theorem d_Ed_dropItem_119 : decode cb_Ed_dropItem 119 = .ok (.invokevirtual 184, 3) := by decide +kernel
theorem d_Ed_dropItem_122 : decode cb_Ed_dropItem 122 = .ok (.iinc 4 1, 3) := by decide +kernel
theorem d_Ed_dropItem_125 : decode cb_Ed_dropItem 125 = .ok (.goto (-27), 3) := by decide +kernel
theorem d_Ed_dropItem_128 : decode cb_Ed_dropItem 128 = .ok (.return_, 1) := by decide +kernel
theorem d_Ed_putStamp_0 : decode cb_Ed_putStamp 0 = .ok (.iload_n 2, 1) := by decide +kernel
theorem d_Ed_putStamp_1 : decode cb_Ed_putStamp 1 = .ok (.tableswitch 118 0 3 #[31, 59, 74, 102], 31) := by decide +kernel
theorem d_Ed_putStamp_32 : decode cb_Ed_putStamp 32 = .ok (.aload_n 0, 1) := by decide +kernel
theorem d_Ed_putStamp_33 : decode cb_Ed_putStamp 33 = .ok (.getfield 41, 3) := by decide +kernel
theorem d_Ed_putStamp_36 : decode cb_Ed_putStamp 36 = .ok (.iload_n 1, 1) := by decide +kernel
theorem d_Ed_putStamp_37 : decode cb_Ed_putStamp 37 = .ok (.bipush 16, 2) := by decide +kernel
theorem d_Ed_putStamp_39 : decode cb_Ed_putStamp 39 = .ok (.iadd, 1) := by decide +kernel
theorem d_Ed_putStamp_40 : decode cb_Ed_putStamp 40 = .ok (.iload_n 3, 1) := by decide +kernel
theorem d_Ed_putStamp_41 : decode cb_Ed_putStamp 41 = .ok (.invokevirtual 82, 3) := by decide +kernel
theorem d_Ed_putStamp_44 : decode cb_Ed_putStamp 44 = .ok (.aload_n 0, 1) := by decide +kernel
theorem d_Ed_putStamp_45 : decode cb_Ed_putStamp 45 = .ok (.getfield 41, 3) := by decide +kernel
theorem d_Ed_putStamp_48 : decode cb_Ed_putStamp 48 = .ok (.iload_n 1, 1) := by decide +kernel
theorem d_Ed_putStamp_49 : decode cb_Ed_putStamp 49 = .ok (.bipush 14, 2) := by decide +kernel
theorem d_Ed_putStamp_51 : decode cb_Ed_putStamp 51 = .ok (.iadd, 1) := by decide +kernel
theorem d_Ed_putStamp_52 : decode cb_Ed_putStamp 52 = .ok (.iload 4, 2) := by decide +kernel
theorem d_Ed_putStamp_54 : decode cb_Ed_putStamp 54 = .ok (.invokevirtual 82, 3) := by decide +kernel
theorem d_Ed_putStamp_57 : decode cb_Ed_putStamp 57 = .ok (.goto 90, 3) := by decide +kernel
theorem d_Ed_putStamp_60 : decode cb_Ed_putStamp 60 = .ok (.aload_n 0, 1) := by decide +kernel
theorem d_Ed_putStamp_61 : decode cb_Ed_putStamp 61 = .ok (.getfield 41, 3) := by decide +kernel
theorem d_Ed_putStamp_64 : decode cb_Ed_putStamp 64 = .ok (.iload_n 1, 1) := by decide +kernel
theorem d_Ed_putStamp_65 : decode cb_Ed_putStamp 65 = .ok (.bipush 18, 2) := by decide +kernel
theorem d_Ed_putStamp_67 : decode cb_Ed_putStamp 67 = .ok (.iadd, 1) := by decide +kernel
theorem d_Ed_putStamp_68 : decode cb_Ed_putStamp 68 = .ok (.iload_n 3, 1) := by decide +kernel
theorem d_Ed_putStamp_69 : decode cb_Ed_putStamp 69 = .ok (.invokevirtual 82, 3) := by decide +kernel
theorem d_Ed_putStamp_72 : decode cb_Ed_putStamp 72 = .ok (.goto 75, 3) := by decide +kernel
theorem d_Ed_putStamp_75 : decode cb_Ed_putStamp 75 = .ok (.aload_n 0, 1) := by decide +kernel
theorem d_Ed_putStamp_76 : decode cb_Ed_putStamp 76 = .ok (.getfield 41, 3) := by decide +kernel
theorem d_Ed_putStamp_79 : decode cb_Ed_putStamp 79 = .ok (.iload_n 1, 1) := by decide +kernel
theorem d_Ed_putStamp_80 : decode cb_Ed_putStamp 80 = .ok (.bipush 24, 2) := by decide +kernel
theorem d_Ed_putStamp_82 : decode cb_Ed_putStamp 82 = .ok (.iadd, 1) := by decide +kernel
theorem d_Ed_putStamp_83 : decode cb_Ed_putStamp 83 = .ok (.iload_n 3, 1) := by decide +kernel
theorem d_Ed_putStamp_84 : decode cb_Ed_putStamp 84 = .ok (.invokevirtual 82, 3) := by decide +kernel
theorem d_Ed_putStamp_87 : decode cb_Ed_putStamp 87 = .ok (.aload_n 0, 1) := by decide +kernel
theorem d_Ed_putStamp_88 : decode cb_Ed_putStamp 88 = .ok (.getfield 41, 3) := by decide +kernel
theorem d_Ed_putStamp_91 : decode cb_Ed_putStamp 91 = .ok (.iload_n 1, 1) := by decide +kernel
theorem d_Ed_putStamp_92 : decode cb_Ed_putStamp 92 = .ok (.bipush 22, 2) := by decide +kernel
theorem d_Ed_putStamp_94 : decode cb_Ed_putStamp 94 = .ok (.iadd, 1) := by decide +kernel
theorem d_Ed_putStamp_95 : decode cb_Ed_putStamp 95 = .ok (.iload 4, 2) := by decide +kernel
theorem d_Ed_putStamp_97 : decode cb_Ed_putStamp 97 = .ok (.invokevirtual 82, 3) := by decide +kernel
theorem d_Ed_putStamp_100 : decode cb_Ed_putStamp 100 = .ok (.goto 47, 3) := by decide +kernel
theorem d_Ed_putStamp_103 : decode cb_Ed_putStamp 103 = .ok (.aload_n 0, 1) := by decide +kernel
theorem d_Ed_putStamp_104 : decode cb_Ed_putStamp 104 = .ok (.getfield 41, 3) := by decide +kernel
theorem d_Ed_putStamp_107 : decode cb_Ed_putStamp 107 = .ok (.iload_n 1, 1) := by decide +kernel
theorem d_Ed_putStamp_108 : decode cb_Ed_putStamp 108 = .ok (.bipush 13, 2) := by decide +kernel
theorem d_Ed_putStamp_110 : decode cb_Ed_putStamp 110 = .ok (.iadd, 1) := by decide +kernel
theorem d_Ed_putStamp_111 : decode cb_Ed_putStamp 111 = .ok (.iload 4, 2) := by decide +kernel
theorem d_Ed_putStamp_113 : decode cb_Ed_putStamp 113 = .ok (.invokevirtual 74, 3) := by decide +kernel
theorem d_Ed_putStamp_116 : decode cb_Ed_putStamp 116 = .ok (.goto 31, 3) := by decide +kernel
theorem d_Ed_putStamp_119 : decode cb_Ed_putStamp 119 = .ok (.aload_n 0, 1) := by decide +kernel
theorem d_Ed_putStamp_120 : decode cb_Ed_putStamp 120 = .ok (.getfield 41, 3) := by decide +kernel
theorem d_Ed_putStamp_123 : decode cb_Ed_putStamp 123 = .ok (.iload_n 1, 1) := by decide +kernel
theorem d_Ed_putStamp_124 : decode cb_Ed_putStamp 124 = .ok (.bipush 11, 2) := by decide +kernel
theorem d_Ed_putStamp_126 : decode cb_Ed_putStamp 126 = .ok (.iadd, 1) := by decide +kernel
theorem d_Ed_putStamp_127 : decode cb_Ed_putStamp 127 = .ok (.aload_n 0, 1) := by decide +kernel
theorem d_Ed_putStamp_128 : decode cb_Ed_putStamp 128 = .ok (.getfield 41, 3) := by decide +kernel
theorem d_Ed_putStamp_131 : decode cb_Ed_putStamp 131 = .ok (.iload_n 1, 1) := by decide +kernel
theorem d_Ed_putStamp_132 : decode cb_Ed_putStamp 132 = .ok (.bipush 11, 2) := by decide +kernel
theorem d_Ed_putStamp_134 : decode cb_Ed_putStamp 134 = .ok (.iadd, 1) := by decide +kernel
theorem d_Ed_putStamp_135 : decode cb_Ed_putStamp 135 = .ok (.invokevirtual 127, 3) := by decide +kernel
theorem d_Ed_putStamp_138 : decode cb_Ed_putStamp 138 = .ok (.bipush (-2), 2) := by decide +kernel
theorem d_Ed_putStamp_140 : decode cb_Ed_putStamp 140 = .ok (.iand, 1) := by decide +kernel
theorem d_Ed_putStamp_141 : decode cb_Ed_putStamp 141 = .ok (.iload 4, 2) := by decide +kernel
theorem d_Ed_putStamp_143 : decode cb_Ed_putStamp 143 = .ok (.ior, 1) := by decide +kernel
theorem d_Ed_putStamp_144 : decode cb_Ed_putStamp 144 = .ok (.invokevirtual 74, 3) := by decide +kernel
theorem d_Ed_putStamp_147 : decode cb_Ed_putStamp 147 = .ok (.return_, 1) := by decide +kernel
theorem d_Pl_refusal_0 : decode cb_Pl_refusal 0 = .ok (.iload_n 2, 1) := by decide +kernel
theorem d_Pl_refusal_1 : decode cb_Pl_refusal 1 = .ok (.ifCond .eq 5, 3) := by decide +kernel
theorem d_Pl_refusal_4 : decode cb_Pl_refusal 4 = .ok (.iload_n 2, 1) := by decide +kernel
theorem d_Pl_refusal_5 : decode cb_Pl_refusal 5 = .ok (.ireturn, 1) := by decide +kernel
theorem d_Pl_refusal_6 : decode cb_Pl_refusal 6 = .ok (.aload_n 0, 1) := by decide +kernel
theorem d_Pl_refusal_7 : decode cb_Pl_refusal 7 = .ok (.getfield 40, 3) := by decide +kernel
theorem d_Pl_refusal_10 : decode cb_Pl_refusal 10 = .ok (.getfield 79, 3) := by decide +kernel
theorem d_Pl_refusal_13 : decode cb_Pl_refusal 13 = .ok (.iconst 2, 1) := by decide +kernel
theorem d_Pl_refusal_14 : decode cb_Pl_refusal 14 = .ok (.irem, 1) := by decide +kernel
theorem d_Pl_refusal_15 : decode cb_Pl_refusal 15 = .ok (.ifCond .eq 6, 3) := by decide +kernel
theorem d_Pl_refusal_18 : decode cb_Pl_refusal 18 = .ok (.bipush 11, 2) := by decide +kernel
theorem d_Pl_refusal_20 : decode cb_Pl_refusal 20 = .ok (.ireturn, 1) := by decide +kernel
theorem d_Pl_refusal_21 : decode cb_Pl_refusal 21 = .ok (.aload_n 0, 1) := by decide +kernel
theorem d_Pl_refusal_22 : decode cb_Pl_refusal 22 = .ok (.iload_n 1, 1) := by decide +kernel
theorem d_Pl_refusal_23 : decode cb_Pl_refusal 23 = .ok (.invokevirtual 82, 3) := by decide +kernel
theorem d_Pl_refusal_26 : decode cb_Pl_refusal 26 = .ok (.ifCond .eq 14, 3) := by decide +kernel
theorem d_Pl_refusal_29 : decode cb_Pl_refusal 29 = .ok (.aload_n 0, 1) := by decide +kernel
theorem d_Pl_refusal_30 : decode cb_Pl_refusal 30 = .ok (.aload_n 0, 1) := by decide +kernel
theorem d_Pl_refusal_31 : decode cb_Pl_refusal 31 = .ok (.invokevirtual 86, 3) := by decide +kernel
theorem d_Pl_refusal_34 : decode cb_Pl_refusal 34 = .ok (.invokevirtual 89, 3) := by decide +kernel
theorem d_Pl_refusal_37 : decode cb_Pl_refusal 37 = .ok (.ifCond .ne 6, 3) := by decide +kernel
theorem d_Pl_refusal_40 : decode cb_Pl_refusal 40 = .ok (.bipush 12, 2) := by decide +kernel
theorem d_Pl_refusal_42 : decode cb_Pl_refusal 42 = .ok (.ireturn, 1) := by decide +kernel
theorem d_Pl_refusal_43 : decode cb_Pl_refusal 43 = .ok (.aload_n 0, 1) := by decide +kernel
theorem d_Pl_refusal_44 : decode cb_Pl_refusal 44 = .ok (.invokevirtual 92, 3) := by decide +kernel
theorem d_Pl_refusal_47 : decode cb_Pl_refusal 47 = .ok (.ifCond .ne 6, 3) := by decide +kernel
theorem d_Pl_refusal_50 : decode cb_Pl_refusal 50 = .ok (.bipush 13, 2) := by decide +kernel
theorem d_Pl_refusal_52 : decode cb_Pl_refusal 52 = .ok (.ireturn, 1) := by decide +kernel
theorem d_Pl_refusal_53 : decode cb_Pl_refusal 53 = .ok (.aload_n 0, 1) := by decide +kernel
theorem d_Pl_refusal_54 : decode cb_Pl_refusal 54 = .ok (.invokevirtual 96, 3) := by decide +kernel
theorem d_Pl_refusal_57 : decode cb_Pl_refusal 57 = .ok (.ifCond .ne 6, 3) := by decide +kernel
theorem d_Pl_refusal_60 : decode cb_Pl_refusal 60 = .ok (.bipush 14, 2) := by decide +kernel
theorem d_Pl_refusal_62 : decode cb_Pl_refusal 62 = .ok (.ireturn, 1) := by decide +kernel
theorem d_Pl_refusal_63 : decode cb_Pl_refusal 63 = .ok (.aload_n 0, 1) := by decide +kernel
theorem d_Pl_refusal_64 : decode cb_Pl_refusal 64 = .ok (.invokevirtual 99, 3) := by decide +kernel
theorem d_Pl_refusal_67 : decode cb_Pl_refusal 67 = .ok (.ifCond .eq 10, 3) := by decide +kernel
theorem d_Pl_refusal_70 : decode cb_Pl_refusal 70 = .ok (.aload_n 0, 1) := by decide +kernel
theorem d_Pl_refusal_71 : decode cb_Pl_refusal 71 = .ok (.invokevirtual 102, 3) := by decide +kernel
theorem d_Pl_refusal_74 : decode cb_Pl_refusal 74 = .ok (.ifCond .ne 6, 3) := by decide +kernel
theorem d_Pl_refusal_77 : decode cb_Pl_refusal 77 = .ok (.bipush 15, 2) := by decide +kernel
theorem d_Pl_refusal_79 : decode cb_Pl_refusal 79 = .ok (.ireturn, 1) := by decide +kernel
theorem d_Pl_refusal_80 : decode cb_Pl_refusal 80 = .ok (.aload_n 0, 1) := by decide +kernel
theorem d_Pl_refusal_81 : decode cb_Pl_refusal 81 = .ok (.invokevirtual 105, 3) := by decide +kernel
theorem d_Pl_refusal_84 : decode cb_Pl_refusal 84 = .ok (.iconst 0, 1) := by decide +kernel
theorem d_Pl_refusal_85 : decode cb_Pl_refusal 85 = .ok (.ireturn, 1) := by decide +kernel
theorem d_Pl_recall_0 : decode cb_Pl_recall 0 = .ok (.aload_n 0, 1) := by decide +kernel
theorem d_Pl_recall_1 : decode cb_Pl_recall 1 = .ok (.getfield 40, 3) := by decide +kernel
theorem d_Pl_recall_4 : decode cb_Pl_recall 4 = .ok (.invokevirtual 108, 3) := by decide +kernel
theorem d_Pl_recall_7 : decode cb_Pl_recall 7 = .ok (.ifCond .eq 30, 3) := by decide +kernel
theorem d_Pl_recall_10 : decode cb_Pl_recall 10 = .ok (.aload_n 0, 1) := by decide +kernel
theorem d_Pl_recall_11 : decode cb_Pl_recall 11 = .ok (.iload_n 1, 1) := by decide +kernel
theorem d_Pl_recall_12 : decode cb_Pl_recall 12 = .ok (.invokevirtual 82, 3) := by decide +kernel
theorem d_Pl_recall_15 : decode cb_Pl_recall 15 = .ok (.ifCond .eq 22, 3) := by decide +kernel
theorem d_Pl_recall_18 : decode cb_Pl_recall 18 = .ok (.aload_n 0, 1) := by decide +kernel
theorem d_Pl_recall_19 : decode cb_Pl_recall 19 = .ok (.iload_n 2, 1) := by decide +kernel
theorem d_Pl_recall_20 : decode cb_Pl_recall 20 = .ok (.invokevirtual 89, 3) := by decide +kernel
theorem d_Pl_recall_23 : decode cb_Pl_recall 23 = .ok (.ifCond .eq 14, 3) := by decide +kernel
theorem d_Pl_recall_26 : decode cb_Pl_recall 26 = .ok (.aload_n 0, 1) := by decide +kernel
theorem d_Pl_recall_27 : decode cb_Pl_recall 27 = .ok (.invokevirtual 99, 3) := by decide +kernel
theorem d_Pl_recall_30 : decode cb_Pl_recall 30 = .ok (.ifCond .eq 7, 3) := by decide +kernel
theorem d_Pl_recall_33 : decode cb_Pl_recall 33 = .ok (.iconst 1, 1) := by decide +kernel
theorem d_Pl_recall_34 : decode cb_Pl_recall 34 = .ok (.goto 4, 3) := by decide +kernel
theorem d_Pl_recall_37 : decode cb_Pl_recall 37 = .ok (.iconst 0, 1) := by decide +kernel
theorem d_Pl_recall_38 : decode cb_Pl_recall 38 = .ok (.ireturn, 1) := by decide +kernel
theorem d_Pl_layOut_0 : decode cb_Pl_layOut 0 = .ok (.iload_n 1, 1) := by decide +kernel
theorem d_Pl_layOut_1 : decode cb_Pl_layOut 1 = .ok (.bipush 8, 2) := by decide +kernel
theorem d_Pl_layOut_3 : decode cb_Pl_layOut 3 = .ok (.if_icmp .ge 5, 3) := by decide +kernel
theorem d_Pl_layOut_6 : decode cb_Pl_layOut 6 = .ok (.iconst 0, 1) := by decide +kernel
theorem d_Pl_layOut_7 : decode cb_Pl_layOut 7 = .ok (.ireturn, 1) := by decide +kernel
theorem d_Pl_layOut_8 : decode cb_Pl_layOut 8 = .ok (.aload_n 0, 1) := by decide +kernel
theorem d_Pl_layOut_9 : decode cb_Pl_layOut 9 = .ok (.iload_n 1, 1) := by decide +kernel
theorem d_Pl_layOut_10 : decode cb_Pl_layOut 10 = .ok (.putfield 24, 3) := by decide +kernel
theorem d_Pl_layOut_13 : decode cb_Pl_layOut 13 = .ok (.aload_n 0, 1) := by decide +kernel
theorem d_Pl_layOut_14 : decode cb_Pl_layOut 14 = .ok (.getfield 24, 3) := by decide +kernel
theorem d_Pl_layOut_17 : decode cb_Pl_layOut 17 = .ok (.bipush 8, 2) := by decide +kernel
theorem d_Pl_layOut_19 : decode cb_Pl_layOut 19 = .ok (.idiv, 1) := by decide +kernel
theorem d_Pl_layOut_20 : decode cb_Pl_layOut 20 = .ok (.istore_n 2, 1) := by decide +kernel
theorem d_Pl_layOut_21 : decode cb_Pl_layOut 21 = .ok (.iconst 0, 1) := by decide +kernel
theorem d_Pl_layOut_22 : decode cb_Pl_layOut 22 = .ok (.istore_n 3, 1) := by decide +kernel
theorem d_Pl_layOut_23 : decode cb_Pl_layOut 23 = .ok (.iload_n 3, 1) := by decide +kernel
theorem d_Pl_layOut_24 : decode cb_Pl_layOut 24 = .ok (.aload_n 0, 1) := by decide +kernel
theorem d_Pl_layOut_25 : decode cb_Pl_layOut 25 = .ok (.getfield 53, 3) := by decide +kernel
theorem d_Pl_layOut_28 : decode cb_Pl_layOut 28 = .ok (.if_icmp .ge 16, 3) := by decide +kernel
theorem d_Pl_layOut_31 : decode cb_Pl_layOut 31 = .ok (.aload_n 0, 1) := by decide +kernel
theorem d_Pl_layOut_32 : decode cb_Pl_layOut 32 = .ok (.getfield 56, 3) := by decide +kernel
theorem d_Pl_layOut_35 : decode cb_Pl_layOut 35 = .ok (.iload_n 3, 1) := by decide +kernel
theorem d_Pl_layOut_36 : decode cb_Pl_layOut 36 = .ok (.iconst 0, 1) := by decide +kernel
theorem d_Pl_layOut_37 : decode cb_Pl_layOut 37 = .ok (.bastore, 1) := by decide +kernel
theorem d_Pl_layOut_38 : decode cb_Pl_layOut 38 = .ok (.iinc 3 1, 3) := by decide +kernel
theorem d_Pl_layOut_41 : decode cb_Pl_layOut 41 = .ok (.goto (-18), 3) := by decide +kernel
theorem d_Pl_layOut_44 : decode cb_Pl_layOut 44 = .ok (.iconst 0, 1) := by decide +kernel
theorem d_Pl_layOut_45 : decode cb_Pl_layOut 45 = .ok (.istore_n 3, 1) := by decide +kernel
theorem d_Pl_layOut_46 : decode cb_Pl_layOut 46 = .ok (.iload_n 3, 1) := by decide +kernel
theorem d_Pl_layOut_47 : decode cb_Pl_layOut 47 = .ok (.aload_n 0, 1) := by decide +kernel
theorem d_Pl_layOut_48 : decode cb_Pl_layOut 48 = .ok (.getfield 21, 3) := by decide +kernel
theorem d_Pl_layOut_51 : decode cb_Pl_layOut 51 = .ok (.if_icmp .ge 76, 3) := by decide +kernel
theorem d_Pl_layOut_54 : decode cb_Pl_layOut 54 = .ok (.iload_n 3, 1) := by decide +kernel
theorem d_Pl_layOut_55 : decode cb_Pl_layOut 55 = .ok (.ifCond .ne 20, 3) := by decide +kernel
theorem d_Pl_layOut_58 : decode cb_Pl_layOut 58 = .ok (.aload_n 0, 1) := by decide +kernel
theorem d_Pl_layOut_59 : decode cb_Pl_layOut 59 = .ok (.getfield 40, 3) := by decide +kernel
theorem d_Pl_layOut_62 : decode cb_Pl_layOut 62 = .ok (.getfield 79, 3) := by decide +kernel
theorem d_Pl_layOut_65 : decode cb_Pl_layOut 65 = .ok (.iconst 2, 1) := by decide +kernel
theorem d_Pl_layOut_66 : decode cb_Pl_layOut 66 = .ok (.idiv, 1) := by decide +kernel
theorem d_Pl_layOut_67 : decode cb_Pl_layOut 67 = .ok (.iload_n 2, 1) := by decide +kernel
theorem d_Pl_layOut_68 : decode cb_Pl_layOut 68 = .ok (.iadd, 1) := by decide +kernel
theorem d_Pl_layOut_69 : decode cb_Pl_layOut 69 = .ok (.bipush 9, 2) := by decide +kernel
theorem d_Pl_layOut_71 : decode cb_Pl_layOut 71 = .ok (.iadd, 1) := by decide +kernel
theorem d_Pl_layOut_72 : decode cb_Pl_layOut 72 = .ok (.goto 7, 3) := by decide +kernel
theorem d_Pl_layOut_75 : decode cb_Pl_layOut 75 = .ok (.iload_n 2, 1) := by decide +kernel
theorem d_Pl_layOut_76 : decode cb_Pl_layOut 76 = .ok (.bipush 12, 2) := by decide +kernel
theorem d_Pl_layOut_78 : decode cb_Pl_layOut 78 = .ok (.iadd, 1) := by decide +kernel
theorem d_Pl_layOut_79 : decode cb_Pl_layOut 79 = .ok (.istore 4, 2) := by decide +kernel
theorem d_Pl_layOut_81 : decode cb_Pl_layOut 81 = .ok (.aload_n 0, 1) := by decide +kernel
theorem d_Pl_layOut_82 : decode cb_Pl_layOut 82 = .ok (.iload_n 3, 1) := by decide +kernel
theorem d_Pl_layOut_83 : decode cb_Pl_layOut 83 = .ok (.invokevirtual 126, 3) := by decide +kernel
theorem d_Pl_layOut_86 : decode cb_Pl_layOut 86 = .ok (.iload 4, 2) := by decide +kernel
theorem d_Pl_layOut_88 : decode cb_Pl_layOut 88 = .ok (.if_icmp .lt 31, 3) := by decide +kernel
theorem d_Pl_layOut_91 : decode cb_Pl_layOut 91 = .ok (.aload_n 0, 1) := by decide +kernel
theorem d_Pl_layOut_92 : decode cb_Pl_layOut 92 = .ok (.aload_n 0, 1) := by decide +kernel
theorem d_Pl_layOut_93 : decode cb_Pl_layOut 93 = .ok (.iload_n 3, 1) := by decide +kernel
theorem d_Pl_layOut_94 : decode cb_Pl_layOut 94 = .ok (.invokevirtual 116, 3) := by decide +kernel
theorem d_Pl_layOut_97 : decode cb_Pl_layOut 97 = .ok (.iconst 2, 1) := by decide +kernel
theorem d_Pl_layOut_98 : decode cb_Pl_layOut 98 = .ok (.invokevirtual 129, 3) := by decide +kernel
theorem d_Pl_layOut_101 : decode cb_Pl_layOut 101 = .ok (.ifCond .eq 18, 3) := by decide +kernel
theorem d_Pl_layOut_104 : decode cb_Pl_layOut 104 = .ok (.aload_n 0, 1) := by decide +kernel
theorem d_Pl_layOut_105 : decode cb_Pl_layOut 105 = .ok (.aload_n 0, 1) := by decide +kernel
theorem d_Pl_layOut_106 : decode cb_Pl_layOut 106 = .ok (.iload_n 3, 1) := by decide +kernel
theorem d_Pl_layOut_107 : decode cb_Pl_layOut 107 = .ok (.invokevirtual 133, 3) := by decide +kernel
theorem d_Pl_layOut_110 : decode cb_Pl_layOut 110 = .ok (.iconst 2, 1) := by decide +kernel
theorem d_Pl_layOut_111 : decode cb_Pl_layOut 111 = .ok (.iload_n 2, 1) := by decide +kernel
theorem d_Pl_layOut_112 : decode cb_Pl_layOut 112 = .ok (.iadd, 1) := by decide +kernel
theorem d_Pl_layOut_113 : decode cb_Pl_layOut 113 = .ok (.invokevirtual 129, 3) := by decide +kernel
theorem d_Pl_layOut_116 : decode cb_Pl_layOut 116 = .ok (.ifCond .ne 5, 3) := by decide +kernel
theorem d_Pl_layOut_119 : decode cb_Pl_layOut 119 = .ok (.iconst 0, 1) := by decide +kernel
theorem d_Pl_layOut_120 : decode cb_Pl_layOut 120 = .ok (.ireturn, 1) := by decide +kernel
theorem d_Pl_layOut_121 : decode cb_Pl_layOut 121 = .ok (.iinc 3 1, 3) := by decide +kernel
theorem d_Pl_layOut_124 : decode cb_Pl_layOut 124 = .ok (.goto (-78), 3) := by decide +kernel
theorem d_Pl_layOut_127 : decode cb_Pl_layOut 127 = .ok (.iconst 1, 1) := by decide +kernel
theorem d_Pl_layOut_128 : decode cb_Pl_layOut 128 = .ok (.ireturn, 1) := by decide +kernel
theorem d_Pl_fix_0 : decode cb_Pl_fix 0 = .ok (.aload_n 0, 1) := by decide +kernel
theorem d_Pl_fix_1 : decode cb_Pl_fix 1 = .ok (.getfield 40, 3) := by decide +kernel
theorem d_Pl_fix_4 : decode cb_Pl_fix 4 = .ok (.getfield 79, 3) := by decide +kernel
theorem d_Pl_fix_7 : decode cb_Pl_fix 7 = .ok (.iconst 2, 1) := by decide +kernel
theorem d_Pl_fix_8 : decode cb_Pl_fix 8 = .ok (.idiv, 1) := by decide +kernel
theorem d_Pl_fix_9 : decode cb_Pl_fix 9 = .ok (.istore_n 3, 1) := by decide +kernel
theorem d_Pl_fix_10 : decode cb_Pl_fix 10 = .ok (.iload_n 3, 1) := by decide +kernel
theorem d_Pl_fix_11 : decode cb_Pl_fix 11 = .ok (.aload_n 0, 1) := by decide +kernel
theorem d_Pl_fix_12 : decode cb_Pl_fix 12 = .ok (.getfield 40, 3) := by decide +kernel
theorem d_Pl_fix_15 : decode cb_Pl_fix 15 = .ok (.getfield 136, 3) := by decide +kernel
theorem d_Pl_fix_18 : decode cb_Pl_fix 18 = .ok (.aload_n 0, 1) := by decide +kernel
theorem d_Pl_fix_19 : decode cb_Pl_fix 19 = .ok (.getfield 40, 3) := by decide +kernel
theorem d_Pl_fix_22 : decode cb_Pl_fix 22 = .ok (.getfield 139, 3) := by decide +kernel
theorem d_Pl_fix_25 : decode cb_Pl_fix 25 = .ok (.iconst 2, 1) := by decide +kernel
theorem d_Pl_fix_26 : decode cb_Pl_fix 26 = .ok (.idiv, 1) := by decide +kernel
theorem d_Pl_fix_27 : decode cb_Pl_fix 27 = .ok (.imul, 1) := by decide +kernel
theorem d_Pl_fix_28 : decode cb_Pl_fix 28 = .ok (.iadd, 1) := by decide +kernel
theorem d_Pl_fix_29 : decode cb_Pl_fix 29 = .ok (.istore 4, 2) := by decide +kernel
theorem d_Pl_fix_31 : decode cb_Pl_fix 31 = .ok (.iload_n 1, 1) := by decide +kernel
theorem d_Pl_fix_32 : decode cb_Pl_fix 32 = .ok (.istore 5, 2) := by decide +kernel
theorem d_Pl_fix_34 : decode cb_Pl_fix 34 = .ok (.iload 5, 2) := by decide +kernel
theorem d_Pl_fix_36 : decode cb_Pl_fix 36 = .ok (.iload_n 1, 1) := by decide +kernel
theorem d_Pl_fix_37 : decode cb_Pl_fix 37 = .ok (.iload_n 2, 1) := by decide +kernel
theorem d_Pl_fix_38 : decode cb_Pl_fix 38 = .ok (.iadd, 1) := by decide +kernel
theorem d_Pl_fix_39 : decode cb_Pl_fix 39 = .ok (.if_icmp .ge 70, 3) := by decide +kernel
theorem d_Pl_fix_42 : decode cb_Pl_fix 42 = .ok (.iload 5, 2) := by decide +kernel
theorem d_Pl_fix_44 : decode cb_Pl_fix 44 = .ok (.iconst 1, 1) := by decide +kernel
theorem d_Pl_fix_45 : decode cb_Pl_fix 45 = .ok (.if_icmp .eq 9, 3) := by decide +kernel
theorem d_Pl_fix_48 : decode cb_Pl_fix 48 = .ok (.iload 5, 2) := by decide +kernel
theorem d_Pl_fix_50 : decode cb_Pl_fix 50 = .ok (.iconst 2, 1) := by decide +kernel
theorem d_Pl_fix_51 : decode cb_Pl_fix 51 = .ok (.if_icmp .ne 7, 3) := by decide +kernel
theorem d_Pl_fix_54 : decode cb_Pl_fix 54 = .ok (.iconst 1, 1) := by decide +kernel
theorem d_Pl_fix_55 : decode cb_Pl_fix 55 = .ok (.goto 4, 3) := by decide +kernel
theorem d_Pl_fix_58 : decode cb_Pl_fix 58 = .ok (.iconst 0, 1) := by decide +kernel
theorem d_Pl_fix_59 : decode cb_Pl_fix 59 = .ok (.istore 6, 2) := by decide +kernel
theorem d_Pl_fix_61 : decode cb_Pl_fix 61 = .ok (.iload 6, 2) := by decide +kernel
theorem d_Pl_fix_63 : decode cb_Pl_fix 63 = .ok (.ifCond .ne 16, 3) := by decide +kernel
theorem d_Pl_fix_66 : decode cb_Pl_fix 66 = .ok (.iload 5, 2) := by decide +kernel
theorem d_Pl_fix_68 : decode cb_Pl_fix 68 = .ok (.iload_n 3, 1) := by decide +kernel
theorem d_Pl_fix_69 : decode cb_Pl_fix 69 = .ok (.if_icmp .lt 24, 3) := by decide +kernel
theorem d_Pl_fix_72 : decode cb_Pl_fix 72 = .ok (.iload 5, 2) := by decide +kernel
theorem d_Pl_fix_74 : decode cb_Pl_fix 74 = .ok (.iload 4, 2) := by decide +kernel
theorem d_Pl_fix_76 : decode cb_Pl_fix 76 = .ok (.if_icmp .ge 17, 3) := by decide +kernel
theorem d_Pl_fix_79 : decode cb_Pl_fix 79 = .ok (.iload 5, 2) := by decide +kernel
theorem d_Pl_fix_81 : decode cb_Pl_fix 81 = .ok (.ifCond .lt 12, 3) := by decide +kernel
theorem d_Pl_fix_84 : decode cb_Pl_fix 84 = .ok (.iload 5, 2) := by decide +kernel
theorem d_Pl_fix_86 : decode cb_Pl_fix 86 = .ok (.aload_n 0, 1) := by decide +kernel
theorem d_Pl_fix_87 : decode cb_Pl_fix 87 = .ok (.getfield 53, 3) := by decide +kernel
theorem d_Pl_fix_90 : decode cb_Pl_fix 90 = .ok (.if_icmp .lt 5, 3) := by decide +kernel
theorem d_Pl_fix_93 : decode cb_Pl_fix 93 = .ok (.iconst 0, 1) := by decide +kernel
theorem d_Pl_fix_94 : decode cb_Pl_fix 94 = .ok (.ireturn, 1) := by decide +kernel
theorem d_Pl_fix_95 : decode cb_Pl_fix 95 = .ok (.aload_n 0, 1) := by decide +kernel
theorem d_Pl_fix_96 : decode cb_Pl_fix 96 = .ok (.getfield 56, 3) := by decide +kernel
theorem d_Pl_fix_99 : decode cb_Pl_fix 99 = .ok (.iload 5, 2) := by decide +kernel
theorem d_Pl_fix_101 : decode cb_Pl_fix 101 = .ok (.iconst 1, 1) := by decide +kernel
theorem d_Pl_fix_102 : decode cb_Pl_fix 102 = .ok (.bastore, 1) := by decide +kernel
theorem d_Pl_fix_103 : decode cb_Pl_fix 103 = .ok (.iinc 5 1, 3) := by decide +kernel
theorem d_Pl_fix_106 : decode cb_Pl_fix 106 = .ok (.goto (-72), 3) := by decide +kernel
theorem d_Pl_fix_109 : decode cb_Pl_fix 109 = .ok (.iconst 1, 1) := by decide +kernel
theorem d_Pl_fix_110 : decode cb_Pl_fix 110 = .ok (.ireturn, 1) := by decide +kernel
theorem d_Pl_namesFit_0 : decode cb_Pl_namesFit 0 = .ok (.iconst 1, 1) := by decide +kernel
theorem d_Pl_namesFit_1 : decode cb_Pl_namesFit 1 = .ok (.istore_n 1, 1) := by decide +kernel
theorem d_Pl_namesFit_2 : decode cb_Pl_namesFit 2 = .ok (.iload_n 1, 1) := by decide +kernel
theorem d_Pl_namesFit_3 : decode cb_Pl_namesFit 3 = .ok (.aload_n 0, 1) := by decide +kernel
theorem d_Pl_namesFit_4 : decode cb_Pl_namesFit 4 = .ok (.getfield 44, 3) := by decide +kernel
theorem d_Pl_namesFit_7 : decode cb_Pl_namesFit 7 = .ok (.getfield 111, 3) := by decide +kernel
theorem d_Pl_namesFit_10 : decode cb_Pl_namesFit 10 = .ok (.if_icmp .ge 57, 3) := by decide +kernel
theorem d_Pl_namesFit_13 : decode cb_Pl_namesFit 13 = .ok (.aload_n 0, 1) := by decide +kernel
theorem d_Pl_namesFit_14 : decode cb_Pl_namesFit 14 = .ok (.getfield 44, 3) := by decide +kernel
theorem d_Pl_namesFit_17 : decode cb_Pl_namesFit 17 = .ok (.iload_n 1, 1) := by decide +kernel
theorem d_Pl_namesFit_18 : decode cb_Pl_namesFit 18 = .ok (.invokevirtual 142, 3) := by decide +kernel
theorem d_Pl_namesFit_21 : decode cb_Pl_namesFit 21 = .ok (.ifCond .ne 7, 3) := by decide +kernel
theorem d_Pl_namesFit_24 : decode cb_Pl_namesFit 24 = .ok (.iconst 1, 1) := by decide +kernel
theorem d_Pl_namesFit_25 : decode cb_Pl_namesFit 25 = .ok (.goto 4, 3) := by decide +kernel
theorem d_Pl_namesFit_28 : decode cb_Pl_namesFit 28 = .ok (.iconst 0, 1) := by decide +kernel
theorem d_Pl_namesFit_29 : decode cb_Pl_namesFit 29 = .ok (.istore_n 2, 1) := by decide +kernel
theorem d_Pl_namesFit_30 : decode cb_Pl_namesFit 30 = .ok (.aload_n 0, 1) := by decide +kernel
theorem d_Pl_namesFit_31 : decode cb_Pl_namesFit 31 = .ok (.getfield 44, 3) := by decide +kernel
theorem d_Pl_namesFit_34 : decode cb_Pl_namesFit 34 = .ok (.iload_n 1, 1) := by decide +kernel
theorem d_Pl_namesFit_35 : decode cb_Pl_namesFit 35 = .ok (.invokevirtual 145, 3) := by decide +kernel
theorem d_Pl_namesFit_38 : decode cb_Pl_namesFit 38 = .ok (.sipush 255, 3) := by decide +kernel
theorem d_Pl_namesFit_41 : decode cb_Pl_namesFit 41 = .ok (.if_icmp .gt 18, 3) := by decide +kernel
theorem d_Pl_namesFit_44 : decode cb_Pl_namesFit 44 = .ok (.iload_n 2, 1) := by decide +kernel
theorem d_Pl_namesFit_45 : decode cb_Pl_namesFit 45 = .ok (.ifCond .eq 16, 3) := by decide +kernel
theorem d_Pl_namesFit_48 : decode cb_Pl_namesFit 48 = .ok (.aload_n 0, 1) := by decide +kernel
theorem d_Pl_namesFit_49 : decode cb_Pl_namesFit 49 = .ok (.getfield 44, 3) := by decide +kernel
theorem d_Pl_namesFit_52 : decode cb_Pl_namesFit 52 = .ok (.iload_n 1, 1) := by decide +kernel
theorem d_Pl_namesFit_53 : decode cb_Pl_namesFit 53 = .ok (.invokevirtual 148, 3) := by decide +kernel
theorem d_Pl_namesFit_56 : decode cb_Pl_namesFit 56 = .ok (.ifCond .eq 5, 3) := by decide +kernel
theorem d_Pl_namesFit_59 : decode cb_Pl_namesFit 59 = .ok (.iconst 0, 1) := by decide +kernel
theorem d_Pl_namesFit_60 : decode cb_Pl_namesFit 60 = .ok (.ireturn, 1) := by decide +kernel
theorem d_Pl_namesFit_61 : decode cb_Pl_namesFit 61 = .ok (.iinc 1 1, 3) := by decide +kernel
theorem d_Pl_namesFit_64 : decode cb_Pl_namesFit 64 = .ok (.goto (-62), 3) := by decide +kernel
theorem d_Pl_namesFit_67 : decode cb_Pl_namesFit 67 = .ok (.iconst 1, 1) := by decide +kernel
theorem d_Pl_namesFit_68 : decode cb_Pl_namesFit 68 = .ok (.ireturn, 1) := by decide +kernel
theorem d_Pl_timesFit_0 : decode cb_Pl_timesFit 0 = .ok (.iconst 1, 1) := by decide +kernel
theorem d_Pl_timesFit_1 : decode cb_Pl_timesFit 1 = .ok (.istore_n 1, 1) := by decide +kernel
theorem d_Pl_timesFit_2 : decode cb_Pl_timesFit 2 = .ok (.iload_n 1, 1) := by decide +kernel
theorem d_Pl_timesFit_3 : decode cb_Pl_timesFit 3 = .ok (.aload_n 0, 1) := by decide +kernel
theorem d_Pl_timesFit_4 : decode cb_Pl_timesFit 4 = .ok (.getfield 44, 3) := by decide +kernel
theorem d_Pl_timesFit_7 : decode cb_Pl_timesFit 7 = .ok (.getfield 111, 3) := by decide +kernel
theorem d_Pl_timesFit_10 : decode cb_Pl_timesFit 10 = .ok (.if_icmp .ge 47, 3) := by decide +kernel
theorem d_Pl_timesFit_13 : decode cb_Pl_timesFit 13 = .ok (.iconst 2, 1) := by decide +kernel
theorem d_Pl_timesFit_14 : decode cb_Pl_timesFit 14 = .ok (.istore_n 2, 1) := by decide +kernel
theorem d_Pl_timesFit_15 : decode cb_Pl_timesFit 15 = .ok (.iload_n 2, 1) := by decide +kernel
theorem d_Pl_timesFit_16 : decode cb_Pl_timesFit 16 = .ok (.iconst 4, 1) := by decide +kernel
theorem d_Pl_timesFit_17 : decode cb_Pl_timesFit 17 = .ok (.if_icmp .gt 34, 3) := by decide +kernel
theorem d_Pl_timesFit_20 : decode cb_Pl_timesFit 20 = .ok (.aload_n 0, 1) := by decide +kernel
theorem d_Pl_timesFit_21 : decode cb_Pl_timesFit 21 = .ok (.getfield 36, 3) := by decide +kernel
theorem d_Pl_timesFit_24 : decode cb_Pl_timesFit 24 = .ok (.aload_n 0, 1) := by decide +kernel
theorem d_Pl_timesFit_25 : decode cb_Pl_timesFit 25 = .ok (.getfield 44, 3) := by decide +kernel
theorem d_Pl_timesFit_28 : decode cb_Pl_timesFit 28 = .ok (.iload_n 1, 1) := by decide +kernel
theorem d_Pl_timesFit_29 : decode cb_Pl_timesFit 29 = .ok (.invokevirtual 151, 3) := by decide +kernel
theorem d_Pl_timesFit_32 : decode cb_Pl_timesFit 32 = .ok (.iload_n 2, 1) := by decide +kernel
theorem d_Pl_timesFit_33 : decode cb_Pl_timesFit 33 = .ok (.invokestatic 154, 3) := by decide +kernel
theorem d_Pl_timesFit_36 : decode cb_Pl_timesFit 36 = .ok (.ldc2_w 160, 3) := by decide +kernel
theorem d_Pl_timesFit_39 : decode cb_Pl_timesFit 39 = .ok (.lcmp, 1) := by decide +kernel
theorem d_Pl_timesFit_40 : decode cb_Pl_timesFit 40 = .ok (.ifCond .le 5, 3) := by decide +kernel
theorem d_Pl_timesFit_43 : decode cb_Pl_timesFit 43 = .ok (.iconst 0, 1) := by decide +kernel
theorem d_Pl_timesFit_44 : decode cb_Pl_timesFit 44 = .ok (.ireturn, 1) := by decide +kernel
theorem d_Pl_timesFit_45 : decode cb_Pl_timesFit 45 = .ok (.iinc 2 1, 3) := by decide +kernel
theorem d_Pl_timesFit_48 : decode cb_Pl_timesFit 48 = .ok (.goto (-33), 3) := by decide +kernel
theorem d_Pl_timesFit_51 : decode cb_Pl_timesFit 51 = .ok (.iinc 1 1, 3) := by decide +kernel
theorem d_Pl_timesFit_54 : decode cb_Pl_timesFit 54 = .ok (.goto (-52), 3) := by decide +kernel
theorem d_Pl_timesFit_57 : decode cb_Pl_timesFit 57 = .ok (.iconst 1, 1) := by decide +kernel
theorem d_Pl_timesFit_58 : decode cb_Pl_timesFit 58 = .ok (.ireturn, 1) := by decide +kernel
theorem d_Pl_hasFixed_0 : decode cb_Pl_hasFixed 0 = .ok (.aload_n 0, 1) := by decide +kernel
theorem d_Pl_hasFixed_1 : decode cb_Pl_hasFixed 1 = .ok (.iload_n 1, 1) := by decide +kernel
theorem d_Pl_hasFixed_2 : decode cb_Pl_hasFixed 2 = .ok (.invokevirtual 162, 3) := by decide +kernel
theorem d_Pl_hasFixed_5 : decode cb_Pl_hasFixed 5 = .ok (.istore_n 2, 1) := by decide +kernel
theorem d_Pl_hasFixed_6 : decode cb_Pl_hasFixed 6 = .ok (.iload_n 2, 1) := by decide +kernel
theorem d_Pl_hasFixed_7 : decode cb_Pl_hasFixed 7 = .ok (.istore_n 3, 1) := by decide +kernel
theorem d_Pl_hasFixed_8 : decode cb_Pl_hasFixed 8 = .ok (.iload_n 3, 1) := by decide +kernel
theorem d_Pl_hasFixed_9 : decode cb_Pl_hasFixed 9 = .ok (.iload_n 2, 1) := by decide +kernel
theorem d_Pl_hasFixed_10 : decode cb_Pl_hasFixed 10 = .ok (.aload_n 0, 1) := by decide +kernel
theorem d_Pl_hasFixed_11 : decode cb_Pl_hasFixed 11 = .ok (.getfield 40, 3) := by decide +kernel
theorem d_Pl_hasFixed_14 : decode cb_Pl_hasFixed 14 = .ok (.getfield 139, 3) := by decide +kernel
theorem d_Pl_hasFixed_17 : decode cb_Pl_hasFixed 17 = .ok (.iconst 2, 1) := by decide +kernel
theorem d_Pl_hasFixed_18 : decode cb_Pl_hasFixed 18 = .ok (.idiv, 1) := by decide +kernel
theorem d_Pl_hasFixed_19 : decode cb_Pl_hasFixed 19 = .ok (.iadd, 1) := by decide +kernel
theorem d_Pl_hasFixed_20 : decode cb_Pl_hasFixed 20 = .ok (.if_icmp .ge 32, 3) := by decide +kernel
theorem d_Pl_hasFixed_23 : decode cb_Pl_hasFixed 23 = .ok (.iload_n 3, 1) := by decide +kernel
theorem d_Pl_hasFixed_24 : decode cb_Pl_hasFixed 24 = .ok (.ifCond .lt 22, 3) := by decide +kernel
theorem d_Pl_hasFixed_27 : decode cb_Pl_hasFixed 27 = .ok (.iload_n 3, 1) := by decide +kernel
theorem d_Pl_hasFixed_28 : decode cb_Pl_hasFixed 28 = .ok (.aload_n 0, 1) := by decide +kernel
theorem d_Pl_hasFixed_29 : decode cb_Pl_hasFixed 29 = .ok (.getfield 53, 3) := by decide +kernel
theorem d_Pl_hasFixed_32 : decode cb_Pl_hasFixed 32 = .ok (.if_icmp .ge 14, 3) := by decide +kernel
theorem d_Pl_hasFixed_35 : decode cb_Pl_hasFixed 35 = .ok (.aload_n 0, 1) := by decide +kernel
theorem d_Pl_hasFixed_36 : decode cb_Pl_hasFixed 36 = .ok (.getfield 56, 3) := by decide +kernel
theorem d_Pl_hasFixed_39 : decode cb_Pl_hasFixed 39 = .ok (.iload_n 3, 1) := by decide +kernel
theorem d_Pl_hasFixed_40 : decode cb_Pl_hasFixed 40 = .ok (.baload, 1) := by decide +kernel
theorem d_Pl_hasFixed_41 : decode cb_Pl_hasFixed 41 = .ok (.ifCond .eq 5, 3) := by decide +kernel
theorem d_Pl_hasFixed_44 : decode cb_Pl_hasFixed 44 = .ok (.iconst 1, 1) := by decide +kernel
theorem d_Pl_hasFixed_45 : decode cb_Pl_hasFixed 45 = .ok (.ireturn, 1) := by decide +kernel
theorem d_Pl_hasFixed_46 : decode cb_Pl_hasFixed 46 = .ok (.iinc 3 1, 3) := by decide +kernel
theorem d_Pl_hasFixed_49 : decode cb_Pl_hasFixed 49 = .ok (.goto (-41), 3) := by decide +kernel
theorem d_Pl_hasFixed_52 : decode cb_Pl_hasFixed 52 = .ok (.iconst 0, 1) := by decide +kernel
theorem d_Pl_hasFixed_53 : decode cb_Pl_hasFixed 53 = .ok (.ireturn, 1) := by decide +kernel
theorem d_Pl_aim_0 : decode cb_Pl_aim 0 = .ok (.aload_n 0, 1) := by decide +kernel
theorem d_Pl_aim_1 : decode cb_Pl_aim 1 = .ok (.getfield 40, 3) := by decide +kernel
theorem d_Pl_aim_4 : decode cb_Pl_aim 4 = .ok (.getfield 136, 3) := by decide +kernel
theorem d_Pl_aim_7 : decode cb_Pl_aim 7 = .ok (.iconst 2, 1) := by decide +kernel
theorem d_Pl_aim_8 : decode cb_Pl_aim 8 = .ok (.iadd, 1) := by decide +kernel
theorem d_Pl_aim_9 : decode cb_Pl_aim 9 = .ok (.aload_n 0, 1) := by decide +kernel
theorem d_Pl_aim_10 : decode cb_Pl_aim 10 = .ok (.getfield 69, 3) := by decide +kernel
theorem d_Pl_aim_13 : decode cb_Pl_aim 13 = .ok (.arraylength, 1) := by decide +kernel
theorem d_Pl_aim_14 : decode cb_Pl_aim 14 = .ok (.invokestatic 120, 3) := by decide +kernel
theorem d_Pl_aim_17 : decode cb_Pl_aim 17 = .ok (.istore_n 1, 1) := by decide +kernel
theorem d_Pl_aim_18 : decode cb_Pl_aim 18 = .ok (.iconst 0, 1) := by decide +kernel
theorem d_Pl_aim_19 : decode cb_Pl_aim 19 = .ok (.istore_n 2, 1) := by decide +kernel
theorem d_Pl_aim_20 : decode cb_Pl_aim 20 = .ok (.iload_n 2, 1) := by decide +kernel
theorem d_Pl_aim_21 : decode cb_Pl_aim 21 = .ok (.aload_n 0, 1) := by decide +kernel
theorem d_Pl_aim_22 : decode cb_Pl_aim 22 = .ok (.getfield 69, 3) := by decide +kernel
theorem d_Pl_aim_25 : decode cb_Pl_aim 25 = .ok (.arraylength, 1) := by decide +kernel
theorem d_Pl_aim_26 : decode cb_Pl_aim 26 = .ok (.if_icmp .ge 16, 3) := by decide +kernel
theorem d_Pl_aim_29 : decode cb_Pl_aim 29 = .ok (.aload_n 0, 1) := by decide +kernel
theorem d_Pl_aim_30 : decode cb_Pl_aim 30 = .ok (.getfield 69, 3) := by decide +kernel
theorem d_Pl_aim_33 : decode cb_Pl_aim 33 = .ok (.iload_n 2, 1) := by decide +kernel
theorem d_Pl_aim_34 : decode cb_Pl_aim 34 = .ok (.iconst 0, 1) := by decide +kernel
theorem d_Pl_aim_35 : decode cb_Pl_aim 35 = .ok (.bastore, 1) := by decide +kernel
theorem d_Pl_aim_36 : decode cb_Pl_aim 36 = .ok (.iinc 2 1, 3) := by decide +kernel
theorem d_Pl_aim_39 : decode cb_Pl_aim 39 = .ok (.goto (-19), 3) := by decide +kernel
theorem d_Pl_aim_42 : decode cb_Pl_aim 42 = .ok (.aload_n 0, 1) := by decide +kernel
theorem d_Pl_aim_43 : decode cb_Pl_aim 43 = .ok (.iconst 0, 1) := by decide +kernel
theorem d_Pl_aim_44 : decode cb_Pl_aim 44 = .ok (.putfield 27, 3) := by decide +kernel
theorem d_Pl_aim_47 : decode cb_Pl_aim 47 = .ok (.iconst 2, 1) := by decide +kernel
theorem d_Pl_aim_48 : decode cb_Pl_aim 48 = .ok (.istore_n 2, 1) := by decide +kernel
theorem d_Pl_aim_49 : decode cb_Pl_aim 49 = .ok (.iconst 2, 1) := by decide +kernel
theorem d_Pl_aim_50 : decode cb_Pl_aim 50 = .ok (.istore_n 3, 1) := by decide +kernel
theorem d_Pl_aim_51 : decode cb_Pl_aim 51 = .ok (.iload_n 3, 1) := by decide +kernel
theorem d_Pl_aim_52 : decode cb_Pl_aim 52 = .ok (.iload_n 1, 1) := by decide +kernel
theorem d_Pl_aim_53 : decode cb_Pl_aim 53 = .ok (.if_icmp .ge 125, 3) := by decide +kernel
theorem d_Pl_aim_56 : decode cb_Pl_aim 56 = .ok (.aload_n 0, 1) := by decide +kernel
theorem d_Pl_aim_57 : decode cb_Pl_aim 57 = .ok (.getfield 40, 3) := by decide +kernel
theorem d_Pl_aim_60 : decode cb_Pl_aim 60 = .ok (.iload_n 3, 1) := by decide +kernel
theorem d_Pl_aim_61 : decode cb_Pl_aim 61 = .ok (.invokevirtual 165, 3) := by decide +kernel
theorem d_Pl_aim_64 : decode cb_Pl_aim 64 = .ok (.ifCond .ne 15, 3) := by decide +kernel
theorem d_Pl_aim_67 : decode cb_Pl_aim 67 = .ok (.aload_n 0, 1) := by decide +kernel
theorem d_Pl_aim_68 : decode cb_Pl_aim 68 = .ok (.iload_n 3, 1) := by decide +kernel
theorem d_Pl_aim_69 : decode cb_Pl_aim 69 = .ok (.invokevirtual 168, 3) := by decide +kernel
theorem d_Pl_aim_72 : decode cb_Pl_aim 72 = .ok (.ifCond .eq 7, 3) := by decide +kernel
theorem d_Pl_aim_75 : decode cb_Pl_aim 75 = .ok (.iconst 1, 1) := by decide +kernel
theorem d_Pl_aim_76 : decode cb_Pl_aim 76 = .ok (.goto 4, 3) := by decide +kernel
theorem d_Pl_aim_79 : decode cb_Pl_aim 79 = .ok (.iconst 0, 1) := by decide +kernel
theorem d_Pl_aim_80 : decode cb_Pl_aim 80 = .ok (.istore 4, 2) := by decide +kernel
theorem d_Pl_aim_82 : decode cb_Pl_aim 82 = .ok (.iload 4, 2) := by decide +kernel
theorem d_Pl_aim_84 : decode cb_Pl_aim 84 = .ok (.ifCond .eq 33, 3) := by decide +kernel
theorem d_Pl_aim_87 : decode cb_Pl_aim 87 = .ok (.iload_n 2, 1) := by decide +kernel
theorem d_Pl_aim_88 : decode cb_Pl_aim 88 = .ok (.iload_n 1, 1) := by decide +kernel
theorem d_Pl_aim_89 : decode cb_Pl_aim 89 = .ok (.if_icmp .ge 28, 3) := by decide +kernel
theorem d_Pl_aim_92 : decode cb_Pl_aim 92 = .ok (.aload_n 0, 1) := by decide +kernel
theorem d_Pl_aim_93 : decode cb_Pl_aim 93 = .ok (.getfield 40, 3) := by decide +kernel
theorem d_Pl_aim_96 : decode cb_Pl_aim 96 = .ok (.iload_n 2, 1) := by decide +kernel
theorem d_Pl_aim_97 : decode cb_Pl_aim 97 = .ok (.invokevirtual 165, 3) := by decide +kernel
theorem d_Pl_aim_100 : decode cb_Pl_aim 100 = .ok (.ifCond .eq 11, 3) := by decide +kernel
theorem d_Pl_aim_103 : decode cb_Pl_aim 103 = .ok (.aload_n 0, 1) := by decide +kernel
theorem d_Pl_aim_104 : decode cb_Pl_aim 104 = .ok (.iload_n 2, 1) := by decide +kernel
theorem d_Pl_aim_105 : decode cb_Pl_aim 105 = .ok (.invokevirtual 168, 3) := by decide +kernel
theorem d_Pl_aim_108 : decode cb_Pl_aim 108 = .ok (.ifCond .eq 9, 3) := by decide +kernel
theorem d_Pl_aim_111 : decode cb_Pl_aim 111 = .ok (.iinc 2 1, 3) := by decide +kernel
theorem d_Pl_aim_114 : decode cb_Pl_aim 114 = .ok (.goto (-32), 3) := by decide +kernel
theorem d_Pl_aim_117 : decode cb_Pl_aim 117 = .ok (.iload 4, 2) := by decide +kernel
theorem d_Pl_aim_119 : decode cb_Pl_aim 119 = .ok (.ifCond .eq 10, 3) := by decide +kernel
theorem d_Pl_aim_122 : decode cb_Pl_aim 122 = .ok (.iload_n 2, 1) := by decide +kernel
theorem d_Pl_aim_123 : decode cb_Pl_aim 123 = .ok (.iload_n 1, 1) := by decide +kernel
theorem d_Pl_aim_124 : decode cb_Pl_aim 124 = .ok (.if_icmp .lt 5, 3) := by decide +kernel
theorem d_Pl_aim_127 : decode cb_Pl_aim 127 = .ok (.iconst 0, 1) := by decide +kernel
theorem d_Pl_aim_128 : decode cb_Pl_aim 128 = .ok (.ireturn, 1) := by decide +kernel
theorem d_Pl_aim_129 : decode cb_Pl_aim 129 = .ok (.aload_n 0, 1) := by decide +kernel
theorem d_Pl_aim_130 : decode cb_Pl_aim 130 = .ok (.getfield 40, 3) := by decide +kernel
theorem d_Pl_aim_133 : decode cb_Pl_aim 133 = .ok (.iload_n 3, 1) := by decide +kernel
theorem d_Pl_aim_134 : decode cb_Pl_aim 134 = .ok (.iload 4, 2) := by decide +kernel
theorem d_Pl_aim_136 : decode cb_Pl_aim 136 = .ok (.ifCond .eq 7, 3) := by decide +kernel
theorem d_Pl_aim_139 : decode cb_Pl_aim 139 = .ok (.iload_n 2, 1) := by decide +kernel
theorem d_Pl_aim_140 : decode cb_Pl_aim 140 = .ok (.goto 4, 3) := by decide +kernel
theorem d_Pl_aim_143 : decode cb_Pl_aim 143 = .ok (.iconst 0, 1) := by decide +kernel
theorem d_Pl_aim_144 : decode cb_Pl_aim 144 = .ok (.invokevirtual 171, 3) := by decide +kernel
theorem d_Pl_aim_147 : decode cb_Pl_aim 147 = .ok (.iload 4, 2) := by decide +kernel
theorem d_Pl_aim_149 : decode cb_Pl_aim 149 = .ok (.ifCond .eq 23, 3) := by decide +kernel
theorem d_Pl_aim_152 : decode cb_Pl_aim 152 = .ok (.aload_n 0, 1) := by decide +kernel
theorem d_Pl_aim_153 : decode cb_Pl_aim 153 = .ok (.getfield 69, 3) := by decide +kernel
theorem d_Pl_aim_156 : decode cb_Pl_aim 156 = .ok (.iload_n 2, 1) := by decide +kernel
theorem d_Pl_aim_157 : decode cb_Pl_aim 157 = .ok (.iconst 1, 1) := by decide +kernel
theorem d_Pl_aim_158 : decode cb_Pl_aim 158 = .ok (.bastore, 1) := by decide +kernel
theorem d_Pl_aim_159 : decode cb_Pl_aim 159 = .ok (.aload_n 0, 1) := by decide +kernel
theorem d_Pl_aim_160 : decode cb_Pl_aim 160 = .ok (.dup, 1) := by decide +kernel
theorem d_Pl_aim_161 : decode cb_Pl_aim 161 = .ok (.getfield 27, 3) := by decide +kernel
theorem d_Pl_aim_164 : decode cb_Pl_aim 164 = .ok (.iconst 1, 1) := by decide +kernel
theorem d_Pl_aim_165 : decode cb_Pl_aim 165 = .ok (.iadd, 1) := by decide +kernel
theorem d_Pl_aim_166 : decode cb_Pl_aim 166 = .ok (.putfield 27, 3) := by decide +kernel
theorem d_Pl_aim_169 : decode cb_Pl_aim 169 = .ok (.iinc 2 1, 3) := by decide +kernel
theorem d_Pl_aim_172 : decode cb_Pl_aim 172 = .ok (.iinc 3 1, 3) := by decide +kernel
theorem d_Pl_aim_175 : decode cb_Pl_aim 175 = .ok (.goto (-124), 3) := by decide +kernel
theorem d_Pl_aim_178 : decode cb_Pl_aim 178 = .ok (.aload_n 0, 1) := by decide +kernel
theorem d_Pl_aim_179 : decode cb_Pl_aim 179 = .ok (.iload_n 1, 1) := by decide +kernel
theorem d_Pl_aim_180 : decode cb_Pl_aim 180 = .ok (.invokevirtual 175, 3) := by decide +kernel
theorem d_Pl_aim_183 : decode cb_Pl_aim 183 = .ok (.iconst 1, 1) := by decide +kernel
theorem d_Pl_aim_184 : decode cb_Pl_aim 184 = .ok (.ireturn, 1) := by decide +kernel
theorem d_Pl_findRooms_0 : decode cb_Pl_findRooms 0 = .ok (.aload_n 0, 1) := by decide +kernel
theorem d_Pl_findRooms_1 : decode cb_Pl_findRooms 1 = .ok (.iconst 0, 1) := by decide +kernel
theorem d_Pl_findRooms_2 : decode cb_Pl_findRooms 2 = .ok (.putfield 9, 3) := by decide +kernel
theorem d_Pl_findRooms_5 : decode cb_Pl_findRooms 5 = .ok (.iconst 2, 1) := by decide +kernel
theorem d_Pl_findRooms_6 : decode cb_Pl_findRooms 6 = .ok (.istore_n 2, 1) := by decide +kernel
theorem d_Pl_findRooms_7 : decode cb_Pl_findRooms 7 = .ok (.iload_n 2, 1) := by decide +kernel
theorem d_Pl_findRooms_8 : decode cb_Pl_findRooms 8 = .ok (.iload_n 1, 1) := by decide +kernel
theorem d_Pl_findRooms_9 : decode cb_Pl_findRooms 9 = .ok (.if_icmp .ge 38, 3) := by decide +kernel
theorem d_Pl_findRooms_12 : decode cb_Pl_findRooms 12 = .ok (.aload_n 0, 1) := by decide +kernel
theorem d_Pl_findRooms_13 : decode cb_Pl_findRooms 13 = .ok (.getfield 40, 3) := by decide +kernel
theorem d_Pl_findRooms_16 : decode cb_Pl_findRooms 16 = .ok (.iload_n 2, 1) := by decide +kernel
theorem d_Pl_findRooms_17 : decode cb_Pl_findRooms 17 = .ok (.invokevirtual 165, 3) := by decide +kernel
theorem d_Pl_findRooms_20 : decode cb_Pl_findRooms 20 = .ok (.ifCond .eq 21, 3) := by decide +kernel
theorem d_Pl_findRooms_23 : decode cb_Pl_findRooms 23 = .ok (.aload_n 0, 1) := by decide +kernel
theorem d_Pl_findRooms_24 : decode cb_Pl_findRooms 24 = .ok (.getfield 69, 3) := by decide +kernel
theorem d_Pl_findRooms_27 : decode cb_Pl_findRooms 27 = .ok (.iload_n 2, 1) := by decide +kernel
theorem d_Pl_findRooms_28 : decode cb_Pl_findRooms 28 = .ok (.baload, 1) := by decide +kernel
theorem d_Pl_findRooms_29 : decode cb_Pl_findRooms 29 = .ok (.ifCond .ne 12, 3) := by decide +kernel
theorem d_Pl_findRooms_32 : decode cb_Pl_findRooms 32 = .ok (.aload_n 0, 1) := by decide +kernel
theorem d_Pl_findRooms_33 : decode cb_Pl_findRooms 33 = .ok (.aload_n 0, 1) := by decide +kernel
theorem d_Pl_findRooms_34 : decode cb_Pl_findRooms 34 = .ok (.iload_n 2, 1) := by decide +kernel
theorem d_Pl_findRooms_35 : decode cb_Pl_findRooms 35 = .ok (.invokevirtual 162, 3) := by decide +kernel
theorem d_Pl_findRooms_38 : decode cb_Pl_findRooms 38 = .ok (.invokevirtual 179, 3) := by decide +kernel
theorem d_Pl_findRooms_41 : decode cb_Pl_findRooms 41 = .ok (.iinc 2 1, 3) := by decide +kernel
theorem d_Pl_findRooms_44 : decode cb_Pl_findRooms 44 = .ok (.goto (-37), 3) := by decide +kernel
theorem d_Pl_findRooms_47 : decode cb_Pl_findRooms 47 = .ok (.return_, 1) := by decide +kernel
theorem d_Pl_addRooms_0 : decode cb_Pl_addRooms 0 = .ok (.iload_n 1, 1) := by decide +kernel
theorem d_Pl_addRooms_1 : decode cb_Pl_addRooms 1 = .ok (.istore_n 2, 1) := by decide +kernel
theorem d_Pl_addRooms_2 : decode cb_Pl_addRooms 2 = .ok (.iload_n 2, 1) := by decide +kernel
theorem d_Pl_addRooms_3 : decode cb_Pl_addRooms 3 = .ok (.iload_n 1, 1) := by decide +kernel
theorem d_Pl_addRooms_4 : decode cb_Pl_addRooms 4 = .ok (.aload_n 0, 1) := by decide +kernel
theorem d_Pl_addRooms_5 : decode cb_Pl_addRooms 5 = .ok (.getfield 40, 3) := by decide +kernel
theorem d_Pl_addRooms_8 : decode cb_Pl_addRooms 8 = .ok (.getfield 139, 3) := by decide +kernel
theorem d_Pl_addRooms_11 : decode cb_Pl_addRooms 11 = .ok (.iconst 2, 1) := by decide +kernel
theorem d_Pl_addRooms_12 : decode cb_Pl_addRooms 12 = .ok (.idiv, 1) := by decide +kernel
theorem d_Pl_addRooms_13 : decode cb_Pl_addRooms 13 = .ok (.iadd, 1) := by decide +kernel
theorem d_Pl_addRooms_14 : decode cb_Pl_addRooms 14 = .ok (.if_icmp .ge 58, 3) := by decide +kernel
theorem d_Pl_addRooms_17 : decode cb_Pl_addRooms 17 = .ok (.iload_n 2, 1) := by decide +kernel
theorem d_Pl_addRooms_18 : decode cb_Pl_addRooms 18 = .ok (.aload_n 0, 1) := by decide +kernel
theorem d_Pl_addRooms_19 : decode cb_Pl_addRooms 19 = .ok (.getfield 53, 3) := by decide +kernel
theorem d_Pl_addRooms_22 : decode cb_Pl_addRooms 22 = .ok (.if_icmp .ge 50, 3) := by decide +kernel
theorem d_Pl_addRooms_25 : decode cb_Pl_addRooms 25 = .ok (.aload_n 0, 1) := by decide +kernel
theorem d_Pl_addRooms_26 : decode cb_Pl_addRooms 26 = .ok (.getfield 56, 3) := by decide +kernel
theorem d_Pl_addRooms_29 : decode cb_Pl_addRooms 29 = .ok (.iload_n 2, 1) := by decide +kernel
theorem d_Pl_addRooms_30 : decode cb_Pl_addRooms 30 = .ok (.baload, 1) := by decide +kernel
theorem d_Pl_addRooms_31 : decode cb_Pl_addRooms 31 = .ok (.ifCond .ne 35, 3) := by decide +kernel
theorem d_Pl_addRooms_34 : decode cb_Pl_addRooms 34 = .ok (.aload_n 0, 1) := by decide +kernel
theorem d_Pl_addRooms_35 : decode cb_Pl_addRooms 35 = .ok (.getfield 9, 3) := by decide +kernel
theorem d_Pl_addRooms_38 : decode cb_Pl_addRooms 38 = .ok (.aload_n 0, 1) := by decide +kernel
theorem d_Pl_addRooms_39 : decode cb_Pl_addRooms 39 = .ok (.getfield 72, 3) := by decide +kernel
theorem d_Pl_addRooms_42 : decode cb_Pl_addRooms 42 = .ok (.arraylength, 1) := by decide +kernel
theorem d_Pl_addRooms_43 : decode cb_Pl_addRooms 43 = .ok (.if_icmp .ge 23, 3) := by decide +kernel
theorem d_Pl_addRooms_46 : decode cb_Pl_addRooms 46 = .ok (.aload_n 0, 1) := by decide +kernel
theorem d_Pl_addRooms_47 : decode cb_Pl_addRooms 47 = .ok (.getfield 72, 3) := by decide +kernel
theorem d_Pl_addRooms_50 : decode cb_Pl_addRooms 50 = .ok (.aload_n 0, 1) := by decide +kernel
theorem d_Pl_addRooms_51 : decode cb_Pl_addRooms 51 = .ok (.getfield 9, 3) := by decide +kernel
theorem d_Pl_addRooms_54 : decode cb_Pl_addRooms 54 = .ok (.iload_n 2, 1) := by decide +kernel
theorem d_Pl_addRooms_55 : decode cb_Pl_addRooms 55 = .ok (.iastore, 1) := by decide +kernel
theorem d_Pl_addRooms_56 : decode cb_Pl_addRooms 56 = .ok (.aload_n 0, 1) := by decide +kernel
theorem d_Pl_addRooms_57 : decode cb_Pl_addRooms 57 = .ok (.dup, 1) := by decide +kernel
theorem d_Pl_addRooms_58 : decode cb_Pl_addRooms 58 = .ok (.getfield 9, 3) := by decide +kernel
theorem d_Pl_addRooms_61 : decode cb_Pl_addRooms 61 = .ok (.iconst 1, 1) := by decide +kernel
theorem d_Pl_addRooms_62 : decode cb_Pl_addRooms 62 = .ok (.iadd, 1) := by decide +kernel
theorem d_Pl_addRooms_63 : decode cb_Pl_addRooms 63 = .ok (.putfield 9, 3) := by decide +kernel
theorem d_Pl_addRooms_66 : decode cb_Pl_addRooms 66 = .ok (.iinc 2 1, 3) := by decide +kernel
theorem d_Pl_addRooms_69 : decode cb_Pl_addRooms 69 = .ok (.goto (-67), 3) := by decide +kernel
theorem d_Pl_addRooms_72 : decode cb_Pl_addRooms 72 = .ok (.return_, 1) := by decide +kernel
theorem d_Pl_assign_0 : decode cb_Pl_assign 0 = .ok (.aload_n 0, 1) := by decide +kernel
theorem d_Pl_assign_1 : decode cb_Pl_assign 1 = .ok (.iconst (-1), 1) := by decide +kernel
theorem d_Pl_assign_2 : decode cb_Pl_assign 2 = .ok (.invokevirtual 182, 3) := by decide +kernel
theorem d_Pl_assign_5 : decode cb_Pl_assign 5 = .ok (.aload_n 0, 1) := by decide +kernel
theorem d_Pl_assign_6 : decode cb_Pl_assign 6 = .ok (.iconst 3, 1) := by decide +kernel
theorem d_Pl_assign_7 : decode cb_Pl_assign 7 = .ok (.aload_n 0, 1) := by decide +kernel
theorem d_Pl_assign_8 : decode cb_Pl_assign 8 = .ok (.getfield 15, 3) := by decide +kernel
theorem d_Pl_assign_11 : decode cb_Pl_assign 11 = .ok (.invokestatic 185, 3) := by decide +kernel
theorem d_Pl_assign_14 : decode cb_Pl_assign 14 = .ok (.iadd, 1) := by decide +kernel
theorem d_Pl_assign_15 : decode cb_Pl_assign 15 = .ok (.putfield 30, 3) := by decide +kernel
theorem d_Pl_assign_18 : decode cb_Pl_assign 18 = .ok (.iconst 0, 1) := by decide +kernel
theorem d_Pl_assign_19 : decode cb_Pl_assign 19 = .ok (.istore_n 1, 1) := by decide +kernel
theorem d_Pl_assign_20 : decode cb_Pl_assign 20 = .ok (.iload_n 1, 1) := by decide +kernel
theorem d_Pl_assign_21 : decode cb_Pl_assign 21 = .ok (.aload_n 0, 1) := by decide +kernel
theorem d_Pl_assign_22 : decode cb_Pl_assign 22 = .ok (.getfield 44, 3) := by decide +kernel
theorem d_Pl_assign_25 : decode cb_Pl_assign 25 = .ok (.getfield 111, 3) := by decide +kernel
theorem d_Pl_assign_28 : decode cb_Pl_assign 28 = .ok (.if_icmp .ge 54, 3) := by decide +kernel
theorem d_Pl_assign_31 : decode cb_Pl_assign 31 = .ok (.aload_n 0, 1) := by decide +kernel
theorem d_Pl_assign_32 : decode cb_Pl_assign 32 = .ok (.getfield 44, 3) := by decide +kernel
theorem d_Pl_assign_35 : decode cb_Pl_assign 35 = .ok (.iload_n 1, 1) := by decide +kernel
theorem d_Pl_assign_36 : decode cb_Pl_assign 36 = .ok (.invokevirtual 188, 3) := by decide +kernel
theorem d_Pl_assign_39 : decode cb_Pl_assign 39 = .ok (.ifCond .eq 37, 3) := by decide +kernel
theorem d_Pl_assign_42 : decode cb_Pl_assign 42 = .ok (.aload_n 0, 1) := by decide +kernel
theorem d_Pl_assign_43 : decode cb_Pl_assign 43 = .ok (.iload_n 1, 1) := by decide +kernel
theorem d_Pl_assign_44 : decode cb_Pl_assign 44 = .ok (.invokevirtual 191, 3) := by decide +kernel
theorem d_Pl_assign_47 : decode cb_Pl_assign 47 = .ok (.istore_n 2, 1) := by decide +kernel
theorem d_Pl_assign_48 : decode cb_Pl_assign 48 = .ok (.aload_n 0, 1) := by decide +kernel
theorem d_Pl_assign_49 : decode cb_Pl_assign 49 = .ok (.getfield 44, 3) := by decide +kernel
theorem d_Pl_assign_52 : decode cb_Pl_assign 52 = .ok (.iload_n 1, 1) := by decide +kernel
theorem d_Pl_assign_53 : decode cb_Pl_assign 53 = .ok (.aload_n 0, 1) := by decide +kernel
theorem d_Pl_assign_54 : decode cb_Pl_assign 54 = .ok (.getfield 30, 3) := by decide +kernel
theorem d_Pl_assign_57 : decode cb_Pl_assign 57 = .ok (.iload_n 2, 1) := by decide +kernel
theorem d_Pl_assign_58 : decode cb_Pl_assign 58 = .ok (.invokevirtual 194, 3) := by decide +kernel
theorem d_Pl_assign_61 : decode cb_Pl_assign 61 = .ok (.aload_n 0, 1) := by decide +kernel
theorem d_Pl_assign_62 : decode cb_Pl_assign 62 = .ok (.dup, 1) := by decide +kernel
theorem d_Pl_assign_63 : decode cb_Pl_assign 63 = .ok (.getfield 30, 3) := by decide +kernel
theorem d_Pl_assign_66 : decode cb_Pl_assign 66 = .ok (.iload_n 2, 1) := by decide +kernel
theorem d_Pl_assign_67 : decode cb_Pl_assign 67 = .ok (.iload_n 2, 1) := by decide +kernel
theorem d_Pl_assign_68 : decode cb_Pl_assign 68 = .ok (.invokestatic 185, 3) := by decide +kernel
theorem d_Pl_assign_71 : decode cb_Pl_assign 71 = .ok (.iadd, 1) := by decide +kernel
theorem d_Pl_assign_72 : decode cb_Pl_assign 72 = .ok (.iadd, 1) := by decide +kernel
theorem d_Pl_assign_73 : decode cb_Pl_assign 73 = .ok (.putfield 30, 3) := by decide +kernel
theorem d_Pl_assign_76 : decode cb_Pl_assign 76 = .ok (.iinc 1 1, 3) := by decide +kernel
theorem d_Pl_assign_79 : decode cb_Pl_assign 79 = .ok (.goto (-59), 3) := by decide +kernel
theorem d_Pl_assign_82 : decode cb_Pl_assign 82 = .ok (.iconst 0, 1) := by decide +kernel
theorem d_Pl_assign_83 : decode cb_Pl_assign 83 = .ok (.istore_n 1, 1) := by decide +kernel
theorem d_Pl_assign_84 : decode cb_Pl_assign 84 = .ok (.iload_n 1, 1) := by decide +kernel
theorem d_Pl_assign_85 : decode cb_Pl_assign 85 = .ok (.aload_n 0, 1) := by decide +kernel
theorem d_Pl_assign_86 : decode cb_Pl_assign 86 = .ok (.getfield 44, 3) := by decide +kernel
theorem d_Pl_assign_89 : decode cb_Pl_assign 89 = .ok (.getfield 111, 3) := by decide +kernel
theorem d_Pl_assign_92 : decode cb_Pl_assign 92 = .ok (.if_icmp .ge 63, 3) := by decide +kernel
theorem d_Pl_assign_95 : decode cb_Pl_assign 95 = .ok (.aload_n 0, 1) := by decide +kernel
theorem d_Pl_assign_96 : decode cb_Pl_assign 96 = .ok (.getfield 44, 3) := by decide +kernel
theorem d_Pl_assign_99 : decode cb_Pl_assign 99 = .ok (.iload_n 1, 1) := by decide +kernel
theorem d_Pl_assign_100 : decode cb_Pl_assign 100 = .ok (.invokevirtual 188, 3) := by decide +kernel
theorem d_Pl_assign_103 : decode cb_Pl_assign 103 = .ok (.ifCond .ne 46, 3) := by decide +kernel
theorem d_Pl_assign_106 : decode cb_Pl_assign 106 = .ok (.aload_n 0, 1) := by decide +kernel
theorem d_Pl_assign_107 : decode cb_Pl_assign 107 = .ok (.getfield 44, 3) := by decide +kernel
theorem d_Pl_assign_110 : decode cb_Pl_assign 110 = .ok (.iload_n 1, 1) := by decide +kernel
theorem d_Pl_assign_111 : decode cb_Pl_assign 111 = .ok (.aload_n 0, 1) := by decide +kernel
theorem d_Pl_assign_112 : decode cb_Pl_assign 112 = .ok (.getfield 30, 3) := by decide +kernel
theorem d_Pl_assign_115 : decode cb_Pl_assign 115 = .ok (.iconst 0, 1) := by decide +kernel
theorem d_Pl_assign_116 : decode cb_Pl_assign 116 = .ok (.invokevirtual 194, 3) := by decide +kernel
theorem d_Pl_assign_119 : decode cb_Pl_assign 119 = .ok (.aload_n 0, 1) := by decide +kernel
theorem d_Pl_assign_120 : decode cb_Pl_assign 120 = .ok (.dup, 1) := by decide +kernel
theorem d_Pl_assign_121 : decode cb_Pl_assign 121 = .ok (.getfield 30, 3) := by decide +kernel
theorem d_Pl_assign_124 : decode cb_Pl_assign 124 = .ok (.aload_n 0, 1) := by decide +kernel
theorem d_Pl_assign_125 : decode cb_Pl_assign 125 = .ok (.getfield 44, 3) := by decide +kernel
theorem d_Pl_assign_128 : decode cb_Pl_assign 128 = .ok (.iload_n 1, 1) := by decide +kernel
theorem d_Pl_assign_129 : decode cb_Pl_assign 129 = .ok (.invokevirtual 198, 3) := by decide +kernel
theorem d_Pl_assign_132 : decode cb_Pl_assign 132 = .ok (.sipush 1024, 3) := by decide +kernel
theorem d_Pl_assign_135 : decode cb_Pl_assign 135 = .ok (.iadd, 1) := by decide +kernel
theorem d_Pl_assign_136 : decode cb_Pl_assign 136 = .ok (.iconst 1, 1) := by decide +kernel
theorem d_Pl_assign_137 : decode cb_Pl_assign 137 = .ok (.isub, 1) := by decide +kernel
theorem d_Pl_assign_138 : decode cb_Pl_assign 138 = .ok (.sipush 1024, 3) := by decide +kernel
theorem d_Pl_assign_141 : decode cb_Pl_assign 141 = .ok (.idiv, 1) := by decide +kernel
theorem d_Pl_assign_142 : decode cb_Pl_assign 142 = .ok (.invokestatic 185, 3) := by decide +kernel
theorem d_Pl_assign_145 : decode cb_Pl_assign 145 = .ok (.iadd, 1) := by decide +kernel
theorem d_Pl_assign_146 : decode cb_Pl_assign 146 = .ok (.putfield 30, 3) := by decide +kernel
theorem d_Pl_assign_149 : decode cb_Pl_assign 149 = .ok (.iinc 1 1, 3) := by decide +kernel
theorem d_Pl_assign_152 : decode cb_Pl_assign 152 = .ok (.goto (-68), 3) := by decide +kernel
theorem d_Pl_assign_155 : decode cb_Pl_assign 155 = .ok (.aload_n 0, 1) := by decide +kernel
theorem d_Pl_assign_156 : decode cb_Pl_assign 156 = .ok (.getfield 30, 3) := by decide +kernel
theorem d_Pl_assign_159 : decode cb_Pl_assign 159 = .ok (.aload_n 0, 1) := by decide +kernel
theorem d_Pl_assign_160 : decode cb_Pl_assign 160 = .ok (.getfield 9, 3) := by decide +kernel
theorem d_Pl_assign_163 : decode cb_Pl_assign 163 = .ok (.if_icmp .gt 7, 3) := by decide +kernel
theorem d_Pl_assign_166 : decode cb_Pl_assign 166 = .ok (.iconst 1, 1) := by decide +kernel
theorem d_Pl_assign_167 : decode cb_Pl_assign 167 = .ok (.goto 4, 3) := by decide +kernel
theorem d_Pl_assign_170 : decode cb_Pl_assign 170 = .ok (.iconst 0, 1) := by decide +kernel
theorem d_Pl_assign_171 : decode cb_Pl_assign 171 = .ok (.ireturn, 1) := by decide +kernel
theorem d_Pl_entriesOf_0 : decode cb_Pl_entriesOf 0 = .ok (.iconst 2, 1) := by decide +kernel
theorem d_Pl_entriesOf_1 : decode cb_Pl_entriesOf 1 = .ok (.aload_n 0, 1) := by decide +kernel
theorem d_Pl_entriesOf_2 : decode cb_Pl_entriesOf 2 = .ok (.getfield 44, 3) := by decide +kernel
theorem d_Pl_entriesOf_5 : decode cb_Pl_entriesOf 5 = .ok (.iload_n 1, 1) := by decide +kernel
theorem d_Pl_entriesOf_6 : decode cb_Pl_entriesOf 6 = .ok (.invokevirtual 201, 3) := by decide +kernel
theorem d_Pl_entriesOf_9 : decode cb_Pl_entriesOf 9 = .ok (.iadd, 1) := by decide +kernel
theorem d_Pl_entriesOf_10 : decode cb_Pl_entriesOf 10 = .ok (.iload_n 1, 1) := by decide +kernel
theorem d_Pl_entriesOf_11 : decode cb_Pl_entriesOf 11 = .ok (.ifCond .ne 7, 3) := by decide +kernel
theorem d_Pl_entriesOf_14 : decode cb_Pl_entriesOf 14 = .ok (.iconst 1, 1) := by decide +kernel
theorem d_Pl_entriesOf_15 : decode cb_Pl_entriesOf 15 = .ok (.goto 4, 3) := by decide +kernel
theorem d_Pl_entriesOf_18 : decode cb_Pl_entriesOf 18 = .ok (.iconst 0, 1) := by decide +kernel
theorem d_Pl_entriesOf_19 : decode cb_Pl_entriesOf 19 = .ok (.iadd, 1) := by decide +kernel
theorem d_Pl_entriesOf_20 : decode cb_Pl_entriesOf 20 = .ok (.ireturn, 1) := by decide +kernel
theorem d_Pl_nameSize_0 : decode cb_Pl_nameSize 0 = .ok (.iload_n 2, 1) := by decide +kernel
theorem d_Pl_nameSize_1 : decode cb_Pl_nameSize 1 = .ok (.iconst 2, 1) := by decide +kernel
theorem d_Pl_nameSize_2 : decode cb_Pl_nameSize 2 = .ok (.if_icmp .ge 7, 3) := by decide +kernel
theorem d_Pl_nameSize_5 : decode cb_Pl_nameSize 5 = .ok (.iload_n 2, 1) := by decide +kernel
theorem d_Pl_nameSize_6 : decode cb_Pl_nameSize 6 = .ok (.iconst 1, 1) := by decide +kernel
theorem d_Pl_nameSize_7 : decode cb_Pl_nameSize 7 = .ok (.iadd, 1) := by decide +kernel
theorem d_Pl_nameSize_8 : decode cb_Pl_nameSize 8 = .ok (.ireturn, 1) := by decide +kernel
theorem d_Pl_nameSize_9 : decode cb_Pl_nameSize 9 = .ok (.iload_n 2, 1) := by decide +kernel
theorem d_Pl_nameSize_10 : decode cb_Pl_nameSize 10 = .ok (.iconst 2, 1) := by decide +kernel
theorem d_Pl_nameSize_11 : decode cb_Pl_nameSize 11 = .ok (.isub, 1) := by decide +kernel
theorem d_Pl_nameSize_12 : decode cb_Pl_nameSize 12 = .ok (.aload_n 0, 1) := by decide +kernel
theorem d_Pl_nameSize_13 : decode cb_Pl_nameSize 13 = .ok (.getfield 44, 3) := by decide +kernel
theorem d_Pl_nameSize_16 : decode cb_Pl_nameSize 16 = .ok (.iload_n 1, 1) := by decide +kernel
theorem d_Pl_nameSize_17 : decode cb_Pl_nameSize 17 = .ok (.invokevirtual 201, 3) := by decide +kernel
theorem d_Pl_nameSize_20 : decode cb_Pl_nameSize 20 = .ok (.if_icmp .ge 22, 3) := by decide +kernel
theorem d_Pl_nameSize_23 : decode cb_Pl_nameSize 23 = .ok (.aload_n 0, 1) := by decide +kernel
theorem d_Pl_nameSize_24 : decode cb_Pl_nameSize 24 = .ok (.getfield 44, 3) := by decide +kernel
theorem d_Pl_nameSize_27 : decode cb_Pl_nameSize 27 = .ok (.aload_n 0, 1) := by decide +kernel
theorem d_Pl_nameSize_28 : decode cb_Pl_nameSize 28 = .ok (.getfield 44, 3) := by decide +kernel
theorem d_Pl_nameSize_31 : decode cb_Pl_nameSize 31 = .ok (.iload_n 1, 1) := by decide +kernel
theorem d_Pl_nameSize_32 : decode cb_Pl_nameSize 32 = .ok (.iload_n 2, 1) := by decide +kernel
theorem d_Pl_nameSize_33 : decode cb_Pl_nameSize 33 = .ok (.iconst 2, 1) := by decide +kernel
theorem d_Pl_nameSize_34 : decode cb_Pl_nameSize 34 = .ok (.isub, 1) := by decide +kernel
theorem d_Pl_nameSize_35 : decode cb_Pl_nameSize 35 = .ok (.invokevirtual 204, 3) := by decide +kernel
theorem d_Pl_nameSize_38 : decode cb_Pl_nameSize 38 = .ok (.invokevirtual 145, 3) := by decide +kernel
theorem d_Pl_nameSize_41 : decode cb_Pl_nameSize 41 = .ok (.ireturn, 1) := by decide +kernel
theorem d_Pl_nameSize_42 : decode cb_Pl_nameSize 42 = .ok (.ldc 207, 2) := by decide +kernel
theorem d_Pl_nameSize_44 : decode cb_Pl_nameSize 44 = .ok (.invokevirtual 209, 3) := by decide +kernel
theorem d_Pl_nameSize_47 : decode cb_Pl_nameSize 47 = .ok (.ireturn, 1) := by decide +kernel
theorem d_Pl_blocksBuilt_0 : decode cb_Pl_blocksBuilt 0 = .ok (.iconst 1, 1) := by decide +kernel
theorem d_Pl_blocksBuilt_1 : decode cb_Pl_blocksBuilt 1 = .ok (.istore_n 2, 1) := by decide +kernel
theorem d_Pl_blocksBuilt_2 : decode cb_Pl_blocksBuilt 2 = .ok (.iconst 0, 1) := by decide +kernel
theorem d_Pl_blocksBuilt_3 : decode cb_Pl_blocksBuilt 3 = .ok (.istore_n 3, 1) := by decide +kernel
theorem d_Pl_blocksBuilt_4 : decode cb_Pl_blocksBuilt 4 = .ok (.iconst 0, 1) := by decide +kernel
theorem d_Pl_blocksBuilt_5 : decode cb_Pl_blocksBuilt 5 = .ok (.istore 4, 2) := by decide +kernel
theorem d_Pl_blocksBuilt_7 : decode cb_Pl_blocksBuilt 7 = .ok (.iload 4, 2) := by decide +kernel
theorem d_Pl_blocksBuilt_9 : decode cb_Pl_blocksBuilt 9 = .ok (.aload_n 0, 1) := by decide +kernel
theorem d_Pl_blocksBuilt_10 : decode cb_Pl_blocksBuilt 10 = .ok (.iload_n 1, 1) := by decide +kernel
theorem d_Pl_blocksBuilt_11 : decode cb_Pl_blocksBuilt 11 = .ok (.invokevirtual 214, 3) := by decide +kernel
theorem d_Pl_blocksBuilt_14 : decode cb_Pl_blocksBuilt 14 = .ok (.if_icmp .ge 41, 3) := by decide +kernel
theorem d_Pl_blocksBuilt_17 : decode cb_Pl_blocksBuilt 17 = .ok (.aload_n 0, 1) := by decide +kernel
theorem d_Pl_blocksBuilt_18 : decode cb_Pl_blocksBuilt 18 = .ok (.iload_n 1, 1) := by decide +kernel
theorem d_Pl_blocksBuilt_19 : decode cb_Pl_blocksBuilt 19 = .ok (.iload 4, 2) := by decide +kernel
theorem d_Pl_blocksBuilt_21 : decode cb_Pl_blocksBuilt 21 = .ok (.invokevirtual 217, 3) := by decide +kernel
theorem d_Pl_blocksBuilt_24 : decode cb_Pl_blocksBuilt 24 = .ok (.invokestatic 219, 3) := by decide +kernel
theorem d_Pl_blocksBuilt_27 : decode cb_Pl_blocksBuilt 27 = .ok (.istore 5, 2) := by decide +kernel
theorem d_Pl_blocksBuilt_29 : decode cb_Pl_blocksBuilt 29 = .ok (.iload_n 3, 1) := by decide +kernel
theorem d_Pl_blocksBuilt_30 : decode cb_Pl_blocksBuilt 30 = .ok (.iload 5, 2) := by decide +kernel
theorem d_Pl_blocksBuilt_32 : decode cb_Pl_blocksBuilt 32 = .ok (.iadd, 1) := by decide +kernel
theorem d_Pl_blocksBuilt_33 : decode cb_Pl_blocksBuilt 33 = .ok (.sipush 1024, 3) := by decide +kernel
theorem d_Pl_blocksBuilt_36 : decode cb_Pl_blocksBuilt 36 = .ok (.if_icmp .le 8, 3) := by decide +kernel
theorem d_Pl_blocksBuilt_39 : decode cb_Pl_blocksBuilt 39 = .ok (.iinc 2 1, 3) := by decide +kernel
theorem d_Pl_blocksBuilt_42 : decode cb_Pl_blocksBuilt 42 = .ok (.iconst 0, 1) := by decide +kernel
theorem d_Pl_blocksBuilt_43 : decode cb_Pl_blocksBuilt 43 = .ok (.istore_n 3, 1) := by decide +kernel
theorem d_Pl_blocksBuilt_44 : decode cb_Pl_blocksBuilt 44 = .ok (.iload_n 3, 1) := by decide +kernel
theorem d_Pl_blocksBuilt_45 : decode cb_Pl_blocksBuilt 45 = .ok (.iload 5, 2) := by decide +kernel
theorem d_Pl_blocksBuilt_47 : decode cb_Pl_blocksBuilt 47 = .ok (.iadd, 1) := by decide +kernel
theorem d_Pl_blocksBuilt_48 : decode cb_Pl_blocksBuilt 48 = .ok (.istore_n 3, 1) := by decide +kernel
theorem d_Pl_blocksBuilt_49 : decode cb_Pl_blocksBuilt 49 = .ok (.iinc 4 1, 3) := by decide +kernel
theorem d_Pl_blocksBuilt_52 : decode cb_Pl_blocksBuilt 52 = .ok (.goto (-45), 3) := by decide +kernel
theorem d_Pl_blocksBuilt_55 : decode cb_Pl_blocksBuilt 55 = .ok (.iload_n 2, 1) := by decide +kernel
theorem d_Pl_blocksBuilt_56 : decode cb_Pl_blocksBuilt 56 = .ok (.ireturn, 1) := by decide +kernel
theorem d_Pl_gather_0 : decode cb_Pl_gather 0 = .ok (.aload_n 0, 1) := by decide +kernel
theorem d_Pl_gather_1 : decode cb_Pl_gather 1 = .ok (.iconst 0, 1) := by decide +kernel
theorem d_Pl_gather_2 : decode cb_Pl_gather 2 = .ok (.putfield 15, 3) := by decide +kernel
theorem d_Pl_gather_5 : decode cb_Pl_gather 5 = .ok (.iload_n 1, 1) := by decide +kernel
theorem d_Pl_gather_6 : decode cb_Pl_gather 6 = .ok (.iconst (-1), 1) := by decide +kernel
theorem d_Pl_gather_7 : decode cb_Pl_gather 7 = .ok (.if_icmp .ne 7, 3) := by decide +kernel
theorem d_Pl_gather_10 : decode cb_Pl_gather 10 = .ok (.iconst 3, 1) := by decide +kernel
theorem d_Pl_gather_11 : decode cb_Pl_gather 11 = .ok (.goto 11, 3) := by decide +kernel
theorem d_Pl_gather_14 : decode cb_Pl_gather 14 = .ok (.aload_n 0, 1) := by decide +kernel
theorem d_Pl_gather_15 : decode cb_Pl_gather 15 = .ok (.getfield 44, 3) := by decide +kernel
theorem d_Pl_gather_18 : decode cb_Pl_gather 18 = .ok (.iload_n 1, 1) := by decide +kernel
theorem d_Pl_gather_19 : decode cb_Pl_gather 19 = .ok (.invokevirtual 222, 3) := by decide +kernel
theorem d_Pl_gather_22 : decode cb_Pl_gather 22 = .ok (.istore_n 2, 1) := by decide +kernel
theorem d_Pl_gather_23 : decode cb_Pl_gather 23 = .ok (.iload_n 1, 1) := by decide +kernel
theorem d_Pl_gather_24 : decode cb_Pl_gather 24 = .ok (.iconst (-1), 1) := by decide +kernel
theorem d_Pl_gather_25 : decode cb_Pl_gather 25 = .ok (.if_icmp .ne 7, 3) := by decide +kernel
theorem d_Pl_gather_28 : decode cb_Pl_gather 28 = .ok (.iconst 0, 1) := by decide +kernel
theorem d_Pl_gather_29 : decode cb_Pl_gather 29 = .ok (.goto 11, 3) := by decide +kernel
theorem d_Pl_gather_32 : decode cb_Pl_gather 32 = .ok (.aload_n 0, 1) := by decide +kernel
theorem d_Pl_gather_33 : decode cb_Pl_gather 33 = .ok (.getfield 44, 3) := by decide +kernel
theorem d_Pl_gather_36 : decode cb_Pl_gather 36 = .ok (.iload_n 1, 1) := by decide +kernel
theorem d_Pl_gather_37 : decode cb_Pl_gather 37 = .ok (.invokevirtual 225, 3) := by decide +kernel
theorem d_Pl_gather_40 : decode cb_Pl_gather 40 = .ok (.istore_n 3, 1) := by decide +kernel
theorem d_Pl_gather_41 : decode cb_Pl_gather 41 = .ok (.iconst 0, 1) := by decide +kernel
theorem d_Pl_gather_42 : decode cb_Pl_gather 42 = .ok (.istore 4, 2) := by decide +kernel
theorem d_Pl_gather_44 : decode cb_Pl_gather 44 = .ok (.iload 4, 2) := by decide +kernel
theorem d_Pl_gather_46 : decode cb_Pl_gather 46 = .ok (.iload_n 2, 1) := by decide +kernel
theorem d_Pl_gather_47 : decode cb_Pl_gather 47 = .ok (.if_icmp .ge 21, 3) := by decide +kernel
theorem d_Pl_gather_50 : decode cb_Pl_gather 50 = .ok (.aload_n 0, 1) := by decide +kernel
theorem d_Pl_gather_51 : decode cb_Pl_gather 51 = .ok (.aload_n 0, 1) := by decide +kernel
theorem d_Pl_gather_52 : decode cb_Pl_gather 52 = .ok (.iload_n 3, 1) := by decide +kernel
theorem d_Pl_gather_53 : decode cb_Pl_gather 53 = .ok (.iload 4, 2) := by decide +kernel
theorem d_Pl_gather_55 : decode cb_Pl_gather 55 = .ok (.iadd, 1) := by decide +kernel
theorem d_Pl_gather_56 : decode cb_Pl_gather 56 = .ok (.invokevirtual 228, 3) := by decide +kernel
theorem d_Pl_gather_59 : decode cb_Pl_gather 59 = .ok (.invokevirtual 231, 3) := by decide +kernel
theorem d_Pl_gather_62 : decode cb_Pl_gather 62 = .ok (.iinc 4 1, 3) := by decide +kernel
theorem d_Pl_gather_65 : decode cb_Pl_gather 65 = .ok (.goto (-21), 3) := by decide +kernel
theorem d_Pl_gather_68 : decode cb_Pl_gather 68 = .ok (.iconst 3, 1) := by decide +kernel
theorem d_Pl_gather_69 : decode cb_Pl_gather 69 = .ok (.istore 4, 2) := by decide +kernel
theorem d_Pl_gather_71 : decode cb_Pl_gather 71 = .ok (.iload_n 1, 1) := by decide +kernel
theorem d_Pl_gather_72 : decode cb_Pl_gather 72 = .ok (.iconst (-1), 1) := by decide +kernel
theorem d_Pl_gather_73 : decode cb_Pl_gather 73 = .ok (.if_icmp .ne 29, 3) := by decide +kernel
theorem d_Pl_gather_76 : decode cb_Pl_gather 76 = .ok (.iload 4, 2) := by decide +kernel
theorem d_Pl_gather_78 : decode cb_Pl_gather 78 = .ok (.aload_n 0, 1) := by decide +kernel
theorem d_Pl_gather_79 : decode cb_Pl_gather 79 = .ok (.getfield 40, 3) := by decide +kernel
theorem d_Pl_gather_82 : decode cb_Pl_gather 82 = .ok (.getfield 79, 3) := by decide +kernel
theorem d_Pl_gather_85 : decode cb_Pl_gather 85 = .ok (.iconst 2, 1) := by decide +kernel
theorem d_Pl_gather_86 : decode cb_Pl_gather 86 = .ok (.idiv, 1) := by decide +kernel
theorem d_Pl_gather_87 : decode cb_Pl_gather 87 = .ok (.if_icmp .ge 15, 3) := by decide +kernel
theorem d_Pl_gather_90 : decode cb_Pl_gather 90 = .ok (.aload_n 0, 1) := by decide +kernel
theorem d_Pl_gather_91 : decode cb_Pl_gather 91 = .ok (.iload 4, 2) := by decide +kernel
theorem d_Pl_gather_93 : decode cb_Pl_gather 93 = .ok (.invokevirtual 231, 3) := by decide +kernel
theorem d_Pl_gather_96 : decode cb_Pl_gather 96 = .ok (.iinc 4 1, 3) := by decide +kernel
theorem d_Pl_gather_99 : decode cb_Pl_gather 99 = .ok (.goto (-28), 3) := by decide +kernel
theorem d_Pl_gather_102 : decode cb_Pl_gather 102 = .ok (.iconst 0, 1) := by decide +kernel
theorem d_Pl_gather_103 : decode cb_Pl_gather 103 = .ok (.istore 4, 2) := by decide +kernel
theorem d_Pl_gather_105 : decode cb_Pl_gather 105 = .ok (.iload_n 1, 1) := by decide +kernel
theorem d_Pl_gather_106 : decode cb_Pl_gather 106 = .ok (.iconst (-1), 1) := by decide +kernel
theorem d_Pl_gather_107 : decode cb_Pl_gather 107 = .ok (.if_icmp .ne 51, 3) := by decide +kernel
theorem d_Pl_gather_110 : decode cb_Pl_gather 110 = .ok (.iload 4, 2) := by decide +kernel
theorem d_Pl_gather_112 : decode cb_Pl_gather 112 = .ok (.aload_n 0, 1) := by decide +kernel
theorem d_Pl_gather_113 : decode cb_Pl_gather 113 = .ok (.getfield 44, 3) := by decide +kernel
theorem d_Pl_gather_116 : decode cb_Pl_gather 116 = .ok (.getfield 111, 3) := by decide +kernel
theorem d_Pl_gather_119 : decode cb_Pl_gather 119 = .ok (.if_icmp .ge 39, 3) := by decide +kernel
theorem d_Pl_gather_122 : decode cb_Pl_gather 122 = .ok (.aload_n 0, 1) := by decide +kernel
theorem d_Pl_gather_123 : decode cb_Pl_gather 123 = .ok (.getfield 44, 3) := by decide +kernel
theorem d_Pl_gather_126 : decode cb_Pl_gather 126 = .ok (.iload 4, 2) := by decide +kernel
theorem d_Pl_gather_128 : decode cb_Pl_gather 128 = .ok (.invokevirtual 188, 3) := by decide +kernel
theorem d_Pl_gather_131 : decode cb_Pl_gather 131 = .ok (.ifCond .eq 21, 3) := by decide +kernel
theorem d_Pl_gather_134 : decode cb_Pl_gather 134 = .ok (.aload_n 0, 1) := by decide +kernel
theorem d_Pl_gather_135 : decode cb_Pl_gather 135 = .ok (.aload_n 0, 1) := by decide +kernel
theorem d_Pl_gather_136 : decode cb_Pl_gather 136 = .ok (.getfield 44, 3) := by decide +kernel
theorem d_Pl_gather_139 : decode cb_Pl_gather 139 = .ok (.iload 4, 2) := by decide +kernel
theorem d_Pl_gather_141 : decode cb_Pl_gather 141 = .ok (.invokevirtual 234, 3) := by decide +kernel
theorem d_Pl_gather_144 : decode cb_Pl_gather 144 = .ok (.aload_n 0, 1) := by decide +kernel
theorem d_Pl_gather_145 : decode cb_Pl_gather 145 = .ok (.getfield 76, 3) := by decide +kernel
theorem d_Pl_gather_148 : decode cb_Pl_gather 148 = .ok (.arraylength, 1) := by decide +kernel
theorem d_Pl_gather_149 : decode cb_Pl_gather 149 = .ok (.invokevirtual 237, 3) := by decide +kernel
theorem d_Pl_gather_152 : decode cb_Pl_gather 152 = .ok (.iinc 4 1, 3) := by decide +kernel
theorem d_Pl_gather_155 : decode cb_Pl_gather 155 = .ok (.goto (-50), 3) := by decide +kernel
theorem d_Pl_gather_158 : decode cb_Pl_gather 158 = .ok (.iload_n 1, 1) := by decide +kernel
theorem d_Pl_gather_159 : decode cb_Pl_gather 159 = .ok (.iconst (-1), 1) := by decide +kernel
theorem d_Pl_gather_160 : decode cb_Pl_gather 160 = .ok (.if_icmp .eq 44, 3) := by decide +kernel
theorem d_Pl_gather_163 : decode cb_Pl_gather 163 = .ok (.aload_n 0, 1) := by decide +kernel
theorem d_Pl_gather_164 : decode cb_Pl_gather 164 = .ok (.getfield 44, 3) := by decide +kernel
theorem d_Pl_gather_167 : decode cb_Pl_gather 167 = .ok (.iload_n 1, 1) := by decide +kernel
theorem d_Pl_gather_168 : decode cb_Pl_gather 168 = .ok (.invokevirtual 188, 3) := by decide +kernel
theorem d_Pl_gather_171 : decode cb_Pl_gather 171 = .ok (.ifCond .ne 33, 3) := by decide +kernel
theorem d_Pl_gather_174 : decode cb_Pl_gather 174 = .ok (.aload_n 0, 1) := by decide +kernel
theorem d_Pl_gather_175 : decode cb_Pl_gather 175 = .ok (.aload_n 0, 1) := by decide +kernel
theorem d_Pl_gather_176 : decode cb_Pl_gather 176 = .ok (.getfield 44, 3) := by decide +kernel
theorem d_Pl_gather_179 : decode cb_Pl_gather 179 = .ok (.iload_n 1, 1) := by decide +kernel
theorem d_Pl_gather_180 : decode cb_Pl_gather 180 = .ok (.invokevirtual 234, 3) := by decide +kernel
theorem d_Pl_gather_183 : decode cb_Pl_gather 183 = .ok (.aload_n 0, 1) := by decide +kernel
theorem d_Pl_gather_184 : decode cb_Pl_gather 184 = .ok (.getfield 44, 3) := by decide +kernel
theorem d_Pl_gather_187 : decode cb_Pl_gather 187 = .ok (.iload_n 1, 1) := by decide +kernel
theorem d_Pl_gather_188 : decode cb_Pl_gather 188 = .ok (.invokevirtual 198, 3) := by decide +kernel
theorem d_Pl_gather_191 : decode cb_Pl_gather 191 = .ok (.sipush 1024, 3) := by decide +kernel
theorem d_Pl_gather_194 : decode cb_Pl_gather 194 = .ok (.iadd, 1) := by decide +kernel
theorem d_Pl_gather_195 : decode cb_Pl_gather 195 = .ok (.iconst 1, 1) := by decide +kernel
theorem d_Pl_gather_196 : decode cb_Pl_gather 196 = .ok (.isub, 1) := by decide +kernel
theorem d_Pl_gather_197 : decode cb_Pl_gather 197 = .ok (.sipush 1024, 3) := by decide +kernel
theorem d_Pl_gather_200 : decode cb_Pl_gather 200 = .ok (.idiv, 1) := by decide +kernel
theorem d_Pl_gather_201 : decode cb_Pl_gather 201 = .ok (.invokevirtual 237, 3) := by decide +kernel
theorem d_Pl_gather_204 : decode cb_Pl_gather 204 = .ok (.return_, 1) := by decide +kernel
theorem d_Pl_listChain_0 : decode cb_Pl_listChain 0 = .ok (.aload_n 0, 1) := by decide +kernel
theorem d_Pl_listChain_1 : decode cb_Pl_listChain 1 = .ok (.getfield 40, 3) := by decide +kernel
theorem d_Pl_listChain_4 : decode cb_Pl_listChain 4 = .ok (.getfield 139, 3) := by decide +kernel
theorem d_Pl_listChain_7 : decode cb_Pl_listChain 7 = .ok (.iconst 2, 1) := by decide +kernel
theorem d_Pl_listChain_8 : decode cb_Pl_listChain 8 = .ok (.idiv, 1) := by decide +kernel
theorem d_Pl_listChain_9 : decode cb_Pl_listChain 9 = .ok (.istore_n 3, 1) := by decide +kernel
theorem d_Pl_listChain_10 : decode cb_Pl_listChain 10 = .ok (.aload_n 0, 1) := by decide +kernel
theorem d_Pl_listChain_11 : decode cb_Pl_listChain 11 = .ok (.getfield 40, 3) := by decide +kernel
theorem d_Pl_listChain_14 : decode cb_Pl_listChain 14 = .ok (.getfield 79, 3) := by decide +kernel
theorem d_Pl_listChain_17 : decode cb_Pl_listChain 17 = .ok (.iconst 2, 1) := by decide +kernel
theorem d_Pl_listChain_18 : decode cb_Pl_listChain 18 = .ok (.idiv, 1) := by decide +kernel
theorem d_Pl_listChain_19 : decode cb_Pl_listChain 19 = .ok (.istore 4, 2) := by decide +kernel
theorem d_Pl_listChain_21 : decode cb_Pl_listChain 21 = .ok (.iload_n 2, 1) := by decide +kernel
theorem d_Pl_listChain_22 : decode cb_Pl_listChain 22 = .ok (.istore 5, 2) := by decide +kernel
theorem d_Pl_listChain_24 : decode cb_Pl_listChain 24 = .ok (.iload_n 1, 1) := by decide +kernel
theorem d_Pl_listChain_25 : decode cb_Pl_listChain 25 = .ok (.istore 6, 2) := by decide +kernel
theorem d_Pl_listChain_27 : decode cb_Pl_listChain 27 = .ok (.iconst 0, 1) := by decide +kernel
theorem d_Pl_listChain_28 : decode cb_Pl_listChain 28 = .ok (.istore 7, 2) := by decide +kernel
theorem d_Pl_listChain_30 : decode cb_Pl_listChain 30 = .ok (.iload 7, 2) := by decide +kernel
theorem d_Pl_listChain_32 : decode cb_Pl_listChain 32 = .ok (.aload_n 0, 1) := by decide +kernel
theorem d_Pl_listChain_33 : decode cb_Pl_listChain 33 = .ok (.getfield 40, 3) := by decide +kernel
theorem d_Pl_listChain_36 : decode cb_Pl_listChain 36 = .ok (.getfield 136, 3) := by decide +kernel
theorem d_Pl_listChain_39 : decode cb_Pl_listChain 39 = .ok (.if_icmp .ge 99, 3) := by decide +kernel
theorem d_Pl_listChain_42 : decode cb_Pl_listChain 42 = .ok (.aload_n 0, 1) := by decide +kernel
theorem d_Pl_listChain_43 : decode cb_Pl_listChain 43 = .ok (.getfield 40, 3) := by decide +kernel
theorem d_Pl_listChain_46 : decode cb_Pl_listChain 46 = .ok (.iload 6, 2) := by decide +kernel
theorem d_Pl_listChain_48 : decode cb_Pl_listChain 48 = .ok (.invokevirtual 240, 3) := by decide +kernel
theorem d_Pl_listChain_51 : decode cb_Pl_listChain 51 = .ok (.ifCond .eq 87, 3) := by decide +kernel
theorem d_Pl_listChain_54 : decode cb_Pl_listChain 54 = .ok (.aload_n 0, 1) := by decide +kernel
theorem d_Pl_listChain_55 : decode cb_Pl_listChain 55 = .ok (.getfield 40, 3) := by decide +kernel
theorem d_Pl_listChain_58 : decode cb_Pl_listChain 58 = .ok (.iload 6, 2) := by decide +kernel
theorem d_Pl_listChain_60 : decode cb_Pl_listChain 60 = .ok (.invokevirtual 243, 3) := by decide +kernel
theorem d_Pl_listChain_63 : decode cb_Pl_listChain 63 = .ok (.ifCond .eq 15, 3) := by decide +kernel
theorem d_Pl_listChain_66 : decode cb_Pl_listChain 66 = .ok (.aload_n 0, 1) := by decide +kernel
theorem d_Pl_listChain_67 : decode cb_Pl_listChain 67 = .ok (.getfield 40, 3) := by decide +kernel
theorem d_Pl_listChain_70 : decode cb_Pl_listChain 70 = .ok (.iload 6, 2) := by decide +kernel
theorem d_Pl_listChain_72 : decode cb_Pl_listChain 72 = .ok (.invokevirtual 243, 3) := by decide +kernel
theorem d_Pl_listChain_75 : decode cb_Pl_listChain 75 = .ok (.goto 5, 3) := by decide +kernel
theorem d_Pl_listChain_78 : decode cb_Pl_listChain 78 = .ok (.iload 6, 2) := by decide +kernel
theorem d_Pl_listChain_80 : decode cb_Pl_listChain 80 = .ok (.istore 8, 2) := by decide +kernel
theorem d_Pl_listChain_82 : decode cb_Pl_listChain 82 = .ok (.iconst 0, 1) := by decide +kernel
theorem d_Pl_listChain_83 : decode cb_Pl_listChain 83 = .ok (.istore 9, 2) := by decide +kernel
theorem d_Pl_listChain_85 : decode cb_Pl_listChain 85 = .ok (.iload 9, 2) := by decide +kernel
theorem d_Pl_listChain_87 : decode cb_Pl_listChain 87 = .ok (.iload_n 3, 1) := by decide +kernel
theorem d_Pl_listChain_88 : decode cb_Pl_listChain 88 = .ok (.if_icmp .ge 33, 3) := by decide +kernel
theorem d_Pl_listChain_91 : decode cb_Pl_listChain 91 = .ok (.iload 5, 2) := by decide +kernel
theorem d_Pl_listChain_93 : decode cb_Pl_listChain 93 = .ok (.ifCond .le 28, 3) := by decide +kernel
theorem d_Pl_listChain_96 : decode cb_Pl_listChain 96 = .ok (.aload_n 0, 1) := by decide +kernel
theorem d_Pl_listChain_97 : decode cb_Pl_listChain 97 = .ok (.iload 4, 2) := by decide +kernel
theorem d_Pl_listChain_99 : decode cb_Pl_listChain 99 = .ok (.iload 8, 2) := by decide +kernel
theorem d_Pl_listChain_101 : decode cb_Pl_listChain 101 = .ok (.iconst 2, 1) := by decide +kernel
theorem d_Pl_listChain_102 : decode cb_Pl_listChain 102 = .ok (.isub, 1) := by decide +kernel
theorem d_Pl_listChain_103 : decode cb_Pl_listChain 103 = .ok (.iload_n 3, 1) := by decide +kernel
theorem d_Pl_listChain_104 : decode cb_Pl_listChain 104 = .ok (.imul, 1) := by decide +kernel
theorem d_Pl_listChain_105 : decode cb_Pl_listChain 105 = .ok (.iadd, 1) := by decide +kernel
theorem d_Pl_listChain_106 : decode cb_Pl_listChain 106 = .ok (.iload 9, 2) := by decide +kernel
theorem d_Pl_listChain_108 : decode cb_Pl_listChain 108 = .ok (.iadd, 1) := by decide +kernel
theorem d_Pl_listChain_109 : decode cb_Pl_listChain 109 = .ok (.invokevirtual 231, 3) := by decide +kernel
theorem d_Pl_listChain_112 : decode cb_Pl_listChain 112 = .ok (.iinc 5 (-1), 3) := by decide +kernel
theorem d_Pl_listChain_115 : decode cb_Pl_listChain 115 = .ok (.iinc 9 1, 3) := by decide +kernel
theorem d_Pl_listChain_118 : decode cb_Pl_listChain 118 = .ok (.goto (-33), 3) := by decide +kernel
theorem d_Pl_listChain_121 : decode cb_Pl_listChain 121 = .ok (.aload_n 0, 1) := by decide +kernel
theorem d_Pl_listChain_122 : decode cb_Pl_listChain 122 = .ok (.getfield 40, 3) := by decide +kernel
theorem d_Pl_listChain_125 : decode cb_Pl_listChain 125 = .ok (.iload 6, 2) := by decide +kernel
theorem d_Pl_listChain_127 : decode cb_Pl_listChain 127 = .ok (.invokevirtual 240, 3) := by decide +kernel
theorem d_Pl_listChain_130 : decode cb_Pl_listChain 130 = .ok (.istore 6, 2) := by decide +kernel
theorem d_Pl_listChain_132 : decode cb_Pl_listChain 132 = .ok (.iinc 7 1, 3) := by decide +kernel
theorem d_Pl_listChain_135 : decode cb_Pl_listChain 135 = .ok (.goto (-105), 3) := by decide +kernel
theorem d_Pl_listChain_138 : decode cb_Pl_listChain 138 = .ok (.return_, 1) := by decide +kernel
theorem d_Pl_firstIndirect_0 : decode cb_Pl_firstIndirect 0 = .ok (.iload_n 1, 1) := by decide +kernel
theorem d_Pl_firstIndirect_1 : decode cb_Pl_firstIndirect 1 = .ok (.iconst (-1), 1) := by decide +kernel
theorem d_Pl_firstIndirect_2 : decode cb_Pl_firstIndirect 2 = .ok (.if_icmp .ne 5, 3) := by decide +kernel
theorem d_Pl_firstIndirect_5 : decode cb_Pl_firstIndirect 5 = .ok (.iconst 3, 1) := by decide +kernel
theorem d_Pl_firstIndirect_6 : decode cb_Pl_firstIndirect 6 = .ok (.ireturn, 1) := by decide +kernel
theorem d_Pl_firstIndirect_7 : decode cb_Pl_firstIndirect 7 = .ok (.aload_n 0, 1) := by decide +kernel
theorem d_Pl_firstIndirect_8 : decode cb_Pl_firstIndirect 8 = .ok (.getfield 44, 3) := by decide +kernel
theorem d_Pl_firstIndirect_11 : decode cb_Pl_firstIndirect 11 = .ok (.iload_n 1, 1) := by decide +kernel
theorem d_Pl_firstIndirect_12 : decode cb_Pl_firstIndirect 12 = .ok (.invokevirtual 188, 3) := by decide +kernel
theorem d_Pl_firstIndirect_15 : decode cb_Pl_firstIndirect 15 = .ok (.ifCond .eq 19, 3) := by decide +kernel
theorem d_Pl_firstIndirect_18 : decode cb_Pl_firstIndirect 18 = .ok (.aload_n 0, 1) := by decide +kernel
theorem d_Pl_firstIndirect_19 : decode cb_Pl_firstIndirect 19 = .ok (.getfield 44, 3) := by decide +kernel
theorem d_Pl_firstIndirect_22 : decode cb_Pl_firstIndirect 22 = .ok (.iload_n 1, 1) := by decide +kernel
theorem d_Pl_firstIndirect_23 : decode cb_Pl_firstIndirect 23 = .ok (.invokevirtual 225, 3) := by decide +kernel
theorem d_Pl_firstIndirect_26 : decode cb_Pl_firstIndirect 26 = .ok (.aload_n 0, 1) := by decide +kernel
theorem d_Pl_firstIndirect_27 : decode cb_Pl_firstIndirect 27 = .ok (.getfield 15, 3) := by decide +kernel
theorem d_Pl_firstIndirect_30 : decode cb_Pl_firstIndirect 30 = .ok (.iadd, 1) := by decide +kernel
theorem d_Pl_firstIndirect_31 : decode cb_Pl_firstIndirect 31 = .ok (.goto 11, 3) := by decide +kernel
theorem d_Pl_firstIndirect_34 : decode cb_Pl_firstIndirect 34 = .ok (.aload_n 0, 1) := by decide +kernel
theorem d_Pl_firstIndirect_35 : decode cb_Pl_firstIndirect 35 = .ok (.getfield 44, 3) := by decide +kernel
theorem d_Pl_firstIndirect_38 : decode cb_Pl_firstIndirect 38 = .ok (.iload_n 1, 1) := by decide +kernel
theorem d_Pl_firstIndirect_39 : decode cb_Pl_firstIndirect 39 = .ok (.invokevirtual 225, 3) := by decide +kernel
theorem d_Pl_firstIndirect_42 : decode cb_Pl_firstIndirect 42 = .ok (.ireturn, 1) := by decide +kernel
theorem d_Pl_markUsed_0 : decode cb_Pl_markUsed 0 = .ok (.iconst 0, 1) := by decide +kernel
theorem d_Pl_markUsed_1 : decode cb_Pl_markUsed 1 = .ok (.istore_n 1, 1) := by decide +kernel
theorem d_Pl_markUsed_2 : decode cb_Pl_markUsed 2 = .ok (.iload_n 1, 1) := by decide +kernel
theorem d_Pl_markUsed_3 : decode cb_Pl_markUsed 3 = .ok (.aload_n 0, 1) := by decide +kernel
theorem d_Pl_markUsed_4 : decode cb_Pl_markUsed 4 = .ok (.getfield 53, 3) := by decide +kernel
theorem d_Pl_markUsed_7 : decode cb_Pl_markUsed 7 = .ok (.if_icmp .ge 21, 3) := by decide +kernel
theorem d_Pl_markUsed_10 : decode cb_Pl_markUsed 10 = .ok (.aload_n 0, 1) := by decide +kernel
theorem d_Pl_markUsed_11 : decode cb_Pl_markUsed 11 = .ok (.getfield 60, 3) := by decide +kernel
theorem d_Pl_markUsed_14 : decode cb_Pl_markUsed 14 = .ok (.iload_n 1, 1) := by decide +kernel
theorem d_Pl_markUsed_15 : decode cb_Pl_markUsed 15 = .ok (.aload_n 0, 1) := by decide +kernel
theorem d_Pl_markUsed_16 : decode cb_Pl_markUsed 16 = .ok (.getfield 56, 3) := by decide +kernel
theorem d_Pl_markUsed_19 : decode cb_Pl_markUsed 19 = .ok (.iload_n 1, 1) := by decide +kernel
theorem d_Pl_markUsed_20 : decode cb_Pl_markUsed 20 = .ok (.baload, 1) := by decide +kernel
theorem d_Pl_markUsed_21 : decode cb_Pl_markUsed 21 = .ok (.bastore, 1) := by decide +kernel
theorem d_Pl_markUsed_22 : decode cb_Pl_markUsed 22 = .ok (.iinc 1 1, 3) := by decide +kernel
theorem d_Pl_markUsed_25 : decode cb_Pl_markUsed 25 = .ok (.goto (-23), 3) := by decide +kernel
theorem d_Pl_markUsed_28 : decode cb_Pl_markUsed 28 = .ok (.iconst (-1), 1) := by decide +kernel
theorem d_Pl_markUsed_29 : decode cb_Pl_markUsed 29 = .ok (.istore_n 1, 1) := by decide +kernel
theorem d_Pl_markUsed_30 : decode cb_Pl_markUsed 30 = .ok (.iload_n 1, 1) := by decide +kernel
theorem d_Pl_markUsed_31 : decode cb_Pl_markUsed 31 = .ok (.aload_n 0, 1) := by decide +kernel
theorem d_Pl_markUsed_32 : decode cb_Pl_markUsed 32 = .ok (.getfield 44, 3) := by decide +kernel
theorem d_Pl_markUsed_35 : decode cb_Pl_markUsed 35 = .ok (.getfield 111, 3) := by decide +kernel
theorem d_Pl_markUsed_38 : decode cb_Pl_markUsed 38 = .ok (.if_icmp .ge 76, 3) := by decide +kernel
theorem d_Pl_markUsed_41 : decode cb_Pl_markUsed 41 = .ok (.aload_n 0, 1) := by decide +kernel
theorem d_Pl_markUsed_42 : decode cb_Pl_markUsed 42 = .ok (.iload_n 1, 1) := by decide +kernel
theorem d_Pl_markUsed_43 : decode cb_Pl_markUsed 43 = .ok (.invokevirtual 182, 3) := by decide +kernel
theorem d_Pl_markUsed_46 : decode cb_Pl_markUsed 46 = .ok (.iconst 0, 1) := by decide +kernel
theorem d_Pl_markUsed_47 : decode cb_Pl_markUsed 47 = .ok (.istore_n 2, 1) := by decide +kernel
theorem d_Pl_markUsed_48 : decode cb_Pl_markUsed 48 = .ok (.iload_n 2, 1) := by decide +kernel
theorem d_Pl_markUsed_49 : decode cb_Pl_markUsed 49 = .ok (.aload_n 0, 1) := by decide +kernel
theorem d_Pl_markUsed_50 : decode cb_Pl_markUsed 50 = .ok (.getfield 15, 3) := by decide +kernel
theorem d_Pl_markUsed_53 : decode cb_Pl_markUsed 53 = .ok (.if_icmp .ge 19, 3) := by decide +kernel
theorem d_Pl_markUsed_56 : decode cb_Pl_markUsed 56 = .ok (.aload_n 0, 1) := by decide +kernel
theorem d_Pl_markUsed_57 : decode cb_Pl_markUsed 57 = .ok (.aload_n 0, 1) := by decide +kernel
theorem d_Pl_markUsed_58 : decode cb_Pl_markUsed 58 = .ok (.getfield 76, 3) := by decide +kernel
theorem d_Pl_markUsed_61 : decode cb_Pl_markUsed 61 = .ok (.iload_n 2, 1) := by decide +kernel
theorem d_Pl_markUsed_62 : decode cb_Pl_markUsed 62 = .ok (.iaload, 1) := by decide +kernel
theorem d_Pl_markUsed_63 : decode cb_Pl_markUsed 63 = .ok (.invokevirtual 246, 3) := by decide +kernel
theorem d_Pl_markUsed_66 : decode cb_Pl_markUsed 66 = .ok (.iinc 2 1, 3) := by decide +kernel
theorem d_Pl_markUsed_69 : decode cb_Pl_markUsed 69 = .ok (.goto (-21), 3) := by decide +kernel
theorem d_Pl_markUsed_72 : decode cb_Pl_markUsed 72 = .ok (.aload_n 0, 1) := by decide +kernel
theorem d_Pl_markUsed_73 : decode cb_Pl_markUsed 73 = .ok (.getfield 15, 3) := by decide +kernel
theorem d_Pl_markUsed_76 : decode cb_Pl_markUsed 76 = .ok (.invokestatic 185, 3) := by decide +kernel
theorem d_Pl_markUsed_79 : decode cb_Pl_markUsed 79 = .ok (.istore_n 2, 1) := by decide +kernel
theorem d_Pl_markUsed_80 : decode cb_Pl_markUsed 80 = .ok (.iconst 0, 1) := by decide +kernel
theorem d_Pl_markUsed_81 : decode cb_Pl_markUsed 81 = .ok (.istore_n 3, 1) := by decide +kernel
theorem d_Pl_markUsed_82 : decode cb_Pl_markUsed 82 = .ok (.iload_n 3, 1) := by decide +kernel
theorem d_Pl_markUsed_83 : decode cb_Pl_markUsed 83 = .ok (.iload_n 2, 1) := by decide +kernel
theorem d_Pl_markUsed_84 : decode cb_Pl_markUsed 84 = .ok (.if_icmp .ge 24, 3) := by decide +kernel
theorem d_Pl_markUsed_87 : decode cb_Pl_markUsed 87 = .ok (.aload_n 0, 1) := by decide +kernel
theorem d_Pl_markUsed_88 : decode cb_Pl_markUsed 88 = .ok (.aload_n 0, 1) := by decide +kernel
theorem d_Pl_markUsed_89 : decode cb_Pl_markUsed 89 = .ok (.aload_n 0, 1) := by decide +kernel
theorem d_Pl_markUsed_90 : decode cb_Pl_markUsed 90 = .ok (.iload_n 1, 1) := by decide +kernel
theorem d_Pl_markUsed_91 : decode cb_Pl_markUsed 91 = .ok (.invokevirtual 249, 3) := by decide +kernel
theorem d_Pl_markUsed_94 : decode cb_Pl_markUsed 94 = .ok (.iload_n 3, 1) := by decide +kernel
theorem d_Pl_markUsed_95 : decode cb_Pl_markUsed 95 = .ok (.iadd, 1) := by decide +kernel
theorem d_Pl_markUsed_96 : decode cb_Pl_markUsed 96 = .ok (.invokevirtual 228, 3) := by decide +kernel
theorem d_Pl_markUsed_99 : decode cb_Pl_markUsed 99 = .ok (.invokevirtual 246, 3) := by decide +kernel
theorem d_Pl_markUsed_102 : decode cb_Pl_markUsed 102 = .ok (.iinc 3 1, 3) := by decide +kernel
theorem d_Pl_markUsed_105 : decode cb_Pl_markUsed 105 = .ok (.goto (-23), 3) := by decide +kernel
theorem d_Pl_markUsed_108 : decode cb_Pl_markUsed 108 = .ok (.iinc 1 1, 3) := by decide +kernel
theorem d_Pl_markUsed_111 : decode cb_Pl_markUsed 111 = .ok (.goto (-81), 3) := by decide +kernel
theorem d_Pl_markUsed_114 : decode cb_Pl_markUsed 114 = .ok (.aload_n 0, 1) := by decide +kernel
theorem d_Pl_markUsed_115 : decode cb_Pl_markUsed 115 = .ok (.iconst 0, 1) := by decide +kernel
theorem d_Pl_markUsed_116 : decode cb_Pl_markUsed 116 = .ok (.putfield 33, 3) := by decide +kernel
theorem d_Pl_markUsed_119 : decode cb_Pl_markUsed 119 = .ok (.iconst 0, 1) := by decide +kernel
theorem d_Pl_markUsed_120 : decode cb_Pl_markUsed 120 = .ok (.istore_n 1, 1) := by decide +kernel
theorem d_Pl_markUsed_121 : decode cb_Pl_markUsed 121 = .ok (.iload_n 1, 1) := by decide +kernel
theorem d_Pl_markUsed_122 : decode cb_Pl_markUsed 122 = .ok (.aload_n 0, 1) := by decide +kernel
theorem d_Pl_markUsed_123 : decode cb_Pl_markUsed 123 = .ok (.getfield 21, 3) := by decide +kernel
theorem d_Pl_markUsed_126 : decode cb_Pl_markUsed 126 = .ok (.if_icmp .ge 23, 3) := by decide +kernel
theorem d_Pl_markUsed_129 : decode cb_Pl_markUsed 129 = .ok (.aload_n 0, 1) := by decide +kernel
theorem d_Pl_markUsed_130 : decode cb_Pl_markUsed 130 = .ok (.dup, 1) := by decide +kernel
theorem d_Pl_markUsed_131 : decode cb_Pl_markUsed 131 = .ok (.getfield 33, 3) := by decide +kernel
theorem d_Pl_markUsed_134 : decode cb_Pl_markUsed 134 = .ok (.aload_n 0, 1) := by decide +kernel
theorem d_Pl_markUsed_135 : decode cb_Pl_markUsed 135 = .ok (.iload_n 1, 1) := by decide +kernel
theorem d_Pl_markUsed_136 : decode cb_Pl_markUsed 136 = .ok (.invokevirtual 252, 3) := by decide +kernel
theorem d_Pl_markUsed_139 : decode cb_Pl_markUsed 139 = .ok (.iadd, 1) := by decide +kernel
theorem d_Pl_markUsed_140 : decode cb_Pl_markUsed 140 = .ok (.putfield 33, 3) := by decide +kernel
theorem d_Pl_markUsed_143 : decode cb_Pl_markUsed 143 = .ok (.iinc 1 1, 3) := by decide +kernel
theorem d_Pl_markUsed_146 : decode cb_Pl_markUsed 146 = .ok (.goto (-25), 3) := by decide +kernel
theorem d_Pl_markUsed_149 : decode cb_Pl_markUsed 149 = .ok (.return_, 1) := by decide +kernel
theorem d_Pl_freeBlocks_0 : decode cb_Pl_freeBlocks 0 = .ok (.iconst 0, 1) := by decide +kernel
theorem d_Pl_freeBlocks_1 : decode cb_Pl_freeBlocks 1 = .ok (.istore_n 2, 1) := by decide +kernel
theorem d_Pl_freeBlocks_2 : decode cb_Pl_freeBlocks 2 = .ok (.iconst 0, 1) := by decide +kernel
theorem d_Pl_freeBlocks_3 : decode cb_Pl_freeBlocks 3 = .ok (.istore_n 3, 1) := by decide +kernel
theorem d_Pl_freeBlocks_4 : decode cb_Pl_freeBlocks 4 = .ok (.iload_n 3, 1) := by decide +kernel
theorem d_Pl_freeBlocks_5 : decode cb_Pl_freeBlocks 5 = .ok (.aload_n 0, 1) := by decide +kernel
theorem d_Pl_freeBlocks_6 : decode cb_Pl_freeBlocks 6 = .ok (.iload_n 1, 1) := by decide +kernel
theorem d_Pl_freeBlocks_7 : decode cb_Pl_freeBlocks 7 = .ok (.invokevirtual 126, 3) := by decide +kernel
theorem d_Pl_freeBlocks_10 : decode cb_Pl_freeBlocks 10 = .ok (.if_icmp .ge 31, 3) := by decide +kernel
theorem d_Pl_freeBlocks_13 : decode cb_Pl_freeBlocks 13 = .ok (.iload_n 2, 1) := by decide +kernel
theorem d_Pl_freeBlocks_14 : decode cb_Pl_freeBlocks 14 = .ok (.aload_n 0, 1) := by decide +kernel
theorem d_Pl_freeBlocks_15 : decode cb_Pl_freeBlocks 15 = .ok (.aload_n 0, 1) := by decide +kernel
theorem d_Pl_freeBlocks_16 : decode cb_Pl_freeBlocks 16 = .ok (.iload_n 1, 1) := by decide +kernel
theorem d_Pl_freeBlocks_17 : decode cb_Pl_freeBlocks 17 = .ok (.invokevirtual 116, 3) := by decide +kernel
theorem d_Pl_freeBlocks_20 : decode cb_Pl_freeBlocks 20 = .ok (.iload_n 3, 1) := by decide +kernel
theorem d_Pl_freeBlocks_21 : decode cb_Pl_freeBlocks 21 = .ok (.iadd, 1) := by decide +kernel
theorem d_Pl_freeBlocks_22 : decode cb_Pl_freeBlocks 22 = .ok (.invokevirtual 255, 3) := by decide +kernel
theorem d_Pl_freeBlocks_25 : decode cb_Pl_freeBlocks 25 = .ok (.ifCond .eq 7, 3) := by decide +kernel
theorem d_Pl_freeBlocks_28 : decode cb_Pl_freeBlocks 28 = .ok (.iconst 0, 1) := by decide +kernel
theorem d_Pl_freeBlocks_29 : decode cb_Pl_freeBlocks 29 = .ok (.goto 4, 3) := by decide +kernel
theorem d_Pl_freeBlocks_32 : decode cb_Pl_freeBlocks 32 = .ok (.iconst 1, 1) := by decide +kernel
theorem d_Pl_freeBlocks_33 : decode cb_Pl_freeBlocks 33 = .ok (.iadd, 1) := by decide +kernel
theorem d_Pl_freeBlocks_34 : decode cb_Pl_freeBlocks 34 = .ok (.istore_n 2, 1) := by decide +kernel
theorem d_Pl_freeBlocks_35 : decode cb_Pl_freeBlocks 35 = .ok (.iinc 3 1, 3) := by decide +kernel
theorem d_Pl_freeBlocks_38 : decode cb_Pl_freeBlocks 38 = .ok (.goto (-34), 3) := by decide +kernel
theorem d_Pl_freeBlocks_41 : decode cb_Pl_freeBlocks 41 = .ok (.iload_n 2, 1) := by decide +kernel
theorem d_Pl_freeBlocks_42 : decode cb_Pl_freeBlocks 42 = .ok (.ireturn, 1) := by decide +kernel
theorem d_Tu_turn_0 : decode cb_Tu_turn 0 = .ok (.iload_n 1, 1) := by decide +kernel
theorem d_Tu_turn_1 : decode cb_Tu_turn 1 = .ok (.iconst 1, 1) := by decide +kernel
theorem d_Tu_turn_2 : decode cb_Tu_turn 2 = .ok (.if_icmp .ne 9, 3) := by decide +kernel
theorem d_Tu_turn_5 : decode cb_Tu_turn 5 = .ok (.aload_n 0, 1) := by decide +kernel
theorem d_Tu_turn_6 : decode cb_Tu_turn 6 = .ok (.invokevirtual 39, 3) := by decide +kernel
theorem d_Tu_turn_9 : decode cb_Tu_turn 9 = .ok (.iconst 0, 1) := by decide +kernel
theorem d_Tu_turn_10 : decode cb_Tu_turn 10 = .ok (.ireturn, 1) := by decide +kernel
theorem d_Tu_turn_11 : decode cb_Tu_turn 11 = .ok (.aload_n 0, 1) := by decide +kernel
theorem d_Tu_turn_12 : decode cb_Tu_turn 12 = .ok (.getfield 35, 3) := by decide +kernel
theorem d_Tu_turn_15 : decode cb_Tu_turn 15 = .ok (.invokevirtual 42, 3) := by decide +kernel
theorem d_Tu_turn_18 : decode cb_Tu_turn 18 = .ok (.ifCond .eq 5, 3) := by decide +kernel
theorem d_Tu_turn_21 : decode cb_Tu_turn 21 = .ok (.iconst 0, 1) := by decide +kernel
theorem d_Tu_turn_22 : decode cb_Tu_turn 22 = .ok (.ireturn, 1) := by decide +kernel
theorem d_Tu_turn_23 : decode cb_Tu_turn 23 = .ok (.aload_n 0, 1) := by decide +kernel
theorem d_Tu_turn_24 : decode cb_Tu_turn 24 = .ok (.getfield 35, 3) := by decide +kernel
theorem d_Tu_turn_27 : decode cb_Tu_turn 27 = .ok (.invokevirtual 48, 3) := by decide +kernel
theorem d_Tu_turn_30 : decode cb_Tu_turn 30 = .ok (.ifCond .ne 30, 3) := by decide +kernel
theorem d_Tu_turn_33 : decode cb_Tu_turn 33 = .ok (.aload_n 0, 1) := by decide +kernel
theorem d_Tu_turn_34 : decode cb_Tu_turn 34 = .ok (.getfield 31, 3) := by decide +kernel
theorem d_Tu_turn_37 : decode cb_Tu_turn 37 = .ok (.iload_n 2, 1) := by decide +kernel
theorem d_Tu_turn_38 : decode cb_Tu_turn 38 = .ok (.aload_n 0, 1) := by decide +kernel
theorem d_Tu_turn_39 : decode cb_Tu_turn 39 = .ok (.getfield 27, 3) := by decide +kernel
theorem d_Tu_turn_42 : decode cb_Tu_turn 42 = .ok (.iconst 0, 1) := by decide +kernel
theorem d_Tu_turn_43 : decode cb_Tu_turn 43 = .ok (.invokevirtual 51, 3) := by decide +kernel
theorem d_Tu_turn_46 : decode cb_Tu_turn 46 = .ok (.invokevirtual 57, 3) := by decide +kernel
theorem d_Tu_turn_49 : decode cb_Tu_turn 49 = .ok (.istore_n 3, 1) := by decide +kernel
theorem d_Tu_turn_50 : decode cb_Tu_turn 50 = .ok (.iload_n 3, 1) := by decide +kernel
theorem d_Tu_turn_51 : decode cb_Tu_turn 51 = .ok (.ifCond .eq 5, 3) := by decide +kernel
theorem d_Tu_turn_54 : decode cb_Tu_turn 54 = .ok (.iload_n 3, 1) := by decide +kernel
theorem d_Tu_turn_55 : decode cb_Tu_turn 55 = .ok (.ireturn, 1) := by decide +kernel
theorem d_Tu_turn_56 : decode cb_Tu_turn 56 = .ok (.aload_n 0, 1) := by decide +kernel
theorem d_Tu_turn_57 : decode cb_Tu_turn 57 = .ok (.invokevirtual 63, 3) := by decide +kernel
theorem d_Tu_turn_60 : decode cb_Tu_turn 60 = .ok (.aload_n 0, 1) := by decide +kernel
theorem d_Tu_turn_61 : decode cb_Tu_turn 61 = .ok (.getfield 15, 3) := by decide +kernel
theorem d_Tu_turn_64 : decode cb_Tu_turn 64 = .ok (.invokevirtual 66, 3) := by decide +kernel
theorem d_Tu_turn_67 : decode cb_Tu_turn 67 = .ok (.ifCond .eq 42, 3) := by decide +kernel
theorem d_Tu_turn_70 : decode cb_Tu_turn 70 = .ok (.aload_n 0, 1) := by decide +kernel
theorem d_Tu_turn_71 : decode cb_Tu_turn 71 = .ok (.invokevirtual 71, 3) := by decide +kernel
theorem d_Tu_turn_74 : decode cb_Tu_turn 74 = .ok (.ifCond .eq 35, 3) := by decide +kernel
theorem d_Tu_turn_77 : decode cb_Tu_turn 77 = .ok (.aload_n 0, 1) := by decide +kernel
theorem d_Tu_turn_78 : decode cb_Tu_turn 78 = .ok (.getfield 27, 3) := by decide +kernel
theorem d_Tu_turn_81 : decode cb_Tu_turn 81 = .ok (.iconst 1, 1) := by decide +kernel
theorem d_Tu_turn_82 : decode cb_Tu_turn 82 = .ok (.invokevirtual 51, 3) := by decide +kernel
theorem d_Tu_turn_85 : decode cb_Tu_turn 85 = .ok (.ifCond .ne 24, 3) := by decide +kernel
theorem d_Tu_turn_88 : decode cb_Tu_turn 88 = .ok (.aload_n 0, 1) := by decide +kernel
theorem d_Tu_turn_89 : decode cb_Tu_turn 89 = .ok (.getfield 31, 3) := by decide +kernel
theorem d_Tu_turn_92 : decode cb_Tu_turn 92 = .ok (.invokevirtual 74, 3) := by decide +kernel
theorem d_Tu_turn_95 : decode cb_Tu_turn 95 = .ok (.ifCond .eq 14, 3) := by decide +kernel
theorem d_Tu_turn_98 : decode cb_Tu_turn 98 = .ok (.aload_n 0, 1) := by decide +kernel
theorem d_Tu_turn_99 : decode cb_Tu_turn 99 = .ok (.getfield 31, 3) := by decide +kernel
theorem d_Tu_turn_102 : decode cb_Tu_turn 102 = .ok (.invokevirtual 77, 3) := by decide +kernel
theorem d_Tu_turn_105 : decode cb_Tu_turn 105 = .ok (.aload_n 0, 1) := by decide +kernel
theorem d_Tu_turn_106 : decode cb_Tu_turn 106 = .ok (.invokevirtual 80, 3) := by decide +kernel
theorem d_Tu_turn_109 : decode cb_Tu_turn 109 = .ok (.iconst 0, 1) := by decide +kernel
theorem d_Tu_turn_110 : decode cb_Tu_turn 110 = .ok (.ireturn, 1) := by decide +kernel
theorem d_Tu_recall_0 : decode cb_Tu_recall 0 = .ok (.aload_n 0, 1) := by decide +kernel
theorem d_Tu_recall_1 : decode cb_Tu_recall 1 = .ok (.getfield 35, 3) := by decide +kernel
theorem d_Tu_recall_4 : decode cb_Tu_recall 4 = .ok (.invokevirtual 48, 3) := by decide +kernel
theorem d_Tu_recall_7 : decode cb_Tu_recall 7 = .ok (.ifCond .eq 31, 3) := by decide +kernel
theorem d_Tu_recall_10 : decode cb_Tu_recall 10 = .ok (.aload_n 0, 1) := by decide +kernel
theorem d_Tu_recall_11 : decode cb_Tu_recall 11 = .ok (.getfield 31, 3) := by decide +kernel
theorem d_Tu_recall_14 : decode cb_Tu_recall 14 = .ok (.aload_n 0, 1) := by decide +kernel
theorem d_Tu_recall_15 : decode cb_Tu_recall 15 = .ok (.getfield 35, 3) := by decide +kernel
theorem d_Tu_recall_18 : decode cb_Tu_recall 18 = .ok (.invokevirtual 83, 3) := by decide +kernel
theorem d_Tu_recall_21 : decode cb_Tu_recall 21 = .ok (.aload_n 0, 1) := by decide +kernel
theorem d_Tu_recall_22 : decode cb_Tu_recall 22 = .ok (.getfield 35, 3) := by decide +kernel
theorem d_Tu_recall_25 : decode cb_Tu_recall 25 = .ok (.invokevirtual 87, 3) := by decide +kernel
theorem d_Tu_recall_28 : decode cb_Tu_recall 28 = .ok (.invokevirtual 90, 3) := by decide +kernel
theorem d_Tu_recall_31 : decode cb_Tu_recall 31 = .ok (.ifCond .eq 7, 3) := by decide +kernel
theorem d_Tu_recall_34 : decode cb_Tu_recall 34 = .ok (.iconst 1, 1) := by decide +kernel
theorem d_Tu_recall_35 : decode cb_Tu_recall 35 = .ok (.goto 4, 3) := by decide +kernel
theorem d_Tu_recall_38 : decode cb_Tu_recall 38 = .ok (.iconst 0, 1) := by decide +kernel
theorem d_Tu_recall_39 : decode cb_Tu_recall 39 = .ok (.ireturn, 1) := by decide +kernel
theorem d_Tu_goBack_0 : decode cb_Tu_goBack 0 = .ok (.aload_n 0, 1) := by decide +kernel
theorem d_Tu_goBack_1 : decode cb_Tu_goBack 1 = .ok (.invokevirtual 71, 3) := by decide +kernel
theorem d_Tu_goBack_4 : decode cb_Tu_goBack 4 = .ok (.ifCond .ne 4, 3) := by decide +kernel
theorem d_Tu_goBack_7 : decode cb_Tu_goBack 7 = .ok (.return_, 1) := by decide +kernel
theorem d_Tu_goBack_8 : decode cb_Tu_goBack 8 = .ok (.iconst 2, 1) := by decide +kernel
theorem d_Tu_goBack_9 : decode cb_Tu_goBack 9 = .ok (.aload_n 0, 1) := by decide +kernel
theorem d_Tu_goBack_10 : decode cb_Tu_goBack 10 = .ok (.getfield 31, 3) := by decide +kernel
theorem d_Tu_goBack_13 : decode cb_Tu_goBack 13 = .ok (.iconst 0, 1) := by decide +kernel
theorem d_Tu_goBack_14 : decode cb_Tu_goBack 14 = .ok (.invokevirtual 93, 3) := by decide +kernel
theorem d_Tu_goBack_17 : decode cb_Tu_goBack 17 = .ok (.imul, 1) := by decide +kernel
theorem d_Tu_goBack_18 : decode cb_Tu_goBack 18 = .ok (.istore_n 1, 1) := by decide +kernel
theorem d_Tu_goBack_19 : decode cb_Tu_goBack 19 = .ok (.aload_n 0, 1) := by decide +kernel
theorem d_Tu_goBack_20 : decode cb_Tu_goBack 20 = .ok (.iload_n 1, 1) := by decide +kernel
theorem d_Tu_goBack_21 : decode cb_Tu_goBack 21 = .ok (.iconst 2, 1) := by decide +kernel
theorem d_Tu_goBack_22 : decode cb_Tu_goBack 22 = .ok (.invokevirtual 97, 3) := by decide +kernel
theorem d_Tu_goBack_25 : decode cb_Tu_goBack 25 = .ok (.iconst 2, 1) := by decide +kernel
theorem d_Tu_goBack_26 : decode cb_Tu_goBack 26 = .ok (.istore_n 2, 1) := by decide +kernel
theorem d_Tu_goBack_27 : decode cb_Tu_goBack 27 = .ok (.iload_n 2, 1) := by decide +kernel
theorem d_Tu_goBack_28 : decode cb_Tu_goBack 28 = .ok (.aload_n 0, 1) := by decide +kernel
theorem d_Tu_goBack_29 : decode cb_Tu_goBack 29 = .ok (.getfield 19, 3) := by decide +kernel
theorem d_Tu_goBack_32 : decode cb_Tu_goBack 32 = .ok (.getfield 101, 3) := by decide +kernel
theorem d_Tu_goBack_35 : decode cb_Tu_goBack 35 = .ok (.iconst 2, 1) := by decide +kernel
theorem d_Tu_goBack_36 : decode cb_Tu_goBack 36 = .ok (.iadd, 1) := by decide +kernel
theorem d_Tu_goBack_37 : decode cb_Tu_goBack 37 = .ok (.if_icmp .ge 43, 3) := by decide +kernel
theorem d_Tu_goBack_40 : decode cb_Tu_goBack 40 = .ok (.aload_n 0, 1) := by decide +kernel
theorem d_Tu_goBack_41 : decode cb_Tu_goBack 41 = .ok (.getfield 15, 3) := by decide +kernel
theorem d_Tu_goBack_44 : decode cb_Tu_goBack 44 = .ok (.invokevirtual 66, 3) := by decide +kernel
theorem d_Tu_goBack_47 : decode cb_Tu_goBack 47 = .ok (.ifCond .eq 33, 3) := by decide +kernel
theorem d_Tu_goBack_50 : decode cb_Tu_goBack 50 = .ok (.aload_n 0, 1) := by decide +kernel
theorem d_Tu_goBack_51 : decode cb_Tu_goBack 51 = .ok (.getfield 19, 3) := by decide +kernel
theorem d_Tu_goBack_54 : decode cb_Tu_goBack 54 = .ok (.iload_n 2, 1) := by decide +kernel
theorem d_Tu_goBack_55 : decode cb_Tu_goBack 55 = .ok (.invokevirtual 107, 3) := by decide +kernel
theorem d_Tu_goBack_58 : decode cb_Tu_goBack 58 = .ok (.ifCond .eq 16, 3) := by decide +kernel
theorem d_Tu_goBack_61 : decode cb_Tu_goBack 61 = .ok (.aload_n 0, 1) := by decide +kernel
theorem d_Tu_goBack_62 : decode cb_Tu_goBack 62 = .ok (.aload_n 0, 1) := by decide +kernel
theorem d_Tu_goBack_63 : decode cb_Tu_goBack 63 = .ok (.getfield 19, 3) := by decide +kernel
theorem d_Tu_goBack_66 : decode cb_Tu_goBack 66 = .ok (.iload_n 2, 1) := by decide +kernel
theorem d_Tu_goBack_67 : decode cb_Tu_goBack 67 = .ok (.invokevirtual 107, 3) := by decide +kernel
theorem d_Tu_goBack_70 : decode cb_Tu_goBack 70 = .ok (.iload_n 2, 1) := by decide +kernel
theorem d_Tu_goBack_71 : decode cb_Tu_goBack 71 = .ok (.invokevirtual 110, 3) := by decide +kernel
theorem d_Tu_goBack_74 : decode cb_Tu_goBack 74 = .ok (.iinc 2 1, 3) := by decide +kernel
theorem d_Tu_goBack_77 : decode cb_Tu_goBack 77 = .ok (.goto (-50), 3) := by decide +kernel
theorem d_Tu_goBack_80 : decode cb_Tu_goBack 80 = .ok (.aload_n 0, 1) := by decide +kernel
theorem d_Tu_goBack_81 : decode cb_Tu_goBack 81 = .ok (.iload_n 1, 1) := by decide +kernel
theorem d_Tu_goBack_82 : decode cb_Tu_goBack 82 = .ok (.iconst 1, 1) := by decide +kernel
theorem d_Tu_goBack_83 : decode cb_Tu_goBack 83 = .ok (.iadd, 1) := by decide +kernel
theorem d_Tu_goBack_84 : decode cb_Tu_goBack 84 = .ok (.iconst 3, 1) := by decide +kernel
theorem d_Tu_goBack_85 : decode cb_Tu_goBack 85 = .ok (.invokevirtual 97, 3) := by decide +kernel
theorem d_Tu_goBack_88 : decode cb_Tu_goBack 88 = .ok (.aload_n 0, 1) := by decide +kernel
theorem d_Tu_goBack_89 : decode cb_Tu_goBack 89 = .ok (.iconst 2, 1) := by decide +kernel
theorem d_Tu_goBack_90 : decode cb_Tu_goBack 90 = .ok (.aload_n 0, 1) := by decide +kernel
theorem d_Tu_goBack_91 : decode cb_Tu_goBack 91 = .ok (.getfield 31, 3) := by decide +kernel
theorem d_Tu_goBack_94 : decode cb_Tu_goBack 94 = .ok (.iconst 1, 1) := by decide +kernel
theorem d_Tu_goBack_95 : decode cb_Tu_goBack 95 = .ok (.invokevirtual 93, 3) := by decide +kernel
theorem d_Tu_goBack_98 : decode cb_Tu_goBack 98 = .ok (.imul, 1) := by decide +kernel
theorem d_Tu_goBack_99 : decode cb_Tu_goBack 99 = .ok (.iconst 4, 1) := by decide +kernel
theorem d_Tu_goBack_100 : decode cb_Tu_goBack 100 = .ok (.invokevirtual 97, 3) := by decide +kernel
theorem d_Tu_goBack_103 : decode cb_Tu_goBack 103 = .ok (.aload_n 0, 1) := by decide +kernel
theorem d_Tu_goBack_104 : decode cb_Tu_goBack 104 = .ok (.iconst 2, 1) := by decide +kernel
theorem d_Tu_goBack_105 : decode cb_Tu_goBack 105 = .ok (.aload_n 0, 1) := by decide +kernel
theorem d_Tu_goBack_106 : decode cb_Tu_goBack 106 = .ok (.getfield 31, 3) := by decide +kernel
theorem d_Tu_goBack_109 : decode cb_Tu_goBack 109 = .ok (.iconst 1, 1) := by decide +kernel
theorem d_Tu_goBack_110 : decode cb_Tu_goBack 110 = .ok (.invokevirtual 93, 3) := by decide +kernel
theorem d_Tu_goBack_113 : decode cb_Tu_goBack 113 = .ok (.imul, 1) := by decide +kernel
theorem d_Tu_goBack_114 : decode cb_Tu_goBack 114 = .ok (.iconst 1, 1) := by decide +kernel
theorem d_Tu_goBack_115 : decode cb_Tu_goBack 115 = .ok (.iadd, 1) := by decide +kernel
theorem d_Tu_goBack_116 : decode cb_Tu_goBack 116 = .ok (.iconst 5, 1) := by decide +kernel
theorem d_Tu_goBack_117 : decode cb_Tu_goBack 117 = .ok (.invokevirtual 97, 3) := by decide +kernel
theorem d_Tu_goBack_120 : decode cb_Tu_goBack 120 = .ok (.aload_n 0, 1) := by decide +kernel
theorem d_Tu_goBack_121 : decode cb_Tu_goBack 121 = .ok (.iconst 2, 1) := by decide +kernel
theorem d_Tu_goBack_122 : decode cb_Tu_goBack 122 = .ok (.aload_n 0, 1) := by decide +kernel
theorem d_Tu_goBack_123 : decode cb_Tu_goBack 123 = .ok (.getfield 31, 3) := by decide +kernel
theorem d_Tu_goBack_126 : decode cb_Tu_goBack 126 = .ok (.iconst 2, 1) := by decide +kernel
theorem d_Tu_goBack_127 : decode cb_Tu_goBack 127 = .ok (.invokevirtual 93, 3) := by decide +kernel
theorem d_Tu_goBack_130 : decode cb_Tu_goBack 130 = .ok (.imul, 1) := by decide +kernel
theorem d_Tu_goBack_131 : decode cb_Tu_goBack 131 = .ok (.bipush 7, 2) := by decide +kernel
theorem d_Tu_goBack_133 : decode cb_Tu_goBack 133 = .ok (.invokevirtual 97, 3) := by decide +kernel
theorem d_Tu_goBack_136 : decode cb_Tu_goBack 136 = .ok (.return_, 1) := by decide +kernel
theorem d_Tu_copySector_0 : decode cb_Tu_copySector 0 = .ok (.aload_n 0, 1) := by decide +kernel
theorem d_Tu_copySector_1 : decode cb_Tu_copySector 1 = .ok (.getfield 15, 3) := by decide +kernel
theorem d_Tu_copySector_4 : decode cb_Tu_copySector 4 = .ok (.iload_n 1, 1) := by decide +kernel
theorem d_Tu_copySector_5 : decode cb_Tu_copySector 5 = .ok (.aload_n 0, 1) := by decide +kernel
theorem d_Tu_copySector_6 : decode cb_Tu_copySector 6 = .ok (.getfield 9, 3) := by decide +kernel
theorem d_Tu_copySector_9 : decode cb_Tu_copySector 9 = .ok (.iconst 0, 1) := by decide +kernel
theorem d_Tu_copySector_10 : decode cb_Tu_copySector 10 = .ok (.invokevirtual 113, 3) := by decide +kernel
theorem d_Tu_copySector_13 : decode cb_Tu_copySector 13 = .ok (.aload_n 0, 1) := by decide +kernel
theorem d_Tu_copySector_14 : decode cb_Tu_copySector 14 = .ok (.getfield 15, 3) := by decide +kernel
theorem d_Tu_copySector_17 : decode cb_Tu_copySector 17 = .ok (.iload_n 2, 1) := by decide +kernel
theorem d_Tu_copySector_18 : decode cb_Tu_copySector 18 = .ok (.aload_n 0, 1) := by decide +kernel
theorem d_Tu_copySector_19 : decode cb_Tu_copySector 19 = .ok (.getfield 9, 3) := by decide +kernel
theorem d_Tu_copySector_22 : decode cb_Tu_copySector 22 = .ok (.iconst 0, 1) := by decide +kernel
theorem d_Tu_copySector_23 : decode cb_Tu_copySector 23 = .ok (.invokevirtual 117, 3) := by decide +kernel
theorem d_Tu_copySector_26 : decode cb_Tu_copySector 26 = .ok (.return_, 1) := by decide +kernel
theorem d_Tu_copyCluster_0 : decode cb_Tu_copyCluster 0 = .ok (.iconst 0, 1) := by decide +kernel
theorem d_Tu_copyCluster_1 : decode cb_Tu_copyCluster 1 = .ok (.istore_n 3, 1) := by decide +kernel
theorem d_Tu_copyCluster_2 : decode cb_Tu_copyCluster 2 = .ok (.iload_n 3, 1) := by decide +kernel
theorem d_Tu_copyCluster_3 : decode cb_Tu_copyCluster 3 = .ok (.aload_n 0, 1) := by decide +kernel
theorem d_Tu_copyCluster_4 : decode cb_Tu_copyCluster 4 = .ok (.getfield 19, 3) := by decide +kernel
theorem d_Tu_copyCluster_7 : decode cb_Tu_copyCluster 7 = .ok (.getfield 120, 3) := by decide +kernel
theorem d_Tu_copyCluster_10 : decode cb_Tu_copyCluster 10 = .ok (.if_icmp .ge 55, 3) := by decide +kernel
theorem d_Tu_copyCluster_13 : decode cb_Tu_copyCluster 13 = .ok (.aload_n 0, 1) := by decide +kernel
theorem d_Tu_copyCluster_14 : decode cb_Tu_copyCluster 14 = .ok (.aload_n 0, 1) := by decide +kernel
theorem d_Tu_copyCluster_15 : decode cb_Tu_copyCluster 15 = .ok (.getfield 19, 3) := by decide +kernel
theorem d_Tu_copyCluster_18 : decode cb_Tu_copyCluster 18 = .ok (.getfield 123, 3) := by decide +kernel
theorem d_Tu_copyCluster_21 : decode cb_Tu_copyCluster 21 = .ok (.iload_n 1, 1) := by decide +kernel
theorem d_Tu_copyCluster_22 : decode cb_Tu_copyCluster 22 = .ok (.iconst 2, 1) := by decide +kernel
theorem d_Tu_copyCluster_23 : decode cb_Tu_copyCluster 23 = .ok (.isub, 1) := by decide +kernel
theorem d_Tu_copyCluster_24 : decode cb_Tu_copyCluster 24 = .ok (.aload_n 0, 1) := by decide +kernel
theorem d_Tu_copyCluster_25 : decode cb_Tu_copyCluster 25 = .ok (.getfield 19, 3) := by decide +kernel
theorem d_Tu_copyCluster_28 : decode cb_Tu_copyCluster 28 = .ok (.getfield 120, 3) := by decide +kernel
theorem d_Tu_copyCluster_31 : decode cb_Tu_copyCluster 31 = .ok (.imul, 1) := by decide +kernel
theorem d_Tu_copyCluster_32 : decode cb_Tu_copyCluster 32 = .ok (.iadd, 1) := by decide +kernel
theorem d_Tu_copyCluster_33 : decode cb_Tu_copyCluster 33 = .ok (.iload_n 3, 1) := by decide +kernel
theorem d_Tu_copyCluster_34 : decode cb_Tu_copyCluster 34 = .ok (.iadd, 1) := by decide +kernel
theorem d_Tu_copyCluster_35 : decode cb_Tu_copyCluster 35 = .ok (.aload_n 0, 1) := by decide +kernel
theorem d_Tu_copyCluster_36 : decode cb_Tu_copyCluster 36 = .ok (.getfield 19, 3) := by decide +kernel
theorem d_Tu_copyCluster_39 : decode cb_Tu_copyCluster 39 = .ok (.getfield 123, 3) := by decide +kernel
theorem d_Tu_copyCluster_42 : decode cb_Tu_copyCluster 42 = .ok (.iload_n 2, 1) := by decide +kernel
theorem d_Tu_copyCluster_43 : decode cb_Tu_copyCluster 43 = .ok (.iconst 2, 1) := by decide +kernel
theorem d_Tu_copyCluster_44 : decode cb_Tu_copyCluster 44 = .ok (.isub, 1) := by decide +kernel
theorem d_Tu_copyCluster_45 : decode cb_Tu_copyCluster 45 = .ok (.aload_n 0, 1) := by decide +kernel
theorem d_Tu_copyCluster_46 : decode cb_Tu_copyCluster 46 = .ok (.getfield 19, 3) := by decide +kernel
theorem d_Tu_copyCluster_49 : decode cb_Tu_copyCluster 49 = .ok (.getfield 120, 3) := by decide +kernel
theorem d_Tu_copyCluster_52 : decode cb_Tu_copyCluster 52 = .ok (.imul, 1) := by decide +kernel
theorem d_Tu_copyCluster_53 : decode cb_Tu_copyCluster 53 = .ok (.iadd, 1) := by decide +kernel
theorem d_Tu_copyCluster_54 : decode cb_Tu_copyCluster 54 = .ok (.iload_n 3, 1) := by decide +kernel
theorem d_Tu_copyCluster_55 : decode cb_Tu_copyCluster 55 = .ok (.iadd, 1) := by decide +kernel
theorem d_Tu_copyCluster_56 : decode cb_Tu_copyCluster 56 = .ok (.invokevirtual 97, 3) := by decide +kernel
theorem d_Tu_copyCluster_59 : decode cb_Tu_copyCluster 59 = .ok (.iinc 3 1, 3) := by decide +kernel
theorem d_Tu_copyCluster_62 : decode cb_Tu_copyCluster 62 = .ok (.goto (-60), 3) := by decide +kernel
theorem d_Tu_copyCluster_65 : decode cb_Tu_copyCluster 65 = .ok (.return_, 1) := by decide +kernel
theorem d_Tu_prepare_0 : decode cb_Tu_prepare 0 = .ok (.iconst 2, 1) := by decide +kernel
theorem d_Tu_prepare_1 : decode cb_Tu_prepare 1 = .ok (.istore_n 1, 1) := by decide +kernel
theorem d_Tu_prepare_2 : decode cb_Tu_prepare 2 = .ok (.iload_n 1, 1) := by decide +kernel
theorem d_Tu_prepare_3 : decode cb_Tu_prepare 3 = .ok (.aload_n 0, 1) := by decide +kernel
theorem d_Tu_prepare_4 : decode cb_Tu_prepare 4 = .ok (.getfield 19, 3) := by decide +kernel
theorem d_Tu_prepare_7 : decode cb_Tu_prepare 7 = .ok (.getfield 101, 3) := by decide +kernel
theorem d_Tu_prepare_10 : decode cb_Tu_prepare 10 = .ok (.iconst 2, 1) := by decide +kernel
theorem d_Tu_prepare_11 : decode cb_Tu_prepare 11 = .ok (.iadd, 1) := by decide +kernel
theorem d_Tu_prepare_12 : decode cb_Tu_prepare 12 = .ok (.if_icmp .ge 43, 3) := by decide +kernel
theorem d_Tu_prepare_15 : decode cb_Tu_prepare 15 = .ok (.aload_n 0, 1) := by decide +kernel
theorem d_Tu_prepare_16 : decode cb_Tu_prepare 16 = .ok (.getfield 15, 3) := by decide +kernel
theorem d_Tu_prepare_19 : decode cb_Tu_prepare 19 = .ok (.invokevirtual 66, 3) := by decide +kernel
theorem d_Tu_prepare_22 : decode cb_Tu_prepare 22 = .ok (.ifCond .eq 33, 3) := by decide +kernel
theorem d_Tu_prepare_25 : decode cb_Tu_prepare 25 = .ok (.aload_n 0, 1) := by decide +kernel
theorem d_Tu_prepare_26 : decode cb_Tu_prepare 26 = .ok (.getfield 19, 3) := by decide +kernel
theorem d_Tu_prepare_29 : decode cb_Tu_prepare 29 = .ok (.iload_n 1, 1) := by decide +kernel
theorem d_Tu_prepare_30 : decode cb_Tu_prepare 30 = .ok (.invokevirtual 107, 3) := by decide +kernel
theorem d_Tu_prepare_33 : decode cb_Tu_prepare 33 = .ok (.ifCond .eq 16, 3) := by decide +kernel
theorem d_Tu_prepare_36 : decode cb_Tu_prepare 36 = .ok (.aload_n 0, 1) := by decide +kernel
theorem d_Tu_prepare_37 : decode cb_Tu_prepare 37 = .ok (.iload_n 1, 1) := by decide +kernel
theorem d_Tu_prepare_38 : decode cb_Tu_prepare 38 = .ok (.aload_n 0, 1) := by decide +kernel
theorem d_Tu_prepare_39 : decode cb_Tu_prepare 39 = .ok (.getfield 19, 3) := by decide +kernel
theorem d_Tu_prepare_42 : decode cb_Tu_prepare 42 = .ok (.iload_n 1, 1) := by decide +kernel
theorem d_Tu_prepare_43 : decode cb_Tu_prepare 43 = .ok (.invokevirtual 107, 3) := by decide +kernel
theorem d_Tu_prepare_46 : decode cb_Tu_prepare 46 = .ok (.invokevirtual 110, 3) := by decide +kernel
theorem d_Tu_prepare_49 : decode cb_Tu_prepare 49 = .ok (.iinc 1 1, 3) := by decide +kernel
theorem d_Tu_prepare_52 : decode cb_Tu_prepare 52 = .ok (.goto (-50), 3) := by decide +kernel
theorem d_Tu_prepare_55 : decode cb_Tu_prepare 55 = .ok (.aload_n 0, 1) := by decide +kernel
theorem d_Tu_prepare_56 : decode cb_Tu_prepare 56 = .ok (.invokevirtual 126, 3) := by decide +kernel
theorem d_Tu_prepare_59 : decode cb_Tu_prepare 59 = .ok (.iconst (-1), 1) := by decide +kernel
theorem d_Tu_prepare_60 : decode cb_Tu_prepare 60 = .ok (.istore_n 1, 1) := by decide +kernel
theorem d_Tu_prepare_61 : decode cb_Tu_prepare 61 = .ok (.iload_n 1, 1) := by decide +kernel
theorem d_Tu_prepare_62 : decode cb_Tu_prepare 62 = .ok (.aload_n 0, 1) := by decide +kernel
theorem d_Tu_prepare_63 : decode cb_Tu_prepare 63 = .ok (.getfield 23, 3) := by decide +kernel
theorem d_Tu_prepare_66 : decode cb_Tu_prepare 66 = .ok (.getfield 129, 3) := by decide +kernel
theorem d_Tu_prepare_69 : decode cb_Tu_prepare 69 = .ok (.if_icmp .ge 40, 3) := by decide +kernel
theorem d_Tu_prepare_72 : decode cb_Tu_prepare 72 = .ok (.aload_n 0, 1) := by decide +kernel
theorem d_Tu_prepare_73 : decode cb_Tu_prepare 73 = .ok (.getfield 15, 3) := by decide +kernel
theorem d_Tu_prepare_76 : decode cb_Tu_prepare 76 = .ok (.invokevirtual 66, 3) := by decide +kernel
theorem d_Tu_prepare_79 : decode cb_Tu_prepare 79 = .ok (.ifCond .eq 30, 3) := by decide +kernel
theorem d_Tu_prepare_82 : decode cb_Tu_prepare 82 = .ok (.aload_n 0, 1) := by decide +kernel
theorem d_Tu_prepare_83 : decode cb_Tu_prepare 83 = .ok (.getfield 23, 3) := by decide +kernel
theorem d_Tu_prepare_86 : decode cb_Tu_prepare 86 = .ok (.iload_n 1, 1) := by decide +kernel
theorem d_Tu_prepare_87 : decode cb_Tu_prepare 87 = .ok (.invokevirtual 134, 3) := by decide +kernel
theorem d_Tu_prepare_90 : decode cb_Tu_prepare 90 = .ok (.ifCond .eq 8, 3) := by decide +kernel
theorem d_Tu_prepare_93 : decode cb_Tu_prepare 93 = .ok (.aload_n 0, 1) := by decide +kernel
theorem d_Tu_prepare_94 : decode cb_Tu_prepare 94 = .ok (.iload_n 1, 1) := by decide +kernel
theorem d_Tu_prepare_95 : decode cb_Tu_prepare 95 = .ok (.invokevirtual 138, 3) := by decide +kernel
theorem d_Tu_prepare_98 : decode cb_Tu_prepare 98 = .ok (.aload_n 0, 1) := by decide +kernel
theorem d_Tu_prepare_99 : decode cb_Tu_prepare 99 = .ok (.iload_n 1, 1) := by decide +kernel
theorem d_Tu_prepare_100 : decode cb_Tu_prepare 100 = .ok (.invokevirtual 142, 3) := by decide +kernel
theorem d_Tu_prepare_103 : decode cb_Tu_prepare 103 = .ok (.iinc 1 1, 3) := by decide +kernel
theorem d_Tu_prepare_106 : decode cb_Tu_prepare 106 = .ok (.goto (-45), 3) := by decide +kernel
theorem d_Tu_prepare_109 : decode cb_Tu_prepare 109 = .ok (.aload_n 0, 1) := by decide +kernel
theorem d_Tu_prepare_110 : decode cb_Tu_prepare 110 = .ok (.invokevirtual 145, 3) := by decide +kernel
theorem d_Tu_prepare_113 : decode cb_Tu_prepare 113 = .ok (.aload_n 0, 1) := by decide +kernel
theorem d_Tu_prepare_114 : decode cb_Tu_prepare 114 = .ok (.iconst 0, 1) := by decide +kernel
theorem d_Tu_prepare_115 : decode cb_Tu_prepare 115 = .ok (.ldc 148, 2) := by decide +kernel
theorem d_Tu_prepare_117 : decode cb_Tu_prepare 117 = .ok (.invokevirtual 149, 3) := by decide +kernel
theorem d_Tu_prepare_120 : decode cb_Tu_prepare 120 = .ok (.aload_n 0, 1) := by decide +kernel
theorem d_Tu_prepare_121 : decode cb_Tu_prepare 121 = .ok (.iconst 4, 1) := by decide +kernel
theorem d_Tu_prepare_122 : decode cb_Tu_prepare 122 = .ok (.aload_n 0, 1) := by decide +kernel
theorem d_Tu_prepare_123 : decode cb_Tu_prepare 123 = .ok (.getfield 31, 3) := by decide +kernel
theorem d_Tu_prepare_126 : decode cb_Tu_prepare 126 = .ok (.getfield 152, 3) := by decide +kernel
theorem d_Tu_prepare_129 : decode cb_Tu_prepare 129 = .ok (.invokevirtual 149, 3) := by decide +kernel
theorem d_Tu_prepare_132 : decode cb_Tu_prepare 132 = .ok (.aload_n 0, 1) := by decide +kernel
theorem d_Tu_prepare_133 : decode cb_Tu_prepare 133 = .ok (.bipush 8, 2) := by decide +kernel
theorem d_Tu_prepare_135 : decode cb_Tu_prepare 135 = .ok (.aload_n 0, 1) := by decide +kernel
theorem d_Tu_prepare_136 : decode cb_Tu_prepare 136 = .ok (.getfield 31, 3) := by decide +kernel
theorem d_Tu_prepare_139 : decode cb_Tu_prepare 139 = .ok (.getfield 155, 3) := by decide +kernel
theorem d_Tu_prepare_142 : decode cb_Tu_prepare 142 = .ok (.invokevirtual 149, 3) := by decide +kernel
theorem d_Tu_prepare_145 : decode cb_Tu_prepare 145 = .ok (.aload_n 0, 1) := by decide +kernel
theorem d_Tu_prepare_146 : decode cb_Tu_prepare 146 = .ok (.getfield 15, 3) := by decide +kernel
theorem d_Tu_prepare_149 : decode cb_Tu_prepare 149 = .ok (.bipush 7, 2) := by decide +kernel
theorem d_Tu_prepare_151 : decode cb_Tu_prepare 151 = .ok (.aload_n 0, 1) := by decide +kernel
theorem d_Tu_prepare_152 : decode cb_Tu_prepare 152 = .ok (.getfield 9, 3) := by decide +kernel
theorem d_Tu_prepare_155 : decode cb_Tu_prepare 155 = .ok (.iconst 0, 1) := by decide +kernel
theorem d_Tu_prepare_156 : decode cb_Tu_prepare 156 = .ok (.invokevirtual 117, 3) := by decide +kernel
theorem d_Tu_prepare_159 : decode cb_Tu_prepare 159 = .ok (.return_, 1) := by decide +kernel
theorem d_Tu_keepSectors_0 : decode cb_Tu_keepSectors 0 = .ok (.aload_n 0, 1) := by decide +kernel
theorem d_Tu_keepSectors_1 : decode cb_Tu_keepSectors 1 = .ok (.iconst 2, 1) := by decide +kernel
theorem d_Tu_keepSectors_2 : decode cb_Tu_keepSectors 2 = .ok (.iconst 2, 1) := by decide +kernel
theorem d_Tu_keepSectors_3 : decode cb_Tu_keepSectors 3 = .ok (.aload_n 0, 1) := by decide +kernel
theorem d_Tu_keepSectors_4 : decode cb_Tu_keepSectors 4 = .ok (.getfield 31, 3) := by decide +kernel
theorem d_Tu_keepSectors_7 : decode cb_Tu_keepSectors 7 = .ok (.iconst 0, 1) := by decide +kernel
theorem d_Tu_keepSectors_8 : decode cb_Tu_keepSectors 8 = .ok (.invokevirtual 93, 3) := by decide +kernel
theorem d_Tu_keepSectors_11 : decode cb_Tu_keepSectors 11 = .ok (.imul, 1) := by decide +kernel
theorem d_Tu_keepSectors_12 : decode cb_Tu_keepSectors 12 = .ok (.invokevirtual 97, 3) := by decide +kernel
theorem d_Tu_keepSectors_15 : decode cb_Tu_keepSectors 15 = .ok (.aload_n 0, 1) := by decide +kernel
theorem d_Tu_keepSectors_16 : decode cb_Tu_keepSectors 16 = .ok (.iconst 3, 1) := by decide +kernel
theorem d_Tu_keepSectors_17 : decode cb_Tu_keepSectors 17 = .ok (.iconst 2, 1) := by decide +kernel
theorem d_Tu_keepSectors_18 : decode cb_Tu_keepSectors 18 = .ok (.aload_n 0, 1) := by decide +kernel
theorem d_Tu_keepSectors_19 : decode cb_Tu_keepSectors 19 = .ok (.getfield 31, 3) := by decide +kernel
theorem d_Tu_keepSectors_22 : decode cb_Tu_keepSectors 22 = .ok (.iconst 0, 1) := by decide +kernel
theorem d_Tu_keepSectors_23 : decode cb_Tu_keepSectors 23 = .ok (.invokevirtual 93, 3) := by decide +kernel
theorem d_Tu_keepSectors_26 : decode cb_Tu_keepSectors 26 = .ok (.imul, 1) := by decide +kernel
theorem d_Tu_keepSectors_27 : decode cb_Tu_keepSectors 27 = .ok (.iconst 1, 1) := by decide +kernel
theorem d_Tu_keepSectors_28 : decode cb_Tu_keepSectors 28 = .ok (.iadd, 1) := by decide +kernel
theorem d_Tu_keepSectors_29 : decode cb_Tu_keepSectors 29 = .ok (.invokevirtual 97, 3) := by decide +kernel
theorem d_Tu_keepSectors_32 : decode cb_Tu_keepSectors 32 = .ok (.aload_n 0, 1) := by decide +kernel
theorem d_Tu_keepSectors_33 : decode cb_Tu_keepSectors 33 = .ok (.iconst 4, 1) := by decide +kernel
theorem d_Tu_keepSectors_34 : decode cb_Tu_keepSectors 34 = .ok (.iconst 2, 1) := by decide +kernel
theorem d_Tu_keepSectors_35 : decode cb_Tu_keepSectors 35 = .ok (.aload_n 0, 1) := by decide +kernel
theorem d_Tu_keepSectors_36 : decode cb_Tu_keepSectors 36 = .ok (.getfield 31, 3) := by decide +kernel
theorem d_Tu_keepSectors_39 : decode cb_Tu_keepSectors 39 = .ok (.iconst 1, 1) := by decide +kernel
theorem d_Tu_keepSectors_40 : decode cb_Tu_keepSectors 40 = .ok (.invokevirtual 93, 3) := by decide +kernel
theorem d_Tu_keepSectors_43 : decode cb_Tu_keepSectors 43 = .ok (.imul, 1) := by decide +kernel
theorem d_Tu_keepSectors_44 : decode cb_Tu_keepSectors 44 = .ok (.invokevirtual 97, 3) := by decide +kernel
theorem d_Tu_keepSectors_47 : decode cb_Tu_keepSectors 47 = .ok (.aload_n 0, 1) := by decide +kernel
theorem d_Tu_keepSectors_48 : decode cb_Tu_keepSectors 48 = .ok (.iconst 5, 1) := by decide +kernel
theorem d_Tu_keepSectors_49 : decode cb_Tu_keepSectors 49 = .ok (.iconst 2, 1) := by decide +kernel
theorem d_Tu_keepSectors_50 : decode cb_Tu_keepSectors 50 = .ok (.aload_n 0, 1) := by decide +kernel
theorem d_Tu_keepSectors_51 : decode cb_Tu_keepSectors 51 = .ok (.getfield 31, 3) := by decide +kernel
theorem d_Tu_keepSectors_54 : decode cb_Tu_keepSectors 54 = .ok (.iconst 1, 1) := by decide +kernel
theorem d_Tu_keepSectors_55 : decode cb_Tu_keepSectors 55 = .ok (.invokevirtual 93, 3) := by decide +kernel
theorem d_Tu_keepSectors_58 : decode cb_Tu_keepSectors 58 = .ok (.imul, 1) := by decide +kernel
theorem d_Tu_keepSectors_59 : decode cb_Tu_keepSectors 59 = .ok (.iconst 1, 1) := by decide +kernel
theorem d_Tu_keepSectors_60 : decode cb_Tu_keepSectors 60 = .ok (.iadd, 1) := by decide +kernel
theorem d_Tu_keepSectors_61 : decode cb_Tu_keepSectors 61 = .ok (.invokevirtual 97, 3) := by decide +kernel
theorem d_Tu_keepSectors_64 : decode cb_Tu_keepSectors 64 = .ok (.aload_n 0, 1) := by decide +kernel
theorem d_Tu_keepSectors_65 : decode cb_Tu_keepSectors 65 = .ok (.bipush 7, 2) := by decide +kernel
theorem d_Tu_keepSectors_67 : decode cb_Tu_keepSectors 67 = .ok (.iconst 2, 1) := by decide +kernel
theorem d_Tu_keepSectors_68 : decode cb_Tu_keepSectors 68 = .ok (.aload_n 0, 1) := by decide +kernel
theorem d_Tu_keepSectors_69 : decode cb_Tu_keepSectors 69 = .ok (.getfield 31, 3) := by decide +kernel
theorem d_Tu_keepSectors_72 : decode cb_Tu_keepSectors 72 = .ok (.iconst 2, 1) := by decide +kernel
theorem d_Tu_keepSectors_73 : decode cb_Tu_keepSectors 73 = .ok (.invokevirtual 93, 3) := by decide +kernel
theorem d_Tu_keepSectors_76 : decode cb_Tu_keepSectors 76 = .ok (.imul, 1) := by decide +kernel
theorem d_Tu_keepSectors_77 : decode cb_Tu_keepSectors 77 = .ok (.invokevirtual 97, 3) := by decide +kernel
theorem d_Tu_keepSectors_80 : decode cb_Tu_keepSectors 80 = .ok (.aload_n 0, 1) := by decide +kernel
theorem d_Tu_keepSectors_81 : decode cb_Tu_keepSectors 81 = .ok (.invokevirtual 145, 3) := by decide +kernel
theorem d_Tu_keepSectors_84 : decode cb_Tu_keepSectors 84 = .ok (.aload_n 0, 1) := by decide +kernel
theorem d_Tu_keepSectors_85 : decode cb_Tu_keepSectors 85 = .ok (.getfield 15, 3) := by decide +kernel
theorem d_Tu_keepSectors_88 : decode cb_Tu_keepSectors 88 = .ok (.iconst 2, 1) := by decide +kernel
theorem d_Tu_keepSectors_89 : decode cb_Tu_keepSectors 89 = .ok (.aload_n 0, 1) := by decide +kernel
theorem d_Tu_keepSectors_90 : decode cb_Tu_keepSectors 90 = .ok (.getfield 31, 3) := by decide +kernel
theorem d_Tu_keepSectors_93 : decode cb_Tu_keepSectors 93 = .ok (.iconst 2, 1) := by decide +kernel
theorem d_Tu_keepSectors_94 : decode cb_Tu_keepSectors 94 = .ok (.invokevirtual 93, 3) := by decide +kernel
theorem d_Tu_keepSectors_97 : decode cb_Tu_keepSectors 97 = .ok (.imul, 1) := by decide +kernel
theorem d_Tu_keepSectors_98 : decode cb_Tu_keepSectors 98 = .ok (.iconst 1, 1) := by decide +kernel
theorem d_Tu_keepSectors_99 : decode cb_Tu_keepSectors 99 = .ok (.iadd, 1) := by decide +kernel
theorem d_Tu_keepSectors_100 : decode cb_Tu_keepSectors 100 = .ok (.aload_n 0, 1) := by decide +kernel
theorem d_Tu_keepSectors_101 : decode cb_Tu_keepSectors 101 = .ok (.getfield 9, 3) := by decide +kernel
theorem d_Tu_keepSectors_104 : decode cb_Tu_keepSectors 104 = .ok (.iconst 0, 1) := by decide +kernel
theorem d_Tu_keepSectors_105 : decode cb_Tu_keepSectors 105 = .ok (.invokevirtual 117, 3) := by decide +kernel
theorem d_Tu_keepSectors_108 : decode cb_Tu_keepSectors 108 = .ok (.return_, 1) := by decide +kernel
theorem d_Tu_empty_0 : decode cb_Tu_empty 0 = .ok (.aload_n 0, 1) := by decide +kernel
theorem d_Tu_empty_1 : decode cb_Tu_empty 1 = .ok (.getfield 9, 3) := by decide +kernel
theorem d_Tu_empty_4 : decode cb_Tu_empty 4 = .ok (.iconst 0, 1) := by decide +kernel
theorem d_Tu_empty_5 : decode cb_Tu_empty 5 = .ok (.invokestatic 157, 3) := by decide +kernel
theorem d_Tu_empty_8 : decode cb_Tu_empty 8 = .ok (.return_, 1) := by decide +kernel
theorem d_Tu_storeBlock_0 : decode cb_Tu_storeBlock 0 = .ok (.aload_n 0, 1) := by decide +kernel
theorem d_Tu_storeBlock_1 : decode cb_Tu_storeBlock 1 = .ok (.getfield 15, 3) := by decide +kernel
theorem d_Tu_storeBlock_4 : decode cb_Tu_storeBlock 4 = .ok (.iconst 2, 1) := by decide +kernel
theorem d_Tu_storeBlock_5 : decode cb_Tu_storeBlock 5 = .ok (.iload_n 1, 1) := by decide +kernel
theorem d_Tu_storeBlock_6 : decode cb_Tu_storeBlock 6 = .ok (.imul, 1) := by decide +kernel
theorem d_Tu_storeBlock_7 : decode cb_Tu_storeBlock 7 = .ok (.aload_n 0, 1) := by decide +kernel
theorem d_Tu_storeBlock_8 : decode cb_Tu_storeBlock 8 = .ok (.getfield 9, 3) := by decide +kernel
theorem d_Tu_storeBlock_11 : decode cb_Tu_storeBlock 11 = .ok (.iconst 0, 1) := by decide +kernel
theorem d_Tu_storeBlock_12 : decode cb_Tu_storeBlock 12 = .ok (.invokevirtual 117, 3) := by decide +kernel
theorem d_Tu_storeBlock_15 : decode cb_Tu_storeBlock 15 = .ok (.aload_n 0, 1) := by decide +kernel
theorem d_Tu_storeBlock_16 : decode cb_Tu_storeBlock 16 = .ok (.getfield 15, 3) := by decide +kernel
theorem d_Tu_storeBlock_19 : decode cb_Tu_storeBlock 19 = .ok (.iconst 2, 1) := by decide +kernel
theorem d_Tu_storeBlock_20 : decode cb_Tu_storeBlock 20 = .ok (.iload_n 1, 1) := by decide +kernel
theorem d_Tu_storeBlock_21 : decode cb_Tu_storeBlock 21 = .ok (.imul, 1) := by decide +kernel
theorem d_Tu_storeBlock_22 : decode cb_Tu_storeBlock 22 = .ok (.iconst 1, 1) := by decide +kernel
theorem d_Tu_storeBlock_23 : decode cb_Tu_storeBlock 23 = .ok (.iadd, 1) := by decide +kernel
theorem d_Tu_storeBlock_24 : decode cb_Tu_storeBlock 24 = .ok (.aload_n 0, 1) := by decide +kernel
theorem d_Tu_storeBlock_25 : decode cb_Tu_storeBlock 25 = .ok (.getfield 9, 3) := by decide +kernel
theorem d_Tu_storeBlock_28 : decode cb_Tu_storeBlock 28 = .ok (.sipush 512, 3) := by decide +kernel
theorem d_Tu_storeBlock_31 : decode cb_Tu_storeBlock 31 = .ok (.invokevirtual 117, 3) := by decide +kernel
theorem d_Tu_storeBlock_34 : decode cb_Tu_storeBlock 34 = .ok (.return_, 1) := by decide +kernel
theorem d_Tu_putOne_0 : decode cb_Tu_putOne 0 = .ok (.iload_n 1, 1) := by decide +kernel
theorem d_Tu_putOne_1 : decode cb_Tu_putOne 1 = .ok (.ifCond .lt 18, 3) := by decide +kernel
theorem d_Tu_putOne_4 : decode cb_Tu_putOne 4 = .ok (.iload_n 1, 1) := by decide +kernel
theorem d_Tu_putOne_5 : decode cb_Tu_putOne 5 = .ok (.sipush 1024, 3) := by decide +kernel
theorem d_Tu_putOne_8 : decode cb_Tu_putOne 8 = .ok (.if_icmp .ge 11, 3) := by decide +kernel
theorem d_Tu_putOne_11 : decode cb_Tu_putOne 11 = .ok (.aload_n 0, 1) := by decide +kernel
theorem d_Tu_putOne_12 : decode cb_Tu_putOne 12 = .ok (.getfield 9, 3) := by decide +kernel
theorem d_Tu_putOne_15 : decode cb_Tu_putOne 15 = .ok (.iload_n 1, 1) := by decide +kernel
theorem d_Tu_putOne_16 : decode cb_Tu_putOne 16 = .ok (.iload_n 2, 1) := by decide +kernel
theorem d_Tu_putOne_17 : decode cb_Tu_putOne 17 = .ok (.i2b, 1) := by decide +kernel
theorem d_Tu_putOne_18 : decode cb_Tu_putOne 18 = .ok (.bastore, 1) := by decide +kernel
theorem d_Tu_putOne_19 : decode cb_Tu_putOne 19 = .ok (.return_, 1) := by decide +kernel
theorem d_Tu_putTwo_0 : decode cb_Tu_putTwo 0 = .ok (.iload_n 1, 1) := by decide +kernel
theorem d_Tu_putTwo_1 : decode cb_Tu_putTwo 1 = .ok (.ifCond .lt 31, 3) := by decide +kernel
theorem d_Tu_putTwo_4 : decode cb_Tu_putTwo 4 = .ok (.iload_n 1, 1) := by decide +kernel
theorem d_Tu_putTwo_5 : decode cb_Tu_putTwo 5 = .ok (.sipush 1022, 3) := by decide +kernel
theorem d_Tu_putTwo_8 : decode cb_Tu_putTwo 8 = .ok (.if_icmp .gt 24, 3) := by decide +kernel
theorem d_Tu_putTwo_11 : decode cb_Tu_putTwo 11 = .ok (.aload_n 0, 1) := by decide +kernel
theorem d_Tu_putTwo_12 : decode cb_Tu_putTwo 12 = .ok (.getfield 9, 3) := by decide +kernel
theorem d_Tu_putTwo_15 : decode cb_Tu_putTwo 15 = .ok (.iload_n 1, 1) := by decide +kernel
theorem d_Tu_putTwo_16 : decode cb_Tu_putTwo 16 = .ok (.iload_n 2, 1) := by decide +kernel
theorem d_Tu_putTwo_17 : decode cb_Tu_putTwo 17 = .ok (.i2b, 1) := by decide +kernel
theorem d_Tu_putTwo_18 : decode cb_Tu_putTwo 18 = .ok (.bastore, 1) := by decide +kernel
theorem d_Tu_putTwo_19 : decode cb_Tu_putTwo 19 = .ok (.aload_n 0, 1) := by decide +kernel
theorem d_Tu_putTwo_20 : decode cb_Tu_putTwo 20 = .ok (.getfield 9, 3) := by decide +kernel
theorem d_Tu_putTwo_23 : decode cb_Tu_putTwo 23 = .ok (.iload_n 1, 1) := by decide +kernel
theorem d_Tu_putTwo_24 : decode cb_Tu_putTwo 24 = .ok (.iconst 1, 1) := by decide +kernel
theorem d_Tu_putTwo_25 : decode cb_Tu_putTwo 25 = .ok (.iadd, 1) := by decide +kernel
theorem d_Tu_putTwo_26 : decode cb_Tu_putTwo 26 = .ok (.iload_n 2, 1) := by decide +kernel
theorem d_Tu_putTwo_27 : decode cb_Tu_putTwo 27 = .ok (.bipush 8, 2) := by decide +kernel
theorem d_Tu_putTwo_29 : decode cb_Tu_putTwo 29 = .ok (.ishr, 1) := by decide +kernel
theorem d_Tu_putTwo_30 : decode cb_Tu_putTwo 30 = .ok (.i2b, 1) := by decide +kernel
theorem d_Tu_putTwo_31 : decode cb_Tu_putTwo 31 = .ok (.bastore, 1) := by decide +kernel
theorem d_Tu_putTwo_32 : decode cb_Tu_putTwo 32 = .ok (.return_, 1) := by decide +kernel
theorem d_Tu_putFour_0 : decode cb_Tu_putFour 0 = .ok (.iload_n 1, 1) := by decide +kernel
theorem d_Tu_putFour_1 : decode cb_Tu_putFour 1 = .ok (.ifCond .lt 57, 3) := by decide +kernel
theorem d_Tu_putFour_4 : decode cb_Tu_putFour 4 = .ok (.iload_n 1, 1) := by decide +kernel
theorem d_Tu_putFour_5 : decode cb_Tu_putFour 5 = .ok (.sipush 1020, 3) := by decide +kernel
theorem d_Tu_putFour_8 : decode cb_Tu_putFour 8 = .ok (.if_icmp .gt 50, 3) := by decide +kernel
theorem d_Tu_putFour_11 : decode cb_Tu_putFour 11 = .ok (.aload_n 0, 1) := by decide +kernel
theorem d_Tu_putFour_12 : decode cb_Tu_putFour 12 = .ok (.getfield 9, 3) := by decide +kernel
theorem d_Tu_putFour_15 : decode cb_Tu_putFour 15 = .ok (.iload_n 1, 1) := by decide +kernel
theorem d_Tu_putFour_16 : decode cb_Tu_putFour 16 = .ok (.iload_n 2, 1) := by decide +kernel
theorem d_Tu_putFour_17 : decode cb_Tu_putFour 17 = .ok (.i2b, 1) := by decide +kernel
theorem d_Tu_putFour_18 : decode cb_Tu_putFour 18 = .ok (.bastore, 1) := by decide +kernel
theorem d_Tu_putFour_19 : decode cb_Tu_putFour 19 = .ok (.aload_n 0, 1) := by decide +kernel
theorem d_Tu_putFour_20 : decode cb_Tu_putFour 20 = .ok (.getfield 9, 3) := by decide +kernel
theorem d_Tu_putFour_23 : decode cb_Tu_putFour 23 = .ok (.iload_n 1, 1) := by decide +kernel
theorem d_Tu_putFour_24 : decode cb_Tu_putFour 24 = .ok (.iconst 1, 1) := by decide +kernel
theorem d_Tu_putFour_25 : decode cb_Tu_putFour 25 = .ok (.iadd, 1) := by decide +kernel
theorem d_Tu_putFour_26 : decode cb_Tu_putFour 26 = .ok (.iload_n 2, 1) := by decide +kernel
theorem d_Tu_putFour_27 : decode cb_Tu_putFour 27 = .ok (.bipush 8, 2) := by decide +kernel
theorem d_Tu_putFour_29 : decode cb_Tu_putFour 29 = .ok (.ishr, 1) := by decide +kernel
theorem d_Tu_putFour_30 : decode cb_Tu_putFour 30 = .ok (.i2b, 1) := by decide +kernel
theorem d_Tu_putFour_31 : decode cb_Tu_putFour 31 = .ok (.bastore, 1) := by decide +kernel
theorem d_Tu_putFour_32 : decode cb_Tu_putFour 32 = .ok (.aload_n 0, 1) := by decide +kernel
theorem d_Tu_putFour_33 : decode cb_Tu_putFour 33 = .ok (.getfield 9, 3) := by decide +kernel
theorem d_Tu_putFour_36 : decode cb_Tu_putFour 36 = .ok (.iload_n 1, 1) := by decide +kernel
theorem d_Tu_putFour_37 : decode cb_Tu_putFour 37 = .ok (.iconst 2, 1) := by decide +kernel
theorem d_Tu_putFour_38 : decode cb_Tu_putFour 38 = .ok (.iadd, 1) := by decide +kernel
theorem d_Tu_putFour_39 : decode cb_Tu_putFour 39 = .ok (.iload_n 2, 1) := by decide +kernel
theorem d_Tu_putFour_40 : decode cb_Tu_putFour 40 = .ok (.bipush 16, 2) := by decide +kernel
theorem d_Tu_putFour_42 : decode cb_Tu_putFour 42 = .ok (.ishr, 1) := by decide +kernel
theorem d_Tu_putFour_43 : decode cb_Tu_putFour 43 = .ok (.i2b, 1) := by decide +kernel
theorem d_Tu_putFour_44 : decode cb_Tu_putFour 44 = .ok (.bastore, 1) := by decide +kernel
theorem d_Tu_putFour_45 : decode cb_Tu_putFour 45 = .ok (.aload_n 0, 1) := by decide +kernel
theorem d_Tu_putFour_46 : decode cb_Tu_putFour 46 = .ok (.getfield 9, 3) := by decide +kernel
theorem d_Tu_putFour_49 : decode cb_Tu_putFour 49 = .ok (.iload_n 1, 1) := by decide +kernel
theorem d_Tu_putFour_50 : decode cb_Tu_putFour 50 = .ok (.iconst 3, 1) := by decide +kernel
theorem d_Tu_putFour_51 : decode cb_Tu_putFour 51 = .ok (.iadd, 1) := by decide +kernel
theorem d_Tu_putFour_52 : decode cb_Tu_putFour 52 = .ok (.iload_n 2, 1) := by decide +kernel
theorem d_Tu_putFour_53 : decode cb_Tu_putFour 53 = .ok (.bipush 24, 2) := by decide +kernel
theorem d_Tu_putFour_55 : decode cb_Tu_putFour 55 = .ok (.ishr, 1) := by decide +kernel
theorem d_Tu_putFour_56 : decode cb_Tu_putFour 56 = .ok (.i2b, 1) := by decide +kernel
theorem d_Tu_putFour_57 : decode cb_Tu_putFour 57 = .ok (.bastore, 1) := by decide +kernel
theorem d_Tu_putFour_58 : decode cb_Tu_putFour 58 = .ok (.return_, 1) := by decide +kernel
theorem d_Tu_buildDirectory_0 : decode cb_Tu_buildDirectory 0 = .ok (.aload_n 0, 1) := by decide +kernel
theorem d_Tu_buildDirectory_1 : decode cb_Tu_buildDirectory 1 = .ok (.getfield 23, 3) := by decide +kernel
theorem d_Tu_buildDirectory_4 : decode cb_Tu_buildDirectory 4 = .ok (.iload_n 1, 1) := by decide +kernel
theorem d_Tu_buildDirectory_5 : decode cb_Tu_buildDirectory 5 = .ok (.invokevirtual 163, 3) := by decide +kernel
theorem d_Tu_buildDirectory_8 : decode cb_Tu_buildDirectory 8 = .ok (.istore_n 2, 1) := by decide +kernel
theorem d_Tu_buildDirectory_9 : decode cb_Tu_buildDirectory 9 = .ok (.iconst 0, 1) := by decide +kernel
theorem d_Tu_buildDirectory_10 : decode cb_Tu_buildDirectory 10 = .ok (.istore_n 3, 1) := by decide +kernel
theorem d_Tu_buildDirectory_11 : decode cb_Tu_buildDirectory 11 = .ok (.iconst 0, 1) := by decide +kernel
theorem d_Tu_buildDirectory_12 : decode cb_Tu_buildDirectory 12 = .ok (.istore 4, 2) := by decide +kernel
theorem d_Tu_buildDirectory_14 : decode cb_Tu_buildDirectory 14 = .ok (.aload_n 0, 1) := by decide +kernel
theorem d_Tu_buildDirectory_15 : decode cb_Tu_buildDirectory 15 = .ok (.invokevirtual 145, 3) := by decide +kernel
theorem d_Tu_buildDirectory_18 : decode cb_Tu_buildDirectory 18 = .ok (.iconst 0, 1) := by decide +kernel
theorem d_Tu_buildDirectory_19 : decode cb_Tu_buildDirectory 19 = .ok (.istore 5, 2) := by decide +kernel
theorem d_Tu_buildDirectory_21 : decode cb_Tu_buildDirectory 21 = .ok (.iload 5, 2) := by decide +kernel
theorem d_Tu_buildDirectory_23 : decode cb_Tu_buildDirectory 23 = .ok (.aload_n 0, 1) := by decide +kernel
theorem d_Tu_buildDirectory_24 : decode cb_Tu_buildDirectory 24 = .ok (.getfield 31, 3) := by decide +kernel
theorem d_Tu_buildDirectory_27 : decode cb_Tu_buildDirectory 27 = .ok (.iload_n 1, 1) := by decide +kernel
theorem d_Tu_buildDirectory_28 : decode cb_Tu_buildDirectory 28 = .ok (.invokevirtual 166, 3) := by decide +kernel
theorem d_Tu_buildDirectory_31 : decode cb_Tu_buildDirectory 31 = .ok (.if_icmp .ge 94, 3) := by decide +kernel
theorem d_Tu_buildDirectory_34 : decode cb_Tu_buildDirectory 34 = .ok (.aload_n 0, 1) := by decide +kernel
theorem d_Tu_buildDirectory_35 : decode cb_Tu_buildDirectory 35 = .ok (.getfield 31, 3) := by decide +kernel
theorem d_Tu_buildDirectory_38 : decode cb_Tu_buildDirectory 38 = .ok (.iload_n 1, 1) := by decide +kernel
theorem d_Tu_buildDirectory_39 : decode cb_Tu_buildDirectory 39 = .ok (.iload 5, 2) := by decide +kernel
theorem d_Tu_buildDirectory_41 : decode cb_Tu_buildDirectory 41 = .ok (.invokevirtual 169, 3) := by decide +kernel
theorem d_Tu_buildDirectory_44 : decode cb_Tu_buildDirectory 44 = .ok (.invokestatic 172, 3) := by decide +kernel
theorem d_Tu_buildDirectory_47 : decode cb_Tu_buildDirectory 47 = .ok (.istore 6, 2) := by decide +kernel
theorem d_Tu_buildDirectory_49 : decode cb_Tu_buildDirectory 49 = .ok (.iload_n 3, 1) := by decide +kernel
theorem d_Tu_buildDirectory_50 : decode cb_Tu_buildDirectory 50 = .ok (.iload 6, 2) := by decide +kernel
theorem d_Tu_buildDirectory_52 : decode cb_Tu_buildDirectory 52 = .ok (.iadd, 1) := by decide +kernel
theorem d_Tu_buildDirectory_53 : decode cb_Tu_buildDirectory 53 = .ok (.sipush 1024, 3) := by decide +kernel
theorem d_Tu_buildDirectory_56 : decode cb_Tu_buildDirectory 56 = .ok (.if_icmp .le 38, 3) := by decide +kernel
theorem d_Tu_buildDirectory_59 : decode cb_Tu_buildDirectory 59 = .ok (.aload_n 0, 1) := by decide +kernel
theorem d_Tu_buildDirectory_60 : decode cb_Tu_buildDirectory 60 = .ok (.iload 4, 2) := by decide +kernel
theorem d_Tu_buildDirectory_62 : decode cb_Tu_buildDirectory 62 = .ok (.iconst 4, 1) := by decide +kernel
theorem d_Tu_buildDirectory_63 : decode cb_Tu_buildDirectory 63 = .ok (.iadd, 1) := by decide +kernel
theorem d_Tu_buildDirectory_64 : decode cb_Tu_buildDirectory 64 = .ok (.sipush 1024, 3) := by decide +kernel
theorem d_Tu_buildDirectory_67 : decode cb_Tu_buildDirectory 67 = .ok (.iload 4, 2) := by decide +kernel
theorem d_Tu_buildDirectory_69 : decode cb_Tu_buildDirectory 69 = .ok (.isub, 1) := by decide +kernel
theorem d_Tu_buildDirectory_70 : decode cb_Tu_buildDirectory 70 = .ok (.invokevirtual 175, 3) := by decide +kernel
theorem d_Tu_buildDirectory_73 : decode cb_Tu_buildDirectory 73 = .ok (.aload_n 0, 1) := by decide +kernel
theorem d_Tu_buildDirectory_74 : decode cb_Tu_buildDirectory 74 = .ok (.aload_n 0, 1) := by decide +kernel
theorem d_Tu_buildDirectory_75 : decode cb_Tu_buildDirectory 75 = .ok (.getfield 31, 3) := by decide +kernel
theorem d_Tu_buildDirectory_78 : decode cb_Tu_buildDirectory 78 = .ok (.iload_n 2, 1) := by decide +kernel
theorem d_Tu_buildDirectory_79 : decode cb_Tu_buildDirectory 79 = .ok (.invokevirtual 93, 3) := by decide +kernel
theorem d_Tu_buildDirectory_82 : decode cb_Tu_buildDirectory 82 = .ok (.invokevirtual 178, 3) := by decide +kernel
theorem d_Tu_buildDirectory_85 : decode cb_Tu_buildDirectory 85 = .ok (.aload_n 0, 1) := by decide +kernel
theorem d_Tu_buildDirectory_86 : decode cb_Tu_buildDirectory 86 = .ok (.invokevirtual 145, 3) := by decide +kernel
theorem d_Tu_buildDirectory_89 : decode cb_Tu_buildDirectory 89 = .ok (.iinc 2 1, 3) := by decide +kernel
theorem d_Tu_buildDirectory_92 : decode cb_Tu_buildDirectory 92 = .ok (.iconst 0, 1) := by decide +kernel
theorem d_Tu_buildDirectory_93 : decode cb_Tu_buildDirectory 93 = .ok (.istore_n 3, 1) := by decide +kernel
theorem d_Tu_buildDirectory_94 : decode cb_Tu_buildDirectory 94 = .ok (.aload_n 0, 1) := by decide +kernel
theorem d_Tu_buildDirectory_95 : decode cb_Tu_buildDirectory 95 = .ok (.iload_n 3, 1) := by decide +kernel
theorem d_Tu_buildDirectory_96 : decode cb_Tu_buildDirectory 96 = .ok (.iload_n 1, 1) := by decide +kernel
theorem d_Tu_buildDirectory_97 : decode cb_Tu_buildDirectory 97 = .ok (.iload 5, 2) := by decide +kernel
theorem d_Tu_buildDirectory_99 : decode cb_Tu_buildDirectory 99 = .ok (.invokevirtual 181, 3) := by decide +kernel
theorem d_Tu_buildDirectory_102 : decode cb_Tu_buildDirectory 102 = .ok (.aload_n 0, 1) := by decide +kernel
theorem d_Tu_buildDirectory_103 : decode cb_Tu_buildDirectory 103 = .ok (.iload_n 3, 1) := by decide +kernel
theorem d_Tu_buildDirectory_104 : decode cb_Tu_buildDirectory 104 = .ok (.iconst 4, 1) := by decide +kernel
theorem d_Tu_buildDirectory_105 : decode cb_Tu_buildDirectory 105 = .ok (.iadd, 1) := by decide +kernel
theorem d_Tu_buildDirectory_106 : decode cb_Tu_buildDirectory 106 = .ok (.iload 6, 2) := by decide +kernel
theorem d_Tu_buildDirectory_108 : decode cb_Tu_buildDirectory 108 = .ok (.invokevirtual 175, 3) := by decide +kernel
theorem d_Tu_buildDirectory_111 : decode cb_Tu_buildDirectory 111 = .ok (.iload_n 3, 1) := by decide +kernel
theorem d_Tu_buildDirectory_112 : decode cb_Tu_buildDirectory 112 = .ok (.istore 4, 2) := by decide +kernel
theorem d_Tu_buildDirectory_114 : decode cb_Tu_buildDirectory 114 = .ok (.iload_n 3, 1) := by decide +kernel
theorem d_Tu_buildDirectory_115 : decode cb_Tu_buildDirectory 115 = .ok (.iload 6, 2) := by decide +kernel
theorem d_Tu_buildDirectory_117 : decode cb_Tu_buildDirectory 117 = .ok (.iadd, 1) := by decide +kernel
theorem d_Tu_buildDirectory_118 : decode cb_Tu_buildDirectory 118 = .ok (.istore_n 3, 1) := by decide +kernel
theorem d_Tu_buildDirectory_119 : decode cb_Tu_buildDirectory 119 = .ok (.iinc 5 1, 3) := by decide +kernel
theorem d_Tu_buildDirectory_122 : decode cb_Tu_buildDirectory 122 = .ok (.goto (-101), 3) := by decide +kernel
theorem d_Tu_buildDirectory_125 : decode cb_Tu_buildDirectory 125 = .ok (.aload_n 0, 1) := by decide +kernel
theorem d_Tu_buildDirectory_126 : decode cb_Tu_buildDirectory 126 = .ok (.iload 4, 2) := by decide +kernel
theorem d_Tu_buildDirectory_128 : decode cb_Tu_buildDirectory 128 = .ok (.iconst 4, 1) := by decide +kernel
theorem d_Tu_buildDirectory_129 : decode cb_Tu_buildDirectory 129 = .ok (.iadd, 1) := by decide +kernel
theorem d_Tu_buildDirectory_130 : decode cb_Tu_buildDirectory 130 = .ok (.sipush 1024, 3) := by decide +kernel
theorem d_Tu_buildDirectory_133 : decode cb_Tu_buildDirectory 133 = .ok (.iload 4, 2) := by decide +kernel
theorem d_Tu_buildDirectory_135 : decode cb_Tu_buildDirectory 135 = .ok (.isub, 1) := by decide +kernel
theorem d_Tu_buildDirectory_136 : decode cb_Tu_buildDirectory 136 = .ok (.invokevirtual 175, 3) := by decide +kernel
theorem d_Tu_buildDirectory_139 : decode cb_Tu_buildDirectory 139 = .ok (.aload_n 0, 1) := by decide +kernel
theorem d_Tu_buildDirectory_140 : decode cb_Tu_buildDirectory 140 = .ok (.aload_n 0, 1) := by decide +kernel
theorem d_Tu_buildDirectory_141 : decode cb_Tu_buildDirectory 141 = .ok (.getfield 31, 3) := by decide +kernel
theorem d_Tu_buildDirectory_144 : decode cb_Tu_buildDirectory 144 = .ok (.iload_n 2, 1) := by decide +kernel
theorem d_Tu_buildDirectory_145 : decode cb_Tu_buildDirectory 145 = .ok (.invokevirtual 93, 3) := by decide +kernel
theorem d_Tu_buildDirectory_148 : decode cb_Tu_buildDirectory 148 = .ok (.invokevirtual 178, 3) := by decide +kernel
theorem d_Tu_buildDirectory_151 : decode cb_Tu_buildDirectory 151 = .ok (.return_, 1) := by decide +kernel
theorem d_Tu_inodeOf_0 : decode b_Tu_inodeOf 0 = .ok (.iload_n 0, 1) := by decide +kernel
theorem d_Tu_inodeOf_1 : decode b_Tu_inodeOf 1 = .ok (.ifCond .ne 7, 3) := by decide +kernel
theorem d_Tu_inodeOf_4 : decode b_Tu_inodeOf 4 = .ok (.iconst 2, 1) := by decide +kernel
theorem d_Tu_inodeOf_5 : decode b_Tu_inodeOf 5 = .ok (.goto 7, 3) := by decide +kernel
theorem d_Tu_inodeOf_8 : decode b_Tu_inodeOf 8 = .ok (.bipush 11, 2) := by decide +kernel
theorem d_Tu_inodeOf_10 : decode b_Tu_inodeOf 10 = .ok (.iload_n 0, 1) := by decide +kernel
theorem d_Tu_inodeOf_11 : decode b_Tu_inodeOf 11 = .ok (.iadd, 1) := by decide +kernel
theorem d_Tu_inodeOf_12 : decode b_Tu_inodeOf 12 = .ok (.ireturn, 1) := by decide +kernel
theorem d_Tu_putEntry_0 : decode cb_Tu_putEntry 0 = .ok (.iload_n 3, 1) := by decide +kernel
theorem d_Tu_putEntry_1 : decode cb_Tu_putEntry 1 = .ok (.iconst 2, 1) := by decide +kernel
theorem d_Tu_putEntry_2 : decode cb_Tu_putEntry 2 = .ok (.if_icmp .lt 21, 3) := by decide +kernel
theorem d_Tu_putEntry_5 : decode cb_Tu_putEntry 5 = .ok (.iload_n 3, 1) := by decide +kernel
theorem d_Tu_putEntry_6 : decode cb_Tu_putEntry 6 = .ok (.iconst 2, 1) := by decide +kernel
theorem d_Tu_putEntry_7 : decode cb_Tu_putEntry 7 = .ok (.isub, 1) := by decide +kernel
theorem d_Tu_putEntry_8 : decode cb_Tu_putEntry 8 = .ok (.aload_n 0, 1) := by decide +kernel
theorem d_Tu_putEntry_9 : decode cb_Tu_putEntry 9 = .ok (.getfield 23, 3) := by decide +kernel
theorem d_Tu_putEntry_12 : decode cb_Tu_putEntry 12 = .ok (.iload_n 2, 1) := by decide +kernel
theorem d_Tu_putEntry_13 : decode cb_Tu_putEntry 13 = .ok (.invokevirtual 185, 3) := by decide +kernel
theorem d_Tu_putEntry_16 : decode cb_Tu_putEntry 16 = .ok (.if_icmp .ge 7, 3) := by decide +kernel
theorem d_Tu_putEntry_19 : decode cb_Tu_putEntry 19 = .ok (.iconst 1, 1) := by decide +kernel
theorem d_Tu_putEntry_20 : decode cb_Tu_putEntry 20 = .ok (.goto 4, 3) := by decide +kernel
theorem d_Tu_putEntry_23 : decode cb_Tu_putEntry 23 = .ok (.iconst 0, 1) := by decide +kernel
theorem d_Tu_putEntry_24 : decode cb_Tu_putEntry 24 = .ok (.istore 4, 2) := by decide +kernel
theorem d_Tu_putEntry_26 : decode cb_Tu_putEntry 26 = .ok (.iload_n 3, 1) := by decide +kernel
theorem d_Tu_putEntry_27 : decode cb_Tu_putEntry 27 = .ok (.ifCond .ne 7, 3) := by decide +kernel
theorem d_Tu_putEntry_30 : decode cb_Tu_putEntry 30 = .ok (.iload_n 2, 1) := by decide +kernel
theorem d_Tu_putEntry_31 : decode cb_Tu_putEntry 31 = .ok (.goto 39, 3) := by decide +kernel
theorem d_Tu_putEntry_34 : decode cb_Tu_putEntry 34 = .ok (.iload_n 3, 1) := by decide +kernel
theorem d_Tu_putEntry_35 : decode cb_Tu_putEntry 35 = .ok (.iconst 1, 1) := by decide +kernel
theorem d_Tu_putEntry_36 : decode cb_Tu_putEntry 36 = .ok (.if_icmp .ne 14, 3) := by decide +kernel
theorem d_Tu_putEntry_39 : decode cb_Tu_putEntry 39 = .ok (.aload_n 0, 1) := by decide +kernel
theorem d_Tu_putEntry_40 : decode cb_Tu_putEntry 40 = .ok (.getfield 23, 3) := by decide +kernel
theorem d_Tu_putEntry_43 : decode cb_Tu_putEntry 43 = .ok (.iload_n 2, 1) := by decide +kernel
theorem d_Tu_putEntry_44 : decode cb_Tu_putEntry 44 = .ok (.invokevirtual 188, 3) := by decide +kernel
theorem d_Tu_putEntry_47 : decode cb_Tu_putEntry 47 = .ok (.goto 23, 3) := by decide +kernel
theorem d_Tu_putEntry_50 : decode cb_Tu_putEntry 50 = .ok (.iload 4, 2) := by decide +kernel
theorem d_Tu_putEntry_52 : decode cb_Tu_putEntry 52 = .ok (.ifCond .eq 17, 3) := by decide +kernel
theorem d_Tu_putEntry_55 : decode cb_Tu_putEntry 55 = .ok (.aload_n 0, 1) := by decide +kernel
theorem d_Tu_putEntry_56 : decode cb_Tu_putEntry 56 = .ok (.getfield 23, 3) := by decide +kernel
theorem d_Tu_putEntry_59 : decode cb_Tu_putEntry 59 = .ok (.iload_n 2, 1) := by decide +kernel
theorem d_Tu_putEntry_60 : decode cb_Tu_putEntry 60 = .ok (.iload_n 3, 1) := by decide +kernel
theorem d_Tu_putEntry_61 : decode cb_Tu_putEntry 61 = .ok (.iconst 2, 1) := by decide +kernel
theorem d_Tu_putEntry_62 : decode cb_Tu_putEntry 62 = .ok (.isub, 1) := by decide +kernel
theorem d_Tu_putEntry_63 : decode cb_Tu_putEntry 63 = .ok (.invokevirtual 191, 3) := by decide +kernel
theorem d_Tu_putEntry_66 : decode cb_Tu_putEntry 66 = .ok (.goto 4, 3) := by decide +kernel
theorem d_Tu_putEntry_69 : decode cb_Tu_putEntry 69 = .ok (.iconst (-1), 1) := by decide +kernel
theorem d_Tu_putEntry_70 : decode cb_Tu_putEntry 70 = .ok (.istore 5, 2) := by decide +kernel
theorem d_Tu_putEntry_72 : decode cb_Tu_putEntry 72 = .ok (.aload_n 0, 1) := by decide +kernel
theorem d_Tu_putEntry_73 : decode cb_Tu_putEntry 73 = .ok (.getfield 31, 3) := by decide +kernel
theorem d_Tu_putEntry_76 : decode cb_Tu_putEntry 76 = .ok (.iload_n 2, 1) := by decide +kernel
theorem d_Tu_putEntry_77 : decode cb_Tu_putEntry 77 = .ok (.iload_n 3, 1) := by decide +kernel
theorem d_Tu_putEntry_78 : decode cb_Tu_putEntry 78 = .ok (.invokevirtual 169, 3) := by decide +kernel
theorem d_Tu_putEntry_81 : decode cb_Tu_putEntry 81 = .ok (.istore 6, 2) := by decide +kernel
theorem d_Tu_putEntry_83 : decode cb_Tu_putEntry 83 = .ok (.aload_n 0, 1) := by decide +kernel
theorem d_Tu_putEntry_84 : decode cb_Tu_putEntry 84 = .ok (.iload_n 1, 1) := by decide +kernel
theorem d_Tu_putEntry_85 : decode cb_Tu_putEntry 85 = .ok (.iload 5, 2) := by decide +kernel
theorem d_Tu_putEntry_87 : decode cb_Tu_putEntry 87 = .ok (.iconst (-1), 1) := by decide +kernel
theorem d_Tu_putEntry_88 : decode cb_Tu_putEntry 88 = .ok (.if_icmp .ne 8, 3) := by decide +kernel
theorem d_Tu_putEntry_91 : decode cb_Tu_putEntry 91 = .ok (.bipush 11, 2) := by decide +kernel
theorem d_Tu_putEntry_93 : decode cb_Tu_putEntry 93 = .ok (.goto 8, 3) := by decide +kernel
theorem d_Tu_putEntry_96 : decode cb_Tu_putEntry 96 = .ok (.iload 5, 2) := by decide +kernel
theorem d_Tu_putEntry_98 : decode cb_Tu_putEntry 98 = .ok (.invokestatic 194, 3) := by decide +kernel
theorem d_Tu_putEntry_101 : decode cb_Tu_putEntry 101 = .ok (.invokevirtual 149, 3) := by decide +kernel
theorem d_Tu_putEntry_104 : decode cb_Tu_putEntry 104 = .ok (.aload_n 0, 1) := by decide +kernel
theorem d_Tu_putEntry_105 : decode cb_Tu_putEntry 105 = .ok (.iload_n 1, 1) := by decide +kernel
theorem d_Tu_putEntry_106 : decode cb_Tu_putEntry 106 = .ok (.bipush 6, 2) := by decide +kernel
theorem d_Tu_putEntry_108 : decode cb_Tu_putEntry 108 = .ok (.iadd, 1) := by decide +kernel
theorem d_Tu_putEntry_109 : decode cb_Tu_putEntry 109 = .ok (.iload 6, 2) := by decide +kernel
theorem d_Tu_putEntry_111 : decode cb_Tu_putEntry 111 = .ok (.invokevirtual 197, 3) := by decide +kernel
theorem d_Tu_putEntry_114 : decode cb_Tu_putEntry 114 = .ok (.aload_n 0, 1) := by decide +kernel
theorem d_Tu_putEntry_115 : decode cb_Tu_putEntry 115 = .ok (.iload_n 1, 1) := by decide +kernel
theorem d_Tu_putEntry_116 : decode cb_Tu_putEntry 116 = .ok (.bipush 7, 2) := by decide +kernel
theorem d_Tu_putEntry_118 : decode cb_Tu_putEntry 118 = .ok (.iadd, 1) := by decide +kernel
theorem d_Tu_putEntry_119 : decode cb_Tu_putEntry 119 = .ok (.aload_n 0, 1) := by decide +kernel
theorem d_Tu_putEntry_120 : decode cb_Tu_putEntry 120 = .ok (.getfield 23, 3) := by decide +kernel
theorem d_Tu_putEntry_123 : decode cb_Tu_putEntry 123 = .ok (.iload 5, 2) := by decide +kernel
theorem d_Tu_putEntry_125 : decode cb_Tu_putEntry 125 = .ok (.invokevirtual 134, 3) := by decide +kernel
theorem d_Tu_putEntry_128 : decode cb_Tu_putEntry 128 = .ok (.ifCond .eq 7, 3) := by decide +kernel
theorem d_Tu_putEntry_131 : decode cb_Tu_putEntry 131 = .ok (.iconst 2, 1) := by decide +kernel
theorem d_Tu_putEntry_132 : decode cb_Tu_putEntry 132 = .ok (.goto 4, 3) := by decide +kernel
theorem d_Tu_putEntry_135 : decode cb_Tu_putEntry 135 = .ok (.iconst 1, 1) := by decide +kernel
theorem d_Tu_putEntry_136 : decode cb_Tu_putEntry 136 = .ok (.invokevirtual 197, 3) := by decide +kernel
theorem d_Tu_putEntry_139 : decode cb_Tu_putEntry 139 = .ok (.iconst 0, 1) := by decide +kernel
theorem d_Tu_putEntry_140 : decode cb_Tu_putEntry 140 = .ok (.istore 7, 2) := by decide +kernel
theorem d_Tu_putEntry_142 : decode cb_Tu_putEntry 142 = .ok (.iload 7, 2) := by decide +kernel
theorem d_Tu_putEntry_144 : decode cb_Tu_putEntry 144 = .ok (.iload 6, 2) := by decide +kernel
theorem d_Tu_putEntry_146 : decode cb_Tu_putEntry 146 = .ok (.if_icmp .ge 74, 3) := by decide +kernel
theorem d_Tu_putEntry_149 : decode cb_Tu_putEntry 149 = .ok (.iload_n 3, 1) := by decide +kernel
theorem d_Tu_putEntry_150 : decode cb_Tu_putEntry 150 = .ok (.iconst 2, 1) := by decide +kernel
theorem d_Tu_putEntry_151 : decode cb_Tu_putEntry 151 = .ok (.if_icmp .ge 8, 3) := by decide +kernel
theorem d_Tu_putEntry_154 : decode cb_Tu_putEntry 154 = .ok (.bipush 46, 2) := by decide +kernel
theorem d_Tu_putEntry_156 : decode cb_Tu_putEntry 156 = .ok (.goto 43, 3) := by decide +kernel
theorem d_Tu_putEntry_159 : decode cb_Tu_putEntry 159 = .ok (.iload 4, 2) := by decide +kernel
theorem d_Tu_putEntry_161 : decode cb_Tu_putEntry 161 = .ok (.ifCond .eq 17, 3) := by decide +kernel
theorem d_Tu_putEntry_164 : decode cb_Tu_putEntry 164 = .ok (.aload_n 0, 1) := by decide +kernel
theorem d_Tu_putEntry_165 : decode cb_Tu_putEntry 165 = .ok (.getfield 23, 3) := by decide +kernel
theorem d_Tu_putEntry_168 : decode cb_Tu_putEntry 168 = .ok (.iload 5, 2) := by decide +kernel
theorem d_Tu_putEntry_170 : decode cb_Tu_putEntry 170 = .ok (.iload 7, 2) := by decide +kernel
theorem d_Tu_putEntry_172 : decode cb_Tu_putEntry 172 = .ok (.invokevirtual 200, 3) := by decide +kernel
theorem d_Tu_putEntry_175 : decode cb_Tu_putEntry 175 = .ok (.goto 24, 3) := by decide +kernel
theorem d_Tu_putEntry_178 : decode cb_Tu_putEntry 178 = .ok (.iload 7, 2) := by decide +kernel
theorem d_Tu_putEntry_180 : decode cb_Tu_putEntry 180 = .ok (.ldc 203, 2) := by decide +kernel
theorem d_Tu_putEntry_182 : decode cb_Tu_putEntry 182 = .ok (.invokevirtual 205, 3) := by decide +kernel
theorem d_Tu_putEntry_185 : decode cb_Tu_putEntry 185 = .ok (.if_icmp .ge 13, 3) := by decide +kernel
theorem d_Tu_putEntry_188 : decode cb_Tu_putEntry 188 = .ok (.ldc 203, 2) := by decide +kernel
theorem d_Tu_putEntry_190 : decode cb_Tu_putEntry 190 = .ok (.iload 7, 2) := by decide +kernel
theorem d_Tu_putEntry_192 : decode cb_Tu_putEntry 192 = .ok (.invokevirtual 210, 3) := by decide +kernel
theorem d_Tu_putEntry_195 : decode cb_Tu_putEntry 195 = .ok (.goto 4, 3) := by decide +kernel
theorem d_Tu_putEntry_198 : decode cb_Tu_putEntry 198 = .ok (.iconst 0, 1) := by decide +kernel
theorem d_Tu_putEntry_199 : decode cb_Tu_putEntry 199 = .ok (.istore 8, 2) := by decide +kernel
theorem d_Tu_putEntry_201 : decode cb_Tu_putEntry 201 = .ok (.aload_n 0, 1) := by decide +kernel
theorem d_Tu_putEntry_202 : decode cb_Tu_putEntry 202 = .ok (.iload_n 1, 1) := by decide +kernel
theorem d_Tu_putEntry_203 : decode cb_Tu_putEntry 203 = .ok (.bipush 8, 2) := by decide +kernel
theorem d_Tu_putEntry_205 : decode cb_Tu_putEntry 205 = .ok (.iadd, 1) := by decide +kernel
theorem d_Tu_putEntry_206 : decode cb_Tu_putEntry 206 = .ok (.iload 7, 2) := by decide +kernel
theorem d_Tu_putEntry_208 : decode cb_Tu_putEntry 208 = .ok (.iadd, 1) := by decide +kernel
theorem d_Tu_putEntry_209 : decode cb_Tu_putEntry 209 = .ok (.iload 8, 2) := by decide +kernel
theorem d_Tu_putEntry_211 : decode cb_Tu_putEntry 211 = .ok (.invokevirtual 197, 3) := by decide +kernel
theorem d_Tu_putEntry_214 : decode cb_Tu_putEntry 214 = .ok (.iinc 7 1, 3) := by decide +kernel
theorem d_Tu_putEntry_217 : decode cb_Tu_putEntry 217 = .ok (.goto (-75), 3) := by decide +kernel
theorem d_Tu_putEntry_220 : decode cb_Tu_putEntry 220 = .ok (.return_, 1) := by decide +kernel
theorem d_Tu_buildIndirects_0 : decode cb_Tu_buildIndirects 0 = .ok (.aload_n 0, 1) := by decide +kernel
theorem d_Tu_buildIndirects_1 : decode cb_Tu_buildIndirects 1 = .ok (.getfield 31, 3) := by decide +kernel
theorem d_Tu_buildIndirects_4 : decode cb_Tu_buildIndirects 4 = .ok (.iload_n 1, 1) := by decide +kernel
theorem d_Tu_buildIndirects_5 : decode cb_Tu_buildIndirects 5 = .ok (.invokevirtual 214, 3) := by decide +kernel
theorem d_Tu_buildIndirects_8 : decode cb_Tu_buildIndirects 8 = .ok (.aload_n 0, 1) := by decide +kernel
theorem d_Tu_buildIndirects_9 : decode cb_Tu_buildIndirects 9 = .ok (.getfield 31, 3) := by decide +kernel
theorem d_Tu_buildIndirects_12 : decode cb_Tu_buildIndirects 12 = .ok (.iload_n 1, 1) := by decide +kernel
theorem d_Tu_buildIndirects_13 : decode cb_Tu_buildIndirects 13 = .ok (.invokevirtual 217, 3) := by decide +kernel
theorem d_Tu_buildIndirects_16 : decode cb_Tu_buildIndirects 16 = .ok (.istore_n 2, 1) := by decide +kernel
theorem d_Tu_buildIndirects_17 : decode cb_Tu_buildIndirects 17 = .ok (.aload_n 0, 1) := by decide +kernel
theorem d_Tu_buildIndirects_18 : decode cb_Tu_buildIndirects 18 = .ok (.getfield 31, 3) := by decide +kernel
theorem d_Tu_buildIndirects_21 : decode cb_Tu_buildIndirects 21 = .ok (.getfield 220, 3) := by decide +kernel
theorem d_Tu_buildIndirects_24 : decode cb_Tu_buildIndirects 24 = .ok (.invokestatic 223, 3) := by decide +kernel
theorem d_Tu_buildIndirects_27 : decode cb_Tu_buildIndirects 27 = .ok (.istore_n 3, 1) := by decide +kernel
theorem d_Tu_buildIndirects_28 : decode cb_Tu_buildIndirects 28 = .ok (.iload_n 3, 1) := by decide +kernel
theorem d_Tu_buildIndirects_29 : decode cb_Tu_buildIndirects 29 = .ok (.ifCond .le 21, 3) := by decide +kernel
theorem d_Tu_buildIndirects_32 : decode cb_Tu_buildIndirects 32 = .ok (.aload_n 0, 1) := by decide +kernel
theorem d_Tu_buildIndirects_33 : decode cb_Tu_buildIndirects 33 = .ok (.bipush 12, 2) := by decide +kernel
theorem d_Tu_buildIndirects_35 : decode cb_Tu_buildIndirects 35 = .ok (.invokevirtual 226, 3) := by decide +kernel
theorem d_Tu_buildIndirects_38 : decode cb_Tu_buildIndirects 38 = .ok (.aload_n 0, 1) := by decide +kernel
theorem d_Tu_buildIndirects_39 : decode cb_Tu_buildIndirects 39 = .ok (.aload_n 0, 1) := by decide +kernel
theorem d_Tu_buildIndirects_40 : decode cb_Tu_buildIndirects 40 = .ok (.getfield 31, 3) := by decide +kernel
theorem d_Tu_buildIndirects_43 : decode cb_Tu_buildIndirects 43 = .ok (.iload_n 2, 1) := by decide +kernel
theorem d_Tu_buildIndirects_44 : decode cb_Tu_buildIndirects 44 = .ok (.invokevirtual 93, 3) := by decide +kernel
theorem d_Tu_buildIndirects_47 : decode cb_Tu_buildIndirects 47 = .ok (.invokevirtual 178, 3) := by decide +kernel
theorem d_Tu_buildIndirects_50 : decode cb_Tu_buildIndirects 50 = .ok (.iload_n 3, 1) := by decide +kernel
theorem d_Tu_buildIndirects_51 : decode cb_Tu_buildIndirects 51 = .ok (.iconst 1, 1) := by decide +kernel
theorem d_Tu_buildIndirects_52 : decode cb_Tu_buildIndirects 52 = .ok (.if_icmp .le 57, 3) := by decide +kernel
theorem d_Tu_buildIndirects_55 : decode cb_Tu_buildIndirects 55 = .ok (.aload_n 0, 1) := by decide +kernel
theorem d_Tu_buildIndirects_56 : decode cb_Tu_buildIndirects 56 = .ok (.invokevirtual 145, 3) := by decide +kernel
theorem d_Tu_buildIndirects_59 : decode cb_Tu_buildIndirects 59 = .ok (.iconst 2, 1) := by decide +kernel
theorem d_Tu_buildIndirects_60 : decode cb_Tu_buildIndirects 60 = .ok (.istore 4, 2) := by decide +kernel
theorem d_Tu_buildIndirects_62 : decode cb_Tu_buildIndirects 62 = .ok (.iload 4, 2) := by decide +kernel
theorem d_Tu_buildIndirects_64 : decode cb_Tu_buildIndirects 64 = .ok (.iload_n 3, 1) := by decide +kernel
theorem d_Tu_buildIndirects_65 : decode cb_Tu_buildIndirects 65 = .ok (.if_icmp .ge 30, 3) := by decide +kernel
theorem d_Tu_buildIndirects_68 : decode cb_Tu_buildIndirects 68 = .ok (.aload_n 0, 1) := by decide +kernel
theorem d_Tu_buildIndirects_69 : decode cb_Tu_buildIndirects 69 = .ok (.iconst 4, 1) := by decide +kernel
theorem d_Tu_buildIndirects_70 : decode cb_Tu_buildIndirects 70 = .ok (.iload 4, 2) := by decide +kernel
theorem d_Tu_buildIndirects_72 : decode cb_Tu_buildIndirects 72 = .ok (.iconst 2, 1) := by decide +kernel
theorem d_Tu_buildIndirects_73 : decode cb_Tu_buildIndirects 73 = .ok (.isub, 1) := by decide +kernel
theorem d_Tu_buildIndirects_74 : decode cb_Tu_buildIndirects 74 = .ok (.imul, 1) := by decide +kernel
theorem d_Tu_buildIndirects_75 : decode cb_Tu_buildIndirects 75 = .ok (.aload_n 0, 1) := by decide +kernel
theorem d_Tu_buildIndirects_76 : decode cb_Tu_buildIndirects 76 = .ok (.getfield 31, 3) := by decide +kernel
theorem d_Tu_buildIndirects_79 : decode cb_Tu_buildIndirects 79 = .ok (.iload_n 2, 1) := by decide +kernel
theorem d_Tu_buildIndirects_80 : decode cb_Tu_buildIndirects 80 = .ok (.iload 4, 2) := by decide +kernel
theorem d_Tu_buildIndirects_82 : decode cb_Tu_buildIndirects 82 = .ok (.iadd, 1) := by decide +kernel
theorem d_Tu_buildIndirects_83 : decode cb_Tu_buildIndirects 83 = .ok (.invokevirtual 93, 3) := by decide +kernel
theorem d_Tu_buildIndirects_86 : decode cb_Tu_buildIndirects 86 = .ok (.invokevirtual 149, 3) := by decide +kernel
theorem d_Tu_buildIndirects_89 : decode cb_Tu_buildIndirects 89 = .ok (.iinc 4 1, 3) := by decide +kernel
theorem d_Tu_buildIndirects_92 : decode cb_Tu_buildIndirects 92 = .ok (.goto (-30), 3) := by decide +kernel
theorem d_Tu_buildIndirects_95 : decode cb_Tu_buildIndirects 95 = .ok (.aload_n 0, 1) := by decide +kernel
theorem d_Tu_buildIndirects_96 : decode cb_Tu_buildIndirects 96 = .ok (.aload_n 0, 1) := by decide +kernel
theorem d_Tu_buildIndirects_97 : decode cb_Tu_buildIndirects 97 = .ok (.getfield 31, 3) := by decide +kernel
theorem d_Tu_buildIndirects_100 : decode cb_Tu_buildIndirects 100 = .ok (.iload_n 2, 1) := by decide +kernel
theorem d_Tu_buildIndirects_101 : decode cb_Tu_buildIndirects 101 = .ok (.iconst 1, 1) := by decide +kernel
theorem d_Tu_buildIndirects_102 : decode cb_Tu_buildIndirects 102 = .ok (.iadd, 1) := by decide +kernel
theorem d_Tu_buildIndirects_103 : decode cb_Tu_buildIndirects 103 = .ok (.invokevirtual 93, 3) := by decide +kernel
theorem d_Tu_buildIndirects_106 : decode cb_Tu_buildIndirects 106 = .ok (.invokevirtual 178, 3) := by decide +kernel
theorem d_Tu_buildIndirects_109 : decode cb_Tu_buildIndirects 109 = .ok (.iconst 2, 1) := by decide +kernel
theorem d_Tu_buildIndirects_110 : decode cb_Tu_buildIndirects 110 = .ok (.istore 4, 2) := by decide +kernel
theorem d_Tu_buildIndirects_112 : decode cb_Tu_buildIndirects 112 = .ok (.iload 4, 2) := by decide +kernel
theorem d_Tu_buildIndirects_114 : decode cb_Tu_buildIndirects 114 = .ok (.iload_n 3, 1) := by decide +kernel
theorem d_Tu_buildIndirects_115 : decode cb_Tu_buildIndirects 115 = .ok (.if_icmp .ge 39, 3) := by decide +kernel
theorem d_Tu_buildIndirects_118 : decode cb_Tu_buildIndirects 118 = .ok (.aload_n 0, 1) := by decide +kernel
theorem d_Tu_buildIndirects_119 : decode cb_Tu_buildIndirects 119 = .ok (.bipush 12, 2) := by decide +kernel
theorem d_Tu_buildIndirects_121 : decode cb_Tu_buildIndirects 121 = .ok (.iload 4, 2) := by decide +kernel
theorem d_Tu_buildIndirects_123 : decode cb_Tu_buildIndirects 123 = .ok (.iconst 1, 1) := by decide +kernel
theorem d_Tu_buildIndirects_124 : decode cb_Tu_buildIndirects 124 = .ok (.isub, 1) := by decide +kernel
theorem d_Tu_buildIndirects_125 : decode cb_Tu_buildIndirects 125 = .ok (.sipush 256, 3) := by decide +kernel
theorem d_Tu_buildIndirects_128 : decode cb_Tu_buildIndirects 128 = .ok (.imul, 1) := by decide +kernel
theorem d_Tu_buildIndirects_129 : decode cb_Tu_buildIndirects 129 = .ok (.iadd, 1) := by decide +kernel
theorem d_Tu_buildIndirects_130 : decode cb_Tu_buildIndirects 130 = .ok (.invokevirtual 226, 3) := by decide +kernel
theorem d_Tu_buildIndirects_133 : decode cb_Tu_buildIndirects 133 = .ok (.aload_n 0, 1) := by decide +kernel
theorem d_Tu_buildIndirects_134 : decode cb_Tu_buildIndirects 134 = .ok (.aload_n 0, 1) := by decide +kernel
theorem d_Tu_buildIndirects_135 : decode cb_Tu_buildIndirects 135 = .ok (.getfield 31, 3) := by decide +kernel
theorem d_Tu_buildIndirects_138 : decode cb_Tu_buildIndirects 138 = .ok (.iload_n 2, 1) := by decide +kernel
theorem d_Tu_buildIndirects_139 : decode cb_Tu_buildIndirects 139 = .ok (.iload 4, 2) := by decide +kernel
theorem d_Tu_buildIndirects_141 : decode cb_Tu_buildIndirects 141 = .ok (.iadd, 1) := by decide +kernel
theorem d_Tu_buildIndirects_142 : decode cb_Tu_buildIndirects 142 = .ok (.invokevirtual 93, 3) := by decide +kernel
theorem d_Tu_buildIndirects_145 : decode cb_Tu_buildIndirects 145 = .ok (.invokevirtual 178, 3) := by decide +kernel
theorem d_Tu_buildIndirects_148 : decode cb_Tu_buildIndirects 148 = .ok (.iinc 4 1, 3) := by decide +kernel
theorem d_Tu_buildIndirects_151 : decode cb_Tu_buildIndirects 151 = .ok (.goto (-39), 3) := by decide +kernel
theorem d_Tu_buildIndirects_154 : decode cb_Tu_buildIndirects 154 = .ok (.return_, 1) := by decide +kernel
theorem d_Tu_putPointers_0 : decode cb_Tu_putPointers 0 = .ok (.aload_n 0, 1) := by decide +kernel
theorem d_Tu_putPointers_1 : decode cb_Tu_putPointers 1 = .ok (.invokevirtual 145, 3) := by decide +kernel
theorem d_Tu_putPointers_4 : decode cb_Tu_putPointers 4 = .ok (.iconst 0, 1) := by decide +kernel
theorem d_Tu_putPointers_5 : decode cb_Tu_putPointers 5 = .ok (.istore_n 2, 1) := by decide +kernel
theorem d_Tu_putPointers_6 : decode cb_Tu_putPointers 6 = .ok (.iload_n 2, 1) := by decide +kernel
theorem d_Tu_putPointers_7 : decode cb_Tu_putPointers 7 = .ok (.sipush 256, 3) := by decide +kernel
theorem d_Tu_putPointers_10 : decode cb_Tu_putPointers 10 = .ok (.if_icmp .ge 40, 3) := by decide +kernel
theorem d_Tu_putPointers_13 : decode cb_Tu_putPointers 13 = .ok (.iload_n 1, 1) := by decide +kernel
theorem d_Tu_putPointers_14 : decode cb_Tu_putPointers 14 = .ok (.iload_n 2, 1) := by decide +kernel
theorem d_Tu_putPointers_15 : decode cb_Tu_putPointers 15 = .ok (.iadd, 1) := by decide +kernel
theorem d_Tu_putPointers_16 : decode cb_Tu_putPointers 16 = .ok (.aload_n 0, 1) := by decide +kernel
theorem d_Tu_putPointers_17 : decode cb_Tu_putPointers 17 = .ok (.getfield 31, 3) := by decide +kernel
theorem d_Tu_putPointers_20 : decode cb_Tu_putPointers 20 = .ok (.getfield 220, 3) := by decide +kernel
theorem d_Tu_putPointers_23 : decode cb_Tu_putPointers 23 = .ok (.if_icmp .ge 27, 3) := by decide +kernel
theorem d_Tu_putPointers_26 : decode cb_Tu_putPointers 26 = .ok (.aload_n 0, 1) := by decide +kernel
theorem d_Tu_putPointers_27 : decode cb_Tu_putPointers 27 = .ok (.iconst 4, 1) := by decide +kernel
theorem d_Tu_putPointers_28 : decode cb_Tu_putPointers 28 = .ok (.iload_n 2, 1) := by decide +kernel
theorem d_Tu_putPointers_29 : decode cb_Tu_putPointers 29 = .ok (.imul, 1) := by decide +kernel
theorem d_Tu_putPointers_30 : decode cb_Tu_putPointers 30 = .ok (.aload_n 0, 1) := by decide +kernel
theorem d_Tu_putPointers_31 : decode cb_Tu_putPointers 31 = .ok (.getfield 31, 3) := by decide +kernel
theorem d_Tu_putPointers_34 : decode cb_Tu_putPointers 34 = .ok (.getfield 229, 3) := by decide +kernel
theorem d_Tu_putPointers_37 : decode cb_Tu_putPointers 37 = .ok (.iload_n 1, 1) := by decide +kernel
theorem d_Tu_putPointers_38 : decode cb_Tu_putPointers 38 = .ok (.iload_n 2, 1) := by decide +kernel
theorem d_Tu_putPointers_39 : decode cb_Tu_putPointers 39 = .ok (.iadd, 1) := by decide +kernel
theorem d_Tu_putPointers_40 : decode cb_Tu_putPointers 40 = .ok (.iaload, 1) := by decide +kernel
theorem d_Tu_putPointers_41 : decode cb_Tu_putPointers 41 = .ok (.invokevirtual 149, 3) := by decide +kernel
theorem d_Tu_putPointers_44 : decode cb_Tu_putPointers 44 = .ok (.iinc 2 1, 3) := by decide +kernel
theorem d_Tu_putPointers_47 : decode cb_Tu_putPointers 47 = .ok (.goto (-41), 3) := by decide +kernel
theorem d_Tu_putPointers_50 : decode cb_Tu_putPointers 50 = .ok (.return_, 1) := by decide +kernel
theorem d_Tu_putFixed_0 : decode cb_Tu_putFixed 0 = .ok (.iconst 0, 1) := by decide +kernel
theorem d_Tu_putFixed_1 : decode cb_Tu_putFixed 1 = .ok (.istore_n 1, 1) := by decide +kernel
theorem d_Tu_putFixed_2 : decode cb_Tu_putFixed 2 = .ok (.iload_n 1, 1) := by decide +kernel
theorem d_Tu_putFixed_3 : decode cb_Tu_putFixed 3 = .ok (.aload_n 0, 1) := by decide +kernel
theorem d_Tu_putFixed_4 : decode cb_Tu_putFixed 4 = .ok (.getfield 31, 3) := by decide +kernel
theorem d_Tu_putFixed_7 : decode cb_Tu_putFixed 7 = .ok (.getfield 233, 3) := by decide +kernel
theorem d_Tu_putFixed_10 : decode cb_Tu_putFixed 10 = .ok (.if_icmp .ge 140, 3) := by decide +kernel
theorem d_Tu_putFixed_13 : decode cb_Tu_putFixed 13 = .ok (.aload_n 0, 1) := by decide +kernel
theorem d_Tu_putFixed_14 : decode cb_Tu_putFixed 14 = .ok (.getfield 15, 3) := by decide +kernel
theorem d_Tu_putFixed_17 : decode cb_Tu_putFixed 17 = .ok (.invokevirtual 66, 3) := by decide +kernel
theorem d_Tu_putFixed_20 : decode cb_Tu_putFixed 20 = .ok (.ifCond .eq 130, 3) := by decide +kernel
theorem d_Tu_putFixed_23 : decode cb_Tu_putFixed 23 = .ok (.iload_n 1, 1) := by decide +kernel
theorem d_Tu_putFixed_24 : decode cb_Tu_putFixed 24 = .ok (.ifCond .le 38, 3) := by decide +kernel
theorem d_Tu_putFixed_27 : decode cb_Tu_putFixed 27 = .ok (.aload_n 0, 1) := by decide +kernel
theorem d_Tu_putFixed_28 : decode cb_Tu_putFixed 28 = .ok (.iload_n 1, 1) := by decide +kernel
theorem d_Tu_putFixed_29 : decode cb_Tu_putFixed 29 = .ok (.invokevirtual 236, 3) := by decide +kernel
theorem d_Tu_putFixed_32 : decode cb_Tu_putFixed 32 = .ok (.aload_n 0, 1) := by decide +kernel
theorem d_Tu_putFixed_33 : decode cb_Tu_putFixed 33 = .ok (.aload_n 0, 1) := by decide +kernel
theorem d_Tu_putFixed_34 : decode cb_Tu_putFixed 34 = .ok (.getfield 31, 3) := by decide +kernel
theorem d_Tu_putFixed_37 : decode cb_Tu_putFixed 37 = .ok (.iload_n 1, 1) := by decide +kernel
theorem d_Tu_putFixed_38 : decode cb_Tu_putFixed 38 = .ok (.invokevirtual 239, 3) := by decide +kernel
theorem d_Tu_putFixed_41 : decode cb_Tu_putFixed 41 = .ok (.invokevirtual 178, 3) := by decide +kernel
theorem d_Tu_putFixed_44 : decode cb_Tu_putFixed 44 = .ok (.aload_n 0, 1) := by decide +kernel
theorem d_Tu_putFixed_45 : decode cb_Tu_putFixed 45 = .ok (.invokevirtual 242, 3) := by decide +kernel
theorem d_Tu_putFixed_48 : decode cb_Tu_putFixed 48 = .ok (.aload_n 0, 1) := by decide +kernel
theorem d_Tu_putFixed_49 : decode cb_Tu_putFixed 49 = .ok (.aload_n 0, 1) := by decide +kernel
theorem d_Tu_putFixed_50 : decode cb_Tu_putFixed 50 = .ok (.getfield 31, 3) := by decide +kernel
theorem d_Tu_putFixed_53 : decode cb_Tu_putFixed 53 = .ok (.iload_n 1, 1) := by decide +kernel
theorem d_Tu_putFixed_54 : decode cb_Tu_putFixed 54 = .ok (.invokevirtual 239, 3) := by decide +kernel
theorem d_Tu_putFixed_57 : decode cb_Tu_putFixed 57 = .ok (.iconst 1, 1) := by decide +kernel
theorem d_Tu_putFixed_58 : decode cb_Tu_putFixed 58 = .ok (.iadd, 1) := by decide +kernel
theorem d_Tu_putFixed_59 : decode cb_Tu_putFixed 59 = .ok (.invokevirtual 178, 3) := by decide +kernel
theorem d_Tu_putFixed_62 : decode cb_Tu_putFixed 62 = .ok (.aload_n 0, 1) := by decide +kernel
theorem d_Tu_putFixed_63 : decode cb_Tu_putFixed 63 = .ok (.getfield 31, 3) := by decide +kernel
theorem d_Tu_putFixed_66 : decode cb_Tu_putFixed 66 = .ok (.iload_n 1, 1) := by decide +kernel
theorem d_Tu_putFixed_67 : decode cb_Tu_putFixed 67 = .ok (.invokevirtual 245, 3) := by decide +kernel
theorem d_Tu_putFixed_70 : decode cb_Tu_putFixed 70 = .ok (.istore_n 2, 1) := by decide +kernel
theorem d_Tu_putFixed_71 : decode cb_Tu_putFixed 71 = .ok (.aload_n 0, 1) := by decide +kernel
theorem d_Tu_putFixed_72 : decode cb_Tu_putFixed 72 = .ok (.iload_n 1, 1) := by decide +kernel
theorem d_Tu_putFixed_73 : decode cb_Tu_putFixed 73 = .ok (.invokevirtual 248, 3) := by decide +kernel
theorem d_Tu_putFixed_76 : decode cb_Tu_putFixed 76 = .ok (.aload_n 0, 1) := by decide +kernel
theorem d_Tu_putFixed_77 : decode cb_Tu_putFixed 77 = .ok (.iload_n 2, 1) := by decide +kernel
theorem d_Tu_putFixed_78 : decode cb_Tu_putFixed 78 = .ok (.invokevirtual 178, 3) := by decide +kernel
theorem d_Tu_putFixed_81 : decode cb_Tu_putFixed 81 = .ok (.aload_n 0, 1) := by decide +kernel
theorem d_Tu_putFixed_82 : decode cb_Tu_putFixed 82 = .ok (.iload_n 1, 1) := by decide +kernel
theorem d_Tu_putFixed_83 : decode cb_Tu_putFixed 83 = .ok (.invokevirtual 251, 3) := by decide +kernel
theorem d_Tu_putFixed_86 : decode cb_Tu_putFixed 86 = .ok (.aload_n 0, 1) := by decide +kernel
theorem d_Tu_putFixed_87 : decode cb_Tu_putFixed 87 = .ok (.iload_n 2, 1) := by decide +kernel
theorem d_Tu_putFixed_88 : decode cb_Tu_putFixed 88 = .ok (.iconst 1, 1) := by decide +kernel
theorem d_Tu_putFixed_89 : decode cb_Tu_putFixed 89 = .ok (.iadd, 1) := by decide +kernel
theorem d_Tu_putFixed_90 : decode cb_Tu_putFixed 90 = .ok (.invokevirtual 178, 3) := by decide +kernel
theorem d_Tu_putFixed_93 : decode cb_Tu_putFixed 93 = .ok (.iconst 0, 1) := by decide +kernel
theorem d_Tu_putFixed_94 : decode cb_Tu_putFixed 94 = .ok (.istore_n 3, 1) := by decide +kernel
theorem d_Tu_putFixed_95 : decode cb_Tu_putFixed 95 = .ok (.iload_n 3, 1) := by decide +kernel
theorem d_Tu_putFixed_96 : decode cb_Tu_putFixed 96 = .ok (.aload_n 0, 1) := by decide +kernel
theorem d_Tu_putFixed_97 : decode cb_Tu_putFixed 97 = .ok (.getfield 31, 3) := by decide +kernel
theorem d_Tu_putFixed_100 : decode cb_Tu_putFixed 100 = .ok (.getfield 155, 3) := by decide +kernel
theorem d_Tu_putFixed_103 : decode cb_Tu_putFixed 103 = .ok (.bipush 8, 2) := by decide +kernel
theorem d_Tu_putFixed_105 : decode cb_Tu_putFixed 105 = .ok (.idiv, 1) := by decide +kernel
theorem d_Tu_putFixed_106 : decode cb_Tu_putFixed 106 = .ok (.if_icmp .ge 38, 3) := by decide +kernel
theorem d_Tu_putFixed_109 : decode cb_Tu_putFixed 109 = .ok (.aload_n 0, 1) := by decide +kernel
theorem d_Tu_putFixed_110 : decode cb_Tu_putFixed 110 = .ok (.iload_n 1, 1) := by decide +kernel
theorem d_Tu_putFixed_111 : decode cb_Tu_putFixed 111 = .ok (.aload_n 0, 1) := by decide +kernel
theorem d_Tu_putFixed_112 : decode cb_Tu_putFixed 112 = .ok (.getfield 31, 3) := by decide +kernel
theorem d_Tu_putFixed_115 : decode cb_Tu_putFixed 115 = .ok (.getfield 155, 3) := by decide +kernel
theorem d_Tu_putFixed_118 : decode cb_Tu_putFixed 118 = .ok (.imul, 1) := by decide +kernel
theorem d_Tu_putFixed_119 : decode cb_Tu_putFixed 119 = .ok (.bipush 8, 2) := by decide +kernel
theorem d_Tu_putFixed_121 : decode cb_Tu_putFixed 121 = .ok (.iload_n 3, 1) := by decide +kernel
theorem d_Tu_putFixed_122 : decode cb_Tu_putFixed 122 = .ok (.imul, 1) := by decide +kernel
theorem d_Tu_putFixed_123 : decode cb_Tu_putFixed 123 = .ok (.iadd, 1) := by decide +kernel
theorem d_Tu_putFixed_124 : decode cb_Tu_putFixed 124 = .ok (.iconst 1, 1) := by decide +kernel
theorem d_Tu_putFixed_125 : decode cb_Tu_putFixed 125 = .ok (.iadd, 1) := by decide +kernel
theorem d_Tu_putFixed_126 : decode cb_Tu_putFixed 126 = .ok (.invokevirtual 254, 3) := by decide +kernel
theorem d_Tu_putFixed_129 : decode cb_Tu_putFixed 129 = .ok (.aload_n 0, 1) := by decide +kernel
theorem d_Tu_putFixed_130 : decode cb_Tu_putFixed 130 = .ok (.iload_n 2, 1) := by decide +kernel
theorem d_Tu_putFixed_131 : decode cb_Tu_putFixed 131 = .ok (.iconst 2, 1) := by decide +kernel
theorem d_Tu_putFixed_132 : decode cb_Tu_putFixed 132 = .ok (.iadd, 1) := by decide +kernel
theorem d_Tu_putFixed_133 : decode cb_Tu_putFixed 133 = .ok (.iload_n 3, 1) := by decide +kernel
theorem d_Tu_putFixed_134 : decode cb_Tu_putFixed 134 = .ok (.iadd, 1) := by decide +kernel
theorem d_Tu_putFixed_135 : decode cb_Tu_putFixed 135 = .ok (.invokevirtual 178, 3) := by decide +kernel
theorem d_Tu_putFixed_138 : decode cb_Tu_putFixed 138 = .ok (.iinc 3 1, 3) := by decide +kernel
theorem d_Tu_putFixed_141 : decode cb_Tu_putFixed 141 = .ok (.goto (-46), 3) := by decide +kernel
theorem d_Tu_putFixed_144 : decode cb_Tu_putFixed 144 = .ok (.iinc 1 1, 3) := by decide +kernel
theorem d_Tu_putFixed_147 : decode cb_Tu_putFixed 147 = .ok (.goto (-145), 3) := by decide +kernel
theorem d_Tu_putFixed_150 : decode cb_Tu_putFixed 150 = .ok (.aload_n 0, 1) := by decide +kernel
theorem d_Tu_putFixed_151 : decode cb_Tu_putFixed 151 = .ok (.invokevirtual 242, 3) := by decide +kernel
theorem d_Tu_putFixed_154 : decode cb_Tu_putFixed 154 = .ok (.aload_n 0, 1) := by decide +kernel
theorem d_Tu_putFixed_155 : decode cb_Tu_putFixed 155 = .ok (.iconst 2, 1) := by decide +kernel
theorem d_Tu_putFixed_156 : decode cb_Tu_putFixed 156 = .ok (.invokevirtual 178, 3) := by decide +kernel
theorem d_Tu_putFixed_159 : decode cb_Tu_putFixed 159 = .ok (.aload_n 0, 1) := by decide +kernel
theorem d_Tu_putFixed_160 : decode cb_Tu_putFixed 160 = .ok (.iconst 0, 1) := by decide +kernel
theorem d_Tu_putFixed_161 : decode cb_Tu_putFixed 161 = .ok (.invokevirtual 236, 3) := by decide +kernel
theorem d_Tu_putFixed_164 : decode cb_Tu_putFixed 164 = .ok (.aload_n 0, 1) := by decide +kernel
theorem d_Tu_putFixed_165 : decode cb_Tu_putFixed 165 = .ok (.getfield 15, 3) := by decide +kernel
theorem d_Tu_putFixed_168 : decode cb_Tu_putFixed 168 = .ok (.iconst 3, 1) := by decide +kernel
theorem d_Tu_putFixed_169 : decode cb_Tu_putFixed 169 = .ok (.aload_n 0, 1) := by decide +kernel
theorem d_Tu_putFixed_170 : decode cb_Tu_putFixed 170 = .ok (.getfield 9, 3) := by decide +kernel
theorem d_Tu_putFixed_173 : decode cb_Tu_putFixed 173 = .ok (.sipush 512, 3) := by decide +kernel
theorem d_Tu_putFixed_176 : decode cb_Tu_putFixed 176 = .ok (.invokevirtual 117, 3) := by decide +kernel
theorem d_Tu_putFixed_179 : decode cb_Tu_putFixed 179 = .ok (.aload_n 0, 1) := by decide +kernel
theorem d_Tu_putFixed_180 : decode cb_Tu_putFixed 180 = .ok (.getfield 15, 3) := by decide +kernel
theorem d_Tu_putFixed_183 : decode cb_Tu_putFixed 183 = .ok (.iconst 2, 1) := by decide +kernel
theorem d_Tu_putFixed_184 : decode cb_Tu_putFixed 184 = .ok (.aload_n 0, 1) := by decide +kernel
theorem d_Tu_putFixed_185 : decode cb_Tu_putFixed 185 = .ok (.getfield 9, 3) := by decide +kernel
theorem d_Tu_putFixed_188 : decode cb_Tu_putFixed 188 = .ok (.iconst 0, 1) := by decide +kernel
theorem d_Tu_putFixed_189 : decode cb_Tu_putFixed 189 = .ok (.invokevirtual 117, 3) := by decide +kernel
theorem d_Tu_putFixed_192 : decode cb_Tu_putFixed 192 = .ok (.return_, 1) := by decide +kernel
theorem d_Tu_fillSuperblock_0 : decode cb_Tu_fillSuperblock 0 = .ok (.aload_n 0, 1) := by decide +kernel
theorem d_Tu_fillSuperblock_1 : decode cb_Tu_fillSuperblock 1 = .ok (.invokevirtual 145, 3) := by decide +kernel
theorem d_Tu_fillSuperblock_4 : decode cb_Tu_fillSuperblock 4 = .ok (.aload_n 0, 1) := by decide +kernel
theorem d_Tu_fillSuperblock_5 : decode cb_Tu_fillSuperblock 5 = .ok (.iconst 0, 1) := by decide +kernel
theorem d_Tu_fillSuperblock_6 : decode cb_Tu_fillSuperblock 6 = .ok (.aload_n 0, 1) := by decide +kernel
theorem d_Tu_fillSuperblock_7 : decode cb_Tu_fillSuperblock 7 = .ok (.getfield 31, 3) := by decide +kernel
theorem d_Tu_fillSuperblock_10 : decode cb_Tu_fillSuperblock 10 = .ok (.getfield 233, 3) := by decide +kernel
theorem d_Tu_fillSuperblock_13 : decode cb_Tu_fillSuperblock 13 = .ok (.aload_n 0, 1) := by decide +kernel
theorem d_Tu_fillSuperblock_14 : decode cb_Tu_fillSuperblock 14 = .ok (.getfield 31, 3) := by decide +kernel
theorem d_Tu_fillSuperblock_17 : decode cb_Tu_fillSuperblock 17 = .ok (.getfield 155, 3) := by decide +kernel
theorem d_Tu_fillSuperblock_20 : decode cb_Tu_fillSuperblock 20 = .ok (.imul, 1) := by decide +kernel
theorem d_Tu_fillSuperblock_21 : decode cb_Tu_fillSuperblock 21 = .ok (.invokevirtual 149, 3) := by decide +kernel
theorem d_Tu_fillSuperblock_24 : decode cb_Tu_fillSuperblock 24 = .ok (.aload_n 0, 1) := by decide +kernel
theorem d_Tu_fillSuperblock_25 : decode cb_Tu_fillSuperblock 25 = .ok (.iconst 4, 1) := by decide +kernel
theorem d_Tu_fillSuperblock_26 : decode cb_Tu_fillSuperblock 26 = .ok (.aload_n 0, 1) := by decide +kernel
theorem d_Tu_fillSuperblock_27 : decode cb_Tu_fillSuperblock 27 = .ok (.getfield 31, 3) := by decide +kernel
theorem d_Tu_fillSuperblock_30 : decode cb_Tu_fillSuperblock 30 = .ok (.getfield 257, 3) := by decide +kernel
theorem d_Tu_fillSuperblock_33 : decode cb_Tu_fillSuperblock 33 = .ok (.invokevirtual 149, 3) := by decide +kernel
theorem d_Tu_fillSuperblock_36 : decode cb_Tu_fillSuperblock 36 = .ok (.aload_n 0, 1) := by decide +kernel
theorem d_Tu_fillSuperblock_37 : decode cb_Tu_fillSuperblock 37 = .ok (.bipush 12, 2) := by decide +kernel
theorem d_Tu_fillSuperblock_39 : decode cb_Tu_fillSuperblock 39 = .ok (.aload_n 0, 1) := by decide +kernel
theorem d_Tu_fillSuperblock_40 : decode cb_Tu_fillSuperblock 40 = .ok (.getfield 31, 3) := by decide +kernel
theorem d_Tu_fillSuperblock_43 : decode cb_Tu_fillSuperblock 43 = .ok (.getfield 260, 3) := by decide +kernel
theorem d_Tu_fillSuperblock_46 : decode cb_Tu_fillSuperblock 46 = .ok (.invokevirtual 149, 3) := by decide +kernel
theorem d_Tu_fillSuperblock_49 : decode cb_Tu_fillSuperblock 49 = .ok (.aload_n 0, 1) := by decide +kernel
theorem d_Tu_fillSuperblock_50 : decode cb_Tu_fillSuperblock 50 = .ok (.bipush 16, 2) := by decide +kernel
theorem d_Tu_fillSuperblock_52 : decode cb_Tu_fillSuperblock 52 = .ok (.aload_n 0, 1) := by decide +kernel
theorem d_Tu_fillSuperblock_53 : decode cb_Tu_fillSuperblock 53 = .ok (.getfield 31, 3) := by decide +kernel
theorem d_Tu_fillSuperblock_56 : decode cb_Tu_fillSuperblock 56 = .ok (.getfield 233, 3) := by decide +kernel
theorem d_Tu_fillSuperblock_59 : decode cb_Tu_fillSuperblock 59 = .ok (.aload_n 0, 1) := by decide +kernel
theorem d_Tu_fillSuperblock_60 : decode cb_Tu_fillSuperblock 60 = .ok (.getfield 31, 3) := by decide +kernel
theorem d_Tu_fillSuperblock_63 : decode cb_Tu_fillSuperblock 63 = .ok (.getfield 155, 3) := by decide +kernel
theorem d_Tu_fillSuperblock_66 : decode cb_Tu_fillSuperblock 66 = .ok (.imul, 1) := by decide +kernel
theorem d_Tu_fillSuperblock_67 : decode cb_Tu_fillSuperblock 67 = .ok (.aload_n 0, 1) := by decide +kernel
theorem d_Tu_fillSuperblock_68 : decode cb_Tu_fillSuperblock 68 = .ok (.getfield 31, 3) := by decide +kernel
theorem d_Tu_fillSuperblock_71 : decode cb_Tu_fillSuperblock 71 = .ok (.invokevirtual 263, 3) := by decide +kernel
theorem d_Tu_fillSuperblock_74 : decode cb_Tu_fillSuperblock 74 = .ok (.isub, 1) := by decide +kernel
theorem d_Tu_fillSuperblock_75 : decode cb_Tu_fillSuperblock 75 = .ok (.invokevirtual 149, 3) := by decide +kernel
theorem d_Tu_fillSuperblock_78 : decode cb_Tu_fillSuperblock 78 = .ok (.aload_n 0, 1) := by decide +kernel
theorem d_Tu_fillSuperblock_79 : decode cb_Tu_fillSuperblock 79 = .ok (.bipush 20, 2) := by decide +kernel
theorem d_Tu_fillSuperblock_81 : decode cb_Tu_fillSuperblock 81 = .ok (.iconst 1, 1) := by decide +kernel
theorem d_Tu_fillSuperblock_82 : decode cb_Tu_fillSuperblock 82 = .ok (.invokevirtual 149, 3) := by decide +kernel
theorem d_Tu_fillSuperblock_85 : decode cb_Tu_fillSuperblock 85 = .ok (.aload_n 0, 1) := by decide +kernel
theorem d_Tu_fillSuperblock_86 : decode cb_Tu_fillSuperblock 86 = .ok (.bipush 32, 2) := by decide +kernel
theorem d_Tu_fillSuperblock_88 : decode cb_Tu_fillSuperblock 88 = .ok (.aload_n 0, 1) := by decide +kernel
theorem d_Tu_fillSuperblock_89 : decode cb_Tu_fillSuperblock 89 = .ok (.getfield 31, 3) := by decide +kernel
theorem d_Tu_fillSuperblock_92 : decode cb_Tu_fillSuperblock 92 = .ok (.getfield 152, 3) := by decide +kernel
theorem d_Tu_fillSuperblock_95 : decode cb_Tu_fillSuperblock 95 = .ok (.invokevirtual 149, 3) := by decide +kernel
theorem d_Tu_fillSuperblock_98 : decode cb_Tu_fillSuperblock 98 = .ok (.aload_n 0, 1) := by decide +kernel
theorem d_Tu_fillSuperblock_99 : decode cb_Tu_fillSuperblock 99 = .ok (.bipush 36, 2) := by decide +kernel
theorem d_Tu_fillSuperblock_101 : decode cb_Tu_fillSuperblock 101 = .ok (.aload_n 0, 1) := by decide +kernel
theorem d_Tu_fillSuperblock_102 : decode cb_Tu_fillSuperblock 102 = .ok (.getfield 31, 3) := by decide +kernel
theorem d_Tu_fillSuperblock_105 : decode cb_Tu_fillSuperblock 105 = .ok (.getfield 152, 3) := by decide +kernel
theorem d_Tu_fillSuperblock_108 : decode cb_Tu_fillSuperblock 108 = .ok (.invokevirtual 149, 3) := by decide +kernel
theorem d_Tu_fillSuperblock_111 : decode cb_Tu_fillSuperblock 111 = .ok (.aload_n 0, 1) := by decide +kernel
theorem d_Tu_fillSuperblock_112 : decode cb_Tu_fillSuperblock 112 = .ok (.bipush 40, 2) := by decide +kernel
theorem d_Tu_fillSuperblock_114 : decode cb_Tu_fillSuperblock 114 = .ok (.aload_n 0, 1) := by decide +kernel
theorem d_Tu_fillSuperblock_115 : decode cb_Tu_fillSuperblock 115 = .ok (.getfield 31, 3) := by decide +kernel
theorem d_Tu_fillSuperblock_118 : decode cb_Tu_fillSuperblock 118 = .ok (.getfield 155, 3) := by decide +kernel
theorem d_Tu_fillSuperblock_121 : decode cb_Tu_fillSuperblock 121 = .ok (.invokevirtual 149, 3) := by decide +kernel
theorem d_Tu_fillSuperblock_124 : decode cb_Tu_fillSuperblock 124 = .ok (.aload_n 0, 1) := by decide +kernel
theorem d_Tu_fillSuperblock_125 : decode cb_Tu_fillSuperblock 125 = .ok (.bipush 54, 2) := by decide +kernel
theorem d_Tu_fillSuperblock_127 : decode cb_Tu_fillSuperblock 127 = .ok (.ldc_w 266, 3) := by decide +kernel
theorem d_Tu_fillSuperblock_130 : decode cb_Tu_fillSuperblock 130 = .ok (.invokevirtual 175, 3) := by decide +kernel
theorem d_Tu_fillSuperblock_133 : decode cb_Tu_fillSuperblock 133 = .ok (.aload_n 0, 1) := by decide +kernel
theorem d_Tu_fillSuperblock_134 : decode cb_Tu_fillSuperblock 134 = .ok (.bipush 56, 2) := by decide +kernel
theorem d_Tu_fillSuperblock_136 : decode cb_Tu_fillSuperblock 136 = .ok (.ldc_w 267, 3) := by decide +kernel
theorem d_Tu_fillSuperblock_139 : decode cb_Tu_fillSuperblock 139 = .ok (.invokevirtual 175, 3) := by decide +kernel
theorem d_Tu_fillSuperblock_142 : decode cb_Tu_fillSuperblock 142 = .ok (.aload_n 0, 1) := by decide +kernel
theorem d_Tu_fillSuperblock_143 : decode cb_Tu_fillSuperblock 143 = .ok (.bipush 58, 2) := by decide +kernel
theorem d_Tu_fillSuperblock_145 : decode cb_Tu_fillSuperblock 145 = .ok (.iconst 1, 1) := by decide +kernel
theorem d_Tu_fillSuperblock_146 : decode cb_Tu_fillSuperblock 146 = .ok (.invokevirtual 175, 3) := by decide +kernel
theorem d_Tu_fillSuperblock_149 : decode cb_Tu_fillSuperblock 149 = .ok (.aload_n 0, 1) := by decide +kernel
theorem d_Tu_fillSuperblock_150 : decode cb_Tu_fillSuperblock 150 = .ok (.bipush 60, 2) := by decide +kernel
theorem d_Tu_fillSuperblock_152 : decode cb_Tu_fillSuperblock 152 = .ok (.iconst 1, 1) := by decide +kernel
theorem d_Tu_fillSuperblock_153 : decode cb_Tu_fillSuperblock 153 = .ok (.invokevirtual 175, 3) := by decide +kernel
theorem d_Tu_fillSuperblock_156 : decode cb_Tu_fillSuperblock 156 = .ok (.aload_n 0, 1) := by decide +kernel
theorem d_Tu_fillSuperblock_157 : decode cb_Tu_fillSuperblock 157 = .ok (.bipush 76, 2) := by decide +kernel
theorem d_Tu_fillSuperblock_159 : decode cb_Tu_fillSuperblock 159 = .ok (.iconst 1, 1) := by decide +kernel
theorem d_Tu_fillSuperblock_160 : decode cb_Tu_fillSuperblock 160 = .ok (.invokevirtual 149, 3) := by decide +kernel
theorem d_Tu_fillSuperblock_163 : decode cb_Tu_fillSuperblock 163 = .ok (.aload_n 0, 1) := by decide +kernel
theorem d_Tu_fillSuperblock_164 : decode cb_Tu_fillSuperblock 164 = .ok (.bipush 84, 2) := by decide +kernel
theorem d_Tu_fillSuperblock_166 : decode cb_Tu_fillSuperblock 166 = .ok (.bipush 11, 2) := by decide +kernel
theorem d_Tu_fillSuperblock_168 : decode cb_Tu_fillSuperblock 168 = .ok (.invokevirtual 149, 3) := by decide +kernel
theorem d_Tu_fillSuperblock_171 : decode cb_Tu_fillSuperblock 171 = .ok (.aload_n 0, 1) := by decide +kernel
theorem d_Tu_fillSuperblock_172 : decode cb_Tu_fillSuperblock 172 = .ok (.bipush 88, 2) := by decide +kernel
theorem d_Tu_fillSuperblock_174 : decode cb_Tu_fillSuperblock 174 = .ok (.sipush 128, 3) := by decide +kernel
theorem d_Tu_fillSuperblock_177 : decode cb_Tu_fillSuperblock 177 = .ok (.invokevirtual 175, 3) := by decide +kernel
theorem d_Tu_fillSuperblock_180 : decode cb_Tu_fillSuperblock 180 = .ok (.aload_n 0, 1) := by decide +kernel
theorem d_Tu_fillSuperblock_181 : decode cb_Tu_fillSuperblock 181 = .ok (.bipush 90, 2) := by decide +kernel
theorem d_Tu_fillSuperblock_183 : decode cb_Tu_fillSuperblock 183 = .ok (.iload_n 1, 1) := by decide +kernel
theorem d_Tu_fillSuperblock_184 : decode cb_Tu_fillSuperblock 184 = .ok (.invokevirtual 175, 3) := by decide +kernel
theorem d_Tu_fillSuperblock_187 : decode cb_Tu_fillSuperblock 187 = .ok (.aload_n 0, 1) := by decide +kernel
theorem d_Tu_fillSuperblock_188 : decode cb_Tu_fillSuperblock 188 = .ok (.bipush 96, 2) := by decide +kernel
theorem d_Tu_fillSuperblock_190 : decode cb_Tu_fillSuperblock 190 = .ok (.iconst 2, 1) := by decide +kernel
theorem d_Tu_fillSuperblock_191 : decode cb_Tu_fillSuperblock 191 = .ok (.invokevirtual 149, 3) := by decide +kernel
theorem d_Tu_fillSuperblock_194 : decode cb_Tu_fillSuperblock 194 = .ok (.aload_n 0, 1) := by decide +kernel
theorem d_Tu_fillSuperblock_195 : decode cb_Tu_fillSuperblock 195 = .ok (.bipush 104, 2) := by decide +kernel
theorem d_Tu_fillSuperblock_197 : decode cb_Tu_fillSuperblock 197 = .ok (.aload_n 0, 1) := by decide +kernel
theorem d_Tu_fillSuperblock_198 : decode cb_Tu_fillSuperblock 198 = .ok (.getfield 15, 3) := by decide +kernel
theorem d_Tu_fillSuperblock_201 : decode cb_Tu_fillSuperblock 201 = .ok (.bipush 67, 2) := by decide +kernel
theorem d_Tu_fillSuperblock_203 : decode cb_Tu_fillSuperblock 203 = .ok (.invokevirtual 268, 3) := by decide +kernel
theorem d_Tu_fillSuperblock_206 : decode cb_Tu_fillSuperblock 206 = .ok (.invokevirtual 149, 3) := by decide +kernel
theorem d_Tu_fillSuperblock_209 : decode cb_Tu_fillSuperblock 209 = .ok (.aload_n 0, 1) := by decide +kernel
theorem d_Tu_fillSuperblock_210 : decode cb_Tu_fillSuperblock 210 = .ok (.getfield 23, 3) := by decide +kernel
theorem d_Tu_fillSuperblock_213 : decode cb_Tu_fillSuperblock 213 = .ok (.getfield 271, 3) := by decide +kernel
theorem d_Tu_fillSuperblock_216 : decode cb_Tu_fillSuperblock 216 = .ok (.iconst (-1), 1) := by decide +kernel
theorem d_Tu_fillSuperblock_217 : decode cb_Tu_fillSuperblock 217 = .ok (.if_icmp .eq 7, 3) := by decide +kernel
theorem d_Tu_fillSuperblock_220 : decode cb_Tu_fillSuperblock 220 = .ok (.aload_n 0, 1) := by decide +kernel
theorem d_Tu_fillSuperblock_221 : decode cb_Tu_fillSuperblock 221 = .ok (.invokevirtual 274, 3) := by decide +kernel
theorem d_Tu_fillSuperblock_224 : decode cb_Tu_fillSuperblock 224 = .ok (.return_, 1) := by decide +kernel
theorem d_Tu_putLabel_0 : decode cb_Tu_putLabel 0 = .ok (.bipush 11, 2) := by decide +kernel
theorem d_Tu_putLabel_2 : decode cb_Tu_putLabel 2 = .ok (.istore_n 1, 1) := by decide +kernel
theorem d_Tu_putLabel_3 : decode cb_Tu_putLabel 3 = .ok (.iload_n 1, 1) := by decide +kernel
theorem d_Tu_putLabel_4 : decode cb_Tu_putLabel 4 = .ok (.ifCond .le 32, 3) := by decide +kernel
theorem d_Tu_putLabel_7 : decode cb_Tu_putLabel 7 = .ok (.aload_n 0, 1) := by decide +kernel
theorem d_Tu_putLabel_8 : decode cb_Tu_putLabel 8 = .ok (.getfield 15, 3) := by decide +kernel
theorem d_Tu_putLabel_11 : decode cb_Tu_putLabel 11 = .ok (.aload_n 0, 1) := by decide +kernel
theorem d_Tu_putLabel_12 : decode cb_Tu_putLabel 12 = .ok (.getfield 23, 3) := by decide +kernel
theorem d_Tu_putLabel_15 : decode cb_Tu_putLabel 15 = .ok (.getfield 271, 3) := by decide +kernel
theorem d_Tu_putLabel_18 : decode cb_Tu_putLabel 18 = .ok (.iload_n 1, 1) := by decide +kernel
theorem d_Tu_putLabel_19 : decode cb_Tu_putLabel 19 = .ok (.iadd, 1) := by decide +kernel
theorem d_Tu_putLabel_20 : decode cb_Tu_putLabel 20 = .ok (.iconst 1, 1) := by decide +kernel
theorem d_Tu_putLabel_21 : decode cb_Tu_putLabel 21 = .ok (.isub, 1) := by decide +kernel
theorem d_Tu_putLabel_22 : decode cb_Tu_putLabel 22 = .ok (.invokevirtual 277, 3) := by decide +kernel
theorem d_Tu_putLabel_25 : decode cb_Tu_putLabel 25 = .ok (.bipush 32, 2) := by decide +kernel
theorem d_Tu_putLabel_27 : decode cb_Tu_putLabel 27 = .ok (.if_icmp .ne 9, 3) := by decide +kernel
theorem d_Tu_putLabel_30 : decode cb_Tu_putLabel 30 = .ok (.iinc 1 (-1), 3) := by decide +kernel
theorem d_Tu_putLabel_33 : decode cb_Tu_putLabel 33 = .ok (.goto (-30), 3) := by decide +kernel
theorem d_Tu_putLabel_36 : decode cb_Tu_putLabel 36 = .ok (.iconst 0, 1) := by decide +kernel
theorem d_Tu_putLabel_37 : decode cb_Tu_putLabel 37 = .ok (.istore_n 2, 1) := by decide +kernel
theorem d_Tu_putLabel_38 : decode cb_Tu_putLabel 38 = .ok (.iload_n 2, 1) := by decide +kernel
theorem d_Tu_putLabel_39 : decode cb_Tu_putLabel 39 = .ok (.iload_n 1, 1) := by decide +kernel
theorem d_Tu_putLabel_40 : decode cb_Tu_putLabel 40 = .ok (.if_icmp .ge 33, 3) := by decide +kernel
theorem d_Tu_putLabel_43 : decode cb_Tu_putLabel 43 = .ok (.aload_n 0, 1) := by decide +kernel
theorem d_Tu_putLabel_44 : decode cb_Tu_putLabel 44 = .ok (.bipush 120, 2) := by decide +kernel
theorem d_Tu_putLabel_46 : decode cb_Tu_putLabel 46 = .ok (.iload_n 2, 1) := by decide +kernel
theorem d_Tu_putLabel_47 : decode cb_Tu_putLabel 47 = .ok (.iadd, 1) := by decide +kernel
theorem d_Tu_putLabel_48 : decode cb_Tu_putLabel 48 = .ok (.aload_n 0, 1) := by decide +kernel
theorem d_Tu_putLabel_49 : decode cb_Tu_putLabel 49 = .ok (.getfield 15, 3) := by decide +kernel
theorem d_Tu_putLabel_52 : decode cb_Tu_putLabel 52 = .ok (.aload_n 0, 1) := by decide +kernel
theorem d_Tu_putLabel_53 : decode cb_Tu_putLabel 53 = .ok (.getfield 23, 3) := by decide +kernel
theorem d_Tu_putLabel_56 : decode cb_Tu_putLabel 56 = .ok (.getfield 271, 3) := by decide +kernel
theorem d_Tu_putLabel_59 : decode cb_Tu_putLabel 59 = .ok (.iload_n 2, 1) := by decide +kernel
theorem d_Tu_putLabel_60 : decode cb_Tu_putLabel 60 = .ok (.iadd, 1) := by decide +kernel
theorem d_Tu_putLabel_61 : decode cb_Tu_putLabel 61 = .ok (.invokevirtual 277, 3) := by decide +kernel
theorem d_Tu_putLabel_64 : decode cb_Tu_putLabel 64 = .ok (.invokevirtual 197, 3) := by decide +kernel
theorem d_Tu_putLabel_67 : decode cb_Tu_putLabel 67 = .ok (.iinc 2 1, 3) := by decide +kernel
theorem d_Tu_putLabel_70 : decode cb_Tu_putLabel 70 = .ok (.goto (-32), 3) := by decide +kernel
theorem d_Tu_putLabel_73 : decode cb_Tu_putLabel 73 = .ok (.return_, 1) := by decide +kernel
theorem d_Tu_fillDescriptors_0 : decode cb_Tu_fillDescriptors 0 = .ok (.aload_n 0, 1) := by decide +kernel
theorem d_Tu_fillDescriptors_1 : decode cb_Tu_fillDescriptors 1 = .ok (.invokevirtual 145, 3) := by decide +kernel
theorem d_Tu_fillDescriptors_4 : decode cb_Tu_fillDescriptors 4 = .ok (.iconst 0, 1) := by decide +kernel
theorem d_Tu_fillDescriptors_5 : decode cb_Tu_fillDescriptors 5 = .ok (.istore_n 1, 1) := by decide +kernel
theorem d_Tu_fillDescriptors_6 : decode cb_Tu_fillDescriptors 6 = .ok (.iload_n 1, 1) := by decide +kernel
theorem d_Tu_fillDescriptors_7 : decode cb_Tu_fillDescriptors 7 = .ok (.aload_n 0, 1) := by decide +kernel
theorem d_Tu_fillDescriptors_8 : decode cb_Tu_fillDescriptors 8 = .ok (.getfield 31, 3) := by decide +kernel
theorem d_Tu_fillDescriptors_11 : decode cb_Tu_fillDescriptors 11 = .ok (.getfield 233, 3) := by decide +kernel
theorem d_Tu_fillDescriptors_14 : decode cb_Tu_fillDescriptors 14 = .ok (.if_icmp .ge 107, 3) := by decide +kernel
theorem d_Tu_fillDescriptors_17 : decode cb_Tu_fillDescriptors 17 = .ok (.iload_n 1, 1) := by decide +kernel
theorem d_Tu_fillDescriptors_18 : decode cb_Tu_fillDescriptors 18 = .ok (.bipush 32, 2) := by decide +kernel
theorem d_Tu_fillDescriptors_20 : decode cb_Tu_fillDescriptors 20 = .ok (.imul, 1) := by decide +kernel
theorem d_Tu_fillDescriptors_21 : decode cb_Tu_fillDescriptors 21 = .ok (.istore_n 2, 1) := by decide +kernel
theorem d_Tu_fillDescriptors_22 : decode cb_Tu_fillDescriptors 22 = .ok (.aload_n 0, 1) := by decide +kernel
theorem d_Tu_fillDescriptors_23 : decode cb_Tu_fillDescriptors 23 = .ok (.iload_n 2, 1) := by decide +kernel
theorem d_Tu_fillDescriptors_24 : decode cb_Tu_fillDescriptors 24 = .ok (.aload_n 0, 1) := by decide +kernel
theorem d_Tu_fillDescriptors_25 : decode cb_Tu_fillDescriptors 25 = .ok (.getfield 31, 3) := by decide +kernel
theorem d_Tu_fillDescriptors_28 : decode cb_Tu_fillDescriptors 28 = .ok (.iload_n 1, 1) := by decide +kernel
theorem d_Tu_fillDescriptors_29 : decode cb_Tu_fillDescriptors 29 = .ok (.invokevirtual 245, 3) := by decide +kernel
theorem d_Tu_fillDescriptors_32 : decode cb_Tu_fillDescriptors 32 = .ok (.invokevirtual 149, 3) := by decide +kernel
theorem d_Tu_fillDescriptors_35 : decode cb_Tu_fillDescriptors 35 = .ok (.aload_n 0, 1) := by decide +kernel
theorem d_Tu_fillDescriptors_36 : decode cb_Tu_fillDescriptors 36 = .ok (.iload_n 2, 1) := by decide +kernel
theorem d_Tu_fillDescriptors_37 : decode cb_Tu_fillDescriptors 37 = .ok (.iconst 4, 1) := by decide +kernel
theorem d_Tu_fillDescriptors_38 : decode cb_Tu_fillDescriptors 38 = .ok (.iadd, 1) := by decide +kernel
theorem d_Tu_fillDescriptors_39 : decode cb_Tu_fillDescriptors 39 = .ok (.aload_n 0, 1) := by decide +kernel
theorem d_Tu_fillDescriptors_40 : decode cb_Tu_fillDescriptors 40 = .ok (.getfield 31, 3) := by decide +kernel
theorem d_Tu_fillDescriptors_43 : decode cb_Tu_fillDescriptors 43 = .ok (.iload_n 1, 1) := by decide +kernel
theorem d_Tu_fillDescriptors_44 : decode cb_Tu_fillDescriptors 44 = .ok (.invokevirtual 245, 3) := by decide +kernel
theorem d_Tu_fillDescriptors_47 : decode cb_Tu_fillDescriptors 47 = .ok (.iconst 1, 1) := by decide +kernel
theorem d_Tu_fillDescriptors_48 : decode cb_Tu_fillDescriptors 48 = .ok (.iadd, 1) := by decide +kernel
theorem d_Tu_fillDescriptors_49 : decode cb_Tu_fillDescriptors 49 = .ok (.invokevirtual 149, 3) := by decide +kernel
theorem d_Tu_fillDescriptors_52 : decode cb_Tu_fillDescriptors 52 = .ok (.aload_n 0, 1) := by decide +kernel
theorem d_Tu_fillDescriptors_53 : decode cb_Tu_fillDescriptors 53 = .ok (.iload_n 2, 1) := by decide +kernel
theorem d_Tu_fillDescriptors_54 : decode cb_Tu_fillDescriptors 54 = .ok (.bipush 8, 2) := by decide +kernel
theorem d_Tu_fillDescriptors_56 : decode cb_Tu_fillDescriptors 56 = .ok (.iadd, 1) := by decide +kernel
theorem d_Tu_fillDescriptors_57 : decode cb_Tu_fillDescriptors 57 = .ok (.aload_n 0, 1) := by decide +kernel
theorem d_Tu_fillDescriptors_58 : decode cb_Tu_fillDescriptors 58 = .ok (.getfield 31, 3) := by decide +kernel
theorem d_Tu_fillDescriptors_61 : decode cb_Tu_fillDescriptors 61 = .ok (.iload_n 1, 1) := by decide +kernel
theorem d_Tu_fillDescriptors_62 : decode cb_Tu_fillDescriptors 62 = .ok (.invokevirtual 245, 3) := by decide +kernel
theorem d_Tu_fillDescriptors_65 : decode cb_Tu_fillDescriptors 65 = .ok (.iconst 2, 1) := by decide +kernel
theorem d_Tu_fillDescriptors_66 : decode cb_Tu_fillDescriptors 66 = .ok (.iadd, 1) := by decide +kernel
theorem d_Tu_fillDescriptors_67 : decode cb_Tu_fillDescriptors 67 = .ok (.invokevirtual 149, 3) := by decide +kernel
theorem d_Tu_fillDescriptors_70 : decode cb_Tu_fillDescriptors 70 = .ok (.aload_n 0, 1) := by decide +kernel
theorem d_Tu_fillDescriptors_71 : decode cb_Tu_fillDescriptors 71 = .ok (.iload_n 2, 1) := by decide +kernel
theorem d_Tu_fillDescriptors_72 : decode cb_Tu_fillDescriptors 72 = .ok (.bipush 12, 2) := by decide +kernel
theorem d_Tu_fillDescriptors_74 : decode cb_Tu_fillDescriptors 74 = .ok (.iadd, 1) := by decide +kernel
theorem d_Tu_fillDescriptors_75 : decode cb_Tu_fillDescriptors 75 = .ok (.aload_n 0, 1) := by decide +kernel
theorem d_Tu_fillDescriptors_76 : decode cb_Tu_fillDescriptors 76 = .ok (.getfield 31, 3) := by decide +kernel
theorem d_Tu_fillDescriptors_79 : decode cb_Tu_fillDescriptors 79 = .ok (.iload_n 1, 1) := by decide +kernel
theorem d_Tu_fillDescriptors_80 : decode cb_Tu_fillDescriptors 80 = .ok (.invokevirtual 280, 3) := by decide +kernel
theorem d_Tu_fillDescriptors_83 : decode cb_Tu_fillDescriptors 83 = .ok (.invokevirtual 175, 3) := by decide +kernel
theorem d_Tu_fillDescriptors_86 : decode cb_Tu_fillDescriptors 86 = .ok (.aload_n 0, 1) := by decide +kernel
theorem d_Tu_fillDescriptors_87 : decode cb_Tu_fillDescriptors 87 = .ok (.iload_n 2, 1) := by decide +kernel
theorem d_Tu_fillDescriptors_88 : decode cb_Tu_fillDescriptors 88 = .ok (.bipush 14, 2) := by decide +kernel
theorem d_Tu_fillDescriptors_90 : decode cb_Tu_fillDescriptors 90 = .ok (.iadd, 1) := by decide +kernel
theorem d_Tu_fillDescriptors_91 : decode cb_Tu_fillDescriptors 91 = .ok (.aload_n 0, 1) := by decide +kernel
theorem d_Tu_fillDescriptors_92 : decode cb_Tu_fillDescriptors 92 = .ok (.getfield 31, 3) := by decide +kernel
theorem d_Tu_fillDescriptors_95 : decode cb_Tu_fillDescriptors 95 = .ok (.iload_n 1, 1) := by decide +kernel
theorem d_Tu_fillDescriptors_96 : decode cb_Tu_fillDescriptors 96 = .ok (.invokevirtual 283, 3) := by decide +kernel
theorem d_Tu_fillDescriptors_99 : decode cb_Tu_fillDescriptors 99 = .ok (.invokevirtual 175, 3) := by decide +kernel
theorem d_Tu_fillDescriptors_102 : decode cb_Tu_fillDescriptors 102 = .ok (.aload_n 0, 1) := by decide +kernel
theorem d_Tu_fillDescriptors_103 : decode cb_Tu_fillDescriptors 103 = .ok (.iload_n 2, 1) := by decide +kernel
theorem d_Tu_fillDescriptors_104 : decode cb_Tu_fillDescriptors 104 = .ok (.bipush 16, 2) := by decide +kernel
theorem d_Tu_fillDescriptors_106 : decode cb_Tu_fillDescriptors 106 = .ok (.iadd, 1) := by decide +kernel
theorem d_Tu_fillDescriptors_107 : decode cb_Tu_fillDescriptors 107 = .ok (.aload_n 0, 1) := by decide +kernel
theorem d_Tu_fillDescriptors_108 : decode cb_Tu_fillDescriptors 108 = .ok (.iload_n 1, 1) := by decide +kernel
theorem d_Tu_fillDescriptors_109 : decode cb_Tu_fillDescriptors 109 = .ok (.invokevirtual 286, 3) := by decide +kernel
theorem d_Tu_fillDescriptors_112 : decode cb_Tu_fillDescriptors 112 = .ok (.invokevirtual 175, 3) := by decide +kernel
theorem d_Tu_fillDescriptors_115 : decode cb_Tu_fillDescriptors 115 = .ok (.iinc 1 1, 3) := by decide +kernel
theorem d_Tu_fillDescriptors_118 : decode cb_Tu_fillDescriptors 118 = .ok (.goto (-112), 3) := by decide +kernel
theorem d_Tu_fillDescriptors_121 : decode cb_Tu_fillDescriptors 121 = .ok (.return_, 1) := by decide +kernel
theorem d_Tu_directoriesOf_0 : decode cb_Tu_directoriesOf 0 = .ok (.iconst 0, 1) := by decide +kernel
theorem d_Tu_directoriesOf_1 : decode cb_Tu_directoriesOf 1 = .ok (.istore_n 2, 1) := by decide +kernel
theorem d_Tu_directoriesOf_2 : decode cb_Tu_directoriesOf 2 = .ok (.iconst 0, 1) := by decide +kernel
theorem d_Tu_directoriesOf_3 : decode cb_Tu_directoriesOf 3 = .ok (.istore_n 3, 1) := by decide +kernel
theorem d_Tu_directoriesOf_4 : decode cb_Tu_directoriesOf 4 = .ok (.iload_n 3, 1) := by decide +kernel
theorem d_Tu_directoriesOf_5 : decode cb_Tu_directoriesOf 5 = .ok (.aload_n 0, 1) := by decide +kernel
theorem d_Tu_directoriesOf_6 : decode cb_Tu_directoriesOf 6 = .ok (.getfield 23, 3) := by decide +kernel
theorem d_Tu_directoriesOf_9 : decode cb_Tu_directoriesOf 9 = .ok (.getfield 129, 3) := by decide +kernel
theorem d_Tu_directoriesOf_12 : decode cb_Tu_directoriesOf 12 = .ok (.if_icmp .ge 63, 3) := by decide +kernel
theorem d_Tu_directoriesOf_15 : decode cb_Tu_directoriesOf 15 = .ok (.iload_n 3, 1) := by decide +kernel
theorem d_Tu_directoriesOf_16 : decode cb_Tu_directoriesOf 16 = .ok (.invokestatic 194, 3) := by decide +kernel
theorem d_Tu_directoriesOf_19 : decode cb_Tu_directoriesOf 19 = .ok (.iconst 1, 1) := by decide +kernel
theorem d_Tu_directoriesOf_20 : decode cb_Tu_directoriesOf 20 = .ok (.isub, 1) := by decide +kernel
theorem d_Tu_directoriesOf_21 : decode cb_Tu_directoriesOf 21 = .ok (.iload_n 1, 1) := by decide +kernel
theorem d_Tu_directoriesOf_22 : decode cb_Tu_directoriesOf 22 = .ok (.aload_n 0, 1) := by decide +kernel
theorem d_Tu_directoriesOf_23 : decode cb_Tu_directoriesOf 23 = .ok (.getfield 31, 3) := by decide +kernel
theorem d_Tu_directoriesOf_26 : decode cb_Tu_directoriesOf 26 = .ok (.getfield 155, 3) := by decide +kernel
theorem d_Tu_directoriesOf_29 : decode cb_Tu_directoriesOf 29 = .ok (.imul, 1) := by decide +kernel
theorem d_Tu_directoriesOf_30 : decode cb_Tu_directoriesOf 30 = .ok (.isub, 1) := by decide +kernel
theorem d_Tu_directoriesOf_31 : decode cb_Tu_directoriesOf 31 = .ok (.istore 4, 2) := by decide +kernel
theorem d_Tu_directoriesOf_33 : decode cb_Tu_directoriesOf 33 = .ok (.iload_n 2, 1) := by decide +kernel
theorem d_Tu_directoriesOf_34 : decode cb_Tu_directoriesOf 34 = .ok (.aload_n 0, 1) := by decide +kernel
theorem d_Tu_directoriesOf_35 : decode cb_Tu_directoriesOf 35 = .ok (.getfield 23, 3) := by decide +kernel
theorem d_Tu_directoriesOf_38 : decode cb_Tu_directoriesOf 38 = .ok (.iload_n 3, 1) := by decide +kernel
theorem d_Tu_directoriesOf_39 : decode cb_Tu_directoriesOf 39 = .ok (.invokevirtual 134, 3) := by decide +kernel
theorem d_Tu_directoriesOf_42 : decode cb_Tu_directoriesOf 42 = .ok (.ifCond .eq 24, 3) := by decide +kernel
theorem d_Tu_directoriesOf_45 : decode cb_Tu_directoriesOf 45 = .ok (.iload 4, 2) := by decide +kernel
theorem d_Tu_directoriesOf_47 : decode cb_Tu_directoriesOf 47 = .ok (.ifCond .lt 19, 3) := by decide +kernel
theorem d_Tu_directoriesOf_50 : decode cb_Tu_directoriesOf 50 = .ok (.iload 4, 2) := by decide +kernel
theorem d_Tu_directoriesOf_52 : decode cb_Tu_directoriesOf 52 = .ok (.aload_n 0, 1) := by decide +kernel
theorem d_Tu_directoriesOf_53 : decode cb_Tu_directoriesOf 53 = .ok (.getfield 31, 3) := by decide +kernel
theorem d_Tu_directoriesOf_56 : decode cb_Tu_directoriesOf 56 = .ok (.getfield 155, 3) := by decide +kernel
theorem d_Tu_directoriesOf_59 : decode cb_Tu_directoriesOf 59 = .ok (.if_icmp .ge 7, 3) := by decide +kernel
theorem d_Tu_directoriesOf_62 : decode cb_Tu_directoriesOf 62 = .ok (.iconst 1, 1) := by decide +kernel
theorem d_Tu_directoriesOf_63 : decode cb_Tu_directoriesOf 63 = .ok (.goto 4, 3) := by decide +kernel
theorem d_Tu_directoriesOf_66 : decode cb_Tu_directoriesOf 66 = .ok (.iconst 0, 1) := by decide +kernel
theorem d_Tu_directoriesOf_67 : decode cb_Tu_directoriesOf 67 = .ok (.iadd, 1) := by decide +kernel
theorem d_Tu_directoriesOf_68 : decode cb_Tu_directoriesOf 68 = .ok (.istore_n 2, 1) := by decide +kernel
theorem d_Tu_directoriesOf_69 : decode cb_Tu_directoriesOf 69 = .ok (.iinc 3 1, 3) := by decide +kernel
theorem d_Tu_directoriesOf_72 : decode cb_Tu_directoriesOf 72 = .ok (.goto (-68), 3) := by decide +kernel
theorem d_Tu_directoriesOf_75 : decode cb_Tu_directoriesOf 75 = .ok (.iload_n 2, 1) := by decide +kernel
theorem d_Tu_directoriesOf_76 : decode cb_Tu_directoriesOf 76 = .ok (.ireturn, 1) := by decide +kernel
theorem d_Tu_dropBit_0 : decode cb_Tu_dropBit 0 = .ok (.iload_n 1, 1) := by decide +kernel
theorem d_Tu_dropBit_1 : decode cb_Tu_dropBit 1 = .ok (.iconst 3, 1) := by decide +kernel
theorem d_Tu_dropBit_2 : decode cb_Tu_dropBit 2 = .ok (.ishr, 1) := by decide +kernel
theorem d_Tu_dropBit_3 : decode cb_Tu_dropBit 3 = .ok (.istore_n 2, 1) := by decide +kernel
theorem d_Tu_dropBit_4 : decode cb_Tu_dropBit 4 = .ok (.iload_n 2, 1) := by decide +kernel
theorem d_Tu_dropBit_5 : decode cb_Tu_dropBit 5 = .ok (.ifCond .lt 32, 3) := by decide +kernel
theorem d_Tu_dropBit_8 : decode cb_Tu_dropBit 8 = .ok (.iload_n 2, 1) := by decide +kernel
theorem d_Tu_dropBit_9 : decode cb_Tu_dropBit 9 = .ok (.sipush 1024, 3) := by decide +kernel
theorem d_Tu_dropBit_12 : decode cb_Tu_dropBit 12 = .ok (.if_icmp .ge 25, 3) := by decide +kernel
theorem d_Tu_dropBit_15 : decode cb_Tu_dropBit 15 = .ok (.aload_n 0, 1) := by decide +kernel
theorem d_Tu_dropBit_16 : decode cb_Tu_dropBit 16 = .ok (.getfield 9, 3) := by decide +kernel
theorem d_Tu_dropBit_19 : decode cb_Tu_dropBit 19 = .ok (.iload_n 2, 1) := by decide +kernel
theorem d_Tu_dropBit_20 : decode cb_Tu_dropBit 20 = .ok (.aload_n 0, 1) := by decide +kernel
theorem d_Tu_dropBit_21 : decode cb_Tu_dropBit 21 = .ok (.getfield 9, 3) := by decide +kernel
theorem d_Tu_dropBit_24 : decode cb_Tu_dropBit 24 = .ok (.iload_n 2, 1) := by decide +kernel
theorem d_Tu_dropBit_25 : decode cb_Tu_dropBit 25 = .ok (.baload, 1) := by decide +kernel
theorem d_Tu_dropBit_26 : decode cb_Tu_dropBit 26 = .ok (.iconst 1, 1) := by decide +kernel
theorem d_Tu_dropBit_27 : decode cb_Tu_dropBit 27 = .ok (.iload_n 1, 1) := by decide +kernel
theorem d_Tu_dropBit_28 : decode cb_Tu_dropBit 28 = .ok (.bipush 7, 2) := by decide +kernel
theorem d_Tu_dropBit_30 : decode cb_Tu_dropBit 30 = .ok (.iand, 1) := by decide +kernel
theorem d_Tu_dropBit_31 : decode cb_Tu_dropBit 31 = .ok (.ishl, 1) := by decide +kernel
theorem d_Tu_dropBit_32 : decode cb_Tu_dropBit 32 = .ok (.iconst (-1), 1) := by decide +kernel
theorem d_Tu_dropBit_33 : decode cb_Tu_dropBit 33 = .ok (.ixor, 1) := by decide +kernel
theorem d_Tu_dropBit_34 : decode cb_Tu_dropBit 34 = .ok (.iand, 1) := by decide +kernel
theorem d_Tu_dropBit_35 : decode cb_Tu_dropBit 35 = .ok (.i2b, 1) := by decide +kernel
theorem d_Tu_dropBit_36 : decode cb_Tu_dropBit 36 = .ok (.bastore, 1) := by decide +kernel
theorem d_Tu_dropBit_37 : decode cb_Tu_dropBit 37 = .ok (.return_, 1) := by decide +kernel
theorem d_Tu_fillBlockMap_0 : decode cb_Tu_fillBlockMap 0 = .ok (.aload_n 0, 1) := by decide +kernel
theorem d_Tu_fillBlockMap_1 : decode cb_Tu_fillBlockMap 1 = .ok (.getfield 9, 3) := by decide +kernel
theorem d_Tu_fillBlockMap_4 : decode cb_Tu_fillBlockMap 4 = .ok (.iconst (-1), 1) := by decide +kernel
theorem d_Tu_fillBlockMap_5 : decode cb_Tu_fillBlockMap 5 = .ok (.invokestatic 157, 3) := by decide +kernel
theorem d_Tu_fillBlockMap_8 : decode cb_Tu_fillBlockMap 8 = .ok (.iconst 0, 1) := by decide +kernel
theorem d_Tu_fillBlockMap_9 : decode cb_Tu_fillBlockMap 9 = .ok (.istore_n 2, 1) := by decide +kernel
theorem d_Tu_fillBlockMap_10 : decode cb_Tu_fillBlockMap 10 = .ok (.iload_n 2, 1) := by decide +kernel
theorem d_Tu_fillBlockMap_11 : decode cb_Tu_fillBlockMap 11 = .ok (.aload_n 0, 1) := by decide +kernel
theorem d_Tu_fillBlockMap_12 : decode cb_Tu_fillBlockMap 12 = .ok (.getfield 31, 3) := by decide +kernel
theorem d_Tu_fillBlockMap_15 : decode cb_Tu_fillBlockMap 15 = .ok (.iload_n 1, 1) := by decide +kernel
theorem d_Tu_fillBlockMap_16 : decode cb_Tu_fillBlockMap 16 = .ok (.invokevirtual 289, 3) := by decide +kernel
theorem d_Tu_fillBlockMap_19 : decode cb_Tu_fillBlockMap 19 = .ok (.if_icmp .ge 34, 3) := by decide +kernel
theorem d_Tu_fillBlockMap_22 : decode cb_Tu_fillBlockMap 22 = .ok (.aload_n 0, 1) := by decide +kernel
theorem d_Tu_fillBlockMap_23 : decode cb_Tu_fillBlockMap 23 = .ok (.getfield 31, 3) := by decide +kernel
theorem d_Tu_fillBlockMap_26 : decode cb_Tu_fillBlockMap 26 = .ok (.aload_n 0, 1) := by decide +kernel
theorem d_Tu_fillBlockMap_27 : decode cb_Tu_fillBlockMap 27 = .ok (.getfield 31, 3) := by decide +kernel
theorem d_Tu_fillBlockMap_30 : decode cb_Tu_fillBlockMap 30 = .ok (.iload_n 1, 1) := by decide +kernel
theorem d_Tu_fillBlockMap_31 : decode cb_Tu_fillBlockMap 31 = .ok (.invokevirtual 239, 3) := by decide +kernel
theorem d_Tu_fillBlockMap_34 : decode cb_Tu_fillBlockMap 34 = .ok (.iload_n 2, 1) := by decide +kernel
theorem d_Tu_fillBlockMap_35 : decode cb_Tu_fillBlockMap 35 = .ok (.iadd, 1) := by decide +kernel
theorem d_Tu_fillBlockMap_36 : decode cb_Tu_fillBlockMap 36 = .ok (.invokevirtual 292, 3) := by decide +kernel
theorem d_Tu_fillBlockMap_39 : decode cb_Tu_fillBlockMap 39 = .ok (.ifCond .ne 8, 3) := by decide +kernel
theorem d_Tu_fillBlockMap_42 : decode cb_Tu_fillBlockMap 42 = .ok (.aload_n 0, 1) := by decide +kernel
theorem d_Tu_fillBlockMap_43 : decode cb_Tu_fillBlockMap 43 = .ok (.iload_n 2, 1) := by decide +kernel
theorem d_Tu_fillBlockMap_44 : decode cb_Tu_fillBlockMap 44 = .ok (.invokevirtual 295, 3) := by decide +kernel
theorem d_Tu_fillBlockMap_47 : decode cb_Tu_fillBlockMap 47 = .ok (.iinc 2 1, 3) := by decide +kernel
theorem d_Tu_fillBlockMap_50 : decode cb_Tu_fillBlockMap 50 = .ok (.goto (-40), 3) := by decide +kernel
theorem d_Tu_fillBlockMap_53 : decode cb_Tu_fillBlockMap 53 = .ok (.return_, 1) := by decide +kernel
theorem d_Tu_fillInodeMap_0 : decode cb_Tu_fillInodeMap 0 = .ok (.aload_n 0, 1) := by decide +kernel
theorem d_Tu_fillInodeMap_1 : decode cb_Tu_fillInodeMap 1 = .ok (.getfield 9, 3) := by decide +kernel
theorem d_Tu_fillInodeMap_4 : decode cb_Tu_fillInodeMap 4 = .ok (.iconst (-1), 1) := by decide +kernel
theorem d_Tu_fillInodeMap_5 : decode cb_Tu_fillInodeMap 5 = .ok (.invokestatic 157, 3) := by decide +kernel
theorem d_Tu_fillInodeMap_8 : decode cb_Tu_fillInodeMap 8 = .ok (.aload_n 0, 1) := by decide +kernel
theorem d_Tu_fillInodeMap_9 : decode cb_Tu_fillInodeMap 9 = .ok (.getfield 31, 3) := by decide +kernel
theorem d_Tu_fillInodeMap_12 : decode cb_Tu_fillInodeMap 12 = .ok (.getfield 155, 3) := by decide +kernel
theorem d_Tu_fillInodeMap_15 : decode cb_Tu_fillInodeMap 15 = .ok (.aload_n 0, 1) := by decide +kernel
theorem d_Tu_fillInodeMap_16 : decode cb_Tu_fillInodeMap 16 = .ok (.getfield 31, 3) := by decide +kernel
theorem d_Tu_fillInodeMap_19 : decode cb_Tu_fillInodeMap 19 = .ok (.iload_n 1, 1) := by decide +kernel
theorem d_Tu_fillInodeMap_20 : decode cb_Tu_fillInodeMap 20 = .ok (.invokevirtual 283, 3) := by decide +kernel
theorem d_Tu_fillInodeMap_23 : decode cb_Tu_fillInodeMap 23 = .ok (.isub, 1) := by decide +kernel
theorem d_Tu_fillInodeMap_24 : decode cb_Tu_fillInodeMap 24 = .ok (.istore_n 2, 1) := by decide +kernel
theorem d_Tu_fillInodeMap_25 : decode cb_Tu_fillInodeMap 25 = .ok (.iload_n 2, 1) := by decide +kernel
theorem d_Tu_fillInodeMap_26 : decode cb_Tu_fillInodeMap 26 = .ok (.aload_n 0, 1) := by decide +kernel
theorem d_Tu_fillInodeMap_27 : decode cb_Tu_fillInodeMap 27 = .ok (.getfield 31, 3) := by decide +kernel
theorem d_Tu_fillInodeMap_30 : decode cb_Tu_fillInodeMap 30 = .ok (.getfield 155, 3) := by decide +kernel
theorem d_Tu_fillInodeMap_33 : decode cb_Tu_fillInodeMap 33 = .ok (.if_icmp .ge 14, 3) := by decide +kernel
theorem d_Tu_fillInodeMap_36 : decode cb_Tu_fillInodeMap 36 = .ok (.aload_n 0, 1) := by decide +kernel
theorem d_Tu_fillInodeMap_37 : decode cb_Tu_fillInodeMap 37 = .ok (.iload_n 2, 1) := by decide +kernel
theorem d_Tu_fillInodeMap_38 : decode cb_Tu_fillInodeMap 38 = .ok (.invokevirtual 295, 3) := by decide +kernel
theorem d_Tu_fillInodeMap_41 : decode cb_Tu_fillInodeMap 41 = .ok (.iinc 2 1, 3) := by decide +kernel
theorem d_Tu_fillInodeMap_44 : decode cb_Tu_fillInodeMap 44 = .ok (.goto (-19), 3) := by decide +kernel
theorem d_Tu_fillInodeMap_47 : decode cb_Tu_fillInodeMap 47 = .ok (.return_, 1) := by decide +kernel
theorem d_Tu_fillInodes_0 : decode cb_Tu_fillInodes 0 = .ok (.aload_n 0, 1) := by decide +kernel
theorem d_Tu_fillInodes_1 : decode cb_Tu_fillInodes 1 = .ok (.invokevirtual 145, 3) := by decide +kernel
theorem d_Tu_fillInodes_4 : decode cb_Tu_fillInodes 4 = .ok (.iconst 0, 1) := by decide +kernel
theorem d_Tu_fillInodes_5 : decode cb_Tu_fillInodes 5 = .ok (.istore_n 2, 1) := by decide +kernel
theorem d_Tu_fillInodes_6 : decode cb_Tu_fillInodes 6 = .ok (.iload_n 2, 1) := by decide +kernel
theorem d_Tu_fillInodes_7 : decode cb_Tu_fillInodes 7 = .ok (.bipush 8, 2) := by decide +kernel
theorem d_Tu_fillInodes_9 : decode cb_Tu_fillInodes 9 = .ok (.if_icmp .ge 83, 3) := by decide +kernel
theorem d_Tu_fillInodes_12 : decode cb_Tu_fillInodes 12 = .ok (.iload_n 1, 1) := by decide +kernel
theorem d_Tu_fillInodes_13 : decode cb_Tu_fillInodes 13 = .ok (.iload_n 2, 1) := by decide +kernel
theorem d_Tu_fillInodes_14 : decode cb_Tu_fillInodes 14 = .ok (.iadd, 1) := by decide +kernel
theorem d_Tu_fillInodes_15 : decode cb_Tu_fillInodes 15 = .ok (.istore_n 3, 1) := by decide +kernel
theorem d_Tu_fillInodes_16 : decode cb_Tu_fillInodes 16 = .ok (.iload_n 3, 1) := by decide +kernel
theorem d_Tu_fillInodes_17 : decode cb_Tu_fillInodes 17 = .ok (.iconst 2, 1) := by decide +kernel
theorem d_Tu_fillInodes_18 : decode cb_Tu_fillInodes 18 = .ok (.if_icmp .ne 16, 3) := by decide +kernel
theorem d_Tu_fillInodes_21 : decode cb_Tu_fillInodes 21 = .ok (.aload_n 0, 1) := by decide +kernel
theorem d_Tu_fillInodes_22 : decode cb_Tu_fillInodes 22 = .ok (.iload_n 2, 1) := by decide +kernel
theorem d_Tu_fillInodes_23 : decode cb_Tu_fillInodes 23 = .ok (.sipush 128, 3) := by decide +kernel
theorem d_Tu_fillInodes_26 : decode cb_Tu_fillInodes 26 = .ok (.imul, 1) := by decide +kernel
theorem d_Tu_fillInodes_27 : decode cb_Tu_fillInodes 27 = .ok (.iconst 0, 1) := by decide +kernel
theorem d_Tu_fillInodes_28 : decode cb_Tu_fillInodes 28 = .ok (.invokevirtual 298, 3) := by decide +kernel
theorem d_Tu_fillInodes_31 : decode cb_Tu_fillInodes 31 = .ok (.goto 55, 3) := by decide +kernel
theorem d_Tu_fillInodes_34 : decode cb_Tu_fillInodes 34 = .ok (.iload_n 3, 1) := by decide +kernel
theorem d_Tu_fillInodes_35 : decode cb_Tu_fillInodes 35 = .ok (.bipush 11, 2) := by decide +kernel
theorem d_Tu_fillInodes_37 : decode cb_Tu_fillInodes 37 = .ok (.if_icmp .ne 16, 3) := by decide +kernel
theorem d_Tu_fillInodes_40 : decode cb_Tu_fillInodes 40 = .ok (.aload_n 0, 1) := by decide +kernel
theorem d_Tu_fillInodes_41 : decode cb_Tu_fillInodes 41 = .ok (.iload_n 2, 1) := by decide +kernel
theorem d_Tu_fillInodes_42 : decode cb_Tu_fillInodes 42 = .ok (.sipush 128, 3) := by decide +kernel
theorem d_Tu_fillInodes_45 : decode cb_Tu_fillInodes 45 = .ok (.imul, 1) := by decide +kernel
theorem d_Tu_fillInodes_46 : decode cb_Tu_fillInodes 46 = .ok (.iconst (-1), 1) := by decide +kernel
theorem d_Tu_fillInodes_47 : decode cb_Tu_fillInodes 47 = .ok (.invokevirtual 298, 3) := by decide +kernel
theorem d_Tu_fillInodes_50 : decode cb_Tu_fillInodes 50 = .ok (.goto 36, 3) := by decide +kernel
theorem d_Tu_fillInodes_53 : decode cb_Tu_fillInodes 53 = .ok (.iload_n 3, 1) := by decide +kernel
theorem d_Tu_fillInodes_54 : decode cb_Tu_fillInodes 54 = .ok (.bipush 11, 2) := by decide +kernel
theorem d_Tu_fillInodes_56 : decode cb_Tu_fillInodes 56 = .ok (.if_icmp .le 30, 3) := by decide +kernel
theorem d_Tu_fillInodes_59 : decode cb_Tu_fillInodes 59 = .ok (.iload_n 3, 1) := by decide +kernel
theorem d_Tu_fillInodes_60 : decode cb_Tu_fillInodes 60 = .ok (.bipush 11, 2) := by decide +kernel
theorem d_Tu_fillInodes_62 : decode cb_Tu_fillInodes 62 = .ok (.isub, 1) := by decide +kernel
theorem d_Tu_fillInodes_63 : decode cb_Tu_fillInodes 63 = .ok (.aload_n 0, 1) := by decide +kernel
theorem d_Tu_fillInodes_64 : decode cb_Tu_fillInodes 64 = .ok (.getfield 23, 3) := by decide +kernel
theorem d_Tu_fillInodes_67 : decode cb_Tu_fillInodes 67 = .ok (.getfield 129, 3) := by decide +kernel
theorem d_Tu_fillInodes_70 : decode cb_Tu_fillInodes 70 = .ok (.if_icmp .ge 16, 3) := by decide +kernel
theorem d_Tu_fillInodes_73 : decode cb_Tu_fillInodes 73 = .ok (.aload_n 0, 1) := by decide +kernel
theorem d_Tu_fillInodes_74 : decode cb_Tu_fillInodes 74 = .ok (.iload_n 2, 1) := by decide +kernel
theorem d_Tu_fillInodes_75 : decode cb_Tu_fillInodes 75 = .ok (.sipush 128, 3) := by decide +kernel
theorem d_Tu_fillInodes_78 : decode cb_Tu_fillInodes 78 = .ok (.imul, 1) := by decide +kernel
theorem d_Tu_fillInodes_79 : decode cb_Tu_fillInodes 79 = .ok (.iload_n 3, 1) := by decide +kernel
theorem d_Tu_fillInodes_80 : decode cb_Tu_fillInodes 80 = .ok (.bipush 11, 2) := by decide +kernel
theorem d_Tu_fillInodes_82 : decode cb_Tu_fillInodes 82 = .ok (.isub, 1) := by decide +kernel
theorem d_Tu_fillInodes_83 : decode cb_Tu_fillInodes 83 = .ok (.invokevirtual 298, 3) := by decide +kernel
theorem d_Tu_fillInodes_86 : decode cb_Tu_fillInodes 86 = .ok (.iinc 2 1, 3) := by decide +kernel
theorem d_Tu_fillInodes_89 : decode cb_Tu_fillInodes 89 = .ok (.goto (-83), 3) := by decide +kernel
theorem d_Tu_fillInodes_92 : decode cb_Tu_fillInodes 92 = .ok (.return_, 1) := by decide +kernel
theorem d_Tu_fillInode_0 : decode cb_Tu_fillInode 0 = .ok (.aload_n 0, 1) := by decide +kernel
theorem d_Tu_fillInode_1 : decode cb_Tu_fillInode 1 = .ok (.getfield 31, 3) := by decide +kernel
theorem d_Tu_fillInode_4 : decode cb_Tu_fillInode 4 = .ok (.iload_n 2, 1) := by decide +kernel
theorem d_Tu_fillInode_5 : decode cb_Tu_fillInode 5 = .ok (.invokevirtual 214, 3) := by decide +kernel
theorem d_Tu_fillInode_8 : decode cb_Tu_fillInode 8 = .ok (.iload_n 2, 1) := by decide +kernel
theorem d_Tu_fillInode_9 : decode cb_Tu_fillInode 9 = .ok (.iconst (-1), 1) := by decide +kernel
theorem d_Tu_fillInode_10 : decode cb_Tu_fillInode 10 = .ok (.if_icmp .eq 18, 3) := by decide +kernel
theorem d_Tu_fillInode_13 : decode cb_Tu_fillInode 13 = .ok (.aload_n 0, 1) := by decide +kernel
theorem d_Tu_fillInode_14 : decode cb_Tu_fillInode 14 = .ok (.getfield 23, 3) := by decide +kernel
theorem d_Tu_fillInode_17 : decode cb_Tu_fillInode 17 = .ok (.iload_n 2, 1) := by decide +kernel
theorem d_Tu_fillInode_18 : decode cb_Tu_fillInode 18 = .ok (.invokevirtual 134, 3) := by decide +kernel
theorem d_Tu_fillInode_21 : decode cb_Tu_fillInode 21 = .ok (.ifCond .ne 7, 3) := by decide +kernel
theorem d_Tu_fillInode_24 : decode cb_Tu_fillInode 24 = .ok (.iconst 1, 1) := by decide +kernel
theorem d_Tu_fillInode_25 : decode cb_Tu_fillInode 25 = .ok (.goto 4, 3) := by decide +kernel
theorem d_Tu_fillInode_28 : decode cb_Tu_fillInode 28 = .ok (.iconst 0, 1) := by decide +kernel
theorem d_Tu_fillInode_29 : decode cb_Tu_fillInode 29 = .ok (.istore_n 3, 1) := by decide +kernel
theorem d_Tu_fillInode_30 : decode cb_Tu_fillInode 30 = .ok (.aload_n 0, 1) := by decide +kernel
theorem d_Tu_fillInode_31 : decode cb_Tu_fillInode 31 = .ok (.getfield 31, 3) := by decide +kernel
theorem d_Tu_fillInode_34 : decode cb_Tu_fillInode 34 = .ok (.getfield 220, 3) := by decide +kernel
theorem d_Tu_fillInode_37 : decode cb_Tu_fillInode 37 = .ok (.invokestatic 223, 3) := by decide +kernel
theorem d_Tu_fillInode_40 : decode cb_Tu_fillInode 40 = .ok (.istore 4, 2) := by decide +kernel
theorem d_Tu_fillInode_42 : decode cb_Tu_fillInode 42 = .ok (.aload_n 0, 1) := by decide +kernel
theorem d_Tu_fillInode_43 : decode cb_Tu_fillInode 43 = .ok (.getfield 31, 3) := by decide +kernel
theorem d_Tu_fillInode_46 : decode cb_Tu_fillInode 46 = .ok (.iload_n 2, 1) := by decide +kernel
theorem d_Tu_fillInode_47 : decode cb_Tu_fillInode 47 = .ok (.invokevirtual 217, 3) := by decide +kernel
theorem d_Tu_fillInode_50 : decode cb_Tu_fillInode 50 = .ok (.istore 5, 2) := by decide +kernel
theorem d_Tu_fillInode_52 : decode cb_Tu_fillInode 52 = .ok (.aload_n 0, 1) := by decide +kernel
theorem d_Tu_fillInode_53 : decode cb_Tu_fillInode 53 = .ok (.iload_n 1, 1) := by decide +kernel
theorem d_Tu_fillInode_54 : decode cb_Tu_fillInode 54 = .ok (.aload_n 0, 1) := by decide +kernel
theorem d_Tu_fillInode_55 : decode cb_Tu_fillInode 55 = .ok (.iload_n 2, 1) := by decide +kernel
theorem d_Tu_fillInode_56 : decode cb_Tu_fillInode 56 = .ok (.invokevirtual 301, 3) := by decide +kernel
theorem d_Tu_fillInode_59 : decode cb_Tu_fillInode 59 = .ok (.invokevirtual 175, 3) := by decide +kernel
theorem d_Tu_fillInode_62 : decode cb_Tu_fillInode 62 = .ok (.aload_n 0, 1) := by decide +kernel
theorem d_Tu_fillInode_63 : decode cb_Tu_fillInode 63 = .ok (.iload_n 1, 1) := by decide +kernel
theorem d_Tu_fillInode_64 : decode cb_Tu_fillInode 64 = .ok (.iconst 4, 1) := by decide +kernel
theorem d_Tu_fillInode_65 : decode cb_Tu_fillInode 65 = .ok (.iadd, 1) := by decide +kernel
theorem d_Tu_fillInode_66 : decode cb_Tu_fillInode 66 = .ok (.iload_n 3, 1) := by decide +kernel
theorem d_Tu_fillInode_67 : decode cb_Tu_fillInode 67 = .ok (.ifCond .eq 14, 3) := by decide +kernel
theorem d_Tu_fillInode_70 : decode cb_Tu_fillInode 70 = .ok (.aload_n 0, 1) := by decide +kernel
theorem d_Tu_fillInode_71 : decode cb_Tu_fillInode 71 = .ok (.getfield 23, 3) := by decide +kernel
theorem d_Tu_fillInode_74 : decode cb_Tu_fillInode 74 = .ok (.iload_n 2, 1) := by decide +kernel
theorem d_Tu_fillInode_75 : decode cb_Tu_fillInode 75 = .ok (.invokevirtual 304, 3) := by decide +kernel
theorem d_Tu_fillInode_78 : decode cb_Tu_fillInode 78 = .ok (.goto 14, 3) := by decide +kernel
theorem d_Tu_fillInode_81 : decode cb_Tu_fillInode 81 = .ok (.aload_n 0, 1) := by decide +kernel
theorem d_Tu_fillInode_82 : decode cb_Tu_fillInode 82 = .ok (.getfield 31, 3) := by decide +kernel
theorem d_Tu_fillInode_85 : decode cb_Tu_fillInode 85 = .ok (.getfield 220, 3) := by decide +kernel
theorem d_Tu_fillInode_88 : decode cb_Tu_fillInode 88 = .ok (.sipush 1024, 3) := by decide +kernel
theorem d_Tu_fillInode_91 : decode cb_Tu_fillInode 91 = .ok (.imul, 1) := by decide +kernel
theorem d_Tu_fillInode_92 : decode cb_Tu_fillInode 92 = .ok (.invokevirtual 149, 3) := by decide +kernel
theorem d_Tu_fillInode_95 : decode cb_Tu_fillInode 95 = .ok (.iload_n 2, 1) := by decide +kernel
theorem d_Tu_fillInode_96 : decode cb_Tu_fillInode 96 = .ok (.ifCond .le 46, 3) := by decide +kernel
theorem d_Tu_fillInode_99 : decode cb_Tu_fillInode 99 = .ok (.iconst 2, 1) := by decide +kernel
theorem d_Tu_fillInode_100 : decode cb_Tu_fillInode 100 = .ok (.istore 6, 2) := by decide +kernel
theorem d_Tu_fillInode_102 : decode cb_Tu_fillInode 102 = .ok (.iload 6, 2) := by decide +kernel
theorem d_Tu_fillInode_104 : decode cb_Tu_fillInode 104 = .ok (.iconst 4, 1) := by decide +kernel
theorem d_Tu_fillInode_105 : decode cb_Tu_fillInode 105 = .ok (.if_icmp .gt 37, 3) := by decide +kernel
theorem d_Tu_fillInode_108 : decode cb_Tu_fillInode 108 = .ok (.aload_n 0, 1) := by decide +kernel
theorem d_Tu_fillInode_109 : decode cb_Tu_fillInode 109 = .ok (.iload_n 1, 1) := by decide +kernel
theorem d_Tu_fillInode_110 : decode cb_Tu_fillInode 110 = .ok (.iconst 4, 1) := by decide +kernel
theorem d_Tu_fillInode_111 : decode cb_Tu_fillInode 111 = .ok (.iload 6, 2) := by decide +kernel
theorem d_Tu_fillInode_113 : decode cb_Tu_fillInode 113 = .ok (.imul, 1) := by decide +kernel
theorem d_Tu_fillInode_114 : decode cb_Tu_fillInode 114 = .ok (.iadd, 1) := by decide +kernel
theorem d_Tu_fillInode_115 : decode cb_Tu_fillInode 115 = .ok (.aload_n 0, 1) := by decide +kernel
theorem d_Tu_fillInode_116 : decode cb_Tu_fillInode 116 = .ok (.getfield 15, 3) := by decide +kernel
theorem d_Tu_fillInode_119 : decode cb_Tu_fillInode 119 = .ok (.aload_n 0, 1) := by decide +kernel
theorem d_Tu_fillInode_120 : decode cb_Tu_fillInode 120 = .ok (.getfield 23, 3) := by decide +kernel
theorem d_Tu_fillInode_123 : decode cb_Tu_fillInode 123 = .ok (.iload_n 2, 1) := by decide +kernel
theorem d_Tu_fillInode_124 : decode cb_Tu_fillInode 124 = .ok (.invokevirtual 307, 3) := by decide +kernel
theorem d_Tu_fillInode_127 : decode cb_Tu_fillInode 127 = .ok (.iload 6, 2) := by decide +kernel
theorem d_Tu_fillInode_129 : decode cb_Tu_fillInode 129 = .ok (.invokestatic 310, 3) := by decide +kernel
theorem d_Tu_fillInode_132 : decode cb_Tu_fillInode 132 = .ok (.l2i, 1) := by decide +kernel
theorem d_Tu_fillInode_133 : decode cb_Tu_fillInode 133 = .ok (.invokevirtual 149, 3) := by decide +kernel
theorem d_Tu_fillInode_136 : decode cb_Tu_fillInode 136 = .ok (.iinc 6 1, 3) := by decide +kernel
theorem d_Tu_fillInode_139 : decode cb_Tu_fillInode 139 = .ok (.goto (-37), 3) := by decide +kernel
theorem d_Tu_fillInode_142 : decode cb_Tu_fillInode 142 = .ok (.aload_n 0, 1) := by decide +kernel
theorem d_Tu_fillInode_143 : decode cb_Tu_fillInode 143 = .ok (.iload_n 1, 1) := by decide +kernel
theorem d_Tu_fillInode_144 : decode cb_Tu_fillInode 144 = .ok (.bipush 26, 2) := by decide +kernel
theorem d_Tu_fillInode_146 : decode cb_Tu_fillInode 146 = .ok (.iadd, 1) := by decide +kernel
theorem d_Tu_fillInode_147 : decode cb_Tu_fillInode 147 = .ok (.aload_n 0, 1) := by decide +kernel
theorem d_Tu_fillInode_148 : decode cb_Tu_fillInode 148 = .ok (.iload_n 2, 1) := by decide +kernel
theorem d_Tu_fillInode_149 : decode cb_Tu_fillInode 149 = .ok (.invokevirtual 316, 3) := by decide +kernel
theorem d_Tu_fillInode_152 : decode cb_Tu_fillInode 152 = .ok (.invokevirtual 175, 3) := by decide +kernel
theorem d_Tu_fillInode_155 : decode cb_Tu_fillInode 155 = .ok (.aload_n 0, 1) := by decide +kernel
theorem d_Tu_fillInode_156 : decode cb_Tu_fillInode 156 = .ok (.iload_n 1, 1) := by decide +kernel
theorem d_Tu_fillInode_157 : decode cb_Tu_fillInode 157 = .ok (.bipush 28, 2) := by decide +kernel
theorem d_Tu_fillInode_159 : decode cb_Tu_fillInode 159 = .ok (.iadd, 1) := by decide +kernel
theorem d_Tu_fillInode_160 : decode cb_Tu_fillInode 160 = .ok (.iconst 2, 1) := by decide +kernel
theorem d_Tu_fillInode_161 : decode cb_Tu_fillInode 161 = .ok (.aload_n 0, 1) := by decide +kernel
theorem d_Tu_fillInode_162 : decode cb_Tu_fillInode 162 = .ok (.getfield 31, 3) := by decide +kernel
theorem d_Tu_fillInode_165 : decode cb_Tu_fillInode 165 = .ok (.getfield 220, 3) := by decide +kernel
theorem d_Tu_fillInode_168 : decode cb_Tu_fillInode 168 = .ok (.iload 4, 2) := by decide +kernel
theorem d_Tu_fillInode_170 : decode cb_Tu_fillInode 170 = .ok (.iadd, 1) := by decide +kernel
theorem d_Tu_fillInode_171 : decode cb_Tu_fillInode 171 = .ok (.imul, 1) := by decide +kernel
theorem d_Tu_fillInode_172 : decode cb_Tu_fillInode 172 = .ok (.invokevirtual 149, 3) := by decide +kernel
theorem d_Tu_fillInode_175 : decode cb_Tu_fillInode 175 = .ok (.iconst 0, 1) := by decide +kernel
theorem d_Tu_fillInode_176 : decode cb_Tu_fillInode 176 = .ok (.istore 6, 2) := by decide +kernel
theorem d_Tu_fillInode_178 : decode cb_Tu_fillInode 178 = .ok (.iload 6, 2) := by decide +kernel
theorem d_Tu_fillInode_180 : decode cb_Tu_fillInode 180 = .ok (.bipush 12, 2) := by decide +kernel
theorem d_Tu_fillInode_182 : decode cb_Tu_fillInode 182 = .ok (.if_icmp .ge 44, 3) := by decide +kernel
theorem d_Tu_fillInode_185 : decode cb_Tu_fillInode 185 = .ok (.iload 6, 2) := by decide +kernel
theorem d_Tu_fillInode_187 : decode cb_Tu_fillInode 187 = .ok (.aload_n 0, 1) := by decide +kernel
theorem d_Tu_fillInode_188 : decode cb_Tu_fillInode 188 = .ok (.getfield 31, 3) := by decide +kernel
theorem d_Tu_fillInode_191 : decode cb_Tu_fillInode 191 = .ok (.getfield 220, 3) := by decide +kernel
theorem d_Tu_fillInode_194 : decode cb_Tu_fillInode 194 = .ok (.if_icmp .ge 32, 3) := by decide +kernel
theorem d_Tu_fillInode_197 : decode cb_Tu_fillInode 197 = .ok (.aload_n 0, 1) := by decide +kernel
theorem d_Tu_fillInode_198 : decode cb_Tu_fillInode 198 = .ok (.iload_n 1, 1) := by decide +kernel
theorem d_Tu_fillInode_199 : decode cb_Tu_fillInode 199 = .ok (.bipush 40, 2) := by decide +kernel
theorem d_Tu_fillInode_201 : decode cb_Tu_fillInode 201 = .ok (.iadd, 1) := by decide +kernel
theorem d_Tu_fillInode_202 : decode cb_Tu_fillInode 202 = .ok (.iconst 4, 1) := by decide +kernel
theorem d_Tu_fillInode_203 : decode cb_Tu_fillInode 203 = .ok (.iload 6, 2) := by decide +kernel
theorem d_Tu_fillInode_205 : decode cb_Tu_fillInode 205 = .ok (.imul, 1) := by decide +kernel
theorem d_Tu_fillInode_206 : decode cb_Tu_fillInode 206 = .ok (.iadd, 1) := by decide +kernel
theorem d_Tu_fillInode_207 : decode cb_Tu_fillInode 207 = .ok (.aload_n 0, 1) := by decide +kernel
theorem d_Tu_fillInode_208 : decode cb_Tu_fillInode 208 = .ok (.getfield 31, 3) := by decide +kernel
theorem d_Tu_fillInode_211 : decode cb_Tu_fillInode 211 = .ok (.getfield 229, 3) := by decide +kernel
theorem d_Tu_fillInode_214 : decode cb_Tu_fillInode 214 = .ok (.iload 6, 2) := by decide +kernel
theorem d_Tu_fillInode_216 : decode cb_Tu_fillInode 216 = .ok (.iaload, 1) := by decide +kernel
theorem d_Tu_fillInode_217 : decode cb_Tu_fillInode 217 = .ok (.invokevirtual 149, 3) := by decide +kernel
theorem d_Tu_fillInode_220 : decode cb_Tu_fillInode 220 = .ok (.iinc 6 1, 3) := by decide +kernel
theorem d_Tu_fillInode_223 : decode cb_Tu_fillInode 223 = .ok (.goto (-45), 3) := by decide +kernel
theorem d_Tu_fillInode_226 : decode cb_Tu_fillInode 226 = .ok (.iconst 0, 1) := by decide +kernel
theorem d_Tu_fillInode_227 : decode cb_Tu_fillInode 227 = .ok (.istore 6, 2) := by decide +kernel
theorem d_Tu_fillInode_229 : decode cb_Tu_fillInode 229 = .ok (.iload 6, 2) := by decide +kernel
theorem d_Tu_fillInode_231 : decode cb_Tu_fillInode 231 = .ok (.iload 4, 2) := by decide +kernel
theorem d_Tu_fillInode_233 : decode cb_Tu_fillInode 233 = .ok (.if_icmp .ge 40, 3) := by decide +kernel
theorem d_Tu_fillInode_236 : decode cb_Tu_fillInode 236 = .ok (.iload 6, 2) := by decide +kernel
theorem d_Tu_fillInode_238 : decode cb_Tu_fillInode 238 = .ok (.iconst 2, 1) := by decide +kernel
theorem d_Tu_fillInode_239 : decode cb_Tu_fillInode 239 = .ok (.if_icmp .ge 34, 3) := by decide +kernel
theorem d_Tu_fillInode_242 : decode cb_Tu_fillInode 242 = .ok (.aload_n 0, 1) := by decide +kernel
theorem d_Tu_fillInode_243 : decode cb_Tu_fillInode 243 = .ok (.iload_n 1, 1) := by decide +kernel
theorem d_Tu_fillInode_244 : decode cb_Tu_fillInode 244 = .ok (.bipush 88, 2) := by decide +kernel
theorem d_Tu_fillInode_246 : decode cb_Tu_fillInode 246 = .ok (.iadd, 1) := by decide +kernel
theorem d_Tu_fillInode_247 : decode cb_Tu_fillInode 247 = .ok (.iconst 4, 1) := by decide +kernel
theorem d_Tu_fillInode_248 : decode cb_Tu_fillInode 248 = .ok (.iload 6, 2) := by decide +kernel
theorem d_Tu_fillInode_250 : decode cb_Tu_fillInode 250 = .ok (.imul, 1) := by decide +kernel
theorem d_Tu_fillInode_251 : decode cb_Tu_fillInode 251 = .ok (.iadd, 1) := by decide +kernel
theorem d_Tu_fillInode_252 : decode cb_Tu_fillInode 252 = .ok (.aload_n 0, 1) := by decide +kernel
theorem d_Tu_fillInode_253 : decode cb_Tu_fillInode 253 = .ok (.getfield 31, 3) := by decide +kernel
theorem d_Tu_fillInode_256 : decode cb_Tu_fillInode 256 = .ok (.iload 5, 2) := by decide +kernel
theorem d_Tu_fillInode_258 : decode cb_Tu_fillInode 258 = .ok (.iload 6, 2) := by decide +kernel
theorem d_Tu_fillInode_260 : decode cb_Tu_fillInode 260 = .ok (.iadd, 1) := by decide +kernel
theorem d_Tu_fillInode_261 : decode cb_Tu_fillInode 261 = .ok (.invokevirtual 93, 3) := by decide +kernel
theorem d_Tu_fillInode_264 : decode cb_Tu_fillInode 264 = .ok (.invokevirtual 149, 3) := by decide +kernel
theorem d_Tu_fillInode_267 : decode cb_Tu_fillInode 267 = .ok (.iinc 6 1, 3) := by decide +kernel
theorem d_Tu_fillInode_270 : decode cb_Tu_fillInode 270 = .ok (.goto (-41), 3) := by decide +kernel
theorem d_Tu_fillInode_273 : decode cb_Tu_fillInode 273 = .ok (.return_, 1) := by decide +kernel
theorem d_Tu_modeOf_0 : decode cb_Tu_modeOf 0 = .ok (.iload_n 1, 1) := by decide +kernel
theorem d_Tu_modeOf_1 : decode cb_Tu_modeOf 1 = .ok (.iconst (-1), 1) := by decide +kernel
theorem d_Tu_modeOf_2 : decode cb_Tu_modeOf 2 = .ok (.if_icmp .ne 7, 3) := by decide +kernel
theorem d_Tu_modeOf_5 : decode cb_Tu_modeOf 5 = .ok (.ldc_w 319, 3) := by decide +kernel
theorem d_Tu_modeOf_8 : decode cb_Tu_modeOf 8 = .ok (.ireturn, 1) := by decide +kernel
theorem d_Tu_modeOf_9 : decode cb_Tu_modeOf 9 = .ok (.aload_n 0, 1) := by decide +kernel
theorem d_Tu_modeOf_10 : decode cb_Tu_modeOf 10 = .ok (.getfield 23, 3) := by decide +kernel
theorem d_Tu_modeOf_13 : decode cb_Tu_modeOf 13 = .ok (.iload_n 1, 1) := by decide +kernel
theorem d_Tu_modeOf_14 : decode cb_Tu_modeOf 14 = .ok (.invokevirtual 134, 3) := by decide +kernel
theorem d_Tu_modeOf_17 : decode cb_Tu_modeOf 17 = .ok (.ifCond .eq 9, 3) := by decide +kernel
theorem d_Tu_modeOf_20 : decode cb_Tu_modeOf 20 = .ok (.sipush 16877, 3) := by decide +kernel
theorem d_Tu_modeOf_23 : decode cb_Tu_modeOf 23 = .ok (.goto 6, 3) := by decide +kernel
theorem d_Tu_modeOf_26 : decode cb_Tu_modeOf 26 = .ok (.ldc_w 320, 3) := by decide +kernel
theorem d_Tu_modeOf_29 : decode cb_Tu_modeOf 29 = .ok (.istore_n 2, 1) := by decide +kernel
theorem d_Tu_modeOf_30 : decode cb_Tu_modeOf 30 = .ok (.aload_n 0, 1) := by decide +kernel
theorem d_Tu_modeOf_31 : decode cb_Tu_modeOf 31 = .ok (.getfield 23, 3) := by decide +kernel
theorem d_Tu_modeOf_34 : decode cb_Tu_modeOf 34 = .ok (.iload_n 1, 1) := by decide +kernel
theorem d_Tu_modeOf_35 : decode cb_Tu_modeOf 35 = .ok (.invokevirtual 321, 3) := by decide +kernel
theorem d_Tu_modeOf_38 : decode cb_Tu_modeOf 38 = .ok (.ifCond .eq 11, 3) := by decide +kernel
theorem d_Tu_modeOf_41 : decode cb_Tu_modeOf 41 = .ok (.iload_n 2, 1) := by decide +kernel
theorem d_Tu_modeOf_42 : decode cb_Tu_modeOf 42 = .ok (.sipush 128, 3) := by decide +kernel
theorem d_Tu_modeOf_45 : decode cb_Tu_modeOf 45 = .ok (.isub, 1) := by decide +kernel
theorem d_Tu_modeOf_46 : decode cb_Tu_modeOf 46 = .ok (.goto 4, 3) := by decide +kernel
theorem d_Tu_modeOf_49 : decode cb_Tu_modeOf 49 = .ok (.iload_n 2, 1) := by decide +kernel
theorem d_Tu_modeOf_50 : decode cb_Tu_modeOf 50 = .ok (.ireturn, 1) := by decide +kernel
theorem d_Tu_linksOf_0 : decode cb_Tu_linksOf 0 = .ok (.aload_n 0, 1) := by decide +kernel
theorem d_Tu_linksOf_1 : decode cb_Tu_linksOf 1 = .ok (.getfield 23, 3) := by decide +kernel
theorem d_Tu_linksOf_4 : decode cb_Tu_linksOf 4 = .ok (.iload_n 1, 1) := by decide +kernel
theorem d_Tu_linksOf_5 : decode cb_Tu_linksOf 5 = .ok (.invokevirtual 134, 3) := by decide +kernel
theorem d_Tu_linksOf_8 : decode cb_Tu_linksOf 8 = .ok (.ifCond .ne 5, 3) := by decide +kernel
theorem d_Tu_linksOf_11 : decode cb_Tu_linksOf 11 = .ok (.iconst 1, 1) := by decide +kernel
theorem d_Tu_linksOf_12 : decode cb_Tu_linksOf 12 = .ok (.ireturn, 1) := by decide +kernel
theorem d_Tu_linksOf_13 : decode cb_Tu_linksOf 13 = .ok (.iconst 2, 1) := by decide +kernel
theorem d_Tu_linksOf_14 : decode cb_Tu_linksOf 14 = .ok (.istore_n 2, 1) := by decide +kernel
theorem d_Tu_linksOf_15 : decode cb_Tu_linksOf 15 = .ok (.iconst 0, 1) := by decide +kernel
theorem d_Tu_linksOf_16 : decode cb_Tu_linksOf 16 = .ok (.istore_n 3, 1) := by decide +kernel
theorem d_Tu_linksOf_17 : decode cb_Tu_linksOf 17 = .ok (.iload_n 3, 1) := by decide +kernel
theorem d_Tu_linksOf_18 : decode cb_Tu_linksOf 18 = .ok (.aload_n 0, 1) := by decide +kernel
theorem d_Tu_linksOf_19 : decode cb_Tu_linksOf 19 = .ok (.getfield 23, 3) := by decide +kernel
theorem d_Tu_linksOf_22 : decode cb_Tu_linksOf 22 = .ok (.iload_n 1, 1) := by decide +kernel
theorem d_Tu_linksOf_23 : decode cb_Tu_linksOf 23 = .ok (.invokevirtual 185, 3) := by decide +kernel
theorem d_Tu_linksOf_26 : decode cb_Tu_linksOf 26 = .ok (.if_icmp .ge 36, 3) := by decide +kernel
theorem d_Tu_linksOf_29 : decode cb_Tu_linksOf 29 = .ok (.iload_n 2, 1) := by decide +kernel
theorem d_Tu_linksOf_30 : decode cb_Tu_linksOf 30 = .ok (.aload_n 0, 1) := by decide +kernel
theorem d_Tu_linksOf_31 : decode cb_Tu_linksOf 31 = .ok (.getfield 23, 3) := by decide +kernel
theorem d_Tu_linksOf_34 : decode cb_Tu_linksOf 34 = .ok (.aload_n 0, 1) := by decide +kernel
theorem d_Tu_linksOf_35 : decode cb_Tu_linksOf 35 = .ok (.getfield 23, 3) := by decide +kernel
theorem d_Tu_linksOf_38 : decode cb_Tu_linksOf 38 = .ok (.iload_n 1, 1) := by decide +kernel
theorem d_Tu_linksOf_39 : decode cb_Tu_linksOf 39 = .ok (.iload_n 3, 1) := by decide +kernel
theorem d_Tu_linksOf_40 : decode cb_Tu_linksOf 40 = .ok (.invokevirtual 191, 3) := by decide +kernel
theorem d_Tu_linksOf_43 : decode cb_Tu_linksOf 43 = .ok (.invokevirtual 134, 3) := by decide +kernel
theorem d_Tu_linksOf_46 : decode cb_Tu_linksOf 46 = .ok (.ifCond .eq 7, 3) := by decide +kernel
theorem d_Tu_linksOf_49 : decode cb_Tu_linksOf 49 = .ok (.iconst 1, 1) := by decide +kernel
theorem d_Tu_linksOf_50 : decode cb_Tu_linksOf 50 = .ok (.goto 4, 3) := by decide +kernel
theorem d_Tu_linksOf_53 : decode cb_Tu_linksOf 53 = .ok (.iconst 0, 1) := by decide +kernel
theorem d_Tu_linksOf_54 : decode cb_Tu_linksOf 54 = .ok (.iadd, 1) := by decide +kernel
theorem d_Tu_linksOf_55 : decode cb_Tu_linksOf 55 = .ok (.istore_n 2, 1) := by decide +kernel
theorem d_Tu_linksOf_56 : decode cb_Tu_linksOf 56 = .ok (.iinc 3 1, 3) := by decide +kernel
theorem d_Tu_linksOf_59 : decode cb_Tu_linksOf 59 = .ok (.goto (-42), 3) := by decide +kernel
theorem d_Tu_linksOf_62 : decode cb_Tu_linksOf 62 = .ok (.iload_n 2, 1) := by decide +kernel
theorem d_Tu_linksOf_63 : decode cb_Tu_linksOf 63 = .ok (.ireturn, 1) := by decide +kernel
