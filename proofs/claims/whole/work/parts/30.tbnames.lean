abbrev b_Tb_init : ByteArray := prog_8_method_1_code
def y_Tb_init : MethodName := ⟨R_Tb, "<init>", "(LVolumeTurner$Disk;)V"⟩
theorem d_Tb_init_0 : decode b_Tb_init 0 = .ok (.aload_n 0, 1) := by decide +kernel
theorem d_Tb_init_1 : decode b_Tb_init 1 = .ok (.invokespecial 3, 3) := by decide +kernel
theorem d_Tb_init_4 : decode b_Tb_init 4 = .ok (.aload_n 0, 1) := by decide +kernel
theorem d_Tb_init_5 : decode b_Tb_init 5 = .ok (.iconst 2, 1) := by decide +kernel
theorem d_Tb_init_6 : decode b_Tb_init 6 = .ok (.putfield 9, 3) := by decide +kernel
theorem d_Tb_init_9 : decode b_Tb_init 9 = .ok (.aload_n 0, 1) := by decide +kernel
theorem d_Tb_init_10 : decode b_Tb_init 10 = .ok (.bipush 8, 2) := by decide +kernel
theorem d_Tb_init_12 : decode b_Tb_init 12 = .ok (.putfield 15, 3) := by decide +kernel
theorem d_Tb_init_15 : decode b_Tb_init 15 = .ok (.aload_n 0, 1) := by decide +kernel
theorem d_Tb_init_16 : decode b_Tb_init 16 = .ok (.iconst 1, 1) := by decide +kernel
theorem d_Tb_init_17 : decode b_Tb_init 17 = .ok (.putfield 18, 3) := by decide +kernel
theorem d_Tb_init_20 : decode b_Tb_init 20 = .ok (.aload_n 0, 1) := by decide +kernel
theorem d_Tb_init_21 : decode b_Tb_init 21 = .ok (.iconst 1, 1) := by decide +kernel
theorem d_Tb_init_22 : decode b_Tb_init 22 = .ok (.putfield 21, 3) := by decide +kernel
theorem d_Tb_init_25 : decode b_Tb_init 25 = .ok (.aload_n 0, 1) := by decide +kernel
theorem d_Tb_init_26 : decode b_Tb_init 26 = .ok (.iconst 2, 1) := by decide +kernel
theorem d_Tb_init_27 : decode b_Tb_init 27 = .ok (.putfield 24, 3) := by decide +kernel
theorem d_Tb_init_30 : decode b_Tb_init 30 = .ok (.aload_n 0, 1) := by decide +kernel
theorem d_Tb_init_31 : decode b_Tb_init 31 = .ok (.bipush 10, 2) := by decide +kernel
theorem d_Tb_init_33 : decode b_Tb_init 33 = .ok (.putfield 27, 3) := by decide +kernel
theorem d_Tb_init_36 : decode b_Tb_init 36 = .ok (.aload_n 0, 1) := by decide +kernel
theorem d_Tb_init_37 : decode b_Tb_init 37 = .ok (.iconst 4, 1) := by decide +kernel
theorem d_Tb_init_38 : decode b_Tb_init 38 = .ok (.putfield 30, 3) := by decide +kernel
theorem d_Tb_init_41 : decode b_Tb_init 41 = .ok (.aload_n 0, 1) := by decide +kernel
theorem d_Tb_init_42 : decode b_Tb_init 42 = .ok (.aload_n 1, 1) := by decide +kernel
theorem d_Tb_init_43 : decode b_Tb_init 43 = .ok (.putfield 33, 3) := by decide +kernel
theorem d_Tb_init_46 : decode b_Tb_init 46 = .ok (.aload_n 0, 1) := by decide +kernel
theorem d_Tb_init_47 : decode b_Tb_init 47 = .ok (.aload_n 1, 1) := by decide +kernel
theorem d_Tb_init_48 : decode b_Tb_init 48 = .ok (.getfield 37, 3) := by decide +kernel
theorem d_Tb_init_51 : decode b_Tb_init 51 = .ok (.iconst 2, 1) := by decide +kernel
theorem d_Tb_init_52 : decode b_Tb_init 52 = .ok (.idiv, 1) := by decide +kernel
theorem d_Tb_init_53 : decode b_Tb_init 53 = .ok (.iconst 2, 1) := by decide +kernel
theorem d_Tb_init_54 : decode b_Tb_init 54 = .ok (.iadd, 1) := by decide +kernel
theorem d_Tb_init_55 : decode b_Tb_init 55 = .ok (.newarray .int, 2) := by decide +kernel
theorem d_Tb_init_57 : decode b_Tb_init 57 = .ok (.putfield 42, 3) := by decide +kernel
theorem d_Tb_init_60 : decode b_Tb_init 60 = .ok (.aload_n 0, 1) := by decide +kernel
theorem d_Tb_init_61 : decode b_Tb_init 61 = .ok (.aload_n 1, 1) := by decide +kernel
theorem d_Tb_init_62 : decode b_Tb_init 62 = .ok (.getfield 37, 3) := by decide +kernel
theorem d_Tb_init_65 : decode b_Tb_init 65 = .ok (.iconst 2, 1) := by decide +kernel
theorem d_Tb_init_66 : decode b_Tb_init 66 = .ok (.idiv, 1) := by decide +kernel
theorem d_Tb_init_67 : decode b_Tb_init 67 = .ok (.iconst 2, 1) := by decide +kernel
theorem d_Tb_init_68 : decode b_Tb_init 68 = .ok (.iadd, 1) := by decide +kernel
theorem d_Tb_init_69 : decode b_Tb_init 69 = .ok (.newarray .int, 2) := by decide +kernel
theorem d_Tb_init_71 : decode b_Tb_init 71 = .ok (.putfield 46, 3) := by decide +kernel
theorem d_Tb_init_74 : decode b_Tb_init 74 = .ok (.return_, 1) := by decide +kernel
abbrev b_Tb_numbersFit : ByteArray := prog_8_method_2_code
def y_Tb_numbersFit : MethodName := ⟨R_Tb, "numbersFit", "(IIII)Z"⟩
theorem d_Tb_numbersFit_0 : decode b_Tb_numbersFit 0 = .ok (.iload_n 0, 1) := by decide +kernel
theorem d_Tb_numbersFit_1 : decode b_Tb_numbersFit 1 = .ok (.iconst 2, 1) := by decide +kernel
theorem d_Tb_numbersFit_2 : decode b_Tb_numbersFit 2 = .ok (.if_icmp .eq 14, 3) := by decide +kernel
theorem d_Tb_numbersFit_5 : decode b_Tb_numbersFit 5 = .ok (.iload_n 0, 1) := by decide +kernel
theorem d_Tb_numbersFit_6 : decode b_Tb_numbersFit 6 = .ok (.iconst 4, 1) := by decide +kernel
theorem d_Tb_numbersFit_7 : decode b_Tb_numbersFit 7 = .ok (.if_icmp .eq 9, 3) := by decide +kernel
theorem d_Tb_numbersFit_10 : decode b_Tb_numbersFit 10 = .ok (.iload_n 0, 1) := by decide +kernel
theorem d_Tb_numbersFit_11 : decode b_Tb_numbersFit 11 = .ok (.bipush 8, 2) := by decide +kernel
theorem d_Tb_numbersFit_13 : decode b_Tb_numbersFit 13 = .ok (.if_icmp .ne 40, 3) := by decide +kernel
theorem d_Tb_numbersFit_16 : decode b_Tb_numbersFit 16 = .ok (.iload_n 1, 1) := by decide +kernel
theorem d_Tb_numbersFit_17 : decode b_Tb_numbersFit 17 = .ok (.bipush 8, 2) := by decide +kernel
theorem d_Tb_numbersFit_19 : decode b_Tb_numbersFit 19 = .ok (.if_icmp .lt 34, 3) := by decide +kernel
theorem d_Tb_numbersFit_22 : decode b_Tb_numbersFit 22 = .ok (.iload_n 1, 1) := by decide +kernel
theorem d_Tb_numbersFit_23 : decode b_Tb_numbersFit 23 = .ok (.bipush 64, 2) := by decide +kernel
theorem d_Tb_numbersFit_25 : decode b_Tb_numbersFit 25 = .ok (.if_icmp .gt 28, 3) := by decide +kernel
theorem d_Tb_numbersFit_28 : decode b_Tb_numbersFit 28 = .ok (.iload_n 2, 1) := by decide +kernel
theorem d_Tb_numbersFit_29 : decode b_Tb_numbersFit 29 = .ok (.iconst 1, 1) := by decide +kernel
theorem d_Tb_numbersFit_30 : decode b_Tb_numbersFit 30 = .ok (.if_icmp .eq 8, 3) := by decide +kernel
theorem d_Tb_numbersFit_33 : decode b_Tb_numbersFit 33 = .ok (.iload_n 2, 1) := by decide +kernel
theorem d_Tb_numbersFit_34 : decode b_Tb_numbersFit 34 = .ok (.iconst 2, 1) := by decide +kernel
theorem d_Tb_numbersFit_35 : decode b_Tb_numbersFit 35 = .ok (.if_icmp .ne 18, 3) := by decide +kernel
theorem d_Tb_numbersFit_38 : decode b_Tb_numbersFit 38 = .ok (.iload_n 3, 1) := by decide +kernel
theorem d_Tb_numbersFit_39 : decode b_Tb_numbersFit 39 = .ok (.iconst 1, 1) := by decide +kernel
theorem d_Tb_numbersFit_40 : decode b_Tb_numbersFit 40 = .ok (.if_icmp .lt 13, 3) := by decide +kernel
theorem d_Tb_numbersFit_43 : decode b_Tb_numbersFit 43 = .ok (.iload_n 3, 1) := by decide +kernel
theorem d_Tb_numbersFit_44 : decode b_Tb_numbersFit 44 = .ok (.bipush 32, 2) := by decide +kernel
theorem d_Tb_numbersFit_46 : decode b_Tb_numbersFit 46 = .ok (.if_icmp .gt 7, 3) := by decide +kernel
theorem d_Tb_numbersFit_49 : decode b_Tb_numbersFit 49 = .ok (.iconst 1, 1) := by decide +kernel
theorem d_Tb_numbersFit_50 : decode b_Tb_numbersFit 50 = .ok (.goto 4, 3) := by decide +kernel
theorem d_Tb_numbersFit_53 : decode b_Tb_numbersFit 53 = .ok (.iconst 0, 1) := by decide +kernel
theorem d_Tb_numbersFit_54 : decode b_Tb_numbersFit 54 = .ok (.ireturn, 1) := by decide +kernel
abbrev cb_Tb_clustersWith : ByteArray := prog_8_method_3_code
def y_Tb_clustersWith : MethodName := ⟨R_Tb, "clustersWith", "(IIII)I"⟩
theorem d_Tb_clustersWith_0 : decode cb_Tb_clustersWith 0 = .ok (.iload_n 1, 1) := by decide +kernel
theorem d_Tb_clustersWith_1 : decode cb_Tb_clustersWith 1 = .ok (.iconst 1, 1) := by decide +kernel
theorem d_Tb_clustersWith_2 : decode cb_Tb_clustersWith 2 = .ok (.if_icmp .ge 7, 3) := by decide +kernel
theorem d_Tb_clustersWith_5 : decode cb_Tb_clustersWith 5 = .ok (.iconst 0, 1) := by decide +kernel
theorem d_Tb_clustersWith_6 : decode cb_Tb_clustersWith 6 = .ok (.goto 19, 3) := by decide +kernel
theorem d_Tb_clustersWith_9 : decode cb_Tb_clustersWith 9 = .ok (.aload_n 0, 1) := by decide +kernel
theorem d_Tb_clustersWith_10 : decode cb_Tb_clustersWith 10 = .ok (.getfield 33, 3) := by decide +kernel
theorem d_Tb_clustersWith_13 : decode cb_Tb_clustersWith 13 = .ok (.getfield 37, 3) := by decide +kernel
theorem d_Tb_clustersWith_16 : decode cb_Tb_clustersWith 16 = .ok (.iload_n 2, 1) := by decide +kernel
theorem d_Tb_clustersWith_17 : decode cb_Tb_clustersWith 17 = .ok (.isub, 1) := by decide +kernel
theorem d_Tb_clustersWith_18 : decode cb_Tb_clustersWith 18 = .ok (.iload_n 3, 1) := by decide +kernel
theorem d_Tb_clustersWith_19 : decode cb_Tb_clustersWith 19 = .ok (.iload 4, 2) := by decide +kernel
theorem d_Tb_clustersWith_21 : decode cb_Tb_clustersWith 21 = .ok (.imul, 1) := by decide +kernel
theorem d_Tb_clustersWith_22 : decode cb_Tb_clustersWith 22 = .ok (.isub, 1) := by decide +kernel
theorem d_Tb_clustersWith_23 : decode cb_Tb_clustersWith 23 = .ok (.iload_n 1, 1) := by decide +kernel
theorem d_Tb_clustersWith_24 : decode cb_Tb_clustersWith 24 = .ok (.idiv, 1) := by decide +kernel
theorem d_Tb_clustersWith_25 : decode cb_Tb_clustersWith 25 = .ok (.ireturn, 1) := by decide +kernel
abbrev b_Tb_isEnough : ByteArray := prog_8_method_4_code
def y_Tb_isEnough : MethodName := ⟨R_Tb, "isEnough", "(II)Z"⟩
theorem d_Tb_isEnough_0 : decode b_Tb_isEnough 0 = .ok (.iload_n 0, 1) := by decide +kernel
theorem d_Tb_isEnough_1 : decode b_Tb_isEnough 1 = .ok (.iconst 4, 1) := by decide +kernel
theorem d_Tb_isEnough_2 : decode b_Tb_isEnough 2 = .ok (.if_icmp .lt 18, 3) := by decide +kernel
theorem d_Tb_isEnough_5 : decode b_Tb_isEnough 5 = .ok (.sipush 128, 3) := by decide +kernel
theorem d_Tb_isEnough_8 : decode b_Tb_isEnough 8 = .ok (.iload_n 1, 1) := by decide +kernel
theorem d_Tb_isEnough_9 : decode b_Tb_isEnough 9 = .ok (.imul, 1) := by decide +kernel
theorem d_Tb_isEnough_10 : decode b_Tb_isEnough 10 = .ok (.iload_n 0, 1) := by decide +kernel
theorem d_Tb_isEnough_11 : decode b_Tb_isEnough 11 = .ok (.iconst 2, 1) := by decide +kernel
theorem d_Tb_isEnough_12 : decode b_Tb_isEnough 12 = .ok (.iadd, 1) := by decide +kernel
theorem d_Tb_isEnough_13 : decode b_Tb_isEnough 13 = .ok (.if_icmp .lt 7, 3) := by decide +kernel
theorem d_Tb_isEnough_16 : decode b_Tb_isEnough 16 = .ok (.iconst 1, 1) := by decide +kernel
theorem d_Tb_isEnough_17 : decode b_Tb_isEnough 17 = .ok (.goto 4, 3) := by decide +kernel
theorem d_Tb_isEnough_20 : decode b_Tb_isEnough 20 = .ok (.iconst 0, 1) := by decide +kernel
theorem d_Tb_isEnough_21 : decode b_Tb_isEnough 21 = .ok (.ireturn, 1) := by decide +kernel
abbrev cb_Tb_leastLength : ByteArray := prog_8_method_5_code
def y_Tb_leastLength : MethodName := ⟨R_Tb, "leastLength", "(III)I"⟩
theorem d_Tb_leastLength_0 : decode cb_Tb_leastLength 0 = .ok (.iconst 1, 1) := by decide +kernel
theorem d_Tb_leastLength_1 : decode cb_Tb_leastLength 1 = .ok (.istore 4, 2) := by decide +kernel
theorem d_Tb_leastLength_3 : decode cb_Tb_leastLength 3 = .ok (.iload 4, 2) := by decide +kernel
theorem d_Tb_leastLength_5 : decode cb_Tb_leastLength 5 = .ok (.bipush 32, 2) := by decide +kernel
theorem d_Tb_leastLength_7 : decode cb_Tb_leastLength 7 = .ok (.if_icmp .gt 40, 3) := by decide +kernel
theorem d_Tb_leastLength_10 : decode cb_Tb_leastLength 10 = .ok (.iload_n 1, 1) := by decide +kernel
theorem d_Tb_leastLength_11 : decode cb_Tb_leastLength 11 = .ok (.iload_n 2, 1) := by decide +kernel
theorem d_Tb_leastLength_12 : decode cb_Tb_leastLength 12 = .ok (.iload_n 3, 1) := by decide +kernel
theorem d_Tb_leastLength_13 : decode cb_Tb_leastLength 13 = .ok (.iload 4, 2) := by decide +kernel
theorem d_Tb_leastLength_15 : decode cb_Tb_leastLength 15 = .ok (.invokestatic 49, 3) := by decide +kernel
theorem d_Tb_leastLength_18 : decode cb_Tb_leastLength 18 = .ok (.ifCond .eq 23, 3) := by decide +kernel
theorem d_Tb_leastLength_21 : decode cb_Tb_leastLength 21 = .ok (.aload_n 0, 1) := by decide +kernel
theorem d_Tb_leastLength_22 : decode cb_Tb_leastLength 22 = .ok (.iload_n 1, 1) := by decide +kernel
theorem d_Tb_leastLength_23 : decode cb_Tb_leastLength 23 = .ok (.iload_n 2, 1) := by decide +kernel
theorem d_Tb_leastLength_24 : decode cb_Tb_leastLength 24 = .ok (.iload_n 3, 1) := by decide +kernel
theorem d_Tb_leastLength_25 : decode cb_Tb_leastLength 25 = .ok (.iload 4, 2) := by decide +kernel
theorem d_Tb_leastLength_27 : decode cb_Tb_leastLength 27 = .ok (.invokevirtual 53, 3) := by decide +kernel
theorem d_Tb_leastLength_30 : decode cb_Tb_leastLength 30 = .ok (.iload 4, 2) := by decide +kernel
theorem d_Tb_leastLength_32 : decode cb_Tb_leastLength 32 = .ok (.invokestatic 57, 3) := by decide +kernel
theorem d_Tb_leastLength_35 : decode cb_Tb_leastLength 35 = .ok (.ifCond .eq 6, 3) := by decide +kernel
theorem d_Tb_leastLength_38 : decode cb_Tb_leastLength 38 = .ok (.iload 4, 2) := by decide +kernel
theorem d_Tb_leastLength_40 : decode cb_Tb_leastLength 40 = .ok (.ireturn, 1) := by decide +kernel
theorem d_Tb_leastLength_41 : decode cb_Tb_leastLength 41 = .ok (.iinc 4 1, 3) := by decide +kernel
theorem d_Tb_leastLength_44 : decode cb_Tb_leastLength 44 = .ok (.goto (-41), 3) := by decide +kernel
theorem d_Tb_leastLength_47 : decode cb_Tb_leastLength 47 = .ok (.iconst (-1), 1) := by decide +kernel
theorem d_Tb_leastLength_48 : decode cb_Tb_leastLength 48 = .ok (.ireturn, 1) := by decide +kernel
abbrev cb_Tb_writeFirstSectors : ByteArray := prog_8_method_6_code
def y_Tb_writeFirstSectors : MethodName := ⟨R_Tb, "writeFirstSectors", "(IIIII)V"⟩
theorem d_Tb_writeFirstSectors_0 : decode cb_Tb_writeFirstSectors 0 = .ok (.iconst 0, 1) := by decide +kernel
theorem d_Tb_writeFirstSectors_1 : decode cb_Tb_writeFirstSectors 1 = .ok (.istore 6, 2) := by decide +kernel
theorem d_Tb_writeFirstSectors_3 : decode cb_Tb_writeFirstSectors 3 = .ok (.iload 6, 2) := by decide +kernel
theorem d_Tb_writeFirstSectors_5 : decode cb_Tb_writeFirstSectors 5 = .ok (.sipush 3072, 3) := by decide +kernel
theorem d_Tb_writeFirstSectors_8 : decode cb_Tb_writeFirstSectors 8 = .ok (.if_icmp .gt 198, 3) := by decide +kernel
theorem d_Tb_writeFirstSectors_11 : decode cb_Tb_writeFirstSectors 11 = .ok (.iconst 3, 1) := by decide +kernel
theorem d_Tb_writeFirstSectors_12 : decode cb_Tb_writeFirstSectors 12 = .ok (.istore 7, 2) := by decide +kernel
theorem d_Tb_writeFirstSectors_14 : decode cb_Tb_writeFirstSectors 14 = .ok (.iload 7, 2) := by decide +kernel
theorem d_Tb_writeFirstSectors_16 : decode cb_Tb_writeFirstSectors 16 = .ok (.bipush 11, 2) := by decide +kernel
theorem d_Tb_writeFirstSectors_18 : decode cb_Tb_writeFirstSectors 18 = .ok (.if_icmp .ge 23, 3) := by decide +kernel
theorem d_Tb_writeFirstSectors_21 : decode cb_Tb_writeFirstSectors 21 = .ok (.aload_n 0, 1) := by decide +kernel
theorem d_Tb_writeFirstSectors_22 : decode cb_Tb_writeFirstSectors 22 = .ok (.getfield 33, 3) := by decide +kernel
theorem d_Tb_writeFirstSectors_25 : decode cb_Tb_writeFirstSectors 25 = .ok (.iload 6, 2) := by decide +kernel
theorem d_Tb_writeFirstSectors_27 : decode cb_Tb_writeFirstSectors 27 = .ok (.iload 7, 2) := by decide +kernel
theorem d_Tb_writeFirstSectors_29 : decode cb_Tb_writeFirstSectors 29 = .ok (.iadd, 1) := by decide +kernel
theorem d_Tb_writeFirstSectors_30 : decode cb_Tb_writeFirstSectors 30 = .ok (.bipush 32, 2) := by decide +kernel
theorem d_Tb_writeFirstSectors_32 : decode cb_Tb_writeFirstSectors 32 = .ok (.invokevirtual 61, 3) := by decide +kernel
theorem d_Tb_writeFirstSectors_35 : decode cb_Tb_writeFirstSectors 35 = .ok (.iinc 7 1, 3) := by decide +kernel
theorem d_Tb_writeFirstSectors_38 : decode cb_Tb_writeFirstSectors 38 = .ok (.goto (-24), 3) := by decide +kernel
theorem d_Tb_writeFirstSectors_41 : decode cb_Tb_writeFirstSectors 41 = .ok (.aload_n 0, 1) := by decide +kernel
theorem d_Tb_writeFirstSectors_42 : decode cb_Tb_writeFirstSectors 42 = .ok (.getfield 33, 3) := by decide +kernel
theorem d_Tb_writeFirstSectors_45 : decode cb_Tb_writeFirstSectors 45 = .ok (.iload 6, 2) := by decide +kernel
theorem d_Tb_writeFirstSectors_47 : decode cb_Tb_writeFirstSectors 47 = .ok (.bipush 11, 2) := by decide +kernel
theorem d_Tb_writeFirstSectors_49 : decode cb_Tb_writeFirstSectors 49 = .ok (.iadd, 1) := by decide +kernel
theorem d_Tb_writeFirstSectors_50 : decode cb_Tb_writeFirstSectors 50 = .ok (.sipush 512, 3) := by decide +kernel
theorem d_Tb_writeFirstSectors_53 : decode cb_Tb_writeFirstSectors 53 = .ok (.invokevirtual 65, 3) := by decide +kernel
theorem d_Tb_writeFirstSectors_56 : decode cb_Tb_writeFirstSectors 56 = .ok (.aload_n 0, 1) := by decide +kernel
theorem d_Tb_writeFirstSectors_57 : decode cb_Tb_writeFirstSectors 57 = .ok (.getfield 33, 3) := by decide +kernel
theorem d_Tb_writeFirstSectors_60 : decode cb_Tb_writeFirstSectors 60 = .ok (.iload 6, 2) := by decide +kernel
theorem d_Tb_writeFirstSectors_62 : decode cb_Tb_writeFirstSectors 62 = .ok (.bipush 13, 2) := by decide +kernel
theorem d_Tb_writeFirstSectors_64 : decode cb_Tb_writeFirstSectors 64 = .ok (.iadd, 1) := by decide +kernel
theorem d_Tb_writeFirstSectors_65 : decode cb_Tb_writeFirstSectors 65 = .ok (.iload_n 1, 1) := by decide +kernel
theorem d_Tb_writeFirstSectors_66 : decode cb_Tb_writeFirstSectors 66 = .ok (.invokevirtual 61, 3) := by decide +kernel
theorem d_Tb_writeFirstSectors_69 : decode cb_Tb_writeFirstSectors 69 = .ok (.aload_n 0, 1) := by decide +kernel
theorem d_Tb_writeFirstSectors_70 : decode cb_Tb_writeFirstSectors 70 = .ok (.getfield 33, 3) := by decide +kernel
theorem d_Tb_writeFirstSectors_73 : decode cb_Tb_writeFirstSectors 73 = .ok (.iload 6, 2) := by decide +kernel
theorem d_Tb_writeFirstSectors_75 : decode cb_Tb_writeFirstSectors 75 = .ok (.bipush 14, 2) := by decide +kernel
theorem d_Tb_writeFirstSectors_77 : decode cb_Tb_writeFirstSectors 77 = .ok (.iadd, 1) := by decide +kernel
theorem d_Tb_writeFirstSectors_78 : decode cb_Tb_writeFirstSectors 78 = .ok (.iload_n 2, 1) := by decide +kernel
theorem d_Tb_writeFirstSectors_79 : decode cb_Tb_writeFirstSectors 79 = .ok (.invokevirtual 65, 3) := by decide +kernel
theorem d_Tb_writeFirstSectors_82 : decode cb_Tb_writeFirstSectors 82 = .ok (.aload_n 0, 1) := by decide +kernel
theorem d_Tb_writeFirstSectors_83 : decode cb_Tb_writeFirstSectors 83 = .ok (.getfield 33, 3) := by decide +kernel
theorem d_Tb_writeFirstSectors_86 : decode cb_Tb_writeFirstSectors 86 = .ok (.iload 6, 2) := by decide +kernel
theorem d_Tb_writeFirstSectors_88 : decode cb_Tb_writeFirstSectors 88 = .ok (.bipush 16, 2) := by decide +kernel
theorem d_Tb_writeFirstSectors_90 : decode cb_Tb_writeFirstSectors 90 = .ok (.iadd, 1) := by decide +kernel
theorem d_Tb_writeFirstSectors_91 : decode cb_Tb_writeFirstSectors 91 = .ok (.iload_n 3, 1) := by decide +kernel
theorem d_Tb_writeFirstSectors_92 : decode cb_Tb_writeFirstSectors 92 = .ok (.invokevirtual 61, 3) := by decide +kernel
theorem d_Tb_writeFirstSectors_95 : decode cb_Tb_writeFirstSectors 95 = .ok (.aload_n 0, 1) := by decide +kernel
theorem d_Tb_writeFirstSectors_96 : decode cb_Tb_writeFirstSectors 96 = .ok (.getfield 33, 3) := by decide +kernel
theorem d_Tb_writeFirstSectors_99 : decode cb_Tb_writeFirstSectors 99 = .ok (.iload 6, 2) := by decide +kernel
theorem d_Tb_writeFirstSectors_101 : decode cb_Tb_writeFirstSectors 101 = .ok (.bipush 32, 2) := by decide +kernel
theorem d_Tb_writeFirstSectors_103 : decode cb_Tb_writeFirstSectors 103 = .ok (.iadd, 1) := by decide +kernel
theorem d_Tb_writeFirstSectors_104 : decode cb_Tb_writeFirstSectors 104 = .ok (.aload_n 0, 1) := by decide +kernel
theorem d_Tb_writeFirstSectors_105 : decode cb_Tb_writeFirstSectors 105 = .ok (.getfield 33, 3) := by decide +kernel
theorem d_Tb_writeFirstSectors_108 : decode cb_Tb_writeFirstSectors 108 = .ok (.getfield 37, 3) := by decide +kernel
theorem d_Tb_writeFirstSectors_111 : decode cb_Tb_writeFirstSectors 111 = .ok (.invokevirtual 68, 3) := by decide +kernel
theorem d_Tb_writeFirstSectors_114 : decode cb_Tb_writeFirstSectors 114 = .ok (.aload_n 0, 1) := by decide +kernel
theorem d_Tb_writeFirstSectors_115 : decode cb_Tb_writeFirstSectors 115 = .ok (.getfield 33, 3) := by decide +kernel
theorem d_Tb_writeFirstSectors_118 : decode cb_Tb_writeFirstSectors 118 = .ok (.iload 6, 2) := by decide +kernel
theorem d_Tb_writeFirstSectors_120 : decode cb_Tb_writeFirstSectors 120 = .ok (.bipush 36, 2) := by decide +kernel
theorem d_Tb_writeFirstSectors_122 : decode cb_Tb_writeFirstSectors 122 = .ok (.iadd, 1) := by decide +kernel
theorem d_Tb_writeFirstSectors_123 : decode cb_Tb_writeFirstSectors 123 = .ok (.iload 4, 2) := by decide +kernel
theorem d_Tb_writeFirstSectors_125 : decode cb_Tb_writeFirstSectors 125 = .ok (.invokevirtual 68, 3) := by decide +kernel
theorem d_Tb_writeFirstSectors_128 : decode cb_Tb_writeFirstSectors 128 = .ok (.aload_n 0, 1) := by decide +kernel
theorem d_Tb_writeFirstSectors_129 : decode cb_Tb_writeFirstSectors 129 = .ok (.getfield 33, 3) := by decide +kernel
theorem d_Tb_writeFirstSectors_132 : decode cb_Tb_writeFirstSectors 132 = .ok (.iload 6, 2) := by decide +kernel
theorem d_Tb_writeFirstSectors_134 : decode cb_Tb_writeFirstSectors 134 = .ok (.bipush 44, 2) := by decide +kernel
theorem d_Tb_writeFirstSectors_136 : decode cb_Tb_writeFirstSectors 136 = .ok (.iadd, 1) := by decide +kernel
theorem d_Tb_writeFirstSectors_137 : decode cb_Tb_writeFirstSectors 137 = .ok (.iconst 2, 1) := by decide +kernel
theorem d_Tb_writeFirstSectors_138 : decode cb_Tb_writeFirstSectors 138 = .ok (.invokevirtual 68, 3) := by decide +kernel
theorem d_Tb_writeFirstSectors_141 : decode cb_Tb_writeFirstSectors 141 = .ok (.aload_n 0, 1) := by decide +kernel
theorem d_Tb_writeFirstSectors_142 : decode cb_Tb_writeFirstSectors 142 = .ok (.getfield 33, 3) := by decide +kernel
theorem d_Tb_writeFirstSectors_145 : decode cb_Tb_writeFirstSectors 145 = .ok (.iload 6, 2) := by decide +kernel
theorem d_Tb_writeFirstSectors_147 : decode cb_Tb_writeFirstSectors 147 = .ok (.bipush 48, 2) := by decide +kernel
theorem d_Tb_writeFirstSectors_149 : decode cb_Tb_writeFirstSectors 149 = .ok (.iadd, 1) := by decide +kernel
theorem d_Tb_writeFirstSectors_150 : decode cb_Tb_writeFirstSectors 150 = .ok (.iconst 1, 1) := by decide +kernel
theorem d_Tb_writeFirstSectors_151 : decode cb_Tb_writeFirstSectors 151 = .ok (.invokevirtual 65, 3) := by decide +kernel
theorem d_Tb_writeFirstSectors_154 : decode cb_Tb_writeFirstSectors 154 = .ok (.aload_n 0, 1) := by decide +kernel
theorem d_Tb_writeFirstSectors_155 : decode cb_Tb_writeFirstSectors 155 = .ok (.getfield 33, 3) := by decide +kernel
theorem d_Tb_writeFirstSectors_158 : decode cb_Tb_writeFirstSectors 158 = .ok (.iload 6, 2) := by decide +kernel
theorem d_Tb_writeFirstSectors_160 : decode cb_Tb_writeFirstSectors 160 = .ok (.bipush 50, 2) := by decide +kernel
theorem d_Tb_writeFirstSectors_162 : decode cb_Tb_writeFirstSectors 162 = .ok (.iadd, 1) := by decide +kernel
theorem d_Tb_writeFirstSectors_163 : decode cb_Tb_writeFirstSectors 163 = .ok (.bipush 6, 2) := by decide +kernel
theorem d_Tb_writeFirstSectors_165 : decode cb_Tb_writeFirstSectors 165 = .ok (.invokevirtual 65, 3) := by decide +kernel
theorem d_Tb_writeFirstSectors_168 : decode cb_Tb_writeFirstSectors 168 = .ok (.aload_n 0, 1) := by decide +kernel
theorem d_Tb_writeFirstSectors_169 : decode cb_Tb_writeFirstSectors 169 = .ok (.getfield 33, 3) := by decide +kernel
theorem d_Tb_writeFirstSectors_172 : decode cb_Tb_writeFirstSectors 172 = .ok (.iload 6, 2) := by decide +kernel
theorem d_Tb_writeFirstSectors_174 : decode cb_Tb_writeFirstSectors 174 = .ok (.bipush 67, 2) := by decide +kernel
theorem d_Tb_writeFirstSectors_176 : decode cb_Tb_writeFirstSectors 176 = .ok (.iadd, 1) := by decide +kernel
theorem d_Tb_writeFirstSectors_177 : decode cb_Tb_writeFirstSectors 177 = .ok (.iload 5, 2) := by decide +kernel
theorem d_Tb_writeFirstSectors_179 : decode cb_Tb_writeFirstSectors 179 = .ok (.invokevirtual 68, 3) := by decide +kernel
theorem d_Tb_writeFirstSectors_182 : decode cb_Tb_writeFirstSectors 182 = .ok (.aload_n 0, 1) := by decide +kernel
theorem d_Tb_writeFirstSectors_183 : decode cb_Tb_writeFirstSectors 183 = .ok (.getfield 33, 3) := by decide +kernel
theorem d_Tb_writeFirstSectors_186 : decode cb_Tb_writeFirstSectors 186 = .ok (.iload 6, 2) := by decide +kernel
theorem d_Tb_writeFirstSectors_188 : decode cb_Tb_writeFirstSectors 188 = .ok (.sipush 510, 3) := by decide +kernel
theorem d_Tb_writeFirstSectors_191 : decode cb_Tb_writeFirstSectors 191 = .ok (.iadd, 1) := by decide +kernel
theorem d_Tb_writeFirstSectors_192 : decode cb_Tb_writeFirstSectors 192 = .ok (.ldc 71, 2) := by decide +kernel
theorem d_Tb_writeFirstSectors_194 : decode cb_Tb_writeFirstSectors 194 = .ok (.invokevirtual 65, 3) := by decide +kernel
theorem d_Tb_writeFirstSectors_197 : decode cb_Tb_writeFirstSectors 197 = .ok (.iinc 6 3072, 6) := by decide +kernel
theorem d_Tb_writeFirstSectors_203 : decode cb_Tb_writeFirstSectors 203 = .ok (.goto (-200), 3) := by decide +kernel
theorem d_Tb_writeFirstSectors_206 : decode cb_Tb_writeFirstSectors 206 = .ok (.aload_n 0, 1) := by decide +kernel
theorem d_Tb_writeFirstSectors_207 : decode cb_Tb_writeFirstSectors 207 = .ok (.getfield 33, 3) := by decide +kernel
theorem d_Tb_writeFirstSectors_210 : decode cb_Tb_writeFirstSectors 210 = .ok (.sipush 512, 3) := by decide +kernel
theorem d_Tb_writeFirstSectors_213 : decode cb_Tb_writeFirstSectors 213 = .ok (.ldc 72, 2) := by decide +kernel
theorem d_Tb_writeFirstSectors_215 : decode cb_Tb_writeFirstSectors 215 = .ok (.invokevirtual 68, 3) := by decide +kernel
theorem d_Tb_writeFirstSectors_218 : decode cb_Tb_writeFirstSectors 218 = .ok (.aload_n 0, 1) := by decide +kernel
theorem d_Tb_writeFirstSectors_219 : decode cb_Tb_writeFirstSectors 219 = .ok (.getfield 33, 3) := by decide +kernel
theorem d_Tb_writeFirstSectors_222 : decode cb_Tb_writeFirstSectors 222 = .ok (.sipush 996, 3) := by decide +kernel
theorem d_Tb_writeFirstSectors_225 : decode cb_Tb_writeFirstSectors 225 = .ok (.ldc 73, 2) := by decide +kernel
theorem d_Tb_writeFirstSectors_227 : decode cb_Tb_writeFirstSectors 227 = .ok (.invokevirtual 68, 3) := by decide +kernel
theorem d_Tb_writeFirstSectors_230 : decode cb_Tb_writeFirstSectors 230 = .ok (.aload_n 0, 1) := by decide +kernel
theorem d_Tb_writeFirstSectors_231 : decode cb_Tb_writeFirstSectors 231 = .ok (.getfield 33, 3) := by decide +kernel
theorem d_Tb_writeFirstSectors_234 : decode cb_Tb_writeFirstSectors 234 = .ok (.sipush 1000, 3) := by decide +kernel
theorem d_Tb_writeFirstSectors_237 : decode cb_Tb_writeFirstSectors 237 = .ok (.iconst (-1), 1) := by decide +kernel
theorem d_Tb_writeFirstSectors_238 : decode cb_Tb_writeFirstSectors 238 = .ok (.invokevirtual 68, 3) := by decide +kernel
theorem d_Tb_writeFirstSectors_241 : decode cb_Tb_writeFirstSectors 241 = .ok (.aload_n 0, 1) := by decide +kernel
theorem d_Tb_writeFirstSectors_242 : decode cb_Tb_writeFirstSectors 242 = .ok (.getfield 33, 3) := by decide +kernel
theorem d_Tb_writeFirstSectors_245 : decode cb_Tb_writeFirstSectors 245 = .ok (.sipush 1004, 3) := by decide +kernel
theorem d_Tb_writeFirstSectors_248 : decode cb_Tb_writeFirstSectors 248 = .ok (.iconst (-1), 1) := by decide +kernel
theorem d_Tb_writeFirstSectors_249 : decode cb_Tb_writeFirstSectors 249 = .ok (.invokevirtual 68, 3) := by decide +kernel
theorem d_Tb_writeFirstSectors_252 : decode cb_Tb_writeFirstSectors 252 = .ok (.aload_n 0, 1) := by decide +kernel
theorem d_Tb_writeFirstSectors_253 : decode cb_Tb_writeFirstSectors 253 = .ok (.getfield 33, 3) := by decide +kernel
theorem d_Tb_writeFirstSectors_256 : decode cb_Tb_writeFirstSectors 256 = .ok (.sipush 1020, 3) := by decide +kernel
theorem d_Tb_writeFirstSectors_259 : decode cb_Tb_writeFirstSectors 259 = .ok (.ldc 74, 2) := by decide +kernel
theorem d_Tb_writeFirstSectors_261 : decode cb_Tb_writeFirstSectors 261 = .ok (.invokevirtual 68, 3) := by decide +kernel
theorem d_Tb_writeFirstSectors_264 : decode cb_Tb_writeFirstSectors 264 = .ok (.return_, 1) := by decide +kernel
abbrev cb_Tb_startTables : ByteArray := prog_8_method_7_code
def y_Tb_startTables : MethodName := ⟨R_Tb, "startTables", "()V"⟩
theorem d_Tb_startTables_0 : decode cb_Tb_startTables 0 = .ok (.aload_n 0, 1) := by decide +kernel
theorem d_Tb_startTables_1 : decode cb_Tb_startTables 1 = .ok (.iconst 0, 1) := by decide +kernel
theorem d_Tb_startTables_2 : decode cb_Tb_startTables 2 = .ok (.ldc 75, 2) := by decide +kernel
theorem d_Tb_startTables_4 : decode cb_Tb_startTables 4 = .ok (.invokevirtual 76, 3) := by decide +kernel
theorem d_Tb_startTables_7 : decode cb_Tb_startTables 7 = .ok (.aload_n 0, 1) := by decide +kernel
theorem d_Tb_startTables_8 : decode cb_Tb_startTables 8 = .ok (.iconst 1, 1) := by decide +kernel
theorem d_Tb_startTables_9 : decode cb_Tb_startTables 9 = .ok (.ldc 79, 2) := by decide +kernel
theorem d_Tb_startTables_11 : decode cb_Tb_startTables 11 = .ok (.invokevirtual 76, 3) := by decide +kernel
theorem d_Tb_startTables_14 : decode cb_Tb_startTables 14 = .ok (.aload_n 0, 1) := by decide +kernel
theorem d_Tb_startTables_15 : decode cb_Tb_startTables 15 = .ok (.aload_n 0, 1) := by decide +kernel
theorem d_Tb_startTables_16 : decode cb_Tb_startTables 16 = .ok (.getfield 24, 3) := by decide +kernel
theorem d_Tb_startTables_19 : decode cb_Tb_startTables 19 = .ok (.ldc 79, 2) := by decide +kernel
theorem d_Tb_startTables_21 : decode cb_Tb_startTables 21 = .ok (.invokevirtual 76, 3) := by decide +kernel
theorem d_Tb_startTables_24 : decode cb_Tb_startTables 24 = .ok (.return_, 1) := by decide +kernel
abbrev cb_Tb_constantsFit : ByteArray := prog_8_method_8_code
def y_Tb_constantsFit : MethodName := ⟨R_Tb, "constantsFit", "()Z"⟩
theorem d_Tb_constantsFit_0 : decode cb_Tb_constantsFit 0 = .ok (.aload_n 0, 1) := by decide +kernel
theorem d_Tb_constantsFit_1 : decode cb_Tb_constantsFit 1 = .ok (.getfield 33, 3) := by decide +kernel
theorem d_Tb_constantsFit_4 : decode cb_Tb_constantsFit 4 = .ok (.bipush 11, 2) := by decide +kernel
theorem d_Tb_constantsFit_6 : decode cb_Tb_constantsFit 6 = .ok (.invokevirtual 80, 3) := by decide +kernel
theorem d_Tb_constantsFit_9 : decode cb_Tb_constantsFit 9 = .ok (.sipush 512, 3) := by decide +kernel
theorem d_Tb_constantsFit_12 : decode cb_Tb_constantsFit 12 = .ok (.if_icmp .ne 104, 3) := by decide +kernel
theorem d_Tb_constantsFit_15 : decode cb_Tb_constantsFit 15 = .ok (.aload_n 0, 1) := by decide +kernel
theorem d_Tb_constantsFit_16 : decode cb_Tb_constantsFit 16 = .ok (.getfield 33, 3) := by decide +kernel
theorem d_Tb_constantsFit_19 : decode cb_Tb_constantsFit 19 = .ok (.bipush 17, 2) := by decide +kernel
theorem d_Tb_constantsFit_21 : decode cb_Tb_constantsFit 21 = .ok (.invokevirtual 80, 3) := by decide +kernel
theorem d_Tb_constantsFit_24 : decode cb_Tb_constantsFit 24 = .ok (.ifCond .ne 92, 3) := by decide +kernel
theorem d_Tb_constantsFit_27 : decode cb_Tb_constantsFit 27 = .ok (.aload_n 0, 1) := by decide +kernel
theorem d_Tb_constantsFit_28 : decode cb_Tb_constantsFit 28 = .ok (.getfield 33, 3) := by decide +kernel
theorem d_Tb_constantsFit_31 : decode cb_Tb_constantsFit 31 = .ok (.bipush 19, 2) := by decide +kernel
theorem d_Tb_constantsFit_33 : decode cb_Tb_constantsFit 33 = .ok (.invokevirtual 80, 3) := by decide +kernel
theorem d_Tb_constantsFit_36 : decode cb_Tb_constantsFit 36 = .ok (.ifCond .ne 80, 3) := by decide +kernel
theorem d_Tb_constantsFit_39 : decode cb_Tb_constantsFit 39 = .ok (.aload_n 0, 1) := by decide +kernel
theorem d_Tb_constantsFit_40 : decode cb_Tb_constantsFit 40 = .ok (.getfield 33, 3) := by decide +kernel
theorem d_Tb_constantsFit_43 : decode cb_Tb_constantsFit 43 = .ok (.bipush 22, 2) := by decide +kernel
theorem d_Tb_constantsFit_45 : decode cb_Tb_constantsFit 45 = .ok (.invokevirtual 80, 3) := by decide +kernel
theorem d_Tb_constantsFit_48 : decode cb_Tb_constantsFit 48 = .ok (.ifCond .ne 68, 3) := by decide +kernel
theorem d_Tb_constantsFit_51 : decode cb_Tb_constantsFit 51 = .ok (.aload_n 0, 1) := by decide +kernel
theorem d_Tb_constantsFit_52 : decode cb_Tb_constantsFit 52 = .ok (.getfield 33, 3) := by decide +kernel
theorem d_Tb_constantsFit_55 : decode cb_Tb_constantsFit 55 = .ok (.bipush 32, 2) := by decide +kernel
theorem d_Tb_constantsFit_57 : decode cb_Tb_constantsFit 57 = .ok (.invokevirtual 84, 3) := by decide +kernel
theorem d_Tb_constantsFit_60 : decode cb_Tb_constantsFit 60 = .ok (.aload_n 0, 1) := by decide +kernel
theorem d_Tb_constantsFit_61 : decode cb_Tb_constantsFit 61 = .ok (.getfield 33, 3) := by decide +kernel
theorem d_Tb_constantsFit_64 : decode cb_Tb_constantsFit 64 = .ok (.getfield 37, 3) := by decide +kernel
theorem d_Tb_constantsFit_67 : decode cb_Tb_constantsFit 67 = .ok (.if_icmp .ne 49, 3) := by decide +kernel
theorem d_Tb_constantsFit_70 : decode cb_Tb_constantsFit 70 = .ok (.aload_n 0, 1) := by decide +kernel
theorem d_Tb_constantsFit_71 : decode cb_Tb_constantsFit 71 = .ok (.getfield 33, 3) := by decide +kernel
theorem d_Tb_constantsFit_74 : decode cb_Tb_constantsFit 74 = .ok (.bipush 48, 2) := by decide +kernel
theorem d_Tb_constantsFit_76 : decode cb_Tb_constantsFit 76 = .ok (.invokevirtual 80, 3) := by decide +kernel
theorem d_Tb_constantsFit_79 : decode cb_Tb_constantsFit 79 = .ok (.iconst 1, 1) := by decide +kernel
theorem d_Tb_constantsFit_80 : decode cb_Tb_constantsFit 80 = .ok (.if_icmp .ne 36, 3) := by decide +kernel
theorem d_Tb_constantsFit_83 : decode cb_Tb_constantsFit 83 = .ok (.aload_n 0, 1) := by decide +kernel
theorem d_Tb_constantsFit_84 : decode cb_Tb_constantsFit 84 = .ok (.getfield 33, 3) := by decide +kernel
theorem d_Tb_constantsFit_87 : decode cb_Tb_constantsFit 87 = .ok (.bipush 50, 2) := by decide +kernel
theorem d_Tb_constantsFit_89 : decode cb_Tb_constantsFit 89 = .ok (.invokevirtual 80, 3) := by decide +kernel
theorem d_Tb_constantsFit_92 : decode cb_Tb_constantsFit 92 = .ok (.bipush 6, 2) := by decide +kernel
theorem d_Tb_constantsFit_94 : decode cb_Tb_constantsFit 94 = .ok (.if_icmp .ne 22, 3) := by decide +kernel
theorem d_Tb_constantsFit_97 : decode cb_Tb_constantsFit 97 = .ok (.aload_n 0, 1) := by decide +kernel
theorem d_Tb_constantsFit_98 : decode cb_Tb_constantsFit 98 = .ok (.getfield 33, 3) := by decide +kernel
theorem d_Tb_constantsFit_101 : decode cb_Tb_constantsFit 101 = .ok (.sipush 510, 3) := by decide +kernel
theorem d_Tb_constantsFit_104 : decode cb_Tb_constantsFit 104 = .ok (.invokevirtual 80, 3) := by decide +kernel
theorem d_Tb_constantsFit_107 : decode cb_Tb_constantsFit 107 = .ok (.ldc 71, 2) := by decide +kernel
theorem d_Tb_constantsFit_109 : decode cb_Tb_constantsFit 109 = .ok (.if_icmp .ne 7, 3) := by decide +kernel
theorem d_Tb_constantsFit_112 : decode cb_Tb_constantsFit 112 = .ok (.iconst 1, 1) := by decide +kernel
theorem d_Tb_constantsFit_113 : decode cb_Tb_constantsFit 113 = .ok (.goto 4, 3) := by decide +kernel
theorem d_Tb_constantsFit_116 : decode cb_Tb_constantsFit 116 = .ok (.iconst 0, 1) := by decide +kernel
theorem d_Tb_constantsFit_117 : decode cb_Tb_constantsFit 117 = .ok (.ireturn, 1) := by decide +kernel
abbrev cb_Tb_read : ByteArray := prog_8_method_9_code
def y_Tb_read : MethodName := ⟨R_Tb, "read", "()Z"⟩
theorem d_Tb_read_0 : decode cb_Tb_read 0 = .ok (.aload_n 0, 1) := by decide +kernel
theorem d_Tb_read_1 : decode cb_Tb_read 1 = .ok (.getfield 33, 3) := by decide +kernel
theorem d_Tb_read_4 : decode cb_Tb_read 4 = .ok (.bipush 13, 2) := by decide +kernel
theorem d_Tb_read_6 : decode cb_Tb_read 6 = .ok (.invokevirtual 87, 3) := by decide +kernel
theorem d_Tb_read_9 : decode cb_Tb_read 9 = .ok (.istore_n 1, 1) := by decide +kernel
theorem d_Tb_read_10 : decode cb_Tb_read 10 = .ok (.aload_n 0, 1) := by decide +kernel
theorem d_Tb_read_11 : decode cb_Tb_read 11 = .ok (.getfield 33, 3) := by decide +kernel
theorem d_Tb_read_14 : decode cb_Tb_read 14 = .ok (.bipush 14, 2) := by decide +kernel
theorem d_Tb_read_16 : decode cb_Tb_read 16 = .ok (.invokevirtual 80, 3) := by decide +kernel
theorem d_Tb_read_19 : decode cb_Tb_read 19 = .ok (.istore_n 2, 1) := by decide +kernel
theorem d_Tb_read_20 : decode cb_Tb_read 20 = .ok (.aload_n 0, 1) := by decide +kernel
theorem d_Tb_read_21 : decode cb_Tb_read 21 = .ok (.getfield 33, 3) := by decide +kernel
theorem d_Tb_read_24 : decode cb_Tb_read 24 = .ok (.bipush 16, 2) := by decide +kernel
theorem d_Tb_read_26 : decode cb_Tb_read 26 = .ok (.invokevirtual 87, 3) := by decide +kernel
theorem d_Tb_read_29 : decode cb_Tb_read 29 = .ok (.istore_n 3, 1) := by decide +kernel
theorem d_Tb_read_30 : decode cb_Tb_read 30 = .ok (.aload_n 0, 1) := by decide +kernel
theorem d_Tb_read_31 : decode cb_Tb_read 31 = .ok (.getfield 33, 3) := by decide +kernel
theorem d_Tb_read_34 : decode cb_Tb_read 34 = .ok (.bipush 36, 2) := by decide +kernel
theorem d_Tb_read_36 : decode cb_Tb_read 36 = .ok (.invokevirtual 84, 3) := by decide +kernel
theorem d_Tb_read_39 : decode cb_Tb_read 39 = .ok (.istore 4, 2) := by decide +kernel
theorem d_Tb_read_41 : decode cb_Tb_read 41 = .ok (.aload_n 0, 1) := by decide +kernel
theorem d_Tb_read_42 : decode cb_Tb_read 42 = .ok (.getfield 33, 3) := by decide +kernel
theorem d_Tb_read_45 : decode cb_Tb_read 45 = .ok (.bipush 44, 2) := by decide +kernel
theorem d_Tb_read_47 : decode cb_Tb_read 47 = .ok (.invokevirtual 84, 3) := by decide +kernel
theorem d_Tb_read_50 : decode cb_Tb_read 50 = .ok (.istore 5, 2) := by decide +kernel
theorem d_Tb_read_52 : decode cb_Tb_read 52 = .ok (.aload_n 0, 1) := by decide +kernel
theorem d_Tb_read_53 : decode cb_Tb_read 53 = .ok (.invokevirtual 90, 3) := by decide +kernel
theorem d_Tb_read_56 : decode cb_Tb_read 56 = .ok (.ifCond .eq 14, 3) := by decide +kernel
theorem d_Tb_read_59 : decode cb_Tb_read 59 = .ok (.iload_n 1, 1) := by decide +kernel
theorem d_Tb_read_60 : decode cb_Tb_read 60 = .ok (.iload_n 2, 1) := by decide +kernel
theorem d_Tb_read_61 : decode cb_Tb_read 61 = .ok (.iload_n 3, 1) := by decide +kernel
theorem d_Tb_read_62 : decode cb_Tb_read 62 = .ok (.iload 4, 2) := by decide +kernel
theorem d_Tb_read_64 : decode cb_Tb_read 64 = .ok (.invokestatic 49, 3) := by decide +kernel
theorem d_Tb_read_67 : decode cb_Tb_read 67 = .ok (.ifCond .ne 5, 3) := by decide +kernel
theorem d_Tb_read_70 : decode cb_Tb_read 70 = .ok (.iconst 0, 1) := by decide +kernel
theorem d_Tb_read_71 : decode cb_Tb_read 71 = .ok (.ireturn, 1) := by decide +kernel
theorem d_Tb_read_72 : decode cb_Tb_read 72 = .ok (.aload_n 0, 1) := by decide +kernel
theorem d_Tb_read_73 : decode cb_Tb_read 73 = .ok (.iload_n 1, 1) := by decide +kernel
theorem d_Tb_read_74 : decode cb_Tb_read 74 = .ok (.iload_n 2, 1) := by decide +kernel
theorem d_Tb_read_75 : decode cb_Tb_read 75 = .ok (.iload_n 3, 1) := by decide +kernel
theorem d_Tb_read_76 : decode cb_Tb_read 76 = .ok (.iload 4, 2) := by decide +kernel
theorem d_Tb_read_78 : decode cb_Tb_read 78 = .ok (.invokevirtual 53, 3) := by decide +kernel
theorem d_Tb_read_81 : decode cb_Tb_read 81 = .ok (.istore 6, 2) := by decide +kernel
theorem d_Tb_read_83 : decode cb_Tb_read 83 = .ok (.iload 6, 2) := by decide +kernel
theorem d_Tb_read_85 : decode cb_Tb_read 85 = .ok (.iload 4, 2) := by decide +kernel
theorem d_Tb_read_87 : decode cb_Tb_read 87 = .ok (.invokestatic 57, 3) := by decide +kernel
theorem d_Tb_read_90 : decode cb_Tb_read 90 = .ok (.ifCond .eq 18, 3) := by decide +kernel
theorem d_Tb_read_93 : decode cb_Tb_read 93 = .ok (.iload 5, 2) := by decide +kernel
theorem d_Tb_read_95 : decode cb_Tb_read 95 = .ok (.iconst 2, 1) := by decide +kernel
theorem d_Tb_read_96 : decode cb_Tb_read 96 = .ok (.if_icmp .lt 12, 3) := by decide +kernel
theorem d_Tb_read_99 : decode cb_Tb_read 99 = .ok (.iload 5, 2) := by decide +kernel
theorem d_Tb_read_101 : decode cb_Tb_read 101 = .ok (.iload 6, 2) := by decide +kernel
theorem d_Tb_read_103 : decode cb_Tb_read 103 = .ok (.iconst 1, 1) := by decide +kernel
theorem d_Tb_read_104 : decode cb_Tb_read 104 = .ok (.iadd, 1) := by decide +kernel
theorem d_Tb_read_105 : decode cb_Tb_read 105 = .ok (.if_icmp .le 5, 3) := by decide +kernel
theorem d_Tb_read_108 : decode cb_Tb_read 108 = .ok (.iconst 0, 1) := by decide +kernel
theorem d_Tb_read_109 : decode cb_Tb_read 109 = .ok (.ireturn, 1) := by decide +kernel
theorem d_Tb_read_110 : decode cb_Tb_read 110 = .ok (.aload_n 0, 1) := by decide +kernel
theorem d_Tb_read_111 : decode cb_Tb_read 111 = .ok (.iload_n 1, 1) := by decide +kernel
theorem d_Tb_read_112 : decode cb_Tb_read 112 = .ok (.putfield 9, 3) := by decide +kernel
theorem d_Tb_read_115 : decode cb_Tb_read 115 = .ok (.aload_n 0, 1) := by decide +kernel
theorem d_Tb_read_116 : decode cb_Tb_read 116 = .ok (.iload_n 2, 1) := by decide +kernel
theorem d_Tb_read_117 : decode cb_Tb_read 117 = .ok (.putfield 15, 3) := by decide +kernel
theorem d_Tb_read_120 : decode cb_Tb_read 120 = .ok (.aload_n 0, 1) := by decide +kernel
theorem d_Tb_read_121 : decode cb_Tb_read 121 = .ok (.iload_n 3, 1) := by decide +kernel
theorem d_Tb_read_122 : decode cb_Tb_read 122 = .ok (.putfield 18, 3) := by decide +kernel
theorem d_Tb_read_125 : decode cb_Tb_read 125 = .ok (.aload_n 0, 1) := by decide +kernel
theorem d_Tb_read_126 : decode cb_Tb_read 126 = .ok (.iload 4, 2) := by decide +kernel
theorem d_Tb_read_128 : decode cb_Tb_read 128 = .ok (.putfield 21, 3) := by decide +kernel
theorem d_Tb_read_131 : decode cb_Tb_read 131 = .ok (.aload_n 0, 1) := by decide +kernel
theorem d_Tb_read_132 : decode cb_Tb_read 132 = .ok (.iload 5, 2) := by decide +kernel
theorem d_Tb_read_134 : decode cb_Tb_read 134 = .ok (.putfield 24, 3) := by decide +kernel
theorem d_Tb_read_137 : decode cb_Tb_read 137 = .ok (.aload_n 0, 1) := by decide +kernel
theorem d_Tb_read_138 : decode cb_Tb_read 138 = .ok (.iload_n 2, 1) := by decide +kernel
theorem d_Tb_read_139 : decode cb_Tb_read 139 = .ok (.iload_n 3, 1) := by decide +kernel
theorem d_Tb_read_140 : decode cb_Tb_read 140 = .ok (.iload 4, 2) := by decide +kernel
theorem d_Tb_read_142 : decode cb_Tb_read 142 = .ok (.imul, 1) := by decide +kernel
theorem d_Tb_read_143 : decode cb_Tb_read 143 = .ok (.iadd, 1) := by decide +kernel
theorem d_Tb_read_144 : decode cb_Tb_read 144 = .ok (.putfield 27, 3) := by decide +kernel
theorem d_Tb_read_147 : decode cb_Tb_read 147 = .ok (.aload_n 0, 1) := by decide +kernel
theorem d_Tb_read_148 : decode cb_Tb_read 148 = .ok (.iload 6, 2) := by decide +kernel
theorem d_Tb_read_150 : decode cb_Tb_read 150 = .ok (.putfield 30, 3) := by decide +kernel
theorem d_Tb_read_153 : decode cb_Tb_read 153 = .ok (.iconst 0, 1) := by decide +kernel
theorem d_Tb_read_154 : decode cb_Tb_read 154 = .ok (.istore 7, 2) := by decide +kernel
theorem d_Tb_read_156 : decode cb_Tb_read 156 = .ok (.iload 7, 2) := by decide +kernel
theorem d_Tb_read_158 : decode cb_Tb_read 158 = .ok (.aload_n 0, 1) := by decide +kernel
theorem d_Tb_read_159 : decode cb_Tb_read 159 = .ok (.getfield 42, 3) := by decide +kernel
theorem d_Tb_read_162 : decode cb_Tb_read 162 = .ok (.arraylength, 1) := by decide +kernel
theorem d_Tb_read_163 : decode cb_Tb_read 163 = .ok (.if_icmp .ge 49, 3) := by decide +kernel
theorem d_Tb_read_166 : decode cb_Tb_read 166 = .ok (.aload_n 0, 1) := by decide +kernel
theorem d_Tb_read_167 : decode cb_Tb_read 167 = .ok (.getfield 42, 3) := by decide +kernel
theorem d_Tb_read_170 : decode cb_Tb_read 170 = .ok (.iload 7, 2) := by decide +kernel
theorem d_Tb_read_172 : decode cb_Tb_read 172 = .ok (.iload 7, 2) := by decide +kernel
theorem d_Tb_read_174 : decode cb_Tb_read 174 = .ok (.iload 6, 2) := by decide +kernel
theorem d_Tb_read_176 : decode cb_Tb_read 176 = .ok (.iconst 2, 1) := by decide +kernel
theorem d_Tb_read_177 : decode cb_Tb_read 177 = .ok (.iadd, 1) := by decide +kernel
theorem d_Tb_read_178 : decode cb_Tb_read 178 = .ok (.if_icmp .ge 26, 3) := by decide +kernel
theorem d_Tb_read_181 : decode cb_Tb_read 181 = .ok (.aload_n 0, 1) := by decide +kernel
theorem d_Tb_read_182 : decode cb_Tb_read 182 = .ok (.getfield 33, 3) := by decide +kernel
theorem d_Tb_read_185 : decode cb_Tb_read 185 = .ok (.iload_n 2, 1) := by decide +kernel
theorem d_Tb_read_186 : decode cb_Tb_read 186 = .ok (.sipush 512, 3) := by decide +kernel
theorem d_Tb_read_189 : decode cb_Tb_read 189 = .ok (.imul, 1) := by decide +kernel
theorem d_Tb_read_190 : decode cb_Tb_read 190 = .ok (.iconst 4, 1) := by decide +kernel
theorem d_Tb_read_191 : decode cb_Tb_read 191 = .ok (.iload 7, 2) := by decide +kernel
theorem d_Tb_read_193 : decode cb_Tb_read 193 = .ok (.imul, 1) := by decide +kernel
theorem d_Tb_read_194 : decode cb_Tb_read 194 = .ok (.iadd, 1) := by decide +kernel
theorem d_Tb_read_195 : decode cb_Tb_read 195 = .ok (.invokevirtual 84, 3) := by decide +kernel
theorem d_Tb_read_198 : decode cb_Tb_read 198 = .ok (.ldc 79, 2) := by decide +kernel
theorem d_Tb_read_200 : decode cb_Tb_read 200 = .ok (.iand, 1) := by decide +kernel
theorem d_Tb_read_201 : decode cb_Tb_read 201 = .ok (.goto 4, 3) := by decide +kernel
theorem d_Tb_read_204 : decode cb_Tb_read 204 = .ok (.iconst 0, 1) := by decide +kernel
theorem d_Tb_read_205 : decode cb_Tb_read 205 = .ok (.iastore, 1) := by decide +kernel
theorem d_Tb_read_206 : decode cb_Tb_read 206 = .ok (.iinc 7 1, 3) := by decide +kernel
theorem d_Tb_read_209 : decode cb_Tb_read 209 = .ok (.goto (-53), 3) := by decide +kernel
theorem d_Tb_read_212 : decode cb_Tb_read 212 = .ok (.iconst 1, 1) := by decide +kernel
theorem d_Tb_read_213 : decode cb_Tb_read 213 = .ok (.ireturn, 1) := by decide +kernel
abbrev cb_Tb_entriesFit : ByteArray := prog_8_method_10_code
def y_Tb_entriesFit : MethodName := ⟨R_Tb, "entriesFit", "()Z"⟩
theorem d_Tb_entriesFit_0 : decode cb_Tb_entriesFit 0 = .ok (.aload_n 0, 1) := by decide +kernel
theorem d_Tb_entriesFit_1 : decode cb_Tb_entriesFit 1 = .ok (.getfield 42, 3) := by decide +kernel
theorem d_Tb_entriesFit_4 : decode cb_Tb_entriesFit 4 = .ok (.iconst 0, 1) := by decide +kernel
theorem d_Tb_entriesFit_5 : decode cb_Tb_entriesFit 5 = .ok (.iaload, 1) := by decide +kernel
theorem d_Tb_entriesFit_6 : decode cb_Tb_entriesFit 6 = .ok (.ldc 75, 2) := by decide +kernel
theorem d_Tb_entriesFit_8 : decode cb_Tb_entriesFit 8 = .ok (.if_icmp .ne 14, 3) := by decide +kernel
theorem d_Tb_entriesFit_11 : decode cb_Tb_entriesFit 11 = .ok (.aload_n 0, 1) := by decide +kernel
theorem d_Tb_entriesFit_12 : decode cb_Tb_entriesFit 12 = .ok (.getfield 42, 3) := by decide +kernel
theorem d_Tb_entriesFit_15 : decode cb_Tb_entriesFit 15 = .ok (.iconst 1, 1) := by decide +kernel
theorem d_Tb_entriesFit_16 : decode cb_Tb_entriesFit 16 = .ok (.iaload, 1) := by decide +kernel
theorem d_Tb_entriesFit_17 : decode cb_Tb_entriesFit 17 = .ok (.ldc 79, 2) := by decide +kernel
theorem d_Tb_entriesFit_19 : decode cb_Tb_entriesFit 19 = .ok (.if_icmp .eq 5, 3) := by decide +kernel
theorem d_Tb_entriesFit_22 : decode cb_Tb_entriesFit 22 = .ok (.iconst 0, 1) := by decide +kernel
theorem d_Tb_entriesFit_23 : decode cb_Tb_entriesFit 23 = .ok (.ireturn, 1) := by decide +kernel
theorem d_Tb_entriesFit_24 : decode cb_Tb_entriesFit 24 = .ok (.aload_n 0, 1) := by decide +kernel
theorem d_Tb_entriesFit_25 : decode cb_Tb_entriesFit 25 = .ok (.getfield 18, 3) := by decide +kernel
theorem d_Tb_entriesFit_28 : decode cb_Tb_entriesFit 28 = .ok (.iconst 1, 1) := by decide +kernel
theorem d_Tb_entriesFit_29 : decode cb_Tb_entriesFit 29 = .ok (.isub, 1) := by decide +kernel
theorem d_Tb_entriesFit_30 : decode cb_Tb_entriesFit 30 = .ok (.aload_n 0, 1) := by decide +kernel
theorem d_Tb_entriesFit_31 : decode cb_Tb_entriesFit 31 = .ok (.getfield 21, 3) := by decide +kernel
theorem d_Tb_entriesFit_34 : decode cb_Tb_entriesFit 34 = .ok (.imul, 1) := by decide +kernel
theorem d_Tb_entriesFit_35 : decode cb_Tb_entriesFit 35 = .ok (.sipush 512, 3) := by decide +kernel
theorem d_Tb_entriesFit_38 : decode cb_Tb_entriesFit 38 = .ok (.imul, 1) := by decide +kernel
theorem d_Tb_entriesFit_39 : decode cb_Tb_entriesFit 39 = .ok (.istore_n 1, 1) := by decide +kernel
theorem d_Tb_entriesFit_40 : decode cb_Tb_entriesFit 40 = .ok (.iconst 0, 1) := by decide +kernel
theorem d_Tb_entriesFit_41 : decode cb_Tb_entriesFit 41 = .ok (.istore_n 2, 1) := by decide +kernel
theorem d_Tb_entriesFit_42 : decode cb_Tb_entriesFit 42 = .ok (.iload_n 2, 1) := by decide +kernel
theorem d_Tb_entriesFit_43 : decode cb_Tb_entriesFit 43 = .ok (.aload_n 0, 1) := by decide +kernel
theorem d_Tb_entriesFit_44 : decode cb_Tb_entriesFit 44 = .ok (.getfield 30, 3) := by decide +kernel
theorem d_Tb_entriesFit_47 : decode cb_Tb_entriesFit 47 = .ok (.iconst 2, 1) := by decide +kernel
theorem d_Tb_entriesFit_48 : decode cb_Tb_entriesFit 48 = .ok (.iadd, 1) := by decide +kernel
theorem d_Tb_entriesFit_49 : decode cb_Tb_entriesFit 49 = .ok (.if_icmp .ge 102, 3) := by decide +kernel
theorem d_Tb_entriesFit_52 : decode cb_Tb_entriesFit 52 = .ok (.iload_n 2, 1) := by decide +kernel
theorem d_Tb_entriesFit_53 : decode cb_Tb_entriesFit 53 = .ok (.aload_n 0, 1) := by decide +kernel
theorem d_Tb_entriesFit_54 : decode cb_Tb_entriesFit 54 = .ok (.getfield 42, 3) := by decide +kernel
theorem d_Tb_entriesFit_57 : decode cb_Tb_entriesFit 57 = .ok (.arraylength, 1) := by decide +kernel
theorem d_Tb_entriesFit_58 : decode cb_Tb_entriesFit 58 = .ok (.if_icmp .ge 93, 3) := by decide +kernel
theorem d_Tb_entriesFit_61 : decode cb_Tb_entriesFit 61 = .ok (.aload_n 0, 1) := by decide +kernel
theorem d_Tb_entriesFit_62 : decode cb_Tb_entriesFit 62 = .ok (.getfield 15, 3) := by decide +kernel
theorem d_Tb_entriesFit_65 : decode cb_Tb_entriesFit 65 = .ok (.sipush 512, 3) := by decide +kernel
theorem d_Tb_entriesFit_68 : decode cb_Tb_entriesFit 68 = .ok (.imul, 1) := by decide +kernel
theorem d_Tb_entriesFit_69 : decode cb_Tb_entriesFit 69 = .ok (.iconst 4, 1) := by decide +kernel
theorem d_Tb_entriesFit_70 : decode cb_Tb_entriesFit 70 = .ok (.iload_n 2, 1) := by decide +kernel
theorem d_Tb_entriesFit_71 : decode cb_Tb_entriesFit 71 = .ok (.imul, 1) := by decide +kernel
theorem d_Tb_entriesFit_72 : decode cb_Tb_entriesFit 72 = .ok (.iadd, 1) := by decide +kernel
theorem d_Tb_entriesFit_73 : decode cb_Tb_entriesFit 73 = .ok (.istore_n 3, 1) := by decide +kernel
theorem d_Tb_entriesFit_74 : decode cb_Tb_entriesFit 74 = .ok (.aload_n 0, 1) := by decide +kernel
theorem d_Tb_entriesFit_75 : decode cb_Tb_entriesFit 75 = .ok (.getfield 42, 3) := by decide +kernel
theorem d_Tb_entriesFit_78 : decode cb_Tb_entriesFit 78 = .ok (.iload_n 2, 1) := by decide +kernel
theorem d_Tb_entriesFit_79 : decode cb_Tb_entriesFit 79 = .ok (.iaload, 1) := by decide +kernel
theorem d_Tb_entriesFit_80 : decode cb_Tb_entriesFit 80 = .ok (.iconst 1, 1) := by decide +kernel
theorem d_Tb_entriesFit_81 : decode cb_Tb_entriesFit 81 = .ok (.if_icmp .eq 29, 3) := by decide +kernel
theorem d_Tb_entriesFit_84 : decode cb_Tb_entriesFit 84 = .ok (.aload_n 0, 1) := by decide +kernel
theorem d_Tb_entriesFit_85 : decode cb_Tb_entriesFit 85 = .ok (.getfield 42, 3) := by decide +kernel
theorem d_Tb_entriesFit_88 : decode cb_Tb_entriesFit 88 = .ok (.iload_n 2, 1) := by decide +kernel
theorem d_Tb_entriesFit_89 : decode cb_Tb_entriesFit 89 = .ok (.iaload, 1) := by decide +kernel
theorem d_Tb_entriesFit_90 : decode cb_Tb_entriesFit 90 = .ok (.aload_n 0, 1) := by decide +kernel
theorem d_Tb_entriesFit_91 : decode cb_Tb_entriesFit 91 = .ok (.getfield 30, 3) := by decide +kernel
theorem d_Tb_entriesFit_94 : decode cb_Tb_entriesFit 94 = .ok (.iconst 1, 1) := by decide +kernel
theorem d_Tb_entriesFit_95 : decode cb_Tb_entriesFit 95 = .ok (.iadd, 1) := by decide +kernel
theorem d_Tb_entriesFit_96 : decode cb_Tb_entriesFit 96 = .ok (.if_icmp .le 18, 3) := by decide +kernel
theorem d_Tb_entriesFit_99 : decode cb_Tb_entriesFit 99 = .ok (.aload_n 0, 1) := by decide +kernel
theorem d_Tb_entriesFit_100 : decode cb_Tb_entriesFit 100 = .ok (.getfield 42, 3) := by decide +kernel
theorem d_Tb_entriesFit_103 : decode cb_Tb_entriesFit 103 = .ok (.iload_n 2, 1) := by decide +kernel
theorem d_Tb_entriesFit_104 : decode cb_Tb_entriesFit 104 = .ok (.iaload, 1) := by decide +kernel
theorem d_Tb_entriesFit_105 : decode cb_Tb_entriesFit 105 = .ok (.ldc 75, 2) := by decide +kernel
theorem d_Tb_entriesFit_107 : decode cb_Tb_entriesFit 107 = .ok (.if_icmp .ge 7, 3) := by decide +kernel
theorem d_Tb_entriesFit_110 : decode cb_Tb_entriesFit 110 = .ok (.iconst 1, 1) := by decide +kernel
theorem d_Tb_entriesFit_111 : decode cb_Tb_entriesFit 111 = .ok (.goto 4, 3) := by decide +kernel
theorem d_Tb_entriesFit_114 : decode cb_Tb_entriesFit 114 = .ok (.iconst 0, 1) := by decide +kernel
theorem d_Tb_entriesFit_115 : decode cb_Tb_entriesFit 115 = .ok (.istore 4, 2) := by decide +kernel
theorem d_Tb_entriesFit_117 : decode cb_Tb_entriesFit 117 = .ok (.iload 4, 2) := by decide +kernel
theorem d_Tb_entriesFit_119 : decode cb_Tb_entriesFit 119 = .ok (.ifCond .ne 24, 3) := by decide +kernel
theorem d_Tb_entriesFit_122 : decode cb_Tb_entriesFit 122 = .ok (.aload_n 0, 1) := by decide +kernel
theorem d_Tb_entriesFit_123 : decode cb_Tb_entriesFit 123 = .ok (.getfield 33, 3) := by decide +kernel
theorem d_Tb_entriesFit_126 : decode cb_Tb_entriesFit 126 = .ok (.iload_n 3, 1) := by decide +kernel
theorem d_Tb_entriesFit_127 : decode cb_Tb_entriesFit 127 = .ok (.invokevirtual 84, 3) := by decide +kernel
theorem d_Tb_entriesFit_130 : decode cb_Tb_entriesFit 130 = .ok (.aload_n 0, 1) := by decide +kernel
theorem d_Tb_entriesFit_131 : decode cb_Tb_entriesFit 131 = .ok (.getfield 33, 3) := by decide +kernel
theorem d_Tb_entriesFit_134 : decode cb_Tb_entriesFit 134 = .ok (.iload_n 3, 1) := by decide +kernel
theorem d_Tb_entriesFit_135 : decode cb_Tb_entriesFit 135 = .ok (.iload_n 1, 1) := by decide +kernel
theorem d_Tb_entriesFit_136 : decode cb_Tb_entriesFit 136 = .ok (.iadd, 1) := by decide +kernel
theorem d_Tb_entriesFit_137 : decode cb_Tb_entriesFit 137 = .ok (.invokevirtual 84, 3) := by decide +kernel
theorem d_Tb_entriesFit_140 : decode cb_Tb_entriesFit 140 = .ok (.if_icmp .eq 5, 3) := by decide +kernel
theorem d_Tb_entriesFit_143 : decode cb_Tb_entriesFit 143 = .ok (.iconst 0, 1) := by decide +kernel
theorem d_Tb_entriesFit_144 : decode cb_Tb_entriesFit 144 = .ok (.ireturn, 1) := by decide +kernel
theorem d_Tb_entriesFit_145 : decode cb_Tb_entriesFit 145 = .ok (.iinc 2 1, 3) := by decide +kernel
theorem d_Tb_entriesFit_148 : decode cb_Tb_entriesFit 148 = .ok (.goto (-106), 3) := by decide +kernel
theorem d_Tb_entriesFit_151 : decode cb_Tb_entriesFit 151 = .ok (.iconst 1, 1) := by decide +kernel
theorem d_Tb_entriesFit_152 : decode cb_Tb_entriesFit 152 = .ok (.ireturn, 1) := by decide +kernel
abbrev cb_Tb_behind : ByteArray := prog_8_method_11_code
def y_Tb_behind : MethodName := ⟨R_Tb, "behind", "()I"⟩
theorem d_Tb_behind_0 : decode cb_Tb_behind 0 = .ok (.aload_n 0, 1) := by decide +kernel
theorem d_Tb_behind_1 : decode cb_Tb_behind 1 = .ok (.getfield 42, 3) := by decide +kernel
theorem d_Tb_behind_4 : decode cb_Tb_behind 4 = .ok (.arraylength, 1) := by decide +kernel
theorem d_Tb_behind_5 : decode cb_Tb_behind 5 = .ok (.ireturn, 1) := by decide +kernel
abbrev cb_Tb_hasCluster : ByteArray := prog_8_method_12_code
def y_Tb_hasCluster : MethodName := ⟨R_Tb, "hasCluster", "(I)Z"⟩
theorem d_Tb_hasCluster_0 : decode cb_Tb_hasCluster 0 = .ok (.iload_n 1, 1) := by decide +kernel
theorem d_Tb_hasCluster_1 : decode cb_Tb_hasCluster 1 = .ok (.iconst 2, 1) := by decide +kernel
theorem d_Tb_hasCluster_2 : decode cb_Tb_hasCluster 2 = .ok (.if_icmp .lt 26, 3) := by decide +kernel
theorem d_Tb_hasCluster_5 : decode cb_Tb_hasCluster 5 = .ok (.iload_n 1, 1) := by decide +kernel
theorem d_Tb_hasCluster_6 : decode cb_Tb_hasCluster 6 = .ok (.aload_n 0, 1) := by decide +kernel
theorem d_Tb_hasCluster_7 : decode cb_Tb_hasCluster 7 = .ok (.getfield 30, 3) := by decide +kernel
theorem d_Tb_hasCluster_10 : decode cb_Tb_hasCluster 10 = .ok (.iconst 2, 1) := by decide +kernel
theorem d_Tb_hasCluster_11 : decode cb_Tb_hasCluster 11 = .ok (.iadd, 1) := by decide +kernel
theorem d_Tb_hasCluster_12 : decode cb_Tb_hasCluster 12 = .ok (.if_icmp .ge 16, 3) := by decide +kernel
theorem d_Tb_hasCluster_15 : decode cb_Tb_hasCluster 15 = .ok (.iload_n 1, 1) := by decide +kernel
theorem d_Tb_hasCluster_16 : decode cb_Tb_hasCluster 16 = .ok (.aload_n 0, 1) := by decide +kernel
theorem d_Tb_hasCluster_17 : decode cb_Tb_hasCluster 17 = .ok (.getfield 42, 3) := by decide +kernel
theorem d_Tb_hasCluster_20 : decode cb_Tb_hasCluster 20 = .ok (.arraylength, 1) := by decide +kernel
theorem d_Tb_hasCluster_21 : decode cb_Tb_hasCluster 21 = .ok (.if_icmp .ge 7, 3) := by decide +kernel
theorem d_Tb_hasCluster_24 : decode cb_Tb_hasCluster 24 = .ok (.iconst 1, 1) := by decide +kernel
theorem d_Tb_hasCluster_25 : decode cb_Tb_hasCluster 25 = .ok (.goto 4, 3) := by decide +kernel
theorem d_Tb_hasCluster_28 : decode cb_Tb_hasCluster 28 = .ok (.iconst 0, 1) := by decide +kernel
theorem d_Tb_hasCluster_29 : decode cb_Tb_hasCluster 29 = .ok (.ireturn, 1) := by decide +kernel
abbrev cb_Tb_nextOf : ByteArray := prog_8_method_13_code
def y_Tb_nextOf : MethodName := ⟨R_Tb, "nextOf", "(I)I"⟩
theorem d_Tb_nextOf_0 : decode cb_Tb_nextOf 0 = .ok (.iload_n 1, 1) := by decide +kernel
theorem d_Tb_nextOf_1 : decode cb_Tb_nextOf 1 = .ok (.iconst 2, 1) := by decide +kernel
theorem d_Tb_nextOf_2 : decode cb_Tb_nextOf 2 = .ok (.if_icmp .lt 31, 3) := by decide +kernel
theorem d_Tb_nextOf_5 : decode cb_Tb_nextOf 5 = .ok (.iload_n 1, 1) := by decide +kernel
theorem d_Tb_nextOf_6 : decode cb_Tb_nextOf 6 = .ok (.aload_n 0, 1) := by decide +kernel
theorem d_Tb_nextOf_7 : decode cb_Tb_nextOf 7 = .ok (.getfield 30, 3) := by decide +kernel
theorem d_Tb_nextOf_10 : decode cb_Tb_nextOf 10 = .ok (.iconst 2, 1) := by decide +kernel
theorem d_Tb_nextOf_11 : decode cb_Tb_nextOf 11 = .ok (.iadd, 1) := by decide +kernel
theorem d_Tb_nextOf_12 : decode cb_Tb_nextOf 12 = .ok (.if_icmp .ge 21, 3) := by decide +kernel
theorem d_Tb_nextOf_15 : decode cb_Tb_nextOf 15 = .ok (.iload_n 1, 1) := by decide +kernel
theorem d_Tb_nextOf_16 : decode cb_Tb_nextOf 16 = .ok (.aload_n 0, 1) := by decide +kernel
theorem d_Tb_nextOf_17 : decode cb_Tb_nextOf 17 = .ok (.getfield 42, 3) := by decide +kernel
theorem d_Tb_nextOf_20 : decode cb_Tb_nextOf 20 = .ok (.arraylength, 1) := by decide +kernel
theorem d_Tb_nextOf_21 : decode cb_Tb_nextOf 21 = .ok (.if_icmp .ge 12, 3) := by decide +kernel
theorem d_Tb_nextOf_24 : decode cb_Tb_nextOf 24 = .ok (.aload_n 0, 1) := by decide +kernel
theorem d_Tb_nextOf_25 : decode cb_Tb_nextOf 25 = .ok (.getfield 42, 3) := by decide +kernel
theorem d_Tb_nextOf_28 : decode cb_Tb_nextOf 28 = .ok (.iload_n 1, 1) := by decide +kernel
theorem d_Tb_nextOf_29 : decode cb_Tb_nextOf 29 = .ok (.iaload, 1) := by decide +kernel
theorem d_Tb_nextOf_30 : decode cb_Tb_nextOf 30 = .ok (.goto 4, 3) := by decide +kernel
theorem d_Tb_nextOf_33 : decode cb_Tb_nextOf 33 = .ok (.iconst 0, 1) := by decide +kernel
theorem d_Tb_nextOf_34 : decode cb_Tb_nextOf 34 = .ok (.ireturn, 1) := by decide +kernel
abbrev cb_Tb_setGoal : ByteArray := prog_8_method_14_code
def y_Tb_setGoal : MethodName := ⟨R_Tb, "setGoal", "(II)V"⟩
theorem d_Tb_setGoal_0 : decode cb_Tb_setGoal 0 = .ok (.iload_n 1, 1) := by decide +kernel
theorem d_Tb_setGoal_1 : decode cb_Tb_setGoal 1 = .ok (.ifCond .lt 19, 3) := by decide +kernel
theorem d_Tb_setGoal_4 : decode cb_Tb_setGoal 4 = .ok (.iload_n 1, 1) := by decide +kernel
theorem d_Tb_setGoal_5 : decode cb_Tb_setGoal 5 = .ok (.aload_n 0, 1) := by decide +kernel
theorem d_Tb_setGoal_6 : decode cb_Tb_setGoal 6 = .ok (.getfield 46, 3) := by decide +kernel
theorem d_Tb_setGoal_9 : decode cb_Tb_setGoal 9 = .ok (.arraylength, 1) := by decide +kernel
theorem d_Tb_setGoal_10 : decode cb_Tb_setGoal 10 = .ok (.if_icmp .ge 10, 3) := by decide +kernel
theorem d_Tb_setGoal_13 : decode cb_Tb_setGoal 13 = .ok (.aload_n 0, 1) := by decide +kernel
theorem d_Tb_setGoal_14 : decode cb_Tb_setGoal 14 = .ok (.getfield 46, 3) := by decide +kernel
theorem d_Tb_setGoal_17 : decode cb_Tb_setGoal 17 = .ok (.iload_n 1, 1) := by decide +kernel
theorem d_Tb_setGoal_18 : decode cb_Tb_setGoal 18 = .ok (.iload_n 2, 1) := by decide +kernel
theorem d_Tb_setGoal_19 : decode cb_Tb_setGoal 19 = .ok (.iastore, 1) := by decide +kernel
theorem d_Tb_setGoal_20 : decode cb_Tb_setGoal 20 = .ok (.return_, 1) := by decide +kernel
abbrev cb_Tb_goalOf : ByteArray := prog_8_method_15_code
def y_Tb_goalOf : MethodName := ⟨R_Tb, "goalOf", "(I)I"⟩
theorem d_Tb_goalOf_0 : decode cb_Tb_goalOf 0 = .ok (.iload_n 1, 1) := by decide +kernel
theorem d_Tb_goalOf_1 : decode cb_Tb_goalOf 1 = .ok (.ifCond .lt 21, 3) := by decide +kernel
theorem d_Tb_goalOf_4 : decode cb_Tb_goalOf 4 = .ok (.iload_n 1, 1) := by decide +kernel
theorem d_Tb_goalOf_5 : decode cb_Tb_goalOf 5 = .ok (.aload_n 0, 1) := by decide +kernel
theorem d_Tb_goalOf_6 : decode cb_Tb_goalOf 6 = .ok (.getfield 46, 3) := by decide +kernel
theorem d_Tb_goalOf_9 : decode cb_Tb_goalOf 9 = .ok (.arraylength, 1) := by decide +kernel
theorem d_Tb_goalOf_10 : decode cb_Tb_goalOf 10 = .ok (.if_icmp .ge 12, 3) := by decide +kernel
theorem d_Tb_goalOf_13 : decode cb_Tb_goalOf 13 = .ok (.aload_n 0, 1) := by decide +kernel
theorem d_Tb_goalOf_14 : decode cb_Tb_goalOf 14 = .ok (.getfield 46, 3) := by decide +kernel
theorem d_Tb_goalOf_17 : decode cb_Tb_goalOf 17 = .ok (.iload_n 1, 1) := by decide +kernel
theorem d_Tb_goalOf_18 : decode cb_Tb_goalOf 18 = .ok (.iaload, 1) := by decide +kernel
theorem d_Tb_goalOf_19 : decode cb_Tb_goalOf 19 = .ok (.goto 4, 3) := by decide +kernel
theorem d_Tb_goalOf_22 : decode cb_Tb_goalOf 22 = .ok (.iconst 0, 1) := by decide +kernel
theorem d_Tb_goalOf_23 : decode cb_Tb_goalOf 23 = .ok (.ireturn, 1) := by decide +kernel
abbrev cb_Tb_isFree : ByteArray := prog_8_method_16_code
def y_Tb_isFree : MethodName := ⟨R_Tb, "isFree", "(I)Z"⟩
theorem d_Tb_isFree_0 : decode cb_Tb_isFree 0 = .ok (.iload_n 1, 1) := by decide +kernel
theorem d_Tb_isFree_1 : decode cb_Tb_isFree 1 = .ok (.iconst 2, 1) := by decide +kernel
theorem d_Tb_isFree_2 : decode cb_Tb_isFree 2 = .ok (.if_icmp .lt 35, 3) := by decide +kernel
theorem d_Tb_isFree_5 : decode cb_Tb_isFree 5 = .ok (.iload_n 1, 1) := by decide +kernel
theorem d_Tb_isFree_6 : decode cb_Tb_isFree 6 = .ok (.aload_n 0, 1) := by decide +kernel
theorem d_Tb_isFree_7 : decode cb_Tb_isFree 7 = .ok (.getfield 30, 3) := by decide +kernel
theorem d_Tb_isFree_10 : decode cb_Tb_isFree 10 = .ok (.iconst 2, 1) := by decide +kernel
theorem d_Tb_isFree_11 : decode cb_Tb_isFree 11 = .ok (.iadd, 1) := by decide +kernel
theorem d_Tb_isFree_12 : decode cb_Tb_isFree 12 = .ok (.if_icmp .ge 25, 3) := by decide +kernel
theorem d_Tb_isFree_15 : decode cb_Tb_isFree 15 = .ok (.iload_n 1, 1) := by decide +kernel
theorem d_Tb_isFree_16 : decode cb_Tb_isFree 16 = .ok (.aload_n 0, 1) := by decide +kernel
theorem d_Tb_isFree_17 : decode cb_Tb_isFree 17 = .ok (.getfield 42, 3) := by decide +kernel
theorem d_Tb_isFree_20 : decode cb_Tb_isFree 20 = .ok (.arraylength, 1) := by decide +kernel
theorem d_Tb_isFree_21 : decode cb_Tb_isFree 21 = .ok (.if_icmp .ge 16, 3) := by decide +kernel
theorem d_Tb_isFree_24 : decode cb_Tb_isFree 24 = .ok (.aload_n 0, 1) := by decide +kernel
theorem d_Tb_isFree_25 : decode cb_Tb_isFree 25 = .ok (.getfield 42, 3) := by decide +kernel
theorem d_Tb_isFree_28 : decode cb_Tb_isFree 28 = .ok (.iload_n 1, 1) := by decide +kernel
theorem d_Tb_isFree_29 : decode cb_Tb_isFree 29 = .ok (.iaload, 1) := by decide +kernel
theorem d_Tb_isFree_30 : decode cb_Tb_isFree 30 = .ok (.ifCond .ne 7, 3) := by decide +kernel
theorem d_Tb_isFree_33 : decode cb_Tb_isFree 33 = .ok (.iconst 1, 1) := by decide +kernel
theorem d_Tb_isFree_34 : decode cb_Tb_isFree 34 = .ok (.goto 4, 3) := by decide +kernel
theorem d_Tb_isFree_37 : decode cb_Tb_isFree 37 = .ok (.iconst 0, 1) := by decide +kernel
theorem d_Tb_isFree_38 : decode cb_Tb_isFree 38 = .ok (.ireturn, 1) := by decide +kernel
abbrev cb_Tb_shows : ByteArray := prog_8_method_17_code
def y_Tb_shows : MethodName := ⟨R_Tb, "shows", "(I)Z"⟩
theorem d_Tb_shows_0 : decode cb_Tb_shows 0 = .ok (.iload_n 1, 1) := by decide +kernel
theorem d_Tb_shows_1 : decode cb_Tb_shows 1 = .ok (.aload_n 0, 1) := by decide +kernel
theorem d_Tb_shows_2 : decode cb_Tb_shows 2 = .ok (.getfield 27, 3) := by decide +kernel
theorem d_Tb_shows_5 : decode cb_Tb_shows 5 = .ok (.if_icmp .lt 11, 3) := by decide +kernel
theorem d_Tb_shows_8 : decode cb_Tb_shows 8 = .ok (.aload_n 0, 1) := by decide +kernel
theorem d_Tb_shows_9 : decode cb_Tb_shows 9 = .ok (.getfield 9, 3) := by decide +kernel
theorem d_Tb_shows_12 : decode cb_Tb_shows 12 = .ok (.iconst 1, 1) := by decide +kernel
theorem d_Tb_shows_13 : decode cb_Tb_shows 13 = .ok (.if_icmp .ge 5, 3) := by decide +kernel
theorem d_Tb_shows_16 : decode cb_Tb_shows 16 = .ok (.iconst 1, 1) := by decide +kernel
theorem d_Tb_shows_17 : decode cb_Tb_shows 17 = .ok (.ireturn, 1) := by decide +kernel
theorem d_Tb_shows_18 : decode cb_Tb_shows 18 = .ok (.aload_n 0, 1) := by decide +kernel
theorem d_Tb_shows_19 : decode cb_Tb_shows 19 = .ok (.iload_n 1, 1) := by decide +kernel
theorem d_Tb_shows_20 : decode cb_Tb_shows 20 = .ok (.aload_n 0, 1) := by decide +kernel
theorem d_Tb_shows_21 : decode cb_Tb_shows 21 = .ok (.getfield 27, 3) := by decide +kernel
theorem d_Tb_shows_24 : decode cb_Tb_shows 24 = .ok (.isub, 1) := by decide +kernel
theorem d_Tb_shows_25 : decode cb_Tb_shows 25 = .ok (.aload_n 0, 1) := by decide +kernel
theorem d_Tb_shows_26 : decode cb_Tb_shows 26 = .ok (.getfield 9, 3) := by decide +kernel
theorem d_Tb_shows_29 : decode cb_Tb_shows 29 = .ok (.idiv, 1) := by decide +kernel
theorem d_Tb_shows_30 : decode cb_Tb_shows 30 = .ok (.iconst 2, 1) := by decide +kernel
theorem d_Tb_shows_31 : decode cb_Tb_shows 31 = .ok (.iadd, 1) := by decide +kernel
theorem d_Tb_shows_32 : decode cb_Tb_shows 32 = .ok (.invokevirtual 94, 3) := by decide +kernel
theorem d_Tb_shows_35 : decode cb_Tb_shows 35 = .ok (.ifCond .eq 7, 3) := by decide +kernel
theorem d_Tb_shows_38 : decode cb_Tb_shows 38 = .ok (.iconst 1, 1) := by decide +kernel
theorem d_Tb_shows_39 : decode cb_Tb_shows 39 = .ok (.goto 4, 3) := by decide +kernel
theorem d_Tb_shows_42 : decode cb_Tb_shows 42 = .ok (.iconst 0, 1) := by decide +kernel
theorem d_Tb_shows_43 : decode cb_Tb_shows 43 = .ok (.ireturn, 1) := by decide +kernel
abbrev cb_Tb_clusterBytes : ByteArray := prog_8_method_18_code
def y_Tb_clusterBytes : MethodName := ⟨R_Tb, "clusterBytes", "()I"⟩
theorem d_Tb_clusterBytes_0 : decode cb_Tb_clusterBytes 0 = .ok (.aload_n 0, 1) := by decide +kernel
theorem d_Tb_clusterBytes_1 : decode cb_Tb_clusterBytes 1 = .ok (.getfield 9, 3) := by decide +kernel
theorem d_Tb_clusterBytes_4 : decode cb_Tb_clusterBytes 4 = .ok (.sipush 512, 3) := by decide +kernel
theorem d_Tb_clusterBytes_7 : decode cb_Tb_clusterBytes 7 = .ok (.imul, 1) := by decide +kernel
theorem d_Tb_clusterBytes_8 : decode cb_Tb_clusterBytes 8 = .ok (.ireturn, 1) := by decide +kernel
abbrev cb_Tb_slotsOfCluster : ByteArray := prog_8_method_19_code
def y_Tb_slotsOfCluster : MethodName := ⟨R_Tb, "slotsOfCluster", "()I"⟩
theorem d_Tb_slotsOfCluster_0 : decode cb_Tb_slotsOfCluster 0 = .ok (.aload_n 0, 1) := by decide +kernel
theorem d_Tb_slotsOfCluster_1 : decode cb_Tb_slotsOfCluster 1 = .ok (.getfield 9, 3) := by decide +kernel
theorem d_Tb_slotsOfCluster_4 : decode cb_Tb_slotsOfCluster 4 = .ok (.bipush 16, 2) := by decide +kernel
theorem d_Tb_slotsOfCluster_6 : decode cb_Tb_slotsOfCluster 6 = .ok (.imul, 1) := by decide +kernel
theorem d_Tb_slotsOfCluster_7 : decode cb_Tb_slotsOfCluster 7 = .ok (.ireturn, 1) := by decide +kernel
abbrev b_Tb_slotPlace : ByteArray := prog_8_method_20_code
def y_Tb_slotPlace : MethodName := ⟨R_Tb, "slotPlace", "([II)I"⟩
theorem d_Tb_slotPlace_0 : decode b_Tb_slotPlace 0 = .ok (.aload_n 0, 1) := by decide +kernel
theorem d_Tb_slotPlace_1 : decode b_Tb_slotPlace 1 = .ok (.invokevirtual 97, 3) := by decide +kernel
theorem d_Tb_slotPlace_4 : decode b_Tb_slotPlace 4 = .ok (.istore_n 3, 1) := by decide +kernel
theorem d_Tb_slotPlace_5 : decode b_Tb_slotPlace 5 = .ok (.iload_n 3, 1) := by decide +kernel
theorem d_Tb_slotPlace_6 : decode b_Tb_slotPlace 6 = .ok (.iconst 1, 1) := by decide +kernel
theorem d_Tb_slotPlace_7 : decode b_Tb_slotPlace 7 = .ok (.if_icmp .lt 15, 3) := by decide +kernel
theorem d_Tb_slotPlace_10 : decode b_Tb_slotPlace 10 = .ok (.iload_n 2, 1) := by decide +kernel
theorem d_Tb_slotPlace_11 : decode b_Tb_slotPlace 11 = .ok (.ifCond .lt 11, 3) := by decide +kernel
theorem d_Tb_slotPlace_14 : decode b_Tb_slotPlace 14 = .ok (.iload_n 2, 1) := by decide +kernel
theorem d_Tb_slotPlace_15 : decode b_Tb_slotPlace 15 = .ok (.iload_n 3, 1) := by decide +kernel
theorem d_Tb_slotPlace_16 : decode b_Tb_slotPlace 16 = .ok (.idiv, 1) := by decide +kernel
theorem d_Tb_slotPlace_17 : decode b_Tb_slotPlace 17 = .ok (.aload_n 1, 1) := by decide +kernel
theorem d_Tb_slotPlace_18 : decode b_Tb_slotPlace 18 = .ok (.arraylength, 1) := by decide +kernel
theorem d_Tb_slotPlace_19 : decode b_Tb_slotPlace 19 = .ok (.if_icmp .lt 5, 3) := by decide +kernel
theorem d_Tb_slotPlace_22 : decode b_Tb_slotPlace 22 = .ok (.iconst (-1), 1) := by decide +kernel
theorem d_Tb_slotPlace_23 : decode b_Tb_slotPlace 23 = .ok (.ireturn, 1) := by decide +kernel
theorem d_Tb_slotPlace_24 : decode b_Tb_slotPlace 24 = .ok (.aload_n 0, 1) := by decide +kernel
theorem d_Tb_slotPlace_25 : decode b_Tb_slotPlace 25 = .ok (.aload_n 1, 1) := by decide +kernel
theorem d_Tb_slotPlace_26 : decode b_Tb_slotPlace 26 = .ok (.iload_n 2, 1) := by decide +kernel
theorem d_Tb_slotPlace_27 : decode b_Tb_slotPlace 27 = .ok (.iload_n 3, 1) := by decide +kernel
theorem d_Tb_slotPlace_28 : decode b_Tb_slotPlace 28 = .ok (.idiv, 1) := by decide +kernel
theorem d_Tb_slotPlace_29 : decode b_Tb_slotPlace 29 = .ok (.iaload, 1) := by decide +kernel
theorem d_Tb_slotPlace_30 : decode b_Tb_slotPlace 30 = .ok (.invokevirtual 101, 3) := by decide +kernel
theorem d_Tb_slotPlace_33 : decode b_Tb_slotPlace 33 = .ok (.iload_n 2, 1) := by decide +kernel
theorem d_Tb_slotPlace_34 : decode b_Tb_slotPlace 34 = .ok (.iload_n 3, 1) := by decide +kernel
theorem d_Tb_slotPlace_35 : decode b_Tb_slotPlace 35 = .ok (.irem, 1) := by decide +kernel
theorem d_Tb_slotPlace_36 : decode b_Tb_slotPlace 36 = .ok (.bipush 32, 2) := by decide +kernel
theorem d_Tb_slotPlace_38 : decode b_Tb_slotPlace 38 = .ok (.imul, 1) := by decide +kernel
theorem d_Tb_slotPlace_39 : decode b_Tb_slotPlace 39 = .ok (.iadd, 1) := by decide +kernel
theorem d_Tb_slotPlace_40 : decode b_Tb_slotPlace 40 = .ok (.ireturn, 1) := by decide +kernel
abbrev cb_Tb_place : ByteArray := prog_8_method_21_code
def y_Tb_place : MethodName := ⟨R_Tb, "place", "(I)I"⟩
theorem d_Tb_place_0 : decode cb_Tb_place 0 = .ok (.aload_n 0, 1) := by decide +kernel
theorem d_Tb_place_1 : decode cb_Tb_place 1 = .ok (.getfield 27, 3) := by decide +kernel
theorem d_Tb_place_4 : decode cb_Tb_place 4 = .ok (.iload_n 1, 1) := by decide +kernel
theorem d_Tb_place_5 : decode cb_Tb_place 5 = .ok (.iconst 2, 1) := by decide +kernel
theorem d_Tb_place_6 : decode cb_Tb_place 6 = .ok (.isub, 1) := by decide +kernel
theorem d_Tb_place_7 : decode cb_Tb_place 7 = .ok (.aload_n 0, 1) := by decide +kernel
theorem d_Tb_place_8 : decode cb_Tb_place 8 = .ok (.getfield 9, 3) := by decide +kernel
theorem d_Tb_place_11 : decode cb_Tb_place 11 = .ok (.imul, 1) := by decide +kernel
theorem d_Tb_place_12 : decode cb_Tb_place 12 = .ok (.iadd, 1) := by decide +kernel
theorem d_Tb_place_13 : decode cb_Tb_place 13 = .ok (.sipush 512, 3) := by decide +kernel
theorem d_Tb_place_16 : decode cb_Tb_place 16 = .ok (.imul, 1) := by decide +kernel
theorem d_Tb_place_17 : decode cb_Tb_place 17 = .ok (.ireturn, 1) := by decide +kernel
abbrev b_Tb_road : ByteArray := prog_8_method_22_code
def y_Tb_road : MethodName := ⟨R_Tb, "road", "(I[I)I"⟩
theorem d_Tb_road_0 : decode b_Tb_road 0 = .ok (.iload_n 1, 1) := by decide +kernel
theorem d_Tb_road_1 : decode b_Tb_road 1 = .ok (.istore_n 3, 1) := by decide +kernel
theorem d_Tb_road_2 : decode b_Tb_road 2 = .ok (.iconst 0, 1) := by decide +kernel
theorem d_Tb_road_3 : decode b_Tb_road 3 = .ok (.istore 4, 2) := by decide +kernel
theorem d_Tb_road_5 : decode b_Tb_road 5 = .ok (.iload 4, 2) := by decide +kernel
theorem d_Tb_road_7 : decode b_Tb_road 7 = .ok (.aload_n 2, 1) := by decide +kernel
theorem d_Tb_road_8 : decode b_Tb_road 8 = .ok (.arraylength, 1) := by decide +kernel
theorem d_Tb_road_9 : decode b_Tb_road 9 = .ok (.if_icmp .ge 29, 3) := by decide +kernel
theorem d_Tb_road_12 : decode b_Tb_road 12 = .ok (.aload_n 0, 1) := by decide +kernel
theorem d_Tb_road_13 : decode b_Tb_road 13 = .ok (.iload_n 3, 1) := by decide +kernel
theorem d_Tb_road_14 : decode b_Tb_road 14 = .ok (.invokevirtual 104, 3) := by decide +kernel
theorem d_Tb_road_17 : decode b_Tb_road 17 = .ok (.ifCond .eq 21, 3) := by decide +kernel
theorem d_Tb_road_20 : decode b_Tb_road 20 = .ok (.aload_n 2, 1) := by decide +kernel
theorem d_Tb_road_21 : decode b_Tb_road 21 = .ok (.iload 4, 2) := by decide +kernel
theorem d_Tb_road_23 : decode b_Tb_road 23 = .ok (.iload_n 3, 1) := by decide +kernel
theorem d_Tb_road_24 : decode b_Tb_road 24 = .ok (.iastore, 1) := by decide +kernel
theorem d_Tb_road_25 : decode b_Tb_road 25 = .ok (.iinc 4 1, 3) := by decide +kernel
theorem d_Tb_road_28 : decode b_Tb_road 28 = .ok (.aload_n 0, 1) := by decide +kernel
theorem d_Tb_road_29 : decode b_Tb_road 29 = .ok (.getfield 42, 3) := by decide +kernel
theorem d_Tb_road_32 : decode b_Tb_road 32 = .ok (.iload_n 3, 1) := by decide +kernel
theorem d_Tb_road_33 : decode b_Tb_road 33 = .ok (.iaload, 1) := by decide +kernel
theorem d_Tb_road_34 : decode b_Tb_road 34 = .ok (.istore_n 3, 1) := by decide +kernel
theorem d_Tb_road_35 : decode b_Tb_road 35 = .ok (.goto (-30), 3) := by decide +kernel
theorem d_Tb_road_38 : decode b_Tb_road 38 = .ok (.iload 4, 2) := by decide +kernel
theorem d_Tb_road_40 : decode b_Tb_road 40 = .ok (.ireturn, 1) := by decide +kernel
abbrev cb_Tb_link : ByteArray := prog_8_method_23_code
def y_Tb_link : MethodName := ⟨R_Tb, "link", "(II)V"⟩
theorem d_Tb_link_0 : decode cb_Tb_link 0 = .ok (.iload_n 1, 1) := by decide +kernel
theorem d_Tb_link_1 : decode cb_Tb_link 1 = .ok (.ifCond .lt 22, 3) := by decide +kernel
theorem d_Tb_link_4 : decode cb_Tb_link 4 = .ok (.iload_n 1, 1) := by decide +kernel
theorem d_Tb_link_5 : decode cb_Tb_link 5 = .ok (.aload_n 0, 1) := by decide +kernel
theorem d_Tb_link_6 : decode cb_Tb_link 6 = .ok (.getfield 30, 3) := by decide +kernel
theorem d_Tb_link_9 : decode cb_Tb_link 9 = .ok (.iconst 2, 1) := by decide +kernel
theorem d_Tb_link_10 : decode cb_Tb_link 10 = .ok (.iadd, 1) := by decide +kernel
theorem d_Tb_link_11 : decode cb_Tb_link 11 = .ok (.if_icmp .ge 12, 3) := by decide +kernel
theorem d_Tb_link_14 : decode cb_Tb_link 14 = .ok (.iload_n 1, 1) := by decide +kernel
theorem d_Tb_link_15 : decode cb_Tb_link 15 = .ok (.aload_n 0, 1) := by decide +kernel
theorem d_Tb_link_16 : decode cb_Tb_link 16 = .ok (.getfield 42, 3) := by decide +kernel
theorem d_Tb_link_19 : decode cb_Tb_link 19 = .ok (.arraylength, 1) := by decide +kernel
theorem d_Tb_link_20 : decode cb_Tb_link 20 = .ok (.if_icmp .lt 4, 3) := by decide +kernel
theorem d_Tb_link_23 : decode cb_Tb_link 23 = .ok (.return_, 1) := by decide +kernel
theorem d_Tb_link_24 : decode cb_Tb_link 24 = .ok (.aload_n 0, 1) := by decide +kernel
theorem d_Tb_link_25 : decode cb_Tb_link 25 = .ok (.getfield 42, 3) := by decide +kernel
theorem d_Tb_link_28 : decode cb_Tb_link 28 = .ok (.iload_n 1, 1) := by decide +kernel
theorem d_Tb_link_29 : decode cb_Tb_link 29 = .ok (.iload_n 2, 1) := by decide +kernel
theorem d_Tb_link_30 : decode cb_Tb_link 30 = .ok (.iastore, 1) := by decide +kernel
theorem d_Tb_link_31 : decode cb_Tb_link 31 = .ok (.iconst 0, 1) := by decide +kernel
theorem d_Tb_link_32 : decode cb_Tb_link 32 = .ok (.istore_n 3, 1) := by decide +kernel
theorem d_Tb_link_33 : decode cb_Tb_link 33 = .ok (.iload_n 3, 1) := by decide +kernel
theorem d_Tb_link_34 : decode cb_Tb_link 34 = .ok (.aload_n 0, 1) := by decide +kernel
theorem d_Tb_link_35 : decode cb_Tb_link 35 = .ok (.getfield 18, 3) := by decide +kernel
theorem d_Tb_link_38 : decode cb_Tb_link 38 = .ok (.if_icmp .ge 53, 3) := by decide +kernel
theorem d_Tb_link_41 : decode cb_Tb_link 41 = .ok (.aload_n 0, 1) := by decide +kernel
theorem d_Tb_link_42 : decode cb_Tb_link 42 = .ok (.getfield 15, 3) := by decide +kernel
theorem d_Tb_link_45 : decode cb_Tb_link 45 = .ok (.iload_n 3, 1) := by decide +kernel
theorem d_Tb_link_46 : decode cb_Tb_link 46 = .ok (.aload_n 0, 1) := by decide +kernel
theorem d_Tb_link_47 : decode cb_Tb_link 47 = .ok (.getfield 21, 3) := by decide +kernel
theorem d_Tb_link_50 : decode cb_Tb_link 50 = .ok (.imul, 1) := by decide +kernel
theorem d_Tb_link_51 : decode cb_Tb_link 51 = .ok (.iadd, 1) := by decide +kernel
theorem d_Tb_link_52 : decode cb_Tb_link 52 = .ok (.sipush 512, 3) := by decide +kernel
theorem d_Tb_link_55 : decode cb_Tb_link 55 = .ok (.imul, 1) := by decide +kernel
theorem d_Tb_link_56 : decode cb_Tb_link 56 = .ok (.iconst 4, 1) := by decide +kernel
theorem d_Tb_link_57 : decode cb_Tb_link 57 = .ok (.iload_n 1, 1) := by decide +kernel
theorem d_Tb_link_58 : decode cb_Tb_link 58 = .ok (.imul, 1) := by decide +kernel
theorem d_Tb_link_59 : decode cb_Tb_link 59 = .ok (.iadd, 1) := by decide +kernel
theorem d_Tb_link_60 : decode cb_Tb_link 60 = .ok (.istore 4, 2) := by decide +kernel
theorem d_Tb_link_62 : decode cb_Tb_link 62 = .ok (.aload_n 0, 1) := by decide +kernel
theorem d_Tb_link_63 : decode cb_Tb_link 63 = .ok (.getfield 33, 3) := by decide +kernel
theorem d_Tb_link_66 : decode cb_Tb_link 66 = .ok (.iload 4, 2) := by decide +kernel
theorem d_Tb_link_68 : decode cb_Tb_link 68 = .ok (.aload_n 0, 1) := by decide +kernel
theorem d_Tb_link_69 : decode cb_Tb_link 69 = .ok (.getfield 33, 3) := by decide +kernel
theorem d_Tb_link_72 : decode cb_Tb_link 72 = .ok (.iload 4, 2) := by decide +kernel
theorem d_Tb_link_74 : decode cb_Tb_link 74 = .ok (.invokevirtual 84, 3) := by decide +kernel
theorem d_Tb_link_77 : decode cb_Tb_link 77 = .ok (.ldc 108, 2) := by decide +kernel
theorem d_Tb_link_79 : decode cb_Tb_link 79 = .ok (.iand, 1) := by decide +kernel
theorem d_Tb_link_80 : decode cb_Tb_link 80 = .ok (.iload_n 2, 1) := by decide +kernel
theorem d_Tb_link_81 : decode cb_Tb_link 81 = .ok (.ior, 1) := by decide +kernel
theorem d_Tb_link_82 : decode cb_Tb_link 82 = .ok (.invokevirtual 68, 3) := by decide +kernel
theorem d_Tb_link_85 : decode cb_Tb_link 85 = .ok (.iinc 3 1, 3) := by decide +kernel
theorem d_Tb_link_88 : decode cb_Tb_link 88 = .ok (.goto (-55), 3) := by decide +kernel
theorem d_Tb_link_91 : decode cb_Tb_link 91 = .ok (.return_, 1) := by decide +kernel
abbrev cb_Tb_countFree : ByteArray := prog_8_method_24_code
def y_Tb_countFree : MethodName := ⟨R_Tb, "countFree", "()I"⟩
theorem d_Tb_countFree_0 : decode cb_Tb_countFree 0 = .ok (.iconst 0, 1) := by decide +kernel
theorem d_Tb_countFree_1 : decode cb_Tb_countFree 1 = .ok (.istore_n 1, 1) := by decide +kernel
theorem d_Tb_countFree_2 : decode cb_Tb_countFree 2 = .ok (.iconst 2, 1) := by decide +kernel
theorem d_Tb_countFree_3 : decode cb_Tb_countFree 3 = .ok (.istore_n 2, 1) := by decide +kernel
theorem d_Tb_countFree_4 : decode cb_Tb_countFree 4 = .ok (.iload_n 2, 1) := by decide +kernel
theorem d_Tb_countFree_5 : decode cb_Tb_countFree 5 = .ok (.aload_n 0, 1) := by decide +kernel
theorem d_Tb_countFree_6 : decode cb_Tb_countFree 6 = .ok (.getfield 30, 3) := by decide +kernel
theorem d_Tb_countFree_9 : decode cb_Tb_countFree 9 = .ok (.iconst 2, 1) := by decide +kernel
theorem d_Tb_countFree_10 : decode cb_Tb_countFree 10 = .ok (.iadd, 1) := by decide +kernel
theorem d_Tb_countFree_11 : decode cb_Tb_countFree 11 = .ok (.if_icmp .ge 25, 3) := by decide +kernel
theorem d_Tb_countFree_14 : decode cb_Tb_countFree 14 = .ok (.iload_n 1, 1) := by decide +kernel
theorem d_Tb_countFree_15 : decode cb_Tb_countFree 15 = .ok (.aload_n 0, 1) := by decide +kernel
theorem d_Tb_countFree_16 : decode cb_Tb_countFree 16 = .ok (.iload_n 2, 1) := by decide +kernel
theorem d_Tb_countFree_17 : decode cb_Tb_countFree 17 = .ok (.invokevirtual 109, 3) := by decide +kernel
theorem d_Tb_countFree_20 : decode cb_Tb_countFree 20 = .ok (.ifCond .eq 7, 3) := by decide +kernel
theorem d_Tb_countFree_23 : decode cb_Tb_countFree 23 = .ok (.iconst 1, 1) := by decide +kernel
theorem d_Tb_countFree_24 : decode cb_Tb_countFree 24 = .ok (.goto 4, 3) := by decide +kernel
theorem d_Tb_countFree_27 : decode cb_Tb_countFree 27 = .ok (.iconst 0, 1) := by decide +kernel
theorem d_Tb_countFree_28 : decode cb_Tb_countFree 28 = .ok (.iadd, 1) := by decide +kernel
theorem d_Tb_countFree_29 : decode cb_Tb_countFree 29 = .ok (.istore_n 1, 1) := by decide +kernel
theorem d_Tb_countFree_30 : decode cb_Tb_countFree 30 = .ok (.iinc 2 1, 3) := by decide +kernel
theorem d_Tb_countFree_33 : decode cb_Tb_countFree 33 = .ok (.goto (-29), 3) := by decide +kernel
theorem d_Tb_countFree_36 : decode cb_Tb_countFree 36 = .ok (.iload_n 1, 1) := by decide +kernel
theorem d_Tb_countFree_37 : decode cb_Tb_countFree 37 = .ok (.ireturn, 1) := by decide +kernel
abbrev cb_Tb_takeFree : ByteArray := prog_8_method_25_code
def y_Tb_takeFree : MethodName := ⟨R_Tb, "takeFree", "()I"⟩
theorem d_Tb_takeFree_0 : decode cb_Tb_takeFree 0 = .ok (.iconst 2, 1) := by decide +kernel
theorem d_Tb_takeFree_1 : decode cb_Tb_takeFree 1 = .ok (.istore_n 1, 1) := by decide +kernel
theorem d_Tb_takeFree_2 : decode cb_Tb_takeFree 2 = .ok (.iload_n 1, 1) := by decide +kernel
theorem d_Tb_takeFree_3 : decode cb_Tb_takeFree 3 = .ok (.aload_n 0, 1) := by decide +kernel
theorem d_Tb_takeFree_4 : decode cb_Tb_takeFree 4 = .ok (.getfield 30, 3) := by decide +kernel
theorem d_Tb_takeFree_7 : decode cb_Tb_takeFree 7 = .ok (.iconst 2, 1) := by decide +kernel
theorem d_Tb_takeFree_8 : decode cb_Tb_takeFree 8 = .ok (.iadd, 1) := by decide +kernel
theorem d_Tb_takeFree_9 : decode cb_Tb_takeFree 9 = .ok (.if_icmp .ge 42, 3) := by decide +kernel
theorem d_Tb_takeFree_12 : decode cb_Tb_takeFree 12 = .ok (.aload_n 0, 1) := by decide +kernel
theorem d_Tb_takeFree_13 : decode cb_Tb_takeFree 13 = .ok (.iload_n 1, 1) := by decide +kernel
theorem d_Tb_takeFree_14 : decode cb_Tb_takeFree 14 = .ok (.invokevirtual 109, 3) := by decide +kernel
theorem d_Tb_takeFree_17 : decode cb_Tb_takeFree 17 = .ok (.ifCond .eq 28, 3) := by decide +kernel
theorem d_Tb_takeFree_20 : decode cb_Tb_takeFree 20 = .ok (.aload_n 0, 1) := by decide +kernel
theorem d_Tb_takeFree_21 : decode cb_Tb_takeFree 21 = .ok (.iload_n 1, 1) := by decide +kernel
theorem d_Tb_takeFree_22 : decode cb_Tb_takeFree 22 = .ok (.ldc 79, 2) := by decide +kernel
theorem d_Tb_takeFree_24 : decode cb_Tb_takeFree 24 = .ok (.invokevirtual 76, 3) := by decide +kernel
theorem d_Tb_takeFree_27 : decode cb_Tb_takeFree 27 = .ok (.aload_n 0, 1) := by decide +kernel
theorem d_Tb_takeFree_28 : decode cb_Tb_takeFree 28 = .ok (.getfield 33, 3) := by decide +kernel
theorem d_Tb_takeFree_31 : decode cb_Tb_takeFree 31 = .ok (.aload_n 0, 1) := by decide +kernel
theorem d_Tb_takeFree_32 : decode cb_Tb_takeFree 32 = .ok (.iload_n 1, 1) := by decide +kernel
theorem d_Tb_takeFree_33 : decode cb_Tb_takeFree 33 = .ok (.invokevirtual 101, 3) := by decide +kernel
theorem d_Tb_takeFree_36 : decode cb_Tb_takeFree 36 = .ok (.aload_n 0, 1) := by decide +kernel
theorem d_Tb_takeFree_37 : decode cb_Tb_takeFree 37 = .ok (.invokevirtual 112, 3) := by decide +kernel
theorem d_Tb_takeFree_40 : decode cb_Tb_takeFree 40 = .ok (.invokevirtual 115, 3) := by decide +kernel
theorem d_Tb_takeFree_43 : decode cb_Tb_takeFree 43 = .ok (.iload_n 1, 1) := by decide +kernel
theorem d_Tb_takeFree_44 : decode cb_Tb_takeFree 44 = .ok (.ireturn, 1) := by decide +kernel
theorem d_Tb_takeFree_45 : decode cb_Tb_takeFree 45 = .ok (.iinc 1 1, 3) := by decide +kernel
theorem d_Tb_takeFree_48 : decode cb_Tb_takeFree 48 = .ok (.goto (-46), 3) := by decide +kernel
theorem d_Tb_takeFree_51 : decode cb_Tb_takeFree 51 = .ok (.iconst 0, 1) := by decide +kernel
theorem d_Tb_takeFree_52 : decode cb_Tb_takeFree 52 = .ok (.ireturn, 1) := by decide +kernel
def K_Tb : List Cond := [(.initialized "VolumeTurner$Table"), (.fieldLink "VolumeTurner$Table" 37 "VolumeTurner$Disk" "sectors" "I"), (.instantiable "VolumeTurner$Table" 10), (.instanceMethod y_Tb_init), (.code y_Tb_init prog_8_method_1_code 2 none), (.methodLink "VolumeTurner$Table" 3 objectInit), (.fieldLink "VolumeTurner$Table" 33 "VolumeTurner$Table" "disk" "LVolumeTurner$Disk;"), (.fieldLink "VolumeTurner$Table" 9 "VolumeTurner$Table" "cluster" "I"), (.fieldLink "VolumeTurner$Table" 15 "VolumeTurner$Table" "before" "I"), (.fieldLink "VolumeTurner$Table" 18 "VolumeTurner$Table" "copies" "I"), (.fieldLink "VolumeTurner$Table" 21 "VolumeTurner$Table" "length" "I"), (.fieldLink "VolumeTurner$Table" 24 "VolumeTurner$Table" "root" "I"), (.fieldLink "VolumeTurner$Table" 27 "VolumeTurner$Table" "start" "I"), (.fieldLink "VolumeTurner$Table" 30 "VolumeTurner$Table" "clusters" "I"), (.fieldLink "VolumeTurner$Table" 42 "VolumeTurner$Table" "next" "[I"), (.fieldLink "VolumeTurner$Table" 46 "VolumeTurner$Table" "goal" "[I"), (.instanceMethod y_Tb_behind), (.selects "VolumeTurner$Table" y_Tb_behind y_Tb_behind), (.code y_Tb_behind prog_8_method_11_code 1 (some .int)), (.instanceMethod y_Tb_read), (.selects "VolumeTurner$Table" y_Tb_read y_Tb_read), (.code y_Tb_read prog_8_method_9_code 8 (some .boolean)), (.methodLink "VolumeTurner$Table" 87 y_Dk_one), (.methodLink "VolumeTurner$Table" 80 y_Dk_two), (.methodLink "VolumeTurner$Table" 84 y_Dk_four), (.methodLink "VolumeTurner$Table" 90 y_Tb_constantsFit), (.instanceMethod y_Tb_constantsFit), (.code y_Tb_constantsFit prog_8_method_8_code 1 (some .boolean)), (.constant "VolumeTurner$Table" 71 (43605 : Int32)), (.methodLink "VolumeTurner$Table" 49 y_Tb_numbersFit), (.static y_Tb_numbersFit), (.code y_Tb_numbersFit prog_8_method_2_code 4 (some .boolean)), (.methodLink "VolumeTurner$Table" 53 y_Tb_clustersWith), (.instanceMethod y_Tb_clustersWith), (.code y_Tb_clustersWith prog_8_method_3_code 5 (some .int)), (.methodLink "VolumeTurner$Table" 57 y_Tb_isEnough), (.static y_Tb_isEnough), (.code y_Tb_isEnough prog_8_method_4_code 2 (some .boolean)), (.constant "VolumeTurner$Table" 79 (268435455 : Int32)), (.instanceMethod y_Tb_entriesFit), (.selects "VolumeTurner$Table" y_Tb_entriesFit y_Tb_entriesFit), (.code y_Tb_entriesFit prog_8_method_10_code 5 (some .boolean)), (.constant "VolumeTurner$Table" 75 (268435448 : Int32)), (.instanceMethod y_Tb_nextOf), (.selects "VolumeTurner$Table" y_Tb_nextOf y_Tb_nextOf), (.code y_Tb_nextOf prog_8_method_13_code 2 (some .int)), (.instanceMethod y_Tb_goalOf), (.selects "VolumeTurner$Table" y_Tb_goalOf y_Tb_goalOf), (.code y_Tb_goalOf prog_8_method_15_code 2 (some .int)), (.instanceMethod y_Tb_slotsOfCluster), (.selects "VolumeTurner$Table" y_Tb_slotsOfCluster y_Tb_slotsOfCluster), (.code y_Tb_slotsOfCluster prog_8_method_19_code 1 (some .int)), (.instanceMethod y_Tb_slotPlace), (.selects "VolumeTurner$Table" y_Tb_slotPlace y_Tb_slotPlace), (.code y_Tb_slotPlace prog_8_method_20_code 4 (some .int)), (.methodLink "VolumeTurner$Table" 97 y_Tb_slotsOfCluster), (.methodLink "VolumeTurner$Table" 101 y_Tb_place), (.instanceMethod y_Tb_place), (.selects "VolumeTurner$Table" y_Tb_place y_Tb_place), (.code y_Tb_place prog_8_method_21_code 2 (some .int)), (.instanceMethod y_Tb_clusterBytes), (.selects "VolumeTurner$Table" y_Tb_clusterBytes y_Tb_clusterBytes), (.code y_Tb_clusterBytes prog_8_method_18_code 1 (some .int)), (.instanceMethod y_Tb_isFree), (.selects "VolumeTurner$Table" y_Tb_isFree y_Tb_isFree), (.code y_Tb_isFree prog_8_method_16_code 2 (some .boolean)), (.instanceMethod y_Tb_shows), (.selects "VolumeTurner$Table" y_Tb_shows y_Tb_shows), (.code y_Tb_shows prog_8_method_17_code 2 (some .boolean)), (.methodLink "VolumeTurner$Table" 94 y_Tb_nextOf), (.instanceMethod y_Tb_setGoal), (.selects "VolumeTurner$Table" y_Tb_setGoal y_Tb_setGoal), (.code y_Tb_setGoal prog_8_method_14_code 3 none), (.instanceMethod y_Tb_hasCluster), (.selects "VolumeTurner$Table" y_Tb_hasCluster y_Tb_hasCluster), (.code y_Tb_hasCluster prog_8_method_12_code 2 (some .boolean)), (.instanceMethod y_Tb_leastLength), (.selects "VolumeTurner$Table" y_Tb_leastLength y_Tb_leastLength), (.code y_Tb_leastLength prog_8_method_5_code 5 (some .int)), (.instanceMethod y_Tb_writeFirstSectors), (.selects "VolumeTurner$Table" y_Tb_writeFirstSectors y_Tb_writeFirstSectors), (.code y_Tb_writeFirstSectors prog_8_method_6_code 8 none), (.methodLink "VolumeTurner$Table" 61 y_Dk_putOne), (.methodLink "VolumeTurner$Table" 65 y_Dk_putTwo), (.methodLink "VolumeTurner$Table" 68 y_Dk_putFour), (.constant "VolumeTurner$Table" 72 (1096897106 : Int32)), (.constant "VolumeTurner$Table" 73 (1631679090 : Int32)), (.constant "VolumeTurner$Table" 74 (-1437270016 : Int32)), (.instanceMethod y_Tb_startTables), (.selects "VolumeTurner$Table" y_Tb_startTables y_Tb_startTables), (.code y_Tb_startTables prog_8_method_7_code 1 none), (.methodLink "VolumeTurner$Table" 76 y_Tb_link), (.instanceMethod y_Tb_link), (.selects "VolumeTurner$Table" y_Tb_link y_Tb_link), (.code y_Tb_link prog_8_method_23_code 5 none), (.constant "VolumeTurner$Table" 108 (-268435456 : Int32)), (.instanceMethod y_Tb_road), (.selects "VolumeTurner$Table" y_Tb_road y_Tb_road), (.code y_Tb_road prog_8_method_22_code 5 (some .int)), (.methodLink "VolumeTurner$Table" 104 y_Tb_hasCluster), (.instanceMethod y_Tb_countFree), (.selects "VolumeTurner$Table" y_Tb_countFree y_Tb_countFree), (.code y_Tb_countFree prog_8_method_24_code 3 (some .int)), (.methodLink "VolumeTurner$Table" 109 y_Tb_isFree), (.instanceMethod y_Tb_takeFree), (.selects "VolumeTurner$Table" y_Tb_takeFree y_Tb_takeFree), (.code y_Tb_takeFree prog_8_method_25_code 2 (some .int)), (.methodLink "VolumeTurner$Table" 112 y_Tb_clusterBytes), (.methodLink "VolumeTurner$Table" 115 y_Dk_zero), (.selects "VolumeTurner$Table" y_Tb_clustersWith y_Tb_clustersWith), (.selects "VolumeTurner$Table" y_Tb_constantsFit y_Tb_constantsFit)]
theorem j_Tb_0 : (.initialized "VolumeTurner$Table") ∈ K_Tb := List.mem_of_getElem? (i := 0) rfl
theorem j_Tb_1 : (.fieldLink "VolumeTurner$Table" 37 "VolumeTurner$Disk" "sectors" "I") ∈ K_Tb := List.mem_of_getElem? (i := 1) rfl
theorem j_Tb_2 : (.instantiable "VolumeTurner$Table" 10) ∈ K_Tb := List.mem_of_getElem? (i := 2) rfl
theorem j_Tb_3 : (.instanceMethod y_Tb_init) ∈ K_Tb := List.mem_of_getElem? (i := 3) rfl
theorem j_Tb_4 : (.code y_Tb_init prog_8_method_1_code 2 none) ∈ K_Tb := List.mem_of_getElem? (i := 4) rfl
theorem j_Tb_5 : (.methodLink "VolumeTurner$Table" 3 objectInit) ∈ K_Tb := List.mem_of_getElem? (i := 5) rfl
theorem j_Tb_6 : (.fieldLink "VolumeTurner$Table" 33 "VolumeTurner$Table" "disk" "LVolumeTurner$Disk;") ∈ K_Tb := List.mem_of_getElem? (i := 6) rfl
theorem j_Tb_7 : (.fieldLink "VolumeTurner$Table" 9 "VolumeTurner$Table" "cluster" "I") ∈ K_Tb := List.mem_of_getElem? (i := 7) rfl
theorem j_Tb_8 : (.fieldLink "VolumeTurner$Table" 15 "VolumeTurner$Table" "before" "I") ∈ K_Tb := List.mem_of_getElem? (i := 8) rfl
theorem j_Tb_9 : (.fieldLink "VolumeTurner$Table" 18 "VolumeTurner$Table" "copies" "I") ∈ K_Tb := List.mem_of_getElem? (i := 9) rfl
theorem j_Tb_10 : (.fieldLink "VolumeTurner$Table" 21 "VolumeTurner$Table" "length" "I") ∈ K_Tb := List.mem_of_getElem? (i := 10) rfl
theorem j_Tb_11 : (.fieldLink "VolumeTurner$Table" 24 "VolumeTurner$Table" "root" "I") ∈ K_Tb := List.mem_of_getElem? (i := 11) rfl
theorem j_Tb_12 : (.fieldLink "VolumeTurner$Table" 27 "VolumeTurner$Table" "start" "I") ∈ K_Tb := List.mem_of_getElem? (i := 12) rfl
theorem j_Tb_13 : (.fieldLink "VolumeTurner$Table" 30 "VolumeTurner$Table" "clusters" "I") ∈ K_Tb := List.mem_of_getElem? (i := 13) rfl
theorem j_Tb_14 : (.fieldLink "VolumeTurner$Table" 42 "VolumeTurner$Table" "next" "[I") ∈ K_Tb := List.mem_of_getElem? (i := 14) rfl
theorem j_Tb_15 : (.fieldLink "VolumeTurner$Table" 46 "VolumeTurner$Table" "goal" "[I") ∈ K_Tb := List.mem_of_getElem? (i := 15) rfl
theorem j_Tb_16 : (.instanceMethod y_Tb_behind) ∈ K_Tb := List.mem_of_getElem? (i := 16) rfl
theorem j_Tb_17 : (.selects "VolumeTurner$Table" y_Tb_behind y_Tb_behind) ∈ K_Tb := List.mem_of_getElem? (i := 17) rfl
theorem j_Tb_18 : (.code y_Tb_behind prog_8_method_11_code 1 (some .int)) ∈ K_Tb := List.mem_of_getElem? (i := 18) rfl
theorem j_Tb_19 : (.instanceMethod y_Tb_read) ∈ K_Tb := List.mem_of_getElem? (i := 19) rfl
theorem j_Tb_20 : (.selects "VolumeTurner$Table" y_Tb_read y_Tb_read) ∈ K_Tb := List.mem_of_getElem? (i := 20) rfl
theorem j_Tb_21 : (.code y_Tb_read prog_8_method_9_code 8 (some .boolean)) ∈ K_Tb := List.mem_of_getElem? (i := 21) rfl
theorem j_Tb_22 : (.methodLink "VolumeTurner$Table" 87 y_Dk_one) ∈ K_Tb := List.mem_of_getElem? (i := 22) rfl
theorem j_Tb_23 : (.methodLink "VolumeTurner$Table" 80 y_Dk_two) ∈ K_Tb := List.mem_of_getElem? (i := 23) rfl
theorem j_Tb_24 : (.methodLink "VolumeTurner$Table" 84 y_Dk_four) ∈ K_Tb := List.mem_of_getElem? (i := 24) rfl
theorem j_Tb_25 : (.methodLink "VolumeTurner$Table" 90 y_Tb_constantsFit) ∈ K_Tb := List.mem_of_getElem? (i := 25) rfl
theorem j_Tb_26 : (.instanceMethod y_Tb_constantsFit) ∈ K_Tb := List.mem_of_getElem? (i := 26) rfl
theorem j_Tb_27 : (.code y_Tb_constantsFit prog_8_method_8_code 1 (some .boolean)) ∈ K_Tb := List.mem_of_getElem? (i := 27) rfl
theorem j_Tb_28 : (.constant "VolumeTurner$Table" 71 (43605 : Int32)) ∈ K_Tb := List.mem_of_getElem? (i := 28) rfl
theorem j_Tb_29 : (.methodLink "VolumeTurner$Table" 49 y_Tb_numbersFit) ∈ K_Tb := List.mem_of_getElem? (i := 29) rfl
theorem j_Tb_30 : (.static y_Tb_numbersFit) ∈ K_Tb := List.mem_of_getElem? (i := 30) rfl
theorem j_Tb_31 : (.code y_Tb_numbersFit prog_8_method_2_code 4 (some .boolean)) ∈ K_Tb := List.mem_of_getElem? (i := 31) rfl
theorem j_Tb_32 : (.methodLink "VolumeTurner$Table" 53 y_Tb_clustersWith) ∈ K_Tb := List.mem_of_getElem? (i := 32) rfl
theorem j_Tb_33 : (.instanceMethod y_Tb_clustersWith) ∈ K_Tb := List.mem_of_getElem? (i := 33) rfl
theorem j_Tb_34 : (.code y_Tb_clustersWith prog_8_method_3_code 5 (some .int)) ∈ K_Tb := List.mem_of_getElem? (i := 34) rfl
theorem j_Tb_35 : (.methodLink "VolumeTurner$Table" 57 y_Tb_isEnough) ∈ K_Tb := List.mem_of_getElem? (i := 35) rfl
theorem j_Tb_36 : (.static y_Tb_isEnough) ∈ K_Tb := List.mem_of_getElem? (i := 36) rfl
theorem j_Tb_37 : (.code y_Tb_isEnough prog_8_method_4_code 2 (some .boolean)) ∈ K_Tb := List.mem_of_getElem? (i := 37) rfl
theorem j_Tb_38 : (.constant "VolumeTurner$Table" 79 (268435455 : Int32)) ∈ K_Tb := List.mem_of_getElem? (i := 38) rfl
theorem j_Tb_39 : (.instanceMethod y_Tb_entriesFit) ∈ K_Tb := List.mem_of_getElem? (i := 39) rfl
theorem j_Tb_40 : (.selects "VolumeTurner$Table" y_Tb_entriesFit y_Tb_entriesFit) ∈ K_Tb := List.mem_of_getElem? (i := 40) rfl
theorem j_Tb_41 : (.code y_Tb_entriesFit prog_8_method_10_code 5 (some .boolean)) ∈ K_Tb := List.mem_of_getElem? (i := 41) rfl
theorem j_Tb_42 : (.constant "VolumeTurner$Table" 75 (268435448 : Int32)) ∈ K_Tb := List.mem_of_getElem? (i := 42) rfl
theorem j_Tb_43 : (.instanceMethod y_Tb_nextOf) ∈ K_Tb := List.mem_of_getElem? (i := 43) rfl
theorem j_Tb_44 : (.selects "VolumeTurner$Table" y_Tb_nextOf y_Tb_nextOf) ∈ K_Tb := List.mem_of_getElem? (i := 44) rfl
theorem j_Tb_45 : (.code y_Tb_nextOf prog_8_method_13_code 2 (some .int)) ∈ K_Tb := List.mem_of_getElem? (i := 45) rfl
theorem j_Tb_46 : (.instanceMethod y_Tb_goalOf) ∈ K_Tb := List.mem_of_getElem? (i := 46) rfl
theorem j_Tb_47 : (.selects "VolumeTurner$Table" y_Tb_goalOf y_Tb_goalOf) ∈ K_Tb := List.mem_of_getElem? (i := 47) rfl
theorem j_Tb_48 : (.code y_Tb_goalOf prog_8_method_15_code 2 (some .int)) ∈ K_Tb := List.mem_of_getElem? (i := 48) rfl
theorem j_Tb_49 : (.instanceMethod y_Tb_slotsOfCluster) ∈ K_Tb := List.mem_of_getElem? (i := 49) rfl
theorem j_Tb_50 : (.selects "VolumeTurner$Table" y_Tb_slotsOfCluster y_Tb_slotsOfCluster) ∈ K_Tb := List.mem_of_getElem? (i := 50) rfl
theorem j_Tb_51 : (.code y_Tb_slotsOfCluster prog_8_method_19_code 1 (some .int)) ∈ K_Tb := List.mem_of_getElem? (i := 51) rfl
theorem j_Tb_52 : (.instanceMethod y_Tb_slotPlace) ∈ K_Tb := List.mem_of_getElem? (i := 52) rfl
theorem j_Tb_53 : (.selects "VolumeTurner$Table" y_Tb_slotPlace y_Tb_slotPlace) ∈ K_Tb := List.mem_of_getElem? (i := 53) rfl
theorem j_Tb_54 : (.code y_Tb_slotPlace prog_8_method_20_code 4 (some .int)) ∈ K_Tb := List.mem_of_getElem? (i := 54) rfl
theorem j_Tb_55 : (.methodLink "VolumeTurner$Table" 97 y_Tb_slotsOfCluster) ∈ K_Tb := List.mem_of_getElem? (i := 55) rfl
theorem j_Tb_56 : (.methodLink "VolumeTurner$Table" 101 y_Tb_place) ∈ K_Tb := List.mem_of_getElem? (i := 56) rfl
theorem j_Tb_57 : (.instanceMethod y_Tb_place) ∈ K_Tb := List.mem_of_getElem? (i := 57) rfl
theorem j_Tb_58 : (.selects "VolumeTurner$Table" y_Tb_place y_Tb_place) ∈ K_Tb := List.mem_of_getElem? (i := 58) rfl
theorem j_Tb_59 : (.code y_Tb_place prog_8_method_21_code 2 (some .int)) ∈ K_Tb := List.mem_of_getElem? (i := 59) rfl
theorem j_Tb_60 : (.instanceMethod y_Tb_clusterBytes) ∈ K_Tb := List.mem_of_getElem? (i := 60) rfl
theorem j_Tb_61 : (.selects "VolumeTurner$Table" y_Tb_clusterBytes y_Tb_clusterBytes) ∈ K_Tb := List.mem_of_getElem? (i := 61) rfl
theorem j_Tb_62 : (.code y_Tb_clusterBytes prog_8_method_18_code 1 (some .int)) ∈ K_Tb := List.mem_of_getElem? (i := 62) rfl
theorem j_Tb_63 : (.instanceMethod y_Tb_isFree) ∈ K_Tb := List.mem_of_getElem? (i := 63) rfl
theorem j_Tb_64 : (.selects "VolumeTurner$Table" y_Tb_isFree y_Tb_isFree) ∈ K_Tb := List.mem_of_getElem? (i := 64) rfl
theorem j_Tb_65 : (.code y_Tb_isFree prog_8_method_16_code 2 (some .boolean)) ∈ K_Tb := List.mem_of_getElem? (i := 65) rfl
theorem j_Tb_66 : (.instanceMethod y_Tb_shows) ∈ K_Tb := List.mem_of_getElem? (i := 66) rfl
theorem j_Tb_67 : (.selects "VolumeTurner$Table" y_Tb_shows y_Tb_shows) ∈ K_Tb := List.mem_of_getElem? (i := 67) rfl
theorem j_Tb_68 : (.code y_Tb_shows prog_8_method_17_code 2 (some .boolean)) ∈ K_Tb := List.mem_of_getElem? (i := 68) rfl
theorem j_Tb_69 : (.methodLink "VolumeTurner$Table" 94 y_Tb_nextOf) ∈ K_Tb := List.mem_of_getElem? (i := 69) rfl
theorem j_Tb_70 : (.instanceMethod y_Tb_setGoal) ∈ K_Tb := List.mem_of_getElem? (i := 70) rfl
theorem j_Tb_71 : (.selects "VolumeTurner$Table" y_Tb_setGoal y_Tb_setGoal) ∈ K_Tb := List.mem_of_getElem? (i := 71) rfl
theorem j_Tb_72 : (.code y_Tb_setGoal prog_8_method_14_code 3 none) ∈ K_Tb := List.mem_of_getElem? (i := 72) rfl
theorem j_Tb_73 : (.instanceMethod y_Tb_hasCluster) ∈ K_Tb := List.mem_of_getElem? (i := 73) rfl
theorem j_Tb_74 : (.selects "VolumeTurner$Table" y_Tb_hasCluster y_Tb_hasCluster) ∈ K_Tb := List.mem_of_getElem? (i := 74) rfl
theorem j_Tb_75 : (.code y_Tb_hasCluster prog_8_method_12_code 2 (some .boolean)) ∈ K_Tb := List.mem_of_getElem? (i := 75) rfl
theorem j_Tb_76 : (.instanceMethod y_Tb_leastLength) ∈ K_Tb := List.mem_of_getElem? (i := 76) rfl
theorem j_Tb_77 : (.selects "VolumeTurner$Table" y_Tb_leastLength y_Tb_leastLength) ∈ K_Tb := List.mem_of_getElem? (i := 77) rfl
theorem j_Tb_78 : (.code y_Tb_leastLength prog_8_method_5_code 5 (some .int)) ∈ K_Tb := List.mem_of_getElem? (i := 78) rfl
theorem j_Tb_79 : (.instanceMethod y_Tb_writeFirstSectors) ∈ K_Tb := List.mem_of_getElem? (i := 79) rfl
theorem j_Tb_80 : (.selects "VolumeTurner$Table" y_Tb_writeFirstSectors y_Tb_writeFirstSectors) ∈ K_Tb := List.mem_of_getElem? (i := 80) rfl
theorem j_Tb_81 : (.code y_Tb_writeFirstSectors prog_8_method_6_code 8 none) ∈ K_Tb := List.mem_of_getElem? (i := 81) rfl
theorem j_Tb_82 : (.methodLink "VolumeTurner$Table" 61 y_Dk_putOne) ∈ K_Tb := List.mem_of_getElem? (i := 82) rfl
theorem j_Tb_83 : (.methodLink "VolumeTurner$Table" 65 y_Dk_putTwo) ∈ K_Tb := List.mem_of_getElem? (i := 83) rfl
theorem j_Tb_84 : (.methodLink "VolumeTurner$Table" 68 y_Dk_putFour) ∈ K_Tb := List.mem_of_getElem? (i := 84) rfl
theorem j_Tb_85 : (.constant "VolumeTurner$Table" 72 (1096897106 : Int32)) ∈ K_Tb := List.mem_of_getElem? (i := 85) rfl
theorem j_Tb_86 : (.constant "VolumeTurner$Table" 73 (1631679090 : Int32)) ∈ K_Tb := List.mem_of_getElem? (i := 86) rfl
theorem j_Tb_87 : (.constant "VolumeTurner$Table" 74 (-1437270016 : Int32)) ∈ K_Tb := List.mem_of_getElem? (i := 87) rfl
theorem j_Tb_88 : (.instanceMethod y_Tb_startTables) ∈ K_Tb := List.mem_of_getElem? (i := 88) rfl
theorem j_Tb_89 : (.selects "VolumeTurner$Table" y_Tb_startTables y_Tb_startTables) ∈ K_Tb := List.mem_of_getElem? (i := 89) rfl
theorem j_Tb_90 : (.code y_Tb_startTables prog_8_method_7_code 1 none) ∈ K_Tb := List.mem_of_getElem? (i := 90) rfl
theorem j_Tb_91 : (.methodLink "VolumeTurner$Table" 76 y_Tb_link) ∈ K_Tb := List.mem_of_getElem? (i := 91) rfl
theorem j_Tb_92 : (.instanceMethod y_Tb_link) ∈ K_Tb := List.mem_of_getElem? (i := 92) rfl
theorem j_Tb_93 : (.selects "VolumeTurner$Table" y_Tb_link y_Tb_link) ∈ K_Tb := List.mem_of_getElem? (i := 93) rfl
theorem j_Tb_94 : (.code y_Tb_link prog_8_method_23_code 5 none) ∈ K_Tb := List.mem_of_getElem? (i := 94) rfl
theorem j_Tb_95 : (.constant "VolumeTurner$Table" 108 (-268435456 : Int32)) ∈ K_Tb := List.mem_of_getElem? (i := 95) rfl
theorem j_Tb_96 : (.instanceMethod y_Tb_road) ∈ K_Tb := List.mem_of_getElem? (i := 96) rfl
theorem j_Tb_97 : (.selects "VolumeTurner$Table" y_Tb_road y_Tb_road) ∈ K_Tb := List.mem_of_getElem? (i := 97) rfl
theorem j_Tb_98 : (.code y_Tb_road prog_8_method_22_code 5 (some .int)) ∈ K_Tb := List.mem_of_getElem? (i := 98) rfl
theorem j_Tb_99 : (.methodLink "VolumeTurner$Table" 104 y_Tb_hasCluster) ∈ K_Tb := List.mem_of_getElem? (i := 99) rfl
theorem j_Tb_100 : (.instanceMethod y_Tb_countFree) ∈ K_Tb := List.mem_of_getElem? (i := 100) rfl
theorem j_Tb_101 : (.selects "VolumeTurner$Table" y_Tb_countFree y_Tb_countFree) ∈ K_Tb := List.mem_of_getElem? (i := 101) rfl
theorem j_Tb_102 : (.code y_Tb_countFree prog_8_method_24_code 3 (some .int)) ∈ K_Tb := List.mem_of_getElem? (i := 102) rfl
theorem j_Tb_103 : (.methodLink "VolumeTurner$Table" 109 y_Tb_isFree) ∈ K_Tb := List.mem_of_getElem? (i := 103) rfl
theorem j_Tb_104 : (.instanceMethod y_Tb_takeFree) ∈ K_Tb := List.mem_of_getElem? (i := 104) rfl
theorem j_Tb_105 : (.selects "VolumeTurner$Table" y_Tb_takeFree y_Tb_takeFree) ∈ K_Tb := List.mem_of_getElem? (i := 105) rfl
theorem j_Tb_106 : (.code y_Tb_takeFree prog_8_method_25_code 2 (some .int)) ∈ K_Tb := List.mem_of_getElem? (i := 106) rfl
theorem j_Tb_107 : (.methodLink "VolumeTurner$Table" 112 y_Tb_clusterBytes) ∈ K_Tb := List.mem_of_getElem? (i := 107) rfl
theorem j_Tb_108 : (.methodLink "VolumeTurner$Table" 115 y_Dk_zero) ∈ K_Tb := List.mem_of_getElem? (i := 108) rfl
theorem j_Tb_109 : (.selects "VolumeTurner$Table" y_Tb_clustersWith y_Tb_clustersWith) ∈ K_Tb := List.mem_of_getElem? (i := 109) rfl
theorem j_Tb_110 : (.selects "VolumeTurner$Table" y_Tb_constantsFit y_Tb_constantsFit) ∈ K_Tb := List.mem_of_getElem? (i := 110) rfl
def V_Tb : List Cond := w_Tb ++ (K_Tb ++ V_Tp)
theorem i_Tb : ∀ w ∈ w_Tb, w ∈ V_Tb := fun _ h => List.mem_append_left _ h
theorem kk_Tb : ∀ w ∈ K_Tb, w ∈ V_Tb := fun _ h => List.mem_append_right _ (List.mem_append_left _ h)
theorem u_Tb_Tp : ∀ w ∈ V_Tp, w ∈ V_Tb := fun _ h => List.mem_append_right _ (List.mem_append_right _ h)
theorem u_Tb_J : ∀ w ∈ V_J, w ∈ V_Tb := fun w h => u_Tb_Tp w (u_Tp_J w h)
theorem u_Tb_Dk : ∀ w ∈ V_Dk, w ∈ V_Tb := fun w h => u_Tb_Tp w (u_Tp_Dk w h)
theorem u_Tb_Wo : ∀ w ∈ V_Wo, w ∈ V_Tb := fun w h => u_Tb_Tp w (u_Tp_Wo w h)
theorem u_Tb_Da : ∀ w ∈ V_Da, w ∈ V_Tb := fun w h => u_Tb_Tp w (u_Tp_Da w h)
theorem k_Tb_0 : (.initialized "VolumeTurner$Table") ∈ V_Tb := kk_Tb _ j_Tb_0
theorem k_Tb_1 : (.fieldLink "VolumeTurner$Table" 37 "VolumeTurner$Disk" "sectors" "I") ∈ V_Tb := kk_Tb _ j_Tb_1
theorem k_Tb_2 : (.instantiable "VolumeTurner$Table" 10) ∈ V_Tb := kk_Tb _ j_Tb_2
theorem k_Tb_3 : (.instanceMethod y_Tb_init) ∈ V_Tb := kk_Tb _ j_Tb_3
theorem k_Tb_4 : (.code y_Tb_init prog_8_method_1_code 2 none) ∈ V_Tb := kk_Tb _ j_Tb_4
theorem k_Tb_5 : (.methodLink "VolumeTurner$Table" 3 objectInit) ∈ V_Tb := kk_Tb _ j_Tb_5
theorem k_Tb_6 : (.fieldLink "VolumeTurner$Table" 33 "VolumeTurner$Table" "disk" "LVolumeTurner$Disk;") ∈ V_Tb := kk_Tb _ j_Tb_6
theorem k_Tb_7 : (.fieldLink "VolumeTurner$Table" 9 "VolumeTurner$Table" "cluster" "I") ∈ V_Tb := kk_Tb _ j_Tb_7
theorem k_Tb_8 : (.fieldLink "VolumeTurner$Table" 15 "VolumeTurner$Table" "before" "I") ∈ V_Tb := kk_Tb _ j_Tb_8
theorem k_Tb_9 : (.fieldLink "VolumeTurner$Table" 18 "VolumeTurner$Table" "copies" "I") ∈ V_Tb := kk_Tb _ j_Tb_9
theorem k_Tb_10 : (.fieldLink "VolumeTurner$Table" 21 "VolumeTurner$Table" "length" "I") ∈ V_Tb := kk_Tb _ j_Tb_10
theorem k_Tb_11 : (.fieldLink "VolumeTurner$Table" 24 "VolumeTurner$Table" "root" "I") ∈ V_Tb := kk_Tb _ j_Tb_11
theorem k_Tb_12 : (.fieldLink "VolumeTurner$Table" 27 "VolumeTurner$Table" "start" "I") ∈ V_Tb := kk_Tb _ j_Tb_12
theorem k_Tb_13 : (.fieldLink "VolumeTurner$Table" 30 "VolumeTurner$Table" "clusters" "I") ∈ V_Tb := kk_Tb _ j_Tb_13
theorem k_Tb_14 : (.fieldLink "VolumeTurner$Table" 42 "VolumeTurner$Table" "next" "[I") ∈ V_Tb := kk_Tb _ j_Tb_14
theorem k_Tb_15 : (.fieldLink "VolumeTurner$Table" 46 "VolumeTurner$Table" "goal" "[I") ∈ V_Tb := kk_Tb _ j_Tb_15
theorem k_Tb_16 : (.instanceMethod y_Tb_behind) ∈ V_Tb := kk_Tb _ j_Tb_16
theorem k_Tb_17 : (.selects "VolumeTurner$Table" y_Tb_behind y_Tb_behind) ∈ V_Tb := kk_Tb _ j_Tb_17
theorem k_Tb_18 : (.code y_Tb_behind prog_8_method_11_code 1 (some .int)) ∈ V_Tb := kk_Tb _ j_Tb_18
theorem k_Tb_19 : (.instanceMethod y_Tb_read) ∈ V_Tb := kk_Tb _ j_Tb_19
theorem k_Tb_20 : (.selects "VolumeTurner$Table" y_Tb_read y_Tb_read) ∈ V_Tb := kk_Tb _ j_Tb_20
theorem k_Tb_21 : (.code y_Tb_read prog_8_method_9_code 8 (some .boolean)) ∈ V_Tb := kk_Tb _ j_Tb_21
theorem k_Tb_22 : (.methodLink "VolumeTurner$Table" 87 y_Dk_one) ∈ V_Tb := kk_Tb _ j_Tb_22
theorem k_Tb_23 : (.methodLink "VolumeTurner$Table" 80 y_Dk_two) ∈ V_Tb := kk_Tb _ j_Tb_23
theorem k_Tb_24 : (.methodLink "VolumeTurner$Table" 84 y_Dk_four) ∈ V_Tb := kk_Tb _ j_Tb_24
theorem k_Tb_25 : (.methodLink "VolumeTurner$Table" 90 y_Tb_constantsFit) ∈ V_Tb := kk_Tb _ j_Tb_25
theorem k_Tb_26 : (.instanceMethod y_Tb_constantsFit) ∈ V_Tb := kk_Tb _ j_Tb_26
theorem k_Tb_27 : (.code y_Tb_constantsFit prog_8_method_8_code 1 (some .boolean)) ∈ V_Tb := kk_Tb _ j_Tb_27
theorem k_Tb_28 : (.constant "VolumeTurner$Table" 71 (43605 : Int32)) ∈ V_Tb := kk_Tb _ j_Tb_28
theorem k_Tb_29 : (.methodLink "VolumeTurner$Table" 49 y_Tb_numbersFit) ∈ V_Tb := kk_Tb _ j_Tb_29
theorem k_Tb_30 : (.static y_Tb_numbersFit) ∈ V_Tb := kk_Tb _ j_Tb_30
theorem k_Tb_31 : (.code y_Tb_numbersFit prog_8_method_2_code 4 (some .boolean)) ∈ V_Tb := kk_Tb _ j_Tb_31
theorem k_Tb_32 : (.methodLink "VolumeTurner$Table" 53 y_Tb_clustersWith) ∈ V_Tb := kk_Tb _ j_Tb_32
theorem k_Tb_33 : (.instanceMethod y_Tb_clustersWith) ∈ V_Tb := kk_Tb _ j_Tb_33
theorem k_Tb_34 : (.code y_Tb_clustersWith prog_8_method_3_code 5 (some .int)) ∈ V_Tb := kk_Tb _ j_Tb_34
theorem k_Tb_35 : (.methodLink "VolumeTurner$Table" 57 y_Tb_isEnough) ∈ V_Tb := kk_Tb _ j_Tb_35
theorem k_Tb_36 : (.static y_Tb_isEnough) ∈ V_Tb := kk_Tb _ j_Tb_36
theorem k_Tb_37 : (.code y_Tb_isEnough prog_8_method_4_code 2 (some .boolean)) ∈ V_Tb := kk_Tb _ j_Tb_37
theorem k_Tb_38 : (.constant "VolumeTurner$Table" 79 (268435455 : Int32)) ∈ V_Tb := kk_Tb _ j_Tb_38
theorem k_Tb_39 : (.instanceMethod y_Tb_entriesFit) ∈ V_Tb := kk_Tb _ j_Tb_39
theorem k_Tb_40 : (.selects "VolumeTurner$Table" y_Tb_entriesFit y_Tb_entriesFit) ∈ V_Tb := kk_Tb _ j_Tb_40
theorem k_Tb_41 : (.code y_Tb_entriesFit prog_8_method_10_code 5 (some .boolean)) ∈ V_Tb := kk_Tb _ j_Tb_41
theorem k_Tb_42 : (.constant "VolumeTurner$Table" 75 (268435448 : Int32)) ∈ V_Tb := kk_Tb _ j_Tb_42
theorem k_Tb_43 : (.instanceMethod y_Tb_nextOf) ∈ V_Tb := kk_Tb _ j_Tb_43
theorem k_Tb_44 : (.selects "VolumeTurner$Table" y_Tb_nextOf y_Tb_nextOf) ∈ V_Tb := kk_Tb _ j_Tb_44
theorem k_Tb_45 : (.code y_Tb_nextOf prog_8_method_13_code 2 (some .int)) ∈ V_Tb := kk_Tb _ j_Tb_45
theorem k_Tb_46 : (.instanceMethod y_Tb_goalOf) ∈ V_Tb := kk_Tb _ j_Tb_46
theorem k_Tb_47 : (.selects "VolumeTurner$Table" y_Tb_goalOf y_Tb_goalOf) ∈ V_Tb := kk_Tb _ j_Tb_47
theorem k_Tb_48 : (.code y_Tb_goalOf prog_8_method_15_code 2 (some .int)) ∈ V_Tb := kk_Tb _ j_Tb_48
theorem k_Tb_49 : (.instanceMethod y_Tb_slotsOfCluster) ∈ V_Tb := kk_Tb _ j_Tb_49
theorem k_Tb_50 : (.selects "VolumeTurner$Table" y_Tb_slotsOfCluster y_Tb_slotsOfCluster) ∈ V_Tb := kk_Tb _ j_Tb_50
theorem k_Tb_51 : (.code y_Tb_slotsOfCluster prog_8_method_19_code 1 (some .int)) ∈ V_Tb := kk_Tb _ j_Tb_51
theorem k_Tb_52 : (.instanceMethod y_Tb_slotPlace) ∈ V_Tb := kk_Tb _ j_Tb_52
theorem k_Tb_53 : (.selects "VolumeTurner$Table" y_Tb_slotPlace y_Tb_slotPlace) ∈ V_Tb := kk_Tb _ j_Tb_53
theorem k_Tb_54 : (.code y_Tb_slotPlace prog_8_method_20_code 4 (some .int)) ∈ V_Tb := kk_Tb _ j_Tb_54
theorem k_Tb_55 : (.methodLink "VolumeTurner$Table" 97 y_Tb_slotsOfCluster) ∈ V_Tb := kk_Tb _ j_Tb_55
theorem k_Tb_56 : (.methodLink "VolumeTurner$Table" 101 y_Tb_place) ∈ V_Tb := kk_Tb _ j_Tb_56
theorem k_Tb_57 : (.instanceMethod y_Tb_place) ∈ V_Tb := kk_Tb _ j_Tb_57
theorem k_Tb_58 : (.selects "VolumeTurner$Table" y_Tb_place y_Tb_place) ∈ V_Tb := kk_Tb _ j_Tb_58
theorem k_Tb_59 : (.code y_Tb_place prog_8_method_21_code 2 (some .int)) ∈ V_Tb := kk_Tb _ j_Tb_59
theorem k_Tb_60 : (.instanceMethod y_Tb_clusterBytes) ∈ V_Tb := kk_Tb _ j_Tb_60
theorem k_Tb_61 : (.selects "VolumeTurner$Table" y_Tb_clusterBytes y_Tb_clusterBytes) ∈ V_Tb := kk_Tb _ j_Tb_61
theorem k_Tb_62 : (.code y_Tb_clusterBytes prog_8_method_18_code 1 (some .int)) ∈ V_Tb := kk_Tb _ j_Tb_62
theorem k_Tb_63 : (.instanceMethod y_Tb_isFree) ∈ V_Tb := kk_Tb _ j_Tb_63
theorem k_Tb_64 : (.selects "VolumeTurner$Table" y_Tb_isFree y_Tb_isFree) ∈ V_Tb := kk_Tb _ j_Tb_64
theorem k_Tb_65 : (.code y_Tb_isFree prog_8_method_16_code 2 (some .boolean)) ∈ V_Tb := kk_Tb _ j_Tb_65
theorem k_Tb_66 : (.instanceMethod y_Tb_shows) ∈ V_Tb := kk_Tb _ j_Tb_66
theorem k_Tb_67 : (.selects "VolumeTurner$Table" y_Tb_shows y_Tb_shows) ∈ V_Tb := kk_Tb _ j_Tb_67
theorem k_Tb_68 : (.code y_Tb_shows prog_8_method_17_code 2 (some .boolean)) ∈ V_Tb := kk_Tb _ j_Tb_68
theorem k_Tb_69 : (.methodLink "VolumeTurner$Table" 94 y_Tb_nextOf) ∈ V_Tb := kk_Tb _ j_Tb_69
theorem k_Tb_70 : (.instanceMethod y_Tb_setGoal) ∈ V_Tb := kk_Tb _ j_Tb_70
theorem k_Tb_71 : (.selects "VolumeTurner$Table" y_Tb_setGoal y_Tb_setGoal) ∈ V_Tb := kk_Tb _ j_Tb_71
theorem k_Tb_72 : (.code y_Tb_setGoal prog_8_method_14_code 3 none) ∈ V_Tb := kk_Tb _ j_Tb_72
theorem k_Tb_73 : (.instanceMethod y_Tb_hasCluster) ∈ V_Tb := kk_Tb _ j_Tb_73
theorem k_Tb_74 : (.selects "VolumeTurner$Table" y_Tb_hasCluster y_Tb_hasCluster) ∈ V_Tb := kk_Tb _ j_Tb_74
theorem k_Tb_75 : (.code y_Tb_hasCluster prog_8_method_12_code 2 (some .boolean)) ∈ V_Tb := kk_Tb _ j_Tb_75
theorem k_Tb_76 : (.instanceMethod y_Tb_leastLength) ∈ V_Tb := kk_Tb _ j_Tb_76
theorem k_Tb_77 : (.selects "VolumeTurner$Table" y_Tb_leastLength y_Tb_leastLength) ∈ V_Tb := kk_Tb _ j_Tb_77
theorem k_Tb_78 : (.code y_Tb_leastLength prog_8_method_5_code 5 (some .int)) ∈ V_Tb := kk_Tb _ j_Tb_78
theorem k_Tb_79 : (.instanceMethod y_Tb_writeFirstSectors) ∈ V_Tb := kk_Tb _ j_Tb_79
theorem k_Tb_80 : (.selects "VolumeTurner$Table" y_Tb_writeFirstSectors y_Tb_writeFirstSectors) ∈ V_Tb := kk_Tb _ j_Tb_80
theorem k_Tb_81 : (.code y_Tb_writeFirstSectors prog_8_method_6_code 8 none) ∈ V_Tb := kk_Tb _ j_Tb_81
theorem k_Tb_82 : (.methodLink "VolumeTurner$Table" 61 y_Dk_putOne) ∈ V_Tb := kk_Tb _ j_Tb_82
theorem k_Tb_83 : (.methodLink "VolumeTurner$Table" 65 y_Dk_putTwo) ∈ V_Tb := kk_Tb _ j_Tb_83
theorem k_Tb_84 : (.methodLink "VolumeTurner$Table" 68 y_Dk_putFour) ∈ V_Tb := kk_Tb _ j_Tb_84
theorem k_Tb_85 : (.constant "VolumeTurner$Table" 72 (1096897106 : Int32)) ∈ V_Tb := kk_Tb _ j_Tb_85
theorem k_Tb_86 : (.constant "VolumeTurner$Table" 73 (1631679090 : Int32)) ∈ V_Tb := kk_Tb _ j_Tb_86
theorem k_Tb_87 : (.constant "VolumeTurner$Table" 74 (-1437270016 : Int32)) ∈ V_Tb := kk_Tb _ j_Tb_87
theorem k_Tb_88 : (.instanceMethod y_Tb_startTables) ∈ V_Tb := kk_Tb _ j_Tb_88
theorem k_Tb_89 : (.selects "VolumeTurner$Table" y_Tb_startTables y_Tb_startTables) ∈ V_Tb := kk_Tb _ j_Tb_89
theorem k_Tb_90 : (.code y_Tb_startTables prog_8_method_7_code 1 none) ∈ V_Tb := kk_Tb _ j_Tb_90
theorem k_Tb_91 : (.methodLink "VolumeTurner$Table" 76 y_Tb_link) ∈ V_Tb := kk_Tb _ j_Tb_91
theorem k_Tb_92 : (.instanceMethod y_Tb_link) ∈ V_Tb := kk_Tb _ j_Tb_92
theorem k_Tb_93 : (.selects "VolumeTurner$Table" y_Tb_link y_Tb_link) ∈ V_Tb := kk_Tb _ j_Tb_93
theorem k_Tb_94 : (.code y_Tb_link prog_8_method_23_code 5 none) ∈ V_Tb := kk_Tb _ j_Tb_94
theorem k_Tb_95 : (.constant "VolumeTurner$Table" 108 (-268435456 : Int32)) ∈ V_Tb := kk_Tb _ j_Tb_95
theorem k_Tb_96 : (.instanceMethod y_Tb_road) ∈ V_Tb := kk_Tb _ j_Tb_96
theorem k_Tb_97 : (.selects "VolumeTurner$Table" y_Tb_road y_Tb_road) ∈ V_Tb := kk_Tb _ j_Tb_97
theorem k_Tb_98 : (.code y_Tb_road prog_8_method_22_code 5 (some .int)) ∈ V_Tb := kk_Tb _ j_Tb_98
theorem k_Tb_99 : (.methodLink "VolumeTurner$Table" 104 y_Tb_hasCluster) ∈ V_Tb := kk_Tb _ j_Tb_99
theorem k_Tb_100 : (.instanceMethod y_Tb_countFree) ∈ V_Tb := kk_Tb _ j_Tb_100
theorem k_Tb_101 : (.selects "VolumeTurner$Table" y_Tb_countFree y_Tb_countFree) ∈ V_Tb := kk_Tb _ j_Tb_101
theorem k_Tb_102 : (.code y_Tb_countFree prog_8_method_24_code 3 (some .int)) ∈ V_Tb := kk_Tb _ j_Tb_102
theorem k_Tb_103 : (.methodLink "VolumeTurner$Table" 109 y_Tb_isFree) ∈ V_Tb := kk_Tb _ j_Tb_103
theorem k_Tb_104 : (.instanceMethod y_Tb_takeFree) ∈ V_Tb := kk_Tb _ j_Tb_104
theorem k_Tb_105 : (.selects "VolumeTurner$Table" y_Tb_takeFree y_Tb_takeFree) ∈ V_Tb := kk_Tb _ j_Tb_105
theorem k_Tb_106 : (.code y_Tb_takeFree prog_8_method_25_code 2 (some .int)) ∈ V_Tb := kk_Tb _ j_Tb_106
theorem k_Tb_107 : (.methodLink "VolumeTurner$Table" 112 y_Tb_clusterBytes) ∈ V_Tb := kk_Tb _ j_Tb_107
theorem k_Tb_108 : (.methodLink "VolumeTurner$Table" 115 y_Dk_zero) ∈ V_Tb := kk_Tb _ j_Tb_108
theorem k_Tb_109 : (.selects "VolumeTurner$Table" y_Tb_clustersWith y_Tb_clustersWith) ∈ V_Tb := kk_Tb _ j_Tb_109
theorem k_Tb_110 : (.selects "VolumeTurner$Table" y_Tb_constantsFit y_Tb_constantsFit) ∈ V_Tb := kk_Tb _ j_Tb_110
theorem gk_Tb : ∀ w ∈ w_Tb ++ K_Tb, goodWord w = true := List.all_eq_true.mp (by decide +kernel)
theorem good_Tb : GoodIn V_Tb V_Tb := fun w h => by
  refine ⟨h, ?_⟩
  rcases List.mem_append.mp h with q | q
  · exact good_of_word (gk_Tb w (List.mem_append_left _ q))
  · rcases List.mem_append.mp q with q | q
    · exact good_of_word (gk_Tb w (List.mem_append_right _ q))
    · exact (good_Tp w q).2
