abbrev b_Tr_init : ByteArray := prog_10_method_1_code
def y_Tr_init : MethodName := ⟨R_Tr, "<init>", "()V"⟩
theorem d_Tr_init_0 : decode b_Tr_init 0 = .ok (.aload_n 0, 1) := by decide +kernel
theorem d_Tr_init_1 : decode b_Tr_init 1 = .ok (.invokespecial 3, 3) := by decide +kernel
theorem d_Tr_init_4 : decode b_Tr_init 4 = .ok (.aload_n 0, 1) := by decide +kernel
theorem d_Tr_init_5 : decode b_Tr_init 5 = .ok (.iconst 0, 1) := by decide +kernel
theorem d_Tr_init_6 : decode b_Tr_init 6 = .ok (.putfield 9, 3) := by decide +kernel
theorem d_Tr_init_9 : decode b_Tr_init 9 = .ok (.aload_n 0, 1) := by decide +kernel
theorem d_Tr_init_10 : decode b_Tr_init 10 = .ok (.iconst (-1), 1) := by decide +kernel
theorem d_Tr_init_11 : decode b_Tr_init 11 = .ok (.putfield 15, 3) := by decide +kernel
theorem d_Tr_init_14 : decode b_Tr_init 14 = .ok (.aload_n 0, 1) := by decide +kernel
theorem d_Tr_init_15 : decode b_Tr_init 15 = .ok (.bipush 64, 2) := by decide +kernel
theorem d_Tr_init_17 : decode b_Tr_init 17 = .ok (.newarray .int, 2) := by decide +kernel
theorem d_Tr_init_19 : decode b_Tr_init 19 = .ok (.putfield 18, 3) := by decide +kernel
theorem d_Tr_init_22 : decode b_Tr_init 22 = .ok (.aload_n 0, 1) := by decide +kernel
theorem d_Tr_init_23 : decode b_Tr_init 23 = .ok (.bipush 64, 2) := by decide +kernel
theorem d_Tr_init_25 : decode b_Tr_init 25 = .ok (.newarray .int, 2) := by decide +kernel
theorem d_Tr_init_27 : decode b_Tr_init 27 = .ok (.putfield 22, 3) := by decide +kernel
theorem d_Tr_init_30 : decode b_Tr_init 30 = .ok (.aload_n 0, 1) := by decide +kernel
theorem d_Tr_init_31 : decode b_Tr_init 31 = .ok (.bipush 64, 2) := by decide +kernel
theorem d_Tr_init_33 : decode b_Tr_init 33 = .ok (.newarray .int, 2) := by decide +kernel
theorem d_Tr_init_35 : decode b_Tr_init 35 = .ok (.putfield 25, 3) := by decide +kernel
theorem d_Tr_init_38 : decode b_Tr_init 38 = .ok (.aload_n 0, 1) := by decide +kernel
theorem d_Tr_init_39 : decode b_Tr_init 39 = .ok (.bipush 64, 2) := by decide +kernel
theorem d_Tr_init_41 : decode b_Tr_init 41 = .ok (.newarray .int, 2) := by decide +kernel
theorem d_Tr_init_43 : decode b_Tr_init 43 = .ok (.putfield 28, 3) := by decide +kernel
theorem d_Tr_init_46 : decode b_Tr_init 46 = .ok (.aload_n 0, 1) := by decide +kernel
theorem d_Tr_init_47 : decode b_Tr_init 47 = .ok (.bipush 64, 2) := by decide +kernel
theorem d_Tr_init_49 : decode b_Tr_init 49 = .ok (.newarray .int, 2) := by decide +kernel
theorem d_Tr_init_51 : decode b_Tr_init 51 = .ok (.putfield 31, 3) := by decide +kernel
theorem d_Tr_init_54 : decode b_Tr_init 54 = .ok (.aload_n 0, 1) := by decide +kernel
theorem d_Tr_init_55 : decode b_Tr_init 55 = .ok (.bipush 64, 2) := by decide +kernel
theorem d_Tr_init_57 : decode b_Tr_init 57 = .ok (.newarray .int, 2) := by decide +kernel
theorem d_Tr_init_59 : decode b_Tr_init 59 = .ok (.putfield 34, 3) := by decide +kernel
theorem d_Tr_init_62 : decode b_Tr_init 62 = .ok (.aload_n 0, 1) := by decide +kernel
theorem d_Tr_init_63 : decode b_Tr_init 63 = .ok (.bipush 64, 2) := by decide +kernel
theorem d_Tr_init_65 : decode b_Tr_init 65 = .ok (.newarray .int, 2) := by decide +kernel
theorem d_Tr_init_67 : decode b_Tr_init 67 = .ok (.putfield 37, 3) := by decide +kernel
theorem d_Tr_init_70 : decode b_Tr_init 70 = .ok (.aload_n 0, 1) := by decide +kernel
theorem d_Tr_init_71 : decode b_Tr_init 71 = .ok (.bipush 64, 2) := by decide +kernel
theorem d_Tr_init_73 : decode b_Tr_init 73 = .ok (.newarray .int, 2) := by decide +kernel
theorem d_Tr_init_75 : decode b_Tr_init 75 = .ok (.putfield 40, 3) := by decide +kernel
theorem d_Tr_init_78 : decode b_Tr_init 78 = .ok (.aload_n 0, 1) := by decide +kernel
theorem d_Tr_init_79 : decode b_Tr_init 79 = .ok (.bipush 64, 2) := by decide +kernel
theorem d_Tr_init_81 : decode b_Tr_init 81 = .ok (.newarray .int, 2) := by decide +kernel
theorem d_Tr_init_83 : decode b_Tr_init 83 = .ok (.putfield 43, 3) := by decide +kernel
theorem d_Tr_init_86 : decode b_Tr_init 86 = .ok (.aload_n 0, 1) := by decide +kernel
theorem d_Tr_init_87 : decode b_Tr_init 87 = .ok (.bipush 64, 2) := by decide +kernel
theorem d_Tr_init_89 : decode b_Tr_init 89 = .ok (.newarray .int, 2) := by decide +kernel
theorem d_Tr_init_91 : decode b_Tr_init 91 = .ok (.putfield 46, 3) := by decide +kernel
theorem d_Tr_init_94 : decode b_Tr_init 94 = .ok (.aload_n 0, 1) := by decide +kernel
theorem d_Tr_init_95 : decode b_Tr_init 95 = .ok (.bipush 64, 2) := by decide +kernel
theorem d_Tr_init_97 : decode b_Tr_init 97 = .ok (.newarray .int, 2) := by decide +kernel
theorem d_Tr_init_99 : decode b_Tr_init 99 = .ok (.putfield 49, 3) := by decide +kernel
theorem d_Tr_init_102 : decode b_Tr_init 102 = .ok (.aload_n 0, 1) := by decide +kernel
theorem d_Tr_init_103 : decode b_Tr_init 103 = .ok (.bipush 64, 2) := by decide +kernel
theorem d_Tr_init_105 : decode b_Tr_init 105 = .ok (.newarray .int, 2) := by decide +kernel
theorem d_Tr_init_107 : decode b_Tr_init 107 = .ok (.putfield 52, 3) := by decide +kernel
theorem d_Tr_init_110 : decode b_Tr_init 110 = .ok (.aload_n 0, 1) := by decide +kernel
theorem d_Tr_init_111 : decode b_Tr_init 111 = .ok (.bipush 64, 2) := by decide +kernel
theorem d_Tr_init_113 : decode b_Tr_init 113 = .ok (.newarray .int, 2) := by decide +kernel
theorem d_Tr_init_115 : decode b_Tr_init 115 = .ok (.putfield 55, 3) := by decide +kernel
theorem d_Tr_init_118 : decode b_Tr_init 118 = .ok (.aload_n 0, 1) := by decide +kernel
theorem d_Tr_init_119 : decode b_Tr_init 119 = .ok (.bipush 64, 2) := by decide +kernel
theorem d_Tr_init_121 : decode b_Tr_init 121 = .ok (.newarray .int, 2) := by decide +kernel
theorem d_Tr_init_123 : decode b_Tr_init 123 = .ok (.putfield 58, 3) := by decide +kernel
theorem d_Tr_init_126 : decode b_Tr_init 126 = .ok (.aload_n 0, 1) := by decide +kernel
theorem d_Tr_init_127 : decode b_Tr_init 127 = .ok (.sipush 1024, 3) := by decide +kernel
theorem d_Tr_init_130 : decode b_Tr_init 130 = .ok (.newarray .int, 2) := by decide +kernel
theorem d_Tr_init_132 : decode b_Tr_init 132 = .ok (.putfield 61, 3) := by decide +kernel
theorem d_Tr_init_135 : decode b_Tr_init 135 = .ok (.aload_n 0, 1) := by decide +kernel
theorem d_Tr_init_136 : decode b_Tr_init 136 = .ok (.iconst 0, 1) := by decide +kernel
theorem d_Tr_init_137 : decode b_Tr_init 137 = .ok (.putfield 64, 3) := by decide +kernel
theorem d_Tr_init_140 : decode b_Tr_init 140 = .ok (.return_, 1) := by decide +kernel
abbrev cb_Tr_startWith : ByteArray := prog_10_method_2_code
def y_Tr_startWith : MethodName := ⟨R_Tr, "startWith", "(I)V"⟩
theorem d_Tr_startWith_0 : decode cb_Tr_startWith 0 = .ok (.aload_n 0, 1) := by decide +kernel
theorem d_Tr_startWith_1 : decode cb_Tr_startWith 1 = .ok (.iconst 0, 1) := by decide +kernel
theorem d_Tr_startWith_2 : decode cb_Tr_startWith 2 = .ok (.putfield 9, 3) := by decide +kernel
theorem d_Tr_startWith_5 : decode cb_Tr_startWith 5 = .ok (.aload_n 0, 1) := by decide +kernel
theorem d_Tr_startWith_6 : decode cb_Tr_startWith 6 = .ok (.iconst 0, 1) := by decide +kernel
theorem d_Tr_startWith_7 : decode cb_Tr_startWith 7 = .ok (.putfield 64, 3) := by decide +kernel
theorem d_Tr_startWith_10 : decode cb_Tr_startWith 10 = .ok (.aload_n 0, 1) := by decide +kernel
theorem d_Tr_startWith_11 : decode cb_Tr_startWith 11 = .ok (.iconst (-1), 1) := by decide +kernel
theorem d_Tr_startWith_12 : decode cb_Tr_startWith 12 = .ok (.putfield 15, 3) := by decide +kernel
theorem d_Tr_startWith_15 : decode cb_Tr_startWith 15 = .ok (.aload_n 0, 1) := by decide +kernel
theorem d_Tr_startWith_16 : decode cb_Tr_startWith 16 = .ok (.aload_n 0, 1) := by decide +kernel
theorem d_Tr_startWith_17 : decode cb_Tr_startWith 17 = .ok (.iconst 0, 1) := by decide +kernel
theorem d_Tr_startWith_18 : decode cb_Tr_startWith 18 = .ok (.bipush 16, 2) := by decide +kernel
theorem d_Tr_startWith_20 : decode cb_Tr_startWith 20 = .ok (.invokevirtual 67, 3) := by decide +kernel
theorem d_Tr_startWith_23 : decode cb_Tr_startWith 23 = .ok (.iload_n 1, 1) := by decide +kernel
theorem d_Tr_startWith_24 : decode cb_Tr_startWith 24 = .ok (.iconst 0, 1) := by decide +kernel
theorem d_Tr_startWith_25 : decode cb_Tr_startWith 25 = .ok (.iconst 0, 1) := by decide +kernel
theorem d_Tr_startWith_26 : decode cb_Tr_startWith 26 = .ok (.iconst 0, 1) := by decide +kernel
theorem d_Tr_startWith_27 : decode cb_Tr_startWith 27 = .ok (.invokevirtual 71, 3) := by decide +kernel
theorem d_Tr_startWith_30 : decode cb_Tr_startWith 30 = .ok (.return_, 1) := by decide +kernel
abbrev cb_Tr_addItem : ByteArray := prog_10_method_3_code
def y_Tr_addItem : MethodName := ⟨R_Tr, "addItem", "(II)I"⟩
theorem d_Tr_addItem_0 : decode cb_Tr_addItem 0 = .ok (.aload_n 0, 1) := by decide +kernel
theorem d_Tr_addItem_1 : decode cb_Tr_addItem 1 = .ok (.getfield 9, 3) := by decide +kernel
theorem d_Tr_addItem_4 : decode cb_Tr_addItem 4 = .ok (.aload_n 0, 1) := by decide +kernel
theorem d_Tr_addItem_5 : decode cb_Tr_addItem 5 = .ok (.getfield 18, 3) := by decide +kernel
theorem d_Tr_addItem_8 : decode cb_Tr_addItem 8 = .ok (.arraylength, 1) := by decide +kernel
theorem d_Tr_addItem_9 : decode cb_Tr_addItem 9 = .ok (.if_icmp .lt 13, 3) := by decide +kernel
theorem d_Tr_addItem_12 : decode cb_Tr_addItem 12 = .ok (.aload_n 0, 1) := by decide +kernel
theorem d_Tr_addItem_13 : decode cb_Tr_addItem 13 = .ok (.iconst 2, 1) := by decide +kernel
theorem d_Tr_addItem_14 : decode cb_Tr_addItem 14 = .ok (.aload_n 0, 1) := by decide +kernel
theorem d_Tr_addItem_15 : decode cb_Tr_addItem 15 = .ok (.getfield 9, 3) := by decide +kernel
theorem d_Tr_addItem_18 : decode cb_Tr_addItem 18 = .ok (.imul, 1) := by decide +kernel
theorem d_Tr_addItem_19 : decode cb_Tr_addItem 19 = .ok (.invokevirtual 75, 3) := by decide +kernel
theorem d_Tr_addItem_22 : decode cb_Tr_addItem 22 = .ok (.aload_n 0, 1) := by decide +kernel
theorem d_Tr_addItem_23 : decode cb_Tr_addItem 23 = .ok (.getfield 9, 3) := by decide +kernel
theorem d_Tr_addItem_26 : decode cb_Tr_addItem 26 = .ok (.istore_n 3, 1) := by decide +kernel
theorem d_Tr_addItem_27 : decode cb_Tr_addItem 27 = .ok (.aload_n 0, 1) := by decide +kernel
theorem d_Tr_addItem_28 : decode cb_Tr_addItem 28 = .ok (.dup, 1) := by decide +kernel
theorem d_Tr_addItem_29 : decode cb_Tr_addItem 29 = .ok (.getfield 9, 3) := by decide +kernel
theorem d_Tr_addItem_32 : decode cb_Tr_addItem 32 = .ok (.iconst 1, 1) := by decide +kernel
theorem d_Tr_addItem_33 : decode cb_Tr_addItem 33 = .ok (.iadd, 1) := by decide +kernel
theorem d_Tr_addItem_34 : decode cb_Tr_addItem 34 = .ok (.putfield 9, 3) := by decide +kernel
theorem d_Tr_addItem_37 : decode cb_Tr_addItem 37 = .ok (.aload_n 0, 1) := by decide +kernel
theorem d_Tr_addItem_38 : decode cb_Tr_addItem 38 = .ok (.getfield 18, 3) := by decide +kernel
theorem d_Tr_addItem_41 : decode cb_Tr_addItem 41 = .ok (.iload_n 3, 1) := by decide +kernel
theorem d_Tr_addItem_42 : decode cb_Tr_addItem 42 = .ok (.iload_n 1, 1) := by decide +kernel
theorem d_Tr_addItem_43 : decode cb_Tr_addItem 43 = .ok (.iastore, 1) := by decide +kernel
theorem d_Tr_addItem_44 : decode cb_Tr_addItem 44 = .ok (.aload_n 0, 1) := by decide +kernel
theorem d_Tr_addItem_45 : decode cb_Tr_addItem 45 = .ok (.getfield 28, 3) := by decide +kernel
theorem d_Tr_addItem_48 : decode cb_Tr_addItem 48 = .ok (.iload_n 3, 1) := by decide +kernel
theorem d_Tr_addItem_49 : decode cb_Tr_addItem 49 = .ok (.iload_n 2, 1) := by decide +kernel
theorem d_Tr_addItem_50 : decode cb_Tr_addItem 50 = .ok (.iastore, 1) := by decide +kernel
theorem d_Tr_addItem_51 : decode cb_Tr_addItem 51 = .ok (.aload_n 0, 1) := by decide +kernel
theorem d_Tr_addItem_52 : decode cb_Tr_addItem 52 = .ok (.getfield 25, 3) := by decide +kernel
theorem d_Tr_addItem_55 : decode cb_Tr_addItem 55 = .ok (.iload_n 3, 1) := by decide +kernel
theorem d_Tr_addItem_56 : decode cb_Tr_addItem 56 = .ok (.iconst 0, 1) := by decide +kernel
theorem d_Tr_addItem_57 : decode cb_Tr_addItem 57 = .ok (.iastore, 1) := by decide +kernel
theorem d_Tr_addItem_58 : decode cb_Tr_addItem 58 = .ok (.aload_n 0, 1) := by decide +kernel
theorem d_Tr_addItem_59 : decode cb_Tr_addItem 59 = .ok (.getfield 40, 3) := by decide +kernel
theorem d_Tr_addItem_62 : decode cb_Tr_addItem 62 = .ok (.iload_n 3, 1) := by decide +kernel
theorem d_Tr_addItem_63 : decode cb_Tr_addItem 63 = .ok (.iconst 0, 1) := by decide +kernel
theorem d_Tr_addItem_64 : decode cb_Tr_addItem 64 = .ok (.iastore, 1) := by decide +kernel
theorem d_Tr_addItem_65 : decode cb_Tr_addItem 65 = .ok (.aload_n 0, 1) := by decide +kernel
theorem d_Tr_addItem_66 : decode cb_Tr_addItem 66 = .ok (.getfield 43, 3) := by decide +kernel
theorem d_Tr_addItem_69 : decode cb_Tr_addItem 69 = .ok (.iload_n 3, 1) := by decide +kernel
theorem d_Tr_addItem_70 : decode cb_Tr_addItem 70 = .ok (.iconst 0, 1) := by decide +kernel
theorem d_Tr_addItem_71 : decode cb_Tr_addItem 71 = .ok (.iastore, 1) := by decide +kernel
theorem d_Tr_addItem_72 : decode cb_Tr_addItem 72 = .ok (.aload_n 0, 1) := by decide +kernel
theorem d_Tr_addItem_73 : decode cb_Tr_addItem 73 = .ok (.getfield 55, 3) := by decide +kernel
theorem d_Tr_addItem_76 : decode cb_Tr_addItem 76 = .ok (.iload_n 3, 1) := by decide +kernel
theorem d_Tr_addItem_77 : decode cb_Tr_addItem 77 = .ok (.iconst 0, 1) := by decide +kernel
theorem d_Tr_addItem_78 : decode cb_Tr_addItem 78 = .ok (.iastore, 1) := by decide +kernel
theorem d_Tr_addItem_79 : decode cb_Tr_addItem 79 = .ok (.aload_n 0, 1) := by decide +kernel
theorem d_Tr_addItem_80 : decode cb_Tr_addItem 80 = .ok (.getfield 58, 3) := by decide +kernel
theorem d_Tr_addItem_83 : decode cb_Tr_addItem 83 = .ok (.iload_n 3, 1) := by decide +kernel
theorem d_Tr_addItem_84 : decode cb_Tr_addItem 84 = .ok (.iconst 0, 1) := by decide +kernel
theorem d_Tr_addItem_85 : decode cb_Tr_addItem 85 = .ok (.iastore, 1) := by decide +kernel
theorem d_Tr_addItem_86 : decode cb_Tr_addItem 86 = .ok (.aload_n 0, 1) := by decide +kernel
theorem d_Tr_addItem_87 : decode cb_Tr_addItem 87 = .ok (.getfield 46, 3) := by decide +kernel
theorem d_Tr_addItem_90 : decode cb_Tr_addItem 90 = .ok (.iload_n 3, 1) := by decide +kernel
theorem d_Tr_addItem_91 : decode cb_Tr_addItem 91 = .ok (.aload_n 0, 1) := by decide +kernel
theorem d_Tr_addItem_92 : decode cb_Tr_addItem 92 = .ok (.getfield 64, 3) := by decide +kernel
theorem d_Tr_addItem_95 : decode cb_Tr_addItem 95 = .ok (.iastore, 1) := by decide +kernel
theorem d_Tr_addItem_96 : decode cb_Tr_addItem 96 = .ok (.aload_n 0, 1) := by decide +kernel
theorem d_Tr_addItem_97 : decode cb_Tr_addItem 97 = .ok (.getfield 49, 3) := by decide +kernel
theorem d_Tr_addItem_100 : decode cb_Tr_addItem 100 = .ok (.iload_n 3, 1) := by decide +kernel
theorem d_Tr_addItem_101 : decode cb_Tr_addItem 101 = .ok (.iconst 0, 1) := by decide +kernel
theorem d_Tr_addItem_102 : decode cb_Tr_addItem 102 = .ok (.iastore, 1) := by decide +kernel
theorem d_Tr_addItem_103 : decode cb_Tr_addItem 103 = .ok (.aload_n 0, 1) := by decide +kernel
theorem d_Tr_addItem_104 : decode cb_Tr_addItem 104 = .ok (.getfield 52, 3) := by decide +kernel
theorem d_Tr_addItem_107 : decode cb_Tr_addItem 107 = .ok (.iload_n 3, 1) := by decide +kernel
theorem d_Tr_addItem_108 : decode cb_Tr_addItem 108 = .ok (.iconst 0, 1) := by decide +kernel
theorem d_Tr_addItem_109 : decode cb_Tr_addItem 109 = .ok (.iastore, 1) := by decide +kernel
theorem d_Tr_addItem_110 : decode cb_Tr_addItem 110 = .ok (.iload_n 3, 1) := by decide +kernel
theorem d_Tr_addItem_111 : decode cb_Tr_addItem 111 = .ok (.ireturn, 1) := by decide +kernel
abbrev cb_Tr_place : ByteArray := prog_10_method_4_code
def y_Tr_place : MethodName := ⟨R_Tr, "place", "(IIIII)V"⟩
theorem d_Tr_place_0 : decode cb_Tr_place 0 = .ok (.aload_n 0, 1) := by decide +kernel
theorem d_Tr_place_1 : decode cb_Tr_place 1 = .ok (.iload_n 1, 1) := by decide +kernel
theorem d_Tr_place_2 : decode cb_Tr_place 2 = .ok (.invokevirtual 79, 3) := by decide +kernel
theorem d_Tr_place_5 : decode cb_Tr_place 5 = .ok (.ifCond .eq 33, 3) := by decide +kernel
theorem d_Tr_place_8 : decode cb_Tr_place 8 = .ok (.aload_n 0, 1) := by decide +kernel
theorem d_Tr_place_9 : decode cb_Tr_place 9 = .ok (.getfield 22, 3) := by decide +kernel
theorem d_Tr_place_12 : decode cb_Tr_place 12 = .ok (.iload_n 1, 1) := by decide +kernel
theorem d_Tr_place_13 : decode cb_Tr_place 13 = .ok (.iload_n 2, 1) := by decide +kernel
theorem d_Tr_place_14 : decode cb_Tr_place 14 = .ok (.iastore, 1) := by decide +kernel
theorem d_Tr_place_15 : decode cb_Tr_place 15 = .ok (.aload_n 0, 1) := by decide +kernel
theorem d_Tr_place_16 : decode cb_Tr_place 16 = .ok (.getfield 31, 3) := by decide +kernel
theorem d_Tr_place_19 : decode cb_Tr_place 19 = .ok (.iload_n 1, 1) := by decide +kernel
theorem d_Tr_place_20 : decode cb_Tr_place 20 = .ok (.iload_n 3, 1) := by decide +kernel
theorem d_Tr_place_21 : decode cb_Tr_place 21 = .ok (.iastore, 1) := by decide +kernel
theorem d_Tr_place_22 : decode cb_Tr_place 22 = .ok (.aload_n 0, 1) := by decide +kernel
theorem d_Tr_place_23 : decode cb_Tr_place 23 = .ok (.getfield 34, 3) := by decide +kernel
theorem d_Tr_place_26 : decode cb_Tr_place 26 = .ok (.iload_n 1, 1) := by decide +kernel
theorem d_Tr_place_27 : decode cb_Tr_place 27 = .ok (.iload 4, 2) := by decide +kernel
theorem d_Tr_place_29 : decode cb_Tr_place 29 = .ok (.iastore, 1) := by decide +kernel
theorem d_Tr_place_30 : decode cb_Tr_place 30 = .ok (.aload_n 0, 1) := by decide +kernel
theorem d_Tr_place_31 : decode cb_Tr_place 31 = .ok (.getfield 37, 3) := by decide +kernel
theorem d_Tr_place_34 : decode cb_Tr_place 34 = .ok (.iload_n 1, 1) := by decide +kernel
theorem d_Tr_place_35 : decode cb_Tr_place 35 = .ok (.iload 5, 2) := by decide +kernel
theorem d_Tr_place_37 : decode cb_Tr_place 37 = .ok (.iastore, 1) := by decide +kernel
theorem d_Tr_place_38 : decode cb_Tr_place 38 = .ok (.return_, 1) := by decide +kernel
abbrev cb_Tr_setSize : ByteArray := prog_10_method_5_code
def y_Tr_setSize : MethodName := ⟨R_Tr, "setSize", "(II)V"⟩
theorem d_Tr_setSize_0 : decode cb_Tr_setSize 0 = .ok (.aload_n 0, 1) := by decide +kernel
theorem d_Tr_setSize_1 : decode cb_Tr_setSize 1 = .ok (.iload_n 1, 1) := by decide +kernel
theorem d_Tr_setSize_2 : decode cb_Tr_setSize 2 = .ok (.invokevirtual 79, 3) := by decide +kernel
theorem d_Tr_setSize_5 : decode cb_Tr_setSize 5 = .ok (.ifCond .eq 10, 3) := by decide +kernel
theorem d_Tr_setSize_8 : decode cb_Tr_setSize 8 = .ok (.aload_n 0, 1) := by decide +kernel
theorem d_Tr_setSize_9 : decode cb_Tr_setSize 9 = .ok (.getfield 25, 3) := by decide +kernel
theorem d_Tr_setSize_12 : decode cb_Tr_setSize 12 = .ok (.iload_n 1, 1) := by decide +kernel
theorem d_Tr_setSize_13 : decode cb_Tr_setSize 13 = .ok (.iload_n 2, 1) := by decide +kernel
theorem d_Tr_setSize_14 : decode cb_Tr_setSize 14 = .ok (.iastore, 1) := by decide +kernel
theorem d_Tr_setSize_15 : decode cb_Tr_setSize 15 = .ok (.return_, 1) := by decide +kernel
abbrev cb_Tr_setBuilt : ByteArray := prog_10_method_6_code
def y_Tr_setBuilt : MethodName := ⟨R_Tr, "setBuilt", "(III)V"⟩
theorem d_Tr_setBuilt_0 : decode cb_Tr_setBuilt 0 = .ok (.aload_n 0, 1) := by decide +kernel
theorem d_Tr_setBuilt_1 : decode cb_Tr_setBuilt 1 = .ok (.iload_n 1, 1) := by decide +kernel
theorem d_Tr_setBuilt_2 : decode cb_Tr_setBuilt 2 = .ok (.invokevirtual 79, 3) := by decide +kernel
theorem d_Tr_setBuilt_5 : decode cb_Tr_setBuilt 5 = .ok (.ifCond .eq 17, 3) := by decide +kernel
theorem d_Tr_setBuilt_8 : decode cb_Tr_setBuilt 8 = .ok (.aload_n 0, 1) := by decide +kernel
theorem d_Tr_setBuilt_9 : decode cb_Tr_setBuilt 9 = .ok (.getfield 55, 3) := by decide +kernel
theorem d_Tr_setBuilt_12 : decode cb_Tr_setBuilt 12 = .ok (.iload_n 1, 1) := by decide +kernel
theorem d_Tr_setBuilt_13 : decode cb_Tr_setBuilt 13 = .ok (.iload_n 2, 1) := by decide +kernel
theorem d_Tr_setBuilt_14 : decode cb_Tr_setBuilt 14 = .ok (.iastore, 1) := by decide +kernel
theorem d_Tr_setBuilt_15 : decode cb_Tr_setBuilt 15 = .ok (.aload_n 0, 1) := by decide +kernel
theorem d_Tr_setBuilt_16 : decode cb_Tr_setBuilt 16 = .ok (.getfield 58, 3) := by decide +kernel
theorem d_Tr_setBuilt_19 : decode cb_Tr_setBuilt 19 = .ok (.iload_n 1, 1) := by decide +kernel
theorem d_Tr_setBuilt_20 : decode cb_Tr_setBuilt 20 = .ok (.iload_n 3, 1) := by decide +kernel
theorem d_Tr_setBuilt_21 : decode cb_Tr_setBuilt 21 = .ok (.iastore, 1) := by decide +kernel
theorem d_Tr_setBuilt_22 : decode cb_Tr_setBuilt 22 = .ok (.return_, 1) := by decide +kernel
abbrev cb_Tr_widen : ByteArray := prog_10_method_7_code
def y_Tr_widen : MethodName := ⟨R_Tr, "widen", "(I)V"⟩
theorem d_Tr_widen_0 : decode cb_Tr_widen 0 = .ok (.aload_n 0, 1) := by decide +kernel
theorem d_Tr_widen_1 : decode cb_Tr_widen 1 = .ok (.aload_n 0, 1) := by decide +kernel
theorem d_Tr_widen_2 : decode cb_Tr_widen 2 = .ok (.getfield 18, 3) := by decide +kernel
theorem d_Tr_widen_5 : decode cb_Tr_widen 5 = .ok (.iload_n 1, 1) := by decide +kernel
theorem d_Tr_widen_6 : decode cb_Tr_widen 6 = .ok (.invokestatic 83, 3) := by decide +kernel
theorem d_Tr_widen_9 : decode cb_Tr_widen 9 = .ok (.putfield 18, 3) := by decide +kernel
theorem d_Tr_widen_12 : decode cb_Tr_widen 12 = .ok (.aload_n 0, 1) := by decide +kernel
theorem d_Tr_widen_13 : decode cb_Tr_widen 13 = .ok (.aload_n 0, 1) := by decide +kernel
theorem d_Tr_widen_14 : decode cb_Tr_widen 14 = .ok (.getfield 22, 3) := by decide +kernel
theorem d_Tr_widen_17 : decode cb_Tr_widen 17 = .ok (.iload_n 1, 1) := by decide +kernel
theorem d_Tr_widen_18 : decode cb_Tr_widen 18 = .ok (.invokestatic 83, 3) := by decide +kernel
theorem d_Tr_widen_21 : decode cb_Tr_widen 21 = .ok (.putfield 22, 3) := by decide +kernel
theorem d_Tr_widen_24 : decode cb_Tr_widen 24 = .ok (.aload_n 0, 1) := by decide +kernel
theorem d_Tr_widen_25 : decode cb_Tr_widen 25 = .ok (.aload_n 0, 1) := by decide +kernel
theorem d_Tr_widen_26 : decode cb_Tr_widen 26 = .ok (.getfield 25, 3) := by decide +kernel
theorem d_Tr_widen_29 : decode cb_Tr_widen 29 = .ok (.iload_n 1, 1) := by decide +kernel
theorem d_Tr_widen_30 : decode cb_Tr_widen 30 = .ok (.invokestatic 83, 3) := by decide +kernel
theorem d_Tr_widen_33 : decode cb_Tr_widen 33 = .ok (.putfield 25, 3) := by decide +kernel
theorem d_Tr_widen_36 : decode cb_Tr_widen 36 = .ok (.aload_n 0, 1) := by decide +kernel
theorem d_Tr_widen_37 : decode cb_Tr_widen 37 = .ok (.aload_n 0, 1) := by decide +kernel
theorem d_Tr_widen_38 : decode cb_Tr_widen 38 = .ok (.getfield 28, 3) := by decide +kernel
theorem d_Tr_widen_41 : decode cb_Tr_widen 41 = .ok (.iload_n 1, 1) := by decide +kernel
theorem d_Tr_widen_42 : decode cb_Tr_widen 42 = .ok (.invokestatic 83, 3) := by decide +kernel
theorem d_Tr_widen_45 : decode cb_Tr_widen 45 = .ok (.putfield 28, 3) := by decide +kernel
theorem d_Tr_widen_48 : decode cb_Tr_widen 48 = .ok (.aload_n 0, 1) := by decide +kernel
theorem d_Tr_widen_49 : decode cb_Tr_widen 49 = .ok (.aload_n 0, 1) := by decide +kernel
theorem d_Tr_widen_50 : decode cb_Tr_widen 50 = .ok (.getfield 31, 3) := by decide +kernel
theorem d_Tr_widen_53 : decode cb_Tr_widen 53 = .ok (.iload_n 1, 1) := by decide +kernel
theorem d_Tr_widen_54 : decode cb_Tr_widen 54 = .ok (.invokestatic 83, 3) := by decide +kernel
theorem d_Tr_widen_57 : decode cb_Tr_widen 57 = .ok (.putfield 31, 3) := by decide +kernel
theorem d_Tr_widen_60 : decode cb_Tr_widen 60 = .ok (.aload_n 0, 1) := by decide +kernel
theorem d_Tr_widen_61 : decode cb_Tr_widen 61 = .ok (.aload_n 0, 1) := by decide +kernel
theorem d_Tr_widen_62 : decode cb_Tr_widen 62 = .ok (.getfield 34, 3) := by decide +kernel
theorem d_Tr_widen_65 : decode cb_Tr_widen 65 = .ok (.iload_n 1, 1) := by decide +kernel
theorem d_Tr_widen_66 : decode cb_Tr_widen 66 = .ok (.invokestatic 83, 3) := by decide +kernel
theorem d_Tr_widen_69 : decode cb_Tr_widen 69 = .ok (.putfield 34, 3) := by decide +kernel
theorem d_Tr_widen_72 : decode cb_Tr_widen 72 = .ok (.aload_n 0, 1) := by decide +kernel
theorem d_Tr_widen_73 : decode cb_Tr_widen 73 = .ok (.aload_n 0, 1) := by decide +kernel
theorem d_Tr_widen_74 : decode cb_Tr_widen 74 = .ok (.getfield 37, 3) := by decide +kernel
theorem d_Tr_widen_77 : decode cb_Tr_widen 77 = .ok (.iload_n 1, 1) := by decide +kernel
theorem d_Tr_widen_78 : decode cb_Tr_widen 78 = .ok (.invokestatic 83, 3) := by decide +kernel
theorem d_Tr_widen_81 : decode cb_Tr_widen 81 = .ok (.putfield 37, 3) := by decide +kernel
theorem d_Tr_widen_84 : decode cb_Tr_widen 84 = .ok (.aload_n 0, 1) := by decide +kernel
theorem d_Tr_widen_85 : decode cb_Tr_widen 85 = .ok (.aload_n 0, 1) := by decide +kernel
theorem d_Tr_widen_86 : decode cb_Tr_widen 86 = .ok (.getfield 40, 3) := by decide +kernel
theorem d_Tr_widen_89 : decode cb_Tr_widen 89 = .ok (.iload_n 1, 1) := by decide +kernel
theorem d_Tr_widen_90 : decode cb_Tr_widen 90 = .ok (.invokestatic 83, 3) := by decide +kernel
theorem d_Tr_widen_93 : decode cb_Tr_widen 93 = .ok (.putfield 40, 3) := by decide +kernel
theorem d_Tr_widen_96 : decode cb_Tr_widen 96 = .ok (.aload_n 0, 1) := by decide +kernel
theorem d_Tr_widen_97 : decode cb_Tr_widen 97 = .ok (.aload_n 0, 1) := by decide +kernel
theorem d_Tr_widen_98 : decode cb_Tr_widen 98 = .ok (.getfield 43, 3) := by decide +kernel
theorem d_Tr_widen_101 : decode cb_Tr_widen 101 = .ok (.iload_n 1, 1) := by decide +kernel
theorem d_Tr_widen_102 : decode cb_Tr_widen 102 = .ok (.invokestatic 83, 3) := by decide +kernel
theorem d_Tr_widen_105 : decode cb_Tr_widen 105 = .ok (.putfield 43, 3) := by decide +kernel
theorem d_Tr_widen_108 : decode cb_Tr_widen 108 = .ok (.aload_n 0, 1) := by decide +kernel
theorem d_Tr_widen_109 : decode cb_Tr_widen 109 = .ok (.aload_n 0, 1) := by decide +kernel
theorem d_Tr_widen_110 : decode cb_Tr_widen 110 = .ok (.getfield 46, 3) := by decide +kernel
theorem d_Tr_widen_113 : decode cb_Tr_widen 113 = .ok (.iload_n 1, 1) := by decide +kernel
theorem d_Tr_widen_114 : decode cb_Tr_widen 114 = .ok (.invokestatic 83, 3) := by decide +kernel
theorem d_Tr_widen_117 : decode cb_Tr_widen 117 = .ok (.putfield 46, 3) := by decide +kernel
theorem d_Tr_widen_120 : decode cb_Tr_widen 120 = .ok (.aload_n 0, 1) := by decide +kernel
theorem d_Tr_widen_121 : decode cb_Tr_widen 121 = .ok (.aload_n 0, 1) := by decide +kernel
theorem d_Tr_widen_122 : decode cb_Tr_widen 122 = .ok (.getfield 49, 3) := by decide +kernel
theorem d_Tr_widen_125 : decode cb_Tr_widen 125 = .ok (.iload_n 1, 1) := by decide +kernel
theorem d_Tr_widen_126 : decode cb_Tr_widen 126 = .ok (.invokestatic 83, 3) := by decide +kernel
theorem d_Tr_widen_129 : decode cb_Tr_widen 129 = .ok (.putfield 49, 3) := by decide +kernel
theorem d_Tr_widen_132 : decode cb_Tr_widen 132 = .ok (.aload_n 0, 1) := by decide +kernel
theorem d_Tr_widen_133 : decode cb_Tr_widen 133 = .ok (.aload_n 0, 1) := by decide +kernel
theorem d_Tr_widen_134 : decode cb_Tr_widen 134 = .ok (.getfield 52, 3) := by decide +kernel
theorem d_Tr_widen_137 : decode cb_Tr_widen 137 = .ok (.iload_n 1, 1) := by decide +kernel
theorem d_Tr_widen_138 : decode cb_Tr_widen 138 = .ok (.invokestatic 83, 3) := by decide +kernel
theorem d_Tr_widen_141 : decode cb_Tr_widen 141 = .ok (.putfield 52, 3) := by decide +kernel
theorem d_Tr_widen_144 : decode cb_Tr_widen 144 = .ok (.aload_n 0, 1) := by decide +kernel
theorem d_Tr_widen_145 : decode cb_Tr_widen 145 = .ok (.aload_n 0, 1) := by decide +kernel
theorem d_Tr_widen_146 : decode cb_Tr_widen 146 = .ok (.getfield 55, 3) := by decide +kernel
theorem d_Tr_widen_149 : decode cb_Tr_widen 149 = .ok (.iload_n 1, 1) := by decide +kernel
theorem d_Tr_widen_150 : decode cb_Tr_widen 150 = .ok (.invokestatic 83, 3) := by decide +kernel
theorem d_Tr_widen_153 : decode cb_Tr_widen 153 = .ok (.putfield 55, 3) := by decide +kernel
theorem d_Tr_widen_156 : decode cb_Tr_widen 156 = .ok (.aload_n 0, 1) := by decide +kernel
theorem d_Tr_widen_157 : decode cb_Tr_widen 157 = .ok (.aload_n 0, 1) := by decide +kernel
theorem d_Tr_widen_158 : decode cb_Tr_widen 158 = .ok (.getfield 58, 3) := by decide +kernel
theorem d_Tr_widen_161 : decode cb_Tr_widen 161 = .ok (.iload_n 1, 1) := by decide +kernel
theorem d_Tr_widen_162 : decode cb_Tr_widen 162 = .ok (.invokestatic 83, 3) := by decide +kernel
theorem d_Tr_widen_165 : decode cb_Tr_widen 165 = .ok (.putfield 58, 3) := by decide +kernel
theorem d_Tr_widen_168 : decode cb_Tr_widen 168 = .ok (.return_, 1) := by decide +kernel
abbrev b_Tr_nameLast : ByteArray := prog_10_method_8_code
def y_Tr_nameLast : MethodName := ⟨R_Tr, "nameLast", "([II)V"⟩
theorem d_Tr_nameLast_0 : decode b_Tr_nameLast 0 = .ok (.aload_n 0, 1) := by decide +kernel
theorem d_Tr_nameLast_1 : decode b_Tr_nameLast 1 = .ok (.getfield 9, 3) := by decide +kernel
theorem d_Tr_nameLast_4 : decode b_Tr_nameLast 4 = .ok (.iconst 1, 1) := by decide +kernel
theorem d_Tr_nameLast_5 : decode b_Tr_nameLast 5 = .ok (.isub, 1) := by decide +kernel
theorem d_Tr_nameLast_6 : decode b_Tr_nameLast 6 = .ok (.istore_n 3, 1) := by decide +kernel
theorem d_Tr_nameLast_7 : decode b_Tr_nameLast 7 = .ok (.iload_n 3, 1) := by decide +kernel
theorem d_Tr_nameLast_8 : decode b_Tr_nameLast 8 = .ok (.ifCond .lt 13, 3) := by decide +kernel
theorem d_Tr_nameLast_11 : decode b_Tr_nameLast 11 = .ok (.iload_n 2, 1) := by decide +kernel
theorem d_Tr_nameLast_12 : decode b_Tr_nameLast 12 = .ok (.ifCond .lt 9, 3) := by decide +kernel
theorem d_Tr_nameLast_15 : decode b_Tr_nameLast 15 = .ok (.iload_n 2, 1) := by decide +kernel
theorem d_Tr_nameLast_16 : decode b_Tr_nameLast 16 = .ok (.aload_n 1, 1) := by decide +kernel
theorem d_Tr_nameLast_17 : decode b_Tr_nameLast 17 = .ok (.arraylength, 1) := by decide +kernel
theorem d_Tr_nameLast_18 : decode b_Tr_nameLast 18 = .ok (.if_icmp .le 4, 3) := by decide +kernel
theorem d_Tr_nameLast_21 : decode b_Tr_nameLast 21 = .ok (.return_, 1) := by decide +kernel
theorem d_Tr_nameLast_22 : decode b_Tr_nameLast 22 = .ok (.aload_n 0, 1) := by decide +kernel
theorem d_Tr_nameLast_23 : decode b_Tr_nameLast 23 = .ok (.getfield 64, 3) := by decide +kernel
theorem d_Tr_nameLast_26 : decode b_Tr_nameLast 26 = .ok (.iload_n 2, 1) := by decide +kernel
theorem d_Tr_nameLast_27 : decode b_Tr_nameLast 27 = .ok (.iadd, 1) := by decide +kernel
theorem d_Tr_nameLast_28 : decode b_Tr_nameLast 28 = .ok (.aload_n 0, 1) := by decide +kernel
theorem d_Tr_nameLast_29 : decode b_Tr_nameLast 29 = .ok (.getfield 61, 3) := by decide +kernel
theorem d_Tr_nameLast_32 : decode b_Tr_nameLast 32 = .ok (.arraylength, 1) := by decide +kernel
theorem d_Tr_nameLast_33 : decode b_Tr_nameLast 33 = .ok (.if_icmp .le 22, 3) := by decide +kernel
theorem d_Tr_nameLast_36 : decode b_Tr_nameLast 36 = .ok (.aload_n 0, 1) := by decide +kernel
theorem d_Tr_nameLast_37 : decode b_Tr_nameLast 37 = .ok (.aload_n 0, 1) := by decide +kernel
theorem d_Tr_nameLast_38 : decode b_Tr_nameLast 38 = .ok (.getfield 61, 3) := by decide +kernel
theorem d_Tr_nameLast_41 : decode b_Tr_nameLast 41 = .ok (.iconst 2, 1) := by decide +kernel
theorem d_Tr_nameLast_42 : decode b_Tr_nameLast 42 = .ok (.aload_n 0, 1) := by decide +kernel
theorem d_Tr_nameLast_43 : decode b_Tr_nameLast 43 = .ok (.getfield 64, 3) := by decide +kernel
theorem d_Tr_nameLast_46 : decode b_Tr_nameLast 46 = .ok (.iload_n 2, 1) := by decide +kernel
theorem d_Tr_nameLast_47 : decode b_Tr_nameLast 47 = .ok (.iadd, 1) := by decide +kernel
theorem d_Tr_nameLast_48 : decode b_Tr_nameLast 48 = .ok (.imul, 1) := by decide +kernel
theorem d_Tr_nameLast_49 : decode b_Tr_nameLast 49 = .ok (.invokestatic 83, 3) := by decide +kernel
theorem d_Tr_nameLast_52 : decode b_Tr_nameLast 52 = .ok (.putfield 61, 3) := by decide +kernel
theorem d_Tr_nameLast_55 : decode b_Tr_nameLast 55 = .ok (.aload_n 0, 1) := by decide +kernel
theorem d_Tr_nameLast_56 : decode b_Tr_nameLast 56 = .ok (.getfield 46, 3) := by decide +kernel
theorem d_Tr_nameLast_59 : decode b_Tr_nameLast 59 = .ok (.iload_n 3, 1) := by decide +kernel
theorem d_Tr_nameLast_60 : decode b_Tr_nameLast 60 = .ok (.aload_n 0, 1) := by decide +kernel
theorem d_Tr_nameLast_61 : decode b_Tr_nameLast 61 = .ok (.getfield 64, 3) := by decide +kernel
theorem d_Tr_nameLast_64 : decode b_Tr_nameLast 64 = .ok (.iastore, 1) := by decide +kernel
theorem d_Tr_nameLast_65 : decode b_Tr_nameLast 65 = .ok (.aload_n 0, 1) := by decide +kernel
theorem d_Tr_nameLast_66 : decode b_Tr_nameLast 66 = .ok (.getfield 49, 3) := by decide +kernel
theorem d_Tr_nameLast_69 : decode b_Tr_nameLast 69 = .ok (.iload_n 3, 1) := by decide +kernel
theorem d_Tr_nameLast_70 : decode b_Tr_nameLast 70 = .ok (.iload_n 2, 1) := by decide +kernel
theorem d_Tr_nameLast_71 : decode b_Tr_nameLast 71 = .ok (.iastore, 1) := by decide +kernel
theorem d_Tr_nameLast_72 : decode b_Tr_nameLast 72 = .ok (.iconst 0, 1) := by decide +kernel
theorem d_Tr_nameLast_73 : decode b_Tr_nameLast 73 = .ok (.istore 4, 2) := by decide +kernel
theorem d_Tr_nameLast_75 : decode b_Tr_nameLast 75 = .ok (.iconst 0, 1) := by decide +kernel
theorem d_Tr_nameLast_76 : decode b_Tr_nameLast 76 = .ok (.istore 5, 2) := by decide +kernel
theorem d_Tr_nameLast_78 : decode b_Tr_nameLast 78 = .ok (.iload 5, 2) := by decide +kernel
theorem d_Tr_nameLast_80 : decode b_Tr_nameLast 80 = .ok (.iload_n 2, 1) := by decide +kernel
theorem d_Tr_nameLast_81 : decode b_Tr_nameLast 81 = .ok (.if_icmp .ge 37, 3) := by decide +kernel
theorem d_Tr_nameLast_84 : decode b_Tr_nameLast 84 = .ok (.aload_n 0, 1) := by decide +kernel
theorem d_Tr_nameLast_85 : decode b_Tr_nameLast 85 = .ok (.getfield 61, 3) := by decide +kernel
theorem d_Tr_nameLast_88 : decode b_Tr_nameLast 88 = .ok (.aload_n 0, 1) := by decide +kernel
theorem d_Tr_nameLast_89 : decode b_Tr_nameLast 89 = .ok (.getfield 64, 3) := by decide +kernel
theorem d_Tr_nameLast_92 : decode b_Tr_nameLast 92 = .ok (.iload 5, 2) := by decide +kernel
theorem d_Tr_nameLast_94 : decode b_Tr_nameLast 94 = .ok (.iadd, 1) := by decide +kernel
theorem d_Tr_nameLast_95 : decode b_Tr_nameLast 95 = .ok (.aload_n 1, 1) := by decide +kernel
theorem d_Tr_nameLast_96 : decode b_Tr_nameLast 96 = .ok (.iload 5, 2) := by decide +kernel
theorem d_Tr_nameLast_98 : decode b_Tr_nameLast 98 = .ok (.iaload, 1) := by decide +kernel
theorem d_Tr_nameLast_99 : decode b_Tr_nameLast 99 = .ok (.iastore, 1) := by decide +kernel
theorem d_Tr_nameLast_100 : decode b_Tr_nameLast 100 = .ok (.iload 4, 2) := by decide +kernel
theorem d_Tr_nameLast_102 : decode b_Tr_nameLast 102 = .ok (.aload_n 1, 1) := by decide +kernel
theorem d_Tr_nameLast_103 : decode b_Tr_nameLast 103 = .ok (.iload 5, 2) := by decide +kernel
theorem d_Tr_nameLast_105 : decode b_Tr_nameLast 105 = .ok (.iaload, 1) := by decide +kernel
theorem d_Tr_nameLast_106 : decode b_Tr_nameLast 106 = .ok (.invokestatic 89, 3) := by decide +kernel
theorem d_Tr_nameLast_109 : decode b_Tr_nameLast 109 = .ok (.iadd, 1) := by decide +kernel
theorem d_Tr_nameLast_110 : decode b_Tr_nameLast 110 = .ok (.istore 4, 2) := by decide +kernel
theorem d_Tr_nameLast_112 : decode b_Tr_nameLast 112 = .ok (.iinc 5 1, 3) := by decide +kernel
theorem d_Tr_nameLast_115 : decode b_Tr_nameLast 115 = .ok (.goto (-37), 3) := by decide +kernel
theorem d_Tr_nameLast_118 : decode b_Tr_nameLast 118 = .ok (.aload_n 0, 1) := by decide +kernel
theorem d_Tr_nameLast_119 : decode b_Tr_nameLast 119 = .ok (.dup, 1) := by decide +kernel
theorem d_Tr_nameLast_120 : decode b_Tr_nameLast 120 = .ok (.getfield 64, 3) := by decide +kernel
theorem d_Tr_nameLast_123 : decode b_Tr_nameLast 123 = .ok (.iload_n 2, 1) := by decide +kernel
theorem d_Tr_nameLast_124 : decode b_Tr_nameLast 124 = .ok (.iadd, 1) := by decide +kernel
theorem d_Tr_nameLast_125 : decode b_Tr_nameLast 125 = .ok (.putfield 64, 3) := by decide +kernel
theorem d_Tr_nameLast_128 : decode b_Tr_nameLast 128 = .ok (.aload_n 0, 1) := by decide +kernel
theorem d_Tr_nameLast_129 : decode b_Tr_nameLast 129 = .ok (.getfield 52, 3) := by decide +kernel
theorem d_Tr_nameLast_132 : decode b_Tr_nameLast 132 = .ok (.iload_n 3, 1) := by decide +kernel
theorem d_Tr_nameLast_133 : decode b_Tr_nameLast 133 = .ok (.iload 4, 2) := by decide +kernel
theorem d_Tr_nameLast_135 : decode b_Tr_nameLast 135 = .ok (.iastore, 1) := by decide +kernel
theorem d_Tr_nameLast_136 : decode b_Tr_nameLast 136 = .ok (.return_, 1) := by decide +kernel
abbrev cb_Tr_has : ByteArray := prog_10_method_9_code
def y_Tr_has : MethodName := ⟨R_Tr, "has", "(I)Z"⟩
theorem d_Tr_has_0 : decode cb_Tr_has 0 = .ok (.iload_n 1, 1) := by decide +kernel
theorem d_Tr_has_1 : decode cb_Tr_has 1 = .ok (.ifCond .lt 15, 3) := by decide +kernel
theorem d_Tr_has_4 : decode cb_Tr_has 4 = .ok (.iload_n 1, 1) := by decide +kernel
theorem d_Tr_has_5 : decode cb_Tr_has 5 = .ok (.aload_n 0, 1) := by decide +kernel
theorem d_Tr_has_6 : decode cb_Tr_has 6 = .ok (.getfield 9, 3) := by decide +kernel
theorem d_Tr_has_9 : decode cb_Tr_has 9 = .ok (.if_icmp .ge 7, 3) := by decide +kernel
theorem d_Tr_has_12 : decode cb_Tr_has 12 = .ok (.iconst 1, 1) := by decide +kernel
theorem d_Tr_has_13 : decode cb_Tr_has 13 = .ok (.goto 4, 3) := by decide +kernel
theorem d_Tr_has_16 : decode cb_Tr_has 16 = .ok (.iconst 0, 1) := by decide +kernel
theorem d_Tr_has_17 : decode cb_Tr_has 17 = .ok (.ireturn, 1) := by decide +kernel
abbrev cb_Tr_isDirectory : ByteArray := prog_10_method_10_code
def y_Tr_isDirectory : MethodName := ⟨R_Tr, "isDirectory", "(I)Z"⟩
theorem d_Tr_isDirectory_0 : decode cb_Tr_isDirectory 0 = .ok (.aload_n 0, 1) := by decide +kernel
theorem d_Tr_isDirectory_1 : decode cb_Tr_isDirectory 1 = .ok (.iload_n 1, 1) := by decide +kernel
theorem d_Tr_isDirectory_2 : decode cb_Tr_isDirectory 2 = .ok (.invokevirtual 79, 3) := by decide +kernel
theorem d_Tr_isDirectory_5 : decode cb_Tr_isDirectory 5 = .ok (.ifCond .eq 19, 3) := by decide +kernel
theorem d_Tr_isDirectory_8 : decode cb_Tr_isDirectory 8 = .ok (.aload_n 0, 1) := by decide +kernel
theorem d_Tr_isDirectory_9 : decode cb_Tr_isDirectory 9 = .ok (.getfield 28, 3) := by decide +kernel
theorem d_Tr_isDirectory_12 : decode cb_Tr_isDirectory 12 = .ok (.iload_n 1, 1) := by decide +kernel
theorem d_Tr_isDirectory_13 : decode cb_Tr_isDirectory 13 = .ok (.iaload, 1) := by decide +kernel
theorem d_Tr_isDirectory_14 : decode cb_Tr_isDirectory 14 = .ok (.bipush 16, 2) := by decide +kernel
theorem d_Tr_isDirectory_16 : decode cb_Tr_isDirectory 16 = .ok (.iand, 1) := by decide +kernel
theorem d_Tr_isDirectory_17 : decode cb_Tr_isDirectory 17 = .ok (.ifCond .eq 7, 3) := by decide +kernel
theorem d_Tr_isDirectory_20 : decode cb_Tr_isDirectory 20 = .ok (.iconst 1, 1) := by decide +kernel
theorem d_Tr_isDirectory_21 : decode cb_Tr_isDirectory 21 = .ok (.goto 4, 3) := by decide +kernel
theorem d_Tr_isDirectory_24 : decode cb_Tr_isDirectory 24 = .ok (.iconst 0, 1) := by decide +kernel
theorem d_Tr_isDirectory_25 : decode cb_Tr_isDirectory 25 = .ok (.ireturn, 1) := by decide +kernel
abbrev cb_Tr_countIn : ByteArray := prog_10_method_11_code
def y_Tr_countIn : MethodName := ⟨R_Tr, "countIn", "(I)I"⟩
theorem d_Tr_countIn_0 : decode cb_Tr_countIn 0 = .ok (.aload_n 0, 1) := by decide +kernel
theorem d_Tr_countIn_1 : decode cb_Tr_countIn 1 = .ok (.iload_n 1, 1) := by decide +kernel
theorem d_Tr_countIn_2 : decode cb_Tr_countIn 2 = .ok (.invokevirtual 79, 3) := by decide +kernel
theorem d_Tr_countIn_5 : decode cb_Tr_countIn 5 = .ok (.ifCond .eq 12, 3) := by decide +kernel
theorem d_Tr_countIn_8 : decode cb_Tr_countIn 8 = .ok (.aload_n 0, 1) := by decide +kernel
theorem d_Tr_countIn_9 : decode cb_Tr_countIn 9 = .ok (.getfield 43, 3) := by decide +kernel
theorem d_Tr_countIn_12 : decode cb_Tr_countIn 12 = .ok (.iload_n 1, 1) := by decide +kernel
theorem d_Tr_countIn_13 : decode cb_Tr_countIn 13 = .ok (.iaload, 1) := by decide +kernel
theorem d_Tr_countIn_14 : decode cb_Tr_countIn 14 = .ok (.goto 4, 3) := by decide +kernel
theorem d_Tr_countIn_17 : decode cb_Tr_countIn 17 = .ok (.iconst 0, 1) := by decide +kernel
theorem d_Tr_countIn_18 : decode cb_Tr_countIn 18 = .ok (.ireturn, 1) := by decide +kernel
abbrev cb_Tr_kid : ByteArray := prog_10_method_12_code
def y_Tr_kid : MethodName := ⟨R_Tr, "kid", "(II)I"⟩
theorem d_Tr_kid_0 : decode cb_Tr_kid 0 = .ok (.aload_n 0, 1) := by decide +kernel
theorem d_Tr_kid_1 : decode cb_Tr_kid 1 = .ok (.iload_n 1, 1) := by decide +kernel
theorem d_Tr_kid_2 : decode cb_Tr_kid 2 = .ok (.invokevirtual 79, 3) := by decide +kernel
theorem d_Tr_kid_5 : decode cb_Tr_kid 5 = .ok (.ifCond .eq 14, 3) := by decide +kernel
theorem d_Tr_kid_8 : decode cb_Tr_kid 8 = .ok (.aload_n 0, 1) := by decide +kernel
theorem d_Tr_kid_9 : decode cb_Tr_kid 9 = .ok (.getfield 40, 3) := by decide +kernel
theorem d_Tr_kid_12 : decode cb_Tr_kid 12 = .ok (.iload_n 1, 1) := by decide +kernel
theorem d_Tr_kid_13 : decode cb_Tr_kid 13 = .ok (.iaload, 1) := by decide +kernel
theorem d_Tr_kid_14 : decode cb_Tr_kid 14 = .ok (.iload_n 2, 1) := by decide +kernel
theorem d_Tr_kid_15 : decode cb_Tr_kid 15 = .ok (.iadd, 1) := by decide +kernel
theorem d_Tr_kid_16 : decode cb_Tr_kid 16 = .ok (.goto 4, 3) := by decide +kernel
theorem d_Tr_kid_19 : decode cb_Tr_kid 19 = .ok (.iconst 0, 1) := by decide +kernel
theorem d_Tr_kid_20 : decode cb_Tr_kid 20 = .ok (.ireturn, 1) := by decide +kernel
abbrev cb_Tr_parentOf : ByteArray := prog_10_method_13_code
def y_Tr_parentOf : MethodName := ⟨R_Tr, "parentOf", "(I)I"⟩
theorem d_Tr_parentOf_0 : decode cb_Tr_parentOf 0 = .ok (.aload_n 0, 1) := by decide +kernel
theorem d_Tr_parentOf_1 : decode cb_Tr_parentOf 1 = .ok (.iload_n 1, 1) := by decide +kernel
theorem d_Tr_parentOf_2 : decode cb_Tr_parentOf 2 = .ok (.invokevirtual 79, 3) := by decide +kernel
theorem d_Tr_parentOf_5 : decode cb_Tr_parentOf 5 = .ok (.ifCond .eq 12, 3) := by decide +kernel
theorem d_Tr_parentOf_8 : decode cb_Tr_parentOf 8 = .ok (.aload_n 0, 1) := by decide +kernel
theorem d_Tr_parentOf_9 : decode cb_Tr_parentOf 9 = .ok (.getfield 18, 3) := by decide +kernel
theorem d_Tr_parentOf_12 : decode cb_Tr_parentOf 12 = .ok (.iload_n 1, 1) := by decide +kernel
theorem d_Tr_parentOf_13 : decode cb_Tr_parentOf 13 = .ok (.iaload, 1) := by decide +kernel
theorem d_Tr_parentOf_14 : decode cb_Tr_parentOf 14 = .ok (.goto 4, 3) := by decide +kernel
theorem d_Tr_parentOf_17 : decode cb_Tr_parentOf 17 = .ok (.iconst 0, 1) := by decide +kernel
theorem d_Tr_parentOf_18 : decode cb_Tr_parentOf 18 = .ok (.ireturn, 1) := by decide +kernel
abbrev cb_Tr_isReadOnly : ByteArray := prog_10_method_14_code
def y_Tr_isReadOnly : MethodName := ⟨R_Tr, "isReadOnly", "(I)Z"⟩
theorem d_Tr_isReadOnly_0 : decode cb_Tr_isReadOnly 0 = .ok (.aload_n 0, 1) := by decide +kernel
theorem d_Tr_isReadOnly_1 : decode cb_Tr_isReadOnly 1 = .ok (.iload_n 1, 1) := by decide +kernel
theorem d_Tr_isReadOnly_2 : decode cb_Tr_isReadOnly 2 = .ok (.invokevirtual 79, 3) := by decide +kernel
theorem d_Tr_isReadOnly_5 : decode cb_Tr_isReadOnly 5 = .ok (.ifCond .eq 18, 3) := by decide +kernel
theorem d_Tr_isReadOnly_8 : decode cb_Tr_isReadOnly 8 = .ok (.aload_n 0, 1) := by decide +kernel
theorem d_Tr_isReadOnly_9 : decode cb_Tr_isReadOnly 9 = .ok (.getfield 28, 3) := by decide +kernel
theorem d_Tr_isReadOnly_12 : decode cb_Tr_isReadOnly 12 = .ok (.iload_n 1, 1) := by decide +kernel
theorem d_Tr_isReadOnly_13 : decode cb_Tr_isReadOnly 13 = .ok (.iaload, 1) := by decide +kernel
theorem d_Tr_isReadOnly_14 : decode cb_Tr_isReadOnly 14 = .ok (.iconst 1, 1) := by decide +kernel
theorem d_Tr_isReadOnly_15 : decode cb_Tr_isReadOnly 15 = .ok (.iand, 1) := by decide +kernel
theorem d_Tr_isReadOnly_16 : decode cb_Tr_isReadOnly 16 = .ok (.ifCond .eq 7, 3) := by decide +kernel
theorem d_Tr_isReadOnly_19 : decode cb_Tr_isReadOnly 19 = .ok (.iconst 1, 1) := by decide +kernel
theorem d_Tr_isReadOnly_20 : decode cb_Tr_isReadOnly 20 = .ok (.goto 4, 3) := by decide +kernel
theorem d_Tr_isReadOnly_23 : decode cb_Tr_isReadOnly 23 = .ok (.iconst 0, 1) := by decide +kernel
theorem d_Tr_isReadOnly_24 : decode cb_Tr_isReadOnly 24 = .ok (.ireturn, 1) := by decide +kernel
abbrev cb_Tr_partsOf : ByteArray := prog_10_method_15_code
def y_Tr_partsOf : MethodName := ⟨R_Tr, "partsOf", "(I)I"⟩
theorem d_Tr_partsOf_0 : decode cb_Tr_partsOf 0 = .ok (.aload_n 0, 1) := by decide +kernel
theorem d_Tr_partsOf_1 : decode cb_Tr_partsOf 1 = .ok (.iload_n 1, 1) := by decide +kernel
theorem d_Tr_partsOf_2 : decode cb_Tr_partsOf 2 = .ok (.invokevirtual 79, 3) := by decide +kernel
theorem d_Tr_partsOf_5 : decode cb_Tr_partsOf 5 = .ok (.ifCond .eq 12, 3) := by decide +kernel
theorem d_Tr_partsOf_8 : decode cb_Tr_partsOf 8 = .ok (.aload_n 0, 1) := by decide +kernel
theorem d_Tr_partsOf_9 : decode cb_Tr_partsOf 9 = .ok (.getfield 37, 3) := by decide +kernel
theorem d_Tr_partsOf_12 : decode cb_Tr_partsOf 12 = .ok (.iload_n 1, 1) := by decide +kernel
theorem d_Tr_partsOf_13 : decode cb_Tr_partsOf 13 = .ok (.iaload, 1) := by decide +kernel
theorem d_Tr_partsOf_14 : decode cb_Tr_partsOf 14 = .ok (.goto 4, 3) := by decide +kernel
theorem d_Tr_partsOf_17 : decode cb_Tr_partsOf 17 = .ok (.iconst 0, 1) := by decide +kernel
theorem d_Tr_partsOf_18 : decode cb_Tr_partsOf 18 = .ok (.ireturn, 1) := by decide +kernel
abbrev cb_Tr_builtOf : ByteArray := prog_10_method_16_code
def y_Tr_builtOf : MethodName := ⟨R_Tr, "builtOf", "(I)I"⟩
theorem d_Tr_builtOf_0 : decode cb_Tr_builtOf 0 = .ok (.aload_n 0, 1) := by decide +kernel
theorem d_Tr_builtOf_1 : decode cb_Tr_builtOf 1 = .ok (.iload_n 1, 1) := by decide +kernel
theorem d_Tr_builtOf_2 : decode cb_Tr_builtOf 2 = .ok (.invokevirtual 79, 3) := by decide +kernel
theorem d_Tr_builtOf_5 : decode cb_Tr_builtOf 5 = .ok (.ifCond .eq 12, 3) := by decide +kernel
theorem d_Tr_builtOf_8 : decode cb_Tr_builtOf 8 = .ok (.aload_n 0, 1) := by decide +kernel
theorem d_Tr_builtOf_9 : decode cb_Tr_builtOf 9 = .ok (.getfield 55, 3) := by decide +kernel
theorem d_Tr_builtOf_12 : decode cb_Tr_builtOf 12 = .ok (.iload_n 1, 1) := by decide +kernel
theorem d_Tr_builtOf_13 : decode cb_Tr_builtOf 13 = .ok (.iaload, 1) := by decide +kernel
theorem d_Tr_builtOf_14 : decode cb_Tr_builtOf 14 = .ok (.goto 4, 3) := by decide +kernel
theorem d_Tr_builtOf_17 : decode cb_Tr_builtOf 17 = .ok (.iconst 0, 1) := by decide +kernel
theorem d_Tr_builtOf_18 : decode cb_Tr_builtOf 18 = .ok (.ireturn, 1) := by decide +kernel
abbrev cb_Tr_builtBlocksOf : ByteArray := prog_10_method_17_code
def y_Tr_builtBlocksOf : MethodName := ⟨R_Tr, "builtBlocksOf", "(I)I"⟩
theorem d_Tr_builtBlocksOf_0 : decode cb_Tr_builtBlocksOf 0 = .ok (.aload_n 0, 1) := by decide +kernel
theorem d_Tr_builtBlocksOf_1 : decode cb_Tr_builtBlocksOf 1 = .ok (.iload_n 1, 1) := by decide +kernel
theorem d_Tr_builtBlocksOf_2 : decode cb_Tr_builtBlocksOf 2 = .ok (.invokevirtual 79, 3) := by decide +kernel
theorem d_Tr_builtBlocksOf_5 : decode cb_Tr_builtBlocksOf 5 = .ok (.ifCond .eq 12, 3) := by decide +kernel
theorem d_Tr_builtBlocksOf_8 : decode cb_Tr_builtBlocksOf 8 = .ok (.aload_n 0, 1) := by decide +kernel
theorem d_Tr_builtBlocksOf_9 : decode cb_Tr_builtBlocksOf 9 = .ok (.getfield 58, 3) := by decide +kernel
theorem d_Tr_builtBlocksOf_12 : decode cb_Tr_builtBlocksOf 12 = .ok (.iload_n 1, 1) := by decide +kernel
theorem d_Tr_builtBlocksOf_13 : decode cb_Tr_builtBlocksOf 13 = .ok (.iaload, 1) := by decide +kernel
theorem d_Tr_builtBlocksOf_14 : decode cb_Tr_builtBlocksOf 14 = .ok (.goto 4, 3) := by decide +kernel
theorem d_Tr_builtBlocksOf_17 : decode cb_Tr_builtBlocksOf 17 = .ok (.iconst 0, 1) := by decide +kernel
theorem d_Tr_builtBlocksOf_18 : decode cb_Tr_builtBlocksOf 18 = .ok (.ireturn, 1) := by decide +kernel
abbrev cb_Tr_slotOf : ByteArray := prog_10_method_18_code
def y_Tr_slotOf : MethodName := ⟨R_Tr, "slotOf", "(I)I"⟩
theorem d_Tr_slotOf_0 : decode cb_Tr_slotOf 0 = .ok (.aload_n 0, 1) := by decide +kernel
theorem d_Tr_slotOf_1 : decode cb_Tr_slotOf 1 = .ok (.iload_n 1, 1) := by decide +kernel
theorem d_Tr_slotOf_2 : decode cb_Tr_slotOf 2 = .ok (.invokevirtual 79, 3) := by decide +kernel
theorem d_Tr_slotOf_5 : decode cb_Tr_slotOf 5 = .ok (.ifCond .eq 12, 3) := by decide +kernel
theorem d_Tr_slotOf_8 : decode cb_Tr_slotOf 8 = .ok (.aload_n 0, 1) := by decide +kernel
theorem d_Tr_slotOf_9 : decode cb_Tr_slotOf 9 = .ok (.getfield 34, 3) := by decide +kernel
theorem d_Tr_slotOf_12 : decode cb_Tr_slotOf 12 = .ok (.iload_n 1, 1) := by decide +kernel
theorem d_Tr_slotOf_13 : decode cb_Tr_slotOf 13 = .ok (.iaload, 1) := by decide +kernel
theorem d_Tr_slotOf_14 : decode cb_Tr_slotOf 14 = .ok (.goto 4, 3) := by decide +kernel
theorem d_Tr_slotOf_17 : decode cb_Tr_slotOf 17 = .ok (.iconst 0, 1) := by decide +kernel
theorem d_Tr_slotOf_18 : decode cb_Tr_slotOf 18 = .ok (.ireturn, 1) := by decide +kernel
abbrev cb_Tr_spotOf : ByteArray := prog_10_method_19_code
def y_Tr_spotOf : MethodName := ⟨R_Tr, "spotOf", "(I)I"⟩
theorem d_Tr_spotOf_0 : decode cb_Tr_spotOf 0 = .ok (.aload_n 0, 1) := by decide +kernel
theorem d_Tr_spotOf_1 : decode cb_Tr_spotOf 1 = .ok (.iload_n 1, 1) := by decide +kernel
theorem d_Tr_spotOf_2 : decode cb_Tr_spotOf 2 = .ok (.invokevirtual 79, 3) := by decide +kernel
theorem d_Tr_spotOf_5 : decode cb_Tr_spotOf 5 = .ok (.ifCond .eq 12, 3) := by decide +kernel
theorem d_Tr_spotOf_8 : decode cb_Tr_spotOf 8 = .ok (.aload_n 0, 1) := by decide +kernel
theorem d_Tr_spotOf_9 : decode cb_Tr_spotOf 9 = .ok (.getfield 31, 3) := by decide +kernel
theorem d_Tr_spotOf_12 : decode cb_Tr_spotOf 12 = .ok (.iload_n 1, 1) := by decide +kernel
theorem d_Tr_spotOf_13 : decode cb_Tr_spotOf 13 = .ok (.iaload, 1) := by decide +kernel
theorem d_Tr_spotOf_14 : decode cb_Tr_spotOf 14 = .ok (.goto 4, 3) := by decide +kernel
theorem d_Tr_spotOf_17 : decode cb_Tr_spotOf 17 = .ok (.iconst 0, 1) := by decide +kernel
theorem d_Tr_spotOf_18 : decode cb_Tr_spotOf 18 = .ok (.ireturn, 1) := by decide +kernel
abbrev cb_Tr_sizeOf : ByteArray := prog_10_method_20_code
def y_Tr_sizeOf : MethodName := ⟨R_Tr, "sizeOf", "(I)I"⟩
theorem d_Tr_sizeOf_0 : decode cb_Tr_sizeOf 0 = .ok (.aload_n 0, 1) := by decide +kernel
theorem d_Tr_sizeOf_1 : decode cb_Tr_sizeOf 1 = .ok (.iload_n 1, 1) := by decide +kernel
theorem d_Tr_sizeOf_2 : decode cb_Tr_sizeOf 2 = .ok (.invokevirtual 79, 3) := by decide +kernel
theorem d_Tr_sizeOf_5 : decode cb_Tr_sizeOf 5 = .ok (.ifCond .eq 12, 3) := by decide +kernel
theorem d_Tr_sizeOf_8 : decode cb_Tr_sizeOf 8 = .ok (.aload_n 0, 1) := by decide +kernel
theorem d_Tr_sizeOf_9 : decode cb_Tr_sizeOf 9 = .ok (.getfield 25, 3) := by decide +kernel
theorem d_Tr_sizeOf_12 : decode cb_Tr_sizeOf 12 = .ok (.iload_n 1, 1) := by decide +kernel
theorem d_Tr_sizeOf_13 : decode cb_Tr_sizeOf 13 = .ok (.iaload, 1) := by decide +kernel
theorem d_Tr_sizeOf_14 : decode cb_Tr_sizeOf 14 = .ok (.goto 4, 3) := by decide +kernel
theorem d_Tr_sizeOf_17 : decode cb_Tr_sizeOf 17 = .ok (.iconst 0, 1) := by decide +kernel
theorem d_Tr_sizeOf_18 : decode cb_Tr_sizeOf 18 = .ok (.ireturn, 1) := by decide +kernel
abbrev cb_Tr_firstOf : ByteArray := prog_10_method_21_code
def y_Tr_firstOf : MethodName := ⟨R_Tr, "firstOf", "(I)I"⟩
theorem d_Tr_firstOf_0 : decode cb_Tr_firstOf 0 = .ok (.aload_n 0, 1) := by decide +kernel
theorem d_Tr_firstOf_1 : decode cb_Tr_firstOf 1 = .ok (.iload_n 1, 1) := by decide +kernel
theorem d_Tr_firstOf_2 : decode cb_Tr_firstOf 2 = .ok (.invokevirtual 79, 3) := by decide +kernel
theorem d_Tr_firstOf_5 : decode cb_Tr_firstOf 5 = .ok (.ifCond .eq 12, 3) := by decide +kernel
theorem d_Tr_firstOf_8 : decode cb_Tr_firstOf 8 = .ok (.aload_n 0, 1) := by decide +kernel
theorem d_Tr_firstOf_9 : decode cb_Tr_firstOf 9 = .ok (.getfield 22, 3) := by decide +kernel
theorem d_Tr_firstOf_12 : decode cb_Tr_firstOf 12 = .ok (.iload_n 1, 1) := by decide +kernel
theorem d_Tr_firstOf_13 : decode cb_Tr_firstOf 13 = .ok (.iaload, 1) := by decide +kernel
theorem d_Tr_firstOf_14 : decode cb_Tr_firstOf 14 = .ok (.goto 4, 3) := by decide +kernel
theorem d_Tr_firstOf_17 : decode cb_Tr_firstOf 17 = .ok (.iconst 0, 1) := by decide +kernel
theorem d_Tr_firstOf_18 : decode cb_Tr_firstOf 18 = .ok (.ireturn, 1) := by decide +kernel
abbrev cb_Tr_beginKids : ByteArray := prog_10_method_22_code
def y_Tr_beginKids : MethodName := ⟨R_Tr, "beginKids", "(I)V"⟩
theorem d_Tr_beginKids_0 : decode cb_Tr_beginKids 0 = .ok (.aload_n 0, 1) := by decide +kernel
theorem d_Tr_beginKids_1 : decode cb_Tr_beginKids 1 = .ok (.iload_n 1, 1) := by decide +kernel
theorem d_Tr_beginKids_2 : decode cb_Tr_beginKids 2 = .ok (.invokevirtual 79, 3) := by decide +kernel
theorem d_Tr_beginKids_5 : decode cb_Tr_beginKids 5 = .ok (.ifCond .eq 13, 3) := by decide +kernel
theorem d_Tr_beginKids_8 : decode cb_Tr_beginKids 8 = .ok (.aload_n 0, 1) := by decide +kernel
theorem d_Tr_beginKids_9 : decode cb_Tr_beginKids 9 = .ok (.getfield 40, 3) := by decide +kernel
theorem d_Tr_beginKids_12 : decode cb_Tr_beginKids 12 = .ok (.iload_n 1, 1) := by decide +kernel
theorem d_Tr_beginKids_13 : decode cb_Tr_beginKids 13 = .ok (.aload_n 0, 1) := by decide +kernel
theorem d_Tr_beginKids_14 : decode cb_Tr_beginKids 14 = .ok (.getfield 9, 3) := by decide +kernel
theorem d_Tr_beginKids_17 : decode cb_Tr_beginKids 17 = .ok (.iastore, 1) := by decide +kernel
theorem d_Tr_beginKids_18 : decode cb_Tr_beginKids 18 = .ok (.return_, 1) := by decide +kernel
abbrev cb_Tr_endKids : ByteArray := prog_10_method_23_code
def y_Tr_endKids : MethodName := ⟨R_Tr, "endKids", "(I)V"⟩
theorem d_Tr_endKids_0 : decode cb_Tr_endKids 0 = .ok (.aload_n 0, 1) := by decide +kernel
theorem d_Tr_endKids_1 : decode cb_Tr_endKids 1 = .ok (.iload_n 1, 1) := by decide +kernel
theorem d_Tr_endKids_2 : decode cb_Tr_endKids 2 = .ok (.invokevirtual 79, 3) := by decide +kernel
theorem d_Tr_endKids_5 : decode cb_Tr_endKids 5 = .ok (.ifCond .eq 20, 3) := by decide +kernel
theorem d_Tr_endKids_8 : decode cb_Tr_endKids 8 = .ok (.aload_n 0, 1) := by decide +kernel
theorem d_Tr_endKids_9 : decode cb_Tr_endKids 9 = .ok (.getfield 43, 3) := by decide +kernel
theorem d_Tr_endKids_12 : decode cb_Tr_endKids 12 = .ok (.iload_n 1, 1) := by decide +kernel
theorem d_Tr_endKids_13 : decode cb_Tr_endKids 13 = .ok (.aload_n 0, 1) := by decide +kernel
theorem d_Tr_endKids_14 : decode cb_Tr_endKids 14 = .ok (.getfield 9, 3) := by decide +kernel
theorem d_Tr_endKids_17 : decode cb_Tr_endKids 17 = .ok (.aload_n 0, 1) := by decide +kernel
theorem d_Tr_endKids_18 : decode cb_Tr_endKids 18 = .ok (.getfield 40, 3) := by decide +kernel
theorem d_Tr_endKids_21 : decode cb_Tr_endKids 21 = .ok (.iload_n 1, 1) := by decide +kernel
theorem d_Tr_endKids_22 : decode cb_Tr_endKids 22 = .ok (.iaload, 1) := by decide +kernel
theorem d_Tr_endKids_23 : decode cb_Tr_endKids 23 = .ok (.isub, 1) := by decide +kernel
theorem d_Tr_endKids_24 : decode cb_Tr_endKids 24 = .ok (.iastore, 1) := by decide +kernel
theorem d_Tr_endKids_25 : decode cb_Tr_endKids 25 = .ok (.return_, 1) := by decide +kernel
abbrev b_Tr_isNamed : ByteArray := prog_10_method_24_code
def y_Tr_isNamed : MethodName := ⟨R_Tr, "isNamed", "(I[II)Z"⟩
theorem d_Tr_isNamed_0 : decode b_Tr_isNamed 0 = .ok (.aload_n 0, 1) := by decide +kernel
theorem d_Tr_isNamed_1 : decode b_Tr_isNamed 1 = .ok (.iload_n 1, 1) := by decide +kernel
theorem d_Tr_isNamed_2 : decode b_Tr_isNamed 2 = .ok (.invokevirtual 79, 3) := by decide +kernel
theorem d_Tr_isNamed_5 : decode b_Tr_isNamed 5 = .ok (.ifCond .eq 19, 3) := by decide +kernel
theorem d_Tr_isNamed_8 : decode b_Tr_isNamed 8 = .ok (.aload_n 0, 1) := by decide +kernel
theorem d_Tr_isNamed_9 : decode b_Tr_isNamed 9 = .ok (.getfield 49, 3) := by decide +kernel
theorem d_Tr_isNamed_12 : decode b_Tr_isNamed 12 = .ok (.iload_n 1, 1) := by decide +kernel
theorem d_Tr_isNamed_13 : decode b_Tr_isNamed 13 = .ok (.iaload, 1) := by decide +kernel
theorem d_Tr_isNamed_14 : decode b_Tr_isNamed 14 = .ok (.iload_n 3, 1) := by decide +kernel
theorem d_Tr_isNamed_15 : decode b_Tr_isNamed 15 = .ok (.if_icmp .ne 9, 3) := by decide +kernel
theorem d_Tr_isNamed_18 : decode b_Tr_isNamed 18 = .ok (.iload_n 3, 1) := by decide +kernel
theorem d_Tr_isNamed_19 : decode b_Tr_isNamed 19 = .ok (.aload_n 2, 1) := by decide +kernel
theorem d_Tr_isNamed_20 : decode b_Tr_isNamed 20 = .ok (.arraylength, 1) := by decide +kernel
theorem d_Tr_isNamed_21 : decode b_Tr_isNamed 21 = .ok (.if_icmp .le 5, 3) := by decide +kernel
theorem d_Tr_isNamed_24 : decode b_Tr_isNamed 24 = .ok (.iconst 0, 1) := by decide +kernel
theorem d_Tr_isNamed_25 : decode b_Tr_isNamed 25 = .ok (.ireturn, 1) := by decide +kernel
theorem d_Tr_isNamed_26 : decode b_Tr_isNamed 26 = .ok (.aload_n 0, 1) := by decide +kernel
theorem d_Tr_isNamed_27 : decode b_Tr_isNamed 27 = .ok (.getfield 46, 3) := by decide +kernel
theorem d_Tr_isNamed_30 : decode b_Tr_isNamed 30 = .ok (.iload_n 1, 1) := by decide +kernel
theorem d_Tr_isNamed_31 : decode b_Tr_isNamed 31 = .ok (.iaload, 1) := by decide +kernel
theorem d_Tr_isNamed_32 : decode b_Tr_isNamed 32 = .ok (.istore 4, 2) := by decide +kernel
theorem d_Tr_isNamed_34 : decode b_Tr_isNamed 34 = .ok (.iconst 0, 1) := by decide +kernel
theorem d_Tr_isNamed_35 : decode b_Tr_isNamed 35 = .ok (.istore 5, 2) := by decide +kernel
theorem d_Tr_isNamed_37 : decode b_Tr_isNamed 37 = .ok (.iload 5, 2) := by decide +kernel
theorem d_Tr_isNamed_39 : decode b_Tr_isNamed 39 = .ok (.iload_n 3, 1) := by decide +kernel
theorem d_Tr_isNamed_40 : decode b_Tr_isNamed 40 = .ok (.if_icmp .ge 51, 3) := by decide +kernel
theorem d_Tr_isNamed_43 : decode b_Tr_isNamed 43 = .ok (.aload_n 0, 1) := by decide +kernel
theorem d_Tr_isNamed_44 : decode b_Tr_isNamed 44 = .ok (.getfield 61, 3) := by decide +kernel
theorem d_Tr_isNamed_47 : decode b_Tr_isNamed 47 = .ok (.iload 4, 2) := by decide +kernel
theorem d_Tr_isNamed_49 : decode b_Tr_isNamed 49 = .ok (.iload 5, 2) := by decide +kernel
theorem d_Tr_isNamed_51 : decode b_Tr_isNamed 51 = .ok (.iadd, 1) := by decide +kernel
theorem d_Tr_isNamed_52 : decode b_Tr_isNamed 52 = .ok (.iaload, 1) := by decide +kernel
theorem d_Tr_isNamed_53 : decode b_Tr_isNamed 53 = .ok (.aload_n 2, 1) := by decide +kernel
theorem d_Tr_isNamed_54 : decode b_Tr_isNamed 54 = .ok (.iload 5, 2) := by decide +kernel
theorem d_Tr_isNamed_56 : decode b_Tr_isNamed 56 = .ok (.iaload, 1) := by decide +kernel
theorem d_Tr_isNamed_57 : decode b_Tr_isNamed 57 = .ok (.if_icmp .eq 28, 3) := by decide +kernel
theorem d_Tr_isNamed_60 : decode b_Tr_isNamed 60 = .ok (.aload_n 0, 1) := by decide +kernel
theorem d_Tr_isNamed_61 : decode b_Tr_isNamed 61 = .ok (.getfield 61, 3) := by decide +kernel
theorem d_Tr_isNamed_64 : decode b_Tr_isNamed 64 = .ok (.iload 4, 2) := by decide +kernel
theorem d_Tr_isNamed_66 : decode b_Tr_isNamed 66 = .ok (.iload 5, 2) := by decide +kernel
theorem d_Tr_isNamed_68 : decode b_Tr_isNamed 68 = .ok (.iadd, 1) := by decide +kernel
theorem d_Tr_isNamed_69 : decode b_Tr_isNamed 69 = .ok (.iaload, 1) := by decide +kernel
theorem d_Tr_isNamed_70 : decode b_Tr_isNamed 70 = .ok (.invokestatic 95, 3) := by decide +kernel
theorem d_Tr_isNamed_73 : decode b_Tr_isNamed 73 = .ok (.aload_n 2, 1) := by decide +kernel
theorem d_Tr_isNamed_74 : decode b_Tr_isNamed 74 = .ok (.iload 5, 2) := by decide +kernel
theorem d_Tr_isNamed_76 : decode b_Tr_isNamed 76 = .ok (.iaload, 1) := by decide +kernel
theorem d_Tr_isNamed_77 : decode b_Tr_isNamed 77 = .ok (.invokestatic 95, 3) := by decide +kernel
theorem d_Tr_isNamed_80 : decode b_Tr_isNamed 80 = .ok (.if_icmp .eq 5, 3) := by decide +kernel
theorem d_Tr_isNamed_83 : decode b_Tr_isNamed 83 = .ok (.iconst 0, 1) := by decide +kernel
theorem d_Tr_isNamed_84 : decode b_Tr_isNamed 84 = .ok (.ireturn, 1) := by decide +kernel
theorem d_Tr_isNamed_85 : decode b_Tr_isNamed 85 = .ok (.iinc 5 1, 3) := by decide +kernel
theorem d_Tr_isNamed_88 : decode b_Tr_isNamed 88 = .ok (.goto (-51), 3) := by decide +kernel
theorem d_Tr_isNamed_91 : decode b_Tr_isNamed 91 = .ok (.iconst 1, 1) := by decide +kernel
theorem d_Tr_isNamed_92 : decode b_Tr_isNamed 92 = .ok (.ireturn, 1) := by decide +kernel
abbrev cb_Tr_isNamedAsRecord : ByteArray := prog_10_method_25_code
def y_Tr_isNamedAsRecord : MethodName := ⟨R_Tr, "isNamedAsRecord", "(I)Z"⟩
theorem d_Tr_isNamedAsRecord_0 : decode cb_Tr_isNamedAsRecord 0 = .ok (.aload_n 0, 1) := by decide +kernel
theorem d_Tr_isNamedAsRecord_1 : decode cb_Tr_isNamedAsRecord 1 = .ok (.iload_n 1, 1) := by decide +kernel
theorem d_Tr_isNamedAsRecord_2 : decode cb_Tr_isNamedAsRecord 2 = .ok (.invokevirtual 79, 3) := by decide +kernel
theorem d_Tr_isNamedAsRecord_5 : decode cb_Tr_isNamedAsRecord 5 = .ok (.ifCond .eq 17, 3) := by decide +kernel
theorem d_Tr_isNamedAsRecord_8 : decode cb_Tr_isNamedAsRecord 8 = .ok (.aload_n 0, 1) := by decide +kernel
theorem d_Tr_isNamedAsRecord_9 : decode cb_Tr_isNamedAsRecord 9 = .ok (.getfield 49, 3) := by decide +kernel
theorem d_Tr_isNamedAsRecord_12 : decode cb_Tr_isNamedAsRecord 12 = .ok (.iload_n 1, 1) := by decide +kernel
theorem d_Tr_isNamedAsRecord_13 : decode cb_Tr_isNamedAsRecord 13 = .ok (.iaload, 1) := by decide +kernel
theorem d_Tr_isNamedAsRecord_14 : decode cb_Tr_isNamedAsRecord 14 = .ok (.ldc 98, 2) := by decide +kernel
theorem d_Tr_isNamedAsRecord_16 : decode cb_Tr_isNamedAsRecord 16 = .ok (.invokevirtual 100, 3) := by decide +kernel
theorem d_Tr_isNamedAsRecord_19 : decode cb_Tr_isNamedAsRecord 19 = .ok (.if_icmp .eq 5, 3) := by decide +kernel
theorem d_Tr_isNamedAsRecord_22 : decode cb_Tr_isNamedAsRecord 22 = .ok (.iconst 0, 1) := by decide +kernel
theorem d_Tr_isNamedAsRecord_23 : decode cb_Tr_isNamedAsRecord 23 = .ok (.ireturn, 1) := by decide +kernel
theorem d_Tr_isNamedAsRecord_24 : decode cb_Tr_isNamedAsRecord 24 = .ok (.iconst 0, 1) := by decide +kernel
theorem d_Tr_isNamedAsRecord_25 : decode cb_Tr_isNamedAsRecord 25 = .ok (.istore_n 2, 1) := by decide +kernel
theorem d_Tr_isNamedAsRecord_26 : decode cb_Tr_isNamedAsRecord 26 = .ok (.iload_n 2, 1) := by decide +kernel
theorem d_Tr_isNamedAsRecord_27 : decode cb_Tr_isNamedAsRecord 27 = .ok (.ldc 98, 2) := by decide +kernel
theorem d_Tr_isNamedAsRecord_29 : decode cb_Tr_isNamedAsRecord 29 = .ok (.invokevirtual 100, 3) := by decide +kernel
theorem d_Tr_isNamedAsRecord_32 : decode cb_Tr_isNamedAsRecord 32 = .ok (.if_icmp .ge 39, 3) := by decide +kernel
theorem d_Tr_isNamedAsRecord_35 : decode cb_Tr_isNamedAsRecord 35 = .ok (.aload_n 0, 1) := by decide +kernel
theorem d_Tr_isNamedAsRecord_36 : decode cb_Tr_isNamedAsRecord 36 = .ok (.getfield 61, 3) := by decide +kernel
theorem d_Tr_isNamedAsRecord_39 : decode cb_Tr_isNamedAsRecord 39 = .ok (.aload_n 0, 1) := by decide +kernel
theorem d_Tr_isNamedAsRecord_40 : decode cb_Tr_isNamedAsRecord 40 = .ok (.getfield 46, 3) := by decide +kernel
theorem d_Tr_isNamedAsRecord_43 : decode cb_Tr_isNamedAsRecord 43 = .ok (.iload_n 1, 1) := by decide +kernel
theorem d_Tr_isNamedAsRecord_44 : decode cb_Tr_isNamedAsRecord 44 = .ok (.iaload, 1) := by decide +kernel
theorem d_Tr_isNamedAsRecord_45 : decode cb_Tr_isNamedAsRecord 45 = .ok (.iload_n 2, 1) := by decide +kernel
theorem d_Tr_isNamedAsRecord_46 : decode cb_Tr_isNamedAsRecord 46 = .ok (.iadd, 1) := by decide +kernel
theorem d_Tr_isNamedAsRecord_47 : decode cb_Tr_isNamedAsRecord 47 = .ok (.iaload, 1) := by decide +kernel
theorem d_Tr_isNamedAsRecord_48 : decode cb_Tr_isNamedAsRecord 48 = .ok (.invokestatic 95, 3) := by decide +kernel
theorem d_Tr_isNamedAsRecord_51 : decode cb_Tr_isNamedAsRecord 51 = .ok (.ldc 98, 2) := by decide +kernel
theorem d_Tr_isNamedAsRecord_53 : decode cb_Tr_isNamedAsRecord 53 = .ok (.iload_n 2, 1) := by decide +kernel
theorem d_Tr_isNamedAsRecord_54 : decode cb_Tr_isNamedAsRecord 54 = .ok (.invokevirtual 106, 3) := by decide +kernel
theorem d_Tr_isNamedAsRecord_57 : decode cb_Tr_isNamedAsRecord 57 = .ok (.invokestatic 95, 3) := by decide +kernel
theorem d_Tr_isNamedAsRecord_60 : decode cb_Tr_isNamedAsRecord 60 = .ok (.if_icmp .eq 5, 3) := by decide +kernel
theorem d_Tr_isNamedAsRecord_63 : decode cb_Tr_isNamedAsRecord 63 = .ok (.iconst 0, 1) := by decide +kernel
theorem d_Tr_isNamedAsRecord_64 : decode cb_Tr_isNamedAsRecord 64 = .ok (.ireturn, 1) := by decide +kernel
theorem d_Tr_isNamedAsRecord_65 : decode cb_Tr_isNamedAsRecord 65 = .ok (.iinc 2 1, 3) := by decide +kernel
theorem d_Tr_isNamedAsRecord_68 : decode cb_Tr_isNamedAsRecord 68 = .ok (.goto (-42), 3) := by decide +kernel
theorem d_Tr_isNamedAsRecord_71 : decode cb_Tr_isNamedAsRecord 71 = .ok (.iconst 1, 1) := by decide +kernel
theorem d_Tr_isNamedAsRecord_72 : decode cb_Tr_isNamedAsRecord 72 = .ok (.ireturn, 1) := by decide +kernel
abbrev cb_Tr_nameSize : ByteArray := prog_10_method_26_code
def y_Tr_nameSize : MethodName := ⟨R_Tr, "nameSize", "(I)I"⟩
theorem d_Tr_nameSize_0 : decode cb_Tr_nameSize 0 = .ok (.aload_n 0, 1) := by decide +kernel
theorem d_Tr_nameSize_1 : decode cb_Tr_nameSize 1 = .ok (.iload_n 1, 1) := by decide +kernel
theorem d_Tr_nameSize_2 : decode cb_Tr_nameSize 2 = .ok (.invokevirtual 79, 3) := by decide +kernel
theorem d_Tr_nameSize_5 : decode cb_Tr_nameSize 5 = .ok (.ifCond .eq 12, 3) := by decide +kernel
theorem d_Tr_nameSize_8 : decode cb_Tr_nameSize 8 = .ok (.aload_n 0, 1) := by decide +kernel
theorem d_Tr_nameSize_9 : decode cb_Tr_nameSize 9 = .ok (.getfield 52, 3) := by decide +kernel
theorem d_Tr_nameSize_12 : decode cb_Tr_nameSize 12 = .ok (.iload_n 1, 1) := by decide +kernel
theorem d_Tr_nameSize_13 : decode cb_Tr_nameSize 13 = .ok (.iaload, 1) := by decide +kernel
theorem d_Tr_nameSize_14 : decode cb_Tr_nameSize 14 = .ok (.goto 4, 3) := by decide +kernel
theorem d_Tr_nameSize_17 : decode cb_Tr_nameSize 17 = .ok (.iconst 0, 1) := by decide +kernel
theorem d_Tr_nameSize_18 : decode cb_Tr_nameSize 18 = .ok (.ireturn, 1) := by decide +kernel
abbrev cb_Tr_nameByte : ByteArray := prog_10_method_27_code
def y_Tr_nameByte : MethodName := ⟨R_Tr, "nameByte", "(II)I"⟩
theorem d_Tr_nameByte_0 : decode cb_Tr_nameByte 0 = .ok (.aload_n 0, 1) := by decide +kernel
theorem d_Tr_nameByte_1 : decode cb_Tr_nameByte 1 = .ok (.iload_n 1, 1) := by decide +kernel
theorem d_Tr_nameByte_2 : decode cb_Tr_nameByte 2 = .ok (.invokevirtual 79, 3) := by decide +kernel
theorem d_Tr_nameByte_5 : decode cb_Tr_nameByte 5 = .ok (.ifCond .eq 17, 3) := by decide +kernel
theorem d_Tr_nameByte_8 : decode cb_Tr_nameByte 8 = .ok (.iload_n 2, 1) := by decide +kernel
theorem d_Tr_nameByte_9 : decode cb_Tr_nameByte 9 = .ok (.ifCond .lt 13, 3) := by decide +kernel
theorem d_Tr_nameByte_12 : decode cb_Tr_nameByte 12 = .ok (.iload_n 2, 1) := by decide +kernel
theorem d_Tr_nameByte_13 : decode cb_Tr_nameByte 13 = .ok (.aload_n 0, 1) := by decide +kernel
theorem d_Tr_nameByte_14 : decode cb_Tr_nameByte 14 = .ok (.getfield 52, 3) := by decide +kernel
theorem d_Tr_nameByte_17 : decode cb_Tr_nameByte 17 = .ok (.iload_n 1, 1) := by decide +kernel
theorem d_Tr_nameByte_18 : decode cb_Tr_nameByte 18 = .ok (.iaload, 1) := by decide +kernel
theorem d_Tr_nameByte_19 : decode cb_Tr_nameByte 19 = .ok (.if_icmp .lt 5, 3) := by decide +kernel
theorem d_Tr_nameByte_22 : decode cb_Tr_nameByte 22 = .ok (.iconst (-1), 1) := by decide +kernel
theorem d_Tr_nameByte_23 : decode cb_Tr_nameByte 23 = .ok (.ireturn, 1) := by decide +kernel
theorem d_Tr_nameByte_24 : decode cb_Tr_nameByte 24 = .ok (.iload_n 2, 1) := by decide +kernel
theorem d_Tr_nameByte_25 : decode cb_Tr_nameByte 25 = .ok (.istore_n 3, 1) := by decide +kernel
theorem d_Tr_nameByte_26 : decode cb_Tr_nameByte 26 = .ok (.iconst 0, 1) := by decide +kernel
theorem d_Tr_nameByte_27 : decode cb_Tr_nameByte 27 = .ok (.istore 4, 2) := by decide +kernel
theorem d_Tr_nameByte_29 : decode cb_Tr_nameByte 29 = .ok (.iload 4, 2) := by decide +kernel
theorem d_Tr_nameByte_31 : decode cb_Tr_nameByte 31 = .ok (.aload_n 0, 1) := by decide +kernel
theorem d_Tr_nameByte_32 : decode cb_Tr_nameByte 32 = .ok (.getfield 49, 3) := by decide +kernel
theorem d_Tr_nameByte_35 : decode cb_Tr_nameByte 35 = .ok (.iload_n 1, 1) := by decide +kernel
theorem d_Tr_nameByte_36 : decode cb_Tr_nameByte 36 = .ok (.iaload, 1) := by decide +kernel
theorem d_Tr_nameByte_37 : decode cb_Tr_nameByte 37 = .ok (.if_icmp .ge 50, 3) := by decide +kernel
theorem d_Tr_nameByte_40 : decode cb_Tr_nameByte 40 = .ok (.aload_n 0, 1) := by decide +kernel
theorem d_Tr_nameByte_41 : decode cb_Tr_nameByte 41 = .ok (.getfield 61, 3) := by decide +kernel
theorem d_Tr_nameByte_44 : decode cb_Tr_nameByte 44 = .ok (.aload_n 0, 1) := by decide +kernel
theorem d_Tr_nameByte_45 : decode cb_Tr_nameByte 45 = .ok (.getfield 46, 3) := by decide +kernel
theorem d_Tr_nameByte_48 : decode cb_Tr_nameByte 48 = .ok (.iload_n 1, 1) := by decide +kernel
theorem d_Tr_nameByte_49 : decode cb_Tr_nameByte 49 = .ok (.iaload, 1) := by decide +kernel
theorem d_Tr_nameByte_50 : decode cb_Tr_nameByte 50 = .ok (.iload 4, 2) := by decide +kernel
theorem d_Tr_nameByte_52 : decode cb_Tr_nameByte 52 = .ok (.iadd, 1) := by decide +kernel
theorem d_Tr_nameByte_53 : decode cb_Tr_nameByte 53 = .ok (.iaload, 1) := by decide +kernel
theorem d_Tr_nameByte_54 : decode cb_Tr_nameByte 54 = .ok (.istore 5, 2) := by decide +kernel
theorem d_Tr_nameByte_56 : decode cb_Tr_nameByte 56 = .ok (.iload 5, 2) := by decide +kernel
theorem d_Tr_nameByte_58 : decode cb_Tr_nameByte 58 = .ok (.invokestatic 89, 3) := by decide +kernel
theorem d_Tr_nameByte_61 : decode cb_Tr_nameByte 61 = .ok (.istore 6, 2) := by decide +kernel
theorem d_Tr_nameByte_63 : decode cb_Tr_nameByte 63 = .ok (.iload_n 3, 1) := by decide +kernel
theorem d_Tr_nameByte_64 : decode cb_Tr_nameByte 64 = .ok (.iload 6, 2) := by decide +kernel
theorem d_Tr_nameByte_66 : decode cb_Tr_nameByte 66 = .ok (.if_icmp .ge 10, 3) := by decide +kernel
theorem d_Tr_nameByte_69 : decode cb_Tr_nameByte 69 = .ok (.iload 5, 2) := by decide +kernel
theorem d_Tr_nameByte_71 : decode cb_Tr_nameByte 71 = .ok (.iload_n 3, 1) := by decide +kernel
theorem d_Tr_nameByte_72 : decode cb_Tr_nameByte 72 = .ok (.invokestatic 110, 3) := by decide +kernel
theorem d_Tr_nameByte_75 : decode cb_Tr_nameByte 75 = .ok (.ireturn, 1) := by decide +kernel
theorem d_Tr_nameByte_76 : decode cb_Tr_nameByte 76 = .ok (.iload_n 3, 1) := by decide +kernel
theorem d_Tr_nameByte_77 : decode cb_Tr_nameByte 77 = .ok (.iload 6, 2) := by decide +kernel
theorem d_Tr_nameByte_79 : decode cb_Tr_nameByte 79 = .ok (.isub, 1) := by decide +kernel
theorem d_Tr_nameByte_80 : decode cb_Tr_nameByte 80 = .ok (.istore_n 3, 1) := by decide +kernel
theorem d_Tr_nameByte_81 : decode cb_Tr_nameByte 81 = .ok (.iinc 4 1, 3) := by decide +kernel
theorem d_Tr_nameByte_84 : decode cb_Tr_nameByte 84 = .ok (.goto (-55), 3) := by decide +kernel
theorem d_Tr_nameByte_87 : decode cb_Tr_nameByte 87 = .ok (.iconst (-1), 1) := by decide +kernel
theorem d_Tr_nameByte_88 : decode cb_Tr_nameByte 88 = .ok (.ireturn, 1) := by decide +kernel
def K_Tr : List Cond := [(.initialized "VolumeTurner$Tree"), (.instantiable "VolumeTurner$Tree" 18), (.instanceMethod y_Tr_init), (.code y_Tr_init prog_10_method_1_code 1 none), (.methodLink "VolumeTurner$Tree" 3 objectInit), (.fieldLink "VolumeTurner$Tree" 9 "VolumeTurner$Tree" "count" "I"), (.fieldLink "VolumeTurner$Tree" 15 "VolumeTurner$Tree" "label" "I"), (.fieldLink "VolumeTurner$Tree" 18 "VolumeTurner$Tree" "parent" "[I"), (.fieldLink "VolumeTurner$Tree" 22 "VolumeTurner$Tree" "first" "[I"), (.fieldLink "VolumeTurner$Tree" 25 "VolumeTurner$Tree" "size" "[I"), (.fieldLink "VolumeTurner$Tree" 28 "VolumeTurner$Tree" "bits" "[I"), (.fieldLink "VolumeTurner$Tree" 31 "VolumeTurner$Tree" "spot" "[I"), (.fieldLink "VolumeTurner$Tree" 34 "VolumeTurner$Tree" "slot" "[I"), (.fieldLink "VolumeTurner$Tree" 37 "VolumeTurner$Tree" "parts" "[I"), (.fieldLink "VolumeTurner$Tree" 40 "VolumeTurner$Tree" "kids" "[I"), (.fieldLink "VolumeTurner$Tree" 43 "VolumeTurner$Tree" "kidCount" "[I"), (.fieldLink "VolumeTurner$Tree" 46 "VolumeTurner$Tree" "nameAt" "[I"), (.fieldLink "VolumeTurner$Tree" 49 "VolumeTurner$Tree" "nameLength" "[I"), (.fieldLink "VolumeTurner$Tree" 52 "VolumeTurner$Tree" "nameBytes" "[I"), (.fieldLink "VolumeTurner$Tree" 55 "VolumeTurner$Tree" "built" "[I"), (.fieldLink "VolumeTurner$Tree" 58 "VolumeTurner$Tree" "builtBlocks" "[I"), (.fieldLink "VolumeTurner$Tree" 61 "VolumeTurner$Tree" "pool" "[I"), (.fieldLink "VolumeTurner$Tree" 64 "VolumeTurner$Tree" "pooled" "I"), (.instanceMethod y_Tr_startWith), (.selects "VolumeTurner$Tree" y_Tr_startWith y_Tr_startWith), (.code y_Tr_startWith prog_10_method_2_code 2 none), (.methodLink "VolumeTurner$Tree" 67 y_Tr_addItem), (.instanceMethod y_Tr_addItem), (.selects "VolumeTurner$Tree" y_Tr_addItem y_Tr_addItem), (.code y_Tr_addItem prog_10_method_3_code 4 (some .int)), (.methodLink "VolumeTurner$Tree" 75 y_Tr_widen), (.instanceMethod y_Tr_widen), (.code y_Tr_widen prog_10_method_7_code 2 none), (.methodLink "VolumeTurner$Tree" 83 ⟨"java/util/Arrays", "copyOf", "([II)[I"⟩), (.methodLink "VolumeTurner$Tree" 71 y_Tr_place), (.instanceMethod y_Tr_place), (.selects "VolumeTurner$Tree" y_Tr_place y_Tr_place), (.code y_Tr_place prog_10_method_4_code 6 none), (.methodLink "VolumeTurner$Tree" 79 y_Tr_has), (.instanceMethod y_Tr_has), (.selects "VolumeTurner$Tree" y_Tr_has y_Tr_has), (.code y_Tr_has prog_10_method_9_code 2 (some .boolean)), (.instanceMethod y_Tr_isDirectory), (.selects "VolumeTurner$Tree" y_Tr_isDirectory y_Tr_isDirectory), (.code y_Tr_isDirectory prog_10_method_10_code 2 (some .boolean)), (.instanceMethod y_Tr_firstOf), (.selects "VolumeTurner$Tree" y_Tr_firstOf y_Tr_firstOf), (.code y_Tr_firstOf prog_10_method_21_code 2 (some .int)), (.instanceMethod y_Tr_beginKids), (.selects "VolumeTurner$Tree" y_Tr_beginKids y_Tr_beginKids), (.code y_Tr_beginKids prog_10_method_22_code 2 none), (.instanceMethod y_Tr_parentOf), (.selects "VolumeTurner$Tree" y_Tr_parentOf y_Tr_parentOf), (.code y_Tr_parentOf prog_10_method_13_code 2 (some .int)), (.instanceMethod y_Tr_kid), (.selects "VolumeTurner$Tree" y_Tr_kid y_Tr_kid), (.code y_Tr_kid prog_10_method_12_code 3 (some .int)), (.instanceMethod y_Tr_spotOf), (.selects "VolumeTurner$Tree" y_Tr_spotOf y_Tr_spotOf), (.code y_Tr_spotOf prog_10_method_19_code 2 (some .int)), (.instanceMethod y_Tr_isNamed), (.selects "VolumeTurner$Tree" y_Tr_isNamed y_Tr_isNamed), (.code y_Tr_isNamed prog_10_method_24_code 6 (some .boolean)), (.methodLink "VolumeTurner$Tree" 95 y_Wo_capital), (.instanceMethod y_Tr_nameLast), (.selects "VolumeTurner$Tree" y_Tr_nameLast y_Tr_nameLast), (.code y_Tr_nameLast prog_10_method_8_code 6 none), (.methodLink "VolumeTurner$Tree" 89 y_Wo_width), (.instanceMethod y_Tr_setSize), (.selects "VolumeTurner$Tree" y_Tr_setSize y_Tr_setSize), (.code y_Tr_setSize prog_10_method_5_code 3 none), (.instanceMethod y_Tr_endKids), (.selects "VolumeTurner$Tree" y_Tr_endKids y_Tr_endKids), (.code y_Tr_endKids prog_10_method_23_code 2 none), (.instanceMethod y_Tr_nameSize), (.selects "VolumeTurner$Tree" y_Tr_nameSize y_Tr_nameSize), (.code y_Tr_nameSize prog_10_method_26_code 2 (some .int)), (.instanceMethod y_Tr_isNamedAsRecord), (.selects "VolumeTurner$Tree" y_Tr_isNamedAsRecord y_Tr_isNamedAsRecord), (.code y_Tr_isNamedAsRecord prog_10_method_25_code 3 (some .boolean)), (.methodLink "VolumeTurner$Tree" 100 ⟨"java/lang/String", "length", "()I"⟩), (.methodLink "VolumeTurner$Tree" 106 ⟨"java/lang/String", "charAt", "(I)C"⟩), (.instanceMethod y_Tr_builtBlocksOf), (.selects "VolumeTurner$Tree" y_Tr_builtBlocksOf y_Tr_builtBlocksOf), (.code y_Tr_builtBlocksOf prog_10_method_17_code 2 (some .int)), (.instanceMethod y_Tr_builtOf), (.selects "VolumeTurner$Tree" y_Tr_builtOf y_Tr_builtOf), (.code y_Tr_builtOf prog_10_method_16_code 2 (some .int)), (.instanceMethod y_Tr_sizeOf), (.selects "VolumeTurner$Tree" y_Tr_sizeOf y_Tr_sizeOf), (.code y_Tr_sizeOf prog_10_method_20_code 2 (some .int)), (.instanceMethod y_Tr_countIn), (.selects "VolumeTurner$Tree" y_Tr_countIn y_Tr_countIn), (.code y_Tr_countIn prog_10_method_11_code 2 (some .int)), (.instanceMethod y_Tr_setBuilt), (.selects "VolumeTurner$Tree" y_Tr_setBuilt y_Tr_setBuilt), (.code y_Tr_setBuilt prog_10_method_6_code 4 none), (.instanceMethod y_Tr_nameByte), (.selects "VolumeTurner$Tree" y_Tr_nameByte y_Tr_nameByte), (.code y_Tr_nameByte prog_10_method_27_code 7 (some .int)), (.methodLink "VolumeTurner$Tree" 110 y_Wo_byteOf), (.instanceMethod y_Tr_isReadOnly), (.selects "VolumeTurner$Tree" y_Tr_isReadOnly y_Tr_isReadOnly), (.code y_Tr_isReadOnly prog_10_method_14_code 2 (some .boolean)), (.instanceMethod y_Tr_slotOf), (.selects "VolumeTurner$Tree" y_Tr_slotOf y_Tr_slotOf), (.code y_Tr_slotOf prog_10_method_18_code 2 (some .int)), (.instanceMethod y_Tr_partsOf), (.selects "VolumeTurner$Tree" y_Tr_partsOf y_Tr_partsOf), (.code y_Tr_partsOf prog_10_method_15_code 2 (some .int)), (.selects "VolumeTurner$Tree" y_Tr_widen y_Tr_widen)]
theorem j_Tr_0 : (.initialized "VolumeTurner$Tree") ∈ K_Tr := List.mem_of_getElem? (i := 0) rfl
theorem j_Tr_1 : (.instantiable "VolumeTurner$Tree" 18) ∈ K_Tr := List.mem_of_getElem? (i := 1) rfl
theorem j_Tr_2 : (.instanceMethod y_Tr_init) ∈ K_Tr := List.mem_of_getElem? (i := 2) rfl
theorem j_Tr_3 : (.code y_Tr_init prog_10_method_1_code 1 none) ∈ K_Tr := List.mem_of_getElem? (i := 3) rfl
theorem j_Tr_4 : (.methodLink "VolumeTurner$Tree" 3 objectInit) ∈ K_Tr := List.mem_of_getElem? (i := 4) rfl
theorem j_Tr_5 : (.fieldLink "VolumeTurner$Tree" 9 "VolumeTurner$Tree" "count" "I") ∈ K_Tr := List.mem_of_getElem? (i := 5) rfl
theorem j_Tr_6 : (.fieldLink "VolumeTurner$Tree" 15 "VolumeTurner$Tree" "label" "I") ∈ K_Tr := List.mem_of_getElem? (i := 6) rfl
theorem j_Tr_7 : (.fieldLink "VolumeTurner$Tree" 18 "VolumeTurner$Tree" "parent" "[I") ∈ K_Tr := List.mem_of_getElem? (i := 7) rfl
theorem j_Tr_8 : (.fieldLink "VolumeTurner$Tree" 22 "VolumeTurner$Tree" "first" "[I") ∈ K_Tr := List.mem_of_getElem? (i := 8) rfl
theorem j_Tr_9 : (.fieldLink "VolumeTurner$Tree" 25 "VolumeTurner$Tree" "size" "[I") ∈ K_Tr := List.mem_of_getElem? (i := 9) rfl
theorem j_Tr_10 : (.fieldLink "VolumeTurner$Tree" 28 "VolumeTurner$Tree" "bits" "[I") ∈ K_Tr := List.mem_of_getElem? (i := 10) rfl
theorem j_Tr_11 : (.fieldLink "VolumeTurner$Tree" 31 "VolumeTurner$Tree" "spot" "[I") ∈ K_Tr := List.mem_of_getElem? (i := 11) rfl
theorem j_Tr_12 : (.fieldLink "VolumeTurner$Tree" 34 "VolumeTurner$Tree" "slot" "[I") ∈ K_Tr := List.mem_of_getElem? (i := 12) rfl
theorem j_Tr_13 : (.fieldLink "VolumeTurner$Tree" 37 "VolumeTurner$Tree" "parts" "[I") ∈ K_Tr := List.mem_of_getElem? (i := 13) rfl
theorem j_Tr_14 : (.fieldLink "VolumeTurner$Tree" 40 "VolumeTurner$Tree" "kids" "[I") ∈ K_Tr := List.mem_of_getElem? (i := 14) rfl
theorem j_Tr_15 : (.fieldLink "VolumeTurner$Tree" 43 "VolumeTurner$Tree" "kidCount" "[I") ∈ K_Tr := List.mem_of_getElem? (i := 15) rfl
theorem j_Tr_16 : (.fieldLink "VolumeTurner$Tree" 46 "VolumeTurner$Tree" "nameAt" "[I") ∈ K_Tr := List.mem_of_getElem? (i := 16) rfl
theorem j_Tr_17 : (.fieldLink "VolumeTurner$Tree" 49 "VolumeTurner$Tree" "nameLength" "[I") ∈ K_Tr := List.mem_of_getElem? (i := 17) rfl
theorem j_Tr_18 : (.fieldLink "VolumeTurner$Tree" 52 "VolumeTurner$Tree" "nameBytes" "[I") ∈ K_Tr := List.mem_of_getElem? (i := 18) rfl
theorem j_Tr_19 : (.fieldLink "VolumeTurner$Tree" 55 "VolumeTurner$Tree" "built" "[I") ∈ K_Tr := List.mem_of_getElem? (i := 19) rfl
theorem j_Tr_20 : (.fieldLink "VolumeTurner$Tree" 58 "VolumeTurner$Tree" "builtBlocks" "[I") ∈ K_Tr := List.mem_of_getElem? (i := 20) rfl
theorem j_Tr_21 : (.fieldLink "VolumeTurner$Tree" 61 "VolumeTurner$Tree" "pool" "[I") ∈ K_Tr := List.mem_of_getElem? (i := 21) rfl
theorem j_Tr_22 : (.fieldLink "VolumeTurner$Tree" 64 "VolumeTurner$Tree" "pooled" "I") ∈ K_Tr := List.mem_of_getElem? (i := 22) rfl
theorem j_Tr_23 : (.instanceMethod y_Tr_startWith) ∈ K_Tr := List.mem_of_getElem? (i := 23) rfl
theorem j_Tr_24 : (.selects "VolumeTurner$Tree" y_Tr_startWith y_Tr_startWith) ∈ K_Tr := List.mem_of_getElem? (i := 24) rfl
theorem j_Tr_25 : (.code y_Tr_startWith prog_10_method_2_code 2 none) ∈ K_Tr := List.mem_of_getElem? (i := 25) rfl
theorem j_Tr_26 : (.methodLink "VolumeTurner$Tree" 67 y_Tr_addItem) ∈ K_Tr := List.mem_of_getElem? (i := 26) rfl
theorem j_Tr_27 : (.instanceMethod y_Tr_addItem) ∈ K_Tr := List.mem_of_getElem? (i := 27) rfl
theorem j_Tr_28 : (.selects "VolumeTurner$Tree" y_Tr_addItem y_Tr_addItem) ∈ K_Tr := List.mem_of_getElem? (i := 28) rfl
theorem j_Tr_29 : (.code y_Tr_addItem prog_10_method_3_code 4 (some .int)) ∈ K_Tr := List.mem_of_getElem? (i := 29) rfl
theorem j_Tr_30 : (.methodLink "VolumeTurner$Tree" 75 y_Tr_widen) ∈ K_Tr := List.mem_of_getElem? (i := 30) rfl
theorem j_Tr_31 : (.instanceMethod y_Tr_widen) ∈ K_Tr := List.mem_of_getElem? (i := 31) rfl
theorem j_Tr_32 : (.code y_Tr_widen prog_10_method_7_code 2 none) ∈ K_Tr := List.mem_of_getElem? (i := 32) rfl
theorem j_Tr_33 : (.methodLink "VolumeTurner$Tree" 83 ⟨"java/util/Arrays", "copyOf", "([II)[I"⟩) ∈ K_Tr := List.mem_of_getElem? (i := 33) rfl
theorem j_Tr_34 : (.methodLink "VolumeTurner$Tree" 71 y_Tr_place) ∈ K_Tr := List.mem_of_getElem? (i := 34) rfl
theorem j_Tr_35 : (.instanceMethod y_Tr_place) ∈ K_Tr := List.mem_of_getElem? (i := 35) rfl
theorem j_Tr_36 : (.selects "VolumeTurner$Tree" y_Tr_place y_Tr_place) ∈ K_Tr := List.mem_of_getElem? (i := 36) rfl
theorem j_Tr_37 : (.code y_Tr_place prog_10_method_4_code 6 none) ∈ K_Tr := List.mem_of_getElem? (i := 37) rfl
theorem j_Tr_38 : (.methodLink "VolumeTurner$Tree" 79 y_Tr_has) ∈ K_Tr := List.mem_of_getElem? (i := 38) rfl
theorem j_Tr_39 : (.instanceMethod y_Tr_has) ∈ K_Tr := List.mem_of_getElem? (i := 39) rfl
theorem j_Tr_40 : (.selects "VolumeTurner$Tree" y_Tr_has y_Tr_has) ∈ K_Tr := List.mem_of_getElem? (i := 40) rfl
theorem j_Tr_41 : (.code y_Tr_has prog_10_method_9_code 2 (some .boolean)) ∈ K_Tr := List.mem_of_getElem? (i := 41) rfl
theorem j_Tr_42 : (.instanceMethod y_Tr_isDirectory) ∈ K_Tr := List.mem_of_getElem? (i := 42) rfl
theorem j_Tr_43 : (.selects "VolumeTurner$Tree" y_Tr_isDirectory y_Tr_isDirectory) ∈ K_Tr := List.mem_of_getElem? (i := 43) rfl
theorem j_Tr_44 : (.code y_Tr_isDirectory prog_10_method_10_code 2 (some .boolean)) ∈ K_Tr := List.mem_of_getElem? (i := 44) rfl
theorem j_Tr_45 : (.instanceMethod y_Tr_firstOf) ∈ K_Tr := List.mem_of_getElem? (i := 45) rfl
theorem j_Tr_46 : (.selects "VolumeTurner$Tree" y_Tr_firstOf y_Tr_firstOf) ∈ K_Tr := List.mem_of_getElem? (i := 46) rfl
theorem j_Tr_47 : (.code y_Tr_firstOf prog_10_method_21_code 2 (some .int)) ∈ K_Tr := List.mem_of_getElem? (i := 47) rfl
theorem j_Tr_48 : (.instanceMethod y_Tr_beginKids) ∈ K_Tr := List.mem_of_getElem? (i := 48) rfl
theorem j_Tr_49 : (.selects "VolumeTurner$Tree" y_Tr_beginKids y_Tr_beginKids) ∈ K_Tr := List.mem_of_getElem? (i := 49) rfl
theorem j_Tr_50 : (.code y_Tr_beginKids prog_10_method_22_code 2 none) ∈ K_Tr := List.mem_of_getElem? (i := 50) rfl
theorem j_Tr_51 : (.instanceMethod y_Tr_parentOf) ∈ K_Tr := List.mem_of_getElem? (i := 51) rfl
theorem j_Tr_52 : (.selects "VolumeTurner$Tree" y_Tr_parentOf y_Tr_parentOf) ∈ K_Tr := List.mem_of_getElem? (i := 52) rfl
theorem j_Tr_53 : (.code y_Tr_parentOf prog_10_method_13_code 2 (some .int)) ∈ K_Tr := List.mem_of_getElem? (i := 53) rfl
theorem j_Tr_54 : (.instanceMethod y_Tr_kid) ∈ K_Tr := List.mem_of_getElem? (i := 54) rfl
theorem j_Tr_55 : (.selects "VolumeTurner$Tree" y_Tr_kid y_Tr_kid) ∈ K_Tr := List.mem_of_getElem? (i := 55) rfl
theorem j_Tr_56 : (.code y_Tr_kid prog_10_method_12_code 3 (some .int)) ∈ K_Tr := List.mem_of_getElem? (i := 56) rfl
theorem j_Tr_57 : (.instanceMethod y_Tr_spotOf) ∈ K_Tr := List.mem_of_getElem? (i := 57) rfl
theorem j_Tr_58 : (.selects "VolumeTurner$Tree" y_Tr_spotOf y_Tr_spotOf) ∈ K_Tr := List.mem_of_getElem? (i := 58) rfl
theorem j_Tr_59 : (.code y_Tr_spotOf prog_10_method_19_code 2 (some .int)) ∈ K_Tr := List.mem_of_getElem? (i := 59) rfl
theorem j_Tr_60 : (.instanceMethod y_Tr_isNamed) ∈ K_Tr := List.mem_of_getElem? (i := 60) rfl
theorem j_Tr_61 : (.selects "VolumeTurner$Tree" y_Tr_isNamed y_Tr_isNamed) ∈ K_Tr := List.mem_of_getElem? (i := 61) rfl
theorem j_Tr_62 : (.code y_Tr_isNamed prog_10_method_24_code 6 (some .boolean)) ∈ K_Tr := List.mem_of_getElem? (i := 62) rfl
theorem j_Tr_63 : (.methodLink "VolumeTurner$Tree" 95 y_Wo_capital) ∈ K_Tr := List.mem_of_getElem? (i := 63) rfl
theorem j_Tr_64 : (.instanceMethod y_Tr_nameLast) ∈ K_Tr := List.mem_of_getElem? (i := 64) rfl
theorem j_Tr_65 : (.selects "VolumeTurner$Tree" y_Tr_nameLast y_Tr_nameLast) ∈ K_Tr := List.mem_of_getElem? (i := 65) rfl
theorem j_Tr_66 : (.code y_Tr_nameLast prog_10_method_8_code 6 none) ∈ K_Tr := List.mem_of_getElem? (i := 66) rfl
theorem j_Tr_67 : (.methodLink "VolumeTurner$Tree" 89 y_Wo_width) ∈ K_Tr := List.mem_of_getElem? (i := 67) rfl
theorem j_Tr_68 : (.instanceMethod y_Tr_setSize) ∈ K_Tr := List.mem_of_getElem? (i := 68) rfl
theorem j_Tr_69 : (.selects "VolumeTurner$Tree" y_Tr_setSize y_Tr_setSize) ∈ K_Tr := List.mem_of_getElem? (i := 69) rfl
theorem j_Tr_70 : (.code y_Tr_setSize prog_10_method_5_code 3 none) ∈ K_Tr := List.mem_of_getElem? (i := 70) rfl
theorem j_Tr_71 : (.instanceMethod y_Tr_endKids) ∈ K_Tr := List.mem_of_getElem? (i := 71) rfl
theorem j_Tr_72 : (.selects "VolumeTurner$Tree" y_Tr_endKids y_Tr_endKids) ∈ K_Tr := List.mem_of_getElem? (i := 72) rfl
theorem j_Tr_73 : (.code y_Tr_endKids prog_10_method_23_code 2 none) ∈ K_Tr := List.mem_of_getElem? (i := 73) rfl
theorem j_Tr_74 : (.instanceMethod y_Tr_nameSize) ∈ K_Tr := List.mem_of_getElem? (i := 74) rfl
theorem j_Tr_75 : (.selects "VolumeTurner$Tree" y_Tr_nameSize y_Tr_nameSize) ∈ K_Tr := List.mem_of_getElem? (i := 75) rfl
theorem j_Tr_76 : (.code y_Tr_nameSize prog_10_method_26_code 2 (some .int)) ∈ K_Tr := List.mem_of_getElem? (i := 76) rfl
theorem j_Tr_77 : (.instanceMethod y_Tr_isNamedAsRecord) ∈ K_Tr := List.mem_of_getElem? (i := 77) rfl
theorem j_Tr_78 : (.selects "VolumeTurner$Tree" y_Tr_isNamedAsRecord y_Tr_isNamedAsRecord) ∈ K_Tr := List.mem_of_getElem? (i := 78) rfl
theorem j_Tr_79 : (.code y_Tr_isNamedAsRecord prog_10_method_25_code 3 (some .boolean)) ∈ K_Tr := List.mem_of_getElem? (i := 79) rfl
theorem j_Tr_80 : (.methodLink "VolumeTurner$Tree" 100 ⟨"java/lang/String", "length", "()I"⟩) ∈ K_Tr := List.mem_of_getElem? (i := 80) rfl
theorem j_Tr_81 : (.methodLink "VolumeTurner$Tree" 106 ⟨"java/lang/String", "charAt", "(I)C"⟩) ∈ K_Tr := List.mem_of_getElem? (i := 81) rfl
theorem j_Tr_82 : (.instanceMethod y_Tr_builtBlocksOf) ∈ K_Tr := List.mem_of_getElem? (i := 82) rfl
theorem j_Tr_83 : (.selects "VolumeTurner$Tree" y_Tr_builtBlocksOf y_Tr_builtBlocksOf) ∈ K_Tr := List.mem_of_getElem? (i := 83) rfl
theorem j_Tr_84 : (.code y_Tr_builtBlocksOf prog_10_method_17_code 2 (some .int)) ∈ K_Tr := List.mem_of_getElem? (i := 84) rfl
theorem j_Tr_85 : (.instanceMethod y_Tr_builtOf) ∈ K_Tr := List.mem_of_getElem? (i := 85) rfl
theorem j_Tr_86 : (.selects "VolumeTurner$Tree" y_Tr_builtOf y_Tr_builtOf) ∈ K_Tr := List.mem_of_getElem? (i := 86) rfl
theorem j_Tr_87 : (.code y_Tr_builtOf prog_10_method_16_code 2 (some .int)) ∈ K_Tr := List.mem_of_getElem? (i := 87) rfl
theorem j_Tr_88 : (.instanceMethod y_Tr_sizeOf) ∈ K_Tr := List.mem_of_getElem? (i := 88) rfl
theorem j_Tr_89 : (.selects "VolumeTurner$Tree" y_Tr_sizeOf y_Tr_sizeOf) ∈ K_Tr := List.mem_of_getElem? (i := 89) rfl
theorem j_Tr_90 : (.code y_Tr_sizeOf prog_10_method_20_code 2 (some .int)) ∈ K_Tr := List.mem_of_getElem? (i := 90) rfl
theorem j_Tr_91 : (.instanceMethod y_Tr_countIn) ∈ K_Tr := List.mem_of_getElem? (i := 91) rfl
theorem j_Tr_92 : (.selects "VolumeTurner$Tree" y_Tr_countIn y_Tr_countIn) ∈ K_Tr := List.mem_of_getElem? (i := 92) rfl
theorem j_Tr_93 : (.code y_Tr_countIn prog_10_method_11_code 2 (some .int)) ∈ K_Tr := List.mem_of_getElem? (i := 93) rfl
theorem j_Tr_94 : (.instanceMethod y_Tr_setBuilt) ∈ K_Tr := List.mem_of_getElem? (i := 94) rfl
theorem j_Tr_95 : (.selects "VolumeTurner$Tree" y_Tr_setBuilt y_Tr_setBuilt) ∈ K_Tr := List.mem_of_getElem? (i := 95) rfl
theorem j_Tr_96 : (.code y_Tr_setBuilt prog_10_method_6_code 4 none) ∈ K_Tr := List.mem_of_getElem? (i := 96) rfl
theorem j_Tr_97 : (.instanceMethod y_Tr_nameByte) ∈ K_Tr := List.mem_of_getElem? (i := 97) rfl
theorem j_Tr_98 : (.selects "VolumeTurner$Tree" y_Tr_nameByte y_Tr_nameByte) ∈ K_Tr := List.mem_of_getElem? (i := 98) rfl
theorem j_Tr_99 : (.code y_Tr_nameByte prog_10_method_27_code 7 (some .int)) ∈ K_Tr := List.mem_of_getElem? (i := 99) rfl
theorem j_Tr_100 : (.methodLink "VolumeTurner$Tree" 110 y_Wo_byteOf) ∈ K_Tr := List.mem_of_getElem? (i := 100) rfl
theorem j_Tr_101 : (.instanceMethod y_Tr_isReadOnly) ∈ K_Tr := List.mem_of_getElem? (i := 101) rfl
theorem j_Tr_102 : (.selects "VolumeTurner$Tree" y_Tr_isReadOnly y_Tr_isReadOnly) ∈ K_Tr := List.mem_of_getElem? (i := 102) rfl
theorem j_Tr_103 : (.code y_Tr_isReadOnly prog_10_method_14_code 2 (some .boolean)) ∈ K_Tr := List.mem_of_getElem? (i := 103) rfl
theorem j_Tr_104 : (.instanceMethod y_Tr_slotOf) ∈ K_Tr := List.mem_of_getElem? (i := 104) rfl
theorem j_Tr_105 : (.selects "VolumeTurner$Tree" y_Tr_slotOf y_Tr_slotOf) ∈ K_Tr := List.mem_of_getElem? (i := 105) rfl
theorem j_Tr_106 : (.code y_Tr_slotOf prog_10_method_18_code 2 (some .int)) ∈ K_Tr := List.mem_of_getElem? (i := 106) rfl
theorem j_Tr_107 : (.instanceMethod y_Tr_partsOf) ∈ K_Tr := List.mem_of_getElem? (i := 107) rfl
theorem j_Tr_108 : (.selects "VolumeTurner$Tree" y_Tr_partsOf y_Tr_partsOf) ∈ K_Tr := List.mem_of_getElem? (i := 108) rfl
theorem j_Tr_109 : (.code y_Tr_partsOf prog_10_method_15_code 2 (some .int)) ∈ K_Tr := List.mem_of_getElem? (i := 109) rfl
theorem j_Tr_110 : (.selects "VolumeTurner$Tree" y_Tr_widen y_Tr_widen) ∈ K_Tr := List.mem_of_getElem? (i := 110) rfl
def V_Tr : List Cond := w_Tr ++ (K_Tr ++ V_Tb)
theorem i_Tr : ∀ w ∈ w_Tr, w ∈ V_Tr := fun _ h => List.mem_append_left _ h
theorem kk_Tr : ∀ w ∈ K_Tr, w ∈ V_Tr := fun _ h => List.mem_append_right _ (List.mem_append_left _ h)
theorem u_Tr_Tb : ∀ w ∈ V_Tb, w ∈ V_Tr := fun _ h => List.mem_append_right _ (List.mem_append_right _ h)
theorem u_Tr_J : ∀ w ∈ V_J, w ∈ V_Tr := fun w h => u_Tr_Tb w (u_Tb_J w h)
theorem u_Tr_Dk : ∀ w ∈ V_Dk, w ∈ V_Tr := fun w h => u_Tr_Tb w (u_Tb_Dk w h)
theorem u_Tr_Wo : ∀ w ∈ V_Wo, w ∈ V_Tr := fun w h => u_Tr_Tb w (u_Tb_Wo w h)
theorem u_Tr_Da : ∀ w ∈ V_Da, w ∈ V_Tr := fun w h => u_Tr_Tb w (u_Tb_Da w h)
theorem u_Tr_Tp : ∀ w ∈ V_Tp, w ∈ V_Tr := fun w h => u_Tr_Tb w (u_Tb_Tp w h)
theorem k_Tr_0 : (.initialized "VolumeTurner$Tree") ∈ V_Tr := kk_Tr _ j_Tr_0
theorem k_Tr_1 : (.instantiable "VolumeTurner$Tree" 18) ∈ V_Tr := kk_Tr _ j_Tr_1
theorem k_Tr_2 : (.instanceMethod y_Tr_init) ∈ V_Tr := kk_Tr _ j_Tr_2
theorem k_Tr_3 : (.code y_Tr_init prog_10_method_1_code 1 none) ∈ V_Tr := kk_Tr _ j_Tr_3
theorem k_Tr_4 : (.methodLink "VolumeTurner$Tree" 3 objectInit) ∈ V_Tr := kk_Tr _ j_Tr_4
theorem k_Tr_5 : (.fieldLink "VolumeTurner$Tree" 9 "VolumeTurner$Tree" "count" "I") ∈ V_Tr := kk_Tr _ j_Tr_5
theorem k_Tr_6 : (.fieldLink "VolumeTurner$Tree" 15 "VolumeTurner$Tree" "label" "I") ∈ V_Tr := kk_Tr _ j_Tr_6
theorem k_Tr_7 : (.fieldLink "VolumeTurner$Tree" 18 "VolumeTurner$Tree" "parent" "[I") ∈ V_Tr := kk_Tr _ j_Tr_7
theorem k_Tr_8 : (.fieldLink "VolumeTurner$Tree" 22 "VolumeTurner$Tree" "first" "[I") ∈ V_Tr := kk_Tr _ j_Tr_8
theorem k_Tr_9 : (.fieldLink "VolumeTurner$Tree" 25 "VolumeTurner$Tree" "size" "[I") ∈ V_Tr := kk_Tr _ j_Tr_9
theorem k_Tr_10 : (.fieldLink "VolumeTurner$Tree" 28 "VolumeTurner$Tree" "bits" "[I") ∈ V_Tr := kk_Tr _ j_Tr_10
theorem k_Tr_11 : (.fieldLink "VolumeTurner$Tree" 31 "VolumeTurner$Tree" "spot" "[I") ∈ V_Tr := kk_Tr _ j_Tr_11
theorem k_Tr_12 : (.fieldLink "VolumeTurner$Tree" 34 "VolumeTurner$Tree" "slot" "[I") ∈ V_Tr := kk_Tr _ j_Tr_12
theorem k_Tr_13 : (.fieldLink "VolumeTurner$Tree" 37 "VolumeTurner$Tree" "parts" "[I") ∈ V_Tr := kk_Tr _ j_Tr_13
theorem k_Tr_14 : (.fieldLink "VolumeTurner$Tree" 40 "VolumeTurner$Tree" "kids" "[I") ∈ V_Tr := kk_Tr _ j_Tr_14
theorem k_Tr_15 : (.fieldLink "VolumeTurner$Tree" 43 "VolumeTurner$Tree" "kidCount" "[I") ∈ V_Tr := kk_Tr _ j_Tr_15
theorem k_Tr_16 : (.fieldLink "VolumeTurner$Tree" 46 "VolumeTurner$Tree" "nameAt" "[I") ∈ V_Tr := kk_Tr _ j_Tr_16
theorem k_Tr_17 : (.fieldLink "VolumeTurner$Tree" 49 "VolumeTurner$Tree" "nameLength" "[I") ∈ V_Tr := kk_Tr _ j_Tr_17
theorem k_Tr_18 : (.fieldLink "VolumeTurner$Tree" 52 "VolumeTurner$Tree" "nameBytes" "[I") ∈ V_Tr := kk_Tr _ j_Tr_18
theorem k_Tr_19 : (.fieldLink "VolumeTurner$Tree" 55 "VolumeTurner$Tree" "built" "[I") ∈ V_Tr := kk_Tr _ j_Tr_19
theorem k_Tr_20 : (.fieldLink "VolumeTurner$Tree" 58 "VolumeTurner$Tree" "builtBlocks" "[I") ∈ V_Tr := kk_Tr _ j_Tr_20
theorem k_Tr_21 : (.fieldLink "VolumeTurner$Tree" 61 "VolumeTurner$Tree" "pool" "[I") ∈ V_Tr := kk_Tr _ j_Tr_21
theorem k_Tr_22 : (.fieldLink "VolumeTurner$Tree" 64 "VolumeTurner$Tree" "pooled" "I") ∈ V_Tr := kk_Tr _ j_Tr_22
theorem k_Tr_23 : (.instanceMethod y_Tr_startWith) ∈ V_Tr := kk_Tr _ j_Tr_23
theorem k_Tr_24 : (.selects "VolumeTurner$Tree" y_Tr_startWith y_Tr_startWith) ∈ V_Tr := kk_Tr _ j_Tr_24
theorem k_Tr_25 : (.code y_Tr_startWith prog_10_method_2_code 2 none) ∈ V_Tr := kk_Tr _ j_Tr_25
theorem k_Tr_26 : (.methodLink "VolumeTurner$Tree" 67 y_Tr_addItem) ∈ V_Tr := kk_Tr _ j_Tr_26
theorem k_Tr_27 : (.instanceMethod y_Tr_addItem) ∈ V_Tr := kk_Tr _ j_Tr_27
theorem k_Tr_28 : (.selects "VolumeTurner$Tree" y_Tr_addItem y_Tr_addItem) ∈ V_Tr := kk_Tr _ j_Tr_28
theorem k_Tr_29 : (.code y_Tr_addItem prog_10_method_3_code 4 (some .int)) ∈ V_Tr := kk_Tr _ j_Tr_29
theorem k_Tr_30 : (.methodLink "VolumeTurner$Tree" 75 y_Tr_widen) ∈ V_Tr := kk_Tr _ j_Tr_30
theorem k_Tr_31 : (.instanceMethod y_Tr_widen) ∈ V_Tr := kk_Tr _ j_Tr_31
theorem k_Tr_32 : (.code y_Tr_widen prog_10_method_7_code 2 none) ∈ V_Tr := kk_Tr _ j_Tr_32
theorem k_Tr_33 : (.methodLink "VolumeTurner$Tree" 83 ⟨"java/util/Arrays", "copyOf", "([II)[I"⟩) ∈ V_Tr := kk_Tr _ j_Tr_33
theorem k_Tr_34 : (.methodLink "VolumeTurner$Tree" 71 y_Tr_place) ∈ V_Tr := kk_Tr _ j_Tr_34
theorem k_Tr_35 : (.instanceMethod y_Tr_place) ∈ V_Tr := kk_Tr _ j_Tr_35
theorem k_Tr_36 : (.selects "VolumeTurner$Tree" y_Tr_place y_Tr_place) ∈ V_Tr := kk_Tr _ j_Tr_36
theorem k_Tr_37 : (.code y_Tr_place prog_10_method_4_code 6 none) ∈ V_Tr := kk_Tr _ j_Tr_37
theorem k_Tr_38 : (.methodLink "VolumeTurner$Tree" 79 y_Tr_has) ∈ V_Tr := kk_Tr _ j_Tr_38
theorem k_Tr_39 : (.instanceMethod y_Tr_has) ∈ V_Tr := kk_Tr _ j_Tr_39
theorem k_Tr_40 : (.selects "VolumeTurner$Tree" y_Tr_has y_Tr_has) ∈ V_Tr := kk_Tr _ j_Tr_40
theorem k_Tr_41 : (.code y_Tr_has prog_10_method_9_code 2 (some .boolean)) ∈ V_Tr := kk_Tr _ j_Tr_41
theorem k_Tr_42 : (.instanceMethod y_Tr_isDirectory) ∈ V_Tr := kk_Tr _ j_Tr_42
theorem k_Tr_43 : (.selects "VolumeTurner$Tree" y_Tr_isDirectory y_Tr_isDirectory) ∈ V_Tr := kk_Tr _ j_Tr_43
theorem k_Tr_44 : (.code y_Tr_isDirectory prog_10_method_10_code 2 (some .boolean)) ∈ V_Tr := kk_Tr _ j_Tr_44
theorem k_Tr_45 : (.instanceMethod y_Tr_firstOf) ∈ V_Tr := kk_Tr _ j_Tr_45
theorem k_Tr_46 : (.selects "VolumeTurner$Tree" y_Tr_firstOf y_Tr_firstOf) ∈ V_Tr := kk_Tr _ j_Tr_46
theorem k_Tr_47 : (.code y_Tr_firstOf prog_10_method_21_code 2 (some .int)) ∈ V_Tr := kk_Tr _ j_Tr_47
theorem k_Tr_48 : (.instanceMethod y_Tr_beginKids) ∈ V_Tr := kk_Tr _ j_Tr_48
theorem k_Tr_49 : (.selects "VolumeTurner$Tree" y_Tr_beginKids y_Tr_beginKids) ∈ V_Tr := kk_Tr _ j_Tr_49
theorem k_Tr_50 : (.code y_Tr_beginKids prog_10_method_22_code 2 none) ∈ V_Tr := kk_Tr _ j_Tr_50
theorem k_Tr_51 : (.instanceMethod y_Tr_parentOf) ∈ V_Tr := kk_Tr _ j_Tr_51
theorem k_Tr_52 : (.selects "VolumeTurner$Tree" y_Tr_parentOf y_Tr_parentOf) ∈ V_Tr := kk_Tr _ j_Tr_52
theorem k_Tr_53 : (.code y_Tr_parentOf prog_10_method_13_code 2 (some .int)) ∈ V_Tr := kk_Tr _ j_Tr_53
theorem k_Tr_54 : (.instanceMethod y_Tr_kid) ∈ V_Tr := kk_Tr _ j_Tr_54
theorem k_Tr_55 : (.selects "VolumeTurner$Tree" y_Tr_kid y_Tr_kid) ∈ V_Tr := kk_Tr _ j_Tr_55
theorem k_Tr_56 : (.code y_Tr_kid prog_10_method_12_code 3 (some .int)) ∈ V_Tr := kk_Tr _ j_Tr_56
theorem k_Tr_57 : (.instanceMethod y_Tr_spotOf) ∈ V_Tr := kk_Tr _ j_Tr_57
theorem k_Tr_58 : (.selects "VolumeTurner$Tree" y_Tr_spotOf y_Tr_spotOf) ∈ V_Tr := kk_Tr _ j_Tr_58
theorem k_Tr_59 : (.code y_Tr_spotOf prog_10_method_19_code 2 (some .int)) ∈ V_Tr := kk_Tr _ j_Tr_59
theorem k_Tr_60 : (.instanceMethod y_Tr_isNamed) ∈ V_Tr := kk_Tr _ j_Tr_60
theorem k_Tr_61 : (.selects "VolumeTurner$Tree" y_Tr_isNamed y_Tr_isNamed) ∈ V_Tr := kk_Tr _ j_Tr_61
theorem k_Tr_62 : (.code y_Tr_isNamed prog_10_method_24_code 6 (some .boolean)) ∈ V_Tr := kk_Tr _ j_Tr_62
theorem k_Tr_63 : (.methodLink "VolumeTurner$Tree" 95 y_Wo_capital) ∈ V_Tr := kk_Tr _ j_Tr_63
theorem k_Tr_64 : (.instanceMethod y_Tr_nameLast) ∈ V_Tr := kk_Tr _ j_Tr_64
theorem k_Tr_65 : (.selects "VolumeTurner$Tree" y_Tr_nameLast y_Tr_nameLast) ∈ V_Tr := kk_Tr _ j_Tr_65
theorem k_Tr_66 : (.code y_Tr_nameLast prog_10_method_8_code 6 none) ∈ V_Tr := kk_Tr _ j_Tr_66
theorem k_Tr_67 : (.methodLink "VolumeTurner$Tree" 89 y_Wo_width) ∈ V_Tr := kk_Tr _ j_Tr_67
theorem k_Tr_68 : (.instanceMethod y_Tr_setSize) ∈ V_Tr := kk_Tr _ j_Tr_68
theorem k_Tr_69 : (.selects "VolumeTurner$Tree" y_Tr_setSize y_Tr_setSize) ∈ V_Tr := kk_Tr _ j_Tr_69
theorem k_Tr_70 : (.code y_Tr_setSize prog_10_method_5_code 3 none) ∈ V_Tr := kk_Tr _ j_Tr_70
theorem k_Tr_71 : (.instanceMethod y_Tr_endKids) ∈ V_Tr := kk_Tr _ j_Tr_71
theorem k_Tr_72 : (.selects "VolumeTurner$Tree" y_Tr_endKids y_Tr_endKids) ∈ V_Tr := kk_Tr _ j_Tr_72
theorem k_Tr_73 : (.code y_Tr_endKids prog_10_method_23_code 2 none) ∈ V_Tr := kk_Tr _ j_Tr_73
theorem k_Tr_74 : (.instanceMethod y_Tr_nameSize) ∈ V_Tr := kk_Tr _ j_Tr_74
theorem k_Tr_75 : (.selects "VolumeTurner$Tree" y_Tr_nameSize y_Tr_nameSize) ∈ V_Tr := kk_Tr _ j_Tr_75
theorem k_Tr_76 : (.code y_Tr_nameSize prog_10_method_26_code 2 (some .int)) ∈ V_Tr := kk_Tr _ j_Tr_76
theorem k_Tr_77 : (.instanceMethod y_Tr_isNamedAsRecord) ∈ V_Tr := kk_Tr _ j_Tr_77
theorem k_Tr_78 : (.selects "VolumeTurner$Tree" y_Tr_isNamedAsRecord y_Tr_isNamedAsRecord) ∈ V_Tr := kk_Tr _ j_Tr_78
theorem k_Tr_79 : (.code y_Tr_isNamedAsRecord prog_10_method_25_code 3 (some .boolean)) ∈ V_Tr := kk_Tr _ j_Tr_79
theorem k_Tr_80 : (.methodLink "VolumeTurner$Tree" 100 ⟨"java/lang/String", "length", "()I"⟩) ∈ V_Tr := kk_Tr _ j_Tr_80
theorem k_Tr_81 : (.methodLink "VolumeTurner$Tree" 106 ⟨"java/lang/String", "charAt", "(I)C"⟩) ∈ V_Tr := kk_Tr _ j_Tr_81
theorem k_Tr_82 : (.instanceMethod y_Tr_builtBlocksOf) ∈ V_Tr := kk_Tr _ j_Tr_82
theorem k_Tr_83 : (.selects "VolumeTurner$Tree" y_Tr_builtBlocksOf y_Tr_builtBlocksOf) ∈ V_Tr := kk_Tr _ j_Tr_83
theorem k_Tr_84 : (.code y_Tr_builtBlocksOf prog_10_method_17_code 2 (some .int)) ∈ V_Tr := kk_Tr _ j_Tr_84
theorem k_Tr_85 : (.instanceMethod y_Tr_builtOf) ∈ V_Tr := kk_Tr _ j_Tr_85
theorem k_Tr_86 : (.selects "VolumeTurner$Tree" y_Tr_builtOf y_Tr_builtOf) ∈ V_Tr := kk_Tr _ j_Tr_86
theorem k_Tr_87 : (.code y_Tr_builtOf prog_10_method_16_code 2 (some .int)) ∈ V_Tr := kk_Tr _ j_Tr_87
theorem k_Tr_88 : (.instanceMethod y_Tr_sizeOf) ∈ V_Tr := kk_Tr _ j_Tr_88
theorem k_Tr_89 : (.selects "VolumeTurner$Tree" y_Tr_sizeOf y_Tr_sizeOf) ∈ V_Tr := kk_Tr _ j_Tr_89
theorem k_Tr_90 : (.code y_Tr_sizeOf prog_10_method_20_code 2 (some .int)) ∈ V_Tr := kk_Tr _ j_Tr_90
theorem k_Tr_91 : (.instanceMethod y_Tr_countIn) ∈ V_Tr := kk_Tr _ j_Tr_91
theorem k_Tr_92 : (.selects "VolumeTurner$Tree" y_Tr_countIn y_Tr_countIn) ∈ V_Tr := kk_Tr _ j_Tr_92
theorem k_Tr_93 : (.code y_Tr_countIn prog_10_method_11_code 2 (some .int)) ∈ V_Tr := kk_Tr _ j_Tr_93
theorem k_Tr_94 : (.instanceMethod y_Tr_setBuilt) ∈ V_Tr := kk_Tr _ j_Tr_94
theorem k_Tr_95 : (.selects "VolumeTurner$Tree" y_Tr_setBuilt y_Tr_setBuilt) ∈ V_Tr := kk_Tr _ j_Tr_95
theorem k_Tr_96 : (.code y_Tr_setBuilt prog_10_method_6_code 4 none) ∈ V_Tr := kk_Tr _ j_Tr_96
theorem k_Tr_97 : (.instanceMethod y_Tr_nameByte) ∈ V_Tr := kk_Tr _ j_Tr_97
theorem k_Tr_98 : (.selects "VolumeTurner$Tree" y_Tr_nameByte y_Tr_nameByte) ∈ V_Tr := kk_Tr _ j_Tr_98
theorem k_Tr_99 : (.code y_Tr_nameByte prog_10_method_27_code 7 (some .int)) ∈ V_Tr := kk_Tr _ j_Tr_99
theorem k_Tr_100 : (.methodLink "VolumeTurner$Tree" 110 y_Wo_byteOf) ∈ V_Tr := kk_Tr _ j_Tr_100
theorem k_Tr_101 : (.instanceMethod y_Tr_isReadOnly) ∈ V_Tr := kk_Tr _ j_Tr_101
theorem k_Tr_102 : (.selects "VolumeTurner$Tree" y_Tr_isReadOnly y_Tr_isReadOnly) ∈ V_Tr := kk_Tr _ j_Tr_102
theorem k_Tr_103 : (.code y_Tr_isReadOnly prog_10_method_14_code 2 (some .boolean)) ∈ V_Tr := kk_Tr _ j_Tr_103
theorem k_Tr_104 : (.instanceMethod y_Tr_slotOf) ∈ V_Tr := kk_Tr _ j_Tr_104
theorem k_Tr_105 : (.selects "VolumeTurner$Tree" y_Tr_slotOf y_Tr_slotOf) ∈ V_Tr := kk_Tr _ j_Tr_105
theorem k_Tr_106 : (.code y_Tr_slotOf prog_10_method_18_code 2 (some .int)) ∈ V_Tr := kk_Tr _ j_Tr_106
theorem k_Tr_107 : (.instanceMethod y_Tr_partsOf) ∈ V_Tr := kk_Tr _ j_Tr_107
theorem k_Tr_108 : (.selects "VolumeTurner$Tree" y_Tr_partsOf y_Tr_partsOf) ∈ V_Tr := kk_Tr _ j_Tr_108
theorem k_Tr_109 : (.code y_Tr_partsOf prog_10_method_15_code 2 (some .int)) ∈ V_Tr := kk_Tr _ j_Tr_109
theorem k_Tr_110 : (.selects "VolumeTurner$Tree" y_Tr_widen y_Tr_widen) ∈ V_Tr := kk_Tr _ j_Tr_110
theorem gk_Tr : ∀ w ∈ w_Tr ++ K_Tr, goodWord w = true := List.all_eq_true.mp (by decide +kernel)
theorem good_Tr : GoodIn V_Tr V_Tr := fun w h => by
  refine ⟨h, ?_⟩
  rcases List.mem_append.mp h with q | q
  · exact good_of_word (gk_Tr w (List.mem_append_left _ q))
  · rcases List.mem_append.mp q with q | q
    · exact good_of_word (gk_Tr w (List.mem_append_right _ q))
    · exact (good_Tb w q).2
abbrev b_In_init : ByteArray := prog_5_method_1_code
def y_In_init : MethodName := ⟨R_In, "<init>", "(LVolumeTurner$Disk;)V"⟩
theorem d_In_init_0 : decode b_In_init 0 = .ok (.aload_n 0, 1) := by decide +kernel
theorem d_In_init_1 : decode b_In_init 1 = .ok (.invokespecial 3, 3) := by decide +kernel
theorem d_In_init_4 : decode b_In_init 4 = .ok (.aload_n 0, 1) := by decide +kernel
theorem d_In_init_5 : decode b_In_init 5 = .ok (.iconst 0, 1) := by decide +kernel
theorem d_In_init_6 : decode b_In_init 6 = .ok (.putfield 9, 3) := by decide +kernel
theorem d_In_init_9 : decode b_In_init 9 = .ok (.aload_n 0, 1) := by decide +kernel
theorem d_In_init_10 : decode b_In_init 10 = .ok (.aload_n 1, 1) := by decide +kernel
theorem d_In_init_11 : decode b_In_init 11 = .ok (.putfield 15, 3) := by decide +kernel
theorem d_In_init_14 : decode b_In_init 14 = .ok (.return_, 1) := by decide +kernel
abbrev cb_In_isMarked : ByteArray := prog_5_method_2_code
def y_In_isMarked : MethodName := ⟨R_In, "isMarked", "()Z"⟩
theorem d_In_isMarked_0 : decode cb_In_isMarked 0 = .ok (.aload_n 0, 1) := by decide +kernel
theorem d_In_isMarked_1 : decode cb_In_isMarked 1 = .ok (.getfield 15, 3) := by decide +kernel
theorem d_In_isMarked_4 : decode cb_In_isMarked 4 = .ok (.sipush 3584, 3) := by decide +kernel
theorem d_In_isMarked_7 : decode cb_In_isMarked 7 = .ok (.invokevirtual 19, 3) := by decide +kernel
theorem d_In_isMarked_10 : decode cb_In_isMarked 10 = .ok (.ldc 25, 2) := by decide +kernel
theorem d_In_isMarked_12 : decode cb_In_isMarked 12 = .ok (.if_icmp .ne 7, 3) := by decide +kernel
theorem d_In_isMarked_15 : decode cb_In_isMarked 15 = .ok (.iconst 1, 1) := by decide +kernel
theorem d_In_isMarked_16 : decode cb_In_isMarked 16 = .ok (.goto 4, 3) := by decide +kernel
theorem d_In_isMarked_19 : decode cb_In_isMarked 19 = .ok (.iconst 0, 1) := by decide +kernel
theorem d_In_isMarked_20 : decode cb_In_isMarked 20 = .ok (.ireturn, 1) := by decide +kernel
abbrev cb_In_markedSize : ByteArray := prog_5_method_3_code
def y_In_markedSize : MethodName := ⟨R_In, "markedSize", "()I"⟩
theorem d_In_markedSize_0 : decode cb_In_markedSize 0 = .ok (.aload_n 0, 1) := by decide +kernel
theorem d_In_markedSize_1 : decode cb_In_markedSize 1 = .ok (.getfield 15, 3) := by decide +kernel
theorem d_In_markedSize_4 : decode cb_In_markedSize 4 = .ok (.sipush 3588, 3) := by decide +kernel
theorem d_In_markedSize_7 : decode cb_In_markedSize 7 = .ok (.invokevirtual 19, 3) := by decide +kernel
theorem d_In_markedSize_10 : decode cb_In_markedSize 10 = .ok (.ireturn, 1) := by decide +kernel
abbrev cb_In_markedInodes : ByteArray := prog_5_method_4_code
def y_In_markedInodes : MethodName := ⟨R_In, "markedInodes", "()I"⟩
theorem d_In_markedInodes_0 : decode cb_In_markedInodes 0 = .ok (.aload_n 0, 1) := by decide +kernel
theorem d_In_markedInodes_1 : decode cb_In_markedInodes 1 = .ok (.getfield 15, 3) := by decide +kernel
theorem d_In_markedInodes_4 : decode cb_In_markedInodes 4 = .ok (.sipush 3592, 3) := by decide +kernel
theorem d_In_markedInodes_7 : decode cb_In_markedInodes 7 = .ok (.invokevirtual 19, 3) := by decide +kernel
theorem d_In_markedInodes_10 : decode cb_In_markedInodes 10 = .ok (.ireturn, 1) := by decide +kernel
abbrev cb_In_isThere : ByteArray := prog_5_method_5_code
def y_In_isThere : MethodName := ⟨R_In, "isThere", "()Z"⟩
theorem d_In_isThere_0 : decode cb_In_isThere 0 = .ok (.aload_n 0, 1) := by decide +kernel
theorem d_In_isThere_1 : decode cb_In_isThere 1 = .ok (.invokevirtual 26, 3) := by decide +kernel
theorem d_In_isThere_4 : decode cb_In_isThere 4 = .ok (.ifCond .eq 22, 3) := by decide +kernel
theorem d_In_isThere_7 : decode cb_In_isThere 7 = .ok (.aload_n 0, 1) := by decide +kernel
theorem d_In_isThere_8 : decode cb_In_isThere 8 = .ok (.getfield 15, 3) := by decide +kernel
theorem d_In_isThere_11 : decode cb_In_isThere 11 = .ok (.sipush 1080, 3) := by decide +kernel
theorem d_In_isThere_14 : decode cb_In_isThere 14 = .ok (.invokevirtual 30, 3) := by decide +kernel
theorem d_In_isThere_17 : decode cb_In_isThere 17 = .ok (.ldc 33, 2) := by decide +kernel
theorem d_In_isThere_19 : decode cb_In_isThere 19 = .ok (.if_icmp .ne 7, 3) := by decide +kernel
theorem d_In_isThere_22 : decode cb_In_isThere 22 = .ok (.iconst 1, 1) := by decide +kernel
theorem d_In_isThere_23 : decode cb_In_isThere 23 = .ok (.goto 4, 3) := by decide +kernel
theorem d_In_isThere_26 : decode cb_In_isThere 26 = .ok (.iconst 0, 1) := by decide +kernel
theorem d_In_isThere_27 : decode cb_In_isThere 27 = .ok (.ireturn, 1) := by decide +kernel
abbrev cb_In_groupSize : ByteArray := prog_5_method_6_code
def y_In_groupSize : MethodName := ⟨R_In, "groupSize", "()I"⟩
theorem d_In_groupSize_0 : decode cb_In_groupSize 0 = .ok (.aload_n 0, 1) := by decide +kernel
theorem d_In_groupSize_1 : decode cb_In_groupSize 1 = .ok (.getfield 15, 3) := by decide +kernel
theorem d_In_groupSize_4 : decode cb_In_groupSize 4 = .ok (.sipush 1056, 3) := by decide +kernel
theorem d_In_groupSize_7 : decode cb_In_groupSize 7 = .ok (.invokevirtual 19, 3) := by decide +kernel
theorem d_In_groupSize_10 : decode cb_In_groupSize 10 = .ok (.ireturn, 1) := by decide +kernel
abbrev cb_In_shows : ByteArray := prog_5_method_7_code
def y_In_shows : MethodName := ⟨R_In, "shows", "(I)Z"⟩
theorem d_In_shows_0 : decode cb_In_shows 0 = .ok (.aload_n 0, 1) := by decide +kernel
theorem d_In_shows_1 : decode cb_In_shows 1 = .ok (.invokevirtual 34, 3) := by decide +kernel
theorem d_In_shows_4 : decode cb_In_shows 4 = .ok (.istore_n 2, 1) := by decide +kernel
theorem d_In_shows_5 : decode cb_In_shows 5 = .ok (.iload_n 1, 1) := by decide +kernel
theorem d_In_shows_6 : decode cb_In_shows 6 = .ok (.iconst 2, 1) := by decide +kernel
theorem d_In_shows_7 : decode cb_In_shows 7 = .ok (.idiv, 1) := by decide +kernel
theorem d_In_shows_8 : decode cb_In_shows 8 = .ok (.istore_n 3, 1) := by decide +kernel
theorem d_In_shows_9 : decode cb_In_shows 9 = .ok (.iload_n 3, 1) := by decide +kernel
theorem d_In_shows_10 : decode cb_In_shows 10 = .ok (.iconst 1, 1) := by decide +kernel
theorem d_In_shows_11 : decode cb_In_shows 11 = .ok (.if_icmp .lt 8, 3) := by decide +kernel
theorem d_In_shows_14 : decode cb_In_shows 14 = .ok (.iload_n 2, 1) := by decide +kernel
theorem d_In_shows_15 : decode cb_In_shows 15 = .ok (.iconst 1, 1) := by decide +kernel
theorem d_In_shows_16 : decode cb_In_shows 16 = .ok (.if_icmp .ge 5, 3) := by decide +kernel
theorem d_In_shows_19 : decode cb_In_shows 19 = .ok (.iconst 1, 1) := by decide +kernel
theorem d_In_shows_20 : decode cb_In_shows 20 = .ok (.ireturn, 1) := by decide +kernel
theorem d_In_shows_21 : decode cb_In_shows 21 = .ok (.iload_n 3, 1) := by decide +kernel
theorem d_In_shows_22 : decode cb_In_shows 22 = .ok (.iconst 1, 1) := by decide +kernel
theorem d_In_shows_23 : decode cb_In_shows 23 = .ok (.isub, 1) := by decide +kernel
theorem d_In_shows_24 : decode cb_In_shows 24 = .ok (.iload_n 2, 1) := by decide +kernel
theorem d_In_shows_25 : decode cb_In_shows 25 = .ok (.irem, 1) := by decide +kernel
theorem d_In_shows_26 : decode cb_In_shows 26 = .ok (.istore 4, 2) := by decide +kernel
theorem d_In_shows_28 : decode cb_In_shows 28 = .ok (.aload_n 0, 1) := by decide +kernel
theorem d_In_shows_29 : decode cb_In_shows 29 = .ok (.getfield 15, 3) := by decide +kernel
theorem d_In_shows_32 : decode cb_In_shows 32 = .ok (.sipush 2048, 3) := by decide +kernel
theorem d_In_shows_35 : decode cb_In_shows 35 = .ok (.bipush 32, 2) := by decide +kernel
theorem d_In_shows_37 : decode cb_In_shows 37 = .ok (.iload_n 3, 1) := by decide +kernel
theorem d_In_shows_38 : decode cb_In_shows 38 = .ok (.iconst 1, 1) := by decide +kernel
theorem d_In_shows_39 : decode cb_In_shows 39 = .ok (.isub, 1) := by decide +kernel
theorem d_In_shows_40 : decode cb_In_shows 40 = .ok (.iload_n 2, 1) := by decide +kernel
theorem d_In_shows_41 : decode cb_In_shows 41 = .ok (.idiv, 1) := by decide +kernel
theorem d_In_shows_42 : decode cb_In_shows 42 = .ok (.imul, 1) := by decide +kernel
theorem d_In_shows_43 : decode cb_In_shows 43 = .ok (.iadd, 1) := by decide +kernel
theorem d_In_shows_44 : decode cb_In_shows 44 = .ok (.invokevirtual 19, 3) := by decide +kernel
theorem d_In_shows_47 : decode cb_In_shows 47 = .ok (.istore 5, 2) := by decide +kernel
theorem d_In_shows_49 : decode cb_In_shows 49 = .ok (.aload_n 0, 1) := by decide +kernel
theorem d_In_shows_50 : decode cb_In_shows 50 = .ok (.getfield 15, 3) := by decide +kernel
theorem d_In_shows_53 : decode cb_In_shows 53 = .ok (.iload 5, 2) := by decide +kernel
theorem d_In_shows_55 : decode cb_In_shows 55 = .ok (.sipush 1024, 3) := by decide +kernel
theorem d_In_shows_58 : decode cb_In_shows 58 = .ok (.imul, 1) := by decide +kernel
theorem d_In_shows_59 : decode cb_In_shows 59 = .ok (.iload 4, 2) := by decide +kernel
theorem d_In_shows_61 : decode cb_In_shows 61 = .ok (.bipush 8, 2) := by decide +kernel
theorem d_In_shows_63 : decode cb_In_shows 63 = .ok (.idiv, 1) := by decide +kernel
theorem d_In_shows_64 : decode cb_In_shows 64 = .ok (.iadd, 1) := by decide +kernel
theorem d_In_shows_65 : decode cb_In_shows 65 = .ok (.invokevirtual 38, 3) := by decide +kernel
theorem d_In_shows_68 : decode cb_In_shows 68 = .ok (.iload 4, 2) := by decide +kernel
theorem d_In_shows_70 : decode cb_In_shows 70 = .ok (.bipush 8, 2) := by decide +kernel
theorem d_In_shows_72 : decode cb_In_shows 72 = .ok (.irem, 1) := by decide +kernel
theorem d_In_shows_73 : decode cb_In_shows 73 = .ok (.ishr, 1) := by decide +kernel
theorem d_In_shows_74 : decode cb_In_shows 74 = .ok (.iconst 1, 1) := by decide +kernel
theorem d_In_shows_75 : decode cb_In_shows 75 = .ok (.iand, 1) := by decide +kernel
theorem d_In_shows_76 : decode cb_In_shows 76 = .ok (.ifCond .eq 7, 3) := by decide +kernel
theorem d_In_shows_79 : decode cb_In_shows 79 = .ok (.iconst 1, 1) := by decide +kernel
theorem d_In_shows_80 : decode cb_In_shows 80 = .ok (.goto 4, 3) := by decide +kernel
theorem d_In_shows_83 : decode cb_In_shows 83 = .ok (.iconst 0, 1) := by decide +kernel
theorem d_In_shows_84 : decode cb_In_shows 84 = .ok (.ireturn, 1) := by decide +kernel
abbrev cb_In_inodePlace : ByteArray := prog_5_method_8_code
def y_In_inodePlace : MethodName := ⟨R_In, "inodePlace", "(I)I"⟩
theorem d_In_inodePlace_0 : decode cb_In_inodePlace 0 = .ok (.aload_n 0, 1) := by decide +kernel
theorem d_In_inodePlace_1 : decode cb_In_inodePlace 1 = .ok (.getfield 15, 3) := by decide +kernel
theorem d_In_inodePlace_4 : decode cb_In_inodePlace 4 = .ok (.sipush 1064, 3) := by decide +kernel
theorem d_In_inodePlace_7 : decode cb_In_inodePlace 7 = .ok (.invokevirtual 19, 3) := by decide +kernel
theorem d_In_inodePlace_10 : decode cb_In_inodePlace 10 = .ok (.istore_n 2, 1) := by decide +kernel
theorem d_In_inodePlace_11 : decode cb_In_inodePlace 11 = .ok (.iload_n 1, 1) := by decide +kernel
theorem d_In_inodePlace_12 : decode cb_In_inodePlace 12 = .ok (.iconst 1, 1) := by decide +kernel
theorem d_In_inodePlace_13 : decode cb_In_inodePlace 13 = .ok (.if_icmp .lt 8, 3) := by decide +kernel
theorem d_In_inodePlace_16 : decode cb_In_inodePlace 16 = .ok (.iload_n 2, 1) := by decide +kernel
theorem d_In_inodePlace_17 : decode cb_In_inodePlace 17 = .ok (.iconst 1, 1) := by decide +kernel
theorem d_In_inodePlace_18 : decode cb_In_inodePlace 18 = .ok (.if_icmp .ge 5, 3) := by decide +kernel
theorem d_In_inodePlace_21 : decode cb_In_inodePlace 21 = .ok (.iconst 0, 1) := by decide +kernel
theorem d_In_inodePlace_22 : decode cb_In_inodePlace 22 = .ok (.ireturn, 1) := by decide +kernel
theorem d_In_inodePlace_23 : decode cb_In_inodePlace 23 = .ok (.aload_n 0, 1) := by decide +kernel
theorem d_In_inodePlace_24 : decode cb_In_inodePlace 24 = .ok (.getfield 15, 3) := by decide +kernel
theorem d_In_inodePlace_27 : decode cb_In_inodePlace 27 = .ok (.sipush 2048, 3) := by decide +kernel
theorem d_In_inodePlace_30 : decode cb_In_inodePlace 30 = .ok (.bipush 32, 2) := by decide +kernel
theorem d_In_inodePlace_32 : decode cb_In_inodePlace 32 = .ok (.iload_n 1, 1) := by decide +kernel
theorem d_In_inodePlace_33 : decode cb_In_inodePlace 33 = .ok (.iconst 1, 1) := by decide +kernel
theorem d_In_inodePlace_34 : decode cb_In_inodePlace 34 = .ok (.isub, 1) := by decide +kernel
theorem d_In_inodePlace_35 : decode cb_In_inodePlace 35 = .ok (.iload_n 2, 1) := by decide +kernel
theorem d_In_inodePlace_36 : decode cb_In_inodePlace 36 = .ok (.idiv, 1) := by decide +kernel
theorem d_In_inodePlace_37 : decode cb_In_inodePlace 37 = .ok (.imul, 1) := by decide +kernel
theorem d_In_inodePlace_38 : decode cb_In_inodePlace 38 = .ok (.iadd, 1) := by decide +kernel
theorem d_In_inodePlace_39 : decode cb_In_inodePlace 39 = .ok (.bipush 8, 2) := by decide +kernel
theorem d_In_inodePlace_41 : decode cb_In_inodePlace 41 = .ok (.iadd, 1) := by decide +kernel
theorem d_In_inodePlace_42 : decode cb_In_inodePlace 42 = .ok (.invokevirtual 19, 3) := by decide +kernel
theorem d_In_inodePlace_45 : decode cb_In_inodePlace 45 = .ok (.istore_n 3, 1) := by decide +kernel
theorem d_In_inodePlace_46 : decode cb_In_inodePlace 46 = .ok (.iload_n 3, 1) := by decide +kernel
theorem d_In_inodePlace_47 : decode cb_In_inodePlace 47 = .ok (.sipush 1024, 3) := by decide +kernel
theorem d_In_inodePlace_50 : decode cb_In_inodePlace 50 = .ok (.imul, 1) := by decide +kernel
theorem d_In_inodePlace_51 : decode cb_In_inodePlace 51 = .ok (.iload_n 1, 1) := by decide +kernel
theorem d_In_inodePlace_52 : decode cb_In_inodePlace 52 = .ok (.iconst 1, 1) := by decide +kernel
theorem d_In_inodePlace_53 : decode cb_In_inodePlace 53 = .ok (.isub, 1) := by decide +kernel
theorem d_In_inodePlace_54 : decode cb_In_inodePlace 54 = .ok (.iload_n 2, 1) := by decide +kernel
theorem d_In_inodePlace_55 : decode cb_In_inodePlace 55 = .ok (.irem, 1) := by decide +kernel
theorem d_In_inodePlace_56 : decode cb_In_inodePlace 56 = .ok (.sipush 128, 3) := by decide +kernel
theorem d_In_inodePlace_59 : decode cb_In_inodePlace 59 = .ok (.imul, 1) := by decide +kernel
theorem d_In_inodePlace_60 : decode cb_In_inodePlace 60 = .ok (.iadd, 1) := by decide +kernel
theorem d_In_inodePlace_61 : decode cb_In_inodePlace 61 = .ok (.ireturn, 1) := by decide +kernel
abbrev cb_In_blockOf : ByteArray := prog_5_method_9_code
def y_In_blockOf : MethodName := ⟨R_In, "blockOf", "(II)I"⟩
theorem d_In_blockOf_0 : decode cb_In_blockOf 0 = .ok (.iload_n 2, 1) := by decide +kernel
theorem d_In_blockOf_1 : decode cb_In_blockOf 1 = .ok (.bipush 12, 2) := by decide +kernel
theorem d_In_blockOf_3 : decode cb_In_blockOf 3 = .ok (.if_icmp .ge 19, 3) := by decide +kernel
theorem d_In_blockOf_6 : decode cb_In_blockOf 6 = .ok (.aload_n 0, 1) := by decide +kernel
theorem d_In_blockOf_7 : decode cb_In_blockOf 7 = .ok (.getfield 15, 3) := by decide +kernel
theorem d_In_blockOf_10 : decode cb_In_blockOf 10 = .ok (.iload_n 1, 1) := by decide +kernel
theorem d_In_blockOf_11 : decode cb_In_blockOf 11 = .ok (.bipush 40, 2) := by decide +kernel
theorem d_In_blockOf_13 : decode cb_In_blockOf 13 = .ok (.iadd, 1) := by decide +kernel
theorem d_In_blockOf_14 : decode cb_In_blockOf 14 = .ok (.iconst 4, 1) := by decide +kernel
theorem d_In_blockOf_15 : decode cb_In_blockOf 15 = .ok (.iload_n 2, 1) := by decide +kernel
theorem d_In_blockOf_16 : decode cb_In_blockOf 16 = .ok (.imul, 1) := by decide +kernel
theorem d_In_blockOf_17 : decode cb_In_blockOf 17 = .ok (.iadd, 1) := by decide +kernel
theorem d_In_blockOf_18 : decode cb_In_blockOf 18 = .ok (.invokevirtual 19, 3) := by decide +kernel
theorem d_In_blockOf_21 : decode cb_In_blockOf 21 = .ok (.ireturn, 1) := by decide +kernel
theorem d_In_blockOf_22 : decode cb_In_blockOf 22 = .ok (.iload_n 2, 1) := by decide +kernel
theorem d_In_blockOf_23 : decode cb_In_blockOf 23 = .ok (.bipush 12, 2) := by decide +kernel
theorem d_In_blockOf_25 : decode cb_In_blockOf 25 = .ok (.isub, 1) := by decide +kernel
theorem d_In_blockOf_26 : decode cb_In_blockOf 26 = .ok (.istore_n 3, 1) := by decide +kernel
theorem d_In_blockOf_27 : decode cb_In_blockOf 27 = .ok (.iload_n 3, 1) := by decide +kernel
theorem d_In_blockOf_28 : decode cb_In_blockOf 28 = .ok (.sipush 256, 3) := by decide +kernel
theorem d_In_blockOf_31 : decode cb_In_blockOf 31 = .ok (.if_icmp .ge 30, 3) := by decide +kernel
theorem d_In_blockOf_34 : decode cb_In_blockOf 34 = .ok (.aload_n 0, 1) := by decide +kernel
theorem d_In_blockOf_35 : decode cb_In_blockOf 35 = .ok (.getfield 15, 3) := by decide +kernel
theorem d_In_blockOf_38 : decode cb_In_blockOf 38 = .ok (.aload_n 0, 1) := by decide +kernel
theorem d_In_blockOf_39 : decode cb_In_blockOf 39 = .ok (.getfield 15, 3) := by decide +kernel
theorem d_In_blockOf_42 : decode cb_In_blockOf 42 = .ok (.iload_n 1, 1) := by decide +kernel
theorem d_In_blockOf_43 : decode cb_In_blockOf 43 = .ok (.bipush 88, 2) := by decide +kernel
theorem d_In_blockOf_45 : decode cb_In_blockOf 45 = .ok (.iadd, 1) := by decide +kernel
theorem d_In_blockOf_46 : decode cb_In_blockOf 46 = .ok (.invokevirtual 19, 3) := by decide +kernel
theorem d_In_blockOf_49 : decode cb_In_blockOf 49 = .ok (.sipush 1024, 3) := by decide +kernel
theorem d_In_blockOf_52 : decode cb_In_blockOf 52 = .ok (.imul, 1) := by decide +kernel
theorem d_In_blockOf_53 : decode cb_In_blockOf 53 = .ok (.iconst 4, 1) := by decide +kernel
theorem d_In_blockOf_54 : decode cb_In_blockOf 54 = .ok (.iload_n 3, 1) := by decide +kernel
theorem d_In_blockOf_55 : decode cb_In_blockOf 55 = .ok (.imul, 1) := by decide +kernel
theorem d_In_blockOf_56 : decode cb_In_blockOf 56 = .ok (.iadd, 1) := by decide +kernel
theorem d_In_blockOf_57 : decode cb_In_blockOf 57 = .ok (.invokevirtual 19, 3) := by decide +kernel
theorem d_In_blockOf_60 : decode cb_In_blockOf 60 = .ok (.ireturn, 1) := by decide +kernel
theorem d_In_blockOf_61 : decode cb_In_blockOf 61 = .ok (.iinc 3 (-256), 6) := by decide +kernel
theorem d_In_blockOf_67 : decode cb_In_blockOf 67 = .ok (.aload_n 0, 1) := by decide +kernel
theorem d_In_blockOf_68 : decode cb_In_blockOf 68 = .ok (.getfield 15, 3) := by decide +kernel
theorem d_In_blockOf_71 : decode cb_In_blockOf 71 = .ok (.aload_n 0, 1) := by decide +kernel
theorem d_In_blockOf_72 : decode cb_In_blockOf 72 = .ok (.getfield 15, 3) := by decide +kernel
theorem d_In_blockOf_75 : decode cb_In_blockOf 75 = .ok (.iload_n 1, 1) := by decide +kernel
theorem d_In_blockOf_76 : decode cb_In_blockOf 76 = .ok (.bipush 92, 2) := by decide +kernel
theorem d_In_blockOf_78 : decode cb_In_blockOf 78 = .ok (.iadd, 1) := by decide +kernel
theorem d_In_blockOf_79 : decode cb_In_blockOf 79 = .ok (.invokevirtual 19, 3) := by decide +kernel
theorem d_In_blockOf_82 : decode cb_In_blockOf 82 = .ok (.sipush 1024, 3) := by decide +kernel
theorem d_In_blockOf_85 : decode cb_In_blockOf 85 = .ok (.imul, 1) := by decide +kernel
theorem d_In_blockOf_86 : decode cb_In_blockOf 86 = .ok (.iconst 4, 1) := by decide +kernel
theorem d_In_blockOf_87 : decode cb_In_blockOf 87 = .ok (.iload_n 3, 1) := by decide +kernel
theorem d_In_blockOf_88 : decode cb_In_blockOf 88 = .ok (.sipush 256, 3) := by decide +kernel
theorem d_In_blockOf_91 : decode cb_In_blockOf 91 = .ok (.idiv, 1) := by decide +kernel
theorem d_In_blockOf_92 : decode cb_In_blockOf 92 = .ok (.imul, 1) := by decide +kernel
theorem d_In_blockOf_93 : decode cb_In_blockOf 93 = .ok (.iadd, 1) := by decide +kernel
theorem d_In_blockOf_94 : decode cb_In_blockOf 94 = .ok (.invokevirtual 19, 3) := by decide +kernel
theorem d_In_blockOf_97 : decode cb_In_blockOf 97 = .ok (.istore 4, 2) := by decide +kernel
theorem d_In_blockOf_99 : decode cb_In_blockOf 99 = .ok (.aload_n 0, 1) := by decide +kernel
theorem d_In_blockOf_100 : decode cb_In_blockOf 100 = .ok (.getfield 15, 3) := by decide +kernel
theorem d_In_blockOf_103 : decode cb_In_blockOf 103 = .ok (.iload 4, 2) := by decide +kernel
theorem d_In_blockOf_105 : decode cb_In_blockOf 105 = .ok (.sipush 1024, 3) := by decide +kernel
theorem d_In_blockOf_108 : decode cb_In_blockOf 108 = .ok (.imul, 1) := by decide +kernel
theorem d_In_blockOf_109 : decode cb_In_blockOf 109 = .ok (.iconst 4, 1) := by decide +kernel
theorem d_In_blockOf_110 : decode cb_In_blockOf 110 = .ok (.iload_n 3, 1) := by decide +kernel
theorem d_In_blockOf_111 : decode cb_In_blockOf 111 = .ok (.sipush 256, 3) := by decide +kernel
theorem d_In_blockOf_114 : decode cb_In_blockOf 114 = .ok (.irem, 1) := by decide +kernel
theorem d_In_blockOf_115 : decode cb_In_blockOf 115 = .ok (.imul, 1) := by decide +kernel
theorem d_In_blockOf_116 : decode cb_In_blockOf 116 = .ok (.iadd, 1) := by decide +kernel
theorem d_In_blockOf_117 : decode cb_In_blockOf 117 = .ok (.invokevirtual 19, 3) := by decide +kernel
theorem d_In_blockOf_120 : decode cb_In_blockOf 120 = .ok (.ireturn, 1) := by decide +kernel
abbrev b_In_directoryInode : ByteArray := prog_5_method_10_code
def y_In_directoryInode : MethodName := ⟨R_In, "directoryInode", "(I)I"⟩
theorem d_In_directoryInode_0 : decode b_In_directoryInode 0 = .ok (.iload_n 0, 1) := by decide +kernel
theorem d_In_directoryInode_1 : decode b_In_directoryInode 1 = .ok (.ifCond .ne 7, 3) := by decide +kernel
theorem d_In_directoryInode_4 : decode b_In_directoryInode 4 = .ok (.iconst 2, 1) := by decide +kernel
theorem d_In_directoryInode_5 : decode b_In_directoryInode 5 = .ok (.goto 4, 3) := by decide +kernel
theorem d_In_directoryInode_8 : decode b_In_directoryInode 8 = .ok (.iload_n 0, 1) := by decide +kernel
theorem d_In_directoryInode_9 : decode b_In_directoryInode 9 = .ok (.ireturn, 1) := by decide +kernel
abbrev cb_In_findEntry : ByteArray := prog_5_method_11_code
def y_In_findEntry : MethodName := ⟨R_In, "findEntry", "(II)I"⟩
theorem d_In_findEntry_0 : decode cb_In_findEntry 0 = .ok (.aload_n 0, 1) := by decide +kernel
theorem d_In_findEntry_1 : decode cb_In_findEntry 1 = .ok (.iload_n 1, 1) := by decide +kernel
theorem d_In_findEntry_2 : decode cb_In_findEntry 2 = .ok (.invokestatic 41, 3) := by decide +kernel
theorem d_In_findEntry_5 : decode cb_In_findEntry 5 = .ok (.invokevirtual 44, 3) := by decide +kernel
theorem d_In_findEntry_8 : decode cb_In_findEntry 8 = .ok (.istore_n 3, 1) := by decide +kernel
theorem d_In_findEntry_9 : decode cb_In_findEntry 9 = .ok (.aload_n 0, 1) := by decide +kernel
theorem d_In_findEntry_10 : decode cb_In_findEntry 10 = .ok (.getfield 15, 3) := by decide +kernel
theorem d_In_findEntry_13 : decode cb_In_findEntry 13 = .ok (.iload_n 3, 1) := by decide +kernel
theorem d_In_findEntry_14 : decode cb_In_findEntry 14 = .ok (.iconst 4, 1) := by decide +kernel
theorem d_In_findEntry_15 : decode cb_In_findEntry 15 = .ok (.iadd, 1) := by decide +kernel
theorem d_In_findEntry_16 : decode cb_In_findEntry 16 = .ok (.invokevirtual 19, 3) := by decide +kernel
theorem d_In_findEntry_19 : decode cb_In_findEntry 19 = .ok (.sipush 1024, 3) := by decide +kernel
theorem d_In_findEntry_22 : decode cb_In_findEntry 22 = .ok (.idiv, 1) := by decide +kernel
theorem d_In_findEntry_23 : decode cb_In_findEntry 23 = .ok (.istore 4, 2) := by decide +kernel
theorem d_In_findEntry_25 : decode cb_In_findEntry 25 = .ok (.aload_n 0, 1) := by decide +kernel
theorem d_In_findEntry_26 : decode cb_In_findEntry 26 = .ok (.iconst 0, 1) := by decide +kernel
theorem d_In_findEntry_27 : decode cb_In_findEntry 27 = .ok (.putfield 9, 3) := by decide +kernel
theorem d_In_findEntry_30 : decode cb_In_findEntry 30 = .ok (.iconst 0, 1) := by decide +kernel
theorem d_In_findEntry_31 : decode cb_In_findEntry 31 = .ok (.istore 5, 2) := by decide +kernel
theorem d_In_findEntry_33 : decode cb_In_findEntry 33 = .ok (.iload 5, 2) := by decide +kernel
theorem d_In_findEntry_35 : decode cb_In_findEntry 35 = .ok (.iload 4, 2) := by decide +kernel
theorem d_In_findEntry_37 : decode cb_In_findEntry 37 = .ok (.if_icmp .ge 84, 3) := by decide +kernel
theorem d_In_findEntry_40 : decode cb_In_findEntry 40 = .ok (.aload_n 0, 1) := by decide +kernel
theorem d_In_findEntry_41 : decode cb_In_findEntry 41 = .ok (.iload_n 3, 1) := by decide +kernel
theorem d_In_findEntry_42 : decode cb_In_findEntry 42 = .ok (.iload 5, 2) := by decide +kernel
theorem d_In_findEntry_44 : decode cb_In_findEntry 44 = .ok (.invokevirtual 47, 3) := by decide +kernel
theorem d_In_findEntry_47 : decode cb_In_findEntry 47 = .ok (.sipush 1024, 3) := by decide +kernel
theorem d_In_findEntry_50 : decode cb_In_findEntry 50 = .ok (.imul, 1) := by decide +kernel
theorem d_In_findEntry_51 : decode cb_In_findEntry 51 = .ok (.istore 6, 2) := by decide +kernel
theorem d_In_findEntry_53 : decode cb_In_findEntry 53 = .ok (.iconst 0, 1) := by decide +kernel
theorem d_In_findEntry_54 : decode cb_In_findEntry 54 = .ok (.istore 7, 2) := by decide +kernel
theorem d_In_findEntry_56 : decode cb_In_findEntry 56 = .ok (.iload 7, 2) := by decide +kernel
theorem d_In_findEntry_58 : decode cb_In_findEntry 58 = .ok (.sipush 1024, 3) := by decide +kernel
theorem d_In_findEntry_61 : decode cb_In_findEntry 61 = .ok (.if_icmp .ge 54, 3) := by decide +kernel
theorem d_In_findEntry_64 : decode cb_In_findEntry 64 = .ok (.aload_n 0, 1) := by decide +kernel
theorem d_In_findEntry_65 : decode cb_In_findEntry 65 = .ok (.getfield 9, 3) := by decide +kernel
theorem d_In_findEntry_68 : decode cb_In_findEntry 68 = .ok (.iload_n 2, 1) := by decide +kernel
theorem d_In_findEntry_69 : decode cb_In_findEntry 69 = .ok (.if_icmp .ne 9, 3) := by decide +kernel
theorem d_In_findEntry_72 : decode cb_In_findEntry 72 = .ok (.iload 6, 2) := by decide +kernel
theorem d_In_findEntry_74 : decode cb_In_findEntry 74 = .ok (.iload 7, 2) := by decide +kernel
theorem d_In_findEntry_76 : decode cb_In_findEntry 76 = .ok (.iadd, 1) := by decide +kernel
theorem d_In_findEntry_77 : decode cb_In_findEntry 77 = .ok (.ireturn, 1) := by decide +kernel
theorem d_In_findEntry_78 : decode cb_In_findEntry 78 = .ok (.aload_n 0, 1) := by decide +kernel
theorem d_In_findEntry_79 : decode cb_In_findEntry 79 = .ok (.dup, 1) := by decide +kernel
theorem d_In_findEntry_80 : decode cb_In_findEntry 80 = .ok (.getfield 9, 3) := by decide +kernel
theorem d_In_findEntry_83 : decode cb_In_findEntry 83 = .ok (.iconst 1, 1) := by decide +kernel
theorem d_In_findEntry_84 : decode cb_In_findEntry 84 = .ok (.iadd, 1) := by decide +kernel
theorem d_In_findEntry_85 : decode cb_In_findEntry 85 = .ok (.putfield 9, 3) := by decide +kernel
theorem d_In_findEntry_88 : decode cb_In_findEntry 88 = .ok (.iload 7, 2) := by decide +kernel
theorem d_In_findEntry_90 : decode cb_In_findEntry 90 = .ok (.aload_n 0, 1) := by decide +kernel
theorem d_In_findEntry_91 : decode cb_In_findEntry 91 = .ok (.getfield 15, 3) := by decide +kernel
theorem d_In_findEntry_94 : decode cb_In_findEntry 94 = .ok (.iload 6, 2) := by decide +kernel
theorem d_In_findEntry_96 : decode cb_In_findEntry 96 = .ok (.iload 7, 2) := by decide +kernel
theorem d_In_findEntry_98 : decode cb_In_findEntry 98 = .ok (.iadd, 1) := by decide +kernel
theorem d_In_findEntry_99 : decode cb_In_findEntry 99 = .ok (.iconst 4, 1) := by decide +kernel
theorem d_In_findEntry_100 : decode cb_In_findEntry 100 = .ok (.iadd, 1) := by decide +kernel
theorem d_In_findEntry_101 : decode cb_In_findEntry 101 = .ok (.invokevirtual 30, 3) := by decide +kernel
theorem d_In_findEntry_104 : decode cb_In_findEntry 104 = .ok (.bipush 12, 2) := by decide +kernel
theorem d_In_findEntry_106 : decode cb_In_findEntry 106 = .ok (.invokestatic 51, 3) := by decide +kernel
theorem d_In_findEntry_109 : decode cb_In_findEntry 109 = .ok (.iadd, 1) := by decide +kernel
theorem d_In_findEntry_110 : decode cb_In_findEntry 110 = .ok (.istore 7, 2) := by decide +kernel
theorem d_In_findEntry_112 : decode cb_In_findEntry 112 = .ok (.goto (-56), 3) := by decide +kernel
theorem d_In_findEntry_115 : decode cb_In_findEntry 115 = .ok (.iinc 5 1, 3) := by decide +kernel
theorem d_In_findEntry_118 : decode cb_In_findEntry 118 = .ok (.goto (-85), 3) := by decide +kernel
theorem d_In_findEntry_121 : decode cb_In_findEntry 121 = .ok (.iconst (-1), 1) := by decide +kernel
theorem d_In_findEntry_122 : decode cb_In_findEntry 122 = .ok (.ireturn, 1) := by decide +kernel
abbrev cb_In_countIn : ByteArray := prog_5_method_12_code
def y_In_countIn : MethodName := ⟨R_In, "countIn", "(I)I"⟩
theorem d_In_countIn_0 : decode cb_In_countIn 0 = .ok (.aload_n 0, 1) := by decide +kernel
theorem d_In_countIn_1 : decode cb_In_countIn 1 = .ok (.iload_n 1, 1) := by decide +kernel
theorem d_In_countIn_2 : decode cb_In_countIn 2 = .ok (.iconst (-1), 1) := by decide +kernel
theorem d_In_countIn_3 : decode cb_In_countIn 3 = .ok (.invokevirtual 56, 3) := by decide +kernel
theorem d_In_countIn_6 : decode cb_In_countIn 6 = .ok (.pop, 1) := by decide +kernel
theorem d_In_countIn_7 : decode cb_In_countIn 7 = .ok (.aload_n 0, 1) := by decide +kernel
theorem d_In_countIn_8 : decode cb_In_countIn 8 = .ok (.getfield 9, 3) := by decide +kernel
theorem d_In_countIn_11 : decode cb_In_countIn 11 = .ok (.iconst 2, 1) := by decide +kernel
theorem d_In_countIn_12 : decode cb_In_countIn 12 = .ok (.isub, 1) := by decide +kernel
theorem d_In_countIn_13 : decode cb_In_countIn 13 = .ok (.ireturn, 1) := by decide +kernel
abbrev cb_In_parentOf : ByteArray := prog_5_method_13_code
def y_In_parentOf : MethodName := ⟨R_In, "parentOf", "(I)I"⟩
theorem d_In_parentOf_0 : decode cb_In_parentOf 0 = .ok (.aload_n 0, 1) := by decide +kernel
theorem d_In_parentOf_1 : decode cb_In_parentOf 1 = .ok (.aload_n 0, 1) := by decide +kernel
theorem d_In_parentOf_2 : decode cb_In_parentOf 2 = .ok (.iload_n 1, 1) := by decide +kernel
theorem d_In_parentOf_3 : decode cb_In_parentOf 3 = .ok (.iconst 1, 1) := by decide +kernel
theorem d_In_parentOf_4 : decode cb_In_parentOf 4 = .ok (.invokevirtual 56, 3) := by decide +kernel
theorem d_In_parentOf_7 : decode cb_In_parentOf 7 = .ok (.invokevirtual 59, 3) := by decide +kernel
theorem d_In_parentOf_10 : decode cb_In_parentOf 10 = .ok (.istore_n 2, 1) := by decide +kernel
theorem d_In_parentOf_11 : decode cb_In_parentOf 11 = .ok (.iload_n 2, 1) := by decide +kernel
theorem d_In_parentOf_12 : decode cb_In_parentOf 12 = .ok (.iconst 2, 1) := by decide +kernel
theorem d_In_parentOf_13 : decode cb_In_parentOf 13 = .ok (.if_icmp .ne 7, 3) := by decide +kernel
theorem d_In_parentOf_16 : decode cb_In_parentOf 16 = .ok (.iconst 0, 1) := by decide +kernel
theorem d_In_parentOf_17 : decode cb_In_parentOf 17 = .ok (.goto 4, 3) := by decide +kernel
theorem d_In_parentOf_20 : decode cb_In_parentOf 20 = .ok (.iload_n 2, 1) := by decide +kernel
theorem d_In_parentOf_21 : decode cb_In_parentOf 21 = .ok (.ireturn, 1) := by decide +kernel
abbrev cb_In_inodeOf : ByteArray := prog_5_method_14_code
def y_In_inodeOf : MethodName := ⟨R_In, "inodeOf", "(I)I"⟩
theorem d_In_inodeOf_0 : decode cb_In_inodeOf 0 = .ok (.aload_n 0, 1) := by decide +kernel
theorem d_In_inodeOf_1 : decode cb_In_inodeOf 1 = .ok (.getfield 15, 3) := by decide +kernel
theorem d_In_inodeOf_4 : decode cb_In_inodeOf 4 = .ok (.iload_n 1, 1) := by decide +kernel
theorem d_In_inodeOf_5 : decode cb_In_inodeOf 5 = .ok (.invokevirtual 19, 3) := by decide +kernel
theorem d_In_inodeOf_8 : decode cb_In_inodeOf 8 = .ok (.ireturn, 1) := by decide +kernel
abbrev cb_In_nameByte : ByteArray := prog_5_method_15_code
def y_In_nameByte : MethodName := ⟨R_In, "nameByte", "(II)I"⟩
theorem d_In_nameByte_0 : decode cb_In_nameByte 0 = .ok (.iload_n 2, 1) := by decide +kernel
theorem d_In_nameByte_1 : decode cb_In_nameByte 1 = .ok (.ifCond .lt 34, 3) := by decide +kernel
theorem d_In_nameByte_4 : decode cb_In_nameByte 4 = .ok (.iload_n 2, 1) := by decide +kernel
theorem d_In_nameByte_5 : decode cb_In_nameByte 5 = .ok (.aload_n 0, 1) := by decide +kernel
theorem d_In_nameByte_6 : decode cb_In_nameByte 6 = .ok (.getfield 15, 3) := by decide +kernel
theorem d_In_nameByte_9 : decode cb_In_nameByte 9 = .ok (.iload_n 1, 1) := by decide +kernel
theorem d_In_nameByte_10 : decode cb_In_nameByte 10 = .ok (.bipush 6, 2) := by decide +kernel
theorem d_In_nameByte_12 : decode cb_In_nameByte 12 = .ok (.iadd, 1) := by decide +kernel
theorem d_In_nameByte_13 : decode cb_In_nameByte 13 = .ok (.invokevirtual 38, 3) := by decide +kernel
theorem d_In_nameByte_16 : decode cb_In_nameByte 16 = .ok (.if_icmp .ge 19, 3) := by decide +kernel
theorem d_In_nameByte_19 : decode cb_In_nameByte 19 = .ok (.aload_n 0, 1) := by decide +kernel
theorem d_In_nameByte_20 : decode cb_In_nameByte 20 = .ok (.getfield 15, 3) := by decide +kernel
theorem d_In_nameByte_23 : decode cb_In_nameByte 23 = .ok (.iload_n 1, 1) := by decide +kernel
theorem d_In_nameByte_24 : decode cb_In_nameByte 24 = .ok (.bipush 8, 2) := by decide +kernel
theorem d_In_nameByte_26 : decode cb_In_nameByte 26 = .ok (.iadd, 1) := by decide +kernel
theorem d_In_nameByte_27 : decode cb_In_nameByte 27 = .ok (.iload_n 2, 1) := by decide +kernel
theorem d_In_nameByte_28 : decode cb_In_nameByte 28 = .ok (.iadd, 1) := by decide +kernel
theorem d_In_nameByte_29 : decode cb_In_nameByte 29 = .ok (.invokevirtual 38, 3) := by decide +kernel
theorem d_In_nameByte_32 : decode cb_In_nameByte 32 = .ok (.goto 4, 3) := by decide +kernel
theorem d_In_nameByte_35 : decode cb_In_nameByte 35 = .ok (.iconst (-1), 1) := by decide +kernel
theorem d_In_nameByte_36 : decode cb_In_nameByte 36 = .ok (.ireturn, 1) := by decide +kernel
abbrev cb_In_isDirectory : ByteArray := prog_5_method_16_code
def y_In_isDirectory : MethodName := ⟨R_In, "isDirectory", "(I)Z"⟩
theorem d_In_isDirectory_0 : decode cb_In_isDirectory 0 = .ok (.aload_n 0, 1) := by decide +kernel
theorem d_In_isDirectory_1 : decode cb_In_isDirectory 1 = .ok (.getfield 15, 3) := by decide +kernel
theorem d_In_isDirectory_4 : decode cb_In_isDirectory 4 = .ok (.iload_n 1, 1) := by decide +kernel
theorem d_In_isDirectory_5 : decode cb_In_isDirectory 5 = .ok (.bipush 7, 2) := by decide +kernel
theorem d_In_isDirectory_7 : decode cb_In_isDirectory 7 = .ok (.iadd, 1) := by decide +kernel
theorem d_In_isDirectory_8 : decode cb_In_isDirectory 8 = .ok (.invokevirtual 38, 3) := by decide +kernel
theorem d_In_isDirectory_11 : decode cb_In_isDirectory 11 = .ok (.iconst 2, 1) := by decide +kernel
theorem d_In_isDirectory_12 : decode cb_In_isDirectory 12 = .ok (.if_icmp .ne 7, 3) := by decide +kernel
theorem d_In_isDirectory_15 : decode cb_In_isDirectory 15 = .ok (.iconst 1, 1) := by decide +kernel
theorem d_In_isDirectory_16 : decode cb_In_isDirectory 16 = .ok (.goto 4, 3) := by decide +kernel
theorem d_In_isDirectory_19 : decode cb_In_isDirectory 19 = .ok (.iconst 0, 1) := by decide +kernel
theorem d_In_isDirectory_20 : decode cb_In_isDirectory 20 = .ok (.ireturn, 1) := by decide +kernel
abbrev cb_In_tell : ByteArray := prog_5_method_17_code
def y_In_tell : MethodName := ⟨R_In, "tell", "(II)J"⟩
theorem d_In_tell_0 : decode cb_In_tell 0 = .ok (.aload_n 0, 1) := by decide +kernel
theorem d_In_tell_1 : decode cb_In_tell 1 = .ok (.aload_n 0, 1) := by decide +kernel
theorem d_In_tell_2 : decode cb_In_tell 2 = .ok (.iload_n 1, 1) := by decide +kernel
theorem d_In_tell_3 : decode cb_In_tell 3 = .ok (.invokevirtual 59, 3) := by decide +kernel
theorem d_In_tell_6 : decode cb_In_tell 6 = .ok (.invokevirtual 44, 3) := by decide +kernel
theorem d_In_tell_9 : decode cb_In_tell 9 = .ok (.istore_n 3, 1) := by decide +kernel
theorem d_In_tell_10 : decode cb_In_tell 10 = .ok (.iload_n 2, 1) := by decide +kernel
theorem d_In_tell_11 : decode cb_In_tell 11 = .ok (.lookupswitch 84 #[(0, 33), (1, 47), (5, 68)], 33) := by decide +kernel
theorem d_In_tell_44 : decode cb_In_tell 44 = .ok (.aload_n 0, 1) := by decide +kernel
theorem d_In_tell_45 : decode cb_In_tell 45 = .ok (.iload_n 1, 1) := by decide +kernel
theorem d_In_tell_46 : decode cb_In_tell 46 = .ok (.invokevirtual 62, 3) := by decide +kernel
theorem d_In_tell_49 : decode cb_In_tell 49 = .ok (.ifCond .eq 7, 3) := by decide +kernel
theorem d_In_tell_52 : decode cb_In_tell 52 = .ok (.lconst 1, 1) := by decide +kernel
theorem d_In_tell_53 : decode cb_In_tell 53 = .ok (.goto 4, 3) := by decide +kernel
theorem d_In_tell_56 : decode cb_In_tell 56 = .ok (.lconst 0, 1) := by decide +kernel
theorem d_In_tell_57 : decode cb_In_tell 57 = .ok (.lreturn, 1) := by decide +kernel
theorem d_In_tell_58 : decode cb_In_tell 58 = .ok (.aload_n 0, 1) := by decide +kernel
theorem d_In_tell_59 : decode cb_In_tell 59 = .ok (.getfield 15, 3) := by decide +kernel
theorem d_In_tell_62 : decode cb_In_tell 62 = .ok (.iload_n 3, 1) := by decide +kernel
theorem d_In_tell_63 : decode cb_In_tell 63 = .ok (.invokevirtual 30, 3) := by decide +kernel
theorem d_In_tell_66 : decode cb_In_tell 66 = .ok (.sipush 128, 3) := by decide +kernel
theorem d_In_tell_69 : decode cb_In_tell 69 = .ok (.iand, 1) := by decide +kernel
theorem d_In_tell_70 : decode cb_In_tell 70 = .ok (.ifCond .ne 7, 3) := by decide +kernel
theorem d_In_tell_73 : decode cb_In_tell 73 = .ok (.lconst 1, 1) := by decide +kernel
theorem d_In_tell_74 : decode cb_In_tell 74 = .ok (.goto 4, 3) := by decide +kernel
theorem d_In_tell_77 : decode cb_In_tell 77 = .ok (.lconst 0, 1) := by decide +kernel
theorem d_In_tell_78 : decode cb_In_tell 78 = .ok (.lreturn, 1) := by decide +kernel
theorem d_In_tell_79 : decode cb_In_tell 79 = .ok (.aload_n 0, 1) := by decide +kernel
theorem d_In_tell_80 : decode cb_In_tell 80 = .ok (.getfield 15, 3) := by decide +kernel
theorem d_In_tell_83 : decode cb_In_tell 83 = .ok (.iload_n 3, 1) := by decide +kernel
theorem d_In_tell_84 : decode cb_In_tell 84 = .ok (.iconst 4, 1) := by decide +kernel
theorem d_In_tell_85 : decode cb_In_tell 85 = .ok (.iadd, 1) := by decide +kernel
theorem d_In_tell_86 : decode cb_In_tell 86 = .ok (.invokevirtual 19, 3) := by decide +kernel
theorem d_In_tell_89 : decode cb_In_tell 89 = .ok (.i2l, 1) := by decide +kernel
theorem d_In_tell_90 : decode cb_In_tell 90 = .ok (.ldc2_w 66, 3) := by decide +kernel
theorem d_In_tell_93 : decode cb_In_tell 93 = .ok (.land, 1) := by decide +kernel
theorem d_In_tell_94 : decode cb_In_tell 94 = .ok (.lreturn, 1) := by decide +kernel
theorem d_In_tell_95 : decode cb_In_tell 95 = .ok (.aload_n 0, 1) := by decide +kernel
theorem d_In_tell_96 : decode cb_In_tell 96 = .ok (.getfield 15, 3) := by decide +kernel
theorem d_In_tell_99 : decode cb_In_tell 99 = .ok (.iload_n 3, 1) := by decide +kernel
theorem d_In_tell_100 : decode cb_In_tell 100 = .ok (.iconst 4, 1) := by decide +kernel
theorem d_In_tell_101 : decode cb_In_tell 101 = .ok (.iload_n 2, 1) := by decide +kernel
theorem d_In_tell_102 : decode cb_In_tell 102 = .ok (.imul, 1) := by decide +kernel
theorem d_In_tell_103 : decode cb_In_tell 103 = .ok (.iadd, 1) := by decide +kernel
theorem d_In_tell_104 : decode cb_In_tell 104 = .ok (.invokevirtual 19, 3) := by decide +kernel
theorem d_In_tell_107 : decode cb_In_tell 107 = .ok (.i2l, 1) := by decide +kernel
theorem d_In_tell_108 : decode cb_In_tell 108 = .ok (.ldc2_w 66, 3) := by decide +kernel
theorem d_In_tell_111 : decode cb_In_tell 111 = .ok (.land, 1) := by decide +kernel
theorem d_In_tell_112 : decode cb_In_tell 112 = .ok (.lreturn, 1) := by decide +kernel
abbrev cb_In_fileByte : ByteArray := prog_5_method_18_code
def y_In_fileByte : MethodName := ⟨R_In, "fileByte", "(II)I"⟩
theorem d_In_fileByte_0 : decode cb_In_fileByte 0 = .ok (.aload_n 0, 1) := by decide +kernel
theorem d_In_fileByte_1 : decode cb_In_fileByte 1 = .ok (.aload_n 0, 1) := by decide +kernel
theorem d_In_fileByte_2 : decode cb_In_fileByte 2 = .ok (.iload_n 1, 1) := by decide +kernel
theorem d_In_fileByte_3 : decode cb_In_fileByte 3 = .ok (.invokevirtual 59, 3) := by decide +kernel
theorem d_In_fileByte_6 : decode cb_In_fileByte 6 = .ok (.invokevirtual 44, 3) := by decide +kernel
theorem d_In_fileByte_9 : decode cb_In_fileByte 9 = .ok (.istore_n 3, 1) := by decide +kernel
theorem d_In_fileByte_10 : decode cb_In_fileByte 10 = .ok (.aload_n 0, 1) := by decide +kernel
theorem d_In_fileByte_11 : decode cb_In_fileByte 11 = .ok (.iload_n 1, 1) := by decide +kernel
theorem d_In_fileByte_12 : decode cb_In_fileByte 12 = .ok (.invokevirtual 62, 3) := by decide +kernel
theorem d_In_fileByte_15 : decode cb_In_fileByte 15 = .ok (.ifCond .ne 21, 3) := by decide +kernel
theorem d_In_fileByte_18 : decode cb_In_fileByte 18 = .ok (.iload_n 2, 1) := by decide +kernel
theorem d_In_fileByte_19 : decode cb_In_fileByte 19 = .ok (.ifCond .lt 17, 3) := by decide +kernel
theorem d_In_fileByte_22 : decode cb_In_fileByte 22 = .ok (.iload_n 2, 1) := by decide +kernel
theorem d_In_fileByte_23 : decode cb_In_fileByte 23 = .ok (.aload_n 0, 1) := by decide +kernel
theorem d_In_fileByte_24 : decode cb_In_fileByte 24 = .ok (.getfield 15, 3) := by decide +kernel
theorem d_In_fileByte_27 : decode cb_In_fileByte 27 = .ok (.iload_n 3, 1) := by decide +kernel
theorem d_In_fileByte_28 : decode cb_In_fileByte 28 = .ok (.iconst 4, 1) := by decide +kernel
theorem d_In_fileByte_29 : decode cb_In_fileByte 29 = .ok (.iadd, 1) := by decide +kernel
theorem d_In_fileByte_30 : decode cb_In_fileByte 30 = .ok (.invokevirtual 19, 3) := by decide +kernel
theorem d_In_fileByte_33 : decode cb_In_fileByte 33 = .ok (.if_icmp .lt 5, 3) := by decide +kernel
theorem d_In_fileByte_36 : decode cb_In_fileByte 36 = .ok (.iconst (-1), 1) := by decide +kernel
theorem d_In_fileByte_37 : decode cb_In_fileByte 37 = .ok (.ireturn, 1) := by decide +kernel
theorem d_In_fileByte_38 : decode cb_In_fileByte 38 = .ok (.aload_n 0, 1) := by decide +kernel
theorem d_In_fileByte_39 : decode cb_In_fileByte 39 = .ok (.getfield 15, 3) := by decide +kernel
theorem d_In_fileByte_42 : decode cb_In_fileByte 42 = .ok (.aload_n 0, 1) := by decide +kernel
theorem d_In_fileByte_43 : decode cb_In_fileByte 43 = .ok (.iload_n 3, 1) := by decide +kernel
theorem d_In_fileByte_44 : decode cb_In_fileByte 44 = .ok (.iload_n 2, 1) := by decide +kernel
theorem d_In_fileByte_45 : decode cb_In_fileByte 45 = .ok (.sipush 1024, 3) := by decide +kernel
theorem d_In_fileByte_48 : decode cb_In_fileByte 48 = .ok (.idiv, 1) := by decide +kernel
theorem d_In_fileByte_49 : decode cb_In_fileByte 49 = .ok (.invokevirtual 47, 3) := by decide +kernel
theorem d_In_fileByte_52 : decode cb_In_fileByte 52 = .ok (.sipush 1024, 3) := by decide +kernel
theorem d_In_fileByte_55 : decode cb_In_fileByte 55 = .ok (.imul, 1) := by decide +kernel
theorem d_In_fileByte_56 : decode cb_In_fileByte 56 = .ok (.iload_n 2, 1) := by decide +kernel
theorem d_In_fileByte_57 : decode cb_In_fileByte 57 = .ok (.sipush 1024, 3) := by decide +kernel
theorem d_In_fileByte_60 : decode cb_In_fileByte 60 = .ok (.irem, 1) := by decide +kernel
theorem d_In_fileByte_61 : decode cb_In_fileByte 61 = .ok (.iadd, 1) := by decide +kernel
theorem d_In_fileByte_62 : decode cb_In_fileByte 62 = .ok (.invokevirtual 38, 3) := by decide +kernel
theorem d_In_fileByte_65 : decode cb_In_fileByte 65 = .ok (.ireturn, 1) := by decide +kernel
def K_In : List Cond := [(.initialized "VolumeTurner$Inodes"), (.instantiable "VolumeTurner$Inodes" 2), (.instanceMethod y_In_init), (.code y_In_init prog_5_method_1_code 2 none), (.methodLink "VolumeTurner$Inodes" 3 objectInit), (.fieldLink "VolumeTurner$Inodes" 15 "VolumeTurner$Inodes" "disk" "LVolumeTurner$Disk;"), (.fieldLink "VolumeTurner$Inodes" 9 "VolumeTurner$Inodes" "seen" "I"), (.instanceMethod y_In_isThere), (.selects "VolumeTurner$Inodes" y_In_isThere y_In_isThere), (.code y_In_isThere prog_5_method_5_code 1 (some .boolean)), (.methodLink "VolumeTurner$Inodes" 26 y_In_isMarked), (.instanceMethod y_In_isMarked), (.selects "VolumeTurner$Inodes" y_In_isMarked y_In_isMarked), (.code y_In_isMarked prog_5_method_2_code 1 (some .boolean)), (.methodLink "VolumeTurner$Inodes" 19 y_Dk_four), (.constant "VolumeTurner$Inodes" 25 (1314018644 : Int32)), (.methodLink "VolumeTurner$Inodes" 30 y_Dk_two), (.constant "VolumeTurner$Inodes" 33 (61267 : Int32)), (.instanceMethod y_In_shows), (.selects "VolumeTurner$Inodes" y_In_shows y_In_shows), (.code y_In_shows prog_5_method_7_code 6 (some .boolean)), (.methodLink "VolumeTurner$Inodes" 34 y_In_groupSize), (.instanceMethod y_In_groupSize), (.selects "VolumeTurner$Inodes" y_In_groupSize y_In_groupSize), (.code y_In_groupSize prog_5_method_6_code 1 (some .int)), (.methodLink "VolumeTurner$Inodes" 38 y_Dk_one), (.instanceMethod y_In_countIn), (.selects "VolumeTurner$Inodes" y_In_countIn y_In_countIn), (.code y_In_countIn prog_5_method_12_code 2 (some .int)), (.methodLink "VolumeTurner$Inodes" 56 y_In_findEntry), (.instanceMethod y_In_findEntry), (.selects "VolumeTurner$Inodes" y_In_findEntry y_In_findEntry), (.code y_In_findEntry prog_5_method_11_code 8 (some .int)), (.methodLink "VolumeTurner$Inodes" 41 y_In_directoryInode), (.static y_In_directoryInode), (.code y_In_directoryInode prog_5_method_10_code 1 (some .int)), (.methodLink "VolumeTurner$Inodes" 44 y_In_inodePlace), (.instanceMethod y_In_inodePlace), (.code y_In_inodePlace prog_5_method_8_code 4 (some .int)), (.methodLink "VolumeTurner$Inodes" 47 y_In_blockOf), (.instanceMethod y_In_blockOf), (.code y_In_blockOf prog_5_method_9_code 5 (some .int)), (.methodLink "VolumeTurner$Inodes" 51 ⟨"java/lang/Math", "max", "(II)I"⟩), (.instanceMethod y_In_nameByte), (.selects "VolumeTurner$Inodes" y_In_nameByte y_In_nameByte), (.code y_In_nameByte prog_5_method_15_code 3 (some .int)), (.instanceMethod y_In_tell), (.selects "VolumeTurner$Inodes" y_In_tell y_In_tell), (.code y_In_tell prog_5_method_17_code 4 (some .long)), (.methodLink "VolumeTurner$Inodes" 59 y_In_inodeOf), (.instanceMethod y_In_inodeOf), (.selects "VolumeTurner$Inodes" y_In_inodeOf y_In_inodeOf), (.code y_In_inodeOf prog_5_method_14_code 2 (some .int)), (.methodLink "VolumeTurner$Inodes" 62 y_In_isDirectory), (.instanceMethod y_In_isDirectory), (.selects "VolumeTurner$Inodes" y_In_isDirectory y_In_isDirectory), (.code y_In_isDirectory prog_5_method_16_code 2 (some .boolean)), (.constantLong "VolumeTurner$Inodes" 66 (4294967295 : Int64)), (.instanceMethod y_In_fileByte), (.selects "VolumeTurner$Inodes" y_In_fileByte y_In_fileByte), (.code y_In_fileByte prog_5_method_18_code 4 (some .int)), (.instanceMethod y_In_parentOf), (.selects "VolumeTurner$Inodes" y_In_parentOf y_In_parentOf), (.code y_In_parentOf prog_5_method_13_code 3 (some .int)), (.instanceMethod y_In_markedSize), (.selects "VolumeTurner$Inodes" y_In_markedSize y_In_markedSize), (.code y_In_markedSize prog_5_method_3_code 1 (some .int)), (.instanceMethod y_In_markedInodes), (.selects "VolumeTurner$Inodes" y_In_markedInodes y_In_markedInodes), (.code y_In_markedInodes prog_5_method_4_code 1 (some .int)), (.selects "VolumeTurner$Inodes" y_In_inodePlace y_In_inodePlace), (.selects "VolumeTurner$Inodes" y_In_blockOf y_In_blockOf)]
theorem j_In_0 : (.initialized "VolumeTurner$Inodes") ∈ K_In := List.mem_of_getElem? (i := 0) rfl
theorem j_In_1 : (.instantiable "VolumeTurner$Inodes" 2) ∈ K_In := List.mem_of_getElem? (i := 1) rfl
theorem j_In_2 : (.instanceMethod y_In_init) ∈ K_In := List.mem_of_getElem? (i := 2) rfl
theorem j_In_3 : (.code y_In_init prog_5_method_1_code 2 none) ∈ K_In := List.mem_of_getElem? (i := 3) rfl
theorem j_In_4 : (.methodLink "VolumeTurner$Inodes" 3 objectInit) ∈ K_In := List.mem_of_getElem? (i := 4) rfl
theorem j_In_5 : (.fieldLink "VolumeTurner$Inodes" 15 "VolumeTurner$Inodes" "disk" "LVolumeTurner$Disk;") ∈ K_In := List.mem_of_getElem? (i := 5) rfl
theorem j_In_6 : (.fieldLink "VolumeTurner$Inodes" 9 "VolumeTurner$Inodes" "seen" "I") ∈ K_In := List.mem_of_getElem? (i := 6) rfl
theorem j_In_7 : (.instanceMethod y_In_isThere) ∈ K_In := List.mem_of_getElem? (i := 7) rfl
theorem j_In_8 : (.selects "VolumeTurner$Inodes" y_In_isThere y_In_isThere) ∈ K_In := List.mem_of_getElem? (i := 8) rfl
theorem j_In_9 : (.code y_In_isThere prog_5_method_5_code 1 (some .boolean)) ∈ K_In := List.mem_of_getElem? (i := 9) rfl
theorem j_In_10 : (.methodLink "VolumeTurner$Inodes" 26 y_In_isMarked) ∈ K_In := List.mem_of_getElem? (i := 10) rfl
theorem j_In_11 : (.instanceMethod y_In_isMarked) ∈ K_In := List.mem_of_getElem? (i := 11) rfl
theorem j_In_12 : (.selects "VolumeTurner$Inodes" y_In_isMarked y_In_isMarked) ∈ K_In := List.mem_of_getElem? (i := 12) rfl
theorem j_In_13 : (.code y_In_isMarked prog_5_method_2_code 1 (some .boolean)) ∈ K_In := List.mem_of_getElem? (i := 13) rfl
theorem j_In_14 : (.methodLink "VolumeTurner$Inodes" 19 y_Dk_four) ∈ K_In := List.mem_of_getElem? (i := 14) rfl
theorem j_In_15 : (.constant "VolumeTurner$Inodes" 25 (1314018644 : Int32)) ∈ K_In := List.mem_of_getElem? (i := 15) rfl
theorem j_In_16 : (.methodLink "VolumeTurner$Inodes" 30 y_Dk_two) ∈ K_In := List.mem_of_getElem? (i := 16) rfl
theorem j_In_17 : (.constant "VolumeTurner$Inodes" 33 (61267 : Int32)) ∈ K_In := List.mem_of_getElem? (i := 17) rfl
theorem j_In_18 : (.instanceMethod y_In_shows) ∈ K_In := List.mem_of_getElem? (i := 18) rfl
theorem j_In_19 : (.selects "VolumeTurner$Inodes" y_In_shows y_In_shows) ∈ K_In := List.mem_of_getElem? (i := 19) rfl
theorem j_In_20 : (.code y_In_shows prog_5_method_7_code 6 (some .boolean)) ∈ K_In := List.mem_of_getElem? (i := 20) rfl
theorem j_In_21 : (.methodLink "VolumeTurner$Inodes" 34 y_In_groupSize) ∈ K_In := List.mem_of_getElem? (i := 21) rfl
theorem j_In_22 : (.instanceMethod y_In_groupSize) ∈ K_In := List.mem_of_getElem? (i := 22) rfl
theorem j_In_23 : (.selects "VolumeTurner$Inodes" y_In_groupSize y_In_groupSize) ∈ K_In := List.mem_of_getElem? (i := 23) rfl
theorem j_In_24 : (.code y_In_groupSize prog_5_method_6_code 1 (some .int)) ∈ K_In := List.mem_of_getElem? (i := 24) rfl
theorem j_In_25 : (.methodLink "VolumeTurner$Inodes" 38 y_Dk_one) ∈ K_In := List.mem_of_getElem? (i := 25) rfl
theorem j_In_26 : (.instanceMethod y_In_countIn) ∈ K_In := List.mem_of_getElem? (i := 26) rfl
theorem j_In_27 : (.selects "VolumeTurner$Inodes" y_In_countIn y_In_countIn) ∈ K_In := List.mem_of_getElem? (i := 27) rfl
theorem j_In_28 : (.code y_In_countIn prog_5_method_12_code 2 (some .int)) ∈ K_In := List.mem_of_getElem? (i := 28) rfl
theorem j_In_29 : (.methodLink "VolumeTurner$Inodes" 56 y_In_findEntry) ∈ K_In := List.mem_of_getElem? (i := 29) rfl
theorem j_In_30 : (.instanceMethod y_In_findEntry) ∈ K_In := List.mem_of_getElem? (i := 30) rfl
theorem j_In_31 : (.selects "VolumeTurner$Inodes" y_In_findEntry y_In_findEntry) ∈ K_In := List.mem_of_getElem? (i := 31) rfl
theorem j_In_32 : (.code y_In_findEntry prog_5_method_11_code 8 (some .int)) ∈ K_In := List.mem_of_getElem? (i := 32) rfl
theorem j_In_33 : (.methodLink "VolumeTurner$Inodes" 41 y_In_directoryInode) ∈ K_In := List.mem_of_getElem? (i := 33) rfl
theorem j_In_34 : (.static y_In_directoryInode) ∈ K_In := List.mem_of_getElem? (i := 34) rfl
theorem j_In_35 : (.code y_In_directoryInode prog_5_method_10_code 1 (some .int)) ∈ K_In := List.mem_of_getElem? (i := 35) rfl
theorem j_In_36 : (.methodLink "VolumeTurner$Inodes" 44 y_In_inodePlace) ∈ K_In := List.mem_of_getElem? (i := 36) rfl
theorem j_In_37 : (.instanceMethod y_In_inodePlace) ∈ K_In := List.mem_of_getElem? (i := 37) rfl
theorem j_In_38 : (.code y_In_inodePlace prog_5_method_8_code 4 (some .int)) ∈ K_In := List.mem_of_getElem? (i := 38) rfl
theorem j_In_39 : (.methodLink "VolumeTurner$Inodes" 47 y_In_blockOf) ∈ K_In := List.mem_of_getElem? (i := 39) rfl
theorem j_In_40 : (.instanceMethod y_In_blockOf) ∈ K_In := List.mem_of_getElem? (i := 40) rfl
theorem j_In_41 : (.code y_In_blockOf prog_5_method_9_code 5 (some .int)) ∈ K_In := List.mem_of_getElem? (i := 41) rfl
theorem j_In_42 : (.methodLink "VolumeTurner$Inodes" 51 ⟨"java/lang/Math", "max", "(II)I"⟩) ∈ K_In := List.mem_of_getElem? (i := 42) rfl
theorem j_In_43 : (.instanceMethod y_In_nameByte) ∈ K_In := List.mem_of_getElem? (i := 43) rfl
theorem j_In_44 : (.selects "VolumeTurner$Inodes" y_In_nameByte y_In_nameByte) ∈ K_In := List.mem_of_getElem? (i := 44) rfl
theorem j_In_45 : (.code y_In_nameByte prog_5_method_15_code 3 (some .int)) ∈ K_In := List.mem_of_getElem? (i := 45) rfl
theorem j_In_46 : (.instanceMethod y_In_tell) ∈ K_In := List.mem_of_getElem? (i := 46) rfl
theorem j_In_47 : (.selects "VolumeTurner$Inodes" y_In_tell y_In_tell) ∈ K_In := List.mem_of_getElem? (i := 47) rfl
theorem j_In_48 : (.code y_In_tell prog_5_method_17_code 4 (some .long)) ∈ K_In := List.mem_of_getElem? (i := 48) rfl
theorem j_In_49 : (.methodLink "VolumeTurner$Inodes" 59 y_In_inodeOf) ∈ K_In := List.mem_of_getElem? (i := 49) rfl
theorem j_In_50 : (.instanceMethod y_In_inodeOf) ∈ K_In := List.mem_of_getElem? (i := 50) rfl
theorem j_In_51 : (.selects "VolumeTurner$Inodes" y_In_inodeOf y_In_inodeOf) ∈ K_In := List.mem_of_getElem? (i := 51) rfl
theorem j_In_52 : (.code y_In_inodeOf prog_5_method_14_code 2 (some .int)) ∈ K_In := List.mem_of_getElem? (i := 52) rfl
theorem j_In_53 : (.methodLink "VolumeTurner$Inodes" 62 y_In_isDirectory) ∈ K_In := List.mem_of_getElem? (i := 53) rfl
theorem j_In_54 : (.instanceMethod y_In_isDirectory) ∈ K_In := List.mem_of_getElem? (i := 54) rfl
theorem j_In_55 : (.selects "VolumeTurner$Inodes" y_In_isDirectory y_In_isDirectory) ∈ K_In := List.mem_of_getElem? (i := 55) rfl
theorem j_In_56 : (.code y_In_isDirectory prog_5_method_16_code 2 (some .boolean)) ∈ K_In := List.mem_of_getElem? (i := 56) rfl
theorem j_In_57 : (.constantLong "VolumeTurner$Inodes" 66 (4294967295 : Int64)) ∈ K_In := List.mem_of_getElem? (i := 57) rfl
theorem j_In_58 : (.instanceMethod y_In_fileByte) ∈ K_In := List.mem_of_getElem? (i := 58) rfl
theorem j_In_59 : (.selects "VolumeTurner$Inodes" y_In_fileByte y_In_fileByte) ∈ K_In := List.mem_of_getElem? (i := 59) rfl
theorem j_In_60 : (.code y_In_fileByte prog_5_method_18_code 4 (some .int)) ∈ K_In := List.mem_of_getElem? (i := 60) rfl
theorem j_In_61 : (.instanceMethod y_In_parentOf) ∈ K_In := List.mem_of_getElem? (i := 61) rfl
theorem j_In_62 : (.selects "VolumeTurner$Inodes" y_In_parentOf y_In_parentOf) ∈ K_In := List.mem_of_getElem? (i := 62) rfl
theorem j_In_63 : (.code y_In_parentOf prog_5_method_13_code 3 (some .int)) ∈ K_In := List.mem_of_getElem? (i := 63) rfl
theorem j_In_64 : (.instanceMethod y_In_markedSize) ∈ K_In := List.mem_of_getElem? (i := 64) rfl
theorem j_In_65 : (.selects "VolumeTurner$Inodes" y_In_markedSize y_In_markedSize) ∈ K_In := List.mem_of_getElem? (i := 65) rfl
theorem j_In_66 : (.code y_In_markedSize prog_5_method_3_code 1 (some .int)) ∈ K_In := List.mem_of_getElem? (i := 66) rfl
theorem j_In_67 : (.instanceMethod y_In_markedInodes) ∈ K_In := List.mem_of_getElem? (i := 67) rfl
theorem j_In_68 : (.selects "VolumeTurner$Inodes" y_In_markedInodes y_In_markedInodes) ∈ K_In := List.mem_of_getElem? (i := 68) rfl
theorem j_In_69 : (.code y_In_markedInodes prog_5_method_4_code 1 (some .int)) ∈ K_In := List.mem_of_getElem? (i := 69) rfl
theorem j_In_70 : (.selects "VolumeTurner$Inodes" y_In_inodePlace y_In_inodePlace) ∈ K_In := List.mem_of_getElem? (i := 70) rfl
theorem j_In_71 : (.selects "VolumeTurner$Inodes" y_In_blockOf y_In_blockOf) ∈ K_In := List.mem_of_getElem? (i := 71) rfl
def V_In : List Cond := w_In ++ (K_In ++ V_Tr)
theorem i_In : ∀ w ∈ w_In, w ∈ V_In := fun _ h => List.mem_append_left _ h
theorem kk_In : ∀ w ∈ K_In, w ∈ V_In := fun _ h => List.mem_append_right _ (List.mem_append_left _ h)
theorem u_In_Tr : ∀ w ∈ V_Tr, w ∈ V_In := fun _ h => List.mem_append_right _ (List.mem_append_right _ h)
theorem u_In_J : ∀ w ∈ V_J, w ∈ V_In := fun w h => u_In_Tr w (u_Tr_J w h)
theorem u_In_Dk : ∀ w ∈ V_Dk, w ∈ V_In := fun w h => u_In_Tr w (u_Tr_Dk w h)
theorem u_In_Wo : ∀ w ∈ V_Wo, w ∈ V_In := fun w h => u_In_Tr w (u_Tr_Wo w h)
theorem u_In_Da : ∀ w ∈ V_Da, w ∈ V_In := fun w h => u_In_Tr w (u_Tr_Da w h)
theorem u_In_Tp : ∀ w ∈ V_Tp, w ∈ V_In := fun w h => u_In_Tr w (u_Tr_Tp w h)
theorem u_In_Tb : ∀ w ∈ V_Tb, w ∈ V_In := fun w h => u_In_Tr w (u_Tr_Tb w h)
theorem k_In_0 : (.initialized "VolumeTurner$Inodes") ∈ V_In := kk_In _ j_In_0
theorem k_In_1 : (.instantiable "VolumeTurner$Inodes" 2) ∈ V_In := kk_In _ j_In_1
theorem k_In_2 : (.instanceMethod y_In_init) ∈ V_In := kk_In _ j_In_2
theorem k_In_3 : (.code y_In_init prog_5_method_1_code 2 none) ∈ V_In := kk_In _ j_In_3
theorem k_In_4 : (.methodLink "VolumeTurner$Inodes" 3 objectInit) ∈ V_In := kk_In _ j_In_4
theorem k_In_5 : (.fieldLink "VolumeTurner$Inodes" 15 "VolumeTurner$Inodes" "disk" "LVolumeTurner$Disk;") ∈ V_In := kk_In _ j_In_5
theorem k_In_6 : (.fieldLink "VolumeTurner$Inodes" 9 "VolumeTurner$Inodes" "seen" "I") ∈ V_In := kk_In _ j_In_6
theorem k_In_7 : (.instanceMethod y_In_isThere) ∈ V_In := kk_In _ j_In_7
theorem k_In_8 : (.selects "VolumeTurner$Inodes" y_In_isThere y_In_isThere) ∈ V_In := kk_In _ j_In_8
theorem k_In_9 : (.code y_In_isThere prog_5_method_5_code 1 (some .boolean)) ∈ V_In := kk_In _ j_In_9
theorem k_In_10 : (.methodLink "VolumeTurner$Inodes" 26 y_In_isMarked) ∈ V_In := kk_In _ j_In_10
theorem k_In_11 : (.instanceMethod y_In_isMarked) ∈ V_In := kk_In _ j_In_11
theorem k_In_12 : (.selects "VolumeTurner$Inodes" y_In_isMarked y_In_isMarked) ∈ V_In := kk_In _ j_In_12
theorem k_In_13 : (.code y_In_isMarked prog_5_method_2_code 1 (some .boolean)) ∈ V_In := kk_In _ j_In_13
theorem k_In_14 : (.methodLink "VolumeTurner$Inodes" 19 y_Dk_four) ∈ V_In := kk_In _ j_In_14
theorem k_In_15 : (.constant "VolumeTurner$Inodes" 25 (1314018644 : Int32)) ∈ V_In := kk_In _ j_In_15
theorem k_In_16 : (.methodLink "VolumeTurner$Inodes" 30 y_Dk_two) ∈ V_In := kk_In _ j_In_16
theorem k_In_17 : (.constant "VolumeTurner$Inodes" 33 (61267 : Int32)) ∈ V_In := kk_In _ j_In_17
theorem k_In_18 : (.instanceMethod y_In_shows) ∈ V_In := kk_In _ j_In_18
theorem k_In_19 : (.selects "VolumeTurner$Inodes" y_In_shows y_In_shows) ∈ V_In := kk_In _ j_In_19
theorem k_In_20 : (.code y_In_shows prog_5_method_7_code 6 (some .boolean)) ∈ V_In := kk_In _ j_In_20
theorem k_In_21 : (.methodLink "VolumeTurner$Inodes" 34 y_In_groupSize) ∈ V_In := kk_In _ j_In_21
theorem k_In_22 : (.instanceMethod y_In_groupSize) ∈ V_In := kk_In _ j_In_22
theorem k_In_23 : (.selects "VolumeTurner$Inodes" y_In_groupSize y_In_groupSize) ∈ V_In := kk_In _ j_In_23
theorem k_In_24 : (.code y_In_groupSize prog_5_method_6_code 1 (some .int)) ∈ V_In := kk_In _ j_In_24
theorem k_In_25 : (.methodLink "VolumeTurner$Inodes" 38 y_Dk_one) ∈ V_In := kk_In _ j_In_25
theorem k_In_26 : (.instanceMethod y_In_countIn) ∈ V_In := kk_In _ j_In_26
theorem k_In_27 : (.selects "VolumeTurner$Inodes" y_In_countIn y_In_countIn) ∈ V_In := kk_In _ j_In_27
theorem k_In_28 : (.code y_In_countIn prog_5_method_12_code 2 (some .int)) ∈ V_In := kk_In _ j_In_28
theorem k_In_29 : (.methodLink "VolumeTurner$Inodes" 56 y_In_findEntry) ∈ V_In := kk_In _ j_In_29
theorem k_In_30 : (.instanceMethod y_In_findEntry) ∈ V_In := kk_In _ j_In_30
theorem k_In_31 : (.selects "VolumeTurner$Inodes" y_In_findEntry y_In_findEntry) ∈ V_In := kk_In _ j_In_31
theorem k_In_32 : (.code y_In_findEntry prog_5_method_11_code 8 (some .int)) ∈ V_In := kk_In _ j_In_32
theorem k_In_33 : (.methodLink "VolumeTurner$Inodes" 41 y_In_directoryInode) ∈ V_In := kk_In _ j_In_33
theorem k_In_34 : (.static y_In_directoryInode) ∈ V_In := kk_In _ j_In_34
theorem k_In_35 : (.code y_In_directoryInode prog_5_method_10_code 1 (some .int)) ∈ V_In := kk_In _ j_In_35
theorem k_In_36 : (.methodLink "VolumeTurner$Inodes" 44 y_In_inodePlace) ∈ V_In := kk_In _ j_In_36
theorem k_In_37 : (.instanceMethod y_In_inodePlace) ∈ V_In := kk_In _ j_In_37
theorem k_In_38 : (.code y_In_inodePlace prog_5_method_8_code 4 (some .int)) ∈ V_In := kk_In _ j_In_38
theorem k_In_39 : (.methodLink "VolumeTurner$Inodes" 47 y_In_blockOf) ∈ V_In := kk_In _ j_In_39
theorem k_In_40 : (.instanceMethod y_In_blockOf) ∈ V_In := kk_In _ j_In_40
theorem k_In_41 : (.code y_In_blockOf prog_5_method_9_code 5 (some .int)) ∈ V_In := kk_In _ j_In_41
theorem k_In_42 : (.methodLink "VolumeTurner$Inodes" 51 ⟨"java/lang/Math", "max", "(II)I"⟩) ∈ V_In := kk_In _ j_In_42
theorem k_In_43 : (.instanceMethod y_In_nameByte) ∈ V_In := kk_In _ j_In_43
theorem k_In_44 : (.selects "VolumeTurner$Inodes" y_In_nameByte y_In_nameByte) ∈ V_In := kk_In _ j_In_44
theorem k_In_45 : (.code y_In_nameByte prog_5_method_15_code 3 (some .int)) ∈ V_In := kk_In _ j_In_45
theorem k_In_46 : (.instanceMethod y_In_tell) ∈ V_In := kk_In _ j_In_46
theorem k_In_47 : (.selects "VolumeTurner$Inodes" y_In_tell y_In_tell) ∈ V_In := kk_In _ j_In_47
theorem k_In_48 : (.code y_In_tell prog_5_method_17_code 4 (some .long)) ∈ V_In := kk_In _ j_In_48
theorem k_In_49 : (.methodLink "VolumeTurner$Inodes" 59 y_In_inodeOf) ∈ V_In := kk_In _ j_In_49
theorem k_In_50 : (.instanceMethod y_In_inodeOf) ∈ V_In := kk_In _ j_In_50
theorem k_In_51 : (.selects "VolumeTurner$Inodes" y_In_inodeOf y_In_inodeOf) ∈ V_In := kk_In _ j_In_51
theorem k_In_52 : (.code y_In_inodeOf prog_5_method_14_code 2 (some .int)) ∈ V_In := kk_In _ j_In_52
theorem k_In_53 : (.methodLink "VolumeTurner$Inodes" 62 y_In_isDirectory) ∈ V_In := kk_In _ j_In_53
theorem k_In_54 : (.instanceMethod y_In_isDirectory) ∈ V_In := kk_In _ j_In_54
theorem k_In_55 : (.selects "VolumeTurner$Inodes" y_In_isDirectory y_In_isDirectory) ∈ V_In := kk_In _ j_In_55
theorem k_In_56 : (.code y_In_isDirectory prog_5_method_16_code 2 (some .boolean)) ∈ V_In := kk_In _ j_In_56
theorem k_In_57 : (.constantLong "VolumeTurner$Inodes" 66 (4294967295 : Int64)) ∈ V_In := kk_In _ j_In_57
theorem k_In_58 : (.instanceMethod y_In_fileByte) ∈ V_In := kk_In _ j_In_58
theorem k_In_59 : (.selects "VolumeTurner$Inodes" y_In_fileByte y_In_fileByte) ∈ V_In := kk_In _ j_In_59
theorem k_In_60 : (.code y_In_fileByte prog_5_method_18_code 4 (some .int)) ∈ V_In := kk_In _ j_In_60
theorem k_In_61 : (.instanceMethod y_In_parentOf) ∈ V_In := kk_In _ j_In_61
theorem k_In_62 : (.selects "VolumeTurner$Inodes" y_In_parentOf y_In_parentOf) ∈ V_In := kk_In _ j_In_62
theorem k_In_63 : (.code y_In_parentOf prog_5_method_13_code 3 (some .int)) ∈ V_In := kk_In _ j_In_63
theorem k_In_64 : (.instanceMethod y_In_markedSize) ∈ V_In := kk_In _ j_In_64
theorem k_In_65 : (.selects "VolumeTurner$Inodes" y_In_markedSize y_In_markedSize) ∈ V_In := kk_In _ j_In_65
theorem k_In_66 : (.code y_In_markedSize prog_5_method_3_code 1 (some .int)) ∈ V_In := kk_In _ j_In_66
theorem k_In_67 : (.instanceMethod y_In_markedInodes) ∈ V_In := kk_In _ j_In_67
theorem k_In_68 : (.selects "VolumeTurner$Inodes" y_In_markedInodes y_In_markedInodes) ∈ V_In := kk_In _ j_In_68
theorem k_In_69 : (.code y_In_markedInodes prog_5_method_4_code 1 (some .int)) ∈ V_In := kk_In _ j_In_69
theorem k_In_70 : (.selects "VolumeTurner$Inodes" y_In_inodePlace y_In_inodePlace) ∈ V_In := kk_In _ j_In_70
theorem k_In_71 : (.selects "VolumeTurner$Inodes" y_In_blockOf y_In_blockOf) ∈ V_In := kk_In _ j_In_71
theorem gk_In : ∀ w ∈ w_In ++ K_In, goodWord w = true := List.all_eq_true.mp (by decide +kernel)
theorem good_In : GoodIn V_In V_In := fun w h => by
  refine ⟨h, ?_⟩
  rcases List.mem_append.mp h with q | q
  · exact good_of_word (gk_In w (List.mem_append_left _ q))
  · rcases List.mem_append.mp q with q | q
    · exact good_of_word (gk_In w (List.mem_append_right _ q))
    · exact (good_Tr w q).2
