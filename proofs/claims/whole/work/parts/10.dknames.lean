abbrev b_Dk_init : ByteArray := prog_3_method_1_code
def y_Dk_init : MethodName := ⟨R_Dk, "<init>", "(I)V"⟩
theorem d_Dk_init_0 : decode b_Dk_init 0 = .ok (.aload_n 0, 1) := by decide +kernel
theorem d_Dk_init_1 : decode b_Dk_init 1 = .ok (.invokespecial 3, 3) := by decide +kernel
theorem d_Dk_init_4 : decode b_Dk_init 4 = .ok (.aload_n 0, 1) := by decide +kernel
theorem d_Dk_init_5 : decode b_Dk_init 5 = .ok (.iconst (-1), 1) := by decide +kernel
theorem d_Dk_init_6 : decode b_Dk_init 6 = .ok (.putfield 11, 3) := by decide +kernel
theorem d_Dk_init_9 : decode b_Dk_init 9 = .ok (.aload_n 0, 1) := by decide +kernel
theorem d_Dk_init_10 : decode b_Dk_init 10 = .ok (.iload_n 1, 1) := by decide +kernel
theorem d_Dk_init_11 : decode b_Dk_init 11 = .ok (.putfield 15, 3) := by decide +kernel
theorem d_Dk_init_14 : decode b_Dk_init 14 = .ok (.aload_n 0, 1) := by decide +kernel
theorem d_Dk_init_15 : decode b_Dk_init 15 = .ok (.iload_n 1, 1) := by decide +kernel
theorem d_Dk_init_16 : decode b_Dk_init 16 = .ok (.sipush 512, 3) := by decide +kernel
theorem d_Dk_init_19 : decode b_Dk_init 19 = .ok (.imul, 1) := by decide +kernel
theorem d_Dk_init_20 : decode b_Dk_init 20 = .ok (.newarray .byte, 2) := by decide +kernel
theorem d_Dk_init_22 : decode b_Dk_init 22 = .ok (.putfield 18, 3) := by decide +kernel
theorem d_Dk_init_25 : decode b_Dk_init 25 = .ok (.return_, 1) := by decide +kernel
abbrev cb_Dk_has : ByteArray := prog_3_method_2_code
def y_Dk_has : MethodName := ⟨R_Dk, "has", "(II)Z"⟩
theorem d_Dk_has_0 : decode cb_Dk_has 0 = .ok (.iload_n 1, 1) := by decide +kernel
theorem d_Dk_has_1 : decode cb_Dk_has 1 = .ok (.ifCond .lt 26, 3) := by decide +kernel
theorem d_Dk_has_4 : decode cb_Dk_has 4 = .ok (.iload_n 1, 1) := by decide +kernel
theorem d_Dk_has_5 : decode cb_Dk_has 5 = .ok (.aload_n 0, 1) := by decide +kernel
theorem d_Dk_has_6 : decode cb_Dk_has 6 = .ok (.getfield 15, 3) := by decide +kernel
theorem d_Dk_has_9 : decode cb_Dk_has 9 = .ok (.if_icmp .ge 18, 3) := by decide +kernel
theorem d_Dk_has_12 : decode cb_Dk_has 12 = .ok (.iload_n 2, 1) := by decide +kernel
theorem d_Dk_has_13 : decode cb_Dk_has 13 = .ok (.ifCond .lt 14, 3) := by decide +kernel
theorem d_Dk_has_16 : decode cb_Dk_has 16 = .ok (.iload_n 2, 1) := by decide +kernel
theorem d_Dk_has_17 : decode cb_Dk_has 17 = .ok (.sipush 512, 3) := by decide +kernel
theorem d_Dk_has_20 : decode cb_Dk_has 20 = .ok (.if_icmp .ge 7, 3) := by decide +kernel
theorem d_Dk_has_23 : decode cb_Dk_has 23 = .ok (.iconst 1, 1) := by decide +kernel
theorem d_Dk_has_24 : decode cb_Dk_has 24 = .ok (.goto 4, 3) := by decide +kernel
theorem d_Dk_has_27 : decode cb_Dk_has 27 = .ok (.iconst 0, 1) := by decide +kernel
theorem d_Dk_has_28 : decode cb_Dk_has 28 = .ok (.ireturn, 1) := by decide +kernel
abbrev cb_Dk_one : ByteArray := prog_3_method_3_code
def y_Dk_one : MethodName := ⟨R_Dk, "one", "(I)I"⟩
theorem d_Dk_one_0 : decode cb_Dk_one 0 = .ok (.iload_n 1, 1) := by decide +kernel
theorem d_Dk_one_1 : decode cb_Dk_one 1 = .ok (.ifCond .lt 25, 3) := by decide +kernel
theorem d_Dk_one_4 : decode cb_Dk_one 4 = .ok (.iload_n 1, 1) := by decide +kernel
theorem d_Dk_one_5 : decode cb_Dk_one 5 = .ok (.aload_n 0, 1) := by decide +kernel
theorem d_Dk_one_6 : decode cb_Dk_one 6 = .ok (.getfield 18, 3) := by decide +kernel
theorem d_Dk_one_9 : decode cb_Dk_one 9 = .ok (.arraylength, 1) := by decide +kernel
theorem d_Dk_one_10 : decode cb_Dk_one 10 = .ok (.if_icmp .ge 16, 3) := by decide +kernel
theorem d_Dk_one_13 : decode cb_Dk_one 13 = .ok (.aload_n 0, 1) := by decide +kernel
theorem d_Dk_one_14 : decode cb_Dk_one 14 = .ok (.getfield 18, 3) := by decide +kernel
theorem d_Dk_one_17 : decode cb_Dk_one 17 = .ok (.iload_n 1, 1) := by decide +kernel
theorem d_Dk_one_18 : decode cb_Dk_one 18 = .ok (.baload, 1) := by decide +kernel
theorem d_Dk_one_19 : decode cb_Dk_one 19 = .ok (.sipush 255, 3) := by decide +kernel
theorem d_Dk_one_22 : decode cb_Dk_one 22 = .ok (.iand, 1) := by decide +kernel
theorem d_Dk_one_23 : decode cb_Dk_one 23 = .ok (.goto 4, 3) := by decide +kernel
theorem d_Dk_one_26 : decode cb_Dk_one 26 = .ok (.iconst 0, 1) := by decide +kernel
theorem d_Dk_one_27 : decode cb_Dk_one 27 = .ok (.ireturn, 1) := by decide +kernel
abbrev cb_Dk_two : ByteArray := prog_3_method_4_code
def y_Dk_two : MethodName := ⟨R_Dk, "two", "(I)I"⟩
theorem d_Dk_two_0 : decode cb_Dk_two 0 = .ok (.iload_n 1, 1) := by decide +kernel
theorem d_Dk_two_1 : decode cb_Dk_two 1 = .ok (.ifCond .lt 14, 3) := by decide +kernel
theorem d_Dk_two_4 : decode cb_Dk_two 4 = .ok (.iload_n 1, 1) := by decide +kernel
theorem d_Dk_two_5 : decode cb_Dk_two 5 = .ok (.aload_n 0, 1) := by decide +kernel
theorem d_Dk_two_6 : decode cb_Dk_two 6 = .ok (.getfield 18, 3) := by decide +kernel
theorem d_Dk_two_9 : decode cb_Dk_two 9 = .ok (.arraylength, 1) := by decide +kernel
theorem d_Dk_two_10 : decode cb_Dk_two 10 = .ok (.iconst 2, 1) := by decide +kernel
theorem d_Dk_two_11 : decode cb_Dk_two 11 = .ok (.isub, 1) := by decide +kernel
theorem d_Dk_two_12 : decode cb_Dk_two 12 = .ok (.if_icmp .le 5, 3) := by decide +kernel
theorem d_Dk_two_15 : decode cb_Dk_two 15 = .ok (.iconst 0, 1) := by decide +kernel
theorem d_Dk_two_16 : decode cb_Dk_two 16 = .ok (.ireturn, 1) := by decide +kernel
theorem d_Dk_two_17 : decode cb_Dk_two 17 = .ok (.aload_n 0, 1) := by decide +kernel
theorem d_Dk_two_18 : decode cb_Dk_two 18 = .ok (.getfield 18, 3) := by decide +kernel
theorem d_Dk_two_21 : decode cb_Dk_two 21 = .ok (.iload_n 1, 1) := by decide +kernel
theorem d_Dk_two_22 : decode cb_Dk_two 22 = .ok (.baload, 1) := by decide +kernel
theorem d_Dk_two_23 : decode cb_Dk_two 23 = .ok (.sipush 255, 3) := by decide +kernel
theorem d_Dk_two_26 : decode cb_Dk_two 26 = .ok (.iand, 1) := by decide +kernel
theorem d_Dk_two_27 : decode cb_Dk_two 27 = .ok (.aload_n 0, 1) := by decide +kernel
theorem d_Dk_two_28 : decode cb_Dk_two 28 = .ok (.getfield 18, 3) := by decide +kernel
theorem d_Dk_two_31 : decode cb_Dk_two 31 = .ok (.iload_n 1, 1) := by decide +kernel
theorem d_Dk_two_32 : decode cb_Dk_two 32 = .ok (.iconst 1, 1) := by decide +kernel
theorem d_Dk_two_33 : decode cb_Dk_two 33 = .ok (.iadd, 1) := by decide +kernel
theorem d_Dk_two_34 : decode cb_Dk_two 34 = .ok (.baload, 1) := by decide +kernel
theorem d_Dk_two_35 : decode cb_Dk_two 35 = .ok (.sipush 255, 3) := by decide +kernel
theorem d_Dk_two_38 : decode cb_Dk_two 38 = .ok (.iand, 1) := by decide +kernel
theorem d_Dk_two_39 : decode cb_Dk_two 39 = .ok (.bipush 8, 2) := by decide +kernel
theorem d_Dk_two_41 : decode cb_Dk_two 41 = .ok (.ishl, 1) := by decide +kernel
theorem d_Dk_two_42 : decode cb_Dk_two 42 = .ok (.ior, 1) := by decide +kernel
theorem d_Dk_two_43 : decode cb_Dk_two 43 = .ok (.ireturn, 1) := by decide +kernel
abbrev cb_Dk_four : ByteArray := prog_3_method_5_code
def y_Dk_four : MethodName := ⟨R_Dk, "four", "(I)I"⟩
theorem d_Dk_four_0 : decode cb_Dk_four 0 = .ok (.iload_n 1, 1) := by decide +kernel
theorem d_Dk_four_1 : decode cb_Dk_four 1 = .ok (.ifCond .lt 14, 3) := by decide +kernel
theorem d_Dk_four_4 : decode cb_Dk_four 4 = .ok (.iload_n 1, 1) := by decide +kernel
theorem d_Dk_four_5 : decode cb_Dk_four 5 = .ok (.aload_n 0, 1) := by decide +kernel
theorem d_Dk_four_6 : decode cb_Dk_four 6 = .ok (.getfield 18, 3) := by decide +kernel
theorem d_Dk_four_9 : decode cb_Dk_four 9 = .ok (.arraylength, 1) := by decide +kernel
theorem d_Dk_four_10 : decode cb_Dk_four 10 = .ok (.iconst 4, 1) := by decide +kernel
theorem d_Dk_four_11 : decode cb_Dk_four 11 = .ok (.isub, 1) := by decide +kernel
theorem d_Dk_four_12 : decode cb_Dk_four 12 = .ok (.if_icmp .le 5, 3) := by decide +kernel
theorem d_Dk_four_15 : decode cb_Dk_four 15 = .ok (.iconst 0, 1) := by decide +kernel
theorem d_Dk_four_16 : decode cb_Dk_four 16 = .ok (.ireturn, 1) := by decide +kernel
theorem d_Dk_four_17 : decode cb_Dk_four 17 = .ok (.aload_n 0, 1) := by decide +kernel
theorem d_Dk_four_18 : decode cb_Dk_four 18 = .ok (.getfield 18, 3) := by decide +kernel
theorem d_Dk_four_21 : decode cb_Dk_four 21 = .ok (.iload_n 1, 1) := by decide +kernel
theorem d_Dk_four_22 : decode cb_Dk_four 22 = .ok (.baload, 1) := by decide +kernel
theorem d_Dk_four_23 : decode cb_Dk_four 23 = .ok (.sipush 255, 3) := by decide +kernel
theorem d_Dk_four_26 : decode cb_Dk_four 26 = .ok (.iand, 1) := by decide +kernel
theorem d_Dk_four_27 : decode cb_Dk_four 27 = .ok (.aload_n 0, 1) := by decide +kernel
theorem d_Dk_four_28 : decode cb_Dk_four 28 = .ok (.getfield 18, 3) := by decide +kernel
theorem d_Dk_four_31 : decode cb_Dk_four 31 = .ok (.iload_n 1, 1) := by decide +kernel
theorem d_Dk_four_32 : decode cb_Dk_four 32 = .ok (.iconst 1, 1) := by decide +kernel
theorem d_Dk_four_33 : decode cb_Dk_four 33 = .ok (.iadd, 1) := by decide +kernel
theorem d_Dk_four_34 : decode cb_Dk_four 34 = .ok (.baload, 1) := by decide +kernel
theorem d_Dk_four_35 : decode cb_Dk_four 35 = .ok (.sipush 255, 3) := by decide +kernel
theorem d_Dk_four_38 : decode cb_Dk_four 38 = .ok (.iand, 1) := by decide +kernel
theorem d_Dk_four_39 : decode cb_Dk_four 39 = .ok (.bipush 8, 2) := by decide +kernel
theorem d_Dk_four_41 : decode cb_Dk_four 41 = .ok (.ishl, 1) := by decide +kernel
theorem d_Dk_four_42 : decode cb_Dk_four 42 = .ok (.ior, 1) := by decide +kernel
theorem d_Dk_four_43 : decode cb_Dk_four 43 = .ok (.aload_n 0, 1) := by decide +kernel
theorem d_Dk_four_44 : decode cb_Dk_four 44 = .ok (.getfield 18, 3) := by decide +kernel
theorem d_Dk_four_47 : decode cb_Dk_four 47 = .ok (.iload_n 1, 1) := by decide +kernel
theorem d_Dk_four_48 : decode cb_Dk_four 48 = .ok (.iconst 2, 1) := by decide +kernel
theorem d_Dk_four_49 : decode cb_Dk_four 49 = .ok (.iadd, 1) := by decide +kernel
theorem d_Dk_four_50 : decode cb_Dk_four 50 = .ok (.baload, 1) := by decide +kernel
theorem d_Dk_four_51 : decode cb_Dk_four 51 = .ok (.sipush 255, 3) := by decide +kernel
theorem d_Dk_four_54 : decode cb_Dk_four 54 = .ok (.iand, 1) := by decide +kernel
theorem d_Dk_four_55 : decode cb_Dk_four 55 = .ok (.bipush 16, 2) := by decide +kernel
theorem d_Dk_four_57 : decode cb_Dk_four 57 = .ok (.ishl, 1) := by decide +kernel
theorem d_Dk_four_58 : decode cb_Dk_four 58 = .ok (.ior, 1) := by decide +kernel
theorem d_Dk_four_59 : decode cb_Dk_four 59 = .ok (.aload_n 0, 1) := by decide +kernel
theorem d_Dk_four_60 : decode cb_Dk_four 60 = .ok (.getfield 18, 3) := by decide +kernel
theorem d_Dk_four_63 : decode cb_Dk_four 63 = .ok (.iload_n 1, 1) := by decide +kernel
theorem d_Dk_four_64 : decode cb_Dk_four 64 = .ok (.iconst 3, 1) := by decide +kernel
theorem d_Dk_four_65 : decode cb_Dk_four 65 = .ok (.iadd, 1) := by decide +kernel
theorem d_Dk_four_66 : decode cb_Dk_four 66 = .ok (.baload, 1) := by decide +kernel
theorem d_Dk_four_67 : decode cb_Dk_four 67 = .ok (.sipush 255, 3) := by decide +kernel
theorem d_Dk_four_70 : decode cb_Dk_four 70 = .ok (.iand, 1) := by decide +kernel
theorem d_Dk_four_71 : decode cb_Dk_four 71 = .ok (.bipush 24, 2) := by decide +kernel
theorem d_Dk_four_73 : decode cb_Dk_four 73 = .ok (.ishl, 1) := by decide +kernel
theorem d_Dk_four_74 : decode cb_Dk_four 74 = .ok (.ior, 1) := by decide +kernel
theorem d_Dk_four_75 : decode cb_Dk_four 75 = .ok (.ireturn, 1) := by decide +kernel
abbrev cb_Dk_putOne : ByteArray := prog_3_method_6_code
def y_Dk_putOne : MethodName := ⟨R_Dk, "putOne", "(II)V"⟩
theorem d_Dk_putOne_0 : decode cb_Dk_putOne 0 = .ok (.iload_n 1, 1) := by decide +kernel
theorem d_Dk_putOne_1 : decode cb_Dk_putOne 1 = .ok (.ifCond .lt 20, 3) := by decide +kernel
theorem d_Dk_putOne_4 : decode cb_Dk_putOne 4 = .ok (.iload_n 1, 1) := by decide +kernel
theorem d_Dk_putOne_5 : decode cb_Dk_putOne 5 = .ok (.aload_n 0, 1) := by decide +kernel
theorem d_Dk_putOne_6 : decode cb_Dk_putOne 6 = .ok (.getfield 18, 3) := by decide +kernel
theorem d_Dk_putOne_9 : decode cb_Dk_putOne 9 = .ok (.arraylength, 1) := by decide +kernel
theorem d_Dk_putOne_10 : decode cb_Dk_putOne 10 = .ok (.if_icmp .ge 11, 3) := by decide +kernel
theorem d_Dk_putOne_13 : decode cb_Dk_putOne 13 = .ok (.aload_n 0, 1) := by decide +kernel
theorem d_Dk_putOne_14 : decode cb_Dk_putOne 14 = .ok (.getfield 18, 3) := by decide +kernel
theorem d_Dk_putOne_17 : decode cb_Dk_putOne 17 = .ok (.iload_n 1, 1) := by decide +kernel
theorem d_Dk_putOne_18 : decode cb_Dk_putOne 18 = .ok (.iload_n 2, 1) := by decide +kernel
theorem d_Dk_putOne_19 : decode cb_Dk_putOne 19 = .ok (.i2b, 1) := by decide +kernel
theorem d_Dk_putOne_20 : decode cb_Dk_putOne 20 = .ok (.bastore, 1) := by decide +kernel
theorem d_Dk_putOne_21 : decode cb_Dk_putOne 21 = .ok (.return_, 1) := by decide +kernel
abbrev cb_Dk_putTwo : ByteArray := prog_3_method_7_code
def y_Dk_putTwo : MethodName := ⟨R_Dk, "putTwo", "(II)V"⟩
theorem d_Dk_putTwo_0 : decode cb_Dk_putTwo 0 = .ok (.iload_n 1, 1) := by decide +kernel
theorem d_Dk_putTwo_1 : decode cb_Dk_putTwo 1 = .ok (.ifCond .lt 35, 3) := by decide +kernel
theorem d_Dk_putTwo_4 : decode cb_Dk_putTwo 4 = .ok (.iload_n 1, 1) := by decide +kernel
theorem d_Dk_putTwo_5 : decode cb_Dk_putTwo 5 = .ok (.aload_n 0, 1) := by decide +kernel
theorem d_Dk_putTwo_6 : decode cb_Dk_putTwo 6 = .ok (.getfield 18, 3) := by decide +kernel
theorem d_Dk_putTwo_9 : decode cb_Dk_putTwo 9 = .ok (.arraylength, 1) := by decide +kernel
theorem d_Dk_putTwo_10 : decode cb_Dk_putTwo 10 = .ok (.iconst 2, 1) := by decide +kernel
theorem d_Dk_putTwo_11 : decode cb_Dk_putTwo 11 = .ok (.isub, 1) := by decide +kernel
theorem d_Dk_putTwo_12 : decode cb_Dk_putTwo 12 = .ok (.if_icmp .gt 24, 3) := by decide +kernel
theorem d_Dk_putTwo_15 : decode cb_Dk_putTwo 15 = .ok (.aload_n 0, 1) := by decide +kernel
theorem d_Dk_putTwo_16 : decode cb_Dk_putTwo 16 = .ok (.getfield 18, 3) := by decide +kernel
theorem d_Dk_putTwo_19 : decode cb_Dk_putTwo 19 = .ok (.iload_n 1, 1) := by decide +kernel
theorem d_Dk_putTwo_20 : decode cb_Dk_putTwo 20 = .ok (.iload_n 2, 1) := by decide +kernel
theorem d_Dk_putTwo_21 : decode cb_Dk_putTwo 21 = .ok (.i2b, 1) := by decide +kernel
theorem d_Dk_putTwo_22 : decode cb_Dk_putTwo 22 = .ok (.bastore, 1) := by decide +kernel
theorem d_Dk_putTwo_23 : decode cb_Dk_putTwo 23 = .ok (.aload_n 0, 1) := by decide +kernel
theorem d_Dk_putTwo_24 : decode cb_Dk_putTwo 24 = .ok (.getfield 18, 3) := by decide +kernel
theorem d_Dk_putTwo_27 : decode cb_Dk_putTwo 27 = .ok (.iload_n 1, 1) := by decide +kernel
theorem d_Dk_putTwo_28 : decode cb_Dk_putTwo 28 = .ok (.iconst 1, 1) := by decide +kernel
theorem d_Dk_putTwo_29 : decode cb_Dk_putTwo 29 = .ok (.iadd, 1) := by decide +kernel
theorem d_Dk_putTwo_30 : decode cb_Dk_putTwo 30 = .ok (.iload_n 2, 1) := by decide +kernel
theorem d_Dk_putTwo_31 : decode cb_Dk_putTwo 31 = .ok (.bipush 8, 2) := by decide +kernel
theorem d_Dk_putTwo_33 : decode cb_Dk_putTwo 33 = .ok (.ishr, 1) := by decide +kernel
theorem d_Dk_putTwo_34 : decode cb_Dk_putTwo 34 = .ok (.i2b, 1) := by decide +kernel
theorem d_Dk_putTwo_35 : decode cb_Dk_putTwo 35 = .ok (.bastore, 1) := by decide +kernel
theorem d_Dk_putTwo_36 : decode cb_Dk_putTwo 36 = .ok (.return_, 1) := by decide +kernel
abbrev cb_Dk_putFour : ByteArray := prog_3_method_8_code
def y_Dk_putFour : MethodName := ⟨R_Dk, "putFour", "(II)V"⟩
theorem d_Dk_putFour_0 : decode cb_Dk_putFour 0 = .ok (.iload_n 1, 1) := by decide +kernel
theorem d_Dk_putFour_1 : decode cb_Dk_putFour 1 = .ok (.ifCond .lt 61, 3) := by decide +kernel
theorem d_Dk_putFour_4 : decode cb_Dk_putFour 4 = .ok (.iload_n 1, 1) := by decide +kernel
theorem d_Dk_putFour_5 : decode cb_Dk_putFour 5 = .ok (.aload_n 0, 1) := by decide +kernel
theorem d_Dk_putFour_6 : decode cb_Dk_putFour 6 = .ok (.getfield 18, 3) := by decide +kernel
theorem d_Dk_putFour_9 : decode cb_Dk_putFour 9 = .ok (.arraylength, 1) := by decide +kernel
theorem d_Dk_putFour_10 : decode cb_Dk_putFour 10 = .ok (.iconst 4, 1) := by decide +kernel
theorem d_Dk_putFour_11 : decode cb_Dk_putFour 11 = .ok (.isub, 1) := by decide +kernel
theorem d_Dk_putFour_12 : decode cb_Dk_putFour 12 = .ok (.if_icmp .gt 50, 3) := by decide +kernel
theorem d_Dk_putFour_15 : decode cb_Dk_putFour 15 = .ok (.aload_n 0, 1) := by decide +kernel
theorem d_Dk_putFour_16 : decode cb_Dk_putFour 16 = .ok (.getfield 18, 3) := by decide +kernel
theorem d_Dk_putFour_19 : decode cb_Dk_putFour 19 = .ok (.iload_n 1, 1) := by decide +kernel
theorem d_Dk_putFour_20 : decode cb_Dk_putFour 20 = .ok (.iload_n 2, 1) := by decide +kernel
theorem d_Dk_putFour_21 : decode cb_Dk_putFour 21 = .ok (.i2b, 1) := by decide +kernel
theorem d_Dk_putFour_22 : decode cb_Dk_putFour 22 = .ok (.bastore, 1) := by decide +kernel
theorem d_Dk_putFour_23 : decode cb_Dk_putFour 23 = .ok (.aload_n 0, 1) := by decide +kernel
theorem d_Dk_putFour_24 : decode cb_Dk_putFour 24 = .ok (.getfield 18, 3) := by decide +kernel
theorem d_Dk_putFour_27 : decode cb_Dk_putFour 27 = .ok (.iload_n 1, 1) := by decide +kernel
theorem d_Dk_putFour_28 : decode cb_Dk_putFour 28 = .ok (.iconst 1, 1) := by decide +kernel
theorem d_Dk_putFour_29 : decode cb_Dk_putFour 29 = .ok (.iadd, 1) := by decide +kernel
theorem d_Dk_putFour_30 : decode cb_Dk_putFour 30 = .ok (.iload_n 2, 1) := by decide +kernel
theorem d_Dk_putFour_31 : decode cb_Dk_putFour 31 = .ok (.bipush 8, 2) := by decide +kernel
theorem d_Dk_putFour_33 : decode cb_Dk_putFour 33 = .ok (.ishr, 1) := by decide +kernel
theorem d_Dk_putFour_34 : decode cb_Dk_putFour 34 = .ok (.i2b, 1) := by decide +kernel
theorem d_Dk_putFour_35 : decode cb_Dk_putFour 35 = .ok (.bastore, 1) := by decide +kernel
theorem d_Dk_putFour_36 : decode cb_Dk_putFour 36 = .ok (.aload_n 0, 1) := by decide +kernel
theorem d_Dk_putFour_37 : decode cb_Dk_putFour 37 = .ok (.getfield 18, 3) := by decide +kernel
theorem d_Dk_putFour_40 : decode cb_Dk_putFour 40 = .ok (.iload_n 1, 1) := by decide +kernel
theorem d_Dk_putFour_41 : decode cb_Dk_putFour 41 = .ok (.iconst 2, 1) := by decide +kernel
theorem d_Dk_putFour_42 : decode cb_Dk_putFour 42 = .ok (.iadd, 1) := by decide +kernel
theorem d_Dk_putFour_43 : decode cb_Dk_putFour 43 = .ok (.iload_n 2, 1) := by decide +kernel
theorem d_Dk_putFour_44 : decode cb_Dk_putFour 44 = .ok (.bipush 16, 2) := by decide +kernel
theorem d_Dk_putFour_46 : decode cb_Dk_putFour 46 = .ok (.ishr, 1) := by decide +kernel
theorem d_Dk_putFour_47 : decode cb_Dk_putFour 47 = .ok (.i2b, 1) := by decide +kernel
theorem d_Dk_putFour_48 : decode cb_Dk_putFour 48 = .ok (.bastore, 1) := by decide +kernel
theorem d_Dk_putFour_49 : decode cb_Dk_putFour 49 = .ok (.aload_n 0, 1) := by decide +kernel
theorem d_Dk_putFour_50 : decode cb_Dk_putFour 50 = .ok (.getfield 18, 3) := by decide +kernel
theorem d_Dk_putFour_53 : decode cb_Dk_putFour 53 = .ok (.iload_n 1, 1) := by decide +kernel
theorem d_Dk_putFour_54 : decode cb_Dk_putFour 54 = .ok (.iconst 3, 1) := by decide +kernel
theorem d_Dk_putFour_55 : decode cb_Dk_putFour 55 = .ok (.iadd, 1) := by decide +kernel
theorem d_Dk_putFour_56 : decode cb_Dk_putFour 56 = .ok (.iload_n 2, 1) := by decide +kernel
theorem d_Dk_putFour_57 : decode cb_Dk_putFour 57 = .ok (.bipush 24, 2) := by decide +kernel
theorem d_Dk_putFour_59 : decode cb_Dk_putFour 59 = .ok (.ishr, 1) := by decide +kernel
theorem d_Dk_putFour_60 : decode cb_Dk_putFour 60 = .ok (.i2b, 1) := by decide +kernel
theorem d_Dk_putFour_61 : decode cb_Dk_putFour 61 = .ok (.bastore, 1) := by decide +kernel
theorem d_Dk_putFour_62 : decode cb_Dk_putFour 62 = .ok (.return_, 1) := by decide +kernel
abbrev cb_Dk_zero : ByteArray := prog_3_method_9_code
def y_Dk_zero : MethodName := ⟨R_Dk, "zero", "(II)V"⟩
theorem d_Dk_zero_0 : decode cb_Dk_zero 0 = .ok (.iload_n 1, 1) := by decide +kernel
theorem d_Dk_zero_1 : decode cb_Dk_zero 1 = .ok (.ifCond .lt 39, 3) := by decide +kernel
theorem d_Dk_zero_4 : decode cb_Dk_zero 4 = .ok (.iload_n 2, 1) := by decide +kernel
theorem d_Dk_zero_5 : decode cb_Dk_zero 5 = .ok (.ifCond .lt 35, 3) := by decide +kernel
theorem d_Dk_zero_8 : decode cb_Dk_zero 8 = .ok (.iload_n 2, 1) := by decide +kernel
theorem d_Dk_zero_9 : decode cb_Dk_zero 9 = .ok (.aload_n 0, 1) := by decide +kernel
theorem d_Dk_zero_10 : decode cb_Dk_zero 10 = .ok (.getfield 18, 3) := by decide +kernel
theorem d_Dk_zero_13 : decode cb_Dk_zero 13 = .ok (.arraylength, 1) := by decide +kernel
theorem d_Dk_zero_14 : decode cb_Dk_zero 14 = .ok (.if_icmp .gt 26, 3) := by decide +kernel
theorem d_Dk_zero_17 : decode cb_Dk_zero 17 = .ok (.iload_n 1, 1) := by decide +kernel
theorem d_Dk_zero_18 : decode cb_Dk_zero 18 = .ok (.aload_n 0, 1) := by decide +kernel
theorem d_Dk_zero_19 : decode cb_Dk_zero 19 = .ok (.getfield 18, 3) := by decide +kernel
theorem d_Dk_zero_22 : decode cb_Dk_zero 22 = .ok (.arraylength, 1) := by decide +kernel
theorem d_Dk_zero_23 : decode cb_Dk_zero 23 = .ok (.iload_n 2, 1) := by decide +kernel
theorem d_Dk_zero_24 : decode cb_Dk_zero 24 = .ok (.isub, 1) := by decide +kernel
theorem d_Dk_zero_25 : decode cb_Dk_zero 25 = .ok (.if_icmp .gt 15, 3) := by decide +kernel
theorem d_Dk_zero_28 : decode cb_Dk_zero 28 = .ok (.aload_n 0, 1) := by decide +kernel
theorem d_Dk_zero_29 : decode cb_Dk_zero 29 = .ok (.getfield 18, 3) := by decide +kernel
theorem d_Dk_zero_32 : decode cb_Dk_zero 32 = .ok (.iload_n 1, 1) := by decide +kernel
theorem d_Dk_zero_33 : decode cb_Dk_zero 33 = .ok (.iload_n 1, 1) := by decide +kernel
theorem d_Dk_zero_34 : decode cb_Dk_zero 34 = .ok (.iload_n 2, 1) := by decide +kernel
theorem d_Dk_zero_35 : decode cb_Dk_zero 35 = .ok (.iadd, 1) := by decide +kernel
theorem d_Dk_zero_36 : decode cb_Dk_zero 36 = .ok (.iconst 0, 1) := by decide +kernel
theorem d_Dk_zero_37 : decode cb_Dk_zero 37 = .ok (.invokestatic 22, 3) := by decide +kernel
theorem d_Dk_zero_40 : decode cb_Dk_zero 40 = .ok (.return_, 1) := by decide +kernel
abbrev cb_Dk_supply : ByteArray := prog_3_method_10_code
def y_Dk_supply : MethodName := ⟨R_Dk, "supply", "(I)V"⟩
theorem d_Dk_supply_0 : decode cb_Dk_supply 0 = .ok (.aload_n 0, 1) := by decide +kernel
theorem d_Dk_supply_1 : decode cb_Dk_supply 1 = .ok (.iload_n 1, 1) := by decide +kernel
theorem d_Dk_supply_2 : decode cb_Dk_supply 2 = .ok (.putfield 11, 3) := by decide +kernel
theorem d_Dk_supply_5 : decode cb_Dk_supply 5 = .ok (.return_, 1) := by decide +kernel
abbrev cb_Dk_isOn : ByteArray := prog_3_method_11_code
def y_Dk_isOn : MethodName := ⟨R_Dk, "isOn", "()Z"⟩
theorem d_Dk_isOn_0 : decode cb_Dk_isOn 0 = .ok (.aload_n 0, 1) := by decide +kernel
theorem d_Dk_isOn_1 : decode cb_Dk_isOn 1 = .ok (.getfield 11, 3) := by decide +kernel
theorem d_Dk_isOn_4 : decode cb_Dk_isOn 4 = .ok (.ifCond .eq 7, 3) := by decide +kernel
theorem d_Dk_isOn_7 : decode cb_Dk_isOn 7 = .ok (.iconst 1, 1) := by decide +kernel
theorem d_Dk_isOn_8 : decode cb_Dk_isOn 8 = .ok (.goto 4, 3) := by decide +kernel
theorem d_Dk_isOn_11 : decode cb_Dk_isOn 11 = .ok (.iconst 0, 1) := by decide +kernel
theorem d_Dk_isOn_12 : decode cb_Dk_isOn 12 = .ok (.ireturn, 1) := by decide +kernel
abbrev b_Dk_store : ByteArray := prog_3_method_12_code
def y_Dk_store : MethodName := ⟨R_Dk, "store", "(I[BI)V"⟩
theorem d_Dk_store_0 : decode b_Dk_store 0 = .ok (.aload_n 0, 1) := by decide +kernel
theorem d_Dk_store_1 : decode b_Dk_store 1 = .ok (.getfield 11, 3) := by decide +kernel
theorem d_Dk_store_4 : decode b_Dk_store 4 = .ok (.ifCond .eq 26, 3) := by decide +kernel
theorem d_Dk_store_7 : decode b_Dk_store 7 = .ok (.aload_n 0, 1) := by decide +kernel
theorem d_Dk_store_8 : decode b_Dk_store 8 = .ok (.iload_n 1, 1) := by decide +kernel
theorem d_Dk_store_9 : decode b_Dk_store 9 = .ok (.iconst 0, 1) := by decide +kernel
theorem d_Dk_store_10 : decode b_Dk_store 10 = .ok (.invokevirtual 28, 3) := by decide +kernel
theorem d_Dk_store_13 : decode b_Dk_store 13 = .ok (.ifCond .eq 17, 3) := by decide +kernel
theorem d_Dk_store_16 : decode b_Dk_store 16 = .ok (.iload_n 3, 1) := by decide +kernel
theorem d_Dk_store_17 : decode b_Dk_store 17 = .ok (.ifCond .lt 13, 3) := by decide +kernel
theorem d_Dk_store_20 : decode b_Dk_store 20 = .ok (.iload_n 3, 1) := by decide +kernel
theorem d_Dk_store_21 : decode b_Dk_store 21 = .ok (.aload_n 2, 1) := by decide +kernel
theorem d_Dk_store_22 : decode b_Dk_store 22 = .ok (.arraylength, 1) := by decide +kernel
theorem d_Dk_store_23 : decode b_Dk_store 23 = .ok (.sipush 512, 3) := by decide +kernel
theorem d_Dk_store_26 : decode b_Dk_store 26 = .ok (.isub, 1) := by decide +kernel
theorem d_Dk_store_27 : decode b_Dk_store 27 = .ok (.if_icmp .le 4, 3) := by decide +kernel
theorem d_Dk_store_30 : decode b_Dk_store 30 = .ok (.return_, 1) := by decide +kernel
theorem d_Dk_store_31 : decode b_Dk_store 31 = .ok (.aload_n 0, 1) := by decide +kernel
theorem d_Dk_store_32 : decode b_Dk_store 32 = .ok (.getfield 11, 3) := by decide +kernel
theorem d_Dk_store_35 : decode b_Dk_store 35 = .ok (.ifCond .le 13, 3) := by decide +kernel
theorem d_Dk_store_38 : decode b_Dk_store 38 = .ok (.aload_n 0, 1) := by decide +kernel
theorem d_Dk_store_39 : decode b_Dk_store 39 = .ok (.dup, 1) := by decide +kernel
theorem d_Dk_store_40 : decode b_Dk_store 40 = .ok (.getfield 11, 3) := by decide +kernel
theorem d_Dk_store_43 : decode b_Dk_store 43 = .ok (.iconst 1, 1) := by decide +kernel
theorem d_Dk_store_44 : decode b_Dk_store 44 = .ok (.isub, 1) := by decide +kernel
theorem d_Dk_store_45 : decode b_Dk_store 45 = .ok (.putfield 11, 3) := by decide +kernel
theorem d_Dk_store_48 : decode b_Dk_store 48 = .ok (.aload_n 2, 1) := by decide +kernel
theorem d_Dk_store_49 : decode b_Dk_store 49 = .ok (.iload_n 3, 1) := by decide +kernel
theorem d_Dk_store_50 : decode b_Dk_store 50 = .ok (.aload_n 0, 1) := by decide +kernel
theorem d_Dk_store_51 : decode b_Dk_store 51 = .ok (.getfield 18, 3) := by decide +kernel
theorem d_Dk_store_54 : decode b_Dk_store 54 = .ok (.iload_n 1, 1) := by decide +kernel
theorem d_Dk_store_55 : decode b_Dk_store 55 = .ok (.sipush 512, 3) := by decide +kernel
theorem d_Dk_store_58 : decode b_Dk_store 58 = .ok (.imul, 1) := by decide +kernel
theorem d_Dk_store_59 : decode b_Dk_store 59 = .ok (.sipush 512, 3) := by decide +kernel
theorem d_Dk_store_62 : decode b_Dk_store 62 = .ok (.invokestatic 32, 3) := by decide +kernel
theorem d_Dk_store_65 : decode b_Dk_store 65 = .ok (.return_, 1) := by decide +kernel
abbrev b_Dk_load : ByteArray := prog_3_method_13_code
def y_Dk_load : MethodName := ⟨R_Dk, "load", "(I[BI)V"⟩
theorem d_Dk_load_0 : decode b_Dk_load 0 = .ok (.aload_n 0, 1) := by decide +kernel
theorem d_Dk_load_1 : decode b_Dk_load 1 = .ok (.iload_n 1, 1) := by decide +kernel
theorem d_Dk_load_2 : decode b_Dk_load 2 = .ok (.iconst 0, 1) := by decide +kernel
theorem d_Dk_load_3 : decode b_Dk_load 3 = .ok (.invokevirtual 28, 3) := by decide +kernel
theorem d_Dk_load_6 : decode b_Dk_load 6 = .ok (.ifCond .eq 34, 3) := by decide +kernel
theorem d_Dk_load_9 : decode b_Dk_load 9 = .ok (.iload_n 3, 1) := by decide +kernel
theorem d_Dk_load_10 : decode b_Dk_load 10 = .ok (.ifCond .lt 30, 3) := by decide +kernel
theorem d_Dk_load_13 : decode b_Dk_load 13 = .ok (.iload_n 3, 1) := by decide +kernel
theorem d_Dk_load_14 : decode b_Dk_load 14 = .ok (.aload_n 2, 1) := by decide +kernel
theorem d_Dk_load_15 : decode b_Dk_load 15 = .ok (.arraylength, 1) := by decide +kernel
theorem d_Dk_load_16 : decode b_Dk_load 16 = .ok (.sipush 512, 3) := by decide +kernel
theorem d_Dk_load_19 : decode b_Dk_load 19 = .ok (.isub, 1) := by decide +kernel
theorem d_Dk_load_20 : decode b_Dk_load 20 = .ok (.if_icmp .gt 20, 3) := by decide +kernel
theorem d_Dk_load_23 : decode b_Dk_load 23 = .ok (.aload_n 0, 1) := by decide +kernel
theorem d_Dk_load_24 : decode b_Dk_load 24 = .ok (.getfield 18, 3) := by decide +kernel
theorem d_Dk_load_27 : decode b_Dk_load 27 = .ok (.iload_n 1, 1) := by decide +kernel
theorem d_Dk_load_28 : decode b_Dk_load 28 = .ok (.sipush 512, 3) := by decide +kernel
theorem d_Dk_load_31 : decode b_Dk_load 31 = .ok (.imul, 1) := by decide +kernel
theorem d_Dk_load_32 : decode b_Dk_load 32 = .ok (.aload_n 2, 1) := by decide +kernel
theorem d_Dk_load_33 : decode b_Dk_load 33 = .ok (.iload_n 3, 1) := by decide +kernel
theorem d_Dk_load_34 : decode b_Dk_load 34 = .ok (.sipush 512, 3) := by decide +kernel
theorem d_Dk_load_37 : decode b_Dk_load 37 = .ok (.invokestatic 32, 3) := by decide +kernel
theorem d_Dk_load_40 : decode b_Dk_load 40 = .ok (.return_, 1) := by decide +kernel
def K_J : List Cond := [(.initialized "java/lang/Math"), (.initialized "java/lang/System"), (.initialized "java/util/Arrays"), (.instanceMethod objectInit), (.code objectInit object_method_1_code 1 none), (.static ⟨"java/lang/Math", "max", "(II)I"⟩), (.code ⟨"java/lang/Math", "max", "(II)I"⟩ prog_24_method_65_code 2 (some .int)), (.static ⟨"java/lang/Math", "min", "(II)I"⟩), (.code ⟨"java/lang/Math", "min", "(II)I"⟩ prog_24_method_69_code 2 (some .int)), (.arrayClass .int), (.arrayClass .byte), (.arrayClass .boolean), (.static ⟨"java/lang/System", "arraycopy", "(Ljava/lang/Object;ILjava/lang/Object;II)V"⟩), (.native ⟨"java/lang/System", "arraycopy", "(Ljava/lang/Object;ILjava/lang/Object;II)V"⟩), (.static ⟨"java/util/Arrays", "fill", "([BB)V"⟩), (.code ⟨"java/util/Arrays", "fill", "([BB)V"⟩ prog_33_method_109_code 4 none), (.static ⟨"java/util/Arrays", "copyOf", "([II)[I"⟩), (.code ⟨"java/util/Arrays", "copyOf", "([II)[I"⟩ prog_33_method_123_code 3 (some (.array .int))), (.methodLink "java/util/Arrays" 316 ⟨"[I", "clone", "()Ljava/lang/Object;"⟩), (.native ⟨"java/lang/Object", "clone", "()Ljava/lang/Object;"⟩), (.instanceMethod ⟨"java/lang/Object", "clone", "()Ljava/lang/Object;"⟩), (.classLink "java/util/Arrays" 317 "[I"), (.methodLink "java/util/Arrays" 304 ⟨"java/lang/Math", "min", "(II)I"⟩), (.methodLink "java/util/Arrays" 150 ⟨"java/lang/System", "arraycopy", "(Ljava/lang/Object;ILjava/lang/Object;II)V"⟩), (.static ⟨"java/util/Arrays", "fill", "([BIIB)V"⟩), (.code ⟨"java/util/Arrays", "fill", "([BIIB)V"⟩ prog_33_method_110_code 5 none), (.methodLink "java/util/Arrays" 13 ⟨"java/util/Arrays", "rangeCheck", "(III)V"⟩), (.static ⟨"java/util/Arrays", "rangeCheck", "(III)V"⟩), (.code ⟨"java/util/Arrays", "rangeCheck", "(III)V"⟩ prog_33_method_30_code 3 none), (.classLink "java/util/Arrays" 43 "java/lang/IllegalArgumentException"), (.classLink "java/util/Arrays" 45 "java/lang/StringBuilder"), (.methodLink "java/util/Arrays" 47 ⟨"java/lang/StringBuilder", "<init>", "()V"⟩), (.methodLink "java/util/Arrays" 50 ⟨"java/lang/StringBuilder", "append", "(Ljava/lang/String;)Ljava/lang/StringBuilder;"⟩), (.static ⟨"java/util/Arrays", "copyOf", "([BI)[B"⟩), (.code ⟨"java/util/Arrays", "copyOf", "([BI)[B"⟩ prog_33_method_121_code 3 (some (.array .byte))), (.methodLink "java/util/Arrays" 310 ⟨"[B", "clone", "()Ljava/lang/Object;"⟩), (.classLink "java/util/Arrays" 311 "[B"), (.methodLink "java/util/Arrays" 54 ⟨"java/lang/StringBuilder", "append", "(I)Ljava/lang/StringBuilder;"⟩), (.methodLink "java/util/Arrays" 61 ⟨"java/lang/StringBuilder", "toString", "()Ljava/lang/String;"⟩), (.static ⟨"java/util/Arrays", "copyOfRange", "([BII)[B"⟩), (.code ⟨"java/util/Arrays", "copyOfRange", "([BII)[B"⟩ prog_33_method_132_code 3 (some (.array .byte))), (.methodLink "java/util/Arrays" 339 ⟨"java/util/Arrays", "copyOfRangeByte", "([BII)[B"⟩), (.static ⟨"java/util/Arrays", "copyOfRangeByte", "([BII)[B"⟩), (.code ⟨"java/util/Arrays", "copyOfRangeByte", "([BII)[B"⟩ prog_33_method_133_code 5 (some (.array .byte))), (.methodLink "java/util/Arrays" 343 ⟨"java/util/Arrays", "checkLength", "(II)V"⟩), (.static ⟨"java/util/Arrays", "checkLength", "(II)V"⟩), (.code ⟨"java/util/Arrays", "checkLength", "(II)V"⟩ prog_33_method_131_code 2 none), (.methodLink "java/util/Arrays" 65 ⟨"java/lang/IllegalArgumentException", "<init>", "(Ljava/lang/String;)V"⟩), (.classLink "java/util/Arrays" 68 "java/lang/ArrayIndexOutOfBoundsException"), (.methodLink "java/util/Arrays" 70 ⟨"java/lang/ArrayIndexOutOfBoundsException", "<init>", "(I)V"⟩), (.static ⟨"java/util/Arrays", "fill", "([II)V"⟩), (.code ⟨"java/util/Arrays", "fill", "([II)V"⟩ prog_33_method_103_code 4 none), (.arrayClass .char), (.arrayClass .long)]
theorem j_J_0 : (.initialized "java/lang/Math") ∈ K_J := List.mem_of_getElem? (i := 0) rfl
theorem j_J_1 : (.initialized "java/lang/System") ∈ K_J := List.mem_of_getElem? (i := 1) rfl
theorem j_J_2 : (.initialized "java/util/Arrays") ∈ K_J := List.mem_of_getElem? (i := 2) rfl
theorem j_J_3 : (.instanceMethod objectInit) ∈ K_J := List.mem_of_getElem? (i := 3) rfl
theorem j_J_4 : (.code objectInit object_method_1_code 1 none) ∈ K_J := List.mem_of_getElem? (i := 4) rfl
theorem j_J_5 : (.static ⟨"java/lang/Math", "max", "(II)I"⟩) ∈ K_J := List.mem_of_getElem? (i := 5) rfl
theorem j_J_6 : (.code ⟨"java/lang/Math", "max", "(II)I"⟩ prog_24_method_65_code 2 (some .int)) ∈ K_J := List.mem_of_getElem? (i := 6) rfl
theorem j_J_7 : (.static ⟨"java/lang/Math", "min", "(II)I"⟩) ∈ K_J := List.mem_of_getElem? (i := 7) rfl
theorem j_J_8 : (.code ⟨"java/lang/Math", "min", "(II)I"⟩ prog_24_method_69_code 2 (some .int)) ∈ K_J := List.mem_of_getElem? (i := 8) rfl
theorem j_J_9 : (.arrayClass .int) ∈ K_J := List.mem_of_getElem? (i := 9) rfl
theorem j_J_10 : (.arrayClass .byte) ∈ K_J := List.mem_of_getElem? (i := 10) rfl
theorem j_J_11 : (.arrayClass .boolean) ∈ K_J := List.mem_of_getElem? (i := 11) rfl
theorem j_J_12 : (.static ⟨"java/lang/System", "arraycopy", "(Ljava/lang/Object;ILjava/lang/Object;II)V"⟩) ∈ K_J := List.mem_of_getElem? (i := 12) rfl
theorem j_J_13 : (.native ⟨"java/lang/System", "arraycopy", "(Ljava/lang/Object;ILjava/lang/Object;II)V"⟩) ∈ K_J := List.mem_of_getElem? (i := 13) rfl
theorem j_J_14 : (.static ⟨"java/util/Arrays", "fill", "([BB)V"⟩) ∈ K_J := List.mem_of_getElem? (i := 14) rfl
theorem j_J_15 : (.code ⟨"java/util/Arrays", "fill", "([BB)V"⟩ prog_33_method_109_code 4 none) ∈ K_J := List.mem_of_getElem? (i := 15) rfl
theorem j_J_16 : (.static ⟨"java/util/Arrays", "copyOf", "([II)[I"⟩) ∈ K_J := List.mem_of_getElem? (i := 16) rfl
theorem j_J_17 : (.code ⟨"java/util/Arrays", "copyOf", "([II)[I"⟩ prog_33_method_123_code 3 (some (.array .int))) ∈ K_J := List.mem_of_getElem? (i := 17) rfl
theorem j_J_22 : (.methodLink "java/util/Arrays" 304 ⟨"java/lang/Math", "min", "(II)I"⟩) ∈ K_J := List.mem_of_getElem? (i := 22) rfl
theorem j_J_23 : (.methodLink "java/util/Arrays" 150 ⟨"java/lang/System", "arraycopy", "(Ljava/lang/Object;ILjava/lang/Object;II)V"⟩) ∈ K_J := List.mem_of_getElem? (i := 23) rfl
theorem j_J_24 : (.static ⟨"java/util/Arrays", "fill", "([BIIB)V"⟩) ∈ K_J := List.mem_of_getElem? (i := 24) rfl
theorem j_J_25 : (.code ⟨"java/util/Arrays", "fill", "([BIIB)V"⟩ prog_33_method_110_code 5 none) ∈ K_J := List.mem_of_getElem? (i := 25) rfl
theorem j_J_26 : (.methodLink "java/util/Arrays" 13 ⟨"java/util/Arrays", "rangeCheck", "(III)V"⟩) ∈ K_J := List.mem_of_getElem? (i := 26) rfl
theorem j_J_27 : (.static ⟨"java/util/Arrays", "rangeCheck", "(III)V"⟩) ∈ K_J := List.mem_of_getElem? (i := 27) rfl
theorem j_J_28 : (.code ⟨"java/util/Arrays", "rangeCheck", "(III)V"⟩ prog_33_method_30_code 3 none) ∈ K_J := List.mem_of_getElem? (i := 28) rfl
theorem j_J_50 : (.static ⟨"java/util/Arrays", "fill", "([II)V"⟩) ∈ K_J := List.mem_of_getElem? (i := 50) rfl
theorem j_J_51 : (.code ⟨"java/util/Arrays", "fill", "([II)V"⟩ prog_33_method_103_code 4 none) ∈ K_J := List.mem_of_getElem? (i := 51) rfl
theorem j_J_52 : (.arrayClass .char) ∈ K_J := List.mem_of_getElem? (i := 52) rfl
theorem j_J_53 : (.arrayClass .long) ∈ K_J := List.mem_of_getElem? (i := 53) rfl
def V_J : List Cond := K_J
theorem k_J_0 : (.initialized "java/lang/Math") ∈ V_J := j_J_0
theorem k_J_1 : (.initialized "java/lang/System") ∈ V_J := j_J_1
theorem k_J_2 : (.initialized "java/util/Arrays") ∈ V_J := j_J_2
theorem k_J_3 : (.instanceMethod objectInit) ∈ V_J := j_J_3
theorem k_J_4 : (.code objectInit object_method_1_code 1 none) ∈ V_J := j_J_4
theorem k_J_5 : (.static ⟨"java/lang/Math", "max", "(II)I"⟩) ∈ V_J := j_J_5
theorem k_J_6 : (.code ⟨"java/lang/Math", "max", "(II)I"⟩ prog_24_method_65_code 2 (some .int)) ∈ V_J := j_J_6
theorem k_J_7 : (.static ⟨"java/lang/Math", "min", "(II)I"⟩) ∈ V_J := j_J_7
theorem k_J_8 : (.code ⟨"java/lang/Math", "min", "(II)I"⟩ prog_24_method_69_code 2 (some .int)) ∈ V_J := j_J_8
theorem k_J_9 : (.arrayClass .int) ∈ V_J := j_J_9
theorem k_J_10 : (.arrayClass .byte) ∈ V_J := j_J_10
theorem k_J_11 : (.arrayClass .boolean) ∈ V_J := j_J_11
theorem k_J_12 : (.static ⟨"java/lang/System", "arraycopy", "(Ljava/lang/Object;ILjava/lang/Object;II)V"⟩) ∈ V_J := j_J_12
theorem k_J_13 : (.native ⟨"java/lang/System", "arraycopy", "(Ljava/lang/Object;ILjava/lang/Object;II)V"⟩) ∈ V_J := j_J_13
theorem k_J_14 : (.static ⟨"java/util/Arrays", "fill", "([BB)V"⟩) ∈ V_J := j_J_14
theorem k_J_15 : (.code ⟨"java/util/Arrays", "fill", "([BB)V"⟩ prog_33_method_109_code 4 none) ∈ V_J := j_J_15
theorem k_J_16 : (.static ⟨"java/util/Arrays", "copyOf", "([II)[I"⟩) ∈ V_J := j_J_16
theorem k_J_17 : (.code ⟨"java/util/Arrays", "copyOf", "([II)[I"⟩ prog_33_method_123_code 3 (some (.array .int))) ∈ V_J := j_J_17
theorem k_J_22 : (.methodLink "java/util/Arrays" 304 ⟨"java/lang/Math", "min", "(II)I"⟩) ∈ V_J := j_J_22
theorem k_J_23 : (.methodLink "java/util/Arrays" 150 ⟨"java/lang/System", "arraycopy", "(Ljava/lang/Object;ILjava/lang/Object;II)V"⟩) ∈ V_J := j_J_23
theorem k_J_24 : (.static ⟨"java/util/Arrays", "fill", "([BIIB)V"⟩) ∈ V_J := j_J_24
theorem k_J_25 : (.code ⟨"java/util/Arrays", "fill", "([BIIB)V"⟩ prog_33_method_110_code 5 none) ∈ V_J := j_J_25
theorem k_J_26 : (.methodLink "java/util/Arrays" 13 ⟨"java/util/Arrays", "rangeCheck", "(III)V"⟩) ∈ V_J := j_J_26
theorem k_J_27 : (.static ⟨"java/util/Arrays", "rangeCheck", "(III)V"⟩) ∈ V_J := j_J_27
theorem k_J_28 : (.code ⟨"java/util/Arrays", "rangeCheck", "(III)V"⟩ prog_33_method_30_code 3 none) ∈ V_J := j_J_28
theorem k_J_50 : (.static ⟨"java/util/Arrays", "fill", "([II)V"⟩) ∈ V_J := j_J_50
theorem k_J_51 : (.code ⟨"java/util/Arrays", "fill", "([II)V"⟩ prog_33_method_103_code 4 none) ∈ V_J := j_J_51
theorem k_J_52 : (.arrayClass .char) ∈ V_J := j_J_52
theorem k_J_53 : (.arrayClass .long) ∈ V_J := j_J_53
theorem good_J : GoodIn V_J V_J := goodIn_sub (fun _ h => h) (by decide +kernel)
def K_Dk : List Cond := [(.initialized "VolumeTurner$Disk"), (.instantiable "VolumeTurner$Disk" 3), (.instanceMethod y_Dk_init), (.code y_Dk_init prog_3_method_1_code 2 none), (.methodLink "VolumeTurner$Disk" 3 objectInit), (.fieldLink "VolumeTurner$Disk" 15 "VolumeTurner$Disk" "sectors" "I"), (.fieldLink "VolumeTurner$Disk" 18 "VolumeTurner$Disk" "bytes" "[B"), (.fieldLink "VolumeTurner$Disk" 11 "VolumeTurner$Disk" "power" "I"), (.instanceMethod y_Dk_has), (.selects "VolumeTurner$Disk" y_Dk_has y_Dk_has), (.code y_Dk_has prog_3_method_2_code 3 (some .boolean)), (.instanceMethod y_Dk_putOne), (.selects "VolumeTurner$Disk" y_Dk_putOne y_Dk_putOne), (.code y_Dk_putOne prog_3_method_6_code 3 none), (.instanceMethod y_Dk_four), (.selects "VolumeTurner$Disk" y_Dk_four y_Dk_four), (.code y_Dk_four prog_3_method_5_code 2 (some .int)), (.instanceMethod y_Dk_two), (.selects "VolumeTurner$Disk" y_Dk_two y_Dk_two), (.code y_Dk_two prog_3_method_4_code 2 (some .int)), (.instanceMethod y_Dk_one), (.selects "VolumeTurner$Disk" y_Dk_one y_Dk_one), (.code y_Dk_one prog_3_method_3_code 2 (some .int)), (.instanceMethod y_Dk_zero), (.selects "VolumeTurner$Disk" y_Dk_zero y_Dk_zero), (.code y_Dk_zero prog_3_method_9_code 3 none), (.methodLink "VolumeTurner$Disk" 22 ⟨"java/util/Arrays", "fill", "([BIIB)V"⟩), (.instanceMethod y_Dk_putTwo), (.selects "VolumeTurner$Disk" y_Dk_putTwo y_Dk_putTwo), (.code y_Dk_putTwo prog_3_method_7_code 3 none), (.instanceMethod y_Dk_putFour), (.selects "VolumeTurner$Disk" y_Dk_putFour y_Dk_putFour), (.code y_Dk_putFour prog_3_method_8_code 3 none), (.instanceMethod y_Dk_supply), (.selects "VolumeTurner$Disk" y_Dk_supply y_Dk_supply), (.code y_Dk_supply prog_3_method_10_code 2 none), (.instanceMethod y_Dk_load), (.selects "VolumeTurner$Disk" y_Dk_load y_Dk_load), (.code y_Dk_load prog_3_method_13_code 4 none), (.methodLink "VolumeTurner$Disk" 28 y_Dk_has), (.methodLink "VolumeTurner$Disk" 32 ⟨"java/lang/System", "arraycopy", "(Ljava/lang/Object;ILjava/lang/Object;II)V"⟩), (.instanceMethod y_Dk_store), (.selects "VolumeTurner$Disk" y_Dk_store y_Dk_store), (.code y_Dk_store prog_3_method_12_code 4 none), (.instanceMethod y_Dk_isOn), (.selects "VolumeTurner$Disk" y_Dk_isOn y_Dk_isOn), (.code y_Dk_isOn prog_3_method_11_code 1 (some .boolean))]
theorem j_Dk_0 : (.initialized "VolumeTurner$Disk") ∈ K_Dk := List.mem_of_getElem? (i := 0) rfl
theorem j_Dk_1 : (.instantiable "VolumeTurner$Disk" 3) ∈ K_Dk := List.mem_of_getElem? (i := 1) rfl
theorem j_Dk_2 : (.instanceMethod y_Dk_init) ∈ K_Dk := List.mem_of_getElem? (i := 2) rfl
theorem j_Dk_3 : (.code y_Dk_init prog_3_method_1_code 2 none) ∈ K_Dk := List.mem_of_getElem? (i := 3) rfl
theorem j_Dk_4 : (.methodLink "VolumeTurner$Disk" 3 objectInit) ∈ K_Dk := List.mem_of_getElem? (i := 4) rfl
theorem j_Dk_5 : (.fieldLink "VolumeTurner$Disk" 15 "VolumeTurner$Disk" "sectors" "I") ∈ K_Dk := List.mem_of_getElem? (i := 5) rfl
theorem j_Dk_6 : (.fieldLink "VolumeTurner$Disk" 18 "VolumeTurner$Disk" "bytes" "[B") ∈ K_Dk := List.mem_of_getElem? (i := 6) rfl
theorem j_Dk_7 : (.fieldLink "VolumeTurner$Disk" 11 "VolumeTurner$Disk" "power" "I") ∈ K_Dk := List.mem_of_getElem? (i := 7) rfl
theorem j_Dk_8 : (.instanceMethod y_Dk_has) ∈ K_Dk := List.mem_of_getElem? (i := 8) rfl
theorem j_Dk_9 : (.selects "VolumeTurner$Disk" y_Dk_has y_Dk_has) ∈ K_Dk := List.mem_of_getElem? (i := 9) rfl
theorem j_Dk_10 : (.code y_Dk_has prog_3_method_2_code 3 (some .boolean)) ∈ K_Dk := List.mem_of_getElem? (i := 10) rfl
theorem j_Dk_11 : (.instanceMethod y_Dk_putOne) ∈ K_Dk := List.mem_of_getElem? (i := 11) rfl
theorem j_Dk_12 : (.selects "VolumeTurner$Disk" y_Dk_putOne y_Dk_putOne) ∈ K_Dk := List.mem_of_getElem? (i := 12) rfl
theorem j_Dk_13 : (.code y_Dk_putOne prog_3_method_6_code 3 none) ∈ K_Dk := List.mem_of_getElem? (i := 13) rfl
theorem j_Dk_14 : (.instanceMethod y_Dk_four) ∈ K_Dk := List.mem_of_getElem? (i := 14) rfl
theorem j_Dk_15 : (.selects "VolumeTurner$Disk" y_Dk_four y_Dk_four) ∈ K_Dk := List.mem_of_getElem? (i := 15) rfl
theorem j_Dk_16 : (.code y_Dk_four prog_3_method_5_code 2 (some .int)) ∈ K_Dk := List.mem_of_getElem? (i := 16) rfl
theorem j_Dk_17 : (.instanceMethod y_Dk_two) ∈ K_Dk := List.mem_of_getElem? (i := 17) rfl
theorem j_Dk_18 : (.selects "VolumeTurner$Disk" y_Dk_two y_Dk_two) ∈ K_Dk := List.mem_of_getElem? (i := 18) rfl
theorem j_Dk_19 : (.code y_Dk_two prog_3_method_4_code 2 (some .int)) ∈ K_Dk := List.mem_of_getElem? (i := 19) rfl
theorem j_Dk_20 : (.instanceMethod y_Dk_one) ∈ K_Dk := List.mem_of_getElem? (i := 20) rfl
theorem j_Dk_21 : (.selects "VolumeTurner$Disk" y_Dk_one y_Dk_one) ∈ K_Dk := List.mem_of_getElem? (i := 21) rfl
theorem j_Dk_22 : (.code y_Dk_one prog_3_method_3_code 2 (some .int)) ∈ K_Dk := List.mem_of_getElem? (i := 22) rfl
theorem j_Dk_23 : (.instanceMethod y_Dk_zero) ∈ K_Dk := List.mem_of_getElem? (i := 23) rfl
theorem j_Dk_24 : (.selects "VolumeTurner$Disk" y_Dk_zero y_Dk_zero) ∈ K_Dk := List.mem_of_getElem? (i := 24) rfl
theorem j_Dk_25 : (.code y_Dk_zero prog_3_method_9_code 3 none) ∈ K_Dk := List.mem_of_getElem? (i := 25) rfl
theorem j_Dk_26 : (.methodLink "VolumeTurner$Disk" 22 ⟨"java/util/Arrays", "fill", "([BIIB)V"⟩) ∈ K_Dk := List.mem_of_getElem? (i := 26) rfl
theorem j_Dk_27 : (.instanceMethod y_Dk_putTwo) ∈ K_Dk := List.mem_of_getElem? (i := 27) rfl
theorem j_Dk_28 : (.selects "VolumeTurner$Disk" y_Dk_putTwo y_Dk_putTwo) ∈ K_Dk := List.mem_of_getElem? (i := 28) rfl
theorem j_Dk_29 : (.code y_Dk_putTwo prog_3_method_7_code 3 none) ∈ K_Dk := List.mem_of_getElem? (i := 29) rfl
theorem j_Dk_30 : (.instanceMethod y_Dk_putFour) ∈ K_Dk := List.mem_of_getElem? (i := 30) rfl
theorem j_Dk_31 : (.selects "VolumeTurner$Disk" y_Dk_putFour y_Dk_putFour) ∈ K_Dk := List.mem_of_getElem? (i := 31) rfl
theorem j_Dk_32 : (.code y_Dk_putFour prog_3_method_8_code 3 none) ∈ K_Dk := List.mem_of_getElem? (i := 32) rfl
theorem j_Dk_33 : (.instanceMethod y_Dk_supply) ∈ K_Dk := List.mem_of_getElem? (i := 33) rfl
theorem j_Dk_34 : (.selects "VolumeTurner$Disk" y_Dk_supply y_Dk_supply) ∈ K_Dk := List.mem_of_getElem? (i := 34) rfl
theorem j_Dk_35 : (.code y_Dk_supply prog_3_method_10_code 2 none) ∈ K_Dk := List.mem_of_getElem? (i := 35) rfl
theorem j_Dk_36 : (.instanceMethod y_Dk_load) ∈ K_Dk := List.mem_of_getElem? (i := 36) rfl
theorem j_Dk_37 : (.selects "VolumeTurner$Disk" y_Dk_load y_Dk_load) ∈ K_Dk := List.mem_of_getElem? (i := 37) rfl
theorem j_Dk_38 : (.code y_Dk_load prog_3_method_13_code 4 none) ∈ K_Dk := List.mem_of_getElem? (i := 38) rfl
theorem j_Dk_39 : (.methodLink "VolumeTurner$Disk" 28 y_Dk_has) ∈ K_Dk := List.mem_of_getElem? (i := 39) rfl
theorem j_Dk_40 : (.methodLink "VolumeTurner$Disk" 32 ⟨"java/lang/System", "arraycopy", "(Ljava/lang/Object;ILjava/lang/Object;II)V"⟩) ∈ K_Dk := List.mem_of_getElem? (i := 40) rfl
theorem j_Dk_41 : (.instanceMethod y_Dk_store) ∈ K_Dk := List.mem_of_getElem? (i := 41) rfl
theorem j_Dk_42 : (.selects "VolumeTurner$Disk" y_Dk_store y_Dk_store) ∈ K_Dk := List.mem_of_getElem? (i := 42) rfl
theorem j_Dk_43 : (.code y_Dk_store prog_3_method_12_code 4 none) ∈ K_Dk := List.mem_of_getElem? (i := 43) rfl
theorem j_Dk_44 : (.instanceMethod y_Dk_isOn) ∈ K_Dk := List.mem_of_getElem? (i := 44) rfl
theorem j_Dk_45 : (.selects "VolumeTurner$Disk" y_Dk_isOn y_Dk_isOn) ∈ K_Dk := List.mem_of_getElem? (i := 45) rfl
theorem j_Dk_46 : (.code y_Dk_isOn prog_3_method_11_code 1 (some .boolean)) ∈ K_Dk := List.mem_of_getElem? (i := 46) rfl
def V_Dk : List Cond := w_Dk ++ (K_Dk ++ V_J)
theorem i_Dk : ∀ w ∈ w_Dk, w ∈ V_Dk := fun _ h => List.mem_append_left _ h
theorem kk_Dk : ∀ w ∈ K_Dk, w ∈ V_Dk := fun _ h => List.mem_append_right _ (List.mem_append_left _ h)
theorem u_Dk_J : ∀ w ∈ V_J, w ∈ V_Dk := fun _ h => List.mem_append_right _ (List.mem_append_right _ h)
theorem k_Dk_0 : (.initialized "VolumeTurner$Disk") ∈ V_Dk := kk_Dk _ j_Dk_0
theorem k_Dk_1 : (.instantiable "VolumeTurner$Disk" 3) ∈ V_Dk := kk_Dk _ j_Dk_1
theorem k_Dk_2 : (.instanceMethod y_Dk_init) ∈ V_Dk := kk_Dk _ j_Dk_2
theorem k_Dk_3 : (.code y_Dk_init prog_3_method_1_code 2 none) ∈ V_Dk := kk_Dk _ j_Dk_3
theorem k_Dk_4 : (.methodLink "VolumeTurner$Disk" 3 objectInit) ∈ V_Dk := kk_Dk _ j_Dk_4
theorem k_Dk_5 : (.fieldLink "VolumeTurner$Disk" 15 "VolumeTurner$Disk" "sectors" "I") ∈ V_Dk := kk_Dk _ j_Dk_5
theorem k_Dk_6 : (.fieldLink "VolumeTurner$Disk" 18 "VolumeTurner$Disk" "bytes" "[B") ∈ V_Dk := kk_Dk _ j_Dk_6
theorem k_Dk_7 : (.fieldLink "VolumeTurner$Disk" 11 "VolumeTurner$Disk" "power" "I") ∈ V_Dk := kk_Dk _ j_Dk_7
theorem k_Dk_8 : (.instanceMethod y_Dk_has) ∈ V_Dk := kk_Dk _ j_Dk_8
theorem k_Dk_9 : (.selects "VolumeTurner$Disk" y_Dk_has y_Dk_has) ∈ V_Dk := kk_Dk _ j_Dk_9
theorem k_Dk_10 : (.code y_Dk_has prog_3_method_2_code 3 (some .boolean)) ∈ V_Dk := kk_Dk _ j_Dk_10
theorem k_Dk_11 : (.instanceMethod y_Dk_putOne) ∈ V_Dk := kk_Dk _ j_Dk_11
theorem k_Dk_12 : (.selects "VolumeTurner$Disk" y_Dk_putOne y_Dk_putOne) ∈ V_Dk := kk_Dk _ j_Dk_12
theorem k_Dk_13 : (.code y_Dk_putOne prog_3_method_6_code 3 none) ∈ V_Dk := kk_Dk _ j_Dk_13
theorem k_Dk_14 : (.instanceMethod y_Dk_four) ∈ V_Dk := kk_Dk _ j_Dk_14
theorem k_Dk_15 : (.selects "VolumeTurner$Disk" y_Dk_four y_Dk_four) ∈ V_Dk := kk_Dk _ j_Dk_15
theorem k_Dk_16 : (.code y_Dk_four prog_3_method_5_code 2 (some .int)) ∈ V_Dk := kk_Dk _ j_Dk_16
theorem k_Dk_17 : (.instanceMethod y_Dk_two) ∈ V_Dk := kk_Dk _ j_Dk_17
theorem k_Dk_18 : (.selects "VolumeTurner$Disk" y_Dk_two y_Dk_two) ∈ V_Dk := kk_Dk _ j_Dk_18
theorem k_Dk_19 : (.code y_Dk_two prog_3_method_4_code 2 (some .int)) ∈ V_Dk := kk_Dk _ j_Dk_19
theorem k_Dk_20 : (.instanceMethod y_Dk_one) ∈ V_Dk := kk_Dk _ j_Dk_20
theorem k_Dk_21 : (.selects "VolumeTurner$Disk" y_Dk_one y_Dk_one) ∈ V_Dk := kk_Dk _ j_Dk_21
theorem k_Dk_22 : (.code y_Dk_one prog_3_method_3_code 2 (some .int)) ∈ V_Dk := kk_Dk _ j_Dk_22
theorem k_Dk_23 : (.instanceMethod y_Dk_zero) ∈ V_Dk := kk_Dk _ j_Dk_23
theorem k_Dk_24 : (.selects "VolumeTurner$Disk" y_Dk_zero y_Dk_zero) ∈ V_Dk := kk_Dk _ j_Dk_24
theorem k_Dk_25 : (.code y_Dk_zero prog_3_method_9_code 3 none) ∈ V_Dk := kk_Dk _ j_Dk_25
theorem k_Dk_26 : (.methodLink "VolumeTurner$Disk" 22 ⟨"java/util/Arrays", "fill", "([BIIB)V"⟩) ∈ V_Dk := kk_Dk _ j_Dk_26
theorem k_Dk_27 : (.instanceMethod y_Dk_putTwo) ∈ V_Dk := kk_Dk _ j_Dk_27
theorem k_Dk_28 : (.selects "VolumeTurner$Disk" y_Dk_putTwo y_Dk_putTwo) ∈ V_Dk := kk_Dk _ j_Dk_28
theorem k_Dk_29 : (.code y_Dk_putTwo prog_3_method_7_code 3 none) ∈ V_Dk := kk_Dk _ j_Dk_29
theorem k_Dk_30 : (.instanceMethod y_Dk_putFour) ∈ V_Dk := kk_Dk _ j_Dk_30
theorem k_Dk_31 : (.selects "VolumeTurner$Disk" y_Dk_putFour y_Dk_putFour) ∈ V_Dk := kk_Dk _ j_Dk_31
theorem k_Dk_32 : (.code y_Dk_putFour prog_3_method_8_code 3 none) ∈ V_Dk := kk_Dk _ j_Dk_32
theorem k_Dk_33 : (.instanceMethod y_Dk_supply) ∈ V_Dk := kk_Dk _ j_Dk_33
theorem k_Dk_34 : (.selects "VolumeTurner$Disk" y_Dk_supply y_Dk_supply) ∈ V_Dk := kk_Dk _ j_Dk_34
theorem k_Dk_35 : (.code y_Dk_supply prog_3_method_10_code 2 none) ∈ V_Dk := kk_Dk _ j_Dk_35
theorem k_Dk_36 : (.instanceMethod y_Dk_load) ∈ V_Dk := kk_Dk _ j_Dk_36
theorem k_Dk_37 : (.selects "VolumeTurner$Disk" y_Dk_load y_Dk_load) ∈ V_Dk := kk_Dk _ j_Dk_37
theorem k_Dk_38 : (.code y_Dk_load prog_3_method_13_code 4 none) ∈ V_Dk := kk_Dk _ j_Dk_38
theorem k_Dk_39 : (.methodLink "VolumeTurner$Disk" 28 y_Dk_has) ∈ V_Dk := kk_Dk _ j_Dk_39
theorem k_Dk_40 : (.methodLink "VolumeTurner$Disk" 32 ⟨"java/lang/System", "arraycopy", "(Ljava/lang/Object;ILjava/lang/Object;II)V"⟩) ∈ V_Dk := kk_Dk _ j_Dk_40
theorem k_Dk_41 : (.instanceMethod y_Dk_store) ∈ V_Dk := kk_Dk _ j_Dk_41
theorem k_Dk_42 : (.selects "VolumeTurner$Disk" y_Dk_store y_Dk_store) ∈ V_Dk := kk_Dk _ j_Dk_42
theorem k_Dk_43 : (.code y_Dk_store prog_3_method_12_code 4 none) ∈ V_Dk := kk_Dk _ j_Dk_43
theorem k_Dk_44 : (.instanceMethod y_Dk_isOn) ∈ V_Dk := kk_Dk _ j_Dk_44
theorem k_Dk_45 : (.selects "VolumeTurner$Disk" y_Dk_isOn y_Dk_isOn) ∈ V_Dk := kk_Dk _ j_Dk_45
theorem k_Dk_46 : (.code y_Dk_isOn prog_3_method_11_code 1 (some .boolean)) ∈ V_Dk := kk_Dk _ j_Dk_46
theorem gk_Dk : ∀ w ∈ w_Dk ++ K_Dk, goodWord w = true := List.all_eq_true.mp (by decide +kernel)
theorem good_Dk : GoodIn V_Dk V_Dk := fun w h => by
  refine ⟨h, ?_⟩
  rcases List.mem_append.mp h with q | q
  · exact good_of_word (gk_Dk w (List.mem_append_left _ q))
  · rcases List.mem_append.mp q with q | q
    · exact good_of_word (gk_Dk w (List.mem_append_right _ q))
    · exact (good_J w q).2
