abbrev b_Wo_mayBeShort : ByteArray := prog_12_method_2_code
def y_Wo_mayBeShort : MethodName := ⟨R_Wo, "mayBeShort", "(I)Z"⟩
theorem d_Wo_mayBeShort_0 : decode b_Wo_mayBeShort 0 = .ok (.iload_n 0, 1) := by decide +kernel
theorem d_Wo_mayBeShort_1 : decode b_Wo_mayBeShort 1 = .ok (.bipush 65, 2) := by decide +kernel
theorem d_Wo_mayBeShort_3 : decode b_Wo_mayBeShort 3 = .ok (.if_icmp .lt 9, 3) := by decide +kernel
theorem d_Wo_mayBeShort_6 : decode b_Wo_mayBeShort 6 = .ok (.iload_n 0, 1) := by decide +kernel
theorem d_Wo_mayBeShort_7 : decode b_Wo_mayBeShort 7 = .ok (.bipush 90, 2) := by decide +kernel
theorem d_Wo_mayBeShort_9 : decode b_Wo_mayBeShort 9 = .ok (.if_icmp .le 75, 3) := by decide +kernel
theorem d_Wo_mayBeShort_12 : decode b_Wo_mayBeShort 12 = .ok (.iload_n 0, 1) := by decide +kernel
theorem d_Wo_mayBeShort_13 : decode b_Wo_mayBeShort 13 = .ok (.bipush 48, 2) := by decide +kernel
theorem d_Wo_mayBeShort_15 : decode b_Wo_mayBeShort 15 = .ok (.if_icmp .lt 9, 3) := by decide +kernel
theorem d_Wo_mayBeShort_18 : decode b_Wo_mayBeShort 18 = .ok (.iload_n 0, 1) := by decide +kernel
theorem d_Wo_mayBeShort_19 : decode b_Wo_mayBeShort 19 = .ok (.bipush 57, 2) := by decide +kernel
theorem d_Wo_mayBeShort_21 : decode b_Wo_mayBeShort 21 = .ok (.if_icmp .le 63, 3) := by decide +kernel
theorem d_Wo_mayBeShort_24 : decode b_Wo_mayBeShort 24 = .ok (.iload_n 0, 1) := by decide +kernel
theorem d_Wo_mayBeShort_25 : decode b_Wo_mayBeShort 25 = .ok (.bipush 35, 2) := by decide +kernel
theorem d_Wo_mayBeShort_27 : decode b_Wo_mayBeShort 27 = .ok (.if_icmp .lt 9, 3) := by decide +kernel
theorem d_Wo_mayBeShort_30 : decode b_Wo_mayBeShort 30 = .ok (.iload_n 0, 1) := by decide +kernel
theorem d_Wo_mayBeShort_31 : decode b_Wo_mayBeShort 31 = .ok (.bipush 41, 2) := by decide +kernel
theorem d_Wo_mayBeShort_33 : decode b_Wo_mayBeShort 33 = .ok (.if_icmp .le 51, 3) := by decide +kernel
theorem d_Wo_mayBeShort_36 : decode b_Wo_mayBeShort 36 = .ok (.iload_n 0, 1) := by decide +kernel
theorem d_Wo_mayBeShort_37 : decode b_Wo_mayBeShort 37 = .ok (.bipush 94, 2) := by decide +kernel
theorem d_Wo_mayBeShort_39 : decode b_Wo_mayBeShort 39 = .ok (.if_icmp .lt 9, 3) := by decide +kernel
theorem d_Wo_mayBeShort_42 : decode b_Wo_mayBeShort 42 = .ok (.iload_n 0, 1) := by decide +kernel
theorem d_Wo_mayBeShort_43 : decode b_Wo_mayBeShort 43 = .ok (.bipush 96, 2) := by decide +kernel
theorem d_Wo_mayBeShort_45 : decode b_Wo_mayBeShort 45 = .ok (.if_icmp .le 39, 3) := by decide +kernel
theorem d_Wo_mayBeShort_48 : decode b_Wo_mayBeShort 48 = .ok (.iload_n 0, 1) := by decide +kernel
theorem d_Wo_mayBeShort_49 : decode b_Wo_mayBeShort 49 = .ok (.bipush 33, 2) := by decide +kernel
theorem d_Wo_mayBeShort_51 : decode b_Wo_mayBeShort 51 = .ok (.if_icmp .eq 33, 3) := by decide +kernel
theorem d_Wo_mayBeShort_54 : decode b_Wo_mayBeShort 54 = .ok (.iload_n 0, 1) := by decide +kernel
theorem d_Wo_mayBeShort_55 : decode b_Wo_mayBeShort 55 = .ok (.bipush 45, 2) := by decide +kernel
theorem d_Wo_mayBeShort_57 : decode b_Wo_mayBeShort 57 = .ok (.if_icmp .eq 27, 3) := by decide +kernel
theorem d_Wo_mayBeShort_60 : decode b_Wo_mayBeShort 60 = .ok (.iload_n 0, 1) := by decide +kernel
theorem d_Wo_mayBeShort_61 : decode b_Wo_mayBeShort 61 = .ok (.bipush 64, 2) := by decide +kernel
theorem d_Wo_mayBeShort_63 : decode b_Wo_mayBeShort 63 = .ok (.if_icmp .eq 21, 3) := by decide +kernel
theorem d_Wo_mayBeShort_66 : decode b_Wo_mayBeShort 66 = .ok (.iload_n 0, 1) := by decide +kernel
theorem d_Wo_mayBeShort_67 : decode b_Wo_mayBeShort 67 = .ok (.bipush 123, 2) := by decide +kernel
theorem d_Wo_mayBeShort_69 : decode b_Wo_mayBeShort 69 = .ok (.if_icmp .eq 15, 3) := by decide +kernel
theorem d_Wo_mayBeShort_72 : decode b_Wo_mayBeShort 72 = .ok (.iload_n 0, 1) := by decide +kernel
theorem d_Wo_mayBeShort_73 : decode b_Wo_mayBeShort 73 = .ok (.bipush 125, 2) := by decide +kernel
theorem d_Wo_mayBeShort_75 : decode b_Wo_mayBeShort 75 = .ok (.if_icmp .eq 9, 3) := by decide +kernel
theorem d_Wo_mayBeShort_78 : decode b_Wo_mayBeShort 78 = .ok (.iload_n 0, 1) := by decide +kernel
theorem d_Wo_mayBeShort_79 : decode b_Wo_mayBeShort 79 = .ok (.bipush 126, 2) := by decide +kernel
theorem d_Wo_mayBeShort_81 : decode b_Wo_mayBeShort 81 = .ok (.if_icmp .ne 7, 3) := by decide +kernel
theorem d_Wo_mayBeShort_84 : decode b_Wo_mayBeShort 84 = .ok (.iconst 1, 1) := by decide +kernel
theorem d_Wo_mayBeShort_85 : decode b_Wo_mayBeShort 85 = .ok (.goto 4, 3) := by decide +kernel
theorem d_Wo_mayBeShort_88 : decode b_Wo_mayBeShort 88 = .ok (.iconst 0, 1) := by decide +kernel
theorem d_Wo_mayBeShort_89 : decode b_Wo_mayBeShort 89 = .ok (.ireturn, 1) := by decide +kernel
abbrev b_Wo_mayBeUnit : ByteArray := prog_12_method_3_code
def y_Wo_mayBeUnit : MethodName := ⟨R_Wo, "mayBeUnit", "(I)Z"⟩
theorem d_Wo_mayBeUnit_0 : decode b_Wo_mayBeUnit 0 = .ok (.iload_n 0, 1) := by decide +kernel
theorem d_Wo_mayBeUnit_1 : decode b_Wo_mayBeUnit 1 = .ok (.bipush 34, 2) := by decide +kernel
theorem d_Wo_mayBeUnit_3 : decode b_Wo_mayBeUnit 3 = .ok (.if_icmp .eq 57, 3) := by decide +kernel
theorem d_Wo_mayBeUnit_6 : decode b_Wo_mayBeUnit 6 = .ok (.iload_n 0, 1) := by decide +kernel
theorem d_Wo_mayBeUnit_7 : decode b_Wo_mayBeUnit 7 = .ok (.bipush 42, 2) := by decide +kernel
theorem d_Wo_mayBeUnit_9 : decode b_Wo_mayBeUnit 9 = .ok (.if_icmp .eq 51, 3) := by decide +kernel
theorem d_Wo_mayBeUnit_12 : decode b_Wo_mayBeUnit 12 = .ok (.iload_n 0, 1) := by decide +kernel
theorem d_Wo_mayBeUnit_13 : decode b_Wo_mayBeUnit 13 = .ok (.bipush 47, 2) := by decide +kernel
theorem d_Wo_mayBeUnit_15 : decode b_Wo_mayBeUnit 15 = .ok (.if_icmp .eq 45, 3) := by decide +kernel
theorem d_Wo_mayBeUnit_18 : decode b_Wo_mayBeUnit 18 = .ok (.iload_n 0, 1) := by decide +kernel
theorem d_Wo_mayBeUnit_19 : decode b_Wo_mayBeUnit 19 = .ok (.bipush 58, 2) := by decide +kernel
theorem d_Wo_mayBeUnit_21 : decode b_Wo_mayBeUnit 21 = .ok (.if_icmp .eq 39, 3) := by decide +kernel
theorem d_Wo_mayBeUnit_24 : decode b_Wo_mayBeUnit 24 = .ok (.iload_n 0, 1) := by decide +kernel
theorem d_Wo_mayBeUnit_25 : decode b_Wo_mayBeUnit 25 = .ok (.bipush 60, 2) := by decide +kernel
theorem d_Wo_mayBeUnit_27 : decode b_Wo_mayBeUnit 27 = .ok (.if_icmp .eq 33, 3) := by decide +kernel
theorem d_Wo_mayBeUnit_30 : decode b_Wo_mayBeUnit 30 = .ok (.iload_n 0, 1) := by decide +kernel
theorem d_Wo_mayBeUnit_31 : decode b_Wo_mayBeUnit 31 = .ok (.bipush 62, 2) := by decide +kernel
theorem d_Wo_mayBeUnit_33 : decode b_Wo_mayBeUnit 33 = .ok (.if_icmp .eq 27, 3) := by decide +kernel
theorem d_Wo_mayBeUnit_36 : decode b_Wo_mayBeUnit 36 = .ok (.iload_n 0, 1) := by decide +kernel
theorem d_Wo_mayBeUnit_37 : decode b_Wo_mayBeUnit 37 = .ok (.bipush 63, 2) := by decide +kernel
theorem d_Wo_mayBeUnit_39 : decode b_Wo_mayBeUnit 39 = .ok (.if_icmp .eq 21, 3) := by decide +kernel
theorem d_Wo_mayBeUnit_42 : decode b_Wo_mayBeUnit 42 = .ok (.iload_n 0, 1) := by decide +kernel
theorem d_Wo_mayBeUnit_43 : decode b_Wo_mayBeUnit 43 = .ok (.bipush 92, 2) := by decide +kernel
theorem d_Wo_mayBeUnit_45 : decode b_Wo_mayBeUnit 45 = .ok (.if_icmp .eq 15, 3) := by decide +kernel
theorem d_Wo_mayBeUnit_48 : decode b_Wo_mayBeUnit 48 = .ok (.iload_n 0, 1) := by decide +kernel
theorem d_Wo_mayBeUnit_49 : decode b_Wo_mayBeUnit 49 = .ok (.bipush 124, 2) := by decide +kernel
theorem d_Wo_mayBeUnit_51 : decode b_Wo_mayBeUnit 51 = .ok (.if_icmp .eq 9, 3) := by decide +kernel
theorem d_Wo_mayBeUnit_54 : decode b_Wo_mayBeUnit 54 = .ok (.iload_n 0, 1) := by decide +kernel
theorem d_Wo_mayBeUnit_55 : decode b_Wo_mayBeUnit 55 = .ok (.bipush 127, 2) := by decide +kernel
theorem d_Wo_mayBeUnit_57 : decode b_Wo_mayBeUnit 57 = .ok (.if_icmp .ne 7, 3) := by decide +kernel
theorem d_Wo_mayBeUnit_60 : decode b_Wo_mayBeUnit 60 = .ok (.iconst 1, 1) := by decide +kernel
theorem d_Wo_mayBeUnit_61 : decode b_Wo_mayBeUnit 61 = .ok (.goto 4, 3) := by decide +kernel
theorem d_Wo_mayBeUnit_64 : decode b_Wo_mayBeUnit 64 = .ok (.iconst 0, 1) := by decide +kernel
theorem d_Wo_mayBeUnit_65 : decode b_Wo_mayBeUnit 65 = .ok (.istore_n 1, 1) := by decide +kernel
theorem d_Wo_mayBeUnit_66 : decode b_Wo_mayBeUnit 66 = .ok (.iload_n 0, 1) := by decide +kernel
theorem d_Wo_mayBeUnit_67 : decode b_Wo_mayBeUnit 67 = .ok (.bipush 32, 2) := by decide +kernel
theorem d_Wo_mayBeUnit_69 : decode b_Wo_mayBeUnit 69 = .ok (.if_icmp .lt 29, 3) := by decide +kernel
theorem d_Wo_mayBeUnit_72 : decode b_Wo_mayBeUnit 72 = .ok (.iload_n 0, 1) := by decide +kernel
theorem d_Wo_mayBeUnit_73 : decode b_Wo_mayBeUnit 73 = .ok (.ldc 9, 2) := by decide +kernel
theorem d_Wo_mayBeUnit_75 : decode b_Wo_mayBeUnit 75 = .ok (.if_icmp .gt 23, 3) := by decide +kernel
theorem d_Wo_mayBeUnit_78 : decode b_Wo_mayBeUnit 78 = .ok (.iload_n 1, 1) := by decide +kernel
theorem d_Wo_mayBeUnit_79 : decode b_Wo_mayBeUnit 79 = .ok (.ifCond .ne 19, 3) := by decide +kernel
theorem d_Wo_mayBeUnit_82 : decode b_Wo_mayBeUnit 82 = .ok (.iload_n 0, 1) := by decide +kernel
theorem d_Wo_mayBeUnit_83 : decode b_Wo_mayBeUnit 83 = .ok (.ldc 10, 2) := by decide +kernel
theorem d_Wo_mayBeUnit_85 : decode b_Wo_mayBeUnit 85 = .ok (.if_icmp .lt 9, 3) := by decide +kernel
theorem d_Wo_mayBeUnit_88 : decode b_Wo_mayBeUnit 88 = .ok (.iload_n 0, 1) := by decide +kernel
theorem d_Wo_mayBeUnit_89 : decode b_Wo_mayBeUnit 89 = .ok (.ldc 11, 2) := by decide +kernel
theorem d_Wo_mayBeUnit_91 : decode b_Wo_mayBeUnit 91 = .ok (.if_icmp .le 7, 3) := by decide +kernel
theorem d_Wo_mayBeUnit_94 : decode b_Wo_mayBeUnit 94 = .ok (.iconst 1, 1) := by decide +kernel
theorem d_Wo_mayBeUnit_95 : decode b_Wo_mayBeUnit 95 = .ok (.goto 4, 3) := by decide +kernel
theorem d_Wo_mayBeUnit_98 : decode b_Wo_mayBeUnit 98 = .ok (.iconst 0, 1) := by decide +kernel
theorem d_Wo_mayBeUnit_99 : decode b_Wo_mayBeUnit 99 = .ok (.ireturn, 1) := by decide +kernel
abbrev b_Wo_isName : ByteArray := prog_12_method_4_code
def y_Wo_isName : MethodName := ⟨R_Wo, "isName", "([II)Z"⟩
theorem d_Wo_isName_0 : decode b_Wo_isName 0 = .ok (.iload_n 1, 1) := by decide +kernel
theorem d_Wo_isName_1 : decode b_Wo_isName 1 = .ok (.iconst 1, 1) := by decide +kernel
theorem d_Wo_isName_2 : decode b_Wo_isName 2 = .ok (.if_icmp .lt 16, 3) := by decide +kernel
theorem d_Wo_isName_5 : decode b_Wo_isName 5 = .ok (.iload_n 1, 1) := by decide +kernel
theorem d_Wo_isName_6 : decode b_Wo_isName 6 = .ok (.sipush 255, 3) := by decide +kernel
theorem d_Wo_isName_9 : decode b_Wo_isName 9 = .ok (.if_icmp .gt 9, 3) := by decide +kernel
theorem d_Wo_isName_12 : decode b_Wo_isName 12 = .ok (.iload_n 1, 1) := by decide +kernel
theorem d_Wo_isName_13 : decode b_Wo_isName 13 = .ok (.aload_n 0, 1) := by decide +kernel
theorem d_Wo_isName_14 : decode b_Wo_isName 14 = .ok (.arraylength, 1) := by decide +kernel
theorem d_Wo_isName_15 : decode b_Wo_isName 15 = .ok (.if_icmp .le 5, 3) := by decide +kernel
theorem d_Wo_isName_18 : decode b_Wo_isName 18 = .ok (.iconst 0, 1) := by decide +kernel
theorem d_Wo_isName_19 : decode b_Wo_isName 19 = .ok (.ireturn, 1) := by decide +kernel
theorem d_Wo_isName_20 : decode b_Wo_isName 20 = .ok (.iconst 0, 1) := by decide +kernel
theorem d_Wo_isName_21 : decode b_Wo_isName 21 = .ok (.istore_n 2, 1) := by decide +kernel
theorem d_Wo_isName_22 : decode b_Wo_isName 22 = .ok (.iload_n 2, 1) := by decide +kernel
theorem d_Wo_isName_23 : decode b_Wo_isName 23 = .ok (.iload_n 1, 1) := by decide +kernel
theorem d_Wo_isName_24 : decode b_Wo_isName 24 = .ok (.if_icmp .ge 20, 3) := by decide +kernel
theorem d_Wo_isName_27 : decode b_Wo_isName 27 = .ok (.aload_n 0, 1) := by decide +kernel
theorem d_Wo_isName_28 : decode b_Wo_isName 28 = .ok (.iload_n 2, 1) := by decide +kernel
theorem d_Wo_isName_29 : decode b_Wo_isName 29 = .ok (.iaload, 1) := by decide +kernel
theorem d_Wo_isName_30 : decode b_Wo_isName 30 = .ok (.invokestatic 12, 3) := by decide +kernel
theorem d_Wo_isName_33 : decode b_Wo_isName 33 = .ok (.ifCond .ne 5, 3) := by decide +kernel
theorem d_Wo_isName_36 : decode b_Wo_isName 36 = .ok (.iconst 0, 1) := by decide +kernel
theorem d_Wo_isName_37 : decode b_Wo_isName 37 = .ok (.ireturn, 1) := by decide +kernel
theorem d_Wo_isName_38 : decode b_Wo_isName 38 = .ok (.iinc 2 1, 3) := by decide +kernel
theorem d_Wo_isName_41 : decode b_Wo_isName 41 = .ok (.goto (-19), 3) := by decide +kernel
theorem d_Wo_isName_44 : decode b_Wo_isName 44 = .ok (.aload_n 0, 1) := by decide +kernel
theorem d_Wo_isName_45 : decode b_Wo_isName 45 = .ok (.iload_n 1, 1) := by decide +kernel
theorem d_Wo_isName_46 : decode b_Wo_isName 46 = .ok (.iconst 1, 1) := by decide +kernel
theorem d_Wo_isName_47 : decode b_Wo_isName 47 = .ok (.isub, 1) := by decide +kernel
theorem d_Wo_isName_48 : decode b_Wo_isName 48 = .ok (.iaload, 1) := by decide +kernel
theorem d_Wo_isName_49 : decode b_Wo_isName 49 = .ok (.bipush 32, 2) := by decide +kernel
theorem d_Wo_isName_51 : decode b_Wo_isName 51 = .ok (.if_icmp .eq 17, 3) := by decide +kernel
theorem d_Wo_isName_54 : decode b_Wo_isName 54 = .ok (.aload_n 0, 1) := by decide +kernel
theorem d_Wo_isName_55 : decode b_Wo_isName 55 = .ok (.iload_n 1, 1) := by decide +kernel
theorem d_Wo_isName_56 : decode b_Wo_isName 56 = .ok (.iconst 1, 1) := by decide +kernel
theorem d_Wo_isName_57 : decode b_Wo_isName 57 = .ok (.isub, 1) := by decide +kernel
theorem d_Wo_isName_58 : decode b_Wo_isName 58 = .ok (.iaload, 1) := by decide +kernel
theorem d_Wo_isName_59 : decode b_Wo_isName 59 = .ok (.bipush 46, 2) := by decide +kernel
theorem d_Wo_isName_61 : decode b_Wo_isName 61 = .ok (.if_icmp .eq 7, 3) := by decide +kernel
theorem d_Wo_isName_64 : decode b_Wo_isName 64 = .ok (.iconst 1, 1) := by decide +kernel
theorem d_Wo_isName_65 : decode b_Wo_isName 65 = .ok (.goto 4, 3) := by decide +kernel
theorem d_Wo_isName_68 : decode b_Wo_isName 68 = .ok (.iconst 0, 1) := by decide +kernel
theorem d_Wo_isName_69 : decode b_Wo_isName 69 = .ok (.ireturn, 1) := by decide +kernel
abbrev cb_Wo_isShortName : ByteArray := prog_12_method_5_code
def y_Wo_isShortName : MethodName := ⟨R_Wo, "isShortName", "(LVolumeTurner$Disk;IZ)Z"⟩
theorem d_Wo_isShortName_0 : decode cb_Wo_isShortName 0 = .ok (.aload_n 0, 1) := by decide +kernel
theorem d_Wo_isShortName_1 : decode cb_Wo_isShortName 1 = .ok (.iload_n 1, 1) := by decide +kernel
theorem d_Wo_isShortName_2 : decode cb_Wo_isShortName 2 = .ok (.invokevirtual 18, 3) := by decide +kernel
theorem d_Wo_isShortName_5 : decode cb_Wo_isShortName 5 = .ok (.bipush 32, 2) := by decide +kernel
theorem d_Wo_isShortName_7 : decode cb_Wo_isShortName 7 = .ok (.if_icmp .ne 5, 3) := by decide +kernel
theorem d_Wo_isShortName_10 : decode cb_Wo_isShortName 10 = .ok (.iconst 0, 1) := by decide +kernel
theorem d_Wo_isShortName_11 : decode cb_Wo_isShortName 11 = .ok (.ireturn, 1) := by decide +kernel
theorem d_Wo_isShortName_12 : decode cb_Wo_isShortName 12 = .ok (.iconst 0, 1) := by decide +kernel
theorem d_Wo_isShortName_13 : decode cb_Wo_isShortName 13 = .ok (.istore_n 3, 1) := by decide +kernel
theorem d_Wo_isShortName_14 : decode cb_Wo_isShortName 14 = .ok (.iconst 0, 1) := by decide +kernel
theorem d_Wo_isShortName_15 : decode cb_Wo_isShortName 15 = .ok (.istore 4, 2) := by decide +kernel
theorem d_Wo_isShortName_17 : decode cb_Wo_isShortName 17 = .ok (.iload 4, 2) := by decide +kernel
theorem d_Wo_isShortName_19 : decode cb_Wo_isShortName 19 = .ok (.bipush 11, 2) := by decide +kernel
theorem d_Wo_isShortName_21 : decode cb_Wo_isShortName 21 = .ok (.if_icmp .ge 70, 3) := by decide +kernel
theorem d_Wo_isShortName_24 : decode cb_Wo_isShortName 24 = .ok (.aload_n 0, 1) := by decide +kernel
theorem d_Wo_isShortName_25 : decode cb_Wo_isShortName 25 = .ok (.iload_n 1, 1) := by decide +kernel
theorem d_Wo_isShortName_26 : decode cb_Wo_isShortName 26 = .ok (.iload 4, 2) := by decide +kernel
theorem d_Wo_isShortName_28 : decode cb_Wo_isShortName 28 = .ok (.iadd, 1) := by decide +kernel
theorem d_Wo_isShortName_29 : decode cb_Wo_isShortName 29 = .ok (.invokevirtual 18, 3) := by decide +kernel
theorem d_Wo_isShortName_32 : decode cb_Wo_isShortName 32 = .ok (.istore 5, 2) := by decide +kernel
theorem d_Wo_isShortName_34 : decode cb_Wo_isShortName 34 = .ok (.iload_n 3, 1) := by decide +kernel
theorem d_Wo_isShortName_35 : decode cb_Wo_isShortName 35 = .ok (.ifCond .eq 14, 3) := by decide +kernel
theorem d_Wo_isShortName_38 : decode cb_Wo_isShortName 38 = .ok (.iload 4, 2) := by decide +kernel
theorem d_Wo_isShortName_40 : decode cb_Wo_isShortName 40 = .ok (.bipush 8, 2) := by decide +kernel
theorem d_Wo_isShortName_42 : decode cb_Wo_isShortName 42 = .ok (.if_icmp .eq 7, 3) := by decide +kernel
theorem d_Wo_isShortName_45 : decode cb_Wo_isShortName 45 = .ok (.iconst 1, 1) := by decide +kernel
theorem d_Wo_isShortName_46 : decode cb_Wo_isShortName 46 = .ok (.goto 4, 3) := by decide +kernel
theorem d_Wo_isShortName_49 : decode cb_Wo_isShortName 49 = .ok (.iconst 0, 1) := by decide +kernel
theorem d_Wo_isShortName_50 : decode cb_Wo_isShortName 50 = .ok (.istore_n 3, 1) := by decide +kernel
theorem d_Wo_isShortName_51 : decode cb_Wo_isShortName 51 = .ok (.iload 5, 2) := by decide +kernel
theorem d_Wo_isShortName_53 : decode cb_Wo_isShortName 53 = .ok (.bipush 32, 2) := by decide +kernel
theorem d_Wo_isShortName_55 : decode cb_Wo_isShortName 55 = .ok (.if_icmp .ne 16, 3) := by decide +kernel
theorem d_Wo_isShortName_58 : decode cb_Wo_isShortName 58 = .ok (.iload_n 2, 1) := by decide +kernel
theorem d_Wo_isShortName_59 : decode cb_Wo_isShortName 59 = .ok (.ifCond .ne 7, 3) := by decide +kernel
theorem d_Wo_isShortName_62 : decode cb_Wo_isShortName 62 = .ok (.iconst 1, 1) := by decide +kernel
theorem d_Wo_isShortName_63 : decode cb_Wo_isShortName 63 = .ok (.goto 4, 3) := by decide +kernel
theorem d_Wo_isShortName_66 : decode cb_Wo_isShortName 66 = .ok (.iconst 0, 1) := by decide +kernel
theorem d_Wo_isShortName_67 : decode cb_Wo_isShortName 67 = .ok (.istore_n 3, 1) := by decide +kernel
theorem d_Wo_isShortName_68 : decode cb_Wo_isShortName 68 = .ok (.goto 17, 3) := by decide +kernel
theorem d_Wo_isShortName_71 : decode cb_Wo_isShortName 71 = .ok (.iload_n 3, 1) := by decide +kernel
theorem d_Wo_isShortName_72 : decode cb_Wo_isShortName 72 = .ok (.ifCond .ne 11, 3) := by decide +kernel
theorem d_Wo_isShortName_75 : decode cb_Wo_isShortName 75 = .ok (.iload 5, 2) := by decide +kernel
theorem d_Wo_isShortName_77 : decode cb_Wo_isShortName 77 = .ok (.invokestatic 24, 3) := by decide +kernel
theorem d_Wo_isShortName_80 : decode cb_Wo_isShortName 80 = .ok (.ifCond .ne 5, 3) := by decide +kernel
theorem d_Wo_isShortName_83 : decode cb_Wo_isShortName 83 = .ok (.iconst 0, 1) := by decide +kernel
theorem d_Wo_isShortName_84 : decode cb_Wo_isShortName 84 = .ok (.ireturn, 1) := by decide +kernel
theorem d_Wo_isShortName_85 : decode cb_Wo_isShortName 85 = .ok (.iinc 4 1, 3) := by decide +kernel
theorem d_Wo_isShortName_88 : decode cb_Wo_isShortName 88 = .ok (.goto (-71), 3) := by decide +kernel
theorem d_Wo_isShortName_91 : decode cb_Wo_isShortName 91 = .ok (.iconst 1, 1) := by decide +kernel
theorem d_Wo_isShortName_92 : decode cb_Wo_isShortName 92 = .ok (.ireturn, 1) := by decide +kernel
abbrev cb_Wo_sum : ByteArray := prog_12_method_6_code
def y_Wo_sum : MethodName := ⟨R_Wo, "sum", "(LVolumeTurner$Disk;I)I"⟩
theorem d_Wo_sum_0 : decode cb_Wo_sum 0 = .ok (.iconst 0, 1) := by decide +kernel
theorem d_Wo_sum_1 : decode cb_Wo_sum 1 = .ok (.istore_n 2, 1) := by decide +kernel
theorem d_Wo_sum_2 : decode cb_Wo_sum 2 = .ok (.iconst 0, 1) := by decide +kernel
theorem d_Wo_sum_3 : decode cb_Wo_sum 3 = .ok (.istore_n 3, 1) := by decide +kernel
theorem d_Wo_sum_4 : decode cb_Wo_sum 4 = .ok (.iload_n 3, 1) := by decide +kernel
theorem d_Wo_sum_5 : decode cb_Wo_sum 5 = .ok (.bipush 11, 2) := by decide +kernel
theorem d_Wo_sum_7 : decode cb_Wo_sum 7 = .ok (.if_icmp .ge 33, 3) := by decide +kernel
theorem d_Wo_sum_10 : decode cb_Wo_sum 10 = .ok (.iload_n 2, 1) := by decide +kernel
theorem d_Wo_sum_11 : decode cb_Wo_sum 11 = .ok (.iconst 1, 1) := by decide +kernel
theorem d_Wo_sum_12 : decode cb_Wo_sum 12 = .ok (.iand, 1) := by decide +kernel
theorem d_Wo_sum_13 : decode cb_Wo_sum 13 = .ok (.sipush 128, 3) := by decide +kernel
theorem d_Wo_sum_16 : decode cb_Wo_sum 16 = .ok (.imul, 1) := by decide +kernel
theorem d_Wo_sum_17 : decode cb_Wo_sum 17 = .ok (.iload_n 2, 1) := by decide +kernel
theorem d_Wo_sum_18 : decode cb_Wo_sum 18 = .ok (.iconst 1, 1) := by decide +kernel
theorem d_Wo_sum_19 : decode cb_Wo_sum 19 = .ok (.ishr, 1) := by decide +kernel
theorem d_Wo_sum_20 : decode cb_Wo_sum 20 = .ok (.iadd, 1) := by decide +kernel
theorem d_Wo_sum_21 : decode cb_Wo_sum 21 = .ok (.aload_n 0, 1) := by decide +kernel
theorem d_Wo_sum_22 : decode cb_Wo_sum 22 = .ok (.iload_n 1, 1) := by decide +kernel
theorem d_Wo_sum_23 : decode cb_Wo_sum 23 = .ok (.iload_n 3, 1) := by decide +kernel
theorem d_Wo_sum_24 : decode cb_Wo_sum 24 = .ok (.iadd, 1) := by decide +kernel
theorem d_Wo_sum_25 : decode cb_Wo_sum 25 = .ok (.invokevirtual 18, 3) := by decide +kernel
theorem d_Wo_sum_28 : decode cb_Wo_sum 28 = .ok (.iadd, 1) := by decide +kernel
theorem d_Wo_sum_29 : decode cb_Wo_sum 29 = .ok (.sipush 255, 3) := by decide +kernel
theorem d_Wo_sum_32 : decode cb_Wo_sum 32 = .ok (.iand, 1) := by decide +kernel
theorem d_Wo_sum_33 : decode cb_Wo_sum 33 = .ok (.istore_n 2, 1) := by decide +kernel
theorem d_Wo_sum_34 : decode cb_Wo_sum 34 = .ok (.iinc 3 1, 3) := by decide +kernel
theorem d_Wo_sum_37 : decode cb_Wo_sum 37 = .ok (.goto (-33), 3) := by decide +kernel
theorem d_Wo_sum_40 : decode cb_Wo_sum 40 = .ok (.iload_n 2, 1) := by decide +kernel
theorem d_Wo_sum_41 : decode cb_Wo_sum 41 = .ok (.ireturn, 1) := by decide +kernel
abbrev b_Wo_capital : ByteArray := prog_12_method_7_code
def y_Wo_capital : MethodName := ⟨R_Wo, "capital", "(I)I"⟩
theorem d_Wo_capital_0 : decode b_Wo_capital 0 = .ok (.iload_n 0, 1) := by decide +kernel
theorem d_Wo_capital_1 : decode b_Wo_capital 1 = .ok (.bipush 97, 2) := by decide +kernel
theorem d_Wo_capital_3 : decode b_Wo_capital 3 = .ok (.if_icmp .lt 16, 3) := by decide +kernel
theorem d_Wo_capital_6 : decode b_Wo_capital 6 = .ok (.iload_n 0, 1) := by decide +kernel
theorem d_Wo_capital_7 : decode b_Wo_capital 7 = .ok (.bipush 122, 2) := by decide +kernel
theorem d_Wo_capital_9 : decode b_Wo_capital 9 = .ok (.if_icmp .gt 10, 3) := by decide +kernel
theorem d_Wo_capital_12 : decode b_Wo_capital 12 = .ok (.iload_n 0, 1) := by decide +kernel
theorem d_Wo_capital_13 : decode b_Wo_capital 13 = .ok (.bipush 32, 2) := by decide +kernel
theorem d_Wo_capital_15 : decode b_Wo_capital 15 = .ok (.isub, 1) := by decide +kernel
theorem d_Wo_capital_16 : decode b_Wo_capital 16 = .ok (.goto 4, 3) := by decide +kernel
theorem d_Wo_capital_19 : decode b_Wo_capital 19 = .ok (.iload_n 0, 1) := by decide +kernel
theorem d_Wo_capital_20 : decode b_Wo_capital 20 = .ok (.ireturn, 1) := by decide +kernel
abbrev b_Wo_width : ByteArray := prog_12_method_8_code
def y_Wo_width : MethodName := ⟨R_Wo, "width", "(I)I"⟩
theorem d_Wo_width_0 : decode b_Wo_width 0 = .ok (.iload_n 0, 1) := by decide +kernel
theorem d_Wo_width_1 : decode b_Wo_width 1 = .ok (.sipush 128, 3) := by decide +kernel
theorem d_Wo_width_4 : decode b_Wo_width 4 = .ok (.if_icmp .ge 7, 3) := by decide +kernel
theorem d_Wo_width_7 : decode b_Wo_width 7 = .ok (.iconst 1, 1) := by decide +kernel
theorem d_Wo_width_8 : decode b_Wo_width 8 = .ok (.goto 15, 3) := by decide +kernel
theorem d_Wo_width_11 : decode b_Wo_width 11 = .ok (.iload_n 0, 1) := by decide +kernel
theorem d_Wo_width_12 : decode b_Wo_width 12 = .ok (.sipush 2048, 3) := by decide +kernel
theorem d_Wo_width_15 : decode b_Wo_width 15 = .ok (.if_icmp .ge 7, 3) := by decide +kernel
theorem d_Wo_width_18 : decode b_Wo_width 18 = .ok (.iconst 2, 1) := by decide +kernel
theorem d_Wo_width_19 : decode b_Wo_width 19 = .ok (.goto 4, 3) := by decide +kernel
theorem d_Wo_width_22 : decode b_Wo_width 22 = .ok (.iconst 3, 1) := by decide +kernel
theorem d_Wo_width_23 : decode b_Wo_width 23 = .ok (.ireturn, 1) := by decide +kernel
abbrev b_Wo_byteOf : ByteArray := prog_12_method_9_code
def y_Wo_byteOf : MethodName := ⟨R_Wo, "byteOf", "(II)I"⟩
theorem d_Wo_byteOf_0 : decode b_Wo_byteOf 0 = .ok (.iload_n 0, 1) := by decide +kernel
theorem d_Wo_byteOf_1 : decode b_Wo_byteOf 1 = .ok (.invokestatic 27, 3) := by decide +kernel
theorem d_Wo_byteOf_4 : decode b_Wo_byteOf 4 = .ok (.istore_n 2, 1) := by decide +kernel
theorem d_Wo_byteOf_5 : decode b_Wo_byteOf 5 = .ok (.iload_n 0, 1) := by decide +kernel
theorem d_Wo_byteOf_6 : decode b_Wo_byteOf 6 = .ok (.bipush 6, 2) := by decide +kernel
theorem d_Wo_byteOf_8 : decode b_Wo_byteOf 8 = .ok (.iload_n 2, 1) := by decide +kernel
theorem d_Wo_byteOf_9 : decode b_Wo_byteOf 9 = .ok (.iconst 1, 1) := by decide +kernel
theorem d_Wo_byteOf_10 : decode b_Wo_byteOf 10 = .ok (.isub, 1) := by decide +kernel
theorem d_Wo_byteOf_11 : decode b_Wo_byteOf 11 = .ok (.iload_n 1, 1) := by decide +kernel
theorem d_Wo_byteOf_12 : decode b_Wo_byteOf 12 = .ok (.isub, 1) := by decide +kernel
theorem d_Wo_byteOf_13 : decode b_Wo_byteOf 13 = .ok (.imul, 1) := by decide +kernel
theorem d_Wo_byteOf_14 : decode b_Wo_byteOf 14 = .ok (.ishr, 1) := by decide +kernel
theorem d_Wo_byteOf_15 : decode b_Wo_byteOf 15 = .ok (.istore_n 3, 1) := by decide +kernel
theorem d_Wo_byteOf_16 : decode b_Wo_byteOf 16 = .ok (.iload_n 1, 1) := by decide +kernel
theorem d_Wo_byteOf_17 : decode b_Wo_byteOf 17 = .ok (.ifCond .le 12, 3) := by decide +kernel
theorem d_Wo_byteOf_20 : decode b_Wo_byteOf 20 = .ok (.sipush 128, 3) := by decide +kernel
theorem d_Wo_byteOf_23 : decode b_Wo_byteOf 23 = .ok (.iload_n 3, 1) := by decide +kernel
theorem d_Wo_byteOf_24 : decode b_Wo_byteOf 24 = .ok (.bipush 63, 2) := by decide +kernel
theorem d_Wo_byteOf_26 : decode b_Wo_byteOf 26 = .ok (.iand, 1) := by decide +kernel
theorem d_Wo_byteOf_27 : decode b_Wo_byteOf 27 = .ok (.ior, 1) := by decide +kernel
theorem d_Wo_byteOf_28 : decode b_Wo_byteOf 28 = .ok (.ireturn, 1) := by decide +kernel
theorem d_Wo_byteOf_29 : decode b_Wo_byteOf 29 = .ok (.iload_n 2, 1) := by decide +kernel
theorem d_Wo_byteOf_30 : decode b_Wo_byteOf 30 = .ok (.iconst 1, 1) := by decide +kernel
theorem d_Wo_byteOf_31 : decode b_Wo_byteOf 31 = .ok (.if_icmp .ne 7, 3) := by decide +kernel
theorem d_Wo_byteOf_34 : decode b_Wo_byteOf 34 = .ok (.iload_n 0, 1) := by decide +kernel
theorem d_Wo_byteOf_35 : decode b_Wo_byteOf 35 = .ok (.goto 21, 3) := by decide +kernel
theorem d_Wo_byteOf_38 : decode b_Wo_byteOf 38 = .ok (.iload_n 2, 1) := by decide +kernel
theorem d_Wo_byteOf_39 : decode b_Wo_byteOf 39 = .ok (.iconst 2, 1) := by decide +kernel
theorem d_Wo_byteOf_40 : decode b_Wo_byteOf 40 = .ok (.if_icmp .ne 11, 3) := by decide +kernel
theorem d_Wo_byteOf_43 : decode b_Wo_byteOf 43 = .ok (.sipush 192, 3) := by decide +kernel
theorem d_Wo_byteOf_46 : decode b_Wo_byteOf 46 = .ok (.iload_n 3, 1) := by decide +kernel
theorem d_Wo_byteOf_47 : decode b_Wo_byteOf 47 = .ok (.ior, 1) := by decide +kernel
theorem d_Wo_byteOf_48 : decode b_Wo_byteOf 48 = .ok (.goto 8, 3) := by decide +kernel
theorem d_Wo_byteOf_51 : decode b_Wo_byteOf 51 = .ok (.sipush 224, 3) := by decide +kernel
theorem d_Wo_byteOf_54 : decode b_Wo_byteOf 54 = .ok (.iload_n 3, 1) := by decide +kernel
theorem d_Wo_byteOf_55 : decode b_Wo_byteOf 55 = .ok (.ior, 1) := by decide +kernel
theorem d_Wo_byteOf_56 : decode b_Wo_byteOf 56 = .ok (.ireturn, 1) := by decide +kernel
def K_Wo : List Cond := [(.initialized "VolumeTurner$Words"), (.static y_Wo_isShortName), (.code y_Wo_isShortName prog_12_method_5_code 6 (some .boolean)), (.methodLink "VolumeTurner$Words" 18 y_Dk_one), (.methodLink "VolumeTurner$Words" 24 y_Wo_mayBeShort), (.static y_Wo_mayBeShort), (.code y_Wo_mayBeShort prog_12_method_2_code 1 (some .boolean)), (.static y_Wo_sum), (.code y_Wo_sum prog_12_method_6_code 4 (some .int)), (.static y_Wo_isName), (.code y_Wo_isName prog_12_method_4_code 3 (some .boolean)), (.methodLink "VolumeTurner$Words" 12 y_Wo_mayBeUnit), (.static y_Wo_mayBeUnit), (.code y_Wo_mayBeUnit prog_12_method_3_code 2 (some .boolean)), (.constant "VolumeTurner$Words" 9 (65533 : Int32)), (.constant "VolumeTurner$Words" 10 (55296 : Int32)), (.constant "VolumeTurner$Words" 11 (57343 : Int32)), (.static y_Wo_capital), (.code y_Wo_capital prog_12_method_7_code 1 (some .int)), (.static y_Wo_width), (.code y_Wo_width prog_12_method_8_code 1 (some .int)), (.static y_Wo_byteOf), (.code y_Wo_byteOf prog_12_method_9_code 4 (some .int)), (.methodLink "VolumeTurner$Words" 27 y_Wo_width)]
theorem j_Wo_0 : (.initialized "VolumeTurner$Words") ∈ K_Wo := List.mem_of_getElem? (i := 0) rfl
theorem j_Wo_1 : (.static y_Wo_isShortName) ∈ K_Wo := List.mem_of_getElem? (i := 1) rfl
theorem j_Wo_2 : (.code y_Wo_isShortName prog_12_method_5_code 6 (some .boolean)) ∈ K_Wo := List.mem_of_getElem? (i := 2) rfl
theorem j_Wo_3 : (.methodLink "VolumeTurner$Words" 18 y_Dk_one) ∈ K_Wo := List.mem_of_getElem? (i := 3) rfl
theorem j_Wo_4 : (.methodLink "VolumeTurner$Words" 24 y_Wo_mayBeShort) ∈ K_Wo := List.mem_of_getElem? (i := 4) rfl
theorem j_Wo_5 : (.static y_Wo_mayBeShort) ∈ K_Wo := List.mem_of_getElem? (i := 5) rfl
theorem j_Wo_6 : (.code y_Wo_mayBeShort prog_12_method_2_code 1 (some .boolean)) ∈ K_Wo := List.mem_of_getElem? (i := 6) rfl
theorem j_Wo_7 : (.static y_Wo_sum) ∈ K_Wo := List.mem_of_getElem? (i := 7) rfl
theorem j_Wo_8 : (.code y_Wo_sum prog_12_method_6_code 4 (some .int)) ∈ K_Wo := List.mem_of_getElem? (i := 8) rfl
theorem j_Wo_9 : (.static y_Wo_isName) ∈ K_Wo := List.mem_of_getElem? (i := 9) rfl
theorem j_Wo_10 : (.code y_Wo_isName prog_12_method_4_code 3 (some .boolean)) ∈ K_Wo := List.mem_of_getElem? (i := 10) rfl
theorem j_Wo_11 : (.methodLink "VolumeTurner$Words" 12 y_Wo_mayBeUnit) ∈ K_Wo := List.mem_of_getElem? (i := 11) rfl
theorem j_Wo_12 : (.static y_Wo_mayBeUnit) ∈ K_Wo := List.mem_of_getElem? (i := 12) rfl
theorem j_Wo_13 : (.code y_Wo_mayBeUnit prog_12_method_3_code 2 (some .boolean)) ∈ K_Wo := List.mem_of_getElem? (i := 13) rfl
theorem j_Wo_14 : (.constant "VolumeTurner$Words" 9 (65533 : Int32)) ∈ K_Wo := List.mem_of_getElem? (i := 14) rfl
theorem j_Wo_15 : (.constant "VolumeTurner$Words" 10 (55296 : Int32)) ∈ K_Wo := List.mem_of_getElem? (i := 15) rfl
theorem j_Wo_16 : (.constant "VolumeTurner$Words" 11 (57343 : Int32)) ∈ K_Wo := List.mem_of_getElem? (i := 16) rfl
theorem j_Wo_17 : (.static y_Wo_capital) ∈ K_Wo := List.mem_of_getElem? (i := 17) rfl
theorem j_Wo_18 : (.code y_Wo_capital prog_12_method_7_code 1 (some .int)) ∈ K_Wo := List.mem_of_getElem? (i := 18) rfl
theorem j_Wo_19 : (.static y_Wo_width) ∈ K_Wo := List.mem_of_getElem? (i := 19) rfl
theorem j_Wo_20 : (.code y_Wo_width prog_12_method_8_code 1 (some .int)) ∈ K_Wo := List.mem_of_getElem? (i := 20) rfl
theorem j_Wo_21 : (.static y_Wo_byteOf) ∈ K_Wo := List.mem_of_getElem? (i := 21) rfl
theorem j_Wo_22 : (.code y_Wo_byteOf prog_12_method_9_code 4 (some .int)) ∈ K_Wo := List.mem_of_getElem? (i := 22) rfl
theorem j_Wo_23 : (.methodLink "VolumeTurner$Words" 27 y_Wo_width) ∈ K_Wo := List.mem_of_getElem? (i := 23) rfl
def V_Wo : List Cond := w_Wo ++ (K_Wo ++ V_Dk)
theorem kk_Wo : ∀ w ∈ K_Wo, w ∈ V_Wo := fun _ h => List.mem_append_right _ (List.mem_append_left _ h)
theorem u_Wo_Dk : ∀ w ∈ V_Dk, w ∈ V_Wo := fun _ h => List.mem_append_right _ (List.mem_append_right _ h)
theorem u_Wo_J : ∀ w ∈ V_J, w ∈ V_Wo := fun w h => u_Wo_Dk w (u_Dk_J w h)
theorem k_Wo_0 : (.initialized "VolumeTurner$Words") ∈ V_Wo := kk_Wo _ j_Wo_0
theorem k_Wo_1 : (.static y_Wo_isShortName) ∈ V_Wo := kk_Wo _ j_Wo_1
theorem k_Wo_2 : (.code y_Wo_isShortName prog_12_method_5_code 6 (some .boolean)) ∈ V_Wo := kk_Wo _ j_Wo_2
theorem k_Wo_3 : (.methodLink "VolumeTurner$Words" 18 y_Dk_one) ∈ V_Wo := kk_Wo _ j_Wo_3
theorem k_Wo_4 : (.methodLink "VolumeTurner$Words" 24 y_Wo_mayBeShort) ∈ V_Wo := kk_Wo _ j_Wo_4
theorem k_Wo_5 : (.static y_Wo_mayBeShort) ∈ V_Wo := kk_Wo _ j_Wo_5
theorem k_Wo_6 : (.code y_Wo_mayBeShort prog_12_method_2_code 1 (some .boolean)) ∈ V_Wo := kk_Wo _ j_Wo_6
theorem k_Wo_7 : (.static y_Wo_sum) ∈ V_Wo := kk_Wo _ j_Wo_7
theorem k_Wo_8 : (.code y_Wo_sum prog_12_method_6_code 4 (some .int)) ∈ V_Wo := kk_Wo _ j_Wo_8
theorem k_Wo_9 : (.static y_Wo_isName) ∈ V_Wo := kk_Wo _ j_Wo_9
theorem k_Wo_10 : (.code y_Wo_isName prog_12_method_4_code 3 (some .boolean)) ∈ V_Wo := kk_Wo _ j_Wo_10
theorem k_Wo_11 : (.methodLink "VolumeTurner$Words" 12 y_Wo_mayBeUnit) ∈ V_Wo := kk_Wo _ j_Wo_11
theorem k_Wo_12 : (.static y_Wo_mayBeUnit) ∈ V_Wo := kk_Wo _ j_Wo_12
theorem k_Wo_13 : (.code y_Wo_mayBeUnit prog_12_method_3_code 2 (some .boolean)) ∈ V_Wo := kk_Wo _ j_Wo_13
theorem k_Wo_14 : (.constant "VolumeTurner$Words" 9 (65533 : Int32)) ∈ V_Wo := kk_Wo _ j_Wo_14
theorem k_Wo_15 : (.constant "VolumeTurner$Words" 10 (55296 : Int32)) ∈ V_Wo := kk_Wo _ j_Wo_15
theorem k_Wo_16 : (.constant "VolumeTurner$Words" 11 (57343 : Int32)) ∈ V_Wo := kk_Wo _ j_Wo_16
theorem k_Wo_17 : (.static y_Wo_capital) ∈ V_Wo := kk_Wo _ j_Wo_17
theorem k_Wo_18 : (.code y_Wo_capital prog_12_method_7_code 1 (some .int)) ∈ V_Wo := kk_Wo _ j_Wo_18
theorem k_Wo_19 : (.static y_Wo_width) ∈ V_Wo := kk_Wo _ j_Wo_19
theorem k_Wo_20 : (.code y_Wo_width prog_12_method_8_code 1 (some .int)) ∈ V_Wo := kk_Wo _ j_Wo_20
theorem k_Wo_21 : (.static y_Wo_byteOf) ∈ V_Wo := kk_Wo _ j_Wo_21
theorem k_Wo_22 : (.code y_Wo_byteOf prog_12_method_9_code 4 (some .int)) ∈ V_Wo := kk_Wo _ j_Wo_22
theorem k_Wo_23 : (.methodLink "VolumeTurner$Words" 27 y_Wo_width) ∈ V_Wo := kk_Wo _ j_Wo_23
theorem gk_Wo : ∀ w ∈ w_Wo ++ K_Wo, goodWord w = true := List.all_eq_true.mp (by decide +kernel)
theorem good_Wo : GoodIn V_Wo V_Wo := fun w h => by
  refine ⟨h, ?_⟩
  rcases List.mem_append.mp h with q | q
  · exact good_of_word (gk_Wo w (List.mem_append_left _ q))
  · rcases List.mem_append.mp q with q | q
    · exact good_of_word (gk_Wo w (List.mem_append_right _ q))
    · exact (good_Dk w q).2
abbrev b_Da_isDay : ByteArray := prog_2_method_2_code
def y_Da_isDay : MethodName := ⟨R_Da, "isDay", "(I)Z"⟩
theorem d_Da_isDay_0 : decode b_Da_isDay 0 = .ok (.iload_n 0, 1) := by decide +kernel
theorem d_Da_isDay_1 : decode b_Da_isDay 1 = .ok (.iconst 5, 1) := by decide +kernel
theorem d_Da_isDay_2 : decode b_Da_isDay 2 = .ok (.ishr, 1) := by decide +kernel
theorem d_Da_isDay_3 : decode b_Da_isDay 3 = .ok (.bipush 15, 2) := by decide +kernel
theorem d_Da_isDay_5 : decode b_Da_isDay 5 = .ok (.iand, 1) := by decide +kernel
theorem d_Da_isDay_6 : decode b_Da_isDay 6 = .ok (.istore_n 1, 1) := by decide +kernel
theorem d_Da_isDay_7 : decode b_Da_isDay 7 = .ok (.iload_n 0, 1) := by decide +kernel
theorem d_Da_isDay_8 : decode b_Da_isDay 8 = .ok (.ifCond .lt 20, 3) := by decide +kernel
theorem d_Da_isDay_11 : decode b_Da_isDay 11 = .ok (.iload_n 0, 1) := by decide +kernel
theorem d_Da_isDay_12 : decode b_Da_isDay 12 = .ok (.ldc 9, 2) := by decide +kernel
theorem d_Da_isDay_14 : decode b_Da_isDay 14 = .ok (.if_icmp .gt 14, 3) := by decide +kernel
theorem d_Da_isDay_17 : decode b_Da_isDay 17 = .ok (.iload_n 1, 1) := by decide +kernel
theorem d_Da_isDay_18 : decode b_Da_isDay 18 = .ok (.iconst 1, 1) := by decide +kernel
theorem d_Da_isDay_19 : decode b_Da_isDay 19 = .ok (.if_icmp .lt 9, 3) := by decide +kernel
theorem d_Da_isDay_22 : decode b_Da_isDay 22 = .ok (.iload_n 1, 1) := by decide +kernel
theorem d_Da_isDay_23 : decode b_Da_isDay 23 = .ok (.bipush 12, 2) := by decide +kernel
theorem d_Da_isDay_25 : decode b_Da_isDay 25 = .ok (.if_icmp .le 5, 3) := by decide +kernel
theorem d_Da_isDay_28 : decode b_Da_isDay 28 = .ok (.iconst 0, 1) := by decide +kernel
theorem d_Da_isDay_29 : decode b_Da_isDay 29 = .ok (.ireturn, 1) := by decide +kernel
theorem d_Da_isDay_30 : decode b_Da_isDay 30 = .ok (.sipush 1980, 3) := by decide +kernel
theorem d_Da_isDay_33 : decode b_Da_isDay 33 = .ok (.iload_n 0, 1) := by decide +kernel
theorem d_Da_isDay_34 : decode b_Da_isDay 34 = .ok (.bipush 9, 2) := by decide +kernel
theorem d_Da_isDay_36 : decode b_Da_isDay 36 = .ok (.ishr, 1) := by decide +kernel
theorem d_Da_isDay_37 : decode b_Da_isDay 37 = .ok (.iadd, 1) := by decide +kernel
theorem d_Da_isDay_38 : decode b_Da_isDay 38 = .ok (.istore_n 2, 1) := by decide +kernel
theorem d_Da_isDay_39 : decode b_Da_isDay 39 = .ok (.iload_n 2, 1) := by decide +kernel
theorem d_Da_isDay_40 : decode b_Da_isDay 40 = .ok (.iconst 4, 1) := by decide +kernel
theorem d_Da_isDay_41 : decode b_Da_isDay 41 = .ok (.irem, 1) := by decide +kernel
theorem d_Da_isDay_42 : decode b_Da_isDay 42 = .ok (.ifCond .ne 22, 3) := by decide +kernel
theorem d_Da_isDay_45 : decode b_Da_isDay 45 = .ok (.iload_n 2, 1) := by decide +kernel
theorem d_Da_isDay_46 : decode b_Da_isDay 46 = .ok (.bipush 100, 2) := by decide +kernel
theorem d_Da_isDay_48 : decode b_Da_isDay 48 = .ok (.irem, 1) := by decide +kernel
theorem d_Da_isDay_49 : decode b_Da_isDay 49 = .ok (.ifCond .ne 11, 3) := by decide +kernel
theorem d_Da_isDay_52 : decode b_Da_isDay 52 = .ok (.iload_n 2, 1) := by decide +kernel
theorem d_Da_isDay_53 : decode b_Da_isDay 53 = .ok (.sipush 400, 3) := by decide +kernel
theorem d_Da_isDay_56 : decode b_Da_isDay 56 = .ok (.irem, 1) := by decide +kernel
theorem d_Da_isDay_57 : decode b_Da_isDay 57 = .ok (.ifCond .ne 7, 3) := by decide +kernel
theorem d_Da_isDay_60 : decode b_Da_isDay 60 = .ok (.iconst 1, 1) := by decide +kernel
theorem d_Da_isDay_61 : decode b_Da_isDay 61 = .ok (.goto 4, 3) := by decide +kernel
theorem d_Da_isDay_64 : decode b_Da_isDay 64 = .ok (.iconst 0, 1) := by decide +kernel
theorem d_Da_isDay_65 : decode b_Da_isDay 65 = .ok (.istore_n 3, 1) := by decide +kernel
theorem d_Da_isDay_66 : decode b_Da_isDay 66 = .ok (.getstatic 10, 3) := by decide +kernel
theorem d_Da_isDay_69 : decode b_Da_isDay 69 = .ok (.iload_n 1, 1) := by decide +kernel
theorem d_Da_isDay_70 : decode b_Da_isDay 70 = .ok (.iaload, 1) := by decide +kernel
theorem d_Da_isDay_71 : decode b_Da_isDay 71 = .ok (.getstatic 10, 3) := by decide +kernel
theorem d_Da_isDay_74 : decode b_Da_isDay 74 = .ok (.iload_n 1, 1) := by decide +kernel
theorem d_Da_isDay_75 : decode b_Da_isDay 75 = .ok (.iconst 1, 1) := by decide +kernel
theorem d_Da_isDay_76 : decode b_Da_isDay 76 = .ok (.isub, 1) := by decide +kernel
theorem d_Da_isDay_77 : decode b_Da_isDay 77 = .ok (.iaload, 1) := by decide +kernel
theorem d_Da_isDay_78 : decode b_Da_isDay 78 = .ok (.isub, 1) := by decide +kernel
theorem d_Da_isDay_79 : decode b_Da_isDay 79 = .ok (.iload_n 3, 1) := by decide +kernel
theorem d_Da_isDay_80 : decode b_Da_isDay 80 = .ok (.ifCond .eq 12, 3) := by decide +kernel
theorem d_Da_isDay_83 : decode b_Da_isDay 83 = .ok (.iload_n 1, 1) := by decide +kernel
theorem d_Da_isDay_84 : decode b_Da_isDay 84 = .ok (.iconst 2, 1) := by decide +kernel
theorem d_Da_isDay_85 : decode b_Da_isDay 85 = .ok (.if_icmp .ne 7, 3) := by decide +kernel
theorem d_Da_isDay_88 : decode b_Da_isDay 88 = .ok (.iconst 1, 1) := by decide +kernel
theorem d_Da_isDay_89 : decode b_Da_isDay 89 = .ok (.goto 4, 3) := by decide +kernel
theorem d_Da_isDay_92 : decode b_Da_isDay 92 = .ok (.iconst 0, 1) := by decide +kernel
theorem d_Da_isDay_93 : decode b_Da_isDay 93 = .ok (.iadd, 1) := by decide +kernel
theorem d_Da_isDay_94 : decode b_Da_isDay 94 = .ok (.istore 4, 2) := by decide +kernel
theorem d_Da_isDay_96 : decode b_Da_isDay 96 = .ok (.iload_n 0, 1) := by decide +kernel
theorem d_Da_isDay_97 : decode b_Da_isDay 97 = .ok (.bipush 31, 2) := by decide +kernel
theorem d_Da_isDay_99 : decode b_Da_isDay 99 = .ok (.iand, 1) := by decide +kernel
theorem d_Da_isDay_100 : decode b_Da_isDay 100 = .ok (.iconst 1, 1) := by decide +kernel
theorem d_Da_isDay_101 : decode b_Da_isDay 101 = .ok (.if_icmp .lt 16, 3) := by decide +kernel
theorem d_Da_isDay_104 : decode b_Da_isDay 104 = .ok (.iload_n 0, 1) := by decide +kernel
theorem d_Da_isDay_105 : decode b_Da_isDay 105 = .ok (.bipush 31, 2) := by decide +kernel
theorem d_Da_isDay_107 : decode b_Da_isDay 107 = .ok (.iand, 1) := by decide +kernel
theorem d_Da_isDay_108 : decode b_Da_isDay 108 = .ok (.iload 4, 2) := by decide +kernel
theorem d_Da_isDay_110 : decode b_Da_isDay 110 = .ok (.if_icmp .gt 7, 3) := by decide +kernel
theorem d_Da_isDay_113 : decode b_Da_isDay 113 = .ok (.iconst 1, 1) := by decide +kernel
theorem d_Da_isDay_114 : decode b_Da_isDay 114 = .ok (.goto 4, 3) := by decide +kernel
theorem d_Da_isDay_117 : decode b_Da_isDay 117 = .ok (.iconst 0, 1) := by decide +kernel
theorem d_Da_isDay_118 : decode b_Da_isDay 118 = .ok (.ireturn, 1) := by decide +kernel
abbrev b_Da_isTime : ByteArray := prog_2_method_3_code
def y_Da_isTime : MethodName := ⟨R_Da, "isTime", "(I)Z"⟩
theorem d_Da_isTime_0 : decode b_Da_isTime 0 = .ok (.iload_n 0, 1) := by decide +kernel
theorem d_Da_isTime_1 : decode b_Da_isTime 1 = .ok (.ifCond .lt 36, 3) := by decide +kernel
theorem d_Da_isTime_4 : decode b_Da_isTime 4 = .ok (.iload_n 0, 1) := by decide +kernel
theorem d_Da_isTime_5 : decode b_Da_isTime 5 = .ok (.bipush 11, 2) := by decide +kernel
theorem d_Da_isTime_7 : decode b_Da_isTime 7 = .ok (.ishr, 1) := by decide +kernel
theorem d_Da_isTime_8 : decode b_Da_isTime 8 = .ok (.bipush 24, 2) := by decide +kernel
theorem d_Da_isTime_10 : decode b_Da_isTime 10 = .ok (.if_icmp .ge 27, 3) := by decide +kernel
theorem d_Da_isTime_13 : decode b_Da_isTime 13 = .ok (.iload_n 0, 1) := by decide +kernel
theorem d_Da_isTime_14 : decode b_Da_isTime 14 = .ok (.iconst 5, 1) := by decide +kernel
theorem d_Da_isTime_15 : decode b_Da_isTime 15 = .ok (.ishr, 1) := by decide +kernel
theorem d_Da_isTime_16 : decode b_Da_isTime 16 = .ok (.bipush 63, 2) := by decide +kernel
theorem d_Da_isTime_18 : decode b_Da_isTime 18 = .ok (.iand, 1) := by decide +kernel
theorem d_Da_isTime_19 : decode b_Da_isTime 19 = .ok (.bipush 60, 2) := by decide +kernel
theorem d_Da_isTime_21 : decode b_Da_isTime 21 = .ok (.if_icmp .ge 16, 3) := by decide +kernel
theorem d_Da_isTime_24 : decode b_Da_isTime 24 = .ok (.iload_n 0, 1) := by decide +kernel
theorem d_Da_isTime_25 : decode b_Da_isTime 25 = .ok (.bipush 31, 2) := by decide +kernel
theorem d_Da_isTime_27 : decode b_Da_isTime 27 = .ok (.iand, 1) := by decide +kernel
theorem d_Da_isTime_28 : decode b_Da_isTime 28 = .ok (.bipush 30, 2) := by decide +kernel
theorem d_Da_isTime_30 : decode b_Da_isTime 30 = .ok (.if_icmp .ge 7, 3) := by decide +kernel
theorem d_Da_isTime_33 : decode b_Da_isTime 33 = .ok (.iconst 1, 1) := by decide +kernel
theorem d_Da_isTime_34 : decode b_Da_isTime 34 = .ok (.goto 4, 3) := by decide +kernel
theorem d_Da_isTime_37 : decode b_Da_isTime 37 = .ok (.iconst 0, 1) := by decide +kernel
theorem d_Da_isTime_38 : decode b_Da_isTime 38 = .ok (.ireturn, 1) := by decide +kernel
abbrev b_Da_madeFits : ByteArray := prog_2_method_4_code
def y_Da_madeFits : MethodName := ⟨R_Da, "madeFits", "(III)Z"⟩
theorem d_Da_madeFits_0 : decode b_Da_madeFits 0 = .ok (.iload_n 0, 1) := by decide +kernel
theorem d_Da_madeFits_1 : decode b_Da_madeFits 1 = .ok (.ifCond .ne 17, 3) := by decide +kernel
theorem d_Da_madeFits_4 : decode b_Da_madeFits 4 = .ok (.iload_n 1, 1) := by decide +kernel
theorem d_Da_madeFits_5 : decode b_Da_madeFits 5 = .ok (.ifCond .ne 11, 3) := by decide +kernel
theorem d_Da_madeFits_8 : decode b_Da_madeFits 8 = .ok (.iload_n 2, 1) := by decide +kernel
theorem d_Da_madeFits_9 : decode b_Da_madeFits 9 = .ok (.ifCond .ne 7, 3) := by decide +kernel
theorem d_Da_madeFits_12 : decode b_Da_madeFits 12 = .ok (.iconst 1, 1) := by decide +kernel
theorem d_Da_madeFits_13 : decode b_Da_madeFits 13 = .ok (.goto 4, 3) := by decide +kernel
theorem d_Da_madeFits_16 : decode b_Da_madeFits 16 = .ok (.iconst 0, 1) := by decide +kernel
theorem d_Da_madeFits_17 : decode b_Da_madeFits 17 = .ok (.ireturn, 1) := by decide +kernel
theorem d_Da_madeFits_18 : decode b_Da_madeFits 18 = .ok (.iload_n 0, 1) := by decide +kernel
theorem d_Da_madeFits_19 : decode b_Da_madeFits 19 = .ok (.invokestatic 16, 3) := by decide +kernel
theorem d_Da_madeFits_22 : decode b_Da_madeFits 22 = .ok (.ifCond .eq 25, 3) := by decide +kernel
theorem d_Da_madeFits_25 : decode b_Da_madeFits 25 = .ok (.iload_n 1, 1) := by decide +kernel
theorem d_Da_madeFits_26 : decode b_Da_madeFits 26 = .ok (.invokestatic 20, 3) := by decide +kernel
theorem d_Da_madeFits_29 : decode b_Da_madeFits 29 = .ok (.ifCond .eq 18, 3) := by decide +kernel
theorem d_Da_madeFits_32 : decode b_Da_madeFits 32 = .ok (.iload_n 2, 1) := by decide +kernel
theorem d_Da_madeFits_33 : decode b_Da_madeFits 33 = .ok (.ifCond .lt 14, 3) := by decide +kernel
theorem d_Da_madeFits_36 : decode b_Da_madeFits 36 = .ok (.iload_n 2, 1) := by decide +kernel
theorem d_Da_madeFits_37 : decode b_Da_madeFits 37 = .ok (.sipush 200, 3) := by decide +kernel
theorem d_Da_madeFits_40 : decode b_Da_madeFits 40 = .ok (.if_icmp .ge 7, 3) := by decide +kernel
theorem d_Da_madeFits_43 : decode b_Da_madeFits 43 = .ok (.iconst 1, 1) := by decide +kernel
theorem d_Da_madeFits_44 : decode b_Da_madeFits 44 = .ok (.goto 4, 3) := by decide +kernel
theorem d_Da_madeFits_47 : decode b_Da_madeFits 47 = .ok (.iconst 0, 1) := by decide +kernel
theorem d_Da_madeFits_48 : decode b_Da_madeFits 48 = .ok (.ireturn, 1) := by decide +kernel
abbrev b_Da_readFits : ByteArray := prog_2_method_5_code
def y_Da_readFits : MethodName := ⟨R_Da, "readFits", "(I)Z"⟩
theorem d_Da_readFits_0 : decode b_Da_readFits 0 = .ok (.iload_n 0, 1) := by decide +kernel
theorem d_Da_readFits_1 : decode b_Da_readFits 1 = .ok (.ifCond .eq 10, 3) := by decide +kernel
theorem d_Da_readFits_4 : decode b_Da_readFits 4 = .ok (.iload_n 0, 1) := by decide +kernel
theorem d_Da_readFits_5 : decode b_Da_readFits 5 = .ok (.invokestatic 16, 3) := by decide +kernel
theorem d_Da_readFits_8 : decode b_Da_readFits 8 = .ok (.ifCond .eq 7, 3) := by decide +kernel
theorem d_Da_readFits_11 : decode b_Da_readFits 11 = .ok (.iconst 1, 1) := by decide +kernel
theorem d_Da_readFits_12 : decode b_Da_readFits 12 = .ok (.goto 4, 3) := by decide +kernel
theorem d_Da_readFits_15 : decode b_Da_readFits 15 = .ok (.iconst 0, 1) := by decide +kernel
theorem d_Da_readFits_16 : decode b_Da_readFits 16 = .ok (.ireturn, 1) := by decide +kernel
abbrev cb_Da_fit : ByteArray := prog_2_method_6_code
def y_Da_fit : MethodName := ⟨R_Da, "fit", "(LVolumeTurner$Disk;I)Z"⟩
theorem d_Da_fit_0 : decode cb_Da_fit 0 = .ok (.aload_n 0, 1) := by decide +kernel
theorem d_Da_fit_1 : decode cb_Da_fit 1 = .ok (.iload_n 1, 1) := by decide +kernel
theorem d_Da_fit_2 : decode cb_Da_fit 2 = .ok (.bipush 16, 2) := by decide +kernel
theorem d_Da_fit_4 : decode cb_Da_fit 4 = .ok (.iadd, 1) := by decide +kernel
theorem d_Da_fit_5 : decode cb_Da_fit 5 = .ok (.invokevirtual 23, 3) := by decide +kernel
theorem d_Da_fit_8 : decode cb_Da_fit 8 = .ok (.aload_n 0, 1) := by decide +kernel
theorem d_Da_fit_9 : decode cb_Da_fit 9 = .ok (.iload_n 1, 1) := by decide +kernel
theorem d_Da_fit_10 : decode cb_Da_fit 10 = .ok (.bipush 14, 2) := by decide +kernel
theorem d_Da_fit_12 : decode cb_Da_fit 12 = .ok (.iadd, 1) := by decide +kernel
theorem d_Da_fit_13 : decode cb_Da_fit 13 = .ok (.invokevirtual 23, 3) := by decide +kernel
theorem d_Da_fit_16 : decode cb_Da_fit 16 = .ok (.aload_n 0, 1) := by decide +kernel
theorem d_Da_fit_17 : decode cb_Da_fit 17 = .ok (.iload_n 1, 1) := by decide +kernel
theorem d_Da_fit_18 : decode cb_Da_fit 18 = .ok (.bipush 13, 2) := by decide +kernel
theorem d_Da_fit_20 : decode cb_Da_fit 20 = .ok (.iadd, 1) := by decide +kernel
theorem d_Da_fit_21 : decode cb_Da_fit 21 = .ok (.invokevirtual 29, 3) := by decide +kernel
theorem d_Da_fit_24 : decode cb_Da_fit 24 = .ok (.invokestatic 32, 3) := by decide +kernel
theorem d_Da_fit_27 : decode cb_Da_fit 27 = .ok (.ifCond .eq 49, 3) := by decide +kernel
theorem d_Da_fit_30 : decode cb_Da_fit 30 = .ok (.aload_n 0, 1) := by decide +kernel
theorem d_Da_fit_31 : decode cb_Da_fit 31 = .ok (.iload_n 1, 1) := by decide +kernel
theorem d_Da_fit_32 : decode cb_Da_fit 32 = .ok (.bipush 18, 2) := by decide +kernel
theorem d_Da_fit_34 : decode cb_Da_fit 34 = .ok (.iadd, 1) := by decide +kernel
theorem d_Da_fit_35 : decode cb_Da_fit 35 = .ok (.invokevirtual 23, 3) := by decide +kernel
theorem d_Da_fit_38 : decode cb_Da_fit 38 = .ok (.invokestatic 36, 3) := by decide +kernel
theorem d_Da_fit_41 : decode cb_Da_fit 41 = .ok (.ifCond .eq 35, 3) := by decide +kernel
theorem d_Da_fit_44 : decode cb_Da_fit 44 = .ok (.aload_n 0, 1) := by decide +kernel
theorem d_Da_fit_45 : decode cb_Da_fit 45 = .ok (.iload_n 1, 1) := by decide +kernel
theorem d_Da_fit_46 : decode cb_Da_fit 46 = .ok (.bipush 24, 2) := by decide +kernel
theorem d_Da_fit_48 : decode cb_Da_fit 48 = .ok (.iadd, 1) := by decide +kernel
theorem d_Da_fit_49 : decode cb_Da_fit 49 = .ok (.invokevirtual 23, 3) := by decide +kernel
theorem d_Da_fit_52 : decode cb_Da_fit 52 = .ok (.invokestatic 16, 3) := by decide +kernel
theorem d_Da_fit_55 : decode cb_Da_fit 55 = .ok (.ifCond .eq 21, 3) := by decide +kernel
theorem d_Da_fit_58 : decode cb_Da_fit 58 = .ok (.aload_n 0, 1) := by decide +kernel
theorem d_Da_fit_59 : decode cb_Da_fit 59 = .ok (.iload_n 1, 1) := by decide +kernel
theorem d_Da_fit_60 : decode cb_Da_fit 60 = .ok (.bipush 22, 2) := by decide +kernel
theorem d_Da_fit_62 : decode cb_Da_fit 62 = .ok (.iadd, 1) := by decide +kernel
theorem d_Da_fit_63 : decode cb_Da_fit 63 = .ok (.invokevirtual 23, 3) := by decide +kernel
theorem d_Da_fit_66 : decode cb_Da_fit 66 = .ok (.invokestatic 20, 3) := by decide +kernel
theorem d_Da_fit_69 : decode cb_Da_fit 69 = .ok (.ifCond .eq 7, 3) := by decide +kernel
theorem d_Da_fit_72 : decode cb_Da_fit 72 = .ok (.iconst 1, 1) := by decide +kernel
theorem d_Da_fit_73 : decode cb_Da_fit 73 = .ok (.goto 4, 3) := by decide +kernel
theorem d_Da_fit_76 : decode cb_Da_fit 76 = .ok (.iconst 0, 1) := by decide +kernel
theorem d_Da_fit_77 : decode cb_Da_fit 77 = .ok (.ireturn, 1) := by decide +kernel
abbrev cb_Da_wouldFit : ByteArray := prog_2_method_7_code
def y_Da_wouldFit : MethodName := ⟨R_Da, "wouldFit", "(LVolumeTurner$Disk;IIII)Z"⟩
theorem d_Da_wouldFit_0 : decode cb_Da_wouldFit 0 = .ok (.iload_n 2, 1) := by decide +kernel
theorem d_Da_wouldFit_1 : decode cb_Da_wouldFit 1 = .ok (.tableswitch 128 0 4 #[35, 50, 68, 89, 111], 35) := by decide +kernel
theorem d_Da_wouldFit_36 : decode cb_Da_wouldFit 36 = .ok (.iload_n 3, 1) := by decide +kernel
theorem d_Da_wouldFit_37 : decode cb_Da_wouldFit 37 = .ok (.iload 4, 2) := by decide +kernel
theorem d_Da_wouldFit_39 : decode cb_Da_wouldFit 39 = .ok (.aload_n 0, 1) := by decide +kernel
theorem d_Da_wouldFit_40 : decode cb_Da_wouldFit 40 = .ok (.iload_n 1, 1) := by decide +kernel
theorem d_Da_wouldFit_41 : decode cb_Da_wouldFit 41 = .ok (.bipush 13, 2) := by decide +kernel
theorem d_Da_wouldFit_43 : decode cb_Da_wouldFit 43 = .ok (.iadd, 1) := by decide +kernel
theorem d_Da_wouldFit_44 : decode cb_Da_wouldFit 44 = .ok (.invokevirtual 29, 3) := by decide +kernel
theorem d_Da_wouldFit_47 : decode cb_Da_wouldFit 47 = .ok (.invokestatic 32, 3) := by decide +kernel
theorem d_Da_wouldFit_50 : decode cb_Da_wouldFit 50 = .ok (.ireturn, 1) := by decide +kernel
theorem d_Da_wouldFit_51 : decode cb_Da_wouldFit 51 = .ok (.iload_n 3, 1) := by decide +kernel
theorem d_Da_wouldFit_52 : decode cb_Da_wouldFit 52 = .ok (.invokestatic 36, 3) := by decide +kernel
theorem d_Da_wouldFit_55 : decode cb_Da_wouldFit 55 = .ok (.ifCond .eq 12, 3) := by decide +kernel
theorem d_Da_wouldFit_58 : decode cb_Da_wouldFit 58 = .ok (.iload 4, 2) := by decide +kernel
theorem d_Da_wouldFit_60 : decode cb_Da_wouldFit 60 = .ok (.ifCond .ne 7, 3) := by decide +kernel
theorem d_Da_wouldFit_63 : decode cb_Da_wouldFit 63 = .ok (.iconst 1, 1) := by decide +kernel
theorem d_Da_wouldFit_64 : decode cb_Da_wouldFit 64 = .ok (.goto 4, 3) := by decide +kernel
theorem d_Da_wouldFit_67 : decode cb_Da_wouldFit 67 = .ok (.iconst 0, 1) := by decide +kernel
theorem d_Da_wouldFit_68 : decode cb_Da_wouldFit 68 = .ok (.ireturn, 1) := by decide +kernel
theorem d_Da_wouldFit_69 : decode cb_Da_wouldFit 69 = .ok (.iload_n 3, 1) := by decide +kernel
theorem d_Da_wouldFit_70 : decode cb_Da_wouldFit 70 = .ok (.invokestatic 16, 3) := by decide +kernel
theorem d_Da_wouldFit_73 : decode cb_Da_wouldFit 73 = .ok (.ifCond .eq 15, 3) := by decide +kernel
theorem d_Da_wouldFit_76 : decode cb_Da_wouldFit 76 = .ok (.iload 4, 2) := by decide +kernel
theorem d_Da_wouldFit_78 : decode cb_Da_wouldFit 78 = .ok (.invokestatic 20, 3) := by decide +kernel
theorem d_Da_wouldFit_81 : decode cb_Da_wouldFit 81 = .ok (.ifCond .eq 7, 3) := by decide +kernel
theorem d_Da_wouldFit_84 : decode cb_Da_wouldFit 84 = .ok (.iconst 1, 1) := by decide +kernel
theorem d_Da_wouldFit_85 : decode cb_Da_wouldFit 85 = .ok (.goto 4, 3) := by decide +kernel
theorem d_Da_wouldFit_88 : decode cb_Da_wouldFit 88 = .ok (.iconst 0, 1) := by decide +kernel
theorem d_Da_wouldFit_89 : decode cb_Da_wouldFit 89 = .ok (.ireturn, 1) := by decide +kernel
theorem d_Da_wouldFit_90 : decode cb_Da_wouldFit 90 = .ok (.aload_n 0, 1) := by decide +kernel
theorem d_Da_wouldFit_91 : decode cb_Da_wouldFit 91 = .ok (.iload_n 1, 1) := by decide +kernel
theorem d_Da_wouldFit_92 : decode cb_Da_wouldFit 92 = .ok (.bipush 16, 2) := by decide +kernel
theorem d_Da_wouldFit_94 : decode cb_Da_wouldFit 94 = .ok (.iadd, 1) := by decide +kernel
theorem d_Da_wouldFit_95 : decode cb_Da_wouldFit 95 = .ok (.invokevirtual 23, 3) := by decide +kernel
theorem d_Da_wouldFit_98 : decode cb_Da_wouldFit 98 = .ok (.aload_n 0, 1) := by decide +kernel
theorem d_Da_wouldFit_99 : decode cb_Da_wouldFit 99 = .ok (.iload_n 1, 1) := by decide +kernel
theorem d_Da_wouldFit_100 : decode cb_Da_wouldFit 100 = .ok (.bipush 14, 2) := by decide +kernel
theorem d_Da_wouldFit_102 : decode cb_Da_wouldFit 102 = .ok (.iadd, 1) := by decide +kernel
theorem d_Da_wouldFit_103 : decode cb_Da_wouldFit 103 = .ok (.invokevirtual 23, 3) := by decide +kernel
theorem d_Da_wouldFit_106 : decode cb_Da_wouldFit 106 = .ok (.iload 4, 2) := by decide +kernel
theorem d_Da_wouldFit_108 : decode cb_Da_wouldFit 108 = .ok (.invokestatic 32, 3) := by decide +kernel
theorem d_Da_wouldFit_111 : decode cb_Da_wouldFit 111 = .ok (.ireturn, 1) := by decide +kernel
theorem d_Da_wouldFit_112 : decode cb_Da_wouldFit 112 = .ok (.iload 4, 2) := by decide +kernel
theorem d_Da_wouldFit_114 : decode cb_Da_wouldFit 114 = .ok (.ifCond .eq 9, 3) := by decide +kernel
theorem d_Da_wouldFit_117 : decode cb_Da_wouldFit 117 = .ok (.iload 4, 2) := by decide +kernel
theorem d_Da_wouldFit_119 : decode cb_Da_wouldFit 119 = .ok (.iconst 1, 1) := by decide +kernel
theorem d_Da_wouldFit_120 : decode cb_Da_wouldFit 120 = .ok (.if_icmp .ne 7, 3) := by decide +kernel
theorem d_Da_wouldFit_123 : decode cb_Da_wouldFit 123 = .ok (.iconst 1, 1) := by decide +kernel
theorem d_Da_wouldFit_124 : decode cb_Da_wouldFit 124 = .ok (.goto 4, 3) := by decide +kernel
theorem d_Da_wouldFit_127 : decode cb_Da_wouldFit 127 = .ok (.iconst 0, 1) := by decide +kernel
theorem d_Da_wouldFit_128 : decode cb_Da_wouldFit 128 = .ok (.ireturn, 1) := by decide +kernel
theorem d_Da_wouldFit_129 : decode cb_Da_wouldFit 129 = .ok (.iconst 0, 1) := by decide +kernel
theorem d_Da_wouldFit_130 : decode cb_Da_wouldFit 130 = .ok (.ireturn, 1) := by decide +kernel
abbrev cb_Da_seconds : ByteArray := prog_2_method_8_code
def y_Da_seconds : MethodName := ⟨R_Da, "seconds", "(LVolumeTurner$Disk;II)J"⟩
theorem d_Da_seconds_0 : decode cb_Da_seconds 0 = .ok (.iload_n 2, 1) := by decide +kernel
theorem d_Da_seconds_1 : decode cb_Da_seconds 1 = .ok (.iconst 2, 1) := by decide +kernel
theorem d_Da_seconds_2 : decode cb_Da_seconds 2 = .ok (.if_icmp .ne 14, 3) := by decide +kernel
theorem d_Da_seconds_5 : decode cb_Da_seconds 5 = .ok (.aload_n 0, 1) := by decide +kernel
theorem d_Da_seconds_6 : decode cb_Da_seconds 6 = .ok (.iload_n 1, 1) := by decide +kernel
theorem d_Da_seconds_7 : decode cb_Da_seconds 7 = .ok (.bipush 18, 2) := by decide +kernel
theorem d_Da_seconds_9 : decode cb_Da_seconds 9 = .ok (.iadd, 1) := by decide +kernel
theorem d_Da_seconds_10 : decode cb_Da_seconds 10 = .ok (.invokevirtual 23, 3) := by decide +kernel
theorem d_Da_seconds_13 : decode cb_Da_seconds 13 = .ok (.goto 11, 3) := by decide +kernel
theorem d_Da_seconds_16 : decode cb_Da_seconds 16 = .ok (.aload_n 0, 1) := by decide +kernel
theorem d_Da_seconds_17 : decode cb_Da_seconds 17 = .ok (.iload_n 1, 1) := by decide +kernel
theorem d_Da_seconds_18 : decode cb_Da_seconds 18 = .ok (.bipush 16, 2) := by decide +kernel
theorem d_Da_seconds_20 : decode cb_Da_seconds 20 = .ok (.iadd, 1) := by decide +kernel
theorem d_Da_seconds_21 : decode cb_Da_seconds 21 = .ok (.invokevirtual 23, 3) := by decide +kernel
theorem d_Da_seconds_24 : decode cb_Da_seconds 24 = .ok (.istore_n 3, 1) := by decide +kernel
theorem d_Da_seconds_25 : decode cb_Da_seconds 25 = .ok (.iload_n 2, 1) := by decide +kernel
theorem d_Da_seconds_26 : decode cb_Da_seconds 26 = .ok (.iconst 2, 1) := by decide +kernel
theorem d_Da_seconds_27 : decode cb_Da_seconds 27 = .ok (.if_icmp .ne 7, 3) := by decide +kernel
theorem d_Da_seconds_30 : decode cb_Da_seconds 30 = .ok (.iconst 0, 1) := by decide +kernel
theorem d_Da_seconds_31 : decode cb_Da_seconds 31 = .ok (.goto 11, 3) := by decide +kernel
theorem d_Da_seconds_34 : decode cb_Da_seconds 34 = .ok (.aload_n 0, 1) := by decide +kernel
theorem d_Da_seconds_35 : decode cb_Da_seconds 35 = .ok (.iload_n 1, 1) := by decide +kernel
theorem d_Da_seconds_36 : decode cb_Da_seconds 36 = .ok (.bipush 14, 2) := by decide +kernel
theorem d_Da_seconds_38 : decode cb_Da_seconds 38 = .ok (.iadd, 1) := by decide +kernel
theorem d_Da_seconds_39 : decode cb_Da_seconds 39 = .ok (.invokevirtual 23, 3) := by decide +kernel
theorem d_Da_seconds_42 : decode cb_Da_seconds 42 = .ok (.istore 4, 2) := by decide +kernel
theorem d_Da_seconds_44 : decode cb_Da_seconds 44 = .ok (.iload_n 2, 1) := by decide +kernel
theorem d_Da_seconds_45 : decode cb_Da_seconds 45 = .ok (.iconst 2, 1) := by decide +kernel
theorem d_Da_seconds_46 : decode cb_Da_seconds 46 = .ok (.if_icmp .ne 7, 3) := by decide +kernel
theorem d_Da_seconds_49 : decode cb_Da_seconds 49 = .ok (.iconst 0, 1) := by decide +kernel
theorem d_Da_seconds_50 : decode cb_Da_seconds 50 = .ok (.goto 14, 3) := by decide +kernel
theorem d_Da_seconds_53 : decode cb_Da_seconds 53 = .ok (.aload_n 0, 1) := by decide +kernel
theorem d_Da_seconds_54 : decode cb_Da_seconds 54 = .ok (.iload_n 1, 1) := by decide +kernel
theorem d_Da_seconds_55 : decode cb_Da_seconds 55 = .ok (.bipush 13, 2) := by decide +kernel
theorem d_Da_seconds_57 : decode cb_Da_seconds 57 = .ok (.iadd, 1) := by decide +kernel
theorem d_Da_seconds_58 : decode cb_Da_seconds 58 = .ok (.invokevirtual 29, 3) := by decide +kernel
theorem d_Da_seconds_61 : decode cb_Da_seconds 61 = .ok (.bipush 100, 2) := by decide +kernel
theorem d_Da_seconds_63 : decode cb_Da_seconds 63 = .ok (.idiv, 1) := by decide +kernel
theorem d_Da_seconds_64 : decode cb_Da_seconds 64 = .ok (.istore 5, 2) := by decide +kernel
theorem d_Da_seconds_66 : decode cb_Da_seconds 66 = .ok (.iload_n 2, 1) := by decide +kernel
theorem d_Da_seconds_67 : decode cb_Da_seconds 67 = .ok (.iconst 4, 1) := by decide +kernel
theorem d_Da_seconds_68 : decode cb_Da_seconds 68 = .ok (.if_icmp .eq 7, 3) := by decide +kernel
theorem d_Da_seconds_71 : decode cb_Da_seconds 71 = .ok (.iload_n 3, 1) := by decide +kernel
theorem d_Da_seconds_72 : decode cb_Da_seconds 72 = .ok (.ifCond .ne 25, 3) := by decide +kernel
theorem d_Da_seconds_75 : decode cb_Da_seconds 75 = .ok (.aload_n 0, 1) := by decide +kernel
theorem d_Da_seconds_76 : decode cb_Da_seconds 76 = .ok (.iload_n 1, 1) := by decide +kernel
theorem d_Da_seconds_77 : decode cb_Da_seconds 77 = .ok (.bipush 24, 2) := by decide +kernel
theorem d_Da_seconds_79 : decode cb_Da_seconds 79 = .ok (.iadd, 1) := by decide +kernel
theorem d_Da_seconds_80 : decode cb_Da_seconds 80 = .ok (.invokevirtual 23, 3) := by decide +kernel
theorem d_Da_seconds_83 : decode cb_Da_seconds 83 = .ok (.istore_n 3, 1) := by decide +kernel
theorem d_Da_seconds_84 : decode cb_Da_seconds 84 = .ok (.aload_n 0, 1) := by decide +kernel
theorem d_Da_seconds_85 : decode cb_Da_seconds 85 = .ok (.iload_n 1, 1) := by decide +kernel
theorem d_Da_seconds_86 : decode cb_Da_seconds 86 = .ok (.bipush 22, 2) := by decide +kernel
theorem d_Da_seconds_88 : decode cb_Da_seconds 88 = .ok (.iadd, 1) := by decide +kernel
theorem d_Da_seconds_89 : decode cb_Da_seconds 89 = .ok (.invokevirtual 23, 3) := by decide +kernel
theorem d_Da_seconds_92 : decode cb_Da_seconds 92 = .ok (.istore 4, 2) := by decide +kernel
theorem d_Da_seconds_94 : decode cb_Da_seconds 94 = .ok (.iconst 0, 1) := by decide +kernel
theorem d_Da_seconds_95 : decode cb_Da_seconds 95 = .ok (.istore 5, 2) := by decide +kernel
theorem d_Da_seconds_97 : decode cb_Da_seconds 97 = .ok (.iload_n 3, 1) := by decide +kernel
theorem d_Da_seconds_98 : decode cb_Da_seconds 98 = .ok (.invokestatic 39, 3) := by decide +kernel
theorem d_Da_seconds_101 : decode cb_Da_seconds 101 = .ok (.i2l, 1) := by decide +kernel
theorem d_Da_seconds_102 : decode cb_Da_seconds 102 = .ok (.ldc2_w 42, 3) := by decide +kernel
theorem d_Da_seconds_105 : decode cb_Da_seconds 105 = .ok (.lmul, 1) := by decide +kernel
theorem d_Da_seconds_106 : decode cb_Da_seconds 106 = .ok (.iload 4, 2) := by decide +kernel
theorem d_Da_seconds_108 : decode cb_Da_seconds 108 = .ok (.bipush 11, 2) := by decide +kernel
theorem d_Da_seconds_110 : decode cb_Da_seconds 110 = .ok (.ishr, 1) := by decide +kernel
theorem d_Da_seconds_111 : decode cb_Da_seconds 111 = .ok (.sipush 3600, 3) := by decide +kernel
theorem d_Da_seconds_114 : decode cb_Da_seconds 114 = .ok (.imul, 1) := by decide +kernel
theorem d_Da_seconds_115 : decode cb_Da_seconds 115 = .ok (.i2l, 1) := by decide +kernel
theorem d_Da_seconds_116 : decode cb_Da_seconds 116 = .ok (.ladd, 1) := by decide +kernel
theorem d_Da_seconds_117 : decode cb_Da_seconds 117 = .ok (.iload 4, 2) := by decide +kernel
theorem d_Da_seconds_119 : decode cb_Da_seconds 119 = .ok (.iconst 5, 1) := by decide +kernel
theorem d_Da_seconds_120 : decode cb_Da_seconds 120 = .ok (.ishr, 1) := by decide +kernel
theorem d_Da_seconds_121 : decode cb_Da_seconds 121 = .ok (.bipush 63, 2) := by decide +kernel
theorem d_Da_seconds_123 : decode cb_Da_seconds 123 = .ok (.iand, 1) := by decide +kernel
theorem d_Da_seconds_124 : decode cb_Da_seconds 124 = .ok (.bipush 60, 2) := by decide +kernel
theorem d_Da_seconds_126 : decode cb_Da_seconds 126 = .ok (.imul, 1) := by decide +kernel
theorem d_Da_seconds_127 : decode cb_Da_seconds 127 = .ok (.i2l, 1) := by decide +kernel
theorem d_Da_seconds_128 : decode cb_Da_seconds 128 = .ok (.ladd, 1) := by decide +kernel
theorem d_Da_seconds_129 : decode cb_Da_seconds 129 = .ok (.iload 4, 2) := by decide +kernel
theorem d_Da_seconds_131 : decode cb_Da_seconds 131 = .ok (.bipush 31, 2) := by decide +kernel
theorem d_Da_seconds_133 : decode cb_Da_seconds 133 = .ok (.iand, 1) := by decide +kernel
theorem d_Da_seconds_134 : decode cb_Da_seconds 134 = .ok (.iconst 2, 1) := by decide +kernel
theorem d_Da_seconds_135 : decode cb_Da_seconds 135 = .ok (.imul, 1) := by decide +kernel
theorem d_Da_seconds_136 : decode cb_Da_seconds 136 = .ok (.i2l, 1) := by decide +kernel
theorem d_Da_seconds_137 : decode cb_Da_seconds 137 = .ok (.ladd, 1) := by decide +kernel
theorem d_Da_seconds_138 : decode cb_Da_seconds 138 = .ok (.iload 5, 2) := by decide +kernel
theorem d_Da_seconds_140 : decode cb_Da_seconds 140 = .ok (.i2l, 1) := by decide +kernel
theorem d_Da_seconds_141 : decode cb_Da_seconds 141 = .ok (.ladd, 1) := by decide +kernel
theorem d_Da_seconds_142 : decode cb_Da_seconds 142 = .ok (.lreturn, 1) := by decide +kernel
abbrev b_Da_daysFrom1970 : ByteArray := prog_2_method_9_code
def y_Da_daysFrom1970 : MethodName := ⟨R_Da, "daysFrom1970", "(I)I"⟩
theorem d_Da_daysFrom1970_0 : decode b_Da_daysFrom1970 0 = .ok (.sipush 1980, 3) := by decide +kernel
theorem d_Da_daysFrom1970_3 : decode b_Da_daysFrom1970 3 = .ok (.iload_n 0, 1) := by decide +kernel
theorem d_Da_daysFrom1970_4 : decode b_Da_daysFrom1970 4 = .ok (.bipush 9, 2) := by decide +kernel
theorem d_Da_daysFrom1970_6 : decode b_Da_daysFrom1970 6 = .ok (.ishr, 1) := by decide +kernel
theorem d_Da_daysFrom1970_7 : decode b_Da_daysFrom1970 7 = .ok (.iadd, 1) := by decide +kernel
theorem d_Da_daysFrom1970_8 : decode b_Da_daysFrom1970 8 = .ok (.istore_n 1, 1) := by decide +kernel
theorem d_Da_daysFrom1970_9 : decode b_Da_daysFrom1970 9 = .ok (.iload_n 0, 1) := by decide +kernel
theorem d_Da_daysFrom1970_10 : decode b_Da_daysFrom1970 10 = .ok (.iconst 5, 1) := by decide +kernel
theorem d_Da_daysFrom1970_11 : decode b_Da_daysFrom1970 11 = .ok (.ishr, 1) := by decide +kernel
theorem d_Da_daysFrom1970_12 : decode b_Da_daysFrom1970 12 = .ok (.bipush 15, 2) := by decide +kernel
theorem d_Da_daysFrom1970_14 : decode b_Da_daysFrom1970 14 = .ok (.iand, 1) := by decide +kernel
theorem d_Da_daysFrom1970_15 : decode b_Da_daysFrom1970 15 = .ok (.istore_n 2, 1) := by decide +kernel
theorem d_Da_daysFrom1970_16 : decode b_Da_daysFrom1970 16 = .ok (.iload_n 2, 1) := by decide +kernel
theorem d_Da_daysFrom1970_17 : decode b_Da_daysFrom1970 17 = .ok (.iconst 1, 1) := by decide +kernel
theorem d_Da_daysFrom1970_18 : decode b_Da_daysFrom1970 18 = .ok (.if_icmp .lt 9, 3) := by decide +kernel
theorem d_Da_daysFrom1970_21 : decode b_Da_daysFrom1970 21 = .ok (.iload_n 2, 1) := by decide +kernel
theorem d_Da_daysFrom1970_22 : decode b_Da_daysFrom1970 22 = .ok (.bipush 12, 2) := by decide +kernel
theorem d_Da_daysFrom1970_24 : decode b_Da_daysFrom1970 24 = .ok (.if_icmp .le 5, 3) := by decide +kernel
theorem d_Da_daysFrom1970_27 : decode b_Da_daysFrom1970 27 = .ok (.iconst 0, 1) := by decide +kernel
theorem d_Da_daysFrom1970_28 : decode b_Da_daysFrom1970 28 = .ok (.ireturn, 1) := by decide +kernel
theorem d_Da_daysFrom1970_29 : decode b_Da_daysFrom1970 29 = .ok (.iload_n 2, 1) := by decide +kernel
theorem d_Da_daysFrom1970_30 : decode b_Da_daysFrom1970 30 = .ok (.iconst 2, 1) := by decide +kernel
theorem d_Da_daysFrom1970_31 : decode b_Da_daysFrom1970 31 = .ok (.if_icmp .le 7, 3) := by decide +kernel
theorem d_Da_daysFrom1970_34 : decode b_Da_daysFrom1970 34 = .ok (.iload_n 1, 1) := by decide +kernel
theorem d_Da_daysFrom1970_35 : decode b_Da_daysFrom1970 35 = .ok (.goto 6, 3) := by decide +kernel
theorem d_Da_daysFrom1970_38 : decode b_Da_daysFrom1970 38 = .ok (.iload_n 1, 1) := by decide +kernel
theorem d_Da_daysFrom1970_39 : decode b_Da_daysFrom1970 39 = .ok (.iconst 1, 1) := by decide +kernel
theorem d_Da_daysFrom1970_40 : decode b_Da_daysFrom1970 40 = .ok (.isub, 1) := by decide +kernel
theorem d_Da_daysFrom1970_41 : decode b_Da_daysFrom1970 41 = .ok (.istore_n 3, 1) := by decide +kernel
theorem d_Da_daysFrom1970_42 : decode b_Da_daysFrom1970 42 = .ok (.iload_n 3, 1) := by decide +kernel
theorem d_Da_daysFrom1970_43 : decode b_Da_daysFrom1970 43 = .ok (.iconst 4, 1) := by decide +kernel
theorem d_Da_daysFrom1970_44 : decode b_Da_daysFrom1970 44 = .ok (.idiv, 1) := by decide +kernel
theorem d_Da_daysFrom1970_45 : decode b_Da_daysFrom1970 45 = .ok (.iload_n 3, 1) := by decide +kernel
theorem d_Da_daysFrom1970_46 : decode b_Da_daysFrom1970 46 = .ok (.bipush 100, 2) := by decide +kernel
theorem d_Da_daysFrom1970_48 : decode b_Da_daysFrom1970 48 = .ok (.idiv, 1) := by decide +kernel
theorem d_Da_daysFrom1970_49 : decode b_Da_daysFrom1970 49 = .ok (.isub, 1) := by decide +kernel
theorem d_Da_daysFrom1970_50 : decode b_Da_daysFrom1970 50 = .ok (.iload_n 3, 1) := by decide +kernel
theorem d_Da_daysFrom1970_51 : decode b_Da_daysFrom1970 51 = .ok (.sipush 400, 3) := by decide +kernel
theorem d_Da_daysFrom1970_54 : decode b_Da_daysFrom1970 54 = .ok (.idiv, 1) := by decide +kernel
theorem d_Da_daysFrom1970_55 : decode b_Da_daysFrom1970 55 = .ok (.iadd, 1) := by decide +kernel
theorem d_Da_daysFrom1970_56 : decode b_Da_daysFrom1970 56 = .ok (.sipush 477, 3) := by decide +kernel
theorem d_Da_daysFrom1970_59 : decode b_Da_daysFrom1970 59 = .ok (.isub, 1) := by decide +kernel
theorem d_Da_daysFrom1970_60 : decode b_Da_daysFrom1970 60 = .ok (.istore 4, 2) := by decide +kernel
theorem d_Da_daysFrom1970_62 : decode b_Da_daysFrom1970 62 = .ok (.iload_n 1, 1) := by decide +kernel
theorem d_Da_daysFrom1970_63 : decode b_Da_daysFrom1970 63 = .ok (.sipush 1970, 3) := by decide +kernel
theorem d_Da_daysFrom1970_66 : decode b_Da_daysFrom1970 66 = .ok (.isub, 1) := by decide +kernel
theorem d_Da_daysFrom1970_67 : decode b_Da_daysFrom1970 67 = .ok (.sipush 365, 3) := by decide +kernel
theorem d_Da_daysFrom1970_70 : decode b_Da_daysFrom1970 70 = .ok (.imul, 1) := by decide +kernel
theorem d_Da_daysFrom1970_71 : decode b_Da_daysFrom1970 71 = .ok (.iload 4, 2) := by decide +kernel
theorem d_Da_daysFrom1970_73 : decode b_Da_daysFrom1970 73 = .ok (.iadd, 1) := by decide +kernel
theorem d_Da_daysFrom1970_74 : decode b_Da_daysFrom1970 74 = .ok (.getstatic 10, 3) := by decide +kernel
theorem d_Da_daysFrom1970_77 : decode b_Da_daysFrom1970 77 = .ok (.iload_n 2, 1) := by decide +kernel
theorem d_Da_daysFrom1970_78 : decode b_Da_daysFrom1970 78 = .ok (.iconst 1, 1) := by decide +kernel
theorem d_Da_daysFrom1970_79 : decode b_Da_daysFrom1970 79 = .ok (.isub, 1) := by decide +kernel
theorem d_Da_daysFrom1970_80 : decode b_Da_daysFrom1970 80 = .ok (.iaload, 1) := by decide +kernel
theorem d_Da_daysFrom1970_81 : decode b_Da_daysFrom1970 81 = .ok (.iadd, 1) := by decide +kernel
theorem d_Da_daysFrom1970_82 : decode b_Da_daysFrom1970 82 = .ok (.iload_n 0, 1) := by decide +kernel
theorem d_Da_daysFrom1970_83 : decode b_Da_daysFrom1970 83 = .ok (.bipush 31, 2) := by decide +kernel
theorem d_Da_daysFrom1970_85 : decode b_Da_daysFrom1970 85 = .ok (.iand, 1) := by decide +kernel
theorem d_Da_daysFrom1970_86 : decode b_Da_daysFrom1970 86 = .ok (.iadd, 1) := by decide +kernel
theorem d_Da_daysFrom1970_87 : decode b_Da_daysFrom1970 87 = .ok (.iconst 1, 1) := by decide +kernel
theorem d_Da_daysFrom1970_88 : decode b_Da_daysFrom1970 88 = .ok (.isub, 1) := by decide +kernel
theorem d_Da_daysFrom1970_89 : decode b_Da_daysFrom1970 89 = .ok (.ireturn, 1) := by decide +kernel
def K_Da : List Cond := [(.initialized "VolumeTurner$Days"), (.static y_Da_fit), (.code y_Da_fit prog_2_method_6_code 2 (some .boolean)), (.methodLink "VolumeTurner$Days" 23 y_Dk_two), (.methodLink "VolumeTurner$Days" 29 y_Dk_one), (.methodLink "VolumeTurner$Days" 32 y_Da_madeFits), (.static y_Da_madeFits), (.code y_Da_madeFits prog_2_method_4_code 3 (some .boolean)), (.methodLink "VolumeTurner$Days" 16 y_Da_isDay), (.static y_Da_isDay), (.code y_Da_isDay prog_2_method_2_code 5 (some .boolean)), (.constant "VolumeTurner$Days" 9 (65535 : Int32)), (.fieldLink "VolumeTurner$Days" 10 "VolumeTurner$Days" "BEFORE_MONTH" "[I"), (.methodLink "VolumeTurner$Days" 20 y_Da_isTime), (.static y_Da_isTime), (.code y_Da_isTime prog_2_method_3_code 1 (some .boolean)), (.methodLink "VolumeTurner$Days" 36 y_Da_readFits), (.static y_Da_readFits), (.code y_Da_readFits prog_2_method_5_code 1 (some .boolean)), (.static y_Da_seconds), (.code y_Da_seconds prog_2_method_8_code 6 (some .long)), (.methodLink "VolumeTurner$Days" 39 y_Da_daysFrom1970), (.static y_Da_daysFrom1970), (.code y_Da_daysFrom1970 prog_2_method_9_code 5 (some .int)), (.constantLong "VolumeTurner$Days" 42 (86400 : Int64)), (.static y_Da_wouldFit), (.code y_Da_wouldFit prog_2_method_7_code 5 (some .boolean))]
theorem j_Da_0 : (.initialized "VolumeTurner$Days") ∈ K_Da := List.mem_of_getElem? (i := 0) rfl
theorem j_Da_1 : (.static y_Da_fit) ∈ K_Da := List.mem_of_getElem? (i := 1) rfl
theorem j_Da_2 : (.code y_Da_fit prog_2_method_6_code 2 (some .boolean)) ∈ K_Da := List.mem_of_getElem? (i := 2) rfl
theorem j_Da_3 : (.methodLink "VolumeTurner$Days" 23 y_Dk_two) ∈ K_Da := List.mem_of_getElem? (i := 3) rfl
theorem j_Da_4 : (.methodLink "VolumeTurner$Days" 29 y_Dk_one) ∈ K_Da := List.mem_of_getElem? (i := 4) rfl
theorem j_Da_5 : (.methodLink "VolumeTurner$Days" 32 y_Da_madeFits) ∈ K_Da := List.mem_of_getElem? (i := 5) rfl
theorem j_Da_6 : (.static y_Da_madeFits) ∈ K_Da := List.mem_of_getElem? (i := 6) rfl
theorem j_Da_7 : (.code y_Da_madeFits prog_2_method_4_code 3 (some .boolean)) ∈ K_Da := List.mem_of_getElem? (i := 7) rfl
theorem j_Da_8 : (.methodLink "VolumeTurner$Days" 16 y_Da_isDay) ∈ K_Da := List.mem_of_getElem? (i := 8) rfl
theorem j_Da_9 : (.static y_Da_isDay) ∈ K_Da := List.mem_of_getElem? (i := 9) rfl
theorem j_Da_10 : (.code y_Da_isDay prog_2_method_2_code 5 (some .boolean)) ∈ K_Da := List.mem_of_getElem? (i := 10) rfl
theorem j_Da_11 : (.constant "VolumeTurner$Days" 9 (65535 : Int32)) ∈ K_Da := List.mem_of_getElem? (i := 11) rfl
theorem j_Da_12 : (.fieldLink "VolumeTurner$Days" 10 "VolumeTurner$Days" "BEFORE_MONTH" "[I") ∈ K_Da := List.mem_of_getElem? (i := 12) rfl
theorem j_Da_13 : (.methodLink "VolumeTurner$Days" 20 y_Da_isTime) ∈ K_Da := List.mem_of_getElem? (i := 13) rfl
theorem j_Da_14 : (.static y_Da_isTime) ∈ K_Da := List.mem_of_getElem? (i := 14) rfl
theorem j_Da_15 : (.code y_Da_isTime prog_2_method_3_code 1 (some .boolean)) ∈ K_Da := List.mem_of_getElem? (i := 15) rfl
theorem j_Da_16 : (.methodLink "VolumeTurner$Days" 36 y_Da_readFits) ∈ K_Da := List.mem_of_getElem? (i := 16) rfl
theorem j_Da_17 : (.static y_Da_readFits) ∈ K_Da := List.mem_of_getElem? (i := 17) rfl
theorem j_Da_18 : (.code y_Da_readFits prog_2_method_5_code 1 (some .boolean)) ∈ K_Da := List.mem_of_getElem? (i := 18) rfl
theorem j_Da_19 : (.static y_Da_seconds) ∈ K_Da := List.mem_of_getElem? (i := 19) rfl
theorem j_Da_20 : (.code y_Da_seconds prog_2_method_8_code 6 (some .long)) ∈ K_Da := List.mem_of_getElem? (i := 20) rfl
theorem j_Da_21 : (.methodLink "VolumeTurner$Days" 39 y_Da_daysFrom1970) ∈ K_Da := List.mem_of_getElem? (i := 21) rfl
theorem j_Da_22 : (.static y_Da_daysFrom1970) ∈ K_Da := List.mem_of_getElem? (i := 22) rfl
theorem j_Da_23 : (.code y_Da_daysFrom1970 prog_2_method_9_code 5 (some .int)) ∈ K_Da := List.mem_of_getElem? (i := 23) rfl
theorem j_Da_24 : (.constantLong "VolumeTurner$Days" 42 (86400 : Int64)) ∈ K_Da := List.mem_of_getElem? (i := 24) rfl
theorem j_Da_25 : (.static y_Da_wouldFit) ∈ K_Da := List.mem_of_getElem? (i := 25) rfl
theorem j_Da_26 : (.code y_Da_wouldFit prog_2_method_7_code 5 (some .boolean)) ∈ K_Da := List.mem_of_getElem? (i := 26) rfl
def V_Da : List Cond := w_Da ++ (K_Da ++ V_Wo)
theorem kk_Da : ∀ w ∈ K_Da, w ∈ V_Da := fun _ h => List.mem_append_right _ (List.mem_append_left _ h)
theorem u_Da_Wo : ∀ w ∈ V_Wo, w ∈ V_Da := fun _ h => List.mem_append_right _ (List.mem_append_right _ h)
theorem u_Da_J : ∀ w ∈ V_J, w ∈ V_Da := fun w h => u_Da_Wo w (u_Wo_J w h)
theorem u_Da_Dk : ∀ w ∈ V_Dk, w ∈ V_Da := fun w h => u_Da_Wo w (u_Wo_Dk w h)
theorem k_Da_0 : (.initialized "VolumeTurner$Days") ∈ V_Da := kk_Da _ j_Da_0
theorem k_Da_1 : (.static y_Da_fit) ∈ V_Da := kk_Da _ j_Da_1
theorem k_Da_2 : (.code y_Da_fit prog_2_method_6_code 2 (some .boolean)) ∈ V_Da := kk_Da _ j_Da_2
theorem k_Da_3 : (.methodLink "VolumeTurner$Days" 23 y_Dk_two) ∈ V_Da := kk_Da _ j_Da_3
theorem k_Da_4 : (.methodLink "VolumeTurner$Days" 29 y_Dk_one) ∈ V_Da := kk_Da _ j_Da_4
theorem k_Da_5 : (.methodLink "VolumeTurner$Days" 32 y_Da_madeFits) ∈ V_Da := kk_Da _ j_Da_5
theorem k_Da_6 : (.static y_Da_madeFits) ∈ V_Da := kk_Da _ j_Da_6
theorem k_Da_7 : (.code y_Da_madeFits prog_2_method_4_code 3 (some .boolean)) ∈ V_Da := kk_Da _ j_Da_7
theorem k_Da_8 : (.methodLink "VolumeTurner$Days" 16 y_Da_isDay) ∈ V_Da := kk_Da _ j_Da_8
theorem k_Da_9 : (.static y_Da_isDay) ∈ V_Da := kk_Da _ j_Da_9
theorem k_Da_10 : (.code y_Da_isDay prog_2_method_2_code 5 (some .boolean)) ∈ V_Da := kk_Da _ j_Da_10
theorem k_Da_11 : (.constant "VolumeTurner$Days" 9 (65535 : Int32)) ∈ V_Da := kk_Da _ j_Da_11
theorem k_Da_12 : (.fieldLink "VolumeTurner$Days" 10 "VolumeTurner$Days" "BEFORE_MONTH" "[I") ∈ V_Da := kk_Da _ j_Da_12
theorem k_Da_13 : (.methodLink "VolumeTurner$Days" 20 y_Da_isTime) ∈ V_Da := kk_Da _ j_Da_13
theorem k_Da_14 : (.static y_Da_isTime) ∈ V_Da := kk_Da _ j_Da_14
theorem k_Da_15 : (.code y_Da_isTime prog_2_method_3_code 1 (some .boolean)) ∈ V_Da := kk_Da _ j_Da_15
theorem k_Da_16 : (.methodLink "VolumeTurner$Days" 36 y_Da_readFits) ∈ V_Da := kk_Da _ j_Da_16
theorem k_Da_17 : (.static y_Da_readFits) ∈ V_Da := kk_Da _ j_Da_17
theorem k_Da_18 : (.code y_Da_readFits prog_2_method_5_code 1 (some .boolean)) ∈ V_Da := kk_Da _ j_Da_18
theorem k_Da_19 : (.static y_Da_seconds) ∈ V_Da := kk_Da _ j_Da_19
theorem k_Da_20 : (.code y_Da_seconds prog_2_method_8_code 6 (some .long)) ∈ V_Da := kk_Da _ j_Da_20
theorem k_Da_21 : (.methodLink "VolumeTurner$Days" 39 y_Da_daysFrom1970) ∈ V_Da := kk_Da _ j_Da_21
theorem k_Da_22 : (.static y_Da_daysFrom1970) ∈ V_Da := kk_Da _ j_Da_22
theorem k_Da_23 : (.code y_Da_daysFrom1970 prog_2_method_9_code 5 (some .int)) ∈ V_Da := kk_Da _ j_Da_23
theorem k_Da_24 : (.constantLong "VolumeTurner$Days" 42 (86400 : Int64)) ∈ V_Da := kk_Da _ j_Da_24
theorem k_Da_25 : (.static y_Da_wouldFit) ∈ V_Da := kk_Da _ j_Da_25
theorem k_Da_26 : (.code y_Da_wouldFit prog_2_method_7_code 5 (some .boolean)) ∈ V_Da := kk_Da _ j_Da_26
theorem gk_Da : ∀ w ∈ w_Da ++ K_Da, goodWord w = true := List.all_eq_true.mp (by decide +kernel)
theorem good_Da : GoodIn V_Da V_Da := fun w h => by
  refine ⟨h, ?_⟩
  rcases List.mem_append.mp h with q | q
  · exact good_of_word (gk_Da w (List.mem_append_left _ q))
  · rcases List.mem_append.mp q with q | q
    · exact good_of_word (gk_Da w (List.mem_append_right _ q))
    · exact (good_Wo w q).2
abbrev b_Tp_init : ByteArray := prog_9_method_1_code
def y_Tp_init : MethodName := ⟨R_Tp, "<init>", "()V"⟩
theorem d_Tp_init_0 : decode b_Tp_init 0 = .ok (.aload_n 0, 1) := by decide +kernel
theorem d_Tp_init_1 : decode b_Tp_init 1 = .ok (.invokespecial 3, 3) := by decide +kernel
theorem d_Tp_init_4 : decode b_Tp_init 4 = .ok (.aload_n 0, 1) := by decide +kernel
theorem d_Tp_init_5 : decode b_Tp_init 5 = .ok (.sipush 4096, 3) := by decide +kernel
theorem d_Tp_init_8 : decode b_Tp_init 8 = .ok (.newarray .byte, 2) := by decide +kernel
theorem d_Tp_init_10 : decode b_Tp_init 10 = .ok (.putfield 11, 3) := by decide +kernel
theorem d_Tp_init_13 : decode b_Tp_init 13 = .ok (.aload_n 0, 1) := by decide +kernel
theorem d_Tp_init_14 : decode b_Tp_init 14 = .ok (.bipush 20, 2) := by decide +kernel
theorem d_Tp_init_16 : decode b_Tp_init 16 = .ok (.newarray .byte, 2) := by decide +kernel
theorem d_Tp_init_18 : decode b_Tp_init 18 = .ok (.putfield 15, 3) := by decide +kernel
theorem d_Tp_init_21 : decode b_Tp_init 21 = .ok (.aload_n 0, 1) := by decide +kernel
theorem d_Tp_init_22 : decode b_Tp_init 22 = .ok (.iconst 0, 1) := by decide +kernel
theorem d_Tp_init_23 : decode b_Tp_init 23 = .ok (.putfield 18, 3) := by decide +kernel
theorem d_Tp_init_26 : decode b_Tp_init 26 = .ok (.return_, 1) := by decide +kernel
abbrev cb_Tp_prepare : ByteArray := prog_9_method_2_code
def y_Tp_prepare : MethodName := ⟨R_Tp, "prepare", "(II)V"⟩
theorem d_Tp_prepare_0 : decode cb_Tp_prepare 0 = .ok (.iconst 0, 1) := by decide +kernel
theorem d_Tp_prepare_1 : decode cb_Tp_prepare 1 = .ok (.istore_n 3, 1) := by decide +kernel
theorem d_Tp_prepare_2 : decode cb_Tp_prepare 2 = .ok (.iload_n 3, 1) := by decide +kernel
theorem d_Tp_prepare_3 : decode cb_Tp_prepare 3 = .ok (.iconst 4, 1) := by decide +kernel
theorem d_Tp_prepare_4 : decode cb_Tp_prepare 4 = .ok (.if_icmp .ge 39, 3) := by decide +kernel
theorem d_Tp_prepare_7 : decode cb_Tp_prepare 7 = .ok (.iload_n 1, 1) := by decide +kernel
theorem d_Tp_prepare_8 : decode cb_Tp_prepare 8 = .ok (.ifCond .lt 35, 3) := by decide +kernel
theorem d_Tp_prepare_11 : decode cb_Tp_prepare 11 = .ok (.iload_n 1, 1) := by decide +kernel
theorem d_Tp_prepare_12 : decode cb_Tp_prepare 12 = .ok (.iload_n 3, 1) := by decide +kernel
theorem d_Tp_prepare_13 : decode cb_Tp_prepare 13 = .ok (.iadd, 1) := by decide +kernel
theorem d_Tp_prepare_14 : decode cb_Tp_prepare 14 = .ok (.bipush 20, 2) := by decide +kernel
theorem d_Tp_prepare_16 : decode cb_Tp_prepare 16 = .ok (.if_icmp .ge 27, 3) := by decide +kernel
theorem d_Tp_prepare_19 : decode cb_Tp_prepare 19 = .ok (.aload_n 0, 1) := by decide +kernel
theorem d_Tp_prepare_20 : decode cb_Tp_prepare 20 = .ok (.getfield 15, 3) := by decide +kernel
theorem d_Tp_prepare_23 : decode cb_Tp_prepare 23 = .ok (.iload_n 1, 1) := by decide +kernel
theorem d_Tp_prepare_24 : decode cb_Tp_prepare 24 = .ok (.iload_n 3, 1) := by decide +kernel
theorem d_Tp_prepare_25 : decode cb_Tp_prepare 25 = .ok (.iadd, 1) := by decide +kernel
theorem d_Tp_prepare_26 : decode cb_Tp_prepare 26 = .ok (.iload_n 2, 1) := by decide +kernel
theorem d_Tp_prepare_27 : decode cb_Tp_prepare 27 = .ok (.bipush 24, 2) := by decide +kernel
theorem d_Tp_prepare_29 : decode cb_Tp_prepare 29 = .ok (.bipush 8, 2) := by decide +kernel
theorem d_Tp_prepare_31 : decode cb_Tp_prepare 31 = .ok (.iload_n 3, 1) := by decide +kernel
theorem d_Tp_prepare_32 : decode cb_Tp_prepare 32 = .ok (.imul, 1) := by decide +kernel
theorem d_Tp_prepare_33 : decode cb_Tp_prepare 33 = .ok (.isub, 1) := by decide +kernel
theorem d_Tp_prepare_34 : decode cb_Tp_prepare 34 = .ok (.ishr, 1) := by decide +kernel
theorem d_Tp_prepare_35 : decode cb_Tp_prepare 35 = .ok (.i2b, 1) := by decide +kernel
theorem d_Tp_prepare_36 : decode cb_Tp_prepare 36 = .ok (.bastore, 1) := by decide +kernel
theorem d_Tp_prepare_37 : decode cb_Tp_prepare 37 = .ok (.iinc 3 1, 3) := by decide +kernel
theorem d_Tp_prepare_40 : decode cb_Tp_prepare 40 = .ok (.goto (-38), 3) := by decide +kernel
theorem d_Tp_prepare_43 : decode cb_Tp_prepare 43 = .ok (.return_, 1) := by decide +kernel
abbrev cb_Tp_append : ByteArray := prog_9_method_3_code
def y_Tp_append : MethodName := ⟨R_Tp, "append", "(I)I"⟩
theorem d_Tp_append_0 : decode cb_Tp_append 0 = .ok (.iload_n 1, 1) := by decide +kernel
theorem d_Tp_append_1 : decode cb_Tp_append 1 = .ok (.ifCond .lt 21, 3) := by decide +kernel
theorem d_Tp_append_4 : decode cb_Tp_append 4 = .ok (.iload_n 1, 1) := by decide +kernel
theorem d_Tp_append_5 : decode cb_Tp_append 5 = .ok (.bipush 20, 2) := by decide +kernel
theorem d_Tp_append_7 : decode cb_Tp_append 7 = .ok (.if_icmp .gt 15, 3) := by decide +kernel
theorem d_Tp_append_10 : decode cb_Tp_append 10 = .ok (.aload_n 0, 1) := by decide +kernel
theorem d_Tp_append_11 : decode cb_Tp_append 11 = .ok (.getfield 18, 3) := by decide +kernel
theorem d_Tp_append_14 : decode cb_Tp_append 14 = .ok (.iload_n 1, 1) := by decide +kernel
theorem d_Tp_append_15 : decode cb_Tp_append 15 = .ok (.iadd, 1) := by decide +kernel
theorem d_Tp_append_16 : decode cb_Tp_append 16 = .ok (.sipush 4096, 3) := by decide +kernel
theorem d_Tp_append_19 : decode cb_Tp_append 19 = .ok (.if_icmp .le 5, 3) := by decide +kernel
theorem d_Tp_append_22 : decode cb_Tp_append 22 = .ok (.iconst (-1), 1) := by decide +kernel
theorem d_Tp_append_23 : decode cb_Tp_append 23 = .ok (.ireturn, 1) := by decide +kernel
theorem d_Tp_append_24 : decode cb_Tp_append 24 = .ok (.aload_n 0, 1) := by decide +kernel
theorem d_Tp_append_25 : decode cb_Tp_append 25 = .ok (.getfield 15, 3) := by decide +kernel
theorem d_Tp_append_28 : decode cb_Tp_append 28 = .ok (.iconst 0, 1) := by decide +kernel
theorem d_Tp_append_29 : decode cb_Tp_append 29 = .ok (.aload_n 0, 1) := by decide +kernel
theorem d_Tp_append_30 : decode cb_Tp_append 30 = .ok (.getfield 11, 3) := by decide +kernel
theorem d_Tp_append_33 : decode cb_Tp_append 33 = .ok (.aload_n 0, 1) := by decide +kernel
theorem d_Tp_append_34 : decode cb_Tp_append 34 = .ok (.getfield 18, 3) := by decide +kernel
theorem d_Tp_append_37 : decode cb_Tp_append 37 = .ok (.iload_n 1, 1) := by decide +kernel
theorem d_Tp_append_38 : decode cb_Tp_append 38 = .ok (.invokestatic 22, 3) := by decide +kernel
theorem d_Tp_append_41 : decode cb_Tp_append 41 = .ok (.aload_n 0, 1) := by decide +kernel
theorem d_Tp_append_42 : decode cb_Tp_append 42 = .ok (.getfield 15, 3) := by decide +kernel
theorem d_Tp_append_45 : decode cb_Tp_append 45 = .ok (.iconst 0, 1) := by decide +kernel
theorem d_Tp_append_46 : decode cb_Tp_append 46 = .ok (.invokestatic 28, 3) := by decide +kernel
theorem d_Tp_append_49 : decode cb_Tp_append 49 = .ok (.aload_n 0, 1) := by decide +kernel
theorem d_Tp_append_50 : decode cb_Tp_append 50 = .ok (.dup, 1) := by decide +kernel
theorem d_Tp_append_51 : decode cb_Tp_append 51 = .ok (.getfield 18, 3) := by decide +kernel
theorem d_Tp_append_54 : decode cb_Tp_append 54 = .ok (.iload_n 1, 1) := by decide +kernel
theorem d_Tp_append_55 : decode cb_Tp_append 55 = .ok (.iadd, 1) := by decide +kernel
theorem d_Tp_append_56 : decode cb_Tp_append 56 = .ok (.putfield 18, 3) := by decide +kernel
theorem d_Tp_append_59 : decode cb_Tp_append 59 = .ok (.aload_n 0, 1) := by decide +kernel
theorem d_Tp_append_60 : decode cb_Tp_append 60 = .ok (.getfield 18, 3) := by decide +kernel
theorem d_Tp_append_63 : decode cb_Tp_append 63 = .ok (.ireturn, 1) := by decide +kernel
abbrev cb_Tp_useUp : ByteArray := prog_9_method_4_code
def y_Tp_useUp : MethodName := ⟨R_Tp, "useUp", "()I"⟩
theorem d_Tp_useUp_0 : decode cb_Tp_useUp 0 = .ok (.aload_n 0, 1) := by decide +kernel
theorem d_Tp_useUp_1 : decode cb_Tp_useUp 1 = .ok (.getfield 18, 3) := by decide +kernel
theorem d_Tp_useUp_4 : decode cb_Tp_useUp 4 = .ok (.istore_n 1, 1) := by decide +kernel
theorem d_Tp_useUp_5 : decode cb_Tp_useUp 5 = .ok (.aload_n 0, 1) := by decide +kernel
theorem d_Tp_useUp_6 : decode cb_Tp_useUp 6 = .ok (.iconst 0, 1) := by decide +kernel
theorem d_Tp_useUp_7 : decode cb_Tp_useUp 7 = .ok (.putfield 18, 3) := by decide +kernel
theorem d_Tp_useUp_10 : decode cb_Tp_useUp 10 = .ok (.iload_n 1, 1) := by decide +kernel
theorem d_Tp_useUp_11 : decode cb_Tp_useUp 11 = .ok (.ireturn, 1) := by decide +kernel
abbrev cb_Tp_one : ByteArray := prog_9_method_5_code
def y_Tp_one : MethodName := ⟨R_Tp, "one", "(I)I"⟩
theorem d_Tp_one_0 : decode cb_Tp_one 0 = .ok (.iload_n 1, 1) := by decide +kernel
theorem d_Tp_one_1 : decode cb_Tp_one 1 = .ok (.ifCond .lt 23, 3) := by decide +kernel
theorem d_Tp_one_4 : decode cb_Tp_one 4 = .ok (.iload_n 1, 1) := by decide +kernel
theorem d_Tp_one_5 : decode cb_Tp_one 5 = .ok (.sipush 4096, 3) := by decide +kernel
theorem d_Tp_one_8 : decode cb_Tp_one 8 = .ok (.if_icmp .ge 16, 3) := by decide +kernel
theorem d_Tp_one_11 : decode cb_Tp_one 11 = .ok (.aload_n 0, 1) := by decide +kernel
theorem d_Tp_one_12 : decode cb_Tp_one 12 = .ok (.getfield 11, 3) := by decide +kernel
theorem d_Tp_one_15 : decode cb_Tp_one 15 = .ok (.iload_n 1, 1) := by decide +kernel
theorem d_Tp_one_16 : decode cb_Tp_one 16 = .ok (.baload, 1) := by decide +kernel
theorem d_Tp_one_17 : decode cb_Tp_one 17 = .ok (.sipush 255, 3) := by decide +kernel
theorem d_Tp_one_20 : decode cb_Tp_one 20 = .ok (.iand, 1) := by decide +kernel
theorem d_Tp_one_21 : decode cb_Tp_one 21 = .ok (.goto 4, 3) := by decide +kernel
theorem d_Tp_one_24 : decode cb_Tp_one 24 = .ok (.iconst 0, 1) := by decide +kernel
theorem d_Tp_one_25 : decode cb_Tp_one 25 = .ok (.ireturn, 1) := by decide +kernel
abbrev cb_Tp_isLabel : ByteArray := prog_9_method_6_code
def y_Tp_isLabel : MethodName := ⟨R_Tp, "isLabel", "(I)Z"⟩
theorem d_Tp_isLabel_0 : decode cb_Tp_isLabel 0 = .ok (.iload_n 1, 1) := by decide +kernel
theorem d_Tp_isLabel_1 : decode cb_Tp_isLabel 1 = .ok (.bipush 11, 2) := by decide +kernel
theorem d_Tp_isLabel_3 : decode cb_Tp_isLabel 3 = .ok (.if_icmp .gt 17, 3) := by decide +kernel
theorem d_Tp_isLabel_6 : decode cb_Tp_isLabel 6 = .ok (.iload_n 1, 1) := by decide +kernel
theorem d_Tp_isLabel_7 : decode cb_Tp_isLabel 7 = .ok (.ifCond .le 15, 3) := by decide +kernel
theorem d_Tp_isLabel_10 : decode cb_Tp_isLabel 10 = .ok (.aload_n 0, 1) := by decide +kernel
theorem d_Tp_isLabel_11 : decode cb_Tp_isLabel 11 = .ok (.iconst 0, 1) := by decide +kernel
theorem d_Tp_isLabel_12 : decode cb_Tp_isLabel 12 = .ok (.invokevirtual 34, 3) := by decide +kernel
theorem d_Tp_isLabel_15 : decode cb_Tp_isLabel 15 = .ok (.bipush 32, 2) := by decide +kernel
theorem d_Tp_isLabel_17 : decode cb_Tp_isLabel 17 = .ok (.if_icmp .ne 5, 3) := by decide +kernel
theorem d_Tp_isLabel_20 : decode cb_Tp_isLabel 20 = .ok (.iconst 0, 1) := by decide +kernel
theorem d_Tp_isLabel_21 : decode cb_Tp_isLabel 21 = .ok (.ireturn, 1) := by decide +kernel
theorem d_Tp_isLabel_22 : decode cb_Tp_isLabel 22 = .ok (.iconst 0, 1) := by decide +kernel
theorem d_Tp_isLabel_23 : decode cb_Tp_isLabel 23 = .ok (.istore_n 2, 1) := by decide +kernel
theorem d_Tp_isLabel_24 : decode cb_Tp_isLabel 24 = .ok (.iload_n 2, 1) := by decide +kernel
theorem d_Tp_isLabel_25 : decode cb_Tp_isLabel 25 = .ok (.iload_n 1, 1) := by decide +kernel
theorem d_Tp_isLabel_26 : decode cb_Tp_isLabel 26 = .ok (.if_icmp .ge 32, 3) := by decide +kernel
theorem d_Tp_isLabel_29 : decode cb_Tp_isLabel 29 = .ok (.aload_n 0, 1) := by decide +kernel
theorem d_Tp_isLabel_30 : decode cb_Tp_isLabel 30 = .ok (.iload_n 2, 1) := by decide +kernel
theorem d_Tp_isLabel_31 : decode cb_Tp_isLabel 31 = .ok (.invokevirtual 34, 3) := by decide +kernel
theorem d_Tp_isLabel_34 : decode cb_Tp_isLabel 34 = .ok (.bipush 32, 2) := by decide +kernel
theorem d_Tp_isLabel_36 : decode cb_Tp_isLabel 36 = .ok (.if_icmp .eq 16, 3) := by decide +kernel
theorem d_Tp_isLabel_39 : decode cb_Tp_isLabel 39 = .ok (.aload_n 0, 1) := by decide +kernel
theorem d_Tp_isLabel_40 : decode cb_Tp_isLabel 40 = .ok (.iload_n 2, 1) := by decide +kernel
theorem d_Tp_isLabel_41 : decode cb_Tp_isLabel 41 = .ok (.invokevirtual 34, 3) := by decide +kernel
theorem d_Tp_isLabel_44 : decode cb_Tp_isLabel 44 = .ok (.invokestatic 38, 3) := by decide +kernel
theorem d_Tp_isLabel_47 : decode cb_Tp_isLabel 47 = .ok (.ifCond .ne 5, 3) := by decide +kernel
theorem d_Tp_isLabel_50 : decode cb_Tp_isLabel 50 = .ok (.iconst 0, 1) := by decide +kernel
theorem d_Tp_isLabel_51 : decode cb_Tp_isLabel 51 = .ok (.ireturn, 1) := by decide +kernel
theorem d_Tp_isLabel_52 : decode cb_Tp_isLabel 52 = .ok (.iinc 2 1, 3) := by decide +kernel
theorem d_Tp_isLabel_55 : decode cb_Tp_isLabel 55 = .ok (.goto (-31), 3) := by decide +kernel
theorem d_Tp_isLabel_58 : decode cb_Tp_isLabel 58 = .ok (.iconst 1, 1) := by decide +kernel
theorem d_Tp_isLabel_59 : decode cb_Tp_isLabel 59 = .ok (.ireturn, 1) := by decide +kernel
def K_Tp : List Cond := [(.initialized "VolumeTurner$Tape"), (.instantiable "VolumeTurner$Tape" 3), (.instanceMethod y_Tp_init), (.code y_Tp_init prog_9_method_1_code 1 none), (.methodLink "VolumeTurner$Tape" 3 objectInit), (.fieldLink "VolumeTurner$Tape" 11 "VolumeTurner$Tape" "bytes" "[B"), (.fieldLink "VolumeTurner$Tape" 15 "VolumeTurner$Tape" "ready" "[B"), (.fieldLink "VolumeTurner$Tape" 18 "VolumeTurner$Tape" "used" "I"), (.instanceMethod y_Tp_prepare), (.selects "VolumeTurner$Tape" y_Tp_prepare y_Tp_prepare), (.code y_Tp_prepare prog_9_method_2_code 4 none), (.instanceMethod y_Tp_append), (.selects "VolumeTurner$Tape" y_Tp_append y_Tp_append), (.code y_Tp_append prog_9_method_3_code 2 (some .int)), (.methodLink "VolumeTurner$Tape" 22 ⟨"java/lang/System", "arraycopy", "(Ljava/lang/Object;ILjava/lang/Object;II)V"⟩), (.methodLink "VolumeTurner$Tape" 28 ⟨"java/util/Arrays", "fill", "([BB)V"⟩), (.instanceMethod y_Tp_useUp), (.selects "VolumeTurner$Tape" y_Tp_useUp y_Tp_useUp), (.code y_Tp_useUp prog_9_method_4_code 2 (some .int)), (.instanceMethod y_Tp_isLabel), (.selects "VolumeTurner$Tape" y_Tp_isLabel y_Tp_isLabel), (.code y_Tp_isLabel prog_9_method_6_code 3 (some .boolean)), (.methodLink "VolumeTurner$Tape" 34 y_Tp_one), (.instanceMethod y_Tp_one), (.selects "VolumeTurner$Tape" y_Tp_one y_Tp_one), (.code y_Tp_one prog_9_method_5_code 2 (some .int)), (.methodLink "VolumeTurner$Tape" 38 y_Wo_mayBeShort)]
theorem j_Tp_0 : (.initialized "VolumeTurner$Tape") ∈ K_Tp := List.mem_of_getElem? (i := 0) rfl
theorem j_Tp_1 : (.instantiable "VolumeTurner$Tape" 3) ∈ K_Tp := List.mem_of_getElem? (i := 1) rfl
theorem j_Tp_2 : (.instanceMethod y_Tp_init) ∈ K_Tp := List.mem_of_getElem? (i := 2) rfl
theorem j_Tp_3 : (.code y_Tp_init prog_9_method_1_code 1 none) ∈ K_Tp := List.mem_of_getElem? (i := 3) rfl
theorem j_Tp_4 : (.methodLink "VolumeTurner$Tape" 3 objectInit) ∈ K_Tp := List.mem_of_getElem? (i := 4) rfl
theorem j_Tp_5 : (.fieldLink "VolumeTurner$Tape" 11 "VolumeTurner$Tape" "bytes" "[B") ∈ K_Tp := List.mem_of_getElem? (i := 5) rfl
theorem j_Tp_6 : (.fieldLink "VolumeTurner$Tape" 15 "VolumeTurner$Tape" "ready" "[B") ∈ K_Tp := List.mem_of_getElem? (i := 6) rfl
theorem j_Tp_7 : (.fieldLink "VolumeTurner$Tape" 18 "VolumeTurner$Tape" "used" "I") ∈ K_Tp := List.mem_of_getElem? (i := 7) rfl
theorem j_Tp_8 : (.instanceMethod y_Tp_prepare) ∈ K_Tp := List.mem_of_getElem? (i := 8) rfl
theorem j_Tp_9 : (.selects "VolumeTurner$Tape" y_Tp_prepare y_Tp_prepare) ∈ K_Tp := List.mem_of_getElem? (i := 9) rfl
theorem j_Tp_10 : (.code y_Tp_prepare prog_9_method_2_code 4 none) ∈ K_Tp := List.mem_of_getElem? (i := 10) rfl
theorem j_Tp_11 : (.instanceMethod y_Tp_append) ∈ K_Tp := List.mem_of_getElem? (i := 11) rfl
theorem j_Tp_12 : (.selects "VolumeTurner$Tape" y_Tp_append y_Tp_append) ∈ K_Tp := List.mem_of_getElem? (i := 12) rfl
theorem j_Tp_13 : (.code y_Tp_append prog_9_method_3_code 2 (some .int)) ∈ K_Tp := List.mem_of_getElem? (i := 13) rfl
theorem j_Tp_14 : (.methodLink "VolumeTurner$Tape" 22 ⟨"java/lang/System", "arraycopy", "(Ljava/lang/Object;ILjava/lang/Object;II)V"⟩) ∈ K_Tp := List.mem_of_getElem? (i := 14) rfl
theorem j_Tp_15 : (.methodLink "VolumeTurner$Tape" 28 ⟨"java/util/Arrays", "fill", "([BB)V"⟩) ∈ K_Tp := List.mem_of_getElem? (i := 15) rfl
theorem j_Tp_16 : (.instanceMethod y_Tp_useUp) ∈ K_Tp := List.mem_of_getElem? (i := 16) rfl
theorem j_Tp_17 : (.selects "VolumeTurner$Tape" y_Tp_useUp y_Tp_useUp) ∈ K_Tp := List.mem_of_getElem? (i := 17) rfl
theorem j_Tp_18 : (.code y_Tp_useUp prog_9_method_4_code 2 (some .int)) ∈ K_Tp := List.mem_of_getElem? (i := 18) rfl
theorem j_Tp_19 : (.instanceMethod y_Tp_isLabel) ∈ K_Tp := List.mem_of_getElem? (i := 19) rfl
theorem j_Tp_20 : (.selects "VolumeTurner$Tape" y_Tp_isLabel y_Tp_isLabel) ∈ K_Tp := List.mem_of_getElem? (i := 20) rfl
theorem j_Tp_21 : (.code y_Tp_isLabel prog_9_method_6_code 3 (some .boolean)) ∈ K_Tp := List.mem_of_getElem? (i := 21) rfl
theorem j_Tp_22 : (.methodLink "VolumeTurner$Tape" 34 y_Tp_one) ∈ K_Tp := List.mem_of_getElem? (i := 22) rfl
theorem j_Tp_23 : (.instanceMethod y_Tp_one) ∈ K_Tp := List.mem_of_getElem? (i := 23) rfl
theorem j_Tp_24 : (.selects "VolumeTurner$Tape" y_Tp_one y_Tp_one) ∈ K_Tp := List.mem_of_getElem? (i := 24) rfl
theorem j_Tp_25 : (.code y_Tp_one prog_9_method_5_code 2 (some .int)) ∈ K_Tp := List.mem_of_getElem? (i := 25) rfl
theorem j_Tp_26 : (.methodLink "VolumeTurner$Tape" 38 y_Wo_mayBeShort) ∈ K_Tp := List.mem_of_getElem? (i := 26) rfl
def V_Tp : List Cond := w_Tp ++ (K_Tp ++ V_Da)
theorem i_Tp : ∀ w ∈ w_Tp, w ∈ V_Tp := fun _ h => List.mem_append_left _ h
theorem kk_Tp : ∀ w ∈ K_Tp, w ∈ V_Tp := fun _ h => List.mem_append_right _ (List.mem_append_left _ h)
theorem u_Tp_Da : ∀ w ∈ V_Da, w ∈ V_Tp := fun _ h => List.mem_append_right _ (List.mem_append_right _ h)
theorem u_Tp_J : ∀ w ∈ V_J, w ∈ V_Tp := fun w h => u_Tp_Da w (u_Da_J w h)
theorem u_Tp_Dk : ∀ w ∈ V_Dk, w ∈ V_Tp := fun w h => u_Tp_Da w (u_Da_Dk w h)
theorem u_Tp_Wo : ∀ w ∈ V_Wo, w ∈ V_Tp := fun w h => u_Tp_Da w (u_Da_Wo w h)
theorem k_Tp_0 : (.initialized "VolumeTurner$Tape") ∈ V_Tp := kk_Tp _ j_Tp_0
theorem k_Tp_1 : (.instantiable "VolumeTurner$Tape" 3) ∈ V_Tp := kk_Tp _ j_Tp_1
theorem k_Tp_2 : (.instanceMethod y_Tp_init) ∈ V_Tp := kk_Tp _ j_Tp_2
theorem k_Tp_3 : (.code y_Tp_init prog_9_method_1_code 1 none) ∈ V_Tp := kk_Tp _ j_Tp_3
theorem k_Tp_4 : (.methodLink "VolumeTurner$Tape" 3 objectInit) ∈ V_Tp := kk_Tp _ j_Tp_4
theorem k_Tp_5 : (.fieldLink "VolumeTurner$Tape" 11 "VolumeTurner$Tape" "bytes" "[B") ∈ V_Tp := kk_Tp _ j_Tp_5
theorem k_Tp_6 : (.fieldLink "VolumeTurner$Tape" 15 "VolumeTurner$Tape" "ready" "[B") ∈ V_Tp := kk_Tp _ j_Tp_6
theorem k_Tp_7 : (.fieldLink "VolumeTurner$Tape" 18 "VolumeTurner$Tape" "used" "I") ∈ V_Tp := kk_Tp _ j_Tp_7
theorem k_Tp_8 : (.instanceMethod y_Tp_prepare) ∈ V_Tp := kk_Tp _ j_Tp_8
theorem k_Tp_9 : (.selects "VolumeTurner$Tape" y_Tp_prepare y_Tp_prepare) ∈ V_Tp := kk_Tp _ j_Tp_9
theorem k_Tp_10 : (.code y_Tp_prepare prog_9_method_2_code 4 none) ∈ V_Tp := kk_Tp _ j_Tp_10
theorem k_Tp_11 : (.instanceMethod y_Tp_append) ∈ V_Tp := kk_Tp _ j_Tp_11
theorem k_Tp_12 : (.selects "VolumeTurner$Tape" y_Tp_append y_Tp_append) ∈ V_Tp := kk_Tp _ j_Tp_12
theorem k_Tp_13 : (.code y_Tp_append prog_9_method_3_code 2 (some .int)) ∈ V_Tp := kk_Tp _ j_Tp_13
theorem k_Tp_14 : (.methodLink "VolumeTurner$Tape" 22 ⟨"java/lang/System", "arraycopy", "(Ljava/lang/Object;ILjava/lang/Object;II)V"⟩) ∈ V_Tp := kk_Tp _ j_Tp_14
theorem k_Tp_15 : (.methodLink "VolumeTurner$Tape" 28 ⟨"java/util/Arrays", "fill", "([BB)V"⟩) ∈ V_Tp := kk_Tp _ j_Tp_15
theorem k_Tp_16 : (.instanceMethod y_Tp_useUp) ∈ V_Tp := kk_Tp _ j_Tp_16
theorem k_Tp_17 : (.selects "VolumeTurner$Tape" y_Tp_useUp y_Tp_useUp) ∈ V_Tp := kk_Tp _ j_Tp_17
theorem k_Tp_18 : (.code y_Tp_useUp prog_9_method_4_code 2 (some .int)) ∈ V_Tp := kk_Tp _ j_Tp_18
theorem k_Tp_19 : (.instanceMethod y_Tp_isLabel) ∈ V_Tp := kk_Tp _ j_Tp_19
theorem k_Tp_20 : (.selects "VolumeTurner$Tape" y_Tp_isLabel y_Tp_isLabel) ∈ V_Tp := kk_Tp _ j_Tp_20
theorem k_Tp_21 : (.code y_Tp_isLabel prog_9_method_6_code 3 (some .boolean)) ∈ V_Tp := kk_Tp _ j_Tp_21
theorem k_Tp_22 : (.methodLink "VolumeTurner$Tape" 34 y_Tp_one) ∈ V_Tp := kk_Tp _ j_Tp_22
theorem k_Tp_23 : (.instanceMethod y_Tp_one) ∈ V_Tp := kk_Tp _ j_Tp_23
theorem k_Tp_24 : (.selects "VolumeTurner$Tape" y_Tp_one y_Tp_one) ∈ V_Tp := kk_Tp _ j_Tp_24
theorem k_Tp_25 : (.code y_Tp_one prog_9_method_5_code 2 (some .int)) ∈ V_Tp := kk_Tp _ j_Tp_25
theorem k_Tp_26 : (.methodLink "VolumeTurner$Tape" 38 y_Wo_mayBeShort) ∈ V_Tp := kk_Tp _ j_Tp_26
theorem gk_Tp : ∀ w ∈ w_Tp ++ K_Tp, goodWord w = true := List.all_eq_true.mp (by decide +kernel)
theorem good_Tp : GoodIn V_Tp V_Tp := fun w h => by
  refine ⟨h, ?_⟩
  rcases List.mem_append.mp h with q | q
  · exact good_of_word (gk_Tp w (List.mem_append_left _ q))
  · rcases List.mem_append.mp q with q | q
    · exact good_of_word (gk_Tp w (List.mem_append_right _ q))
    · exact (good_Da w q).2
