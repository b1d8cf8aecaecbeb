abbrev b_La_cell : ByteArray := method_2_code
def y_La_cell : MethodName := ⟨R_La, "cell", "([II)I"⟩
theorem d_La_cell_0 : decode b_La_cell 0 = .ok (.iload_n 1, 1) := by decide +kernel
theorem d_La_cell_1 : decode b_La_cell 1 = .ok (.aload_n 0, 1) := by decide +kernel
theorem d_La_cell_2 : decode b_La_cell 2 = .ok (.arraylength, 1) := by decide +kernel
theorem d_La_cell_3 : decode b_La_cell 3 = .ok (.if_icmp .ge 9, 3) := by decide +kernel
theorem d_La_cell_6 : decode b_La_cell 6 = .ok (.aload_n 0, 1) := by decide +kernel
theorem d_La_cell_7 : decode b_La_cell 7 = .ok (.iload_n 1, 1) := by decide +kernel
theorem d_La_cell_8 : decode b_La_cell 8 = .ok (.iaload, 1) := by decide +kernel
theorem d_La_cell_9 : decode b_La_cell 9 = .ok (.goto 4, 3) := by decide +kernel
theorem d_La_cell_12 : decode b_La_cell 12 = .ok (.iconst 0, 1) := by decide +kernel
theorem d_La_cell_13 : decode b_La_cell 13 = .ok (.ireturn, 1) := by decide +kernel
abbrev b_La_format : ByteArray := method_3_code
def y_La_format : MethodName := ⟨R_La, "format", "(LVolumeTurner;IIII[J)I"⟩
theorem d_La_format_0 : decode b_La_format 0 = .ok (.aload 5, 2) := by decide +kernel
theorem d_La_format_2 : decode b_La_format 2 = .ok (.iconst 0, 1) := by decide +kernel
theorem d_La_format_3 : decode b_La_format 3 = .ok (.aload_n 0, 1) := by decide +kernel
theorem d_La_format_4 : decode b_La_format 4 = .ok (.iload_n 1, 1) := by decide +kernel
theorem d_La_format_5 : decode b_La_format 5 = .ok (.iload_n 2, 1) := by decide +kernel
theorem d_La_format_6 : decode b_La_format 6 = .ok (.iload_n 3, 1) := by decide +kernel
theorem d_La_format_7 : decode b_La_format 7 = .ok (.iload 4, 2) := by decide +kernel
theorem d_La_format_9 : decode b_La_format 9 = .ok (.invokevirtual 7, 3) := by decide +kernel
theorem d_La_format_12 : decode b_La_format 12 = .ok (.i2l, 1) := by decide +kernel
theorem d_La_format_13 : decode b_La_format 13 = .ok (.lastore, 1) := by decide +kernel
theorem d_La_format_14 : decode b_La_format 14 = .ok (.goto 7, 3) := by decide +kernel
theorem d_La_format_17 : decode b_La_format 17 = .ok (.astore 6, 2) := by decide +kernel
theorem d_La_format_19 : decode b_La_format 19 = .ok (.iconst 1, 1) := by decide +kernel
theorem d_La_format_20 : decode b_La_format 20 = .ok (.ireturn, 1) := by decide +kernel
theorem d_La_format_21 : decode b_La_format 21 = .ok (.iconst 0, 1) := by decide +kernel
theorem d_La_format_22 : decode b_La_format 22 = .ok (.ireturn, 1) := by decide +kernel
abbrev b_La_items : ByteArray := method_4_code
def y_La_items : MethodName := ⟨R_La, "items", "(LVolumeTurner;[J)I"⟩
theorem d_La_items_0 : decode b_La_items 0 = .ok (.aload_n 1, 1) := by decide +kernel
theorem d_La_items_1 : decode b_La_items 1 = .ok (.iconst 0, 1) := by decide +kernel
theorem d_La_items_2 : decode b_La_items 2 = .ok (.aload_n 0, 1) := by decide +kernel
theorem d_La_items_3 : decode b_La_items 3 = .ok (.invokevirtual 15, 3) := by decide +kernel
theorem d_La_items_6 : decode b_La_items 6 = .ok (.i2l, 1) := by decide +kernel
theorem d_La_items_7 : decode b_La_items 7 = .ok (.lastore, 1) := by decide +kernel
theorem d_La_items_8 : decode b_La_items 8 = .ok (.goto 6, 3) := by decide +kernel
theorem d_La_items_11 : decode b_La_items 11 = .ok (.astore_n 2, 1) := by decide +kernel
theorem d_La_items_12 : decode b_La_items 12 = .ok (.iconst 1, 1) := by decide +kernel
theorem d_La_items_13 : decode b_La_items 13 = .ok (.ireturn, 1) := by decide +kernel
theorem d_La_items_14 : decode b_La_items 14 = .ok (.iconst 0, 1) := by decide +kernel
theorem d_La_items_15 : decode b_La_items 15 = .ok (.ireturn, 1) := by decide +kernel
abbrev b_La_letter : ByteArray := method_5_code
def y_La_letter : MethodName := ⟨R_La, "letter", "(LVolumeTurner;II[J)I"⟩
theorem d_La_letter_0 : decode b_La_letter 0 = .ok (.aload_n 3, 1) := by decide +kernel
theorem d_La_letter_1 : decode b_La_letter 1 = .ok (.iconst 0, 1) := by decide +kernel
theorem d_La_letter_2 : decode b_La_letter 2 = .ok (.aload_n 0, 1) := by decide +kernel
theorem d_La_letter_3 : decode b_La_letter 3 = .ok (.iload_n 1, 1) := by decide +kernel
theorem d_La_letter_4 : decode b_La_letter 4 = .ok (.iload_n 2, 1) := by decide +kernel
theorem d_La_letter_5 : decode b_La_letter 5 = .ok (.invokevirtual 21, 3) := by decide +kernel
theorem d_La_letter_8 : decode b_La_letter 8 = .ok (.i2l, 1) := by decide +kernel
theorem d_La_letter_9 : decode b_La_letter 9 = .ok (.lastore, 1) := by decide +kernel
theorem d_La_letter_10 : decode b_La_letter 10 = .ok (.goto 11, 3) := by decide +kernel
theorem d_La_letter_13 : decode b_La_letter 13 = .ok (.astore 4, 2) := by decide +kernel
theorem d_La_letter_15 : decode b_La_letter 15 = .ok (.iconst 1, 1) := by decide +kernel
theorem d_La_letter_16 : decode b_La_letter 16 = .ok (.ireturn, 1) := by decide +kernel
theorem d_La_letter_17 : decode b_La_letter 17 = .ok (.astore 4, 2) := by decide +kernel
theorem d_La_letter_19 : decode b_La_letter 19 = .ok (.iconst 2, 1) := by decide +kernel
theorem d_La_letter_20 : decode b_La_letter 20 = .ok (.ireturn, 1) := by decide +kernel
theorem d_La_letter_21 : decode b_La_letter 21 = .ok (.iconst 0, 1) := by decide +kernel
theorem d_La_letter_22 : decode b_La_letter 22 = .ok (.ireturn, 1) := by decide +kernel
abbrev b_La_about : ByteArray := method_6_code
def y_La_about : MethodName := ⟨R_La, "about", "(LVolumeTurner;II[J)I"⟩
theorem d_La_about_0 : decode b_La_about 0 = .ok (.aload_n 3, 1) := by decide +kernel
theorem d_La_about_1 : decode b_La_about 1 = .ok (.iconst 0, 1) := by decide +kernel
theorem d_La_about_2 : decode b_La_about 2 = .ok (.aload_n 0, 1) := by decide +kernel
theorem d_La_about_3 : decode b_La_about 3 = .ok (.iload_n 1, 1) := by decide +kernel
theorem d_La_about_4 : decode b_La_about 4 = .ok (.iload_n 2, 1) := by decide +kernel
theorem d_La_about_5 : decode b_La_about 5 = .ok (.invokevirtual 27, 3) := by decide +kernel
theorem d_La_about_8 : decode b_La_about 8 = .ok (.lastore, 1) := by decide +kernel
theorem d_La_about_9 : decode b_La_about 9 = .ok (.goto 15, 3) := by decide +kernel
theorem d_La_about_12 : decode b_La_about 12 = .ok (.astore 4, 2) := by decide +kernel
theorem d_La_about_14 : decode b_La_about 14 = .ok (.iconst 1, 1) := by decide +kernel
theorem d_La_about_15 : decode b_La_about 15 = .ok (.ireturn, 1) := by decide +kernel
theorem d_La_about_16 : decode b_La_about 16 = .ok (.astore 4, 2) := by decide +kernel
theorem d_La_about_18 : decode b_La_about 18 = .ok (.iconst 2, 1) := by decide +kernel
theorem d_La_about_19 : decode b_La_about 19 = .ok (.ireturn, 1) := by decide +kernel
theorem d_La_about_20 : decode b_La_about 20 = .ok (.astore 4, 2) := by decide +kernel
theorem d_La_about_22 : decode b_La_about 22 = .ok (.iconst 3, 1) := by decide +kernel
theorem d_La_about_23 : decode b_La_about 23 = .ok (.ireturn, 1) := by decide +kernel
theorem d_La_about_24 : decode b_La_about 24 = .ok (.iconst 0, 1) := by decide +kernel
theorem d_La_about_25 : decode b_La_about 25 = .ok (.ireturn, 1) := by decide +kernel
abbrev b_La_content : ByteArray := method_7_code
def y_La_content : MethodName := ⟨R_La, "content", "(LVolumeTurner;II[J)I"⟩
theorem d_La_content_0 : decode b_La_content 0 = .ok (.aload_n 3, 1) := by decide +kernel
theorem d_La_content_1 : decode b_La_content 1 = .ok (.iconst 0, 1) := by decide +kernel
theorem d_La_content_2 : decode b_La_content 2 = .ok (.aload_n 0, 1) := by decide +kernel
theorem d_La_content_3 : decode b_La_content 3 = .ok (.iload_n 1, 1) := by decide +kernel
theorem d_La_content_4 : decode b_La_content 4 = .ok (.iload_n 2, 1) := by decide +kernel
theorem d_La_content_5 : decode b_La_content 5 = .ok (.invokevirtual 31, 3) := by decide +kernel
theorem d_La_content_8 : decode b_La_content 8 = .ok (.i2l, 1) := by decide +kernel
theorem d_La_content_9 : decode b_La_content 9 = .ok (.lastore, 1) := by decide +kernel
theorem d_La_content_10 : decode b_La_content 10 = .ok (.goto 11, 3) := by decide +kernel
theorem d_La_content_13 : decode b_La_content 13 = .ok (.astore 4, 2) := by decide +kernel
theorem d_La_content_15 : decode b_La_content 15 = .ok (.iconst 1, 1) := by decide +kernel
theorem d_La_content_16 : decode b_La_content 16 = .ok (.ireturn, 1) := by decide +kernel
theorem d_La_content_17 : decode b_La_content 17 = .ok (.astore 4, 2) := by decide +kernel
theorem d_La_content_19 : decode b_La_content 19 = .ok (.iconst 2, 1) := by decide +kernel
theorem d_La_content_20 : decode b_La_content 20 = .ok (.ireturn, 1) := by decide +kernel
theorem d_La_content_21 : decode b_La_content 21 = .ok (.iconst 0, 1) := by decide +kernel
theorem d_La_content_22 : decode b_La_content 22 = .ok (.ireturn, 1) := by decide +kernel
abbrev b_La_enter : ByteArray := method_8_code
def y_La_enter : MethodName := ⟨R_La, "enter", "(LVolumeTurner;I[J)I"⟩
theorem d_La_enter_0 : decode b_La_enter 0 = .ok (.aload_n 2, 1) := by decide +kernel
theorem d_La_enter_1 : decode b_La_enter 1 = .ok (.iconst 0, 1) := by decide +kernel
theorem d_La_enter_2 : decode b_La_enter 2 = .ok (.aload_n 0, 1) := by decide +kernel
theorem d_La_enter_3 : decode b_La_enter 3 = .ok (.iload_n 1, 1) := by decide +kernel
theorem d_La_enter_4 : decode b_La_enter 4 = .ok (.invokevirtual 34, 3) := by decide +kernel
theorem d_La_enter_7 : decode b_La_enter 7 = .ok (.i2l, 1) := by decide +kernel
theorem d_La_enter_8 : decode b_La_enter 8 = .ok (.lastore, 1) := by decide +kernel
theorem d_La_enter_9 : decode b_La_enter 9 = .ok (.goto 12, 3) := by decide +kernel
theorem d_La_enter_12 : decode b_La_enter 12 = .ok (.astore_n 3, 1) := by decide +kernel
theorem d_La_enter_13 : decode b_La_enter 13 = .ok (.iconst 1, 1) := by decide +kernel
theorem d_La_enter_14 : decode b_La_enter 14 = .ok (.ireturn, 1) := by decide +kernel
theorem d_La_enter_15 : decode b_La_enter 15 = .ok (.astore_n 3, 1) := by decide +kernel
theorem d_La_enter_16 : decode b_La_enter 16 = .ok (.iconst 2, 1) := by decide +kernel
theorem d_La_enter_17 : decode b_La_enter 17 = .ok (.ireturn, 1) := by decide +kernel
theorem d_La_enter_18 : decode b_La_enter 18 = .ok (.astore_n 3, 1) := by decide +kernel
theorem d_La_enter_19 : decode b_La_enter 19 = .ok (.iconst 3, 1) := by decide +kernel
theorem d_La_enter_20 : decode b_La_enter 20 = .ok (.ireturn, 1) := by decide +kernel
theorem d_La_enter_21 : decode b_La_enter 21 = .ok (.iconst 0, 1) := by decide +kernel
theorem d_La_enter_22 : decode b_La_enter 22 = .ok (.ireturn, 1) := by decide +kernel
abbrev b_La_up : ByteArray := method_9_code
def y_La_up : MethodName := ⟨R_La, "up", "(LVolumeTurner;[J)I"⟩
theorem d_La_up_0 : decode b_La_up 0 = .ok (.aload_n 1, 1) := by decide +kernel
theorem d_La_up_1 : decode b_La_up 1 = .ok (.iconst 0, 1) := by decide +kernel
theorem d_La_up_2 : decode b_La_up 2 = .ok (.aload_n 0, 1) := by decide +kernel
theorem d_La_up_3 : decode b_La_up 3 = .ok (.invokevirtual 38, 3) := by decide +kernel
theorem d_La_up_6 : decode b_La_up 6 = .ok (.ifCond .eq 7, 3) := by decide +kernel
theorem d_La_up_9 : decode b_La_up 9 = .ok (.lconst 1, 1) := by decide +kernel
theorem d_La_up_10 : decode b_La_up 10 = .ok (.goto 4, 3) := by decide +kernel
theorem d_La_up_13 : decode b_La_up 13 = .ok (.lconst 0, 1) := by decide +kernel
theorem d_La_up_14 : decode b_La_up 14 = .ok (.lastore, 1) := by decide +kernel
theorem d_La_up_15 : decode b_La_up 15 = .ok (.goto 6, 3) := by decide +kernel
theorem d_La_up_18 : decode b_La_up 18 = .ok (.astore_n 2, 1) := by decide +kernel
theorem d_La_up_19 : decode b_La_up 19 = .ok (.iconst 1, 1) := by decide +kernel
theorem d_La_up_20 : decode b_La_up 20 = .ok (.ireturn, 1) := by decide +kernel
theorem d_La_up_21 : decode b_La_up 21 = .ok (.iconst 0, 1) := by decide +kernel
theorem d_La_up_22 : decode b_La_up 22 = .ok (.ireturn, 1) := by decide +kernel
abbrev b_La_make : ByteArray := method_10_code
def y_La_make : MethodName := ⟨R_La, "make", "(LVolumeTurner;Z[J)I"⟩
theorem d_La_make_0 : decode b_La_make 0 = .ok (.aload_n 2, 1) := by decide +kernel
theorem d_La_make_1 : decode b_La_make 1 = .ok (.iconst 0, 1) := by decide +kernel
theorem d_La_make_2 : decode b_La_make 2 = .ok (.aload_n 0, 1) := by decide +kernel
theorem d_La_make_3 : decode b_La_make 3 = .ok (.iload_n 1, 1) := by decide +kernel
theorem d_La_make_4 : decode b_La_make 4 = .ok (.invokevirtual 42, 3) := by decide +kernel
theorem d_La_make_7 : decode b_La_make 7 = .ok (.i2l, 1) := by decide +kernel
theorem d_La_make_8 : decode b_La_make 8 = .ok (.lastore, 1) := by decide +kernel
theorem d_La_make_9 : decode b_La_make 9 = .ok (.goto 12, 3) := by decide +kernel
theorem d_La_make_12 : decode b_La_make 12 = .ok (.astore_n 3, 1) := by decide +kernel
theorem d_La_make_13 : decode b_La_make 13 = .ok (.iconst 1, 1) := by decide +kernel
theorem d_La_make_14 : decode b_La_make 14 = .ok (.ireturn, 1) := by decide +kernel
theorem d_La_make_15 : decode b_La_make 15 = .ok (.astore_n 3, 1) := by decide +kernel
theorem d_La_make_16 : decode b_La_make 16 = .ok (.iconst 2, 1) := by decide +kernel
theorem d_La_make_17 : decode b_La_make 17 = .ok (.ireturn, 1) := by decide +kernel
theorem d_La_make_18 : decode b_La_make 18 = .ok (.astore_n 3, 1) := by decide +kernel
theorem d_La_make_19 : decode b_La_make 19 = .ok (.iconst 3, 1) := by decide +kernel
theorem d_La_make_20 : decode b_La_make 20 = .ok (.ireturn, 1) := by decide +kernel
theorem d_La_make_21 : decode b_La_make 21 = .ok (.iconst 0, 1) := by decide +kernel
theorem d_La_make_22 : decode b_La_make 22 = .ok (.ireturn, 1) := by decide +kernel
abbrev b_La_write : ByteArray := method_11_code
def y_La_write : MethodName := ⟨R_La, "write", "(LVolumeTurner;I[J)I"⟩
theorem d_La_write_0 : decode b_La_write 0 = .ok (.aload_n 2, 1) := by decide +kernel
theorem d_La_write_1 : decode b_La_write 1 = .ok (.iconst 0, 1) := by decide +kernel
theorem d_La_write_2 : decode b_La_write 2 = .ok (.aload_n 0, 1) := by decide +kernel
theorem d_La_write_3 : decode b_La_write 3 = .ok (.iload_n 1, 1) := by decide +kernel
theorem d_La_write_4 : decode b_La_write 4 = .ok (.invokevirtual 48, 3) := by decide +kernel
theorem d_La_write_7 : decode b_La_write 7 = .ok (.i2l, 1) := by decide +kernel
theorem d_La_write_8 : decode b_La_write 8 = .ok (.lastore, 1) := by decide +kernel
theorem d_La_write_9 : decode b_La_write 9 = .ok (.goto 15, 3) := by decide +kernel
theorem d_La_write_12 : decode b_La_write 12 = .ok (.astore_n 3, 1) := by decide +kernel
theorem d_La_write_13 : decode b_La_write 13 = .ok (.iconst 1, 1) := by decide +kernel
theorem d_La_write_14 : decode b_La_write 14 = .ok (.ireturn, 1) := by decide +kernel
theorem d_La_write_15 : decode b_La_write 15 = .ok (.astore_n 3, 1) := by decide +kernel
theorem d_La_write_16 : decode b_La_write 16 = .ok (.iconst 2, 1) := by decide +kernel
theorem d_La_write_17 : decode b_La_write 17 = .ok (.ireturn, 1) := by decide +kernel
theorem d_La_write_18 : decode b_La_write 18 = .ok (.astore_n 3, 1) := by decide +kernel
theorem d_La_write_19 : decode b_La_write 19 = .ok (.iconst 3, 1) := by decide +kernel
theorem d_La_write_20 : decode b_La_write 20 = .ok (.ireturn, 1) := by decide +kernel
theorem d_La_write_21 : decode b_La_write 21 = .ok (.astore_n 3, 1) := by decide +kernel
theorem d_La_write_22 : decode b_La_write 22 = .ok (.iconst 4, 1) := by decide +kernel
theorem d_La_write_23 : decode b_La_write 23 = .ok (.ireturn, 1) := by decide +kernel
theorem d_La_write_24 : decode b_La_write 24 = .ok (.iconst 0, 1) := by decide +kernel
theorem d_La_write_25 : decode b_La_write 25 = .ok (.ireturn, 1) := by decide +kernel
abbrev b_La_grow : ByteArray := method_12_code
def y_La_grow : MethodName := ⟨R_La, "grow", "(LVolumeTurner;III[J)I"⟩
theorem d_La_grow_0 : decode b_La_grow 0 = .ok (.aload 4, 2) := by decide +kernel
theorem d_La_grow_2 : decode b_La_grow 2 = .ok (.iconst 0, 1) := by decide +kernel
theorem d_La_grow_3 : decode b_La_grow 3 = .ok (.aload_n 0, 1) := by decide +kernel
theorem d_La_grow_4 : decode b_La_grow 4 = .ok (.iload_n 1, 1) := by decide +kernel
theorem d_La_grow_5 : decode b_La_grow 5 = .ok (.iload_n 2, 1) := by decide +kernel
theorem d_La_grow_6 : decode b_La_grow 6 = .ok (.iload_n 3, 1) := by decide +kernel
theorem d_La_grow_7 : decode b_La_grow 7 = .ok (.invokevirtual 51, 3) := by decide +kernel
theorem d_La_grow_10 : decode b_La_grow 10 = .ok (.i2l, 1) := by decide +kernel
theorem d_La_grow_11 : decode b_La_grow 11 = .ok (.lastore, 1) := by decide +kernel
theorem d_La_grow_12 : decode b_La_grow 12 = .ok (.goto 19, 3) := by decide +kernel
theorem d_La_grow_15 : decode b_La_grow 15 = .ok (.astore 5, 2) := by decide +kernel
theorem d_La_grow_17 : decode b_La_grow 17 = .ok (.iconst 1, 1) := by decide +kernel
theorem d_La_grow_18 : decode b_La_grow 18 = .ok (.ireturn, 1) := by decide +kernel
theorem d_La_grow_19 : decode b_La_grow 19 = .ok (.astore 5, 2) := by decide +kernel
theorem d_La_grow_21 : decode b_La_grow 21 = .ok (.iconst 2, 1) := by decide +kernel
theorem d_La_grow_22 : decode b_La_grow 22 = .ok (.ireturn, 1) := by decide +kernel
theorem d_La_grow_23 : decode b_La_grow 23 = .ok (.astore 5, 2) := by decide +kernel
theorem d_La_grow_25 : decode b_La_grow 25 = .ok (.iconst 3, 1) := by decide +kernel
theorem d_La_grow_26 : decode b_La_grow 26 = .ok (.ireturn, 1) := by decide +kernel
theorem d_La_grow_27 : decode b_La_grow 27 = .ok (.astore 5, 2) := by decide +kernel
theorem d_La_grow_29 : decode b_La_grow 29 = .ok (.iconst 4, 1) := by decide +kernel
theorem d_La_grow_30 : decode b_La_grow 30 = .ok (.ireturn, 1) := by decide +kernel
theorem d_La_grow_31 : decode b_La_grow 31 = .ok (.iconst 0, 1) := by decide +kernel
theorem d_La_grow_32 : decode b_La_grow 32 = .ok (.ireturn, 1) := by decide +kernel
abbrev b_La_cut : ByteArray := method_13_code
def y_La_cut : MethodName := ⟨R_La, "cut", "(LVolumeTurner;II[J)I"⟩
theorem d_La_cut_0 : decode b_La_cut 0 = .ok (.aload_n 3, 1) := by decide +kernel
theorem d_La_cut_1 : decode b_La_cut 1 = .ok (.iconst 0, 1) := by decide +kernel
theorem d_La_cut_2 : decode b_La_cut 2 = .ok (.aload_n 0, 1) := by decide +kernel
theorem d_La_cut_3 : decode b_La_cut 3 = .ok (.iload_n 1, 1) := by decide +kernel
theorem d_La_cut_4 : decode b_La_cut 4 = .ok (.iload_n 2, 1) := by decide +kernel
theorem d_La_cut_5 : decode b_La_cut 5 = .ok (.invokevirtual 55, 3) := by decide +kernel
theorem d_La_cut_8 : decode b_La_cut 8 = .ok (.i2l, 1) := by decide +kernel
theorem d_La_cut_9 : decode b_La_cut 9 = .ok (.lastore, 1) := by decide +kernel
theorem d_La_cut_10 : decode b_La_cut 10 = .ok (.goto 15, 3) := by decide +kernel
theorem d_La_cut_13 : decode b_La_cut 13 = .ok (.astore 4, 2) := by decide +kernel
theorem d_La_cut_15 : decode b_La_cut 15 = .ok (.iconst 1, 1) := by decide +kernel
theorem d_La_cut_16 : decode b_La_cut 16 = .ok (.ireturn, 1) := by decide +kernel
theorem d_La_cut_17 : decode b_La_cut 17 = .ok (.astore 4, 2) := by decide +kernel
theorem d_La_cut_19 : decode b_La_cut 19 = .ok (.iconst 2, 1) := by decide +kernel
theorem d_La_cut_20 : decode b_La_cut 20 = .ok (.ireturn, 1) := by decide +kernel
theorem d_La_cut_21 : decode b_La_cut 21 = .ok (.astore 4, 2) := by decide +kernel
theorem d_La_cut_23 : decode b_La_cut 23 = .ok (.iconst 3, 1) := by decide +kernel
theorem d_La_cut_24 : decode b_La_cut 24 = .ok (.ireturn, 1) := by decide +kernel
theorem d_La_cut_25 : decode b_La_cut 25 = .ok (.iconst 0, 1) := by decide +kernel
theorem d_La_cut_26 : decode b_La_cut 26 = .ok (.ireturn, 1) := by decide +kernel
abbrev b_La_remove : ByteArray := method_14_code
def y_La_remove : MethodName := ⟨R_La, "remove", "(LVolumeTurner;I)I"⟩
theorem d_La_remove_0 : decode b_La_remove 0 = .ok (.aload_n 0, 1) := by decide +kernel
theorem d_La_remove_1 : decode b_La_remove 1 = .ok (.iload_n 1, 1) := by decide +kernel
theorem d_La_remove_2 : decode b_La_remove 2 = .ok (.invokevirtual 58, 3) := by decide +kernel
theorem d_La_remove_5 : decode b_La_remove 5 = .ok (.goto 12, 3) := by decide +kernel
theorem d_La_remove_8 : decode b_La_remove 8 = .ok (.astore_n 2, 1) := by decide +kernel
theorem d_La_remove_9 : decode b_La_remove 9 = .ok (.iconst 1, 1) := by decide +kernel
theorem d_La_remove_10 : decode b_La_remove 10 = .ok (.ireturn, 1) := by decide +kernel
theorem d_La_remove_11 : decode b_La_remove 11 = .ok (.astore_n 2, 1) := by decide +kernel
theorem d_La_remove_12 : decode b_La_remove 12 = .ok (.iconst 2, 1) := by decide +kernel
theorem d_La_remove_13 : decode b_La_remove 13 = .ok (.ireturn, 1) := by decide +kernel
theorem d_La_remove_14 : decode b_La_remove 14 = .ok (.astore_n 2, 1) := by decide +kernel
theorem d_La_remove_15 : decode b_La_remove 15 = .ok (.iconst 3, 1) := by decide +kernel
theorem d_La_remove_16 : decode b_La_remove 16 = .ok (.ireturn, 1) := by decide +kernel
theorem d_La_remove_17 : decode b_La_remove 17 = .ok (.iconst 0, 1) := by decide +kernel
theorem d_La_remove_18 : decode b_La_remove 18 = .ok (.ireturn, 1) := by decide +kernel
abbrev b_La_stamp : ByteArray := method_15_code
def y_La_stamp : MethodName := ⟨R_La, "stamp", "(LVolumeTurner;IIII)I"⟩
theorem d_La_stamp_0 : decode b_La_stamp 0 = .ok (.aload_n 0, 1) := by decide +kernel
theorem d_La_stamp_1 : decode b_La_stamp 1 = .ok (.iload_n 1, 1) := by decide +kernel
theorem d_La_stamp_2 : decode b_La_stamp 2 = .ok (.iload_n 2, 1) := by decide +kernel
theorem d_La_stamp_3 : decode b_La_stamp 3 = .ok (.iload_n 3, 1) := by decide +kernel
theorem d_La_stamp_4 : decode b_La_stamp 4 = .ok (.iload 4, 2) := by decide +kernel
theorem d_La_stamp_6 : decode b_La_stamp 6 = .ok (.invokevirtual 62, 3) := by decide +kernel
theorem d_La_stamp_9 : decode b_La_stamp 9 = .ok (.goto 15, 3) := by decide +kernel
theorem d_La_stamp_12 : decode b_La_stamp 12 = .ok (.astore 5, 2) := by decide +kernel
theorem d_La_stamp_14 : decode b_La_stamp 14 = .ok (.iconst 1, 1) := by decide +kernel
theorem d_La_stamp_15 : decode b_La_stamp 15 = .ok (.ireturn, 1) := by decide +kernel
theorem d_La_stamp_16 : decode b_La_stamp 16 = .ok (.astore 5, 2) := by decide +kernel
theorem d_La_stamp_18 : decode b_La_stamp 18 = .ok (.iconst 2, 1) := by decide +kernel
theorem d_La_stamp_19 : decode b_La_stamp 19 = .ok (.ireturn, 1) := by decide +kernel
theorem d_La_stamp_20 : decode b_La_stamp 20 = .ok (.astore 5, 2) := by decide +kernel
theorem d_La_stamp_22 : decode b_La_stamp 22 = .ok (.iconst 3, 1) := by decide +kernel
theorem d_La_stamp_23 : decode b_La_stamp 23 = .ok (.ireturn, 1) := by decide +kernel
theorem d_La_stamp_24 : decode b_La_stamp 24 = .ok (.iconst 0, 1) := by decide +kernel
theorem d_La_stamp_25 : decode b_La_stamp 25 = .ok (.ireturn, 1) := by decide +kernel
abbrev b_La_run : ByteArray := method_16_code
def y_La_run : MethodName := ⟨R_La, "run", "(LVolumeTurner;II[J)I"⟩
theorem d_La_run_0 : decode b_La_run 0 = .ok (.aload_n 3, 1) := by decide +kernel
theorem d_La_run_1 : decode b_La_run 1 = .ok (.iconst 0, 1) := by decide +kernel
theorem d_La_run_2 : decode b_La_run 2 = .ok (.aload_n 0, 1) := by decide +kernel
theorem d_La_run_3 : decode b_La_run 3 = .ok (.iload_n 1, 1) := by decide +kernel
theorem d_La_run_4 : decode b_La_run 4 = .ok (.iload_n 2, 1) := by decide +kernel
theorem d_La_run_5 : decode b_La_run 5 = .ok (.invokevirtual 66, 3) := by decide +kernel
theorem d_La_run_8 : decode b_La_run 8 = .ok (.i2l, 1) := by decide +kernel
theorem d_La_run_9 : decode b_La_run 9 = .ok (.lastore, 1) := by decide +kernel
theorem d_La_run_10 : decode b_La_run 10 = .ok (.goto 11, 3) := by decide +kernel
theorem d_La_run_13 : decode b_La_run 13 = .ok (.astore 4, 2) := by decide +kernel
theorem d_La_run_15 : decode b_La_run 15 = .ok (.iconst 1, 1) := by decide +kernel
theorem d_La_run_16 : decode b_La_run 16 = .ok (.ireturn, 1) := by decide +kernel
theorem d_La_run_17 : decode b_La_run 17 = .ok (.astore 4, 2) := by decide +kernel
theorem d_La_run_19 : decode b_La_run 19 = .ok (.iconst 2, 1) := by decide +kernel
theorem d_La_run_20 : decode b_La_run 20 = .ok (.ireturn, 1) := by decide +kernel
theorem d_La_run_21 : decode b_La_run 21 = .ok (.iconst 0, 1) := by decide +kernel
theorem d_La_run_22 : decode b_La_run 22 = .ok (.ireturn, 1) := by decide +kernel
def K_La : List Cond := [(.initialized "VolumeTurnerLaw"), (.classLink "VolumeTurnerLaw" 8 "VolumeTurner"), (.methodLink "VolumeTurnerLaw" 75 y_Vt_init), (.methodLink "VolumeTurnerLaw" 80 y_Vt_feed), (.methodLink "VolumeTurnerLaw" 85 y_Vt_end), (.methodLink "VolumeTurnerLaw" 89 y_Vt_clear), (.methodLink "VolumeTurnerLaw" 100 y_Vt_poke), (.methodLink "VolumeTurnerLaw" 105 y_Vt_kind), (.methodLink "VolumeTurnerLaw" 109 y_Vt_fault), (.methodLink "VolumeTurnerLaw" 113 y_Vt_byteAt), (.methodLink "VolumeTurnerLaw" 160 y_Vt_plan), (.methodLink "VolumeTurnerLaw" 164 y_Vt_target), (.methodLink "VolumeTurnerLaw" 168 y_Vt_fail), (.methodLink "VolumeTurnerLaw" 69 ⟨"VolumeTurnerLaw", "cell", "([II)I"⟩), (.static ⟨"VolumeTurnerLaw", "cell", "([II)I"⟩), (.code ⟨"VolumeTurnerLaw", "cell", "([II)I"⟩ method_2_code 2 (some .int)), (.methodLink "VolumeTurnerLaw" 93 ⟨"VolumeTurnerLaw", "format", "(LVolumeTurner;IIII[J)I"⟩), (.static ⟨"VolumeTurnerLaw", "format", "(LVolumeTurner;IIII[J)I"⟩), (.codeWith ⟨"VolumeTurnerLaw", "format", "(LVolumeTurner;IIII[J)I"⟩ method_3_code 7 (some .int) [(0, 14, 17, 13)]), (.classLink "VolumeTurnerLaw" 13 "java/lang/IllegalArgumentException"), (.methodLink "VolumeTurnerLaw" 7 y_Vt_format), (.methodLink "VolumeTurnerLaw" 117 ⟨"VolumeTurnerLaw", "items", "(LVolumeTurner;[J)I"⟩), (.static ⟨"VolumeTurnerLaw", "items", "(LVolumeTurner;[J)I"⟩), (.codeWith ⟨"VolumeTurnerLaw", "items", "(LVolumeTurner;[J)I"⟩ method_4_code 3 (some .int) [(0, 8, 11, 19)]), (.classLink "VolumeTurnerLaw" 19 "java/lang/IllegalStateException"), (.methodLink "VolumeTurnerLaw" 15 y_Vt_items), (.methodLink "VolumeTurnerLaw" 121 ⟨"VolumeTurnerLaw", "letter", "(LVolumeTurner;II[J)I"⟩), (.static ⟨"VolumeTurnerLaw", "letter", "(LVolumeTurner;II[J)I"⟩), (.codeWith ⟨"VolumeTurnerLaw", "letter", "(LVolumeTurner;II[J)I"⟩ method_5_code 5 (some .int) [(0, 10, 13, 19), (0, 10, 17, 25)]), (.classLink "VolumeTurnerLaw" 25 "java/lang/IndexOutOfBoundsException"), (.methodLink "VolumeTurnerLaw" 21 y_Vt_letter), (.methodLink "VolumeTurnerLaw" 125 ⟨"VolumeTurnerLaw", "about", "(LVolumeTurner;II[J)I"⟩), (.static ⟨"VolumeTurnerLaw", "about", "(LVolumeTurner;II[J)I"⟩), (.codeWith ⟨"VolumeTurnerLaw", "about", "(LVolumeTurner;II[J)I"⟩ method_6_code 5 (some .int) [(0, 9, 12, 19), (0, 9, 16, 25), (0, 9, 20, 13)]), (.methodLink "VolumeTurnerLaw" 27 y_Vt_about), (.methodLink "VolumeTurnerLaw" 128 ⟨"VolumeTurnerLaw", "content", "(LVolumeTurner;II[J)I"⟩), (.static ⟨"VolumeTurnerLaw", "content", "(LVolumeTurner;II[J)I"⟩), (.codeWith ⟨"VolumeTurnerLaw", "content", "(LVolumeTurner;II[J)I"⟩ method_7_code 5 (some .int) [(0, 10, 13, 19), (0, 10, 17, 25)]), (.methodLink "VolumeTurnerLaw" 31 y_Vt_content), (.methodLink "VolumeTurnerLaw" 131 ⟨"VolumeTurnerLaw", "enter", "(LVolumeTurner;I[J)I"⟩), (.static ⟨"VolumeTurnerLaw", "enter", "(LVolumeTurner;I[J)I"⟩), (.codeWith ⟨"VolumeTurnerLaw", "enter", "(LVolumeTurner;I[J)I"⟩ method_8_code 4 (some .int) [(0, 9, 12, 19), (0, 9, 15, 25), (0, 9, 18, 13)]), (.methodLink "VolumeTurnerLaw" 34 y_Vt_enter), (.methodLink "VolumeTurnerLaw" 135 ⟨"VolumeTurnerLaw", "up", "(LVolumeTurner;[J)I"⟩), (.static ⟨"VolumeTurnerLaw", "up", "(LVolumeTurner;[J)I"⟩), (.codeWith ⟨"VolumeTurnerLaw", "up", "(LVolumeTurner;[J)I"⟩ method_9_code 3 (some .int) [(0, 15, 18, 19)]), (.methodLink "VolumeTurnerLaw" 38 y_Vt_up), (.methodLink "VolumeTurnerLaw" 138 ⟨"VolumeTurnerLaw", "make", "(LVolumeTurner;Z[J)I"⟩), (.static ⟨"VolumeTurnerLaw", "make", "(LVolumeTurner;Z[J)I"⟩), (.codeWith ⟨"VolumeTurnerLaw", "make", "(LVolumeTurner;Z[J)I"⟩ method_10_code 4 (some .int) [(0, 9, 12, 19), (0, 9, 15, 13), (0, 9, 18, 46)]), (.classLink "VolumeTurnerLaw" 46 "java/lang/UnsupportedOperationException"), (.methodLink "VolumeTurnerLaw" 42 y_Vt_make), (.methodLink "VolumeTurnerLaw" 142 ⟨"VolumeTurnerLaw", "write", "(LVolumeTurner;I[J)I"⟩), (.static ⟨"VolumeTurnerLaw", "write", "(LVolumeTurner;I[J)I"⟩), (.codeWith ⟨"VolumeTurnerLaw", "write", "(LVolumeTurner;I[J)I"⟩ method_11_code 4 (some .int) [(0, 9, 12, 19), (0, 9, 15, 25), (0, 9, 18, 13), (0, 9, 21, 46)]), (.methodLink "VolumeTurnerLaw" 48 y_Vt_write), (.methodLink "VolumeTurnerLaw" 145 ⟨"VolumeTurnerLaw", "grow", "(LVolumeTurner;III[J)I"⟩), (.static ⟨"VolumeTurnerLaw", "grow", "(LVolumeTurner;III[J)I"⟩), (.codeWith ⟨"VolumeTurnerLaw", "grow", "(LVolumeTurner;III[J)I"⟩ method_12_code 6 (some .int) [(0, 12, 15, 19), (0, 12, 19, 25), (0, 12, 23, 13), (0, 12, 27, 46)]), (.methodLink "VolumeTurnerLaw" 51 y_Vt_grow), (.methodLink "VolumeTurnerLaw" 149 ⟨"VolumeTurnerLaw", "cut", "(LVolumeTurner;II[J)I"⟩), (.static ⟨"VolumeTurnerLaw", "cut", "(LVolumeTurner;II[J)I"⟩), (.codeWith ⟨"VolumeTurnerLaw", "cut", "(LVolumeTurner;II[J)I"⟩ method_13_code 5 (some .int) [(0, 10, 13, 19), (0, 10, 17, 25), (0, 10, 21, 13)]), (.methodLink "VolumeTurnerLaw" 55 y_Vt_cut), (.methodLink "VolumeTurnerLaw" 152 ⟨"VolumeTurnerLaw", "remove", "(LVolumeTurner;I)I"⟩), (.static ⟨"VolumeTurnerLaw", "remove", "(LVolumeTurner;I)I"⟩), (.codeWith ⟨"VolumeTurnerLaw", "remove", "(LVolumeTurner;I)I"⟩ method_14_code 3 (some .int) [(0, 5, 8, 19), (0, 5, 11, 25), (0, 5, 14, 13)]), (.methodLink "VolumeTurnerLaw" 58 y_Vt_remove), (.methodLink "VolumeTurnerLaw" 156 ⟨"VolumeTurnerLaw", "stamp", "(LVolumeTurner;IIII)I"⟩), (.static ⟨"VolumeTurnerLaw", "stamp", "(LVolumeTurner;IIII)I"⟩), (.codeWith ⟨"VolumeTurnerLaw", "stamp", "(LVolumeTurner;IIII)I"⟩ method_15_code 6 (some .int) [(0, 9, 12, 19), (0, 9, 16, 25), (0, 9, 20, 13)]), (.methodLink "VolumeTurnerLaw" 62 y_Vt_stamp), (.methodLink "VolumeTurnerLaw" 173 ⟨"VolumeTurnerLaw", "run", "(LVolumeTurner;II[J)I"⟩), (.static ⟨"VolumeTurnerLaw", "run", "(LVolumeTurner;II[J)I"⟩), (.codeWith ⟨"VolumeTurnerLaw", "run", "(LVolumeTurner;II[J)I"⟩ method_16_code 5 (some .int) [(0, 10, 13, 19), (0, 10, 17, 13)]), (.methodLink "VolumeTurnerLaw" 66 y_Vt_run), (.classLink "VolumeTurnerLaw" 77 "VolumeTurnerModel"), (.methodLink "VolumeTurnerLaw" 79 y_Mo_init), (.methodLink "VolumeTurnerLaw" 97 y_Mo_thrown), (.methodLink "VolumeTurnerLaw" 84 y_Mo_feed), (.methodLink "VolumeTurnerLaw" 88 y_Mo_end), (.methodLink "VolumeTurnerLaw" 92 y_Mo_clear), (.methodLink "VolumeTurnerLaw" 108 y_Mo_kind), (.methodLink "VolumeTurnerLaw" 112 y_Mo_fault), (.methodLink "VolumeTurnerLaw" 104 y_Mo_poke), (.methodLink "VolumeTurnerLaw" 116 y_Mo_byteAt), (.methodLink "VolumeTurnerLaw" 96 y_Mo_format), (.methodLink "VolumeTurnerLaw" 120 y_Mo_items), (.methodLink "VolumeTurnerLaw" 124 y_Mo_letter), (.methodLink "VolumeTurnerLaw" 127 y_Mo_about), (.methodLink "VolumeTurnerLaw" 130 y_Mo_content), (.methodLink "VolumeTurnerLaw" 134 y_Mo_enter), (.methodLink "VolumeTurnerLaw" 137 y_Mo_up), (.methodLink "VolumeTurnerLaw" 141 y_Mo_make), (.methodLink "VolumeTurnerLaw" 144 y_Mo_write), (.methodLink "VolumeTurnerLaw" 148 y_Mo_grow), (.methodLink "VolumeTurnerLaw" 151 y_Mo_cut), (.methodLink "VolumeTurnerLaw" 155 y_Mo_remove), (.methodLink "VolumeTurnerLaw" 159 y_Mo_stamp), (.methodLink "VolumeTurnerLaw" 163 y_Mo_plan), (.methodLink "VolumeTurnerLaw" 167 y_Mo_target), (.methodLink "VolumeTurnerLaw" 172 y_Mo_fail), (.methodLink "VolumeTurnerLaw" 175 y_Mo_run)]
theorem j_La_0 : (.initialized "VolumeTurnerLaw") ∈ K_La := List.mem_of_getElem? (i := 0) rfl
theorem j_La_1 : (.classLink "VolumeTurnerLaw" 8 "VolumeTurner") ∈ K_La := List.mem_of_getElem? (i := 1) rfl
theorem j_La_2 : (.methodLink "VolumeTurnerLaw" 75 y_Vt_init) ∈ K_La := List.mem_of_getElem? (i := 2) rfl
theorem j_La_3 : (.methodLink "VolumeTurnerLaw" 80 y_Vt_feed) ∈ K_La := List.mem_of_getElem? (i := 3) rfl
theorem j_La_4 : (.methodLink "VolumeTurnerLaw" 85 y_Vt_end) ∈ K_La := List.mem_of_getElem? (i := 4) rfl
theorem j_La_5 : (.methodLink "VolumeTurnerLaw" 89 y_Vt_clear) ∈ K_La := List.mem_of_getElem? (i := 5) rfl
theorem j_La_6 : (.methodLink "VolumeTurnerLaw" 100 y_Vt_poke) ∈ K_La := List.mem_of_getElem? (i := 6) rfl
theorem j_La_7 : (.methodLink "VolumeTurnerLaw" 105 y_Vt_kind) ∈ K_La := List.mem_of_getElem? (i := 7) rfl
theorem j_La_8 : (.methodLink "VolumeTurnerLaw" 109 y_Vt_fault) ∈ K_La := List.mem_of_getElem? (i := 8) rfl
theorem j_La_9 : (.methodLink "VolumeTurnerLaw" 113 y_Vt_byteAt) ∈ K_La := List.mem_of_getElem? (i := 9) rfl
theorem j_La_10 : (.methodLink "VolumeTurnerLaw" 160 y_Vt_plan) ∈ K_La := List.mem_of_getElem? (i := 10) rfl
theorem j_La_11 : (.methodLink "VolumeTurnerLaw" 164 y_Vt_target) ∈ K_La := List.mem_of_getElem? (i := 11) rfl
theorem j_La_12 : (.methodLink "VolumeTurnerLaw" 168 y_Vt_fail) ∈ K_La := List.mem_of_getElem? (i := 12) rfl
theorem j_La_13 : (.methodLink "VolumeTurnerLaw" 69 ⟨"VolumeTurnerLaw", "cell", "([II)I"⟩) ∈ K_La := List.mem_of_getElem? (i := 13) rfl
theorem j_La_14 : (.static ⟨"VolumeTurnerLaw", "cell", "([II)I"⟩) ∈ K_La := List.mem_of_getElem? (i := 14) rfl
theorem j_La_15 : (.code ⟨"VolumeTurnerLaw", "cell", "([II)I"⟩ method_2_code 2 (some .int)) ∈ K_La := List.mem_of_getElem? (i := 15) rfl
theorem j_La_16 : (.methodLink "VolumeTurnerLaw" 93 ⟨"VolumeTurnerLaw", "format", "(LVolumeTurner;IIII[J)I"⟩) ∈ K_La := List.mem_of_getElem? (i := 16) rfl
theorem j_La_17 : (.static ⟨"VolumeTurnerLaw", "format", "(LVolumeTurner;IIII[J)I"⟩) ∈ K_La := List.mem_of_getElem? (i := 17) rfl
theorem j_La_18 : (.codeWith ⟨"VolumeTurnerLaw", "format", "(LVolumeTurner;IIII[J)I"⟩ method_3_code 7 (some .int) [(0, 14, 17, 13)]) ∈ K_La := List.mem_of_getElem? (i := 18) rfl
theorem j_La_19 : (.classLink "VolumeTurnerLaw" 13 "java/lang/IllegalArgumentException") ∈ K_La := List.mem_of_getElem? (i := 19) rfl
theorem j_La_20 : (.methodLink "VolumeTurnerLaw" 7 y_Vt_format) ∈ K_La := List.mem_of_getElem? (i := 20) rfl
theorem j_La_21 : (.methodLink "VolumeTurnerLaw" 117 ⟨"VolumeTurnerLaw", "items", "(LVolumeTurner;[J)I"⟩) ∈ K_La := List.mem_of_getElem? (i := 21) rfl
theorem j_La_22 : (.static ⟨"VolumeTurnerLaw", "items", "(LVolumeTurner;[J)I"⟩) ∈ K_La := List.mem_of_getElem? (i := 22) rfl
theorem j_La_23 : (.codeWith ⟨"VolumeTurnerLaw", "items", "(LVolumeTurner;[J)I"⟩ method_4_code 3 (some .int) [(0, 8, 11, 19)]) ∈ K_La := List.mem_of_getElem? (i := 23) rfl
theorem j_La_24 : (.classLink "VolumeTurnerLaw" 19 "java/lang/IllegalStateException") ∈ K_La := List.mem_of_getElem? (i := 24) rfl
theorem j_La_25 : (.methodLink "VolumeTurnerLaw" 15 y_Vt_items) ∈ K_La := List.mem_of_getElem? (i := 25) rfl
theorem j_La_26 : (.methodLink "VolumeTurnerLaw" 121 ⟨"VolumeTurnerLaw", "letter", "(LVolumeTurner;II[J)I"⟩) ∈ K_La := List.mem_of_getElem? (i := 26) rfl
theorem j_La_27 : (.static ⟨"VolumeTurnerLaw", "letter", "(LVolumeTurner;II[J)I"⟩) ∈ K_La := List.mem_of_getElem? (i := 27) rfl
theorem j_La_28 : (.codeWith ⟨"VolumeTurnerLaw", "letter", "(LVolumeTurner;II[J)I"⟩ method_5_code 5 (some .int) [(0, 10, 13, 19), (0, 10, 17, 25)]) ∈ K_La := List.mem_of_getElem? (i := 28) rfl
theorem j_La_29 : (.classLink "VolumeTurnerLaw" 25 "java/lang/IndexOutOfBoundsException") ∈ K_La := List.mem_of_getElem? (i := 29) rfl
theorem j_La_30 : (.methodLink "VolumeTurnerLaw" 21 y_Vt_letter) ∈ K_La := List.mem_of_getElem? (i := 30) rfl
theorem j_La_31 : (.methodLink "VolumeTurnerLaw" 125 ⟨"VolumeTurnerLaw", "about", "(LVolumeTurner;II[J)I"⟩) ∈ K_La := List.mem_of_getElem? (i := 31) rfl
theorem j_La_32 : (.static ⟨"VolumeTurnerLaw", "about", "(LVolumeTurner;II[J)I"⟩) ∈ K_La := List.mem_of_getElem? (i := 32) rfl
theorem j_La_33 : (.codeWith ⟨"VolumeTurnerLaw", "about", "(LVolumeTurner;II[J)I"⟩ method_6_code 5 (some .int) [(0, 9, 12, 19), (0, 9, 16, 25), (0, 9, 20, 13)]) ∈ K_La := List.mem_of_getElem? (i := 33) rfl
theorem j_La_34 : (.methodLink "VolumeTurnerLaw" 27 y_Vt_about) ∈ K_La := List.mem_of_getElem? (i := 34) rfl
theorem j_La_35 : (.methodLink "VolumeTurnerLaw" 128 ⟨"VolumeTurnerLaw", "content", "(LVolumeTurner;II[J)I"⟩) ∈ K_La := List.mem_of_getElem? (i := 35) rfl
theorem j_La_36 : (.static ⟨"VolumeTurnerLaw", "content", "(LVolumeTurner;II[J)I"⟩) ∈ K_La := List.mem_of_getElem? (i := 36) rfl
theorem j_La_37 : (.codeWith ⟨"VolumeTurnerLaw", "content", "(LVolumeTurner;II[J)I"⟩ method_7_code 5 (some .int) [(0, 10, 13, 19), (0, 10, 17, 25)]) ∈ K_La := List.mem_of_getElem? (i := 37) rfl
theorem j_La_38 : (.methodLink "VolumeTurnerLaw" 31 y_Vt_content) ∈ K_La := List.mem_of_getElem? (i := 38) rfl
theorem j_La_39 : (.methodLink "VolumeTurnerLaw" 131 ⟨"VolumeTurnerLaw", "enter", "(LVolumeTurner;I[J)I"⟩) ∈ K_La := List.mem_of_getElem? (i := 39) rfl
theorem j_La_40 : (.static ⟨"VolumeTurnerLaw", "enter", "(LVolumeTurner;I[J)I"⟩) ∈ K_La := List.mem_of_getElem? (i := 40) rfl
theorem j_La_41 : (.codeWith ⟨"VolumeTurnerLaw", "enter", "(LVolumeTurner;I[J)I"⟩ method_8_code 4 (some .int) [(0, 9, 12, 19), (0, 9, 15, 25), (0, 9, 18, 13)]) ∈ K_La := List.mem_of_getElem? (i := 41) rfl
theorem j_La_42 : (.methodLink "VolumeTurnerLaw" 34 y_Vt_enter) ∈ K_La := List.mem_of_getElem? (i := 42) rfl
theorem j_La_43 : (.methodLink "VolumeTurnerLaw" 135 ⟨"VolumeTurnerLaw", "up", "(LVolumeTurner;[J)I"⟩) ∈ K_La := List.mem_of_getElem? (i := 43) rfl
theorem j_La_44 : (.static ⟨"VolumeTurnerLaw", "up", "(LVolumeTurner;[J)I"⟩) ∈ K_La := List.mem_of_getElem? (i := 44) rfl
theorem j_La_45 : (.codeWith ⟨"VolumeTurnerLaw", "up", "(LVolumeTurner;[J)I"⟩ method_9_code 3 (some .int) [(0, 15, 18, 19)]) ∈ K_La := List.mem_of_getElem? (i := 45) rfl
theorem j_La_46 : (.methodLink "VolumeTurnerLaw" 38 y_Vt_up) ∈ K_La := List.mem_of_getElem? (i := 46) rfl
theorem j_La_47 : (.methodLink "VolumeTurnerLaw" 138 ⟨"VolumeTurnerLaw", "make", "(LVolumeTurner;Z[J)I"⟩) ∈ K_La := List.mem_of_getElem? (i := 47) rfl
theorem j_La_48 : (.static ⟨"VolumeTurnerLaw", "make", "(LVolumeTurner;Z[J)I"⟩) ∈ K_La := List.mem_of_getElem? (i := 48) rfl
theorem j_La_49 : (.codeWith ⟨"VolumeTurnerLaw", "make", "(LVolumeTurner;Z[J)I"⟩ method_10_code 4 (some .int) [(0, 9, 12, 19), (0, 9, 15, 13), (0, 9, 18, 46)]) ∈ K_La := List.mem_of_getElem? (i := 49) rfl
theorem j_La_50 : (.classLink "VolumeTurnerLaw" 46 "java/lang/UnsupportedOperationException") ∈ K_La := List.mem_of_getElem? (i := 50) rfl
theorem j_La_51 : (.methodLink "VolumeTurnerLaw" 42 y_Vt_make) ∈ K_La := List.mem_of_getElem? (i := 51) rfl
theorem j_La_52 : (.methodLink "VolumeTurnerLaw" 142 ⟨"VolumeTurnerLaw", "write", "(LVolumeTurner;I[J)I"⟩) ∈ K_La := List.mem_of_getElem? (i := 52) rfl
theorem j_La_53 : (.static ⟨"VolumeTurnerLaw", "write", "(LVolumeTurner;I[J)I"⟩) ∈ K_La := List.mem_of_getElem? (i := 53) rfl
theorem j_La_54 : (.codeWith ⟨"VolumeTurnerLaw", "write", "(LVolumeTurner;I[J)I"⟩ method_11_code 4 (some .int) [(0, 9, 12, 19), (0, 9, 15, 25), (0, 9, 18, 13), (0, 9, 21, 46)]) ∈ K_La := List.mem_of_getElem? (i := 54) rfl
theorem j_La_55 : (.methodLink "VolumeTurnerLaw" 48 y_Vt_write) ∈ K_La := List.mem_of_getElem? (i := 55) rfl
theorem j_La_56 : (.methodLink "VolumeTurnerLaw" 145 ⟨"VolumeTurnerLaw", "grow", "(LVolumeTurner;III[J)I"⟩) ∈ K_La := List.mem_of_getElem? (i := 56) rfl
theorem j_La_57 : (.static ⟨"VolumeTurnerLaw", "grow", "(LVolumeTurner;III[J)I"⟩) ∈ K_La := List.mem_of_getElem? (i := 57) rfl
theorem j_La_58 : (.codeWith ⟨"VolumeTurnerLaw", "grow", "(LVolumeTurner;III[J)I"⟩ method_12_code 6 (some .int) [(0, 12, 15, 19), (0, 12, 19, 25), (0, 12, 23, 13), (0, 12, 27, 46)]) ∈ K_La := List.mem_of_getElem? (i := 58) rfl
theorem j_La_59 : (.methodLink "VolumeTurnerLaw" 51 y_Vt_grow) ∈ K_La := List.mem_of_getElem? (i := 59) rfl
theorem j_La_60 : (.methodLink "VolumeTurnerLaw" 149 ⟨"VolumeTurnerLaw", "cut", "(LVolumeTurner;II[J)I"⟩) ∈ K_La := List.mem_of_getElem? (i := 60) rfl
theorem j_La_61 : (.static ⟨"VolumeTurnerLaw", "cut", "(LVolumeTurner;II[J)I"⟩) ∈ K_La := List.mem_of_getElem? (i := 61) rfl
theorem j_La_62 : (.codeWith ⟨"VolumeTurnerLaw", "cut", "(LVolumeTurner;II[J)I"⟩ method_13_code 5 (some .int) [(0, 10, 13, 19), (0, 10, 17, 25), (0, 10, 21, 13)]) ∈ K_La := List.mem_of_getElem? (i := 62) rfl
theorem j_La_63 : (.methodLink "VolumeTurnerLaw" 55 y_Vt_cut) ∈ K_La := List.mem_of_getElem? (i := 63) rfl
theorem j_La_64 : (.methodLink "VolumeTurnerLaw" 152 ⟨"VolumeTurnerLaw", "remove", "(LVolumeTurner;I)I"⟩) ∈ K_La := List.mem_of_getElem? (i := 64) rfl
theorem j_La_65 : (.static ⟨"VolumeTurnerLaw", "remove", "(LVolumeTurner;I)I"⟩) ∈ K_La := List.mem_of_getElem? (i := 65) rfl
theorem j_La_66 : (.codeWith ⟨"VolumeTurnerLaw", "remove", "(LVolumeTurner;I)I"⟩ method_14_code 3 (some .int) [(0, 5, 8, 19), (0, 5, 11, 25), (0, 5, 14, 13)]) ∈ K_La := List.mem_of_getElem? (i := 66) rfl
theorem j_La_67 : (.methodLink "VolumeTurnerLaw" 58 y_Vt_remove) ∈ K_La := List.mem_of_getElem? (i := 67) rfl
theorem j_La_68 : (.methodLink "VolumeTurnerLaw" 156 ⟨"VolumeTurnerLaw", "stamp", "(LVolumeTurner;IIII)I"⟩) ∈ K_La := List.mem_of_getElem? (i := 68) rfl
theorem j_La_69 : (.static ⟨"VolumeTurnerLaw", "stamp", "(LVolumeTurner;IIII)I"⟩) ∈ K_La := List.mem_of_getElem? (i := 69) rfl
theorem j_La_70 : (.codeWith ⟨"VolumeTurnerLaw", "stamp", "(LVolumeTurner;IIII)I"⟩ method_15_code 6 (some .int) [(0, 9, 12, 19), (0, 9, 16, 25), (0, 9, 20, 13)]) ∈ K_La := List.mem_of_getElem? (i := 70) rfl
theorem j_La_71 : (.methodLink "VolumeTurnerLaw" 62 y_Vt_stamp) ∈ K_La := List.mem_of_getElem? (i := 71) rfl
theorem j_La_72 : (.methodLink "VolumeTurnerLaw" 173 ⟨"VolumeTurnerLaw", "run", "(LVolumeTurner;II[J)I"⟩) ∈ K_La := List.mem_of_getElem? (i := 72) rfl
theorem j_La_73 : (.static ⟨"VolumeTurnerLaw", "run", "(LVolumeTurner;II[J)I"⟩) ∈ K_La := List.mem_of_getElem? (i := 73) rfl
theorem j_La_74 : (.codeWith ⟨"VolumeTurnerLaw", "run", "(LVolumeTurner;II[J)I"⟩ method_16_code 5 (some .int) [(0, 10, 13, 19), (0, 10, 17, 13)]) ∈ K_La := List.mem_of_getElem? (i := 74) rfl
theorem j_La_75 : (.methodLink "VolumeTurnerLaw" 66 y_Vt_run) ∈ K_La := List.mem_of_getElem? (i := 75) rfl
theorem j_La_76 : (.classLink "VolumeTurnerLaw" 77 "VolumeTurnerModel") ∈ K_La := List.mem_of_getElem? (i := 76) rfl
theorem j_La_77 : (.methodLink "VolumeTurnerLaw" 79 y_Mo_init) ∈ K_La := List.mem_of_getElem? (i := 77) rfl
theorem j_La_78 : (.methodLink "VolumeTurnerLaw" 97 y_Mo_thrown) ∈ K_La := List.mem_of_getElem? (i := 78) rfl
theorem j_La_79 : (.methodLink "VolumeTurnerLaw" 84 y_Mo_feed) ∈ K_La := List.mem_of_getElem? (i := 79) rfl
theorem j_La_80 : (.methodLink "VolumeTurnerLaw" 88 y_Mo_end) ∈ K_La := List.mem_of_getElem? (i := 80) rfl
theorem j_La_81 : (.methodLink "VolumeTurnerLaw" 92 y_Mo_clear) ∈ K_La := List.mem_of_getElem? (i := 81) rfl
theorem j_La_82 : (.methodLink "VolumeTurnerLaw" 108 y_Mo_kind) ∈ K_La := List.mem_of_getElem? (i := 82) rfl
theorem j_La_83 : (.methodLink "VolumeTurnerLaw" 112 y_Mo_fault) ∈ K_La := List.mem_of_getElem? (i := 83) rfl
theorem j_La_84 : (.methodLink "VolumeTurnerLaw" 104 y_Mo_poke) ∈ K_La := List.mem_of_getElem? (i := 84) rfl
theorem j_La_85 : (.methodLink "VolumeTurnerLaw" 116 y_Mo_byteAt) ∈ K_La := List.mem_of_getElem? (i := 85) rfl
theorem j_La_86 : (.methodLink "VolumeTurnerLaw" 96 y_Mo_format) ∈ K_La := List.mem_of_getElem? (i := 86) rfl
theorem j_La_87 : (.methodLink "VolumeTurnerLaw" 120 y_Mo_items) ∈ K_La := List.mem_of_getElem? (i := 87) rfl
theorem j_La_88 : (.methodLink "VolumeTurnerLaw" 124 y_Mo_letter) ∈ K_La := List.mem_of_getElem? (i := 88) rfl
theorem j_La_89 : (.methodLink "VolumeTurnerLaw" 127 y_Mo_about) ∈ K_La := List.mem_of_getElem? (i := 89) rfl
theorem j_La_90 : (.methodLink "VolumeTurnerLaw" 130 y_Mo_content) ∈ K_La := List.mem_of_getElem? (i := 90) rfl
theorem j_La_91 : (.methodLink "VolumeTurnerLaw" 134 y_Mo_enter) ∈ K_La := List.mem_of_getElem? (i := 91) rfl
theorem j_La_92 : (.methodLink "VolumeTurnerLaw" 137 y_Mo_up) ∈ K_La := List.mem_of_getElem? (i := 92) rfl
theorem j_La_93 : (.methodLink "VolumeTurnerLaw" 141 y_Mo_make) ∈ K_La := List.mem_of_getElem? (i := 93) rfl
theorem j_La_94 : (.methodLink "VolumeTurnerLaw" 144 y_Mo_write) ∈ K_La := List.mem_of_getElem? (i := 94) rfl
theorem j_La_95 : (.methodLink "VolumeTurnerLaw" 148 y_Mo_grow) ∈ K_La := List.mem_of_getElem? (i := 95) rfl
theorem j_La_96 : (.methodLink "VolumeTurnerLaw" 151 y_Mo_cut) ∈ K_La := List.mem_of_getElem? (i := 96) rfl
theorem j_La_97 : (.methodLink "VolumeTurnerLaw" 155 y_Mo_remove) ∈ K_La := List.mem_of_getElem? (i := 97) rfl
theorem j_La_98 : (.methodLink "VolumeTurnerLaw" 159 y_Mo_stamp) ∈ K_La := List.mem_of_getElem? (i := 98) rfl
theorem j_La_99 : (.methodLink "VolumeTurnerLaw" 163 y_Mo_plan) ∈ K_La := List.mem_of_getElem? (i := 99) rfl
theorem j_La_100 : (.methodLink "VolumeTurnerLaw" 167 y_Mo_target) ∈ K_La := List.mem_of_getElem? (i := 100) rfl
theorem j_La_101 : (.methodLink "VolumeTurnerLaw" 172 y_Mo_fail) ∈ K_La := List.mem_of_getElem? (i := 101) rfl
theorem j_La_102 : (.methodLink "VolumeTurnerLaw" 175 y_Mo_run) ∈ K_La := List.mem_of_getElem? (i := 102) rfl
def V_La : List Cond := K_La ++ (V_Mo ++ V_Vt)
theorem kk_La : ∀ w ∈ K_La, w ∈ V_La := fun _ h => List.mem_append_left _ h
theorem u_La_Mo : ∀ w ∈ V_Mo, w ∈ V_La := fun _ h => List.mem_append_right _ (List.mem_append_left _ h)
theorem u_La_Vt : ∀ w ∈ V_Vt, w ∈ V_La := fun _ h => List.mem_append_right _ (List.mem_append_right _ h)
theorem u_La_J : ∀ w ∈ V_J, w ∈ V_La := fun w h => u_La_Vt w (u_Vt_J w h)
theorem u_La_Dk : ∀ w ∈ V_Dk, w ∈ V_La := fun w h => u_La_Vt w (u_Vt_Dk w h)
theorem u_La_Tp : ∀ w ∈ V_Tp, w ∈ V_La := fun w h => u_La_Vt w (u_Vt_Tp w h)
theorem u_La_Tb : ∀ w ∈ V_Tb, w ∈ V_La := fun w h => u_La_Vt w (u_Vt_Tb w h)
theorem u_La_Tr : ∀ w ∈ V_Tr, w ∈ V_La := fun w h => u_La_Vt w (u_Vt_Tr w h)
theorem u_La_In : ∀ w ∈ V_In, w ∈ V_La := fun w h => u_La_Vt w (u_Vt_In w h)
theorem u_La_Rd : ∀ w ∈ V_Rd, w ∈ V_La := fun w h => u_La_Vt w (u_Vt_Rd w h)
theorem u_La_Ed : ∀ w ∈ V_Ed, w ∈ V_La := fun w h => u_La_Vt w (u_Vt_Ed w h)
theorem u_La_Pl : ∀ w ∈ V_Pl, w ∈ V_La := fun w h => u_La_Vt w (u_Vt_Pl w h)
theorem u_La_Tu : ∀ w ∈ V_Tu, w ∈ V_La := fun w h => u_La_Vt w (u_Vt_Tu w h)
theorem k_La_0 : (.initialized "VolumeTurnerLaw") ∈ V_La := kk_La _ j_La_0
theorem k_La_1 : (.classLink "VolumeTurnerLaw" 8 "VolumeTurner") ∈ V_La := kk_La _ j_La_1
theorem k_La_2 : (.methodLink "VolumeTurnerLaw" 75 y_Vt_init) ∈ V_La := kk_La _ j_La_2
theorem k_La_3 : (.methodLink "VolumeTurnerLaw" 80 y_Vt_feed) ∈ V_La := kk_La _ j_La_3
theorem k_La_4 : (.methodLink "VolumeTurnerLaw" 85 y_Vt_end) ∈ V_La := kk_La _ j_La_4
theorem k_La_5 : (.methodLink "VolumeTurnerLaw" 89 y_Vt_clear) ∈ V_La := kk_La _ j_La_5
theorem k_La_6 : (.methodLink "VolumeTurnerLaw" 100 y_Vt_poke) ∈ V_La := kk_La _ j_La_6
theorem k_La_7 : (.methodLink "VolumeTurnerLaw" 105 y_Vt_kind) ∈ V_La := kk_La _ j_La_7
theorem k_La_8 : (.methodLink "VolumeTurnerLaw" 109 y_Vt_fault) ∈ V_La := kk_La _ j_La_8
theorem k_La_9 : (.methodLink "VolumeTurnerLaw" 113 y_Vt_byteAt) ∈ V_La := kk_La _ j_La_9
theorem k_La_10 : (.methodLink "VolumeTurnerLaw" 160 y_Vt_plan) ∈ V_La := kk_La _ j_La_10
theorem k_La_11 : (.methodLink "VolumeTurnerLaw" 164 y_Vt_target) ∈ V_La := kk_La _ j_La_11
theorem k_La_12 : (.methodLink "VolumeTurnerLaw" 168 y_Vt_fail) ∈ V_La := kk_La _ j_La_12
theorem k_La_13 : (.methodLink "VolumeTurnerLaw" 69 ⟨"VolumeTurnerLaw", "cell", "([II)I"⟩) ∈ V_La := kk_La _ j_La_13
theorem k_La_14 : (.static ⟨"VolumeTurnerLaw", "cell", "([II)I"⟩) ∈ V_La := kk_La _ j_La_14
theorem k_La_15 : (.code ⟨"VolumeTurnerLaw", "cell", "([II)I"⟩ method_2_code 2 (some .int)) ∈ V_La := kk_La _ j_La_15
theorem k_La_16 : (.methodLink "VolumeTurnerLaw" 93 ⟨"VolumeTurnerLaw", "format", "(LVolumeTurner;IIII[J)I"⟩) ∈ V_La := kk_La _ j_La_16
theorem k_La_17 : (.static ⟨"VolumeTurnerLaw", "format", "(LVolumeTurner;IIII[J)I"⟩) ∈ V_La := kk_La _ j_La_17
theorem k_La_18 : (.codeWith ⟨"VolumeTurnerLaw", "format", "(LVolumeTurner;IIII[J)I"⟩ method_3_code 7 (some .int) [(0, 14, 17, 13)]) ∈ V_La := kk_La _ j_La_18
theorem k_La_19 : (.classLink "VolumeTurnerLaw" 13 "java/lang/IllegalArgumentException") ∈ V_La := kk_La _ j_La_19
theorem k_La_20 : (.methodLink "VolumeTurnerLaw" 7 y_Vt_format) ∈ V_La := kk_La _ j_La_20
theorem k_La_21 : (.methodLink "VolumeTurnerLaw" 117 ⟨"VolumeTurnerLaw", "items", "(LVolumeTurner;[J)I"⟩) ∈ V_La := kk_La _ j_La_21
theorem k_La_22 : (.static ⟨"VolumeTurnerLaw", "items", "(LVolumeTurner;[J)I"⟩) ∈ V_La := kk_La _ j_La_22
theorem k_La_23 : (.codeWith ⟨"VolumeTurnerLaw", "items", "(LVolumeTurner;[J)I"⟩ method_4_code 3 (some .int) [(0, 8, 11, 19)]) ∈ V_La := kk_La _ j_La_23
theorem k_La_24 : (.classLink "VolumeTurnerLaw" 19 "java/lang/IllegalStateException") ∈ V_La := kk_La _ j_La_24
theorem k_La_25 : (.methodLink "VolumeTurnerLaw" 15 y_Vt_items) ∈ V_La := kk_La _ j_La_25
theorem k_La_26 : (.methodLink "VolumeTurnerLaw" 121 ⟨"VolumeTurnerLaw", "letter", "(LVolumeTurner;II[J)I"⟩) ∈ V_La := kk_La _ j_La_26
theorem k_La_27 : (.static ⟨"VolumeTurnerLaw", "letter", "(LVolumeTurner;II[J)I"⟩) ∈ V_La := kk_La _ j_La_27
theorem k_La_28 : (.codeWith ⟨"VolumeTurnerLaw", "letter", "(LVolumeTurner;II[J)I"⟩ method_5_code 5 (some .int) [(0, 10, 13, 19), (0, 10, 17, 25)]) ∈ V_La := kk_La _ j_La_28
theorem k_La_29 : (.classLink "VolumeTurnerLaw" 25 "java/lang/IndexOutOfBoundsException") ∈ V_La := kk_La _ j_La_29
theorem k_La_30 : (.methodLink "VolumeTurnerLaw" 21 y_Vt_letter) ∈ V_La := kk_La _ j_La_30
theorem k_La_31 : (.methodLink "VolumeTurnerLaw" 125 ⟨"VolumeTurnerLaw", "about", "(LVolumeTurner;II[J)I"⟩) ∈ V_La := kk_La _ j_La_31
theorem k_La_32 : (.static ⟨"VolumeTurnerLaw", "about", "(LVolumeTurner;II[J)I"⟩) ∈ V_La := kk_La _ j_La_32
theorem k_La_33 : (.codeWith ⟨"VolumeTurnerLaw", "about", "(LVolumeTurner;II[J)I"⟩ method_6_code 5 (some .int) [(0, 9, 12, 19), (0, 9, 16, 25), (0, 9, 20, 13)]) ∈ V_La := kk_La _ j_La_33
theorem k_La_34 : (.methodLink "VolumeTurnerLaw" 27 y_Vt_about) ∈ V_La := kk_La _ j_La_34
theorem k_La_35 : (.methodLink "VolumeTurnerLaw" 128 ⟨"VolumeTurnerLaw", "content", "(LVolumeTurner;II[J)I"⟩) ∈ V_La := kk_La _ j_La_35
theorem k_La_36 : (.static ⟨"VolumeTurnerLaw", "content", "(LVolumeTurner;II[J)I"⟩) ∈ V_La := kk_La _ j_La_36
theorem k_La_37 : (.codeWith ⟨"VolumeTurnerLaw", "content", "(LVolumeTurner;II[J)I"⟩ method_7_code 5 (some .int) [(0, 10, 13, 19), (0, 10, 17, 25)]) ∈ V_La := kk_La _ j_La_37
theorem k_La_38 : (.methodLink "VolumeTurnerLaw" 31 y_Vt_content) ∈ V_La := kk_La _ j_La_38
theorem k_La_39 : (.methodLink "VolumeTurnerLaw" 131 ⟨"VolumeTurnerLaw", "enter", "(LVolumeTurner;I[J)I"⟩) ∈ V_La := kk_La _ j_La_39
theorem k_La_40 : (.static ⟨"VolumeTurnerLaw", "enter", "(LVolumeTurner;I[J)I"⟩) ∈ V_La := kk_La _ j_La_40
theorem k_La_41 : (.codeWith ⟨"VolumeTurnerLaw", "enter", "(LVolumeTurner;I[J)I"⟩ method_8_code 4 (some .int) [(0, 9, 12, 19), (0, 9, 15, 25), (0, 9, 18, 13)]) ∈ V_La := kk_La _ j_La_41
theorem k_La_42 : (.methodLink "VolumeTurnerLaw" 34 y_Vt_enter) ∈ V_La := kk_La _ j_La_42
theorem k_La_43 : (.methodLink "VolumeTurnerLaw" 135 ⟨"VolumeTurnerLaw", "up", "(LVolumeTurner;[J)I"⟩) ∈ V_La := kk_La _ j_La_43
theorem k_La_44 : (.static ⟨"VolumeTurnerLaw", "up", "(LVolumeTurner;[J)I"⟩) ∈ V_La := kk_La _ j_La_44
theorem k_La_45 : (.codeWith ⟨"VolumeTurnerLaw", "up", "(LVolumeTurner;[J)I"⟩ method_9_code 3 (some .int) [(0, 15, 18, 19)]) ∈ V_La := kk_La _ j_La_45
theorem k_La_46 : (.methodLink "VolumeTurnerLaw" 38 y_Vt_up) ∈ V_La := kk_La _ j_La_46
theorem k_La_47 : (.methodLink "VolumeTurnerLaw" 138 ⟨"VolumeTurnerLaw", "make", "(LVolumeTurner;Z[J)I"⟩) ∈ V_La := kk_La _ j_La_47
theorem k_La_48 : (.static ⟨"VolumeTurnerLaw", "make", "(LVolumeTurner;Z[J)I"⟩) ∈ V_La := kk_La _ j_La_48
theorem k_La_49 : (.codeWith ⟨"VolumeTurnerLaw", "make", "(LVolumeTurner;Z[J)I"⟩ method_10_code 4 (some .int) [(0, 9, 12, 19), (0, 9, 15, 13), (0, 9, 18, 46)]) ∈ V_La := kk_La _ j_La_49
theorem k_La_50 : (.classLink "VolumeTurnerLaw" 46 "java/lang/UnsupportedOperationException") ∈ V_La := kk_La _ j_La_50
theorem k_La_51 : (.methodLink "VolumeTurnerLaw" 42 y_Vt_make) ∈ V_La := kk_La _ j_La_51
theorem k_La_52 : (.methodLink "VolumeTurnerLaw" 142 ⟨"VolumeTurnerLaw", "write", "(LVolumeTurner;I[J)I"⟩) ∈ V_La := kk_La _ j_La_52
theorem k_La_53 : (.static ⟨"VolumeTurnerLaw", "write", "(LVolumeTurner;I[J)I"⟩) ∈ V_La := kk_La _ j_La_53
theorem k_La_54 : (.codeWith ⟨"VolumeTurnerLaw", "write", "(LVolumeTurner;I[J)I"⟩ method_11_code 4 (some .int) [(0, 9, 12, 19), (0, 9, 15, 25), (0, 9, 18, 13), (0, 9, 21, 46)]) ∈ V_La := kk_La _ j_La_54
theorem k_La_55 : (.methodLink "VolumeTurnerLaw" 48 y_Vt_write) ∈ V_La := kk_La _ j_La_55
theorem k_La_56 : (.methodLink "VolumeTurnerLaw" 145 ⟨"VolumeTurnerLaw", "grow", "(LVolumeTurner;III[J)I"⟩) ∈ V_La := kk_La _ j_La_56
theorem k_La_57 : (.static ⟨"VolumeTurnerLaw", "grow", "(LVolumeTurner;III[J)I"⟩) ∈ V_La := kk_La _ j_La_57
theorem k_La_58 : (.codeWith ⟨"VolumeTurnerLaw", "grow", "(LVolumeTurner;III[J)I"⟩ method_12_code 6 (some .int) [(0, 12, 15, 19), (0, 12, 19, 25), (0, 12, 23, 13), (0, 12, 27, 46)]) ∈ V_La := kk_La _ j_La_58
theorem k_La_59 : (.methodLink "VolumeTurnerLaw" 51 y_Vt_grow) ∈ V_La := kk_La _ j_La_59
theorem k_La_60 : (.methodLink "VolumeTurnerLaw" 149 ⟨"VolumeTurnerLaw", "cut", "(LVolumeTurner;II[J)I"⟩) ∈ V_La := kk_La _ j_La_60
theorem k_La_61 : (.static ⟨"VolumeTurnerLaw", "cut", "(LVolumeTurner;II[J)I"⟩) ∈ V_La := kk_La _ j_La_61
theorem k_La_62 : (.codeWith ⟨"VolumeTurnerLaw", "cut", "(LVolumeTurner;II[J)I"⟩ method_13_code 5 (some .int) [(0, 10, 13, 19), (0, 10, 17, 25), (0, 10, 21, 13)]) ∈ V_La := kk_La _ j_La_62
theorem k_La_63 : (.methodLink "VolumeTurnerLaw" 55 y_Vt_cut) ∈ V_La := kk_La _ j_La_63
theorem k_La_64 : (.methodLink "VolumeTurnerLaw" 152 ⟨"VolumeTurnerLaw", "remove", "(LVolumeTurner;I)I"⟩) ∈ V_La := kk_La _ j_La_64
theorem k_La_65 : (.static ⟨"VolumeTurnerLaw", "remove", "(LVolumeTurner;I)I"⟩) ∈ V_La := kk_La _ j_La_65
theorem k_La_66 : (.codeWith ⟨"VolumeTurnerLaw", "remove", "(LVolumeTurner;I)I"⟩ method_14_code 3 (some .int) [(0, 5, 8, 19), (0, 5, 11, 25), (0, 5, 14, 13)]) ∈ V_La := kk_La _ j_La_66
theorem k_La_67 : (.methodLink "VolumeTurnerLaw" 58 y_Vt_remove) ∈ V_La := kk_La _ j_La_67
theorem k_La_68 : (.methodLink "VolumeTurnerLaw" 156 ⟨"VolumeTurnerLaw", "stamp", "(LVolumeTurner;IIII)I"⟩) ∈ V_La := kk_La _ j_La_68
theorem k_La_69 : (.static ⟨"VolumeTurnerLaw", "stamp", "(LVolumeTurner;IIII)I"⟩) ∈ V_La := kk_La _ j_La_69
theorem k_La_70 : (.codeWith ⟨"VolumeTurnerLaw", "stamp", "(LVolumeTurner;IIII)I"⟩ method_15_code 6 (some .int) [(0, 9, 12, 19), (0, 9, 16, 25), (0, 9, 20, 13)]) ∈ V_La := kk_La _ j_La_70
theorem k_La_71 : (.methodLink "VolumeTurnerLaw" 62 y_Vt_stamp) ∈ V_La := kk_La _ j_La_71
theorem k_La_72 : (.methodLink "VolumeTurnerLaw" 173 ⟨"VolumeTurnerLaw", "run", "(LVolumeTurner;II[J)I"⟩) ∈ V_La := kk_La _ j_La_72
theorem k_La_73 : (.static ⟨"VolumeTurnerLaw", "run", "(LVolumeTurner;II[J)I"⟩) ∈ V_La := kk_La _ j_La_73
theorem k_La_74 : (.codeWith ⟨"VolumeTurnerLaw", "run", "(LVolumeTurner;II[J)I"⟩ method_16_code 5 (some .int) [(0, 10, 13, 19), (0, 10, 17, 13)]) ∈ V_La := kk_La _ j_La_74
theorem k_La_75 : (.methodLink "VolumeTurnerLaw" 66 y_Vt_run) ∈ V_La := kk_La _ j_La_75
theorem k_La_76 : (.classLink "VolumeTurnerLaw" 77 "VolumeTurnerModel") ∈ V_La := kk_La _ j_La_76
theorem k_La_77 : (.methodLink "VolumeTurnerLaw" 79 y_Mo_init) ∈ V_La := kk_La _ j_La_77
theorem k_La_78 : (.methodLink "VolumeTurnerLaw" 97 y_Mo_thrown) ∈ V_La := kk_La _ j_La_78
theorem k_La_79 : (.methodLink "VolumeTurnerLaw" 84 y_Mo_feed) ∈ V_La := kk_La _ j_La_79
theorem k_La_80 : (.methodLink "VolumeTurnerLaw" 88 y_Mo_end) ∈ V_La := kk_La _ j_La_80
theorem k_La_81 : (.methodLink "VolumeTurnerLaw" 92 y_Mo_clear) ∈ V_La := kk_La _ j_La_81
theorem k_La_82 : (.methodLink "VolumeTurnerLaw" 108 y_Mo_kind) ∈ V_La := kk_La _ j_La_82
theorem k_La_83 : (.methodLink "VolumeTurnerLaw" 112 y_Mo_fault) ∈ V_La := kk_La _ j_La_83
theorem k_La_84 : (.methodLink "VolumeTurnerLaw" 104 y_Mo_poke) ∈ V_La := kk_La _ j_La_84
theorem k_La_85 : (.methodLink "VolumeTurnerLaw" 116 y_Mo_byteAt) ∈ V_La := kk_La _ j_La_85
theorem k_La_86 : (.methodLink "VolumeTurnerLaw" 96 y_Mo_format) ∈ V_La := kk_La _ j_La_86
theorem k_La_87 : (.methodLink "VolumeTurnerLaw" 120 y_Mo_items) ∈ V_La := kk_La _ j_La_87
theorem k_La_88 : (.methodLink "VolumeTurnerLaw" 124 y_Mo_letter) ∈ V_La := kk_La _ j_La_88
theorem k_La_89 : (.methodLink "VolumeTurnerLaw" 127 y_Mo_about) ∈ V_La := kk_La _ j_La_89
theorem k_La_90 : (.methodLink "VolumeTurnerLaw" 130 y_Mo_content) ∈ V_La := kk_La _ j_La_90
theorem k_La_91 : (.methodLink "VolumeTurnerLaw" 134 y_Mo_enter) ∈ V_La := kk_La _ j_La_91
theorem k_La_92 : (.methodLink "VolumeTurnerLaw" 137 y_Mo_up) ∈ V_La := kk_La _ j_La_92
theorem k_La_93 : (.methodLink "VolumeTurnerLaw" 141 y_Mo_make) ∈ V_La := kk_La _ j_La_93
theorem k_La_94 : (.methodLink "VolumeTurnerLaw" 144 y_Mo_write) ∈ V_La := kk_La _ j_La_94
theorem k_La_95 : (.methodLink "VolumeTurnerLaw" 148 y_Mo_grow) ∈ V_La := kk_La _ j_La_95
theorem k_La_96 : (.methodLink "VolumeTurnerLaw" 151 y_Mo_cut) ∈ V_La := kk_La _ j_La_96
theorem k_La_97 : (.methodLink "VolumeTurnerLaw" 155 y_Mo_remove) ∈ V_La := kk_La _ j_La_97
theorem k_La_98 : (.methodLink "VolumeTurnerLaw" 159 y_Mo_stamp) ∈ V_La := kk_La _ j_La_98
theorem k_La_99 : (.methodLink "VolumeTurnerLaw" 163 y_Mo_plan) ∈ V_La := kk_La _ j_La_99
theorem k_La_100 : (.methodLink "VolumeTurnerLaw" 167 y_Mo_target) ∈ V_La := kk_La _ j_La_100
theorem k_La_101 : (.methodLink "VolumeTurnerLaw" 172 y_Mo_fail) ∈ V_La := kk_La _ j_La_101
theorem k_La_102 : (.methodLink "VolumeTurnerLaw" 175 y_Mo_run) ∈ V_La := kk_La _ j_La_102
theorem gk_La : ∀ w ∈ K_La, goodWord w = true := List.all_eq_true.mp (by decide +kernel)
theorem good_La : GoodIn V_La V_La := fun w h => by
  refine ⟨h, ?_⟩
  rcases List.mem_append.mp h with q | q
  · exact good_of_word (gk_La w q)
  · rcases List.mem_append.mp q with q | q
    · exact (good_Mo w q).2
    · exact (good_Vt w q).2
