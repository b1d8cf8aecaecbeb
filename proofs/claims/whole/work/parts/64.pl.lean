theorem d_Pl_divide_0 : decode cb_Pl_divide 0 = .ok (.iload_n 1, 1) := by decide +kernel
theorem d_Pl_divide_1 : decode cb_Pl_divide 1 = .ok (.bipush 64, 2) := by decide +kernel
theorem d_Pl_divide_3 : decode cb_Pl_divide 3 = .ok (.if_icmp .eq 19, 3) := by decide +kernel
theorem d_Pl_divide_6 : decode cb_Pl_divide 6 = .ok (.iload_n 1, 1) := by decide +kernel
theorem d_Pl_divide_7 : decode cb_Pl_divide 7 = .ok (.sipush 128, 3) := by decide +kernel
theorem d_Pl_divide_10 : decode cb_Pl_divide 10 = .ok (.if_icmp .eq 12, 3) := by decide +kernel
theorem d_Pl_divide_13 : decode cb_Pl_divide 13 = .ok (.iload_n 1, 1) := by decide +kernel
theorem d_Pl_divide_14 : decode cb_Pl_divide 14 = .ok (.sipush 256, 3) := by decide +kernel
theorem d_Pl_divide_17 : decode cb_Pl_divide 17 = .ok (.if_icmp .eq 5, 3) := by decide +kernel
theorem d_Pl_divide_20 : decode cb_Pl_divide 20 = .ok (.iconst 0, 1) := by decide +kernel
theorem d_Pl_divide_21 : decode cb_Pl_divide 21 = .ok (.ireturn, 1) := by decide +kernel
theorem d_Pl_divide_22 : decode cb_Pl_divide 22 = .ok (.aload_n 0, 1) := by decide +kernel
theorem d_Pl_divide_23 : decode cb_Pl_divide 23 = .ok (.iload_n 1, 1) := by decide +kernel
theorem d_Pl_divide_24 : decode cb_Pl_divide 24 = .ok (.putfield 18, 3) := by decide +kernel
theorem d_Pl_divide_27 : decode cb_Pl_divide 27 = .ok (.aload_n 0, 1) := by decide +kernel
theorem d_Pl_divide_28 : decode cb_Pl_divide 28 = .ok (.aload_n 0, 1) := by decide +kernel
theorem d_Pl_divide_29 : decode cb_Pl_divide 29 = .ok (.getfield 53, 3) := by decide +kernel
theorem d_Pl_divide_32 : decode cb_Pl_divide 32 = .ok (.iconst 1, 1) := by decide +kernel
theorem d_Pl_divide_33 : decode cb_Pl_divide 33 = .ok (.isub, 1) := by decide +kernel
theorem d_Pl_divide_34 : decode cb_Pl_divide 34 = .ok (.aload_n 0, 1) := by decide +kernel
theorem d_Pl_divide_35 : decode cb_Pl_divide 35 = .ok (.getfield 18, 3) := by decide +kernel
theorem d_Pl_divide_38 : decode cb_Pl_divide 38 = .ok (.iadd, 1) := by decide +kernel
theorem d_Pl_divide_39 : decode cb_Pl_divide 39 = .ok (.iconst 1, 1) := by decide +kernel
theorem d_Pl_divide_40 : decode cb_Pl_divide 40 = .ok (.isub, 1) := by decide +kernel
theorem d_Pl_divide_41 : decode cb_Pl_divide 41 = .ok (.iload_n 1, 1) := by decide +kernel
theorem d_Pl_divide_42 : decode cb_Pl_divide 42 = .ok (.idiv, 1) := by decide +kernel
theorem d_Pl_divide_43 : decode cb_Pl_divide 43 = .ok (.putfield 21, 3) := by decide +kernel
theorem d_Pl_divide_46 : decode cb_Pl_divide 46 = .ok (.iconst 1, 1) := by decide +kernel
theorem d_Pl_divide_47 : decode cb_Pl_divide 47 = .ok (.ireturn, 1) := by decide +kernel
theorem d_Pl_leastInodes_0 : decode cb_Pl_leastInodes 0 = .ok (.bipush 11, 2) := by decide +kernel
theorem d_Pl_leastInodes_2 : decode cb_Pl_leastInodes 2 = .ok (.aload_n 0, 1) := by decide +kernel
theorem d_Pl_leastInodes_3 : decode cb_Pl_leastInodes 3 = .ok (.getfield 44, 3) := by decide +kernel
theorem d_Pl_leastInodes_6 : decode cb_Pl_leastInodes 6 = .ok (.getfield 111, 3) := by decide +kernel
theorem d_Pl_leastInodes_9 : decode cb_Pl_leastInodes 9 = .ok (.iadd, 1) := by decide +kernel
theorem d_Pl_leastInodes_10 : decode cb_Pl_leastInodes 10 = .ok (.iconst 1, 1) := by decide +kernel
theorem d_Pl_leastInodes_11 : decode cb_Pl_leastInodes 11 = .ok (.isub, 1) := by decide +kernel
theorem d_Pl_leastInodes_12 : decode cb_Pl_leastInodes 12 = .ok (.istore_n 1, 1) := by decide +kernel
theorem d_Pl_leastInodes_13 : decode cb_Pl_leastInodes 13 = .ok (.aload_n 0, 1) := by decide +kernel
theorem d_Pl_leastInodes_14 : decode cb_Pl_leastInodes 14 = .ok (.getfield 21, 3) := by decide +kernel
theorem d_Pl_leastInodes_17 : decode cb_Pl_leastInodes 17 = .ok (.iconst 1, 1) := by decide +kernel
theorem d_Pl_leastInodes_18 : decode cb_Pl_leastInodes 18 = .ok (.if_icmp .ge 7, 3) := by decide +kernel
theorem d_Pl_leastInodes_21 : decode cb_Pl_leastInodes 21 = .ok (.iload_n 1, 1) := by decide +kernel
theorem d_Pl_leastInodes_22 : decode cb_Pl_leastInodes 22 = .ok (.goto 16, 3) := by decide +kernel
theorem d_Pl_leastInodes_25 : decode cb_Pl_leastInodes 25 = .ok (.iload_n 1, 1) := by decide +kernel
theorem d_Pl_leastInodes_26 : decode cb_Pl_leastInodes 26 = .ok (.aload_n 0, 1) := by decide +kernel
theorem d_Pl_leastInodes_27 : decode cb_Pl_leastInodes 27 = .ok (.getfield 21, 3) := by decide +kernel
theorem d_Pl_leastInodes_30 : decode cb_Pl_leastInodes 30 = .ok (.iadd, 1) := by decide +kernel
theorem d_Pl_leastInodes_31 : decode cb_Pl_leastInodes 31 = .ok (.iconst 1, 1) := by decide +kernel
theorem d_Pl_leastInodes_32 : decode cb_Pl_leastInodes 32 = .ok (.isub, 1) := by decide +kernel
theorem d_Pl_leastInodes_33 : decode cb_Pl_leastInodes 33 = .ok (.aload_n 0, 1) := by decide +kernel
theorem d_Pl_leastInodes_34 : decode cb_Pl_leastInodes 34 = .ok (.getfield 21, 3) := by decide +kernel
theorem d_Pl_leastInodes_37 : decode cb_Pl_leastInodes 37 = .ok (.idiv, 1) := by decide +kernel
theorem d_Pl_leastInodes_38 : decode cb_Pl_leastInodes 38 = .ok (.istore_n 2, 1) := by decide +kernel
theorem d_Pl_leastInodes_39 : decode cb_Pl_leastInodes 39 = .ok (.iload_n 2, 1) := by decide +kernel
theorem d_Pl_leastInodes_40 : decode cb_Pl_leastInodes 40 = .ok (.bipush 7, 2) := by decide +kernel
theorem d_Pl_leastInodes_42 : decode cb_Pl_leastInodes 42 = .ok (.iadd, 1) := by decide +kernel
theorem d_Pl_leastInodes_43 : decode cb_Pl_leastInodes 43 = .ok (.bipush 8, 2) := by decide +kernel
theorem d_Pl_leastInodes_45 : decode cb_Pl_leastInodes 45 = .ok (.idiv, 1) := by decide +kernel
theorem d_Pl_leastInodes_46 : decode cb_Pl_leastInodes 46 = .ok (.bipush 8, 2) := by decide +kernel
theorem d_Pl_leastInodes_48 : decode cb_Pl_leastInodes 48 = .ok (.imul, 1) := by decide +kernel
theorem d_Pl_leastInodes_49 : decode cb_Pl_leastInodes 49 = .ok (.ireturn, 1) := by decide +kernel
theorem d_Pl_firstBlock_0 : decode cb_Pl_firstBlock 0 = .ok (.iconst 1, 1) := by decide +kernel
theorem d_Pl_firstBlock_1 : decode cb_Pl_firstBlock 1 = .ok (.iload_n 1, 1) := by decide +kernel
theorem d_Pl_firstBlock_2 : decode cb_Pl_firstBlock 2 = .ok (.aload_n 0, 1) := by decide +kernel
theorem d_Pl_firstBlock_3 : decode cb_Pl_firstBlock 3 = .ok (.getfield 18, 3) := by decide +kernel
theorem d_Pl_firstBlock_6 : decode cb_Pl_firstBlock 6 = .ok (.imul, 1) := by decide +kernel
theorem d_Pl_firstBlock_7 : decode cb_Pl_firstBlock 7 = .ok (.iadd, 1) := by decide +kernel
theorem d_Pl_firstBlock_8 : decode cb_Pl_firstBlock 8 = .ok (.ireturn, 1) := by decide +kernel
theorem d_Pl_blocksOf_0 : decode cb_Pl_blocksOf 0 = .ok (.aload_n 0, 1) := by decide +kernel
theorem d_Pl_blocksOf_1 : decode cb_Pl_blocksOf 1 = .ok (.getfield 18, 3) := by decide +kernel
theorem d_Pl_blocksOf_4 : decode cb_Pl_blocksOf 4 = .ok (.aload_n 0, 1) := by decide +kernel
theorem d_Pl_blocksOf_5 : decode cb_Pl_blocksOf 5 = .ok (.getfield 53, 3) := by decide +kernel
theorem d_Pl_blocksOf_8 : decode cb_Pl_blocksOf 8 = .ok (.aload_n 0, 1) := by decide +kernel
theorem d_Pl_blocksOf_9 : decode cb_Pl_blocksOf 9 = .ok (.iload_n 1, 1) := by decide +kernel
theorem d_Pl_blocksOf_10 : decode cb_Pl_blocksOf 10 = .ok (.invokevirtual 116, 3) := by decide +kernel
theorem d_Pl_blocksOf_13 : decode cb_Pl_blocksOf 13 = .ok (.isub, 1) := by decide +kernel
theorem d_Pl_blocksOf_14 : decode cb_Pl_blocksOf 14 = .ok (.invokestatic 120, 3) := by decide +kernel
theorem d_Pl_blocksOf_17 : decode cb_Pl_blocksOf 17 = .ok (.ireturn, 1) := by decide +kernel
theorem d_Pl_mapBlock_0 : decode cb_Pl_mapBlock 0 = .ok (.iload_n 1, 1) := by decide +kernel
theorem d_Pl_mapBlock_1 : decode cb_Pl_mapBlock 1 = .ok (.ifCond .ne 15, 3) := by decide +kernel
theorem d_Pl_mapBlock_4 : decode cb_Pl_mapBlock 4 = .ok (.aload_n 0, 1) := by decide +kernel
theorem d_Pl_mapBlock_5 : decode cb_Pl_mapBlock 5 = .ok (.getfield 40, 3) := by decide +kernel
theorem d_Pl_mapBlock_8 : decode cb_Pl_mapBlock 8 = .ok (.getfield 79, 3) := by decide +kernel
theorem d_Pl_mapBlock_11 : decode cb_Pl_mapBlock 11 = .ok (.iconst 2, 1) := by decide +kernel
theorem d_Pl_mapBlock_12 : decode cb_Pl_mapBlock 12 = .ok (.idiv, 1) := by decide +kernel
theorem d_Pl_mapBlock_13 : decode cb_Pl_mapBlock 13 = .ok (.goto 10, 3) := by decide +kernel
theorem d_Pl_mapBlock_16 : decode cb_Pl_mapBlock 16 = .ok (.aload_n 0, 1) := by decide +kernel
theorem d_Pl_mapBlock_17 : decode cb_Pl_mapBlock 17 = .ok (.iload_n 1, 1) := by decide +kernel
theorem d_Pl_mapBlock_18 : decode cb_Pl_mapBlock 18 = .ok (.invokevirtual 116, 3) := by decide +kernel
theorem d_Pl_mapBlock_21 : decode cb_Pl_mapBlock 21 = .ok (.iconst 2, 1) := by decide +kernel
theorem d_Pl_mapBlock_22 : decode cb_Pl_mapBlock 22 = .ok (.iadd, 1) := by decide +kernel
theorem d_Pl_mapBlock_23 : decode cb_Pl_mapBlock 23 = .ok (.ireturn, 1) := by decide +kernel
theorem d_Pl_room_0 : decode cb_Pl_room 0 = .ok (.iload_n 1, 1) := by decide +kernel
theorem d_Pl_room_1 : decode cb_Pl_room 1 = .ok (.ifCond .lt 20, 3) := by decide +kernel
theorem d_Pl_room_4 : decode cb_Pl_room 4 = .ok (.iload_n 1, 1) := by decide +kernel
theorem d_Pl_room_5 : decode cb_Pl_room 5 = .ok (.aload_n 0, 1) := by decide +kernel
theorem d_Pl_room_6 : decode cb_Pl_room 6 = .ok (.getfield 9, 3) := by decide +kernel
theorem d_Pl_room_9 : decode cb_Pl_room 9 = .ok (.if_icmp .ge 12, 3) := by decide +kernel
theorem d_Pl_room_12 : decode cb_Pl_room 12 = .ok (.aload_n 0, 1) := by decide +kernel
theorem d_Pl_room_13 : decode cb_Pl_room 13 = .ok (.getfield 72, 3) := by decide +kernel
theorem d_Pl_room_16 : decode cb_Pl_room 16 = .ok (.iload_n 1, 1) := by decide +kernel
theorem d_Pl_room_17 : decode cb_Pl_room 17 = .ok (.iaload, 1) := by decide +kernel
theorem d_Pl_room_18 : decode cb_Pl_room 18 = .ok (.goto 4, 3) := by decide +kernel
theorem d_Pl_room_21 : decode cb_Pl_room 21 = .ok (.iconst 0, 1) := by decide +kernel
theorem d_Pl_room_22 : decode cb_Pl_room 22 = .ok (.ireturn, 1) := by decide +kernel
theorem d_Pl_indirects_0 : decode b_Pl_indirects 0 = .ok (.iload_n 0, 1) := by decide +kernel
theorem d_Pl_indirects_1 : decode b_Pl_indirects 1 = .ok (.bipush 12, 2) := by decide +kernel
theorem d_Pl_indirects_3 : decode b_Pl_indirects 3 = .ok (.if_icmp .gt 5, 3) := by decide +kernel
theorem d_Pl_indirects_6 : decode b_Pl_indirects 6 = .ok (.iconst 0, 1) := by decide +kernel
theorem d_Pl_indirects_7 : decode b_Pl_indirects 7 = .ok (.ireturn, 1) := by decide +kernel
theorem d_Pl_indirects_8 : decode b_Pl_indirects 8 = .ok (.iload_n 0, 1) := by decide +kernel
theorem d_Pl_indirects_9 : decode b_Pl_indirects 9 = .ok (.bipush 12, 2) := by decide +kernel
theorem d_Pl_indirects_11 : decode b_Pl_indirects 11 = .ok (.isub, 1) := by decide +kernel
theorem d_Pl_indirects_12 : decode b_Pl_indirects 12 = .ok (.sipush 256, 3) := by decide +kernel
theorem d_Pl_indirects_15 : decode b_Pl_indirects 15 = .ok (.isub, 1) := by decide +kernel
theorem d_Pl_indirects_16 : decode b_Pl_indirects 16 = .ok (.istore_n 1, 1) := by decide +kernel
theorem d_Pl_indirects_17 : decode b_Pl_indirects 17 = .ok (.iload_n 1, 1) := by decide +kernel
theorem d_Pl_indirects_18 : decode b_Pl_indirects 18 = .ok (.ifCond .gt 7, 3) := by decide +kernel
theorem d_Pl_indirects_21 : decode b_Pl_indirects 21 = .ok (.iconst 1, 1) := by decide +kernel
theorem d_Pl_indirects_22 : decode b_Pl_indirects 22 = .ok (.goto 16, 3) := by decide +kernel
theorem d_Pl_indirects_25 : decode b_Pl_indirects 25 = .ok (.iconst 2, 1) := by decide +kernel
theorem d_Pl_indirects_26 : decode b_Pl_indirects 26 = .ok (.iload_n 1, 1) := by decide +kernel
theorem d_Pl_indirects_27 : decode b_Pl_indirects 27 = .ok (.sipush 256, 3) := by decide +kernel
theorem d_Pl_indirects_30 : decode b_Pl_indirects 30 = .ok (.iadd, 1) := by decide +kernel
theorem d_Pl_indirects_31 : decode b_Pl_indirects 31 = .ok (.iconst 1, 1) := by decide +kernel
theorem d_Pl_indirects_32 : decode b_Pl_indirects 32 = .ok (.isub, 1) := by decide +kernel
theorem d_Pl_indirects_33 : decode b_Pl_indirects 33 = .ok (.sipush 256, 3) := by decide +kernel
theorem d_Pl_indirects_36 : decode b_Pl_indirects 36 = .ok (.idiv, 1) := by decide +kernel
theorem d_Pl_indirects_37 : decode b_Pl_indirects 37 = .ok (.iadd, 1) := by decide +kernel
theorem d_Pl_indirects_38 : decode b_Pl_indirects 38 = .ok (.ireturn, 1) := by decide +kernel
theorem d_Pl_entryLength_0 : decode b_Pl_entryLength 0 = .ok (.bipush 8, 2) := by decide +kernel
theorem d_Pl_entryLength_2 : decode b_Pl_entryLength 2 = .ok (.iload_n 0, 1) := by decide +kernel
theorem d_Pl_entryLength_3 : decode b_Pl_entryLength 3 = .ok (.iadd, 1) := by decide +kernel
theorem d_Pl_entryLength_4 : decode b_Pl_entryLength 4 = .ok (.iconst 3, 1) := by decide +kernel
theorem d_Pl_entryLength_5 : decode b_Pl_entryLength 5 = .ok (.iadd, 1) := by decide +kernel
theorem d_Pl_entryLength_6 : decode b_Pl_entryLength 6 = .ok (.iconst 4, 1) := by decide +kernel
theorem d_Pl_entryLength_7 : decode b_Pl_entryLength 7 = .ok (.idiv, 1) := by decide +kernel
theorem d_Pl_entryLength_8 : decode b_Pl_entryLength 8 = .ok (.iconst 4, 1) := by decide +kernel
theorem d_Pl_entryLength_9 : decode b_Pl_entryLength 9 = .ok (.imul, 1) := by decide +kernel
theorem d_Pl_entryLength_10 : decode b_Pl_entryLength 10 = .ok (.ireturn, 1) := by decide +kernel
theorem d_Pl_mark_0 : decode cb_Pl_mark 0 = .ok (.iload_n 1, 1) := by decide +kernel
theorem d_Pl_mark_1 : decode cb_Pl_mark 1 = .ok (.ifCond .lt 18, 3) := by decide +kernel
theorem d_Pl_mark_4 : decode cb_Pl_mark 4 = .ok (.iload_n 1, 1) := by decide +kernel
theorem d_Pl_mark_5 : decode cb_Pl_mark 5 = .ok (.aload_n 0, 1) := by decide +kernel
theorem d_Pl_mark_6 : decode cb_Pl_mark 6 = .ok (.getfield 53, 3) := by decide +kernel
theorem d_Pl_mark_9 : decode cb_Pl_mark 9 = .ok (.if_icmp .ge 10, 3) := by decide +kernel
theorem d_Pl_mark_12 : decode cb_Pl_mark 12 = .ok (.aload_n 0, 1) := by decide +kernel
theorem d_Pl_mark_13 : decode cb_Pl_mark 13 = .ok (.getfield 60, 3) := by decide +kernel
theorem d_Pl_mark_16 : decode cb_Pl_mark 16 = .ok (.iload_n 1, 1) := by decide +kernel
theorem d_Pl_mark_17 : decode cb_Pl_mark 17 = .ok (.iconst 1, 1) := by decide +kernel
theorem d_Pl_mark_18 : decode cb_Pl_mark 18 = .ok (.bastore, 1) := by decide +kernel
theorem d_Pl_mark_19 : decode cb_Pl_mark 19 = .ok (.return_, 1) := by decide +kernel
theorem d_Pl_isUsed_0 : decode cb_Pl_isUsed 0 = .ok (.iload_n 1, 1) := by decide +kernel
theorem d_Pl_isUsed_1 : decode cb_Pl_isUsed 1 = .ok (.ifCond .lt 20, 3) := by decide +kernel
theorem d_Pl_isUsed_4 : decode cb_Pl_isUsed 4 = .ok (.iload_n 1, 1) := by decide +kernel
theorem d_Pl_isUsed_5 : decode cb_Pl_isUsed 5 = .ok (.aload_n 0, 1) := by decide +kernel
theorem d_Pl_isUsed_6 : decode cb_Pl_isUsed 6 = .ok (.getfield 53, 3) := by decide +kernel
theorem d_Pl_isUsed_9 : decode cb_Pl_isUsed 9 = .ok (.if_icmp .ge 12, 3) := by decide +kernel
theorem d_Pl_isUsed_12 : decode cb_Pl_isUsed 12 = .ok (.aload_n 0, 1) := by decide +kernel
theorem d_Pl_isUsed_13 : decode cb_Pl_isUsed 13 = .ok (.getfield 60, 3) := by decide +kernel
theorem d_Pl_isUsed_16 : decode cb_Pl_isUsed 16 = .ok (.iload_n 1, 1) := by decide +kernel
theorem d_Pl_isUsed_17 : decode cb_Pl_isUsed 17 = .ok (.baload, 1) := by decide +kernel
theorem d_Pl_isUsed_18 : decode cb_Pl_isUsed 18 = .ok (.ifCond .eq 7, 3) := by decide +kernel
theorem d_Pl_isUsed_21 : decode cb_Pl_isUsed 21 = .ok (.iconst 1, 1) := by decide +kernel
theorem d_Pl_isUsed_22 : decode cb_Pl_isUsed 22 = .ok (.goto 4, 3) := by decide +kernel
theorem d_Pl_isUsed_25 : decode cb_Pl_isUsed 25 = .ok (.iconst 0, 1) := by decide +kernel
theorem d_Pl_isUsed_26 : decode cb_Pl_isUsed 26 = .ok (.ireturn, 1) := by decide +kernel
theorem d_Pl_addToList_0 : decode cb_Pl_addToList 0 = .ok (.aload_n 0, 1) := by decide +kernel
theorem d_Pl_addToList_1 : decode cb_Pl_addToList 1 = .ok (.getfield 15, 3) := by decide +kernel
theorem d_Pl_addToList_4 : decode cb_Pl_addToList 4 = .ok (.aload_n 0, 1) := by decide +kernel
theorem d_Pl_addToList_5 : decode cb_Pl_addToList 5 = .ok (.getfield 76, 3) := by decide +kernel
theorem d_Pl_addToList_8 : decode cb_Pl_addToList 8 = .ok (.arraylength, 1) := by decide +kernel
theorem d_Pl_addToList_9 : decode cb_Pl_addToList 9 = .ok (.if_icmp .ge 23, 3) := by decide +kernel
theorem d_Pl_addToList_12 : decode cb_Pl_addToList 12 = .ok (.aload_n 0, 1) := by decide +kernel
theorem d_Pl_addToList_13 : decode cb_Pl_addToList 13 = .ok (.getfield 76, 3) := by decide +kernel
theorem d_Pl_addToList_16 : decode cb_Pl_addToList 16 = .ok (.aload_n 0, 1) := by decide +kernel
theorem d_Pl_addToList_17 : decode cb_Pl_addToList 17 = .ok (.getfield 15, 3) := by decide +kernel
theorem d_Pl_addToList_20 : decode cb_Pl_addToList 20 = .ok (.iload_n 1, 1) := by decide +kernel
theorem d_Pl_addToList_21 : decode cb_Pl_addToList 21 = .ok (.iastore, 1) := by decide +kernel
theorem d_Pl_addToList_22 : decode cb_Pl_addToList 22 = .ok (.aload_n 0, 1) := by decide +kernel
theorem d_Pl_addToList_23 : decode cb_Pl_addToList 23 = .ok (.dup, 1) := by decide +kernel
theorem d_Pl_addToList_24 : decode cb_Pl_addToList 24 = .ok (.getfield 15, 3) := by decide +kernel
theorem d_Pl_addToList_27 : decode cb_Pl_addToList 27 = .ok (.iconst 1, 1) := by decide +kernel
theorem d_Pl_addToList_28 : decode cb_Pl_addToList 28 = .ok (.iadd, 1) := by decide +kernel
theorem d_Pl_addToList_29 : decode cb_Pl_addToList 29 = .ok (.putfield 15, 3) := by decide +kernel
theorem d_Pl_addToList_32 : decode cb_Pl_addToList 32 = .ok (.return_, 1) := by decide +kernel
theorem d_Pl_usedInodes_0 : decode cb_Pl_usedInodes 0 = .ok (.bipush 11, 2) := by decide +kernel
theorem d_Pl_usedInodes_2 : decode cb_Pl_usedInodes 2 = .ok (.aload_n 0, 1) := by decide +kernel
theorem d_Pl_usedInodes_3 : decode cb_Pl_usedInodes 3 = .ok (.getfield 44, 3) := by decide +kernel
theorem d_Pl_usedInodes_6 : decode cb_Pl_usedInodes 6 = .ok (.getfield 111, 3) := by decide +kernel
theorem d_Pl_usedInodes_9 : decode cb_Pl_usedInodes 9 = .ok (.iadd, 1) := by decide +kernel
theorem d_Pl_usedInodes_10 : decode cb_Pl_usedInodes 10 = .ok (.iconst 1, 1) := by decide +kernel
theorem d_Pl_usedInodes_11 : decode cb_Pl_usedInodes 11 = .ok (.isub, 1) := by decide +kernel
theorem d_Pl_usedInodes_12 : decode cb_Pl_usedInodes 12 = .ok (.ireturn, 1) := by decide +kernel
theorem d_Pl_freeInodes_0 : decode cb_Pl_freeInodes 0 = .ok (.aload_n 0, 1) := by decide +kernel
theorem d_Pl_freeInodes_1 : decode cb_Pl_freeInodes 1 = .ok (.invokevirtual 258, 3) := by decide +kernel
theorem d_Pl_freeInodes_4 : decode cb_Pl_freeInodes 4 = .ok (.iload_n 1, 1) := by decide +kernel
theorem d_Pl_freeInodes_5 : decode cb_Pl_freeInodes 5 = .ok (.aload_n 0, 1) := by decide +kernel
theorem d_Pl_freeInodes_6 : decode cb_Pl_freeInodes 6 = .ok (.getfield 24, 3) := by decide +kernel
theorem d_Pl_freeInodes_9 : decode cb_Pl_freeInodes 9 = .ok (.imul, 1) := by decide +kernel
theorem d_Pl_freeInodes_10 : decode cb_Pl_freeInodes 10 = .ok (.isub, 1) := by decide +kernel
theorem d_Pl_freeInodes_11 : decode cb_Pl_freeInodes 11 = .ok (.iconst 0, 1) := by decide +kernel
theorem d_Pl_freeInodes_12 : decode cb_Pl_freeInodes 12 = .ok (.invokestatic 261, 3) := by decide +kernel
theorem d_Pl_freeInodes_15 : decode cb_Pl_freeInodes 15 = .ok (.istore_n 2, 1) := by decide +kernel
theorem d_Pl_freeInodes_16 : decode cb_Pl_freeInodes 16 = .ok (.aload_n 0, 1) := by decide +kernel
theorem d_Pl_freeInodes_17 : decode cb_Pl_freeInodes 17 = .ok (.getfield 24, 3) := by decide +kernel
theorem d_Pl_freeInodes_20 : decode cb_Pl_freeInodes 20 = .ok (.iload_n 2, 1) := by decide +kernel
theorem d_Pl_freeInodes_21 : decode cb_Pl_freeInodes 21 = .ok (.aload_n 0, 1) := by decide +kernel
theorem d_Pl_freeInodes_22 : decode cb_Pl_freeInodes 22 = .ok (.getfield 24, 3) := by decide +kernel
theorem d_Pl_freeInodes_25 : decode cb_Pl_freeInodes 25 = .ok (.invokestatic 120, 3) := by decide +kernel
theorem d_Pl_freeInodes_28 : decode cb_Pl_freeInodes 28 = .ok (.isub, 1) := by decide +kernel
theorem d_Pl_freeInodes_29 : decode cb_Pl_freeInodes 29 = .ok (.ireturn, 1) := by decide +kernel
theorem d_Pl_blockOfCluster_0 : decode cb_Pl_blockOfCluster 0 = .ok (.aload_n 0, 1) := by decide +kernel
theorem d_Pl_blockOfCluster_1 : decode cb_Pl_blockOfCluster 1 = .ok (.getfield 40, 3) := by decide +kernel
theorem d_Pl_blockOfCluster_4 : decode cb_Pl_blockOfCluster 4 = .ok (.getfield 79, 3) := by decide +kernel
theorem d_Pl_blockOfCluster_7 : decode cb_Pl_blockOfCluster 7 = .ok (.iconst 2, 1) := by decide +kernel
theorem d_Pl_blockOfCluster_8 : decode cb_Pl_blockOfCluster 8 = .ok (.idiv, 1) := by decide +kernel
theorem d_Pl_blockOfCluster_9 : decode cb_Pl_blockOfCluster 9 = .ok (.iload_n 1, 1) := by decide +kernel
theorem d_Pl_blockOfCluster_10 : decode cb_Pl_blockOfCluster 10 = .ok (.iconst 2, 1) := by decide +kernel
theorem d_Pl_blockOfCluster_11 : decode cb_Pl_blockOfCluster 11 = .ok (.isub, 1) := by decide +kernel
theorem d_Pl_blockOfCluster_12 : decode cb_Pl_blockOfCluster 12 = .ok (.aload_n 0, 1) := by decide +kernel
theorem d_Pl_blockOfCluster_13 : decode cb_Pl_blockOfCluster 13 = .ok (.getfield 40, 3) := by decide +kernel
theorem d_Pl_blockOfCluster_16 : decode cb_Pl_blockOfCluster 16 = .ok (.getfield 139, 3) := by decide +kernel
theorem d_Pl_blockOfCluster_19 : decode cb_Pl_blockOfCluster 19 = .ok (.iconst 2, 1) := by decide +kernel
theorem d_Pl_blockOfCluster_20 : decode cb_Pl_blockOfCluster 20 = .ok (.idiv, 1) := by decide +kernel
theorem d_Pl_blockOfCluster_21 : decode cb_Pl_blockOfCluster 21 = .ok (.imul, 1) := by decide +kernel
theorem d_Pl_blockOfCluster_22 : decode cb_Pl_blockOfCluster 22 = .ok (.iadd, 1) := by decide +kernel
theorem d_Pl_blockOfCluster_23 : decode cb_Pl_blockOfCluster 23 = .ok (.ireturn, 1) := by decide +kernel
theorem d_Pl_number_0 : decode cb_Pl_number 0 = .ok (.iload_n 1, 1) := by decide +kernel
theorem d_Pl_number_1 : decode cb_Pl_number 1 = .ok (.tableswitch 70 1 5 #[35, 40, 45, 60, 65], 35) := by decide +kernel
theorem d_Pl_number_36 : decode cb_Pl_number 36 = .ok (.aload_n 0, 1) := by decide +kernel
theorem d_Pl_number_37 : decode cb_Pl_number 37 = .ok (.getfield 21, 3) := by decide +kernel
theorem d_Pl_number_40 : decode cb_Pl_number 40 = .ok (.ireturn, 1) := by decide +kernel
theorem d_Pl_number_41 : decode cb_Pl_number 41 = .ok (.aload_n 0, 1) := by decide +kernel
theorem d_Pl_number_42 : decode cb_Pl_number 42 = .ok (.getfield 24, 3) := by decide +kernel
theorem d_Pl_number_45 : decode cb_Pl_number 45 = .ok (.ireturn, 1) := by decide +kernel
theorem d_Pl_number_46 : decode cb_Pl_number 46 = .ok (.aload_n 0, 1) := by decide +kernel
theorem d_Pl_number_47 : decode cb_Pl_number 47 = .ok (.getfield 21, 3) := by decide +kernel
theorem d_Pl_number_50 : decode cb_Pl_number 50 = .ok (.iconst 4, 1) := by decide +kernel
theorem d_Pl_number_51 : decode cb_Pl_number 51 = .ok (.aload_n 0, 1) := by decide +kernel
theorem d_Pl_number_52 : decode cb_Pl_number 52 = .ok (.getfield 24, 3) := by decide +kernel
theorem d_Pl_number_55 : decode cb_Pl_number 55 = .ok (.bipush 8, 2) := by decide +kernel
theorem d_Pl_number_57 : decode cb_Pl_number 57 = .ok (.idiv, 1) := by decide +kernel
theorem d_Pl_number_58 : decode cb_Pl_number 58 = .ok (.iadd, 1) := by decide +kernel
theorem d_Pl_number_59 : decode cb_Pl_number 59 = .ok (.imul, 1) := by decide +kernel
theorem d_Pl_number_60 : decode cb_Pl_number 60 = .ok (.ireturn, 1) := by decide +kernel
theorem d_Pl_number_61 : decode cb_Pl_number 61 = .ok (.aload_n 0, 1) := by decide +kernel
theorem d_Pl_number_62 : decode cb_Pl_number 62 = .ok (.getfield 27, 3) := by decide +kernel
theorem d_Pl_number_65 : decode cb_Pl_number 65 = .ok (.ireturn, 1) := by decide +kernel
theorem d_Pl_number_66 : decode cb_Pl_number 66 = .ok (.aload_n 0, 1) := by decide +kernel
theorem d_Pl_number_67 : decode cb_Pl_number 67 = .ok (.getfield 30, 3) := by decide +kernel
theorem d_Pl_number_70 : decode cb_Pl_number 70 = .ok (.ireturn, 1) := by decide +kernel
theorem d_Pl_number_71 : decode cb_Pl_number 71 = .ok (.aload_n 0, 1) := by decide +kernel
theorem d_Pl_number_72 : decode cb_Pl_number 72 = .ok (.getfield 33, 3) := by decide +kernel
theorem d_Pl_number_75 : decode cb_Pl_number 75 = .ok (.ireturn, 1) := by decide +kernel