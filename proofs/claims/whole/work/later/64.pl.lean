theorem d_Pl_divide_0 : decode b_Pl_divide 0 = .ok (.iload_n 1, 1) := by decide +kernel
theorem d_Pl_divide_1 : decode b_Pl_divide 1 = .ok (.bipush 64, 2) := by decide +kernel
theorem d_Pl_divide_3 : decode b_Pl_divide 3 = .ok (.if_icmp .eq 19, 3) := by decide +kernel
theorem d_Pl_divide_6 : decode b_Pl_divide 6 = .ok (.iload_n 1, 1) := by decide +kernel
theorem d_Pl_divide_7 : decode b_Pl_divide 7 = .ok (.sipush 128, 3) := by decide +kernel
theorem d_Pl_divide_10 : decode b_Pl_divide 10 = .ok (.if_icmp .eq 12, 3) := by decide +kernel
theorem d_Pl_divide_13 : decode b_Pl_divide 13 = .ok (.iload_n 1, 1) := by decide +kernel
theorem d_Pl_divide_14 : decode b_Pl_divide 14 = .ok (.sipush 256, 3) := by decide +kernel
theorem d_Pl_divide_17 : decode b_Pl_divide 17 = .ok (.if_icmp .eq 5, 3) := by decide +kernel
theorem d_Pl_divide_20 : decode b_Pl_divide 20 = .ok (.iconst 0, 1) := by decide +kernel
theorem d_Pl_divide_21 : decode b_Pl_divide 21 = .ok (.ireturn, 1) := by decide +kernel
theorem d_Pl_divide_22 : decode b_Pl_divide 22 = .ok (.aload_n 0, 1) := by decide +kernel
theorem d_Pl_divide_23 : decode b_Pl_divide 23 = .ok (.iload_n 1, 1) := by decide +kernel
theorem d_Pl_divide_24 : decode b_Pl_divide 24 = .ok (.putfield 18, 3) := by decide +kernel
theorem d_Pl_divide_27 : decode b_Pl_divide 27 = .ok (.aload_n 0, 1) := by decide +kernel
theorem d_Pl_divide_28 : decode b_Pl_divide 28 = .ok (.aload_n 0, 1) := by decide +kernel
theorem d_Pl_divide_29 : decode b_Pl_divide 29 = .ok (.getfield 53, 3) := by decide +kernel
theorem d_Pl_divide_32 : decode b_Pl_divide 32 = .ok (.iconst 1, 1) := by decide +kernel
theorem d_Pl_divide_33 : decode b_Pl_divide 33 = .ok (.isub, 1) := by decide +kernel
theorem d_Pl_divide_34 : decode b_Pl_divide 34 = .ok (.aload_n 0, 1) := by decide +kernel
theorem d_Pl_divide_35 : decode b_Pl_divide 35 = .ok (.getfield 18, 3) := by decide +kernel
theorem d_Pl_divide_38 : decode b_Pl_divide 38 = .ok (.iadd, 1) := by decide +kernel
theorem d_Pl_divide_39 : decode b_Pl_divide 39 = .ok (.iconst 1, 1) := by decide +kernel
theorem d_Pl_divide_40 : decode b_Pl_divide 40 = .ok (.isub, 1) := by decide +kernel
theorem d_Pl_divide_41 : decode b_Pl_divide 41 = .ok (.iload_n 1, 1) := by decide +kernel
theorem d_Pl_divide_42 : decode b_Pl_divide 42 = .ok (.idiv, 1) := by decide +kernel
theorem d_Pl_divide_43 : decode b_Pl_divide 43 = .ok (.putfield 21, 3) := by decide +kernel
theorem d_Pl_divide_46 : decode b_Pl_divide 46 = .ok (.iconst 1, 1) := by decide +kernel
theorem d_Pl_divide_47 : decode b_Pl_divide 47 = .ok (.ireturn, 1) := by decide +kernel
theorem d_Pl_leastInodes_0 : decode b_Pl_leastInodes 0 = .ok (.bipush 11, 2) := by decide +kernel
theorem d_Pl_leastInodes_2 : decode b_Pl_leastInodes 2 = .ok (.aload_n 0, 1) := by decide +kernel
theorem d_Pl_leastInodes_3 : decode b_Pl_leastInodes 3 = .ok (.getfield 44, 3) := by decide +kernel
theorem d_Pl_leastInodes_6 : decode b_Pl_leastInodes 6 = .ok (.getfield 111, 3) := by decide +kernel
theorem d_Pl_leastInodes_9 : decode b_Pl_leastInodes 9 = .ok (.iadd, 1) := by decide +kernel
theorem d_Pl_leastInodes_10 : decode b_Pl_leastInodes 10 = .ok (.iconst 1, 1) := by decide +kernel
theorem d_Pl_leastInodes_11 : decode b_Pl_leastInodes 11 = .ok (.isub, 1) := by decide +kernel
theorem d_Pl_leastInodes_12 : decode b_Pl_leastInodes 12 = .ok (.istore_n 1, 1) := by decide +kernel
theorem d_Pl_leastInodes_13 : decode b_Pl_leastInodes 13 = .ok (.aload_n 0, 1) := by decide +kernel
theorem d_Pl_leastInodes_14 : decode b_Pl_leastInodes 14 = .ok (.getfield 21, 3) := by decide +kernel
theorem d_Pl_leastInodes_17 : decode b_Pl_leastInodes 17 = .ok (.iconst 1, 1) := by decide +kernel
theorem d_Pl_leastInodes_18 : decode b_Pl_leastInodes 18 = .ok (.if_icmp .ge 7, 3) := by decide +kernel
theorem d_Pl_leastInodes_21 : decode b_Pl_leastInodes 21 = .ok (.iload_n 1, 1) := by decide +kernel
theorem d_Pl_leastInodes_22 : decode b_Pl_leastInodes 22 = .ok (.goto 16, 3) := by decide +kernel
theorem d_Pl_leastInodes_25 : decode b_Pl_leastInodes 25 = .ok (.iload_n 1, 1) := by decide +kernel
theorem d_Pl_leastInodes_26 : decode b_Pl_leastInodes 26 = .ok (.aload_n 0, 1) := by decide +kernel
theorem d_Pl_leastInodes_27 : decode b_Pl_leastInodes 27 = .ok (.getfield 21, 3) := by decide +kernel
theorem d_Pl_leastInodes_30 : decode b_Pl_leastInodes 30 = .ok (.iadd, 1) := by decide +kernel
theorem d_Pl_leastInodes_31 : decode b_Pl_leastInodes 31 = .ok (.iconst 1, 1) := by decide +kernel
theorem d_Pl_leastInodes_32 : decode b_Pl_leastInodes 32 = .ok (.isub, 1) := by decide +kernel
theorem d_Pl_leastInodes_33 : decode b_Pl_leastInodes 33 = .ok (.aload_n 0, 1) := by decide +kernel
theorem d_Pl_leastInodes_34 : decode b_Pl_leastInodes 34 = .ok (.getfield 21, 3) := by decide +kernel
theorem d_Pl_leastInodes_37 : decode b_Pl_leastInodes 37 = .ok (.idiv, 1) := by decide +kernel
theorem d_Pl_leastInodes_38 : decode b_Pl_leastInodes 38 = .ok (.istore_n 2, 1) := by decide +kernel
theorem d_Pl_leastInodes_39 : decode b_Pl_leastInodes 39 = .ok (.iload_n 2, 1) := by decide +kernel
theorem d_Pl_leastInodes_40 : decode b_Pl_leastInodes 40 = .ok (.bipush 7, 2) := by decide +kernel
theorem d_Pl_leastInodes_42 : decode b_Pl_leastInodes 42 = .ok (.iadd, 1) := by decide +kernel
theorem d_Pl_leastInodes_43 : decode b_Pl_leastInodes 43 = .ok (.bipush 8, 2) := by decide +kernel
theorem d_Pl_leastInodes_45 : decode b_Pl_leastInodes 45 = .ok (.idiv, 1) := by decide +kernel
theorem d_Pl_leastInodes_46 : decode b_Pl_leastInodes 46 = .ok (.bipush 8, 2) := by decide +kernel
theorem d_Pl_leastInodes_48 : decode b_Pl_leastInodes 48 = .ok (.imul, 1) := by decide +kernel
theorem d_Pl_leastInodes_49 : decode b_Pl_leastInodes 49 = .ok (.ireturn, 1) := by decide +kernel
theorem d_Pl_firstBlock_0 : decode b_Pl_firstBlock 0 = .ok (.iconst 1, 1) := by decide +kernel
theorem d_Pl_firstBlock_1 : decode b_Pl_firstBlock 1 = .ok (.iload_n 1, 1) := by decide +kernel
theorem d_Pl_firstBlock_2 : decode b_Pl_firstBlock 2 = .ok (.aload_n 0, 1) := by decide +kernel
theorem d_Pl_firstBlock_3 : decode b_Pl_firstBlock 3 = .ok (.getfield 18, 3) := by decide +kernel
theorem d_Pl_firstBlock_6 : decode b_Pl_firstBlock 6 = .ok (.imul, 1) := by decide +kernel
theorem d_Pl_firstBlock_7 : decode b_Pl_firstBlock 7 = .ok (.iadd, 1) := by decide +kernel
theorem d_Pl_firstBlock_8 : decode b_Pl_firstBlock 8 = .ok (.ireturn, 1) := by decide +kernel
theorem d_Pl_blocksOf_0 : decode b_Pl_blocksOf 0 = .ok (.aload_n 0, 1) := by decide +kernel
theorem d_Pl_blocksOf_1 : decode b_Pl_blocksOf 1 = .ok (.getfield 18, 3) := by decide +kernel
theorem d_Pl_blocksOf_4 : decode b_Pl_blocksOf 4 = .ok (.aload_n 0, 1) := by decide +kernel
theorem d_Pl_blocksOf_5 : decode b_Pl_blocksOf 5 = .ok (.getfield 53, 3) := by decide +kernel
theorem d_Pl_blocksOf_8 : decode b_Pl_blocksOf 8 = .ok (.aload_n 0, 1) := by decide +kernel
theorem d_Pl_blocksOf_9 : decode b_Pl_blocksOf 9 = .ok (.iload_n 1, 1) := by decide +kernel
theorem d_Pl_blocksOf_10 : decode b_Pl_blocksOf 10 = .ok (.invokevirtual 116, 3) := by decide +kernel
theorem d_Pl_blocksOf_13 : decode b_Pl_blocksOf 13 = .ok (.isub, 1) := by decide +kernel
theorem d_Pl_blocksOf_14 : decode b_Pl_blocksOf 14 = .ok (.invokestatic 120, 3) := by decide +kernel
theorem d_Pl_blocksOf_17 : decode b_Pl_blocksOf 17 = .ok (.ireturn, 1) := by decide +kernel
theorem d_Pl_mapBlock_0 : decode b_Pl_mapBlock 0 = .ok (.iload_n 1, 1) := by decide +kernel
theorem d_Pl_mapBlock_1 : decode b_Pl_mapBlock 1 = .ok (.ifCond .ne 15, 3) := by decide +kernel
theorem d_Pl_mapBlock_4 : decode b_Pl_mapBlock 4 = .ok (.aload_n 0, 1) := by decide +kernel
theorem d_Pl_mapBlock_5 : decode b_Pl_mapBlock 5 = .ok (.getfield 40, 3) := by decide +kernel
theorem d_Pl_mapBlock_8 : decode b_Pl_mapBlock 8 = .ok (.getfield 79, 3) := by decide +kernel
theorem d_Pl_mapBlock_11 : decode b_Pl_mapBlock 11 = .ok (.iconst 2, 1) := by decide +kernel
theorem d_Pl_mapBlock_12 : decode b_Pl_mapBlock 12 = .ok (.idiv, 1) := by decide +kernel
theorem d_Pl_mapBlock_13 : decode b_Pl_mapBlock 13 = .ok (.goto 10, 3) := by decide +kernel
theorem d_Pl_mapBlock_16 : decode b_Pl_mapBlock 16 = .ok (.aload_n 0, 1) := by decide +kernel
theorem d_Pl_mapBlock_17 : decode b_Pl_mapBlock 17 = .ok (.iload_n 1, 1) := by decide +kernel
theorem d_Pl_mapBlock_18 : decode b_Pl_mapBlock 18 = .ok (.invokevirtual 116, 3) := by decide +kernel
theorem d_Pl_mapBlock_21 : decode b_Pl_mapBlock 21 = .ok (.iconst 2, 1) := by decide +kernel
theorem d_Pl_mapBlock_22 : decode b_Pl_mapBlock 22 = .ok (.iadd, 1) := by decide +kernel
theorem d_Pl_mapBlock_23 : decode b_Pl_mapBlock 23 = .ok (.ireturn, 1) := by decide +kernel
theorem d_Pl_room_0 : decode b_Pl_room 0 = .ok (.iload_n 1, 1) := by decide +kernel
theorem d_Pl_room_1 : decode b_Pl_room 1 = .ok (.ifCond .lt 20, 3) := by decide +kernel
theorem d_Pl_room_4 : decode b_Pl_room 4 = .ok (.iload_n 1, 1) := by decide +kernel
theorem d_Pl_room_5 : decode b_Pl_room 5 = .ok (.aload_n 0, 1) := by decide +kernel
theorem d_Pl_room_6 : decode b_Pl_room 6 = .ok (.getfield 9, 3) := by decide +kernel
theorem d_Pl_room_9 : decode b_Pl_room 9 = .ok (.if_icmp .ge 12, 3) := by decide +kernel
theorem d_Pl_room_12 : decode b_Pl_room 12 = .ok (.aload_n 0, 1) := by decide +kernel
theorem d_Pl_room_13 : decode b_Pl_room 13 = .ok (.getfield 72, 3) := by decide +kernel
theorem d_Pl_room_16 : decode b_Pl_room 16 = .ok (.iload_n 1, 1) := by decide +kernel
theorem d_Pl_room_17 : decode b_Pl_room 17 = .ok (.iaload, 1) := by decide +kernel
theorem d_Pl_room_18 : decode b_Pl_room 18 = .ok (.goto 4, 3) := by decide +kernel
theorem d_Pl_room_21 : decode b_Pl_room 21 = .ok (.iconst 0, 1) := by decide +kernel
theorem d_Pl_room_22 : decode b_Pl_room 22 = .ok (.ireturn, 1) := by decide +kernel
theorem d_Pl_indirects_0 : decode b_Pl_indirects 0 = .ok (.iload_n 0, 1) := by decide +kernel
theorem d_Pl_indirects_1 : decode b_Pl_indirects 1 = .ok (.bipush 12, 2) := by decide +kernel
theorem d_Pl_indirects_3 : decode b_Pl_indirects 3 = .ok (.if_icmp .gt 5, 3) := by decide +kernel
theorem d_Pl_indirects_6 : decode b_Pl_indirects 6 = .ok (.iconst 0, 1) := by decide +kernel
theorem d_Pl_indirects_7 : decode b_Pl_indirects 7 = .ok (.ireturn, 1) := by decide +kernel
theorem d_Pl_indirects_8 : decode b_Pl_indirects 8 = .ok (.iload_n 0, 1) := by decide +kernel
theorem d_Pl_indirects_9 : decode b_Pl_indirects 9 = .ok (.bipush 12, 2) := by decide +kernel
theorem d_Pl_indirects_11 : decode b_Pl_indirects 11 = .ok (.isub, 1) := by decide +kernel
theorem d_Pl_indirects_12 : decode b_Pl_indirects 12 = .ok (.sipush 256, 3) := by decide +kernel
theorem d_Pl_indirects_15 : decode b_Pl_indirects 15 = .ok (.isub, 1) := by decide +kernel
theorem d_Pl_indirects_16 : decode b_Pl_indirects 16 = .ok (.istore_n 1, 1) := by decide +kernel
theorem d_Pl_indirects_17 : decode b_Pl_indirects 17 = .ok (.iload_n 1, 1) := by decide +kernel
theorem d_Pl_indirects_18 : decode b_Pl_indirects 18 = .ok (.ifCond .gt 7, 3) := by decide +kernel
theorem d_Pl_indirects_21 : decode b_Pl_indirects 21 = .ok (.iconst 1, 1) := by decide +kernel
theorem d_Pl_indirects_22 : decode b_Pl_indirects 22 = .ok (.goto 16, 3) := by decide +kernel
theorem d_Pl_indirects_25 : decode b_Pl_indirects 25 = .ok (.iconst 2, 1) := by decide +kernel
theorem d_Pl_indirects_26 : decode b_Pl_indirects 26 = .ok (.iload_n 1, 1) := by decide +kernel
theorem d_Pl_indirects_27 : decode b_Pl_indirects 27 = .ok (.sipush 256, 3) := by decide +kernel
theorem d_Pl_indirects_30 : decode b_Pl_indirects 30 = .ok (.iadd, 1) := by decide +kernel
theorem d_Pl_indirects_31 : decode b_Pl_indirects 31 = .ok (.iconst 1, 1) := by decide +kernel
theorem d_Pl_indirects_32 : decode b_Pl_indirects 32 = .ok (.isub, 1) := by decide +kernel
theorem d_Pl_indirects_33 : decode b_Pl_indirects 33 = .ok (.sipush 256, 3) := by decide +kernel
theorem d_Pl_indirects_36 : decode b_Pl_indirects 36 = .ok (.idiv, 1) := by decide +kernel
theorem d_Pl_indirects_37 : decode b_Pl_indirects 37 = .ok (.iadd, 1) := by decide +kernel
theorem d_Pl_indirects_38 : decode b_Pl_indirects 38 = .ok (.ireturn, 1) := by decide +kernel
theorem d_Pl_entryLength_0 : decode b_Pl_entryLength 0 = .ok (.bipush 8, 2) := by decide +kernel
theorem d_Pl_entryLength_2 : decode b_Pl_entryLength 2 = .ok (.iload_n 0, 1) := by decide +kernel
theorem d_Pl_entryLength_3 : decode b_Pl_entryLength 3 = .ok (.iadd, 1) := by decide +kernel
theorem d_Pl_entryLength_4 : decode b_Pl_entryLength 4 = .ok (.iconst 3, 1) := by decide +kernel
theorem d_Pl_entryLength_5 : decode b_Pl_entryLength 5 = .ok (.iadd, 1) := by decide +kernel
theorem d_Pl_entryLength_6 : decode b_Pl_entryLength 6 = .ok (.iconst 4, 1) := by decide +kernel
theorem d_Pl_entryLength_7 : decode b_Pl_entryLength 7 = .ok (.idiv, 1) := by decide +kernel
theorem d_Pl_entryLength_8 : decode b_Pl_entryLength 8 = .ok (.iconst 4, 1) := by decide +kernel
theorem d_Pl_entryLength_9 : decode b_Pl_entryLength 9 = .ok (.imul, 1) := by decide +kernel
theorem d_Pl_entryLength_10 : decode b_Pl_entryLength 10 = .ok (.ireturn, 1) := by decide +kernel
theorem d_Pl_mark_0 : decode b_Pl_mark 0 = .ok (.iload_n 1, 1) := by decide +kernel
theorem d_Pl_mark_1 : decode b_Pl_mark 1 = .ok (.ifCond .lt 18, 3) := by decide +kernel
theorem d_Pl_mark_4 : decode b_Pl_mark 4 = .ok (.iload_n 1, 1) := by decide +kernel
theorem d_Pl_mark_5 : decode b_Pl_mark 5 = .ok (.aload_n 0, 1) := by decide +kernel
theorem d_Pl_mark_6 : decode b_Pl_mark 6 = .ok (.getfield 53, 3) := by decide +kernel
theorem d_Pl_mark_9 : decode b_Pl_mark 9 = .ok (.if_icmp .ge 10, 3) := by decide +kernel
theorem d_Pl_mark_12 : decode b_Pl_mark 12 = .ok (.aload_n 0, 1) := by decide +kernel
theorem d_Pl_mark_13 : decode b_Pl_mark 13 = .ok (.getfield 60, 3) := by decide +kernel
theorem d_Pl_mark_16 : decode b_Pl_mark 16 = .ok (.iload_n 1, 1) := by decide +kernel
theorem d_Pl_mark_17 : decode b_Pl_mark 17 = .ok (.iconst 1, 1) := by decide +kernel
theorem d_Pl_mark_18 : decode b_Pl_mark 18 = .ok (.bastore, 1) := by decide +kernel
theorem d_Pl_mark_19 : decode b_Pl_mark 19 = .ok (.return_, 1) := by decide +kernel
theorem d_Pl_isUsed_0 : decode b_Pl_isUsed 0 = .ok (.iload_n 1, 1) := by decide +kernel
theorem d_Pl_isUsed_1 : decode b_Pl_isUsed 1 = .ok (.ifCond .lt 20, 3) := by decide +kernel
theorem d_Pl_isUsed_4 : decode b_Pl_isUsed 4 = .ok (.iload_n 1, 1) := by decide +kernel
theorem d_Pl_isUsed_5 : decode b_Pl_isUsed 5 = .ok (.aload_n 0, 1) := by decide +kernel
theorem d_Pl_isUsed_6 : decode b_Pl_isUsed 6 = .ok (.getfield 53, 3) := by decide +kernel
theorem d_Pl_isUsed_9 : decode b_Pl_isUsed 9 = .ok (.if_icmp .ge 12, 3) := by decide +kernel
theorem d_Pl_isUsed_12 : decode b_Pl_isUsed 12 = .ok (.aload_n 0, 1) := by decide +kernel
theorem d_Pl_isUsed_13 : decode b_Pl_isUsed 13 = .ok (.getfield 60, 3) := by decide +kernel
theorem d_Pl_isUsed_16 : decode b_Pl_isUsed 16 = .ok (.iload_n 1, 1) := by decide +kernel
theorem d_Pl_isUsed_17 : decode b_Pl_isUsed 17 = .ok (.baload, 1) := by decide +kernel
theorem d_Pl_isUsed_18 : decode b_Pl_isUsed 18 = .ok (.ifCond .eq 7, 3) := by decide +kernel
theorem d_Pl_isUsed_21 : decode b_Pl_isUsed 21 = .ok (.iconst 1, 1) := by decide +kernel
theorem d_Pl_isUsed_22 : decode b_Pl_isUsed 22 = .ok (.goto 4, 3) := by decide +kernel
theorem d_Pl_isUsed_25 : decode b_Pl_isUsed 25 = .ok (.iconst 0, 1) := by decide +kernel
theorem d_Pl_isUsed_26 : decode b_Pl_isUsed 26 = .ok (.ireturn, 1) := by decide +kernel
theorem d_Pl_addToList_0 : decode b_Pl_addToList 0 = .ok (.aload_n 0, 1) := by decide +kernel
theorem d_Pl_addToList_1 : decode b_Pl_addToList 1 = .ok (.getfield 15, 3) := by decide +kernel
theorem d_Pl_addToList_4 : decode b_Pl_addToList 4 = .ok (.aload_n 0, 1) := by decide +kernel
theorem d_Pl_addToList_5 : decode b_Pl_addToList 5 = .ok (.getfield 76, 3) := by decide +kernel
theorem d_Pl_addToList_8 : decode b_Pl_addToList 8 = .ok (.arraylength, 1) := by decide +kernel
theorem d_Pl_addToList_9 : decode b_Pl_addToList 9 = .ok (.if_icmp .ge 23, 3) := by decide +kernel
theorem d_Pl_addToList_12 : decode b_Pl_addToList 12 = .ok (.aload_n 0, 1) := by decide +kernel
theorem d_Pl_addToList_13 : decode b_Pl_addToList 13 = .ok (.getfield 76, 3) := by decide +kernel
theorem d_Pl_addToList_16 : decode b_Pl_addToList 16 = .ok (.aload_n 0, 1) := by decide +kernel
theorem d_Pl_addToList_17 : decode b_Pl_addToList 17 = .ok (.getfield 15, 3) := by decide +kernel
theorem d_Pl_addToList_20 : decode b_Pl_addToList 20 = .ok (.iload_n 1, 1) := by decide +kernel
theorem d_Pl_addToList_21 : decode b_Pl_addToList 21 = .ok (.iastore, 1) := by decide +kernel
theorem d_Pl_addToList_22 : decode b_Pl_addToList 22 = .ok (.aload_n 0, 1) := by decide +kernel
theorem d_Pl_addToList_23 : decode b_Pl_addToList 23 = .ok (.dup, 1) := by decide +kernel
theorem d_Pl_addToList_24 : decode b_Pl_addToList 24 = .ok (.getfield 15, 3) := by decide +kernel
theorem d_Pl_addToList_27 : decode b_Pl_addToList 27 = .ok (.iconst 1, 1) := by decide +kernel
theorem d_Pl_addToList_28 : decode b_Pl_addToList 28 = .ok (.iadd, 1) := by decide +kernel
theorem d_Pl_addToList_29 : decode b_Pl_addToList 29 = .ok (.putfield 15, 3) := by decide +kernel
theorem d_Pl_addToList_32 : decode b_Pl_addToList 32 = .ok (.return_, 1) := by decide +kernel
theorem d_Pl_usedInodes_0 : decode b_Pl_usedInodes 0 = .ok (.bipush 11, 2) := by decide +kernel
theorem d_Pl_usedInodes_2 : decode b_Pl_usedInodes 2 = .ok (.aload_n 0, 1) := by decide +kernel
theorem d_Pl_usedInodes_3 : decode b_Pl_usedInodes 3 = .ok (.getfield 44, 3) := by decide +kernel
theorem d_Pl_usedInodes_6 : decode b_Pl_usedInodes 6 = .ok (.getfield 111, 3) := by decide +kernel
theorem d_Pl_usedInodes_9 : decode b_Pl_usedInodes 9 = .ok (.iadd, 1) := by decide +kernel
theorem d_Pl_usedInodes_10 : decode b_Pl_usedInodes 10 = .ok (.iconst 1, 1) := by decide +kernel
theorem d_Pl_usedInodes_11 : decode b_Pl_usedInodes 11 = .ok (.isub, 1) := by decide +kernel
theorem d_Pl_usedInodes_12 : decode b_Pl_usedInodes 12 = .ok (.ireturn, 1) := by decide +kernel
theorem d_Pl_freeInodes_0 : decode b_Pl_freeInodes 0 = .ok (.aload_n 0, 1) := by decide +kernel
theorem d_Pl_freeInodes_1 : decode b_Pl_freeInodes 1 = .ok (.invokevirtual 258, 3) := by decide +kernel
theorem d_Pl_freeInodes_4 : decode b_Pl_freeInodes 4 = .ok (.iload_n 1, 1) := by decide +kernel
theorem d_Pl_freeInodes_5 : decode b_Pl_freeInodes 5 = .ok (.aload_n 0, 1) := by decide +kernel
theorem d_Pl_freeInodes_6 : decode b_Pl_freeInodes 6 = .ok (.getfield 24, 3) := by decide +kernel
theorem d_Pl_freeInodes_9 : decode b_Pl_freeInodes 9 = .ok (.imul, 1) := by decide +kernel
theorem d_Pl_freeInodes_10 : decode b_Pl_freeInodes 10 = .ok (.isub, 1) := by decide +kernel
theorem d_Pl_freeInodes_11 : decode b_Pl_freeInodes 11 = .ok (.iconst 0, 1) := by decide +kernel
theorem d_Pl_freeInodes_12 : decode b_Pl_freeInodes 12 = .ok (.invokestatic 261, 3) := by decide +kernel
theorem d_Pl_freeInodes_15 : decode b_Pl_freeInodes 15 = .ok (.istore_n 2, 1) := by decide +kernel
theorem d_Pl_freeInodes_16 : decode b_Pl_freeInodes 16 = .ok (.aload_n 0, 1) := by decide +kernel
theorem d_Pl_freeInodes_17 : decode b_Pl_freeInodes 17 = .ok (.getfield 24, 3) := by decide +kernel
theorem d_Pl_freeInodes_20 : decode b_Pl_freeInodes 20 = .ok (.iload_n 2, 1) := by decide +kernel
theorem d_Pl_freeInodes_21 : decode b_Pl_freeInodes 21 = .ok (.aload_n 0, 1) := by decide +kernel
theorem d_Pl_freeInodes_22 : decode b_Pl_freeInodes 22 = .ok (.getfield 24, 3) := by decide +kernel
theorem d_Pl_freeInodes_25 : decode b_Pl_freeInodes 25 = .ok (.invokestatic 120, 3) := by decide +kernel
theorem d_Pl_freeInodes_28 : decode b_Pl_freeInodes 28 = .ok (.isub, 1) := by decide +kernel
theorem d_Pl_freeInodes_29 : decode b_Pl_freeInodes 29 = .ok (.ireturn, 1) := by decide +kernel
theorem d_Pl_blockOfCluster_0 : decode b_Pl_blockOfCluster 0 = .ok (.aload_n 0, 1) := by decide +kernel
theorem d_Pl_blockOfCluster_1 : decode b_Pl_blockOfCluster 1 = .ok (.getfield 40, 3) := by decide +kernel
theorem d_Pl_blockOfCluster_4 : decode b_Pl_blockOfCluster 4 = .ok (.getfield 79, 3) := by decide +kernel
theorem d_Pl_blockOfCluster_7 : decode b_Pl_blockOfCluster 7 = .ok (.iconst 2, 1) := by decide +kernel
theorem d_Pl_blockOfCluster_8 : decode b_Pl_blockOfCluster 8 = .ok (.idiv, 1) := by decide +kernel
theorem d_Pl_blockOfCluster_9 : decode b_Pl_blockOfCluster 9 = .ok (.iload_n 1, 1) := by decide +kernel
theorem d_Pl_blockOfCluster_10 : decode b_Pl_blockOfCluster 10 = .ok (.iconst 2, 1) := by decide +kernel
theorem d_Pl_blockOfCluster_11 : decode b_Pl_blockOfCluster 11 = .ok (.isub, 1) := by decide +kernel
theorem d_Pl_blockOfCluster_12 : decode b_Pl_blockOfCluster 12 = .ok (.aload_n 0, 1) := by decide +kernel
theorem d_Pl_blockOfCluster_13 : decode b_Pl_blockOfCluster 13 = .ok (.getfield 40, 3) := by decide +kernel
theorem d_Pl_blockOfCluster_16 : decode b_Pl_blockOfCluster 16 = .ok (.getfield 139, 3) := by decide +kernel
theorem d_Pl_blockOfCluster_19 : decode b_Pl_blockOfCluster 19 = .ok (.iconst 2, 1) := by decide +kernel
theorem d_Pl_blockOfCluster_20 : decode b_Pl_blockOfCluster 20 = .ok (.idiv, 1) := by decide +kernel
theorem d_Pl_blockOfCluster_21 : decode b_Pl_blockOfCluster 21 = .ok (.imul, 1) := by decide +kernel
theorem d_Pl_blockOfCluster_22 : decode b_Pl_blockOfCluster 22 = .ok (.iadd, 1) := by decide +kernel
theorem d_Pl_blockOfCluster_23 : decode b_Pl_blockOfCluster 23 = .ok (.ireturn, 1) := by decide +kernel
theorem d_Pl_number_0 : decode b_Pl_number 0 = .ok (.iload_n 1, 1) := by decide +kernel
theorem d_Pl_number_1 : decode b_Pl_number 1 = .ok (.tableswitch 70 1 5 #[35, 40, 45, 60, 65], 35) := by decide +kernel
theorem d_Pl_number_36 : decode b_Pl_number 36 = .ok (.aload_n 0, 1) := by decide +kernel
theorem d_Pl_number_37 : decode b_Pl_number 37 = .ok (.getfield 21, 3) := by decide +kernel
theorem d_Pl_number_40 : decode b_Pl_number 40 = .ok (.ireturn, 1) := by decide +kernel
theorem d_Pl_number_41 : decode b_Pl_number 41 = .ok (.aload_n 0, 1) := by decide +kernel
theorem d_Pl_number_42 : decode b_Pl_number 42 = .ok (.getfield 24, 3) := by decide +kernel
theorem d_Pl_number_45 : decode b_Pl_number 45 = .ok (.ireturn, 1) := by decide +kernel
theorem d_Pl_number_46 : decode b_Pl_number 46 = .ok (.aload_n 0, 1) := by decide +kernel
theorem d_Pl_number_47 : decode b_Pl_number 47 = .ok (.getfield 21, 3) := by decide +kernel
theorem d_Pl_number_50 : decode b_Pl_number 50 = .ok (.iconst 4, 1) := by decide +kernel
theorem d_Pl_number_51 : decode b_Pl_number 51 = .ok (.aload_n 0, 1) := by decide +kernel
theorem d_Pl_number_52 : decode b_Pl_number 52 = .ok (.getfield 24, 3) := by decide +kernel
theorem d_Pl_number_55 : decode b_Pl_number 55 = .ok (.bipush 8, 2) := by decide +kernel
theorem d_Pl_number_57 : decode b_Pl_number 57 = .ok (.idiv, 1) := by decide +kernel
theorem d_Pl_number_58 : decode b_Pl_number 58 = .ok (.iadd, 1) := by decide +kernel
theorem d_Pl_number_59 : decode b_Pl_number 59 = .ok (.imul, 1) := by decide +kernel
theorem d_Pl_number_60 : decode b_Pl_number 60 = .ok (.ireturn, 1) := by decide +kernel
theorem d_Pl_number_61 : decode b_Pl_number 61 = .ok (.aload_n 0, 1) := by decide +kernel
theorem d_Pl_number_62 : decode b_Pl_number 62 = .ok (.getfield 27, 3) := by decide +kernel
theorem d_Pl_number_65 : decode b_Pl_number 65 = .ok (.ireturn, 1) := by decide +kernel
theorem d_Pl_number_66 : decode b_Pl_number 66 = .ok (.aload_n 0, 1) := by decide +kernel
theorem d_Pl_number_67 : decode b_Pl_number 67 = .ok (.getfield 30, 3) := by decide +kernel
theorem d_Pl_number_70 : decode b_Pl_number 70 = .ok (.ireturn, 1) := by decide +kernel
theorem d_Pl_number_71 : decode b_Pl_number 71 = .ok (.aload_n 0, 1) := by decide +kernel
theorem d_Pl_number_72 : decode b_Pl_number 72 = .ok (.getfield 33, 3) := by decide +kernel
theorem d_Pl_number_75 : decode b_Pl_number 75 = .ok (.ireturn, 1) := by decide +kernel
def pl_first (si p1 : Int32) : Int32 := (1 + (p1 * si))
set_option maxHeartbeats 4000000 in
set_option maxRecDepth 100000 in
theorem c_Pl_firstBlock (l : Launch) (dC : Nat → ClassId) (dI : Nat → Nat → Nat) (d0 sz h0 b0 t0 f0 f1 f2 f3 f4 : Nat) (bl rc li si gr io mv bu fr : Int32) (p1 : Int32) : Met l y_Pl_firstBlock (.code y_Pl_firstBlock b_Pl_firstBlock 2 (some .int) :: V_Pl) ({ frames := 0, cells := 0, slots := 0, locals := 0 }) (va_Pc [.ref d0, .int p1] (fun U => U.heap.size = sz ∧ at_ (dC, dI) (fun _ => True) [(d0, .inr (9, [.ref h0, .ref b0, .ref t0, .int bl, .ref f0, .ref f1, .ref f2, .ref f3, .int rc, .ref f4, .int li, .int si, .int gr, .int io, .int mv, .int bu, .int fr]))] [] U)) (va_Qi (fun (r : Int32) (u : Unit) => r = pl_first si p1) (fun (u : Unit) t => at_ (dC, dI) (va_A [(d0, .inr (9, [.ref h0, .ref b0, .ref t0, .int bl, .ref f0, .ref f1, .ref f2, .ref f3, .int rc, .ref f4, .int li, .int si, .int gr, .int io, .int mv, .int bu, .int fr]))] sz) [(d0, .inr (9, [.ref h0, .ref b0, .ref t0, .int bl, .ref f0, .ref f1, .ref f2, .ref f3, .int rc, .ref f4, .int li, .int si, .int gr, .int io, .int mv, .int bu, .int fr]))] [] t) (va_A [(d0, .inr (9, [.ref h0, .ref b0, .ref t0, .int bl, .ref f0, .ref f1, .ref f2, .ref f3, .int rc, .ref f4, .int li, .int si, .int gr, .int io, .int mv, .int bu, .int fr]))] sz)) 0 0 (va_A [(d0, .inr (9, [.ref h0, .ref b0, .ref t0, .int bl, .ref f0, .ref f1, .ref f2, .ref f3, .int rc, .ref f4, .int li, .int si, .int gr, .int io, .int mv, .int bu, .int fr]))] sz) := by
  refine Met.ofW (cc := b_Pl_firstBlock) (maxL := 2) (ret := (some .int)) (by decide) rfl ?_
  intro p e s m args below meth c s₁ B hml hv
  obtain ⟨rfl, hsz, hP, hK, hD0⟩ := hv
  have hx := B.exec
  have hb := B.bytes
  have hr := B.returns
  have hts0 := atoms_spec (ws := .code y_Pl_firstBlock b_Pl_firstBlock 2 (some .int) :: V_Pl) B.pre
  have hts : ∀ w ∈ V_Pl, w.before ([.ref d0, .int p1] : List Value).toArray s = true := fun w h => hts0 w (List.mem_cons_of_mem _ h)
  have hown : s.vm.findClass R_Pl = some m.cls := findClass_of_methodNamed B.named
  have hlocks := B.notSynchronized
  subst hsz
  have hD := hD0.self (sz := s.heap.size)
  generalize hAe : va_A [(d0, .inr (9, [.ref h0, .ref b0, .ref t0, .int bl, .ref f0, .ref f1, .ref f2, .ref f3, .int rc, .ref f4, .int li, .int si, .int gr, .int io, .int mv, .int bu, .int fr]))] s.heap.size = A at hD ⊢
  have hA : ∀ q : Nat, s.heap.size ≤ q → A q := fun q h => by rw [← hAe]; exact Or.inr h
  have hS : va_S A s.heap s.heap [] := va_S.rf
  have hP : va_P (dC, dI) classes [(d0, .inr (9, [.ref h0, .ref b0, .ref t0, .int bl, .ref f0, .ref f1, .ref f2, .ref f3, .int rc, .ref f4, .int li, .int si, .int gr, .int io, .int mv, .int bu, .int fr]))] s.heap := hP
  have hK : va_K (dC, dI) classes [] s := hK
  have hl := lv_entry ([.ref d0, .int p1]) (n := 2) (Nat.le_of_ble_eq_true rfl)
  rw [lg_entry_eq]
  generalize (lg_sl ([.ref d0, .int p1]) ++ List.replicate (2 - (lg_sl ([.ref d0, .int p1])).length) Slot.unset).toArray = ls at hl ⊢
  have hl : lv_has ls 2 [(0, .ref d0), (1, .int p1)] := hl
  refine lv_iconst (v := 1) hx hb d_Pl_firstBlock_0 (by decide) ?_
  refine lv_iload_n hx hb d_Pl_firstBlock_1 rfl (lv_at hl 1 rfl) ?_
  refine lv_aload_n hx hb d_Pl_firstBlock_2 rfl (lv_at hl 0 rfl) ?_
  refine va_get (D := (dC, dI)) (ci := 9) (v := .int si) (C := R_Pl) (T := F_Pl) (N := 17) hx hb hts i_Pl hown hK hP 0 rfl rfl 11 (by decide) (hts _ (k_Pl_22)) (fun _ h9 => h9) rfl d_Pl_firstBlock_3 ?_
  refine lv_imul hx hb d_Pl_firstBlock_6 ?_
  refine lv_iadd hx hb d_Pl_firstBlock_7 ?_
  exact W.iret (v := (1 + (p1 * si))) hx hb hr (fun t ht hW => ⟨⟨(1 + (p1 * si)), (), rfl, by rw [pl_first], by rw [ht]; exact hP, va_K.moved hW.alike hK, hD⟩, hS.F ht⟩) hS.2.2 d_Pl_firstBlock_8
def pl_ind (p0 : Int32) : Int32 := if 12 < p0 then if 0 < ((p0 - 12) - 256) then (2 + (((((p0 - 12) - 256) + 256) - 1) / 256)) else (1) else (0)
set_option maxHeartbeats 4000000 in
set_option maxRecDepth 100000 in
theorem c_Pl_indirects (l : Launch) (dC : Nat → ClassId) (dI : Nat → Nat → Nat) (sz : Nat) (p0 : Int32) : Met l y_Pl_indirects (.code y_Pl_indirects b_Pl_indirects 2 (some .int) :: V_Pl) ({ frames := 0, cells := 0, slots := 0, locals := 0 }) (va_Pc [.int p0] (fun U => U.heap.size = sz ∧ at_ (dC, dI) (fun _ => True) [] [] U)) (va_Qi (fun (r : Int32) (u : Unit) => r = pl_ind p0) (fun (u : Unit) t => at_ (dC, dI) (va_A [] sz) [] [] t) (va_A [] sz)) 0 0 (va_A [] sz) := by
  refine Met.ofW (cc := b_Pl_indirects) (maxL := 2) (ret := (some .int)) (by decide) rfl ?_
  intro p e s m args below meth c s₁ B hml hv
  obtain ⟨rfl, hsz, hP, hK, hD0⟩ := hv
  have hx := B.exec
  have hb := B.bytes
  have hr := B.returns
  have hts0 := atoms_spec (ws := .code y_Pl_indirects b_Pl_indirects 2 (some .int) :: V_Pl) B.pre
  have hts : ∀ w ∈ V_Pl, w.before ([.int p0] : List Value).toArray s = true := fun w h => hts0 w (List.mem_cons_of_mem _ h)
  have hown : s.vm.findClass R_Pl = some m.cls := findClass_of_methodNamed B.named
  have hlocks := B.notSynchronized
  subst hsz
  have hD := hD0.self (sz := s.heap.size)
  generalize hAe : va_A [] s.heap.size = A at hD ⊢
  have hA : ∀ q : Nat, s.heap.size ≤ q → A q := fun q h => by rw [← hAe]; exact Or.inr h
  have hS : va_S A s.heap s.heap [] := va_S.rf
  have hP : va_P (dC, dI) classes [] s.heap := hP
  have hK : va_K (dC, dI) classes [] s := hK
  have hl := lv_entry ([.int p0]) (n := 2) (Nat.le_of_ble_eq_true rfl)
  rw [lg_entry_eq]
  generalize (lg_sl ([.int p0]) ++ List.replicate (2 - (lg_sl ([.int p0])).length) Slot.unset).toArray = ls at hl ⊢
  have hl : lv_has ls 2 [(0, .int p0)] := hl
  refine lv_iload_n hx hb d_Pl_indirects_0 rfl (lv_at hl 0 rfl) ?_
  refine lv_bipush (v := 12) hx hb d_Pl_indirects_1 (by decide) ?_
  refine lv_icmp_gt (tgt := 8) hx hb d_Pl_indirects_3 (by decide) (fun c_1 => ?_) (fun c_1 => ?_)
  · refine lv_iload_n hx hb d_Pl_indirects_8 rfl (lv_at hl 0 rfl) ?_
    refine lv_bipush (v := 12) hx hb d_Pl_indirects_9 (by decide) ?_
    refine lv_isub hx hb d_Pl_indirects_11 ?_
    refine lv_sipush (v := 256) hx hb d_Pl_indirects_12 (by decide) ?_
    refine lv_isub hx hb d_Pl_indirects_15 ?_
    refine lv_topi (fun x_2 ex_2 => ?_)
    refine lv_istore_n (lv' := [(1, .int x_2), (0, .int p0)]) hx hb d_Pl_indirects_16 rfl hl (by decide) rfl (fun ls hl => ?_)
    refine lv_iload_n hx hb d_Pl_indirects_17 rfl (lv_at hl 0 rfl) ?_
    refine lv_if_gt (tgt := 25) hx hb d_Pl_indirects_18 (by decide) (fun c_3 => ?_) (fun c_3 => ?_)
    · refine lv_iconst (v := 2) hx hb d_Pl_indirects_25 (by decide) ?_
      refine lv_iload_n hx hb d_Pl_indirects_26 rfl (lv_at hl 0 rfl) ?_
      refine lv_sipush (v := 256) hx hb d_Pl_indirects_27 (by decide) ?_
      refine lv_iadd hx hb d_Pl_indirects_30 ?_
      refine lv_iconst (v := 1) hx hb d_Pl_indirects_31 (by decide) ?_
      refine lv_isub hx hb d_Pl_indirects_32 ?_
      refine lv_sipush (v := 256) hx hb d_Pl_indirects_33 (by decide) ?_
      refine lv_idiv hx hb d_Pl_indirects_36 (by decide) ?_
      refine lv_iadd hx hb d_Pl_indirects_37 ?_
      exact W.iret (v := (2 + (((x_2 + 256) - 1) / 256))) hx hb hr (fun t ht hW => ⟨⟨(2 + (((x_2 + 256) - 1) / 256)), (), rfl, by rw [pl_ind, if_pos c_1, ← ex_2, if_pos c_3], by rw [ht]; exact hP, va_K.moved hW.alike hK, hD⟩, hS.F ht⟩) hS.2.2 d_Pl_indirects_38
    · refine lv_iconst (v := 1) hx hb d_Pl_indirects_21 (by decide) ?_
      refine lv_goto (tgt := 38) hx hb d_Pl_indirects_22 (by decide) ?_
      exact W.iret (v := 1) hx hb hr (fun t ht hW => ⟨⟨1, (), rfl, by rw [pl_ind, if_pos c_1, ← ex_2, if_neg c_3], by rw [ht]; exact hP, va_K.moved hW.alike hK, hD⟩, hS.F ht⟩) hS.2.2 d_Pl_indirects_38
  · refine lv_iconst (v := 0) hx hb d_Pl_indirects_6 (by decide) ?_
    exact W.iret (v := 0) hx hb hr (fun t ht hW => ⟨⟨0, (), rfl, by rw [pl_ind, if_neg c_1], by rw [ht]; exact hP, va_K.moved hW.alike hK, hD⟩, hS.F ht⟩) hS.2.2 d_Pl_indirects_7
def pl_elen (p0 : Int32) : Int32 := ((((8 + p0) + 3) / 4) * 4)
set_option maxHeartbeats 4000000 in
set_option maxRecDepth 100000 in
theorem c_Pl_entryLength (l : Launch) (dC : Nat → ClassId) (dI : Nat → Nat → Nat) (sz : Nat) (p0 : Int32) : Met l y_Pl_entryLength (.code y_Pl_entryLength b_Pl_entryLength 1 (some .int) :: V_Pl) ({ frames := 0, cells := 0, slots := 0, locals := 0 }) (va_Pc [.int p0] (fun U => U.heap.size = sz ∧ at_ (dC, dI) (fun _ => True) [] [] U)) (va_Qi (fun (r : Int32) (u : Unit) => r = pl_elen p0) (fun (u : Unit) t => at_ (dC, dI) (va_A [] sz) [] [] t) (va_A [] sz)) 0 0 (va_A [] sz) := by
  refine Met.ofW (cc := b_Pl_entryLength) (maxL := 1) (ret := (some .int)) (by decide) rfl ?_
  intro p e s m args below meth c s₁ B hml hv
  obtain ⟨rfl, hsz, hP, hK, hD0⟩ := hv
  have hx := B.exec
  have hb := B.bytes
  have hr := B.returns
  have hts0 := atoms_spec (ws := .code y_Pl_entryLength b_Pl_entryLength 1 (some .int) :: V_Pl) B.pre
  have hts : ∀ w ∈ V_Pl, w.before ([.int p0] : List Value).toArray s = true := fun w h => hts0 w (List.mem_cons_of_mem _ h)
  have hown : s.vm.findClass R_Pl = some m.cls := findClass_of_methodNamed B.named
  have hlocks := B.notSynchronized
  subst hsz
  have hD := hD0.self (sz := s.heap.size)
  generalize hAe : va_A [] s.heap.size = A at hD ⊢
  have hA : ∀ q : Nat, s.heap.size ≤ q → A q := fun q h => by rw [← hAe]; exact Or.inr h
  have hS : va_S A s.heap s.heap [] := va_S.rf
  have hP : va_P (dC, dI) classes [] s.heap := hP
  have hK : va_K (dC, dI) classes [] s := hK
  have hl := lv_entry ([.int p0]) (n := 1) (Nat.le_of_ble_eq_true rfl)
  rw [lg_entry_eq]
  generalize (lg_sl ([.int p0]) ++ List.replicate (1 - (lg_sl ([.int p0])).length) Slot.unset).toArray = ls at hl ⊢
  have hl : lv_has ls 1 [(0, .int p0)] := hl
  refine lv_bipush (v := 8) hx hb d_Pl_entryLength_0 (by decide) ?_
  refine lv_iload_n hx hb d_Pl_entryLength_2 rfl (lv_at hl 0 rfl) ?_
  refine lv_iadd hx hb d_Pl_entryLength_3 ?_
  refine lv_iconst (v := 3) hx hb d_Pl_entryLength_4 (by decide) ?_
  refine lv_iadd hx hb d_Pl_entryLength_5 ?_
  refine lv_iconst (v := 4) hx hb d_Pl_entryLength_6 (by decide) ?_
  refine lv_idiv hx hb d_Pl_entryLength_7 (by decide) ?_
  refine lv_iconst (v := 4) hx hb d_Pl_entryLength_8 (by decide) ?_
  refine lv_imul hx hb d_Pl_entryLength_9 ?_
  exact W.iret (v := ((((8 + p0) + 3) / 4) * 4)) hx hb hr (fun t ht hW => ⟨⟨((((8 + p0) + 3) / 4) * 4), (), rfl, by rw [pl_elen], by rw [ht]; exact hP, va_K.moved hW.alike hK, hD⟩, hS.F ht⟩) hS.2.2 d_Pl_entryLength_10
def pl_num (gr io mv bu fr p1 : Int32) : Int32 := if p1 = 1 then (gr) else if p1 = 2 then (io) else if p1 = 3 then (gr * (4 + (io / 8))) else if p1 = 4 then (mv) else if p1 = 5 then (bu) else (fr)
set_option maxHeartbeats 4000000 in
set_option maxRecDepth 100000 in
theorem c_Pl_number (l : Launch) (dC : Nat → ClassId) (dI : Nat → Nat → Nat) (d0 sz h0 b0 t0 f0 f1 f2 f3 f4 : Nat) (bl rc li si gr io mv bu fr : Int32) (p1 : Int32) : Met l y_Pl_number (.code y_Pl_number b_Pl_number 2 (some .int) :: V_Pl) ({ frames := 0, cells := 0, slots := 0, locals := 0 }) (va_Pc [.ref d0, .int p1] (fun U => U.heap.size = sz ∧ at_ (dC, dI) (fun _ => True) [(d0, .inr (9, [.ref h0, .ref b0, .ref t0, .int bl, .ref f0, .ref f1, .ref f2, .ref f3, .int rc, .ref f4, .int li, .int si, .int gr, .int io, .int mv, .int bu, .int fr]))] [] U)) (va_Qi (fun (r : Int32) (u : Unit) => r = pl_num gr io mv bu fr p1) (fun (u : Unit) t => at_ (dC, dI) (va_A [(d0, .inr (9, [.ref h0, .ref b0, .ref t0, .int bl, .ref f0, .ref f1, .ref f2, .ref f3, .int rc, .ref f4, .int li, .int si, .int gr, .int io, .int mv, .int bu, .int fr]))] sz) [(d0, .inr (9, [.ref h0, .ref b0, .ref t0, .int bl, .ref f0, .ref f1, .ref f2, .ref f3, .int rc, .ref f4, .int li, .int si, .int gr, .int io, .int mv, .int bu, .int fr]))] [] t) (va_A [(d0, .inr (9, [.ref h0, .ref b0, .ref t0, .int bl, .ref f0, .ref f1, .ref f2, .ref f3, .int rc, .ref f4, .int li, .int si, .int gr, .int io, .int mv, .int bu, .int fr]))] sz)) 0 0 (va_A [(d0, .inr (9, [.ref h0, .ref b0, .ref t0, .int bl, .ref f0, .ref f1, .ref f2, .ref f3, .int rc, .ref f4, .int li, .int si, .int gr, .int io, .int mv, .int bu, .int fr]))] sz) := by
  refine Met.ofW (cc := b_Pl_number) (maxL := 2) (ret := (some .int)) (by decide) rfl ?_
  intro p e s m args below meth c s₁ B hml hv
  obtain ⟨rfl, hsz, hP, hK, hD0⟩ := hv
  have hx := B.exec
  have hb := B.bytes
  have hr := B.returns
  have hts0 := atoms_spec (ws := .code y_Pl_number b_Pl_number 2 (some .int) :: V_Pl) B.pre
  have hts : ∀ w ∈ V_Pl, w.before ([.ref d0, .int p1] : List Value).toArray s = true := fun w h => hts0 w (List.mem_cons_of_mem _ h)
  have hown : s.vm.findClass R_Pl = some m.cls := findClass_of_methodNamed B.named
  have hlocks := B.notSynchronized
  subst hsz
  have hD := hD0.self (sz := s.heap.size)
  generalize hAe : va_A [(d0, .inr (9, [.ref h0, .ref b0, .ref t0, .int bl, .ref f0, .ref f1, .ref f2, .ref f3, .int rc, .ref f4, .int li, .int si, .int gr, .int io, .int mv, .int bu, .int fr]))] s.heap.size = A at hD ⊢
  have hA : ∀ q : Nat, s.heap.size ≤ q → A q := fun q h => by rw [← hAe]; exact Or.inr h
  have hS : va_S A s.heap s.heap [] := va_S.rf
  have hP : va_P (dC, dI) classes [(d0, .inr (9, [.ref h0, .ref b0, .ref t0, .int bl, .ref f0, .ref f1, .ref f2, .ref f3, .int rc, .ref f4, .int li, .int si, .int gr, .int io, .int mv, .int bu, .int fr]))] s.heap := hP
  have hK : va_K (dC, dI) classes [] s := hK
  have hl := lv_entry ([.ref d0, .int p1]) (n := 2) (Nat.le_of_ble_eq_true rfl)
  rw [lg_entry_eq]
  generalize (lg_sl ([.ref d0, .int p1]) ++ List.replicate (2 - (lg_sl ([.ref d0, .int p1])).length) Slot.unset).toArray = ls at hl ⊢
  have hl : lv_has ls 2 [(0, .ref d0), (1, .int p1)] := hl
  refine lv_iload_n hx hb d_Pl_number_0 rfl (lv_at hl 1 rfl) ?_
  by_cases c_1 : p1 = 1
  · refine lv_tableIn (tgt := 36) hx hb d_Pl_number_1 (by rw [c_1]; decide) (by rw [c_1]; decide) (by rw [c_1]; (try rfl)) (by decide) ?_
    refine lv_aload_n hx hb d_Pl_number_36 rfl (lv_at hl 0 rfl) ?_
    refine va_get (D := (dC, dI)) (ci := 9) (v := .int gr) (C := R_Pl) (T := F_Pl) (N := 17) hx hb hts i_Pl hown hK hP 0 rfl rfl 12 (by decide) (hts _ (k_Pl_23)) (fun _ h9 => h9) rfl d_Pl_number_37 ?_
    exact W.iret (v := gr) hx hb hr (fun t ht hW => ⟨⟨gr, (), rfl, by rw [pl_num, if_pos c_1], by rw [ht]; exact hP, va_K.moved hW.alike hK, hD⟩, hS.F ht⟩) hS.2.2 d_Pl_number_40
  · skip
    by_cases c_2 : p1 = 2
    · refine lv_tableIn (tgt := 41) hx hb d_Pl_number_1 (by rw [c_2]; decide) (by rw [c_2]; decide) (by rw [c_2]; (try rfl)) (by decide) ?_
      refine lv_aload_n hx hb d_Pl_number_41 rfl (lv_at hl 0 rfl) ?_
      refine va_get (D := (dC, dI)) (ci := 9) (v := .int io) (C := R_Pl) (T := F_Pl) (N := 17) hx hb hts i_Pl hown hK hP 0 rfl rfl 13 (by decide) (hts _ (k_Pl_24)) (fun _ h9 => h9) rfl d_Pl_number_42 ?_
      exact W.iret (v := io) hx hb hr (fun t ht hW => ⟨⟨io, (), rfl, by rw [pl_num, if_neg c_1, if_pos c_2], by rw [ht]; exact hP, va_K.moved hW.alike hK, hD⟩, hS.F ht⟩) hS.2.2 d_Pl_number_45
    · skip
      by_cases c_3 : p1 = 3
      · refine lv_tableIn (tgt := 46) hx hb d_Pl_number_1 (by rw [c_3]; decide) (by rw [c_3]; decide) (by rw [c_3]; (try rfl)) (by decide) ?_
        refine lv_aload_n hx hb d_Pl_number_46 rfl (lv_at hl 0 rfl) ?_
        refine va_get (D := (dC, dI)) (ci := 9) (v := .int gr) (C := R_Pl) (T := F_Pl) (N := 17) hx hb hts i_Pl hown hK hP 0 rfl rfl 12 (by decide) (hts _ (k_Pl_23)) (fun _ h9 => h9) rfl d_Pl_number_47 ?_
        refine lv_iconst (v := 4) hx hb d_Pl_number_50 (by decide) ?_
        refine lv_aload_n hx hb d_Pl_number_51 rfl (lv_at hl 0 rfl) ?_
        refine va_get (D := (dC, dI)) (ci := 9) (v := .int io) (C := R_Pl) (T := F_Pl) (N := 17) hx hb hts i_Pl hown hK hP 0 rfl rfl 13 (by decide) (hts _ (k_Pl_24)) (fun _ h9 => h9) rfl d_Pl_number_52 ?_
        refine lv_bipush (v := 8) hx hb d_Pl_number_55 (by decide) ?_
        refine lv_idiv hx hb d_Pl_number_57 (by decide) ?_
        refine lv_iadd hx hb d_Pl_number_58 ?_
        refine lv_imul hx hb d_Pl_number_59 ?_
        exact W.iret (v := (gr * (4 + (io / 8)))) hx hb hr (fun t ht hW => ⟨⟨(gr * (4 + (io / 8))), (), rfl, by rw [pl_num, if_neg c_1, if_neg c_2, if_pos c_3], by rw [ht]; exact hP, va_K.moved hW.alike hK, hD⟩, hS.F ht⟩) hS.2.2 d_Pl_number_60
      · skip
        by_cases c_4 : p1 = 4
        · refine lv_tableIn (tgt := 61) hx hb d_Pl_number_1 (by rw [c_4]; decide) (by rw [c_4]; decide) (by rw [c_4]; (try rfl)) (by decide) ?_
          refine lv_aload_n hx hb d_Pl_number_61 rfl (lv_at hl 0 rfl) ?_
          refine va_get (D := (dC, dI)) (ci := 9) (v := .int mv) (C := R_Pl) (T := F_Pl) (N := 17) hx hb hts i_Pl hown hK hP 0 rfl rfl 14 (by decide) (hts _ (k_Pl_25)) (fun _ h9 => h9) rfl d_Pl_number_62 ?_
          exact W.iret (v := mv) hx hb hr (fun t ht hW => ⟨⟨mv, (), rfl, by rw [pl_num, if_neg c_1, if_neg c_2, if_neg c_3, if_pos c_4], by rw [ht]; exact hP, va_K.moved hW.alike hK, hD⟩, hS.F ht⟩) hS.2.2 d_Pl_number_65
        · skip
          by_cases c_5 : p1 = 5
          · refine lv_tableIn (tgt := 66) hx hb d_Pl_number_1 (by rw [c_5]; decide) (by rw [c_5]; decide) (by rw [c_5]; (try rfl)) (by decide) ?_
            refine lv_aload_n hx hb d_Pl_number_66 rfl (lv_at hl 0 rfl) ?_
            refine va_get (D := (dC, dI)) (ci := 9) (v := .int bu) (C := R_Pl) (T := F_Pl) (N := 17) hx hb hts i_Pl hown hK hP 0 rfl rfl 15 (by decide) (hts _ (k_Pl_26)) (fun _ h9 => h9) rfl d_Pl_number_67 ?_
            exact W.iret (v := bu) hx hb hr (fun t ht hW => ⟨⟨bu, (), rfl, by rw [pl_num, if_neg c_1, if_neg c_2, if_neg c_3, if_neg c_4, if_pos c_5], by rw [ht]; exact hP, va_K.moved hW.alike hK, hD⟩, hS.F ht⟩) hS.2.2 d_Pl_number_70
          · skip
            refine lv_tableOut (tgt := 71) hx hb d_Pl_number_1 (by have n0 := lv_neT (a := 1) c_1 (by decide); have n1 := lv_neT (a := 2) c_2 (by decide); have n2 := lv_neT (a := 3) c_3 (by decide); have n3 := lv_neT (a := 4) c_4 (by decide); have n4 := lv_neT (a := 5) c_5 (by decide); omega) (by decide) ?_
            refine lv_aload_n hx hb d_Pl_number_71 rfl (lv_at hl 0 rfl) ?_
            refine va_get (D := (dC, dI)) (ci := 9) (v := .int fr) (C := R_Pl) (T := F_Pl) (N := 17) hx hb hts i_Pl hown hK hP 0 rfl rfl 16 (by decide) (hts _ (k_Pl_27)) (fun _ h9 => h9) rfl d_Pl_number_72 ?_
            exact W.iret (v := fr) hx hb hr (fun t ht hW => ⟨⟨fr, (), rfl, by rw [pl_num, if_neg c_1, if_neg c_2, if_neg c_3, if_neg c_4, if_neg c_5], by rw [ht]; exact hP, va_K.moved hW.alike hK, hD⟩, hS.F ht⟩) hS.2.2 d_Pl_number_75
def pl_bof (bl si p1 : Int32) : Int32 := (if (bl - (pl_first si p1)) < si then (bl - (pl_first si p1)) else si)
set_option maxHeartbeats 4000000 in
set_option maxRecDepth 100000 in
theorem c_Pl_blocksOf (l : Launch) (dC : Nat → ClassId) (dI : Nat → Nat → Nat) (d0 sz h0 b0 t0 f0 f1 f2 f3 f4 : Nat) (bl rc li si gr io mv bu fr : Int32) (p1 : Int32) : Met l y_Pl_blocksOf (.code y_Pl_blocksOf b_Pl_blocksOf 2 (some .int) :: V_Pl) ({ frames := 1, cells := 0, slots := 0, locals := 23 }) (va_Pc [.ref d0, .int p1] (fun U => U.heap.size = sz ∧ at_ (dC, dI) (fun _ => True) [(d0, .inr (9, [.ref h0, .ref b0, .ref t0, .int bl, .ref f0, .ref f1, .ref f2, .ref f3, .int rc, .ref f4, .int li, .int si, .int gr, .int io, .int mv, .int bu, .int fr]))] [] U)) (va_Qi (fun (r : Int32) (u : Unit) => r = pl_bof bl si p1) (fun (u : Unit) t => at_ (dC, dI) (va_A [(d0, .inr (9, [.ref h0, .ref b0, .ref t0, .int bl, .ref f0, .ref f1, .ref f2, .ref f3, .int rc, .ref f4, .int li, .int si, .int gr, .int io, .int mv, .int bu, .int fr]))] sz) [(d0, .inr (9, [.ref h0, .ref b0, .ref t0, .int bl, .ref f0, .ref f1, .ref f2, .ref f3, .int rc, .ref f4, .int li, .int si, .int gr, .int io, .int mv, .int bu, .int fr]))] [] t) (va_A [(d0, .inr (9, [.ref h0, .ref b0, .ref t0, .int bl, .ref f0, .ref f1, .ref f2, .ref f3, .int rc, .ref f4, .int li, .int si, .int gr, .int io, .int mv, .int bu, .int fr]))] sz)) 0 0 (va_A [(d0, .inr (9, [.ref h0, .ref b0, .ref t0, .int bl, .ref f0, .ref f1, .ref f2, .ref f3, .int rc, .ref f4, .int li, .int si, .int gr, .int io, .int mv, .int bu, .int fr]))] sz) := by
  refine Met.ofW (cc := b_Pl_blocksOf) (maxL := 2) (ret := (some .int)) (by decide) rfl ?_
  intro p e s m args below meth c s₁ B hml hv
  obtain ⟨rfl, hsz, hP, hK, hD0⟩ := hv
  have hx := B.exec
  have hb := B.bytes
  have hr := B.returns
  have hts0 := atoms_spec (ws := .code y_Pl_blocksOf b_Pl_blocksOf 2 (some .int) :: V_Pl) B.pre
  have hts : ∀ w ∈ V_Pl, w.before ([.ref d0, .int p1] : List Value).toArray s = true := fun w h => hts0 w (List.mem_cons_of_mem _ h)
  have hown : s.vm.findClass R_Pl = some m.cls := findClass_of_methodNamed B.named
  have hlocks := B.notSynchronized
  subst hsz
  have hD := hD0.self (sz := s.heap.size)
  generalize hAe : va_A [(d0, .inr (9, [.ref h0, .ref b0, .ref t0, .int bl, .ref f0, .ref f1, .ref f2, .ref f3, .int rc, .ref f4, .int li, .int si, .int gr, .int io, .int mv, .int bu, .int fr]))] s.heap.size = A at hD ⊢
  have hA : ∀ q : Nat, s.heap.size ≤ q → A q := fun q h => by rw [← hAe]; exact Or.inr h
  have hS : va_S A s.heap s.heap [] := va_S.rf
  have hP : va_P (dC, dI) classes [(d0, .inr (9, [.ref h0, .ref b0, .ref t0, .int bl, .ref f0, .ref f1, .ref f2, .ref f3, .int rc, .ref f4, .int li, .int si, .int gr, .int io, .int mv, .int bu, .int fr]))] s.heap := hP
  have hK : va_K (dC, dI) classes [] s := hK
  have hl := lv_entry ([.ref d0, .int p1]) (n := 2) (Nat.le_of_ble_eq_true rfl)
  rw [lg_entry_eq]
  generalize (lg_sl ([.ref d0, .int p1]) ++ List.replicate (2 - (lg_sl ([.ref d0, .int p1])).length) Slot.unset).toArray = ls at hl ⊢
  have hl : lv_has ls 2 [(0, .ref d0), (1, .int p1)] := hl
  refine lv_aload_n hx hb d_Pl_blocksOf_0 rfl (lv_at hl 0 rfl) ?_
  refine va_get (D := (dC, dI)) (ci := 9) (v := .int si) (C := R_Pl) (T := F_Pl) (N := 17) hx hb hts i_Pl hown hK hP 0 rfl rfl 11 (by decide) (hts _ (k_Pl_22)) (fun _ h9 => h9) rfl d_Pl_blocksOf_1 ?_
  refine lv_aload_n hx hb d_Pl_blocksOf_4 rfl (lv_at hl 0 rfl) ?_
  refine va_get (D := (dC, dI)) (ci := 9) (v := .int bl) (C := R_Pl) (T := F_Pl) (N := 17) hx hb hts i_Pl hown hK hP 0 rfl rfl 3 (by decide) (hts _ (k_Pl_14)) (fun _ h9 => h9) rfl d_Pl_blocksOf_5 ?_
  refine lv_aload_n hx hb d_Pl_blocksOf_8 rfl (lv_at hl 0 rfl) ?_
  refine lv_iload_n hx hb d_Pl_blocksOf_9 rfl (lv_at hl 1 rfl) ?_
  have hPc := hP.sub (ws' := [(d0, .inr (9, [.ref h0, .ref b0, .ref t0, .int bl, .ref f0, .ref f1, .ref f2, .ref f3, .int rc, .ref f4, .int li, .int si, .int gr, .int io, .int mv, .int bu, .int fr]))]) [0] rfl
  have hDc := hD.sub (ws' := [(d0, .inr (9, [.ref h0, .ref b0, .ref t0, .int bl, .ref f0, .ref f1, .ref f2, .ref f3, .int rc, .ref f4, .int li, .int si, .int gr, .int io, .int mv, .int bu, .int fr]))]) [0] (by decide) rfl
  have hKc := hK.sub (tys' := []) [] rfl
  have hFc := va_free (wc := [(d0, .inr (9, [.ref h0, .ref b0, .ref t0, .int bl, .ref f0, .ref f1, .ref f2, .ref f3, .int rc, .ref f4, .int li, .int si, .int gr, .int io, .int mv, .int bu, .int fr]))]) hD hS hA [0] rfl
  refine va_calli (va_runV (As := [.int p1]) (rest := [.int bl, .int si]) ⟨hx, hb, hml, hown, hts⟩ (c_Pl_firstBlock l dC dI d0 s.heap.size h0 b0 t0 f0 f1 f2 f3 f4 bl rc li si gr io mv bu fr p1) (cwV 1 hts (gwV good_Pl (k_Pl_44) (k_Pl_45) (k_Pl_46) (k_Pl_0) (wcs (k_Pl_47) (fun _ h => h))) rfl rfl rfl (by decide +kernel) ⟨Nat.le_of_ble_eq_true rfl, Nat.le_of_ble_eq_true rfl⟩) (pv_of hPc hKc hDc (va_recv hKc hPc (ci := 9) (q0 := 0) rfl rfl)) rfl rfl hl.1 rfl (lv_room (Nat.le_of_ble_eq_true rfl)) d_Pl_blocksOf_10 ⟨by decide, by decide⟩) hS (fun q _ h => hFc q h) hFc (fun r_1 u t H1 locs ht hvm hw hB hz1 hk1 hS => ?_)
  have er_1 := hw
  obtain ⟨hP1, hK1, hD1⟩ := hB
  rw [ht] at hP1
  have hP1 : va_P (dC, dI) classes [(d0, .inr (9, [.ref h0, .ref b0, .ref t0, .int bl, .ref f0, .ref f1, .ref f2, .ref f3, .int rc, .ref f4, .int li, .int si, .int gr, .int io, .int mv, .int bu, .int fr]))] H1 := hP1
  have hD1 : va_D _ [(d0, .inr (9, [.ref h0, .ref b0, .ref t0, .int bl, .ref f0, .ref f1, .ref f2, .ref f3, .int rc, .ref f4, .int li, .int si, .int gr, .int io, .int mv, .int bu, .int fr]))] := hD1
  obtain ⟨hP, hD⟩ := va_join (wr := []) (w1 := [(d0, .inr (9, [.ref h0, .ref b0, .ref t0, .int bl, .ref f0, .ref f1, .ref f2, .ref f3, .int rc, .ref f4, .int li, .int si, .int gr, .int io, .int mv, .int bu, .int fr]))]) hP hD [0] [] rfl rfl (by decide) (by decide) hk1 hFc hP1 hD1
  generalize H1 = H at hP hS ⊢
  have hP : va_P (dC, dI) classes [(d0, .inr (9, [.ref h0, .ref b0, .ref t0, .int bl, .ref f0, .ref f1, .ref f2, .ref f3, .int rc, .ref f4, .int li, .int si, .int gr, .int io, .int mv, .int bu, .int fr]))] H := hP
  have hD : va_D A [(d0, .inr (9, [.ref h0, .ref b0, .ref t0, .int bl, .ref f0, .ref f1, .ref f2, .ref f3, .int rc, .ref f4, .int li, .int si, .int gr, .int io, .int mv, .int bu, .int fr]))] := hD
  refine lv_isub hx hb d_Pl_blocksOf_13 ?_
  refine va_mmin hx hb (by rw [hml]; exact hl.1.symm) hown (hts _ (k_Pl_48)) (hts _ (u_Pl_J _ k_J_7)) (hts _ (u_Pl_J _ k_J_0)) (hts _ (u_Pl_J _ k_J_8)) (Nat.le_of_ble_eq_true rfl) (Nat.le_of_ble_eq_true rfl) (by decide) (by decide) d_Pl_blocksOf_14 ?_
  exact W.iret (v := (if (bl - r_1) < si then (bl - r_1) else si)) hx hb hr (fun t ht hW => ⟨⟨(if (bl - r_1) < si then (bl - r_1) else si), (), rfl, by rw [pl_bof, ← er_1], by rw [ht]; exact hP, va_K.moved hW.alike hK, hD⟩, hS.F ht⟩) hS.2.2 d_Pl_blocksOf_17
def pl_map (si sa p1 : Int32) : Int32 := if p1 = 0 then (sa / 2) else ((pl_first si p1) + 2)
set_option maxHeartbeats 4000000 in
set_option maxRecDepth 100000 in
theorem c_Pl_mapBlock (l : Launch) (dC : Nat → ClassId) (dI : Nat → Nat → Nat) (d0 sz h0 b0 t0 f0 f1 f2 f3 f4 : Nat) (bl rc li si gr io mv bu fr : Int32) (b1 b2 : Nat) (cl be co le ro sa ks : Int32) (p1 : Int32) : Met l y_Pl_mapBlock (.code y_Pl_mapBlock b_Pl_mapBlock 2 (some .int) :: V_Pl) ({ frames := 1, cells := 0, slots := 0, locals := 23 }) (va_Pc [.ref d0, .int p1] (fun U => U.heap.size = sz ∧ at_ (dC, dI) (fun _ => True) [(d0, .inr (9, [.ref h0, .ref b0, .ref t0, .int bl, .ref f0, .ref f1, .ref f2, .ref f3, .int rc, .ref f4, .int li, .int si, .int gr, .int io, .int mv, .int bu, .int fr])), (b0, .inr (4, [.ref h0, .int cl, .int be, .int co, .int le, .int ro, .int sa, .int ks, .ref b1, .ref b2]))] [] U)) (va_Qi (fun (r : Int32) (u : Unit) => r = pl_map si sa p1) (fun (u : Unit) t => at_ (dC, dI) (va_A [(d0, .inr (9, [.ref h0, .ref b0, .ref t0, .int bl, .ref f0, .ref f1, .ref f2, .ref f3, .int rc, .ref f4, .int li, .int si, .int gr, .int io, .int mv, .int bu, .int fr])), (b0, .inr (4, [.ref h0, .int cl, .int be, .int co, .int le, .int ro, .int sa, .int ks, .ref b1, .ref b2]))] sz) [(d0, .inr (9, [.ref h0, .ref b0, .ref t0, .int bl, .ref f0, .ref f1, .ref f2, .ref f3, .int rc, .ref f4, .int li, .int si, .int gr, .int io, .int mv, .int bu, .int fr])), (b0, .inr (4, [.ref h0, .int cl, .int be, .int co, .int le, .int ro, .int sa, .int ks, .ref b1, .ref b2]))] [] t) (va_A [(d0, .inr (9, [.ref h0, .ref b0, .ref t0, .int bl, .ref f0, .ref f1, .ref f2, .ref f3, .int rc, .ref f4, .int li, .int si, .int gr, .int io, .int mv, .int bu, .int fr])), (b0, .inr (4, [.ref h0, .int cl, .int be, .int co, .int le, .int ro, .int sa, .int ks, .ref b1, .ref b2]))] sz)) 0 0 (va_A [(d0, .inr (9, [.ref h0, .ref b0, .ref t0, .int bl, .ref f0, .ref f1, .ref f2, .ref f3, .int rc, .ref f4, .int li, .int si, .int gr, .int io, .int mv, .int bu, .int fr])), (b0, .inr (4, [.ref h0, .int cl, .int be, .int co, .int le, .int ro, .int sa, .int ks, .ref b1, .ref b2]))] sz) := by
  refine Met.ofW (cc := b_Pl_mapBlock) (maxL := 2) (ret := (some .int)) (by decide) rfl ?_
  intro p e s m args below meth c s₁ B hml hv
  obtain ⟨rfl, hsz, hP, hK, hD0⟩ := hv
  have hx := B.exec
  have hb := B.bytes
  have hr := B.returns
  have hts0 := atoms_spec (ws := .code y_Pl_mapBlock b_Pl_mapBlock 2 (some .int) :: V_Pl) B.pre
  have hts : ∀ w ∈ V_Pl, w.before ([.ref d0, .int p1] : List Value).toArray s = true := fun w h => hts0 w (List.mem_cons_of_mem _ h)
  have hown : s.vm.findClass R_Pl = some m.cls := findClass_of_methodNamed B.named
  have hlocks := B.notSynchronized
  subst hsz
  have hD := hD0.self (sz := s.heap.size)
  generalize hAe : va_A [(d0, .inr (9, [.ref h0, .ref b0, .ref t0, .int bl, .ref f0, .ref f1, .ref f2, .ref f3, .int rc, .ref f4, .int li, .int si, .int gr, .int io, .int mv, .int bu, .int fr])), (b0, .inr (4, [.ref h0, .int cl, .int be, .int co, .int le, .int ro, .int sa, .int ks, .ref b1, .ref b2]))] s.heap.size = A at hD ⊢
  have hA : ∀ q : Nat, s.heap.size ≤ q → A q := fun q h => by rw [← hAe]; exact Or.inr h
  have hS : va_S A s.heap s.heap [] := va_S.rf
  have hP : va_P (dC, dI) classes [(d0, .inr (9, [.ref h0, .ref b0, .ref t0, .int bl, .ref f0, .ref f1, .ref f2, .ref f3, .int rc, .ref f4, .int li, .int si, .int gr, .int io, .int mv, .int bu, .int fr])), (b0, .inr (4, [.ref h0, .int cl, .int be, .int co, .int le, .int ro, .int sa, .int ks, .ref b1, .ref b2]))] s.heap := hP
  have hK : va_K (dC, dI) classes [] s := hK
  have hl := lv_entry ([.ref d0, .int p1]) (n := 2) (Nat.le_of_ble_eq_true rfl)
  rw [lg_entry_eq]
  generalize (lg_sl ([.ref d0, .int p1]) ++ List.replicate (2 - (lg_sl ([.ref d0, .int p1])).length) Slot.unset).toArray = ls at hl ⊢
  have hl : lv_has ls 2 [(0, .ref d0), (1, .int p1)] := hl
  refine lv_iload_n hx hb d_Pl_mapBlock_0 rfl (lv_at hl 1 rfl) ?_
  refine lv_if_ne (tgt := 16) hx hb d_Pl_mapBlock_1 (by decide) (fun c_1 => ?_) (fun c_1 => ?_)
  · refine lv_aload_n hx hb d_Pl_mapBlock_16 rfl (lv_at hl 0 rfl) ?_
    refine lv_iload_n hx hb d_Pl_mapBlock_17 rfl (lv_at hl 1 rfl) ?_
    have hPc := hP.sub (ws' := [(d0, .inr (9, [.ref h0, .ref b0, .ref t0, .int bl, .ref f0, .ref f1, .ref f2, .ref f3, .int rc, .ref f4, .int li, .int si, .int gr, .int io, .int mv, .int bu, .int fr]))]) [0] rfl
    have hDc := hD.sub (ws' := [(d0, .inr (9, [.ref h0, .ref b0, .ref t0, .int bl, .ref f0, .ref f1, .ref f2, .ref f3, .int rc, .ref f4, .int li, .int si, .int gr, .int io, .int mv, .int bu, .int fr]))]) [0] (by decide) rfl
    have hKc := hK.sub (tys' := []) [] rfl
    have hFc := va_free (wc := [(d0, .inr (9, [.ref h0, .ref b0, .ref t0, .int bl, .ref f0, .ref f1, .ref f2, .ref f3, .int rc, .ref f4, .int li, .int si, .int gr, .int io, .int mv, .int bu, .int fr]))]) hD hS hA [0] rfl
    refine va_calli (va_runV (As := [.int p1]) (rest := []) ⟨hx, hb, hml, hown, hts⟩ (c_Pl_firstBlock l dC dI d0 s.heap.size h0 b0 t0 f0 f1 f2 f3 f4 bl rc li si gr io mv bu fr p1) (cwV 1 hts (gwV good_Pl (k_Pl_44) (k_Pl_45) (k_Pl_46) (k_Pl_0) (wcs (k_Pl_47) (fun _ h => h))) rfl rfl rfl (by decide +kernel) ⟨Nat.le_of_ble_eq_true rfl, Nat.le_of_ble_eq_true rfl⟩) (pv_of hPc hKc hDc (va_recv hKc hPc (ci := 9) (q0 := 0) rfl rfl)) rfl rfl hl.1 rfl (lv_room (Nat.le_of_ble_eq_true rfl)) d_Pl_mapBlock_18 ⟨by decide, by decide⟩) hS (fun q _ h => hFc q h) hFc (fun r_2 u t H1 locs ht hvm hw hB hz1 hk1 hS => ?_)
    have er_2 := hw
    obtain ⟨hP1, hK1, hD1⟩ := hB
    rw [ht] at hP1
    have hP1 : va_P (dC, dI) classes [(d0, .inr (9, [.ref h0, .ref b0, .ref t0, .int bl, .ref f0, .ref f1, .ref f2, .ref f3, .int rc, .ref f4, .int li, .int si, .int gr, .int io, .int mv, .int bu, .int fr]))] H1 := hP1
    have hD1 : va_D _ [(d0, .inr (9, [.ref h0, .ref b0, .ref t0, .int bl, .ref f0, .ref f1, .ref f2, .ref f3, .int rc, .ref f4, .int li, .int si, .int gr, .int io, .int mv, .int bu, .int fr]))] := hD1
    obtain ⟨hP, hD⟩ := va_join (wr := [(b0, .inr (4, [.ref h0, .int cl, .int be, .int co, .int le, .int ro, .int sa, .int ks, .ref b1, .ref b2]))]) (w1 := [(d0, .inr (9, [.ref h0, .ref b0, .ref t0, .int bl, .ref f0, .ref f1, .ref f2, .ref f3, .int rc, .ref f4, .int li, .int si, .int gr, .int io, .int mv, .int bu, .int fr]))]) hP hD [0] [1] rfl rfl (by decide) (by decide) hk1 hFc hP1 hD1
    generalize H1 = H at hP hS ⊢
    have hP : va_P (dC, dI) classes [(b0, .inr (4, [.ref h0, .int cl, .int be, .int co, .int le, .int ro, .int sa, .int ks, .ref b1, .ref b2])), (d0, .inr (9, [.ref h0, .ref b0, .ref t0, .int bl, .ref f0, .ref f1, .ref f2, .ref f3, .int rc, .ref f4, .int li, .int si, .int gr, .int io, .int mv, .int bu, .int fr]))] H := hP
    have hD : va_D A [(b0, .inr (4, [.ref h0, .int cl, .int be, .int co, .int le, .int ro, .int sa, .int ks, .ref b1, .ref b2])), (d0, .inr (9, [.ref h0, .ref b0, .ref t0, .int bl, .ref f0, .ref f1, .ref f2, .ref f3, .int rc, .ref f4, .int li, .int si, .int gr, .int io, .int mv, .int bu, .int fr]))] := hD
    refine lv_iconst (v := 2) hx hb d_Pl_mapBlock_21 (by decide) ?_
    refine lv_iadd hx hb d_Pl_mapBlock_22 ?_
    have hP := hP.sub (ws' := [(d0, .inr (9, [.ref h0, .ref b0, .ref t0, .int bl, .ref f0, .ref f1, .ref f2, .ref f3, .int rc, .ref f4, .int li, .int si, .int gr, .int io, .int mv, .int bu, .int fr])), (b0, .inr (4, [.ref h0, .int cl, .int be, .int co, .int le, .int ro, .int sa, .int ks, .ref b1, .ref b2]))]) [1, 0] rfl
    have hD := hD.sub (ws' := [(d0, .inr (9, [.ref h0, .ref b0, .ref t0, .int bl, .ref f0, .ref f1, .ref f2, .ref f3, .int rc, .ref f4, .int li, .int si, .int gr, .int io, .int mv, .int bu, .int fr])), (b0, .inr (4, [.ref h0, .int cl, .int be, .int co, .int le, .int ro, .int sa, .int ks, .ref b1, .ref b2]))]) [1, 0] (by decide) rfl
    exact W.iret (v := (r_2 + 2)) hx hb hr (fun t ht hW => ⟨⟨(r_2 + 2), (), rfl, by rw [pl_map, if_neg c_1, ← er_2], by rw [ht]; exact hP, va_K.moved hW.alike hK, hD⟩, hS.F ht⟩) hS.2.2 d_Pl_mapBlock_23
  · refine lv_aload_n hx hb d_Pl_mapBlock_4 rfl (lv_at hl 0 rfl) ?_
    refine va_get (D := (dC, dI)) (ci := 9) (v := .ref b0) (C := R_Pl) (T := F_Pl) (N := 17) hx hb hts i_Pl hown hK hP 0 rfl rfl 1 (by decide) (hts _ (k_Pl_12)) (fun _ h9 => h9) rfl d_Pl_mapBlock_5 ?_
    refine va_get (D := (dC, dI)) (ci := 4) (v := .int sa) (C := R_Tb) (T := F_Tb) (N := 10) hx hb hts (fun w h => u_Pl_Tb w (i_Tb w h)) hown hK hP 1 rfl rfl 6 (by decide) (hts _ (k_Pl_3)) (fun _ h9 => h9) rfl d_Pl_mapBlock_8 ?_
    refine lv_iconst (v := 2) hx hb d_Pl_mapBlock_11 (by decide) ?_
    refine lv_idiv hx hb d_Pl_mapBlock_12 (by decide) ?_
    refine lv_goto (tgt := 23) hx hb d_Pl_mapBlock_13 (by decide) ?_
    exact W.iret (v := (sa / 2)) hx hb hr (fun t ht hW => ⟨⟨(sa / 2), (), rfl, by rw [pl_map, if_pos c_1], by rw [ht]; exact hP, va_K.moved hW.alike hK, hD⟩, hS.F ht⟩) hS.2.2 d_Pl_mapBlock_23
def pl_boc (cl sa p1 : Int32) : Int32 := ((sa / 2) + ((p1 - 2) * (cl / 2)))
set_option maxHeartbeats 4000000 in
set_option maxRecDepth 100000 in
theorem c_Pl_blockOfCluster (l : Launch) (dC : Nat → ClassId) (dI : Nat → Nat → Nat) (d0 sz h0 b0 t0 f0 f1 f2 f3 f4 : Nat) (bl rc li si gr io mv bu fr : Int32) (b1 b2 : Nat) (cl be co le ro sa ks : Int32) (p1 : Int32) : Met l y_Pl_blockOfCluster (.code y_Pl_blockOfCluster b_Pl_blockOfCluster 2 (some .int) :: V_Pl) ({ frames := 0, cells := 0, slots := 0, locals := 0 }) (va_Pc [.ref d0, .int p1] (fun U => U.heap.size = sz ∧ at_ (dC, dI) (fun _ => True) [(d0, .inr (9, [.ref h0, .ref b0, .ref t0, .int bl, .ref f0, .ref f1, .ref f2, .ref f3, .int rc, .ref f4, .int li, .int si, .int gr, .int io, .int mv, .int bu, .int fr])), (b0, .inr (4, [.ref h0, .int cl, .int be, .int co, .int le, .int ro, .int sa, .int ks, .ref b1, .ref b2]))] [] U)) (va_Qi (fun (r : Int32) (u : Unit) => r = pl_boc cl sa p1) (fun (u : Unit) t => at_ (dC, dI) (va_A [(d0, .inr (9, [.ref h0, .ref b0, .ref t0, .int bl, .ref f0, .ref f1, .ref f2, .ref f3, .int rc, .ref f4, .int li, .int si, .int gr, .int io, .int mv, .int bu, .int fr])), (b0, .inr (4, [.ref h0, .int cl, .int be, .int co, .int le, .int ro, .int sa, .int ks, .ref b1, .ref b2]))] sz) [(d0, .inr (9, [.ref h0, .ref b0, .ref t0, .int bl, .ref f0, .ref f1, .ref f2, .ref f3, .int rc, .ref f4, .int li, .int si, .int gr, .int io, .int mv, .int bu, .int fr])), (b0, .inr (4, [.ref h0, .int cl, .int be, .int co, .int le, .int ro, .int sa, .int ks, .ref b1, .ref b2]))] [] t) (va_A [(d0, .inr (9, [.ref h0, .ref b0, .ref t0, .int bl, .ref f0, .ref f1, .ref f2, .ref f3, .int rc, .ref f4, .int li, .int si, .int gr, .int io, .int mv, .int bu, .int fr])), (b0, .inr (4, [.ref h0, .int cl, .int be, .int co, .int le, .int ro, .int sa, .int ks, .ref b1, .ref b2]))] sz)) 0 0 (va_A [(d0, .inr (9, [.ref h0, .ref b0, .ref t0, .int bl, .ref f0, .ref f1, .ref f2, .ref f3, .int rc, .ref f4, .int li, .int si, .int gr, .int io, .int mv, .int bu, .int fr])), (b0, .inr (4, [.ref h0, .int cl, .int be, .int co, .int le, .int ro, .int sa, .int ks, .ref b1, .ref b2]))] sz) := by
  refine Met.ofW (cc := b_Pl_blockOfCluster) (maxL := 2) (ret := (some .int)) (by decide) rfl ?_
  intro p e s m args below meth c s₁ B hml hv
  obtain ⟨rfl, hsz, hP, hK, hD0⟩ := hv
  have hx := B.exec
  have hb := B.bytes
  have hr := B.returns
  have hts0 := atoms_spec (ws := .code y_Pl_blockOfCluster b_Pl_blockOfCluster 2 (some .int) :: V_Pl) B.pre
  have hts : ∀ w ∈ V_Pl, w.before ([.ref d0, .int p1] : List Value).toArray s = true := fun w h => hts0 w (List.mem_cons_of_mem _ h)
  have hown : s.vm.findClass R_Pl = some m.cls := findClass_of_methodNamed B.named
  have hlocks := B.notSynchronized
  subst hsz
  have hD := hD0.self (sz := s.heap.size)
  generalize hAe : va_A [(d0, .inr (9, [.ref h0, .ref b0, .ref t0, .int bl, .ref f0, .ref f1, .ref f2, .ref f3, .int rc, .ref f4, .int li, .int si, .int gr, .int io, .int mv, .int bu, .int fr])), (b0, .inr (4, [.ref h0, .int cl, .int be, .int co, .int le, .int ro, .int sa, .int ks, .ref b1, .ref b2]))] s.heap.size = A at hD ⊢
  have hA : ∀ q : Nat, s.heap.size ≤ q → A q := fun q h => by rw [← hAe]; exact Or.inr h
  have hS : va_S A s.heap s.heap [] := va_S.rf
  have hP : va_P (dC, dI) classes [(d0, .inr (9, [.ref h0, .ref b0, .ref t0, .int bl, .ref f0, .ref f1, .ref f2, .ref f3, .int rc, .ref f4, .int li, .int si, .int gr, .int io, .int mv, .int bu, .int fr])), (b0, .inr (4, [.ref h0, .int cl, .int be, .int co, .int le, .int ro, .int sa, .int ks, .ref b1, .ref b2]))] s.heap := hP
  have hK : va_K (dC, dI) classes [] s := hK
  have hl := lv_entry ([.ref d0, .int p1]) (n := 2) (Nat.le_of_ble_eq_true rfl)
  rw [lg_entry_eq]
  generalize (lg_sl ([.ref d0, .int p1]) ++ List.replicate (2 - (lg_sl ([.ref d0, .int p1])).length) Slot.unset).toArray = ls at hl ⊢
  have hl : lv_has ls 2 [(0, .ref d0), (1, .int p1)] := hl
  refine lv_aload_n hx hb d_Pl_blockOfCluster_0 rfl (lv_at hl 0 rfl) ?_
  refine va_get (D := (dC, dI)) (ci := 9) (v := .ref b0) (C := R_Pl) (T := F_Pl) (N := 17) hx hb hts i_Pl hown hK hP 0 rfl rfl 1 (by decide) (hts _ (k_Pl_12)) (fun _ h9 => h9) rfl d_Pl_blockOfCluster_1 ?_
  refine va_get (D := (dC, dI)) (ci := 4) (v := .int sa) (C := R_Tb) (T := F_Tb) (N := 10) hx hb hts (fun w h => u_Pl_Tb w (i_Tb w h)) hown hK hP 1 rfl rfl 6 (by decide) (hts _ (k_Pl_3)) (fun _ h9 => h9) rfl d_Pl_blockOfCluster_4 ?_
  refine lv_iconst (v := 2) hx hb d_Pl_blockOfCluster_7 (by decide) ?_
  refine lv_idiv hx hb d_Pl_blockOfCluster_8 (by decide) ?_
  refine lv_iload_n hx hb d_Pl_blockOfCluster_9 rfl (lv_at hl 1 rfl) ?_
  refine lv_iconst (v := 2) hx hb d_Pl_blockOfCluster_10 (by decide) ?_
  refine lv_isub hx hb d_Pl_blockOfCluster_11 ?_
  refine lv_aload_n hx hb d_Pl_blockOfCluster_12 rfl (lv_at hl 0 rfl) ?_
  refine va_get (D := (dC, dI)) (ci := 9) (v := .ref b0) (C := R_Pl) (T := F_Pl) (N := 17) hx hb hts i_Pl hown hK hP 0 rfl rfl 1 (by decide) (hts _ (k_Pl_12)) (fun _ h9 => h9) rfl d_Pl_blockOfCluster_13 ?_
  refine va_get (D := (dC, dI)) (ci := 4) (v := .int cl) (C := R_Tb) (T := F_Tb) (N := 10) hx hb hts (fun w h => u_Pl_Tb w (i_Tb w h)) hown hK hP 1 rfl rfl 1 (by decide) (hts _ (k_Pl_2)) (fun _ h9 => h9) rfl d_Pl_blockOfCluster_16 ?_
  refine lv_iconst (v := 2) hx hb d_Pl_blockOfCluster_19 (by decide) ?_
  refine lv_idiv hx hb d_Pl_blockOfCluster_20 (by decide) ?_
  refine lv_imul hx hb d_Pl_blockOfCluster_21 ?_
  refine lv_iadd hx hb d_Pl_blockOfCluster_22 ?_
  exact W.iret (v := ((sa / 2) + ((p1 - 2) * (cl / 2)))) hx hb hr (fun t ht hW => ⟨⟨((sa / 2) + ((p1 - 2) * (cl / 2))), (), rfl, by rw [pl_boc], by rw [ht]; exact hP, va_K.moved hW.alike hK, hD⟩, hS.F ht⟩) hS.2.2 d_Pl_blockOfCluster_23
