theorem d_Mo_whole_0 : decode b_Mo_whole 0 = .ok (.iload_n 0, 1) := by decide +kernel
theorem d_Mo_whole_1 : decode b_Mo_whole 1 = .ok (.iload_n 1, 1) := by decide +kernel
theorem d_Mo_whole_2 : decode b_Mo_whole 2 = .ok (.iadd, 1) := by decide +kernel
theorem d_Mo_whole_3 : decode b_Mo_whole 3 = .ok (.iconst 1, 1) := by decide +kernel
theorem d_Mo_whole_4 : decode b_Mo_whole 4 = .ok (.isub, 1) := by decide +kernel
theorem d_Mo_whole_5 : decode b_Mo_whole 5 = .ok (.iload_n 1, 1) := by decide +kernel
theorem d_Mo_whole_6 : decode b_Mo_whole 6 = .ok (.idiv, 1) := by decide +kernel
theorem d_Mo_whole_7 : decode b_Mo_whole 7 = .ok (.ireturn, 1) := by decide +kernel
theorem d_Mo_entry_0 : decode b_Mo_entry 0 = .ok (.aload_n 0, 1) := by decide +kernel
theorem d_Mo_entry_1 : decode b_Mo_entry 1 = .ok (.aload_n 0, 1) := by decide +kernel
theorem d_Mo_entry_2 : decode b_Mo_entry 2 = .ok (.iconst 0, 1) := by decide +kernel
theorem d_Mo_entry_3 : decode b_Mo_entry 3 = .ok (.iload_n 1, 1) := by decide +kernel
theorem d_Mo_entry_4 : decode b_Mo_entry 4 = .ok (.invokevirtual 116, 3) := by decide +kernel
theorem d_Mo_entry_7 : decode b_Mo_entry 7 = .ok (.invokevirtual 120, 3) := by decide +kernel
theorem d_Mo_entry_10 : decode b_Mo_entry 10 = .ok (.ldc 123, 2) := by decide +kernel
theorem d_Mo_entry_12 : decode b_Mo_entry 12 = .ok (.iand, 1) := by decide +kernel
theorem d_Mo_entry_13 : decode b_Mo_entry 13 = .ok (.ireturn, 1) := by decide +kernel
theorem d_Mo_place_0 : decode b_Mo_place 0 = .ok (.sipush 512, 3) := by decide +kernel
theorem d_Mo_place_3 : decode b_Mo_place 3 = .ok (.aload_n 0, 1) := by decide +kernel
theorem d_Mo_place_4 : decode b_Mo_place 4 = .ok (.getfield 135, 3) := by decide +kernel
theorem d_Mo_place_7 : decode b_Mo_place 7 = .ok (.iload_n 1, 1) := by decide +kernel
theorem d_Mo_place_8 : decode b_Mo_place 8 = .ok (.iconst 2, 1) := by decide +kernel
theorem d_Mo_place_9 : decode b_Mo_place 9 = .ok (.isub, 1) := by decide +kernel
theorem d_Mo_place_10 : decode b_Mo_place 10 = .ok (.aload_n 0, 1) := by decide +kernel
theorem d_Mo_place_11 : decode b_Mo_place 11 = .ok (.getfield 138, 3) := by decide +kernel
theorem d_Mo_place_14 : decode b_Mo_place 14 = .ok (.imul, 1) := by decide +kernel
theorem d_Mo_place_15 : decode b_Mo_place 15 = .ok (.iadd, 1) := by decide +kernel
theorem d_Mo_place_16 : decode b_Mo_place 16 = .ok (.imul, 1) := by decide +kernel
theorem d_Mo_place_17 : decode b_Mo_place 17 = .ok (.ireturn, 1) := by decide +kernel
theorem d_Mo_badTables_0 : decode b_Mo_badTables 0 = .ok (.iconst 0, 1) := by decide +kernel
theorem d_Mo_badTables_1 : decode b_Mo_badTables 1 = .ok (.istore_n 1, 1) := by decide +kernel
theorem d_Mo_badTables_2 : decode b_Mo_badTables 2 = .ok (.iload_n 1, 1) := by decide +kernel
theorem d_Mo_badTables_3 : decode b_Mo_badTables 3 = .ok (.aload_n 0, 1) := by decide +kernel
theorem d_Mo_badTables_4 : decode b_Mo_badTables 4 = .ok (.getfield 132, 3) := by decide +kernel
theorem d_Mo_badTables_7 : decode b_Mo_badTables 7 = .ok (.iconst 2, 1) := by decide +kernel
theorem d_Mo_badTables_8 : decode b_Mo_badTables 8 = .ok (.iadd, 1) := by decide +kernel
theorem d_Mo_badTables_9 : decode b_Mo_badTables 9 = .ok (.if_icmp .ge 113, 3) := by decide +kernel
theorem d_Mo_badTables_12 : decode b_Mo_badTables 12 = .ok (.aload_n 0, 1) := by decide +kernel
theorem d_Mo_badTables_13 : decode b_Mo_badTables 13 = .ok (.iload_n 1, 1) := by decide +kernel
theorem d_Mo_badTables_14 : decode b_Mo_badTables 14 = .ok (.invokevirtual 149, 3) := by decide +kernel
theorem d_Mo_badTables_17 : decode b_Mo_badTables 17 = .ok (.istore_n 2, 1) := by decide +kernel
theorem d_Mo_badTables_18 : decode b_Mo_badTables 18 = .ok (.iload_n 1, 1) := by decide +kernel
theorem d_Mo_badTables_19 : decode b_Mo_badTables 19 = .ok (.ifCond .ne 17, 3) := by decide +kernel
theorem d_Mo_badTables_22 : decode b_Mo_badTables 22 = .ok (.iload_n 2, 1) := by decide +kernel
theorem d_Mo_badTables_23 : decode b_Mo_badTables 23 = .ok (.ldc 152, 2) := by decide +kernel
theorem d_Mo_badTables_25 : decode b_Mo_badTables 25 = .ok (.if_icmp .ne 7, 3) := by decide +kernel
theorem d_Mo_badTables_28 : decode b_Mo_badTables 28 = .ok (.iconst 1, 1) := by decide +kernel
theorem d_Mo_badTables_29 : decode b_Mo_badTables 29 = .ok (.goto 49, 3) := by decide +kernel
theorem d_Mo_badTables_32 : decode b_Mo_badTables 32 = .ok (.iconst 0, 1) := by decide +kernel
theorem d_Mo_badTables_33 : decode b_Mo_badTables 33 = .ok (.goto 45, 3) := by decide +kernel
theorem d_Mo_badTables_36 : decode b_Mo_badTables 36 = .ok (.iload_n 1, 1) := by decide +kernel
theorem d_Mo_badTables_37 : decode b_Mo_badTables 37 = .ok (.iconst 1, 1) := by decide +kernel
theorem d_Mo_badTables_38 : decode b_Mo_badTables 38 = .ok (.if_icmp .ne 17, 3) := by decide +kernel
theorem d_Mo_badTables_41 : decode b_Mo_badTables 41 = .ok (.iload_n 2, 1) := by decide +kernel
theorem d_Mo_badTables_42 : decode b_Mo_badTables 42 = .ok (.ldc 123, 2) := by decide +kernel
theorem d_Mo_badTables_44 : decode b_Mo_badTables 44 = .ok (.if_icmp .ne 7, 3) := by decide +kernel
theorem d_Mo_badTables_47 : decode b_Mo_badTables 47 = .ok (.iconst 1, 1) := by decide +kernel
theorem d_Mo_badTables_48 : decode b_Mo_badTables 48 = .ok (.goto 30, 3) := by decide +kernel
theorem d_Mo_badTables_51 : decode b_Mo_badTables 51 = .ok (.iconst 0, 1) := by decide +kernel
theorem d_Mo_badTables_52 : decode b_Mo_badTables 52 = .ok (.goto 26, 3) := by decide +kernel
theorem d_Mo_badTables_55 : decode b_Mo_badTables 55 = .ok (.iload_n 2, 1) := by decide +kernel
theorem d_Mo_badTables_56 : decode b_Mo_badTables 56 = .ok (.ifCond .eq 17, 3) := by decide +kernel
theorem d_Mo_badTables_59 : decode b_Mo_badTables 59 = .ok (.aload_n 0, 1) := by decide +kernel
theorem d_Mo_badTables_60 : decode b_Mo_badTables 60 = .ok (.iload_n 2, 1) := by decide +kernel
theorem d_Mo_badTables_61 : decode b_Mo_badTables 61 = .ok (.invokevirtual 145, 3) := by decide +kernel
theorem d_Mo_badTables_64 : decode b_Mo_badTables 64 = .ok (.ifCond .ne 9, 3) := by decide +kernel
theorem d_Mo_badTables_67 : decode b_Mo_badTables 67 = .ok (.iload_n 2, 1) := by decide +kernel
theorem d_Mo_badTables_68 : decode b_Mo_badTables 68 = .ok (.ldc 152, 2) := by decide +kernel
theorem d_Mo_badTables_70 : decode b_Mo_badTables 70 = .ok (.if_icmp .lt 7, 3) := by decide +kernel
theorem d_Mo_badTables_73 : decode b_Mo_badTables 73 = .ok (.iconst 1, 1) := by decide +kernel
theorem d_Mo_badTables_74 : decode b_Mo_badTables 74 = .ok (.goto 4, 3) := by decide +kernel
theorem d_Mo_badTables_77 : decode b_Mo_badTables 77 = .ok (.iconst 0, 1) := by decide +kernel
theorem d_Mo_badTables_78 : decode b_Mo_badTables 78 = .ok (.istore_n 3, 1) := by decide +kernel
theorem d_Mo_badTables_79 : decode b_Mo_badTables 79 = .ok (.iload_n 3, 1) := by decide +kernel
theorem d_Mo_badTables_80 : decode b_Mo_badTables 80 = .ok (.ifCond .eq 34, 3) := by decide +kernel
theorem d_Mo_badTables_83 : decode b_Mo_badTables 83 = .ok (.aload_n 0, 1) := by decide +kernel
theorem d_Mo_badTables_84 : decode b_Mo_badTables 84 = .ok (.getfield 124, 3) := by decide +kernel
theorem d_Mo_badTables_87 : decode b_Mo_badTables 87 = .ok (.iconst 2, 1) := by decide +kernel
theorem d_Mo_badTables_88 : decode b_Mo_badTables 88 = .ok (.if_icmp .ne 28, 3) := by decide +kernel
theorem d_Mo_badTables_91 : decode b_Mo_badTables 91 = .ok (.aload_n 0, 1) := by decide +kernel
theorem d_Mo_badTables_92 : decode b_Mo_badTables 92 = .ok (.aload_n 0, 1) := by decide +kernel
theorem d_Mo_badTables_93 : decode b_Mo_badTables 93 = .ok (.iconst 0, 1) := by decide +kernel
theorem d_Mo_badTables_94 : decode b_Mo_badTables 94 = .ok (.iload_n 1, 1) := by decide +kernel
theorem d_Mo_badTables_95 : decode b_Mo_badTables 95 = .ok (.invokevirtual 116, 3) := by decide +kernel
theorem d_Mo_badTables_98 : decode b_Mo_badTables 98 = .ok (.invokevirtual 120, 3) := by decide +kernel
theorem d_Mo_badTables_101 : decode b_Mo_badTables 101 = .ok (.aload_n 0, 1) := by decide +kernel
theorem d_Mo_badTables_102 : decode b_Mo_badTables 102 = .ok (.aload_n 0, 1) := by decide +kernel
theorem d_Mo_badTables_103 : decode b_Mo_badTables 103 = .ok (.iconst 1, 1) := by decide +kernel
theorem d_Mo_badTables_104 : decode b_Mo_badTables 104 = .ok (.iload_n 1, 1) := by decide +kernel
theorem d_Mo_badTables_105 : decode b_Mo_badTables 105 = .ok (.invokevirtual 116, 3) := by decide +kernel
theorem d_Mo_badTables_108 : decode b_Mo_badTables 108 = .ok (.invokevirtual 120, 3) := by decide +kernel
theorem d_Mo_badTables_111 : decode b_Mo_badTables 111 = .ok (.if_icmp .eq 5, 3) := by decide +kernel
theorem d_Mo_badTables_114 : decode b_Mo_badTables 114 = .ok (.iconst 1, 1) := by decide +kernel
theorem d_Mo_badTables_115 : decode b_Mo_badTables 115 = .ok (.ireturn, 1) := by decide +kernel
theorem d_Mo_badTables_116 : decode b_Mo_badTables 116 = .ok (.iinc 1 1, 3) := by decide +kernel
theorem d_Mo_badTables_119 : decode b_Mo_badTables 119 = .ok (.goto (-117), 3) := by decide +kernel
theorem d_Mo_badTables_122 : decode b_Mo_badTables 122 = .ok (.iconst 0, 1) := by decide +kernel
theorem d_Mo_badTables_123 : decode b_Mo_badTables 123 = .ok (.ireturn, 1) := by decide +kernel
theorem d_Mo_follows_0 : decode b_Mo_follows 0 = .ok (.aload_n 0, 1) := by decide +kernel
theorem d_Mo_follows_1 : decode b_Mo_follows 1 = .ok (.iconst 0, 1) := by decide +kernel
theorem d_Mo_follows_2 : decode b_Mo_follows 2 = .ok (.putfield 153, 3) := by decide +kernel
theorem d_Mo_follows_5 : decode b_Mo_follows 5 = .ok (.iload_n 1, 1) := by decide +kernel
theorem d_Mo_follows_6 : decode b_Mo_follows 6 = .ok (.istore_n 2, 1) := by decide +kernel
theorem d_Mo_follows_7 : decode b_Mo_follows 7 = .ok (.aload_n 0, 1) := by decide +kernel
theorem d_Mo_follows_8 : decode b_Mo_follows 8 = .ok (.iload_n 2, 1) := by decide +kernel
theorem d_Mo_follows_9 : decode b_Mo_follows 9 = .ok (.invokevirtual 145, 3) := by decide +kernel
theorem d_Mo_follows_12 : decode b_Mo_follows 12 = .ok (.ifCond .eq 20, 3) := by decide +kernel
theorem d_Mo_follows_15 : decode b_Mo_follows 15 = .ok (.aload_n 0, 1) := by decide +kernel
theorem d_Mo_follows_16 : decode b_Mo_follows 16 = .ok (.getfield 23, 3) := by decide +kernel
theorem d_Mo_follows_19 : decode b_Mo_follows 19 = .ok (.iload_n 2, 1) := by decide +kernel
theorem d_Mo_follows_20 : decode b_Mo_follows 20 = .ok (.baload, 1) := by decide +kernel
theorem d_Mo_follows_21 : decode b_Mo_follows 21 = .ok (.ifCond .ne 11, 3) := by decide +kernel
theorem d_Mo_follows_24 : decode b_Mo_follows 24 = .ok (.aload_n 0, 1) := by decide +kernel
theorem d_Mo_follows_25 : decode b_Mo_follows 25 = .ok (.iload_n 2, 1) := by decide +kernel
theorem d_Mo_follows_26 : decode b_Mo_follows 26 = .ok (.invokevirtual 149, 3) := by decide +kernel
theorem d_Mo_follows_29 : decode b_Mo_follows 29 = .ok (.ifCond .ne 5, 3) := by decide +kernel
theorem d_Mo_follows_32 : decode b_Mo_follows 32 = .ok (.iconst 0, 1) := by decide +kernel
theorem d_Mo_follows_33 : decode b_Mo_follows 33 = .ok (.ireturn, 1) := by decide +kernel
theorem d_Mo_follows_34 : decode b_Mo_follows 34 = .ok (.aload_n 0, 1) := by decide +kernel
theorem d_Mo_follows_35 : decode b_Mo_follows 35 = .ok (.getfield 23, 3) := by decide +kernel
theorem d_Mo_follows_38 : decode b_Mo_follows 38 = .ok (.iload_n 2, 1) := by decide +kernel
theorem d_Mo_follows_39 : decode b_Mo_follows 39 = .ok (.iconst 1, 1) := by decide +kernel
theorem d_Mo_follows_40 : decode b_Mo_follows 40 = .ok (.bastore, 1) := by decide +kernel
theorem d_Mo_follows_41 : decode b_Mo_follows 41 = .ok (.aload_n 0, 1) := by decide +kernel
theorem d_Mo_follows_42 : decode b_Mo_follows 42 = .ok (.getfield 57, 3) := by decide +kernel
theorem d_Mo_follows_45 : decode b_Mo_follows 45 = .ok (.aload_n 0, 1) := by decide +kernel
theorem d_Mo_follows_46 : decode b_Mo_follows 46 = .ok (.getfield 153, 3) := by decide +kernel
theorem d_Mo_follows_49 : decode b_Mo_follows 49 = .ok (.iload_n 2, 1) := by decide +kernel
theorem d_Mo_follows_50 : decode b_Mo_follows 50 = .ok (.iastore, 1) := by decide +kernel
theorem d_Mo_follows_51 : decode b_Mo_follows 51 = .ok (.aload_n 0, 1) := by decide +kernel
theorem d_Mo_follows_52 : decode b_Mo_follows 52 = .ok (.dup, 1) := by decide +kernel
theorem d_Mo_follows_53 : decode b_Mo_follows 53 = .ok (.getfield 153, 3) := by decide +kernel
theorem d_Mo_follows_56 : decode b_Mo_follows 56 = .ok (.iconst 1, 1) := by decide +kernel
theorem d_Mo_follows_57 : decode b_Mo_follows 57 = .ok (.iadd, 1) := by decide +kernel
theorem d_Mo_follows_58 : decode b_Mo_follows 58 = .ok (.putfield 153, 3) := by decide +kernel
theorem d_Mo_follows_61 : decode b_Mo_follows 61 = .ok (.aload_n 0, 1) := by decide +kernel
theorem d_Mo_follows_62 : decode b_Mo_follows 62 = .ok (.iload_n 2, 1) := by decide +kernel
theorem d_Mo_follows_63 : decode b_Mo_follows 63 = .ok (.invokevirtual 149, 3) := by decide +kernel
theorem d_Mo_follows_66 : decode b_Mo_follows 66 = .ok (.istore_n 2, 1) := by decide +kernel
theorem d_Mo_follows_67 : decode b_Mo_follows 67 = .ok (.iload_n 2, 1) := by decide +kernel
theorem d_Mo_follows_68 : decode b_Mo_follows 68 = .ok (.ldc 152, 2) := by decide +kernel
theorem d_Mo_follows_70 : decode b_Mo_follows 70 = .ok (.if_icmp .lt (-63), 3) := by decide +kernel
theorem d_Mo_follows_73 : decode b_Mo_follows 73 = .ok (.iconst 1, 1) := by decide +kernel
theorem d_Mo_follows_74 : decode b_Mo_follows 74 = .ok (.ireturn, 1) := by decide +kernel
theorem d_Mo_walk_0 : decode b_Mo_walk 0 = .ok (.aload_n 0, 1) := by decide +kernel
theorem d_Mo_walk_1 : decode b_Mo_walk 1 = .ok (.iconst 0, 1) := by decide +kernel
theorem d_Mo_walk_2 : decode b_Mo_walk 2 = .ok (.putfield 153, 3) := by decide +kernel
theorem d_Mo_walk_5 : decode b_Mo_walk 5 = .ok (.iload_n 1, 1) := by decide +kernel
theorem d_Mo_walk_6 : decode b_Mo_walk 6 = .ok (.istore_n 2, 1) := by decide +kernel
theorem d_Mo_walk_7 : decode b_Mo_walk 7 = .ok (.iload_n 2, 1) := by decide +kernel
theorem d_Mo_walk_8 : decode b_Mo_walk 8 = .ok (.ifCond .eq 38, 3) := by decide +kernel
theorem d_Mo_walk_11 : decode b_Mo_walk 11 = .ok (.iload_n 2, 1) := by decide +kernel
theorem d_Mo_walk_12 : decode b_Mo_walk 12 = .ok (.ldc 152, 2) := by decide +kernel
theorem d_Mo_walk_14 : decode b_Mo_walk 14 = .ok (.if_icmp .ge 32, 3) := by decide +kernel
theorem d_Mo_walk_17 : decode b_Mo_walk 17 = .ok (.aload_n 0, 1) := by decide +kernel
theorem d_Mo_walk_18 : decode b_Mo_walk 18 = .ok (.getfield 57, 3) := by decide +kernel
theorem d_Mo_walk_21 : decode b_Mo_walk 21 = .ok (.aload_n 0, 1) := by decide +kernel
theorem d_Mo_walk_22 : decode b_Mo_walk 22 = .ok (.getfield 153, 3) := by decide +kernel
theorem d_Mo_walk_25 : decode b_Mo_walk 25 = .ok (.iload_n 2, 1) := by decide +kernel
theorem d_Mo_walk_26 : decode b_Mo_walk 26 = .ok (.iastore, 1) := by decide +kernel
theorem d_Mo_walk_27 : decode b_Mo_walk 27 = .ok (.aload_n 0, 1) := by decide +kernel
theorem d_Mo_walk_28 : decode b_Mo_walk 28 = .ok (.dup, 1) := by decide +kernel
theorem d_Mo_walk_29 : decode b_Mo_walk 29 = .ok (.getfield 153, 3) := by decide +kernel
theorem d_Mo_walk_32 : decode b_Mo_walk 32 = .ok (.iconst 1, 1) := by decide +kernel
theorem d_Mo_walk_33 : decode b_Mo_walk 33 = .ok (.iadd, 1) := by decide +kernel
theorem d_Mo_walk_34 : decode b_Mo_walk 34 = .ok (.putfield 153, 3) := by decide +kernel
theorem d_Mo_walk_37 : decode b_Mo_walk 37 = .ok (.aload_n 0, 1) := by decide +kernel
theorem d_Mo_walk_38 : decode b_Mo_walk 38 = .ok (.iload_n 2, 1) := by decide +kernel
theorem d_Mo_walk_39 : decode b_Mo_walk 39 = .ok (.invokevirtual 149, 3) := by decide +kernel
theorem d_Mo_walk_42 : decode b_Mo_walk 42 = .ok (.istore_n 2, 1) := by decide +kernel
theorem d_Mo_walk_43 : decode b_Mo_walk 43 = .ok (.goto (-36), 3) := by decide +kernel
theorem d_Mo_walk_46 : decode b_Mo_walk 46 = .ok (.return_, 1) := by decide +kernel
theorem d_Mo_firstOf_0 : decode b_Mo_firstOf 0 = .ok (.aload_n 0, 1) := by decide +kernel
theorem d_Mo_firstOf_1 : decode b_Mo_firstOf 1 = .ok (.iload_n 1, 1) := by decide +kernel
theorem d_Mo_firstOf_2 : decode b_Mo_firstOf 2 = .ok (.bipush 20, 2) := by decide +kernel
theorem d_Mo_firstOf_4 : decode b_Mo_firstOf 4 = .ok (.iadd, 1) := by decide +kernel
theorem d_Mo_firstOf_5 : decode b_Mo_firstOf 5 = .ok (.invokevirtual 107, 3) := by decide +kernel
theorem d_Mo_firstOf_8 : decode b_Mo_firstOf 8 = .ok (.bipush 16, 2) := by decide +kernel
theorem d_Mo_firstOf_10 : decode b_Mo_firstOf 10 = .ok (.ishl, 1) := by decide +kernel
theorem d_Mo_firstOf_11 : decode b_Mo_firstOf 11 = .ok (.aload_n 0, 1) := by decide +kernel
theorem d_Mo_firstOf_12 : decode b_Mo_firstOf 12 = .ok (.iload_n 1, 1) := by decide +kernel
theorem d_Mo_firstOf_13 : decode b_Mo_firstOf 13 = .ok (.bipush 26, 2) := by decide +kernel
theorem d_Mo_firstOf_15 : decode b_Mo_firstOf 15 = .ok (.iadd, 1) := by decide +kernel
theorem d_Mo_firstOf_16 : decode b_Mo_firstOf 16 = .ok (.invokevirtual 107, 3) := by decide +kernel
theorem d_Mo_firstOf_19 : decode b_Mo_firstOf 19 = .ok (.ior, 1) := by decide +kernel
theorem d_Mo_firstOf_20 : decode b_Mo_firstOf 20 = .ok (.ireturn, 1) := by decide +kernel
theorem d_Mo_isFolder_0 : decode b_Mo_isFolder 0 = .ok (.iload_n 1, 1) := by decide +kernel
theorem d_Mo_isFolder_1 : decode b_Mo_isFolder 1 = .ok (.ifCond .eq 22, 3) := by decide +kernel
theorem d_Mo_isFolder_4 : decode b_Mo_isFolder 4 = .ok (.aload_n 0, 1) := by decide +kernel
theorem d_Mo_isFolder_5 : decode b_Mo_isFolder 5 = .ok (.aload_n 0, 1) := by decide +kernel
theorem d_Mo_isFolder_6 : decode b_Mo_isFolder 6 = .ok (.getfield 27, 3) := by decide +kernel
theorem d_Mo_isFolder_9 : decode b_Mo_isFolder 9 = .ok (.iload_n 1, 1) := by decide +kernel
theorem d_Mo_isFolder_10 : decode b_Mo_isFolder 10 = .ok (.iaload, 1) := by decide +kernel
theorem d_Mo_isFolder_11 : decode b_Mo_isFolder 11 = .ok (.bipush 11, 2) := by decide +kernel
theorem d_Mo_isFolder_13 : decode b_Mo_isFolder 13 = .ok (.iadd, 1) := by decide +kernel
theorem d_Mo_isFolder_14 : decode b_Mo_isFolder 14 = .ok (.invokevirtual 103, 3) := by decide +kernel
theorem d_Mo_isFolder_17 : decode b_Mo_isFolder 17 = .ok (.bipush 16, 2) := by decide +kernel
theorem d_Mo_isFolder_19 : decode b_Mo_isFolder 19 = .ok (.iand, 1) := by decide +kernel
theorem d_Mo_isFolder_20 : decode b_Mo_isFolder 20 = .ok (.ifCond .eq 7, 3) := by decide +kernel
theorem d_Mo_isFolder_23 : decode b_Mo_isFolder 23 = .ok (.iconst 1, 1) := by decide +kernel
theorem d_Mo_isFolder_24 : decode b_Mo_isFolder 24 = .ok (.goto 4, 3) := by decide +kernel
theorem d_Mo_isFolder_27 : decode b_Mo_isFolder 27 = .ok (.iconst 0, 1) := by decide +kernel
theorem d_Mo_isFolder_28 : decode b_Mo_isFolder 28 = .ok (.ireturn, 1) := by decide +kernel
theorem d_Mo_beginOf_0 : decode b_Mo_beginOf 0 = .ok (.iload_n 1, 1) := by decide +kernel
theorem d_Mo_beginOf_1 : decode b_Mo_beginOf 1 = .ok (.ifCond .ne 10, 3) := by decide +kernel
theorem d_Mo_beginOf_4 : decode b_Mo_beginOf 4 = .ok (.aload_n 0, 1) := by decide +kernel
theorem d_Mo_beginOf_5 : decode b_Mo_beginOf 5 = .ok (.getfield 141, 3) := by decide +kernel
theorem d_Mo_beginOf_8 : decode b_Mo_beginOf 8 = .ok (.goto 13, 3) := by decide +kernel
theorem d_Mo_beginOf_11 : decode b_Mo_beginOf 11 = .ok (.aload_n 0, 1) := by decide +kernel
theorem d_Mo_beginOf_12 : decode b_Mo_beginOf 12 = .ok (.aload_n 0, 1) := by decide +kernel
theorem d_Mo_beginOf_13 : decode b_Mo_beginOf 13 = .ok (.getfield 27, 3) := by decide +kernel
theorem d_Mo_beginOf_16 : decode b_Mo_beginOf 16 = .ok (.iload_n 1, 1) := by decide +kernel
theorem d_Mo_beginOf_17 : decode b_Mo_beginOf 17 = .ok (.iaload, 1) := by decide +kernel
theorem d_Mo_beginOf_18 : decode b_Mo_beginOf 18 = .ok (.invokevirtual 156, 3) := by decide +kernel
theorem d_Mo_beginOf_21 : decode b_Mo_beginOf 21 = .ok (.ireturn, 1) := by decide +kernel
theorem d_Mo_slotAt_0 : decode b_Mo_slotAt 0 = .ok (.aload_n 0, 1) := by decide +kernel
theorem d_Mo_slotAt_1 : decode b_Mo_slotAt 1 = .ok (.aload_n 0, 1) := by decide +kernel
theorem d_Mo_slotAt_2 : decode b_Mo_slotAt 2 = .ok (.getfield 60, 3) := by decide +kernel
theorem d_Mo_slotAt_5 : decode b_Mo_slotAt 5 = .ok (.iload_n 1, 1) := by decide +kernel
theorem d_Mo_slotAt_6 : decode b_Mo_slotAt 6 = .ok (.bipush 16, 2) := by decide +kernel
theorem d_Mo_slotAt_8 : decode b_Mo_slotAt 8 = .ok (.aload_n 0, 1) := by decide +kernel
theorem d_Mo_slotAt_9 : decode b_Mo_slotAt 9 = .ok (.getfield 138, 3) := by decide +kernel
theorem d_Mo_slotAt_12 : decode b_Mo_slotAt 12 = .ok (.imul, 1) := by decide +kernel
theorem d_Mo_slotAt_13 : decode b_Mo_slotAt 13 = .ok (.idiv, 1) := by decide +kernel
theorem d_Mo_slotAt_14 : decode b_Mo_slotAt 14 = .ok (.iaload, 1) := by decide +kernel
theorem d_Mo_slotAt_15 : decode b_Mo_slotAt 15 = .ok (.invokevirtual 159, 3) := by decide +kernel
theorem d_Mo_slotAt_18 : decode b_Mo_slotAt 18 = .ok (.bipush 32, 2) := by decide +kernel
theorem d_Mo_slotAt_20 : decode b_Mo_slotAt 20 = .ok (.iload_n 1, 1) := by decide +kernel
theorem d_Mo_slotAt_21 : decode b_Mo_slotAt 21 = .ok (.bipush 16, 2) := by decide +kernel
theorem d_Mo_slotAt_23 : decode b_Mo_slotAt 23 = .ok (.aload_n 0, 1) := by decide +kernel
theorem d_Mo_slotAt_24 : decode b_Mo_slotAt 24 = .ok (.getfield 138, 3) := by decide +kernel
theorem d_Mo_slotAt_27 : decode b_Mo_slotAt 27 = .ok (.imul, 1) := by decide +kernel
theorem d_Mo_slotAt_28 : decode b_Mo_slotAt 28 = .ok (.irem, 1) := by decide +kernel
theorem d_Mo_slotAt_29 : decode b_Mo_slotAt 29 = .ok (.imul, 1) := by decide +kernel
theorem d_Mo_slotAt_30 : decode b_Mo_slotAt 30 = .ok (.iadd, 1) := by decide +kernel
theorem d_Mo_slotAt_31 : decode b_Mo_slotAt 31 = .ok (.ireturn, 1) := by decide +kernel
theorem d_Mo_loadFolder_0 : decode b_Mo_loadFolder 0 = .ok (.aload_n 0, 1) := by decide +kernel
theorem d_Mo_loadFolder_1 : decode b_Mo_loadFolder 1 = .ok (.aload_n 0, 1) := by decide +kernel
theorem d_Mo_loadFolder_2 : decode b_Mo_loadFolder 2 = .ok (.iload_n 1, 1) := by decide +kernel
theorem d_Mo_loadFolder_3 : decode b_Mo_loadFolder 3 = .ok (.invokevirtual 192, 3) := by decide +kernel
theorem d_Mo_loadFolder_6 : decode b_Mo_loadFolder 6 = .ok (.invokevirtual 195, 3) := by decide +kernel
theorem d_Mo_loadFolder_9 : decode b_Mo_loadFolder 9 = .ok (.iconst 0, 1) := by decide +kernel
theorem d_Mo_loadFolder_10 : decode b_Mo_loadFolder 10 = .ok (.istore_n 2, 1) := by decide +kernel
theorem d_Mo_loadFolder_11 : decode b_Mo_loadFolder 11 = .ok (.iload_n 2, 1) := by decide +kernel
theorem d_Mo_loadFolder_12 : decode b_Mo_loadFolder 12 = .ok (.aload_n 0, 1) := by decide +kernel
theorem d_Mo_loadFolder_13 : decode b_Mo_loadFolder 13 = .ok (.getfield 153, 3) := by decide +kernel
theorem d_Mo_loadFolder_16 : decode b_Mo_loadFolder 16 = .ok (.if_icmp .ge 21, 3) := by decide +kernel
theorem d_Mo_loadFolder_19 : decode b_Mo_loadFolder 19 = .ok (.aload_n 0, 1) := by decide +kernel
theorem d_Mo_loadFolder_20 : decode b_Mo_loadFolder 20 = .ok (.getfield 60, 3) := by decide +kernel
theorem d_Mo_loadFolder_23 : decode b_Mo_loadFolder 23 = .ok (.iload_n 2, 1) := by decide +kernel
theorem d_Mo_loadFolder_24 : decode b_Mo_loadFolder 24 = .ok (.aload_n 0, 1) := by decide +kernel
theorem d_Mo_loadFolder_25 : decode b_Mo_loadFolder 25 = .ok (.getfield 57, 3) := by decide +kernel
theorem d_Mo_loadFolder_28 : decode b_Mo_loadFolder 28 = .ok (.iload_n 2, 1) := by decide +kernel
theorem d_Mo_loadFolder_29 : decode b_Mo_loadFolder 29 = .ok (.iaload, 1) := by decide +kernel
theorem d_Mo_loadFolder_30 : decode b_Mo_loadFolder 30 = .ok (.iastore, 1) := by decide +kernel
theorem d_Mo_loadFolder_31 : decode b_Mo_loadFolder 31 = .ok (.iinc 2 1, 3) := by decide +kernel
theorem d_Mo_loadFolder_34 : decode b_Mo_loadFolder 34 = .ok (.goto (-23), 3) := by decide +kernel
theorem d_Mo_loadFolder_37 : decode b_Mo_loadFolder 37 = .ok (.aload_n 0, 1) := by decide +kernel
theorem d_Mo_loadFolder_38 : decode b_Mo_loadFolder 38 = .ok (.aload_n 0, 1) := by decide +kernel
theorem d_Mo_loadFolder_39 : decode b_Mo_loadFolder 39 = .ok (.getfield 153, 3) := by decide +kernel
theorem d_Mo_loadFolder_42 : decode b_Mo_loadFolder 42 = .ok (.putfield 198, 3) := by decide +kernel
theorem d_Mo_loadFolder_45 : decode b_Mo_loadFolder 45 = .ok (.return_, 1) := by decide +kernel
theorem d_Mo_scan_0 : decode b_Mo_scan 0 = .ok (.aload_n 0, 1) := by decide +kernel
theorem d_Mo_scan_1 : decode b_Mo_scan 1 = .ok (.aload_n 0, 1) := by decide +kernel
theorem d_Mo_scan_2 : decode b_Mo_scan 2 = .ok (.iload_n 1, 1) := by decide +kernel
theorem d_Mo_scan_3 : decode b_Mo_scan 3 = .ok (.invokevirtual 192, 3) := by decide +kernel
theorem d_Mo_scan_6 : decode b_Mo_scan 6 = .ok (.invokevirtual 201, 3) := by decide +kernel
theorem d_Mo_scan_9 : decode b_Mo_scan 9 = .ok (.ifCond .ne 9, 3) := by decide +kernel
theorem d_Mo_scan_12 : decode b_Mo_scan 12 = .ok (.aload_n 0, 1) := by decide +kernel
theorem d_Mo_scan_13 : decode b_Mo_scan 13 = .ok (.iconst 3, 1) := by decide +kernel
theorem d_Mo_scan_14 : decode b_Mo_scan 14 = .ok (.putfield 182, 3) := by decide +kernel
theorem d_Mo_scan_17 : decode b_Mo_scan 17 = .ok (.return_, 1) := by decide +kernel
theorem d_Mo_scan_18 : decode b_Mo_scan 18 = .ok (.iconst 0, 1) := by decide +kernel
theorem d_Mo_scan_19 : decode b_Mo_scan 19 = .ok (.istore_n 2, 1) := by decide +kernel
theorem d_Mo_scan_20 : decode b_Mo_scan 20 = .ok (.iload_n 2, 1) := by decide +kernel
theorem d_Mo_scan_21 : decode b_Mo_scan 21 = .ok (.aload_n 0, 1) := by decide +kernel
theorem d_Mo_scan_22 : decode b_Mo_scan 22 = .ok (.getfield 153, 3) := by decide +kernel
theorem d_Mo_scan_25 : decode b_Mo_scan 25 = .ok (.if_icmp .ge 21, 3) := by decide +kernel
theorem d_Mo_scan_28 : decode b_Mo_scan 28 = .ok (.aload_n 0, 1) := by decide +kernel
theorem d_Mo_scan_29 : decode b_Mo_scan 29 = .ok (.getfield 60, 3) := by decide +kernel
theorem d_Mo_scan_32 : decode b_Mo_scan 32 = .ok (.iload_n 2, 1) := by decide +kernel
theorem d_Mo_scan_33 : decode b_Mo_scan 33 = .ok (.aload_n 0, 1) := by decide +kernel
theorem d_Mo_scan_34 : decode b_Mo_scan 34 = .ok (.getfield 57, 3) := by decide +kernel
theorem d_Mo_scan_37 : decode b_Mo_scan 37 = .ok (.iload_n 2, 1) := by decide +kernel
theorem d_Mo_scan_38 : decode b_Mo_scan 38 = .ok (.iaload, 1) := by decide +kernel
theorem d_Mo_scan_39 : decode b_Mo_scan 39 = .ok (.iastore, 1) := by decide +kernel
theorem d_Mo_scan_40 : decode b_Mo_scan 40 = .ok (.iinc 2 1, 3) := by decide +kernel
theorem d_Mo_scan_43 : decode b_Mo_scan 43 = .ok (.goto (-23), 3) := by decide +kernel
theorem d_Mo_scan_46 : decode b_Mo_scan 46 = .ok (.aload_n 0, 1) := by decide +kernel
theorem d_Mo_scan_47 : decode b_Mo_scan 47 = .ok (.aload_n 0, 1) := by decide +kernel
theorem d_Mo_scan_48 : decode b_Mo_scan 48 = .ok (.getfield 153, 3) := by decide +kernel
theorem d_Mo_scan_51 : decode b_Mo_scan 51 = .ok (.putfield 198, 3) := by decide +kernel
theorem d_Mo_scan_54 : decode b_Mo_scan 54 = .ok (.aload_n 0, 1) := by decide +kernel
theorem d_Mo_scan_55 : decode b_Mo_scan 55 = .ok (.iconst 0, 1) := by decide +kernel
theorem d_Mo_scan_56 : decode b_Mo_scan 56 = .ok (.putfield 204, 3) := by decide +kernel
theorem d_Mo_scan_59 : decode b_Mo_scan 59 = .ok (.aload_n 0, 1) := by decide +kernel
theorem d_Mo_scan_60 : decode b_Mo_scan 60 = .ok (.iconst 0, 1) := by decide +kernel
theorem d_Mo_scan_61 : decode b_Mo_scan 61 = .ok (.putfield 207, 3) := by decide +kernel
theorem d_Mo_scan_64 : decode b_Mo_scan 64 = .ok (.iconst 0, 1) := by decide +kernel
theorem d_Mo_scan_65 : decode b_Mo_scan 65 = .ok (.istore_n 2, 1) := by decide +kernel
theorem d_Mo_scan_66 : decode b_Mo_scan 66 = .ok (.iload_n 2, 1) := by decide +kernel
theorem d_Mo_scan_67 : decode b_Mo_scan 67 = .ok (.aload_n 0, 1) := by decide +kernel
theorem d_Mo_scan_68 : decode b_Mo_scan 68 = .ok (.getfield 198, 3) := by decide +kernel
theorem d_Mo_scan_71 : decode b_Mo_scan 71 = .ok (.bipush 16, 2) := by decide +kernel
theorem d_Mo_scan_73 : decode b_Mo_scan 73 = .ok (.imul, 1) := by decide +kernel
theorem d_Mo_scan_74 : decode b_Mo_scan 74 = .ok (.aload_n 0, 1) := by decide +kernel
theorem d_Mo_scan_75 : decode b_Mo_scan 75 = .ok (.getfield 138, 3) := by decide +kernel
theorem d_Mo_scan_78 : decode b_Mo_scan 78 = .ok (.imul, 1) := by decide +kernel
theorem d_Mo_scan_79 : decode b_Mo_scan 79 = .ok (.if_icmp .ge 141, 3) := by decide +kernel
theorem d_Mo_scan_82 : decode b_Mo_scan 82 = .ok (.aload_n 0, 1) := by decide +kernel
theorem d_Mo_scan_83 : decode b_Mo_scan 83 = .ok (.getfield 182, 3) := by decide +kernel
theorem d_Mo_scan_86 : decode b_Mo_scan 86 = .ok (.ifCond .ne 134, 3) := by decide +kernel
theorem d_Mo_scan_89 : decode b_Mo_scan 89 = .ok (.aload_n 0, 1) := by decide +kernel
theorem d_Mo_scan_90 : decode b_Mo_scan 90 = .ok (.iload_n 2, 1) := by decide +kernel
theorem d_Mo_scan_91 : decode b_Mo_scan 91 = .ok (.invokevirtual 210, 3) := by decide +kernel
theorem d_Mo_scan_94 : decode b_Mo_scan 94 = .ok (.istore_n 3, 1) := by decide +kernel
theorem d_Mo_scan_95 : decode b_Mo_scan 95 = .ok (.aload_n 0, 1) := by decide +kernel
theorem d_Mo_scan_96 : decode b_Mo_scan 96 = .ok (.iload_n 3, 1) := by decide +kernel
theorem d_Mo_scan_97 : decode b_Mo_scan 97 = .ok (.invokevirtual 103, 3) := by decide +kernel
theorem d_Mo_scan_100 : decode b_Mo_scan 100 = .ok (.ifCond .ne 6, 3) := by decide +kernel
theorem d_Mo_scan_103 : decode b_Mo_scan 103 = .ok (.goto 117, 3) := by decide +kernel
theorem d_Mo_scan_106 : decode b_Mo_scan 106 = .ok (.iload_n 1, 1) := by decide +kernel
theorem d_Mo_scan_107 : decode b_Mo_scan 107 = .ok (.ifCond .le 30, 3) := by decide +kernel
theorem d_Mo_scan_110 : decode b_Mo_scan 110 = .ok (.iload_n 2, 1) := by decide +kernel
theorem d_Mo_scan_111 : decode b_Mo_scan 111 = .ok (.iconst 2, 1) := by decide +kernel
theorem d_Mo_scan_112 : decode b_Mo_scan 112 = .ok (.if_icmp .ge 25, 3) := by decide +kernel
theorem d_Mo_scan_115 : decode b_Mo_scan 115 = .ok (.aload_n 0, 1) := by decide +kernel
theorem d_Mo_scan_116 : decode b_Mo_scan 116 = .ok (.aload_n 0, 1) := by decide +kernel
theorem d_Mo_scan_117 : decode b_Mo_scan 117 = .ok (.iload_n 3, 1) := by decide +kernel
theorem d_Mo_scan_118 : decode b_Mo_scan 118 = .ok (.iload_n 1, 1) := by decide +kernel
theorem d_Mo_scan_119 : decode b_Mo_scan 119 = .ok (.iload_n 2, 1) := by decide +kernel
theorem d_Mo_scan_120 : decode b_Mo_scan 120 = .ok (.invokevirtual 213, 3) := by decide +kernel
theorem d_Mo_scan_123 : decode b_Mo_scan 123 = .ok (.ifCond .eq 7, 3) := by decide +kernel
theorem d_Mo_scan_126 : decode b_Mo_scan 126 = .ok (.iconst 0, 1) := by decide +kernel
theorem d_Mo_scan_127 : decode b_Mo_scan 127 = .ok (.goto 4, 3) := by decide +kernel
theorem d_Mo_scan_130 : decode b_Mo_scan 130 = .ok (.iconst 4, 1) := by decide +kernel
theorem d_Mo_scan_131 : decode b_Mo_scan 131 = .ok (.putfield 182, 3) := by decide +kernel
theorem d_Mo_scan_134 : decode b_Mo_scan 134 = .ok (.goto 80, 3) := by decide +kernel
theorem d_Mo_scan_137 : decode b_Mo_scan 137 = .ok (.aload_n 0, 1) := by decide +kernel
theorem d_Mo_scan_138 : decode b_Mo_scan 138 = .ok (.iload_n 3, 1) := by decide +kernel
theorem d_Mo_scan_139 : decode b_Mo_scan 139 = .ok (.invokevirtual 103, 3) := by decide +kernel
theorem d_Mo_scan_142 : decode b_Mo_scan 142 = .ok (.sipush 229, 3) := by decide +kernel
theorem d_Mo_scan_145 : decode b_Mo_scan 145 = .ok (.if_icmp .ne 22, 3) := by decide +kernel
theorem d_Mo_scan_148 : decode b_Mo_scan 148 = .ok (.aload_n 0, 1) := by decide +kernel
theorem d_Mo_scan_149 : decode b_Mo_scan 149 = .ok (.aload_n 0, 1) := by decide +kernel
theorem d_Mo_scan_150 : decode b_Mo_scan 150 = .ok (.getfield 204, 3) := by decide +kernel
theorem d_Mo_scan_153 : decode b_Mo_scan 153 = .ok (.ifCond .le 7, 3) := by decide +kernel
theorem d_Mo_scan_156 : decode b_Mo_scan 156 = .ok (.iconst 4, 1) := by decide +kernel
theorem d_Mo_scan_157 : decode b_Mo_scan 157 = .ok (.goto 4, 3) := by decide +kernel
theorem d_Mo_scan_160 : decode b_Mo_scan 160 = .ok (.iconst 0, 1) := by decide +kernel
theorem d_Mo_scan_161 : decode b_Mo_scan 161 = .ok (.putfield 182, 3) := by decide +kernel
theorem d_Mo_scan_164 : decode b_Mo_scan 164 = .ok (.goto 50, 3) := by decide +kernel
theorem d_Mo_scan_167 : decode b_Mo_scan 167 = .ok (.aload_n 0, 1) := by decide +kernel
theorem d_Mo_scan_168 : decode b_Mo_scan 168 = .ok (.iload_n 3, 1) := by decide +kernel
theorem d_Mo_scan_169 : decode b_Mo_scan 169 = .ok (.bipush 11, 2) := by decide +kernel
theorem d_Mo_scan_171 : decode b_Mo_scan 171 = .ok (.iadd, 1) := by decide +kernel
theorem d_Mo_scan_172 : decode b_Mo_scan 172 = .ok (.invokevirtual 103, 3) := by decide +kernel
theorem d_Mo_scan_175 : decode b_Mo_scan 175 = .ok (.bipush 63, 2) := by decide +kernel
theorem d_Mo_scan_177 : decode b_Mo_scan 177 = .ok (.iand, 1) := by decide +kernel
theorem d_Mo_scan_178 : decode b_Mo_scan 178 = .ok (.bipush 15, 2) := by decide +kernel
theorem d_Mo_scan_180 : decode b_Mo_scan 180 = .ok (.if_icmp .ne 23, 3) := by decide +kernel
theorem d_Mo_scan_183 : decode b_Mo_scan 183 = .ok (.aload_n 0, 1) := by decide +kernel
theorem d_Mo_scan_184 : decode b_Mo_scan 184 = .ok (.aload_n 0, 1) := by decide +kernel
theorem d_Mo_scan_185 : decode b_Mo_scan 185 = .ok (.iload_n 3, 1) := by decide +kernel
theorem d_Mo_scan_186 : decode b_Mo_scan 186 = .ok (.invokevirtual 217, 3) := by decide +kernel
theorem d_Mo_scan_189 : decode b_Mo_scan 189 = .ok (.ifCond .eq 7, 3) := by decide +kernel
theorem d_Mo_scan_192 : decode b_Mo_scan 192 = .ok (.iconst 0, 1) := by decide +kernel
theorem d_Mo_scan_193 : decode b_Mo_scan 193 = .ok (.goto 4, 3) := by decide +kernel
theorem d_Mo_scan_196 : decode b_Mo_scan 196 = .ok (.iconst 4, 1) := by decide +kernel
theorem d_Mo_scan_197 : decode b_Mo_scan 197 = .ok (.putfield 182, 3) := by decide +kernel
theorem d_Mo_scan_200 : decode b_Mo_scan 200 = .ok (.goto 14, 3) := by decide +kernel
theorem d_Mo_scan_203 : decode b_Mo_scan 203 = .ok (.aload_n 0, 1) := by decide +kernel
theorem d_Mo_scan_204 : decode b_Mo_scan 204 = .ok (.aload_n 0, 1) := by decide +kernel
theorem d_Mo_scan_205 : decode b_Mo_scan 205 = .ok (.iload_n 3, 1) := by decide +kernel
theorem d_Mo_scan_206 : decode b_Mo_scan 206 = .ok (.iload_n 1, 1) := by decide +kernel
theorem d_Mo_scan_207 : decode b_Mo_scan 207 = .ok (.iload_n 2, 1) := by decide +kernel
theorem d_Mo_scan_208 : decode b_Mo_scan 208 = .ok (.invokevirtual 220, 3) := by decide +kernel
theorem d_Mo_scan_211 : decode b_Mo_scan 211 = .ok (.putfield 182, 3) := by decide +kernel
theorem d_Mo_scan_214 : decode b_Mo_scan 214 = .ok (.iinc 2 1, 3) := by decide +kernel
theorem d_Mo_scan_217 : decode b_Mo_scan 217 = .ok (.goto (-151), 3) := by decide +kernel
theorem d_Mo_scan_220 : decode b_Mo_scan 220 = .ok (.aload_n 0, 1) := by decide +kernel
theorem d_Mo_scan_221 : decode b_Mo_scan 221 = .ok (.getfield 182, 3) := by decide +kernel
theorem d_Mo_scan_224 : decode b_Mo_scan 224 = .ok (.ifCond .ne 24, 3) := by decide +kernel
theorem d_Mo_scan_227 : decode b_Mo_scan 227 = .ok (.aload_n 0, 1) := by decide +kernel
theorem d_Mo_scan_228 : decode b_Mo_scan 228 = .ok (.getfield 204, 3) := by decide +kernel
theorem d_Mo_scan_231 : decode b_Mo_scan 231 = .ok (.ifCond .gt 12, 3) := by decide +kernel
theorem d_Mo_scan_234 : decode b_Mo_scan 234 = .ok (.iload_n 1, 1) := by decide +kernel
theorem d_Mo_scan_235 : decode b_Mo_scan 235 = .ok (.ifCond .le 13, 3) := by decide +kernel
theorem d_Mo_scan_238 : decode b_Mo_scan 238 = .ok (.iload_n 2, 1) := by decide +kernel
theorem d_Mo_scan_239 : decode b_Mo_scan 239 = .ok (.iconst 2, 1) := by decide +kernel
theorem d_Mo_scan_240 : decode b_Mo_scan 240 = .ok (.if_icmp .ge 8, 3) := by decide +kernel
theorem d_Mo_scan_243 : decode b_Mo_scan 243 = .ok (.aload_n 0, 1) := by decide +kernel
theorem d_Mo_scan_244 : decode b_Mo_scan 244 = .ok (.iconst 4, 1) := by decide +kernel
theorem d_Mo_scan_245 : decode b_Mo_scan 245 = .ok (.putfield 182, 3) := by decide +kernel
theorem d_Mo_scan_248 : decode b_Mo_scan 248 = .ok (.return_, 1) := by decide +kernel
theorem d_Mo_dots_0 : decode b_Mo_dots 0 = .ok (.iconst 0, 1) := by decide +kernel
theorem d_Mo_dots_1 : decode b_Mo_dots 1 = .ok (.istore 4, 2) := by decide +kernel
theorem d_Mo_dots_3 : decode b_Mo_dots 3 = .ok (.iload 4, 2) := by decide +kernel
theorem d_Mo_dots_5 : decode b_Mo_dots 5 = .ok (.bipush 11, 2) := by decide +kernel
theorem d_Mo_dots_7 : decode b_Mo_dots 7 = .ok (.if_icmp .ge 35, 3) := by decide +kernel
theorem d_Mo_dots_10 : decode b_Mo_dots 10 = .ok (.aload_n 0, 1) := by decide +kernel
theorem d_Mo_dots_11 : decode b_Mo_dots 11 = .ok (.iload_n 1, 1) := by decide +kernel
theorem d_Mo_dots_12 : decode b_Mo_dots 12 = .ok (.iload 4, 2) := by decide +kernel
theorem d_Mo_dots_14 : decode b_Mo_dots 14 = .ok (.iadd, 1) := by decide +kernel
theorem d_Mo_dots_15 : decode b_Mo_dots 15 = .ok (.invokevirtual 103, 3) := by decide +kernel
theorem d_Mo_dots_18 : decode b_Mo_dots 18 = .ok (.iload 4, 2) := by decide +kernel
theorem d_Mo_dots_20 : decode b_Mo_dots 20 = .ok (.iload_n 3, 1) := by decide +kernel
theorem d_Mo_dots_21 : decode b_Mo_dots 21 = .ok (.if_icmp .gt 8, 3) := by decide +kernel
theorem d_Mo_dots_24 : decode b_Mo_dots 24 = .ok (.bipush 46, 2) := by decide +kernel
theorem d_Mo_dots_26 : decode b_Mo_dots 26 = .ok (.goto 5, 3) := by decide +kernel
theorem d_Mo_dots_29 : decode b_Mo_dots 29 = .ok (.bipush 32, 2) := by decide +kernel
theorem d_Mo_dots_31 : decode b_Mo_dots 31 = .ok (.if_icmp .eq 5, 3) := by decide +kernel
theorem d_Mo_dots_34 : decode b_Mo_dots 34 = .ok (.iconst 0, 1) := by decide +kernel
theorem d_Mo_dots_35 : decode b_Mo_dots 35 = .ok (.ireturn, 1) := by decide +kernel
theorem d_Mo_dots_36 : decode b_Mo_dots 36 = .ok (.iinc 4 1, 3) := by decide +kernel
theorem d_Mo_dots_39 : decode b_Mo_dots 39 = .ok (.goto (-36), 3) := by decide +kernel
theorem d_Mo_dots_42 : decode b_Mo_dots 42 = .ok (.aload_n 0, 1) := by decide +kernel
theorem d_Mo_dots_43 : decode b_Mo_dots 43 = .ok (.iload_n 1, 1) := by decide +kernel
theorem d_Mo_dots_44 : decode b_Mo_dots 44 = .ok (.bipush 11, 2) := by decide +kernel
theorem d_Mo_dots_46 : decode b_Mo_dots 46 = .ok (.iadd, 1) := by decide +kernel
theorem d_Mo_dots_47 : decode b_Mo_dots 47 = .ok (.invokevirtual 103, 3) := by decide +kernel
theorem d_Mo_dots_50 : decode b_Mo_dots 50 = .ok (.bipush 16, 2) := by decide +kernel
theorem d_Mo_dots_52 : decode b_Mo_dots 52 = .ok (.if_icmp .ne 50, 3) := by decide +kernel
theorem d_Mo_dots_55 : decode b_Mo_dots 55 = .ok (.aload_n 0, 1) := by decide +kernel
theorem d_Mo_dots_56 : decode b_Mo_dots 56 = .ok (.iload_n 1, 1) := by decide +kernel
theorem d_Mo_dots_57 : decode b_Mo_dots 57 = .ok (.invokevirtual 156, 3) := by decide +kernel
theorem d_Mo_dots_60 : decode b_Mo_dots 60 = .ok (.iload_n 3, 1) := by decide +kernel
theorem d_Mo_dots_61 : decode b_Mo_dots 61 = .ok (.ifCond .ne 11, 3) := by decide +kernel
theorem d_Mo_dots_64 : decode b_Mo_dots 64 = .ok (.aload_n 0, 1) := by decide +kernel
theorem d_Mo_dots_65 : decode b_Mo_dots 65 = .ok (.iload_n 2, 1) := by decide +kernel
theorem d_Mo_dots_66 : decode b_Mo_dots 66 = .ok (.invokevirtual 192, 3) := by decide +kernel
theorem d_Mo_dots_69 : decode b_Mo_dots 69 = .ok (.goto 26, 3) := by decide +kernel
theorem d_Mo_dots_72 : decode b_Mo_dots 72 = .ok (.aload_n 0, 1) := by decide +kernel
theorem d_Mo_dots_73 : decode b_Mo_dots 73 = .ok (.getfield 37, 3) := by decide +kernel
theorem d_Mo_dots_76 : decode b_Mo_dots 76 = .ok (.iload_n 2, 1) := by decide +kernel
theorem d_Mo_dots_77 : decode b_Mo_dots 77 = .ok (.iaload, 1) := by decide +kernel
theorem d_Mo_dots_78 : decode b_Mo_dots 78 = .ok (.ifCond .ne 7, 3) := by decide +kernel
theorem d_Mo_dots_81 : decode b_Mo_dots 81 = .ok (.iconst 0, 1) := by decide +kernel
theorem d_Mo_dots_82 : decode b_Mo_dots 82 = .ok (.goto 13, 3) := by decide +kernel
theorem d_Mo_dots_85 : decode b_Mo_dots 85 = .ok (.aload_n 0, 1) := by decide +kernel
theorem d_Mo_dots_86 : decode b_Mo_dots 86 = .ok (.aload_n 0, 1) := by decide +kernel
theorem d_Mo_dots_87 : decode b_Mo_dots 87 = .ok (.getfield 37, 3) := by decide +kernel
theorem d_Mo_dots_90 : decode b_Mo_dots 90 = .ok (.iload_n 2, 1) := by decide +kernel
theorem d_Mo_dots_91 : decode b_Mo_dots 91 = .ok (.iaload, 1) := by decide +kernel
theorem d_Mo_dots_92 : decode b_Mo_dots 92 = .ok (.invokevirtual 192, 3) := by decide +kernel
theorem d_Mo_dots_95 : decode b_Mo_dots 95 = .ok (.if_icmp .ne 7, 3) := by decide +kernel
theorem d_Mo_dots_98 : decode b_Mo_dots 98 = .ok (.iconst 1, 1) := by decide +kernel
theorem d_Mo_dots_99 : decode b_Mo_dots 99 = .ok (.goto 4, 3) := by decide +kernel
theorem d_Mo_dots_102 : decode b_Mo_dots 102 = .ok (.iconst 0, 1) := by decide +kernel
theorem d_Mo_dots_103 : decode b_Mo_dots 103 = .ok (.ireturn, 1) := by decide +kernel
theorem d_Mo_part_0 : decode b_Mo_part 0 = .ok (.aload_n 0, 1) := by decide +kernel
theorem d_Mo_part_1 : decode b_Mo_part 1 = .ok (.iload_n 1, 1) := by decide +kernel
theorem d_Mo_part_2 : decode b_Mo_part 2 = .ok (.invokevirtual 103, 3) := by decide +kernel
theorem d_Mo_part_5 : decode b_Mo_part 5 = .ok (.istore_n 2, 1) := by decide +kernel
theorem d_Mo_part_6 : decode b_Mo_part 6 = .ok (.aload_n 0, 1) := by decide +kernel
theorem d_Mo_part_7 : decode b_Mo_part 7 = .ok (.getfield 204, 3) := by decide +kernel
theorem d_Mo_part_10 : decode b_Mo_part 10 = .ok (.ifCond .ne 51, 3) := by decide +kernel
theorem d_Mo_part_13 : decode b_Mo_part 13 = .ok (.iload_n 2, 1) := by decide +kernel
theorem d_Mo_part_14 : decode b_Mo_part 14 = .ok (.bipush 65, 2) := by decide +kernel
theorem d_Mo_part_16 : decode b_Mo_part 16 = .ok (.if_icmp .lt 9, 3) := by decide +kernel
theorem d_Mo_part_19 : decode b_Mo_part 19 = .ok (.iload_n 2, 1) := by decide +kernel
theorem d_Mo_part_20 : decode b_Mo_part 20 = .ok (.bipush 84, 2) := by decide +kernel
theorem d_Mo_part_22 : decode b_Mo_part 22 = .ok (.if_icmp .le 5, 3) := by decide +kernel
theorem d_Mo_part_25 : decode b_Mo_part 25 = .ok (.iconst 0, 1) := by decide +kernel
theorem d_Mo_part_26 : decode b_Mo_part 26 = .ok (.ireturn, 1) := by decide +kernel
theorem d_Mo_part_27 : decode b_Mo_part 27 = .ok (.aload_n 0, 1) := by decide +kernel
theorem d_Mo_part_28 : decode b_Mo_part 28 = .ok (.iload_n 2, 1) := by decide +kernel
theorem d_Mo_part_29 : decode b_Mo_part 29 = .ok (.bipush 64, 2) := by decide +kernel
theorem d_Mo_part_31 : decode b_Mo_part 31 = .ok (.isub, 1) := by decide +kernel
theorem d_Mo_part_32 : decode b_Mo_part 32 = .ok (.putfield 207, 3) := by decide +kernel
theorem d_Mo_part_35 : decode b_Mo_part 35 = .ok (.aload_n 0, 1) := by decide +kernel
theorem d_Mo_part_36 : decode b_Mo_part 36 = .ok (.bipush 13, 2) := by decide +kernel
theorem d_Mo_part_38 : decode b_Mo_part 38 = .ok (.aload_n 0, 1) := by decide +kernel
theorem d_Mo_part_39 : decode b_Mo_part 39 = .ok (.getfield 207, 3) := by decide +kernel
theorem d_Mo_part_42 : decode b_Mo_part 42 = .ok (.imul, 1) := by decide +kernel
theorem d_Mo_part_43 : decode b_Mo_part 43 = .ok (.putfield 224, 3) := by decide +kernel
theorem d_Mo_part_46 : decode b_Mo_part 46 = .ok (.aload_n 0, 1) := by decide +kernel
theorem d_Mo_part_47 : decode b_Mo_part 47 = .ok (.aload_n 0, 1) := by decide +kernel
theorem d_Mo_part_48 : decode b_Mo_part 48 = .ok (.iload_n 1, 1) := by decide +kernel
theorem d_Mo_part_49 : decode b_Mo_part 49 = .ok (.bipush 13, 2) := by decide +kernel
theorem d_Mo_part_51 : decode b_Mo_part 51 = .ok (.iadd, 1) := by decide +kernel
theorem d_Mo_part_52 : decode b_Mo_part 52 = .ok (.invokevirtual 103, 3) := by decide +kernel
theorem d_Mo_part_55 : decode b_Mo_part 55 = .ok (.putfield 227, 3) := by decide +kernel
theorem d_Mo_part_58 : decode b_Mo_part 58 = .ok (.goto 13, 3) := by decide +kernel
theorem d_Mo_part_61 : decode b_Mo_part 61 = .ok (.iload_n 2, 1) := by decide +kernel
theorem d_Mo_part_62 : decode b_Mo_part 62 = .ok (.aload_n 0, 1) := by decide +kernel
theorem d_Mo_part_63 : decode b_Mo_part 63 = .ok (.getfield 207, 3) := by decide +kernel
theorem d_Mo_part_66 : decode b_Mo_part 66 = .ok (.if_icmp .eq 5, 3) := by decide +kernel
theorem d_Mo_part_69 : decode b_Mo_part 69 = .ok (.iconst 0, 1) := by decide +kernel
theorem d_Mo_part_70 : decode b_Mo_part 70 = .ok (.ireturn, 1) := by decide +kernel
theorem d_Mo_part_71 : decode b_Mo_part 71 = .ok (.aload_n 0, 1) := by decide +kernel
theorem d_Mo_part_72 : decode b_Mo_part 72 = .ok (.getfield 207, 3) := by decide +kernel
theorem d_Mo_part_75 : decode b_Mo_part 75 = .ok (.ifCond .eq 40, 3) := by decide +kernel
theorem d_Mo_part_78 : decode b_Mo_part 78 = .ok (.aload_n 0, 1) := by decide +kernel
theorem d_Mo_part_79 : decode b_Mo_part 79 = .ok (.iload_n 1, 1) := by decide +kernel
theorem d_Mo_part_80 : decode b_Mo_part 80 = .ok (.bipush 12, 2) := by decide +kernel
theorem d_Mo_part_82 : decode b_Mo_part 82 = .ok (.iadd, 1) := by decide +kernel
theorem d_Mo_part_83 : decode b_Mo_part 83 = .ok (.invokevirtual 103, 3) := by decide +kernel
theorem d_Mo_part_86 : decode b_Mo_part 86 = .ok (.ifCond .ne 29, 3) := by decide +kernel
theorem d_Mo_part_89 : decode b_Mo_part 89 = .ok (.aload_n 0, 1) := by decide +kernel
theorem d_Mo_part_90 : decode b_Mo_part 90 = .ok (.iload_n 1, 1) := by decide +kernel
theorem d_Mo_part_91 : decode b_Mo_part 91 = .ok (.bipush 26, 2) := by decide +kernel
theorem d_Mo_part_93 : decode b_Mo_part 93 = .ok (.iadd, 1) := by decide +kernel
theorem d_Mo_part_94 : decode b_Mo_part 94 = .ok (.invokevirtual 107, 3) := by decide +kernel
theorem d_Mo_part_97 : decode b_Mo_part 97 = .ok (.ifCond .ne 18, 3) := by decide +kernel
theorem d_Mo_part_100 : decode b_Mo_part 100 = .ok (.aload_n 0, 1) := by decide +kernel
theorem d_Mo_part_101 : decode b_Mo_part 101 = .ok (.iload_n 1, 1) := by decide +kernel
theorem d_Mo_part_102 : decode b_Mo_part 102 = .ok (.bipush 13, 2) := by decide +kernel
theorem d_Mo_part_104 : decode b_Mo_part 104 = .ok (.iadd, 1) := by decide +kernel
theorem d_Mo_part_105 : decode b_Mo_part 105 = .ok (.invokevirtual 103, 3) := by decide +kernel
theorem d_Mo_part_108 : decode b_Mo_part 108 = .ok (.aload_n 0, 1) := by decide +kernel
theorem d_Mo_part_109 : decode b_Mo_part 109 = .ok (.getfield 227, 3) := by decide +kernel
theorem d_Mo_part_112 : decode b_Mo_part 112 = .ok (.if_icmp .eq 5, 3) := by decide +kernel
theorem d_Mo_part_115 : decode b_Mo_part 115 = .ok (.iconst 0, 1) := by decide +kernel
theorem d_Mo_part_116 : decode b_Mo_part 116 = .ok (.ireturn, 1) := by decide +kernel
theorem d_Mo_part_117 : decode b_Mo_part 117 = .ok (.iconst 0, 1) := by decide +kernel
theorem d_Mo_part_118 : decode b_Mo_part 118 = .ok (.istore_n 3, 1) := by decide +kernel
theorem d_Mo_part_119 : decode b_Mo_part 119 = .ok (.iload_n 3, 1) := by decide +kernel
theorem d_Mo_part_120 : decode b_Mo_part 120 = .ok (.bipush 13, 2) := by decide +kernel
theorem d_Mo_part_122 : decode b_Mo_part 122 = .ok (.if_icmp .ge 65, 3) := by decide +kernel
theorem d_Mo_part_125 : decode b_Mo_part 125 = .ok (.aload_n 0, 1) := by decide +kernel
theorem d_Mo_part_126 : decode b_Mo_part 126 = .ok (.getfield 63, 3) := by decide +kernel
theorem d_Mo_part_129 : decode b_Mo_part 129 = .ok (.bipush 13, 2) := by decide +kernel
theorem d_Mo_part_131 : decode b_Mo_part 131 = .ok (.aload_n 0, 1) := by decide +kernel
theorem d_Mo_part_132 : decode b_Mo_part 132 = .ok (.getfield 207, 3) := by decide +kernel
theorem d_Mo_part_135 : decode b_Mo_part 135 = .ok (.iconst 1, 1) := by decide +kernel
theorem d_Mo_part_136 : decode b_Mo_part 136 = .ok (.isub, 1) := by decide +kernel
theorem d_Mo_part_137 : decode b_Mo_part 137 = .ok (.imul, 1) := by decide +kernel
theorem d_Mo_part_138 : decode b_Mo_part 138 = .ok (.iload_n 3, 1) := by decide +kernel
theorem d_Mo_part_139 : decode b_Mo_part 139 = .ok (.iadd, 1) := by decide +kernel
theorem d_Mo_part_140 : decode b_Mo_part 140 = .ok (.aload_n 0, 1) := by decide +kernel
theorem d_Mo_part_141 : decode b_Mo_part 141 = .ok (.iload_n 1, 1) := by decide +kernel
theorem d_Mo_part_142 : decode b_Mo_part 142 = .ok (.iload_n 3, 1) := by decide +kernel
theorem d_Mo_part_143 : decode b_Mo_part 143 = .ok (.iconst 5, 1) := by decide +kernel
theorem d_Mo_part_144 : decode b_Mo_part 144 = .ok (.if_icmp .ge 11, 3) := by decide +kernel
theorem d_Mo_part_147 : decode b_Mo_part 147 = .ok (.iconst 1, 1) := by decide +kernel
theorem d_Mo_part_148 : decode b_Mo_part 148 = .ok (.iconst 2, 1) := by decide +kernel
theorem d_Mo_part_149 : decode b_Mo_part 149 = .ok (.iload_n 3, 1) := by decide +kernel
theorem d_Mo_part_150 : decode b_Mo_part 150 = .ok (.imul, 1) := by decide +kernel
theorem d_Mo_part_151 : decode b_Mo_part 151 = .ok (.iadd, 1) := by decide +kernel
theorem d_Mo_part_152 : decode b_Mo_part 152 = .ok (.goto 23, 3) := by decide +kernel
theorem d_Mo_part_155 : decode b_Mo_part 155 = .ok (.iload_n 3, 1) := by decide +kernel
theorem d_Mo_part_156 : decode b_Mo_part 156 = .ok (.bipush 11, 2) := by decide +kernel
theorem d_Mo_part_158 : decode b_Mo_part 158 = .ok (.if_icmp .ge 11, 3) := by decide +kernel
theorem d_Mo_part_161 : decode b_Mo_part 161 = .ok (.iconst 4, 1) := by decide +kernel
theorem d_Mo_part_162 : decode b_Mo_part 162 = .ok (.iconst 2, 1) := by decide +kernel
theorem d_Mo_part_163 : decode b_Mo_part 163 = .ok (.iload_n 3, 1) := by decide +kernel
theorem d_Mo_part_164 : decode b_Mo_part 164 = .ok (.imul, 1) := by decide +kernel
theorem d_Mo_part_165 : decode b_Mo_part 165 = .ok (.iadd, 1) := by decide +kernel
theorem d_Mo_part_166 : decode b_Mo_part 166 = .ok (.goto 9, 3) := by decide +kernel
theorem d_Mo_part_169 : decode b_Mo_part 169 = .ok (.bipush 6, 2) := by decide +kernel
theorem d_Mo_part_171 : decode b_Mo_part 171 = .ok (.iconst 2, 1) := by decide +kernel
theorem d_Mo_part_172 : decode b_Mo_part 172 = .ok (.iload_n 3, 1) := by decide +kernel
theorem d_Mo_part_173 : decode b_Mo_part 173 = .ok (.imul, 1) := by decide +kernel
theorem d_Mo_part_174 : decode b_Mo_part 174 = .ok (.iadd, 1) := by decide +kernel
theorem d_Mo_part_175 : decode b_Mo_part 175 = .ok (.iadd, 1) := by decide +kernel
theorem d_Mo_part_176 : decode b_Mo_part 176 = .ok (.invokevirtual 107, 3) := by decide +kernel
theorem d_Mo_part_179 : decode b_Mo_part 179 = .ok (.i2c, 1) := by decide +kernel
theorem d_Mo_part_180 : decode b_Mo_part 180 = .ok (.castore, 1) := by decide +kernel
theorem d_Mo_part_181 : decode b_Mo_part 181 = .ok (.iinc 3 1, 3) := by decide +kernel
theorem d_Mo_part_184 : decode b_Mo_part 184 = .ok (.goto (-65), 3) := by decide +kernel
theorem d_Mo_part_187 : decode b_Mo_part 187 = .ok (.aload_n 0, 1) := by decide +kernel
theorem d_Mo_part_188 : decode b_Mo_part 188 = .ok (.dup, 1) := by decide +kernel
theorem d_Mo_part_189 : decode b_Mo_part 189 = .ok (.getfield 204, 3) := by decide +kernel
theorem d_Mo_part_192 : decode b_Mo_part 192 = .ok (.iconst 1, 1) := by decide +kernel
theorem d_Mo_part_193 : decode b_Mo_part 193 = .ok (.iadd, 1) := by decide +kernel
theorem d_Mo_part_194 : decode b_Mo_part 194 = .ok (.putfield 204, 3) := by decide +kernel
theorem d_Mo_part_197 : decode b_Mo_part 197 = .ok (.aload_n 0, 1) := by decide +kernel
theorem d_Mo_part_198 : decode b_Mo_part 198 = .ok (.dup, 1) := by decide +kernel
theorem d_Mo_part_199 : decode b_Mo_part 199 = .ok (.getfield 207, 3) := by decide +kernel
theorem d_Mo_part_202 : decode b_Mo_part 202 = .ok (.iconst 1, 1) := by decide +kernel
theorem d_Mo_part_203 : decode b_Mo_part 203 = .ok (.isub, 1) := by decide +kernel
theorem d_Mo_part_204 : decode b_Mo_part 204 = .ok (.putfield 207, 3) := by decide +kernel
theorem d_Mo_part_207 : decode b_Mo_part 207 = .ok (.iconst 1, 1) := by decide +kernel
theorem d_Mo_part_208 : decode b_Mo_part 208 = .ok (.ireturn, 1) := by decide +kernel
theorem d_Mo_isShortSign_0 : decode b_Mo_isShortSign 0 = .ok (.iload_n 0, 1) := by decide +kernel
theorem d_Mo_isShortSign_1 : decode b_Mo_isShortSign 1 = .ok (.bipush 65, 2) := by decide +kernel
theorem d_Mo_isShortSign_3 : decode b_Mo_isShortSign 3 = .ok (.if_icmp .lt 9, 3) := by decide +kernel
theorem d_Mo_isShortSign_6 : decode b_Mo_isShortSign 6 = .ok (.iload_n 0, 1) := by decide +kernel
theorem d_Mo_isShortSign_7 : decode b_Mo_isShortSign 7 = .ok (.bipush 90, 2) := by decide +kernel
theorem d_Mo_isShortSign_9 : decode b_Mo_isShortSign 9 = .ok (.if_icmp .le 29, 3) := by decide +kernel
theorem d_Mo_isShortSign_12 : decode b_Mo_isShortSign 12 = .ok (.iload_n 0, 1) := by decide +kernel
theorem d_Mo_isShortSign_13 : decode b_Mo_isShortSign 13 = .ok (.bipush 48, 2) := by decide +kernel
theorem d_Mo_isShortSign_15 : decode b_Mo_isShortSign 15 = .ok (.if_icmp .lt 9, 3) := by decide +kernel
theorem d_Mo_isShortSign_18 : decode b_Mo_isShortSign 18 = .ok (.iload_n 0, 1) := by decide +kernel
theorem d_Mo_isShortSign_19 : decode b_Mo_isShortSign 19 = .ok (.bipush 57, 2) := by decide +kernel
theorem d_Mo_isShortSign_21 : decode b_Mo_isShortSign 21 = .ok (.if_icmp .le 17, 3) := by decide +kernel
theorem d_Mo_isShortSign_24 : decode b_Mo_isShortSign 24 = .ok (.iload_n 0, 1) := by decide +kernel
theorem d_Mo_isShortSign_25 : decode b_Mo_isShortSign 25 = .ok (.ifCond .le 17, 3) := by decide +kernel
theorem d_Mo_isShortSign_28 : decode b_Mo_isShortSign 28 = .ok (.ldc 230, 2) := by decide +kernel
theorem d_Mo_isShortSign_30 : decode b_Mo_isShortSign 30 = .ok (.iload_n 0, 1) := by decide +kernel
theorem d_Mo_isShortSign_31 : decode b_Mo_isShortSign 31 = .ok (.i2c, 1) := by decide +kernel
theorem d_Mo_isShortSign_32 : decode b_Mo_isShortSign 32 = .ok (.invokevirtual 232, 3) := by decide +kernel
theorem d_Mo_isShortSign_35 : decode b_Mo_isShortSign 35 = .ok (.ifCond .lt 7, 3) := by decide +kernel
theorem d_Mo_isShortSign_38 : decode b_Mo_isShortSign 38 = .ok (.iconst 1, 1) := by decide +kernel
theorem d_Mo_isShortSign_39 : decode b_Mo_isShortSign 39 = .ok (.goto 4, 3) := by decide +kernel
theorem d_Mo_isShortSign_42 : decode b_Mo_isShortSign 42 = .ok (.iconst 0, 1) := by decide +kernel
theorem d_Mo_isShortSign_43 : decode b_Mo_isShortSign 43 = .ok (.ireturn, 1) := by decide +kernel
theorem d_Mo_isShort_0 : decode b_Mo_isShort 0 = .ok (.aload_n 0, 1) := by decide +kernel
theorem d_Mo_isShort_1 : decode b_Mo_isShort 1 = .ok (.iload_n 1, 1) := by decide +kernel
theorem d_Mo_isShort_2 : decode b_Mo_isShort 2 = .ok (.invokevirtual 103, 3) := by decide +kernel
theorem d_Mo_isShort_5 : decode b_Mo_isShort 5 = .ok (.bipush 32, 2) := by decide +kernel
theorem d_Mo_isShort_7 : decode b_Mo_isShort 7 = .ok (.if_icmp .eq 7, 3) := by decide +kernel
theorem d_Mo_isShort_10 : decode b_Mo_isShort 10 = .ok (.iconst 1, 1) := by decide +kernel
theorem d_Mo_isShort_11 : decode b_Mo_isShort 11 = .ok (.goto 4, 3) := by decide +kernel
theorem d_Mo_isShort_14 : decode b_Mo_isShort 14 = .ok (.iconst 0, 1) := by decide +kernel
theorem d_Mo_isShort_15 : decode b_Mo_isShort 15 = .ok (.istore_n 3, 1) := by decide +kernel
theorem d_Mo_isShort_16 : decode b_Mo_isShort 16 = .ok (.iconst 0, 1) := by decide +kernel
theorem d_Mo_isShort_17 : decode b_Mo_isShort 17 = .ok (.istore 4, 2) := by decide +kernel
theorem d_Mo_isShort_19 : decode b_Mo_isShort 19 = .ok (.iload 4, 2) := by decide +kernel
theorem d_Mo_isShort_21 : decode b_Mo_isShort 21 = .ok (.bipush 11, 2) := by decide +kernel
theorem d_Mo_isShort_23 : decode b_Mo_isShort 23 = .ok (.if_icmp .ge 104, 3) := by decide +kernel
theorem d_Mo_isShort_26 : decode b_Mo_isShort 26 = .ok (.aload_n 0, 1) := by decide +kernel
theorem d_Mo_isShort_27 : decode b_Mo_isShort 27 = .ok (.iload_n 1, 1) := by decide +kernel
theorem d_Mo_isShort_28 : decode b_Mo_isShort 28 = .ok (.iload 4, 2) := by decide +kernel
theorem d_Mo_isShort_30 : decode b_Mo_isShort 30 = .ok (.iadd, 1) := by decide +kernel
theorem d_Mo_isShort_31 : decode b_Mo_isShort 31 = .ok (.invokevirtual 103, 3) := by decide +kernel
theorem d_Mo_isShort_34 : decode b_Mo_isShort 34 = .ok (.bipush 32, 2) := by decide +kernel
theorem d_Mo_isShort_36 : decode b_Mo_isShort 36 = .ok (.if_icmp .ne 7, 3) := by decide +kernel
theorem d_Mo_isShort_39 : decode b_Mo_isShort 39 = .ok (.iconst 1, 1) := by decide +kernel
theorem d_Mo_isShort_40 : decode b_Mo_isShort 40 = .ok (.goto 4, 3) := by decide +kernel
theorem d_Mo_isShort_43 : decode b_Mo_isShort 43 = .ok (.iconst 0, 1) := by decide +kernel
theorem d_Mo_isShort_44 : decode b_Mo_isShort 44 = .ok (.istore 5, 2) := by decide +kernel
theorem d_Mo_isShort_46 : decode b_Mo_isShort 46 = .ok (.iload_n 3, 1) := by decide +kernel
theorem d_Mo_isShort_47 : decode b_Mo_isShort 47 = .ok (.ifCond .eq 26, 3) := by decide +kernel
theorem d_Mo_isShort_50 : decode b_Mo_isShort 50 = .ok (.iload 5, 2) := by decide +kernel
theorem d_Mo_isShort_52 : decode b_Mo_isShort 52 = .ok (.ifCond .ne 17, 3) := by decide +kernel
theorem d_Mo_isShort_55 : decode b_Mo_isShort 55 = .ok (.aload_n 0, 1) := by decide +kernel
theorem d_Mo_isShort_56 : decode b_Mo_isShort 56 = .ok (.iload_n 1, 1) := by decide +kernel
theorem d_Mo_isShort_57 : decode b_Mo_isShort 57 = .ok (.iload 4, 2) := by decide +kernel
theorem d_Mo_isShort_59 : decode b_Mo_isShort 59 = .ok (.iadd, 1) := by decide +kernel
theorem d_Mo_isShort_60 : decode b_Mo_isShort 60 = .ok (.invokevirtual 103, 3) := by decide +kernel
theorem d_Mo_isShort_63 : decode b_Mo_isShort 63 = .ok (.invokestatic 237, 3) := by decide +kernel
theorem d_Mo_isShort_66 : decode b_Mo_isShort 66 = .ok (.ifCond .eq 7, 3) := by decide +kernel
theorem d_Mo_isShort_69 : decode b_Mo_isShort 69 = .ok (.iconst 1, 1) := by decide +kernel
theorem d_Mo_isShort_70 : decode b_Mo_isShort 70 = .ok (.goto 4, 3) := by decide +kernel
theorem d_Mo_isShort_73 : decode b_Mo_isShort 73 = .ok (.iconst 0, 1) := by decide +kernel
theorem d_Mo_isShort_74 : decode b_Mo_isShort 74 = .ok (.istore_n 3, 1) := by decide +kernel
theorem d_Mo_isShort_75 : decode b_Mo_isShort 75 = .ok (.iload_n 3, 1) := by decide +kernel
theorem d_Mo_isShort_76 : decode b_Mo_isShort 76 = .ok (.ifCond .eq 43, 3) := by decide +kernel
theorem d_Mo_isShort_79 : decode b_Mo_isShort 79 = .ok (.iload_n 2, 1) := by decide +kernel
theorem d_Mo_isShort_80 : decode b_Mo_isShort 80 = .ok (.ifCond .ne 35, 3) := by decide +kernel
theorem d_Mo_isShort_83 : decode b_Mo_isShort 83 = .ok (.iload 4, 2) := by decide +kernel
theorem d_Mo_isShort_85 : decode b_Mo_isShort 85 = .ok (.ifCond .eq 30, 3) := by decide +kernel
theorem d_Mo_isShort_88 : decode b_Mo_isShort 88 = .ok (.iload 4, 2) := by decide +kernel
theorem d_Mo_isShort_90 : decode b_Mo_isShort 90 = .ok (.bipush 8, 2) := by decide +kernel
theorem d_Mo_isShort_92 : decode b_Mo_isShort 92 = .ok (.if_icmp .eq 23, 3) := by decide +kernel
theorem d_Mo_isShort_95 : decode b_Mo_isShort 95 = .ok (.iload 5, 2) := by decide +kernel
theorem d_Mo_isShort_97 : decode b_Mo_isShort 97 = .ok (.ifCond .ne 18, 3) := by decide +kernel
theorem d_Mo_isShort_100 : decode b_Mo_isShort 100 = .ok (.aload_n 0, 1) := by decide +kernel
theorem d_Mo_isShort_101 : decode b_Mo_isShort 101 = .ok (.iload_n 1, 1) := by decide +kernel
theorem d_Mo_isShort_102 : decode b_Mo_isShort 102 = .ok (.iload 4, 2) := by decide +kernel
theorem d_Mo_isShort_104 : decode b_Mo_isShort 104 = .ok (.iadd, 1) := by decide +kernel
theorem d_Mo_isShort_105 : decode b_Mo_isShort 105 = .ok (.iconst 1, 1) := by decide +kernel
theorem d_Mo_isShort_106 : decode b_Mo_isShort 106 = .ok (.isub, 1) := by decide +kernel
theorem d_Mo_isShort_107 : decode b_Mo_isShort 107 = .ok (.invokevirtual 103, 3) := by decide +kernel
theorem d_Mo_isShort_110 : decode b_Mo_isShort 110 = .ok (.bipush 32, 2) := by decide +kernel
theorem d_Mo_isShort_112 : decode b_Mo_isShort 112 = .ok (.if_icmp .eq 7, 3) := by decide +kernel
theorem d_Mo_isShort_115 : decode b_Mo_isShort 115 = .ok (.iconst 1, 1) := by decide +kernel
theorem d_Mo_isShort_116 : decode b_Mo_isShort 116 = .ok (.goto 4, 3) := by decide +kernel
theorem d_Mo_isShort_119 : decode b_Mo_isShort 119 = .ok (.iconst 0, 1) := by decide +kernel
theorem d_Mo_isShort_120 : decode b_Mo_isShort 120 = .ok (.istore_n 3, 1) := by decide +kernel
theorem d_Mo_isShort_121 : decode b_Mo_isShort 121 = .ok (.iinc 4 1, 3) := by decide +kernel
theorem d_Mo_isShort_124 : decode b_Mo_isShort 124 = .ok (.goto (-105), 3) := by decide +kernel
theorem d_Mo_isShort_127 : decode b_Mo_isShort 127 = .ok (.iload_n 3, 1) := by decide +kernel
theorem d_Mo_isShort_128 : decode b_Mo_isShort 128 = .ok (.ireturn, 1) := by decide +kernel
theorem d_Mo_isLeap_0 : decode b_Mo_isLeap 0 = .ok (.iload_n 0, 1) := by decide +kernel
theorem d_Mo_isLeap_1 : decode b_Mo_isLeap 1 = .ok (.iconst 4, 1) := by decide +kernel
theorem d_Mo_isLeap_2 : decode b_Mo_isLeap 2 = .ok (.irem, 1) := by decide +kernel
theorem d_Mo_isLeap_3 : decode b_Mo_isLeap 3 = .ok (.ifCond .ne 22, 3) := by decide +kernel
theorem d_Mo_isLeap_6 : decode b_Mo_isLeap 6 = .ok (.iload_n 0, 1) := by decide +kernel
theorem d_Mo_isLeap_7 : decode b_Mo_isLeap 7 = .ok (.bipush 100, 2) := by decide +kernel
theorem d_Mo_isLeap_9 : decode b_Mo_isLeap 9 = .ok (.irem, 1) := by decide +kernel
theorem d_Mo_isLeap_10 : decode b_Mo_isLeap 10 = .ok (.ifCond .ne 11, 3) := by decide +kernel
theorem d_Mo_isLeap_13 : decode b_Mo_isLeap 13 = .ok (.iload_n 0, 1) := by decide +kernel
theorem d_Mo_isLeap_14 : decode b_Mo_isLeap 14 = .ok (.sipush 400, 3) := by decide +kernel
theorem d_Mo_isLeap_17 : decode b_Mo_isLeap 17 = .ok (.irem, 1) := by decide +kernel
theorem d_Mo_isLeap_18 : decode b_Mo_isLeap 18 = .ok (.ifCond .ne 7, 3) := by decide +kernel
theorem d_Mo_isLeap_21 : decode b_Mo_isLeap 21 = .ok (.iconst 1, 1) := by decide +kernel
theorem d_Mo_isLeap_22 : decode b_Mo_isLeap 22 = .ok (.goto 4, 3) := by decide +kernel
theorem d_Mo_isLeap_25 : decode b_Mo_isLeap 25 = .ok (.iconst 0, 1) := by decide +kernel
theorem d_Mo_isLeap_26 : decode b_Mo_isLeap 26 = .ok (.ireturn, 1) := by decide +kernel
theorem d_Mo_daysOf_0 : decode b_Mo_daysOf 0 = .ok (.iload_n 0, 1) := by decide +kernel
theorem d_Mo_daysOf_1 : decode b_Mo_daysOf 1 = .ok (.iconst 2, 1) := by decide +kernel
theorem d_Mo_daysOf_2 : decode b_Mo_daysOf 2 = .ok (.if_icmp .ne 20, 3) := by decide +kernel
theorem d_Mo_daysOf_5 : decode b_Mo_daysOf 5 = .ok (.iload_n 1, 1) := by decide +kernel
theorem d_Mo_daysOf_6 : decode b_Mo_daysOf 6 = .ok (.invokestatic 240, 3) := by decide +kernel
theorem d_Mo_daysOf_9 : decode b_Mo_daysOf 9 = .ok (.ifCond .eq 8, 3) := by decide +kernel
theorem d_Mo_daysOf_12 : decode b_Mo_daysOf 12 = .ok (.bipush 29, 2) := by decide +kernel
theorem d_Mo_daysOf_14 : decode b_Mo_daysOf 14 = .ok (.goto 38, 3) := by decide +kernel
theorem d_Mo_daysOf_17 : decode b_Mo_daysOf 17 = .ok (.bipush 28, 2) := by decide +kernel
theorem d_Mo_daysOf_19 : decode b_Mo_daysOf 19 = .ok (.goto 33, 3) := by decide +kernel
theorem d_Mo_daysOf_22 : decode b_Mo_daysOf 22 = .ok (.iload_n 0, 1) := by decide +kernel
theorem d_Mo_daysOf_23 : decode b_Mo_daysOf 23 = .ok (.iconst 4, 1) := by decide +kernel
theorem d_Mo_daysOf_24 : decode b_Mo_daysOf 24 = .ok (.if_icmp .eq 21, 3) := by decide +kernel
theorem d_Mo_daysOf_27 : decode b_Mo_daysOf 27 = .ok (.iload_n 0, 1) := by decide +kernel
theorem d_Mo_daysOf_28 : decode b_Mo_daysOf 28 = .ok (.bipush 6, 2) := by decide +kernel
theorem d_Mo_daysOf_30 : decode b_Mo_daysOf 30 = .ok (.if_icmp .eq 15, 3) := by decide +kernel
theorem d_Mo_daysOf_33 : decode b_Mo_daysOf 33 = .ok (.iload_n 0, 1) := by decide +kernel
theorem d_Mo_daysOf_34 : decode b_Mo_daysOf 34 = .ok (.bipush 9, 2) := by decide +kernel
theorem d_Mo_daysOf_36 : decode b_Mo_daysOf 36 = .ok (.if_icmp .eq 9, 3) := by decide +kernel
theorem d_Mo_daysOf_39 : decode b_Mo_daysOf 39 = .ok (.iload_n 0, 1) := by decide +kernel
theorem d_Mo_daysOf_40 : decode b_Mo_daysOf 40 = .ok (.bipush 11, 2) := by decide +kernel
theorem d_Mo_daysOf_42 : decode b_Mo_daysOf 42 = .ok (.if_icmp .ne 8, 3) := by decide +kernel
theorem d_Mo_daysOf_45 : decode b_Mo_daysOf 45 = .ok (.bipush 30, 2) := by decide +kernel
theorem d_Mo_daysOf_47 : decode b_Mo_daysOf 47 = .ok (.goto 5, 3) := by decide +kernel
theorem d_Mo_daysOf_50 : decode b_Mo_daysOf 50 = .ok (.bipush 31, 2) := by decide +kernel
theorem d_Mo_daysOf_52 : decode b_Mo_daysOf 52 = .ok (.ireturn, 1) := by decide +kernel
theorem d_Mo_isDay_0 : decode b_Mo_isDay 0 = .ok (.iload_n 0, 1) := by decide +kernel
theorem d_Mo_isDay_1 : decode b_Mo_isDay 1 = .ok (.iconst 5, 1) := by decide +kernel
theorem d_Mo_isDay_2 : decode b_Mo_isDay 2 = .ok (.ishr, 1) := by decide +kernel
theorem d_Mo_isDay_3 : decode b_Mo_isDay 3 = .ok (.bipush 15, 2) := by decide +kernel
theorem d_Mo_isDay_5 : decode b_Mo_isDay 5 = .ok (.iand, 1) := by decide +kernel
theorem d_Mo_isDay_6 : decode b_Mo_isDay 6 = .ok (.istore_n 1, 1) := by decide +kernel
theorem d_Mo_isDay_7 : decode b_Mo_isDay 7 = .ok (.iload_n 0, 1) := by decide +kernel
theorem d_Mo_isDay_8 : decode b_Mo_isDay 8 = .ok (.ifCond .lt 51, 3) := by decide +kernel
theorem d_Mo_isDay_11 : decode b_Mo_isDay 11 = .ok (.iload_n 0, 1) := by decide +kernel
theorem d_Mo_isDay_12 : decode b_Mo_isDay 12 = .ok (.ldc 243, 2) := by decide +kernel
theorem d_Mo_isDay_14 : decode b_Mo_isDay 14 = .ok (.if_icmp .ge 45, 3) := by decide +kernel
theorem d_Mo_isDay_17 : decode b_Mo_isDay 17 = .ok (.iload_n 1, 1) := by decide +kernel
theorem d_Mo_isDay_18 : decode b_Mo_isDay 18 = .ok (.iconst 1, 1) := by decide +kernel
theorem d_Mo_isDay_19 : decode b_Mo_isDay 19 = .ok (.if_icmp .lt 40, 3) := by decide +kernel
theorem d_Mo_isDay_22 : decode b_Mo_isDay 22 = .ok (.iload_n 1, 1) := by decide +kernel
theorem d_Mo_isDay_23 : decode b_Mo_isDay 23 = .ok (.bipush 12, 2) := by decide +kernel
theorem d_Mo_isDay_25 : decode b_Mo_isDay 25 = .ok (.if_icmp .gt 34, 3) := by decide +kernel
theorem d_Mo_isDay_28 : decode b_Mo_isDay 28 = .ok (.iload_n 0, 1) := by decide +kernel
theorem d_Mo_isDay_29 : decode b_Mo_isDay 29 = .ok (.bipush 31, 2) := by decide +kernel
theorem d_Mo_isDay_31 : decode b_Mo_isDay 31 = .ok (.iand, 1) := by decide +kernel
theorem d_Mo_isDay_32 : decode b_Mo_isDay 32 = .ok (.iconst 1, 1) := by decide +kernel
theorem d_Mo_isDay_33 : decode b_Mo_isDay 33 = .ok (.if_icmp .lt 26, 3) := by decide +kernel
theorem d_Mo_isDay_36 : decode b_Mo_isDay 36 = .ok (.iload_n 0, 1) := by decide +kernel
theorem d_Mo_isDay_37 : decode b_Mo_isDay 37 = .ok (.bipush 31, 2) := by decide +kernel
theorem d_Mo_isDay_39 : decode b_Mo_isDay 39 = .ok (.iand, 1) := by decide +kernel
theorem d_Mo_isDay_40 : decode b_Mo_isDay 40 = .ok (.iload_n 1, 1) := by decide +kernel
theorem d_Mo_isDay_41 : decode b_Mo_isDay 41 = .ok (.sipush 1980, 3) := by decide +kernel
theorem d_Mo_isDay_44 : decode b_Mo_isDay 44 = .ok (.iload_n 0, 1) := by decide +kernel
theorem d_Mo_isDay_45 : decode b_Mo_isDay 45 = .ok (.bipush 9, 2) := by decide +kernel
theorem d_Mo_isDay_47 : decode b_Mo_isDay 47 = .ok (.ishr, 1) := by decide +kernel
theorem d_Mo_isDay_48 : decode b_Mo_isDay 48 = .ok (.iadd, 1) := by decide +kernel
theorem d_Mo_isDay_49 : decode b_Mo_isDay 49 = .ok (.invokestatic 244, 3) := by decide +kernel
theorem d_Mo_isDay_52 : decode b_Mo_isDay 52 = .ok (.if_icmp .gt 7, 3) := by decide +kernel
theorem d_Mo_isDay_55 : decode b_Mo_isDay 55 = .ok (.iconst 1, 1) := by decide +kernel
theorem d_Mo_isDay_56 : decode b_Mo_isDay 56 = .ok (.goto 4, 3) := by decide +kernel
theorem d_Mo_isDay_59 : decode b_Mo_isDay 59 = .ok (.iconst 0, 1) := by decide +kernel
theorem d_Mo_isDay_60 : decode b_Mo_isDay 60 = .ok (.ireturn, 1) := by decide +kernel
theorem d_Mo_isTime_0 : decode b_Mo_isTime 0 = .ok (.iload_n 0, 1) := by decide +kernel
theorem d_Mo_isTime_1 : decode b_Mo_isTime 1 = .ok (.ifCond .lt 36, 3) := by decide +kernel
theorem d_Mo_isTime_4 : decode b_Mo_isTime 4 = .ok (.iload_n 0, 1) := by decide +kernel
theorem d_Mo_isTime_5 : decode b_Mo_isTime 5 = .ok (.bipush 11, 2) := by decide +kernel
theorem d_Mo_isTime_7 : decode b_Mo_isTime 7 = .ok (.ishr, 1) := by decide +kernel
theorem d_Mo_isTime_8 : decode b_Mo_isTime 8 = .ok (.bipush 24, 2) := by decide +kernel
theorem d_Mo_isTime_10 : decode b_Mo_isTime 10 = .ok (.if_icmp .ge 27, 3) := by decide +kernel
theorem d_Mo_isTime_13 : decode b_Mo_isTime 13 = .ok (.iload_n 0, 1) := by decide +kernel
theorem d_Mo_isTime_14 : decode b_Mo_isTime 14 = .ok (.iconst 5, 1) := by decide +kernel
theorem d_Mo_isTime_15 : decode b_Mo_isTime 15 = .ok (.ishr, 1) := by decide +kernel
theorem d_Mo_isTime_16 : decode b_Mo_isTime 16 = .ok (.bipush 63, 2) := by decide +kernel
theorem d_Mo_isTime_18 : decode b_Mo_isTime 18 = .ok (.iand, 1) := by decide +kernel
theorem d_Mo_isTime_19 : decode b_Mo_isTime 19 = .ok (.bipush 60, 2) := by decide +kernel
theorem d_Mo_isTime_21 : decode b_Mo_isTime 21 = .ok (.if_icmp .ge 16, 3) := by decide +kernel
theorem d_Mo_isTime_24 : decode b_Mo_isTime 24 = .ok (.iload_n 0, 1) := by decide +kernel
theorem d_Mo_isTime_25 : decode b_Mo_isTime 25 = .ok (.bipush 31, 2) := by decide +kernel
theorem d_Mo_isTime_27 : decode b_Mo_isTime 27 = .ok (.iand, 1) := by decide +kernel
theorem d_Mo_isTime_28 : decode b_Mo_isTime 28 = .ok (.bipush 30, 2) := by decide +kernel
theorem d_Mo_isTime_30 : decode b_Mo_isTime 30 = .ok (.if_icmp .ge 7, 3) := by decide +kernel
theorem d_Mo_isTime_33 : decode b_Mo_isTime 33 = .ok (.iconst 1, 1) := by decide +kernel
theorem d_Mo_isTime_34 : decode b_Mo_isTime 34 = .ok (.goto 4, 3) := by decide +kernel
theorem d_Mo_isTime_37 : decode b_Mo_isTime 37 = .ok (.iconst 0, 1) := by decide +kernel
theorem d_Mo_isTime_38 : decode b_Mo_isTime 38 = .ok (.ireturn, 1) := by decide +kernel
theorem d_Mo_isMade_0 : decode b_Mo_isMade 0 = .ok (.iload_n 0, 1) := by decide +kernel
theorem d_Mo_isMade_1 : decode b_Mo_isMade 1 = .ok (.ifCond .ne 19, 3) := by decide +kernel
theorem d_Mo_isMade_4 : decode b_Mo_isMade 4 = .ok (.iload_n 1, 1) := by decide +kernel
theorem d_Mo_isMade_5 : decode b_Mo_isMade 5 = .ok (.ifCond .ne 11, 3) := by decide +kernel
theorem d_Mo_isMade_8 : decode b_Mo_isMade 8 = .ok (.iload_n 2, 1) := by decide +kernel
theorem d_Mo_isMade_9 : decode b_Mo_isMade 9 = .ok (.ifCond .ne 7, 3) := by decide +kernel
theorem d_Mo_isMade_12 : decode b_Mo_isMade 12 = .ok (.iconst 1, 1) := by decide +kernel
theorem d_Mo_isMade_13 : decode b_Mo_isMade 13 = .ok (.goto 37, 3) := by decide +kernel
theorem d_Mo_isMade_16 : decode b_Mo_isMade 16 = .ok (.iconst 0, 1) := by decide +kernel
theorem d_Mo_isMade_17 : decode b_Mo_isMade 17 = .ok (.goto 33, 3) := by decide +kernel
theorem d_Mo_isMade_20 : decode b_Mo_isMade 20 = .ok (.iload_n 0, 1) := by decide +kernel
theorem d_Mo_isMade_21 : decode b_Mo_isMade 21 = .ok (.invokestatic 247, 3) := by decide +kernel
theorem d_Mo_isMade_24 : decode b_Mo_isMade 24 = .ok (.ifCond .eq 25, 3) := by decide +kernel
theorem d_Mo_isMade_27 : decode b_Mo_isMade 27 = .ok (.iload_n 1, 1) := by decide +kernel
theorem d_Mo_isMade_28 : decode b_Mo_isMade 28 = .ok (.invokestatic 250, 3) := by decide +kernel
theorem d_Mo_isMade_31 : decode b_Mo_isMade 31 = .ok (.ifCond .eq 18, 3) := by decide +kernel
theorem d_Mo_isMade_34 : decode b_Mo_isMade 34 = .ok (.iload_n 2, 1) := by decide +kernel
theorem d_Mo_isMade_35 : decode b_Mo_isMade 35 = .ok (.ifCond .lt 14, 3) := by decide +kernel
theorem d_Mo_isMade_38 : decode b_Mo_isMade 38 = .ok (.iload_n 2, 1) := by decide +kernel
theorem d_Mo_isMade_39 : decode b_Mo_isMade 39 = .ok (.sipush 200, 3) := by decide +kernel
theorem d_Mo_isMade_42 : decode b_Mo_isMade 42 = .ok (.if_icmp .ge 7, 3) := by decide +kernel
theorem d_Mo_isMade_45 : decode b_Mo_isMade 45 = .ok (.iconst 1, 1) := by decide +kernel
theorem d_Mo_isMade_46 : decode b_Mo_isMade 46 = .ok (.goto 4, 3) := by decide +kernel
theorem d_Mo_isMade_49 : decode b_Mo_isMade 49 = .ok (.iconst 0, 1) := by decide +kernel
theorem d_Mo_isMade_50 : decode b_Mo_isMade 50 = .ok (.ireturn, 1) := by decide +kernel
theorem d_Mo_areDays_0 : decode b_Mo_areDays 0 = .ok (.aload_n 0, 1) := by decide +kernel
theorem d_Mo_areDays_1 : decode b_Mo_areDays 1 = .ok (.iload_n 1, 1) := by decide +kernel
theorem d_Mo_areDays_2 : decode b_Mo_areDays 2 = .ok (.bipush 16, 2) := by decide +kernel
theorem d_Mo_areDays_4 : decode b_Mo_areDays 4 = .ok (.iadd, 1) := by decide +kernel
theorem d_Mo_areDays_5 : decode b_Mo_areDays 5 = .ok (.invokevirtual 107, 3) := by decide +kernel
theorem d_Mo_areDays_8 : decode b_Mo_areDays 8 = .ok (.aload_n 0, 1) := by decide +kernel
theorem d_Mo_areDays_9 : decode b_Mo_areDays 9 = .ok (.iload_n 1, 1) := by decide +kernel
theorem d_Mo_areDays_10 : decode b_Mo_areDays 10 = .ok (.bipush 14, 2) := by decide +kernel
theorem d_Mo_areDays_12 : decode b_Mo_areDays 12 = .ok (.iadd, 1) := by decide +kernel
theorem d_Mo_areDays_13 : decode b_Mo_areDays 13 = .ok (.invokevirtual 107, 3) := by decide +kernel
theorem d_Mo_areDays_16 : decode b_Mo_areDays 16 = .ok (.aload_n 0, 1) := by decide +kernel
theorem d_Mo_areDays_17 : decode b_Mo_areDays 17 = .ok (.iload_n 1, 1) := by decide +kernel
theorem d_Mo_areDays_18 : decode b_Mo_areDays 18 = .ok (.bipush 13, 2) := by decide +kernel
theorem d_Mo_areDays_20 : decode b_Mo_areDays 20 = .ok (.iadd, 1) := by decide +kernel
theorem d_Mo_areDays_21 : decode b_Mo_areDays 21 = .ok (.invokevirtual 103, 3) := by decide +kernel
theorem d_Mo_areDays_24 : decode b_Mo_areDays 24 = .ok (.invokestatic 253, 3) := by decide +kernel
theorem d_Mo_areDays_27 : decode b_Mo_areDays 27 = .ok (.ifCond .eq 60, 3) := by decide +kernel
theorem d_Mo_areDays_30 : decode b_Mo_areDays 30 = .ok (.aload_n 0, 1) := by decide +kernel
theorem d_Mo_areDays_31 : decode b_Mo_areDays 31 = .ok (.iload_n 1, 1) := by decide +kernel
theorem d_Mo_areDays_32 : decode b_Mo_areDays 32 = .ok (.bipush 18, 2) := by decide +kernel
theorem d_Mo_areDays_34 : decode b_Mo_areDays 34 = .ok (.iadd, 1) := by decide +kernel
theorem d_Mo_areDays_35 : decode b_Mo_areDays 35 = .ok (.invokevirtual 107, 3) := by decide +kernel
theorem d_Mo_areDays_38 : decode b_Mo_areDays 38 = .ok (.ifCond .eq 17, 3) := by decide +kernel
theorem d_Mo_areDays_41 : decode b_Mo_areDays 41 = .ok (.aload_n 0, 1) := by decide +kernel
theorem d_Mo_areDays_42 : decode b_Mo_areDays 42 = .ok (.iload_n 1, 1) := by decide +kernel
theorem d_Mo_areDays_43 : decode b_Mo_areDays 43 = .ok (.bipush 18, 2) := by decide +kernel
theorem d_Mo_areDays_45 : decode b_Mo_areDays 45 = .ok (.iadd, 1) := by decide +kernel
theorem d_Mo_areDays_46 : decode b_Mo_areDays 46 = .ok (.invokevirtual 107, 3) := by decide +kernel
theorem d_Mo_areDays_49 : decode b_Mo_areDays 49 = .ok (.invokestatic 247, 3) := by decide +kernel
theorem d_Mo_areDays_52 : decode b_Mo_areDays 52 = .ok (.ifCond .eq 35, 3) := by decide +kernel
theorem d_Mo_areDays_55 : decode b_Mo_areDays 55 = .ok (.aload_n 0, 1) := by decide +kernel
theorem d_Mo_areDays_56 : decode b_Mo_areDays 56 = .ok (.iload_n 1, 1) := by decide +kernel
theorem d_Mo_areDays_57 : decode b_Mo_areDays 57 = .ok (.bipush 24, 2) := by decide +kernel
theorem d_Mo_areDays_59 : decode b_Mo_areDays 59 = .ok (.iadd, 1) := by decide +kernel
theorem d_Mo_areDays_60 : decode b_Mo_areDays 60 = .ok (.invokevirtual 107, 3) := by decide +kernel
theorem d_Mo_areDays_63 : decode b_Mo_areDays 63 = .ok (.invokestatic 247, 3) := by decide +kernel
theorem d_Mo_areDays_66 : decode b_Mo_areDays 66 = .ok (.ifCond .eq 21, 3) := by decide +kernel
theorem d_Mo_areDays_69 : decode b_Mo_areDays 69 = .ok (.aload_n 0, 1) := by decide +kernel
theorem d_Mo_areDays_70 : decode b_Mo_areDays 70 = .ok (.iload_n 1, 1) := by decide +kernel
theorem d_Mo_areDays_71 : decode b_Mo_areDays 71 = .ok (.bipush 22, 2) := by decide +kernel
theorem d_Mo_areDays_73 : decode b_Mo_areDays 73 = .ok (.iadd, 1) := by decide +kernel
theorem d_Mo_areDays_74 : decode b_Mo_areDays 74 = .ok (.invokevirtual 107, 3) := by decide +kernel
theorem d_Mo_areDays_77 : decode b_Mo_areDays 77 = .ok (.invokestatic 250, 3) := by decide +kernel
theorem d_Mo_areDays_80 : decode b_Mo_areDays 80 = .ok (.ifCond .eq 7, 3) := by decide +kernel
theorem d_Mo_areDays_83 : decode b_Mo_areDays 83 = .ok (.iconst 1, 1) := by decide +kernel
theorem d_Mo_areDays_84 : decode b_Mo_areDays 84 = .ok (.goto 4, 3) := by decide +kernel
theorem d_Mo_areDays_87 : decode b_Mo_areDays 87 = .ok (.iconst 0, 1) := by decide +kernel
theorem d_Mo_areDays_88 : decode b_Mo_areDays 88 = .ok (.ireturn, 1) := by decide +kernel
theorem d_Mo_sumOf_0 : decode b_Mo_sumOf 0 = .ok (.iconst 0, 1) := by decide +kernel
theorem d_Mo_sumOf_1 : decode b_Mo_sumOf 1 = .ok (.istore_n 2, 1) := by decide +kernel
theorem d_Mo_sumOf_2 : decode b_Mo_sumOf 2 = .ok (.iconst 0, 1) := by decide +kernel
theorem d_Mo_sumOf_3 : decode b_Mo_sumOf 3 = .ok (.istore_n 3, 1) := by decide +kernel
theorem d_Mo_sumOf_4 : decode b_Mo_sumOf 4 = .ok (.iload_n 3, 1) := by decide +kernel
theorem d_Mo_sumOf_5 : decode b_Mo_sumOf 5 = .ok (.bipush 11, 2) := by decide +kernel
theorem d_Mo_sumOf_7 : decode b_Mo_sumOf 7 = .ok (.if_icmp .ge 33, 3) := by decide +kernel
theorem d_Mo_sumOf_10 : decode b_Mo_sumOf 10 = .ok (.iload_n 2, 1) := by decide +kernel
theorem d_Mo_sumOf_11 : decode b_Mo_sumOf 11 = .ok (.iconst 1, 1) := by decide +kernel
theorem d_Mo_sumOf_12 : decode b_Mo_sumOf 12 = .ok (.iand, 1) := by decide +kernel
theorem d_Mo_sumOf_13 : decode b_Mo_sumOf 13 = .ok (.sipush 128, 3) := by decide +kernel
theorem d_Mo_sumOf_16 : decode b_Mo_sumOf 16 = .ok (.imul, 1) := by decide +kernel
theorem d_Mo_sumOf_17 : decode b_Mo_sumOf 17 = .ok (.iload_n 2, 1) := by decide +kernel
theorem d_Mo_sumOf_18 : decode b_Mo_sumOf 18 = .ok (.iconst 1, 1) := by decide +kernel
theorem d_Mo_sumOf_19 : decode b_Mo_sumOf 19 = .ok (.ishr, 1) := by decide +kernel
theorem d_Mo_sumOf_20 : decode b_Mo_sumOf 20 = .ok (.iadd, 1) := by decide +kernel
theorem d_Mo_sumOf_21 : decode b_Mo_sumOf 21 = .ok (.aload_n 0, 1) := by decide +kernel
theorem d_Mo_sumOf_22 : decode b_Mo_sumOf 22 = .ok (.iload_n 1, 1) := by decide +kernel
theorem d_Mo_sumOf_23 : decode b_Mo_sumOf 23 = .ok (.iload_n 3, 1) := by decide +kernel
theorem d_Mo_sumOf_24 : decode b_Mo_sumOf 24 = .ok (.iadd, 1) := by decide +kernel
theorem d_Mo_sumOf_25 : decode b_Mo_sumOf 25 = .ok (.invokevirtual 103, 3) := by decide +kernel
theorem d_Mo_sumOf_28 : decode b_Mo_sumOf 28 = .ok (.iadd, 1) := by decide +kernel
theorem d_Mo_sumOf_29 : decode b_Mo_sumOf 29 = .ok (.sipush 255, 3) := by decide +kernel
theorem d_Mo_sumOf_32 : decode b_Mo_sumOf 32 = .ok (.iand, 1) := by decide +kernel
theorem d_Mo_sumOf_33 : decode b_Mo_sumOf 33 = .ok (.istore_n 2, 1) := by decide +kernel
theorem d_Mo_sumOf_34 : decode b_Mo_sumOf 34 = .ok (.iinc 3 1, 3) := by decide +kernel
theorem d_Mo_sumOf_37 : decode b_Mo_sumOf 37 = .ok (.goto (-33), 3) := by decide +kernel
theorem d_Mo_sumOf_40 : decode b_Mo_sumOf 40 = .ok (.iload_n 2, 1) := by decide +kernel
theorem d_Mo_sumOf_41 : decode b_Mo_sumOf 41 = .ok (.ireturn, 1) := by decide +kernel
theorem d_Mo_shown_0 : decode b_Mo_shown 0 = .ok (.aload_n 0, 1) := by decide +kernel
theorem d_Mo_shown_1 : decode b_Mo_shown 1 = .ok (.iconst 0, 1) := by decide +kernel
theorem d_Mo_shown_2 : decode b_Mo_shown 2 = .ok (.putfield 224, 3) := by decide +kernel
theorem d_Mo_shown_5 : decode b_Mo_shown 5 = .ok (.iconst 0, 1) := by decide +kernel
theorem d_Mo_shown_6 : decode b_Mo_shown 6 = .ok (.istore_n 2, 1) := by decide +kernel
theorem d_Mo_shown_7 : decode b_Mo_shown 7 = .ok (.iload_n 2, 1) := by decide +kernel
theorem d_Mo_shown_8 : decode b_Mo_shown 8 = .ok (.bipush 11, 2) := by decide +kernel
theorem d_Mo_shown_10 : decode b_Mo_shown 10 = .ok (.if_icmp .ge 91, 3) := by decide +kernel
theorem d_Mo_shown_13 : decode b_Mo_shown 13 = .ok (.iload_n 2, 1) := by decide +kernel
theorem d_Mo_shown_14 : decode b_Mo_shown 14 = .ok (.bipush 8, 2) := by decide +kernel
theorem d_Mo_shown_16 : decode b_Mo_shown 16 = .ok (.if_icmp .ne 37, 3) := by decide +kernel
theorem d_Mo_shown_19 : decode b_Mo_shown 19 = .ok (.aload_n 0, 1) := by decide +kernel
theorem d_Mo_shown_20 : decode b_Mo_shown 20 = .ok (.iload_n 1, 1) := by decide +kernel
theorem d_Mo_shown_21 : decode b_Mo_shown 21 = .ok (.bipush 8, 2) := by decide +kernel
theorem d_Mo_shown_23 : decode b_Mo_shown 23 = .ok (.iadd, 1) := by decide +kernel
theorem d_Mo_shown_24 : decode b_Mo_shown 24 = .ok (.invokevirtual 103, 3) := by decide +kernel
theorem d_Mo_shown_27 : decode b_Mo_shown 27 = .ok (.bipush 32, 2) := by decide +kernel
theorem d_Mo_shown_29 : decode b_Mo_shown 29 = .ok (.if_icmp .eq 24, 3) := by decide +kernel
theorem d_Mo_shown_32 : decode b_Mo_shown 32 = .ok (.aload_n 0, 1) := by decide +kernel
theorem d_Mo_shown_33 : decode b_Mo_shown 33 = .ok (.getfield 63, 3) := by decide +kernel
theorem d_Mo_shown_36 : decode b_Mo_shown 36 = .ok (.aload_n 0, 1) := by decide +kernel
theorem d_Mo_shown_37 : decode b_Mo_shown 37 = .ok (.getfield 224, 3) := by decide +kernel
theorem d_Mo_shown_40 : decode b_Mo_shown 40 = .ok (.bipush 46, 2) := by decide +kernel
theorem d_Mo_shown_42 : decode b_Mo_shown 42 = .ok (.castore, 1) := by decide +kernel
theorem d_Mo_shown_43 : decode b_Mo_shown 43 = .ok (.aload_n 0, 1) := by decide +kernel
theorem d_Mo_shown_44 : decode b_Mo_shown 44 = .ok (.dup, 1) := by decide +kernel
theorem d_Mo_shown_45 : decode b_Mo_shown 45 = .ok (.getfield 224, 3) := by decide +kernel
theorem d_Mo_shown_48 : decode b_Mo_shown 48 = .ok (.iconst 1, 1) := by decide +kernel
theorem d_Mo_shown_49 : decode b_Mo_shown 49 = .ok (.iadd, 1) := by decide +kernel
theorem d_Mo_shown_50 : decode b_Mo_shown 50 = .ok (.putfield 224, 3) := by decide +kernel
theorem d_Mo_shown_53 : decode b_Mo_shown 53 = .ok (.aload_n 0, 1) := by decide +kernel
theorem d_Mo_shown_54 : decode b_Mo_shown 54 = .ok (.iload_n 1, 1) := by decide +kernel
theorem d_Mo_shown_55 : decode b_Mo_shown 55 = .ok (.iload_n 2, 1) := by decide +kernel
theorem d_Mo_shown_56 : decode b_Mo_shown 56 = .ok (.iadd, 1) := by decide +kernel
theorem d_Mo_shown_57 : decode b_Mo_shown 57 = .ok (.invokevirtual 103, 3) := by decide +kernel
theorem d_Mo_shown_60 : decode b_Mo_shown 60 = .ok (.bipush 32, 2) := by decide +kernel
theorem d_Mo_shown_62 : decode b_Mo_shown 62 = .ok (.if_icmp .ne 6, 3) := by decide +kernel
theorem d_Mo_shown_65 : decode b_Mo_shown 65 = .ok (.goto 30, 3) := by decide +kernel
theorem d_Mo_shown_68 : decode b_Mo_shown 68 = .ok (.aload_n 0, 1) := by decide +kernel
theorem d_Mo_shown_69 : decode b_Mo_shown 69 = .ok (.getfield 63, 3) := by decide +kernel
theorem d_Mo_shown_72 : decode b_Mo_shown 72 = .ok (.aload_n 0, 1) := by decide +kernel
theorem d_Mo_shown_73 : decode b_Mo_shown 73 = .ok (.getfield 224, 3) := by decide +kernel
theorem d_Mo_shown_76 : decode b_Mo_shown 76 = .ok (.aload_n 0, 1) := by decide +kernel
theorem d_Mo_shown_77 : decode b_Mo_shown 77 = .ok (.iload_n 1, 1) := by decide +kernel
theorem d_Mo_shown_78 : decode b_Mo_shown 78 = .ok (.iload_n 2, 1) := by decide +kernel
theorem d_Mo_shown_79 : decode b_Mo_shown 79 = .ok (.iadd, 1) := by decide +kernel
theorem d_Mo_shown_80 : decode b_Mo_shown 80 = .ok (.invokevirtual 103, 3) := by decide +kernel
theorem d_Mo_shown_83 : decode b_Mo_shown 83 = .ok (.i2c, 1) := by decide +kernel
theorem d_Mo_shown_84 : decode b_Mo_shown 84 = .ok (.castore, 1) := by decide +kernel
theorem d_Mo_shown_85 : decode b_Mo_shown 85 = .ok (.aload_n 0, 1) := by decide +kernel
theorem d_Mo_shown_86 : decode b_Mo_shown 86 = .ok (.dup, 1) := by decide +kernel
theorem d_Mo_shown_87 : decode b_Mo_shown 87 = .ok (.getfield 224, 3) := by decide +kernel
theorem d_Mo_shown_90 : decode b_Mo_shown 90 = .ok (.iconst 1, 1) := by decide +kernel
theorem d_Mo_shown_91 : decode b_Mo_shown 91 = .ok (.iadd, 1) := by decide +kernel
theorem d_Mo_shown_92 : decode b_Mo_shown 92 = .ok (.putfield 224, 3) := by decide +kernel
theorem d_Mo_shown_95 : decode b_Mo_shown 95 = .ok (.iinc 2 1, 3) := by decide +kernel
theorem d_Mo_shown_98 : decode b_Mo_shown 98 = .ok (.goto (-91), 3) := by decide +kernel
theorem d_Mo_shown_101 : decode b_Mo_shown 101 = .ok (.return_, 1) := by decide +kernel
theorem d_Mo_said_0 : decode b_Mo_said 0 = .ok (.aload_n 0, 1) := by decide +kernel
theorem d_Mo_said_1 : decode b_Mo_said 1 = .ok (.getfield 224, 3) := by decide +kernel
theorem d_Mo_said_4 : decode b_Mo_said 4 = .ok (.istore_n 1, 1) := by decide +kernel
theorem d_Mo_said_5 : decode b_Mo_said 5 = .ok (.iconst 0, 1) := by decide +kernel
theorem d_Mo_said_6 : decode b_Mo_said 6 = .ok (.istore_n 2, 1) := by decide +kernel
theorem d_Mo_said_7 : decode b_Mo_said 7 = .ok (.iload_n 2, 1) := by decide +kernel
theorem d_Mo_said_8 : decode b_Mo_said 8 = .ok (.iload_n 1, 1) := by decide +kernel
theorem d_Mo_said_9 : decode b_Mo_said 9 = .ok (.if_icmp .ge 18, 3) := by decide +kernel
theorem d_Mo_said_12 : decode b_Mo_said 12 = .ok (.aload_n 0, 1) := by decide +kernel
theorem d_Mo_said_13 : decode b_Mo_said 13 = .ok (.getfield 63, 3) := by decide +kernel
theorem d_Mo_said_16 : decode b_Mo_said 16 = .ok (.iload_n 2, 1) := by decide +kernel
theorem d_Mo_said_17 : decode b_Mo_said 17 = .ok (.caload, 1) := by decide +kernel
theorem d_Mo_said_18 : decode b_Mo_said 18 = .ok (.ifCond .eq 9, 3) := by decide +kernel
theorem d_Mo_said_21 : decode b_Mo_said 21 = .ok (.iinc 2 1, 3) := by decide +kernel
theorem d_Mo_said_24 : decode b_Mo_said 24 = .ok (.goto (-17), 3) := by decide +kernel
theorem d_Mo_said_27 : decode b_Mo_said 27 = .ok (.aload_n 0, 1) := by decide +kernel
theorem d_Mo_said_28 : decode b_Mo_said 28 = .ok (.iload_n 2, 1) := by decide +kernel
theorem d_Mo_said_29 : decode b_Mo_said 29 = .ok (.putfield 224, 3) := by decide +kernel
theorem d_Mo_said_32 : decode b_Mo_said 32 = .ok (.iload_n 2, 1) := by decide +kernel
theorem d_Mo_said_33 : decode b_Mo_said 33 = .ok (.iconst 1, 1) := by decide +kernel
theorem d_Mo_said_34 : decode b_Mo_said 34 = .ok (.iadd, 1) := by decide +kernel
theorem d_Mo_said_35 : decode b_Mo_said 35 = .ok (.istore_n 3, 1) := by decide +kernel
theorem d_Mo_said_36 : decode b_Mo_said 36 = .ok (.iload_n 3, 1) := by decide +kernel
theorem d_Mo_said_37 : decode b_Mo_said 37 = .ok (.iload_n 1, 1) := by decide +kernel
theorem d_Mo_said_38 : decode b_Mo_said 38 = .ok (.if_icmp .ge 23, 3) := by decide +kernel
theorem d_Mo_said_41 : decode b_Mo_said 41 = .ok (.aload_n 0, 1) := by decide +kernel
theorem d_Mo_said_42 : decode b_Mo_said 42 = .ok (.getfield 63, 3) := by decide +kernel
theorem d_Mo_said_45 : decode b_Mo_said 45 = .ok (.iload_n 3, 1) := by decide +kernel
theorem d_Mo_said_46 : decode b_Mo_said 46 = .ok (.caload, 1) := by decide +kernel
theorem d_Mo_said_47 : decode b_Mo_said 47 = .ok (.ldc_w 261, 3) := by decide +kernel
theorem d_Mo_said_50 : decode b_Mo_said 50 = .ok (.if_icmp .eq 5, 3) := by decide +kernel
theorem d_Mo_said_53 : decode b_Mo_said 53 = .ok (.iconst 0, 1) := by decide +kernel
theorem d_Mo_said_54 : decode b_Mo_said 54 = .ok (.ireturn, 1) := by decide +kernel
theorem d_Mo_said_55 : decode b_Mo_said 55 = .ok (.iinc 3 1, 3) := by decide +kernel
theorem d_Mo_said_58 : decode b_Mo_said 58 = .ok (.goto (-22), 3) := by decide +kernel
theorem d_Mo_said_61 : decode b_Mo_said 61 = .ok (.aload_n 0, 1) := by decide +kernel
theorem d_Mo_said_62 : decode b_Mo_said 62 = .ok (.getfield 224, 3) := by decide +kernel
theorem d_Mo_said_65 : decode b_Mo_said 65 = .ok (.bipush 13, 2) := by decide +kernel
theorem d_Mo_said_67 : decode b_Mo_said 67 = .ok (.invokestatic 262, 3) := by decide +kernel
theorem d_Mo_said_70 : decode b_Mo_said 70 = .ok (.bipush 13, 2) := by decide +kernel
theorem d_Mo_said_72 : decode b_Mo_said 72 = .ok (.imul, 1) := by decide +kernel
theorem d_Mo_said_73 : decode b_Mo_said 73 = .ok (.iload_n 1, 1) := by decide +kernel
theorem d_Mo_said_74 : decode b_Mo_said 74 = .ok (.if_icmp .ne 14, 3) := by decide +kernel
theorem d_Mo_said_77 : decode b_Mo_said 77 = .ok (.aload_n 0, 1) := by decide +kernel
theorem d_Mo_said_78 : decode b_Mo_said 78 = .ok (.invokevirtual 265, 3) := by decide +kernel
theorem d_Mo_said_81 : decode b_Mo_said 81 = .ok (.ifCond .eq 7, 3) := by decide +kernel
theorem d_Mo_said_84 : decode b_Mo_said 84 = .ok (.iconst 1, 1) := by decide +kernel
theorem d_Mo_said_85 : decode b_Mo_said 85 = .ok (.goto 4, 3) := by decide +kernel
theorem d_Mo_said_88 : decode b_Mo_said 88 = .ok (.iconst 0, 1) := by decide +kernel
theorem d_Mo_said_89 : decode b_Mo_said 89 = .ok (.ireturn, 1) := by decide +kernel
theorem d_Mo_capital_0 : decode b_Mo_capital 0 = .ok (.iload_n 0, 1) := by decide +kernel
theorem d_Mo_capital_1 : decode b_Mo_capital 1 = .ok (.bipush 97, 2) := by decide +kernel
theorem d_Mo_capital_3 : decode b_Mo_capital 3 = .ok (.if_icmp .lt 16, 3) := by decide +kernel
theorem d_Mo_capital_6 : decode b_Mo_capital 6 = .ok (.iload_n 0, 1) := by decide +kernel
theorem d_Mo_capital_7 : decode b_Mo_capital 7 = .ok (.bipush 122, 2) := by decide +kernel
theorem d_Mo_capital_9 : decode b_Mo_capital 9 = .ok (.if_icmp .gt 10, 3) := by decide +kernel
theorem d_Mo_capital_12 : decode b_Mo_capital 12 = .ok (.iload_n 0, 1) := by decide +kernel
theorem d_Mo_capital_13 : decode b_Mo_capital 13 = .ok (.bipush 32, 2) := by decide +kernel
theorem d_Mo_capital_15 : decode b_Mo_capital 15 = .ok (.isub, 1) := by decide +kernel
theorem d_Mo_capital_16 : decode b_Mo_capital 16 = .ok (.goto 4, 3) := by decide +kernel
theorem d_Mo_capital_19 : decode b_Mo_capital 19 = .ok (.iload_n 0, 1) := by decide +kernel
theorem d_Mo_capital_20 : decode b_Mo_capital 20 = .ok (.ireturn, 1) := by decide +kernel
theorem d_Mo_isAlike_0 : decode b_Mo_isAlike 0 = .ok (.aload_n 0, 1) := by decide +kernel
theorem d_Mo_isAlike_1 : decode b_Mo_isAlike 1 = .ok (.getfield 49, 3) := by decide +kernel
theorem d_Mo_isAlike_4 : decode b_Mo_isAlike 4 = .ok (.iload_n 1, 1) := by decide +kernel
theorem d_Mo_isAlike_5 : decode b_Mo_isAlike 5 = .ok (.iaload, 1) := by decide +kernel
theorem d_Mo_isAlike_6 : decode b_Mo_isAlike 6 = .ok (.aload_n 0, 1) := by decide +kernel
theorem d_Mo_isAlike_7 : decode b_Mo_isAlike 7 = .ok (.getfield 224, 3) := by decide +kernel
theorem d_Mo_isAlike_10 : decode b_Mo_isAlike 10 = .ok (.if_icmp .ne 7, 3) := by decide +kernel
theorem d_Mo_isAlike_13 : decode b_Mo_isAlike 13 = .ok (.iconst 1, 1) := by decide +kernel
theorem d_Mo_isAlike_14 : decode b_Mo_isAlike 14 = .ok (.goto 4, 3) := by decide +kernel
theorem d_Mo_isAlike_17 : decode b_Mo_isAlike 17 = .ok (.iconst 0, 1) := by decide +kernel
theorem d_Mo_isAlike_18 : decode b_Mo_isAlike 18 = .ok (.istore_n 2, 1) := by decide +kernel
theorem d_Mo_isAlike_19 : decode b_Mo_isAlike 19 = .ok (.iconst 0, 1) := by decide +kernel
theorem d_Mo_isAlike_20 : decode b_Mo_isAlike 20 = .ok (.istore_n 3, 1) := by decide +kernel
theorem d_Mo_isAlike_21 : decode b_Mo_isAlike 21 = .ok (.iload_n 3, 1) := by decide +kernel
theorem d_Mo_isAlike_22 : decode b_Mo_isAlike 22 = .ok (.aload_n 0, 1) := by decide +kernel
theorem d_Mo_isAlike_23 : decode b_Mo_isAlike 23 = .ok (.getfield 224, 3) := by decide +kernel
theorem d_Mo_isAlike_26 : decode b_Mo_isAlike 26 = .ok (.if_icmp .ge 47, 3) := by decide +kernel
theorem d_Mo_isAlike_29 : decode b_Mo_isAlike 29 = .ok (.iload_n 2, 1) := by decide +kernel
theorem d_Mo_isAlike_30 : decode b_Mo_isAlike 30 = .ok (.ifCond .eq 43, 3) := by decide +kernel
theorem d_Mo_isAlike_33 : decode b_Mo_isAlike 33 = .ok (.aload_n 0, 1) := by decide +kernel
theorem d_Mo_isAlike_34 : decode b_Mo_isAlike 34 = .ok (.getfield 53, 3) := by decide +kernel
theorem d_Mo_isAlike_37 : decode b_Mo_isAlike 37 = .ok (.aload_n 0, 1) := by decide +kernel
theorem d_Mo_isAlike_38 : decode b_Mo_isAlike 38 = .ok (.getfield 46, 3) := by decide +kernel
theorem d_Mo_isAlike_41 : decode b_Mo_isAlike 41 = .ok (.iload_n 1, 1) := by decide +kernel
theorem d_Mo_isAlike_42 : decode b_Mo_isAlike 42 = .ok (.iaload, 1) := by decide +kernel
theorem d_Mo_isAlike_43 : decode b_Mo_isAlike 43 = .ok (.iload_n 3, 1) := by decide +kernel
theorem d_Mo_isAlike_44 : decode b_Mo_isAlike 44 = .ok (.iadd, 1) := by decide +kernel
theorem d_Mo_isAlike_45 : decode b_Mo_isAlike 45 = .ok (.caload, 1) := by decide +kernel
theorem d_Mo_isAlike_46 : decode b_Mo_isAlike 46 = .ok (.invokestatic 268, 3) := by decide +kernel
theorem d_Mo_isAlike_49 : decode b_Mo_isAlike 49 = .ok (.aload_n 0, 1) := by decide +kernel
theorem d_Mo_isAlike_50 : decode b_Mo_isAlike 50 = .ok (.getfield 63, 3) := by decide +kernel
theorem d_Mo_isAlike_53 : decode b_Mo_isAlike 53 = .ok (.iload_n 3, 1) := by decide +kernel
theorem d_Mo_isAlike_54 : decode b_Mo_isAlike 54 = .ok (.caload, 1) := by decide +kernel
theorem d_Mo_isAlike_55 : decode b_Mo_isAlike 55 = .ok (.invokestatic 268, 3) := by decide +kernel
theorem d_Mo_isAlike_58 : decode b_Mo_isAlike 58 = .ok (.if_icmp .ne 7, 3) := by decide +kernel
theorem d_Mo_isAlike_61 : decode b_Mo_isAlike 61 = .ok (.iconst 1, 1) := by decide +kernel
theorem d_Mo_isAlike_62 : decode b_Mo_isAlike 62 = .ok (.goto 4, 3) := by decide +kernel
theorem d_Mo_isAlike_65 : decode b_Mo_isAlike 65 = .ok (.iconst 0, 1) := by decide +kernel
theorem d_Mo_isAlike_66 : decode b_Mo_isAlike 66 = .ok (.istore_n 2, 1) := by decide +kernel
theorem d_Mo_isAlike_67 : decode b_Mo_isAlike 67 = .ok (.iinc 3 1, 3) := by decide +kernel
theorem d_Mo_isAlike_70 : decode b_Mo_isAlike 70 = .ok (.goto (-49), 3) := by decide +kernel
theorem d_Mo_isAlike_73 : decode b_Mo_isAlike 73 = .ok (.iload_n 2, 1) := by decide +kernel
theorem d_Mo_isAlike_74 : decode b_Mo_isAlike 74 = .ok (.ireturn, 1) := by decide +kernel
theorem d_Mo_isTaken_0 : decode b_Mo_isTaken 0 = .ok (.iconst 0, 1) := by decide +kernel
theorem d_Mo_isTaken_1 : decode b_Mo_isTaken 1 = .ok (.istore_n 2, 1) := by decide +kernel
theorem d_Mo_isTaken_2 : decode b_Mo_isTaken 2 = .ok (.aload_n 0, 1) := by decide +kernel
theorem d_Mo_isTaken_3 : decode b_Mo_isTaken 3 = .ok (.getfield 43, 3) := by decide +kernel
theorem d_Mo_isTaken_6 : decode b_Mo_isTaken 6 = .ok (.iload_n 1, 1) := by decide +kernel
theorem d_Mo_isTaken_7 : decode b_Mo_isTaken 7 = .ok (.iaload, 1) := by decide +kernel
theorem d_Mo_isTaken_8 : decode b_Mo_isTaken 8 = .ok (.istore_n 3, 1) := by decide +kernel
theorem d_Mo_isTaken_9 : decode b_Mo_isTaken 9 = .ok (.iload_n 3, 1) := by decide +kernel
theorem d_Mo_isTaken_10 : decode b_Mo_isTaken 10 = .ok (.aload_n 0, 1) := by decide +kernel
theorem d_Mo_isTaken_11 : decode b_Mo_isTaken 11 = .ok (.getfield 43, 3) := by decide +kernel
theorem d_Mo_isTaken_14 : decode b_Mo_isTaken 14 = .ok (.iload_n 1, 1) := by decide +kernel
theorem d_Mo_isTaken_15 : decode b_Mo_isTaken 15 = .ok (.iaload, 1) := by decide +kernel
theorem d_Mo_isTaken_16 : decode b_Mo_isTaken 16 = .ok (.aload_n 0, 1) := by decide +kernel
theorem d_Mo_isTaken_17 : decode b_Mo_isTaken 17 = .ok (.getfield 40, 3) := by decide +kernel
theorem d_Mo_isTaken_20 : decode b_Mo_isTaken 20 = .ok (.iload_n 1, 1) := by decide +kernel
theorem d_Mo_isTaken_21 : decode b_Mo_isTaken 21 = .ok (.iaload, 1) := by decide +kernel
theorem d_Mo_isTaken_22 : decode b_Mo_isTaken 22 = .ok (.iadd, 1) := by decide +kernel
theorem d_Mo_isTaken_23 : decode b_Mo_isTaken 23 = .ok (.if_icmp .ge 19, 3) := by decide +kernel
theorem d_Mo_isTaken_26 : decode b_Mo_isTaken 26 = .ok (.iload_n 2, 1) := by decide +kernel
theorem d_Mo_isTaken_27 : decode b_Mo_isTaken 27 = .ok (.ifCond .ne 15, 3) := by decide +kernel
theorem d_Mo_isTaken_30 : decode b_Mo_isTaken 30 = .ok (.aload_n 0, 1) := by decide +kernel
theorem d_Mo_isTaken_31 : decode b_Mo_isTaken 31 = .ok (.iload_n 3, 1) := by decide +kernel
theorem d_Mo_isTaken_32 : decode b_Mo_isTaken 32 = .ok (.invokevirtual 271, 3) := by decide +kernel
theorem d_Mo_isTaken_35 : decode b_Mo_isTaken 35 = .ok (.istore_n 2, 1) := by decide +kernel
theorem d_Mo_isTaken_36 : decode b_Mo_isTaken 36 = .ok (.iinc 3 1, 3) := by decide +kernel
theorem d_Mo_isTaken_39 : decode b_Mo_isTaken 39 = .ok (.goto (-30), 3) := by decide +kernel
theorem d_Mo_isTaken_42 : decode b_Mo_isTaken 42 = .ok (.iload_n 2, 1) := by decide +kernel
theorem d_Mo_isTaken_43 : decode b_Mo_isTaken 43 = .ok (.ireturn, 1) := by decide +kernel
theorem d_Mo_adm_0 : decode b_Mo_adm 0 = .ok (.aload_n 0, 1) := by decide +kernel
theorem d_Mo_adm_1 : decode b_Mo_adm 1 = .ok (.iload_n 1, 1) := by decide +kernel
theorem d_Mo_adm_2 : decode b_Mo_adm 2 = .ok (.bipush 11, 2) := by decide +kernel
theorem d_Mo_adm_4 : decode b_Mo_adm 4 = .ok (.iadd, 1) := by decide +kernel
theorem d_Mo_adm_5 : decode b_Mo_adm 5 = .ok (.invokevirtual 103, 3) := by decide +kernel
theorem d_Mo_adm_8 : decode b_Mo_adm 8 = .ok (.istore 4, 2) := by decide +kernel
theorem d_Mo_adm_10 : decode b_Mo_adm 10 = .ok (.iload 4, 2) := by decide +kernel
theorem d_Mo_adm_12 : decode b_Mo_adm 12 = .ok (.bipush 63, 2) := by decide +kernel
theorem d_Mo_adm_14 : decode b_Mo_adm 14 = .ok (.if_icmp .gt 11, 3) := by decide +kernel
theorem d_Mo_adm_17 : decode b_Mo_adm 17 = .ok (.aload_n 0, 1) := by decide +kernel
theorem d_Mo_adm_18 : decode b_Mo_adm 18 = .ok (.iload_n 1, 1) := by decide +kernel
theorem d_Mo_adm_19 : decode b_Mo_adm 19 = .ok (.invokevirtual 274, 3) := by decide +kernel
theorem d_Mo_adm_22 : decode b_Mo_adm 22 = .ok (.ifCond .ne 5, 3) := by decide +kernel
theorem d_Mo_adm_25 : decode b_Mo_adm 25 = .ok (.iconst 4, 1) := by decide +kernel
theorem d_Mo_adm_26 : decode b_Mo_adm 26 = .ok (.ireturn, 1) := by decide +kernel
theorem d_Mo_adm_27 : decode b_Mo_adm 27 = .ok (.iload 4, 2) := by decide +kernel
theorem d_Mo_adm_29 : decode b_Mo_adm 29 = .ok (.bipush 8, 2) := by decide +kernel
theorem d_Mo_adm_31 : decode b_Mo_adm 31 = .ok (.iand, 1) := by decide +kernel
theorem d_Mo_adm_32 : decode b_Mo_adm 32 = .ok (.ifCond .eq 80, 3) := by decide +kernel
theorem d_Mo_adm_35 : decode b_Mo_adm 35 = .ok (.iload 4, 2) := by decide +kernel
theorem d_Mo_adm_37 : decode b_Mo_adm 37 = .ok (.bipush 16, 2) := by decide +kernel
theorem d_Mo_adm_39 : decode b_Mo_adm 39 = .ok (.iand, 1) := by decide +kernel
theorem d_Mo_adm_40 : decode b_Mo_adm 40 = .ok (.ifCond .ne 49, 3) := by decide +kernel
theorem d_Mo_adm_43 : decode b_Mo_adm 43 = .ok (.iload_n 2, 1) := by decide +kernel
theorem d_Mo_adm_44 : decode b_Mo_adm 44 = .ok (.ifCond .gt 45, 3) := by decide +kernel
theorem d_Mo_adm_47 : decode b_Mo_adm 47 = .ok (.aload_n 0, 1) := by decide +kernel
theorem d_Mo_adm_48 : decode b_Mo_adm 48 = .ok (.getfield 172, 3) := by decide +kernel
theorem d_Mo_adm_51 : decode b_Mo_adm 51 = .ok (.ifCond .ge 38, 3) := by decide +kernel
theorem d_Mo_adm_54 : decode b_Mo_adm 54 = .ok (.aload_n 0, 1) := by decide +kernel
theorem d_Mo_adm_55 : decode b_Mo_adm 55 = .ok (.getfield 204, 3) := by decide +kernel
theorem d_Mo_adm_58 : decode b_Mo_adm 58 = .ok (.ifCond .gt 31, 3) := by decide +kernel
theorem d_Mo_adm_61 : decode b_Mo_adm 61 = .ok (.aload_n 0, 1) := by decide +kernel
theorem d_Mo_adm_62 : decode b_Mo_adm 62 = .ok (.iload_n 1, 1) := by decide +kernel
theorem d_Mo_adm_63 : decode b_Mo_adm 63 = .ok (.invokevirtual 156, 3) := by decide +kernel
theorem d_Mo_adm_66 : decode b_Mo_adm 66 = .ok (.ifCond .ne 23, 3) := by decide +kernel
theorem d_Mo_adm_69 : decode b_Mo_adm 69 = .ok (.aload_n 0, 1) := by decide +kernel
theorem d_Mo_adm_70 : decode b_Mo_adm 70 = .ok (.iload_n 1, 1) := by decide +kernel
theorem d_Mo_adm_71 : decode b_Mo_adm 71 = .ok (.bipush 28, 2) := by decide +kernel
theorem d_Mo_adm_73 : decode b_Mo_adm 73 = .ok (.iadd, 1) := by decide +kernel
theorem d_Mo_adm_74 : decode b_Mo_adm 74 = .ok (.invokevirtual 120, 3) := by decide +kernel
theorem d_Mo_adm_77 : decode b_Mo_adm 77 = .ok (.ifCond .ne 12, 3) := by decide +kernel
theorem d_Mo_adm_80 : decode b_Mo_adm 80 = .ok (.aload_n 0, 1) := by decide +kernel
theorem d_Mo_adm_81 : decode b_Mo_adm 81 = .ok (.iload_n 1, 1) := by decide +kernel
theorem d_Mo_adm_82 : decode b_Mo_adm 82 = .ok (.iconst 1, 1) := by decide +kernel
theorem d_Mo_adm_83 : decode b_Mo_adm 83 = .ok (.invokevirtual 277, 3) := by decide +kernel
theorem d_Mo_adm_86 : decode b_Mo_adm 86 = .ok (.ifCond .ne 7, 3) := by decide +kernel
theorem d_Mo_adm_89 : decode b_Mo_adm 89 = .ok (.iconst 1, 1) := by decide +kernel
theorem d_Mo_adm_90 : decode b_Mo_adm 90 = .ok (.goto 4, 3) := by decide +kernel
theorem d_Mo_adm_93 : decode b_Mo_adm 93 = .ok (.iconst 0, 1) := by decide +kernel
theorem d_Mo_adm_94 : decode b_Mo_adm 94 = .ok (.istore 5, 2) := by decide +kernel
theorem d_Mo_adm_96 : decode b_Mo_adm 96 = .ok (.aload_n 0, 1) := by decide +kernel
theorem d_Mo_adm_97 : decode b_Mo_adm 97 = .ok (.iload_n 1, 1) := by decide +kernel
theorem d_Mo_adm_98 : decode b_Mo_adm 98 = .ok (.putfield 172, 3) := by decide +kernel
theorem d_Mo_adm_101 : decode b_Mo_adm 101 = .ok (.iload 5, 2) := by decide +kernel
theorem d_Mo_adm_103 : decode b_Mo_adm 103 = .ok (.ifCond .eq 7, 3) := by decide +kernel
theorem d_Mo_adm_106 : decode b_Mo_adm 106 = .ok (.iconst 4, 1) := by decide +kernel
theorem d_Mo_adm_107 : decode b_Mo_adm 107 = .ok (.goto 4, 3) := by decide +kernel
theorem d_Mo_adm_110 : decode b_Mo_adm 110 = .ok (.iconst 0, 1) := by decide +kernel
theorem d_Mo_adm_111 : decode b_Mo_adm 111 = .ok (.ireturn, 1) := by decide +kernel
theorem d_Mo_adm_112 : decode b_Mo_adm 112 = .ok (.aload_n 0, 1) := by decide +kernel
theorem d_Mo_adm_113 : decode b_Mo_adm 113 = .ok (.iload_n 1, 1) := by decide +kernel
theorem d_Mo_adm_114 : decode b_Mo_adm 114 = .ok (.iconst 0, 1) := by decide +kernel
theorem d_Mo_adm_115 : decode b_Mo_adm 115 = .ok (.invokevirtual 277, 3) := by decide +kernel
theorem d_Mo_adm_118 : decode b_Mo_adm 118 = .ok (.ifCond .eq 22, 3) := by decide +kernel
theorem d_Mo_adm_121 : decode b_Mo_adm 121 = .ok (.iload 4, 2) := by decide +kernel
theorem d_Mo_adm_123 : decode b_Mo_adm 123 = .ok (.bipush 16, 2) := by decide +kernel
theorem d_Mo_adm_125 : decode b_Mo_adm 125 = .ok (.iand, 1) := by decide +kernel
theorem d_Mo_adm_126 : decode b_Mo_adm 126 = .ok (.ifCond .eq 18, 3) := by decide +kernel
theorem d_Mo_adm_129 : decode b_Mo_adm 129 = .ok (.aload_n 0, 1) := by decide +kernel
theorem d_Mo_adm_130 : decode b_Mo_adm 130 = .ok (.iload_n 1, 1) := by decide +kernel
theorem d_Mo_adm_131 : decode b_Mo_adm 131 = .ok (.bipush 28, 2) := by decide +kernel
theorem d_Mo_adm_133 : decode b_Mo_adm 133 = .ok (.iadd, 1) := by decide +kernel
theorem d_Mo_adm_134 : decode b_Mo_adm 134 = .ok (.invokevirtual 120, 3) := by decide +kernel
theorem d_Mo_adm_137 : decode b_Mo_adm 137 = .ok (.ifCond .eq 7, 3) := by decide +kernel
theorem d_Mo_adm_140 : decode b_Mo_adm 140 = .ok (.iconst 1, 1) := by decide +kernel
theorem d_Mo_adm_141 : decode b_Mo_adm 141 = .ok (.goto 4, 3) := by decide +kernel
theorem d_Mo_adm_144 : decode b_Mo_adm 144 = .ok (.iconst 0, 1) := by decide +kernel
theorem d_Mo_adm_145 : decode b_Mo_adm 145 = .ok (.istore 5, 2) := by decide +kernel
theorem d_Mo_adm_147 : decode b_Mo_adm 147 = .ok (.aload_n 0, 1) := by decide +kernel
theorem d_Mo_adm_148 : decode b_Mo_adm 148 = .ok (.getfield 204, 3) := by decide +kernel
theorem d_Mo_adm_151 : decode b_Mo_adm 151 = .ok (.ifCond .le 44, 3) := by decide +kernel
theorem d_Mo_adm_154 : decode b_Mo_adm 154 = .ok (.iload 5, 2) := by decide +kernel
theorem d_Mo_adm_156 : decode b_Mo_adm 156 = .ok (.ifCond .ne 29, 3) := by decide +kernel
theorem d_Mo_adm_159 : decode b_Mo_adm 159 = .ok (.aload_n 0, 1) := by decide +kernel
theorem d_Mo_adm_160 : decode b_Mo_adm 160 = .ok (.getfield 207, 3) := by decide +kernel
theorem d_Mo_adm_163 : decode b_Mo_adm 163 = .ok (.ifCond .gt 22, 3) := by decide +kernel
theorem d_Mo_adm_166 : decode b_Mo_adm 166 = .ok (.aload_n 0, 1) := by decide +kernel
theorem d_Mo_adm_167 : decode b_Mo_adm 167 = .ok (.iload_n 1, 1) := by decide +kernel
theorem d_Mo_adm_168 : decode b_Mo_adm 168 = .ok (.invokevirtual 281, 3) := by decide +kernel
theorem d_Mo_adm_171 : decode b_Mo_adm 171 = .ok (.aload_n 0, 1) := by decide +kernel
theorem d_Mo_adm_172 : decode b_Mo_adm 172 = .ok (.getfield 227, 3) := by decide +kernel
theorem d_Mo_adm_175 : decode b_Mo_adm 175 = .ok (.if_icmp .ne 10, 3) := by decide +kernel
theorem d_Mo_adm_178 : decode b_Mo_adm 178 = .ok (.aload_n 0, 1) := by decide +kernel
theorem d_Mo_adm_179 : decode b_Mo_adm 179 = .ok (.invokevirtual 284, 3) := by decide +kernel
theorem d_Mo_adm_182 : decode b_Mo_adm 182 = .ok (.ifCond .ne 7, 3) := by decide +kernel
theorem d_Mo_adm_185 : decode b_Mo_adm 185 = .ok (.iconst 1, 1) := by decide +kernel
theorem d_Mo_adm_186 : decode b_Mo_adm 186 = .ok (.goto 4, 3) := by decide +kernel
theorem d_Mo_adm_189 : decode b_Mo_adm 189 = .ok (.iconst 0, 1) := by decide +kernel
theorem d_Mo_adm_190 : decode b_Mo_adm 190 = .ok (.istore 5, 2) := by decide +kernel
theorem d_Mo_adm_192 : decode b_Mo_adm 192 = .ok (.goto 8, 3) := by decide +kernel
theorem d_Mo_adm_195 : decode b_Mo_adm 195 = .ok (.aload_n 0, 1) := by decide +kernel
theorem d_Mo_adm_196 : decode b_Mo_adm 196 = .ok (.iload_n 1, 1) := by decide +kernel
theorem d_Mo_adm_197 : decode b_Mo_adm 197 = .ok (.invokevirtual 287, 3) := by decide +kernel
theorem d_Mo_adm_200 : decode b_Mo_adm 200 = .ok (.iload 5, 2) := by decide +kernel
theorem d_Mo_adm_202 : decode b_Mo_adm 202 = .ok (.ifCond .eq 5, 3) := by decide +kernel
theorem d_Mo_adm_205 : decode b_Mo_adm 205 = .ok (.iconst 4, 1) := by decide +kernel
theorem d_Mo_adm_206 : decode b_Mo_adm 206 = .ok (.ireturn, 1) := by decide +kernel
theorem d_Mo_adm_207 : decode b_Mo_adm 207 = .ok (.aload_n 0, 1) := by decide +kernel
theorem d_Mo_adm_208 : decode b_Mo_adm 208 = .ok (.iload_n 2, 1) := by decide +kernel
theorem d_Mo_adm_209 : decode b_Mo_adm 209 = .ok (.invokevirtual 290, 3) := by decide +kernel
theorem d_Mo_adm_212 : decode b_Mo_adm 212 = .ok (.ifCond .eq 5, 3) := by decide +kernel
theorem d_Mo_adm_215 : decode b_Mo_adm 215 = .ok (.iconst 5, 1) := by decide +kernel
theorem d_Mo_adm_216 : decode b_Mo_adm 216 = .ok (.ireturn, 1) := by decide +kernel
theorem d_Mo_adm_217 : decode b_Mo_adm 217 = .ok (.aload_n 0, 1) := by decide +kernel
theorem d_Mo_adm_218 : decode b_Mo_adm 218 = .ok (.getfield 43, 3) := by decide +kernel
theorem d_Mo_adm_221 : decode b_Mo_adm 221 = .ok (.iload_n 2, 1) := by decide +kernel
theorem d_Mo_adm_222 : decode b_Mo_adm 222 = .ok (.iaload, 1) := by decide +kernel
theorem d_Mo_adm_223 : decode b_Mo_adm 223 = .ok (.istore 6, 2) := by decide +kernel
theorem d_Mo_adm_225 : decode b_Mo_adm 225 = .ok (.iload 6, 2) := by decide +kernel
theorem d_Mo_adm_227 : decode b_Mo_adm 227 = .ok (.aload_n 0, 1) := by decide +kernel
theorem d_Mo_adm_228 : decode b_Mo_adm 228 = .ok (.getfield 166, 3) := by decide +kernel
theorem d_Mo_adm_231 : decode b_Mo_adm 231 = .ok (.if_icmp .ge 72, 3) := by decide +kernel
theorem d_Mo_adm_234 : decode b_Mo_adm 234 = .ok (.iconst 1, 1) := by decide +kernel
theorem d_Mo_adm_235 : decode b_Mo_adm 235 = .ok (.istore 7, 2) := by decide +kernel
theorem d_Mo_adm_237 : decode b_Mo_adm 237 = .ok (.iconst 0, 1) := by decide +kernel
theorem d_Mo_adm_238 : decode b_Mo_adm 238 = .ok (.istore 8, 2) := by decide +kernel
theorem d_Mo_adm_240 : decode b_Mo_adm 240 = .ok (.iload 8, 2) := by decide +kernel
theorem d_Mo_adm_242 : decode b_Mo_adm 242 = .ok (.bipush 11, 2) := by decide +kernel
theorem d_Mo_adm_244 : decode b_Mo_adm 244 = .ok (.if_icmp .ge 46, 3) := by decide +kernel
theorem d_Mo_adm_247 : decode b_Mo_adm 247 = .ok (.iload 7, 2) := by decide +kernel
theorem d_Mo_adm_249 : decode b_Mo_adm 249 = .ok (.ifCond .eq 32, 3) := by decide +kernel
theorem d_Mo_adm_252 : decode b_Mo_adm 252 = .ok (.aload_n 0, 1) := by decide +kernel
theorem d_Mo_adm_253 : decode b_Mo_adm 253 = .ok (.aload_n 0, 1) := by decide +kernel
theorem d_Mo_adm_254 : decode b_Mo_adm 254 = .ok (.getfield 27, 3) := by decide +kernel
theorem d_Mo_adm_257 : decode b_Mo_adm 257 = .ok (.iload 6, 2) := by decide +kernel
theorem d_Mo_adm_259 : decode b_Mo_adm 259 = .ok (.iaload, 1) := by decide +kernel
theorem d_Mo_adm_260 : decode b_Mo_adm 260 = .ok (.iload 8, 2) := by decide +kernel
theorem d_Mo_adm_262 : decode b_Mo_adm 262 = .ok (.iadd, 1) := by decide +kernel
theorem d_Mo_adm_263 : decode b_Mo_adm 263 = .ok (.invokevirtual 103, 3) := by decide +kernel
theorem d_Mo_adm_266 : decode b_Mo_adm 266 = .ok (.aload_n 0, 1) := by decide +kernel
theorem d_Mo_adm_267 : decode b_Mo_adm 267 = .ok (.iload_n 1, 1) := by decide +kernel
theorem d_Mo_adm_268 : decode b_Mo_adm 268 = .ok (.iload 8, 2) := by decide +kernel
theorem d_Mo_adm_270 : decode b_Mo_adm 270 = .ok (.iadd, 1) := by decide +kernel
theorem d_Mo_adm_271 : decode b_Mo_adm 271 = .ok (.invokevirtual 103, 3) := by decide +kernel
theorem d_Mo_adm_274 : decode b_Mo_adm 274 = .ok (.if_icmp .ne 7, 3) := by decide +kernel
theorem d_Mo_adm_277 : decode b_Mo_adm 277 = .ok (.iconst 1, 1) := by decide +kernel
theorem d_Mo_adm_278 : decode b_Mo_adm 278 = .ok (.goto 4, 3) := by decide +kernel
theorem d_Mo_adm_281 : decode b_Mo_adm 281 = .ok (.iconst 0, 1) := by decide +kernel
theorem d_Mo_adm_282 : decode b_Mo_adm 282 = .ok (.istore 7, 2) := by decide +kernel
theorem d_Mo_adm_284 : decode b_Mo_adm 284 = .ok (.iinc 8 1, 3) := by decide +kernel
theorem d_Mo_adm_287 : decode b_Mo_adm 287 = .ok (.goto (-47), 3) := by decide +kernel
theorem d_Mo_adm_290 : decode b_Mo_adm 290 = .ok (.iload 7, 2) := by decide +kernel
theorem d_Mo_adm_292 : decode b_Mo_adm 292 = .ok (.ifCond .eq 5, 3) := by decide +kernel
theorem d_Mo_adm_295 : decode b_Mo_adm 295 = .ok (.iconst 5, 1) := by decide +kernel
theorem d_Mo_adm_296 : decode b_Mo_adm 296 = .ok (.ireturn, 1) := by decide +kernel
theorem d_Mo_adm_297 : decode b_Mo_adm 297 = .ok (.iinc 6 1, 3) := by decide +kernel
theorem d_Mo_adm_300 : decode b_Mo_adm 300 = .ok (.goto (-75), 3) := by decide +kernel
theorem d_Mo_adm_303 : decode b_Mo_adm 303 = .ok (.aload_n 0, 1) := by decide +kernel
theorem d_Mo_adm_304 : decode b_Mo_adm 304 = .ok (.getfield 27, 3) := by decide +kernel
theorem d_Mo_adm_307 : decode b_Mo_adm 307 = .ok (.aload_n 0, 1) := by decide +kernel
theorem d_Mo_adm_308 : decode b_Mo_adm 308 = .ok (.getfield 166, 3) := by decide +kernel
theorem d_Mo_adm_311 : decode b_Mo_adm 311 = .ok (.iload_n 1, 1) := by decide +kernel
theorem d_Mo_adm_312 : decode b_Mo_adm 312 = .ok (.iastore, 1) := by decide +kernel
theorem d_Mo_adm_313 : decode b_Mo_adm 313 = .ok (.aload_n 0, 1) := by decide +kernel
theorem d_Mo_adm_314 : decode b_Mo_adm 314 = .ok (.getfield 31, 3) := by decide +kernel
theorem d_Mo_adm_317 : decode b_Mo_adm 317 = .ok (.aload_n 0, 1) := by decide +kernel
theorem d_Mo_adm_318 : decode b_Mo_adm 318 = .ok (.getfield 166, 3) := by decide +kernel
theorem d_Mo_adm_321 : decode b_Mo_adm 321 = .ok (.iload_n 3, 1) := by decide +kernel
theorem d_Mo_adm_322 : decode b_Mo_adm 322 = .ok (.iastore, 1) := by decide +kernel
theorem d_Mo_adm_323 : decode b_Mo_adm 323 = .ok (.aload_n 0, 1) := by decide +kernel
theorem d_Mo_adm_324 : decode b_Mo_adm 324 = .ok (.getfield 34, 3) := by decide +kernel
theorem d_Mo_adm_327 : decode b_Mo_adm 327 = .ok (.aload_n 0, 1) := by decide +kernel
theorem d_Mo_adm_328 : decode b_Mo_adm 328 = .ok (.getfield 166, 3) := by decide +kernel
theorem d_Mo_adm_331 : decode b_Mo_adm 331 = .ok (.aload_n 0, 1) := by decide +kernel
theorem d_Mo_adm_332 : decode b_Mo_adm 332 = .ok (.getfield 204, 3) := by decide +kernel
theorem d_Mo_adm_335 : decode b_Mo_adm 335 = .ok (.iastore, 1) := by decide +kernel
theorem d_Mo_adm_336 : decode b_Mo_adm 336 = .ok (.aload_n 0, 1) := by decide +kernel
theorem d_Mo_adm_337 : decode b_Mo_adm 337 = .ok (.getfield 37, 3) := by decide +kernel
theorem d_Mo_adm_340 : decode b_Mo_adm 340 = .ok (.aload_n 0, 1) := by decide +kernel
theorem d_Mo_adm_341 : decode b_Mo_adm 341 = .ok (.getfield 166, 3) := by decide +kernel
theorem d_Mo_adm_344 : decode b_Mo_adm 344 = .ok (.iload_n 2, 1) := by decide +kernel
theorem d_Mo_adm_345 : decode b_Mo_adm 345 = .ok (.iastore, 1) := by decide +kernel
theorem d_Mo_adm_346 : decode b_Mo_adm 346 = .ok (.aload_n 0, 1) := by decide +kernel
theorem d_Mo_adm_347 : decode b_Mo_adm 347 = .ok (.getfield 46, 3) := by decide +kernel
theorem d_Mo_adm_350 : decode b_Mo_adm 350 = .ok (.aload_n 0, 1) := by decide +kernel
theorem d_Mo_adm_351 : decode b_Mo_adm 351 = .ok (.getfield 166, 3) := by decide +kernel
theorem d_Mo_adm_354 : decode b_Mo_adm 354 = .ok (.aload_n 0, 1) := by decide +kernel
theorem d_Mo_adm_355 : decode b_Mo_adm 355 = .ok (.getfield 169, 3) := by decide +kernel
theorem d_Mo_adm_358 : decode b_Mo_adm 358 = .ok (.iastore, 1) := by decide +kernel
theorem d_Mo_adm_359 : decode b_Mo_adm 359 = .ok (.aload_n 0, 1) := by decide +kernel
theorem d_Mo_adm_360 : decode b_Mo_adm 360 = .ok (.getfield 49, 3) := by decide +kernel
theorem d_Mo_adm_363 : decode b_Mo_adm 363 = .ok (.aload_n 0, 1) := by decide +kernel
theorem d_Mo_adm_364 : decode b_Mo_adm 364 = .ok (.getfield 166, 3) := by decide +kernel
theorem d_Mo_adm_367 : decode b_Mo_adm 367 = .ok (.aload_n 0, 1) := by decide +kernel
theorem d_Mo_adm_368 : decode b_Mo_adm 368 = .ok (.getfield 224, 3) := by decide +kernel
theorem d_Mo_adm_371 : decode b_Mo_adm 371 = .ok (.iastore, 1) := by decide +kernel
theorem d_Mo_adm_372 : decode b_Mo_adm 372 = .ok (.iconst 0, 1) := by decide +kernel
theorem d_Mo_adm_373 : decode b_Mo_adm 373 = .ok (.istore 6, 2) := by decide +kernel
theorem d_Mo_adm_375 : decode b_Mo_adm 375 = .ok (.iload 6, 2) := by decide +kernel
theorem d_Mo_adm_377 : decode b_Mo_adm 377 = .ok (.aload_n 0, 1) := by decide +kernel
theorem d_Mo_adm_378 : decode b_Mo_adm 378 = .ok (.getfield 224, 3) := by decide +kernel
theorem d_Mo_adm_381 : decode b_Mo_adm 381 = .ok (.if_icmp .ge 28, 3) := by decide +kernel
theorem d_Mo_adm_384 : decode b_Mo_adm 384 = .ok (.aload_n 0, 1) := by decide +kernel
theorem d_Mo_adm_385 : decode b_Mo_adm 385 = .ok (.getfield 53, 3) := by decide +kernel
theorem d_Mo_adm_388 : decode b_Mo_adm 388 = .ok (.aload_n 0, 1) := by decide +kernel
theorem d_Mo_adm_389 : decode b_Mo_adm 389 = .ok (.getfield 169, 3) := by decide +kernel
theorem d_Mo_adm_392 : decode b_Mo_adm 392 = .ok (.iload 6, 2) := by decide +kernel
theorem d_Mo_adm_394 : decode b_Mo_adm 394 = .ok (.iadd, 1) := by decide +kernel
theorem d_Mo_adm_395 : decode b_Mo_adm 395 = .ok (.aload_n 0, 1) := by decide +kernel
theorem d_Mo_adm_396 : decode b_Mo_adm 396 = .ok (.getfield 63, 3) := by decide +kernel
theorem d_Mo_adm_399 : decode b_Mo_adm 399 = .ok (.iload 6, 2) := by decide +kernel
theorem d_Mo_adm_401 : decode b_Mo_adm 401 = .ok (.caload, 1) := by decide +kernel
theorem d_Mo_adm_402 : decode b_Mo_adm 402 = .ok (.castore, 1) := by decide +kernel
theorem d_Mo_adm_403 : decode b_Mo_adm 403 = .ok (.iinc 6 1, 3) := by decide +kernel
theorem d_Mo_adm_406 : decode b_Mo_adm 406 = .ok (.goto (-31), 3) := by decide +kernel
theorem d_Mo_adm_409 : decode b_Mo_adm 409 = .ok (.aload_n 0, 1) := by decide +kernel
theorem d_Mo_adm_410 : decode b_Mo_adm 410 = .ok (.dup, 1) := by decide +kernel
theorem d_Mo_adm_411 : decode b_Mo_adm 411 = .ok (.getfield 169, 3) := by decide +kernel
theorem d_Mo_adm_414 : decode b_Mo_adm 414 = .ok (.aload_n 0, 1) := by decide +kernel
theorem d_Mo_adm_415 : decode b_Mo_adm 415 = .ok (.getfield 224, 3) := by decide +kernel
theorem d_Mo_adm_418 : decode b_Mo_adm 418 = .ok (.iadd, 1) := by decide +kernel
theorem d_Mo_adm_419 : decode b_Mo_adm 419 = .ok (.putfield 169, 3) := by decide +kernel
theorem d_Mo_adm_422 : decode b_Mo_adm 422 = .ok (.aload_n 0, 1) := by decide +kernel
theorem d_Mo_adm_423 : decode b_Mo_adm 423 = .ok (.dup, 1) := by decide +kernel
theorem d_Mo_adm_424 : decode b_Mo_adm 424 = .ok (.getfield 166, 3) := by decide +kernel
theorem d_Mo_adm_427 : decode b_Mo_adm 427 = .ok (.iconst 1, 1) := by decide +kernel
theorem d_Mo_adm_428 : decode b_Mo_adm 428 = .ok (.iadd, 1) := by decide +kernel
theorem d_Mo_adm_429 : decode b_Mo_adm 429 = .ok (.putfield 166, 3) := by decide +kernel
theorem d_Mo_adm_432 : decode b_Mo_adm 432 = .ok (.aload_n 0, 1) := by decide +kernel
theorem d_Mo_adm_433 : decode b_Mo_adm 433 = .ok (.getfield 40, 3) := by decide +kernel
theorem d_Mo_adm_436 : decode b_Mo_adm 436 = .ok (.iload_n 2, 1) := by decide +kernel
theorem d_Mo_adm_437 : decode b_Mo_adm 437 = .ok (.dup2, 1) := by decide +kernel
theorem d_Mo_adm_438 : decode b_Mo_adm 438 = .ok (.iaload, 1) := by decide +kernel
theorem d_Mo_adm_439 : decode b_Mo_adm 439 = .ok (.iconst 1, 1) := by decide +kernel
theorem d_Mo_adm_440 : decode b_Mo_adm 440 = .ok (.iadd, 1) := by decide +kernel
theorem d_Mo_adm_441 : decode b_Mo_adm 441 = .ok (.iastore, 1) := by decide +kernel
theorem d_Mo_adm_442 : decode b_Mo_adm 442 = .ok (.aload_n 0, 1) := by decide +kernel
theorem d_Mo_adm_443 : decode b_Mo_adm 443 = .ok (.iconst 0, 1) := by decide +kernel
theorem d_Mo_adm_444 : decode b_Mo_adm 444 = .ok (.putfield 204, 3) := by decide +kernel
theorem d_Mo_adm_447 : decode b_Mo_adm 447 = .ok (.iload 4, 2) := by decide +kernel
theorem d_Mo_adm_449 : decode b_Mo_adm 449 = .ok (.bipush 16, 2) := by decide +kernel
theorem d_Mo_adm_451 : decode b_Mo_adm 451 = .ok (.iand, 1) := by decide +kernel
theorem d_Mo_adm_452 : decode b_Mo_adm 452 = .ok (.ifCond .eq 5, 3) := by decide +kernel
theorem d_Mo_adm_455 : decode b_Mo_adm 455 = .ok (.iconst 0, 1) := by decide +kernel
theorem d_Mo_adm_456 : decode b_Mo_adm 456 = .ok (.ireturn, 1) := by decide +kernel
theorem d_Mo_adm_457 : decode b_Mo_adm 457 = .ok (.aload_n 0, 1) := by decide +kernel
theorem d_Mo_adm_458 : decode b_Mo_adm 458 = .ok (.iload_n 1, 1) := by decide +kernel
theorem d_Mo_adm_459 : decode b_Mo_adm 459 = .ok (.bipush 28, 2) := by decide +kernel
theorem d_Mo_adm_461 : decode b_Mo_adm 461 = .ok (.iadd, 1) := by decide +kernel
theorem d_Mo_adm_462 : decode b_Mo_adm 462 = .ok (.invokevirtual 120, 3) := by decide +kernel
theorem d_Mo_adm_465 : decode b_Mo_adm 465 = .ok (.istore 6, 2) := by decide +kernel
theorem d_Mo_adm_467 : decode b_Mo_adm 467 = .ok (.iload 6, 2) := by decide +kernel
theorem d_Mo_adm_469 : decode b_Mo_adm 469 = .ok (.ifCond .ne 17, 3) := by decide +kernel
theorem d_Mo_adm_472 : decode b_Mo_adm 472 = .ok (.aload_n 0, 1) := by decide +kernel
theorem d_Mo_adm_473 : decode b_Mo_adm 473 = .ok (.iload_n 1, 1) := by decide +kernel
theorem d_Mo_adm_474 : decode b_Mo_adm 474 = .ok (.invokevirtual 156, 3) := by decide +kernel
theorem d_Mo_adm_477 : decode b_Mo_adm 477 = .ok (.ifCond .ne 7, 3) := by decide +kernel
theorem d_Mo_adm_480 : decode b_Mo_adm 480 = .ok (.iconst 0, 1) := by decide +kernel
theorem d_Mo_adm_481 : decode b_Mo_adm 481 = .ok (.goto 4, 3) := by decide +kernel
theorem d_Mo_adm_484 : decode b_Mo_adm 484 = .ok (.iconst 3, 1) := by decide +kernel
theorem d_Mo_adm_485 : decode b_Mo_adm 485 = .ok (.ireturn, 1) := by decide +kernel
theorem d_Mo_adm_486 : decode b_Mo_adm 486 = .ok (.iload 6, 2) := by decide +kernel
theorem d_Mo_adm_488 : decode b_Mo_adm 488 = .ok (.ifCond .le 39, 3) := by decide +kernel
theorem d_Mo_adm_491 : decode b_Mo_adm 491 = .ok (.aload_n 0, 1) := by decide +kernel
theorem d_Mo_adm_492 : decode b_Mo_adm 492 = .ok (.aload_n 0, 1) := by decide +kernel
theorem d_Mo_adm_493 : decode b_Mo_adm 493 = .ok (.iload_n 1, 1) := by decide +kernel
theorem d_Mo_adm_494 : decode b_Mo_adm 494 = .ok (.invokevirtual 156, 3) := by decide +kernel
theorem d_Mo_adm_497 : decode b_Mo_adm 497 = .ok (.invokevirtual 201, 3) := by decide +kernel
theorem d_Mo_adm_500 : decode b_Mo_adm 500 = .ok (.ifCond .eq 27, 3) := by decide +kernel
theorem d_Mo_adm_503 : decode b_Mo_adm 503 = .ok (.aload_n 0, 1) := by decide +kernel
theorem d_Mo_adm_504 : decode b_Mo_adm 504 = .ok (.getfield 153, 3) := by decide +kernel
theorem d_Mo_adm_507 : decode b_Mo_adm 507 = .ok (.iload 6, 2) := by decide +kernel
theorem d_Mo_adm_509 : decode b_Mo_adm 509 = .ok (.sipush 512, 3) := by decide +kernel
theorem d_Mo_adm_512 : decode b_Mo_adm 512 = .ok (.aload_n 0, 1) := by decide +kernel
theorem d_Mo_adm_513 : decode b_Mo_adm 513 = .ok (.getfield 138, 3) := by decide +kernel
theorem d_Mo_adm_516 : decode b_Mo_adm 516 = .ok (.imul, 1) := by decide +kernel
theorem d_Mo_adm_517 : decode b_Mo_adm 517 = .ok (.invokestatic 262, 3) := by decide +kernel
theorem d_Mo_adm_520 : decode b_Mo_adm 520 = .ok (.if_icmp .ne 7, 3) := by decide +kernel
theorem d_Mo_adm_523 : decode b_Mo_adm 523 = .ok (.iconst 0, 1) := by decide +kernel
theorem d_Mo_adm_524 : decode b_Mo_adm 524 = .ok (.goto 4, 3) := by decide +kernel
theorem d_Mo_adm_527 : decode b_Mo_adm 527 = .ok (.iconst 3, 1) := by decide +kernel
theorem d_Mo_adm_528 : decode b_Mo_adm 528 = .ok (.ireturn, 1) := by decide +kernel
theorem d_Mo_taken_0 : decode b_Mo_taken 0 = .ok (.aload_n 0, 1) := by decide +kernel
theorem d_Mo_taken_1 : decode b_Mo_taken 1 = .ok (.getfield 17, 3) := by decide +kernel
theorem d_Mo_taken_4 : decode b_Mo_taken 4 = .ok (.iload_n 1, 1) := by decide +kernel
theorem d_Mo_taken_5 : decode b_Mo_taken 5 = .ok (.baload, 1) := by decide +kernel
theorem d_Mo_taken_6 : decode b_Mo_taken 6 = .ok (.sipush 255, 3) := by decide +kernel
theorem d_Mo_taken_9 : decode b_Mo_taken 9 = .ok (.iand, 1) := by decide +kernel
theorem d_Mo_taken_10 : decode b_Mo_taken 10 = .ok (.ireturn, 1) := by decide +kernel
theorem d_Mo_folderHere_0 : decode b_Mo_folderHere 0 = .ok (.aload_n 0, 1) := by decide +kernel
theorem d_Mo_folderHere_1 : decode b_Mo_folderHere 1 = .ok (.getfield 311, 3) := by decide +kernel
theorem d_Mo_folderHere_4 : decode b_Mo_folderHere 4 = .ok (.ifCond .ne 5, 3) := by decide +kernel
theorem d_Mo_folderHere_7 : decode b_Mo_folderHere 7 = .ok (.iconst 0, 1) := by decide +kernel
theorem d_Mo_folderHere_8 : decode b_Mo_folderHere 8 = .ok (.ireturn, 1) := by decide +kernel
theorem d_Mo_folderHere_9 : decode b_Mo_folderHere 9 = .ok (.iconst 1, 1) := by decide +kernel
theorem d_Mo_folderHere_10 : decode b_Mo_folderHere 10 = .ok (.istore_n 1, 1) := by decide +kernel
theorem d_Mo_folderHere_11 : decode b_Mo_folderHere 11 = .ok (.iload_n 1, 1) := by decide +kernel
theorem d_Mo_folderHere_12 : decode b_Mo_folderHere 12 = .ok (.aload_n 0, 1) := by decide +kernel
theorem d_Mo_folderHere_13 : decode b_Mo_folderHere 13 = .ok (.getfield 166, 3) := by decide +kernel
theorem d_Mo_folderHere_16 : decode b_Mo_folderHere 16 = .ok (.if_icmp .ge 36, 3) := by decide +kernel
theorem d_Mo_folderHere_19 : decode b_Mo_folderHere 19 = .ok (.aload_n 0, 1) := by decide +kernel
theorem d_Mo_folderHere_20 : decode b_Mo_folderHere 20 = .ok (.iload_n 1, 1) := by decide +kernel
theorem d_Mo_folderHere_21 : decode b_Mo_folderHere 21 = .ok (.invokevirtual 185, 3) := by decide +kernel
theorem d_Mo_folderHere_24 : decode b_Mo_folderHere 24 = .ok (.ifCond .eq 22, 3) := by decide +kernel
theorem d_Mo_folderHere_27 : decode b_Mo_folderHere 27 = .ok (.aload_n 0, 1) := by decide +kernel
theorem d_Mo_folderHere_28 : decode b_Mo_folderHere 28 = .ok (.aload_n 0, 1) := by decide +kernel
theorem d_Mo_folderHere_29 : decode b_Mo_folderHere 29 = .ok (.getfield 27, 3) := by decide +kernel
theorem d_Mo_folderHere_32 : decode b_Mo_folderHere 32 = .ok (.iload_n 1, 1) := by decide +kernel
theorem d_Mo_folderHere_33 : decode b_Mo_folderHere 33 = .ok (.iaload, 1) := by decide +kernel
theorem d_Mo_folderHere_34 : decode b_Mo_folderHere 34 = .ok (.invokevirtual 156, 3) := by decide +kernel
theorem d_Mo_folderHere_37 : decode b_Mo_folderHere 37 = .ok (.aload_n 0, 1) := by decide +kernel
theorem d_Mo_folderHere_38 : decode b_Mo_folderHere 38 = .ok (.getfield 311, 3) := by decide +kernel
theorem d_Mo_folderHere_41 : decode b_Mo_folderHere 41 = .ok (.if_icmp .ne 5, 3) := by decide +kernel
theorem d_Mo_folderHere_44 : decode b_Mo_folderHere 44 = .ok (.iload_n 1, 1) := by decide +kernel
theorem d_Mo_folderHere_45 : decode b_Mo_folderHere 45 = .ok (.ireturn, 1) := by decide +kernel
theorem d_Mo_folderHere_46 : decode b_Mo_folderHere 46 = .ok (.iinc 1 1, 3) := by decide +kernel
theorem d_Mo_folderHere_49 : decode b_Mo_folderHere 49 = .ok (.goto (-38), 3) := by decide +kernel
theorem d_Mo_folderHere_52 : decode b_Mo_folderHere 52 = .ok (.iconst 0, 1) := by decide +kernel
theorem d_Mo_folderHere_53 : decode b_Mo_folderHere 53 = .ok (.ireturn, 1) := by decide +kernel
theorem d_Mo_many_0 : decode b_Mo_many 0 = .ok (.aload_n 0, 1) := by decide +kernel
theorem d_Mo_many_1 : decode b_Mo_many 1 = .ok (.getfield 40, 3) := by decide +kernel
theorem d_Mo_many_4 : decode b_Mo_many 4 = .ok (.aload_n 0, 1) := by decide +kernel
theorem d_Mo_many_5 : decode b_Mo_many 5 = .ok (.invokevirtual 345, 3) := by decide +kernel
theorem d_Mo_many_8 : decode b_Mo_many 8 = .ok (.iaload, 1) := by decide +kernel
theorem d_Mo_many_9 : decode b_Mo_many 9 = .ok (.aload_n 0, 1) := by decide +kernel
theorem d_Mo_many_10 : decode b_Mo_many 10 = .ok (.getfield 302, 3) := by decide +kernel
theorem d_Mo_many_13 : decode b_Mo_many 13 = .ok (.ifCond .eq 14, 3) := by decide +kernel
theorem d_Mo_many_16 : decode b_Mo_many 16 = .ok (.aload_n 0, 1) := by decide +kernel
theorem d_Mo_many_17 : decode b_Mo_many 17 = .ok (.getfield 311, 3) := by decide +kernel
theorem d_Mo_many_20 : decode b_Mo_many 20 = .ok (.ifCond .ne 7, 3) := by decide +kernel
theorem d_Mo_many_23 : decode b_Mo_many 23 = .ok (.iconst 1, 1) := by decide +kernel
theorem d_Mo_many_24 : decode b_Mo_many 24 = .ok (.goto 4, 3) := by decide +kernel
theorem d_Mo_many_27 : decode b_Mo_many 27 = .ok (.iconst 0, 1) := by decide +kernel
theorem d_Mo_many_28 : decode b_Mo_many 28 = .ok (.iadd, 1) := by decide +kernel
theorem d_Mo_many_29 : decode b_Mo_many 29 = .ok (.ireturn, 1) := by decide +kernel
theorem d_Mo_item_0 : decode b_Mo_item 0 = .ok (.iload_n 1, 1) := by decide +kernel
theorem d_Mo_item_1 : decode b_Mo_item 1 = .ok (.aload_n 0, 1) := by decide +kernel
theorem d_Mo_item_2 : decode b_Mo_item 2 = .ok (.getfield 40, 3) := by decide +kernel
theorem d_Mo_item_5 : decode b_Mo_item 5 = .ok (.aload_n 0, 1) := by decide +kernel
theorem d_Mo_item_6 : decode b_Mo_item 6 = .ok (.invokevirtual 345, 3) := by decide +kernel
theorem d_Mo_item_9 : decode b_Mo_item 9 = .ok (.iaload, 1) := by decide +kernel
theorem d_Mo_item_10 : decode b_Mo_item 10 = .ok (.if_icmp .ge 17, 3) := by decide +kernel
theorem d_Mo_item_13 : decode b_Mo_item 13 = .ok (.aload_n 0, 1) := by decide +kernel
theorem d_Mo_item_14 : decode b_Mo_item 14 = .ok (.getfield 43, 3) := by decide +kernel
theorem d_Mo_item_17 : decode b_Mo_item 17 = .ok (.aload_n 0, 1) := by decide +kernel
theorem d_Mo_item_18 : decode b_Mo_item 18 = .ok (.invokevirtual 345, 3) := by decide +kernel
theorem d_Mo_item_21 : decode b_Mo_item 21 = .ok (.iaload, 1) := by decide +kernel
theorem d_Mo_item_22 : decode b_Mo_item 22 = .ok (.iload_n 1, 1) := by decide +kernel
theorem d_Mo_item_23 : decode b_Mo_item 23 = .ok (.iadd, 1) := by decide +kernel
theorem d_Mo_item_24 : decode b_Mo_item 24 = .ok (.goto 4, 3) := by decide +kernel
theorem d_Mo_item_27 : decode b_Mo_item 27 = .ok (.iconst (-1), 1) := by decide +kernel
theorem d_Mo_item_28 : decode b_Mo_item 28 = .ok (.ireturn, 1) := by decide +kernel
theorem d_Mo_bytesOf_0 : decode b_Mo_bytesOf 0 = .ok (.iload_n 0, 1) := by decide +kernel
theorem d_Mo_bytesOf_1 : decode b_Mo_bytesOf 1 = .ok (.sipush 128, 3) := by decide +kernel
theorem d_Mo_bytesOf_4 : decode b_Mo_bytesOf 4 = .ok (.if_icmp .ge 7, 3) := by decide +kernel
theorem d_Mo_bytesOf_7 : decode b_Mo_bytesOf 7 = .ok (.iconst 1, 1) := by decide +kernel
theorem d_Mo_bytesOf_8 : decode b_Mo_bytesOf 8 = .ok (.goto 15, 3) := by decide +kernel
theorem d_Mo_bytesOf_11 : decode b_Mo_bytesOf 11 = .ok (.iload_n 0, 1) := by decide +kernel
theorem d_Mo_bytesOf_12 : decode b_Mo_bytesOf 12 = .ok (.sipush 2048, 3) := by decide +kernel
theorem d_Mo_bytesOf_15 : decode b_Mo_bytesOf 15 = .ok (.if_icmp .ge 7, 3) := by decide +kernel
theorem d_Mo_bytesOf_18 : decode b_Mo_bytesOf 18 = .ok (.iconst 2, 1) := by decide +kernel
theorem d_Mo_bytesOf_19 : decode b_Mo_bytesOf 19 = .ok (.goto 4, 3) := by decide +kernel
theorem d_Mo_bytesOf_22 : decode b_Mo_bytesOf 22 = .ok (.iconst 3, 1) := by decide +kernel
theorem d_Mo_bytesOf_23 : decode b_Mo_bytesOf 23 = .ok (.ireturn, 1) := by decide +kernel
theorem d_Mo_textSize_0 : decode b_Mo_textSize 0 = .ok (.iconst 0, 1) := by decide +kernel
theorem d_Mo_textSize_1 : decode b_Mo_textSize 1 = .ok (.istore_n 2, 1) := by decide +kernel
theorem d_Mo_textSize_2 : decode b_Mo_textSize 2 = .ok (.iconst 0, 1) := by decide +kernel
theorem d_Mo_textSize_3 : decode b_Mo_textSize 3 = .ok (.istore_n 3, 1) := by decide +kernel
theorem d_Mo_textSize_4 : decode b_Mo_textSize 4 = .ok (.iload_n 3, 1) := by decide +kernel
theorem d_Mo_textSize_5 : decode b_Mo_textSize 5 = .ok (.aload_n 0, 1) := by decide +kernel
theorem d_Mo_textSize_6 : decode b_Mo_textSize 6 = .ok (.getfield 49, 3) := by decide +kernel
theorem d_Mo_textSize_9 : decode b_Mo_textSize 9 = .ok (.iload_n 1, 1) := by decide +kernel
theorem d_Mo_textSize_10 : decode b_Mo_textSize 10 = .ok (.iaload, 1) := by decide +kernel
theorem d_Mo_textSize_11 : decode b_Mo_textSize 11 = .ok (.if_icmp .ge 28, 3) := by decide +kernel
theorem d_Mo_textSize_14 : decode b_Mo_textSize 14 = .ok (.iload_n 2, 1) := by decide +kernel
theorem d_Mo_textSize_15 : decode b_Mo_textSize 15 = .ok (.aload_n 0, 1) := by decide +kernel
theorem d_Mo_textSize_16 : decode b_Mo_textSize 16 = .ok (.getfield 53, 3) := by decide +kernel
theorem d_Mo_textSize_19 : decode b_Mo_textSize 19 = .ok (.aload_n 0, 1) := by decide +kernel
theorem d_Mo_textSize_20 : decode b_Mo_textSize 20 = .ok (.getfield 46, 3) := by decide +kernel
theorem d_Mo_textSize_23 : decode b_Mo_textSize 23 = .ok (.iload_n 1, 1) := by decide +kernel
theorem d_Mo_textSize_24 : decode b_Mo_textSize 24 = .ok (.iaload, 1) := by decide +kernel
theorem d_Mo_textSize_25 : decode b_Mo_textSize 25 = .ok (.iload_n 3, 1) := by decide +kernel
theorem d_Mo_textSize_26 : decode b_Mo_textSize 26 = .ok (.iadd, 1) := by decide +kernel
theorem d_Mo_textSize_27 : decode b_Mo_textSize 27 = .ok (.caload, 1) := by decide +kernel
theorem d_Mo_textSize_28 : decode b_Mo_textSize 28 = .ok (.invokestatic 355, 3) := by decide +kernel
theorem d_Mo_textSize_31 : decode b_Mo_textSize 31 = .ok (.iadd, 1) := by decide +kernel
theorem d_Mo_textSize_32 : decode b_Mo_textSize 32 = .ok (.istore_n 2, 1) := by decide +kernel
theorem d_Mo_textSize_33 : decode b_Mo_textSize 33 = .ok (.iinc 3 1, 3) := by decide +kernel
theorem d_Mo_textSize_36 : decode b_Mo_textSize 36 = .ok (.goto (-32), 3) := by decide +kernel
theorem d_Mo_textSize_39 : decode b_Mo_textSize 39 = .ok (.iload_n 2, 1) := by decide +kernel
theorem d_Mo_textSize_40 : decode b_Mo_textSize 40 = .ok (.ireturn, 1) := by decide +kernel
theorem d_Mo_text_0 : decode b_Mo_text 0 = .ok (.iload_n 1, 1) := by decide +kernel
theorem d_Mo_text_1 : decode b_Mo_text 1 = .ok (.iconst (-1), 1) := by decide +kernel
theorem d_Mo_text_2 : decode b_Mo_text 2 = .ok (.if_icmp .ne 25, 3) := by decide +kernel
theorem d_Mo_text_5 : decode b_Mo_text 5 = .ok (.iload_n 2, 1) := by decide +kernel
theorem d_Mo_text_6 : decode b_Mo_text 6 = .ok (.ifCond .lt 19, 3) := by decide +kernel
theorem d_Mo_text_9 : decode b_Mo_text 9 = .ok (.iload_n 2, 1) := by decide +kernel
theorem d_Mo_text_10 : decode b_Mo_text 10 = .ok (.bipush 7, 2) := by decide +kernel
theorem d_Mo_text_12 : decode b_Mo_text 12 = .ok (.if_icmp .ge 13, 3) := by decide +kernel
theorem d_Mo_text_15 : decode b_Mo_text 15 = .ok (.ldc_w 358, 3) := by decide +kernel
theorem d_Mo_text_18 : decode b_Mo_text 18 = .ok (.iload_n 2, 1) := by decide +kernel
theorem d_Mo_text_19 : decode b_Mo_text 19 = .ok (.invokevirtual 360, 3) := by decide +kernel
theorem d_Mo_text_22 : decode b_Mo_text 22 = .ok (.goto 4, 3) := by decide +kernel
theorem d_Mo_text_25 : decode b_Mo_text 25 = .ok (.iconst (-1), 1) := by decide +kernel
theorem d_Mo_text_26 : decode b_Mo_text 26 = .ok (.ireturn, 1) := by decide +kernel
theorem d_Mo_text_27 : decode b_Mo_text 27 = .ok (.iload_n 2, 1) := by decide +kernel
theorem d_Mo_text_28 : decode b_Mo_text 28 = .ok (.istore_n 3, 1) := by decide +kernel
theorem d_Mo_text_29 : decode b_Mo_text 29 = .ok (.iconst 0, 1) := by decide +kernel
theorem d_Mo_text_30 : decode b_Mo_text 30 = .ok (.istore 4, 2) := by decide +kernel
theorem d_Mo_text_32 : decode b_Mo_text 32 = .ok (.iload 4, 2) := by decide +kernel
theorem d_Mo_text_34 : decode b_Mo_text 34 = .ok (.aload_n 0, 1) := by decide +kernel
theorem d_Mo_text_35 : decode b_Mo_text 35 = .ok (.getfield 49, 3) := by decide +kernel
theorem d_Mo_text_38 : decode b_Mo_text 38 = .ok (.iload_n 1, 1) := by decide +kernel
theorem d_Mo_text_39 : decode b_Mo_text 39 = .ok (.iaload, 1) := by decide +kernel
theorem d_Mo_text_40 : decode b_Mo_text 40 = .ok (.if_icmp .ge 112, 3) := by decide +kernel
theorem d_Mo_text_43 : decode b_Mo_text 43 = .ok (.iload_n 2, 1) := by decide +kernel
theorem d_Mo_text_44 : decode b_Mo_text 44 = .ok (.ifCond .lt 108, 3) := by decide +kernel
theorem d_Mo_text_47 : decode b_Mo_text 47 = .ok (.aload_n 0, 1) := by decide +kernel
theorem d_Mo_text_48 : decode b_Mo_text 48 = .ok (.getfield 53, 3) := by decide +kernel
theorem d_Mo_text_51 : decode b_Mo_text 51 = .ok (.aload_n 0, 1) := by decide +kernel
theorem d_Mo_text_52 : decode b_Mo_text 52 = .ok (.getfield 46, 3) := by decide +kernel
theorem d_Mo_text_55 : decode b_Mo_text 55 = .ok (.iload_n 1, 1) := by decide +kernel
theorem d_Mo_text_56 : decode b_Mo_text 56 = .ok (.iaload, 1) := by decide +kernel
theorem d_Mo_text_57 : decode b_Mo_text 57 = .ok (.iload 4, 2) := by decide +kernel
theorem d_Mo_text_59 : decode b_Mo_text 59 = .ok (.iadd, 1) := by decide +kernel
theorem d_Mo_text_60 : decode b_Mo_text 60 = .ok (.caload, 1) := by decide +kernel
theorem d_Mo_text_61 : decode b_Mo_text 61 = .ok (.istore 5, 2) := by decide +kernel
theorem d_Mo_text_63 : decode b_Mo_text 63 = .ok (.iload 5, 2) := by decide +kernel
theorem d_Mo_text_65 : decode b_Mo_text 65 = .ok (.invokestatic 355, 3) := by decide +kernel
theorem d_Mo_text_68 : decode b_Mo_text 68 = .ok (.istore 6, 2) := by decide +kernel
theorem d_Mo_text_70 : decode b_Mo_text 70 = .ok (.iload_n 3, 1) := by decide +kernel
theorem d_Mo_text_71 : decode b_Mo_text 71 = .ok (.iload 6, 2) := by decide +kernel
theorem d_Mo_text_73 : decode b_Mo_text 73 = .ok (.if_icmp .ge 68, 3) := by decide +kernel
theorem d_Mo_text_76 : decode b_Mo_text 76 = .ok (.iload 6, 2) := by decide +kernel
theorem d_Mo_text_78 : decode b_Mo_text 78 = .ok (.iconst 1, 1) := by decide +kernel
theorem d_Mo_text_79 : decode b_Mo_text 79 = .ok (.if_icmp .ne 8, 3) := by decide +kernel
theorem d_Mo_text_82 : decode b_Mo_text 82 = .ok (.iload 5, 2) := by decide +kernel
theorem d_Mo_text_84 : decode b_Mo_text 84 = .ok (.goto 56, 3) := by decide +kernel
theorem d_Mo_text_87 : decode b_Mo_text 87 = .ok (.iload_n 3, 1) := by decide +kernel
theorem d_Mo_text_88 : decode b_Mo_text 88 = .ok (.ifCond .le 25, 3) := by decide +kernel
theorem d_Mo_text_91 : decode b_Mo_text 91 = .ok (.sipush 128, 3) := by decide +kernel
theorem d_Mo_text_94 : decode b_Mo_text 94 = .ok (.iload 5, 2) := by decide +kernel
theorem d_Mo_text_96 : decode b_Mo_text 96 = .ok (.bipush 6, 2) := by decide +kernel
theorem d_Mo_text_98 : decode b_Mo_text 98 = .ok (.iload 6, 2) := by decide +kernel
theorem d_Mo_text_100 : decode b_Mo_text 100 = .ok (.iconst 1, 1) := by decide +kernel
theorem d_Mo_text_101 : decode b_Mo_text 101 = .ok (.isub, 1) := by decide +kernel
theorem d_Mo_text_102 : decode b_Mo_text 102 = .ok (.iload_n 3, 1) := by decide +kernel
theorem d_Mo_text_103 : decode b_Mo_text 103 = .ok (.isub, 1) := by decide +kernel
theorem d_Mo_text_104 : decode b_Mo_text 104 = .ok (.imul, 1) := by decide +kernel
theorem d_Mo_text_105 : decode b_Mo_text 105 = .ok (.ishr, 1) := by decide +kernel
theorem d_Mo_text_106 : decode b_Mo_text 106 = .ok (.bipush 63, 2) := by decide +kernel
theorem d_Mo_text_108 : decode b_Mo_text 108 = .ok (.iand, 1) := by decide +kernel
theorem d_Mo_text_109 : decode b_Mo_text 109 = .ok (.ior, 1) := by decide +kernel
theorem d_Mo_text_110 : decode b_Mo_text 110 = .ok (.goto 30, 3) := by decide +kernel
theorem d_Mo_text_113 : decode b_Mo_text 113 = .ok (.iload 6, 2) := by decide +kernel
theorem d_Mo_text_115 : decode b_Mo_text 115 = .ok (.iconst 2, 1) := by decide +kernel
theorem d_Mo_text_116 : decode b_Mo_text 116 = .ok (.if_icmp .ne 15, 3) := by decide +kernel
theorem d_Mo_text_119 : decode b_Mo_text 119 = .ok (.sipush 192, 3) := by decide +kernel
theorem d_Mo_text_122 : decode b_Mo_text 122 = .ok (.iload 5, 2) := by decide +kernel
theorem d_Mo_text_124 : decode b_Mo_text 124 = .ok (.bipush 6, 2) := by decide +kernel
theorem d_Mo_text_126 : decode b_Mo_text 126 = .ok (.ishr, 1) := by decide +kernel
theorem d_Mo_text_127 : decode b_Mo_text 127 = .ok (.ior, 1) := by decide +kernel
theorem d_Mo_text_128 : decode b_Mo_text 128 = .ok (.goto 12, 3) := by decide +kernel
theorem d_Mo_text_131 : decode b_Mo_text 131 = .ok (.sipush 224, 3) := by decide +kernel
theorem d_Mo_text_134 : decode b_Mo_text 134 = .ok (.iload 5, 2) := by decide +kernel
theorem d_Mo_text_136 : decode b_Mo_text 136 = .ok (.bipush 12, 2) := by decide +kernel
theorem d_Mo_text_138 : decode b_Mo_text 138 = .ok (.ishr, 1) := by decide +kernel
theorem d_Mo_text_139 : decode b_Mo_text 139 = .ok (.ior, 1) := by decide +kernel
theorem d_Mo_text_140 : decode b_Mo_text 140 = .ok (.ireturn, 1) := by decide +kernel
theorem d_Mo_text_141 : decode b_Mo_text 141 = .ok (.iload_n 3, 1) := by decide +kernel
theorem d_Mo_text_142 : decode b_Mo_text 142 = .ok (.iload 6, 2) := by decide +kernel
theorem d_Mo_text_144 : decode b_Mo_text 144 = .ok (.isub, 1) := by decide +kernel
theorem d_Mo_text_145 : decode b_Mo_text 145 = .ok (.istore_n 3, 1) := by decide +kernel
theorem d_Mo_text_146 : decode b_Mo_text 146 = .ok (.iinc 4 1, 3) := by decide +kernel
theorem d_Mo_text_149 : decode b_Mo_text 149 = .ok (.goto (-117), 3) := by decide +kernel
theorem d_Mo_text_152 : decode b_Mo_text 152 = .ok (.iconst (-1), 1) := by decide +kernel
theorem d_Mo_text_153 : decode b_Mo_text 153 = .ok (.ireturn, 1) := by decide +kernel
theorem d_Mo_seconds_0 : decode b_Mo_seconds 0 = .ok (.sipush 1980, 3) := by decide +kernel
theorem d_Mo_seconds_3 : decode b_Mo_seconds 3 = .ok (.iload_n 0, 1) := by decide +kernel
theorem d_Mo_seconds_4 : decode b_Mo_seconds 4 = .ok (.bipush 9, 2) := by decide +kernel
theorem d_Mo_seconds_6 : decode b_Mo_seconds 6 = .ok (.ishr, 1) := by decide +kernel
theorem d_Mo_seconds_7 : decode b_Mo_seconds 7 = .ok (.iadd, 1) := by decide +kernel
theorem d_Mo_seconds_8 : decode b_Mo_seconds 8 = .ok (.istore_n 2, 1) := by decide +kernel
theorem d_Mo_seconds_9 : decode b_Mo_seconds 9 = .ok (.iload_n 0, 1) := by decide +kernel
theorem d_Mo_seconds_10 : decode b_Mo_seconds 10 = .ok (.iconst 5, 1) := by decide +kernel
theorem d_Mo_seconds_11 : decode b_Mo_seconds 11 = .ok (.ishr, 1) := by decide +kernel
theorem d_Mo_seconds_12 : decode b_Mo_seconds 12 = .ok (.bipush 15, 2) := by decide +kernel
theorem d_Mo_seconds_14 : decode b_Mo_seconds 14 = .ok (.iand, 1) := by decide +kernel
theorem d_Mo_seconds_15 : decode b_Mo_seconds 15 = .ok (.istore_n 3, 1) := by decide +kernel
theorem d_Mo_seconds_16 : decode b_Mo_seconds 16 = .ok (.iload_n 0, 1) := by decide +kernel
theorem d_Mo_seconds_17 : decode b_Mo_seconds 17 = .ok (.bipush 31, 2) := by decide +kernel
theorem d_Mo_seconds_19 : decode b_Mo_seconds 19 = .ok (.iand, 1) := by decide +kernel
theorem d_Mo_seconds_20 : decode b_Mo_seconds 20 = .ok (.iconst 1, 1) := by decide +kernel
theorem d_Mo_seconds_21 : decode b_Mo_seconds 21 = .ok (.isub, 1) := by decide +kernel
theorem d_Mo_seconds_22 : decode b_Mo_seconds 22 = .ok (.i2l, 1) := by decide +kernel
theorem d_Mo_seconds_23 : decode b_Mo_seconds 23 = .ok (.lstore 4, 2) := by decide +kernel
theorem d_Mo_seconds_25 : decode b_Mo_seconds 25 = .ok (.sipush 1970, 3) := by decide +kernel
theorem d_Mo_seconds_28 : decode b_Mo_seconds 28 = .ok (.istore 6, 2) := by decide +kernel
theorem d_Mo_seconds_30 : decode b_Mo_seconds 30 = .ok (.iload 6, 2) := by decide +kernel
theorem d_Mo_seconds_32 : decode b_Mo_seconds 32 = .ok (.iload_n 2, 1) := by decide +kernel
theorem d_Mo_seconds_33 : decode b_Mo_seconds 33 = .ok (.if_icmp .ge 31, 3) := by decide +kernel
theorem d_Mo_seconds_36 : decode b_Mo_seconds 36 = .ok (.lload 4, 2) := by decide +kernel
theorem d_Mo_seconds_38 : decode b_Mo_seconds 38 = .ok (.iload 6, 2) := by decide +kernel
theorem d_Mo_seconds_40 : decode b_Mo_seconds 40 = .ok (.invokestatic 240, 3) := by decide +kernel
theorem d_Mo_seconds_43 : decode b_Mo_seconds 43 = .ok (.ifCond .eq 9, 3) := by decide +kernel
theorem d_Mo_seconds_46 : decode b_Mo_seconds 46 = .ok (.ldc2_w 373, 3) := by decide +kernel
theorem d_Mo_seconds_49 : decode b_Mo_seconds 49 = .ok (.goto 6, 3) := by decide +kernel
theorem d_Mo_seconds_52 : decode b_Mo_seconds 52 = .ok (.ldc2_w 375, 3) := by decide +kernel
theorem d_Mo_seconds_55 : decode b_Mo_seconds 55 = .ok (.ladd, 1) := by decide +kernel
theorem d_Mo_seconds_56 : decode b_Mo_seconds 56 = .ok (.lstore 4, 2) := by decide +kernel
theorem d_Mo_seconds_58 : decode b_Mo_seconds 58 = .ok (.iinc 6 1, 3) := by decide +kernel
theorem d_Mo_seconds_61 : decode b_Mo_seconds 61 = .ok (.goto (-31), 3) := by decide +kernel
theorem d_Mo_seconds_64 : decode b_Mo_seconds 64 = .ok (.iconst 1, 1) := by decide +kernel
theorem d_Mo_seconds_65 : decode b_Mo_seconds 65 = .ok (.istore 6, 2) := by decide +kernel
theorem d_Mo_seconds_67 : decode b_Mo_seconds 67 = .ok (.iload 6, 2) := by decide +kernel
theorem d_Mo_seconds_69 : decode b_Mo_seconds 69 = .ok (.iload_n 3, 1) := by decide +kernel
theorem d_Mo_seconds_70 : decode b_Mo_seconds 70 = .ok (.if_icmp .ge 21, 3) := by decide +kernel
theorem d_Mo_seconds_73 : decode b_Mo_seconds 73 = .ok (.lload 4, 2) := by decide +kernel
theorem d_Mo_seconds_75 : decode b_Mo_seconds 75 = .ok (.iload 6, 2) := by decide +kernel
theorem d_Mo_seconds_77 : decode b_Mo_seconds 77 = .ok (.iload_n 2, 1) := by decide +kernel
theorem d_Mo_seconds_78 : decode b_Mo_seconds 78 = .ok (.invokestatic 244, 3) := by decide +kernel
theorem d_Mo_seconds_81 : decode b_Mo_seconds 81 = .ok (.i2l, 1) := by decide +kernel
theorem d_Mo_seconds_82 : decode b_Mo_seconds 82 = .ok (.ladd, 1) := by decide +kernel
theorem d_Mo_seconds_83 : decode b_Mo_seconds 83 = .ok (.lstore 4, 2) := by decide +kernel
theorem d_Mo_seconds_85 : decode b_Mo_seconds 85 = .ok (.iinc 6 1, 3) := by decide +kernel
theorem d_Mo_seconds_88 : decode b_Mo_seconds 88 = .ok (.goto (-21), 3) := by decide +kernel
theorem d_Mo_seconds_91 : decode b_Mo_seconds 91 = .ok (.ldc2_w 377, 3) := by decide +kernel
theorem d_Mo_seconds_94 : decode b_Mo_seconds 94 = .ok (.lload 4, 2) := by decide +kernel
theorem d_Mo_seconds_96 : decode b_Mo_seconds 96 = .ok (.lmul, 1) := by decide +kernel
theorem d_Mo_seconds_97 : decode b_Mo_seconds 97 = .ok (.ldc2_w 379, 3) := by decide +kernel
theorem d_Mo_seconds_100 : decode b_Mo_seconds 100 = .ok (.iload_n 1, 1) := by decide +kernel
theorem d_Mo_seconds_101 : decode b_Mo_seconds 101 = .ok (.bipush 11, 2) := by decide +kernel
theorem d_Mo_seconds_103 : decode b_Mo_seconds 103 = .ok (.ishr, 1) := by decide +kernel
theorem d_Mo_seconds_104 : decode b_Mo_seconds 104 = .ok (.i2l, 1) := by decide +kernel
theorem d_Mo_seconds_105 : decode b_Mo_seconds 105 = .ok (.lmul, 1) := by decide +kernel
theorem d_Mo_seconds_106 : decode b_Mo_seconds 106 = .ok (.ladd, 1) := by decide +kernel
theorem d_Mo_seconds_107 : decode b_Mo_seconds 107 = .ok (.ldc2_w 381, 3) := by decide +kernel
theorem d_Mo_seconds_110 : decode b_Mo_seconds 110 = .ok (.iload_n 1, 1) := by decide +kernel
theorem d_Mo_seconds_111 : decode b_Mo_seconds 111 = .ok (.iconst 5, 1) := by decide +kernel
theorem d_Mo_seconds_112 : decode b_Mo_seconds 112 = .ok (.ishr, 1) := by decide +kernel
theorem d_Mo_seconds_113 : decode b_Mo_seconds 113 = .ok (.bipush 63, 2) := by decide +kernel
theorem d_Mo_seconds_115 : decode b_Mo_seconds 115 = .ok (.iand, 1) := by decide +kernel
theorem d_Mo_seconds_116 : decode b_Mo_seconds 116 = .ok (.i2l, 1) := by decide +kernel
theorem d_Mo_seconds_117 : decode b_Mo_seconds 117 = .ok (.lmul, 1) := by decide +kernel
theorem d_Mo_seconds_118 : decode b_Mo_seconds 118 = .ok (.ladd, 1) := by decide +kernel
theorem d_Mo_seconds_119 : decode b_Mo_seconds 119 = .ok (.ldc2_w 323, 3) := by decide +kernel
theorem d_Mo_seconds_122 : decode b_Mo_seconds 122 = .ok (.iload_n 1, 1) := by decide +kernel
theorem d_Mo_seconds_123 : decode b_Mo_seconds 123 = .ok (.bipush 31, 2) := by decide +kernel
theorem d_Mo_seconds_125 : decode b_Mo_seconds 125 = .ok (.iand, 1) := by decide +kernel
theorem d_Mo_seconds_126 : decode b_Mo_seconds 126 = .ok (.i2l, 1) := by decide +kernel
theorem d_Mo_seconds_127 : decode b_Mo_seconds 127 = .ok (.lmul, 1) := by decide +kernel
theorem d_Mo_seconds_128 : decode b_Mo_seconds 128 = .ok (.ladd, 1) := by decide +kernel
theorem d_Mo_seconds_129 : decode b_Mo_seconds 129 = .ok (.lreturn, 1) := by decide +kernel
theorem d_Mo_timeOf_0 : decode b_Mo_timeOf 0 = .ok (.aload_n 0, 1) := by decide +kernel
theorem d_Mo_timeOf_1 : decode b_Mo_timeOf 1 = .ok (.getfield 27, 3) := by decide +kernel
theorem d_Mo_timeOf_4 : decode b_Mo_timeOf 4 = .ok (.iload_n 1, 1) := by decide +kernel
theorem d_Mo_timeOf_5 : decode b_Mo_timeOf 5 = .ok (.iaload, 1) := by decide +kernel
theorem d_Mo_timeOf_6 : decode b_Mo_timeOf 6 = .ok (.istore_n 3, 1) := by decide +kernel
theorem d_Mo_timeOf_7 : decode b_Mo_timeOf 7 = .ok (.iload_n 2, 1) := by decide +kernel
theorem d_Mo_timeOf_8 : decode b_Mo_timeOf 8 = .ok (.ifCond .ne 27, 3) := by decide +kernel
theorem d_Mo_timeOf_11 : decode b_Mo_timeOf 11 = .ok (.aload_n 0, 1) := by decide +kernel
theorem d_Mo_timeOf_12 : decode b_Mo_timeOf 12 = .ok (.iload_n 3, 1) := by decide +kernel
theorem d_Mo_timeOf_13 : decode b_Mo_timeOf 13 = .ok (.bipush 18, 2) := by decide +kernel
theorem d_Mo_timeOf_15 : decode b_Mo_timeOf 15 = .ok (.iadd, 1) := by decide +kernel
theorem d_Mo_timeOf_16 : decode b_Mo_timeOf 16 = .ok (.invokevirtual 107, 3) := by decide +kernel
theorem d_Mo_timeOf_19 : decode b_Mo_timeOf 19 = .ok (.ifCond .eq 16, 3) := by decide +kernel
theorem d_Mo_timeOf_22 : decode b_Mo_timeOf 22 = .ok (.aload_n 0, 1) := by decide +kernel
theorem d_Mo_timeOf_23 : decode b_Mo_timeOf 23 = .ok (.iload_n 3, 1) := by decide +kernel
theorem d_Mo_timeOf_24 : decode b_Mo_timeOf 24 = .ok (.bipush 18, 2) := by decide +kernel
theorem d_Mo_timeOf_26 : decode b_Mo_timeOf 26 = .ok (.iadd, 1) := by decide +kernel
theorem d_Mo_timeOf_27 : decode b_Mo_timeOf 27 = .ok (.invokevirtual 107, 3) := by decide +kernel
theorem d_Mo_timeOf_30 : decode b_Mo_timeOf 30 = .ok (.iconst 0, 1) := by decide +kernel
theorem d_Mo_timeOf_31 : decode b_Mo_timeOf 31 = .ok (.invokestatic 383, 3) := by decide +kernel
theorem d_Mo_timeOf_34 : decode b_Mo_timeOf 34 = .ok (.lreturn, 1) := by decide +kernel
theorem d_Mo_timeOf_35 : decode b_Mo_timeOf 35 = .ok (.iload_n 2, 1) := by decide +kernel
theorem d_Mo_timeOf_36 : decode b_Mo_timeOf 36 = .ok (.iconst 1, 1) := by decide +kernel
theorem d_Mo_timeOf_37 : decode b_Mo_timeOf 37 = .ok (.if_icmp .ne 47, 3) := by decide +kernel
theorem d_Mo_timeOf_40 : decode b_Mo_timeOf 40 = .ok (.aload_n 0, 1) := by decide +kernel
theorem d_Mo_timeOf_41 : decode b_Mo_timeOf 41 = .ok (.iload_n 3, 1) := by decide +kernel
theorem d_Mo_timeOf_42 : decode b_Mo_timeOf 42 = .ok (.bipush 16, 2) := by decide +kernel
theorem d_Mo_timeOf_44 : decode b_Mo_timeOf 44 = .ok (.iadd, 1) := by decide +kernel
theorem d_Mo_timeOf_45 : decode b_Mo_timeOf 45 = .ok (.invokevirtual 107, 3) := by decide +kernel
theorem d_Mo_timeOf_48 : decode b_Mo_timeOf 48 = .ok (.ifCond .eq 36, 3) := by decide +kernel
theorem d_Mo_timeOf_51 : decode b_Mo_timeOf 51 = .ok (.aload_n 0, 1) := by decide +kernel
theorem d_Mo_timeOf_52 : decode b_Mo_timeOf 52 = .ok (.iload_n 3, 1) := by decide +kernel
theorem d_Mo_timeOf_53 : decode b_Mo_timeOf 53 = .ok (.bipush 16, 2) := by decide +kernel
theorem d_Mo_timeOf_55 : decode b_Mo_timeOf 55 = .ok (.iadd, 1) := by decide +kernel
theorem d_Mo_timeOf_56 : decode b_Mo_timeOf 56 = .ok (.invokevirtual 107, 3) := by decide +kernel
theorem d_Mo_timeOf_59 : decode b_Mo_timeOf 59 = .ok (.aload_n 0, 1) := by decide +kernel
theorem d_Mo_timeOf_60 : decode b_Mo_timeOf 60 = .ok (.iload_n 3, 1) := by decide +kernel
theorem d_Mo_timeOf_61 : decode b_Mo_timeOf 61 = .ok (.bipush 14, 2) := by decide +kernel
theorem d_Mo_timeOf_63 : decode b_Mo_timeOf 63 = .ok (.iadd, 1) := by decide +kernel
theorem d_Mo_timeOf_64 : decode b_Mo_timeOf 64 = .ok (.invokevirtual 107, 3) := by decide +kernel
theorem d_Mo_timeOf_67 : decode b_Mo_timeOf 67 = .ok (.invokestatic 383, 3) := by decide +kernel
theorem d_Mo_timeOf_70 : decode b_Mo_timeOf 70 = .ok (.aload_n 0, 1) := by decide +kernel
theorem d_Mo_timeOf_71 : decode b_Mo_timeOf 71 = .ok (.iload_n 3, 1) := by decide +kernel
theorem d_Mo_timeOf_72 : decode b_Mo_timeOf 72 = .ok (.bipush 13, 2) := by decide +kernel
theorem d_Mo_timeOf_74 : decode b_Mo_timeOf 74 = .ok (.iadd, 1) := by decide +kernel
theorem d_Mo_timeOf_75 : decode b_Mo_timeOf 75 = .ok (.invokevirtual 103, 3) := by decide +kernel
theorem d_Mo_timeOf_78 : decode b_Mo_timeOf 78 = .ok (.bipush 100, 2) := by decide +kernel
theorem d_Mo_timeOf_80 : decode b_Mo_timeOf 80 = .ok (.idiv, 1) := by decide +kernel
theorem d_Mo_timeOf_81 : decode b_Mo_timeOf 81 = .ok (.i2l, 1) := by decide +kernel
theorem d_Mo_timeOf_82 : decode b_Mo_timeOf 82 = .ok (.ladd, 1) := by decide +kernel
theorem d_Mo_timeOf_83 : decode b_Mo_timeOf 83 = .ok (.lreturn, 1) := by decide +kernel
theorem d_Mo_timeOf_84 : decode b_Mo_timeOf 84 = .ok (.aload_n 0, 1) := by decide +kernel
theorem d_Mo_timeOf_85 : decode b_Mo_timeOf 85 = .ok (.iload_n 3, 1) := by decide +kernel
theorem d_Mo_timeOf_86 : decode b_Mo_timeOf 86 = .ok (.bipush 24, 2) := by decide +kernel
theorem d_Mo_timeOf_88 : decode b_Mo_timeOf 88 = .ok (.iadd, 1) := by decide +kernel
theorem d_Mo_timeOf_89 : decode b_Mo_timeOf 89 = .ok (.invokevirtual 107, 3) := by decide +kernel
theorem d_Mo_timeOf_92 : decode b_Mo_timeOf 92 = .ok (.aload_n 0, 1) := by decide +kernel
theorem d_Mo_timeOf_93 : decode b_Mo_timeOf 93 = .ok (.iload_n 3, 1) := by decide +kernel
theorem d_Mo_timeOf_94 : decode b_Mo_timeOf 94 = .ok (.bipush 22, 2) := by decide +kernel
theorem d_Mo_timeOf_96 : decode b_Mo_timeOf 96 = .ok (.iadd, 1) := by decide +kernel
theorem d_Mo_timeOf_97 : decode b_Mo_timeOf 97 = .ok (.invokevirtual 107, 3) := by decide +kernel
theorem d_Mo_timeOf_100 : decode b_Mo_timeOf 100 = .ok (.invokestatic 383, 3) := by decide +kernel
theorem d_Mo_timeOf_103 : decode b_Mo_timeOf 103 = .ok (.lreturn, 1) := by decide +kernel
theorem d_Mo_free_0 : decode b_Mo_free 0 = .ok (.iconst 0, 1) := by decide +kernel
theorem d_Mo_free_1 : decode b_Mo_free 1 = .ok (.istore_n 1, 1) := by decide +kernel
theorem d_Mo_free_2 : decode b_Mo_free 2 = .ok (.iconst 2, 1) := by decide +kernel
theorem d_Mo_free_3 : decode b_Mo_free 3 = .ok (.istore_n 2, 1) := by decide +kernel
theorem d_Mo_free_4 : decode b_Mo_free 4 = .ok (.iload_n 2, 1) := by decide +kernel
theorem d_Mo_free_5 : decode b_Mo_free 5 = .ok (.aload_n 0, 1) := by decide +kernel
theorem d_Mo_free_6 : decode b_Mo_free 6 = .ok (.getfield 132, 3) := by decide +kernel
theorem d_Mo_free_9 : decode b_Mo_free 9 = .ok (.iconst 2, 1) := by decide +kernel
theorem d_Mo_free_10 : decode b_Mo_free 10 = .ok (.iadd, 1) := by decide +kernel
theorem d_Mo_free_11 : decode b_Mo_free 11 = .ok (.if_icmp .ge 25, 3) := by decide +kernel
theorem d_Mo_free_14 : decode b_Mo_free 14 = .ok (.iload_n 1, 1) := by decide +kernel
theorem d_Mo_free_15 : decode b_Mo_free 15 = .ok (.aload_n 0, 1) := by decide +kernel
theorem d_Mo_free_16 : decode b_Mo_free 16 = .ok (.iload_n 2, 1) := by decide +kernel
theorem d_Mo_free_17 : decode b_Mo_free 17 = .ok (.invokevirtual 149, 3) := by decide +kernel
theorem d_Mo_free_20 : decode b_Mo_free 20 = .ok (.ifCond .ne 7, 3) := by decide +kernel
theorem d_Mo_free_23 : decode b_Mo_free 23 = .ok (.iconst 1, 1) := by decide +kernel
theorem d_Mo_free_24 : decode b_Mo_free 24 = .ok (.goto 4, 3) := by decide +kernel
theorem d_Mo_free_27 : decode b_Mo_free 27 = .ok (.iconst 0, 1) := by decide +kernel
theorem d_Mo_free_28 : decode b_Mo_free 28 = .ok (.iadd, 1) := by decide +kernel
theorem d_Mo_free_29 : decode b_Mo_free 29 = .ok (.istore_n 1, 1) := by decide +kernel
theorem d_Mo_free_30 : decode b_Mo_free 30 = .ok (.iinc 2 1, 3) := by decide +kernel
theorem d_Mo_free_33 : decode b_Mo_free 33 = .ok (.goto (-29), 3) := by decide +kernel
theorem d_Mo_free_36 : decode b_Mo_free 36 = .ok (.iload_n 1, 1) := by decide +kernel
theorem d_Mo_free_37 : decode b_Mo_free 37 = .ok (.ireturn, 1) := by decide +kernel
theorem d_Mo_take_0 : decode b_Mo_take 0 = .ok (.iconst 2, 1) := by decide +kernel
theorem d_Mo_take_1 : decode b_Mo_take 1 = .ok (.istore_n 1, 1) := by decide +kernel
theorem d_Mo_take_2 : decode b_Mo_take 2 = .ok (.aload_n 0, 1) := by decide +kernel
theorem d_Mo_take_3 : decode b_Mo_take 3 = .ok (.iload_n 1, 1) := by decide +kernel
theorem d_Mo_take_4 : decode b_Mo_take 4 = .ok (.invokevirtual 149, 3) := by decide +kernel
theorem d_Mo_take_7 : decode b_Mo_take 7 = .ok (.ifCond .eq 9, 3) := by decide +kernel
theorem d_Mo_take_10 : decode b_Mo_take 10 = .ok (.iinc 1 1, 3) := by decide +kernel
theorem d_Mo_take_13 : decode b_Mo_take 13 = .ok (.goto (-11), 3) := by decide +kernel
theorem d_Mo_take_16 : decode b_Mo_take 16 = .ok (.aload_n 0, 1) := by decide +kernel
theorem d_Mo_take_17 : decode b_Mo_take 17 = .ok (.iload_n 1, 1) := by decide +kernel
theorem d_Mo_take_18 : decode b_Mo_take 18 = .ok (.ldc 123, 2) := by decide +kernel
theorem d_Mo_take_20 : decode b_Mo_take 20 = .ok (.invokevirtual 337, 3) := by decide +kernel
theorem d_Mo_take_23 : decode b_Mo_take 23 = .ok (.iconst 0, 1) := by decide +kernel
theorem d_Mo_take_24 : decode b_Mo_take 24 = .ok (.istore_n 2, 1) := by decide +kernel
theorem d_Mo_take_25 : decode b_Mo_take 25 = .ok (.iload_n 2, 1) := by decide +kernel
theorem d_Mo_take_26 : decode b_Mo_take 26 = .ok (.sipush 512, 3) := by decide +kernel
theorem d_Mo_take_29 : decode b_Mo_take 29 = .ok (.aload_n 0, 1) := by decide +kernel
theorem d_Mo_take_30 : decode b_Mo_take 30 = .ok (.getfield 138, 3) := by decide +kernel
theorem d_Mo_take_33 : decode b_Mo_take 33 = .ok (.imul, 1) := by decide +kernel
theorem d_Mo_take_34 : decode b_Mo_take 34 = .ok (.if_icmp .ge 22, 3) := by decide +kernel
theorem d_Mo_take_37 : decode b_Mo_take 37 = .ok (.aload_n 0, 1) := by decide +kernel
theorem d_Mo_take_38 : decode b_Mo_take 38 = .ok (.getfield 8, 3) := by decide +kernel
theorem d_Mo_take_41 : decode b_Mo_take 41 = .ok (.aload_n 0, 1) := by decide +kernel
theorem d_Mo_take_42 : decode b_Mo_take 42 = .ok (.iload_n 1, 1) := by decide +kernel
theorem d_Mo_take_43 : decode b_Mo_take 43 = .ok (.invokevirtual 159, 3) := by decide +kernel
theorem d_Mo_take_46 : decode b_Mo_take 46 = .ok (.iload_n 2, 1) := by decide +kernel
theorem d_Mo_take_47 : decode b_Mo_take 47 = .ok (.iadd, 1) := by decide +kernel
theorem d_Mo_take_48 : decode b_Mo_take 48 = .ok (.iconst 0, 1) := by decide +kernel
theorem d_Mo_take_49 : decode b_Mo_take 49 = .ok (.bastore, 1) := by decide +kernel
theorem d_Mo_take_50 : decode b_Mo_take 50 = .ok (.iinc 2 1, 3) := by decide +kernel
theorem d_Mo_take_53 : decode b_Mo_take 53 = .ok (.goto (-28), 3) := by decide +kernel
theorem d_Mo_take_56 : decode b_Mo_take 56 = .ok (.iload_n 1, 1) := by decide +kernel
theorem d_Mo_take_57 : decode b_Mo_take 57 = .ok (.ireturn, 1) := by decide +kernel
theorem d_Mo_isBrief_0 : decode b_Mo_isBrief 0 = .ok (.iconst 0, 1) := by decide +kernel
theorem d_Mo_isBrief_1 : decode b_Mo_isBrief 1 = .ok (.istore_n 1, 1) := by decide +kernel
theorem d_Mo_isBrief_2 : decode b_Mo_isBrief 2 = .ok (.iload_n 1, 1) := by decide +kernel
theorem d_Mo_isBrief_3 : decode b_Mo_isBrief 3 = .ok (.aload_n 0, 1) := by decide +kernel
theorem d_Mo_isBrief_4 : decode b_Mo_isBrief 4 = .ok (.getfield 224, 3) := by decide +kernel
theorem d_Mo_isBrief_7 : decode b_Mo_isBrief 7 = .ok (.if_icmp .ge 20, 3) := by decide +kernel
theorem d_Mo_isBrief_10 : decode b_Mo_isBrief 10 = .ok (.aload_n 0, 1) := by decide +kernel
theorem d_Mo_isBrief_11 : decode b_Mo_isBrief 11 = .ok (.getfield 63, 3) := by decide +kernel
theorem d_Mo_isBrief_14 : decode b_Mo_isBrief 14 = .ok (.iload_n 1, 1) := by decide +kernel
theorem d_Mo_isBrief_15 : decode b_Mo_isBrief 15 = .ok (.caload, 1) := by decide +kernel
theorem d_Mo_isBrief_16 : decode b_Mo_isBrief 16 = .ok (.bipush 46, 2) := by decide +kernel
theorem d_Mo_isBrief_18 : decode b_Mo_isBrief 18 = .ok (.if_icmp .eq 9, 3) := by decide +kernel
theorem d_Mo_isBrief_21 : decode b_Mo_isBrief 21 = .ok (.iinc 1 1, 3) := by decide +kernel
theorem d_Mo_isBrief_24 : decode b_Mo_isBrief 24 = .ok (.goto (-22), 3) := by decide +kernel
theorem d_Mo_isBrief_27 : decode b_Mo_isBrief 27 = .ok (.iload_n 1, 1) := by decide +kernel
theorem d_Mo_isBrief_28 : decode b_Mo_isBrief 28 = .ok (.ifCond .eq 37, 3) := by decide +kernel
theorem d_Mo_isBrief_31 : decode b_Mo_isBrief 31 = .ok (.iload_n 1, 1) := by decide +kernel
theorem d_Mo_isBrief_32 : decode b_Mo_isBrief 32 = .ok (.bipush 8, 2) := by decide +kernel
theorem d_Mo_isBrief_34 : decode b_Mo_isBrief 34 = .ok (.if_icmp .gt 31, 3) := by decide +kernel
theorem d_Mo_isBrief_37 : decode b_Mo_isBrief 37 = .ok (.aload_n 0, 1) := by decide +kernel
theorem d_Mo_isBrief_38 : decode b_Mo_isBrief 38 = .ok (.getfield 224, 3) := by decide +kernel
theorem d_Mo_isBrief_41 : decode b_Mo_isBrief 41 = .ok (.iload_n 1, 1) := by decide +kernel
theorem d_Mo_isBrief_42 : decode b_Mo_isBrief 42 = .ok (.isub, 1) := by decide +kernel
theorem d_Mo_isBrief_43 : decode b_Mo_isBrief 43 = .ok (.iconst 4, 1) := by decide +kernel
theorem d_Mo_isBrief_44 : decode b_Mo_isBrief 44 = .ok (.if_icmp .gt 21, 3) := by decide +kernel
theorem d_Mo_isBrief_47 : decode b_Mo_isBrief 47 = .ok (.iload_n 1, 1) := by decide +kernel
theorem d_Mo_isBrief_48 : decode b_Mo_isBrief 48 = .ok (.aload_n 0, 1) := by decide +kernel
theorem d_Mo_isBrief_49 : decode b_Mo_isBrief 49 = .ok (.getfield 224, 3) := by decide +kernel
theorem d_Mo_isBrief_52 : decode b_Mo_isBrief 52 = .ok (.if_icmp .ge 15, 3) := by decide +kernel
theorem d_Mo_isBrief_55 : decode b_Mo_isBrief 55 = .ok (.aload_n 0, 1) := by decide +kernel
theorem d_Mo_isBrief_56 : decode b_Mo_isBrief 56 = .ok (.getfield 224, 3) := by decide +kernel
theorem d_Mo_isBrief_59 : decode b_Mo_isBrief 59 = .ok (.iload_n 1, 1) := by decide +kernel
theorem d_Mo_isBrief_60 : decode b_Mo_isBrief 60 = .ok (.isub, 1) := by decide +kernel
theorem d_Mo_isBrief_61 : decode b_Mo_isBrief 61 = .ok (.iconst 2, 1) := by decide +kernel
theorem d_Mo_isBrief_62 : decode b_Mo_isBrief 62 = .ok (.if_icmp .ge 5, 3) := by decide +kernel
theorem d_Mo_isBrief_65 : decode b_Mo_isBrief 65 = .ok (.iconst 0, 1) := by decide +kernel
theorem d_Mo_isBrief_66 : decode b_Mo_isBrief 66 = .ok (.ireturn, 1) := by decide +kernel
theorem d_Mo_isBrief_67 : decode b_Mo_isBrief 67 = .ok (.iconst 0, 1) := by decide +kernel
theorem d_Mo_isBrief_68 : decode b_Mo_isBrief 68 = .ok (.istore_n 2, 1) := by decide +kernel
theorem d_Mo_isBrief_69 : decode b_Mo_isBrief 69 = .ok (.iload_n 2, 1) := by decide +kernel
theorem d_Mo_isBrief_70 : decode b_Mo_isBrief 70 = .ok (.bipush 11, 2) := by decide +kernel
theorem d_Mo_isBrief_72 : decode b_Mo_isBrief 72 = .ok (.if_icmp .ge 17, 3) := by decide +kernel
theorem d_Mo_isBrief_75 : decode b_Mo_isBrief 75 = .ok (.aload_n 0, 1) := by decide +kernel
theorem d_Mo_isBrief_76 : decode b_Mo_isBrief 76 = .ok (.getfield 66, 3) := by decide +kernel
theorem d_Mo_isBrief_79 : decode b_Mo_isBrief 79 = .ok (.iload_n 2, 1) := by decide +kernel
theorem d_Mo_isBrief_80 : decode b_Mo_isBrief 80 = .ok (.bipush 32, 2) := by decide +kernel
theorem d_Mo_isBrief_82 : decode b_Mo_isBrief 82 = .ok (.iastore, 1) := by decide +kernel
theorem d_Mo_isBrief_83 : decode b_Mo_isBrief 83 = .ok (.iinc 2 1, 3) := by decide +kernel
theorem d_Mo_isBrief_86 : decode b_Mo_isBrief 86 = .ok (.goto (-17), 3) := by decide +kernel
theorem d_Mo_isBrief_89 : decode b_Mo_isBrief 89 = .ok (.iconst 0, 1) := by decide +kernel
theorem d_Mo_isBrief_90 : decode b_Mo_isBrief 90 = .ok (.istore_n 2, 1) := by decide +kernel
theorem d_Mo_isBrief_91 : decode b_Mo_isBrief 91 = .ok (.iload_n 2, 1) := by decide +kernel
theorem d_Mo_isBrief_92 : decode b_Mo_isBrief 92 = .ok (.aload_n 0, 1) := by decide +kernel
theorem d_Mo_isBrief_93 : decode b_Mo_isBrief 93 = .ok (.getfield 224, 3) := by decide +kernel
theorem d_Mo_isBrief_96 : decode b_Mo_isBrief 96 = .ok (.if_icmp .ge 59, 3) := by decide +kernel
theorem d_Mo_isBrief_99 : decode b_Mo_isBrief 99 = .ok (.iload_n 2, 1) := by decide +kernel
theorem d_Mo_isBrief_100 : decode b_Mo_isBrief 100 = .ok (.iload_n 1, 1) := by decide +kernel
theorem d_Mo_isBrief_101 : decode b_Mo_isBrief 101 = .ok (.if_icmp .eq 17, 3) := by decide +kernel
theorem d_Mo_isBrief_104 : decode b_Mo_isBrief 104 = .ok (.aload_n 0, 1) := by decide +kernel
theorem d_Mo_isBrief_105 : decode b_Mo_isBrief 105 = .ok (.getfield 63, 3) := by decide +kernel
theorem d_Mo_isBrief_108 : decode b_Mo_isBrief 108 = .ok (.iload_n 2, 1) := by decide +kernel
theorem d_Mo_isBrief_109 : decode b_Mo_isBrief 109 = .ok (.caload, 1) := by decide +kernel
theorem d_Mo_isBrief_110 : decode b_Mo_isBrief 110 = .ok (.invokestatic 237, 3) := by decide +kernel
theorem d_Mo_isBrief_113 : decode b_Mo_isBrief 113 = .ok (.ifCond .ne 5, 3) := by decide +kernel
theorem d_Mo_isBrief_116 : decode b_Mo_isBrief 116 = .ok (.iconst 0, 1) := by decide +kernel
theorem d_Mo_isBrief_117 : decode b_Mo_isBrief 117 = .ok (.ireturn, 1) := by decide +kernel
theorem d_Mo_isBrief_118 : decode b_Mo_isBrief 118 = .ok (.iload_n 2, 1) := by decide +kernel
theorem d_Mo_isBrief_119 : decode b_Mo_isBrief 119 = .ok (.iload_n 1, 1) := by decide +kernel
theorem d_Mo_isBrief_120 : decode b_Mo_isBrief 120 = .ok (.if_icmp .eq 29, 3) := by decide +kernel
theorem d_Mo_isBrief_123 : decode b_Mo_isBrief 123 = .ok (.aload_n 0, 1) := by decide +kernel
theorem d_Mo_isBrief_124 : decode b_Mo_isBrief 124 = .ok (.getfield 66, 3) := by decide +kernel
theorem d_Mo_isBrief_127 : decode b_Mo_isBrief 127 = .ok (.iload_n 2, 1) := by decide +kernel
theorem d_Mo_isBrief_128 : decode b_Mo_isBrief 128 = .ok (.iload_n 1, 1) := by decide +kernel
theorem d_Mo_isBrief_129 : decode b_Mo_isBrief 129 = .ok (.if_icmp .ge 7, 3) := by decide +kernel
theorem d_Mo_isBrief_132 : decode b_Mo_isBrief 132 = .ok (.iload_n 2, 1) := by decide +kernel
theorem d_Mo_isBrief_133 : decode b_Mo_isBrief 133 = .ok (.goto 9, 3) := by decide +kernel
theorem d_Mo_isBrief_136 : decode b_Mo_isBrief 136 = .ok (.bipush 7, 2) := by decide +kernel
theorem d_Mo_isBrief_138 : decode b_Mo_isBrief 138 = .ok (.iload_n 2, 1) := by decide +kernel
theorem d_Mo_isBrief_139 : decode b_Mo_isBrief 139 = .ok (.iadd, 1) := by decide +kernel
theorem d_Mo_isBrief_140 : decode b_Mo_isBrief 140 = .ok (.iload_n 1, 1) := by decide +kernel
theorem d_Mo_isBrief_141 : decode b_Mo_isBrief 141 = .ok (.isub, 1) := by decide +kernel
theorem d_Mo_isBrief_142 : decode b_Mo_isBrief 142 = .ok (.aload_n 0, 1) := by decide +kernel
theorem d_Mo_isBrief_143 : decode b_Mo_isBrief 143 = .ok (.getfield 63, 3) := by decide +kernel
theorem d_Mo_isBrief_146 : decode b_Mo_isBrief 146 = .ok (.iload_n 2, 1) := by decide +kernel
theorem d_Mo_isBrief_147 : decode b_Mo_isBrief 147 = .ok (.caload, 1) := by decide +kernel
theorem d_Mo_isBrief_148 : decode b_Mo_isBrief 148 = .ok (.iastore, 1) := by decide +kernel
theorem d_Mo_isBrief_149 : decode b_Mo_isBrief 149 = .ok (.iinc 2 1, 3) := by decide +kernel
theorem d_Mo_isBrief_152 : decode b_Mo_isBrief 152 = .ok (.goto (-61), 3) := by decide +kernel
theorem d_Mo_isBrief_155 : decode b_Mo_isBrief 155 = .ok (.iconst 1, 1) := by decide +kernel
theorem d_Mo_isBrief_156 : decode b_Mo_isBrief 156 = .ok (.ireturn, 1) := by decide +kernel
theorem d_Mo_plain_0 : decode b_Mo_plain 0 = .ok (.iload_n 0, 1) := by decide +kernel
theorem d_Mo_plain_1 : decode b_Mo_plain 1 = .ok (.invokestatic 268, 3) := by decide +kernel
theorem d_Mo_plain_4 : decode b_Mo_plain 4 = .ok (.istore_n 1, 1) := by decide +kernel
theorem d_Mo_plain_5 : decode b_Mo_plain 5 = .ok (.iload_n 0, 1) := by decide +kernel
theorem d_Mo_plain_6 : decode b_Mo_plain 6 = .ok (.sipush 128, 3) := by decide +kernel
theorem d_Mo_plain_9 : decode b_Mo_plain 9 = .ok (.if_icmp .ge 14, 3) := by decide +kernel
theorem d_Mo_plain_12 : decode b_Mo_plain 12 = .ok (.iload_n 1, 1) := by decide +kernel
theorem d_Mo_plain_13 : decode b_Mo_plain 13 = .ok (.invokestatic 237, 3) := by decide +kernel
theorem d_Mo_plain_16 : decode b_Mo_plain 16 = .ok (.ifCond .eq 7, 3) := by decide +kernel
theorem d_Mo_plain_19 : decode b_Mo_plain 19 = .ok (.iload_n 1, 1) := by decide +kernel
theorem d_Mo_plain_20 : decode b_Mo_plain 20 = .ok (.goto 5, 3) := by decide +kernel
theorem d_Mo_plain_23 : decode b_Mo_plain 23 = .ok (.bipush 95, 2) := by decide +kernel
theorem d_Mo_plain_25 : decode b_Mo_plain 25 = .ok (.ireturn, 1) := by decide +kernel
theorem d_Mo_isBriefTaken_0 : decode b_Mo_isBriefTaken 0 = .ok (.aload_n 0, 1) := by decide +kernel
theorem d_Mo_isBriefTaken_1 : decode b_Mo_isBriefTaken 1 = .ok (.getfield 43, 3) := by decide +kernel
theorem d_Mo_isBriefTaken_4 : decode b_Mo_isBriefTaken 4 = .ok (.iload_n 1, 1) := by decide +kernel
theorem d_Mo_isBriefTaken_5 : decode b_Mo_isBriefTaken 5 = .ok (.iaload, 1) := by decide +kernel
theorem d_Mo_isBriefTaken_6 : decode b_Mo_isBriefTaken 6 = .ok (.istore_n 2, 1) := by decide +kernel
theorem d_Mo_isBriefTaken_7 : decode b_Mo_isBriefTaken 7 = .ok (.iload_n 2, 1) := by decide +kernel
theorem d_Mo_isBriefTaken_8 : decode b_Mo_isBriefTaken 8 = .ok (.aload_n 0, 1) := by decide +kernel
theorem d_Mo_isBriefTaken_9 : decode b_Mo_isBriefTaken 9 = .ok (.getfield 43, 3) := by decide +kernel
theorem d_Mo_isBriefTaken_12 : decode b_Mo_isBriefTaken 12 = .ok (.iload_n 1, 1) := by decide +kernel
theorem d_Mo_isBriefTaken_13 : decode b_Mo_isBriefTaken 13 = .ok (.iaload, 1) := by decide +kernel
theorem d_Mo_isBriefTaken_14 : decode b_Mo_isBriefTaken 14 = .ok (.aload_n 0, 1) := by decide +kernel
theorem d_Mo_isBriefTaken_15 : decode b_Mo_isBriefTaken 15 = .ok (.getfield 40, 3) := by decide +kernel
theorem d_Mo_isBriefTaken_18 : decode b_Mo_isBriefTaken 18 = .ok (.iload_n 1, 1) := by decide +kernel
theorem d_Mo_isBriefTaken_19 : decode b_Mo_isBriefTaken 19 = .ok (.iaload, 1) := by decide +kernel
theorem d_Mo_isBriefTaken_20 : decode b_Mo_isBriefTaken 20 = .ok (.iadd, 1) := by decide +kernel
theorem d_Mo_isBriefTaken_21 : decode b_Mo_isBriefTaken 21 = .ok (.if_icmp .ge 66, 3) := by decide +kernel
theorem d_Mo_isBriefTaken_24 : decode b_Mo_isBriefTaken 24 = .ok (.iconst 1, 1) := by decide +kernel
theorem d_Mo_isBriefTaken_25 : decode b_Mo_isBriefTaken 25 = .ok (.istore_n 3, 1) := by decide +kernel
theorem d_Mo_isBriefTaken_26 : decode b_Mo_isBriefTaken 26 = .ok (.iconst 0, 1) := by decide +kernel
theorem d_Mo_isBriefTaken_27 : decode b_Mo_isBriefTaken 27 = .ok (.istore 4, 2) := by decide +kernel
theorem d_Mo_isBriefTaken_29 : decode b_Mo_isBriefTaken 29 = .ok (.iload 4, 2) := by decide +kernel
theorem d_Mo_isBriefTaken_31 : decode b_Mo_isBriefTaken 31 = .ok (.bipush 11, 2) := by decide +kernel
theorem d_Mo_isBriefTaken_33 : decode b_Mo_isBriefTaken 33 = .ok (.if_icmp .ge 42, 3) := by decide +kernel
theorem d_Mo_isBriefTaken_36 : decode b_Mo_isBriefTaken 36 = .ok (.iload_n 3, 1) := by decide +kernel
theorem d_Mo_isBriefTaken_37 : decode b_Mo_isBriefTaken 37 = .ok (.ifCond .eq 30, 3) := by decide +kernel
theorem d_Mo_isBriefTaken_40 : decode b_Mo_isBriefTaken 40 = .ok (.aload_n 0, 1) := by decide +kernel
theorem d_Mo_isBriefTaken_41 : decode b_Mo_isBriefTaken 41 = .ok (.aload_n 0, 1) := by decide +kernel
theorem d_Mo_isBriefTaken_42 : decode b_Mo_isBriefTaken 42 = .ok (.getfield 27, 3) := by decide +kernel
theorem d_Mo_isBriefTaken_45 : decode b_Mo_isBriefTaken 45 = .ok (.iload_n 2, 1) := by decide +kernel
theorem d_Mo_isBriefTaken_46 : decode b_Mo_isBriefTaken 46 = .ok (.iaload, 1) := by decide +kernel
theorem d_Mo_isBriefTaken_47 : decode b_Mo_isBriefTaken 47 = .ok (.iload 4, 2) := by decide +kernel
theorem d_Mo_isBriefTaken_49 : decode b_Mo_isBriefTaken 49 = .ok (.iadd, 1) := by decide +kernel
theorem d_Mo_isBriefTaken_50 : decode b_Mo_isBriefTaken 50 = .ok (.invokevirtual 103, 3) := by decide +kernel
theorem d_Mo_isBriefTaken_53 : decode b_Mo_isBriefTaken 53 = .ok (.aload_n 0, 1) := by decide +kernel
theorem d_Mo_isBriefTaken_54 : decode b_Mo_isBriefTaken 54 = .ok (.getfield 66, 3) := by decide +kernel
theorem d_Mo_isBriefTaken_57 : decode b_Mo_isBriefTaken 57 = .ok (.iload 4, 2) := by decide +kernel
theorem d_Mo_isBriefTaken_59 : decode b_Mo_isBriefTaken 59 = .ok (.iaload, 1) := by decide +kernel
theorem d_Mo_isBriefTaken_60 : decode b_Mo_isBriefTaken 60 = .ok (.if_icmp .ne 7, 3) := by decide +kernel
theorem d_Mo_isBriefTaken_63 : decode b_Mo_isBriefTaken 63 = .ok (.iconst 1, 1) := by decide +kernel
theorem d_Mo_isBriefTaken_64 : decode b_Mo_isBriefTaken 64 = .ok (.goto 4, 3) := by decide +kernel
theorem d_Mo_isBriefTaken_67 : decode b_Mo_isBriefTaken 67 = .ok (.iconst 0, 1) := by decide +kernel
theorem d_Mo_isBriefTaken_68 : decode b_Mo_isBriefTaken 68 = .ok (.istore_n 3, 1) := by decide +kernel
theorem d_Mo_isBriefTaken_69 : decode b_Mo_isBriefTaken 69 = .ok (.iinc 4 1, 3) := by decide +kernel
theorem d_Mo_isBriefTaken_72 : decode b_Mo_isBriefTaken 72 = .ok (.goto (-43), 3) := by decide +kernel
theorem d_Mo_isBriefTaken_75 : decode b_Mo_isBriefTaken 75 = .ok (.iload_n 3, 1) := by decide +kernel
theorem d_Mo_isBriefTaken_76 : decode b_Mo_isBriefTaken 76 = .ok (.ifCond .eq 5, 3) := by decide +kernel
theorem d_Mo_isBriefTaken_79 : decode b_Mo_isBriefTaken 79 = .ok (.iconst 1, 1) := by decide +kernel
theorem d_Mo_isBriefTaken_80 : decode b_Mo_isBriefTaken 80 = .ok (.ireturn, 1) := by decide +kernel
theorem d_Mo_isBriefTaken_81 : decode b_Mo_isBriefTaken 81 = .ok (.iinc 2 1, 3) := by decide +kernel
theorem d_Mo_isBriefTaken_84 : decode b_Mo_isBriefTaken 84 = .ok (.goto (-77), 3) := by decide +kernel
theorem d_Mo_isBriefTaken_87 : decode b_Mo_isBriefTaken 87 = .ok (.iconst 0, 1) := by decide +kernel
theorem d_Mo_isBriefTaken_88 : decode b_Mo_isBriefTaken 88 = .ok (.ireturn, 1) := by decide +kernel
theorem d_Mo_shorten_0 : decode b_Mo_shorten 0 = .ok (.aload_n 0, 1) := by decide +kernel
theorem d_Mo_shorten_1 : decode b_Mo_shorten 1 = .ok (.getfield 224, 3) := by decide +kernel
theorem d_Mo_shorten_4 : decode b_Mo_shorten 4 = .ok (.iconst 1, 1) := by decide +kernel
theorem d_Mo_shorten_5 : decode b_Mo_shorten 5 = .ok (.isub, 1) := by decide +kernel
theorem d_Mo_shorten_6 : decode b_Mo_shorten 6 = .ok (.istore_n 2, 1) := by decide +kernel
theorem d_Mo_shorten_7 : decode b_Mo_shorten 7 = .ok (.iload_n 2, 1) := by decide +kernel
theorem d_Mo_shorten_8 : decode b_Mo_shorten 8 = .ok (.ifCond .le 20, 3) := by decide +kernel
theorem d_Mo_shorten_11 : decode b_Mo_shorten 11 = .ok (.aload_n 0, 1) := by decide +kernel
theorem d_Mo_shorten_12 : decode b_Mo_shorten 12 = .ok (.getfield 63, 3) := by decide +kernel
theorem d_Mo_shorten_15 : decode b_Mo_shorten 15 = .ok (.iload_n 2, 1) := by decide +kernel
theorem d_Mo_shorten_16 : decode b_Mo_shorten 16 = .ok (.caload, 1) := by decide +kernel
theorem d_Mo_shorten_17 : decode b_Mo_shorten 17 = .ok (.bipush 46, 2) := by decide +kernel
theorem d_Mo_shorten_19 : decode b_Mo_shorten 19 = .ok (.if_icmp .eq 9, 3) := by decide +kernel
theorem d_Mo_shorten_22 : decode b_Mo_shorten 22 = .ok (.iinc 2 (-1), 3) := by decide +kernel
theorem d_Mo_shorten_25 : decode b_Mo_shorten 25 = .ok (.goto (-18), 3) := by decide +kernel
theorem d_Mo_shorten_28 : decode b_Mo_shorten 28 = .ok (.iconst 0, 1) := by decide +kernel
theorem d_Mo_shorten_29 : decode b_Mo_shorten 29 = .ok (.istore_n 3, 1) := by decide +kernel
theorem d_Mo_shorten_30 : decode b_Mo_shorten 30 = .ok (.iconst 0, 1) := by decide +kernel
theorem d_Mo_shorten_31 : decode b_Mo_shorten 31 = .ok (.istore 4, 2) := by decide +kernel
theorem d_Mo_shorten_33 : decode b_Mo_shorten 33 = .ok (.iconst 0, 1) := by decide +kernel
theorem d_Mo_shorten_34 : decode b_Mo_shorten 34 = .ok (.istore 5, 2) := by decide +kernel
theorem d_Mo_shorten_36 : decode b_Mo_shorten 36 = .ok (.iload 5, 2) := by decide +kernel
theorem d_Mo_shorten_38 : decode b_Mo_shorten 38 = .ok (.iload_n 2, 1) := by decide +kernel
theorem d_Mo_shorten_39 : decode b_Mo_shorten 39 = .ok (.ifCond .le 7, 3) := by decide +kernel
theorem d_Mo_shorten_42 : decode b_Mo_shorten 42 = .ok (.iload_n 2, 1) := by decide +kernel
theorem d_Mo_shorten_43 : decode b_Mo_shorten 43 = .ok (.goto 7, 3) := by decide +kernel
theorem d_Mo_shorten_46 : decode b_Mo_shorten 46 = .ok (.aload_n 0, 1) := by decide +kernel
theorem d_Mo_shorten_47 : decode b_Mo_shorten 47 = .ok (.getfield 224, 3) := by decide +kernel
theorem d_Mo_shorten_50 : decode b_Mo_shorten 50 = .ok (.if_icmp .ge 55, 3) := by decide +kernel
theorem d_Mo_shorten_53 : decode b_Mo_shorten 53 = .ok (.aload_n 0, 1) := by decide +kernel
theorem d_Mo_shorten_54 : decode b_Mo_shorten 54 = .ok (.getfield 63, 3) := by decide +kernel
theorem d_Mo_shorten_57 : decode b_Mo_shorten 57 = .ok (.iload 5, 2) := by decide +kernel
theorem d_Mo_shorten_59 : decode b_Mo_shorten 59 = .ok (.caload, 1) := by decide +kernel
theorem d_Mo_shorten_60 : decode b_Mo_shorten 60 = .ok (.bipush 32, 2) := by decide +kernel
theorem d_Mo_shorten_62 : decode b_Mo_shorten 62 = .ok (.if_icmp .eq 37, 3) := by decide +kernel
theorem d_Mo_shorten_65 : decode b_Mo_shorten 65 = .ok (.aload_n 0, 1) := by decide +kernel
theorem d_Mo_shorten_66 : decode b_Mo_shorten 66 = .ok (.getfield 63, 3) := by decide +kernel
theorem d_Mo_shorten_69 : decode b_Mo_shorten 69 = .ok (.iload 5, 2) := by decide +kernel
theorem d_Mo_shorten_71 : decode b_Mo_shorten 71 = .ok (.caload, 1) := by decide +kernel
theorem d_Mo_shorten_72 : decode b_Mo_shorten 72 = .ok (.bipush 46, 2) := by decide +kernel
theorem d_Mo_shorten_74 : decode b_Mo_shorten 74 = .ok (.if_icmp .ne 6, 3) := by decide +kernel
theorem d_Mo_shorten_77 : decode b_Mo_shorten 77 = .ok (.goto 22, 3) := by decide +kernel
theorem d_Mo_shorten_80 : decode b_Mo_shorten 80 = .ok (.aload_n 0, 1) := by decide +kernel
theorem d_Mo_shorten_81 : decode b_Mo_shorten 81 = .ok (.getfield 69, 3) := by decide +kernel
theorem d_Mo_shorten_84 : decode b_Mo_shorten 84 = .ok (.iload_n 3, 1) := by decide +kernel
theorem d_Mo_shorten_85 : decode b_Mo_shorten 85 = .ok (.aload_n 0, 1) := by decide +kernel
theorem d_Mo_shorten_86 : decode b_Mo_shorten 86 = .ok (.getfield 63, 3) := by decide +kernel
theorem d_Mo_shorten_89 : decode b_Mo_shorten 89 = .ok (.iload 5, 2) := by decide +kernel
theorem d_Mo_shorten_91 : decode b_Mo_shorten 91 = .ok (.caload, 1) := by decide +kernel
theorem d_Mo_shorten_92 : decode b_Mo_shorten 92 = .ok (.invokestatic 398, 3) := by decide +kernel
theorem d_Mo_shorten_95 : decode b_Mo_shorten 95 = .ok (.iastore, 1) := by decide +kernel
theorem d_Mo_shorten_96 : decode b_Mo_shorten 96 = .ok (.iinc 3 1, 3) := by decide +kernel
theorem d_Mo_shorten_99 : decode b_Mo_shorten 99 = .ok (.iinc 5 1, 3) := by decide +kernel
theorem d_Mo_shorten_102 : decode b_Mo_shorten 102 = .ok (.goto (-66), 3) := by decide +kernel
theorem d_Mo_shorten_105 : decode b_Mo_shorten 105 = .ok (.iload_n 2, 1) := by decide +kernel
theorem d_Mo_shorten_106 : decode b_Mo_shorten 106 = .ok (.iconst 1, 1) := by decide +kernel
theorem d_Mo_shorten_107 : decode b_Mo_shorten 107 = .ok (.iadd, 1) := by decide +kernel
theorem d_Mo_shorten_108 : decode b_Mo_shorten 108 = .ok (.istore 5, 2) := by decide +kernel
theorem d_Mo_shorten_110 : decode b_Mo_shorten 110 = .ok (.iload_n 2, 1) := by decide +kernel
theorem d_Mo_shorten_111 : decode b_Mo_shorten 111 = .ok (.ifCond .le 59, 3) := by decide +kernel
theorem d_Mo_shorten_114 : decode b_Mo_shorten 114 = .ok (.iload 5, 2) := by decide +kernel
theorem d_Mo_shorten_116 : decode b_Mo_shorten 116 = .ok (.aload_n 0, 1) := by decide +kernel
theorem d_Mo_shorten_117 : decode b_Mo_shorten 117 = .ok (.getfield 224, 3) := by decide +kernel
theorem d_Mo_shorten_120 : decode b_Mo_shorten 120 = .ok (.if_icmp .ge 50, 3) := by decide +kernel
theorem d_Mo_shorten_123 : decode b_Mo_shorten 123 = .ok (.iload 4, 2) := by decide +kernel
theorem d_Mo_shorten_125 : decode b_Mo_shorten 125 = .ok (.iconst 3, 1) := by decide +kernel
theorem d_Mo_shorten_126 : decode b_Mo_shorten 126 = .ok (.if_icmp .ge 44, 3) := by decide +kernel
theorem d_Mo_shorten_129 : decode b_Mo_shorten 129 = .ok (.aload_n 0, 1) := by decide +kernel
theorem d_Mo_shorten_130 : decode b_Mo_shorten 130 = .ok (.getfield 63, 3) := by decide +kernel
theorem d_Mo_shorten_133 : decode b_Mo_shorten 133 = .ok (.iload 5, 2) := by decide +kernel
theorem d_Mo_shorten_135 : decode b_Mo_shorten 135 = .ok (.caload, 1) := by decide +kernel
theorem d_Mo_shorten_136 : decode b_Mo_shorten 136 = .ok (.bipush 32, 2) := by decide +kernel
theorem d_Mo_shorten_138 : decode b_Mo_shorten 138 = .ok (.if_icmp .ne 6, 3) := by decide +kernel
theorem d_Mo_shorten_141 : decode b_Mo_shorten 141 = .ok (.goto 23, 3) := by decide +kernel
theorem d_Mo_shorten_144 : decode b_Mo_shorten 144 = .ok (.aload_n 0, 1) := by decide +kernel
theorem d_Mo_shorten_145 : decode b_Mo_shorten 145 = .ok (.getfield 72, 3) := by decide +kernel
theorem d_Mo_shorten_148 : decode b_Mo_shorten 148 = .ok (.iload 4, 2) := by decide +kernel
theorem d_Mo_shorten_150 : decode b_Mo_shorten 150 = .ok (.aload_n 0, 1) := by decide +kernel
theorem d_Mo_shorten_151 : decode b_Mo_shorten 151 = .ok (.getfield 63, 3) := by decide +kernel
theorem d_Mo_shorten_154 : decode b_Mo_shorten 154 = .ok (.iload 5, 2) := by decide +kernel
theorem d_Mo_shorten_156 : decode b_Mo_shorten 156 = .ok (.caload, 1) := by decide +kernel
theorem d_Mo_shorten_157 : decode b_Mo_shorten 157 = .ok (.invokestatic 398, 3) := by decide +kernel
theorem d_Mo_shorten_160 : decode b_Mo_shorten 160 = .ok (.iastore, 1) := by decide +kernel
theorem d_Mo_shorten_161 : decode b_Mo_shorten 161 = .ok (.iinc 4 1, 3) := by decide +kernel
theorem d_Mo_shorten_164 : decode b_Mo_shorten 164 = .ok (.iinc 5 1, 3) := by decide +kernel
theorem d_Mo_shorten_167 : decode b_Mo_shorten 167 = .ok (.goto (-57), 3) := by decide +kernel
theorem d_Mo_shorten_170 : decode b_Mo_shorten 170 = .ok (.iconst 1, 1) := by decide +kernel
theorem d_Mo_shorten_171 : decode b_Mo_shorten 171 = .ok (.istore 5, 2) := by decide +kernel
theorem d_Mo_shorten_173 : decode b_Mo_shorten 173 = .ok (.iconst 1, 1) := by decide +kernel
theorem d_Mo_shorten_174 : decode b_Mo_shorten 174 = .ok (.istore 6, 2) := by decide +kernel
theorem d_Mo_shorten_176 : decode b_Mo_shorten 176 = .ok (.iload 5, 2) := by decide +kernel
theorem d_Mo_shorten_178 : decode b_Mo_shorten 178 = .ok (.ifCond .eq 195, 3) := by decide +kernel
theorem d_Mo_shorten_181 : decode b_Mo_shorten 181 = .ok (.iconst 1, 1) := by decide +kernel
theorem d_Mo_shorten_182 : decode b_Mo_shorten 182 = .ok (.istore 7, 2) := by decide +kernel
theorem d_Mo_shorten_184 : decode b_Mo_shorten 184 = .ok (.iconst 1, 1) := by decide +kernel
theorem d_Mo_shorten_185 : decode b_Mo_shorten 185 = .ok (.istore 8, 2) := by decide +kernel
theorem d_Mo_shorten_187 : decode b_Mo_shorten 187 = .ok (.iload 6, 2) := by decide +kernel
theorem d_Mo_shorten_189 : decode b_Mo_shorten 189 = .ok (.iload 8, 2) := by decide +kernel
theorem d_Mo_shorten_191 : decode b_Mo_shorten 191 = .ok (.idiv, 1) := by decide +kernel
theorem d_Mo_shorten_192 : decode b_Mo_shorten 192 = .ok (.bipush 9, 2) := by decide +kernel
theorem d_Mo_shorten_194 : decode b_Mo_shorten 194 = .ok (.if_icmp .le 16, 3) := by decide +kernel
theorem d_Mo_shorten_197 : decode b_Mo_shorten 197 = .ok (.iload 8, 2) := by decide +kernel
theorem d_Mo_shorten_199 : decode b_Mo_shorten 199 = .ok (.bipush 10, 2) := by decide +kernel
theorem d_Mo_shorten_201 : decode b_Mo_shorten 201 = .ok (.imul, 1) := by decide +kernel
theorem d_Mo_shorten_202 : decode b_Mo_shorten 202 = .ok (.istore 8, 2) := by decide +kernel
theorem d_Mo_shorten_204 : decode b_Mo_shorten 204 = .ok (.iinc 7 1, 3) := by decide +kernel
theorem d_Mo_shorten_207 : decode b_Mo_shorten 207 = .ok (.goto (-20), 3) := by decide +kernel
theorem d_Mo_shorten_210 : decode b_Mo_shorten 210 = .ok (.iload_n 3, 1) := by decide +kernel
theorem d_Mo_shorten_211 : decode b_Mo_shorten 211 = .ok (.bipush 7, 2) := by decide +kernel
theorem d_Mo_shorten_213 : decode b_Mo_shorten 213 = .ok (.iload 7, 2) := by decide +kernel
theorem d_Mo_shorten_215 : decode b_Mo_shorten 215 = .ok (.isub, 1) := by decide +kernel
theorem d_Mo_shorten_216 : decode b_Mo_shorten 216 = .ok (.if_icmp .ge 7, 3) := by decide +kernel
theorem d_Mo_shorten_219 : decode b_Mo_shorten 219 = .ok (.iload_n 3, 1) := by decide +kernel
theorem d_Mo_shorten_220 : decode b_Mo_shorten 220 = .ok (.goto 8, 3) := by decide +kernel
theorem d_Mo_shorten_223 : decode b_Mo_shorten 223 = .ok (.bipush 7, 2) := by decide +kernel
theorem d_Mo_shorten_225 : decode b_Mo_shorten 225 = .ok (.iload 7, 2) := by decide +kernel
theorem d_Mo_shorten_227 : decode b_Mo_shorten 227 = .ok (.isub, 1) := by decide +kernel
theorem d_Mo_shorten_228 : decode b_Mo_shorten 228 = .ok (.istore 9, 2) := by decide +kernel
theorem d_Mo_shorten_230 : decode b_Mo_shorten 230 = .ok (.iconst 0, 1) := by decide +kernel
theorem d_Mo_shorten_231 : decode b_Mo_shorten 231 = .ok (.istore 10, 2) := by decide +kernel
theorem d_Mo_shorten_233 : decode b_Mo_shorten 233 = .ok (.iload 10, 2) := by decide +kernel
theorem d_Mo_shorten_235 : decode b_Mo_shorten 235 = .ok (.bipush 11, 2) := by decide +kernel
theorem d_Mo_shorten_237 : decode b_Mo_shorten 237 = .ok (.if_icmp .ge 77, 3) := by decide +kernel
theorem d_Mo_shorten_240 : decode b_Mo_shorten 240 = .ok (.aload_n 0, 1) := by decide +kernel
theorem d_Mo_shorten_241 : decode b_Mo_shorten 241 = .ok (.getfield 66, 3) := by decide +kernel
theorem d_Mo_shorten_244 : decode b_Mo_shorten 244 = .ok (.iload 10, 2) := by decide +kernel
theorem d_Mo_shorten_246 : decode b_Mo_shorten 246 = .ok (.iload 10, 2) := by decide +kernel
theorem d_Mo_shorten_248 : decode b_Mo_shorten 248 = .ok (.iload 9, 2) := by decide +kernel
theorem d_Mo_shorten_250 : decode b_Mo_shorten 250 = .ok (.if_icmp .ge 13, 3) := by decide +kernel
theorem d_Mo_shorten_253 : decode b_Mo_shorten 253 = .ok (.aload_n 0, 1) := by decide +kernel
theorem d_Mo_shorten_254 : decode b_Mo_shorten 254 = .ok (.getfield 69, 3) := by decide +kernel
theorem d_Mo_shorten_257 : decode b_Mo_shorten 257 = .ok (.iload 10, 2) := by decide +kernel
theorem d_Mo_shorten_259 : decode b_Mo_shorten 259 = .ok (.iaload, 1) := by decide +kernel
theorem d_Mo_shorten_260 : decode b_Mo_shorten 260 = .ok (.goto 47, 3) := by decide +kernel
theorem d_Mo_shorten_263 : decode b_Mo_shorten 263 = .ok (.iload 10, 2) := by decide +kernel
theorem d_Mo_shorten_265 : decode b_Mo_shorten 265 = .ok (.iload 9, 2) := by decide +kernel
theorem d_Mo_shorten_267 : decode b_Mo_shorten 267 = .ok (.if_icmp .ne 8, 3) := by decide +kernel
theorem d_Mo_shorten_270 : decode b_Mo_shorten 270 = .ok (.bipush 126, 2) := by decide +kernel
theorem d_Mo_shorten_272 : decode b_Mo_shorten 272 = .ok (.goto 35, 3) := by decide +kernel
theorem d_Mo_shorten_275 : decode b_Mo_shorten 275 = .ok (.iload 10, 2) := by decide +kernel
theorem d_Mo_shorten_277 : decode b_Mo_shorten 277 = .ok (.bipush 7, 2) := by decide +kernel
theorem d_Mo_shorten_279 : decode b_Mo_shorten 279 = .ok (.if_icmp .le 26, 3) := by decide +kernel
theorem d_Mo_shorten_282 : decode b_Mo_shorten 282 = .ok (.iload 10, 2) := by decide +kernel
theorem d_Mo_shorten_284 : decode b_Mo_shorten 284 = .ok (.bipush 8, 2) := by decide +kernel
theorem d_Mo_shorten_286 : decode b_Mo_shorten 286 = .ok (.isub, 1) := by decide +kernel
theorem d_Mo_shorten_287 : decode b_Mo_shorten 287 = .ok (.iload 4, 2) := by decide +kernel
theorem d_Mo_shorten_289 : decode b_Mo_shorten 289 = .ok (.if_icmp .ge 16, 3) := by decide +kernel
theorem d_Mo_shorten_292 : decode b_Mo_shorten 292 = .ok (.aload_n 0, 1) := by decide +kernel
theorem d_Mo_shorten_293 : decode b_Mo_shorten 293 = .ok (.getfield 72, 3) := by decide +kernel
theorem d_Mo_shorten_296 : decode b_Mo_shorten 296 = .ok (.iload 10, 2) := by decide +kernel
theorem d_Mo_shorten_298 : decode b_Mo_shorten 298 = .ok (.bipush 8, 2) := by decide +kernel
theorem d_Mo_shorten_300 : decode b_Mo_shorten 300 = .ok (.isub, 1) := by decide +kernel
theorem d_Mo_shorten_301 : decode b_Mo_shorten 301 = .ok (.iaload, 1) := by decide +kernel
theorem d_Mo_shorten_302 : decode b_Mo_shorten 302 = .ok (.goto 5, 3) := by decide +kernel
theorem d_Mo_shorten_305 : decode b_Mo_shorten 305 = .ok (.bipush 32, 2) := by decide +kernel
theorem d_Mo_shorten_307 : decode b_Mo_shorten 307 = .ok (.iastore, 1) := by decide +kernel
theorem d_Mo_shorten_308 : decode b_Mo_shorten 308 = .ok (.iinc 10 1, 3) := by decide +kernel
theorem d_Mo_shorten_311 : decode b_Mo_shorten 311 = .ok (.goto (-78), 3) := by decide +kernel
theorem d_Mo_shorten_314 : decode b_Mo_shorten 314 = .ok (.iconst 0, 1) := by decide +kernel
theorem d_Mo_shorten_315 : decode b_Mo_shorten 315 = .ok (.istore 10, 2) := by decide +kernel
theorem d_Mo_shorten_317 : decode b_Mo_shorten 317 = .ok (.iload 10, 2) := by decide +kernel
theorem d_Mo_shorten_319 : decode b_Mo_shorten 319 = .ok (.iload 7, 2) := by decide +kernel
theorem d_Mo_shorten_321 : decode b_Mo_shorten 321 = .ok (.if_icmp .ge 39, 3) := by decide +kernel
theorem d_Mo_shorten_324 : decode b_Mo_shorten 324 = .ok (.aload_n 0, 1) := by decide +kernel
theorem d_Mo_shorten_325 : decode b_Mo_shorten 325 = .ok (.getfield 66, 3) := by decide +kernel
theorem d_Mo_shorten_328 : decode b_Mo_shorten 328 = .ok (.iload 9, 2) := by decide +kernel
theorem d_Mo_shorten_330 : decode b_Mo_shorten 330 = .ok (.iconst 1, 1) := by decide +kernel
theorem d_Mo_shorten_331 : decode b_Mo_shorten 331 = .ok (.iadd, 1) := by decide +kernel
theorem d_Mo_shorten_332 : decode b_Mo_shorten 332 = .ok (.iload 10, 2) := by decide +kernel
theorem d_Mo_shorten_334 : decode b_Mo_shorten 334 = .ok (.iadd, 1) := by decide +kernel
theorem d_Mo_shorten_335 : decode b_Mo_shorten 335 = .ok (.bipush 48, 2) := by decide +kernel
theorem d_Mo_shorten_337 : decode b_Mo_shorten 337 = .ok (.iload 6, 2) := by decide +kernel
theorem d_Mo_shorten_339 : decode b_Mo_shorten 339 = .ok (.iload 8, 2) := by decide +kernel
theorem d_Mo_shorten_341 : decode b_Mo_shorten 341 = .ok (.idiv, 1) := by decide +kernel
theorem d_Mo_shorten_342 : decode b_Mo_shorten 342 = .ok (.bipush 10, 2) := by decide +kernel
theorem d_Mo_shorten_344 : decode b_Mo_shorten 344 = .ok (.irem, 1) := by decide +kernel
theorem d_Mo_shorten_345 : decode b_Mo_shorten 345 = .ok (.iadd, 1) := by decide +kernel
theorem d_Mo_shorten_346 : decode b_Mo_shorten 346 = .ok (.iastore, 1) := by decide +kernel
theorem d_Mo_shorten_347 : decode b_Mo_shorten 347 = .ok (.iload 8, 2) := by decide +kernel
theorem d_Mo_shorten_349 : decode b_Mo_shorten 349 = .ok (.bipush 10, 2) := by decide +kernel
theorem d_Mo_shorten_351 : decode b_Mo_shorten 351 = .ok (.idiv, 1) := by decide +kernel
theorem d_Mo_shorten_352 : decode b_Mo_shorten 352 = .ok (.istore 8, 2) := by decide +kernel
theorem d_Mo_shorten_354 : decode b_Mo_shorten 354 = .ok (.iinc 10 1, 3) := by decide +kernel
theorem d_Mo_shorten_357 : decode b_Mo_shorten 357 = .ok (.goto (-40), 3) := by decide +kernel
theorem d_Mo_shorten_360 : decode b_Mo_shorten 360 = .ok (.aload_n 0, 1) := by decide +kernel
theorem d_Mo_shorten_361 : decode b_Mo_shorten 361 = .ok (.iload_n 1, 1) := by decide +kernel
theorem d_Mo_shorten_362 : decode b_Mo_shorten 362 = .ok (.invokevirtual 401, 3) := by decide +kernel
theorem d_Mo_shorten_365 : decode b_Mo_shorten 365 = .ok (.istore 5, 2) := by decide +kernel
theorem d_Mo_shorten_367 : decode b_Mo_shorten 367 = .ok (.iinc 6 1, 3) := by decide +kernel
theorem d_Mo_shorten_370 : decode b_Mo_shorten 370 = .ok (.goto (-194), 3) := by decide +kernel
theorem d_Mo_shorten_373 : decode b_Mo_shorten 373 = .ok (.return_, 1) := by decide +kernel
theorem d_Mo_layPart_0 : decode b_Mo_layPart 0 = .ok (.aload_n 0, 1) := by decide +kernel
theorem d_Mo_layPart_1 : decode b_Mo_layPart 1 = .ok (.iload_n 1, 1) := by decide +kernel
theorem d_Mo_layPart_2 : decode b_Mo_layPart 2 = .ok (.iconst 1, 1) := by decide +kernel
theorem d_Mo_layPart_3 : decode b_Mo_layPart 3 = .ok (.iload_n 2, 1) := by decide +kernel
theorem d_Mo_layPart_4 : decode b_Mo_layPart 4 = .ok (.iload_n 3, 1) := by decide +kernel
theorem d_Mo_layPart_5 : decode b_Mo_layPart 5 = .ok (.ifCond .eq 8, 3) := by decide +kernel
theorem d_Mo_layPart_8 : decode b_Mo_layPart 8 = .ok (.bipush 64, 2) := by decide +kernel
theorem d_Mo_layPart_10 : decode b_Mo_layPart 10 = .ok (.goto 4, 3) := by decide +kernel
theorem d_Mo_layPart_13 : decode b_Mo_layPart 13 = .ok (.iconst 0, 1) := by decide +kernel
theorem d_Mo_layPart_14 : decode b_Mo_layPart 14 = .ok (.iadd, 1) := by decide +kernel
theorem d_Mo_layPart_15 : decode b_Mo_layPart 15 = .ok (.i2l, 1) := by decide +kernel
theorem d_Mo_layPart_16 : decode b_Mo_layPart 16 = .ok (.invokevirtual 128, 3) := by decide +kernel
theorem d_Mo_layPart_19 : decode b_Mo_layPart 19 = .ok (.aload_n 0, 1) := by decide +kernel
theorem d_Mo_layPart_20 : decode b_Mo_layPart 20 = .ok (.iload_n 1, 1) := by decide +kernel
theorem d_Mo_layPart_21 : decode b_Mo_layPart 21 = .ok (.bipush 11, 2) := by decide +kernel
theorem d_Mo_layPart_23 : decode b_Mo_layPart 23 = .ok (.iadd, 1) := by decide +kernel
theorem d_Mo_layPart_24 : decode b_Mo_layPart 24 = .ok (.iconst 1, 1) := by decide +kernel
theorem d_Mo_layPart_25 : decode b_Mo_layPart 25 = .ok (.ldc2_w 435, 3) := by decide +kernel
theorem d_Mo_layPart_28 : decode b_Mo_layPart 28 = .ok (.invokevirtual 128, 3) := by decide +kernel
theorem d_Mo_layPart_31 : decode b_Mo_layPart 31 = .ok (.aload_n 0, 1) := by decide +kernel
theorem d_Mo_layPart_32 : decode b_Mo_layPart 32 = .ok (.iload_n 1, 1) := by decide +kernel
theorem d_Mo_layPart_33 : decode b_Mo_layPart 33 = .ok (.bipush 13, 2) := by decide +kernel
theorem d_Mo_layPart_35 : decode b_Mo_layPart 35 = .ok (.iadd, 1) := by decide +kernel
theorem d_Mo_layPart_36 : decode b_Mo_layPart 36 = .ok (.iconst 1, 1) := by decide +kernel
theorem d_Mo_layPart_37 : decode b_Mo_layPart 37 = .ok (.iload 4, 2) := by decide +kernel
theorem d_Mo_layPart_39 : decode b_Mo_layPart 39 = .ok (.i2l, 1) := by decide +kernel
theorem d_Mo_layPart_40 : decode b_Mo_layPart 40 = .ok (.invokevirtual 128, 3) := by decide +kernel
theorem d_Mo_layPart_43 : decode b_Mo_layPart 43 = .ok (.iconst 0, 1) := by decide +kernel
theorem d_Mo_layPart_44 : decode b_Mo_layPart 44 = .ok (.istore 5, 2) := by decide +kernel
theorem d_Mo_layPart_46 : decode b_Mo_layPart 46 = .ok (.iload 5, 2) := by decide +kernel
theorem d_Mo_layPart_48 : decode b_Mo_layPart 48 = .ok (.bipush 13, 2) := by decide +kernel
theorem d_Mo_layPart_50 : decode b_Mo_layPart 50 = .ok (.if_icmp .ge 101, 3) := by decide +kernel
theorem d_Mo_layPart_53 : decode b_Mo_layPart 53 = .ok (.bipush 13, 2) := by decide +kernel
theorem d_Mo_layPart_55 : decode b_Mo_layPart 55 = .ok (.iload_n 2, 1) := by decide +kernel
theorem d_Mo_layPart_56 : decode b_Mo_layPart 56 = .ok (.iconst 1, 1) := by decide +kernel
theorem d_Mo_layPart_57 : decode b_Mo_layPart 57 = .ok (.isub, 1) := by decide +kernel
theorem d_Mo_layPart_58 : decode b_Mo_layPart 58 = .ok (.imul, 1) := by decide +kernel
theorem d_Mo_layPart_59 : decode b_Mo_layPart 59 = .ok (.iload 5, 2) := by decide +kernel
theorem d_Mo_layPart_61 : decode b_Mo_layPart 61 = .ok (.iadd, 1) := by decide +kernel
theorem d_Mo_layPart_62 : decode b_Mo_layPart 62 = .ok (.istore 6, 2) := by decide +kernel
theorem d_Mo_layPart_64 : decode b_Mo_layPart 64 = .ok (.aload_n 0, 1) := by decide +kernel
theorem d_Mo_layPart_65 : decode b_Mo_layPart 65 = .ok (.iload_n 1, 1) := by decide +kernel
theorem d_Mo_layPart_66 : decode b_Mo_layPart 66 = .ok (.iload 5, 2) := by decide +kernel
theorem d_Mo_layPart_68 : decode b_Mo_layPart 68 = .ok (.iconst 5, 1) := by decide +kernel
theorem d_Mo_layPart_69 : decode b_Mo_layPart 69 = .ok (.if_icmp .ge 12, 3) := by decide +kernel
theorem d_Mo_layPart_72 : decode b_Mo_layPart 72 = .ok (.iconst 1, 1) := by decide +kernel
theorem d_Mo_layPart_73 : decode b_Mo_layPart 73 = .ok (.iconst 2, 1) := by decide +kernel
theorem d_Mo_layPart_74 : decode b_Mo_layPart 74 = .ok (.iload 5, 2) := by decide +kernel
theorem d_Mo_layPart_76 : decode b_Mo_layPart 76 = .ok (.imul, 1) := by decide +kernel
theorem d_Mo_layPart_77 : decode b_Mo_layPart 77 = .ok (.iadd, 1) := by decide +kernel
theorem d_Mo_layPart_78 : decode b_Mo_layPart 78 = .ok (.goto 26, 3) := by decide +kernel
theorem d_Mo_layPart_81 : decode b_Mo_layPart 81 = .ok (.iload 5, 2) := by decide +kernel
theorem d_Mo_layPart_83 : decode b_Mo_layPart 83 = .ok (.bipush 11, 2) := by decide +kernel
theorem d_Mo_layPart_85 : decode b_Mo_layPart 85 = .ok (.if_icmp .ge 12, 3) := by decide +kernel
theorem d_Mo_layPart_88 : decode b_Mo_layPart 88 = .ok (.iconst 4, 1) := by decide +kernel
theorem d_Mo_layPart_89 : decode b_Mo_layPart 89 = .ok (.iconst 2, 1) := by decide +kernel
theorem d_Mo_layPart_90 : decode b_Mo_layPart 90 = .ok (.iload 5, 2) := by decide +kernel
theorem d_Mo_layPart_92 : decode b_Mo_layPart 92 = .ok (.imul, 1) := by decide +kernel
theorem d_Mo_layPart_93 : decode b_Mo_layPart 93 = .ok (.iadd, 1) := by decide +kernel
theorem d_Mo_layPart_94 : decode b_Mo_layPart 94 = .ok (.goto 10, 3) := by decide +kernel
theorem d_Mo_layPart_97 : decode b_Mo_layPart 97 = .ok (.bipush 6, 2) := by decide +kernel
theorem d_Mo_layPart_99 : decode b_Mo_layPart 99 = .ok (.iconst 2, 1) := by decide +kernel
theorem d_Mo_layPart_100 : decode b_Mo_layPart 100 = .ok (.iload 5, 2) := by decide +kernel
theorem d_Mo_layPart_102 : decode b_Mo_layPart 102 = .ok (.imul, 1) := by decide +kernel
theorem d_Mo_layPart_103 : decode b_Mo_layPart 103 = .ok (.iadd, 1) := by decide +kernel
theorem d_Mo_layPart_104 : decode b_Mo_layPart 104 = .ok (.iadd, 1) := by decide +kernel
theorem d_Mo_layPart_105 : decode b_Mo_layPart 105 = .ok (.iconst 2, 1) := by decide +kernel
theorem d_Mo_layPart_106 : decode b_Mo_layPart 106 = .ok (.iload 6, 2) := by decide +kernel
theorem d_Mo_layPart_108 : decode b_Mo_layPart 108 = .ok (.aload_n 0, 1) := by decide +kernel
theorem d_Mo_layPart_109 : decode b_Mo_layPart 109 = .ok (.getfield 224, 3) := by decide +kernel
theorem d_Mo_layPart_112 : decode b_Mo_layPart 112 = .ok (.if_icmp .ge 14, 3) := by decide +kernel
theorem d_Mo_layPart_115 : decode b_Mo_layPart 115 = .ok (.aload_n 0, 1) := by decide +kernel
theorem d_Mo_layPart_116 : decode b_Mo_layPart 116 = .ok (.getfield 63, 3) := by decide +kernel
theorem d_Mo_layPart_119 : decode b_Mo_layPart 119 = .ok (.iload 6, 2) := by decide +kernel
theorem d_Mo_layPart_121 : decode b_Mo_layPart 121 = .ok (.caload, 1) := by decide +kernel
theorem d_Mo_layPart_122 : decode b_Mo_layPart 122 = .ok (.i2l, 1) := by decide +kernel
theorem d_Mo_layPart_123 : decode b_Mo_layPart 123 = .ok (.goto 19, 3) := by decide +kernel
theorem d_Mo_layPart_126 : decode b_Mo_layPart 126 = .ok (.iload 6, 2) := by decide +kernel
theorem d_Mo_layPart_128 : decode b_Mo_layPart 128 = .ok (.aload_n 0, 1) := by decide +kernel
theorem d_Mo_layPart_129 : decode b_Mo_layPart 129 = .ok (.getfield 224, 3) := by decide +kernel
theorem d_Mo_layPart_132 : decode b_Mo_layPart 132 = .ok (.if_icmp .ne 7, 3) := by decide +kernel
theorem d_Mo_layPart_135 : decode b_Mo_layPart 135 = .ok (.lconst 0, 1) := by decide +kernel
theorem d_Mo_layPart_136 : decode b_Mo_layPart 136 = .ok (.goto 6, 3) := by decide +kernel
theorem d_Mo_layPart_139 : decode b_Mo_layPart 139 = .ok (.ldc2_w 437, 3) := by decide +kernel
theorem d_Mo_layPart_142 : decode b_Mo_layPart 142 = .ok (.invokevirtual 128, 3) := by decide +kernel
theorem d_Mo_layPart_145 : decode b_Mo_layPart 145 = .ok (.iinc 5 1, 3) := by decide +kernel
theorem d_Mo_layPart_148 : decode b_Mo_layPart 148 = .ok (.goto (-102), 3) := by decide +kernel
theorem d_Mo_layPart_151 : decode b_Mo_layPart 151 = .ok (.return_, 1) := by decide +kernel
theorem d_Mo_append_0 : decode b_Mo_append 0 = .ok (.aload_n 0, 1) := by decide +kernel
theorem d_Mo_append_1 : decode b_Mo_append 1 = .ok (.getfield 27, 3) := by decide +kernel
theorem d_Mo_append_4 : decode b_Mo_append 4 = .ok (.iload_n 1, 1) := by decide +kernel
theorem d_Mo_append_5 : decode b_Mo_append 5 = .ok (.iaload, 1) := by decide +kernel
theorem d_Mo_append_6 : decode b_Mo_append 6 = .ok (.istore 5, 2) := by decide +kernel
theorem d_Mo_append_8 : decode b_Mo_append 8 = .ok (.aload_n 0, 1) := by decide +kernel
theorem d_Mo_append_9 : decode b_Mo_append 9 = .ok (.iload 5, 2) := by decide +kernel
theorem d_Mo_append_11 : decode b_Mo_append 11 = .ok (.bipush 28, 2) := by decide +kernel
theorem d_Mo_append_13 : decode b_Mo_append 13 = .ok (.iadd, 1) := by decide +kernel
theorem d_Mo_append_14 : decode b_Mo_append 14 = .ok (.invokevirtual 120, 3) := by decide +kernel
theorem d_Mo_append_17 : decode b_Mo_append 17 = .ok (.istore 6, 2) := by decide +kernel
theorem d_Mo_append_19 : decode b_Mo_append 19 = .ok (.sipush 512, 3) := by decide +kernel
theorem d_Mo_append_22 : decode b_Mo_append 22 = .ok (.aload_n 0, 1) := by decide +kernel
theorem d_Mo_append_23 : decode b_Mo_append 23 = .ok (.getfield 138, 3) := by decide +kernel
theorem d_Mo_append_26 : decode b_Mo_append 26 = .ok (.imul, 1) := by decide +kernel
theorem d_Mo_append_27 : decode b_Mo_append 27 = .ok (.istore 7, 2) := by decide +kernel
theorem d_Mo_append_29 : decode b_Mo_append 29 = .ok (.iload 6, 2) := by decide +kernel
theorem d_Mo_append_31 : decode b_Mo_append 31 = .ok (.iload_n 2, 1) := by decide +kernel
theorem d_Mo_append_32 : decode b_Mo_append 32 = .ok (.iadd, 1) := by decide +kernel
theorem d_Mo_append_33 : decode b_Mo_append 33 = .ok (.iload 7, 2) := by decide +kernel
theorem d_Mo_append_35 : decode b_Mo_append 35 = .ok (.invokestatic 262, 3) := by decide +kernel
theorem d_Mo_append_38 : decode b_Mo_append 38 = .ok (.iload 6, 2) := by decide +kernel
theorem d_Mo_append_40 : decode b_Mo_append 40 = .ok (.iload 7, 2) := by decide +kernel
theorem d_Mo_append_42 : decode b_Mo_append 42 = .ok (.invokestatic 262, 3) := by decide +kernel
theorem d_Mo_append_45 : decode b_Mo_append 45 = .ok (.isub, 1) := by decide +kernel
theorem d_Mo_append_46 : decode b_Mo_append 46 = .ok (.istore 8, 2) := by decide +kernel
theorem d_Mo_append_48 : decode b_Mo_append 48 = .ok (.aload_n 0, 1) := by decide +kernel
theorem d_Mo_append_49 : decode b_Mo_append 49 = .ok (.iload 8, 2) := by decide +kernel
theorem d_Mo_append_51 : decode b_Mo_append 51 = .ok (.aload_n 0, 1) := by decide +kernel
theorem d_Mo_append_52 : decode b_Mo_append 52 = .ok (.invokevirtual 419, 3) := by decide +kernel
theorem d_Mo_append_55 : decode b_Mo_append 55 = .ok (.if_icmp .le 7, 3) := by decide +kernel
theorem d_Mo_append_58 : decode b_Mo_append 58 = .ok (.iconst 1, 1) := by decide +kernel
theorem d_Mo_append_59 : decode b_Mo_append 59 = .ok (.goto 4, 3) := by decide +kernel
theorem d_Mo_append_62 : decode b_Mo_append 62 = .ok (.iconst 0, 1) := by decide +kernel
theorem d_Mo_append_63 : decode b_Mo_append 63 = .ok (.iconst 4, 1) := by decide +kernel
theorem d_Mo_append_64 : decode b_Mo_append 64 = .ok (.invokevirtual 317, 3) := by decide +kernel
theorem d_Mo_append_67 : decode b_Mo_append 67 = .ok (.ifCond .eq 5, 3) := by decide +kernel
theorem d_Mo_append_70 : decode b_Mo_append 70 = .ok (.iconst 0, 1) := by decide +kernel
theorem d_Mo_append_71 : decode b_Mo_append 71 = .ok (.ireturn, 1) := by decide +kernel
theorem d_Mo_append_72 : decode b_Mo_append 72 = .ok (.aload_n 0, 1) := by decide +kernel
theorem d_Mo_append_73 : decode b_Mo_append 73 = .ok (.aload_n 0, 1) := by decide +kernel
theorem d_Mo_append_74 : decode b_Mo_append 74 = .ok (.iload 5, 2) := by decide +kernel
theorem d_Mo_append_76 : decode b_Mo_append 76 = .ok (.invokevirtual 156, 3) := by decide +kernel
theorem d_Mo_append_79 : decode b_Mo_append 79 = .ok (.invokevirtual 195, 3) := by decide +kernel
theorem d_Mo_append_82 : decode b_Mo_append 82 = .ok (.iconst 0, 1) := by decide +kernel
theorem d_Mo_append_83 : decode b_Mo_append 83 = .ok (.istore 9, 2) := by decide +kernel
theorem d_Mo_append_85 : decode b_Mo_append 85 = .ok (.iload 9, 2) := by decide +kernel
theorem d_Mo_append_87 : decode b_Mo_append 87 = .ok (.iload 8, 2) := by decide +kernel
theorem d_Mo_append_89 : decode b_Mo_append 89 = .ok (.if_icmp .ge 103, 3) := by decide +kernel
theorem d_Mo_append_92 : decode b_Mo_append 92 = .ok (.aload_n 0, 1) := by decide +kernel
theorem d_Mo_append_93 : decode b_Mo_append 93 = .ok (.getfield 57, 3) := by decide +kernel
theorem d_Mo_append_96 : decode b_Mo_append 96 = .ok (.aload_n 0, 1) := by decide +kernel
theorem d_Mo_append_97 : decode b_Mo_append 97 = .ok (.getfield 153, 3) := by decide +kernel
theorem d_Mo_append_100 : decode b_Mo_append 100 = .ok (.aload_n 0, 1) := by decide +kernel
theorem d_Mo_append_101 : decode b_Mo_append 101 = .ok (.invokevirtual 422, 3) := by decide +kernel
theorem d_Mo_append_104 : decode b_Mo_append 104 = .ok (.iastore, 1) := by decide +kernel
theorem d_Mo_append_105 : decode b_Mo_append 105 = .ok (.aload_n 0, 1) := by decide +kernel
theorem d_Mo_append_106 : decode b_Mo_append 106 = .ok (.getfield 153, 3) := by decide +kernel
theorem d_Mo_append_109 : decode b_Mo_append 109 = .ok (.ifCond .le 30, 3) := by decide +kernel
theorem d_Mo_append_112 : decode b_Mo_append 112 = .ok (.aload_n 0, 1) := by decide +kernel
theorem d_Mo_append_113 : decode b_Mo_append 113 = .ok (.aload_n 0, 1) := by decide +kernel
theorem d_Mo_append_114 : decode b_Mo_append 114 = .ok (.getfield 57, 3) := by decide +kernel
theorem d_Mo_append_117 : decode b_Mo_append 117 = .ok (.aload_n 0, 1) := by decide +kernel
theorem d_Mo_append_118 : decode b_Mo_append 118 = .ok (.getfield 153, 3) := by decide +kernel
theorem d_Mo_append_121 : decode b_Mo_append 121 = .ok (.iconst 1, 1) := by decide +kernel
theorem d_Mo_append_122 : decode b_Mo_append 122 = .ok (.isub, 1) := by decide +kernel
theorem d_Mo_append_123 : decode b_Mo_append 123 = .ok (.iaload, 1) := by decide +kernel
theorem d_Mo_append_124 : decode b_Mo_append 124 = .ok (.aload_n 0, 1) := by decide +kernel
theorem d_Mo_append_125 : decode b_Mo_append 125 = .ok (.getfield 57, 3) := by decide +kernel
theorem d_Mo_append_128 : decode b_Mo_append 128 = .ok (.aload_n 0, 1) := by decide +kernel
theorem d_Mo_append_129 : decode b_Mo_append 129 = .ok (.getfield 153, 3) := by decide +kernel
theorem d_Mo_append_132 : decode b_Mo_append 132 = .ok (.iaload, 1) := by decide +kernel
theorem d_Mo_append_133 : decode b_Mo_append 133 = .ok (.invokevirtual 337, 3) := by decide +kernel
theorem d_Mo_append_136 : decode b_Mo_append 136 = .ok (.goto 40, 3) := by decide +kernel
theorem d_Mo_append_139 : decode b_Mo_append 139 = .ok (.aload_n 0, 1) := by decide +kernel
theorem d_Mo_append_140 : decode b_Mo_append 140 = .ok (.iload 5, 2) := by decide +kernel
theorem d_Mo_append_142 : decode b_Mo_append 142 = .ok (.bipush 20, 2) := by decide +kernel
theorem d_Mo_append_144 : decode b_Mo_append 144 = .ok (.iadd, 1) := by decide +kernel
theorem d_Mo_append_145 : decode b_Mo_append 145 = .ok (.iconst 2, 1) := by decide +kernel
theorem d_Mo_append_146 : decode b_Mo_append 146 = .ok (.aload_n 0, 1) := by decide +kernel
theorem d_Mo_append_147 : decode b_Mo_append 147 = .ok (.getfield 57, 3) := by decide +kernel
theorem d_Mo_append_150 : decode b_Mo_append 150 = .ok (.iconst 0, 1) := by decide +kernel
theorem d_Mo_append_151 : decode b_Mo_append 151 = .ok (.iaload, 1) := by decide +kernel
theorem d_Mo_append_152 : decode b_Mo_append 152 = .ok (.bipush 16, 2) := by decide +kernel
theorem d_Mo_append_154 : decode b_Mo_append 154 = .ok (.ishr, 1) := by decide +kernel
theorem d_Mo_append_155 : decode b_Mo_append 155 = .ok (.i2l, 1) := by decide +kernel
theorem d_Mo_append_156 : decode b_Mo_append 156 = .ok (.invokevirtual 128, 3) := by decide +kernel
theorem d_Mo_append_159 : decode b_Mo_append 159 = .ok (.aload_n 0, 1) := by decide +kernel
theorem d_Mo_append_160 : decode b_Mo_append 160 = .ok (.iload 5, 2) := by decide +kernel
theorem d_Mo_append_162 : decode b_Mo_append 162 = .ok (.bipush 26, 2) := by decide +kernel
theorem d_Mo_append_164 : decode b_Mo_append 164 = .ok (.iadd, 1) := by decide +kernel
theorem d_Mo_append_165 : decode b_Mo_append 165 = .ok (.iconst 2, 1) := by decide +kernel
theorem d_Mo_append_166 : decode b_Mo_append 166 = .ok (.aload_n 0, 1) := by decide +kernel
theorem d_Mo_append_167 : decode b_Mo_append 167 = .ok (.getfield 57, 3) := by decide +kernel
theorem d_Mo_append_170 : decode b_Mo_append 170 = .ok (.iconst 0, 1) := by decide +kernel
theorem d_Mo_append_171 : decode b_Mo_append 171 = .ok (.iaload, 1) := by decide +kernel
theorem d_Mo_append_172 : decode b_Mo_append 172 = .ok (.i2l, 1) := by decide +kernel
theorem d_Mo_append_173 : decode b_Mo_append 173 = .ok (.invokevirtual 128, 3) := by decide +kernel
theorem d_Mo_append_176 : decode b_Mo_append 176 = .ok (.aload_n 0, 1) := by decide +kernel
theorem d_Mo_append_177 : decode b_Mo_append 177 = .ok (.dup, 1) := by decide +kernel
theorem d_Mo_append_178 : decode b_Mo_append 178 = .ok (.getfield 153, 3) := by decide +kernel
theorem d_Mo_append_181 : decode b_Mo_append 181 = .ok (.iconst 1, 1) := by decide +kernel
theorem d_Mo_append_182 : decode b_Mo_append 182 = .ok (.iadd, 1) := by decide +kernel
theorem d_Mo_append_183 : decode b_Mo_append 183 = .ok (.putfield 153, 3) := by decide +kernel
theorem d_Mo_append_186 : decode b_Mo_append 186 = .ok (.iinc 9 1, 3) := by decide +kernel
theorem d_Mo_append_189 : decode b_Mo_append 189 = .ok (.goto (-104), 3) := by decide +kernel
theorem d_Mo_append_192 : decode b_Mo_append 192 = .ok (.iconst 0, 1) := by decide +kernel
theorem d_Mo_append_193 : decode b_Mo_append 193 = .ok (.istore 9, 2) := by decide +kernel
theorem d_Mo_append_195 : decode b_Mo_append 195 = .ok (.iload 9, 2) := by decide +kernel
theorem d_Mo_append_197 : decode b_Mo_append 197 = .ok (.iload_n 2, 1) := by decide +kernel
theorem d_Mo_append_198 : decode b_Mo_append 198 = .ok (.if_icmp .ge 70, 3) := by decide +kernel
theorem d_Mo_append_201 : decode b_Mo_append 201 = .ok (.iload 6, 2) := by decide +kernel
theorem d_Mo_append_203 : decode b_Mo_append 203 = .ok (.iload 9, 2) := by decide +kernel
theorem d_Mo_append_205 : decode b_Mo_append 205 = .ok (.iadd, 1) := by decide +kernel
theorem d_Mo_append_206 : decode b_Mo_append 206 = .ok (.istore 10, 2) := by decide +kernel
theorem d_Mo_append_208 : decode b_Mo_append 208 = .ok (.aload_n 0, 1) := by decide +kernel
theorem d_Mo_append_209 : decode b_Mo_append 209 = .ok (.getfield 8, 3) := by decide +kernel
theorem d_Mo_append_212 : decode b_Mo_append 212 = .ok (.aload_n 0, 1) := by decide +kernel
theorem d_Mo_append_213 : decode b_Mo_append 213 = .ok (.aload_n 0, 1) := by decide +kernel
theorem d_Mo_append_214 : decode b_Mo_append 214 = .ok (.getfield 57, 3) := by decide +kernel
theorem d_Mo_append_217 : decode b_Mo_append 217 = .ok (.iload 10, 2) := by decide +kernel
theorem d_Mo_append_219 : decode b_Mo_append 219 = .ok (.iload 7, 2) := by decide +kernel
theorem d_Mo_append_221 : decode b_Mo_append 221 = .ok (.idiv, 1) := by decide +kernel
theorem d_Mo_append_222 : decode b_Mo_append 222 = .ok (.iaload, 1) := by decide +kernel
theorem d_Mo_append_223 : decode b_Mo_append 223 = .ok (.invokevirtual 159, 3) := by decide +kernel
theorem d_Mo_append_226 : decode b_Mo_append 226 = .ok (.iload 10, 2) := by decide +kernel
theorem d_Mo_append_228 : decode b_Mo_append 228 = .ok (.iload 7, 2) := by decide +kernel
theorem d_Mo_append_230 : decode b_Mo_append 230 = .ok (.irem, 1) := by decide +kernel
theorem d_Mo_append_231 : decode b_Mo_append 231 = .ok (.iadd, 1) := by decide +kernel
theorem d_Mo_append_232 : decode b_Mo_append 232 = .ok (.iload_n 3, 1) := by decide +kernel
theorem d_Mo_append_233 : decode b_Mo_append 233 = .ok (.ifCond .eq 13, 3) := by decide +kernel
theorem d_Mo_append_236 : decode b_Mo_append 236 = .ok (.aload_n 0, 1) := by decide +kernel
theorem d_Mo_append_237 : decode b_Mo_append 237 = .ok (.getfield 17, 3) := by decide +kernel
theorem d_Mo_append_240 : decode b_Mo_append 240 = .ok (.iload 9, 2) := by decide +kernel
theorem d_Mo_append_242 : decode b_Mo_append 242 = .ok (.baload, 1) := by decide +kernel
theorem d_Mo_append_243 : decode b_Mo_append 243 = .ok (.goto 18, 3) := by decide +kernel
theorem d_Mo_append_246 : decode b_Mo_append 246 = .ok (.iload 4, 2) := by decide +kernel
theorem d_Mo_append_248 : decode b_Mo_append 248 = .ok (.iload 9, 2) := by decide +kernel
theorem d_Mo_append_250 : decode b_Mo_append 250 = .ok (.iload 9, 2) := by decide +kernel
theorem d_Mo_append_252 : decode b_Mo_append 252 = .ok (.imul, 1) := by decide +kernel
theorem d_Mo_append_253 : decode b_Mo_append 253 = .ok (.iadd, 1) := by decide +kernel
theorem d_Mo_append_254 : decode b_Mo_append 254 = .ok (.iload 9, 2) := by decide +kernel
theorem d_Mo_append_256 : decode b_Mo_append 256 = .ok (.bipush 8, 2) := by decide +kernel
theorem d_Mo_append_258 : decode b_Mo_append 258 = .ok (.ishr, 1) := by decide +kernel
theorem d_Mo_append_259 : decode b_Mo_append 259 = .ok (.iadd, 1) := by decide +kernel
theorem d_Mo_append_260 : decode b_Mo_append 260 = .ok (.i2b, 1) := by decide +kernel
theorem d_Mo_append_261 : decode b_Mo_append 261 = .ok (.bastore, 1) := by decide +kernel
theorem d_Mo_append_262 : decode b_Mo_append 262 = .ok (.iinc 9 1, 3) := by decide +kernel
theorem d_Mo_append_265 : decode b_Mo_append 265 = .ok (.goto (-70), 3) := by decide +kernel
theorem d_Mo_append_268 : decode b_Mo_append 268 = .ok (.aload_n 0, 1) := by decide +kernel
theorem d_Mo_append_269 : decode b_Mo_append 269 = .ok (.iload 5, 2) := by decide +kernel
theorem d_Mo_append_271 : decode b_Mo_append 271 = .ok (.bipush 28, 2) := by decide +kernel
theorem d_Mo_append_273 : decode b_Mo_append 273 = .ok (.iadd, 1) := by decide +kernel
theorem d_Mo_append_274 : decode b_Mo_append 274 = .ok (.iconst 4, 1) := by decide +kernel
theorem d_Mo_append_275 : decode b_Mo_append 275 = .ok (.iload 6, 2) := by decide +kernel
theorem d_Mo_append_277 : decode b_Mo_append 277 = .ok (.iload_n 2, 1) := by decide +kernel
theorem d_Mo_append_278 : decode b_Mo_append 278 = .ok (.iadd, 1) := by decide +kernel
theorem d_Mo_append_279 : decode b_Mo_append 279 = .ok (.i2l, 1) := by decide +kernel
theorem d_Mo_append_280 : decode b_Mo_append 280 = .ok (.invokevirtual 128, 3) := by decide +kernel
theorem d_Mo_append_283 : decode b_Mo_append 283 = .ok (.aload_n 0, 1) := by decide +kernel
theorem d_Mo_append_284 : decode b_Mo_append 284 = .ok (.invokevirtual 308, 3) := by decide +kernel
theorem d_Mo_append_287 : decode b_Mo_append 287 = .ok (.iload 6, 2) := by decide +kernel
theorem d_Mo_append_289 : decode b_Mo_append 289 = .ok (.iload_n 2, 1) := by decide +kernel
theorem d_Mo_append_290 : decode b_Mo_append 290 = .ok (.iadd, 1) := by decide +kernel
theorem d_Mo_append_291 : decode b_Mo_append 291 = .ok (.ireturn, 1) := by decide +kernel
theorem d_Mo_folderBlocks_0 : decode b_Mo_folderBlocks 0 = .ok (.iconst 1, 1) := by decide +kernel
theorem d_Mo_folderBlocks_1 : decode b_Mo_folderBlocks 1 = .ok (.istore_n 2, 1) := by decide +kernel
theorem d_Mo_folderBlocks_2 : decode b_Mo_folderBlocks 2 = .ok (.bipush 24, 2) := by decide +kernel
theorem d_Mo_folderBlocks_4 : decode b_Mo_folderBlocks 4 = .ok (.istore_n 3, 1) := by decide +kernel
theorem d_Mo_folderBlocks_5 : decode b_Mo_folderBlocks 5 = .ok (.aload_n 0, 1) := by decide +kernel
theorem d_Mo_folderBlocks_6 : decode b_Mo_folderBlocks 6 = .ok (.getfield 43, 3) := by decide +kernel
theorem d_Mo_folderBlocks_9 : decode b_Mo_folderBlocks 9 = .ok (.iload_n 1, 1) := by decide +kernel
theorem d_Mo_folderBlocks_10 : decode b_Mo_folderBlocks 10 = .ok (.iaload, 1) := by decide +kernel
theorem d_Mo_folderBlocks_11 : decode b_Mo_folderBlocks 11 = .ok (.aload_n 0, 1) := by decide +kernel
theorem d_Mo_folderBlocks_12 : decode b_Mo_folderBlocks 12 = .ok (.getfield 40, 3) := by decide +kernel
theorem d_Mo_folderBlocks_15 : decode b_Mo_folderBlocks 15 = .ok (.iload_n 1, 1) := by decide +kernel
theorem d_Mo_folderBlocks_16 : decode b_Mo_folderBlocks 16 = .ok (.iaload, 1) := by decide +kernel
theorem d_Mo_folderBlocks_17 : decode b_Mo_folderBlocks 17 = .ok (.iadd, 1) := by decide +kernel
theorem d_Mo_folderBlocks_18 : decode b_Mo_folderBlocks 18 = .ok (.iload_n 1, 1) := by decide +kernel
theorem d_Mo_folderBlocks_19 : decode b_Mo_folderBlocks 19 = .ok (.ifCond .ne 7, 3) := by decide +kernel
theorem d_Mo_folderBlocks_22 : decode b_Mo_folderBlocks 22 = .ok (.iconst 1, 1) := by decide +kernel
theorem d_Mo_folderBlocks_23 : decode b_Mo_folderBlocks 23 = .ok (.goto 4, 3) := by decide +kernel
theorem d_Mo_folderBlocks_26 : decode b_Mo_folderBlocks 26 = .ok (.iconst 0, 1) := by decide +kernel
theorem d_Mo_folderBlocks_27 : decode b_Mo_folderBlocks 27 = .ok (.iadd, 1) := by decide +kernel
theorem d_Mo_folderBlocks_28 : decode b_Mo_folderBlocks 28 = .ok (.istore 4, 2) := by decide +kernel
theorem d_Mo_folderBlocks_30 : decode b_Mo_folderBlocks 30 = .ok (.aload_n 0, 1) := by decide +kernel
theorem d_Mo_folderBlocks_31 : decode b_Mo_folderBlocks 31 = .ok (.getfield 43, 3) := by decide +kernel
theorem d_Mo_folderBlocks_34 : decode b_Mo_folderBlocks 34 = .ok (.iload_n 1, 1) := by decide +kernel
theorem d_Mo_folderBlocks_35 : decode b_Mo_folderBlocks 35 = .ok (.iaload, 1) := by decide +kernel
theorem d_Mo_folderBlocks_36 : decode b_Mo_folderBlocks 36 = .ok (.istore 5, 2) := by decide +kernel
theorem d_Mo_folderBlocks_38 : decode b_Mo_folderBlocks 38 = .ok (.iload 5, 2) := by decide +kernel
theorem d_Mo_folderBlocks_40 : decode b_Mo_folderBlocks 40 = .ok (.iload 4, 2) := by decide +kernel
theorem d_Mo_folderBlocks_42 : decode b_Mo_folderBlocks 42 = .ok (.if_icmp .ge 69, 3) := by decide +kernel
theorem d_Mo_folderBlocks_45 : decode b_Mo_folderBlocks 45 = .ok (.bipush 8, 2) := by decide +kernel
theorem d_Mo_folderBlocks_47 : decode b_Mo_folderBlocks 47 = .ok (.iload 5, 2) := by decide +kernel
theorem d_Mo_folderBlocks_49 : decode b_Mo_folderBlocks 49 = .ok (.aload_n 0, 1) := by decide +kernel
theorem d_Mo_folderBlocks_50 : decode b_Mo_folderBlocks 50 = .ok (.getfield 43, 3) := by decide +kernel
theorem d_Mo_folderBlocks_53 : decode b_Mo_folderBlocks 53 = .ok (.iload_n 1, 1) := by decide +kernel
theorem d_Mo_folderBlocks_54 : decode b_Mo_folderBlocks 54 = .ok (.iaload, 1) := by decide +kernel
theorem d_Mo_folderBlocks_55 : decode b_Mo_folderBlocks 55 = .ok (.aload_n 0, 1) := by decide +kernel
theorem d_Mo_folderBlocks_56 : decode b_Mo_folderBlocks 56 = .ok (.getfield 40, 3) := by decide +kernel
theorem d_Mo_folderBlocks_59 : decode b_Mo_folderBlocks 59 = .ok (.iload_n 1, 1) := by decide +kernel
theorem d_Mo_folderBlocks_60 : decode b_Mo_folderBlocks 60 = .ok (.iaload, 1) := by decide +kernel
theorem d_Mo_folderBlocks_61 : decode b_Mo_folderBlocks 61 = .ok (.iadd, 1) := by decide +kernel
theorem d_Mo_folderBlocks_62 : decode b_Mo_folderBlocks 62 = .ok (.if_icmp .ge 12, 3) := by decide +kernel
theorem d_Mo_folderBlocks_65 : decode b_Mo_folderBlocks 65 = .ok (.aload_n 0, 1) := by decide +kernel
theorem d_Mo_folderBlocks_66 : decode b_Mo_folderBlocks 66 = .ok (.iload 5, 2) := by decide +kernel
theorem d_Mo_folderBlocks_68 : decode b_Mo_folderBlocks 68 = .ok (.invokevirtual 447, 3) := by decide +kernel
theorem d_Mo_folderBlocks_71 : decode b_Mo_folderBlocks 71 = .ok (.goto 5, 3) := by decide +kernel
theorem d_Mo_folderBlocks_74 : decode b_Mo_folderBlocks 74 = .ok (.bipush 7, 2) := by decide +kernel
theorem d_Mo_folderBlocks_76 : decode b_Mo_folderBlocks 76 = .ok (.iconst 4, 1) := by decide +kernel
theorem d_Mo_folderBlocks_77 : decode b_Mo_folderBlocks 77 = .ok (.invokestatic 262, 3) := by decide +kernel
theorem d_Mo_folderBlocks_80 : decode b_Mo_folderBlocks 80 = .ok (.iconst 4, 1) := by decide +kernel
theorem d_Mo_folderBlocks_81 : decode b_Mo_folderBlocks 81 = .ok (.imul, 1) := by decide +kernel
theorem d_Mo_folderBlocks_82 : decode b_Mo_folderBlocks 82 = .ok (.iadd, 1) := by decide +kernel
theorem d_Mo_folderBlocks_83 : decode b_Mo_folderBlocks 83 = .ok (.istore 6, 2) := by decide +kernel
theorem d_Mo_folderBlocks_85 : decode b_Mo_folderBlocks 85 = .ok (.iload_n 3, 1) := by decide +kernel
theorem d_Mo_folderBlocks_86 : decode b_Mo_folderBlocks 86 = .ok (.iload 6, 2) := by decide +kernel
theorem d_Mo_folderBlocks_88 : decode b_Mo_folderBlocks 88 = .ok (.iadd, 1) := by decide +kernel
theorem d_Mo_folderBlocks_89 : decode b_Mo_folderBlocks 89 = .ok (.sipush 1024, 3) := by decide +kernel
theorem d_Mo_folderBlocks_92 : decode b_Mo_folderBlocks 92 = .ok (.if_icmp .le 8, 3) := by decide +kernel
theorem d_Mo_folderBlocks_95 : decode b_Mo_folderBlocks 95 = .ok (.iinc 2 1, 3) := by decide +kernel
theorem d_Mo_folderBlocks_98 : decode b_Mo_folderBlocks 98 = .ok (.iconst 0, 1) := by decide +kernel
theorem d_Mo_folderBlocks_99 : decode b_Mo_folderBlocks 99 = .ok (.istore_n 3, 1) := by decide +kernel
theorem d_Mo_folderBlocks_100 : decode b_Mo_folderBlocks 100 = .ok (.iload_n 3, 1) := by decide +kernel
theorem d_Mo_folderBlocks_101 : decode b_Mo_folderBlocks 101 = .ok (.iload 6, 2) := by decide +kernel
theorem d_Mo_folderBlocks_103 : decode b_Mo_folderBlocks 103 = .ok (.iadd, 1) := by decide +kernel
theorem d_Mo_folderBlocks_104 : decode b_Mo_folderBlocks 104 = .ok (.istore_n 3, 1) := by decide +kernel
theorem d_Mo_folderBlocks_105 : decode b_Mo_folderBlocks 105 = .ok (.iinc 5 1, 3) := by decide +kernel
theorem d_Mo_folderBlocks_108 : decode b_Mo_folderBlocks 108 = .ok (.goto (-70), 3) := by decide +kernel
theorem d_Mo_folderBlocks_111 : decode b_Mo_folderBlocks 111 = .ok (.iload_n 2, 1) := by decide +kernel
theorem d_Mo_folderBlocks_112 : decode b_Mo_folderBlocks 112 = .ok (.ireturn, 1) := by decide +kernel
theorem d_Mo_clustersOf_0 : decode b_Mo_clustersOf 0 = .ok (.aload_n 0, 1) := by decide +kernel
theorem d_Mo_clustersOf_1 : decode b_Mo_clustersOf 1 = .ok (.aload_n 0, 1) := by decide +kernel
theorem d_Mo_clustersOf_2 : decode b_Mo_clustersOf 2 = .ok (.iload_n 1, 1) := by decide +kernel
theorem d_Mo_clustersOf_3 : decode b_Mo_clustersOf 3 = .ok (.invokevirtual 192, 3) := by decide +kernel
theorem d_Mo_clustersOf_6 : decode b_Mo_clustersOf 6 = .ok (.invokevirtual 195, 3) := by decide +kernel
theorem d_Mo_clustersOf_9 : decode b_Mo_clustersOf 9 = .ok (.aload_n 0, 1) := by decide +kernel
theorem d_Mo_clustersOf_10 : decode b_Mo_clustersOf 10 = .ok (.getfield 153, 3) := by decide +kernel
theorem d_Mo_clustersOf_13 : decode b_Mo_clustersOf 13 = .ok (.ireturn, 1) := by decide +kernel
theorem d_Mo_recordBlocks_0 : decode b_Mo_recordBlocks 0 = .ok (.aload_n 0, 1) := by decide +kernel
theorem d_Mo_recordBlocks_1 : decode b_Mo_recordBlocks 1 = .ok (.getfield 135, 3) := by decide +kernel
theorem d_Mo_recordBlocks_4 : decode b_Mo_recordBlocks 4 = .ok (.iconst 2, 1) := by decide +kernel
theorem d_Mo_recordBlocks_5 : decode b_Mo_recordBlocks 5 = .ok (.idiv, 1) := by decide +kernel
theorem d_Mo_recordBlocks_6 : decode b_Mo_recordBlocks 6 = .ok (.istore_n 1, 1) := by decide +kernel
theorem d_Mo_recordBlocks_7 : decode b_Mo_recordBlocks 7 = .ok (.iconst 0, 1) := by decide +kernel
theorem d_Mo_recordBlocks_8 : decode b_Mo_recordBlocks 8 = .ok (.istore_n 2, 1) := by decide +kernel
theorem d_Mo_recordBlocks_9 : decode b_Mo_recordBlocks 9 = .ok (.iload_n 2, 1) := by decide +kernel
theorem d_Mo_recordBlocks_10 : decode b_Mo_recordBlocks 10 = .ok (.aload_n 0, 1) := by decide +kernel
theorem d_Mo_recordBlocks_11 : decode b_Mo_recordBlocks 11 = .ok (.getfield 166, 3) := by decide +kernel
theorem d_Mo_recordBlocks_14 : decode b_Mo_recordBlocks 14 = .ok (.if_icmp .ge 36, 3) := by decide +kernel
theorem d_Mo_recordBlocks_17 : decode b_Mo_recordBlocks 17 = .ok (.iload_n 1, 1) := by decide +kernel
theorem d_Mo_recordBlocks_18 : decode b_Mo_recordBlocks 18 = .ok (.aload_n 0, 1) := by decide +kernel
theorem d_Mo_recordBlocks_19 : decode b_Mo_recordBlocks 19 = .ok (.iload_n 2, 1) := by decide +kernel
theorem d_Mo_recordBlocks_20 : decode b_Mo_recordBlocks 20 = .ok (.invokevirtual 185, 3) := by decide +kernel
theorem d_Mo_recordBlocks_23 : decode b_Mo_recordBlocks 23 = .ok (.ifCond .eq 18, 3) := by decide +kernel
theorem d_Mo_recordBlocks_26 : decode b_Mo_recordBlocks 26 = .ok (.aload_n 0, 1) := by decide +kernel
theorem d_Mo_recordBlocks_27 : decode b_Mo_recordBlocks 27 = .ok (.iload_n 2, 1) := by decide +kernel
theorem d_Mo_recordBlocks_28 : decode b_Mo_recordBlocks 28 = .ok (.invokevirtual 450, 3) := by decide +kernel
theorem d_Mo_recordBlocks_31 : decode b_Mo_recordBlocks 31 = .ok (.aload_n 0, 1) := by decide +kernel
theorem d_Mo_recordBlocks_32 : decode b_Mo_recordBlocks 32 = .ok (.getfield 138, 3) := by decide +kernel
theorem d_Mo_recordBlocks_35 : decode b_Mo_recordBlocks 35 = .ok (.iconst 2, 1) := by decide +kernel
theorem d_Mo_recordBlocks_36 : decode b_Mo_recordBlocks 36 = .ok (.idiv, 1) := by decide +kernel
theorem d_Mo_recordBlocks_37 : decode b_Mo_recordBlocks 37 = .ok (.imul, 1) := by decide +kernel
theorem d_Mo_recordBlocks_38 : decode b_Mo_recordBlocks 38 = .ok (.goto 4, 3) := by decide +kernel
theorem d_Mo_recordBlocks_41 : decode b_Mo_recordBlocks 41 = .ok (.iconst 0, 1) := by decide +kernel
theorem d_Mo_recordBlocks_42 : decode b_Mo_recordBlocks 42 = .ok (.iadd, 1) := by decide +kernel
theorem d_Mo_recordBlocks_43 : decode b_Mo_recordBlocks 43 = .ok (.istore_n 1, 1) := by decide +kernel
theorem d_Mo_recordBlocks_44 : decode b_Mo_recordBlocks 44 = .ok (.iinc 2 1, 3) := by decide +kernel
theorem d_Mo_recordBlocks_47 : decode b_Mo_recordBlocks 47 = .ok (.goto (-38), 3) := by decide +kernel
theorem d_Mo_recordBlocks_50 : decode b_Mo_recordBlocks 50 = .ok (.iload_n 1, 1) := by decide +kernel
theorem d_Mo_recordBlocks_51 : decode b_Mo_recordBlocks 51 = .ok (.ireturn, 1) := by decide +kernel
theorem d_Mo_indirect_0 : decode b_Mo_indirect 0 = .ok (.iload_n 0, 1) := by decide +kernel
theorem d_Mo_indirect_1 : decode b_Mo_indirect 1 = .ok (.bipush 12, 2) := by decide +kernel
theorem d_Mo_indirect_3 : decode b_Mo_indirect 3 = .ok (.if_icmp .gt 7, 3) := by decide +kernel
theorem d_Mo_indirect_6 : decode b_Mo_indirect 6 = .ok (.iconst 0, 1) := by decide +kernel
theorem d_Mo_indirect_7 : decode b_Mo_indirect 7 = .ok (.goto 27, 3) := by decide +kernel
theorem d_Mo_indirect_10 : decode b_Mo_indirect 10 = .ok (.iload_n 0, 1) := by decide +kernel
theorem d_Mo_indirect_11 : decode b_Mo_indirect 11 = .ok (.sipush 268, 3) := by decide +kernel
theorem d_Mo_indirect_14 : decode b_Mo_indirect 14 = .ok (.if_icmp .gt 7, 3) := by decide +kernel
theorem d_Mo_indirect_17 : decode b_Mo_indirect 17 = .ok (.iconst 1, 1) := by decide +kernel
theorem d_Mo_indirect_18 : decode b_Mo_indirect 18 = .ok (.goto 16, 3) := by decide +kernel
theorem d_Mo_indirect_21 : decode b_Mo_indirect 21 = .ok (.iconst 2, 1) := by decide +kernel
theorem d_Mo_indirect_22 : decode b_Mo_indirect 22 = .ok (.iload_n 0, 1) := by decide +kernel
theorem d_Mo_indirect_23 : decode b_Mo_indirect 23 = .ok (.sipush 268, 3) := by decide +kernel
theorem d_Mo_indirect_26 : decode b_Mo_indirect 26 = .ok (.isub, 1) := by decide +kernel
theorem d_Mo_indirect_27 : decode b_Mo_indirect 27 = .ok (.sipush 256, 3) := by decide +kernel
theorem d_Mo_indirect_30 : decode b_Mo_indirect 30 = .ok (.invokestatic 262, 3) := by decide +kernel
theorem d_Mo_indirect_33 : decode b_Mo_indirect 33 = .ok (.iadd, 1) := by decide +kernel
theorem d_Mo_indirect_34 : decode b_Mo_indirect 34 = .ok (.ireturn, 1) := by decide +kernel
theorem d_Mo_fileBlocks_0 : decode b_Mo_fileBlocks 0 = .ok (.aload_n 0, 1) := by decide +kernel
theorem d_Mo_fileBlocks_1 : decode b_Mo_fileBlocks 1 = .ok (.aload_n 0, 1) := by decide +kernel
theorem d_Mo_fileBlocks_2 : decode b_Mo_fileBlocks 2 = .ok (.getfield 27, 3) := by decide +kernel
theorem d_Mo_fileBlocks_5 : decode b_Mo_fileBlocks 5 = .ok (.iload_n 1, 1) := by decide +kernel
theorem d_Mo_fileBlocks_6 : decode b_Mo_fileBlocks 6 = .ok (.iaload, 1) := by decide +kernel
theorem d_Mo_fileBlocks_7 : decode b_Mo_fileBlocks 7 = .ok (.bipush 28, 2) := by decide +kernel
theorem d_Mo_fileBlocks_9 : decode b_Mo_fileBlocks 9 = .ok (.iadd, 1) := by decide +kernel
theorem d_Mo_fileBlocks_10 : decode b_Mo_fileBlocks 10 = .ok (.invokevirtual 120, 3) := by decide +kernel
theorem d_Mo_fileBlocks_13 : decode b_Mo_fileBlocks 13 = .ok (.sipush 1024, 3) := by decide +kernel
theorem d_Mo_fileBlocks_16 : decode b_Mo_fileBlocks 16 = .ok (.invokestatic 262, 3) := by decide +kernel
theorem d_Mo_fileBlocks_19 : decode b_Mo_fileBlocks 19 = .ok (.ireturn, 1) := by decide +kernel
theorem d_Mo_groupSize_0 : decode b_Mo_groupSize 0 = .ok (.iload_n 1, 1) := by decide +kernel
theorem d_Mo_groupSize_1 : decode b_Mo_groupSize 1 = .ok (.aload_n 0, 1) := by decide +kernel
theorem d_Mo_groupSize_2 : decode b_Mo_groupSize 2 = .ok (.getfield 453, 3) := by decide +kernel
theorem d_Mo_groupSize_5 : decode b_Mo_groupSize 5 = .ok (.iconst 1, 1) := by decide +kernel
theorem d_Mo_groupSize_6 : decode b_Mo_groupSize 6 = .ok (.isub, 1) := by decide +kernel
theorem d_Mo_groupSize_7 : decode b_Mo_groupSize 7 = .ok (.if_icmp .ge 10, 3) := by decide +kernel
theorem d_Mo_groupSize_10 : decode b_Mo_groupSize 10 = .ok (.aload_n 0, 1) := by decide +kernel
theorem d_Mo_groupSize_11 : decode b_Mo_groupSize 11 = .ok (.getfield 456, 3) := by decide +kernel
theorem d_Mo_groupSize_14 : decode b_Mo_groupSize 14 = .ok (.goto 16, 3) := by decide +kernel
theorem d_Mo_groupSize_17 : decode b_Mo_groupSize 17 = .ok (.aload_n 0, 1) := by decide +kernel
theorem d_Mo_groupSize_18 : decode b_Mo_groupSize 18 = .ok (.getfield 459, 3) := by decide +kernel
theorem d_Mo_groupSize_21 : decode b_Mo_groupSize 21 = .ok (.iconst 1, 1) := by decide +kernel
theorem d_Mo_groupSize_22 : decode b_Mo_groupSize 22 = .ok (.isub, 1) := by decide +kernel
theorem d_Mo_groupSize_23 : decode b_Mo_groupSize 23 = .ok (.iload_n 1, 1) := by decide +kernel
theorem d_Mo_groupSize_24 : decode b_Mo_groupSize 24 = .ok (.aload_n 0, 1) := by decide +kernel
theorem d_Mo_groupSize_25 : decode b_Mo_groupSize 25 = .ok (.getfield 456, 3) := by decide +kernel
theorem d_Mo_groupSize_28 : decode b_Mo_groupSize 28 = .ok (.imul, 1) := by decide +kernel
theorem d_Mo_groupSize_29 : decode b_Mo_groupSize 29 = .ok (.isub, 1) := by decide +kernel
theorem d_Mo_groupSize_30 : decode b_Mo_groupSize 30 = .ok (.ireturn, 1) := by decide +kernel
theorem d_Mo_mapOf_0 : decode b_Mo_mapOf 0 = .ok (.iload_n 1, 1) := by decide +kernel
theorem d_Mo_mapOf_1 : decode b_Mo_mapOf 1 = .ok (.ifCond .ne 12, 3) := by decide +kernel
theorem d_Mo_mapOf_4 : decode b_Mo_mapOf 4 = .ok (.aload_n 0, 1) := by decide +kernel
theorem d_Mo_mapOf_5 : decode b_Mo_mapOf 5 = .ok (.getfield 135, 3) := by decide +kernel
theorem d_Mo_mapOf_8 : decode b_Mo_mapOf 8 = .ok (.iconst 2, 1) := by decide +kernel
theorem d_Mo_mapOf_9 : decode b_Mo_mapOf 9 = .ok (.idiv, 1) := by decide +kernel
theorem d_Mo_mapOf_10 : decode b_Mo_mapOf 10 = .ok (.goto 11, 3) := by decide +kernel
theorem d_Mo_mapOf_13 : decode b_Mo_mapOf 13 = .ok (.iconst 3, 1) := by decide +kernel
theorem d_Mo_mapOf_14 : decode b_Mo_mapOf 14 = .ok (.iload_n 1, 1) := by decide +kernel
theorem d_Mo_mapOf_15 : decode b_Mo_mapOf 15 = .ok (.aload_n 0, 1) := by decide +kernel
theorem d_Mo_mapOf_16 : decode b_Mo_mapOf 16 = .ok (.getfield 456, 3) := by decide +kernel
theorem d_Mo_mapOf_19 : decode b_Mo_mapOf 19 = .ok (.imul, 1) := by decide +kernel
theorem d_Mo_mapOf_20 : decode b_Mo_mapOf 20 = .ok (.iadd, 1) := by decide +kernel
theorem d_Mo_mapOf_21 : decode b_Mo_mapOf 21 = .ok (.ireturn, 1) := by decide +kernel
theorem d_Mo_clusterOf_0 : decode b_Mo_clusterOf 0 = .ok (.iconst 2, 1) := by decide +kernel
theorem d_Mo_clusterOf_1 : decode b_Mo_clusterOf 1 = .ok (.iload_n 1, 1) := by decide +kernel
theorem d_Mo_clusterOf_2 : decode b_Mo_clusterOf 2 = .ok (.aload_n 0, 1) := by decide +kernel
theorem d_Mo_clusterOf_3 : decode b_Mo_clusterOf 3 = .ok (.getfield 135, 3) := by decide +kernel
theorem d_Mo_clusterOf_6 : decode b_Mo_clusterOf 6 = .ok (.iconst 2, 1) := by decide +kernel
theorem d_Mo_clusterOf_7 : decode b_Mo_clusterOf 7 = .ok (.idiv, 1) := by decide +kernel
theorem d_Mo_clusterOf_8 : decode b_Mo_clusterOf 8 = .ok (.isub, 1) := by decide +kernel
theorem d_Mo_clusterOf_9 : decode b_Mo_clusterOf 9 = .ok (.aload_n 0, 1) := by decide +kernel
theorem d_Mo_clusterOf_10 : decode b_Mo_clusterOf 10 = .ok (.getfield 138, 3) := by decide +kernel
theorem d_Mo_clusterOf_13 : decode b_Mo_clusterOf 13 = .ok (.iconst 2, 1) := by decide +kernel
theorem d_Mo_clusterOf_14 : decode b_Mo_clusterOf 14 = .ok (.idiv, 1) := by decide +kernel
theorem d_Mo_clusterOf_15 : decode b_Mo_clusterOf 15 = .ok (.idiv, 1) := by decide +kernel
theorem d_Mo_clusterOf_16 : decode b_Mo_clusterOf 16 = .ok (.iadd, 1) := by decide +kernel
theorem d_Mo_clusterOf_17 : decode b_Mo_clusterOf 17 = .ok (.ireturn, 1) := by decide +kernel
theorem d_Mo_isRoomy_0 : decode b_Mo_isRoomy 0 = .ok (.iconst 1, 1) := by decide +kernel
theorem d_Mo_isRoomy_1 : decode b_Mo_isRoomy 1 = .ok (.istore_n 1, 1) := by decide +kernel
theorem d_Mo_isRoomy_2 : decode b_Mo_isRoomy 2 = .ok (.iconst 0, 1) := by decide +kernel
theorem d_Mo_isRoomy_3 : decode b_Mo_isRoomy 3 = .ok (.istore_n 2, 1) := by decide +kernel
theorem d_Mo_isRoomy_4 : decode b_Mo_isRoomy 4 = .ok (.iload_n 2, 1) := by decide +kernel
theorem d_Mo_isRoomy_5 : decode b_Mo_isRoomy 5 = .ok (.aload_n 0, 1) := by decide +kernel
theorem d_Mo_isRoomy_6 : decode b_Mo_isRoomy 6 = .ok (.getfield 453, 3) := by decide +kernel
theorem d_Mo_isRoomy_9 : decode b_Mo_isRoomy 9 = .ok (.if_icmp .ge 55, 3) := by decide +kernel
theorem d_Mo_isRoomy_12 : decode b_Mo_isRoomy 12 = .ok (.iload_n 1, 1) := by decide +kernel
theorem d_Mo_isRoomy_13 : decode b_Mo_isRoomy 13 = .ok (.ifCond .eq 43, 3) := by decide +kernel
theorem d_Mo_isRoomy_16 : decode b_Mo_isRoomy 16 = .ok (.aload_n 0, 1) := by decide +kernel
theorem d_Mo_isRoomy_17 : decode b_Mo_isRoomy 17 = .ok (.iload_n 2, 1) := by decide +kernel
theorem d_Mo_isRoomy_18 : decode b_Mo_isRoomy 18 = .ok (.invokevirtual 462, 3) := by decide +kernel
theorem d_Mo_isRoomy_21 : decode b_Mo_isRoomy 21 = .ok (.iload_n 2, 1) := by decide +kernel
theorem d_Mo_isRoomy_22 : decode b_Mo_isRoomy 22 = .ok (.ifCond .ne 20, 3) := by decide +kernel
theorem d_Mo_isRoomy_25 : decode b_Mo_isRoomy 25 = .ok (.aload_n 0, 1) := by decide +kernel
theorem d_Mo_isRoomy_26 : decode b_Mo_isRoomy 26 = .ok (.getfield 135, 3) := by decide +kernel
theorem d_Mo_isRoomy_29 : decode b_Mo_isRoomy 29 = .ok (.iconst 2, 1) := by decide +kernel
theorem d_Mo_isRoomy_30 : decode b_Mo_isRoomy 30 = .ok (.idiv, 1) := by decide +kernel
theorem d_Mo_isRoomy_31 : decode b_Mo_isRoomy 31 = .ok (.aload_n 0, 1) := by decide +kernel
theorem d_Mo_isRoomy_32 : decode b_Mo_isRoomy 32 = .ok (.getfield 465, 3) := by decide +kernel
theorem d_Mo_isRoomy_35 : decode b_Mo_isRoomy 35 = .ok (.iadd, 1) := by decide +kernel
theorem d_Mo_isRoomy_36 : decode b_Mo_isRoomy 36 = .ok (.bipush 9, 2) := by decide +kernel
theorem d_Mo_isRoomy_38 : decode b_Mo_isRoomy 38 = .ok (.iadd, 1) := by decide +kernel
theorem d_Mo_isRoomy_39 : decode b_Mo_isRoomy 39 = .ok (.goto 10, 3) := by decide +kernel
theorem d_Mo_isRoomy_42 : decode b_Mo_isRoomy 42 = .ok (.aload_n 0, 1) := by decide +kernel
theorem d_Mo_isRoomy_43 : decode b_Mo_isRoomy 43 = .ok (.getfield 465, 3) := by decide +kernel
theorem d_Mo_isRoomy_46 : decode b_Mo_isRoomy 46 = .ok (.bipush 12, 2) := by decide +kernel
theorem d_Mo_isRoomy_48 : decode b_Mo_isRoomy 48 = .ok (.iadd, 1) := by decide +kernel
theorem d_Mo_isRoomy_49 : decode b_Mo_isRoomy 49 = .ok (.if_icmp .lt 7, 3) := by decide +kernel
theorem d_Mo_isRoomy_52 : decode b_Mo_isRoomy 52 = .ok (.iconst 1, 1) := by decide +kernel
theorem d_Mo_isRoomy_53 : decode b_Mo_isRoomy 53 = .ok (.goto 4, 3) := by decide +kernel
theorem d_Mo_isRoomy_56 : decode b_Mo_isRoomy 56 = .ok (.iconst 0, 1) := by decide +kernel
theorem d_Mo_isRoomy_57 : decode b_Mo_isRoomy 57 = .ok (.istore_n 1, 1) := by decide +kernel
theorem d_Mo_isRoomy_58 : decode b_Mo_isRoomy 58 = .ok (.iinc 2 1, 3) := by decide +kernel
theorem d_Mo_isRoomy_61 : decode b_Mo_isRoomy 61 = .ok (.goto (-57), 3) := by decide +kernel
theorem d_Mo_isRoomy_64 : decode b_Mo_isRoomy 64 = .ok (.iload_n 1, 1) := by decide +kernel
theorem d_Mo_isRoomy_65 : decode b_Mo_isRoomy 65 = .ok (.ifCond .ne 5, 3) := by decide +kernel
theorem d_Mo_isRoomy_68 : decode b_Mo_isRoomy 68 = .ok (.iconst 0, 1) := by decide +kernel
theorem d_Mo_isRoomy_69 : decode b_Mo_isRoomy 69 = .ok (.ireturn, 1) := by decide +kernel
theorem d_Mo_isRoomy_70 : decode b_Mo_isRoomy 70 = .ok (.iconst 0, 1) := by decide +kernel
theorem d_Mo_isRoomy_71 : decode b_Mo_isRoomy 71 = .ok (.istore_n 2, 1) := by decide +kernel
theorem d_Mo_isRoomy_72 : decode b_Mo_isRoomy 72 = .ok (.iload_n 2, 1) := by decide +kernel
theorem d_Mo_isRoomy_73 : decode b_Mo_isRoomy 73 = .ok (.sipush 512, 3) := by decide +kernel
theorem d_Mo_isRoomy_76 : decode b_Mo_isRoomy 76 = .ok (.if_icmp .ge 16, 3) := by decide +kernel
theorem d_Mo_isRoomy_79 : decode b_Mo_isRoomy 79 = .ok (.aload_n 0, 1) := by decide +kernel
theorem d_Mo_isRoomy_80 : decode b_Mo_isRoomy 80 = .ok (.getfield 75, 3) := by decide +kernel
theorem d_Mo_isRoomy_83 : decode b_Mo_isRoomy 83 = .ok (.iload_n 2, 1) := by decide +kernel
theorem d_Mo_isRoomy_84 : decode b_Mo_isRoomy 84 = .ok (.iconst 0, 1) := by decide +kernel
theorem d_Mo_isRoomy_85 : decode b_Mo_isRoomy 85 = .ok (.bastore, 1) := by decide +kernel
theorem d_Mo_isRoomy_86 : decode b_Mo_isRoomy 86 = .ok (.iinc 2 1, 3) := by decide +kernel
theorem d_Mo_isRoomy_89 : decode b_Mo_isRoomy 89 = .ok (.goto (-17), 3) := by decide +kernel
theorem d_Mo_isRoomy_92 : decode b_Mo_isRoomy 92 = .ok (.iconst 0, 1) := by decide +kernel
theorem d_Mo_isRoomy_93 : decode b_Mo_isRoomy 93 = .ok (.istore_n 2, 1) := by decide +kernel
theorem d_Mo_isRoomy_94 : decode b_Mo_isRoomy 94 = .ok (.iload_n 2, 1) := by decide +kernel
theorem d_Mo_isRoomy_95 : decode b_Mo_isRoomy 95 = .ok (.aload_n 0, 1) := by decide +kernel
theorem d_Mo_isRoomy_96 : decode b_Mo_isRoomy 96 = .ok (.getfield 453, 3) := by decide +kernel
theorem d_Mo_isRoomy_99 : decode b_Mo_isRoomy 99 = .ok (.if_icmp .ge 68, 3) := by decide +kernel
theorem d_Mo_isRoomy_102 : decode b_Mo_isRoomy 102 = .ok (.aload_n 0, 1) := by decide +kernel
theorem d_Mo_isRoomy_103 : decode b_Mo_isRoomy 103 = .ok (.getfield 75, 3) := by decide +kernel
theorem d_Mo_isRoomy_106 : decode b_Mo_isRoomy 106 = .ok (.iconst 1, 1) := by decide +kernel
theorem d_Mo_isRoomy_107 : decode b_Mo_isRoomy 107 = .ok (.iload_n 2, 1) := by decide +kernel
theorem d_Mo_isRoomy_108 : decode b_Mo_isRoomy 108 = .ok (.aload_n 0, 1) := by decide +kernel
theorem d_Mo_isRoomy_109 : decode b_Mo_isRoomy 109 = .ok (.getfield 456, 3) := by decide +kernel
theorem d_Mo_isRoomy_112 : decode b_Mo_isRoomy 112 = .ok (.imul, 1) := by decide +kernel
theorem d_Mo_isRoomy_113 : decode b_Mo_isRoomy 113 = .ok (.iadd, 1) := by decide +kernel
theorem d_Mo_isRoomy_114 : decode b_Mo_isRoomy 114 = .ok (.iconst 1, 1) := by decide +kernel
theorem d_Mo_isRoomy_115 : decode b_Mo_isRoomy 115 = .ok (.bastore, 1) := by decide +kernel
theorem d_Mo_isRoomy_116 : decode b_Mo_isRoomy 116 = .ok (.aload_n 0, 1) := by decide +kernel
theorem d_Mo_isRoomy_117 : decode b_Mo_isRoomy 117 = .ok (.getfield 75, 3) := by decide +kernel
theorem d_Mo_isRoomy_120 : decode b_Mo_isRoomy 120 = .ok (.iconst 2, 1) := by decide +kernel
theorem d_Mo_isRoomy_121 : decode b_Mo_isRoomy 121 = .ok (.iload_n 2, 1) := by decide +kernel
theorem d_Mo_isRoomy_122 : decode b_Mo_isRoomy 122 = .ok (.aload_n 0, 1) := by decide +kernel
theorem d_Mo_isRoomy_123 : decode b_Mo_isRoomy 123 = .ok (.getfield 456, 3) := by decide +kernel
theorem d_Mo_isRoomy_126 : decode b_Mo_isRoomy 126 = .ok (.imul, 1) := by decide +kernel
theorem d_Mo_isRoomy_127 : decode b_Mo_isRoomy 127 = .ok (.iadd, 1) := by decide +kernel
theorem d_Mo_isRoomy_128 : decode b_Mo_isRoomy 128 = .ok (.iconst 1, 1) := by decide +kernel
theorem d_Mo_isRoomy_129 : decode b_Mo_isRoomy 129 = .ok (.bastore, 1) := by decide +kernel
theorem d_Mo_isRoomy_130 : decode b_Mo_isRoomy 130 = .ok (.iconst 0, 1) := by decide +kernel
theorem d_Mo_isRoomy_131 : decode b_Mo_isRoomy 131 = .ok (.istore_n 3, 1) := by decide +kernel
theorem d_Mo_isRoomy_132 : decode b_Mo_isRoomy 132 = .ok (.iload_n 3, 1) := by decide +kernel
theorem d_Mo_isRoomy_133 : decode b_Mo_isRoomy 133 = .ok (.iconst 2, 1) := by decide +kernel
theorem d_Mo_isRoomy_134 : decode b_Mo_isRoomy 134 = .ok (.aload_n 0, 1) := by decide +kernel
theorem d_Mo_isRoomy_135 : decode b_Mo_isRoomy 135 = .ok (.getfield 465, 3) := by decide +kernel
theorem d_Mo_isRoomy_138 : decode b_Mo_isRoomy 138 = .ok (.iadd, 1) := by decide +kernel
theorem d_Mo_isRoomy_139 : decode b_Mo_isRoomy 139 = .ok (.if_icmp .ge 22, 3) := by decide +kernel
theorem d_Mo_isRoomy_142 : decode b_Mo_isRoomy 142 = .ok (.aload_n 0, 1) := by decide +kernel
theorem d_Mo_isRoomy_143 : decode b_Mo_isRoomy 143 = .ok (.getfield 75, 3) := by decide +kernel
theorem d_Mo_isRoomy_146 : decode b_Mo_isRoomy 146 = .ok (.aload_n 0, 1) := by decide +kernel
theorem d_Mo_isRoomy_147 : decode b_Mo_isRoomy 147 = .ok (.iload_n 2, 1) := by decide +kernel
theorem d_Mo_isRoomy_148 : decode b_Mo_isRoomy 148 = .ok (.invokevirtual 468, 3) := by decide +kernel
theorem d_Mo_isRoomy_151 : decode b_Mo_isRoomy 151 = .ok (.iload_n 3, 1) := by decide +kernel
theorem d_Mo_isRoomy_152 : decode b_Mo_isRoomy 152 = .ok (.iadd, 1) := by decide +kernel
theorem d_Mo_isRoomy_153 : decode b_Mo_isRoomy 153 = .ok (.iconst 1, 1) := by decide +kernel
theorem d_Mo_isRoomy_154 : decode b_Mo_isRoomy 154 = .ok (.bastore, 1) := by decide +kernel
theorem d_Mo_isRoomy_155 : decode b_Mo_isRoomy 155 = .ok (.iinc 3 1, 3) := by decide +kernel
theorem d_Mo_isRoomy_158 : decode b_Mo_isRoomy 158 = .ok (.goto (-26), 3) := by decide +kernel
theorem d_Mo_isRoomy_161 : decode b_Mo_isRoomy 161 = .ok (.iinc 2 1, 3) := by decide +kernel
theorem d_Mo_isRoomy_164 : decode b_Mo_isRoomy 164 = .ok (.goto (-70), 3) := by decide +kernel
theorem d_Mo_isRoomy_167 : decode b_Mo_isRoomy 167 = .ok (.aload_n 0, 1) := by decide +kernel
theorem d_Mo_isRoomy_168 : decode b_Mo_isRoomy 168 = .ok (.iconst 0, 1) := by decide +kernel
theorem d_Mo_isRoomy_169 : decode b_Mo_isRoomy 169 = .ok (.putfield 471, 3) := by decide +kernel
theorem d_Mo_isRoomy_172 : decode b_Mo_isRoomy 172 = .ok (.iconst 0, 1) := by decide +kernel
theorem d_Mo_isRoomy_173 : decode b_Mo_isRoomy 173 = .ok (.istore_n 2, 1) := by decide +kernel
theorem d_Mo_isRoomy_174 : decode b_Mo_isRoomy 174 = .ok (.iload_n 2, 1) := by decide +kernel
theorem d_Mo_isRoomy_175 : decode b_Mo_isRoomy 175 = .ok (.aload_n 0, 1) := by decide +kernel
theorem d_Mo_isRoomy_176 : decode b_Mo_isRoomy 176 = .ok (.getfield 459, 3) := by decide +kernel
theorem d_Mo_isRoomy_179 : decode b_Mo_isRoomy 179 = .ok (.if_icmp .ge 78, 3) := by decide +kernel
theorem d_Mo_isRoomy_182 : decode b_Mo_isRoomy 182 = .ok (.aload_n 0, 1) := by decide +kernel
theorem d_Mo_isRoomy_183 : decode b_Mo_isRoomy 183 = .ok (.dup, 1) := by decide +kernel
theorem d_Mo_isRoomy_184 : decode b_Mo_isRoomy 184 = .ok (.getfield 471, 3) := by decide +kernel
theorem d_Mo_isRoomy_187 : decode b_Mo_isRoomy 187 = .ok (.aload_n 0, 1) := by decide +kernel
theorem d_Mo_isRoomy_188 : decode b_Mo_isRoomy 188 = .ok (.getfield 75, 3) := by decide +kernel
theorem d_Mo_isRoomy_191 : decode b_Mo_isRoomy 191 = .ok (.iload_n 2, 1) := by decide +kernel
theorem d_Mo_isRoomy_192 : decode b_Mo_isRoomy 192 = .ok (.baload, 1) := by decide +kernel
theorem d_Mo_isRoomy_193 : decode b_Mo_isRoomy 193 = .ok (.ifCond .eq 7, 3) := by decide +kernel
theorem d_Mo_isRoomy_196 : decode b_Mo_isRoomy 196 = .ok (.iconst 1, 1) := by decide +kernel
theorem d_Mo_isRoomy_197 : decode b_Mo_isRoomy 197 = .ok (.goto 4, 3) := by decide +kernel
theorem d_Mo_isRoomy_200 : decode b_Mo_isRoomy 200 = .ok (.iconst 0, 1) := by decide +kernel
theorem d_Mo_isRoomy_201 : decode b_Mo_isRoomy 201 = .ok (.iadd, 1) := by decide +kernel
theorem d_Mo_isRoomy_202 : decode b_Mo_isRoomy 202 = .ok (.putfield 471, 3) := by decide +kernel
theorem d_Mo_isRoomy_205 : decode b_Mo_isRoomy 205 = .ok (.iload_n 1, 1) := by decide +kernel
theorem d_Mo_isRoomy_206 : decode b_Mo_isRoomy 206 = .ok (.ifCond .eq 43, 3) := by decide +kernel
theorem d_Mo_isRoomy_209 : decode b_Mo_isRoomy 209 = .ok (.aload_n 0, 1) := by decide +kernel
theorem d_Mo_isRoomy_210 : decode b_Mo_isRoomy 210 = .ok (.getfield 75, 3) := by decide +kernel
theorem d_Mo_isRoomy_213 : decode b_Mo_isRoomy 213 = .ok (.iload_n 2, 1) := by decide +kernel
theorem d_Mo_isRoomy_214 : decode b_Mo_isRoomy 214 = .ok (.baload, 1) := by decide +kernel
theorem d_Mo_isRoomy_215 : decode b_Mo_isRoomy 215 = .ok (.ifCond .eq 30, 3) := by decide +kernel
theorem d_Mo_isRoomy_218 : decode b_Mo_isRoomy 218 = .ok (.iload_n 2, 1) := by decide +kernel
theorem d_Mo_isRoomy_219 : decode b_Mo_isRoomy 219 = .ok (.iconst 3, 1) := by decide +kernel
theorem d_Mo_isRoomy_220 : decode b_Mo_isRoomy 220 = .ok (.if_icmp .lt 25, 3) := by decide +kernel
theorem d_Mo_isRoomy_223 : decode b_Mo_isRoomy 223 = .ok (.iload_n 2, 1) := by decide +kernel
theorem d_Mo_isRoomy_224 : decode b_Mo_isRoomy 224 = .ok (.aload_n 0, 1) := by decide +kernel
theorem d_Mo_isRoomy_225 : decode b_Mo_isRoomy 225 = .ok (.getfield 135, 3) := by decide +kernel
theorem d_Mo_isRoomy_228 : decode b_Mo_isRoomy 228 = .ok (.iconst 2, 1) := by decide +kernel
theorem d_Mo_isRoomy_229 : decode b_Mo_isRoomy 229 = .ok (.idiv, 1) := by decide +kernel
theorem d_Mo_isRoomy_230 : decode b_Mo_isRoomy 230 = .ok (.if_icmp .lt 19, 3) := by decide +kernel
theorem d_Mo_isRoomy_233 : decode b_Mo_isRoomy 233 = .ok (.aload_n 0, 1) := by decide +kernel
theorem d_Mo_isRoomy_234 : decode b_Mo_isRoomy 234 = .ok (.aload_n 0, 1) := by decide +kernel
theorem d_Mo_isRoomy_235 : decode b_Mo_isRoomy 235 = .ok (.iload_n 2, 1) := by decide +kernel
theorem d_Mo_isRoomy_236 : decode b_Mo_isRoomy 236 = .ok (.invokevirtual 474, 3) := by decide +kernel
theorem d_Mo_isRoomy_239 : decode b_Mo_isRoomy 239 = .ok (.invokevirtual 145, 3) := by decide +kernel
theorem d_Mo_isRoomy_242 : decode b_Mo_isRoomy 242 = .ok (.ifCond .eq 7, 3) := by decide +kernel
theorem d_Mo_isRoomy_245 : decode b_Mo_isRoomy 245 = .ok (.iconst 1, 1) := by decide +kernel
theorem d_Mo_isRoomy_246 : decode b_Mo_isRoomy 246 = .ok (.goto 4, 3) := by decide +kernel
theorem d_Mo_isRoomy_249 : decode b_Mo_isRoomy 249 = .ok (.iconst 0, 1) := by decide +kernel
theorem d_Mo_isRoomy_250 : decode b_Mo_isRoomy 250 = .ok (.istore_n 1, 1) := by decide +kernel
theorem d_Mo_isRoomy_251 : decode b_Mo_isRoomy 251 = .ok (.iinc 2 1, 3) := by decide +kernel
theorem d_Mo_isRoomy_254 : decode b_Mo_isRoomy 254 = .ok (.goto (-80), 3) := by decide +kernel
theorem d_Mo_isRoomy_257 : decode b_Mo_isRoomy 257 = .ok (.iload_n 1, 1) := by decide +kernel
theorem d_Mo_isRoomy_258 : decode b_Mo_isRoomy 258 = .ok (.ireturn, 1) := by decide +kernel
theorem d_Mo_isFixed_0 : decode b_Mo_isFixed 0 = .ok (.iconst 0, 1) := by decide +kernel
theorem d_Mo_isFixed_1 : decode b_Mo_isFixed 1 = .ok (.istore_n 2, 1) := by decide +kernel
theorem d_Mo_isFixed_2 : decode b_Mo_isFixed 2 = .ok (.iconst 0, 1) := by decide +kernel
theorem d_Mo_isFixed_3 : decode b_Mo_isFixed 3 = .ok (.istore_n 3, 1) := by decide +kernel
theorem d_Mo_isFixed_4 : decode b_Mo_isFixed 4 = .ok (.iload_n 3, 1) := by decide +kernel
theorem d_Mo_isFixed_5 : decode b_Mo_isFixed 5 = .ok (.aload_n 0, 1) := by decide +kernel
theorem d_Mo_isFixed_6 : decode b_Mo_isFixed 6 = .ok (.getfield 138, 3) := by decide +kernel
theorem d_Mo_isFixed_9 : decode b_Mo_isFixed 9 = .ok (.iconst 2, 1) := by decide +kernel
theorem d_Mo_isFixed_10 : decode b_Mo_isFixed 10 = .ok (.idiv, 1) := by decide +kernel
theorem d_Mo_isFixed_11 : decode b_Mo_isFixed 11 = .ok (.if_icmp .ge 46, 3) := by decide +kernel
theorem d_Mo_isFixed_14 : decode b_Mo_isFixed 14 = .ok (.iload_n 2, 1) := by decide +kernel
theorem d_Mo_isFixed_15 : decode b_Mo_isFixed 15 = .ok (.ifCond .ne 30, 3) := by decide +kernel
theorem d_Mo_isFixed_18 : decode b_Mo_isFixed 18 = .ok (.aload_n 0, 1) := by decide +kernel
theorem d_Mo_isFixed_19 : decode b_Mo_isFixed 19 = .ok (.getfield 75, 3) := by decide +kernel
theorem d_Mo_isFixed_22 : decode b_Mo_isFixed 22 = .ok (.aload_n 0, 1) := by decide +kernel
theorem d_Mo_isFixed_23 : decode b_Mo_isFixed 23 = .ok (.getfield 135, 3) := by decide +kernel
theorem d_Mo_isFixed_26 : decode b_Mo_isFixed 26 = .ok (.iconst 2, 1) := by decide +kernel
theorem d_Mo_isFixed_27 : decode b_Mo_isFixed 27 = .ok (.idiv, 1) := by decide +kernel
theorem d_Mo_isFixed_28 : decode b_Mo_isFixed 28 = .ok (.iload_n 1, 1) := by decide +kernel
theorem d_Mo_isFixed_29 : decode b_Mo_isFixed 29 = .ok (.iconst 2, 1) := by decide +kernel
theorem d_Mo_isFixed_30 : decode b_Mo_isFixed 30 = .ok (.isub, 1) := by decide +kernel
theorem d_Mo_isFixed_31 : decode b_Mo_isFixed 31 = .ok (.aload_n 0, 1) := by decide +kernel
theorem d_Mo_isFixed_32 : decode b_Mo_isFixed 32 = .ok (.getfield 138, 3) := by decide +kernel
theorem d_Mo_isFixed_35 : decode b_Mo_isFixed 35 = .ok (.iconst 2, 1) := by decide +kernel
theorem d_Mo_isFixed_36 : decode b_Mo_isFixed 36 = .ok (.idiv, 1) := by decide +kernel
theorem d_Mo_isFixed_37 : decode b_Mo_isFixed 37 = .ok (.imul, 1) := by decide +kernel
theorem d_Mo_isFixed_38 : decode b_Mo_isFixed 38 = .ok (.iadd, 1) := by decide +kernel
theorem d_Mo_isFixed_39 : decode b_Mo_isFixed 39 = .ok (.iload_n 3, 1) := by decide +kernel
theorem d_Mo_isFixed_40 : decode b_Mo_isFixed 40 = .ok (.iadd, 1) := by decide +kernel
theorem d_Mo_isFixed_41 : decode b_Mo_isFixed 41 = .ok (.baload, 1) := by decide +kernel
theorem d_Mo_isFixed_42 : decode b_Mo_isFixed 42 = .ok (.ifCond .eq 7, 3) := by decide +kernel
theorem d_Mo_isFixed_45 : decode b_Mo_isFixed 45 = .ok (.iconst 1, 1) := by decide +kernel
theorem d_Mo_isFixed_46 : decode b_Mo_isFixed 46 = .ok (.goto 4, 3) := by decide +kernel
theorem d_Mo_isFixed_49 : decode b_Mo_isFixed 49 = .ok (.iconst 0, 1) := by decide +kernel
theorem d_Mo_isFixed_50 : decode b_Mo_isFixed 50 = .ok (.istore_n 2, 1) := by decide +kernel
theorem d_Mo_isFixed_51 : decode b_Mo_isFixed 51 = .ok (.iinc 3 1, 3) := by decide +kernel
theorem d_Mo_isFixed_54 : decode b_Mo_isFixed 54 = .ok (.goto (-50), 3) := by decide +kernel
theorem d_Mo_isFixed_57 : decode b_Mo_isFixed 57 = .ok (.iload_n 2, 1) := by decide +kernel
theorem d_Mo_isFixed_58 : decode b_Mo_isFixed 58 = .ok (.ireturn, 1) := by decide +kernel
theorem d_Mo_badNames_0 : decode b_Mo_badNames 0 = .ok (.iconst 0, 1) := by decide +kernel
theorem d_Mo_badNames_1 : decode b_Mo_badNames 1 = .ok (.istore_n 1, 1) := by decide +kernel
theorem d_Mo_badNames_2 : decode b_Mo_badNames 2 = .ok (.iconst 1, 1) := by decide +kernel
theorem d_Mo_badNames_3 : decode b_Mo_badNames 3 = .ok (.istore_n 2, 1) := by decide +kernel
theorem d_Mo_badNames_4 : decode b_Mo_badNames 4 = .ok (.iload_n 2, 1) := by decide +kernel
theorem d_Mo_badNames_5 : decode b_Mo_badNames 5 = .ok (.aload_n 0, 1) := by decide +kernel
theorem d_Mo_badNames_6 : decode b_Mo_badNames 6 = .ok (.getfield 166, 3) := by decide +kernel
theorem d_Mo_badNames_9 : decode b_Mo_badNames 9 = .ok (.if_icmp .ge 30, 3) := by decide +kernel
theorem d_Mo_badNames_12 : decode b_Mo_badNames 12 = .ok (.iload_n 1, 1) := by decide +kernel
theorem d_Mo_badNames_13 : decode b_Mo_badNames 13 = .ok (.ifCond .ne 14, 3) := by decide +kernel
theorem d_Mo_badNames_16 : decode b_Mo_badNames 16 = .ok (.aload_n 0, 1) := by decide +kernel
theorem d_Mo_badNames_17 : decode b_Mo_badNames 17 = .ok (.iload_n 2, 1) := by decide +kernel
theorem d_Mo_badNames_18 : decode b_Mo_badNames 18 = .ok (.invokevirtual 447, 3) := by decide +kernel
theorem d_Mo_badNames_21 : decode b_Mo_badNames 21 = .ok (.sipush 255, 3) := by decide +kernel
theorem d_Mo_badNames_24 : decode b_Mo_badNames 24 = .ok (.if_icmp .le 7, 3) := by decide +kernel
theorem d_Mo_badNames_27 : decode b_Mo_badNames 27 = .ok (.iconst 1, 1) := by decide +kernel
theorem d_Mo_badNames_28 : decode b_Mo_badNames 28 = .ok (.goto 4, 3) := by decide +kernel
theorem d_Mo_badNames_31 : decode b_Mo_badNames 31 = .ok (.iconst 0, 1) := by decide +kernel
theorem d_Mo_badNames_32 : decode b_Mo_badNames 32 = .ok (.istore_n 1, 1) := by decide +kernel
theorem d_Mo_badNames_33 : decode b_Mo_badNames 33 = .ok (.iinc 2 1, 3) := by decide +kernel
theorem d_Mo_badNames_36 : decode b_Mo_badNames 36 = .ok (.goto (-32), 3) := by decide +kernel
theorem d_Mo_badNames_39 : decode b_Mo_badNames 39 = .ok (.aload_n 0, 1) := by decide +kernel
theorem d_Mo_badNames_40 : decode b_Mo_badNames 40 = .ok (.bipush 7, 2) := by decide +kernel
theorem d_Mo_badNames_42 : decode b_Mo_badNames 42 = .ok (.putfield 224, 3) := by decide +kernel
theorem d_Mo_badNames_45 : decode b_Mo_badNames 45 = .ok (.iconst 0, 1) := by decide +kernel
theorem d_Mo_badNames_46 : decode b_Mo_badNames 46 = .ok (.istore_n 2, 1) := by decide +kernel
theorem d_Mo_badNames_47 : decode b_Mo_badNames 47 = .ok (.iload_n 2, 1) := by decide +kernel
theorem d_Mo_badNames_48 : decode b_Mo_badNames 48 = .ok (.bipush 7, 2) := by decide +kernel
theorem d_Mo_badNames_50 : decode b_Mo_badNames 50 = .ok (.if_icmp .ge 22, 3) := by decide +kernel
theorem d_Mo_badNames_53 : decode b_Mo_badNames 53 = .ok (.aload_n 0, 1) := by decide +kernel
theorem d_Mo_badNames_54 : decode b_Mo_badNames 54 = .ok (.getfield 63, 3) := by decide +kernel
theorem d_Mo_badNames_57 : decode b_Mo_badNames 57 = .ok (.iload_n 2, 1) := by decide +kernel
theorem d_Mo_badNames_58 : decode b_Mo_badNames 58 = .ok (.ldc_w 358, 3) := by decide +kernel
theorem d_Mo_badNames_61 : decode b_Mo_badNames 61 = .ok (.iload_n 2, 1) := by decide +kernel
theorem d_Mo_badNames_62 : decode b_Mo_badNames 62 = .ok (.invokevirtual 360, 3) := by decide +kernel
theorem d_Mo_badNames_65 : decode b_Mo_badNames 65 = .ok (.castore, 1) := by decide +kernel
theorem d_Mo_badNames_66 : decode b_Mo_badNames 66 = .ok (.iinc 2 1, 3) := by decide +kernel
theorem d_Mo_badNames_69 : decode b_Mo_badNames 69 = .ok (.goto (-22), 3) := by decide +kernel
theorem d_Mo_badNames_72 : decode b_Mo_badNames 72 = .ok (.iload_n 1, 1) := by decide +kernel
theorem d_Mo_badNames_73 : decode b_Mo_badNames 73 = .ok (.ifCond .ne 11, 3) := by decide +kernel
theorem d_Mo_badNames_76 : decode b_Mo_badNames 76 = .ok (.aload_n 0, 1) := by decide +kernel
theorem d_Mo_badNames_77 : decode b_Mo_badNames 77 = .ok (.iconst 0, 1) := by decide +kernel
theorem d_Mo_badNames_78 : decode b_Mo_badNames 78 = .ok (.invokevirtual 290, 3) := by decide +kernel
theorem d_Mo_badNames_81 : decode b_Mo_badNames 81 = .ok (.ifCond .eq 7, 3) := by decide +kernel
theorem d_Mo_badNames_84 : decode b_Mo_badNames 84 = .ok (.iconst 1, 1) := by decide +kernel
theorem d_Mo_badNames_85 : decode b_Mo_badNames 85 = .ok (.goto 4, 3) := by decide +kernel
theorem d_Mo_badNames_88 : decode b_Mo_badNames 88 = .ok (.iconst 0, 1) := by decide +kernel
theorem d_Mo_badNames_89 : decode b_Mo_badNames 89 = .ok (.ireturn, 1) := by decide +kernel
theorem d_Mo_badTimes_0 : decode b_Mo_badTimes 0 = .ok (.iconst 0, 1) := by decide +kernel
theorem d_Mo_badTimes_1 : decode b_Mo_badTimes 1 = .ok (.istore_n 1, 1) := by decide +kernel
theorem d_Mo_badTimes_2 : decode b_Mo_badTimes 2 = .ok (.iconst 1, 1) := by decide +kernel
theorem d_Mo_badTimes_3 : decode b_Mo_badTimes 3 = .ok (.istore_n 2, 1) := by decide +kernel
theorem d_Mo_badTimes_4 : decode b_Mo_badTimes 4 = .ok (.iload_n 2, 1) := by decide +kernel
theorem d_Mo_badTimes_5 : decode b_Mo_badTimes 5 = .ok (.aload_n 0, 1) := by decide +kernel
theorem d_Mo_badTimes_6 : decode b_Mo_badTimes 6 = .ok (.getfield 166, 3) := by decide +kernel
theorem d_Mo_badTimes_9 : decode b_Mo_badTimes 9 = .ok (.if_icmp .ge 45, 3) := by decide +kernel
theorem d_Mo_badTimes_12 : decode b_Mo_badTimes 12 = .ok (.iconst 0, 1) := by decide +kernel
theorem d_Mo_badTimes_13 : decode b_Mo_badTimes 13 = .ok (.istore_n 3, 1) := by decide +kernel
theorem d_Mo_badTimes_14 : decode b_Mo_badTimes 14 = .ok (.iload_n 3, 1) := by decide +kernel
theorem d_Mo_badTimes_15 : decode b_Mo_badTimes 15 = .ok (.iconst 3, 1) := by decide +kernel
theorem d_Mo_badTimes_16 : decode b_Mo_badTimes 16 = .ok (.if_icmp .ge 32, 3) := by decide +kernel
theorem d_Mo_badTimes_19 : decode b_Mo_badTimes 19 = .ok (.iload_n 1, 1) := by decide +kernel
theorem d_Mo_badTimes_20 : decode b_Mo_badTimes 20 = .ok (.ifCond .ne 16, 3) := by decide +kernel
theorem d_Mo_badTimes_23 : decode b_Mo_badTimes 23 = .ok (.aload_n 0, 1) := by decide +kernel
theorem d_Mo_badTimes_24 : decode b_Mo_badTimes 24 = .ok (.iload_n 2, 1) := by decide +kernel
theorem d_Mo_badTimes_25 : decode b_Mo_badTimes 25 = .ok (.iload_n 3, 1) := by decide +kernel
theorem d_Mo_badTimes_26 : decode b_Mo_badTimes 26 = .ok (.invokevirtual 392, 3) := by decide +kernel
theorem d_Mo_badTimes_29 : decode b_Mo_badTimes 29 = .ok (.ldc2_w 333, 3) := by decide +kernel
theorem d_Mo_badTimes_32 : decode b_Mo_badTimes 32 = .ok (.lcmp, 1) := by decide +kernel
theorem d_Mo_badTimes_33 : decode b_Mo_badTimes 33 = .ok (.ifCond .le 7, 3) := by decide +kernel
theorem d_Mo_badTimes_36 : decode b_Mo_badTimes 36 = .ok (.iconst 1, 1) := by decide +kernel
theorem d_Mo_badTimes_37 : decode b_Mo_badTimes 37 = .ok (.goto 4, 3) := by decide +kernel
theorem d_Mo_badTimes_40 : decode b_Mo_badTimes 40 = .ok (.iconst 0, 1) := by decide +kernel
theorem d_Mo_badTimes_41 : decode b_Mo_badTimes 41 = .ok (.istore_n 1, 1) := by decide +kernel
theorem d_Mo_badTimes_42 : decode b_Mo_badTimes 42 = .ok (.iinc 3 1, 3) := by decide +kernel
theorem d_Mo_badTimes_45 : decode b_Mo_badTimes 45 = .ok (.goto (-31), 3) := by decide +kernel
theorem d_Mo_badTimes_48 : decode b_Mo_badTimes 48 = .ok (.iinc 2 1, 3) := by decide +kernel
theorem d_Mo_badTimes_51 : decode b_Mo_badTimes 51 = .ok (.goto (-47), 3) := by decide +kernel
theorem d_Mo_badTimes_54 : decode b_Mo_badTimes 54 = .ok (.iload_n 1, 1) := by decide +kernel
theorem d_Mo_badTimes_55 : decode b_Mo_badTimes 55 = .ok (.ireturn, 1) := by decide +kernel
theorem d_Mo_finds_0 : decode b_Mo_finds 0 = .ok (.aload_n 0, 1) := by decide +kernel
theorem d_Mo_finds_1 : decode b_Mo_finds 1 = .ok (.iconst 0, 1) := by decide +kernel
theorem d_Mo_finds_2 : decode b_Mo_finds 2 = .ok (.putfield 477, 3) := by decide +kernel
theorem d_Mo_finds_5 : decode b_Mo_finds 5 = .ok (.iconst 0, 1) := by decide +kernel
theorem d_Mo_finds_6 : decode b_Mo_finds 6 = .ok (.istore_n 1, 1) := by decide +kernel
theorem d_Mo_finds_7 : decode b_Mo_finds 7 = .ok (.iload_n 1, 1) := by decide +kernel
theorem d_Mo_finds_8 : decode b_Mo_finds 8 = .ok (.sipush 560, 3) := by decide +kernel
theorem d_Mo_finds_11 : decode b_Mo_finds 11 = .ok (.if_icmp .ge 23, 3) := by decide +kernel
theorem d_Mo_finds_14 : decode b_Mo_finds 14 = .ok (.aload_n 0, 1) := by decide +kernel
theorem d_Mo_finds_15 : decode b_Mo_finds 15 = .ok (.getfield 81, 3) := by decide +kernel
theorem d_Mo_finds_18 : decode b_Mo_finds 18 = .ok (.iload_n 1, 1) := by decide +kernel
theorem d_Mo_finds_19 : decode b_Mo_finds 19 = .ok (.iconst 0, 1) := by decide +kernel
theorem d_Mo_finds_20 : decode b_Mo_finds 20 = .ok (.iastore, 1) := by decide +kernel
theorem d_Mo_finds_21 : decode b_Mo_finds 21 = .ok (.aload_n 0, 1) := by decide +kernel
theorem d_Mo_finds_22 : decode b_Mo_finds 22 = .ok (.getfield 84, 3) := by decide +kernel
theorem d_Mo_finds_25 : decode b_Mo_finds 25 = .ok (.iload_n 1, 1) := by decide +kernel
theorem d_Mo_finds_26 : decode b_Mo_finds 26 = .ok (.iconst 0, 1) := by decide +kernel
theorem d_Mo_finds_27 : decode b_Mo_finds 27 = .ok (.iastore, 1) := by decide +kernel
theorem d_Mo_finds_28 : decode b_Mo_finds 28 = .ok (.iinc 1 1, 3) := by decide +kernel
theorem d_Mo_finds_31 : decode b_Mo_finds 31 = .ok (.goto (-24), 3) := by decide +kernel
theorem d_Mo_finds_34 : decode b_Mo_finds 34 = .ok (.iconst 2, 1) := by decide +kernel
theorem d_Mo_finds_35 : decode b_Mo_finds 35 = .ok (.istore_n 1, 1) := by decide +kernel
theorem d_Mo_finds_36 : decode b_Mo_finds 36 = .ok (.iload_n 1, 1) := by decide +kernel
theorem d_Mo_finds_37 : decode b_Mo_finds 37 = .ok (.aload_n 0, 1) := by decide +kernel
theorem d_Mo_finds_38 : decode b_Mo_finds 38 = .ok (.getfield 132, 3) := by decide +kernel
theorem d_Mo_finds_41 : decode b_Mo_finds 41 = .ok (.iconst 2, 1) := by decide +kernel
theorem d_Mo_finds_42 : decode b_Mo_finds 42 = .ok (.iadd, 1) := by decide +kernel
theorem d_Mo_finds_43 : decode b_Mo_finds 43 = .ok (.if_icmp .ge 107, 3) := by decide +kernel
theorem d_Mo_finds_46 : decode b_Mo_finds 46 = .ok (.aload_n 0, 1) := by decide +kernel
theorem d_Mo_finds_47 : decode b_Mo_finds 47 = .ok (.iload_n 1, 1) := by decide +kernel
theorem d_Mo_finds_48 : decode b_Mo_finds 48 = .ok (.invokevirtual 149, 3) := by decide +kernel
theorem d_Mo_finds_51 : decode b_Mo_finds 51 = .ok (.ifCond .eq 93, 3) := by decide +kernel
theorem d_Mo_finds_54 : decode b_Mo_finds 54 = .ok (.aload_n 0, 1) := by decide +kernel
theorem d_Mo_finds_55 : decode b_Mo_finds 55 = .ok (.iload_n 1, 1) := by decide +kernel
theorem d_Mo_finds_56 : decode b_Mo_finds 56 = .ok (.invokevirtual 480, 3) := by decide +kernel
theorem d_Mo_finds_59 : decode b_Mo_finds 59 = .ok (.ifCond .ne 6, 3) := by decide +kernel
theorem d_Mo_finds_62 : decode b_Mo_finds 62 = .ok (.goto 82, 3) := by decide +kernel
theorem d_Mo_finds_65 : decode b_Mo_finds 65 = .ok (.iconst 2, 1) := by decide +kernel
theorem d_Mo_finds_66 : decode b_Mo_finds 66 = .ok (.istore_n 2, 1) := by decide +kernel
theorem d_Mo_finds_67 : decode b_Mo_finds 67 = .ok (.iload_n 2, 1) := by decide +kernel
theorem d_Mo_finds_68 : decode b_Mo_finds 68 = .ok (.aload_n 0, 1) := by decide +kernel
theorem d_Mo_finds_69 : decode b_Mo_finds 69 = .ok (.getfield 132, 3) := by decide +kernel
theorem d_Mo_finds_72 : decode b_Mo_finds 72 = .ok (.iconst 2, 1) := by decide +kernel
theorem d_Mo_finds_73 : decode b_Mo_finds 73 = .ok (.iadd, 1) := by decide +kernel
theorem d_Mo_finds_74 : decode b_Mo_finds 74 = .ok (.if_icmp .ge 34, 3) := by decide +kernel
theorem d_Mo_finds_77 : decode b_Mo_finds 77 = .ok (.aload_n 0, 1) := by decide +kernel
theorem d_Mo_finds_78 : decode b_Mo_finds 78 = .ok (.iload_n 2, 1) := by decide +kernel
theorem d_Mo_finds_79 : decode b_Mo_finds 79 = .ok (.invokevirtual 149, 3) := by decide +kernel
theorem d_Mo_finds_82 : decode b_Mo_finds 82 = .ok (.ifCond .ne 20, 3) := by decide +kernel
theorem d_Mo_finds_85 : decode b_Mo_finds 85 = .ok (.aload_n 0, 1) := by decide +kernel
theorem d_Mo_finds_86 : decode b_Mo_finds 86 = .ok (.iload_n 2, 1) := by decide +kernel
theorem d_Mo_finds_87 : decode b_Mo_finds 87 = .ok (.invokevirtual 480, 3) := by decide +kernel
theorem d_Mo_finds_90 : decode b_Mo_finds 90 = .ok (.ifCond .ne 12, 3) := by decide +kernel
theorem d_Mo_finds_93 : decode b_Mo_finds 93 = .ok (.aload_n 0, 1) := by decide +kernel
theorem d_Mo_finds_94 : decode b_Mo_finds 94 = .ok (.getfield 84, 3) := by decide +kernel
theorem d_Mo_finds_97 : decode b_Mo_finds 97 = .ok (.iload_n 2, 1) := by decide +kernel
theorem d_Mo_finds_98 : decode b_Mo_finds 98 = .ok (.iaload, 1) := by decide +kernel
theorem d_Mo_finds_99 : decode b_Mo_finds 99 = .ok (.ifCond .eq 9, 3) := by decide +kernel
theorem d_Mo_finds_102 : decode b_Mo_finds 102 = .ok (.iinc 2 1, 3) := by decide +kernel
theorem d_Mo_finds_105 : decode b_Mo_finds 105 = .ok (.goto (-38), 3) := by decide +kernel
theorem d_Mo_finds_108 : decode b_Mo_finds 108 = .ok (.iload_n 2, 1) := by decide +kernel
theorem d_Mo_finds_109 : decode b_Mo_finds 109 = .ok (.aload_n 0, 1) := by decide +kernel
theorem d_Mo_finds_110 : decode b_Mo_finds 110 = .ok (.getfield 132, 3) := by decide +kernel
theorem d_Mo_finds_113 : decode b_Mo_finds 113 = .ok (.iconst 2, 1) := by decide +kernel
theorem d_Mo_finds_114 : decode b_Mo_finds 114 = .ok (.iadd, 1) := by decide +kernel
theorem d_Mo_finds_115 : decode b_Mo_finds 115 = .ok (.if_icmp .ne 5, 3) := by decide +kernel
theorem d_Mo_finds_118 : decode b_Mo_finds 118 = .ok (.iconst 0, 1) := by decide +kernel
theorem d_Mo_finds_119 : decode b_Mo_finds 119 = .ok (.ireturn, 1) := by decide +kernel
theorem d_Mo_finds_120 : decode b_Mo_finds 120 = .ok (.aload_n 0, 1) := by decide +kernel
theorem d_Mo_finds_121 : decode b_Mo_finds 121 = .ok (.getfield 81, 3) := by decide +kernel
theorem d_Mo_finds_124 : decode b_Mo_finds 124 = .ok (.iload_n 1, 1) := by decide +kernel
theorem d_Mo_finds_125 : decode b_Mo_finds 125 = .ok (.iload_n 2, 1) := by decide +kernel
theorem d_Mo_finds_126 : decode b_Mo_finds 126 = .ok (.iastore, 1) := by decide +kernel
theorem d_Mo_finds_127 : decode b_Mo_finds 127 = .ok (.aload_n 0, 1) := by decide +kernel
theorem d_Mo_finds_128 : decode b_Mo_finds 128 = .ok (.getfield 84, 3) := by decide +kernel
theorem d_Mo_finds_131 : decode b_Mo_finds 131 = .ok (.iload_n 2, 1) := by decide +kernel
theorem d_Mo_finds_132 : decode b_Mo_finds 132 = .ok (.iload_n 1, 1) := by decide +kernel
theorem d_Mo_finds_133 : decode b_Mo_finds 133 = .ok (.iastore, 1) := by decide +kernel
theorem d_Mo_finds_134 : decode b_Mo_finds 134 = .ok (.aload_n 0, 1) := by decide +kernel
theorem d_Mo_finds_135 : decode b_Mo_finds 135 = .ok (.dup, 1) := by decide +kernel
theorem d_Mo_finds_136 : decode b_Mo_finds 136 = .ok (.getfield 477, 3) := by decide +kernel
theorem d_Mo_finds_139 : decode b_Mo_finds 139 = .ok (.iconst 1, 1) := by decide +kernel
theorem d_Mo_finds_140 : decode b_Mo_finds 140 = .ok (.iadd, 1) := by decide +kernel
theorem d_Mo_finds_141 : decode b_Mo_finds 141 = .ok (.putfield 477, 3) := by decide +kernel
theorem d_Mo_finds_144 : decode b_Mo_finds 144 = .ok (.iinc 1 1, 3) := by decide +kernel
theorem d_Mo_finds_147 : decode b_Mo_finds 147 = .ok (.goto (-111), 3) := by decide +kernel
theorem d_Mo_finds_150 : decode b_Mo_finds 150 = .ok (.aload_n 0, 1) := by decide +kernel
theorem d_Mo_finds_151 : decode b_Mo_finds 151 = .ok (.iconst 3, 1) := by decide +kernel
theorem d_Mo_finds_152 : decode b_Mo_finds 152 = .ok (.aload_n 0, 1) := by decide +kernel
theorem d_Mo_finds_153 : decode b_Mo_finds 153 = .ok (.invokevirtual 389, 3) := by decide +kernel
theorem d_Mo_finds_156 : decode b_Mo_finds 156 = .ok (.invokestatic 483, 3) := by decide +kernel
theorem d_Mo_finds_159 : decode b_Mo_finds 159 = .ok (.iadd, 1) := by decide +kernel
theorem d_Mo_finds_160 : decode b_Mo_finds 160 = .ok (.putfield 486, 3) := by decide +kernel
theorem d_Mo_finds_163 : decode b_Mo_finds 163 = .ok (.aload_n 0, 1) := by decide +kernel
theorem d_Mo_finds_164 : decode b_Mo_finds 164 = .ok (.aload_n 0, 1) := by decide +kernel
theorem d_Mo_finds_165 : decode b_Mo_finds 165 = .ok (.getfield 135, 3) := by decide +kernel
theorem d_Mo_finds_168 : decode b_Mo_finds 168 = .ok (.iconst 2, 1) := by decide +kernel
theorem d_Mo_finds_169 : decode b_Mo_finds 169 = .ok (.idiv, 1) := by decide +kernel
theorem d_Mo_finds_170 : decode b_Mo_finds 170 = .ok (.iconst 3, 1) := by decide +kernel
theorem d_Mo_finds_171 : decode b_Mo_finds 171 = .ok (.isub, 1) := by decide +kernel
theorem d_Mo_finds_172 : decode b_Mo_finds 172 = .ok (.putfield 489, 3) := by decide +kernel
theorem d_Mo_finds_175 : decode b_Mo_finds 175 = .ok (.iconst 0, 1) := by decide +kernel
theorem d_Mo_finds_176 : decode b_Mo_finds 176 = .ok (.istore_n 1, 1) := by decide +kernel
theorem d_Mo_finds_177 : decode b_Mo_finds 177 = .ok (.iload_n 1, 1) := by decide +kernel
theorem d_Mo_finds_178 : decode b_Mo_finds 178 = .ok (.aload_n 0, 1) := by decide +kernel
theorem d_Mo_finds_179 : decode b_Mo_finds 179 = .ok (.getfield 166, 3) := by decide +kernel
theorem d_Mo_finds_182 : decode b_Mo_finds 182 = .ok (.if_icmp .ge 88, 3) := by decide +kernel
theorem d_Mo_finds_185 : decode b_Mo_finds 185 = .ok (.aload_n 0, 1) := by decide +kernel
theorem d_Mo_finds_186 : decode b_Mo_finds 186 = .ok (.dup, 1) := by decide +kernel
theorem d_Mo_finds_187 : decode b_Mo_finds 187 = .ok (.getfield 486, 3) := by decide +kernel
theorem d_Mo_finds_190 : decode b_Mo_finds 190 = .ok (.aload_n 0, 1) := by decide +kernel
theorem d_Mo_finds_191 : decode b_Mo_finds 191 = .ok (.iload_n 1, 1) := by decide +kernel
theorem d_Mo_finds_192 : decode b_Mo_finds 192 = .ok (.invokevirtual 185, 3) := by decide +kernel
theorem d_Mo_finds_195 : decode b_Mo_finds 195 = .ok (.ifCond .eq 20, 3) := by decide +kernel
theorem d_Mo_finds_198 : decode b_Mo_finds 198 = .ok (.aload_n 0, 1) := by decide +kernel
theorem d_Mo_finds_199 : decode b_Mo_finds 199 = .ok (.iload_n 1, 1) := by decide +kernel
theorem d_Mo_finds_200 : decode b_Mo_finds 200 = .ok (.invokevirtual 395, 3) := by decide +kernel
theorem d_Mo_finds_203 : decode b_Mo_finds 203 = .ok (.aload_n 0, 1) := by decide +kernel
theorem d_Mo_finds_204 : decode b_Mo_finds 204 = .ok (.iload_n 1, 1) := by decide +kernel
theorem d_Mo_finds_205 : decode b_Mo_finds 205 = .ok (.invokevirtual 395, 3) := by decide +kernel
theorem d_Mo_finds_208 : decode b_Mo_finds 208 = .ok (.invokestatic 483, 3) := by decide +kernel
theorem d_Mo_finds_211 : decode b_Mo_finds 211 = .ok (.iadd, 1) := by decide +kernel
theorem d_Mo_finds_212 : decode b_Mo_finds 212 = .ok (.goto 11, 3) := by decide +kernel
theorem d_Mo_finds_215 : decode b_Mo_finds 215 = .ok (.aload_n 0, 1) := by decide +kernel
theorem d_Mo_finds_216 : decode b_Mo_finds 216 = .ok (.iload_n 1, 1) := by decide +kernel
theorem d_Mo_finds_217 : decode b_Mo_finds 217 = .ok (.invokevirtual 492, 3) := by decide +kernel
theorem d_Mo_finds_220 : decode b_Mo_finds 220 = .ok (.invokestatic 483, 3) := by decide +kernel
theorem d_Mo_finds_223 : decode b_Mo_finds 223 = .ok (.iadd, 1) := by decide +kernel
theorem d_Mo_finds_224 : decode b_Mo_finds 224 = .ok (.putfield 486, 3) := by decide +kernel
theorem d_Mo_finds_227 : decode b_Mo_finds 227 = .ok (.aload_n 0, 1) := by decide +kernel
theorem d_Mo_finds_228 : decode b_Mo_finds 228 = .ok (.dup, 1) := by decide +kernel
theorem d_Mo_finds_229 : decode b_Mo_finds 229 = .ok (.getfield 489, 3) := by decide +kernel
theorem d_Mo_finds_232 : decode b_Mo_finds 232 = .ok (.aload_n 0, 1) := by decide +kernel
theorem d_Mo_finds_233 : decode b_Mo_finds 233 = .ok (.iload_n 1, 1) := by decide +kernel
theorem d_Mo_finds_234 : decode b_Mo_finds 234 = .ok (.invokevirtual 185, 3) := by decide +kernel
theorem d_Mo_finds_237 : decode b_Mo_finds 237 = .ok (.ifCond .eq 18, 3) := by decide +kernel
theorem d_Mo_finds_240 : decode b_Mo_finds 240 = .ok (.aload_n 0, 1) := by decide +kernel
theorem d_Mo_finds_241 : decode b_Mo_finds 241 = .ok (.iload_n 1, 1) := by decide +kernel
theorem d_Mo_finds_242 : decode b_Mo_finds 242 = .ok (.invokevirtual 450, 3) := by decide +kernel
theorem d_Mo_finds_245 : decode b_Mo_finds 245 = .ok (.aload_n 0, 1) := by decide +kernel
theorem d_Mo_finds_246 : decode b_Mo_finds 246 = .ok (.getfield 138, 3) := by decide +kernel
theorem d_Mo_finds_249 : decode b_Mo_finds 249 = .ok (.iconst 2, 1) := by decide +kernel
theorem d_Mo_finds_250 : decode b_Mo_finds 250 = .ok (.idiv, 1) := by decide +kernel
theorem d_Mo_finds_251 : decode b_Mo_finds 251 = .ok (.imul, 1) := by decide +kernel
theorem d_Mo_finds_252 : decode b_Mo_finds 252 = .ok (.goto 8, 3) := by decide +kernel
theorem d_Mo_finds_255 : decode b_Mo_finds 255 = .ok (.aload_n 0, 1) := by decide +kernel
theorem d_Mo_finds_256 : decode b_Mo_finds 256 = .ok (.iload_n 1, 1) := by decide +kernel
theorem d_Mo_finds_257 : decode b_Mo_finds 257 = .ok (.invokevirtual 492, 3) := by decide +kernel
theorem d_Mo_finds_260 : decode b_Mo_finds 260 = .ok (.iadd, 1) := by decide +kernel
theorem d_Mo_finds_261 : decode b_Mo_finds 261 = .ok (.putfield 489, 3) := by decide +kernel
theorem d_Mo_finds_264 : decode b_Mo_finds 264 = .ok (.iinc 1 1, 3) := by decide +kernel
theorem d_Mo_finds_267 : decode b_Mo_finds 267 = .ok (.goto (-90), 3) := by decide +kernel
theorem d_Mo_finds_270 : decode b_Mo_finds 270 = .ok (.iconst 0, 1) := by decide +kernel
theorem d_Mo_finds_271 : decode b_Mo_finds 271 = .ok (.istore_n 1, 1) := by decide +kernel
theorem d_Mo_finds_272 : decode b_Mo_finds 272 = .ok (.iconst 2, 1) := by decide +kernel
theorem d_Mo_finds_273 : decode b_Mo_finds 273 = .ok (.istore_n 2, 1) := by decide +kernel
theorem d_Mo_finds_274 : decode b_Mo_finds 274 = .ok (.iload_n 2, 1) := by decide +kernel
theorem d_Mo_finds_275 : decode b_Mo_finds 275 = .ok (.aload_n 0, 1) := by decide +kernel
theorem d_Mo_finds_276 : decode b_Mo_finds 276 = .ok (.getfield 132, 3) := by decide +kernel
theorem d_Mo_finds_279 : decode b_Mo_finds 279 = .ok (.iconst 2, 1) := by decide +kernel
theorem d_Mo_finds_280 : decode b_Mo_finds 280 = .ok (.iadd, 1) := by decide +kernel
theorem d_Mo_finds_281 : decode b_Mo_finds 281 = .ok (.if_icmp .ge 89, 3) := by decide +kernel
theorem d_Mo_finds_284 : decode b_Mo_finds 284 = .ok (.iconst 0, 1) := by decide +kernel
theorem d_Mo_finds_285 : decode b_Mo_finds 285 = .ok (.istore_n 3, 1) := by decide +kernel
theorem d_Mo_finds_286 : decode b_Mo_finds 286 = .ok (.iload_n 3, 1) := by decide +kernel
theorem d_Mo_finds_287 : decode b_Mo_finds 287 = .ok (.aload_n 0, 1) := by decide +kernel
theorem d_Mo_finds_288 : decode b_Mo_finds 288 = .ok (.getfield 138, 3) := by decide +kernel
theorem d_Mo_finds_291 : decode b_Mo_finds 291 = .ok (.iconst 2, 1) := by decide +kernel
theorem d_Mo_finds_292 : decode b_Mo_finds 292 = .ok (.idiv, 1) := by decide +kernel
theorem d_Mo_finds_293 : decode b_Mo_finds 293 = .ok (.if_icmp .ge 71, 3) := by decide +kernel
theorem d_Mo_finds_296 : decode b_Mo_finds 296 = .ok (.aload_n 0, 1) := by decide +kernel
theorem d_Mo_finds_297 : decode b_Mo_finds 297 = .ok (.iload_n 2, 1) := by decide +kernel
theorem d_Mo_finds_298 : decode b_Mo_finds 298 = .ok (.invokevirtual 149, 3) := by decide +kernel
theorem d_Mo_finds_301 : decode b_Mo_finds 301 = .ok (.ifCond .ne 63, 3) := by decide +kernel
theorem d_Mo_finds_304 : decode b_Mo_finds 304 = .ok (.aload_n 0, 1) := by decide +kernel
theorem d_Mo_finds_305 : decode b_Mo_finds 305 = .ok (.getfield 84, 3) := by decide +kernel
theorem d_Mo_finds_308 : decode b_Mo_finds 308 = .ok (.iload_n 2, 1) := by decide +kernel
theorem d_Mo_finds_309 : decode b_Mo_finds 309 = .ok (.iaload, 1) := by decide +kernel
theorem d_Mo_finds_310 : decode b_Mo_finds 310 = .ok (.ifCond .ne 54, 3) := by decide +kernel
theorem d_Mo_finds_313 : decode b_Mo_finds 313 = .ok (.aload_n 0, 1) := by decide +kernel
theorem d_Mo_finds_314 : decode b_Mo_finds 314 = .ok (.getfield 135, 3) := by decide +kernel
theorem d_Mo_finds_317 : decode b_Mo_finds 317 = .ok (.iconst 2, 1) := by decide +kernel
theorem d_Mo_finds_318 : decode b_Mo_finds 318 = .ok (.idiv, 1) := by decide +kernel
theorem d_Mo_finds_319 : decode b_Mo_finds 319 = .ok (.iload_n 2, 1) := by decide +kernel
theorem d_Mo_finds_320 : decode b_Mo_finds 320 = .ok (.iconst 2, 1) := by decide +kernel
theorem d_Mo_finds_321 : decode b_Mo_finds 321 = .ok (.isub, 1) := by decide +kernel
theorem d_Mo_finds_322 : decode b_Mo_finds 322 = .ok (.aload_n 0, 1) := by decide +kernel
theorem d_Mo_finds_323 : decode b_Mo_finds 323 = .ok (.getfield 138, 3) := by decide +kernel
theorem d_Mo_finds_326 : decode b_Mo_finds 326 = .ok (.iconst 2, 1) := by decide +kernel
theorem d_Mo_finds_327 : decode b_Mo_finds 327 = .ok (.idiv, 1) := by decide +kernel
theorem d_Mo_finds_328 : decode b_Mo_finds 328 = .ok (.imul, 1) := by decide +kernel
theorem d_Mo_finds_329 : decode b_Mo_finds 329 = .ok (.iadd, 1) := by decide +kernel
theorem d_Mo_finds_330 : decode b_Mo_finds 330 = .ok (.iload_n 3, 1) := by decide +kernel
theorem d_Mo_finds_331 : decode b_Mo_finds 331 = .ok (.iadd, 1) := by decide +kernel
theorem d_Mo_finds_332 : decode b_Mo_finds 332 = .ok (.istore 4, 2) := by decide +kernel
theorem d_Mo_finds_334 : decode b_Mo_finds 334 = .ok (.aload_n 0, 1) := by decide +kernel
theorem d_Mo_finds_335 : decode b_Mo_finds 335 = .ok (.getfield 75, 3) := by decide +kernel
theorem d_Mo_finds_338 : decode b_Mo_finds 338 = .ok (.iload 4, 2) := by decide +kernel
theorem d_Mo_finds_340 : decode b_Mo_finds 340 = .ok (.baload, 1) := by decide +kernel
theorem d_Mo_finds_341 : decode b_Mo_finds 341 = .ok (.ifCond .eq 6, 3) := by decide +kernel
theorem d_Mo_finds_344 : decode b_Mo_finds 344 = .ok (.goto 14, 3) := by decide +kernel
theorem d_Mo_finds_347 : decode b_Mo_finds 347 = .ok (.aload_n 0, 1) := by decide +kernel
theorem d_Mo_finds_348 : decode b_Mo_finds 348 = .ok (.getfield 87, 3) := by decide +kernel
theorem d_Mo_finds_351 : decode b_Mo_finds 351 = .ok (.iload_n 1, 1) := by decide +kernel
theorem d_Mo_finds_352 : decode b_Mo_finds 352 = .ok (.iload 4, 2) := by decide +kernel
theorem d_Mo_finds_354 : decode b_Mo_finds 354 = .ok (.iastore, 1) := by decide +kernel
theorem d_Mo_finds_355 : decode b_Mo_finds 355 = .ok (.iinc 1 1, 3) := by decide +kernel
theorem d_Mo_finds_358 : decode b_Mo_finds 358 = .ok (.iinc 3 1, 3) := by decide +kernel
theorem d_Mo_finds_361 : decode b_Mo_finds 361 = .ok (.goto (-75), 3) := by decide +kernel
theorem d_Mo_finds_364 : decode b_Mo_finds 364 = .ok (.iinc 2 1, 3) := by decide +kernel
theorem d_Mo_finds_367 : decode b_Mo_finds 367 = .ok (.goto (-93), 3) := by decide +kernel
theorem d_Mo_finds_370 : decode b_Mo_finds 370 = .ok (.aload_n 0, 1) := by decide +kernel
theorem d_Mo_finds_371 : decode b_Mo_finds 371 = .ok (.getfield 486, 3) := by decide +kernel
theorem d_Mo_finds_374 : decode b_Mo_finds 374 = .ok (.iload_n 1, 1) := by decide +kernel
theorem d_Mo_finds_375 : decode b_Mo_finds 375 = .ok (.if_icmp .gt 7, 3) := by decide +kernel
theorem d_Mo_finds_378 : decode b_Mo_finds 378 = .ok (.iconst 1, 1) := by decide +kernel
theorem d_Mo_finds_379 : decode b_Mo_finds 379 = .ok (.goto 4, 3) := by decide +kernel
theorem d_Mo_finds_382 : decode b_Mo_finds 382 = .ok (.iconst 0, 1) := by decide +kernel
theorem d_Mo_finds_383 : decode b_Mo_finds 383 = .ok (.ireturn, 1) := by decide +kernel
theorem d_Mo_refusal_0 : decode b_Mo_refusal 0 = .ok (.aload_n 0, 1) := by decide +kernel
theorem d_Mo_refusal_1 : decode b_Mo_refusal 1 = .ok (.invokevirtual 299, 3) := by decide +kernel
theorem d_Mo_refusal_4 : decode b_Mo_refusal 4 = .ok (.aload_n 0, 1) := by decide +kernel
theorem d_Mo_refusal_5 : decode b_Mo_refusal 5 = .ok (.getfield 182, 3) := by decide +kernel
theorem d_Mo_refusal_8 : decode b_Mo_refusal 8 = .ok (.ifCond .le 8, 3) := by decide +kernel
theorem d_Mo_refusal_11 : decode b_Mo_refusal 11 = .ok (.aload_n 0, 1) := by decide +kernel
theorem d_Mo_refusal_12 : decode b_Mo_refusal 12 = .ok (.getfield 182, 3) := by decide +kernel
theorem d_Mo_refusal_15 : decode b_Mo_refusal 15 = .ok (.ireturn, 1) := by decide +kernel
theorem d_Mo_refusal_16 : decode b_Mo_refusal 16 = .ok (.aload_n 0, 1) := by decide +kernel
theorem d_Mo_refusal_17 : decode b_Mo_refusal 17 = .ok (.getfield 135, 3) := by decide +kernel
theorem d_Mo_refusal_20 : decode b_Mo_refusal 20 = .ok (.iconst 2, 1) := by decide +kernel
theorem d_Mo_refusal_21 : decode b_Mo_refusal 21 = .ok (.irem, 1) := by decide +kernel
theorem d_Mo_refusal_22 : decode b_Mo_refusal 22 = .ok (.iconst 1, 1) := by decide +kernel
theorem d_Mo_refusal_23 : decode b_Mo_refusal 23 = .ok (.if_icmp .ne 6, 3) := by decide +kernel
theorem d_Mo_refusal_26 : decode b_Mo_refusal 26 = .ok (.bipush 11, 2) := by decide +kernel
theorem d_Mo_refusal_28 : decode b_Mo_refusal 28 = .ok (.ireturn, 1) := by decide +kernel
theorem d_Mo_refusal_29 : decode b_Mo_refusal 29 = .ok (.iload_n 1, 1) := by decide +kernel
theorem d_Mo_refusal_30 : decode b_Mo_refusal 30 = .ok (.bipush 64, 2) := by decide +kernel
theorem d_Mo_refusal_32 : decode b_Mo_refusal 32 = .ok (.if_icmp .eq 20, 3) := by decide +kernel
theorem d_Mo_refusal_35 : decode b_Mo_refusal 35 = .ok (.iload_n 1, 1) := by decide +kernel
theorem d_Mo_refusal_36 : decode b_Mo_refusal 36 = .ok (.sipush 128, 3) := by decide +kernel
theorem d_Mo_refusal_39 : decode b_Mo_refusal 39 = .ok (.if_icmp .eq 13, 3) := by decide +kernel
theorem d_Mo_refusal_42 : decode b_Mo_refusal 42 = .ok (.iload_n 1, 1) := by decide +kernel
theorem d_Mo_refusal_43 : decode b_Mo_refusal 43 = .ok (.sipush 256, 3) := by decide +kernel
theorem d_Mo_refusal_46 : decode b_Mo_refusal 46 = .ok (.if_icmp .eq 6, 3) := by decide +kernel
theorem d_Mo_refusal_49 : decode b_Mo_refusal 49 = .ok (.bipush 12, 2) := by decide +kernel
theorem d_Mo_refusal_51 : decode b_Mo_refusal 51 = .ok (.ireturn, 1) := by decide +kernel
theorem d_Mo_refusal_52 : decode b_Mo_refusal 52 = .ok (.aload_n 0, 1) := by decide +kernel
theorem d_Mo_refusal_53 : decode b_Mo_refusal 53 = .ok (.iload_n 1, 1) := by decide +kernel
theorem d_Mo_refusal_54 : decode b_Mo_refusal 54 = .ok (.putfield 456, 3) := by decide +kernel
theorem d_Mo_refusal_57 : decode b_Mo_refusal 57 = .ok (.aload_n 0, 1) := by decide +kernel
theorem d_Mo_refusal_58 : decode b_Mo_refusal 58 = .ok (.aload_n 0, 1) := by decide +kernel
theorem d_Mo_refusal_59 : decode b_Mo_refusal 59 = .ok (.getfield 96, 3) := by decide +kernel
theorem d_Mo_refusal_62 : decode b_Mo_refusal 62 = .ok (.iconst 2, 1) := by decide +kernel
theorem d_Mo_refusal_63 : decode b_Mo_refusal 63 = .ok (.idiv, 1) := by decide +kernel
theorem d_Mo_refusal_64 : decode b_Mo_refusal 64 = .ok (.putfield 459, 3) := by decide +kernel
theorem d_Mo_refusal_67 : decode b_Mo_refusal 67 = .ok (.aload_n 0, 1) := by decide +kernel
theorem d_Mo_refusal_68 : decode b_Mo_refusal 68 = .ok (.aload_n 0, 1) := by decide +kernel
theorem d_Mo_refusal_69 : decode b_Mo_refusal 69 = .ok (.getfield 459, 3) := by decide +kernel
theorem d_Mo_refusal_72 : decode b_Mo_refusal 72 = .ok (.iconst 1, 1) := by decide +kernel
theorem d_Mo_refusal_73 : decode b_Mo_refusal 73 = .ok (.isub, 1) := by decide +kernel
theorem d_Mo_refusal_74 : decode b_Mo_refusal 74 = .ok (.aload_n 0, 1) := by decide +kernel
theorem d_Mo_refusal_75 : decode b_Mo_refusal 75 = .ok (.getfield 456, 3) := by decide +kernel
theorem d_Mo_refusal_78 : decode b_Mo_refusal 78 = .ok (.invokestatic 262, 3) := by decide +kernel
theorem d_Mo_refusal_81 : decode b_Mo_refusal 81 = .ok (.putfield 453, 3) := by decide +kernel
theorem d_Mo_refusal_84 : decode b_Mo_refusal 84 = .ok (.aload_n 0, 1) := by decide +kernel
theorem d_Mo_refusal_85 : decode b_Mo_refusal 85 = .ok (.bipush 10, 2) := by decide +kernel
theorem d_Mo_refusal_87 : decode b_Mo_refusal 87 = .ok (.aload_n 0, 1) := by decide +kernel
theorem d_Mo_refusal_88 : decode b_Mo_refusal 88 = .ok (.getfield 166, 3) := by decide +kernel
theorem d_Mo_refusal_91 : decode b_Mo_refusal 91 = .ok (.iadd, 1) := by decide +kernel
theorem d_Mo_refusal_92 : decode b_Mo_refusal 92 = .ok (.bipush 8, 2) := by decide +kernel
theorem d_Mo_refusal_94 : decode b_Mo_refusal 94 = .ok (.aload_n 0, 1) := by decide +kernel
theorem d_Mo_refusal_95 : decode b_Mo_refusal 95 = .ok (.getfield 453, 3) := by decide +kernel
theorem d_Mo_refusal_98 : decode b_Mo_refusal 98 = .ok (.imul, 1) := by decide +kernel
theorem d_Mo_refusal_99 : decode b_Mo_refusal 99 = .ok (.invokestatic 262, 3) := by decide +kernel
theorem d_Mo_refusal_102 : decode b_Mo_refusal 102 = .ok (.bipush 8, 2) := by decide +kernel
theorem d_Mo_refusal_104 : decode b_Mo_refusal 104 = .ok (.imul, 1) := by decide +kernel
theorem d_Mo_refusal_105 : decode b_Mo_refusal 105 = .ok (.putfield 495, 3) := by decide +kernel
theorem d_Mo_refusal_108 : decode b_Mo_refusal 108 = .ok (.aload_n 0, 1) := by decide +kernel
theorem d_Mo_refusal_109 : decode b_Mo_refusal 109 = .ok (.aload_n 0, 1) := by decide +kernel
theorem d_Mo_refusal_110 : decode b_Mo_refusal 110 = .ok (.getfield 495, 3) := by decide +kernel
theorem d_Mo_refusal_113 : decode b_Mo_refusal 113 = .ok (.bipush 8, 2) := by decide +kernel
theorem d_Mo_refusal_115 : decode b_Mo_refusal 115 = .ok (.idiv, 1) := by decide +kernel
theorem d_Mo_refusal_116 : decode b_Mo_refusal 116 = .ok (.putfield 465, 3) := by decide +kernel
theorem d_Mo_refusal_119 : decode b_Mo_refusal 119 = .ok (.aload_n 0, 1) := by decide +kernel
theorem d_Mo_refusal_120 : decode b_Mo_refusal 120 = .ok (.invokevirtual 498, 3) := by decide +kernel
theorem d_Mo_refusal_123 : decode b_Mo_refusal 123 = .ok (.ifCond .ne 8, 3) := by decide +kernel
theorem d_Mo_refusal_126 : decode b_Mo_refusal 126 = .ok (.bipush 12, 2) := by decide +kernel
theorem d_Mo_refusal_128 : decode b_Mo_refusal 128 = .ok (.goto 40, 3) := by decide +kernel
theorem d_Mo_refusal_131 : decode b_Mo_refusal 131 = .ok (.aload_n 0, 1) := by decide +kernel
theorem d_Mo_refusal_132 : decode b_Mo_refusal 132 = .ok (.invokevirtual 501, 3) := by decide +kernel
theorem d_Mo_refusal_135 : decode b_Mo_refusal 135 = .ok (.ifCond .eq 8, 3) := by decide +kernel
theorem d_Mo_refusal_138 : decode b_Mo_refusal 138 = .ok (.bipush 13, 2) := by decide +kernel
theorem d_Mo_refusal_140 : decode b_Mo_refusal 140 = .ok (.goto 28, 3) := by decide +kernel
theorem d_Mo_refusal_143 : decode b_Mo_refusal 143 = .ok (.aload_n 0, 1) := by decide +kernel
theorem d_Mo_refusal_144 : decode b_Mo_refusal 144 = .ok (.invokevirtual 504, 3) := by decide +kernel
theorem d_Mo_refusal_147 : decode b_Mo_refusal 147 = .ok (.ifCond .eq 8, 3) := by decide +kernel
theorem d_Mo_refusal_150 : decode b_Mo_refusal 150 = .ok (.bipush 14, 2) := by decide +kernel
theorem d_Mo_refusal_152 : decode b_Mo_refusal 152 = .ok (.goto 16, 3) := by decide +kernel
theorem d_Mo_refusal_155 : decode b_Mo_refusal 155 = .ok (.aload_n 0, 1) := by decide +kernel
theorem d_Mo_refusal_156 : decode b_Mo_refusal 156 = .ok (.invokevirtual 507, 3) := by decide +kernel
theorem d_Mo_refusal_159 : decode b_Mo_refusal 159 = .ok (.ifCond .ne 8, 3) := by decide +kernel
theorem d_Mo_refusal_162 : decode b_Mo_refusal 162 = .ok (.bipush 15, 2) := by decide +kernel
theorem d_Mo_refusal_164 : decode b_Mo_refusal 164 = .ok (.goto 4, 3) := by decide +kernel
theorem d_Mo_refusal_167 : decode b_Mo_refusal 167 = .ok (.iconst 0, 1) := by decide +kernel
theorem d_Mo_refusal_168 : decode b_Mo_refusal 168 = .ok (.ireturn, 1) := by decide +kernel
theorem d_Mo_lay_0 : decode b_Mo_lay 0 = .ok (.iconst 0, 1) := by decide +kernel
theorem d_Mo_lay_1 : decode b_Mo_lay 1 = .ok (.istore 5, 2) := by decide +kernel
theorem d_Mo_lay_3 : decode b_Mo_lay 3 = .ok (.iload 5, 2) := by decide +kernel
theorem d_Mo_lay_5 : decode b_Mo_lay 5 = .ok (.iload_n 2, 1) := by decide +kernel
theorem d_Mo_lay_6 : decode b_Mo_lay 6 = .ok (.if_icmp .ge 27, 3) := by decide +kernel
theorem d_Mo_lay_9 : decode b_Mo_lay 9 = .ok (.aload_n 0, 1) := by decide +kernel
theorem d_Mo_lay_10 : decode b_Mo_lay 10 = .ok (.getfield 14, 3) := by decide +kernel
theorem d_Mo_lay_13 : decode b_Mo_lay 13 = .ok (.iload_n 1, 1) := by decide +kernel
theorem d_Mo_lay_14 : decode b_Mo_lay 14 = .ok (.iload 5, 2) := by decide +kernel
theorem d_Mo_lay_16 : decode b_Mo_lay 16 = .ok (.iadd, 1) := by decide +kernel
theorem d_Mo_lay_17 : decode b_Mo_lay 17 = .ok (.lload_n 3, 1) := by decide +kernel
theorem d_Mo_lay_18 : decode b_Mo_lay 18 = .ok (.bipush 8, 2) := by decide +kernel
theorem d_Mo_lay_20 : decode b_Mo_lay 20 = .ok (.iload 5, 2) := by decide +kernel
theorem d_Mo_lay_22 : decode b_Mo_lay 22 = .ok (.imul, 1) := by decide +kernel
theorem d_Mo_lay_23 : decode b_Mo_lay 23 = .ok (.lshr, 1) := by decide +kernel
theorem d_Mo_lay_24 : decode b_Mo_lay 24 = .ok (.l2i, 1) := by decide +kernel
theorem d_Mo_lay_25 : decode b_Mo_lay 25 = .ok (.i2b, 1) := by decide +kernel
theorem d_Mo_lay_26 : decode b_Mo_lay 26 = .ok (.bastore, 1) := by decide +kernel
theorem d_Mo_lay_27 : decode b_Mo_lay 27 = .ok (.iinc 5 1, 3) := by decide +kernel
theorem d_Mo_lay_30 : decode b_Mo_lay 30 = .ok (.goto (-27), 3) := by decide +kernel
theorem d_Mo_lay_33 : decode b_Mo_lay 33 = .ok (.return_, 1) := by decide +kernel
theorem d_Mo_build_0 : decode b_Mo_build 0 = .ok (.aload_n 0, 1) := by decide +kernel
theorem d_Mo_build_1 : decode b_Mo_build 1 = .ok (.getfield 87, 3) := by decide +kernel
theorem d_Mo_build_4 : decode b_Mo_build 4 = .ok (.aload_n 0, 1) := by decide +kernel
theorem d_Mo_build_5 : decode b_Mo_build 5 = .ok (.getfield 513, 3) := by decide +kernel
theorem d_Mo_build_8 : decode b_Mo_build 8 = .ok (.iaload, 1) := by decide +kernel
theorem d_Mo_build_9 : decode b_Mo_build 9 = .ok (.istore_n 1, 1) := by decide +kernel
theorem d_Mo_build_10 : decode b_Mo_build 10 = .ok (.aload_n 0, 1) := by decide +kernel
theorem d_Mo_build_11 : decode b_Mo_build 11 = .ok (.dup, 1) := by decide +kernel
theorem d_Mo_build_12 : decode b_Mo_build 12 = .ok (.getfield 513, 3) := by decide +kernel
theorem d_Mo_build_15 : decode b_Mo_build 15 = .ok (.iconst 1, 1) := by decide +kernel
theorem d_Mo_build_16 : decode b_Mo_build 16 = .ok (.iadd, 1) := by decide +kernel
theorem d_Mo_build_17 : decode b_Mo_build 17 = .ok (.putfield 513, 3) := by decide +kernel
theorem d_Mo_build_20 : decode b_Mo_build 20 = .ok (.aload_n 0, 1) := by decide +kernel
theorem d_Mo_build_21 : decode b_Mo_build 21 = .ok (.getfield 78, 3) := by decide +kernel
theorem d_Mo_build_24 : decode b_Mo_build 24 = .ok (.iload_n 1, 1) := by decide +kernel
theorem d_Mo_build_25 : decode b_Mo_build 25 = .ok (.iconst 1, 1) := by decide +kernel
theorem d_Mo_build_26 : decode b_Mo_build 26 = .ok (.bastore, 1) := by decide +kernel
theorem d_Mo_build_27 : decode b_Mo_build 27 = .ok (.iload_n 1, 1) := by decide +kernel
theorem d_Mo_build_28 : decode b_Mo_build 28 = .ok (.ireturn, 1) := by decide +kernel
theorem d_Mo_inodeAt_0 : decode b_Mo_inodeAt 0 = .ok (.sipush 1024, 3) := by decide +kernel
theorem d_Mo_inodeAt_3 : decode b_Mo_inodeAt 3 = .ok (.aload_n 0, 1) := by decide +kernel
theorem d_Mo_inodeAt_4 : decode b_Mo_inodeAt 4 = .ok (.iload_n 1, 1) := by decide +kernel
theorem d_Mo_inodeAt_5 : decode b_Mo_inodeAt 5 = .ok (.iconst 1, 1) := by decide +kernel
theorem d_Mo_inodeAt_6 : decode b_Mo_inodeAt 6 = .ok (.isub, 1) := by decide +kernel
theorem d_Mo_inodeAt_7 : decode b_Mo_inodeAt 7 = .ok (.aload_n 0, 1) := by decide +kernel
theorem d_Mo_inodeAt_8 : decode b_Mo_inodeAt 8 = .ok (.getfield 495, 3) := by decide +kernel
theorem d_Mo_inodeAt_11 : decode b_Mo_inodeAt 11 = .ok (.idiv, 1) := by decide +kernel
theorem d_Mo_inodeAt_12 : decode b_Mo_inodeAt 12 = .ok (.invokevirtual 468, 3) := by decide +kernel
theorem d_Mo_inodeAt_15 : decode b_Mo_inodeAt 15 = .ok (.iconst 2, 1) := by decide +kernel
theorem d_Mo_inodeAt_16 : decode b_Mo_inodeAt 16 = .ok (.iadd, 1) := by decide +kernel
theorem d_Mo_inodeAt_17 : decode b_Mo_inodeAt 17 = .ok (.imul, 1) := by decide +kernel
theorem d_Mo_inodeAt_18 : decode b_Mo_inodeAt 18 = .ok (.sipush 128, 3) := by decide +kernel
theorem d_Mo_inodeAt_21 : decode b_Mo_inodeAt 21 = .ok (.iload_n 1, 1) := by decide +kernel
theorem d_Mo_inodeAt_22 : decode b_Mo_inodeAt 22 = .ok (.iconst 1, 1) := by decide +kernel
theorem d_Mo_inodeAt_23 : decode b_Mo_inodeAt 23 = .ok (.isub, 1) := by decide +kernel
theorem d_Mo_inodeAt_24 : decode b_Mo_inodeAt 24 = .ok (.aload_n 0, 1) := by decide +kernel
theorem d_Mo_inodeAt_25 : decode b_Mo_inodeAt 25 = .ok (.getfield 495, 3) := by decide +kernel
theorem d_Mo_inodeAt_28 : decode b_Mo_inodeAt 28 = .ok (.irem, 1) := by decide +kernel
theorem d_Mo_inodeAt_29 : decode b_Mo_inodeAt 29 = .ok (.imul, 1) := by decide +kernel
theorem d_Mo_inodeAt_30 : decode b_Mo_inodeAt 30 = .ok (.iadd, 1) := by decide +kernel
theorem d_Mo_inodeAt_31 : decode b_Mo_inodeAt 31 = .ok (.ireturn, 1) := by decide +kernel
theorem d_Mo_standing_0 : decode b_Mo_standing 0 = .ok (.aload_n 0, 1) := by decide +kernel
theorem d_Mo_standing_1 : decode b_Mo_standing 1 = .ok (.getfield 57, 3) := by decide +kernel
theorem d_Mo_standing_4 : decode b_Mo_standing 4 = .ok (.iload_n 1, 1) := by decide +kernel
theorem d_Mo_standing_5 : decode b_Mo_standing 5 = .ok (.aload_n 0, 1) := by decide +kernel
theorem d_Mo_standing_6 : decode b_Mo_standing 6 = .ok (.getfield 138, 3) := by decide +kernel
theorem d_Mo_standing_9 : decode b_Mo_standing 9 = .ok (.iconst 2, 1) := by decide +kernel
theorem d_Mo_standing_10 : decode b_Mo_standing 10 = .ok (.idiv, 1) := by decide +kernel
theorem d_Mo_standing_11 : decode b_Mo_standing 11 = .ok (.idiv, 1) := by decide +kernel
theorem d_Mo_standing_12 : decode b_Mo_standing 12 = .ok (.iaload, 1) := by decide +kernel
theorem d_Mo_standing_13 : decode b_Mo_standing 13 = .ok (.istore_n 2, 1) := by decide +kernel
theorem d_Mo_standing_14 : decode b_Mo_standing 14 = .ok (.aload_n 0, 1) := by decide +kernel
theorem d_Mo_standing_15 : decode b_Mo_standing 15 = .ok (.getfield 135, 3) := by decide +kernel
theorem d_Mo_standing_18 : decode b_Mo_standing 18 = .ok (.iconst 2, 1) := by decide +kernel
theorem d_Mo_standing_19 : decode b_Mo_standing 19 = .ok (.idiv, 1) := by decide +kernel
theorem d_Mo_standing_20 : decode b_Mo_standing 20 = .ok (.aload_n 0, 1) := by decide +kernel
theorem d_Mo_standing_21 : decode b_Mo_standing 21 = .ok (.getfield 81, 3) := by decide +kernel
theorem d_Mo_standing_24 : decode b_Mo_standing 24 = .ok (.iload_n 2, 1) := by decide +kernel
theorem d_Mo_standing_25 : decode b_Mo_standing 25 = .ok (.iaload, 1) := by decide +kernel
theorem d_Mo_standing_26 : decode b_Mo_standing 26 = .ok (.ifCond .ne 7, 3) := by decide +kernel
theorem d_Mo_standing_29 : decode b_Mo_standing 29 = .ok (.iload_n 2, 1) := by decide +kernel
theorem d_Mo_standing_30 : decode b_Mo_standing 30 = .ok (.goto 9, 3) := by decide +kernel
theorem d_Mo_standing_33 : decode b_Mo_standing 33 = .ok (.aload_n 0, 1) := by decide +kernel
theorem d_Mo_standing_34 : decode b_Mo_standing 34 = .ok (.getfield 81, 3) := by decide +kernel
theorem d_Mo_standing_37 : decode b_Mo_standing 37 = .ok (.iload_n 2, 1) := by decide +kernel
theorem d_Mo_standing_38 : decode b_Mo_standing 38 = .ok (.iaload, 1) := by decide +kernel
theorem d_Mo_standing_39 : decode b_Mo_standing 39 = .ok (.iconst 2, 1) := by decide +kernel
theorem d_Mo_standing_40 : decode b_Mo_standing 40 = .ok (.isub, 1) := by decide +kernel
theorem d_Mo_standing_41 : decode b_Mo_standing 41 = .ok (.aload_n 0, 1) := by decide +kernel
theorem d_Mo_standing_42 : decode b_Mo_standing 42 = .ok (.getfield 138, 3) := by decide +kernel
theorem d_Mo_standing_45 : decode b_Mo_standing 45 = .ok (.iconst 2, 1) := by decide +kernel
theorem d_Mo_standing_46 : decode b_Mo_standing 46 = .ok (.idiv, 1) := by decide +kernel
theorem d_Mo_standing_47 : decode b_Mo_standing 47 = .ok (.imul, 1) := by decide +kernel
theorem d_Mo_standing_48 : decode b_Mo_standing 48 = .ok (.iadd, 1) := by decide +kernel
theorem d_Mo_standing_49 : decode b_Mo_standing 49 = .ok (.iload_n 1, 1) := by decide +kernel
theorem d_Mo_standing_50 : decode b_Mo_standing 50 = .ok (.aload_n 0, 1) := by decide +kernel
theorem d_Mo_standing_51 : decode b_Mo_standing 51 = .ok (.getfield 138, 3) := by decide +kernel
theorem d_Mo_standing_54 : decode b_Mo_standing 54 = .ok (.iconst 2, 1) := by decide +kernel
theorem d_Mo_standing_55 : decode b_Mo_standing 55 = .ok (.idiv, 1) := by decide +kernel
theorem d_Mo_standing_56 : decode b_Mo_standing 56 = .ok (.irem, 1) := by decide +kernel
theorem d_Mo_standing_57 : decode b_Mo_standing 57 = .ok (.iadd, 1) := by decide +kernel
theorem d_Mo_standing_58 : decode b_Mo_standing 58 = .ok (.ireturn, 1) := by decide +kernel
theorem d_Mo_copied_0 : decode b_Mo_copied 0 = .ok (.aload_n 0, 1) := by decide +kernel
theorem d_Mo_copied_1 : decode b_Mo_copied 1 = .ok (.iload_n 1, 1) := by decide +kernel
theorem d_Mo_copied_2 : decode b_Mo_copied 2 = .ok (.invokevirtual 516, 3) := by decide +kernel
theorem d_Mo_copied_5 : decode b_Mo_copied 5 = .ok (.istore_n 2, 1) := by decide +kernel
theorem d_Mo_copied_6 : decode b_Mo_copied 6 = .ok (.aload_n 0, 1) := by decide +kernel
theorem d_Mo_copied_7 : decode b_Mo_copied 7 = .ok (.aload_n 0, 1) := by decide +kernel
theorem d_Mo_copied_8 : decode b_Mo_copied 8 = .ok (.getfield 57, 3) := by decide +kernel
theorem d_Mo_copied_11 : decode b_Mo_copied 11 = .ok (.iload_n 1, 1) := by decide +kernel
theorem d_Mo_copied_12 : decode b_Mo_copied 12 = .ok (.aload_n 0, 1) := by decide +kernel
theorem d_Mo_copied_13 : decode b_Mo_copied 13 = .ok (.getfield 138, 3) := by decide +kernel
theorem d_Mo_copied_16 : decode b_Mo_copied 16 = .ok (.iconst 2, 1) := by decide +kernel
theorem d_Mo_copied_17 : decode b_Mo_copied 17 = .ok (.idiv, 1) := by decide +kernel
theorem d_Mo_copied_18 : decode b_Mo_copied 18 = .ok (.idiv, 1) := by decide +kernel
theorem d_Mo_copied_19 : decode b_Mo_copied 19 = .ok (.iaload, 1) := by decide +kernel
theorem d_Mo_copied_20 : decode b_Mo_copied 20 = .ok (.invokevirtual 159, 3) := by decide +kernel
theorem d_Mo_copied_23 : decode b_Mo_copied 23 = .ok (.sipush 1024, 3) := by decide +kernel
theorem d_Mo_copied_26 : decode b_Mo_copied 26 = .ok (.iload_n 1, 1) := by decide +kernel
theorem d_Mo_copied_27 : decode b_Mo_copied 27 = .ok (.aload_n 0, 1) := by decide +kernel
theorem d_Mo_copied_28 : decode b_Mo_copied 28 = .ok (.getfield 138, 3) := by decide +kernel
theorem d_Mo_copied_31 : decode b_Mo_copied 31 = .ok (.iconst 2, 1) := by decide +kernel
theorem d_Mo_copied_32 : decode b_Mo_copied 32 = .ok (.idiv, 1) := by decide +kernel
theorem d_Mo_copied_33 : decode b_Mo_copied 33 = .ok (.irem, 1) := by decide +kernel
theorem d_Mo_copied_34 : decode b_Mo_copied 34 = .ok (.imul, 1) := by decide +kernel
theorem d_Mo_copied_35 : decode b_Mo_copied 35 = .ok (.iadd, 1) := by decide +kernel
theorem d_Mo_copied_36 : decode b_Mo_copied 36 = .ok (.istore_n 3, 1) := by decide +kernel
theorem d_Mo_copied_37 : decode b_Mo_copied 37 = .ok (.iconst 0, 1) := by decide +kernel
theorem d_Mo_copied_38 : decode b_Mo_copied 38 = .ok (.istore 4, 2) := by decide +kernel
theorem d_Mo_copied_40 : decode b_Mo_copied 40 = .ok (.iload 4, 2) := by decide +kernel
theorem d_Mo_copied_42 : decode b_Mo_copied 42 = .ok (.sipush 1024, 3) := by decide +kernel
theorem d_Mo_copied_45 : decode b_Mo_copied 45 = .ok (.if_icmp .ge 31, 3) := by decide +kernel
theorem d_Mo_copied_48 : decode b_Mo_copied 48 = .ok (.aload_n 0, 1) := by decide +kernel
theorem d_Mo_copied_49 : decode b_Mo_copied 49 = .ok (.getfield 14, 3) := by decide +kernel
theorem d_Mo_copied_52 : decode b_Mo_copied 52 = .ok (.sipush 1024, 3) := by decide +kernel
theorem d_Mo_copied_55 : decode b_Mo_copied 55 = .ok (.iload_n 2, 1) := by decide +kernel
theorem d_Mo_copied_56 : decode b_Mo_copied 56 = .ok (.imul, 1) := by decide +kernel
theorem d_Mo_copied_57 : decode b_Mo_copied 57 = .ok (.iload 4, 2) := by decide +kernel
theorem d_Mo_copied_59 : decode b_Mo_copied 59 = .ok (.iadd, 1) := by decide +kernel
theorem d_Mo_copied_60 : decode b_Mo_copied 60 = .ok (.aload_n 0, 1) := by decide +kernel
theorem d_Mo_copied_61 : decode b_Mo_copied 61 = .ok (.getfield 8, 3) := by decide +kernel
theorem d_Mo_copied_64 : decode b_Mo_copied 64 = .ok (.iload_n 3, 1) := by decide +kernel
theorem d_Mo_copied_65 : decode b_Mo_copied 65 = .ok (.iload 4, 2) := by decide +kernel
theorem d_Mo_copied_67 : decode b_Mo_copied 67 = .ok (.iadd, 1) := by decide +kernel
theorem d_Mo_copied_68 : decode b_Mo_copied 68 = .ok (.baload, 1) := by decide +kernel
theorem d_Mo_copied_69 : decode b_Mo_copied 69 = .ok (.bastore, 1) := by decide +kernel
theorem d_Mo_copied_70 : decode b_Mo_copied 70 = .ok (.iinc 4 1, 3) := by decide +kernel
theorem d_Mo_copied_73 : decode b_Mo_copied 73 = .ok (.goto (-33), 3) := by decide +kernel
theorem d_Mo_copied_76 : decode b_Mo_copied 76 = .ok (.aload_n 0, 1) := by decide +kernel
theorem d_Mo_copied_77 : decode b_Mo_copied 77 = .ok (.getfield 78, 3) := by decide +kernel
theorem d_Mo_copied_80 : decode b_Mo_copied 80 = .ok (.iload_n 2, 1) := by decide +kernel
theorem d_Mo_copied_81 : decode b_Mo_copied 81 = .ok (.iconst 1, 1) := by decide +kernel
theorem d_Mo_copied_82 : decode b_Mo_copied 82 = .ok (.bastore, 1) := by decide +kernel
theorem d_Mo_copied_83 : decode b_Mo_copied 83 = .ok (.iload_n 2, 1) := by decide +kernel
theorem d_Mo_copied_84 : decode b_Mo_copied 84 = .ok (.ireturn, 1) := by decide +kernel
theorem d_Mo_inode_0 : decode b_Mo_inode 0 = .ok (.aload_n 0, 1) := by decide +kernel
theorem d_Mo_inode_1 : decode b_Mo_inode 1 = .ok (.iload_n 1, 1) := by decide +kernel
theorem d_Mo_inode_2 : decode b_Mo_inode 2 = .ok (.invokevirtual 519, 3) := by decide +kernel
theorem d_Mo_inode_5 : decode b_Mo_inode 5 = .ok (.istore 14, 2) := by decide +kernel
theorem d_Mo_inode_7 : decode b_Mo_inode 7 = .ok (.aload_n 0, 1) := by decide +kernel
theorem d_Mo_inode_8 : decode b_Mo_inode 8 = .ok (.iload 14, 2) := by decide +kernel
theorem d_Mo_inode_10 : decode b_Mo_inode 10 = .ok (.iconst 2, 1) := by decide +kernel
theorem d_Mo_inode_11 : decode b_Mo_inode 11 = .ok (.iload_n 2, 1) := by decide +kernel
theorem d_Mo_inode_12 : decode b_Mo_inode 12 = .ok (.i2l, 1) := by decide +kernel
theorem d_Mo_inode_13 : decode b_Mo_inode 13 = .ok (.invokevirtual 522, 3) := by decide +kernel
theorem d_Mo_inode_16 : decode b_Mo_inode 16 = .ok (.aload_n 0, 1) := by decide +kernel
theorem d_Mo_inode_17 : decode b_Mo_inode 17 = .ok (.iload 14, 2) := by decide +kernel
theorem d_Mo_inode_19 : decode b_Mo_inode 19 = .ok (.iconst 4, 1) := by decide +kernel
theorem d_Mo_inode_20 : decode b_Mo_inode 20 = .ok (.iadd, 1) := by decide +kernel
theorem d_Mo_inode_21 : decode b_Mo_inode 21 = .ok (.iconst 4, 1) := by decide +kernel
theorem d_Mo_inode_22 : decode b_Mo_inode 22 = .ok (.lload 10, 2) := by decide +kernel
theorem d_Mo_inode_24 : decode b_Mo_inode 24 = .ok (.invokevirtual 522, 3) := by decide +kernel
theorem d_Mo_inode_27 : decode b_Mo_inode 27 = .ok (.aload_n 0, 1) := by decide +kernel
theorem d_Mo_inode_28 : decode b_Mo_inode 28 = .ok (.iload 14, 2) := by decide +kernel
theorem d_Mo_inode_30 : decode b_Mo_inode 30 = .ok (.bipush 8, 2) := by decide +kernel
theorem d_Mo_inode_32 : decode b_Mo_inode 32 = .ok (.iadd, 1) := by decide +kernel
theorem d_Mo_inode_33 : decode b_Mo_inode 33 = .ok (.iconst 4, 1) := by decide +kernel
theorem d_Mo_inode_34 : decode b_Mo_inode 34 = .ok (.lload 4, 2) := by decide +kernel
theorem d_Mo_inode_36 : decode b_Mo_inode 36 = .ok (.invokevirtual 522, 3) := by decide +kernel
theorem d_Mo_inode_39 : decode b_Mo_inode 39 = .ok (.aload_n 0, 1) := by decide +kernel
theorem d_Mo_inode_40 : decode b_Mo_inode 40 = .ok (.iload 14, 2) := by decide +kernel
theorem d_Mo_inode_42 : decode b_Mo_inode 42 = .ok (.bipush 12, 2) := by decide +kernel
theorem d_Mo_inode_44 : decode b_Mo_inode 44 = .ok (.iadd, 1) := by decide +kernel
theorem d_Mo_inode_45 : decode b_Mo_inode 45 = .ok (.iconst 4, 1) := by decide +kernel
theorem d_Mo_inode_46 : decode b_Mo_inode 46 = .ok (.lload 6, 2) := by decide +kernel
theorem d_Mo_inode_48 : decode b_Mo_inode 48 = .ok (.invokevirtual 522, 3) := by decide +kernel
theorem d_Mo_inode_51 : decode b_Mo_inode 51 = .ok (.aload_n 0, 1) := by decide +kernel
theorem d_Mo_inode_52 : decode b_Mo_inode 52 = .ok (.iload 14, 2) := by decide +kernel
theorem d_Mo_inode_54 : decode b_Mo_inode 54 = .ok (.bipush 16, 2) := by decide +kernel
theorem d_Mo_inode_56 : decode b_Mo_inode 56 = .ok (.iadd, 1) := by decide +kernel
theorem d_Mo_inode_57 : decode b_Mo_inode 57 = .ok (.iconst 4, 1) := by decide +kernel
theorem d_Mo_inode_58 : decode b_Mo_inode 58 = .ok (.lload 8, 2) := by decide +kernel
theorem d_Mo_inode_60 : decode b_Mo_inode 60 = .ok (.invokevirtual 522, 3) := by decide +kernel
theorem d_Mo_inode_63 : decode b_Mo_inode 63 = .ok (.aload_n 0, 1) := by decide +kernel
theorem d_Mo_inode_64 : decode b_Mo_inode 64 = .ok (.iload 14, 2) := by decide +kernel
theorem d_Mo_inode_66 : decode b_Mo_inode 66 = .ok (.bipush 26, 2) := by decide +kernel
theorem d_Mo_inode_68 : decode b_Mo_inode 68 = .ok (.iadd, 1) := by decide +kernel
theorem d_Mo_inode_69 : decode b_Mo_inode 69 = .ok (.iconst 2, 1) := by decide +kernel
theorem d_Mo_inode_70 : decode b_Mo_inode 70 = .ok (.iload_n 3, 1) := by decide +kernel
theorem d_Mo_inode_71 : decode b_Mo_inode 71 = .ok (.i2l, 1) := by decide +kernel
theorem d_Mo_inode_72 : decode b_Mo_inode 72 = .ok (.invokevirtual 522, 3) := by decide +kernel
theorem d_Mo_inode_75 : decode b_Mo_inode 75 = .ok (.aload_n 0, 1) := by decide +kernel
theorem d_Mo_inode_76 : decode b_Mo_inode 76 = .ok (.iload 14, 2) := by decide +kernel
theorem d_Mo_inode_78 : decode b_Mo_inode 78 = .ok (.bipush 28, 2) := by decide +kernel
theorem d_Mo_inode_80 : decode b_Mo_inode 80 = .ok (.iadd, 1) := by decide +kernel
theorem d_Mo_inode_81 : decode b_Mo_inode 81 = .ok (.iconst 4, 1) := by decide +kernel
theorem d_Mo_inode_82 : decode b_Mo_inode 82 = .ok (.iconst 2, 1) := by decide +kernel
theorem d_Mo_inode_83 : decode b_Mo_inode 83 = .ok (.iload 13, 2) := by decide +kernel
theorem d_Mo_inode_85 : decode b_Mo_inode 85 = .ok (.iload 13, 2) := by decide +kernel
theorem d_Mo_inode_87 : decode b_Mo_inode 87 = .ok (.invokestatic 483, 3) := by decide +kernel
theorem d_Mo_inode_90 : decode b_Mo_inode 90 = .ok (.iadd, 1) := by decide +kernel
theorem d_Mo_inode_91 : decode b_Mo_inode 91 = .ok (.imul, 1) := by decide +kernel
theorem d_Mo_inode_92 : decode b_Mo_inode 92 = .ok (.i2l, 1) := by decide +kernel
theorem d_Mo_inode_93 : decode b_Mo_inode 93 = .ok (.invokevirtual 522, 3) := by decide +kernel
theorem d_Mo_inode_96 : decode b_Mo_inode 96 = .ok (.iconst 0, 1) := by decide +kernel
theorem d_Mo_inode_97 : decode b_Mo_inode 97 = .ok (.istore 15, 2) := by decide +kernel
theorem d_Mo_inode_99 : decode b_Mo_inode 99 = .ok (.iload 15, 2) := by decide +kernel
theorem d_Mo_inode_101 : decode b_Mo_inode 101 = .ok (.iload 13, 2) := by decide +kernel
theorem d_Mo_inode_103 : decode b_Mo_inode 103 = .ok (.if_icmp .ge 37, 3) := by decide +kernel
theorem d_Mo_inode_106 : decode b_Mo_inode 106 = .ok (.iload 15, 2) := by decide +kernel
theorem d_Mo_inode_108 : decode b_Mo_inode 108 = .ok (.bipush 12, 2) := by decide +kernel
theorem d_Mo_inode_110 : decode b_Mo_inode 110 = .ok (.if_icmp .ge 30, 3) := by decide +kernel
theorem d_Mo_inode_113 : decode b_Mo_inode 113 = .ok (.aload_n 0, 1) := by decide +kernel
theorem d_Mo_inode_114 : decode b_Mo_inode 114 = .ok (.iload 14, 2) := by decide +kernel
theorem d_Mo_inode_116 : decode b_Mo_inode 116 = .ok (.bipush 40, 2) := by decide +kernel
theorem d_Mo_inode_118 : decode b_Mo_inode 118 = .ok (.iadd, 1) := by decide +kernel
theorem d_Mo_inode_119 : decode b_Mo_inode 119 = .ok (.iconst 4, 1) := by decide +kernel
theorem d_Mo_inode_120 : decode b_Mo_inode 120 = .ok (.iload 15, 2) := by decide +kernel
theorem d_Mo_inode_122 : decode b_Mo_inode 122 = .ok (.imul, 1) := by decide +kernel
theorem d_Mo_inode_123 : decode b_Mo_inode 123 = .ok (.iadd, 1) := by decide +kernel
theorem d_Mo_inode_124 : decode b_Mo_inode 124 = .ok (.iconst 4, 1) := by decide +kernel
theorem d_Mo_inode_125 : decode b_Mo_inode 125 = .ok (.aload 12, 2) := by decide +kernel
theorem d_Mo_inode_127 : decode b_Mo_inode 127 = .ok (.iload 15, 2) := by decide +kernel
theorem d_Mo_inode_129 : decode b_Mo_inode 129 = .ok (.iaload, 1) := by decide +kernel
theorem d_Mo_inode_130 : decode b_Mo_inode 130 = .ok (.i2l, 1) := by decide +kernel
theorem d_Mo_inode_131 : decode b_Mo_inode 131 = .ok (.invokevirtual 522, 3) := by decide +kernel
theorem d_Mo_inode_134 : decode b_Mo_inode 134 = .ok (.iinc 15 1, 3) := by decide +kernel
theorem d_Mo_inode_137 : decode b_Mo_inode 137 = .ok (.goto (-38), 3) := by decide +kernel
theorem d_Mo_inode_140 : decode b_Mo_inode 140 = .ok (.iload 13, 2) := by decide +kernel
theorem d_Mo_inode_142 : decode b_Mo_inode 142 = .ok (.bipush 12, 2) := by decide +kernel
theorem d_Mo_inode_144 : decode b_Mo_inode 144 = .ok (.if_icmp .le 72, 3) := by decide +kernel
theorem d_Mo_inode_147 : decode b_Mo_inode 147 = .ok (.aload_n 0, 1) := by decide +kernel
theorem d_Mo_inode_148 : decode b_Mo_inode 148 = .ok (.invokevirtual 525, 3) := by decide +kernel
theorem d_Mo_inode_151 : decode b_Mo_inode 151 = .ok (.istore 15, 2) := by decide +kernel
theorem d_Mo_inode_153 : decode b_Mo_inode 153 = .ok (.aload_n 0, 1) := by decide +kernel
theorem d_Mo_inode_154 : decode b_Mo_inode 154 = .ok (.iload 14, 2) := by decide +kernel
theorem d_Mo_inode_156 : decode b_Mo_inode 156 = .ok (.bipush 88, 2) := by decide +kernel
theorem d_Mo_inode_158 : decode b_Mo_inode 158 = .ok (.iadd, 1) := by decide +kernel
theorem d_Mo_inode_159 : decode b_Mo_inode 159 = .ok (.iconst 4, 1) := by decide +kernel
theorem d_Mo_inode_160 : decode b_Mo_inode 160 = .ok (.iload 15, 2) := by decide +kernel
theorem d_Mo_inode_162 : decode b_Mo_inode 162 = .ok (.i2l, 1) := by decide +kernel
theorem d_Mo_inode_163 : decode b_Mo_inode 163 = .ok (.invokevirtual 522, 3) := by decide +kernel
theorem d_Mo_inode_166 : decode b_Mo_inode 166 = .ok (.bipush 12, 2) := by decide +kernel
theorem d_Mo_inode_168 : decode b_Mo_inode 168 = .ok (.istore 16, 2) := by decide +kernel
theorem d_Mo_inode_170 : decode b_Mo_inode 170 = .ok (.iload 16, 2) := by decide +kernel
theorem d_Mo_inode_172 : decode b_Mo_inode 172 = .ok (.iload 13, 2) := by decide +kernel
theorem d_Mo_inode_174 : decode b_Mo_inode 174 = .ok (.if_icmp .ge 42, 3) := by decide +kernel
theorem d_Mo_inode_177 : decode b_Mo_inode 177 = .ok (.iload 16, 2) := by decide +kernel
theorem d_Mo_inode_179 : decode b_Mo_inode 179 = .ok (.sipush 268, 3) := by decide +kernel
theorem d_Mo_inode_182 : decode b_Mo_inode 182 = .ok (.if_icmp .ge 34, 3) := by decide +kernel
theorem d_Mo_inode_185 : decode b_Mo_inode 185 = .ok (.aload_n 0, 1) := by decide +kernel
theorem d_Mo_inode_186 : decode b_Mo_inode 186 = .ok (.sipush 1024, 3) := by decide +kernel
theorem d_Mo_inode_189 : decode b_Mo_inode 189 = .ok (.iload 15, 2) := by decide +kernel
theorem d_Mo_inode_191 : decode b_Mo_inode 191 = .ok (.imul, 1) := by decide +kernel
theorem d_Mo_inode_192 : decode b_Mo_inode 192 = .ok (.iconst 4, 1) := by decide +kernel
theorem d_Mo_inode_193 : decode b_Mo_inode 193 = .ok (.iload 16, 2) := by decide +kernel
theorem d_Mo_inode_195 : decode b_Mo_inode 195 = .ok (.bipush 12, 2) := by decide +kernel
theorem d_Mo_inode_197 : decode b_Mo_inode 197 = .ok (.isub, 1) := by decide +kernel
theorem d_Mo_inode_198 : decode b_Mo_inode 198 = .ok (.imul, 1) := by decide +kernel
theorem d_Mo_inode_199 : decode b_Mo_inode 199 = .ok (.iadd, 1) := by decide +kernel
theorem d_Mo_inode_200 : decode b_Mo_inode 200 = .ok (.iconst 4, 1) := by decide +kernel
theorem d_Mo_inode_201 : decode b_Mo_inode 201 = .ok (.aload 12, 2) := by decide +kernel
theorem d_Mo_inode_203 : decode b_Mo_inode 203 = .ok (.iload 16, 2) := by decide +kernel
theorem d_Mo_inode_205 : decode b_Mo_inode 205 = .ok (.iaload, 1) := by decide +kernel
theorem d_Mo_inode_206 : decode b_Mo_inode 206 = .ok (.i2l, 1) := by decide +kernel
theorem d_Mo_inode_207 : decode b_Mo_inode 207 = .ok (.invokevirtual 522, 3) := by decide +kernel
theorem d_Mo_inode_210 : decode b_Mo_inode 210 = .ok (.iinc 16 1, 3) := by decide +kernel
theorem d_Mo_inode_213 : decode b_Mo_inode 213 = .ok (.goto (-43), 3) := by decide +kernel
theorem d_Mo_inode_216 : decode b_Mo_inode 216 = .ok (.iload 13, 2) := by decide +kernel
theorem d_Mo_inode_218 : decode b_Mo_inode 218 = .ok (.sipush 268, 3) := by decide +kernel
theorem d_Mo_inode_221 : decode b_Mo_inode 221 = .ok (.if_icmp .le 119, 3) := by decide +kernel
theorem d_Mo_inode_224 : decode b_Mo_inode 224 = .ok (.aload_n 0, 1) := by decide +kernel
theorem d_Mo_inode_225 : decode b_Mo_inode 225 = .ok (.invokevirtual 525, 3) := by decide +kernel
theorem d_Mo_inode_228 : decode b_Mo_inode 228 = .ok (.istore 15, 2) := by decide +kernel
theorem d_Mo_inode_230 : decode b_Mo_inode 230 = .ok (.aload_n 0, 1) := by decide +kernel
theorem d_Mo_inode_231 : decode b_Mo_inode 231 = .ok (.iload 14, 2) := by decide +kernel
theorem d_Mo_inode_233 : decode b_Mo_inode 233 = .ok (.bipush 92, 2) := by decide +kernel
theorem d_Mo_inode_235 : decode b_Mo_inode 235 = .ok (.iadd, 1) := by decide +kernel
theorem d_Mo_inode_236 : decode b_Mo_inode 236 = .ok (.iconst 4, 1) := by decide +kernel
theorem d_Mo_inode_237 : decode b_Mo_inode 237 = .ok (.iload 15, 2) := by decide +kernel
theorem d_Mo_inode_239 : decode b_Mo_inode 239 = .ok (.i2l, 1) := by decide +kernel
theorem d_Mo_inode_240 : decode b_Mo_inode 240 = .ok (.invokevirtual 522, 3) := by decide +kernel
theorem d_Mo_inode_243 : decode b_Mo_inode 243 = .ok (.iconst 0, 1) := by decide +kernel
theorem d_Mo_inode_244 : decode b_Mo_inode 244 = .ok (.istore 16, 2) := by decide +kernel
theorem d_Mo_inode_246 : decode b_Mo_inode 246 = .ok (.sipush 268, 3) := by decide +kernel
theorem d_Mo_inode_249 : decode b_Mo_inode 249 = .ok (.istore 17, 2) := by decide +kernel
theorem d_Mo_inode_251 : decode b_Mo_inode 251 = .ok (.iload 17, 2) := by decide +kernel
theorem d_Mo_inode_253 : decode b_Mo_inode 253 = .ok (.iload 13, 2) := by decide +kernel
theorem d_Mo_inode_255 : decode b_Mo_inode 255 = .ok (.if_icmp .ge 85, 3) := by decide +kernel
theorem d_Mo_inode_258 : decode b_Mo_inode 258 = .ok (.iload 17, 2) := by decide +kernel
theorem d_Mo_inode_260 : decode b_Mo_inode 260 = .ok (.sipush 268, 3) := by decide +kernel
theorem d_Mo_inode_263 : decode b_Mo_inode 263 = .ok (.isub, 1) := by decide +kernel
theorem d_Mo_inode_264 : decode b_Mo_inode 264 = .ok (.sipush 256, 3) := by decide +kernel
theorem d_Mo_inode_267 : decode b_Mo_inode 267 = .ok (.irem, 1) := by decide +kernel
theorem d_Mo_inode_268 : decode b_Mo_inode 268 = .ok (.ifCond .ne 36, 3) := by decide +kernel
theorem d_Mo_inode_271 : decode b_Mo_inode 271 = .ok (.aload_n 0, 1) := by decide +kernel
theorem d_Mo_inode_272 : decode b_Mo_inode 272 = .ok (.invokevirtual 525, 3) := by decide +kernel
theorem d_Mo_inode_275 : decode b_Mo_inode 275 = .ok (.istore 16, 2) := by decide +kernel
theorem d_Mo_inode_277 : decode b_Mo_inode 277 = .ok (.aload_n 0, 1) := by decide +kernel
theorem d_Mo_inode_278 : decode b_Mo_inode 278 = .ok (.sipush 1024, 3) := by decide +kernel
theorem d_Mo_inode_281 : decode b_Mo_inode 281 = .ok (.iload 15, 2) := by decide +kernel
theorem d_Mo_inode_283 : decode b_Mo_inode 283 = .ok (.imul, 1) := by decide +kernel
theorem d_Mo_inode_284 : decode b_Mo_inode 284 = .ok (.iload 17, 2) := by decide +kernel
theorem d_Mo_inode_286 : decode b_Mo_inode 286 = .ok (.sipush 268, 3) := by decide +kernel
theorem d_Mo_inode_289 : decode b_Mo_inode 289 = .ok (.isub, 1) := by decide +kernel
theorem d_Mo_inode_290 : decode b_Mo_inode 290 = .ok (.sipush 256, 3) := by decide +kernel
theorem d_Mo_inode_293 : decode b_Mo_inode 293 = .ok (.idiv, 1) := by decide +kernel
theorem d_Mo_inode_294 : decode b_Mo_inode 294 = .ok (.iconst 4, 1) := by decide +kernel
theorem d_Mo_inode_295 : decode b_Mo_inode 295 = .ok (.imul, 1) := by decide +kernel
theorem d_Mo_inode_296 : decode b_Mo_inode 296 = .ok (.iadd, 1) := by decide +kernel
theorem d_Mo_inode_297 : decode b_Mo_inode 297 = .ok (.iconst 4, 1) := by decide +kernel
theorem d_Mo_inode_298 : decode b_Mo_inode 298 = .ok (.iload 16, 2) := by decide +kernel
theorem d_Mo_inode_300 : decode b_Mo_inode 300 = .ok (.i2l, 1) := by decide +kernel
theorem d_Mo_inode_301 : decode b_Mo_inode 301 = .ok (.invokevirtual 522, 3) := by decide +kernel
theorem d_Mo_inode_304 : decode b_Mo_inode 304 = .ok (.aload_n 0, 1) := by decide +kernel
theorem d_Mo_inode_305 : decode b_Mo_inode 305 = .ok (.sipush 1024, 3) := by decide +kernel
theorem d_Mo_inode_308 : decode b_Mo_inode 308 = .ok (.iload 16, 2) := by decide +kernel
theorem d_Mo_inode_310 : decode b_Mo_inode 310 = .ok (.imul, 1) := by decide +kernel
theorem d_Mo_inode_311 : decode b_Mo_inode 311 = .ok (.iload 17, 2) := by decide +kernel
theorem d_Mo_inode_313 : decode b_Mo_inode 313 = .ok (.sipush 268, 3) := by decide +kernel
theorem d_Mo_inode_316 : decode b_Mo_inode 316 = .ok (.isub, 1) := by decide +kernel
theorem d_Mo_inode_317 : decode b_Mo_inode 317 = .ok (.sipush 256, 3) := by decide +kernel
theorem d_Mo_inode_320 : decode b_Mo_inode 320 = .ok (.irem, 1) := by decide +kernel
theorem d_Mo_inode_321 : decode b_Mo_inode 321 = .ok (.iconst 4, 1) := by decide +kernel
theorem d_Mo_inode_322 : decode b_Mo_inode 322 = .ok (.imul, 1) := by decide +kernel
theorem d_Mo_inode_323 : decode b_Mo_inode 323 = .ok (.iadd, 1) := by decide +kernel
theorem d_Mo_inode_324 : decode b_Mo_inode 324 = .ok (.iconst 4, 1) := by decide +kernel
theorem d_Mo_inode_325 : decode b_Mo_inode 325 = .ok (.aload 12, 2) := by decide +kernel
theorem d_Mo_inode_327 : decode b_Mo_inode 327 = .ok (.iload 17, 2) := by decide +kernel
theorem d_Mo_inode_329 : decode b_Mo_inode 329 = .ok (.iaload, 1) := by decide +kernel
theorem d_Mo_inode_330 : decode b_Mo_inode 330 = .ok (.i2l, 1) := by decide +kernel
theorem d_Mo_inode_331 : decode b_Mo_inode 331 = .ok (.invokevirtual 522, 3) := by decide +kernel
theorem d_Mo_inode_334 : decode b_Mo_inode 334 = .ok (.iinc 17 1, 3) := by decide +kernel
theorem d_Mo_inode_337 : decode b_Mo_inode 337 = .ok (.goto (-86), 3) := by decide +kernel
theorem d_Mo_inode_340 : decode b_Mo_inode 340 = .ok (.return_, 1) := by decide +kernel
theorem d_Mo_numberOf_0 : decode b_Mo_numberOf 0 = .ok (.iload_n 1, 1) := by decide +kernel
theorem d_Mo_numberOf_1 : decode b_Mo_numberOf 1 = .ok (.ifCond .ne 7, 3) := by decide +kernel
theorem d_Mo_numberOf_4 : decode b_Mo_numberOf 4 = .ok (.iconst 2, 1) := by decide +kernel
theorem d_Mo_numberOf_5 : decode b_Mo_numberOf 5 = .ok (.goto 7, 3) := by decide +kernel
theorem d_Mo_numberOf_8 : decode b_Mo_numberOf 8 = .ok (.bipush 11, 2) := by decide +kernel
theorem d_Mo_numberOf_10 : decode b_Mo_numberOf 10 = .ok (.iload_n 1, 1) := by decide +kernel
theorem d_Mo_numberOf_11 : decode b_Mo_numberOf 11 = .ok (.iadd, 1) := by decide +kernel
theorem d_Mo_numberOf_12 : decode b_Mo_numberOf 12 = .ok (.ireturn, 1) := by decide +kernel
theorem d_Mo_mode_0 : decode b_Mo_mode 0 = .ok (.aload_n 0, 1) := by decide +kernel
theorem d_Mo_mode_1 : decode b_Mo_mode 1 = .ok (.iload_n 1, 1) := by decide +kernel
theorem d_Mo_mode_2 : decode b_Mo_mode 2 = .ok (.invokevirtual 185, 3) := by decide +kernel
theorem d_Mo_mode_5 : decode b_Mo_mode 5 = .ok (.ifCond .eq 9, 3) := by decide +kernel
theorem d_Mo_mode_8 : decode b_Mo_mode 8 = .ok (.sipush 16877, 3) := by decide +kernel
theorem d_Mo_mode_11 : decode b_Mo_mode 11 = .ok (.goto 6, 3) := by decide +kernel
theorem d_Mo_mode_14 : decode b_Mo_mode 14 = .ok (.ldc_w 528, 3) := by decide +kernel
theorem d_Mo_mode_17 : decode b_Mo_mode 17 = .ok (.iload_n 1, 1) := by decide +kernel
theorem d_Mo_mode_18 : decode b_Mo_mode 18 = .ok (.ifCond .le 28, 3) := by decide +kernel
theorem d_Mo_mode_21 : decode b_Mo_mode 21 = .ok (.aload_n 0, 1) := by decide +kernel
theorem d_Mo_mode_22 : decode b_Mo_mode 22 = .ok (.aload_n 0, 1) := by decide +kernel
theorem d_Mo_mode_23 : decode b_Mo_mode 23 = .ok (.getfield 27, 3) := by decide +kernel
theorem d_Mo_mode_26 : decode b_Mo_mode 26 = .ok (.iload_n 1, 1) := by decide +kernel
theorem d_Mo_mode_27 : decode b_Mo_mode 27 = .ok (.iaload, 1) := by decide +kernel
theorem d_Mo_mode_28 : decode b_Mo_mode 28 = .ok (.bipush 11, 2) := by decide +kernel
theorem d_Mo_mode_30 : decode b_Mo_mode 30 = .ok (.iadd, 1) := by decide +kernel
theorem d_Mo_mode_31 : decode b_Mo_mode 31 = .ok (.invokevirtual 103, 3) := by decide +kernel
theorem d_Mo_mode_34 : decode b_Mo_mode 34 = .ok (.iconst 1, 1) := by decide +kernel
theorem d_Mo_mode_35 : decode b_Mo_mode 35 = .ok (.iand, 1) := by decide +kernel
theorem d_Mo_mode_36 : decode b_Mo_mode 36 = .ok (.iconst 1, 1) := by decide +kernel
theorem d_Mo_mode_37 : decode b_Mo_mode 37 = .ok (.if_icmp .ne 9, 3) := by decide +kernel
theorem d_Mo_mode_40 : decode b_Mo_mode 40 = .ok (.sipush 128, 3) := by decide +kernel
theorem d_Mo_mode_43 : decode b_Mo_mode 43 = .ok (.goto 4, 3) := by decide +kernel
theorem d_Mo_mode_46 : decode b_Mo_mode 46 = .ok (.iconst 0, 1) := by decide +kernel
theorem d_Mo_mode_47 : decode b_Mo_mode 47 = .ok (.isub, 1) := by decide +kernel
theorem d_Mo_mode_48 : decode b_Mo_mode 48 = .ok (.ireturn, 1) := by decide +kernel
theorem d_Mo_makeRecord_0 : decode b_Mo_makeRecord 0 = .ok (.iconst 0, 1) := by decide +kernel
theorem d_Mo_makeRecord_1 : decode b_Mo_makeRecord 1 = .ok (.istore_n 1, 1) := by decide +kernel
theorem d_Mo_makeRecord_2 : decode b_Mo_makeRecord 2 = .ok (.iload_n 1, 1) := by decide +kernel
theorem d_Mo_makeRecord_3 : decode b_Mo_makeRecord 3 = .ok (.iconst 3, 1) := by decide +kernel
theorem d_Mo_makeRecord_4 : decode b_Mo_makeRecord 4 = .ok (.if_icmp .ge 96, 3) := by decide +kernel
theorem d_Mo_makeRecord_7 : decode b_Mo_makeRecord 7 = .ok (.aload_n 0, 1) := by decide +kernel
theorem d_Mo_makeRecord_8 : decode b_Mo_makeRecord 8 = .ok (.getfield 90, 3) := by decide +kernel
theorem d_Mo_makeRecord_11 : decode b_Mo_makeRecord 11 = .ok (.iload_n 1, 1) := by decide +kernel
theorem d_Mo_makeRecord_12 : decode b_Mo_makeRecord 12 = .ok (.aload_n 0, 1) := by decide +kernel
theorem d_Mo_makeRecord_13 : decode b_Mo_makeRecord 13 = .ok (.invokevirtual 525, 3) := by decide +kernel
theorem d_Mo_makeRecord_16 : decode b_Mo_makeRecord 16 = .ok (.iastore, 1) := by decide +kernel
theorem d_Mo_makeRecord_17 : decode b_Mo_makeRecord 17 = .ok (.iconst 0, 1) := by decide +kernel
theorem d_Mo_makeRecord_18 : decode b_Mo_makeRecord 18 = .ok (.istore_n 2, 1) := by decide +kernel
theorem d_Mo_makeRecord_19 : decode b_Mo_makeRecord 19 = .ok (.iload_n 2, 1) := by decide +kernel
theorem d_Mo_makeRecord_20 : decode b_Mo_makeRecord 20 = .ok (.sipush 1024, 3) := by decide +kernel
theorem d_Mo_makeRecord_23 : decode b_Mo_makeRecord 23 = .ok (.if_icmp .ge 71, 3) := by decide +kernel
theorem d_Mo_makeRecord_26 : decode b_Mo_makeRecord 26 = .ok (.aload_n 0, 1) := by decide +kernel
theorem d_Mo_makeRecord_27 : decode b_Mo_makeRecord 27 = .ok (.getfield 14, 3) := by decide +kernel
theorem d_Mo_makeRecord_30 : decode b_Mo_makeRecord 30 = .ok (.sipush 1024, 3) := by decide +kernel
theorem d_Mo_makeRecord_33 : decode b_Mo_makeRecord 33 = .ok (.aload_n 0, 1) := by decide +kernel
theorem d_Mo_makeRecord_34 : decode b_Mo_makeRecord 34 = .ok (.getfield 90, 3) := by decide +kernel
theorem d_Mo_makeRecord_37 : decode b_Mo_makeRecord 37 = .ok (.iload_n 1, 1) := by decide +kernel
theorem d_Mo_makeRecord_38 : decode b_Mo_makeRecord 38 = .ok (.iaload, 1) := by decide +kernel
theorem d_Mo_makeRecord_39 : decode b_Mo_makeRecord 39 = .ok (.imul, 1) := by decide +kernel
theorem d_Mo_makeRecord_40 : decode b_Mo_makeRecord 40 = .ok (.iload_n 2, 1) := by decide +kernel
theorem d_Mo_makeRecord_41 : decode b_Mo_makeRecord 41 = .ok (.iadd, 1) := by decide +kernel
theorem d_Mo_makeRecord_42 : decode b_Mo_makeRecord 42 = .ok (.iload_n 1, 1) := by decide +kernel
theorem d_Mo_makeRecord_43 : decode b_Mo_makeRecord 43 = .ok (.iconst 2, 1) := by decide +kernel
theorem d_Mo_makeRecord_44 : decode b_Mo_makeRecord 44 = .ok (.if_icmp .ge 22, 3) := by decide +kernel
theorem d_Mo_makeRecord_47 : decode b_Mo_makeRecord 47 = .ok (.aload_n 0, 1) := by decide +kernel
theorem d_Mo_makeRecord_48 : decode b_Mo_makeRecord 48 = .ok (.getfield 8, 3) := by decide +kernel
theorem d_Mo_makeRecord_51 : decode b_Mo_makeRecord 51 = .ok (.sipush 1024, 3) := by decide +kernel
theorem d_Mo_makeRecord_54 : decode b_Mo_makeRecord 54 = .ok (.sipush 1024, 3) := by decide +kernel
theorem d_Mo_makeRecord_57 : decode b_Mo_makeRecord 57 = .ok (.iload_n 1, 1) := by decide +kernel
theorem d_Mo_makeRecord_58 : decode b_Mo_makeRecord 58 = .ok (.imul, 1) := by decide +kernel
theorem d_Mo_makeRecord_59 : decode b_Mo_makeRecord 59 = .ok (.iadd, 1) := by decide +kernel
theorem d_Mo_makeRecord_60 : decode b_Mo_makeRecord 60 = .ok (.iload_n 2, 1) := by decide +kernel
theorem d_Mo_makeRecord_61 : decode b_Mo_makeRecord 61 = .ok (.iadd, 1) := by decide +kernel
theorem d_Mo_makeRecord_62 : decode b_Mo_makeRecord 62 = .ok (.baload, 1) := by decide +kernel
theorem d_Mo_makeRecord_63 : decode b_Mo_makeRecord 63 = .ok (.goto 24, 3) := by decide +kernel
theorem d_Mo_makeRecord_66 : decode b_Mo_makeRecord 66 = .ok (.iload_n 2, 1) := by decide +kernel
theorem d_Mo_makeRecord_67 : decode b_Mo_makeRecord 67 = .ok (.sipush 512, 3) := by decide +kernel
theorem d_Mo_makeRecord_70 : decode b_Mo_makeRecord 70 = .ok (.if_icmp .ge 16, 3) := by decide +kernel
theorem d_Mo_makeRecord_73 : decode b_Mo_makeRecord 73 = .ok (.aload_n 0, 1) := by decide +kernel
theorem d_Mo_makeRecord_74 : decode b_Mo_makeRecord 74 = .ok (.getfield 8, 3) := by decide +kernel
theorem d_Mo_makeRecord_77 : decode b_Mo_makeRecord 77 = .ok (.sipush 3584, 3) := by decide +kernel
theorem d_Mo_makeRecord_80 : decode b_Mo_makeRecord 80 = .ok (.iload_n 2, 1) := by decide +kernel
theorem d_Mo_makeRecord_81 : decode b_Mo_makeRecord 81 = .ok (.iadd, 1) := by decide +kernel
theorem d_Mo_makeRecord_82 : decode b_Mo_makeRecord 82 = .ok (.baload, 1) := by decide +kernel
theorem d_Mo_makeRecord_83 : decode b_Mo_makeRecord 83 = .ok (.goto 4, 3) := by decide +kernel
theorem d_Mo_makeRecord_86 : decode b_Mo_makeRecord 86 = .ok (.iconst 0, 1) := by decide +kernel
theorem d_Mo_makeRecord_87 : decode b_Mo_makeRecord 87 = .ok (.bastore, 1) := by decide +kernel
theorem d_Mo_makeRecord_88 : decode b_Mo_makeRecord 88 = .ok (.iinc 2 1, 3) := by decide +kernel
theorem d_Mo_makeRecord_91 : decode b_Mo_makeRecord 91 = .ok (.goto (-72), 3) := by decide +kernel
theorem d_Mo_makeRecord_94 : decode b_Mo_makeRecord 94 = .ok (.iinc 1 1, 3) := by decide +kernel
theorem d_Mo_makeRecord_97 : decode b_Mo_makeRecord 97 = .ok (.goto (-95), 3) := by decide +kernel
theorem d_Mo_makeRecord_100 : decode b_Mo_makeRecord 100 = .ok (.iconst 3, 1) := by decide +kernel
theorem d_Mo_makeRecord_101 : decode b_Mo_makeRecord 101 = .ok (.istore_n 1, 1) := by decide +kernel
theorem d_Mo_makeRecord_102 : decode b_Mo_makeRecord 102 = .ok (.iconst 3, 1) := by decide +kernel
theorem d_Mo_makeRecord_103 : decode b_Mo_makeRecord 103 = .ok (.istore_n 2, 1) := by decide +kernel
theorem d_Mo_makeRecord_104 : decode b_Mo_makeRecord 104 = .ok (.iload_n 2, 1) := by decide +kernel
theorem d_Mo_makeRecord_105 : decode b_Mo_makeRecord 105 = .ok (.aload_n 0, 1) := by decide +kernel
theorem d_Mo_makeRecord_106 : decode b_Mo_makeRecord 106 = .ok (.getfield 135, 3) := by decide +kernel
theorem d_Mo_makeRecord_109 : decode b_Mo_makeRecord 109 = .ok (.iconst 2, 1) := by decide +kernel
theorem d_Mo_makeRecord_110 : decode b_Mo_makeRecord 110 = .ok (.idiv, 1) := by decide +kernel
theorem d_Mo_makeRecord_111 : decode b_Mo_makeRecord 111 = .ok (.if_icmp .ge 65, 3) := by decide +kernel
theorem d_Mo_makeRecord_114 : decode b_Mo_makeRecord 114 = .ok (.aload_n 0, 1) := by decide +kernel
theorem d_Mo_makeRecord_115 : decode b_Mo_makeRecord 115 = .ok (.getfield 90, 3) := by decide +kernel
theorem d_Mo_makeRecord_118 : decode b_Mo_makeRecord 118 = .ok (.iload_n 1, 1) := by decide +kernel
theorem d_Mo_makeRecord_119 : decode b_Mo_makeRecord 119 = .ok (.iload_n 2, 1) := by decide +kernel
theorem d_Mo_makeRecord_120 : decode b_Mo_makeRecord 120 = .ok (.iastore, 1) := by decide +kernel
theorem d_Mo_makeRecord_121 : decode b_Mo_makeRecord 121 = .ok (.iinc 1 1, 3) := by decide +kernel
theorem d_Mo_makeRecord_124 : decode b_Mo_makeRecord 124 = .ok (.aload_n 0, 1) := by decide +kernel
theorem d_Mo_makeRecord_125 : decode b_Mo_makeRecord 125 = .ok (.getfield 78, 3) := by decide +kernel
theorem d_Mo_makeRecord_128 : decode b_Mo_makeRecord 128 = .ok (.iload_n 2, 1) := by decide +kernel
theorem d_Mo_makeRecord_129 : decode b_Mo_makeRecord 129 = .ok (.iconst 1, 1) := by decide +kernel
theorem d_Mo_makeRecord_130 : decode b_Mo_makeRecord 130 = .ok (.bastore, 1) := by decide +kernel
theorem d_Mo_makeRecord_131 : decode b_Mo_makeRecord 131 = .ok (.iconst 0, 1) := by decide +kernel
theorem d_Mo_makeRecord_132 : decode b_Mo_makeRecord 132 = .ok (.istore_n 3, 1) := by decide +kernel
theorem d_Mo_makeRecord_133 : decode b_Mo_makeRecord 133 = .ok (.iload_n 3, 1) := by decide +kernel
theorem d_Mo_makeRecord_134 : decode b_Mo_makeRecord 134 = .ok (.sipush 1024, 3) := by decide +kernel
theorem d_Mo_makeRecord_137 : decode b_Mo_makeRecord 137 = .ok (.if_icmp .ge 33, 3) := by decide +kernel
theorem d_Mo_makeRecord_140 : decode b_Mo_makeRecord 140 = .ok (.aload_n 0, 1) := by decide +kernel
theorem d_Mo_makeRecord_141 : decode b_Mo_makeRecord 141 = .ok (.getfield 14, 3) := by decide +kernel
theorem d_Mo_makeRecord_144 : decode b_Mo_makeRecord 144 = .ok (.sipush 1024, 3) := by decide +kernel
theorem d_Mo_makeRecord_147 : decode b_Mo_makeRecord 147 = .ok (.iload_n 2, 1) := by decide +kernel
theorem d_Mo_makeRecord_148 : decode b_Mo_makeRecord 148 = .ok (.imul, 1) := by decide +kernel
theorem d_Mo_makeRecord_149 : decode b_Mo_makeRecord 149 = .ok (.iload_n 3, 1) := by decide +kernel
theorem d_Mo_makeRecord_150 : decode b_Mo_makeRecord 150 = .ok (.iadd, 1) := by decide +kernel
theorem d_Mo_makeRecord_151 : decode b_Mo_makeRecord 151 = .ok (.aload_n 0, 1) := by decide +kernel
theorem d_Mo_makeRecord_152 : decode b_Mo_makeRecord 152 = .ok (.getfield 8, 3) := by decide +kernel
theorem d_Mo_makeRecord_155 : decode b_Mo_makeRecord 155 = .ok (.sipush 1024, 3) := by decide +kernel
theorem d_Mo_makeRecord_158 : decode b_Mo_makeRecord 158 = .ok (.iload_n 2, 1) := by decide +kernel
theorem d_Mo_makeRecord_159 : decode b_Mo_makeRecord 159 = .ok (.imul, 1) := by decide +kernel
theorem d_Mo_makeRecord_160 : decode b_Mo_makeRecord 160 = .ok (.iload_n 3, 1) := by decide +kernel
theorem d_Mo_makeRecord_161 : decode b_Mo_makeRecord 161 = .ok (.iadd, 1) := by decide +kernel
theorem d_Mo_makeRecord_162 : decode b_Mo_makeRecord 162 = .ok (.baload, 1) := by decide +kernel
theorem d_Mo_makeRecord_163 : decode b_Mo_makeRecord 163 = .ok (.bastore, 1) := by decide +kernel
theorem d_Mo_makeRecord_164 : decode b_Mo_makeRecord 164 = .ok (.iinc 3 1, 3) := by decide +kernel
theorem d_Mo_makeRecord_167 : decode b_Mo_makeRecord 167 = .ok (.goto (-34), 3) := by decide +kernel
theorem d_Mo_makeRecord_170 : decode b_Mo_makeRecord 170 = .ok (.iinc 2 1, 3) := by decide +kernel
theorem d_Mo_makeRecord_173 : decode b_Mo_makeRecord 173 = .ok (.goto (-69), 3) := by decide +kernel
theorem d_Mo_makeRecord_176 : decode b_Mo_makeRecord 176 = .ok (.iconst 0, 1) := by decide +kernel
theorem d_Mo_makeRecord_177 : decode b_Mo_makeRecord 177 = .ok (.istore_n 2, 1) := by decide +kernel
theorem d_Mo_makeRecord_178 : decode b_Mo_makeRecord 178 = .ok (.iload_n 2, 1) := by decide +kernel
theorem d_Mo_makeRecord_179 : decode b_Mo_makeRecord 179 = .ok (.sipush 512, 3) := by decide +kernel
theorem d_Mo_makeRecord_182 : decode b_Mo_makeRecord 182 = .ok (.if_icmp .ge 36, 3) := by decide +kernel
theorem d_Mo_makeRecord_185 : decode b_Mo_makeRecord 185 = .ok (.aload_n 0, 1) := by decide +kernel
theorem d_Mo_makeRecord_186 : decode b_Mo_makeRecord 186 = .ok (.getfield 14, 3) := by decide +kernel
theorem d_Mo_makeRecord_189 : decode b_Mo_makeRecord 189 = .ok (.sipush 3584, 3) := by decide +kernel
theorem d_Mo_makeRecord_192 : decode b_Mo_makeRecord 192 = .ok (.iload_n 2, 1) := by decide +kernel
theorem d_Mo_makeRecord_193 : decode b_Mo_makeRecord 193 = .ok (.iadd, 1) := by decide +kernel
theorem d_Mo_makeRecord_194 : decode b_Mo_makeRecord 194 = .ok (.iload_n 2, 1) := by decide +kernel
theorem d_Mo_makeRecord_195 : decode b_Mo_makeRecord 195 = .ok (.iconst 4, 1) := by decide +kernel
theorem d_Mo_makeRecord_196 : decode b_Mo_makeRecord 196 = .ok (.if_icmp .ge 14, 3) := by decide +kernel
theorem d_Mo_makeRecord_199 : decode b_Mo_makeRecord 199 = .ok (.ldc_w 529, 3) := by decide +kernel
theorem d_Mo_makeRecord_202 : decode b_Mo_makeRecord 202 = .ok (.iload_n 2, 1) := by decide +kernel
theorem d_Mo_makeRecord_203 : decode b_Mo_makeRecord 203 = .ok (.invokevirtual 360, 3) := by decide +kernel
theorem d_Mo_makeRecord_206 : decode b_Mo_makeRecord 206 = .ok (.i2b, 1) := by decide +kernel
theorem d_Mo_makeRecord_207 : decode b_Mo_makeRecord 207 = .ok (.goto 4, 3) := by decide +kernel
theorem d_Mo_makeRecord_210 : decode b_Mo_makeRecord 210 = .ok (.iconst 0, 1) := by decide +kernel
theorem d_Mo_makeRecord_211 : decode b_Mo_makeRecord 211 = .ok (.bastore, 1) := by decide +kernel
theorem d_Mo_makeRecord_212 : decode b_Mo_makeRecord 212 = .ok (.iinc 2 1, 3) := by decide +kernel
theorem d_Mo_makeRecord_215 : decode b_Mo_makeRecord 215 = .ok (.goto (-37), 3) := by decide +kernel
theorem d_Mo_makeRecord_218 : decode b_Mo_makeRecord 218 = .ok (.aload_n 0, 1) := by decide +kernel
theorem d_Mo_makeRecord_219 : decode b_Mo_makeRecord 219 = .ok (.sipush 3588, 3) := by decide +kernel
theorem d_Mo_makeRecord_222 : decode b_Mo_makeRecord 222 = .ok (.iconst 4, 1) := by decide +kernel
theorem d_Mo_makeRecord_223 : decode b_Mo_makeRecord 223 = .ok (.aload_n 0, 1) := by decide +kernel
theorem d_Mo_makeRecord_224 : decode b_Mo_makeRecord 224 = .ok (.getfield 456, 3) := by decide +kernel
theorem d_Mo_makeRecord_227 : decode b_Mo_makeRecord 227 = .ok (.i2l, 1) := by decide +kernel
theorem d_Mo_makeRecord_228 : decode b_Mo_makeRecord 228 = .ok (.invokevirtual 522, 3) := by decide +kernel
theorem d_Mo_makeRecord_231 : decode b_Mo_makeRecord 231 = .ok (.aload_n 0, 1) := by decide +kernel
theorem d_Mo_makeRecord_232 : decode b_Mo_makeRecord 232 = .ok (.sipush 3592, 3) := by decide +kernel
theorem d_Mo_makeRecord_235 : decode b_Mo_makeRecord 235 = .ok (.iconst 4, 1) := by decide +kernel
theorem d_Mo_makeRecord_236 : decode b_Mo_makeRecord 236 = .ok (.aload_n 0, 1) := by decide +kernel
theorem d_Mo_makeRecord_237 : decode b_Mo_makeRecord 237 = .ok (.getfield 495, 3) := by decide +kernel
theorem d_Mo_makeRecord_240 : decode b_Mo_makeRecord 240 = .ok (.i2l, 1) := by decide +kernel
theorem d_Mo_makeRecord_241 : decode b_Mo_makeRecord 241 = .ok (.invokevirtual 522, 3) := by decide +kernel
theorem d_Mo_makeRecord_244 : decode b_Mo_makeRecord 244 = .ok (.iconst 0, 1) := by decide +kernel
theorem d_Mo_makeRecord_245 : decode b_Mo_makeRecord 245 = .ok (.istore_n 2, 1) := by decide +kernel
theorem d_Mo_makeRecord_246 : decode b_Mo_makeRecord 246 = .ok (.iload_n 2, 1) := by decide +kernel
theorem d_Mo_makeRecord_247 : decode b_Mo_makeRecord 247 = .ok (.aload_n 0, 1) := by decide +kernel
theorem d_Mo_makeRecord_248 : decode b_Mo_makeRecord 248 = .ok (.getfield 166, 3) := by decide +kernel
theorem d_Mo_makeRecord_251 : decode b_Mo_makeRecord 251 = .ok (.if_icmp .ge 66, 3) := by decide +kernel
theorem d_Mo_makeRecord_254 : decode b_Mo_makeRecord 254 = .ok (.aload_n 0, 1) := by decide +kernel
theorem d_Mo_makeRecord_255 : decode b_Mo_makeRecord 255 = .ok (.iload_n 2, 1) := by decide +kernel
theorem d_Mo_makeRecord_256 : decode b_Mo_makeRecord 256 = .ok (.invokevirtual 185, 3) := by decide +kernel
theorem d_Mo_makeRecord_259 : decode b_Mo_makeRecord 259 = .ok (.ifCond .ne 6, 3) := by decide +kernel
theorem d_Mo_makeRecord_262 : decode b_Mo_makeRecord 262 = .ok (.goto 49, 3) := by decide +kernel
theorem d_Mo_makeRecord_265 : decode b_Mo_makeRecord 265 = .ok (.aload_n 0, 1) := by decide +kernel
theorem d_Mo_makeRecord_266 : decode b_Mo_makeRecord 266 = .ok (.aload_n 0, 1) := by decide +kernel
theorem d_Mo_makeRecord_267 : decode b_Mo_makeRecord 267 = .ok (.iload_n 2, 1) := by decide +kernel
theorem d_Mo_makeRecord_268 : decode b_Mo_makeRecord 268 = .ok (.invokevirtual 192, 3) := by decide +kernel
theorem d_Mo_makeRecord_271 : decode b_Mo_makeRecord 271 = .ok (.invokevirtual 195, 3) := by decide +kernel
theorem d_Mo_makeRecord_274 : decode b_Mo_makeRecord 274 = .ok (.iconst 0, 1) := by decide +kernel
theorem d_Mo_makeRecord_275 : decode b_Mo_makeRecord 275 = .ok (.istore_n 3, 1) := by decide +kernel
theorem d_Mo_makeRecord_276 : decode b_Mo_makeRecord 276 = .ok (.iload_n 3, 1) := by decide +kernel
theorem d_Mo_makeRecord_277 : decode b_Mo_makeRecord 277 = .ok (.aload_n 0, 1) := by decide +kernel
theorem d_Mo_makeRecord_278 : decode b_Mo_makeRecord 278 = .ok (.getfield 153, 3) := by decide +kernel
theorem d_Mo_makeRecord_281 : decode b_Mo_makeRecord 281 = .ok (.aload_n 0, 1) := by decide +kernel
theorem d_Mo_makeRecord_282 : decode b_Mo_makeRecord 282 = .ok (.getfield 138, 3) := by decide +kernel
theorem d_Mo_makeRecord_285 : decode b_Mo_makeRecord 285 = .ok (.iconst 2, 1) := by decide +kernel
theorem d_Mo_makeRecord_286 : decode b_Mo_makeRecord 286 = .ok (.idiv, 1) := by decide +kernel
theorem d_Mo_makeRecord_287 : decode b_Mo_makeRecord 287 = .ok (.imul, 1) := by decide +kernel
theorem d_Mo_makeRecord_288 : decode b_Mo_makeRecord 288 = .ok (.if_icmp .ge 23, 3) := by decide +kernel
theorem d_Mo_makeRecord_291 : decode b_Mo_makeRecord 291 = .ok (.aload_n 0, 1) := by decide +kernel
theorem d_Mo_makeRecord_292 : decode b_Mo_makeRecord 292 = .ok (.getfield 90, 3) := by decide +kernel
theorem d_Mo_makeRecord_295 : decode b_Mo_makeRecord 295 = .ok (.iload_n 1, 1) := by decide +kernel
theorem d_Mo_makeRecord_296 : decode b_Mo_makeRecord 296 = .ok (.aload_n 0, 1) := by decide +kernel
theorem d_Mo_makeRecord_297 : decode b_Mo_makeRecord 297 = .ok (.iload_n 3, 1) := by decide +kernel
theorem d_Mo_makeRecord_298 : decode b_Mo_makeRecord 298 = .ok (.invokevirtual 531, 3) := by decide +kernel
theorem d_Mo_makeRecord_301 : decode b_Mo_makeRecord 301 = .ok (.iastore, 1) := by decide +kernel
theorem d_Mo_makeRecord_302 : decode b_Mo_makeRecord 302 = .ok (.iinc 1 1, 3) := by decide +kernel
theorem d_Mo_makeRecord_305 : decode b_Mo_makeRecord 305 = .ok (.iinc 3 1, 3) := by decide +kernel
theorem d_Mo_makeRecord_308 : decode b_Mo_makeRecord 308 = .ok (.goto (-32), 3) := by decide +kernel
theorem d_Mo_makeRecord_311 : decode b_Mo_makeRecord 311 = .ok (.iinc 2 1, 3) := by decide +kernel
theorem d_Mo_makeRecord_314 : decode b_Mo_makeRecord 314 = .ok (.goto (-68), 3) := by decide +kernel
theorem d_Mo_makeRecord_317 : decode b_Mo_makeRecord 317 = .ok (.aload_n 0, 1) := by decide +kernel
theorem d_Mo_makeRecord_318 : decode b_Mo_makeRecord 318 = .ok (.bipush 11, 2) := by decide +kernel
theorem d_Mo_makeRecord_320 : decode b_Mo_makeRecord 320 = .ok (.ldc_w 534, 3) := by decide +kernel
theorem d_Mo_makeRecord_323 : decode b_Mo_makeRecord 323 = .ok (.iconst 1, 1) := by decide +kernel
theorem d_Mo_makeRecord_324 : decode b_Mo_makeRecord 324 = .ok (.lconst 0, 1) := by decide +kernel
theorem d_Mo_makeRecord_325 : decode b_Mo_makeRecord 325 = .ok (.lconst 0, 1) := by decide +kernel
theorem d_Mo_makeRecord_326 : decode b_Mo_makeRecord 326 = .ok (.lconst 0, 1) := by decide +kernel
theorem d_Mo_makeRecord_327 : decode b_Mo_makeRecord 327 = .ok (.ldc2_w 387, 3) := by decide +kernel
theorem d_Mo_makeRecord_330 : decode b_Mo_makeRecord 330 = .ok (.iload_n 1, 1) := by decide +kernel
theorem d_Mo_makeRecord_331 : decode b_Mo_makeRecord 331 = .ok (.i2l, 1) := by decide +kernel
theorem d_Mo_makeRecord_332 : decode b_Mo_makeRecord 332 = .ok (.lmul, 1) := by decide +kernel
theorem d_Mo_makeRecord_333 : decode b_Mo_makeRecord 333 = .ok (.aload_n 0, 1) := by decide +kernel
theorem d_Mo_makeRecord_334 : decode b_Mo_makeRecord 334 = .ok (.getfield 90, 3) := by decide +kernel
theorem d_Mo_makeRecord_337 : decode b_Mo_makeRecord 337 = .ok (.iload_n 1, 1) := by decide +kernel
theorem d_Mo_makeRecord_338 : decode b_Mo_makeRecord 338 = .ok (.invokevirtual 535, 3) := by decide +kernel
theorem d_Mo_makeRecord_341 : decode b_Mo_makeRecord 341 = .ok (.return_, 1) := by decide +kernel
theorem d_Mo_begins_0 : decode b_Mo_begins 0 = .ok (.aload_n 0, 1) := by decide +kernel
theorem d_Mo_begins_1 : decode b_Mo_begins 1 = .ok (.sipush 1024, 3) := by decide +kernel
theorem d_Mo_begins_4 : decode b_Mo_begins 4 = .ok (.aload_n 0, 1) := by decide +kernel
theorem d_Mo_begins_5 : decode b_Mo_begins 5 = .ok (.invokevirtual 525, 3) := by decide +kernel
theorem d_Mo_begins_8 : decode b_Mo_begins 8 = .ok (.imul, 1) := by decide +kernel
theorem d_Mo_begins_9 : decode b_Mo_begins 9 = .ok (.putfield 539, 3) := by decide +kernel
theorem d_Mo_begins_12 : decode b_Mo_begins 12 = .ok (.aload_n 0, 1) := by decide +kernel
theorem d_Mo_begins_13 : decode b_Mo_begins 13 = .ok (.iconst 0, 1) := by decide +kernel
theorem d_Mo_begins_14 : decode b_Mo_begins 14 = .ok (.putfield 542, 3) := by decide +kernel
theorem d_Mo_begins_17 : decode b_Mo_begins 17 = .ok (.return_, 1) := by decide +kernel
theorem d_Mo_entered_0 : decode b_Mo_entered 0 = .ok (.bipush 8, 2) := by decide +kernel
theorem d_Mo_entered_2 : decode b_Mo_entered 2 = .ok (.iload 5, 2) := by decide +kernel
theorem d_Mo_entered_4 : decode b_Mo_entered 4 = .ok (.iconst 4, 1) := by decide +kernel
theorem d_Mo_entered_5 : decode b_Mo_entered 5 = .ok (.invokestatic 262, 3) := by decide +kernel
theorem d_Mo_entered_8 : decode b_Mo_entered 8 = .ok (.iconst 4, 1) := by decide +kernel
theorem d_Mo_entered_9 : decode b_Mo_entered 9 = .ok (.imul, 1) := by decide +kernel
theorem d_Mo_entered_10 : decode b_Mo_entered 10 = .ok (.iadd, 1) := by decide +kernel
theorem d_Mo_entered_11 : decode b_Mo_entered 11 = .ok (.istore 6, 2) := by decide +kernel
theorem d_Mo_entered_13 : decode b_Mo_entered 13 = .ok (.iload_n 1, 1) := by decide +kernel
theorem d_Mo_entered_14 : decode b_Mo_entered 14 = .ok (.istore 7, 2) := by decide +kernel
theorem d_Mo_entered_16 : decode b_Mo_entered 16 = .ok (.aload_n 0, 1) := by decide +kernel
theorem d_Mo_entered_17 : decode b_Mo_entered 17 = .ok (.getfield 542, 3) := by decide +kernel
theorem d_Mo_entered_20 : decode b_Mo_entered 20 = .ok (.iload 6, 2) := by decide +kernel
theorem d_Mo_entered_22 : decode b_Mo_entered 22 = .ok (.iadd, 1) := by decide +kernel
theorem d_Mo_entered_23 : decode b_Mo_entered 23 = .ok (.sipush 1024, 3) := by decide +kernel
theorem d_Mo_entered_26 : decode b_Mo_entered 26 = .ok (.if_icmp .le 50, 3) := by decide +kernel
theorem d_Mo_entered_29 : decode b_Mo_entered 29 = .ok (.aload_n 0, 1) := by decide +kernel
theorem d_Mo_entered_30 : decode b_Mo_entered 30 = .ok (.aload_n 0, 1) := by decide +kernel
theorem d_Mo_entered_31 : decode b_Mo_entered 31 = .ok (.getfield 539, 3) := by decide +kernel
theorem d_Mo_entered_34 : decode b_Mo_entered 34 = .ok (.aload_n 0, 1) := by decide +kernel
theorem d_Mo_entered_35 : decode b_Mo_entered 35 = .ok (.getfield 545, 3) := by decide +kernel
theorem d_Mo_entered_38 : decode b_Mo_entered 38 = .ok (.iadd, 1) := by decide +kernel
theorem d_Mo_entered_39 : decode b_Mo_entered 39 = .ok (.iconst 4, 1) := by decide +kernel
theorem d_Mo_entered_40 : decode b_Mo_entered 40 = .ok (.iadd, 1) := by decide +kernel
theorem d_Mo_entered_41 : decode b_Mo_entered 41 = .ok (.iconst 2, 1) := by decide +kernel
theorem d_Mo_entered_42 : decode b_Mo_entered 42 = .ok (.sipush 1024, 3) := by decide +kernel
theorem d_Mo_entered_45 : decode b_Mo_entered 45 = .ok (.aload_n 0, 1) := by decide +kernel
theorem d_Mo_entered_46 : decode b_Mo_entered 46 = .ok (.getfield 545, 3) := by decide +kernel
theorem d_Mo_entered_49 : decode b_Mo_entered 49 = .ok (.isub, 1) := by decide +kernel
theorem d_Mo_entered_50 : decode b_Mo_entered 50 = .ok (.i2l, 1) := by decide +kernel
theorem d_Mo_entered_51 : decode b_Mo_entered 51 = .ok (.invokevirtual 522, 3) := by decide +kernel
theorem d_Mo_entered_54 : decode b_Mo_entered 54 = .ok (.aload_n 0, 1) := by decide +kernel
theorem d_Mo_entered_55 : decode b_Mo_entered 55 = .ok (.invokevirtual 548, 3) := by decide +kernel
theorem d_Mo_entered_58 : decode b_Mo_entered 58 = .ok (.aload_n 0, 1) := by decide +kernel
theorem d_Mo_entered_59 : decode b_Mo_entered 59 = .ok (.getfield 93, 3) := by decide +kernel
theorem d_Mo_entered_62 : decode b_Mo_entered 62 = .ok (.iload 7, 2) := by decide +kernel
theorem d_Mo_entered_64 : decode b_Mo_entered 64 = .ok (.aload_n 0, 1) := by decide +kernel
theorem d_Mo_entered_65 : decode b_Mo_entered 65 = .ok (.getfield 539, 3) := by decide +kernel
theorem d_Mo_entered_68 : decode b_Mo_entered 68 = .ok (.sipush 1024, 3) := by decide +kernel
theorem d_Mo_entered_71 : decode b_Mo_entered 71 = .ok (.idiv, 1) := by decide +kernel
theorem d_Mo_entered_72 : decode b_Mo_entered 72 = .ok (.iastore, 1) := by decide +kernel
theorem d_Mo_entered_73 : decode b_Mo_entered 73 = .ok (.iinc 7 1, 3) := by decide +kernel
theorem d_Mo_entered_76 : decode b_Mo_entered 76 = .ok (.aload_n 0, 1) := by decide +kernel
theorem d_Mo_entered_77 : decode b_Mo_entered 77 = .ok (.getfield 539, 3) := by decide +kernel
theorem d_Mo_entered_80 : decode b_Mo_entered 80 = .ok (.aload_n 0, 1) := by decide +kernel
theorem d_Mo_entered_81 : decode b_Mo_entered 81 = .ok (.getfield 542, 3) := by decide +kernel
theorem d_Mo_entered_84 : decode b_Mo_entered 84 = .ok (.iadd, 1) := by decide +kernel
theorem d_Mo_entered_85 : decode b_Mo_entered 85 = .ok (.istore 8, 2) := by decide +kernel
theorem d_Mo_entered_87 : decode b_Mo_entered 87 = .ok (.aload_n 0, 1) := by decide +kernel
theorem d_Mo_entered_88 : decode b_Mo_entered 88 = .ok (.iload 8, 2) := by decide +kernel
theorem d_Mo_entered_90 : decode b_Mo_entered 90 = .ok (.iconst 4, 1) := by decide +kernel
theorem d_Mo_entered_91 : decode b_Mo_entered 91 = .ok (.iload_n 2, 1) := by decide +kernel
theorem d_Mo_entered_92 : decode b_Mo_entered 92 = .ok (.i2l, 1) := by decide +kernel
theorem d_Mo_entered_93 : decode b_Mo_entered 93 = .ok (.invokevirtual 522, 3) := by decide +kernel
theorem d_Mo_entered_96 : decode b_Mo_entered 96 = .ok (.aload_n 0, 1) := by decide +kernel
theorem d_Mo_entered_97 : decode b_Mo_entered 97 = .ok (.iload 8, 2) := by decide +kernel
theorem d_Mo_entered_99 : decode b_Mo_entered 99 = .ok (.iconst 4, 1) := by decide +kernel
theorem d_Mo_entered_100 : decode b_Mo_entered 100 = .ok (.iadd, 1) := by decide +kernel
theorem d_Mo_entered_101 : decode b_Mo_entered 101 = .ok (.iconst 2, 1) := by decide +kernel
theorem d_Mo_entered_102 : decode b_Mo_entered 102 = .ok (.iload 6, 2) := by decide +kernel
theorem d_Mo_entered_104 : decode b_Mo_entered 104 = .ok (.i2l, 1) := by decide +kernel
theorem d_Mo_entered_105 : decode b_Mo_entered 105 = .ok (.invokevirtual 522, 3) := by decide +kernel
theorem d_Mo_entered_108 : decode b_Mo_entered 108 = .ok (.aload_n 0, 1) := by decide +kernel
theorem d_Mo_entered_109 : decode b_Mo_entered 109 = .ok (.iload 8, 2) := by decide +kernel
theorem d_Mo_entered_111 : decode b_Mo_entered 111 = .ok (.bipush 6, 2) := by decide +kernel
theorem d_Mo_entered_113 : decode b_Mo_entered 113 = .ok (.iadd, 1) := by decide +kernel
theorem d_Mo_entered_114 : decode b_Mo_entered 114 = .ok (.iconst 1, 1) := by decide +kernel
theorem d_Mo_entered_115 : decode b_Mo_entered 115 = .ok (.iload 5, 2) := by decide +kernel
theorem d_Mo_entered_117 : decode b_Mo_entered 117 = .ok (.i2l, 1) := by decide +kernel
theorem d_Mo_entered_118 : decode b_Mo_entered 118 = .ok (.invokevirtual 522, 3) := by decide +kernel
theorem d_Mo_entered_121 : decode b_Mo_entered 121 = .ok (.aload_n 0, 1) := by decide +kernel
theorem d_Mo_entered_122 : decode b_Mo_entered 122 = .ok (.iload 8, 2) := by decide +kernel
theorem d_Mo_entered_124 : decode b_Mo_entered 124 = .ok (.bipush 7, 2) := by decide +kernel
theorem d_Mo_entered_126 : decode b_Mo_entered 126 = .ok (.iadd, 1) := by decide +kernel
theorem d_Mo_entered_127 : decode b_Mo_entered 127 = .ok (.iconst 1, 1) := by decide +kernel
theorem d_Mo_entered_128 : decode b_Mo_entered 128 = .ok (.iload 4, 2) := by decide +kernel
theorem d_Mo_entered_130 : decode b_Mo_entered 130 = .ok (.i2l, 1) := by decide +kernel
theorem d_Mo_entered_131 : decode b_Mo_entered 131 = .ok (.invokevirtual 522, 3) := by decide +kernel
theorem d_Mo_entered_134 : decode b_Mo_entered 134 = .ok (.iconst 0, 1) := by decide +kernel
theorem d_Mo_entered_135 : decode b_Mo_entered 135 = .ok (.istore 9, 2) := by decide +kernel
theorem d_Mo_entered_137 : decode b_Mo_entered 137 = .ok (.iload 9, 2) := by decide +kernel
theorem d_Mo_entered_139 : decode b_Mo_entered 139 = .ok (.iload 5, 2) := by decide +kernel
theorem d_Mo_entered_141 : decode b_Mo_entered 141 = .ok (.if_icmp .ge 40, 3) := by decide +kernel
theorem d_Mo_entered_144 : decode b_Mo_entered 144 = .ok (.aload_n 0, 1) := by decide +kernel
theorem d_Mo_entered_145 : decode b_Mo_entered 145 = .ok (.getfield 14, 3) := by decide +kernel
theorem d_Mo_entered_148 : decode b_Mo_entered 148 = .ok (.iload 8, 2) := by decide +kernel
theorem d_Mo_entered_150 : decode b_Mo_entered 150 = .ok (.bipush 8, 2) := by decide +kernel
theorem d_Mo_entered_152 : decode b_Mo_entered 152 = .ok (.iadd, 1) := by decide +kernel
theorem d_Mo_entered_153 : decode b_Mo_entered 153 = .ok (.iload 9, 2) := by decide +kernel
theorem d_Mo_entered_155 : decode b_Mo_entered 155 = .ok (.iadd, 1) := by decide +kernel
theorem d_Mo_entered_156 : decode b_Mo_entered 156 = .ok (.iload_n 3, 1) := by decide +kernel
theorem d_Mo_entered_157 : decode b_Mo_entered 157 = .ok (.iconst (-1), 1) := by decide +kernel
theorem d_Mo_entered_158 : decode b_Mo_entered 158 = .ok (.if_icmp .ge 8, 3) := by decide +kernel
theorem d_Mo_entered_161 : decode b_Mo_entered 161 = .ok (.bipush 46, 2) := by decide +kernel
theorem d_Mo_entered_163 : decode b_Mo_entered 163 = .ok (.goto 10, 3) := by decide +kernel
theorem d_Mo_entered_166 : decode b_Mo_entered 166 = .ok (.aload_n 0, 1) := by decide +kernel
theorem d_Mo_entered_167 : decode b_Mo_entered 167 = .ok (.iload_n 3, 1) := by decide +kernel
theorem d_Mo_entered_168 : decode b_Mo_entered 168 = .ok (.iload 9, 2) := by decide +kernel
theorem d_Mo_entered_170 : decode b_Mo_entered 170 = .ok (.invokevirtual 370, 3) := by decide +kernel
theorem d_Mo_entered_173 : decode b_Mo_entered 173 = .ok (.i2b, 1) := by decide +kernel
theorem d_Mo_entered_174 : decode b_Mo_entered 174 = .ok (.bastore, 1) := by decide +kernel
theorem d_Mo_entered_175 : decode b_Mo_entered 175 = .ok (.iinc 9 1, 3) := by decide +kernel
theorem d_Mo_entered_178 : decode b_Mo_entered 178 = .ok (.goto (-41), 3) := by decide +kernel
theorem d_Mo_entered_181 : decode b_Mo_entered 181 = .ok (.aload_n 0, 1) := by decide +kernel
theorem d_Mo_entered_182 : decode b_Mo_entered 182 = .ok (.aload_n 0, 1) := by decide +kernel
theorem d_Mo_entered_183 : decode b_Mo_entered 183 = .ok (.getfield 542, 3) := by decide +kernel
theorem d_Mo_entered_186 : decode b_Mo_entered 186 = .ok (.putfield 545, 3) := by decide +kernel
theorem d_Mo_entered_189 : decode b_Mo_entered 189 = .ok (.aload_n 0, 1) := by decide +kernel
theorem d_Mo_entered_190 : decode b_Mo_entered 190 = .ok (.dup, 1) := by decide +kernel
theorem d_Mo_entered_191 : decode b_Mo_entered 191 = .ok (.getfield 542, 3) := by decide +kernel
theorem d_Mo_entered_194 : decode b_Mo_entered 194 = .ok (.iload 6, 2) := by decide +kernel
theorem d_Mo_entered_196 : decode b_Mo_entered 196 = .ok (.iadd, 1) := by decide +kernel
theorem d_Mo_entered_197 : decode b_Mo_entered 197 = .ok (.putfield 542, 3) := by decide +kernel
theorem d_Mo_entered_200 : decode b_Mo_entered 200 = .ok (.iload 7, 2) := by decide +kernel
theorem d_Mo_entered_202 : decode b_Mo_entered 202 = .ok (.ireturn, 1) := by decide +kernel
theorem d_Mo_makeFolder_0 : decode b_Mo_makeFolder 0 = .ok (.aload_n 0, 1) := by decide +kernel
theorem d_Mo_makeFolder_1 : decode b_Mo_makeFolder 1 = .ok (.invokevirtual 548, 3) := by decide +kernel
theorem d_Mo_makeFolder_4 : decode b_Mo_makeFolder 4 = .ok (.aload_n 0, 1) := by decide +kernel
theorem d_Mo_makeFolder_5 : decode b_Mo_makeFolder 5 = .ok (.getfield 93, 3) := by decide +kernel
theorem d_Mo_makeFolder_8 : decode b_Mo_makeFolder 8 = .ok (.iconst 0, 1) := by decide +kernel
theorem d_Mo_makeFolder_9 : decode b_Mo_makeFolder 9 = .ok (.aload_n 0, 1) := by decide +kernel
theorem d_Mo_makeFolder_10 : decode b_Mo_makeFolder 10 = .ok (.getfield 539, 3) := by decide +kernel
theorem d_Mo_makeFolder_13 : decode b_Mo_makeFolder 13 = .ok (.sipush 1024, 3) := by decide +kernel
theorem d_Mo_makeFolder_16 : decode b_Mo_makeFolder 16 = .ok (.idiv, 1) := by decide +kernel
theorem d_Mo_makeFolder_17 : decode b_Mo_makeFolder 17 = .ok (.iastore, 1) := by decide +kernel
theorem d_Mo_makeFolder_18 : decode b_Mo_makeFolder 18 = .ok (.aload_n 0, 1) := by decide +kernel
theorem d_Mo_makeFolder_19 : decode b_Mo_makeFolder 19 = .ok (.iconst 1, 1) := by decide +kernel
theorem d_Mo_makeFolder_20 : decode b_Mo_makeFolder 20 = .ok (.aload_n 0, 1) := by decide +kernel
theorem d_Mo_makeFolder_21 : decode b_Mo_makeFolder 21 = .ok (.iload_n 1, 1) := by decide +kernel
theorem d_Mo_makeFolder_22 : decode b_Mo_makeFolder 22 = .ok (.invokevirtual 551, 3) := by decide +kernel
theorem d_Mo_makeFolder_25 : decode b_Mo_makeFolder 25 = .ok (.bipush (-2), 2) := by decide +kernel
theorem d_Mo_makeFolder_27 : decode b_Mo_makeFolder 27 = .ok (.iconst 2, 1) := by decide +kernel
theorem d_Mo_makeFolder_28 : decode b_Mo_makeFolder 28 = .ok (.iconst 1, 1) := by decide +kernel
theorem d_Mo_makeFolder_29 : decode b_Mo_makeFolder 29 = .ok (.invokevirtual 554, 3) := by decide +kernel
theorem d_Mo_makeFolder_32 : decode b_Mo_makeFolder 32 = .ok (.istore_n 2, 1) := by decide +kernel
theorem d_Mo_makeFolder_33 : decode b_Mo_makeFolder 33 = .ok (.iconst 2, 1) := by decide +kernel
theorem d_Mo_makeFolder_34 : decode b_Mo_makeFolder 34 = .ok (.istore_n 3, 1) := by decide +kernel
theorem d_Mo_makeFolder_35 : decode b_Mo_makeFolder 35 = .ok (.aload_n 0, 1) := by decide +kernel
theorem d_Mo_makeFolder_36 : decode b_Mo_makeFolder 36 = .ok (.iload_n 2, 1) := by decide +kernel
theorem d_Mo_makeFolder_37 : decode b_Mo_makeFolder 37 = .ok (.aload_n 0, 1) := by decide +kernel
theorem d_Mo_makeFolder_38 : decode b_Mo_makeFolder 38 = .ok (.aload_n 0, 1) := by decide +kernel
theorem d_Mo_makeFolder_39 : decode b_Mo_makeFolder 39 = .ok (.getfield 37, 3) := by decide +kernel
theorem d_Mo_makeFolder_42 : decode b_Mo_makeFolder 42 = .ok (.iload_n 1, 1) := by decide +kernel
theorem d_Mo_makeFolder_43 : decode b_Mo_makeFolder 43 = .ok (.iaload, 1) := by decide +kernel
theorem d_Mo_makeFolder_44 : decode b_Mo_makeFolder 44 = .ok (.invokevirtual 551, 3) := by decide +kernel
theorem d_Mo_makeFolder_47 : decode b_Mo_makeFolder 47 = .ok (.bipush (-2), 2) := by decide +kernel
theorem d_Mo_makeFolder_49 : decode b_Mo_makeFolder 49 = .ok (.iconst 2, 1) := by decide +kernel
theorem d_Mo_makeFolder_50 : decode b_Mo_makeFolder 50 = .ok (.iconst 2, 1) := by decide +kernel
theorem d_Mo_makeFolder_51 : decode b_Mo_makeFolder 51 = .ok (.invokevirtual 554, 3) := by decide +kernel
theorem d_Mo_makeFolder_54 : decode b_Mo_makeFolder 54 = .ok (.istore_n 2, 1) := by decide +kernel
theorem d_Mo_makeFolder_55 : decode b_Mo_makeFolder 55 = .ok (.aload_n 0, 1) := by decide +kernel
theorem d_Mo_makeFolder_56 : decode b_Mo_makeFolder 56 = .ok (.getfield 43, 3) := by decide +kernel
theorem d_Mo_makeFolder_59 : decode b_Mo_makeFolder 59 = .ok (.iload_n 1, 1) := by decide +kernel
theorem d_Mo_makeFolder_60 : decode b_Mo_makeFolder 60 = .ok (.iaload, 1) := by decide +kernel
theorem d_Mo_makeFolder_61 : decode b_Mo_makeFolder 61 = .ok (.istore 4, 2) := by decide +kernel
theorem d_Mo_makeFolder_63 : decode b_Mo_makeFolder 63 = .ok (.iload 4, 2) := by decide +kernel
theorem d_Mo_makeFolder_65 : decode b_Mo_makeFolder 65 = .ok (.aload_n 0, 1) := by decide +kernel
theorem d_Mo_makeFolder_66 : decode b_Mo_makeFolder 66 = .ok (.getfield 43, 3) := by decide +kernel
theorem d_Mo_makeFolder_69 : decode b_Mo_makeFolder 69 = .ok (.iload_n 1, 1) := by decide +kernel
theorem d_Mo_makeFolder_70 : decode b_Mo_makeFolder 70 = .ok (.iaload, 1) := by decide +kernel
theorem d_Mo_makeFolder_71 : decode b_Mo_makeFolder 71 = .ok (.aload_n 0, 1) := by decide +kernel
theorem d_Mo_makeFolder_72 : decode b_Mo_makeFolder 72 = .ok (.getfield 40, 3) := by decide +kernel
theorem d_Mo_makeFolder_75 : decode b_Mo_makeFolder 75 = .ok (.iload_n 1, 1) := by decide +kernel
theorem d_Mo_makeFolder_76 : decode b_Mo_makeFolder 76 = .ok (.iaload, 1) := by decide +kernel
theorem d_Mo_makeFolder_77 : decode b_Mo_makeFolder 77 = .ok (.iadd, 1) := by decide +kernel
theorem d_Mo_makeFolder_78 : decode b_Mo_makeFolder 78 = .ok (.if_icmp .ge 60, 3) := by decide +kernel
theorem d_Mo_makeFolder_81 : decode b_Mo_makeFolder 81 = .ok (.aload_n 0, 1) := by decide +kernel
theorem d_Mo_makeFolder_82 : decode b_Mo_makeFolder 82 = .ok (.iload_n 2, 1) := by decide +kernel
theorem d_Mo_makeFolder_83 : decode b_Mo_makeFolder 83 = .ok (.aload_n 0, 1) := by decide +kernel
theorem d_Mo_makeFolder_84 : decode b_Mo_makeFolder 84 = .ok (.iload 4, 2) := by decide +kernel
theorem d_Mo_makeFolder_86 : decode b_Mo_makeFolder 86 = .ok (.invokevirtual 551, 3) := by decide +kernel
theorem d_Mo_makeFolder_89 : decode b_Mo_makeFolder 89 = .ok (.iload 4, 2) := by decide +kernel
theorem d_Mo_makeFolder_91 : decode b_Mo_makeFolder 91 = .ok (.aload_n 0, 1) := by decide +kernel
theorem d_Mo_makeFolder_92 : decode b_Mo_makeFolder 92 = .ok (.iload 4, 2) := by decide +kernel
theorem d_Mo_makeFolder_94 : decode b_Mo_makeFolder 94 = .ok (.invokevirtual 185, 3) := by decide +kernel
theorem d_Mo_makeFolder_97 : decode b_Mo_makeFolder 97 = .ok (.ifCond .eq 7, 3) := by decide +kernel
theorem d_Mo_makeFolder_100 : decode b_Mo_makeFolder 100 = .ok (.iconst 2, 1) := by decide +kernel
theorem d_Mo_makeFolder_101 : decode b_Mo_makeFolder 101 = .ok (.goto 4, 3) := by decide +kernel
theorem d_Mo_makeFolder_104 : decode b_Mo_makeFolder 104 = .ok (.iconst 1, 1) := by decide +kernel
theorem d_Mo_makeFolder_105 : decode b_Mo_makeFolder 105 = .ok (.aload_n 0, 1) := by decide +kernel
theorem d_Mo_makeFolder_106 : decode b_Mo_makeFolder 106 = .ok (.iload 4, 2) := by decide +kernel
theorem d_Mo_makeFolder_108 : decode b_Mo_makeFolder 108 = .ok (.invokevirtual 447, 3) := by decide +kernel
theorem d_Mo_makeFolder_111 : decode b_Mo_makeFolder 111 = .ok (.invokevirtual 554, 3) := by decide +kernel
theorem d_Mo_makeFolder_114 : decode b_Mo_makeFolder 114 = .ok (.istore_n 2, 1) := by decide +kernel
theorem d_Mo_makeFolder_115 : decode b_Mo_makeFolder 115 = .ok (.iload_n 3, 1) := by decide +kernel
theorem d_Mo_makeFolder_116 : decode b_Mo_makeFolder 116 = .ok (.aload_n 0, 1) := by decide +kernel
theorem d_Mo_makeFolder_117 : decode b_Mo_makeFolder 117 = .ok (.iload 4, 2) := by decide +kernel
theorem d_Mo_makeFolder_119 : decode b_Mo_makeFolder 119 = .ok (.invokevirtual 185, 3) := by decide +kernel
theorem d_Mo_makeFolder_122 : decode b_Mo_makeFolder 122 = .ok (.ifCond .eq 7, 3) := by decide +kernel
theorem d_Mo_makeFolder_125 : decode b_Mo_makeFolder 125 = .ok (.iconst 1, 1) := by decide +kernel
theorem d_Mo_makeFolder_126 : decode b_Mo_makeFolder 126 = .ok (.goto 4, 3) := by decide +kernel
theorem d_Mo_makeFolder_129 : decode b_Mo_makeFolder 129 = .ok (.iconst 0, 1) := by decide +kernel
theorem d_Mo_makeFolder_130 : decode b_Mo_makeFolder 130 = .ok (.iadd, 1) := by decide +kernel
theorem d_Mo_makeFolder_131 : decode b_Mo_makeFolder 131 = .ok (.istore_n 3, 1) := by decide +kernel
theorem d_Mo_makeFolder_132 : decode b_Mo_makeFolder 132 = .ok (.iinc 4 1, 3) := by decide +kernel
theorem d_Mo_makeFolder_135 : decode b_Mo_makeFolder 135 = .ok (.goto (-72), 3) := by decide +kernel
theorem d_Mo_makeFolder_138 : decode b_Mo_makeFolder 138 = .ok (.iload_n 1, 1) := by decide +kernel
theorem d_Mo_makeFolder_139 : decode b_Mo_makeFolder 139 = .ok (.ifCond .ne 15, 3) := by decide +kernel
theorem d_Mo_makeFolder_142 : decode b_Mo_makeFolder 142 = .ok (.aload_n 0, 1) := by decide +kernel
theorem d_Mo_makeFolder_143 : decode b_Mo_makeFolder 143 = .ok (.iload_n 2, 1) := by decide +kernel
theorem d_Mo_makeFolder_144 : decode b_Mo_makeFolder 144 = .ok (.bipush 11, 2) := by decide +kernel
theorem d_Mo_makeFolder_146 : decode b_Mo_makeFolder 146 = .ok (.iconst (-1), 1) := by decide +kernel
theorem d_Mo_makeFolder_147 : decode b_Mo_makeFolder 147 = .ok (.iconst 1, 1) := by decide +kernel
theorem d_Mo_makeFolder_148 : decode b_Mo_makeFolder 148 = .ok (.bipush 7, 2) := by decide +kernel
theorem d_Mo_makeFolder_150 : decode b_Mo_makeFolder 150 = .ok (.invokevirtual 554, 3) := by decide +kernel
theorem d_Mo_makeFolder_153 : decode b_Mo_makeFolder 153 = .ok (.istore_n 2, 1) := by decide +kernel
theorem d_Mo_makeFolder_154 : decode b_Mo_makeFolder 154 = .ok (.aload_n 0, 1) := by decide +kernel
theorem d_Mo_makeFolder_155 : decode b_Mo_makeFolder 155 = .ok (.aload_n 0, 1) := by decide +kernel
theorem d_Mo_makeFolder_156 : decode b_Mo_makeFolder 156 = .ok (.getfield 539, 3) := by decide +kernel
theorem d_Mo_makeFolder_159 : decode b_Mo_makeFolder 159 = .ok (.aload_n 0, 1) := by decide +kernel
theorem d_Mo_makeFolder_160 : decode b_Mo_makeFolder 160 = .ok (.getfield 545, 3) := by decide +kernel
theorem d_Mo_makeFolder_163 : decode b_Mo_makeFolder 163 = .ok (.iadd, 1) := by decide +kernel
theorem d_Mo_makeFolder_164 : decode b_Mo_makeFolder 164 = .ok (.iconst 4, 1) := by decide +kernel
theorem d_Mo_makeFolder_165 : decode b_Mo_makeFolder 165 = .ok (.iadd, 1) := by decide +kernel
theorem d_Mo_makeFolder_166 : decode b_Mo_makeFolder 166 = .ok (.iconst 2, 1) := by decide +kernel
theorem d_Mo_makeFolder_167 : decode b_Mo_makeFolder 167 = .ok (.sipush 1024, 3) := by decide +kernel
theorem d_Mo_makeFolder_170 : decode b_Mo_makeFolder 170 = .ok (.aload_n 0, 1) := by decide +kernel
theorem d_Mo_makeFolder_171 : decode b_Mo_makeFolder 171 = .ok (.getfield 545, 3) := by decide +kernel
theorem d_Mo_makeFolder_174 : decode b_Mo_makeFolder 174 = .ok (.isub, 1) := by decide +kernel
theorem d_Mo_makeFolder_175 : decode b_Mo_makeFolder 175 = .ok (.i2l, 1) := by decide +kernel
theorem d_Mo_makeFolder_176 : decode b_Mo_makeFolder 176 = .ok (.invokevirtual 522, 3) := by decide +kernel
theorem d_Mo_makeFolder_179 : decode b_Mo_makeFolder 179 = .ok (.aload_n 0, 1) := by decide +kernel
theorem d_Mo_makeFolder_180 : decode b_Mo_makeFolder 180 = .ok (.aload_n 0, 1) := by decide +kernel
theorem d_Mo_makeFolder_181 : decode b_Mo_makeFolder 181 = .ok (.iload_n 1, 1) := by decide +kernel
theorem d_Mo_makeFolder_182 : decode b_Mo_makeFolder 182 = .ok (.invokevirtual 551, 3) := by decide +kernel
theorem d_Mo_makeFolder_185 : decode b_Mo_makeFolder 185 = .ok (.aload_n 0, 1) := by decide +kernel
theorem d_Mo_makeFolder_186 : decode b_Mo_makeFolder 186 = .ok (.iload_n 1, 1) := by decide +kernel
theorem d_Mo_makeFolder_187 : decode b_Mo_makeFolder 187 = .ok (.invokevirtual 558, 3) := by decide +kernel
theorem d_Mo_makeFolder_190 : decode b_Mo_makeFolder 190 = .ok (.iload_n 3, 1) := by decide +kernel
theorem d_Mo_makeFolder_191 : decode b_Mo_makeFolder 191 = .ok (.iload_n 1, 1) := by decide +kernel
theorem d_Mo_makeFolder_192 : decode b_Mo_makeFolder 192 = .ok (.ifCond .ne 7, 3) := by decide +kernel
theorem d_Mo_makeFolder_195 : decode b_Mo_makeFolder 195 = .ok (.lconst 0, 1) := by decide +kernel
theorem d_Mo_makeFolder_196 : decode b_Mo_makeFolder 196 = .ok (.goto 9, 3) := by decide +kernel
theorem d_Mo_makeFolder_199 : decode b_Mo_makeFolder 199 = .ok (.aload_n 0, 1) := by decide +kernel
theorem d_Mo_makeFolder_200 : decode b_Mo_makeFolder 200 = .ok (.iload_n 1, 1) := by decide +kernel
theorem d_Mo_makeFolder_201 : decode b_Mo_makeFolder 201 = .ok (.iconst 0, 1) := by decide +kernel
theorem d_Mo_makeFolder_202 : decode b_Mo_makeFolder 202 = .ok (.invokevirtual 392, 3) := by decide +kernel
theorem d_Mo_makeFolder_205 : decode b_Mo_makeFolder 205 = .ok (.iload_n 1, 1) := by decide +kernel
theorem d_Mo_makeFolder_206 : decode b_Mo_makeFolder 206 = .ok (.ifCond .ne 7, 3) := by decide +kernel
theorem d_Mo_makeFolder_209 : decode b_Mo_makeFolder 209 = .ok (.lconst 0, 1) := by decide +kernel
theorem d_Mo_makeFolder_210 : decode b_Mo_makeFolder 210 = .ok (.goto 9, 3) := by decide +kernel
theorem d_Mo_makeFolder_213 : decode b_Mo_makeFolder 213 = .ok (.aload_n 0, 1) := by decide +kernel
theorem d_Mo_makeFolder_214 : decode b_Mo_makeFolder 214 = .ok (.iload_n 1, 1) := by decide +kernel
theorem d_Mo_makeFolder_215 : decode b_Mo_makeFolder 215 = .ok (.iconst 1, 1) := by decide +kernel
theorem d_Mo_makeFolder_216 : decode b_Mo_makeFolder 216 = .ok (.invokevirtual 392, 3) := by decide +kernel
theorem d_Mo_makeFolder_219 : decode b_Mo_makeFolder 219 = .ok (.iload_n 1, 1) := by decide +kernel
theorem d_Mo_makeFolder_220 : decode b_Mo_makeFolder 220 = .ok (.ifCond .ne 7, 3) := by decide +kernel
theorem d_Mo_makeFolder_223 : decode b_Mo_makeFolder 223 = .ok (.lconst 0, 1) := by decide +kernel
theorem d_Mo_makeFolder_224 : decode b_Mo_makeFolder 224 = .ok (.goto 9, 3) := by decide +kernel
theorem d_Mo_makeFolder_227 : decode b_Mo_makeFolder 227 = .ok (.aload_n 0, 1) := by decide +kernel
theorem d_Mo_makeFolder_228 : decode b_Mo_makeFolder 228 = .ok (.iload_n 1, 1) := by decide +kernel
theorem d_Mo_makeFolder_229 : decode b_Mo_makeFolder 229 = .ok (.iconst 2, 1) := by decide +kernel
theorem d_Mo_makeFolder_230 : decode b_Mo_makeFolder 230 = .ok (.invokevirtual 392, 3) := by decide +kernel
theorem d_Mo_makeFolder_233 : decode b_Mo_makeFolder 233 = .ok (.ldc2_w 387, 3) := by decide +kernel
theorem d_Mo_makeFolder_236 : decode b_Mo_makeFolder 236 = .ok (.iload_n 2, 1) := by decide +kernel
theorem d_Mo_makeFolder_237 : decode b_Mo_makeFolder 237 = .ok (.i2l, 1) := by decide +kernel
theorem d_Mo_makeFolder_238 : decode b_Mo_makeFolder 238 = .ok (.lmul, 1) := by decide +kernel
theorem d_Mo_makeFolder_239 : decode b_Mo_makeFolder 239 = .ok (.aload_n 0, 1) := by decide +kernel
theorem d_Mo_makeFolder_240 : decode b_Mo_makeFolder 240 = .ok (.getfield 93, 3) := by decide +kernel
theorem d_Mo_makeFolder_243 : decode b_Mo_makeFolder 243 = .ok (.iload_n 2, 1) := by decide +kernel
theorem d_Mo_makeFolder_244 : decode b_Mo_makeFolder 244 = .ok (.invokevirtual 535, 3) := by decide +kernel
theorem d_Mo_makeFolder_247 : decode b_Mo_makeFolder 247 = .ok (.return_, 1) := by decide +kernel
theorem d_Mo_makeFile_0 : decode b_Mo_makeFile 0 = .ok (.aload_n 0, 1) := by decide +kernel
theorem d_Mo_makeFile_1 : decode b_Mo_makeFile 1 = .ok (.aload_n 0, 1) := by decide +kernel
theorem d_Mo_makeFile_2 : decode b_Mo_makeFile 2 = .ok (.iload_n 1, 1) := by decide +kernel
theorem d_Mo_makeFile_3 : decode b_Mo_makeFile 3 = .ok (.invokevirtual 192, 3) := by decide +kernel
theorem d_Mo_makeFile_6 : decode b_Mo_makeFile 6 = .ok (.invokevirtual 195, 3) := by decide +kernel
theorem d_Mo_makeFile_9 : decode b_Mo_makeFile 9 = .ok (.aload_n 0, 1) := by decide +kernel
theorem d_Mo_makeFile_10 : decode b_Mo_makeFile 10 = .ok (.iload_n 1, 1) := by decide +kernel
theorem d_Mo_makeFile_11 : decode b_Mo_makeFile 11 = .ok (.invokevirtual 492, 3) := by decide +kernel
theorem d_Mo_makeFile_14 : decode b_Mo_makeFile 14 = .ok (.istore_n 2, 1) := by decide +kernel
theorem d_Mo_makeFile_15 : decode b_Mo_makeFile 15 = .ok (.iconst 0, 1) := by decide +kernel
theorem d_Mo_makeFile_16 : decode b_Mo_makeFile 16 = .ok (.istore_n 3, 1) := by decide +kernel
theorem d_Mo_makeFile_17 : decode b_Mo_makeFile 17 = .ok (.iload_n 3, 1) := by decide +kernel
theorem d_Mo_makeFile_18 : decode b_Mo_makeFile 18 = .ok (.iload_n 2, 1) := by decide +kernel
theorem d_Mo_makeFile_19 : decode b_Mo_makeFile 19 = .ok (.if_icmp .ge 20, 3) := by decide +kernel
theorem d_Mo_makeFile_22 : decode b_Mo_makeFile 22 = .ok (.aload_n 0, 1) := by decide +kernel
theorem d_Mo_makeFile_23 : decode b_Mo_makeFile 23 = .ok (.getfield 93, 3) := by decide +kernel
theorem d_Mo_makeFile_26 : decode b_Mo_makeFile 26 = .ok (.iload_n 3, 1) := by decide +kernel
theorem d_Mo_makeFile_27 : decode b_Mo_makeFile 27 = .ok (.aload_n 0, 1) := by decide +kernel
theorem d_Mo_makeFile_28 : decode b_Mo_makeFile 28 = .ok (.iload_n 3, 1) := by decide +kernel
theorem d_Mo_makeFile_29 : decode b_Mo_makeFile 29 = .ok (.invokevirtual 531, 3) := by decide +kernel
theorem d_Mo_makeFile_32 : decode b_Mo_makeFile 32 = .ok (.iastore, 1) := by decide +kernel
theorem d_Mo_makeFile_33 : decode b_Mo_makeFile 33 = .ok (.iinc 3 1, 3) := by decide +kernel
theorem d_Mo_makeFile_36 : decode b_Mo_makeFile 36 = .ok (.goto (-19), 3) := by decide +kernel
theorem d_Mo_makeFile_39 : decode b_Mo_makeFile 39 = .ok (.aload_n 0, 1) := by decide +kernel
theorem d_Mo_makeFile_40 : decode b_Mo_makeFile 40 = .ok (.aload_n 0, 1) := by decide +kernel
theorem d_Mo_makeFile_41 : decode b_Mo_makeFile 41 = .ok (.iload_n 1, 1) := by decide +kernel
theorem d_Mo_makeFile_42 : decode b_Mo_makeFile 42 = .ok (.invokevirtual 551, 3) := by decide +kernel
theorem d_Mo_makeFile_45 : decode b_Mo_makeFile 45 = .ok (.aload_n 0, 1) := by decide +kernel
theorem d_Mo_makeFile_46 : decode b_Mo_makeFile 46 = .ok (.iload_n 1, 1) := by decide +kernel
theorem d_Mo_makeFile_47 : decode b_Mo_makeFile 47 = .ok (.invokevirtual 558, 3) := by decide +kernel
theorem d_Mo_makeFile_50 : decode b_Mo_makeFile 50 = .ok (.iconst 1, 1) := by decide +kernel
theorem d_Mo_makeFile_51 : decode b_Mo_makeFile 51 = .ok (.aload_n 0, 1) := by decide +kernel
theorem d_Mo_makeFile_52 : decode b_Mo_makeFile 52 = .ok (.iload_n 1, 1) := by decide +kernel
theorem d_Mo_makeFile_53 : decode b_Mo_makeFile 53 = .ok (.iconst 0, 1) := by decide +kernel
theorem d_Mo_makeFile_54 : decode b_Mo_makeFile 54 = .ok (.invokevirtual 392, 3) := by decide +kernel
theorem d_Mo_makeFile_57 : decode b_Mo_makeFile 57 = .ok (.aload_n 0, 1) := by decide +kernel
theorem d_Mo_makeFile_58 : decode b_Mo_makeFile 58 = .ok (.iload_n 1, 1) := by decide +kernel
theorem d_Mo_makeFile_59 : decode b_Mo_makeFile 59 = .ok (.iconst 1, 1) := by decide +kernel
theorem d_Mo_makeFile_60 : decode b_Mo_makeFile 60 = .ok (.invokevirtual 392, 3) := by decide +kernel
theorem d_Mo_makeFile_63 : decode b_Mo_makeFile 63 = .ok (.aload_n 0, 1) := by decide +kernel
theorem d_Mo_makeFile_64 : decode b_Mo_makeFile 64 = .ok (.iload_n 1, 1) := by decide +kernel
theorem d_Mo_makeFile_65 : decode b_Mo_makeFile 65 = .ok (.iconst 2, 1) := by decide +kernel
theorem d_Mo_makeFile_66 : decode b_Mo_makeFile 66 = .ok (.invokevirtual 392, 3) := by decide +kernel
theorem d_Mo_makeFile_69 : decode b_Mo_makeFile 69 = .ok (.aload_n 0, 1) := by decide +kernel
theorem d_Mo_makeFile_70 : decode b_Mo_makeFile 70 = .ok (.aload_n 0, 1) := by decide +kernel
theorem d_Mo_makeFile_71 : decode b_Mo_makeFile 71 = .ok (.getfield 27, 3) := by decide +kernel
theorem d_Mo_makeFile_74 : decode b_Mo_makeFile 74 = .ok (.iload_n 1, 1) := by decide +kernel
theorem d_Mo_makeFile_75 : decode b_Mo_makeFile 75 = .ok (.iaload, 1) := by decide +kernel
theorem d_Mo_makeFile_76 : decode b_Mo_makeFile 76 = .ok (.bipush 28, 2) := by decide +kernel
theorem d_Mo_makeFile_78 : decode b_Mo_makeFile 78 = .ok (.iadd, 1) := by decide +kernel
theorem d_Mo_makeFile_79 : decode b_Mo_makeFile 79 = .ok (.invokevirtual 120, 3) := by decide +kernel
theorem d_Mo_makeFile_82 : decode b_Mo_makeFile 82 = .ok (.i2l, 1) := by decide +kernel
theorem d_Mo_makeFile_83 : decode b_Mo_makeFile 83 = .ok (.aload_n 0, 1) := by decide +kernel
theorem d_Mo_makeFile_84 : decode b_Mo_makeFile 84 = .ok (.getfield 93, 3) := by decide +kernel
theorem d_Mo_makeFile_87 : decode b_Mo_makeFile 87 = .ok (.iload_n 2, 1) := by decide +kernel
theorem d_Mo_makeFile_88 : decode b_Mo_makeFile 88 = .ok (.invokevirtual 535, 3) := by decide +kernel
theorem d_Mo_makeFile_91 : decode b_Mo_makeFile 91 = .ok (.return_, 1) := by decide +kernel
theorem d_Mo_freeBlocks_0 : decode b_Mo_freeBlocks 0 = .ok (.iconst 0, 1) := by decide +kernel
theorem d_Mo_freeBlocks_1 : decode b_Mo_freeBlocks 1 = .ok (.istore_n 2, 1) := by decide +kernel
theorem d_Mo_freeBlocks_2 : decode b_Mo_freeBlocks 2 = .ok (.iconst 0, 1) := by decide +kernel
theorem d_Mo_freeBlocks_3 : decode b_Mo_freeBlocks 3 = .ok (.istore_n 3, 1) := by decide +kernel
theorem d_Mo_freeBlocks_4 : decode b_Mo_freeBlocks 4 = .ok (.iload_n 3, 1) := by decide +kernel
theorem d_Mo_freeBlocks_5 : decode b_Mo_freeBlocks 5 = .ok (.aload_n 0, 1) := by decide +kernel
theorem d_Mo_freeBlocks_6 : decode b_Mo_freeBlocks 6 = .ok (.iload_n 1, 1) := by decide +kernel
theorem d_Mo_freeBlocks_7 : decode b_Mo_freeBlocks 7 = .ok (.invokevirtual 462, 3) := by decide +kernel
theorem d_Mo_freeBlocks_10 : decode b_Mo_freeBlocks 10 = .ok (.if_icmp .ge 35, 3) := by decide +kernel
theorem d_Mo_freeBlocks_13 : decode b_Mo_freeBlocks 13 = .ok (.iload_n 2, 1) := by decide +kernel
theorem d_Mo_freeBlocks_14 : decode b_Mo_freeBlocks 14 = .ok (.aload_n 0, 1) := by decide +kernel
theorem d_Mo_freeBlocks_15 : decode b_Mo_freeBlocks 15 = .ok (.getfield 78, 3) := by decide +kernel
theorem d_Mo_freeBlocks_18 : decode b_Mo_freeBlocks 18 = .ok (.iconst 1, 1) := by decide +kernel
theorem d_Mo_freeBlocks_19 : decode b_Mo_freeBlocks 19 = .ok (.iload_n 1, 1) := by decide +kernel
theorem d_Mo_freeBlocks_20 : decode b_Mo_freeBlocks 20 = .ok (.aload_n 0, 1) := by decide +kernel
theorem d_Mo_freeBlocks_21 : decode b_Mo_freeBlocks 21 = .ok (.getfield 456, 3) := by decide +kernel
theorem d_Mo_freeBlocks_24 : decode b_Mo_freeBlocks 24 = .ok (.imul, 1) := by decide +kernel
theorem d_Mo_freeBlocks_25 : decode b_Mo_freeBlocks 25 = .ok (.iadd, 1) := by decide +kernel
theorem d_Mo_freeBlocks_26 : decode b_Mo_freeBlocks 26 = .ok (.iload_n 3, 1) := by decide +kernel
theorem d_Mo_freeBlocks_27 : decode b_Mo_freeBlocks 27 = .ok (.iadd, 1) := by decide +kernel
theorem d_Mo_freeBlocks_28 : decode b_Mo_freeBlocks 28 = .ok (.baload, 1) := by decide +kernel
theorem d_Mo_freeBlocks_29 : decode b_Mo_freeBlocks 29 = .ok (.ifCond .eq 7, 3) := by decide +kernel
theorem d_Mo_freeBlocks_32 : decode b_Mo_freeBlocks 32 = .ok (.iconst 0, 1) := by decide +kernel
theorem d_Mo_freeBlocks_33 : decode b_Mo_freeBlocks 33 = .ok (.goto 4, 3) := by decide +kernel
theorem d_Mo_freeBlocks_36 : decode b_Mo_freeBlocks 36 = .ok (.iconst 1, 1) := by decide +kernel
theorem d_Mo_freeBlocks_37 : decode b_Mo_freeBlocks 37 = .ok (.iadd, 1) := by decide +kernel
theorem d_Mo_freeBlocks_38 : decode b_Mo_freeBlocks 38 = .ok (.istore_n 2, 1) := by decide +kernel
theorem d_Mo_freeBlocks_39 : decode b_Mo_freeBlocks 39 = .ok (.iinc 3 1, 3) := by decide +kernel
theorem d_Mo_freeBlocks_42 : decode b_Mo_freeBlocks 42 = .ok (.goto (-38), 3) := by decide +kernel
theorem d_Mo_freeBlocks_45 : decode b_Mo_freeBlocks 45 = .ok (.iload_n 2, 1) := by decide +kernel
theorem d_Mo_freeBlocks_46 : decode b_Mo_freeBlocks 46 = .ok (.ireturn, 1) := by decide +kernel
theorem d_Mo_isUsed_0 : decode b_Mo_isUsed 0 = .ok (.iload_n 1, 1) := by decide +kernel
theorem d_Mo_isUsed_1 : decode b_Mo_isUsed 1 = .ok (.bipush 10, 2) := by decide +kernel
theorem d_Mo_isUsed_3 : decode b_Mo_isUsed 3 = .ok (.aload_n 0, 1) := by decide +kernel
theorem d_Mo_isUsed_4 : decode b_Mo_isUsed 4 = .ok (.getfield 166, 3) := by decide +kernel
theorem d_Mo_isUsed_7 : decode b_Mo_isUsed 7 = .ok (.iadd, 1) := by decide +kernel
theorem d_Mo_isUsed_8 : decode b_Mo_isUsed 8 = .ok (.if_icmp .gt 7, 3) := by decide +kernel
theorem d_Mo_isUsed_11 : decode b_Mo_isUsed 11 = .ok (.iconst 1, 1) := by decide +kernel
theorem d_Mo_isUsed_12 : decode b_Mo_isUsed 12 = .ok (.goto 4, 3) := by decide +kernel
theorem d_Mo_isUsed_15 : decode b_Mo_isUsed 15 = .ok (.iconst 0, 1) := by decide +kernel
theorem d_Mo_isUsed_16 : decode b_Mo_isUsed 16 = .ok (.ireturn, 1) := by decide +kernel
theorem d_Mo_freeInodes_0 : decode b_Mo_freeInodes 0 = .ok (.iconst 0, 1) := by decide +kernel
theorem d_Mo_freeInodes_1 : decode b_Mo_freeInodes 1 = .ok (.istore_n 2, 1) := by decide +kernel
theorem d_Mo_freeInodes_2 : decode b_Mo_freeInodes 2 = .ok (.iconst 1, 1) := by decide +kernel
theorem d_Mo_freeInodes_3 : decode b_Mo_freeInodes 3 = .ok (.istore_n 3, 1) := by decide +kernel
theorem d_Mo_freeInodes_4 : decode b_Mo_freeInodes 4 = .ok (.iload_n 3, 1) := by decide +kernel
theorem d_Mo_freeInodes_5 : decode b_Mo_freeInodes 5 = .ok (.aload_n 0, 1) := by decide +kernel
theorem d_Mo_freeInodes_6 : decode b_Mo_freeInodes 6 = .ok (.getfield 495, 3) := by decide +kernel
theorem d_Mo_freeInodes_9 : decode b_Mo_freeInodes 9 = .ok (.if_icmp .gt 32, 3) := by decide +kernel
theorem d_Mo_freeInodes_12 : decode b_Mo_freeInodes 12 = .ok (.iload_n 2, 1) := by decide +kernel
theorem d_Mo_freeInodes_13 : decode b_Mo_freeInodes 13 = .ok (.aload_n 0, 1) := by decide +kernel
theorem d_Mo_freeInodes_14 : decode b_Mo_freeInodes 14 = .ok (.iload_n 1, 1) := by decide +kernel
theorem d_Mo_freeInodes_15 : decode b_Mo_freeInodes 15 = .ok (.aload_n 0, 1) := by decide +kernel
theorem d_Mo_freeInodes_16 : decode b_Mo_freeInodes 16 = .ok (.getfield 495, 3) := by decide +kernel
theorem d_Mo_freeInodes_19 : decode b_Mo_freeInodes 19 = .ok (.imul, 1) := by decide +kernel
theorem d_Mo_freeInodes_20 : decode b_Mo_freeInodes 20 = .ok (.iload_n 3, 1) := by decide +kernel
theorem d_Mo_freeInodes_21 : decode b_Mo_freeInodes 21 = .ok (.iadd, 1) := by decide +kernel
theorem d_Mo_freeInodes_22 : decode b_Mo_freeInodes 22 = .ok (.invokevirtual 561, 3) := by decide +kernel
theorem d_Mo_freeInodes_25 : decode b_Mo_freeInodes 25 = .ok (.ifCond .eq 7, 3) := by decide +kernel
theorem d_Mo_freeInodes_28 : decode b_Mo_freeInodes 28 = .ok (.iconst 0, 1) := by decide +kernel
theorem d_Mo_freeInodes_29 : decode b_Mo_freeInodes 29 = .ok (.goto 4, 3) := by decide +kernel
theorem d_Mo_freeInodes_32 : decode b_Mo_freeInodes 32 = .ok (.iconst 1, 1) := by decide +kernel
theorem d_Mo_freeInodes_33 : decode b_Mo_freeInodes 33 = .ok (.iadd, 1) := by decide +kernel
theorem d_Mo_freeInodes_34 : decode b_Mo_freeInodes 34 = .ok (.istore_n 2, 1) := by decide +kernel
theorem d_Mo_freeInodes_35 : decode b_Mo_freeInodes 35 = .ok (.iinc 3 1, 3) := by decide +kernel
theorem d_Mo_freeInodes_38 : decode b_Mo_freeInodes 38 = .ok (.goto (-34), 3) := by decide +kernel
theorem d_Mo_freeInodes_41 : decode b_Mo_freeInodes 41 = .ok (.iload_n 2, 1) := by decide +kernel
theorem d_Mo_freeInodes_42 : decode b_Mo_freeInodes 42 = .ok (.ireturn, 1) := by decide +kernel
theorem d_Mo_foldersOf_0 : decode b_Mo_foldersOf 0 = .ok (.iconst 0, 1) := by decide +kernel
theorem d_Mo_foldersOf_1 : decode b_Mo_foldersOf 1 = .ok (.istore_n 2, 1) := by decide +kernel
theorem d_Mo_foldersOf_2 : decode b_Mo_foldersOf 2 = .ok (.iconst 0, 1) := by decide +kernel
theorem d_Mo_foldersOf_3 : decode b_Mo_foldersOf 3 = .ok (.istore_n 3, 1) := by decide +kernel
theorem d_Mo_foldersOf_4 : decode b_Mo_foldersOf 4 = .ok (.iload_n 3, 1) := by decide +kernel
theorem d_Mo_foldersOf_5 : decode b_Mo_foldersOf 5 = .ok (.aload_n 0, 1) := by decide +kernel
theorem d_Mo_foldersOf_6 : decode b_Mo_foldersOf 6 = .ok (.getfield 166, 3) := by decide +kernel
theorem d_Mo_foldersOf_9 : decode b_Mo_foldersOf 9 = .ok (.if_icmp .ge 41, 3) := by decide +kernel
theorem d_Mo_foldersOf_12 : decode b_Mo_foldersOf 12 = .ok (.iload_n 2, 1) := by decide +kernel
theorem d_Mo_foldersOf_13 : decode b_Mo_foldersOf 13 = .ok (.aload_n 0, 1) := by decide +kernel
theorem d_Mo_foldersOf_14 : decode b_Mo_foldersOf 14 = .ok (.iload_n 3, 1) := by decide +kernel
theorem d_Mo_foldersOf_15 : decode b_Mo_foldersOf 15 = .ok (.invokevirtual 185, 3) := by decide +kernel
theorem d_Mo_foldersOf_18 : decode b_Mo_foldersOf 18 = .ok (.ifCond .eq 23, 3) := by decide +kernel
theorem d_Mo_foldersOf_21 : decode b_Mo_foldersOf 21 = .ok (.aload_n 0, 1) := by decide +kernel
theorem d_Mo_foldersOf_22 : decode b_Mo_foldersOf 22 = .ok (.iload_n 3, 1) := by decide +kernel
theorem d_Mo_foldersOf_23 : decode b_Mo_foldersOf 23 = .ok (.invokevirtual 551, 3) := by decide +kernel
theorem d_Mo_foldersOf_26 : decode b_Mo_foldersOf 26 = .ok (.iconst 1, 1) := by decide +kernel
theorem d_Mo_foldersOf_27 : decode b_Mo_foldersOf 27 = .ok (.isub, 1) := by decide +kernel
theorem d_Mo_foldersOf_28 : decode b_Mo_foldersOf 28 = .ok (.aload_n 0, 1) := by decide +kernel
theorem d_Mo_foldersOf_29 : decode b_Mo_foldersOf 29 = .ok (.getfield 495, 3) := by decide +kernel
theorem d_Mo_foldersOf_32 : decode b_Mo_foldersOf 32 = .ok (.idiv, 1) := by decide +kernel
theorem d_Mo_foldersOf_33 : decode b_Mo_foldersOf 33 = .ok (.iload_n 1, 1) := by decide +kernel
theorem d_Mo_foldersOf_34 : decode b_Mo_foldersOf 34 = .ok (.if_icmp .ne 7, 3) := by decide +kernel
theorem d_Mo_foldersOf_37 : decode b_Mo_foldersOf 37 = .ok (.iconst 1, 1) := by decide +kernel
theorem d_Mo_foldersOf_38 : decode b_Mo_foldersOf 38 = .ok (.goto 4, 3) := by decide +kernel
theorem d_Mo_foldersOf_41 : decode b_Mo_foldersOf 41 = .ok (.iconst 0, 1) := by decide +kernel
theorem d_Mo_foldersOf_42 : decode b_Mo_foldersOf 42 = .ok (.iadd, 1) := by decide +kernel
theorem d_Mo_foldersOf_43 : decode b_Mo_foldersOf 43 = .ok (.istore_n 2, 1) := by decide +kernel
theorem d_Mo_foldersOf_44 : decode b_Mo_foldersOf 44 = .ok (.iinc 3 1, 3) := by decide +kernel
theorem d_Mo_foldersOf_47 : decode b_Mo_foldersOf 47 = .ok (.goto (-43), 3) := by decide +kernel
theorem d_Mo_foldersOf_50 : decode b_Mo_foldersOf 50 = .ok (.iload_n 2, 1) := by decide +kernel
theorem d_Mo_foldersOf_51 : decode b_Mo_foldersOf 51 = .ok (.ireturn, 1) := by decide +kernel
theorem d_Mo_makeMaps_0 : decode b_Mo_makeMaps 0 = .ok (.sipush 1024, 3) := by decide +kernel
theorem d_Mo_makeMaps_3 : decode b_Mo_makeMaps 3 = .ok (.aload_n 0, 1) := by decide +kernel
theorem d_Mo_makeMaps_4 : decode b_Mo_makeMaps 4 = .ok (.iload_n 1, 1) := by decide +kernel
theorem d_Mo_makeMaps_5 : decode b_Mo_makeMaps 5 = .ok (.invokevirtual 468, 3) := by decide +kernel
theorem d_Mo_makeMaps_8 : decode b_Mo_makeMaps 8 = .ok (.imul, 1) := by decide +kernel
theorem d_Mo_makeMaps_9 : decode b_Mo_makeMaps 9 = .ok (.istore_n 2, 1) := by decide +kernel
theorem d_Mo_makeMaps_10 : decode b_Mo_makeMaps 10 = .ok (.iconst 0, 1) := by decide +kernel
theorem d_Mo_makeMaps_11 : decode b_Mo_makeMaps 11 = .ok (.istore_n 3, 1) := by decide +kernel
theorem d_Mo_makeMaps_12 : decode b_Mo_makeMaps 12 = .ok (.iload_n 3, 1) := by decide +kernel
theorem d_Mo_makeMaps_13 : decode b_Mo_makeMaps 13 = .ok (.sipush 8192, 3) := by decide +kernel
theorem d_Mo_makeMaps_16 : decode b_Mo_makeMaps 16 = .ok (.if_icmp .ge 109, 3) := by decide +kernel
theorem d_Mo_makeMaps_19 : decode b_Mo_makeMaps 19 = .ok (.iload_n 3, 1) := by decide +kernel
theorem d_Mo_makeMaps_20 : decode b_Mo_makeMaps 20 = .ok (.aload_n 0, 1) := by decide +kernel
theorem d_Mo_makeMaps_21 : decode b_Mo_makeMaps 21 = .ok (.iload_n 1, 1) := by decide +kernel
theorem d_Mo_makeMaps_22 : decode b_Mo_makeMaps 22 = .ok (.invokevirtual 462, 3) := by decide +kernel
theorem d_Mo_makeMaps_25 : decode b_Mo_makeMaps 25 = .ok (.if_icmp .ge 21, 3) := by decide +kernel
theorem d_Mo_makeMaps_28 : decode b_Mo_makeMaps 28 = .ok (.aload_n 0, 1) := by decide +kernel
theorem d_Mo_makeMaps_29 : decode b_Mo_makeMaps 29 = .ok (.getfield 78, 3) := by decide +kernel
theorem d_Mo_makeMaps_32 : decode b_Mo_makeMaps 32 = .ok (.iconst 1, 1) := by decide +kernel
theorem d_Mo_makeMaps_33 : decode b_Mo_makeMaps 33 = .ok (.iload_n 1, 1) := by decide +kernel
theorem d_Mo_makeMaps_34 : decode b_Mo_makeMaps 34 = .ok (.aload_n 0, 1) := by decide +kernel
theorem d_Mo_makeMaps_35 : decode b_Mo_makeMaps 35 = .ok (.getfield 456, 3) := by decide +kernel
theorem d_Mo_makeMaps_38 : decode b_Mo_makeMaps 38 = .ok (.imul, 1) := by decide +kernel
theorem d_Mo_makeMaps_39 : decode b_Mo_makeMaps 39 = .ok (.iadd, 1) := by decide +kernel
theorem d_Mo_makeMaps_40 : decode b_Mo_makeMaps 40 = .ok (.iload_n 3, 1) := by decide +kernel
theorem d_Mo_makeMaps_41 : decode b_Mo_makeMaps 41 = .ok (.iadd, 1) := by decide +kernel
theorem d_Mo_makeMaps_42 : decode b_Mo_makeMaps 42 = .ok (.baload, 1) := by decide +kernel
theorem d_Mo_makeMaps_43 : decode b_Mo_makeMaps 43 = .ok (.ifCond .eq 25, 3) := by decide +kernel
theorem d_Mo_makeMaps_46 : decode b_Mo_makeMaps 46 = .ok (.aload_n 0, 1) := by decide +kernel
theorem d_Mo_makeMaps_47 : decode b_Mo_makeMaps 47 = .ok (.getfield 14, 3) := by decide +kernel
theorem d_Mo_makeMaps_50 : decode b_Mo_makeMaps 50 = .ok (.iload_n 2, 1) := by decide +kernel
theorem d_Mo_makeMaps_51 : decode b_Mo_makeMaps 51 = .ok (.iload_n 3, 1) := by decide +kernel
theorem d_Mo_makeMaps_52 : decode b_Mo_makeMaps 52 = .ok (.bipush 8, 2) := by decide +kernel
theorem d_Mo_makeMaps_54 : decode b_Mo_makeMaps 54 = .ok (.idiv, 1) := by decide +kernel
theorem d_Mo_makeMaps_55 : decode b_Mo_makeMaps 55 = .ok (.iadd, 1) := by decide +kernel
theorem d_Mo_makeMaps_56 : decode b_Mo_makeMaps 56 = .ok (.dup2, 1) := by decide +kernel
theorem d_Mo_makeMaps_57 : decode b_Mo_makeMaps 57 = .ok (.baload, 1) := by decide +kernel
theorem d_Mo_makeMaps_58 : decode b_Mo_makeMaps 58 = .ok (.iconst 1, 1) := by decide +kernel
theorem d_Mo_makeMaps_59 : decode b_Mo_makeMaps 59 = .ok (.iload_n 3, 1) := by decide +kernel
theorem d_Mo_makeMaps_60 : decode b_Mo_makeMaps 60 = .ok (.bipush 8, 2) := by decide +kernel
theorem d_Mo_makeMaps_62 : decode b_Mo_makeMaps 62 = .ok (.irem, 1) := by decide +kernel
theorem d_Mo_makeMaps_63 : decode b_Mo_makeMaps 63 = .ok (.ishl, 1) := by decide +kernel
theorem d_Mo_makeMaps_64 : decode b_Mo_makeMaps 64 = .ok (.i2b, 1) := by decide +kernel
theorem d_Mo_makeMaps_65 : decode b_Mo_makeMaps 65 = .ok (.ior, 1) := by decide +kernel
theorem d_Mo_makeMaps_66 : decode b_Mo_makeMaps 66 = .ok (.i2b, 1) := by decide +kernel
theorem d_Mo_makeMaps_67 : decode b_Mo_makeMaps 67 = .ok (.bastore, 1) := by decide +kernel
theorem d_Mo_makeMaps_68 : decode b_Mo_makeMaps 68 = .ok (.iload_n 3, 1) := by decide +kernel
theorem d_Mo_makeMaps_69 : decode b_Mo_makeMaps 69 = .ok (.aload_n 0, 1) := by decide +kernel
theorem d_Mo_makeMaps_70 : decode b_Mo_makeMaps 70 = .ok (.getfield 495, 3) := by decide +kernel
theorem d_Mo_makeMaps_73 : decode b_Mo_makeMaps 73 = .ok (.if_icmp .ge 20, 3) := by decide +kernel
theorem d_Mo_makeMaps_76 : decode b_Mo_makeMaps 76 = .ok (.aload_n 0, 1) := by decide +kernel
theorem d_Mo_makeMaps_77 : decode b_Mo_makeMaps 77 = .ok (.iload_n 1, 1) := by decide +kernel
theorem d_Mo_makeMaps_78 : decode b_Mo_makeMaps 78 = .ok (.aload_n 0, 1) := by decide +kernel
theorem d_Mo_makeMaps_79 : decode b_Mo_makeMaps 79 = .ok (.getfield 495, 3) := by decide +kernel
theorem d_Mo_makeMaps_82 : decode b_Mo_makeMaps 82 = .ok (.imul, 1) := by decide +kernel
theorem d_Mo_makeMaps_83 : decode b_Mo_makeMaps 83 = .ok (.iload_n 3, 1) := by decide +kernel
theorem d_Mo_makeMaps_84 : decode b_Mo_makeMaps 84 = .ok (.iadd, 1) := by decide +kernel
theorem d_Mo_makeMaps_85 : decode b_Mo_makeMaps 85 = .ok (.iconst 1, 1) := by decide +kernel
theorem d_Mo_makeMaps_86 : decode b_Mo_makeMaps 86 = .ok (.iadd, 1) := by decide +kernel
theorem d_Mo_makeMaps_87 : decode b_Mo_makeMaps 87 = .ok (.invokevirtual 561, 3) := by decide +kernel
theorem d_Mo_makeMaps_90 : decode b_Mo_makeMaps 90 = .ok (.ifCond .eq 29, 3) := by decide +kernel
theorem d_Mo_makeMaps_93 : decode b_Mo_makeMaps 93 = .ok (.aload_n 0, 1) := by decide +kernel
theorem d_Mo_makeMaps_94 : decode b_Mo_makeMaps 94 = .ok (.getfield 14, 3) := by decide +kernel
theorem d_Mo_makeMaps_97 : decode b_Mo_makeMaps 97 = .ok (.iload_n 2, 1) := by decide +kernel
theorem d_Mo_makeMaps_98 : decode b_Mo_makeMaps 98 = .ok (.sipush 1024, 3) := by decide +kernel
theorem d_Mo_makeMaps_101 : decode b_Mo_makeMaps 101 = .ok (.iadd, 1) := by decide +kernel
theorem d_Mo_makeMaps_102 : decode b_Mo_makeMaps 102 = .ok (.iload_n 3, 1) := by decide +kernel
theorem d_Mo_makeMaps_103 : decode b_Mo_makeMaps 103 = .ok (.bipush 8, 2) := by decide +kernel
theorem d_Mo_makeMaps_105 : decode b_Mo_makeMaps 105 = .ok (.idiv, 1) := by decide +kernel
theorem d_Mo_makeMaps_106 : decode b_Mo_makeMaps 106 = .ok (.iadd, 1) := by decide +kernel
theorem d_Mo_makeMaps_107 : decode b_Mo_makeMaps 107 = .ok (.dup2, 1) := by decide +kernel
theorem d_Mo_makeMaps_108 : decode b_Mo_makeMaps 108 = .ok (.baload, 1) := by decide +kernel
theorem d_Mo_makeMaps_109 : decode b_Mo_makeMaps 109 = .ok (.iconst 1, 1) := by decide +kernel
theorem d_Mo_makeMaps_110 : decode b_Mo_makeMaps 110 = .ok (.iload_n 3, 1) := by decide +kernel
theorem d_Mo_makeMaps_111 : decode b_Mo_makeMaps 111 = .ok (.bipush 8, 2) := by decide +kernel
theorem d_Mo_makeMaps_113 : decode b_Mo_makeMaps 113 = .ok (.irem, 1) := by decide +kernel
theorem d_Mo_makeMaps_114 : decode b_Mo_makeMaps 114 = .ok (.ishl, 1) := by decide +kernel
theorem d_Mo_makeMaps_115 : decode b_Mo_makeMaps 115 = .ok (.i2b, 1) := by decide +kernel
theorem d_Mo_makeMaps_116 : decode b_Mo_makeMaps 116 = .ok (.ior, 1) := by decide +kernel
theorem d_Mo_makeMaps_117 : decode b_Mo_makeMaps 117 = .ok (.i2b, 1) := by decide +kernel
theorem d_Mo_makeMaps_118 : decode b_Mo_makeMaps 118 = .ok (.bastore, 1) := by decide +kernel
theorem d_Mo_makeMaps_119 : decode b_Mo_makeMaps 119 = .ok (.iinc 3 1, 3) := by decide +kernel
theorem d_Mo_makeMaps_122 : decode b_Mo_makeMaps 122 = .ok (.goto (-110), 3) := by decide +kernel
theorem d_Mo_makeMaps_125 : decode b_Mo_makeMaps 125 = .ok (.return_, 1) := by decide +kernel
theorem d_Mo_makeHead_0 : decode b_Mo_makeHead 0 = .ok (.sipush 1024, 3) := by decide +kernel
theorem d_Mo_makeHead_3 : decode b_Mo_makeHead 3 = .ok (.iconst 1, 1) := by decide +kernel
theorem d_Mo_makeHead_4 : decode b_Mo_makeHead 4 = .ok (.iload_n 1, 1) := by decide +kernel
theorem d_Mo_makeHead_5 : decode b_Mo_makeHead 5 = .ok (.aload_n 0, 1) := by decide +kernel
theorem d_Mo_makeHead_6 : decode b_Mo_makeHead 6 = .ok (.getfield 456, 3) := by decide +kernel
theorem d_Mo_makeHead_9 : decode b_Mo_makeHead 9 = .ok (.imul, 1) := by decide +kernel
theorem d_Mo_makeHead_10 : decode b_Mo_makeHead 10 = .ok (.iadd, 1) := by decide +kernel
theorem d_Mo_makeHead_11 : decode b_Mo_makeHead 11 = .ok (.imul, 1) := by decide +kernel
theorem d_Mo_makeHead_12 : decode b_Mo_makeHead 12 = .ok (.istore 4, 2) := by decide +kernel
theorem d_Mo_makeHead_14 : decode b_Mo_makeHead 14 = .ok (.aload_n 0, 1) := by decide +kernel
theorem d_Mo_makeHead_15 : decode b_Mo_makeHead 15 = .ok (.iload 4, 2) := by decide +kernel
theorem d_Mo_makeHead_17 : decode b_Mo_makeHead 17 = .ok (.iconst 4, 1) := by decide +kernel
theorem d_Mo_makeHead_18 : decode b_Mo_makeHead 18 = .ok (.aload_n 0, 1) := by decide +kernel
theorem d_Mo_makeHead_19 : decode b_Mo_makeHead 19 = .ok (.getfield 453, 3) := by decide +kernel
theorem d_Mo_makeHead_22 : decode b_Mo_makeHead 22 = .ok (.aload_n 0, 1) := by decide +kernel
theorem d_Mo_makeHead_23 : decode b_Mo_makeHead 23 = .ok (.getfield 495, 3) := by decide +kernel
theorem d_Mo_makeHead_26 : decode b_Mo_makeHead 26 = .ok (.imul, 1) := by decide +kernel
theorem d_Mo_makeHead_27 : decode b_Mo_makeHead 27 = .ok (.i2l, 1) := by decide +kernel
theorem d_Mo_makeHead_28 : decode b_Mo_makeHead 28 = .ok (.invokevirtual 522, 3) := by decide +kernel
theorem d_Mo_makeHead_31 : decode b_Mo_makeHead 31 = .ok (.aload_n 0, 1) := by decide +kernel
theorem d_Mo_makeHead_32 : decode b_Mo_makeHead 32 = .ok (.iload 4, 2) := by decide +kernel
theorem d_Mo_makeHead_34 : decode b_Mo_makeHead 34 = .ok (.iconst 4, 1) := by decide +kernel
theorem d_Mo_makeHead_35 : decode b_Mo_makeHead 35 = .ok (.iadd, 1) := by decide +kernel
theorem d_Mo_makeHead_36 : decode b_Mo_makeHead 36 = .ok (.iconst 4, 1) := by decide +kernel
theorem d_Mo_makeHead_37 : decode b_Mo_makeHead 37 = .ok (.aload_n 0, 1) := by decide +kernel
theorem d_Mo_makeHead_38 : decode b_Mo_makeHead 38 = .ok (.getfield 459, 3) := by decide +kernel
theorem d_Mo_makeHead_41 : decode b_Mo_makeHead 41 = .ok (.i2l, 1) := by decide +kernel
theorem d_Mo_makeHead_42 : decode b_Mo_makeHead 42 = .ok (.invokevirtual 522, 3) := by decide +kernel
theorem d_Mo_makeHead_45 : decode b_Mo_makeHead 45 = .ok (.aload_n 0, 1) := by decide +kernel
theorem d_Mo_makeHead_46 : decode b_Mo_makeHead 46 = .ok (.iload 4, 2) := by decide +kernel
theorem d_Mo_makeHead_48 : decode b_Mo_makeHead 48 = .ok (.bipush 12, 2) := by decide +kernel
theorem d_Mo_makeHead_50 : decode b_Mo_makeHead 50 = .ok (.iadd, 1) := by decide +kernel
theorem d_Mo_makeHead_51 : decode b_Mo_makeHead 51 = .ok (.iconst 4, 1) := by decide +kernel
theorem d_Mo_makeHead_52 : decode b_Mo_makeHead 52 = .ok (.lload_n 2, 1) := by decide +kernel
theorem d_Mo_makeHead_53 : decode b_Mo_makeHead 53 = .ok (.invokevirtual 522, 3) := by decide +kernel
theorem d_Mo_makeHead_56 : decode b_Mo_makeHead 56 = .ok (.aload_n 0, 1) := by decide +kernel
theorem d_Mo_makeHead_57 : decode b_Mo_makeHead 57 = .ok (.iload 4, 2) := by decide +kernel
theorem d_Mo_makeHead_59 : decode b_Mo_makeHead 59 = .ok (.bipush 16, 2) := by decide +kernel
theorem d_Mo_makeHead_61 : decode b_Mo_makeHead 61 = .ok (.iadd, 1) := by decide +kernel
theorem d_Mo_makeHead_62 : decode b_Mo_makeHead 62 = .ok (.iconst 4, 1) := by decide +kernel
theorem d_Mo_makeHead_63 : decode b_Mo_makeHead 63 = .ok (.aload_n 0, 1) := by decide +kernel
theorem d_Mo_makeHead_64 : decode b_Mo_makeHead 64 = .ok (.getfield 453, 3) := by decide +kernel
theorem d_Mo_makeHead_67 : decode b_Mo_makeHead 67 = .ok (.aload_n 0, 1) := by decide +kernel
theorem d_Mo_makeHead_68 : decode b_Mo_makeHead 68 = .ok (.getfield 495, 3) := by decide +kernel
theorem d_Mo_makeHead_71 : decode b_Mo_makeHead 71 = .ok (.imul, 1) := by decide +kernel
theorem d_Mo_makeHead_72 : decode b_Mo_makeHead 72 = .ok (.bipush 10, 2) := by decide +kernel
theorem d_Mo_makeHead_74 : decode b_Mo_makeHead 74 = .ok (.isub, 1) := by decide +kernel
theorem d_Mo_makeHead_75 : decode b_Mo_makeHead 75 = .ok (.aload_n 0, 1) := by decide +kernel
theorem d_Mo_makeHead_76 : decode b_Mo_makeHead 76 = .ok (.getfield 166, 3) := by decide +kernel
theorem d_Mo_makeHead_79 : decode b_Mo_makeHead 79 = .ok (.isub, 1) := by decide +kernel
theorem d_Mo_makeHead_80 : decode b_Mo_makeHead 80 = .ok (.i2l, 1) := by decide +kernel
theorem d_Mo_makeHead_81 : decode b_Mo_makeHead 81 = .ok (.invokevirtual 522, 3) := by decide +kernel
theorem d_Mo_makeHead_84 : decode b_Mo_makeHead 84 = .ok (.aload_n 0, 1) := by decide +kernel
theorem d_Mo_makeHead_85 : decode b_Mo_makeHead 85 = .ok (.iload 4, 2) := by decide +kernel
theorem d_Mo_makeHead_87 : decode b_Mo_makeHead 87 = .ok (.bipush 20, 2) := by decide +kernel
theorem d_Mo_makeHead_89 : decode b_Mo_makeHead 89 = .ok (.iadd, 1) := by decide +kernel
theorem d_Mo_makeHead_90 : decode b_Mo_makeHead 90 = .ok (.iconst 4, 1) := by decide +kernel
theorem d_Mo_makeHead_91 : decode b_Mo_makeHead 91 = .ok (.lconst 1, 1) := by decide +kernel
theorem d_Mo_makeHead_92 : decode b_Mo_makeHead 92 = .ok (.invokevirtual 522, 3) := by decide +kernel
theorem d_Mo_makeHead_95 : decode b_Mo_makeHead 95 = .ok (.aload_n 0, 1) := by decide +kernel
theorem d_Mo_makeHead_96 : decode b_Mo_makeHead 96 = .ok (.iload 4, 2) := by decide +kernel
theorem d_Mo_makeHead_98 : decode b_Mo_makeHead 98 = .ok (.bipush 32, 2) := by decide +kernel
theorem d_Mo_makeHead_100 : decode b_Mo_makeHead 100 = .ok (.iadd, 1) := by decide +kernel
theorem d_Mo_makeHead_101 : decode b_Mo_makeHead 101 = .ok (.iconst 4, 1) := by decide +kernel
theorem d_Mo_makeHead_102 : decode b_Mo_makeHead 102 = .ok (.aload_n 0, 1) := by decide +kernel
theorem d_Mo_makeHead_103 : decode b_Mo_makeHead 103 = .ok (.getfield 456, 3) := by decide +kernel
theorem d_Mo_makeHead_106 : decode b_Mo_makeHead 106 = .ok (.i2l, 1) := by decide +kernel
theorem d_Mo_makeHead_107 : decode b_Mo_makeHead 107 = .ok (.invokevirtual 522, 3) := by decide +kernel
theorem d_Mo_makeHead_110 : decode b_Mo_makeHead 110 = .ok (.aload_n 0, 1) := by decide +kernel
theorem d_Mo_makeHead_111 : decode b_Mo_makeHead 111 = .ok (.iload 4, 2) := by decide +kernel
theorem d_Mo_makeHead_113 : decode b_Mo_makeHead 113 = .ok (.bipush 36, 2) := by decide +kernel
theorem d_Mo_makeHead_115 : decode b_Mo_makeHead 115 = .ok (.iadd, 1) := by decide +kernel
theorem d_Mo_makeHead_116 : decode b_Mo_makeHead 116 = .ok (.iconst 4, 1) := by decide +kernel
theorem d_Mo_makeHead_117 : decode b_Mo_makeHead 117 = .ok (.aload_n 0, 1) := by decide +kernel
theorem d_Mo_makeHead_118 : decode b_Mo_makeHead 118 = .ok (.getfield 456, 3) := by decide +kernel
theorem d_Mo_makeHead_121 : decode b_Mo_makeHead 121 = .ok (.i2l, 1) := by decide +kernel
theorem d_Mo_makeHead_122 : decode b_Mo_makeHead 122 = .ok (.invokevirtual 522, 3) := by decide +kernel
theorem d_Mo_makeHead_125 : decode b_Mo_makeHead 125 = .ok (.aload_n 0, 1) := by decide +kernel
theorem d_Mo_makeHead_126 : decode b_Mo_makeHead 126 = .ok (.iload 4, 2) := by decide +kernel
theorem d_Mo_makeHead_128 : decode b_Mo_makeHead 128 = .ok (.bipush 40, 2) := by decide +kernel
theorem d_Mo_makeHead_130 : decode b_Mo_makeHead 130 = .ok (.iadd, 1) := by decide +kernel
theorem d_Mo_makeHead_131 : decode b_Mo_makeHead 131 = .ok (.iconst 4, 1) := by decide +kernel
theorem d_Mo_makeHead_132 : decode b_Mo_makeHead 132 = .ok (.aload_n 0, 1) := by decide +kernel
theorem d_Mo_makeHead_133 : decode b_Mo_makeHead 133 = .ok (.getfield 495, 3) := by decide +kernel
theorem d_Mo_makeHead_136 : decode b_Mo_makeHead 136 = .ok (.i2l, 1) := by decide +kernel
theorem d_Mo_makeHead_137 : decode b_Mo_makeHead 137 = .ok (.invokevirtual 522, 3) := by decide +kernel
theorem d_Mo_makeHead_140 : decode b_Mo_makeHead 140 = .ok (.aload_n 0, 1) := by decide +kernel
theorem d_Mo_makeHead_141 : decode b_Mo_makeHead 141 = .ok (.iload 4, 2) := by decide +kernel
theorem d_Mo_makeHead_143 : decode b_Mo_makeHead 143 = .ok (.bipush 54, 2) := by decide +kernel
theorem d_Mo_makeHead_145 : decode b_Mo_makeHead 145 = .ok (.iadd, 1) := by decide +kernel
theorem d_Mo_makeHead_146 : decode b_Mo_makeHead 146 = .ok (.iconst 2, 1) := by decide +kernel
theorem d_Mo_makeHead_147 : decode b_Mo_makeHead 147 = .ok (.ldc2_w 437, 3) := by decide +kernel
theorem d_Mo_makeHead_150 : decode b_Mo_makeHead 150 = .ok (.invokevirtual 522, 3) := by decide +kernel
theorem d_Mo_makeHead_153 : decode b_Mo_makeHead 153 = .ok (.aload_n 0, 1) := by decide +kernel
theorem d_Mo_makeHead_154 : decode b_Mo_makeHead 154 = .ok (.iload 4, 2) := by decide +kernel
theorem d_Mo_makeHead_156 : decode b_Mo_makeHead 156 = .ok (.bipush 56, 2) := by decide +kernel
theorem d_Mo_makeHead_158 : decode b_Mo_makeHead 158 = .ok (.iadd, 1) := by decide +kernel
theorem d_Mo_makeHead_159 : decode b_Mo_makeHead 159 = .ok (.iconst 2, 1) := by decide +kernel
theorem d_Mo_makeHead_160 : decode b_Mo_makeHead 160 = .ok (.ldc2_w 564, 3) := by decide +kernel
theorem d_Mo_makeHead_163 : decode b_Mo_makeHead 163 = .ok (.invokevirtual 522, 3) := by decide +kernel
theorem d_Mo_makeHead_166 : decode b_Mo_makeHead 166 = .ok (.aload_n 0, 1) := by decide +kernel
theorem d_Mo_makeHead_167 : decode b_Mo_makeHead 167 = .ok (.iload 4, 2) := by decide +kernel
theorem d_Mo_makeHead_169 : decode b_Mo_makeHead 169 = .ok (.bipush 58, 2) := by decide +kernel
theorem d_Mo_makeHead_171 : decode b_Mo_makeHead 171 = .ok (.iadd, 1) := by decide +kernel
theorem d_Mo_makeHead_172 : decode b_Mo_makeHead 172 = .ok (.iconst 2, 1) := by decide +kernel
theorem d_Mo_makeHead_173 : decode b_Mo_makeHead 173 = .ok (.lconst 1, 1) := by decide +kernel
theorem d_Mo_makeHead_174 : decode b_Mo_makeHead 174 = .ok (.invokevirtual 522, 3) := by decide +kernel
theorem d_Mo_makeHead_177 : decode b_Mo_makeHead 177 = .ok (.aload_n 0, 1) := by decide +kernel
theorem d_Mo_makeHead_178 : decode b_Mo_makeHead 178 = .ok (.iload 4, 2) := by decide +kernel
theorem d_Mo_makeHead_180 : decode b_Mo_makeHead 180 = .ok (.bipush 60, 2) := by decide +kernel
theorem d_Mo_makeHead_182 : decode b_Mo_makeHead 182 = .ok (.iadd, 1) := by decide +kernel
theorem d_Mo_makeHead_183 : decode b_Mo_makeHead 183 = .ok (.iconst 2, 1) := by decide +kernel
theorem d_Mo_makeHead_184 : decode b_Mo_makeHead 184 = .ok (.lconst 1, 1) := by decide +kernel
theorem d_Mo_makeHead_185 : decode b_Mo_makeHead 185 = .ok (.invokevirtual 522, 3) := by decide +kernel
theorem d_Mo_makeHead_188 : decode b_Mo_makeHead 188 = .ok (.aload_n 0, 1) := by decide +kernel
theorem d_Mo_makeHead_189 : decode b_Mo_makeHead 189 = .ok (.iload 4, 2) := by decide +kernel
theorem d_Mo_makeHead_191 : decode b_Mo_makeHead 191 = .ok (.bipush 76, 2) := by decide +kernel
theorem d_Mo_makeHead_193 : decode b_Mo_makeHead 193 = .ok (.iadd, 1) := by decide +kernel
theorem d_Mo_makeHead_194 : decode b_Mo_makeHead 194 = .ok (.iconst 4, 1) := by decide +kernel
theorem d_Mo_makeHead_195 : decode b_Mo_makeHead 195 = .ok (.lconst 1, 1) := by decide +kernel
theorem d_Mo_makeHead_196 : decode b_Mo_makeHead 196 = .ok (.invokevirtual 522, 3) := by decide +kernel
theorem d_Mo_makeHead_199 : decode b_Mo_makeHead 199 = .ok (.aload_n 0, 1) := by decide +kernel
theorem d_Mo_makeHead_200 : decode b_Mo_makeHead 200 = .ok (.iload 4, 2) := by decide +kernel
theorem d_Mo_makeHead_202 : decode b_Mo_makeHead 202 = .ok (.bipush 84, 2) := by decide +kernel
theorem d_Mo_makeHead_204 : decode b_Mo_makeHead 204 = .ok (.iadd, 1) := by decide +kernel
theorem d_Mo_makeHead_205 : decode b_Mo_makeHead 205 = .ok (.iconst 4, 1) := by decide +kernel
theorem d_Mo_makeHead_206 : decode b_Mo_makeHead 206 = .ok (.ldc2_w 566, 3) := by decide +kernel
theorem d_Mo_makeHead_209 : decode b_Mo_makeHead 209 = .ok (.invokevirtual 522, 3) := by decide +kernel
theorem d_Mo_makeHead_212 : decode b_Mo_makeHead 212 = .ok (.aload_n 0, 1) := by decide +kernel
theorem d_Mo_makeHead_213 : decode b_Mo_makeHead 213 = .ok (.iload 4, 2) := by decide +kernel
theorem d_Mo_makeHead_215 : decode b_Mo_makeHead 215 = .ok (.bipush 88, 2) := by decide +kernel
theorem d_Mo_makeHead_217 : decode b_Mo_makeHead 217 = .ok (.iadd, 1) := by decide +kernel
theorem d_Mo_makeHead_218 : decode b_Mo_makeHead 218 = .ok (.iconst 2, 1) := by decide +kernel
theorem d_Mo_makeHead_219 : decode b_Mo_makeHead 219 = .ok (.ldc2_w 568, 3) := by decide +kernel
theorem d_Mo_makeHead_222 : decode b_Mo_makeHead 222 = .ok (.invokevirtual 522, 3) := by decide +kernel
theorem d_Mo_makeHead_225 : decode b_Mo_makeHead 225 = .ok (.aload_n 0, 1) := by decide +kernel
theorem d_Mo_makeHead_226 : decode b_Mo_makeHead 226 = .ok (.iload 4, 2) := by decide +kernel
theorem d_Mo_makeHead_228 : decode b_Mo_makeHead 228 = .ok (.bipush 90, 2) := by decide +kernel
theorem d_Mo_makeHead_230 : decode b_Mo_makeHead 230 = .ok (.iadd, 1) := by decide +kernel
theorem d_Mo_makeHead_231 : decode b_Mo_makeHead 231 = .ok (.iconst 2, 1) := by decide +kernel
theorem d_Mo_makeHead_232 : decode b_Mo_makeHead 232 = .ok (.iload_n 1, 1) := by decide +kernel
theorem d_Mo_makeHead_233 : decode b_Mo_makeHead 233 = .ok (.i2l, 1) := by decide +kernel
theorem d_Mo_makeHead_234 : decode b_Mo_makeHead 234 = .ok (.invokevirtual 522, 3) := by decide +kernel
theorem d_Mo_makeHead_237 : decode b_Mo_makeHead 237 = .ok (.aload_n 0, 1) := by decide +kernel
theorem d_Mo_makeHead_238 : decode b_Mo_makeHead 238 = .ok (.iload 4, 2) := by decide +kernel
theorem d_Mo_makeHead_240 : decode b_Mo_makeHead 240 = .ok (.bipush 96, 2) := by decide +kernel
theorem d_Mo_makeHead_242 : decode b_Mo_makeHead 242 = .ok (.iadd, 1) := by decide +kernel
theorem d_Mo_makeHead_243 : decode b_Mo_makeHead 243 = .ok (.iconst 4, 1) := by decide +kernel
theorem d_Mo_makeHead_244 : decode b_Mo_makeHead 244 = .ok (.ldc2_w 323, 3) := by decide +kernel
theorem d_Mo_makeHead_247 : decode b_Mo_makeHead 247 = .ok (.invokevirtual 522, 3) := by decide +kernel
theorem d_Mo_makeHead_250 : decode b_Mo_makeHead 250 = .ok (.aload_n 0, 1) := by decide +kernel
theorem d_Mo_makeHead_251 : decode b_Mo_makeHead 251 = .ok (.iload 4, 2) := by decide +kernel
theorem d_Mo_makeHead_253 : decode b_Mo_makeHead 253 = .ok (.bipush 104, 2) := by decide +kernel
theorem d_Mo_makeHead_255 : decode b_Mo_makeHead 255 = .ok (.iadd, 1) := by decide +kernel
theorem d_Mo_makeHead_256 : decode b_Mo_makeHead 256 = .ok (.iconst 4, 1) := by decide +kernel
theorem d_Mo_makeHead_257 : decode b_Mo_makeHead 257 = .ok (.aload_n 0, 1) := by decide +kernel
theorem d_Mo_makeHead_258 : decode b_Mo_makeHead 258 = .ok (.bipush 67, 2) := by decide +kernel
theorem d_Mo_makeHead_260 : decode b_Mo_makeHead 260 = .ok (.invokevirtual 120, 3) := by decide +kernel
theorem d_Mo_makeHead_263 : decode b_Mo_makeHead 263 = .ok (.i2l, 1) := by decide +kernel
theorem d_Mo_makeHead_264 : decode b_Mo_makeHead 264 = .ok (.invokevirtual 522, 3) := by decide +kernel
theorem d_Mo_makeHead_267 : decode b_Mo_makeHead 267 = .ok (.aload_n 0, 1) := by decide +kernel
theorem d_Mo_makeHead_268 : decode b_Mo_makeHead 268 = .ok (.getfield 172, 3) := by decide +kernel
theorem d_Mo_makeHead_271 : decode b_Mo_makeHead 271 = .ok (.ifCond .ge 7, 3) := by decide +kernel
theorem d_Mo_makeHead_274 : decode b_Mo_makeHead 274 = .ok (.iconst 0, 1) := by decide +kernel
theorem d_Mo_makeHead_275 : decode b_Mo_makeHead 275 = .ok (.goto 5, 3) := by decide +kernel
theorem d_Mo_makeHead_278 : decode b_Mo_makeHead 278 = .ok (.bipush 11, 2) := by decide +kernel
theorem d_Mo_makeHead_280 : decode b_Mo_makeHead 280 = .ok (.istore 5, 2) := by decide +kernel
theorem d_Mo_makeHead_282 : decode b_Mo_makeHead 282 = .ok (.iload 5, 2) := by decide +kernel
theorem d_Mo_makeHead_284 : decode b_Mo_makeHead 284 = .ok (.ifCond .le 27, 3) := by decide +kernel
theorem d_Mo_makeHead_287 : decode b_Mo_makeHead 287 = .ok (.aload_n 0, 1) := by decide +kernel
theorem d_Mo_makeHead_288 : decode b_Mo_makeHead 288 = .ok (.aload_n 0, 1) := by decide +kernel
theorem d_Mo_makeHead_289 : decode b_Mo_makeHead 289 = .ok (.getfield 172, 3) := by decide +kernel
theorem d_Mo_makeHead_292 : decode b_Mo_makeHead 292 = .ok (.iload 5, 2) := by decide +kernel
theorem d_Mo_makeHead_294 : decode b_Mo_makeHead 294 = .ok (.iadd, 1) := by decide +kernel
theorem d_Mo_makeHead_295 : decode b_Mo_makeHead 295 = .ok (.iconst 1, 1) := by decide +kernel
theorem d_Mo_makeHead_296 : decode b_Mo_makeHead 296 = .ok (.isub, 1) := by decide +kernel
theorem d_Mo_makeHead_297 : decode b_Mo_makeHead 297 = .ok (.invokevirtual 103, 3) := by decide +kernel
theorem d_Mo_makeHead_300 : decode b_Mo_makeHead 300 = .ok (.bipush 32, 2) := by decide +kernel
theorem d_Mo_makeHead_302 : decode b_Mo_makeHead 302 = .ok (.if_icmp .ne 9, 3) := by decide +kernel
theorem d_Mo_makeHead_305 : decode b_Mo_makeHead 305 = .ok (.iinc 5 (-1), 3) := by decide +kernel
theorem d_Mo_makeHead_308 : decode b_Mo_makeHead 308 = .ok (.goto (-26), 3) := by decide +kernel
theorem d_Mo_makeHead_311 : decode b_Mo_makeHead 311 = .ok (.iconst 0, 1) := by decide +kernel
theorem d_Mo_makeHead_312 : decode b_Mo_makeHead 312 = .ok (.istore 6, 2) := by decide +kernel
theorem d_Mo_makeHead_314 : decode b_Mo_makeHead 314 = .ok (.iload 6, 2) := by decide +kernel
theorem d_Mo_makeHead_316 : decode b_Mo_makeHead 316 = .ok (.iload 5, 2) := by decide +kernel
theorem d_Mo_makeHead_318 : decode b_Mo_makeHead 318 = .ok (.if_icmp .ge 34, 3) := by decide +kernel
theorem d_Mo_makeHead_321 : decode b_Mo_makeHead 321 = .ok (.aload_n 0, 1) := by decide +kernel
theorem d_Mo_makeHead_322 : decode b_Mo_makeHead 322 = .ok (.getfield 14, 3) := by decide +kernel
theorem d_Mo_makeHead_325 : decode b_Mo_makeHead 325 = .ok (.iload 4, 2) := by decide +kernel
theorem d_Mo_makeHead_327 : decode b_Mo_makeHead 327 = .ok (.bipush 120, 2) := by decide +kernel
theorem d_Mo_makeHead_329 : decode b_Mo_makeHead 329 = .ok (.iadd, 1) := by decide +kernel
theorem d_Mo_makeHead_330 : decode b_Mo_makeHead 330 = .ok (.iload 6, 2) := by decide +kernel
theorem d_Mo_makeHead_332 : decode b_Mo_makeHead 332 = .ok (.iadd, 1) := by decide +kernel
theorem d_Mo_makeHead_333 : decode b_Mo_makeHead 333 = .ok (.aload_n 0, 1) := by decide +kernel
theorem d_Mo_makeHead_334 : decode b_Mo_makeHead 334 = .ok (.getfield 8, 3) := by decide +kernel
theorem d_Mo_makeHead_337 : decode b_Mo_makeHead 337 = .ok (.aload_n 0, 1) := by decide +kernel
theorem d_Mo_makeHead_338 : decode b_Mo_makeHead 338 = .ok (.getfield 172, 3) := by decide +kernel
theorem d_Mo_makeHead_341 : decode b_Mo_makeHead 341 = .ok (.iload 6, 2) := by decide +kernel
theorem d_Mo_makeHead_343 : decode b_Mo_makeHead 343 = .ok (.iadd, 1) := by decide +kernel
theorem d_Mo_makeHead_344 : decode b_Mo_makeHead 344 = .ok (.baload, 1) := by decide +kernel
theorem d_Mo_makeHead_345 : decode b_Mo_makeHead 345 = .ok (.bastore, 1) := by decide +kernel
theorem d_Mo_makeHead_346 : decode b_Mo_makeHead 346 = .ok (.iinc 6 1, 3) := by decide +kernel
theorem d_Mo_makeHead_349 : decode b_Mo_makeHead 349 = .ok (.goto (-35), 3) := by decide +kernel
theorem d_Mo_makeHead_352 : decode b_Mo_makeHead 352 = .ok (.iconst 0, 1) := by decide +kernel
theorem d_Mo_makeHead_353 : decode b_Mo_makeHead 353 = .ok (.istore 6, 2) := by decide +kernel
theorem d_Mo_makeHead_355 : decode b_Mo_makeHead 355 = .ok (.iload 6, 2) := by decide +kernel
theorem d_Mo_makeHead_357 : decode b_Mo_makeHead 357 = .ok (.aload_n 0, 1) := by decide +kernel
theorem d_Mo_makeHead_358 : decode b_Mo_makeHead 358 = .ok (.getfield 453, 3) := by decide +kernel
theorem d_Mo_makeHead_361 : decode b_Mo_makeHead 361 = .ok (.if_icmp .ge 125, 3) := by decide +kernel
theorem d_Mo_makeHead_364 : decode b_Mo_makeHead 364 = .ok (.iload 4, 2) := by decide +kernel
theorem d_Mo_makeHead_366 : decode b_Mo_makeHead 366 = .ok (.sipush 1024, 3) := by decide +kernel
theorem d_Mo_makeHead_369 : decode b_Mo_makeHead 369 = .ok (.iadd, 1) := by decide +kernel
theorem d_Mo_makeHead_370 : decode b_Mo_makeHead 370 = .ok (.bipush 32, 2) := by decide +kernel
theorem d_Mo_makeHead_372 : decode b_Mo_makeHead 372 = .ok (.iload 6, 2) := by decide +kernel
theorem d_Mo_makeHead_374 : decode b_Mo_makeHead 374 = .ok (.imul, 1) := by decide +kernel
theorem d_Mo_makeHead_375 : decode b_Mo_makeHead 375 = .ok (.iadd, 1) := by decide +kernel
theorem d_Mo_makeHead_376 : decode b_Mo_makeHead 376 = .ok (.istore 7, 2) := by decide +kernel
theorem d_Mo_makeHead_378 : decode b_Mo_makeHead 378 = .ok (.aload_n 0, 1) := by decide +kernel
theorem d_Mo_makeHead_379 : decode b_Mo_makeHead 379 = .ok (.iload 7, 2) := by decide +kernel
theorem d_Mo_makeHead_381 : decode b_Mo_makeHead 381 = .ok (.iconst 4, 1) := by decide +kernel
theorem d_Mo_makeHead_382 : decode b_Mo_makeHead 382 = .ok (.aload_n 0, 1) := by decide +kernel
theorem d_Mo_makeHead_383 : decode b_Mo_makeHead 383 = .ok (.iload 6, 2) := by decide +kernel
theorem d_Mo_makeHead_385 : decode b_Mo_makeHead 385 = .ok (.invokevirtual 468, 3) := by decide +kernel
theorem d_Mo_makeHead_388 : decode b_Mo_makeHead 388 = .ok (.i2l, 1) := by decide +kernel
theorem d_Mo_makeHead_389 : decode b_Mo_makeHead 389 = .ok (.invokevirtual 522, 3) := by decide +kernel
theorem d_Mo_makeHead_392 : decode b_Mo_makeHead 392 = .ok (.aload_n 0, 1) := by decide +kernel
theorem d_Mo_makeHead_393 : decode b_Mo_makeHead 393 = .ok (.iload 7, 2) := by decide +kernel
theorem d_Mo_makeHead_395 : decode b_Mo_makeHead 395 = .ok (.iconst 4, 1) := by decide +kernel
theorem d_Mo_makeHead_396 : decode b_Mo_makeHead 396 = .ok (.iadd, 1) := by decide +kernel
theorem d_Mo_makeHead_397 : decode b_Mo_makeHead 397 = .ok (.iconst 4, 1) := by decide +kernel
theorem d_Mo_makeHead_398 : decode b_Mo_makeHead 398 = .ok (.aload_n 0, 1) := by decide +kernel
theorem d_Mo_makeHead_399 : decode b_Mo_makeHead 399 = .ok (.iload 6, 2) := by decide +kernel
theorem d_Mo_makeHead_401 : decode b_Mo_makeHead 401 = .ok (.invokevirtual 468, 3) := by decide +kernel
theorem d_Mo_makeHead_404 : decode b_Mo_makeHead 404 = .ok (.iconst 1, 1) := by decide +kernel
theorem d_Mo_makeHead_405 : decode b_Mo_makeHead 405 = .ok (.iadd, 1) := by decide +kernel
theorem d_Mo_makeHead_406 : decode b_Mo_makeHead 406 = .ok (.i2l, 1) := by decide +kernel
theorem d_Mo_makeHead_407 : decode b_Mo_makeHead 407 = .ok (.invokevirtual 522, 3) := by decide +kernel
theorem d_Mo_makeHead_410 : decode b_Mo_makeHead 410 = .ok (.aload_n 0, 1) := by decide +kernel
theorem d_Mo_makeHead_411 : decode b_Mo_makeHead 411 = .ok (.iload 7, 2) := by decide +kernel
theorem d_Mo_makeHead_413 : decode b_Mo_makeHead 413 = .ok (.bipush 8, 2) := by decide +kernel
theorem d_Mo_makeHead_415 : decode b_Mo_makeHead 415 = .ok (.iadd, 1) := by decide +kernel
theorem d_Mo_makeHead_416 : decode b_Mo_makeHead 416 = .ok (.iconst 4, 1) := by decide +kernel
theorem d_Mo_makeHead_417 : decode b_Mo_makeHead 417 = .ok (.aload_n 0, 1) := by decide +kernel
theorem d_Mo_makeHead_418 : decode b_Mo_makeHead 418 = .ok (.iload 6, 2) := by decide +kernel
theorem d_Mo_makeHead_420 : decode b_Mo_makeHead 420 = .ok (.invokevirtual 468, 3) := by decide +kernel
theorem d_Mo_makeHead_423 : decode b_Mo_makeHead 423 = .ok (.iconst 2, 1) := by decide +kernel
theorem d_Mo_makeHead_424 : decode b_Mo_makeHead 424 = .ok (.iadd, 1) := by decide +kernel
theorem d_Mo_makeHead_425 : decode b_Mo_makeHead 425 = .ok (.i2l, 1) := by decide +kernel
theorem d_Mo_makeHead_426 : decode b_Mo_makeHead 426 = .ok (.invokevirtual 522, 3) := by decide +kernel
theorem d_Mo_makeHead_429 : decode b_Mo_makeHead 429 = .ok (.aload_n 0, 1) := by decide +kernel
theorem d_Mo_makeHead_430 : decode b_Mo_makeHead 430 = .ok (.iload 7, 2) := by decide +kernel
theorem d_Mo_makeHead_432 : decode b_Mo_makeHead 432 = .ok (.bipush 12, 2) := by decide +kernel
theorem d_Mo_makeHead_434 : decode b_Mo_makeHead 434 = .ok (.iadd, 1) := by decide +kernel
theorem d_Mo_makeHead_435 : decode b_Mo_makeHead 435 = .ok (.iconst 2, 1) := by decide +kernel
theorem d_Mo_makeHead_436 : decode b_Mo_makeHead 436 = .ok (.aload_n 0, 1) := by decide +kernel
theorem d_Mo_makeHead_437 : decode b_Mo_makeHead 437 = .ok (.iload 6, 2) := by decide +kernel
theorem d_Mo_makeHead_439 : decode b_Mo_makeHead 439 = .ok (.invokevirtual 570, 3) := by decide +kernel
theorem d_Mo_makeHead_442 : decode b_Mo_makeHead 442 = .ok (.i2l, 1) := by decide +kernel
theorem d_Mo_makeHead_443 : decode b_Mo_makeHead 443 = .ok (.invokevirtual 522, 3) := by decide +kernel
theorem d_Mo_makeHead_446 : decode b_Mo_makeHead 446 = .ok (.aload_n 0, 1) := by decide +kernel
theorem d_Mo_makeHead_447 : decode b_Mo_makeHead 447 = .ok (.iload 7, 2) := by decide +kernel
theorem d_Mo_makeHead_449 : decode b_Mo_makeHead 449 = .ok (.bipush 14, 2) := by decide +kernel
theorem d_Mo_makeHead_451 : decode b_Mo_makeHead 451 = .ok (.iadd, 1) := by decide +kernel
theorem d_Mo_makeHead_452 : decode b_Mo_makeHead 452 = .ok (.iconst 2, 1) := by decide +kernel
theorem d_Mo_makeHead_453 : decode b_Mo_makeHead 453 = .ok (.aload_n 0, 1) := by decide +kernel
theorem d_Mo_makeHead_454 : decode b_Mo_makeHead 454 = .ok (.iload 6, 2) := by decide +kernel
theorem d_Mo_makeHead_456 : decode b_Mo_makeHead 456 = .ok (.invokevirtual 573, 3) := by decide +kernel
theorem d_Mo_makeHead_459 : decode b_Mo_makeHead 459 = .ok (.i2l, 1) := by decide +kernel
theorem d_Mo_makeHead_460 : decode b_Mo_makeHead 460 = .ok (.invokevirtual 522, 3) := by decide +kernel
theorem d_Mo_makeHead_463 : decode b_Mo_makeHead 463 = .ok (.aload_n 0, 1) := by decide +kernel
theorem d_Mo_makeHead_464 : decode b_Mo_makeHead 464 = .ok (.iload 7, 2) := by decide +kernel
theorem d_Mo_makeHead_466 : decode b_Mo_makeHead 466 = .ok (.bipush 16, 2) := by decide +kernel
theorem d_Mo_makeHead_468 : decode b_Mo_makeHead 468 = .ok (.iadd, 1) := by decide +kernel
theorem d_Mo_makeHead_469 : decode b_Mo_makeHead 469 = .ok (.iconst 2, 1) := by decide +kernel
theorem d_Mo_makeHead_470 : decode b_Mo_makeHead 470 = .ok (.aload_n 0, 1) := by decide +kernel
theorem d_Mo_makeHead_471 : decode b_Mo_makeHead 471 = .ok (.iload 6, 2) := by decide +kernel
theorem d_Mo_makeHead_473 : decode b_Mo_makeHead 473 = .ok (.invokevirtual 576, 3) := by decide +kernel
theorem d_Mo_makeHead_476 : decode b_Mo_makeHead 476 = .ok (.i2l, 1) := by decide +kernel
theorem d_Mo_makeHead_477 : decode b_Mo_makeHead 477 = .ok (.invokevirtual 522, 3) := by decide +kernel
theorem d_Mo_makeHead_480 : decode b_Mo_makeHead 480 = .ok (.iinc 6 1, 3) := by decide +kernel
theorem d_Mo_makeHead_483 : decode b_Mo_makeHead 483 = .ok (.goto (-128), 3) := by decide +kernel
theorem d_Mo_makeHead_486 : decode b_Mo_makeHead 486 = .ok (.return_, 1) := by decide +kernel
theorem d_Mo_turn_0 : decode b_Mo_turn 0 = .ok (.iconst 0, 1) := by decide +kernel
theorem d_Mo_turn_1 : decode b_Mo_turn 1 = .ok (.istore_n 1, 1) := by decide +kernel
theorem d_Mo_turn_2 : decode b_Mo_turn 2 = .ok (.iload_n 1, 1) := by decide +kernel
theorem d_Mo_turn_3 : decode b_Mo_turn 3 = .ok (.ldc 7, 2) := by decide +kernel
theorem d_Mo_turn_5 : decode b_Mo_turn 5 = .ok (.if_icmp .ge 16, 3) := by decide +kernel
theorem d_Mo_turn_8 : decode b_Mo_turn 8 = .ok (.aload_n 0, 1) := by decide +kernel
theorem d_Mo_turn_9 : decode b_Mo_turn 9 = .ok (.getfield 14, 3) := by decide +kernel
theorem d_Mo_turn_12 : decode b_Mo_turn 12 = .ok (.iload_n 1, 1) := by decide +kernel
theorem d_Mo_turn_13 : decode b_Mo_turn 13 = .ok (.iconst 0, 1) := by decide +kernel
theorem d_Mo_turn_14 : decode b_Mo_turn 14 = .ok (.bastore, 1) := by decide +kernel
theorem d_Mo_turn_15 : decode b_Mo_turn 15 = .ok (.iinc 1 1, 3) := by decide +kernel
theorem d_Mo_turn_18 : decode b_Mo_turn 18 = .ok (.goto (-16), 3) := by decide +kernel
theorem d_Mo_turn_21 : decode b_Mo_turn 21 = .ok (.iconst 0, 1) := by decide +kernel
theorem d_Mo_turn_22 : decode b_Mo_turn 22 = .ok (.istore_n 1, 1) := by decide +kernel
theorem d_Mo_turn_23 : decode b_Mo_turn 23 = .ok (.iload_n 1, 1) := by decide +kernel
theorem d_Mo_turn_24 : decode b_Mo_turn 24 = .ok (.sipush 512, 3) := by decide +kernel
theorem d_Mo_turn_27 : decode b_Mo_turn 27 = .ok (.if_icmp .ge 37, 3) := by decide +kernel
theorem d_Mo_turn_30 : decode b_Mo_turn 30 = .ok (.aload_n 0, 1) := by decide +kernel
theorem d_Mo_turn_31 : decode b_Mo_turn 31 = .ok (.getfield 78, 3) := by decide +kernel
theorem d_Mo_turn_34 : decode b_Mo_turn 34 = .ok (.iload_n 1, 1) := by decide +kernel
theorem d_Mo_turn_35 : decode b_Mo_turn 35 = .ok (.iload_n 1, 1) := by decide +kernel
theorem d_Mo_turn_36 : decode b_Mo_turn 36 = .ok (.aload_n 0, 1) := by decide +kernel
theorem d_Mo_turn_37 : decode b_Mo_turn 37 = .ok (.getfield 459, 3) := by decide +kernel
theorem d_Mo_turn_40 : decode b_Mo_turn 40 = .ok (.if_icmp .ge 16, 3) := by decide +kernel
theorem d_Mo_turn_43 : decode b_Mo_turn 43 = .ok (.aload_n 0, 1) := by decide +kernel
theorem d_Mo_turn_44 : decode b_Mo_turn 44 = .ok (.getfield 75, 3) := by decide +kernel
theorem d_Mo_turn_47 : decode b_Mo_turn 47 = .ok (.iload_n 1, 1) := by decide +kernel
theorem d_Mo_turn_48 : decode b_Mo_turn 48 = .ok (.baload, 1) := by decide +kernel
theorem d_Mo_turn_49 : decode b_Mo_turn 49 = .ok (.ifCond .eq 7, 3) := by decide +kernel
theorem d_Mo_turn_52 : decode b_Mo_turn 52 = .ok (.iconst 1, 1) := by decide +kernel
theorem d_Mo_turn_53 : decode b_Mo_turn 53 = .ok (.goto 4, 3) := by decide +kernel
theorem d_Mo_turn_56 : decode b_Mo_turn 56 = .ok (.iconst 0, 1) := by decide +kernel
theorem d_Mo_turn_57 : decode b_Mo_turn 57 = .ok (.bastore, 1) := by decide +kernel
theorem d_Mo_turn_58 : decode b_Mo_turn 58 = .ok (.iinc 1 1, 3) := by decide +kernel
theorem d_Mo_turn_61 : decode b_Mo_turn 61 = .ok (.goto (-38), 3) := by decide +kernel
theorem d_Mo_turn_64 : decode b_Mo_turn 64 = .ok (.aload_n 0, 1) := by decide +kernel
theorem d_Mo_turn_65 : decode b_Mo_turn 65 = .ok (.iconst 0, 1) := by decide +kernel
theorem d_Mo_turn_66 : decode b_Mo_turn 66 = .ok (.putfield 513, 3) := by decide +kernel
theorem d_Mo_turn_69 : decode b_Mo_turn 69 = .ok (.aload_n 0, 1) := by decide +kernel
theorem d_Mo_turn_70 : decode b_Mo_turn 70 = .ok (.invokevirtual 579, 3) := by decide +kernel
theorem d_Mo_turn_73 : decode b_Mo_turn 73 = .ok (.iconst 0, 1) := by decide +kernel
theorem d_Mo_turn_74 : decode b_Mo_turn 74 = .ok (.istore_n 1, 1) := by decide +kernel
theorem d_Mo_turn_75 : decode b_Mo_turn 75 = .ok (.iload_n 1, 1) := by decide +kernel
theorem d_Mo_turn_76 : decode b_Mo_turn 76 = .ok (.aload_n 0, 1) := by decide +kernel
theorem d_Mo_turn_77 : decode b_Mo_turn 77 = .ok (.getfield 166, 3) := by decide +kernel
theorem d_Mo_turn_80 : decode b_Mo_turn 80 = .ok (.if_icmp .ge 22, 3) := by decide +kernel
theorem d_Mo_turn_83 : decode b_Mo_turn 83 = .ok (.aload_n 0, 1) := by decide +kernel
theorem d_Mo_turn_84 : decode b_Mo_turn 84 = .ok (.iload_n 1, 1) := by decide +kernel
theorem d_Mo_turn_85 : decode b_Mo_turn 85 = .ok (.invokevirtual 185, 3) := by decide +kernel
theorem d_Mo_turn_88 : decode b_Mo_turn 88 = .ok (.ifCond .eq 8, 3) := by decide +kernel
theorem d_Mo_turn_91 : decode b_Mo_turn 91 = .ok (.aload_n 0, 1) := by decide +kernel
theorem d_Mo_turn_92 : decode b_Mo_turn 92 = .ok (.iload_n 1, 1) := by decide +kernel
theorem d_Mo_turn_93 : decode b_Mo_turn 93 = .ok (.invokevirtual 582, 3) := by decide +kernel
theorem d_Mo_turn_96 : decode b_Mo_turn 96 = .ok (.iinc 1 1, 3) := by decide +kernel
theorem d_Mo_turn_99 : decode b_Mo_turn 99 = .ok (.goto (-24), 3) := by decide +kernel
theorem d_Mo_turn_102 : decode b_Mo_turn 102 = .ok (.iconst 0, 1) := by decide +kernel
theorem d_Mo_turn_103 : decode b_Mo_turn 103 = .ok (.istore_n 1, 1) := by decide +kernel
theorem d_Mo_turn_104 : decode b_Mo_turn 104 = .ok (.iload_n 1, 1) := by decide +kernel
theorem d_Mo_turn_105 : decode b_Mo_turn 105 = .ok (.aload_n 0, 1) := by decide +kernel
theorem d_Mo_turn_106 : decode b_Mo_turn 106 = .ok (.getfield 166, 3) := by decide +kernel
theorem d_Mo_turn_109 : decode b_Mo_turn 109 = .ok (.if_icmp .ge 22, 3) := by decide +kernel
theorem d_Mo_turn_112 : decode b_Mo_turn 112 = .ok (.aload_n 0, 1) := by decide +kernel
theorem d_Mo_turn_113 : decode b_Mo_turn 113 = .ok (.iload_n 1, 1) := by decide +kernel
theorem d_Mo_turn_114 : decode b_Mo_turn 114 = .ok (.invokevirtual 185, 3) := by decide +kernel
theorem d_Mo_turn_117 : decode b_Mo_turn 117 = .ok (.ifCond .ne 8, 3) := by decide +kernel
theorem d_Mo_turn_120 : decode b_Mo_turn 120 = .ok (.aload_n 0, 1) := by decide +kernel
theorem d_Mo_turn_121 : decode b_Mo_turn 121 = .ok (.iload_n 1, 1) := by decide +kernel
theorem d_Mo_turn_122 : decode b_Mo_turn 122 = .ok (.invokevirtual 585, 3) := by decide +kernel
theorem d_Mo_turn_125 : decode b_Mo_turn 125 = .ok (.iinc 1 1, 3) := by decide +kernel
theorem d_Mo_turn_128 : decode b_Mo_turn 128 = .ok (.goto (-24), 3) := by decide +kernel
theorem d_Mo_turn_131 : decode b_Mo_turn 131 = .ok (.lconst 0, 1) := by decide +kernel
theorem d_Mo_turn_132 : decode b_Mo_turn 132 = .ok (.lstore_n 1, 1) := by decide +kernel
theorem d_Mo_turn_133 : decode b_Mo_turn 133 = .ok (.iconst 0, 1) := by decide +kernel
theorem d_Mo_turn_134 : decode b_Mo_turn 134 = .ok (.istore_n 3, 1) := by decide +kernel
theorem d_Mo_turn_135 : decode b_Mo_turn 135 = .ok (.iload_n 3, 1) := by decide +kernel
theorem d_Mo_turn_136 : decode b_Mo_turn 136 = .ok (.aload_n 0, 1) := by decide +kernel
theorem d_Mo_turn_137 : decode b_Mo_turn 137 = .ok (.getfield 453, 3) := by decide +kernel
theorem d_Mo_turn_140 : decode b_Mo_turn 140 = .ok (.if_icmp .ge 18, 3) := by decide +kernel
theorem d_Mo_turn_143 : decode b_Mo_turn 143 = .ok (.lload_n 1, 1) := by decide +kernel
theorem d_Mo_turn_144 : decode b_Mo_turn 144 = .ok (.aload_n 0, 1) := by decide +kernel
theorem d_Mo_turn_145 : decode b_Mo_turn 145 = .ok (.iload_n 3, 1) := by decide +kernel
theorem d_Mo_turn_146 : decode b_Mo_turn 146 = .ok (.invokevirtual 570, 3) := by decide +kernel
theorem d_Mo_turn_149 : decode b_Mo_turn 149 = .ok (.i2l, 1) := by decide +kernel
theorem d_Mo_turn_150 : decode b_Mo_turn 150 = .ok (.ladd, 1) := by decide +kernel
theorem d_Mo_turn_151 : decode b_Mo_turn 151 = .ok (.lstore_n 1, 1) := by decide +kernel
theorem d_Mo_turn_152 : decode b_Mo_turn 152 = .ok (.iinc 3 1, 3) := by decide +kernel
theorem d_Mo_turn_155 : decode b_Mo_turn 155 = .ok (.goto (-20), 3) := by decide +kernel
theorem d_Mo_turn_158 : decode b_Mo_turn 158 = .ok (.iconst 0, 1) := by decide +kernel
theorem d_Mo_turn_159 : decode b_Mo_turn 159 = .ok (.istore_n 3, 1) := by decide +kernel
theorem d_Mo_turn_160 : decode b_Mo_turn 160 = .ok (.iload_n 3, 1) := by decide +kernel
theorem d_Mo_turn_161 : decode b_Mo_turn 161 = .ok (.aload_n 0, 1) := by decide +kernel
theorem d_Mo_turn_162 : decode b_Mo_turn 162 = .ok (.getfield 453, 3) := by decide +kernel
theorem d_Mo_turn_165 : decode b_Mo_turn 165 = .ok (.if_icmp .ge 20, 3) := by decide +kernel
theorem d_Mo_turn_168 : decode b_Mo_turn 168 = .ok (.aload_n 0, 1) := by decide +kernel
theorem d_Mo_turn_169 : decode b_Mo_turn 169 = .ok (.iload_n 3, 1) := by decide +kernel
theorem d_Mo_turn_170 : decode b_Mo_turn 170 = .ok (.invokevirtual 588, 3) := by decide +kernel
theorem d_Mo_turn_173 : decode b_Mo_turn 173 = .ok (.aload_n 0, 1) := by decide +kernel
theorem d_Mo_turn_174 : decode b_Mo_turn 174 = .ok (.iload_n 3, 1) := by decide +kernel
theorem d_Mo_turn_175 : decode b_Mo_turn 175 = .ok (.lload_n 1, 1) := by decide +kernel
theorem d_Mo_turn_176 : decode b_Mo_turn 176 = .ok (.invokevirtual 591, 3) := by decide +kernel
theorem d_Mo_turn_179 : decode b_Mo_turn 179 = .ok (.iinc 3 1, 3) := by decide +kernel
theorem d_Mo_turn_182 : decode b_Mo_turn 182 = .ok (.goto (-22), 3) := by decide +kernel
theorem d_Mo_turn_185 : decode b_Mo_turn 185 = .ok (.aload_n 0, 1) := by decide +kernel
theorem d_Mo_turn_186 : decode b_Mo_turn 186 = .ok (.iconst 1, 1) := by decide +kernel
theorem d_Mo_turn_187 : decode b_Mo_turn 187 = .ok (.putfield 302, 3) := by decide +kernel
theorem d_Mo_turn_190 : decode b_Mo_turn 190 = .ok (.return_, 1) := by decide +kernel
