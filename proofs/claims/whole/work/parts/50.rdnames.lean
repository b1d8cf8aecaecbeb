abbrev b_Rd_init : ByteArray := prog_7_method_1_code
def y_Rd_init : MethodName := ⟨R_Rd, "<init>", "(LVolumeTurner$Disk;LVolumeTurner$Table;LVolumeTurner$Tree;)V"⟩
theorem d_Rd_init_0 : decode b_Rd_init 0 = .ok (.aload_n 0, 1) := by decide +kernel
theorem d_Rd_init_1 : decode b_Rd_init 1 = .ok (.invokespecial 3, 3) := by decide +kernel
theorem d_Rd_init_4 : decode b_Rd_init 4 = .ok (.aload_n 0, 1) := by decide +kernel
theorem d_Rd_init_5 : decode b_Rd_init 5 = .ok (.sipush 260, 3) := by decide +kernel
theorem d_Rd_init_8 : decode b_Rd_init 8 = .ok (.newarray .int, 2) := by decide +kernel
theorem d_Rd_init_10 : decode b_Rd_init 10 = .ok (.putfield 9, 3) := by decide +kernel
theorem d_Rd_init_13 : decode b_Rd_init 13 = .ok (.aload_n 0, 1) := by decide +kernel
theorem d_Rd_init_14 : decode b_Rd_init 14 = .ok (.iconst 0, 1) := by decide +kernel
theorem d_Rd_init_15 : decode b_Rd_init 15 = .ok (.putfield 15, 3) := by decide +kernel
theorem d_Rd_init_18 : decode b_Rd_init 18 = .ok (.aload_n 0, 1) := by decide +kernel
theorem d_Rd_init_19 : decode b_Rd_init 19 = .ok (.iconst 0, 1) := by decide +kernel
theorem d_Rd_init_20 : decode b_Rd_init 20 = .ok (.putfield 19, 3) := by decide +kernel
theorem d_Rd_init_23 : decode b_Rd_init 23 = .ok (.aload_n 0, 1) := by decide +kernel
theorem d_Rd_init_24 : decode b_Rd_init 24 = .ok (.iconst 0, 1) := by decide +kernel
theorem d_Rd_init_25 : decode b_Rd_init 25 = .ok (.putfield 22, 3) := by decide +kernel
theorem d_Rd_init_28 : decode b_Rd_init 28 = .ok (.aload_n 0, 1) := by decide +kernel
theorem d_Rd_init_29 : decode b_Rd_init 29 = .ok (.aload_n 1, 1) := by decide +kernel
theorem d_Rd_init_30 : decode b_Rd_init 30 = .ok (.putfield 25, 3) := by decide +kernel
theorem d_Rd_init_33 : decode b_Rd_init 33 = .ok (.aload_n 0, 1) := by decide +kernel
theorem d_Rd_init_34 : decode b_Rd_init 34 = .ok (.aload_n 2, 1) := by decide +kernel
theorem d_Rd_init_35 : decode b_Rd_init 35 = .ok (.putfield 29, 3) := by decide +kernel
theorem d_Rd_init_38 : decode b_Rd_init 38 = .ok (.aload_n 0, 1) := by decide +kernel
theorem d_Rd_init_39 : decode b_Rd_init 39 = .ok (.aload_n 3, 1) := by decide +kernel
theorem d_Rd_init_40 : decode b_Rd_init 40 = .ok (.putfield 33, 3) := by decide +kernel
theorem d_Rd_init_43 : decode b_Rd_init 43 = .ok (.aload_n 0, 1) := by decide +kernel
theorem d_Rd_init_44 : decode b_Rd_init 44 = .ok (.aload_n 2, 1) := by decide +kernel
theorem d_Rd_init_45 : decode b_Rd_init 45 = .ok (.invokevirtual 37, 3) := by decide +kernel
theorem d_Rd_init_48 : decode b_Rd_init 48 = .ok (.newarray .boolean, 2) := by decide +kernel
theorem d_Rd_init_50 : decode b_Rd_init 50 = .ok (.putfield 43, 3) := by decide +kernel
theorem d_Rd_init_53 : decode b_Rd_init 53 = .ok (.aload_n 0, 1) := by decide +kernel
theorem d_Rd_init_54 : decode b_Rd_init 54 = .ok (.aload_n 2, 1) := by decide +kernel
theorem d_Rd_init_55 : decode b_Rd_init 55 = .ok (.invokevirtual 37, 3) := by decide +kernel
theorem d_Rd_init_58 : decode b_Rd_init 58 = .ok (.newarray .int, 2) := by decide +kernel
theorem d_Rd_init_60 : decode b_Rd_init 60 = .ok (.putfield 47, 3) := by decide +kernel
theorem d_Rd_init_63 : decode b_Rd_init 63 = .ok (.aload_n 0, 1) := by decide +kernel
theorem d_Rd_init_64 : decode b_Rd_init 64 = .ok (.aload_n 2, 1) := by decide +kernel
theorem d_Rd_init_65 : decode b_Rd_init 65 = .ok (.invokevirtual 37, 3) := by decide +kernel
theorem d_Rd_init_68 : decode b_Rd_init 68 = .ok (.newarray .int, 2) := by decide +kernel
theorem d_Rd_init_70 : decode b_Rd_init 70 = .ok (.putfield 50, 3) := by decide +kernel
theorem d_Rd_init_73 : decode b_Rd_init 73 = .ok (.return_, 1) := by decide +kernel
abbrev cb_Rd_scan : ByteArray := prog_7_method_2_code
def y_Rd_scan : MethodName := ⟨R_Rd, "scan", "(Z)I"⟩
theorem d_Rd_scan_0 : decode cb_Rd_scan 0 = .ok (.aload_n 0, 1) := by decide +kernel
theorem d_Rd_scan_1 : decode cb_Rd_scan 1 = .ok (.getfield 29, 3) := by decide +kernel
theorem d_Rd_scan_4 : decode cb_Rd_scan 4 = .ok (.invokevirtual 53, 3) := by decide +kernel
theorem d_Rd_scan_7 : decode cb_Rd_scan 7 = .ok (.ifCond .ne 5, 3) := by decide +kernel
theorem d_Rd_scan_10 : decode cb_Rd_scan 10 = .ok (.iconst 1, 1) := by decide +kernel
theorem d_Rd_scan_11 : decode cb_Rd_scan 11 = .ok (.ireturn, 1) := by decide +kernel
theorem d_Rd_scan_12 : decode cb_Rd_scan 12 = .ok (.aload_n 0, 1) := by decide +kernel
theorem d_Rd_scan_13 : decode cb_Rd_scan 13 = .ok (.getfield 29, 3) := by decide +kernel
theorem d_Rd_scan_16 : decode cb_Rd_scan 16 = .ok (.invokevirtual 57, 3) := by decide +kernel
theorem d_Rd_scan_19 : decode cb_Rd_scan 19 = .ok (.ifCond .ne 5, 3) := by decide +kernel
theorem d_Rd_scan_22 : decode cb_Rd_scan 22 = .ok (.iconst 2, 1) := by decide +kernel
theorem d_Rd_scan_23 : decode cb_Rd_scan 23 = .ok (.ireturn, 1) := by decide +kernel
theorem d_Rd_scan_24 : decode cb_Rd_scan 24 = .ok (.iconst 0, 1) := by decide +kernel
theorem d_Rd_scan_25 : decode cb_Rd_scan 25 = .ok (.istore_n 2, 1) := by decide +kernel
theorem d_Rd_scan_26 : decode cb_Rd_scan 26 = .ok (.iload_n 2, 1) := by decide +kernel
theorem d_Rd_scan_27 : decode cb_Rd_scan 27 = .ok (.aload_n 0, 1) := by decide +kernel
theorem d_Rd_scan_28 : decode cb_Rd_scan 28 = .ok (.getfield 43, 3) := by decide +kernel
theorem d_Rd_scan_31 : decode cb_Rd_scan 31 = .ok (.arraylength, 1) := by decide +kernel
theorem d_Rd_scan_32 : decode cb_Rd_scan 32 = .ok (.if_icmp .ge 16, 3) := by decide +kernel
theorem d_Rd_scan_35 : decode cb_Rd_scan 35 = .ok (.aload_n 0, 1) := by decide +kernel
theorem d_Rd_scan_36 : decode cb_Rd_scan 36 = .ok (.getfield 43, 3) := by decide +kernel
theorem d_Rd_scan_39 : decode cb_Rd_scan 39 = .ok (.iload_n 2, 1) := by decide +kernel
theorem d_Rd_scan_40 : decode cb_Rd_scan 40 = .ok (.iconst 0, 1) := by decide +kernel
theorem d_Rd_scan_41 : decode cb_Rd_scan 41 = .ok (.bastore, 1) := by decide +kernel
theorem d_Rd_scan_42 : decode cb_Rd_scan 42 = .ok (.iinc 2 1, 3) := by decide +kernel
theorem d_Rd_scan_45 : decode cb_Rd_scan 45 = .ok (.goto (-19), 3) := by decide +kernel
theorem d_Rd_scan_48 : decode cb_Rd_scan 48 = .ok (.aload_n 0, 1) := by decide +kernel
theorem d_Rd_scan_49 : decode cb_Rd_scan 49 = .ok (.getfield 33, 3) := by decide +kernel
theorem d_Rd_scan_52 : decode cb_Rd_scan 52 = .ok (.aload_n 0, 1) := by decide +kernel
theorem d_Rd_scan_53 : decode cb_Rd_scan 53 = .ok (.getfield 29, 3) := by decide +kernel
theorem d_Rd_scan_56 : decode cb_Rd_scan 56 = .ok (.getfield 60, 3) := by decide +kernel
theorem d_Rd_scan_59 : decode cb_Rd_scan 59 = .ok (.invokevirtual 63, 3) := by decide +kernel
theorem d_Rd_scan_62 : decode cb_Rd_scan 62 = .ok (.iconst 0, 1) := by decide +kernel
theorem d_Rd_scan_63 : decode cb_Rd_scan 63 = .ok (.istore_n 2, 1) := by decide +kernel
theorem d_Rd_scan_64 : decode cb_Rd_scan 64 = .ok (.iload_n 2, 1) := by decide +kernel
theorem d_Rd_scan_65 : decode cb_Rd_scan 65 = .ok (.ldc 69, 2) := by decide +kernel
theorem d_Rd_scan_67 : decode cb_Rd_scan 67 = .ok (.if_icmp .ge 48, 3) := by decide +kernel
theorem d_Rd_scan_70 : decode cb_Rd_scan 70 = .ok (.iload_n 2, 1) := by decide +kernel
theorem d_Rd_scan_71 : decode cb_Rd_scan 71 = .ok (.aload_n 0, 1) := by decide +kernel
theorem d_Rd_scan_72 : decode cb_Rd_scan 72 = .ok (.getfield 33, 3) := by decide +kernel
theorem d_Rd_scan_75 : decode cb_Rd_scan 75 = .ok (.getfield 70, 3) := by decide +kernel
theorem d_Rd_scan_78 : decode cb_Rd_scan 78 = .ok (.if_icmp .ge 37, 3) := by decide +kernel
theorem d_Rd_scan_81 : decode cb_Rd_scan 81 = .ok (.aload_n 0, 1) := by decide +kernel
theorem d_Rd_scan_82 : decode cb_Rd_scan 82 = .ok (.getfield 33, 3) := by decide +kernel
theorem d_Rd_scan_85 : decode cb_Rd_scan 85 = .ok (.iload_n 2, 1) := by decide +kernel
theorem d_Rd_scan_86 : decode cb_Rd_scan 86 = .ok (.invokevirtual 73, 3) := by decide +kernel
theorem d_Rd_scan_89 : decode cb_Rd_scan 89 = .ok (.ifCond .eq 12, 3) := by decide +kernel
theorem d_Rd_scan_92 : decode cb_Rd_scan 92 = .ok (.aload_n 0, 1) := by decide +kernel
theorem d_Rd_scan_93 : decode cb_Rd_scan 93 = .ok (.iload_n 2, 1) := by decide +kernel
theorem d_Rd_scan_94 : decode cb_Rd_scan 94 = .ok (.iload_n 1, 1) := by decide +kernel
theorem d_Rd_scan_95 : decode cb_Rd_scan 95 = .ok (.invokevirtual 77, 3) := by decide +kernel
theorem d_Rd_scan_98 : decode cb_Rd_scan 98 = .ok (.goto 4, 3) := by decide +kernel
theorem d_Rd_scan_101 : decode cb_Rd_scan 101 = .ok (.iconst 0, 1) := by decide +kernel
theorem d_Rd_scan_102 : decode cb_Rd_scan 102 = .ok (.istore_n 3, 1) := by decide +kernel
theorem d_Rd_scan_103 : decode cb_Rd_scan 103 = .ok (.iload_n 3, 1) := by decide +kernel
theorem d_Rd_scan_104 : decode cb_Rd_scan 104 = .ok (.ifCond .eq 5, 3) := by decide +kernel
theorem d_Rd_scan_107 : decode cb_Rd_scan 107 = .ok (.iload_n 3, 1) := by decide +kernel
theorem d_Rd_scan_108 : decode cb_Rd_scan 108 = .ok (.ireturn, 1) := by decide +kernel
theorem d_Rd_scan_109 : decode cb_Rd_scan 109 = .ok (.iinc 2 1, 3) := by decide +kernel
theorem d_Rd_scan_112 : decode cb_Rd_scan 112 = .ok (.goto (-48), 3) := by decide +kernel
theorem d_Rd_scan_115 : decode cb_Rd_scan 115 = .ok (.aload_n 0, 1) := by decide +kernel
theorem d_Rd_scan_116 : decode cb_Rd_scan 116 = .ok (.invokevirtual 81, 3) := by decide +kernel
theorem d_Rd_scan_119 : decode cb_Rd_scan 119 = .ok (.ifCond .eq 8, 3) := by decide +kernel
theorem d_Rd_scan_122 : decode cb_Rd_scan 122 = .ok (.bipush 6, 2) := by decide +kernel
theorem d_Rd_scan_124 : decode cb_Rd_scan 124 = .ok (.goto 4, 3) := by decide +kernel
theorem d_Rd_scan_127 : decode cb_Rd_scan 127 = .ok (.iconst 0, 1) := by decide +kernel
theorem d_Rd_scan_128 : decode cb_Rd_scan 128 = .ok (.ireturn, 1) := by decide +kernel
abbrev cb_Rd_hasStrays : ByteArray := prog_7_method_3_code
def y_Rd_hasStrays : MethodName := ⟨R_Rd, "hasStrays", "()Z"⟩
abbrev b_Rd_follow : ByteArray := prog_7_method_4_code
def y_Rd_follow : MethodName := ⟨R_Rd, "follow", "(I[I)I"⟩
abbrev cb_Rd_readDirectory : ByteArray := prog_7_method_5_code
def y_Rd_readDirectory : MethodName := ⟨R_Rd, "readDirectory", "(IZ)I"⟩
abbrev cb_Rd_isDots : ByteArray := prog_7_method_6_code
def y_Rd_isDots : MethodName := ⟨R_Rd, "isDots", "(III)Z"⟩
abbrev cb_Rd_firstCluster : ByteArray := prog_7_method_7_code
def y_Rd_firstCluster : MethodName := ⟨R_Rd, "firstCluster", "(I)I"⟩
abbrev cb_Rd_readPart : ByteArray := prog_7_method_8_code
def y_Rd_readPart : MethodName := ⟨R_Rd, "readPart", "(I)Z"⟩
abbrev cb_Rd_readEntry : ByteArray := prog_7_method_9_code
def y_Rd_readEntry : MethodName := ⟨R_Rd, "readEntry", "(III)I"⟩
abbrev cb_Rd_bitsFit : ByteArray := prog_7_method_10_code
def y_Rd_bitsFit : MethodName := ⟨R_Rd, "bitsFit", "(II)Z"⟩
abbrev cb_Rd_showShortName : ByteArray := prog_7_method_11_code
def y_Rd_showShortName : MethodName := ⟨R_Rd, "showShortName", "(I)I"⟩
abbrev cb_Rd_closeParts : ByteArray := prog_7_method_12_code
def y_Rd_closeParts : MethodName := ⟨R_Rd, "closeParts", "(I)I"⟩
abbrev cb_Rd_hasTwin : ByteArray := prog_7_method_13_code
def y_Rd_hasTwin : MethodName := ⟨R_Rd, "hasTwin", "(III)Z"⟩
abbrev cb_Rd_sameShortName : ByteArray := prog_7_method_14_code
def y_Rd_sameShortName : MethodName := ⟨R_Rd, "sameShortName", "(II)Z"⟩
abbrev cb_Rd_followFile : ByteArray := prog_7_method_15_code
def y_Rd_followFile : MethodName := ⟨R_Rd, "followFile", "(IJ)Z"⟩
abbrev b_Rd_unitPlace : ByteArray := prog_7_method_16_code
def y_Rd_unitPlace : MethodName := ⟨R_Rd, "unitPlace", "(I)I"⟩
def K_Rd : List Cond := [(.initialized "VolumeTurner$Reader"), (.fieldLink "VolumeTurner$Reader" 60 "VolumeTurner$Table" "root" "I"), (.fieldLink "VolumeTurner$Reader" 84 "VolumeTurner$Table" "clusters" "I"), (.fieldLink "VolumeTurner$Reader" 70 "VolumeTurner$Tree" "count" "I"), (.fieldLink "VolumeTurner$Reader" 162 "VolumeTurner$Tree" "label" "I"), (.instantiable "VolumeTurner$Reader" 10), (.instanceMethod y_Rd_init), (.code y_Rd_init prog_7_method_1_code 4 none), (.methodLink "VolumeTurner$Reader" 3 objectInit), (.methodLink "VolumeTurner$Reader" 37 y_Tb_behind), (.fieldLink "VolumeTurner$Reader" 25 "VolumeTurner$Reader" "disk" "LVolumeTurner$Disk;"), (.fieldLink "VolumeTurner$Reader" 29 "VolumeTurner$Reader" "table" "LVolumeTurner$Table;"), (.fieldLink "VolumeTurner$Reader" 33 "VolumeTurner$Reader" "tree" "LVolumeTurner$Tree;"), (.fieldLink "VolumeTurner$Reader" 43 "VolumeTurner$Reader" "taken" "[Z"), (.fieldLink "VolumeTurner$Reader" 47 "VolumeTurner$Reader" "road" "[I"), (.fieldLink "VolumeTurner$Reader" 50 "VolumeTurner$Reader" "fileRoad" "[I"), (.fieldLink "VolumeTurner$Reader" 9 "VolumeTurner$Reader" "units" "[I"), (.fieldLink "VolumeTurner$Reader" 15 "VolumeTurner$Reader" "parts" "I"), (.fieldLink "VolumeTurner$Reader" 19 "VolumeTurner$Reader" "toCome" "I"), (.fieldLink "VolumeTurner$Reader" 22 "VolumeTurner$Reader" "sum" "I"), (.instanceMethod y_Rd_scan), (.selects "VolumeTurner$Reader" y_Rd_scan y_Rd_scan), (.code y_Rd_scan prog_7_method_2_code 4 (some .int)), (.methodLink "VolumeTurner$Reader" 53 y_Tb_read), (.methodLink "VolumeTurner$Reader" 57 y_Tb_entriesFit), (.methodLink "VolumeTurner$Reader" 63 y_Tr_startWith), (.constant "VolumeTurner$Reader" 69 (1000000 : Int32)), (.methodLink "VolumeTurner$Reader" 73 y_Tr_isDirectory), (.methodLink "VolumeTurner$Reader" 77 y_Rd_readDirectory), (.instanceMethod y_Rd_readDirectory), (.code y_Rd_readDirectory prog_7_method_5_code 8 (some .int)), (.methodLink "VolumeTurner$Reader" 95 y_Tr_firstOf), (.methodLink "VolumeTurner$Reader" 98 y_Rd_follow), (.instanceMethod y_Rd_follow), (.code y_Rd_follow prog_7_method_4_code 5 (some .int)), (.methodLink "VolumeTurner$Reader" 90 y_Tb_nextOf), (.constant "VolumeTurner$Reader" 94 (268435448 : Int32)), (.methodLink "VolumeTurner$Reader" 102 y_Tb_goalOf), (.methodLink "VolumeTurner$Reader" 105 y_Tr_beginKids), (.methodLink "VolumeTurner$Reader" 108 y_Tb_slotsOfCluster), (.methodLink "VolumeTurner$Reader" 111 y_Tb_slotPlace), (.methodLink "VolumeTurner$Reader" 115 y_Dk_one), (.methodLink "VolumeTurner$Reader" 120 y_Rd_isDots), (.instanceMethod y_Rd_isDots), (.code y_Rd_isDots prog_7_method_6_code 6 (some .boolean)), (.methodLink "VolumeTurner$Reader" 134 y_Tr_parentOf), (.methodLink "VolumeTurner$Reader" 137 y_Rd_firstCluster), (.instanceMethod y_Rd_firstCluster), (.code y_Rd_firstCluster prog_7_method_7_code 2 (some .int)), (.methodLink "VolumeTurner$Reader" 140 y_Dk_two), (.methodLink "VolumeTurner$Reader" 124 y_Rd_readPart), (.instanceMethod y_Rd_readPart), (.code y_Rd_readPart prog_7_method_8_code 4 (some .boolean)), (.methodLink "VolumeTurner$Reader" 143 y_Rd_unitPlace), (.static y_Rd_unitPlace), (.code y_Rd_unitPlace prog_7_method_16_code 1 (some .int)), (.methodLink "VolumeTurner$Reader" 127 y_Rd_readEntry), (.instanceMethod y_Rd_readEntry), (.code y_Rd_readEntry prog_7_method_9_code 9 (some .int)), (.methodLink "VolumeTurner$Reader" 146 y_Rd_bitsFit), (.instanceMethod y_Rd_bitsFit), (.code y_Rd_bitsFit prog_7_method_10_code 5 (some .boolean)), (.methodLink "VolumeTurner$Reader" 186 y_Dk_four), (.methodLink "VolumeTurner$Reader" 150 y_Wo_isShortName), (.methodLink "VolumeTurner$Reader" 156 y_Da_fit), (.methodLink "VolumeTurner$Reader" 165 y_Rd_showShortName), (.instanceMethod y_Rd_showShortName), (.code y_Rd_showShortName prog_7_method_11_code 5 (some .int)), (.methodLink "VolumeTurner$Reader" 168 y_Rd_closeParts), (.instanceMethod y_Rd_closeParts), (.code y_Rd_closeParts prog_7_method_12_code 5 (some .int)), (.methodLink "VolumeTurner$Reader" 195 y_Wo_sum), (.constant "VolumeTurner$Reader" 198 (65535 : Int32)), (.methodLink "VolumeTurner$Reader" 199 y_Wo_isName), (.methodLink "VolumeTurner$Reader" 171 y_Rd_hasTwin), (.instanceMethod y_Rd_hasTwin), (.code y_Rd_hasTwin prog_7_method_13_code 5 (some .boolean)), (.methodLink "VolumeTurner$Reader" 203 y_Tr_kid), (.methodLink "VolumeTurner$Reader" 206 y_Tr_spotOf), (.methodLink "VolumeTurner$Reader" 209 y_Rd_sameShortName), (.instanceMethod y_Rd_sameShortName), (.code y_Rd_sameShortName prog_7_method_14_code 4 (some .boolean)), (.methodLink "VolumeTurner$Reader" 212 y_Tr_isNamed), (.methodLink "VolumeTurner$Reader" 174 y_Tr_addItem), (.methodLink "VolumeTurner$Reader" 178 y_Tr_nameLast), (.methodLink "VolumeTurner$Reader" 182 y_Tr_place), (.constantLong "VolumeTurner$Reader" 189 (4294967295 : Int64)), (.methodLink "VolumeTurner$Reader" 191 y_Rd_followFile), (.instanceMethod y_Rd_followFile), (.code y_Rd_followFile prog_7_method_15_code 6 (some .boolean)), (.methodLink "VolumeTurner$Reader" 216 y_Tb_clusterBytes), (.methodLink "VolumeTurner$Reader" 219 y_Tr_setSize), (.methodLink "VolumeTurner$Reader" 131 y_Tr_endKids), (.methodLink "VolumeTurner$Reader" 81 y_Rd_hasStrays), (.instanceMethod y_Rd_hasStrays), (.code y_Rd_hasStrays prog_7_method_3_code 2 (some .boolean)), (.methodLink "VolumeTurner$Reader" 87 y_Tb_isFree), (.selects "VolumeTurner$Reader" y_Rd_hasStrays y_Rd_hasStrays), (.selects "VolumeTurner$Reader" y_Rd_follow y_Rd_follow), (.selects "VolumeTurner$Reader" y_Rd_readDirectory y_Rd_readDirectory), (.selects "VolumeTurner$Reader" y_Rd_isDots y_Rd_isDots), (.selects "VolumeTurner$Reader" y_Rd_firstCluster y_Rd_firstCluster), (.selects "VolumeTurner$Reader" y_Rd_readPart y_Rd_readPart), (.selects "VolumeTurner$Reader" y_Rd_readEntry y_Rd_readEntry), (.selects "VolumeTurner$Reader" y_Rd_bitsFit y_Rd_bitsFit), (.selects "VolumeTurner$Reader" y_Rd_showShortName y_Rd_showShortName), (.selects "VolumeTurner$Reader" y_Rd_closeParts y_Rd_closeParts), (.selects "VolumeTurner$Reader" y_Rd_hasTwin y_Rd_hasTwin), (.selects "VolumeTurner$Reader" y_Rd_sameShortName y_Rd_sameShortName), (.selects "VolumeTurner$Reader" y_Rd_followFile y_Rd_followFile)]
theorem j_Rd_0 : (.initialized "VolumeTurner$Reader") ∈ K_Rd := List.mem_of_getElem? (i := 0) rfl
theorem j_Rd_1 : (.fieldLink "VolumeTurner$Reader" 60 "VolumeTurner$Table" "root" "I") ∈ K_Rd := List.mem_of_getElem? (i := 1) rfl
theorem j_Rd_2 : (.fieldLink "VolumeTurner$Reader" 84 "VolumeTurner$Table" "clusters" "I") ∈ K_Rd := List.mem_of_getElem? (i := 2) rfl
theorem j_Rd_3 : (.fieldLink "VolumeTurner$Reader" 70 "VolumeTurner$Tree" "count" "I") ∈ K_Rd := List.mem_of_getElem? (i := 3) rfl
theorem j_Rd_4 : (.fieldLink "VolumeTurner$Reader" 162 "VolumeTurner$Tree" "label" "I") ∈ K_Rd := List.mem_of_getElem? (i := 4) rfl
theorem j_Rd_5 : (.instantiable "VolumeTurner$Reader" 10) ∈ K_Rd := List.mem_of_getElem? (i := 5) rfl
theorem j_Rd_6 : (.instanceMethod y_Rd_init) ∈ K_Rd := List.mem_of_getElem? (i := 6) rfl
theorem j_Rd_7 : (.code y_Rd_init prog_7_method_1_code 4 none) ∈ K_Rd := List.mem_of_getElem? (i := 7) rfl
theorem j_Rd_8 : (.methodLink "VolumeTurner$Reader" 3 objectInit) ∈ K_Rd := List.mem_of_getElem? (i := 8) rfl
theorem j_Rd_9 : (.methodLink "VolumeTurner$Reader" 37 y_Tb_behind) ∈ K_Rd := List.mem_of_getElem? (i := 9) rfl
theorem j_Rd_10 : (.fieldLink "VolumeTurner$Reader" 25 "VolumeTurner$Reader" "disk" "LVolumeTurner$Disk;") ∈ K_Rd := List.mem_of_getElem? (i := 10) rfl
theorem j_Rd_11 : (.fieldLink "VolumeTurner$Reader" 29 "VolumeTurner$Reader" "table" "LVolumeTurner$Table;") ∈ K_Rd := List.mem_of_getElem? (i := 11) rfl
theorem j_Rd_12 : (.fieldLink "VolumeTurner$Reader" 33 "VolumeTurner$Reader" "tree" "LVolumeTurner$Tree;") ∈ K_Rd := List.mem_of_getElem? (i := 12) rfl
theorem j_Rd_13 : (.fieldLink "VolumeTurner$Reader" 43 "VolumeTurner$Reader" "taken" "[Z") ∈ K_Rd := List.mem_of_getElem? (i := 13) rfl
theorem j_Rd_14 : (.fieldLink "VolumeTurner$Reader" 47 "VolumeTurner$Reader" "road" "[I") ∈ K_Rd := List.mem_of_getElem? (i := 14) rfl
theorem j_Rd_15 : (.fieldLink "VolumeTurner$Reader" 50 "VolumeTurner$Reader" "fileRoad" "[I") ∈ K_Rd := List.mem_of_getElem? (i := 15) rfl
theorem j_Rd_16 : (.fieldLink "VolumeTurner$Reader" 9 "VolumeTurner$Reader" "units" "[I") ∈ K_Rd := List.mem_of_getElem? (i := 16) rfl
theorem j_Rd_17 : (.fieldLink "VolumeTurner$Reader" 15 "VolumeTurner$Reader" "parts" "I") ∈ K_Rd := List.mem_of_getElem? (i := 17) rfl
theorem j_Rd_18 : (.fieldLink "VolumeTurner$Reader" 19 "VolumeTurner$Reader" "toCome" "I") ∈ K_Rd := List.mem_of_getElem? (i := 18) rfl
theorem j_Rd_19 : (.fieldLink "VolumeTurner$Reader" 22 "VolumeTurner$Reader" "sum" "I") ∈ K_Rd := List.mem_of_getElem? (i := 19) rfl
theorem j_Rd_20 : (.instanceMethod y_Rd_scan) ∈ K_Rd := List.mem_of_getElem? (i := 20) rfl
theorem j_Rd_21 : (.selects "VolumeTurner$Reader" y_Rd_scan y_Rd_scan) ∈ K_Rd := List.mem_of_getElem? (i := 21) rfl
theorem j_Rd_22 : (.code y_Rd_scan prog_7_method_2_code 4 (some .int)) ∈ K_Rd := List.mem_of_getElem? (i := 22) rfl
theorem j_Rd_23 : (.methodLink "VolumeTurner$Reader" 53 y_Tb_read) ∈ K_Rd := List.mem_of_getElem? (i := 23) rfl
theorem j_Rd_24 : (.methodLink "VolumeTurner$Reader" 57 y_Tb_entriesFit) ∈ K_Rd := List.mem_of_getElem? (i := 24) rfl
theorem j_Rd_25 : (.methodLink "VolumeTurner$Reader" 63 y_Tr_startWith) ∈ K_Rd := List.mem_of_getElem? (i := 25) rfl
theorem j_Rd_26 : (.constant "VolumeTurner$Reader" 69 (1000000 : Int32)) ∈ K_Rd := List.mem_of_getElem? (i := 26) rfl
theorem j_Rd_27 : (.methodLink "VolumeTurner$Reader" 73 y_Tr_isDirectory) ∈ K_Rd := List.mem_of_getElem? (i := 27) rfl
theorem j_Rd_28 : (.methodLink "VolumeTurner$Reader" 77 y_Rd_readDirectory) ∈ K_Rd := List.mem_of_getElem? (i := 28) rfl
theorem j_Rd_29 : (.instanceMethod y_Rd_readDirectory) ∈ K_Rd := List.mem_of_getElem? (i := 29) rfl
theorem j_Rd_30 : (.code y_Rd_readDirectory prog_7_method_5_code 8 (some .int)) ∈ K_Rd := List.mem_of_getElem? (i := 30) rfl
theorem j_Rd_31 : (.methodLink "VolumeTurner$Reader" 95 y_Tr_firstOf) ∈ K_Rd := List.mem_of_getElem? (i := 31) rfl
theorem j_Rd_32 : (.methodLink "VolumeTurner$Reader" 98 y_Rd_follow) ∈ K_Rd := List.mem_of_getElem? (i := 32) rfl
theorem j_Rd_33 : (.instanceMethod y_Rd_follow) ∈ K_Rd := List.mem_of_getElem? (i := 33) rfl
theorem j_Rd_34 : (.code y_Rd_follow prog_7_method_4_code 5 (some .int)) ∈ K_Rd := List.mem_of_getElem? (i := 34) rfl
theorem j_Rd_35 : (.methodLink "VolumeTurner$Reader" 90 y_Tb_nextOf) ∈ K_Rd := List.mem_of_getElem? (i := 35) rfl
theorem j_Rd_36 : (.constant "VolumeTurner$Reader" 94 (268435448 : Int32)) ∈ K_Rd := List.mem_of_getElem? (i := 36) rfl
theorem j_Rd_37 : (.methodLink "VolumeTurner$Reader" 102 y_Tb_goalOf) ∈ K_Rd := List.mem_of_getElem? (i := 37) rfl
theorem j_Rd_38 : (.methodLink "VolumeTurner$Reader" 105 y_Tr_beginKids) ∈ K_Rd := List.mem_of_getElem? (i := 38) rfl
theorem j_Rd_39 : (.methodLink "VolumeTurner$Reader" 108 y_Tb_slotsOfCluster) ∈ K_Rd := List.mem_of_getElem? (i := 39) rfl
theorem j_Rd_40 : (.methodLink "VolumeTurner$Reader" 111 y_Tb_slotPlace) ∈ K_Rd := List.mem_of_getElem? (i := 40) rfl
theorem j_Rd_41 : (.methodLink "VolumeTurner$Reader" 115 y_Dk_one) ∈ K_Rd := List.mem_of_getElem? (i := 41) rfl
theorem j_Rd_42 : (.methodLink "VolumeTurner$Reader" 120 y_Rd_isDots) ∈ K_Rd := List.mem_of_getElem? (i := 42) rfl
theorem j_Rd_43 : (.instanceMethod y_Rd_isDots) ∈ K_Rd := List.mem_of_getElem? (i := 43) rfl
theorem j_Rd_44 : (.code y_Rd_isDots prog_7_method_6_code 6 (some .boolean)) ∈ K_Rd := List.mem_of_getElem? (i := 44) rfl
theorem j_Rd_45 : (.methodLink "VolumeTurner$Reader" 134 y_Tr_parentOf) ∈ K_Rd := List.mem_of_getElem? (i := 45) rfl
theorem j_Rd_46 : (.methodLink "VolumeTurner$Reader" 137 y_Rd_firstCluster) ∈ K_Rd := List.mem_of_getElem? (i := 46) rfl
theorem j_Rd_47 : (.instanceMethod y_Rd_firstCluster) ∈ K_Rd := List.mem_of_getElem? (i := 47) rfl
theorem j_Rd_48 : (.code y_Rd_firstCluster prog_7_method_7_code 2 (some .int)) ∈ K_Rd := List.mem_of_getElem? (i := 48) rfl
theorem j_Rd_49 : (.methodLink "VolumeTurner$Reader" 140 y_Dk_two) ∈ K_Rd := List.mem_of_getElem? (i := 49) rfl
theorem j_Rd_50 : (.methodLink "VolumeTurner$Reader" 124 y_Rd_readPart) ∈ K_Rd := List.mem_of_getElem? (i := 50) rfl
theorem j_Rd_51 : (.instanceMethod y_Rd_readPart) ∈ K_Rd := List.mem_of_getElem? (i := 51) rfl
theorem j_Rd_52 : (.code y_Rd_readPart prog_7_method_8_code 4 (some .boolean)) ∈ K_Rd := List.mem_of_getElem? (i := 52) rfl
theorem j_Rd_53 : (.methodLink "VolumeTurner$Reader" 143 y_Rd_unitPlace) ∈ K_Rd := List.mem_of_getElem? (i := 53) rfl
theorem j_Rd_54 : (.static y_Rd_unitPlace) ∈ K_Rd := List.mem_of_getElem? (i := 54) rfl
theorem j_Rd_55 : (.code y_Rd_unitPlace prog_7_method_16_code 1 (some .int)) ∈ K_Rd := List.mem_of_getElem? (i := 55) rfl
theorem j_Rd_56 : (.methodLink "VolumeTurner$Reader" 127 y_Rd_readEntry) ∈ K_Rd := List.mem_of_getElem? (i := 56) rfl
theorem j_Rd_57 : (.instanceMethod y_Rd_readEntry) ∈ K_Rd := List.mem_of_getElem? (i := 57) rfl
theorem j_Rd_58 : (.code y_Rd_readEntry prog_7_method_9_code 9 (some .int)) ∈ K_Rd := List.mem_of_getElem? (i := 58) rfl
theorem j_Rd_59 : (.methodLink "VolumeTurner$Reader" 146 y_Rd_bitsFit) ∈ K_Rd := List.mem_of_getElem? (i := 59) rfl
theorem j_Rd_60 : (.instanceMethod y_Rd_bitsFit) ∈ K_Rd := List.mem_of_getElem? (i := 60) rfl
theorem j_Rd_61 : (.code y_Rd_bitsFit prog_7_method_10_code 5 (some .boolean)) ∈ K_Rd := List.mem_of_getElem? (i := 61) rfl
theorem j_Rd_62 : (.methodLink "VolumeTurner$Reader" 186 y_Dk_four) ∈ K_Rd := List.mem_of_getElem? (i := 62) rfl
theorem j_Rd_63 : (.methodLink "VolumeTurner$Reader" 150 y_Wo_isShortName) ∈ K_Rd := List.mem_of_getElem? (i := 63) rfl
theorem j_Rd_64 : (.methodLink "VolumeTurner$Reader" 156 y_Da_fit) ∈ K_Rd := List.mem_of_getElem? (i := 64) rfl
theorem j_Rd_65 : (.methodLink "VolumeTurner$Reader" 165 y_Rd_showShortName) ∈ K_Rd := List.mem_of_getElem? (i := 65) rfl
theorem j_Rd_66 : (.instanceMethod y_Rd_showShortName) ∈ K_Rd := List.mem_of_getElem? (i := 66) rfl
theorem j_Rd_67 : (.code y_Rd_showShortName prog_7_method_11_code 5 (some .int)) ∈ K_Rd := List.mem_of_getElem? (i := 67) rfl
theorem j_Rd_68 : (.methodLink "VolumeTurner$Reader" 168 y_Rd_closeParts) ∈ K_Rd := List.mem_of_getElem? (i := 68) rfl
theorem j_Rd_69 : (.instanceMethod y_Rd_closeParts) ∈ K_Rd := List.mem_of_getElem? (i := 69) rfl
theorem j_Rd_70 : (.code y_Rd_closeParts prog_7_method_12_code 5 (some .int)) ∈ K_Rd := List.mem_of_getElem? (i := 70) rfl
theorem j_Rd_71 : (.methodLink "VolumeTurner$Reader" 195 y_Wo_sum) ∈ K_Rd := List.mem_of_getElem? (i := 71) rfl
theorem j_Rd_72 : (.constant "VolumeTurner$Reader" 198 (65535 : Int32)) ∈ K_Rd := List.mem_of_getElem? (i := 72) rfl
theorem j_Rd_73 : (.methodLink "VolumeTurner$Reader" 199 y_Wo_isName) ∈ K_Rd := List.mem_of_getElem? (i := 73) rfl
theorem j_Rd_74 : (.methodLink "VolumeTurner$Reader" 171 y_Rd_hasTwin) ∈ K_Rd := List.mem_of_getElem? (i := 74) rfl
theorem j_Rd_75 : (.instanceMethod y_Rd_hasTwin) ∈ K_Rd := List.mem_of_getElem? (i := 75) rfl
theorem j_Rd_76 : (.code y_Rd_hasTwin prog_7_method_13_code 5 (some .boolean)) ∈ K_Rd := List.mem_of_getElem? (i := 76) rfl
theorem j_Rd_77 : (.methodLink "VolumeTurner$Reader" 203 y_Tr_kid) ∈ K_Rd := List.mem_of_getElem? (i := 77) rfl
theorem j_Rd_78 : (.methodLink "VolumeTurner$Reader" 206 y_Tr_spotOf) ∈ K_Rd := List.mem_of_getElem? (i := 78) rfl
theorem j_Rd_79 : (.methodLink "VolumeTurner$Reader" 209 y_Rd_sameShortName) ∈ K_Rd := List.mem_of_getElem? (i := 79) rfl
theorem j_Rd_80 : (.instanceMethod y_Rd_sameShortName) ∈ K_Rd := List.mem_of_getElem? (i := 80) rfl
theorem j_Rd_81 : (.code y_Rd_sameShortName prog_7_method_14_code 4 (some .boolean)) ∈ K_Rd := List.mem_of_getElem? (i := 81) rfl
theorem j_Rd_82 : (.methodLink "VolumeTurner$Reader" 212 y_Tr_isNamed) ∈ K_Rd := List.mem_of_getElem? (i := 82) rfl
theorem j_Rd_83 : (.methodLink "VolumeTurner$Reader" 174 y_Tr_addItem) ∈ K_Rd := List.mem_of_getElem? (i := 83) rfl
theorem j_Rd_84 : (.methodLink "VolumeTurner$Reader" 178 y_Tr_nameLast) ∈ K_Rd := List.mem_of_getElem? (i := 84) rfl
theorem j_Rd_85 : (.methodLink "VolumeTurner$Reader" 182 y_Tr_place) ∈ K_Rd := List.mem_of_getElem? (i := 85) rfl
theorem j_Rd_86 : (.constantLong "VolumeTurner$Reader" 189 (4294967295 : Int64)) ∈ K_Rd := List.mem_of_getElem? (i := 86) rfl
theorem j_Rd_87 : (.methodLink "VolumeTurner$Reader" 191 y_Rd_followFile) ∈ K_Rd := List.mem_of_getElem? (i := 87) rfl
theorem j_Rd_88 : (.instanceMethod y_Rd_followFile) ∈ K_Rd := List.mem_of_getElem? (i := 88) rfl
theorem j_Rd_89 : (.code y_Rd_followFile prog_7_method_15_code 6 (some .boolean)) ∈ K_Rd := List.mem_of_getElem? (i := 89) rfl
theorem j_Rd_90 : (.methodLink "VolumeTurner$Reader" 216 y_Tb_clusterBytes) ∈ K_Rd := List.mem_of_getElem? (i := 90) rfl
theorem j_Rd_91 : (.methodLink "VolumeTurner$Reader" 219 y_Tr_setSize) ∈ K_Rd := List.mem_of_getElem? (i := 91) rfl
theorem j_Rd_92 : (.methodLink "VolumeTurner$Reader" 131 y_Tr_endKids) ∈ K_Rd := List.mem_of_getElem? (i := 92) rfl
theorem j_Rd_93 : (.methodLink "VolumeTurner$Reader" 81 y_Rd_hasStrays) ∈ K_Rd := List.mem_of_getElem? (i := 93) rfl
theorem j_Rd_94 : (.instanceMethod y_Rd_hasStrays) ∈ K_Rd := List.mem_of_getElem? (i := 94) rfl
theorem j_Rd_95 : (.code y_Rd_hasStrays prog_7_method_3_code 2 (some .boolean)) ∈ K_Rd := List.mem_of_getElem? (i := 95) rfl
theorem j_Rd_96 : (.methodLink "VolumeTurner$Reader" 87 y_Tb_isFree) ∈ K_Rd := List.mem_of_getElem? (i := 96) rfl
theorem j_Rd_97 : (.selects "VolumeTurner$Reader" y_Rd_hasStrays y_Rd_hasStrays) ∈ K_Rd := List.mem_of_getElem? (i := 97) rfl
theorem j_Rd_98 : (.selects "VolumeTurner$Reader" y_Rd_follow y_Rd_follow) ∈ K_Rd := List.mem_of_getElem? (i := 98) rfl
theorem j_Rd_99 : (.selects "VolumeTurner$Reader" y_Rd_readDirectory y_Rd_readDirectory) ∈ K_Rd := List.mem_of_getElem? (i := 99) rfl
theorem j_Rd_100 : (.selects "VolumeTurner$Reader" y_Rd_isDots y_Rd_isDots) ∈ K_Rd := List.mem_of_getElem? (i := 100) rfl
theorem j_Rd_101 : (.selects "VolumeTurner$Reader" y_Rd_firstCluster y_Rd_firstCluster) ∈ K_Rd := List.mem_of_getElem? (i := 101) rfl
theorem j_Rd_102 : (.selects "VolumeTurner$Reader" y_Rd_readPart y_Rd_readPart) ∈ K_Rd := List.mem_of_getElem? (i := 102) rfl
theorem j_Rd_103 : (.selects "VolumeTurner$Reader" y_Rd_readEntry y_Rd_readEntry) ∈ K_Rd := List.mem_of_getElem? (i := 103) rfl
theorem j_Rd_104 : (.selects "VolumeTurner$Reader" y_Rd_bitsFit y_Rd_bitsFit) ∈ K_Rd := List.mem_of_getElem? (i := 104) rfl
theorem j_Rd_105 : (.selects "VolumeTurner$Reader" y_Rd_showShortName y_Rd_showShortName) ∈ K_Rd := List.mem_of_getElem? (i := 105) rfl
theorem j_Rd_106 : (.selects "VolumeTurner$Reader" y_Rd_closeParts y_Rd_closeParts) ∈ K_Rd := List.mem_of_getElem? (i := 106) rfl
theorem j_Rd_107 : (.selects "VolumeTurner$Reader" y_Rd_hasTwin y_Rd_hasTwin) ∈ K_Rd := List.mem_of_getElem? (i := 107) rfl
theorem j_Rd_108 : (.selects "VolumeTurner$Reader" y_Rd_sameShortName y_Rd_sameShortName) ∈ K_Rd := List.mem_of_getElem? (i := 108) rfl
theorem j_Rd_109 : (.selects "VolumeTurner$Reader" y_Rd_followFile y_Rd_followFile) ∈ K_Rd := List.mem_of_getElem? (i := 109) rfl
def V_Rd : List Cond := w_Rd ++ (K_Rd ++ V_In)
theorem i_Rd : ∀ w ∈ w_Rd, w ∈ V_Rd := fun _ h => List.mem_append_left _ h
theorem kk_Rd : ∀ w ∈ K_Rd, w ∈ V_Rd := fun _ h => List.mem_append_right _ (List.mem_append_left _ h)
theorem u_Rd_In : ∀ w ∈ V_In, w ∈ V_Rd := fun _ h => List.mem_append_right _ (List.mem_append_right _ h)
theorem u_Rd_J : ∀ w ∈ V_J, w ∈ V_Rd := fun w h => u_Rd_In w (u_In_J w h)
theorem u_Rd_Dk : ∀ w ∈ V_Dk, w ∈ V_Rd := fun w h => u_Rd_In w (u_In_Dk w h)
theorem u_Rd_Wo : ∀ w ∈ V_Wo, w ∈ V_Rd := fun w h => u_Rd_In w (u_In_Wo w h)
theorem u_Rd_Da : ∀ w ∈ V_Da, w ∈ V_Rd := fun w h => u_Rd_In w (u_In_Da w h)
theorem u_Rd_Tp : ∀ w ∈ V_Tp, w ∈ V_Rd := fun w h => u_Rd_In w (u_In_Tp w h)
theorem u_Rd_Tb : ∀ w ∈ V_Tb, w ∈ V_Rd := fun w h => u_Rd_In w (u_In_Tb w h)
theorem u_Rd_Tr : ∀ w ∈ V_Tr, w ∈ V_Rd := fun w h => u_Rd_In w (u_In_Tr w h)
theorem k_Rd_0 : (.initialized "VolumeTurner$Reader") ∈ V_Rd := kk_Rd _ j_Rd_0
theorem k_Rd_1 : (.fieldLink "VolumeTurner$Reader" 60 "VolumeTurner$Table" "root" "I") ∈ V_Rd := kk_Rd _ j_Rd_1
theorem k_Rd_2 : (.fieldLink "VolumeTurner$Reader" 84 "VolumeTurner$Table" "clusters" "I") ∈ V_Rd := kk_Rd _ j_Rd_2
theorem k_Rd_3 : (.fieldLink "VolumeTurner$Reader" 70 "VolumeTurner$Tree" "count" "I") ∈ V_Rd := kk_Rd _ j_Rd_3
theorem k_Rd_4 : (.fieldLink "VolumeTurner$Reader" 162 "VolumeTurner$Tree" "label" "I") ∈ V_Rd := kk_Rd _ j_Rd_4
theorem k_Rd_5 : (.instantiable "VolumeTurner$Reader" 10) ∈ V_Rd := kk_Rd _ j_Rd_5
theorem k_Rd_6 : (.instanceMethod y_Rd_init) ∈ V_Rd := kk_Rd _ j_Rd_6
theorem k_Rd_7 : (.code y_Rd_init prog_7_method_1_code 4 none) ∈ V_Rd := kk_Rd _ j_Rd_7
theorem k_Rd_8 : (.methodLink "VolumeTurner$Reader" 3 objectInit) ∈ V_Rd := kk_Rd _ j_Rd_8
theorem k_Rd_9 : (.methodLink "VolumeTurner$Reader" 37 y_Tb_behind) ∈ V_Rd := kk_Rd _ j_Rd_9
theorem k_Rd_10 : (.fieldLink "VolumeTurner$Reader" 25 "VolumeTurner$Reader" "disk" "LVolumeTurner$Disk;") ∈ V_Rd := kk_Rd _ j_Rd_10
theorem k_Rd_11 : (.fieldLink "VolumeTurner$Reader" 29 "VolumeTurner$Reader" "table" "LVolumeTurner$Table;") ∈ V_Rd := kk_Rd _ j_Rd_11
theorem k_Rd_12 : (.fieldLink "VolumeTurner$Reader" 33 "VolumeTurner$Reader" "tree" "LVolumeTurner$Tree;") ∈ V_Rd := kk_Rd _ j_Rd_12
theorem k_Rd_13 : (.fieldLink "VolumeTurner$Reader" 43 "VolumeTurner$Reader" "taken" "[Z") ∈ V_Rd := kk_Rd _ j_Rd_13
theorem k_Rd_14 : (.fieldLink "VolumeTurner$Reader" 47 "VolumeTurner$Reader" "road" "[I") ∈ V_Rd := kk_Rd _ j_Rd_14
theorem k_Rd_15 : (.fieldLink "VolumeTurner$Reader" 50 "VolumeTurner$Reader" "fileRoad" "[I") ∈ V_Rd := kk_Rd _ j_Rd_15
theorem k_Rd_16 : (.fieldLink "VolumeTurner$Reader" 9 "VolumeTurner$Reader" "units" "[I") ∈ V_Rd := kk_Rd _ j_Rd_16
theorem k_Rd_17 : (.fieldLink "VolumeTurner$Reader" 15 "VolumeTurner$Reader" "parts" "I") ∈ V_Rd := kk_Rd _ j_Rd_17
theorem k_Rd_18 : (.fieldLink "VolumeTurner$Reader" 19 "VolumeTurner$Reader" "toCome" "I") ∈ V_Rd := kk_Rd _ j_Rd_18
theorem k_Rd_19 : (.fieldLink "VolumeTurner$Reader" 22 "VolumeTurner$Reader" "sum" "I") ∈ V_Rd := kk_Rd _ j_Rd_19
theorem k_Rd_20 : (.instanceMethod y_Rd_scan) ∈ V_Rd := kk_Rd _ j_Rd_20
theorem k_Rd_21 : (.selects "VolumeTurner$Reader" y_Rd_scan y_Rd_scan) ∈ V_Rd := kk_Rd _ j_Rd_21
theorem k_Rd_22 : (.code y_Rd_scan prog_7_method_2_code 4 (some .int)) ∈ V_Rd := kk_Rd _ j_Rd_22
theorem k_Rd_23 : (.methodLink "VolumeTurner$Reader" 53 y_Tb_read) ∈ V_Rd := kk_Rd _ j_Rd_23
theorem k_Rd_24 : (.methodLink "VolumeTurner$Reader" 57 y_Tb_entriesFit) ∈ V_Rd := kk_Rd _ j_Rd_24
theorem k_Rd_25 : (.methodLink "VolumeTurner$Reader" 63 y_Tr_startWith) ∈ V_Rd := kk_Rd _ j_Rd_25
theorem k_Rd_26 : (.constant "VolumeTurner$Reader" 69 (1000000 : Int32)) ∈ V_Rd := kk_Rd _ j_Rd_26
theorem k_Rd_27 : (.methodLink "VolumeTurner$Reader" 73 y_Tr_isDirectory) ∈ V_Rd := kk_Rd _ j_Rd_27
theorem k_Rd_28 : (.methodLink "VolumeTurner$Reader" 77 y_Rd_readDirectory) ∈ V_Rd := kk_Rd _ j_Rd_28
theorem k_Rd_29 : (.instanceMethod y_Rd_readDirectory) ∈ V_Rd := kk_Rd _ j_Rd_29
theorem k_Rd_30 : (.code y_Rd_readDirectory prog_7_method_5_code 8 (some .int)) ∈ V_Rd := kk_Rd _ j_Rd_30
theorem k_Rd_31 : (.methodLink "VolumeTurner$Reader" 95 y_Tr_firstOf) ∈ V_Rd := kk_Rd _ j_Rd_31
theorem k_Rd_32 : (.methodLink "VolumeTurner$Reader" 98 y_Rd_follow) ∈ V_Rd := kk_Rd _ j_Rd_32
theorem k_Rd_33 : (.instanceMethod y_Rd_follow) ∈ V_Rd := kk_Rd _ j_Rd_33
theorem k_Rd_34 : (.code y_Rd_follow prog_7_method_4_code 5 (some .int)) ∈ V_Rd := kk_Rd _ j_Rd_34
theorem k_Rd_35 : (.methodLink "VolumeTurner$Reader" 90 y_Tb_nextOf) ∈ V_Rd := kk_Rd _ j_Rd_35
theorem k_Rd_36 : (.constant "VolumeTurner$Reader" 94 (268435448 : Int32)) ∈ V_Rd := kk_Rd _ j_Rd_36
theorem k_Rd_37 : (.methodLink "VolumeTurner$Reader" 102 y_Tb_goalOf) ∈ V_Rd := kk_Rd _ j_Rd_37
theorem k_Rd_38 : (.methodLink "VolumeTurner$Reader" 105 y_Tr_beginKids) ∈ V_Rd := kk_Rd _ j_Rd_38
theorem k_Rd_39 : (.methodLink "VolumeTurner$Reader" 108 y_Tb_slotsOfCluster) ∈ V_Rd := kk_Rd _ j_Rd_39
theorem k_Rd_40 : (.methodLink "VolumeTurner$Reader" 111 y_Tb_slotPlace) ∈ V_Rd := kk_Rd _ j_Rd_40
theorem k_Rd_41 : (.methodLink "VolumeTurner$Reader" 115 y_Dk_one) ∈ V_Rd := kk_Rd _ j_Rd_41
theorem k_Rd_42 : (.methodLink "VolumeTurner$Reader" 120 y_Rd_isDots) ∈ V_Rd := kk_Rd _ j_Rd_42
theorem k_Rd_43 : (.instanceMethod y_Rd_isDots) ∈ V_Rd := kk_Rd _ j_Rd_43
theorem k_Rd_44 : (.code y_Rd_isDots prog_7_method_6_code 6 (some .boolean)) ∈ V_Rd := kk_Rd _ j_Rd_44
theorem k_Rd_45 : (.methodLink "VolumeTurner$Reader" 134 y_Tr_parentOf) ∈ V_Rd := kk_Rd _ j_Rd_45
theorem k_Rd_46 : (.methodLink "VolumeTurner$Reader" 137 y_Rd_firstCluster) ∈ V_Rd := kk_Rd _ j_Rd_46
theorem k_Rd_47 : (.instanceMethod y_Rd_firstCluster) ∈ V_Rd := kk_Rd _ j_Rd_47
theorem k_Rd_48 : (.code y_Rd_firstCluster prog_7_method_7_code 2 (some .int)) ∈ V_Rd := kk_Rd _ j_Rd_48
theorem k_Rd_49 : (.methodLink "VolumeTurner$Reader" 140 y_Dk_two) ∈ V_Rd := kk_Rd _ j_Rd_49
theorem k_Rd_50 : (.methodLink "VolumeTurner$Reader" 124 y_Rd_readPart) ∈ V_Rd := kk_Rd _ j_Rd_50
theorem k_Rd_51 : (.instanceMethod y_Rd_readPart) ∈ V_Rd := kk_Rd _ j_Rd_51
theorem k_Rd_52 : (.code y_Rd_readPart prog_7_method_8_code 4 (some .boolean)) ∈ V_Rd := kk_Rd _ j_Rd_52
theorem k_Rd_53 : (.methodLink "VolumeTurner$Reader" 143 y_Rd_unitPlace) ∈ V_Rd := kk_Rd _ j_Rd_53
theorem k_Rd_54 : (.static y_Rd_unitPlace) ∈ V_Rd := kk_Rd _ j_Rd_54
theorem k_Rd_55 : (.code y_Rd_unitPlace prog_7_method_16_code 1 (some .int)) ∈ V_Rd := kk_Rd _ j_Rd_55
theorem k_Rd_56 : (.methodLink "VolumeTurner$Reader" 127 y_Rd_readEntry) ∈ V_Rd := kk_Rd _ j_Rd_56
theorem k_Rd_57 : (.instanceMethod y_Rd_readEntry) ∈ V_Rd := kk_Rd _ j_Rd_57
theorem k_Rd_58 : (.code y_Rd_readEntry prog_7_method_9_code 9 (some .int)) ∈ V_Rd := kk_Rd _ j_Rd_58
theorem k_Rd_59 : (.methodLink "VolumeTurner$Reader" 146 y_Rd_bitsFit) ∈ V_Rd := kk_Rd _ j_Rd_59
theorem k_Rd_60 : (.instanceMethod y_Rd_bitsFit) ∈ V_Rd := kk_Rd _ j_Rd_60
theorem k_Rd_61 : (.code y_Rd_bitsFit prog_7_method_10_code 5 (some .boolean)) ∈ V_Rd := kk_Rd _ j_Rd_61
theorem k_Rd_62 : (.methodLink "VolumeTurner$Reader" 186 y_Dk_four) ∈ V_Rd := kk_Rd _ j_Rd_62
theorem k_Rd_63 : (.methodLink "VolumeTurner$Reader" 150 y_Wo_isShortName) ∈ V_Rd := kk_Rd _ j_Rd_63
theorem k_Rd_64 : (.methodLink "VolumeTurner$Reader" 156 y_Da_fit) ∈ V_Rd := kk_Rd _ j_Rd_64
theorem k_Rd_65 : (.methodLink "VolumeTurner$Reader" 165 y_Rd_showShortName) ∈ V_Rd := kk_Rd _ j_Rd_65
theorem k_Rd_66 : (.instanceMethod y_Rd_showShortName) ∈ V_Rd := kk_Rd _ j_Rd_66
theorem k_Rd_67 : (.code y_Rd_showShortName prog_7_method_11_code 5 (some .int)) ∈ V_Rd := kk_Rd _ j_Rd_67
theorem k_Rd_68 : (.methodLink "VolumeTurner$Reader" 168 y_Rd_closeParts) ∈ V_Rd := kk_Rd _ j_Rd_68
theorem k_Rd_69 : (.instanceMethod y_Rd_closeParts) ∈ V_Rd := kk_Rd _ j_Rd_69
theorem k_Rd_70 : (.code y_Rd_closeParts prog_7_method_12_code 5 (some .int)) ∈ V_Rd := kk_Rd _ j_Rd_70
theorem k_Rd_71 : (.methodLink "VolumeTurner$Reader" 195 y_Wo_sum) ∈ V_Rd := kk_Rd _ j_Rd_71
theorem k_Rd_72 : (.constant "VolumeTurner$Reader" 198 (65535 : Int32)) ∈ V_Rd := kk_Rd _ j_Rd_72
theorem k_Rd_73 : (.methodLink "VolumeTurner$Reader" 199 y_Wo_isName) ∈ V_Rd := kk_Rd _ j_Rd_73
theorem k_Rd_74 : (.methodLink "VolumeTurner$Reader" 171 y_Rd_hasTwin) ∈ V_Rd := kk_Rd _ j_Rd_74
theorem k_Rd_75 : (.instanceMethod y_Rd_hasTwin) ∈ V_Rd := kk_Rd _ j_Rd_75
theorem k_Rd_76 : (.code y_Rd_hasTwin prog_7_method_13_code 5 (some .boolean)) ∈ V_Rd := kk_Rd _ j_Rd_76
theorem k_Rd_77 : (.methodLink "VolumeTurner$Reader" 203 y_Tr_kid) ∈ V_Rd := kk_Rd _ j_Rd_77
theorem k_Rd_78 : (.methodLink "VolumeTurner$Reader" 206 y_Tr_spotOf) ∈ V_Rd := kk_Rd _ j_Rd_78
theorem k_Rd_79 : (.methodLink "VolumeTurner$Reader" 209 y_Rd_sameShortName) ∈ V_Rd := kk_Rd _ j_Rd_79
theorem k_Rd_80 : (.instanceMethod y_Rd_sameShortName) ∈ V_Rd := kk_Rd _ j_Rd_80
theorem k_Rd_81 : (.code y_Rd_sameShortName prog_7_method_14_code 4 (some .boolean)) ∈ V_Rd := kk_Rd _ j_Rd_81
theorem k_Rd_82 : (.methodLink "VolumeTurner$Reader" 212 y_Tr_isNamed) ∈ V_Rd := kk_Rd _ j_Rd_82
theorem k_Rd_83 : (.methodLink "VolumeTurner$Reader" 174 y_Tr_addItem) ∈ V_Rd := kk_Rd _ j_Rd_83
theorem k_Rd_84 : (.methodLink "VolumeTurner$Reader" 178 y_Tr_nameLast) ∈ V_Rd := kk_Rd _ j_Rd_84
theorem k_Rd_85 : (.methodLink "VolumeTurner$Reader" 182 y_Tr_place) ∈ V_Rd := kk_Rd _ j_Rd_85
theorem k_Rd_86 : (.constantLong "VolumeTurner$Reader" 189 (4294967295 : Int64)) ∈ V_Rd := kk_Rd _ j_Rd_86
theorem k_Rd_87 : (.methodLink "VolumeTurner$Reader" 191 y_Rd_followFile) ∈ V_Rd := kk_Rd _ j_Rd_87
theorem k_Rd_88 : (.instanceMethod y_Rd_followFile) ∈ V_Rd := kk_Rd _ j_Rd_88
theorem k_Rd_89 : (.code y_Rd_followFile prog_7_method_15_code 6 (some .boolean)) ∈ V_Rd := kk_Rd _ j_Rd_89
theorem k_Rd_90 : (.methodLink "VolumeTurner$Reader" 216 y_Tb_clusterBytes) ∈ V_Rd := kk_Rd _ j_Rd_90
theorem k_Rd_91 : (.methodLink "VolumeTurner$Reader" 219 y_Tr_setSize) ∈ V_Rd := kk_Rd _ j_Rd_91
theorem k_Rd_92 : (.methodLink "VolumeTurner$Reader" 131 y_Tr_endKids) ∈ V_Rd := kk_Rd _ j_Rd_92
theorem k_Rd_93 : (.methodLink "VolumeTurner$Reader" 81 y_Rd_hasStrays) ∈ V_Rd := kk_Rd _ j_Rd_93
theorem k_Rd_94 : (.instanceMethod y_Rd_hasStrays) ∈ V_Rd := kk_Rd _ j_Rd_94
theorem k_Rd_95 : (.code y_Rd_hasStrays prog_7_method_3_code 2 (some .boolean)) ∈ V_Rd := kk_Rd _ j_Rd_95
theorem k_Rd_96 : (.methodLink "VolumeTurner$Reader" 87 y_Tb_isFree) ∈ V_Rd := kk_Rd _ j_Rd_96
theorem k_Rd_97 : (.selects "VolumeTurner$Reader" y_Rd_hasStrays y_Rd_hasStrays) ∈ V_Rd := kk_Rd _ j_Rd_97
theorem k_Rd_98 : (.selects "VolumeTurner$Reader" y_Rd_follow y_Rd_follow) ∈ V_Rd := kk_Rd _ j_Rd_98
theorem k_Rd_99 : (.selects "VolumeTurner$Reader" y_Rd_readDirectory y_Rd_readDirectory) ∈ V_Rd := kk_Rd _ j_Rd_99
theorem k_Rd_100 : (.selects "VolumeTurner$Reader" y_Rd_isDots y_Rd_isDots) ∈ V_Rd := kk_Rd _ j_Rd_100
theorem k_Rd_101 : (.selects "VolumeTurner$Reader" y_Rd_firstCluster y_Rd_firstCluster) ∈ V_Rd := kk_Rd _ j_Rd_101
theorem k_Rd_102 : (.selects "VolumeTurner$Reader" y_Rd_readPart y_Rd_readPart) ∈ V_Rd := kk_Rd _ j_Rd_102
theorem k_Rd_103 : (.selects "VolumeTurner$Reader" y_Rd_readEntry y_Rd_readEntry) ∈ V_Rd := kk_Rd _ j_Rd_103
theorem k_Rd_104 : (.selects "VolumeTurner$Reader" y_Rd_bitsFit y_Rd_bitsFit) ∈ V_Rd := kk_Rd _ j_Rd_104
theorem k_Rd_105 : (.selects "VolumeTurner$Reader" y_Rd_showShortName y_Rd_showShortName) ∈ V_Rd := kk_Rd _ j_Rd_105
theorem k_Rd_106 : (.selects "VolumeTurner$Reader" y_Rd_closeParts y_Rd_closeParts) ∈ V_Rd := kk_Rd _ j_Rd_106
theorem k_Rd_107 : (.selects "VolumeTurner$Reader" y_Rd_hasTwin y_Rd_hasTwin) ∈ V_Rd := kk_Rd _ j_Rd_107
theorem k_Rd_108 : (.selects "VolumeTurner$Reader" y_Rd_sameShortName y_Rd_sameShortName) ∈ V_Rd := kk_Rd _ j_Rd_108
theorem k_Rd_109 : (.selects "VolumeTurner$Reader" y_Rd_followFile y_Rd_followFile) ∈ V_Rd := kk_Rd _ j_Rd_109
theorem gk_Rd : ∀ w ∈ w_Rd ++ K_Rd, goodWord w = true := List.all_eq_true.mp (by decide +kernel)
theorem good_Rd : GoodIn V_Rd V_Rd := fun w h => by
  refine ⟨h, ?_⟩
  rcases List.mem_append.mp h with q | q
  · exact good_of_word (gk_Rd w (List.mem_append_left _ q))
  · rcases List.mem_append.mp q with q | q
    · exact good_of_word (gk_Rd w (List.mem_append_right _ q))
    · exact (good_In w q).2
abbrev b_Ed_init : ByteArray := prog_4_method_1_code
def y_Ed_init : MethodName := ⟨R_Ed, "<init>", "(LVolumeTurner$Disk;LVolumeTurner$Table;LVolumeTurner$Tree;)V"⟩
theorem d_Ed_init_0 : decode b_Ed_init 0 = .ok (.aload_n 0, 1) := by decide +kernel
theorem d_Ed_init_1 : decode b_Ed_init 1 = .ok (.invokespecial 3, 3) := by decide +kernel
theorem d_Ed_init_4 : decode b_Ed_init 4 = .ok (.aload_n 0, 1) := by decide +kernel
theorem d_Ed_init_5 : decode b_Ed_init 5 = .ok (.iconst 0, 1) := by decide +kernel
theorem d_Ed_init_6 : decode b_Ed_init 6 = .ok (.putfield 9, 3) := by decide +kernel
theorem d_Ed_init_9 : decode b_Ed_init 9 = .ok (.aload_n 0, 1) := by decide +kernel
theorem d_Ed_init_10 : decode b_Ed_init 10 = .ok (.sipush 255, 3) := by decide +kernel
theorem d_Ed_init_13 : decode b_Ed_init 13 = .ok (.newarray .int, 2) := by decide +kernel
theorem d_Ed_init_15 : decode b_Ed_init 15 = .ok (.putfield 15, 3) := by decide +kernel
theorem d_Ed_init_18 : decode b_Ed_init 18 = .ok (.aload_n 0, 1) := by decide +kernel
theorem d_Ed_init_19 : decode b_Ed_init 19 = .ok (.iconst 0, 1) := by decide +kernel
theorem d_Ed_init_20 : decode b_Ed_init 20 = .ok (.putfield 19, 3) := by decide +kernel
theorem d_Ed_init_23 : decode b_Ed_init 23 = .ok (.aload_n 0, 1) := by decide +kernel
theorem d_Ed_init_24 : decode b_Ed_init 24 = .ok (.bipush 11, 2) := by decide +kernel
theorem d_Ed_init_26 : decode b_Ed_init 26 = .ok (.newarray .int, 2) := by decide +kernel
theorem d_Ed_init_28 : decode b_Ed_init 28 = .ok (.putfield 22, 3) := by decide +kernel
theorem d_Ed_init_31 : decode b_Ed_init 31 = .ok (.aload_n 0, 1) := by decide +kernel
theorem d_Ed_init_32 : decode b_Ed_init 32 = .ok (.iconst 0, 1) := by decide +kernel
theorem d_Ed_init_33 : decode b_Ed_init 33 = .ok (.putfield 25, 3) := by decide +kernel
theorem d_Ed_init_36 : decode b_Ed_init 36 = .ok (.aload_n 0, 1) := by decide +kernel
theorem d_Ed_init_37 : decode b_Ed_init 37 = .ok (.iconst 0, 1) := by decide +kernel
theorem d_Ed_init_38 : decode b_Ed_init 38 = .ok (.putfield 29, 3) := by decide +kernel
theorem d_Ed_init_41 : decode b_Ed_init 41 = .ok (.aload_n 0, 1) := by decide +kernel
theorem d_Ed_init_42 : decode b_Ed_init 42 = .ok (.iconst 0, 1) := by decide +kernel
theorem d_Ed_init_43 : decode b_Ed_init 43 = .ok (.putfield 32, 3) := by decide +kernel
theorem d_Ed_init_46 : decode b_Ed_init 46 = .ok (.aload_n 0, 1) := by decide +kernel
theorem d_Ed_init_47 : decode b_Ed_init 47 = .ok (.iconst 0, 1) := by decide +kernel
theorem d_Ed_init_48 : decode b_Ed_init 48 = .ok (.putfield 35, 3) := by decide +kernel
theorem d_Ed_init_51 : decode b_Ed_init 51 = .ok (.aload_n 0, 1) := by decide +kernel
theorem d_Ed_init_52 : decode b_Ed_init 52 = .ok (.iconst 0, 1) := by decide +kernel
theorem d_Ed_init_53 : decode b_Ed_init 53 = .ok (.putfield 38, 3) := by decide +kernel
theorem d_Ed_init_56 : decode b_Ed_init 56 = .ok (.aload_n 0, 1) := by decide +kernel
theorem d_Ed_init_57 : decode b_Ed_init 57 = .ok (.aload_n 1, 1) := by decide +kernel
theorem d_Ed_init_58 : decode b_Ed_init 58 = .ok (.putfield 41, 3) := by decide +kernel
theorem d_Ed_init_61 : decode b_Ed_init 61 = .ok (.aload_n 0, 1) := by decide +kernel
theorem d_Ed_init_62 : decode b_Ed_init 62 = .ok (.aload_n 2, 1) := by decide +kernel
theorem d_Ed_init_63 : decode b_Ed_init 63 = .ok (.putfield 45, 3) := by decide +kernel
theorem d_Ed_init_66 : decode b_Ed_init 66 = .ok (.aload_n 0, 1) := by decide +kernel
theorem d_Ed_init_67 : decode b_Ed_init 67 = .ok (.aload_n 3, 1) := by decide +kernel
theorem d_Ed_init_68 : decode b_Ed_init 68 = .ok (.putfield 49, 3) := by decide +kernel
theorem d_Ed_init_71 : decode b_Ed_init 71 = .ok (.aload_n 0, 1) := by decide +kernel
theorem d_Ed_init_72 : decode b_Ed_init 72 = .ok (.aload_n 2, 1) := by decide +kernel
theorem d_Ed_init_73 : decode b_Ed_init 73 = .ok (.invokevirtual 53, 3) := by decide +kernel
theorem d_Ed_init_76 : decode b_Ed_init 76 = .ok (.newarray .int, 2) := by decide +kernel
theorem d_Ed_init_78 : decode b_Ed_init 78 = .ok (.putfield 59, 3) := by decide +kernel
theorem d_Ed_init_81 : decode b_Ed_init 81 = .ok (.return_, 1) := by decide +kernel
abbrev cb_Ed_writeLabel : ByteArray := prog_4_method_2_code
def y_Ed_writeLabel : MethodName := ⟨R_Ed, "writeLabel", "(LVolumeTurner$Tape;I)V"⟩
abbrev cb_Ed_readName : ByteArray := prog_4_method_3_code
def y_Ed_readName : MethodName := ⟨R_Ed, "readName", "(LVolumeTurner$Tape;I)Z"⟩
abbrev cb_Ed_lastPoint : ByteArray := prog_4_method_4_code
def y_Ed_lastPoint : MethodName := ⟨R_Ed, "lastPoint", "()I"⟩
abbrev cb_Ed_takePlainName : ByteArray := prog_4_method_5_code
def y_Ed_takePlainName : MethodName := ⟨R_Ed, "takePlainName", "()Z"⟩
abbrev cb_Ed_clashes : ByteArray := prog_4_method_6_code
def y_Ed_clashes : MethodName := ⟨R_Ed, "clashes", "(I)Z"⟩
abbrev cb_Ed_hasShortName : ByteArray := prog_4_method_7_code
def y_Ed_hasShortName : MethodName := ⟨R_Ed, "hasShortName", "(I)Z"⟩
abbrev cb_Ed_isShortNameTaken : ByteArray := prog_4_method_8_code
def y_Ed_isShortNameTaken : MethodName := ⟨R_Ed, "isShortNameTaken", "(I)Z"⟩
abbrev cb_Ed_squeeze : ByteArray := prog_4_method_9_code
def y_Ed_squeeze : MethodName := ⟨R_Ed, "squeeze", "(IIII)I"⟩
abbrev cb_Ed_inventShortName : ByteArray := prog_4_method_10_code
def y_Ed_inventShortName : MethodName := ⟨R_Ed, "inventShortName", "(I)V"⟩
abbrev cb_Ed_findSlots : ByteArray := prog_4_method_11_code
def y_Ed_findSlots : MethodName := ⟨R_Ed, "findSlots", "(IZ)Z"⟩
abbrev cb_Ed_slotPlace : ByteArray := prog_4_method_12_code
def y_Ed_slotPlace : MethodName := ⟨R_Ed, "slotPlace", "(I)I"⟩
abbrev cb_Ed_addItem : ByteArray := prog_4_method_13_code
def y_Ed_addItem : MethodName := ⟨R_Ed, "addItem", "(IZ)I"⟩
abbrev cb_Ed_lengthenRoad : ByteArray := prog_4_method_14_code
def y_Ed_lengthenRoad : MethodName := ⟨R_Ed, "lengthenRoad", "()V"⟩
abbrev cb_Ed_putEntry : ByteArray := prog_4_method_15_code
def y_Ed_putEntry : MethodName := ⟨R_Ed, "putEntry", "(IIZ)V"⟩
abbrev cb_Ed_putFirstCluster : ByteArray := prog_4_method_16_code
def y_Ed_putFirstCluster : MethodName := ⟨R_Ed, "putFirstCluster", "(II)V"⟩
abbrev cb_Ed_putPart : ByteArray := prog_4_method_17_code
def y_Ed_putPart : MethodName := ⟨R_Ed, "putPart", "(II)V"⟩
abbrev cb_Ed_putDots : ByteArray := prog_4_method_18_code
def y_Ed_putDots : MethodName := ⟨R_Ed, "putDots", "(II)V"⟩
abbrev cb_Ed_clustersFor : ByteArray := prog_4_method_19_code
def y_Ed_clustersFor : MethodName := ⟨R_Ed, "clustersFor", "(I)I"⟩
abbrev cb_Ed_canHold : ByteArray := prog_4_method_20_code
def y_Ed_canHold : MethodName := ⟨R_Ed, "canHold", "(II)Z"⟩
abbrev cb_Ed_lengthen : ByteArray := prog_4_method_21_code
def y_Ed_lengthen : MethodName := ⟨R_Ed, "lengthen", "(II)V"⟩
abbrev cb_Ed_placeOnRoad : ByteArray := prog_4_method_22_code
def y_Ed_placeOnRoad : MethodName := ⟨R_Ed, "placeOnRoad", "(I)I"⟩
abbrev cb_Ed_placeBehind : ByteArray := prog_4_method_23_code
def y_Ed_placeBehind : MethodName := ⟨R_Ed, "placeBehind", "(II)I"⟩
abbrev cb_Ed_placeOf : ByteArray := prog_4_method_24_code
def y_Ed_placeOf : MethodName := ⟨R_Ed, "placeOf", "(II)I"⟩
abbrev cb_Ed_shorten : ByteArray := prog_4_method_25_code
def y_Ed_shorten : MethodName := ⟨R_Ed, "shorten", "(II)I"⟩
abbrev cb_Ed_dropItem : ByteArray := prog_4_method_26_code
def y_Ed_dropItem : MethodName := ⟨R_Ed, "dropItem", "(II)V"⟩
abbrev cb_Ed_putStamp : ByteArray := prog_4_method_27_code
def y_Ed_putStamp : MethodName := ⟨R_Ed, "putStamp", "(IIII)V"⟩
def K_Ed : List Cond := [(.initialized "VolumeTurner$Editor"), (.fieldLink "VolumeTurner$Editor" 62 "VolumeTurner$Table" "root" "I"), (.instantiable "VolumeTurner$Editor" 13), (.instanceMethod y_Ed_init), (.code y_Ed_init prog_4_method_1_code 4 none), (.methodLink "VolumeTurner$Editor" 3 objectInit), (.methodLink "VolumeTurner$Editor" 53 y_Tb_behind), (.fieldLink "VolumeTurner$Editor" 41 "VolumeTurner$Editor" "disk" "LVolumeTurner$Disk;"), (.fieldLink "VolumeTurner$Editor" 45 "VolumeTurner$Editor" "table" "LVolumeTurner$Table;"), (.fieldLink "VolumeTurner$Editor" 49 "VolumeTurner$Editor" "tree" "LVolumeTurner$Tree;"), (.fieldLink "VolumeTurner$Editor" 59 "VolumeTurner$Editor" "road" "[I"), (.fieldLink "VolumeTurner$Editor" 9 "VolumeTurner$Editor" "roadLength" "I"), (.fieldLink "VolumeTurner$Editor" 15 "VolumeTurner$Editor" "units" "[I"), (.fieldLink "VolumeTurner$Editor" 19 "VolumeTurner$Editor" "unitCount" "I"), (.fieldLink "VolumeTurner$Editor" 22 "VolumeTurner$Editor" "shortName" "[I"), (.fieldLink "VolumeTurner$Editor" 25 "VolumeTurner$Editor" "plain" "Z"), (.fieldLink "VolumeTurner$Editor" 29 "VolumeTurner$Editor" "firstSlot" "I"), (.fieldLink "VolumeTurner$Editor" 32 "VolumeTurner$Editor" "slots" "I"), (.fieldLink "VolumeTurner$Editor" 35 "VolumeTurner$Editor" "unseen" "I"), (.fieldLink "VolumeTurner$Editor" 38 "VolumeTurner$Editor" "wanted" "I"), (.instanceMethod y_Ed_writeLabel), (.selects "VolumeTurner$Editor" y_Ed_writeLabel y_Ed_writeLabel), (.code y_Ed_writeLabel prog_4_method_2_code 5 none), (.methodLink "VolumeTurner$Editor" 65 y_Tb_place), (.methodLink "VolumeTurner$Editor" 69 y_Tp_one), (.methodLink "VolumeTurner$Editor" 74 y_Dk_putOne), (.methodLink "VolumeTurner$Editor" 82 y_Dk_putTwo), (.instanceMethod y_Ed_placeOf), (.selects "VolumeTurner$Editor" y_Ed_placeOf y_Ed_placeOf), (.code y_Ed_placeOf prog_4_method_24_code 3 (some .int)), (.methodLink "VolumeTurner$Editor" 143 y_Tr_firstOf), (.methodLink "VolumeTurner$Editor" 146 y_Tb_road), (.methodLink "VolumeTurner$Editor" 215 y_Ed_placeOnRoad), (.instanceMethod y_Ed_placeOnRoad), (.selects "VolumeTurner$Editor" y_Ed_placeOnRoad y_Ed_placeOnRoad), (.code y_Ed_placeOnRoad prog_4_method_22_code 3 (some .int)), (.methodLink "VolumeTurner$Editor" 203 y_Tb_clusterBytes), (.instanceMethod y_Ed_readName), (.selects "VolumeTurner$Editor" y_Ed_readName y_Ed_readName), (.code y_Ed_readName prog_4_method_3_code 4 (some .boolean)), (.methodLink "VolumeTurner$Editor" 85 y_Wo_isName), (.methodLink "VolumeTurner$Editor" 91 y_Ed_takePlainName), (.instanceMethod y_Ed_takePlainName), (.code y_Ed_takePlainName prog_4_method_5_code 5 (some .boolean)), (.methodLink "VolumeTurner$Editor" 95 y_Ed_lastPoint), (.instanceMethod y_Ed_lastPoint), (.code y_Ed_lastPoint prog_4_method_4_code 2 (some .int)), (.methodLink "VolumeTurner$Editor" 98 ⟨"java/util/Arrays", "fill", "([II)V"⟩), (.methodLink "VolumeTurner$Editor" 104 y_Wo_mayBeShort), (.instanceMethod y_Ed_clashes), (.selects "VolumeTurner$Editor" y_Ed_clashes y_Ed_clashes), (.code y_Ed_clashes prog_4_method_6_code 4 (some .boolean)), (.methodLink "VolumeTurner$Editor" 108 y_Tr_countIn), (.methodLink "VolumeTurner$Editor" 113 y_Tr_kid), (.methodLink "VolumeTurner$Editor" 117 y_Tr_isNamed), (.methodLink "VolumeTurner$Editor" 121 y_Ed_hasShortName), (.instanceMethod y_Ed_hasShortName), (.code y_Ed_hasShortName prog_4_method_7_code 4 (some .boolean)), (.methodLink "VolumeTurner$Editor" 124 y_Tr_spotOf), (.methodLink "VolumeTurner$Editor" 127 y_Dk_one), (.instanceMethod y_Ed_findSlots), (.selects "VolumeTurner$Editor" y_Ed_findSlots y_Ed_findSlots), (.code y_Ed_findSlots prog_4_method_11_code 8 (some .boolean)), (.methodLink "VolumeTurner$Editor" 149 y_Tb_slotsOfCluster), (.methodLink "VolumeTurner$Editor" 152 y_Ed_slotPlace), (.instanceMethod y_Ed_slotPlace), (.code y_Ed_slotPlace prog_4_method_12_code 2 (some .int)), (.methodLink "VolumeTurner$Editor" 158 y_Tb_slotPlace), (.methodLink "VolumeTurner$Editor" 155 y_Tb_countFree), (.instanceMethod y_Ed_addItem), (.selects "VolumeTurner$Editor" y_Ed_addItem y_Ed_addItem), (.code y_Ed_addItem prog_4_method_13_code 6 (some .int)), (.methodLink "VolumeTurner$Editor" 161 y_Ed_inventShortName), (.instanceMethod y_Ed_inventShortName), (.code y_Ed_inventShortName prog_4_method_10_code 10 none), (.methodLink "VolumeTurner$Editor" 131 ⟨"java/lang/Math", "max", "(II)I"⟩), (.methodLink "VolumeTurner$Editor" 136 y_Ed_squeeze), (.instanceMethod y_Ed_squeeze), (.code y_Ed_squeeze prog_4_method_9_code 8 (some .int)), (.methodLink "VolumeTurner$Editor" 128 y_Wo_capital), (.methodLink "VolumeTurner$Editor" 140 y_Ed_isShortNameTaken), (.instanceMethod y_Ed_isShortNameTaken), (.code y_Ed_isShortNameTaken prog_4_method_8_code 3 (some .boolean)), (.methodLink "VolumeTurner$Editor" 165 y_Tb_takeFree), (.methodLink "VolumeTurner$Editor" 168 y_Ed_lengthenRoad), (.instanceMethod y_Ed_lengthenRoad), (.code y_Ed_lengthenRoad prog_4_method_14_code 2 none), (.methodLink "VolumeTurner$Editor" 184 y_Tb_link), (.methodLink "VolumeTurner$Editor" 171 y_Ed_putEntry), (.instanceMethod y_Ed_putEntry), (.code y_Ed_putEntry prog_4_method_15_code 5 none), (.methodLink "VolumeTurner$Editor" 187 y_Dk_zero), (.methodLink "VolumeTurner$Editor" 190 y_Ed_putFirstCluster), (.instanceMethod y_Ed_putFirstCluster), (.code y_Ed_putFirstCluster prog_4_method_16_code 3 none), (.methodLink "VolumeTurner$Editor" 175 y_Ed_putPart), (.instanceMethod y_Ed_putPart), (.code y_Ed_putPart prog_4_method_17_code 6 none), (.methodLink "VolumeTurner$Editor" 193 y_Wo_sum), (.constant "VolumeTurner$Editor" 197 (65535 : Int32)), (.methodLink "VolumeTurner$Editor" 198 y_Rd_unitPlace), (.methodLink "VolumeTurner$Editor" 178 y_Ed_putDots), (.instanceMethod y_Ed_putDots), (.code y_Ed_putDots prog_4_method_18_code 6 none), (.methodLink "VolumeTurner$Editor" 181 y_Tr_slotOf), (.instanceMethod y_Ed_canHold), (.selects "VolumeTurner$Editor" y_Ed_canHold y_Ed_canHold), (.code y_Ed_canHold prog_4_method_20_code 4 (some .boolean)), (.methodLink "VolumeTurner$Editor" 206 y_Tr_sizeOf), (.methodLink "VolumeTurner$Editor" 209 y_Ed_clustersFor), (.instanceMethod y_Ed_clustersFor), (.code y_Ed_clustersFor prog_4_method_19_code 3 (some .int)), (.instanceMethod y_Ed_lengthen), (.selects "VolumeTurner$Editor" y_Ed_lengthen y_Ed_lengthen), (.code y_Ed_lengthen prog_4_method_21_code 7 none), (.methodLink "VolumeTurner$Editor" 212 y_Dk_putFour), (.instanceMethod y_Ed_placeBehind), (.selects "VolumeTurner$Editor" y_Ed_placeBehind y_Ed_placeBehind), (.code y_Ed_placeBehind prog_4_method_23_code 3 (some .int)), (.instanceMethod y_Ed_shorten), (.selects "VolumeTurner$Editor" y_Ed_shorten y_Ed_shorten), (.code y_Ed_shorten prog_4_method_25_code 6 (some .int)), (.constant "VolumeTurner$Editor" 218 (268435455 : Int32)), (.instanceMethod y_Ed_dropItem), (.selects "VolumeTurner$Editor" y_Ed_dropItem y_Ed_dropItem), (.code y_Ed_dropItem prog_4_method_26_code 5 none), (.methodLink "VolumeTurner$Editor" 219 y_Tr_partsOf), (.instanceMethod y_Ed_putStamp), (.selects "VolumeTurner$Editor" y_Ed_putStamp y_Ed_putStamp), (.code y_Ed_putStamp prog_4_method_27_code 5 none), (.selects "VolumeTurner$Editor" y_Ed_lastPoint y_Ed_lastPoint), (.selects "VolumeTurner$Editor" y_Ed_takePlainName y_Ed_takePlainName), (.selects "VolumeTurner$Editor" y_Ed_hasShortName y_Ed_hasShortName), (.selects "VolumeTurner$Editor" y_Ed_isShortNameTaken y_Ed_isShortNameTaken), (.selects "VolumeTurner$Editor" y_Ed_squeeze y_Ed_squeeze), (.selects "VolumeTurner$Editor" y_Ed_inventShortName y_Ed_inventShortName), (.selects "VolumeTurner$Editor" y_Ed_slotPlace y_Ed_slotPlace), (.selects "VolumeTurner$Editor" y_Ed_lengthenRoad y_Ed_lengthenRoad), (.selects "VolumeTurner$Editor" y_Ed_putEntry y_Ed_putEntry), (.selects "VolumeTurner$Editor" y_Ed_putFirstCluster y_Ed_putFirstCluster), (.selects "VolumeTurner$Editor" y_Ed_putPart y_Ed_putPart), (.selects "VolumeTurner$Editor" y_Ed_putDots y_Ed_putDots), (.selects "VolumeTurner$Editor" y_Ed_clustersFor y_Ed_clustersFor)]
theorem j_Ed_0 : (.initialized "VolumeTurner$Editor") ∈ K_Ed := List.mem_of_getElem? (i := 0) rfl
theorem j_Ed_1 : (.fieldLink "VolumeTurner$Editor" 62 "VolumeTurner$Table" "root" "I") ∈ K_Ed := List.mem_of_getElem? (i := 1) rfl
theorem j_Ed_2 : (.instantiable "VolumeTurner$Editor" 13) ∈ K_Ed := List.mem_of_getElem? (i := 2) rfl
theorem j_Ed_3 : (.instanceMethod y_Ed_init) ∈ K_Ed := List.mem_of_getElem? (i := 3) rfl
theorem j_Ed_4 : (.code y_Ed_init prog_4_method_1_code 4 none) ∈ K_Ed := List.mem_of_getElem? (i := 4) rfl
theorem j_Ed_5 : (.methodLink "VolumeTurner$Editor" 3 objectInit) ∈ K_Ed := List.mem_of_getElem? (i := 5) rfl
theorem j_Ed_6 : (.methodLink "VolumeTurner$Editor" 53 y_Tb_behind) ∈ K_Ed := List.mem_of_getElem? (i := 6) rfl
theorem j_Ed_7 : (.fieldLink "VolumeTurner$Editor" 41 "VolumeTurner$Editor" "disk" "LVolumeTurner$Disk;") ∈ K_Ed := List.mem_of_getElem? (i := 7) rfl
theorem j_Ed_8 : (.fieldLink "VolumeTurner$Editor" 45 "VolumeTurner$Editor" "table" "LVolumeTurner$Table;") ∈ K_Ed := List.mem_of_getElem? (i := 8) rfl
theorem j_Ed_9 : (.fieldLink "VolumeTurner$Editor" 49 "VolumeTurner$Editor" "tree" "LVolumeTurner$Tree;") ∈ K_Ed := List.mem_of_getElem? (i := 9) rfl
theorem j_Ed_10 : (.fieldLink "VolumeTurner$Editor" 59 "VolumeTurner$Editor" "road" "[I") ∈ K_Ed := List.mem_of_getElem? (i := 10) rfl
theorem j_Ed_11 : (.fieldLink "VolumeTurner$Editor" 9 "VolumeTurner$Editor" "roadLength" "I") ∈ K_Ed := List.mem_of_getElem? (i := 11) rfl
theorem j_Ed_12 : (.fieldLink "VolumeTurner$Editor" 15 "VolumeTurner$Editor" "units" "[I") ∈ K_Ed := List.mem_of_getElem? (i := 12) rfl
theorem j_Ed_13 : (.fieldLink "VolumeTurner$Editor" 19 "VolumeTurner$Editor" "unitCount" "I") ∈ K_Ed := List.mem_of_getElem? (i := 13) rfl
theorem j_Ed_14 : (.fieldLink "VolumeTurner$Editor" 22 "VolumeTurner$Editor" "shortName" "[I") ∈ K_Ed := List.mem_of_getElem? (i := 14) rfl
theorem j_Ed_15 : (.fieldLink "VolumeTurner$Editor" 25 "VolumeTurner$Editor" "plain" "Z") ∈ K_Ed := List.mem_of_getElem? (i := 15) rfl
theorem j_Ed_16 : (.fieldLink "VolumeTurner$Editor" 29 "VolumeTurner$Editor" "firstSlot" "I") ∈ K_Ed := List.mem_of_getElem? (i := 16) rfl
theorem j_Ed_17 : (.fieldLink "VolumeTurner$Editor" 32 "VolumeTurner$Editor" "slots" "I") ∈ K_Ed := List.mem_of_getElem? (i := 17) rfl
theorem j_Ed_18 : (.fieldLink "VolumeTurner$Editor" 35 "VolumeTurner$Editor" "unseen" "I") ∈ K_Ed := List.mem_of_getElem? (i := 18) rfl
theorem j_Ed_19 : (.fieldLink "VolumeTurner$Editor" 38 "VolumeTurner$Editor" "wanted" "I") ∈ K_Ed := List.mem_of_getElem? (i := 19) rfl
theorem j_Ed_20 : (.instanceMethod y_Ed_writeLabel) ∈ K_Ed := List.mem_of_getElem? (i := 20) rfl
theorem j_Ed_21 : (.selects "VolumeTurner$Editor" y_Ed_writeLabel y_Ed_writeLabel) ∈ K_Ed := List.mem_of_getElem? (i := 21) rfl
theorem j_Ed_22 : (.code y_Ed_writeLabel prog_4_method_2_code 5 none) ∈ K_Ed := List.mem_of_getElem? (i := 22) rfl
theorem j_Ed_23 : (.methodLink "VolumeTurner$Editor" 65 y_Tb_place) ∈ K_Ed := List.mem_of_getElem? (i := 23) rfl
theorem j_Ed_24 : (.methodLink "VolumeTurner$Editor" 69 y_Tp_one) ∈ K_Ed := List.mem_of_getElem? (i := 24) rfl
theorem j_Ed_25 : (.methodLink "VolumeTurner$Editor" 74 y_Dk_putOne) ∈ K_Ed := List.mem_of_getElem? (i := 25) rfl
theorem j_Ed_26 : (.methodLink "VolumeTurner$Editor" 82 y_Dk_putTwo) ∈ K_Ed := List.mem_of_getElem? (i := 26) rfl
theorem j_Ed_27 : (.instanceMethod y_Ed_placeOf) ∈ K_Ed := List.mem_of_getElem? (i := 27) rfl
theorem j_Ed_28 : (.selects "VolumeTurner$Editor" y_Ed_placeOf y_Ed_placeOf) ∈ K_Ed := List.mem_of_getElem? (i := 28) rfl
theorem j_Ed_29 : (.code y_Ed_placeOf prog_4_method_24_code 3 (some .int)) ∈ K_Ed := List.mem_of_getElem? (i := 29) rfl
theorem j_Ed_30 : (.methodLink "VolumeTurner$Editor" 143 y_Tr_firstOf) ∈ K_Ed := List.mem_of_getElem? (i := 30) rfl
theorem j_Ed_31 : (.methodLink "VolumeTurner$Editor" 146 y_Tb_road) ∈ K_Ed := List.mem_of_getElem? (i := 31) rfl
theorem j_Ed_32 : (.methodLink "VolumeTurner$Editor" 215 y_Ed_placeOnRoad) ∈ K_Ed := List.mem_of_getElem? (i := 32) rfl
theorem j_Ed_33 : (.instanceMethod y_Ed_placeOnRoad) ∈ K_Ed := List.mem_of_getElem? (i := 33) rfl
theorem j_Ed_34 : (.selects "VolumeTurner$Editor" y_Ed_placeOnRoad y_Ed_placeOnRoad) ∈ K_Ed := List.mem_of_getElem? (i := 34) rfl
theorem j_Ed_35 : (.code y_Ed_placeOnRoad prog_4_method_22_code 3 (some .int)) ∈ K_Ed := List.mem_of_getElem? (i := 35) rfl
theorem j_Ed_36 : (.methodLink "VolumeTurner$Editor" 203 y_Tb_clusterBytes) ∈ K_Ed := List.mem_of_getElem? (i := 36) rfl
theorem j_Ed_37 : (.instanceMethod y_Ed_readName) ∈ K_Ed := List.mem_of_getElem? (i := 37) rfl
theorem j_Ed_38 : (.selects "VolumeTurner$Editor" y_Ed_readName y_Ed_readName) ∈ K_Ed := List.mem_of_getElem? (i := 38) rfl
theorem j_Ed_39 : (.code y_Ed_readName prog_4_method_3_code 4 (some .boolean)) ∈ K_Ed := List.mem_of_getElem? (i := 39) rfl
theorem j_Ed_40 : (.methodLink "VolumeTurner$Editor" 85 y_Wo_isName) ∈ K_Ed := List.mem_of_getElem? (i := 40) rfl
theorem j_Ed_41 : (.methodLink "VolumeTurner$Editor" 91 y_Ed_takePlainName) ∈ K_Ed := List.mem_of_getElem? (i := 41) rfl
theorem j_Ed_42 : (.instanceMethod y_Ed_takePlainName) ∈ K_Ed := List.mem_of_getElem? (i := 42) rfl
theorem j_Ed_43 : (.code y_Ed_takePlainName prog_4_method_5_code 5 (some .boolean)) ∈ K_Ed := List.mem_of_getElem? (i := 43) rfl
theorem j_Ed_44 : (.methodLink "VolumeTurner$Editor" 95 y_Ed_lastPoint) ∈ K_Ed := List.mem_of_getElem? (i := 44) rfl
theorem j_Ed_45 : (.instanceMethod y_Ed_lastPoint) ∈ K_Ed := List.mem_of_getElem? (i := 45) rfl
theorem j_Ed_46 : (.code y_Ed_lastPoint prog_4_method_4_code 2 (some .int)) ∈ K_Ed := List.mem_of_getElem? (i := 46) rfl
theorem j_Ed_47 : (.methodLink "VolumeTurner$Editor" 98 ⟨"java/util/Arrays", "fill", "([II)V"⟩) ∈ K_Ed := List.mem_of_getElem? (i := 47) rfl
theorem j_Ed_48 : (.methodLink "VolumeTurner$Editor" 104 y_Wo_mayBeShort) ∈ K_Ed := List.mem_of_getElem? (i := 48) rfl
theorem j_Ed_49 : (.instanceMethod y_Ed_clashes) ∈ K_Ed := List.mem_of_getElem? (i := 49) rfl
theorem j_Ed_50 : (.selects "VolumeTurner$Editor" y_Ed_clashes y_Ed_clashes) ∈ K_Ed := List.mem_of_getElem? (i := 50) rfl
theorem j_Ed_51 : (.code y_Ed_clashes prog_4_method_6_code 4 (some .boolean)) ∈ K_Ed := List.mem_of_getElem? (i := 51) rfl
theorem j_Ed_52 : (.methodLink "VolumeTurner$Editor" 108 y_Tr_countIn) ∈ K_Ed := List.mem_of_getElem? (i := 52) rfl
theorem j_Ed_53 : (.methodLink "VolumeTurner$Editor" 113 y_Tr_kid) ∈ K_Ed := List.mem_of_getElem? (i := 53) rfl
theorem j_Ed_54 : (.methodLink "VolumeTurner$Editor" 117 y_Tr_isNamed) ∈ K_Ed := List.mem_of_getElem? (i := 54) rfl
theorem j_Ed_55 : (.methodLink "VolumeTurner$Editor" 121 y_Ed_hasShortName) ∈ K_Ed := List.mem_of_getElem? (i := 55) rfl
theorem j_Ed_56 : (.instanceMethod y_Ed_hasShortName) ∈ K_Ed := List.mem_of_getElem? (i := 56) rfl
theorem j_Ed_57 : (.code y_Ed_hasShortName prog_4_method_7_code 4 (some .boolean)) ∈ K_Ed := List.mem_of_getElem? (i := 57) rfl
theorem j_Ed_58 : (.methodLink "VolumeTurner$Editor" 124 y_Tr_spotOf) ∈ K_Ed := List.mem_of_getElem? (i := 58) rfl
theorem j_Ed_59 : (.methodLink "VolumeTurner$Editor" 127 y_Dk_one) ∈ K_Ed := List.mem_of_getElem? (i := 59) rfl
theorem j_Ed_60 : (.instanceMethod y_Ed_findSlots) ∈ K_Ed := List.mem_of_getElem? (i := 60) rfl
theorem j_Ed_61 : (.selects "VolumeTurner$Editor" y_Ed_findSlots y_Ed_findSlots) ∈ K_Ed := List.mem_of_getElem? (i := 61) rfl
theorem j_Ed_62 : (.code y_Ed_findSlots prog_4_method_11_code 8 (some .boolean)) ∈ K_Ed := List.mem_of_getElem? (i := 62) rfl
theorem j_Ed_63 : (.methodLink "VolumeTurner$Editor" 149 y_Tb_slotsOfCluster) ∈ K_Ed := List.mem_of_getElem? (i := 63) rfl
theorem j_Ed_64 : (.methodLink "VolumeTurner$Editor" 152 y_Ed_slotPlace) ∈ K_Ed := List.mem_of_getElem? (i := 64) rfl
theorem j_Ed_65 : (.instanceMethod y_Ed_slotPlace) ∈ K_Ed := List.mem_of_getElem? (i := 65) rfl
theorem j_Ed_66 : (.code y_Ed_slotPlace prog_4_method_12_code 2 (some .int)) ∈ K_Ed := List.mem_of_getElem? (i := 66) rfl
theorem j_Ed_67 : (.methodLink "VolumeTurner$Editor" 158 y_Tb_slotPlace) ∈ K_Ed := List.mem_of_getElem? (i := 67) rfl
theorem j_Ed_68 : (.methodLink "VolumeTurner$Editor" 155 y_Tb_countFree) ∈ K_Ed := List.mem_of_getElem? (i := 68) rfl
theorem j_Ed_69 : (.instanceMethod y_Ed_addItem) ∈ K_Ed := List.mem_of_getElem? (i := 69) rfl
theorem j_Ed_70 : (.selects "VolumeTurner$Editor" y_Ed_addItem y_Ed_addItem) ∈ K_Ed := List.mem_of_getElem? (i := 70) rfl
theorem j_Ed_71 : (.code y_Ed_addItem prog_4_method_13_code 6 (some .int)) ∈ K_Ed := List.mem_of_getElem? (i := 71) rfl
theorem j_Ed_72 : (.methodLink "VolumeTurner$Editor" 161 y_Ed_inventShortName) ∈ K_Ed := List.mem_of_getElem? (i := 72) rfl
theorem j_Ed_73 : (.instanceMethod y_Ed_inventShortName) ∈ K_Ed := List.mem_of_getElem? (i := 73) rfl
theorem j_Ed_74 : (.code y_Ed_inventShortName prog_4_method_10_code 10 none) ∈ K_Ed := List.mem_of_getElem? (i := 74) rfl
theorem j_Ed_75 : (.methodLink "VolumeTurner$Editor" 131 ⟨"java/lang/Math", "max", "(II)I"⟩) ∈ K_Ed := List.mem_of_getElem? (i := 75) rfl
theorem j_Ed_76 : (.methodLink "VolumeTurner$Editor" 136 y_Ed_squeeze) ∈ K_Ed := List.mem_of_getElem? (i := 76) rfl
theorem j_Ed_77 : (.instanceMethod y_Ed_squeeze) ∈ K_Ed := List.mem_of_getElem? (i := 77) rfl
theorem j_Ed_78 : (.code y_Ed_squeeze prog_4_method_9_code 8 (some .int)) ∈ K_Ed := List.mem_of_getElem? (i := 78) rfl
theorem j_Ed_79 : (.methodLink "VolumeTurner$Editor" 128 y_Wo_capital) ∈ K_Ed := List.mem_of_getElem? (i := 79) rfl
theorem j_Ed_80 : (.methodLink "VolumeTurner$Editor" 140 y_Ed_isShortNameTaken) ∈ K_Ed := List.mem_of_getElem? (i := 80) rfl
theorem j_Ed_81 : (.instanceMethod y_Ed_isShortNameTaken) ∈ K_Ed := List.mem_of_getElem? (i := 81) rfl
theorem j_Ed_82 : (.code y_Ed_isShortNameTaken prog_4_method_8_code 3 (some .boolean)) ∈ K_Ed := List.mem_of_getElem? (i := 82) rfl
theorem j_Ed_83 : (.methodLink "VolumeTurner$Editor" 165 y_Tb_takeFree) ∈ K_Ed := List.mem_of_getElem? (i := 83) rfl
theorem j_Ed_84 : (.methodLink "VolumeTurner$Editor" 168 y_Ed_lengthenRoad) ∈ K_Ed := List.mem_of_getElem? (i := 84) rfl
theorem j_Ed_85 : (.instanceMethod y_Ed_lengthenRoad) ∈ K_Ed := List.mem_of_getElem? (i := 85) rfl
theorem j_Ed_86 : (.code y_Ed_lengthenRoad prog_4_method_14_code 2 none) ∈ K_Ed := List.mem_of_getElem? (i := 86) rfl
theorem j_Ed_87 : (.methodLink "VolumeTurner$Editor" 184 y_Tb_link) ∈ K_Ed := List.mem_of_getElem? (i := 87) rfl
theorem j_Ed_88 : (.methodLink "VolumeTurner$Editor" 171 y_Ed_putEntry) ∈ K_Ed := List.mem_of_getElem? (i := 88) rfl
theorem j_Ed_89 : (.instanceMethod y_Ed_putEntry) ∈ K_Ed := List.mem_of_getElem? (i := 89) rfl
theorem j_Ed_90 : (.code y_Ed_putEntry prog_4_method_15_code 5 none) ∈ K_Ed := List.mem_of_getElem? (i := 90) rfl
theorem j_Ed_91 : (.methodLink "VolumeTurner$Editor" 187 y_Dk_zero) ∈ K_Ed := List.mem_of_getElem? (i := 91) rfl
theorem j_Ed_92 : (.methodLink "VolumeTurner$Editor" 190 y_Ed_putFirstCluster) ∈ K_Ed := List.mem_of_getElem? (i := 92) rfl
theorem j_Ed_93 : (.instanceMethod y_Ed_putFirstCluster) ∈ K_Ed := List.mem_of_getElem? (i := 93) rfl
theorem j_Ed_94 : (.code y_Ed_putFirstCluster prog_4_method_16_code 3 none) ∈ K_Ed := List.mem_of_getElem? (i := 94) rfl
theorem j_Ed_95 : (.methodLink "VolumeTurner$Editor" 175 y_Ed_putPart) ∈ K_Ed := List.mem_of_getElem? (i := 95) rfl
theorem j_Ed_96 : (.instanceMethod y_Ed_putPart) ∈ K_Ed := List.mem_of_getElem? (i := 96) rfl
theorem j_Ed_97 : (.code y_Ed_putPart prog_4_method_17_code 6 none) ∈ K_Ed := List.mem_of_getElem? (i := 97) rfl
theorem j_Ed_98 : (.methodLink "VolumeTurner$Editor" 193 y_Wo_sum) ∈ K_Ed := List.mem_of_getElem? (i := 98) rfl
theorem j_Ed_99 : (.constant "VolumeTurner$Editor" 197 (65535 : Int32)) ∈ K_Ed := List.mem_of_getElem? (i := 99) rfl
theorem j_Ed_100 : (.methodLink "VolumeTurner$Editor" 198 y_Rd_unitPlace) ∈ K_Ed := List.mem_of_getElem? (i := 100) rfl
theorem j_Ed_101 : (.methodLink "VolumeTurner$Editor" 178 y_Ed_putDots) ∈ K_Ed := List.mem_of_getElem? (i := 101) rfl
theorem j_Ed_102 : (.instanceMethod y_Ed_putDots) ∈ K_Ed := List.mem_of_getElem? (i := 102) rfl
theorem j_Ed_103 : (.code y_Ed_putDots prog_4_method_18_code 6 none) ∈ K_Ed := List.mem_of_getElem? (i := 103) rfl
theorem j_Ed_104 : (.methodLink "VolumeTurner$Editor" 181 y_Tr_slotOf) ∈ K_Ed := List.mem_of_getElem? (i := 104) rfl
theorem j_Ed_105 : (.instanceMethod y_Ed_canHold) ∈ K_Ed := List.mem_of_getElem? (i := 105) rfl
theorem j_Ed_106 : (.selects "VolumeTurner$Editor" y_Ed_canHold y_Ed_canHold) ∈ K_Ed := List.mem_of_getElem? (i := 106) rfl
theorem j_Ed_107 : (.code y_Ed_canHold prog_4_method_20_code 4 (some .boolean)) ∈ K_Ed := List.mem_of_getElem? (i := 107) rfl
theorem j_Ed_108 : (.methodLink "VolumeTurner$Editor" 206 y_Tr_sizeOf) ∈ K_Ed := List.mem_of_getElem? (i := 108) rfl
theorem j_Ed_109 : (.methodLink "VolumeTurner$Editor" 209 y_Ed_clustersFor) ∈ K_Ed := List.mem_of_getElem? (i := 109) rfl
theorem j_Ed_110 : (.instanceMethod y_Ed_clustersFor) ∈ K_Ed := List.mem_of_getElem? (i := 110) rfl
theorem j_Ed_111 : (.code y_Ed_clustersFor prog_4_method_19_code 3 (some .int)) ∈ K_Ed := List.mem_of_getElem? (i := 111) rfl
theorem j_Ed_112 : (.instanceMethod y_Ed_lengthen) ∈ K_Ed := List.mem_of_getElem? (i := 112) rfl
theorem j_Ed_113 : (.selects "VolumeTurner$Editor" y_Ed_lengthen y_Ed_lengthen) ∈ K_Ed := List.mem_of_getElem? (i := 113) rfl
theorem j_Ed_114 : (.code y_Ed_lengthen prog_4_method_21_code 7 none) ∈ K_Ed := List.mem_of_getElem? (i := 114) rfl
theorem j_Ed_115 : (.methodLink "VolumeTurner$Editor" 212 y_Dk_putFour) ∈ K_Ed := List.mem_of_getElem? (i := 115) rfl
theorem j_Ed_116 : (.instanceMethod y_Ed_placeBehind) ∈ K_Ed := List.mem_of_getElem? (i := 116) rfl
theorem j_Ed_117 : (.selects "VolumeTurner$Editor" y_Ed_placeBehind y_Ed_placeBehind) ∈ K_Ed := List.mem_of_getElem? (i := 117) rfl
theorem j_Ed_118 : (.code y_Ed_placeBehind prog_4_method_23_code 3 (some .int)) ∈ K_Ed := List.mem_of_getElem? (i := 118) rfl
theorem j_Ed_119 : (.instanceMethod y_Ed_shorten) ∈ K_Ed := List.mem_of_getElem? (i := 119) rfl
theorem j_Ed_120 : (.selects "VolumeTurner$Editor" y_Ed_shorten y_Ed_shorten) ∈ K_Ed := List.mem_of_getElem? (i := 120) rfl
theorem j_Ed_121 : (.code y_Ed_shorten prog_4_method_25_code 6 (some .int)) ∈ K_Ed := List.mem_of_getElem? (i := 121) rfl
theorem j_Ed_122 : (.constant "VolumeTurner$Editor" 218 (268435455 : Int32)) ∈ K_Ed := List.mem_of_getElem? (i := 122) rfl
theorem j_Ed_123 : (.instanceMethod y_Ed_dropItem) ∈ K_Ed := List.mem_of_getElem? (i := 123) rfl
theorem j_Ed_124 : (.selects "VolumeTurner$Editor" y_Ed_dropItem y_Ed_dropItem) ∈ K_Ed := List.mem_of_getElem? (i := 124) rfl
theorem j_Ed_125 : (.code y_Ed_dropItem prog_4_method_26_code 5 none) ∈ K_Ed := List.mem_of_getElem? (i := 125) rfl
theorem j_Ed_126 : (.methodLink "VolumeTurner$Editor" 219 y_Tr_partsOf) ∈ K_Ed := List.mem_of_getElem? (i := 126) rfl
theorem j_Ed_127 : (.instanceMethod y_Ed_putStamp) ∈ K_Ed := List.mem_of_getElem? (i := 127) rfl
theorem j_Ed_128 : (.selects "VolumeTurner$Editor" y_Ed_putStamp y_Ed_putStamp) ∈ K_Ed := List.mem_of_getElem? (i := 128) rfl
theorem j_Ed_129 : (.code y_Ed_putStamp prog_4_method_27_code 5 none) ∈ K_Ed := List.mem_of_getElem? (i := 129) rfl
theorem j_Ed_130 : (.selects "VolumeTurner$Editor" y_Ed_lastPoint y_Ed_lastPoint) ∈ K_Ed := List.mem_of_getElem? (i := 130) rfl
theorem j_Ed_131 : (.selects "VolumeTurner$Editor" y_Ed_takePlainName y_Ed_takePlainName) ∈ K_Ed := List.mem_of_getElem? (i := 131) rfl
theorem j_Ed_132 : (.selects "VolumeTurner$Editor" y_Ed_hasShortName y_Ed_hasShortName) ∈ K_Ed := List.mem_of_getElem? (i := 132) rfl
theorem j_Ed_133 : (.selects "VolumeTurner$Editor" y_Ed_isShortNameTaken y_Ed_isShortNameTaken) ∈ K_Ed := List.mem_of_getElem? (i := 133) rfl
theorem j_Ed_134 : (.selects "VolumeTurner$Editor" y_Ed_squeeze y_Ed_squeeze) ∈ K_Ed := List.mem_of_getElem? (i := 134) rfl
theorem j_Ed_135 : (.selects "VolumeTurner$Editor" y_Ed_inventShortName y_Ed_inventShortName) ∈ K_Ed := List.mem_of_getElem? (i := 135) rfl
theorem j_Ed_136 : (.selects "VolumeTurner$Editor" y_Ed_slotPlace y_Ed_slotPlace) ∈ K_Ed := List.mem_of_getElem? (i := 136) rfl
theorem j_Ed_137 : (.selects "VolumeTurner$Editor" y_Ed_lengthenRoad y_Ed_lengthenRoad) ∈ K_Ed := List.mem_of_getElem? (i := 137) rfl
theorem j_Ed_138 : (.selects "VolumeTurner$Editor" y_Ed_putEntry y_Ed_putEntry) ∈ K_Ed := List.mem_of_getElem? (i := 138) rfl
theorem j_Ed_139 : (.selects "VolumeTurner$Editor" y_Ed_putFirstCluster y_Ed_putFirstCluster) ∈ K_Ed := List.mem_of_getElem? (i := 139) rfl
theorem j_Ed_140 : (.selects "VolumeTurner$Editor" y_Ed_putPart y_Ed_putPart) ∈ K_Ed := List.mem_of_getElem? (i := 140) rfl
theorem j_Ed_141 : (.selects "VolumeTurner$Editor" y_Ed_putDots y_Ed_putDots) ∈ K_Ed := List.mem_of_getElem? (i := 141) rfl
theorem j_Ed_142 : (.selects "VolumeTurner$Editor" y_Ed_clustersFor y_Ed_clustersFor) ∈ K_Ed := List.mem_of_getElem? (i := 142) rfl
def V_Ed : List Cond := w_Ed ++ (K_Ed ++ V_Rd)
theorem i_Ed : ∀ w ∈ w_Ed, w ∈ V_Ed := fun _ h => List.mem_append_left _ h
theorem kk_Ed : ∀ w ∈ K_Ed, w ∈ V_Ed := fun _ h => List.mem_append_right _ (List.mem_append_left _ h)
theorem u_Ed_Rd : ∀ w ∈ V_Rd, w ∈ V_Ed := fun _ h => List.mem_append_right _ (List.mem_append_right _ h)
theorem u_Ed_J : ∀ w ∈ V_J, w ∈ V_Ed := fun w h => u_Ed_Rd w (u_Rd_J w h)
theorem u_Ed_Dk : ∀ w ∈ V_Dk, w ∈ V_Ed := fun w h => u_Ed_Rd w (u_Rd_Dk w h)
theorem u_Ed_Wo : ∀ w ∈ V_Wo, w ∈ V_Ed := fun w h => u_Ed_Rd w (u_Rd_Wo w h)
theorem u_Ed_Da : ∀ w ∈ V_Da, w ∈ V_Ed := fun w h => u_Ed_Rd w (u_Rd_Da w h)
theorem u_Ed_Tp : ∀ w ∈ V_Tp, w ∈ V_Ed := fun w h => u_Ed_Rd w (u_Rd_Tp w h)
theorem u_Ed_Tb : ∀ w ∈ V_Tb, w ∈ V_Ed := fun w h => u_Ed_Rd w (u_Rd_Tb w h)
theorem u_Ed_Tr : ∀ w ∈ V_Tr, w ∈ V_Ed := fun w h => u_Ed_Rd w (u_Rd_Tr w h)
theorem u_Ed_In : ∀ w ∈ V_In, w ∈ V_Ed := fun w h => u_Ed_Rd w (u_Rd_In w h)
theorem k_Ed_0 : (.initialized "VolumeTurner$Editor") ∈ V_Ed := kk_Ed _ j_Ed_0
theorem k_Ed_1 : (.fieldLink "VolumeTurner$Editor" 62 "VolumeTurner$Table" "root" "I") ∈ V_Ed := kk_Ed _ j_Ed_1
theorem k_Ed_2 : (.instantiable "VolumeTurner$Editor" 13) ∈ V_Ed := kk_Ed _ j_Ed_2
theorem k_Ed_3 : (.instanceMethod y_Ed_init) ∈ V_Ed := kk_Ed _ j_Ed_3
theorem k_Ed_4 : (.code y_Ed_init prog_4_method_1_code 4 none) ∈ V_Ed := kk_Ed _ j_Ed_4
theorem k_Ed_5 : (.methodLink "VolumeTurner$Editor" 3 objectInit) ∈ V_Ed := kk_Ed _ j_Ed_5
theorem k_Ed_6 : (.methodLink "VolumeTurner$Editor" 53 y_Tb_behind) ∈ V_Ed := kk_Ed _ j_Ed_6
theorem k_Ed_7 : (.fieldLink "VolumeTurner$Editor" 41 "VolumeTurner$Editor" "disk" "LVolumeTurner$Disk;") ∈ V_Ed := kk_Ed _ j_Ed_7
theorem k_Ed_8 : (.fieldLink "VolumeTurner$Editor" 45 "VolumeTurner$Editor" "table" "LVolumeTurner$Table;") ∈ V_Ed := kk_Ed _ j_Ed_8
theorem k_Ed_9 : (.fieldLink "VolumeTurner$Editor" 49 "VolumeTurner$Editor" "tree" "LVolumeTurner$Tree;") ∈ V_Ed := kk_Ed _ j_Ed_9
theorem k_Ed_10 : (.fieldLink "VolumeTurner$Editor" 59 "VolumeTurner$Editor" "road" "[I") ∈ V_Ed := kk_Ed _ j_Ed_10
theorem k_Ed_11 : (.fieldLink "VolumeTurner$Editor" 9 "VolumeTurner$Editor" "roadLength" "I") ∈ V_Ed := kk_Ed _ j_Ed_11
theorem k_Ed_12 : (.fieldLink "VolumeTurner$Editor" 15 "VolumeTurner$Editor" "units" "[I") ∈ V_Ed := kk_Ed _ j_Ed_12
theorem k_Ed_13 : (.fieldLink "VolumeTurner$Editor" 19 "VolumeTurner$Editor" "unitCount" "I") ∈ V_Ed := kk_Ed _ j_Ed_13
theorem k_Ed_14 : (.fieldLink "VolumeTurner$Editor" 22 "VolumeTurner$Editor" "shortName" "[I") ∈ V_Ed := kk_Ed _ j_Ed_14
theorem k_Ed_15 : (.fieldLink "VolumeTurner$Editor" 25 "VolumeTurner$Editor" "plain" "Z") ∈ V_Ed := kk_Ed _ j_Ed_15
theorem k_Ed_16 : (.fieldLink "VolumeTurner$Editor" 29 "VolumeTurner$Editor" "firstSlot" "I") ∈ V_Ed := kk_Ed _ j_Ed_16
theorem k_Ed_17 : (.fieldLink "VolumeTurner$Editor" 32 "VolumeTurner$Editor" "slots" "I") ∈ V_Ed := kk_Ed _ j_Ed_17
theorem k_Ed_18 : (.fieldLink "VolumeTurner$Editor" 35 "VolumeTurner$Editor" "unseen" "I") ∈ V_Ed := kk_Ed _ j_Ed_18
theorem k_Ed_19 : (.fieldLink "VolumeTurner$Editor" 38 "VolumeTurner$Editor" "wanted" "I") ∈ V_Ed := kk_Ed _ j_Ed_19
theorem k_Ed_20 : (.instanceMethod y_Ed_writeLabel) ∈ V_Ed := kk_Ed _ j_Ed_20
theorem k_Ed_21 : (.selects "VolumeTurner$Editor" y_Ed_writeLabel y_Ed_writeLabel) ∈ V_Ed := kk_Ed _ j_Ed_21
theorem k_Ed_22 : (.code y_Ed_writeLabel prog_4_method_2_code 5 none) ∈ V_Ed := kk_Ed _ j_Ed_22
theorem k_Ed_23 : (.methodLink "VolumeTurner$Editor" 65 y_Tb_place) ∈ V_Ed := kk_Ed _ j_Ed_23
theorem k_Ed_24 : (.methodLink "VolumeTurner$Editor" 69 y_Tp_one) ∈ V_Ed := kk_Ed _ j_Ed_24
theorem k_Ed_25 : (.methodLink "VolumeTurner$Editor" 74 y_Dk_putOne) ∈ V_Ed := kk_Ed _ j_Ed_25
theorem k_Ed_26 : (.methodLink "VolumeTurner$Editor" 82 y_Dk_putTwo) ∈ V_Ed := kk_Ed _ j_Ed_26
theorem k_Ed_27 : (.instanceMethod y_Ed_placeOf) ∈ V_Ed := kk_Ed _ j_Ed_27
theorem k_Ed_28 : (.selects "VolumeTurner$Editor" y_Ed_placeOf y_Ed_placeOf) ∈ V_Ed := kk_Ed _ j_Ed_28
theorem k_Ed_29 : (.code y_Ed_placeOf prog_4_method_24_code 3 (some .int)) ∈ V_Ed := kk_Ed _ j_Ed_29
theorem k_Ed_30 : (.methodLink "VolumeTurner$Editor" 143 y_Tr_firstOf) ∈ V_Ed := kk_Ed _ j_Ed_30
theorem k_Ed_31 : (.methodLink "VolumeTurner$Editor" 146 y_Tb_road) ∈ V_Ed := kk_Ed _ j_Ed_31
theorem k_Ed_32 : (.methodLink "VolumeTurner$Editor" 215 y_Ed_placeOnRoad) ∈ V_Ed := kk_Ed _ j_Ed_32
theorem k_Ed_33 : (.instanceMethod y_Ed_placeOnRoad) ∈ V_Ed := kk_Ed _ j_Ed_33
theorem k_Ed_34 : (.selects "VolumeTurner$Editor" y_Ed_placeOnRoad y_Ed_placeOnRoad) ∈ V_Ed := kk_Ed _ j_Ed_34
theorem k_Ed_35 : (.code y_Ed_placeOnRoad prog_4_method_22_code 3 (some .int)) ∈ V_Ed := kk_Ed _ j_Ed_35
theorem k_Ed_36 : (.methodLink "VolumeTurner$Editor" 203 y_Tb_clusterBytes) ∈ V_Ed := kk_Ed _ j_Ed_36
theorem k_Ed_37 : (.instanceMethod y_Ed_readName) ∈ V_Ed := kk_Ed _ j_Ed_37
theorem k_Ed_38 : (.selects "VolumeTurner$Editor" y_Ed_readName y_Ed_readName) ∈ V_Ed := kk_Ed _ j_Ed_38
theorem k_Ed_39 : (.code y_Ed_readName prog_4_method_3_code 4 (some .boolean)) ∈ V_Ed := kk_Ed _ j_Ed_39
theorem k_Ed_40 : (.methodLink "VolumeTurner$Editor" 85 y_Wo_isName) ∈ V_Ed := kk_Ed _ j_Ed_40
theorem k_Ed_41 : (.methodLink "VolumeTurner$Editor" 91 y_Ed_takePlainName) ∈ V_Ed := kk_Ed _ j_Ed_41
theorem k_Ed_42 : (.instanceMethod y_Ed_takePlainName) ∈ V_Ed := kk_Ed _ j_Ed_42
theorem k_Ed_43 : (.code y_Ed_takePlainName prog_4_method_5_code 5 (some .boolean)) ∈ V_Ed := kk_Ed _ j_Ed_43
theorem k_Ed_44 : (.methodLink "VolumeTurner$Editor" 95 y_Ed_lastPoint) ∈ V_Ed := kk_Ed _ j_Ed_44
theorem k_Ed_45 : (.instanceMethod y_Ed_lastPoint) ∈ V_Ed := kk_Ed _ j_Ed_45
theorem k_Ed_46 : (.code y_Ed_lastPoint prog_4_method_4_code 2 (some .int)) ∈ V_Ed := kk_Ed _ j_Ed_46
theorem k_Ed_47 : (.methodLink "VolumeTurner$Editor" 98 ⟨"java/util/Arrays", "fill", "([II)V"⟩) ∈ V_Ed := kk_Ed _ j_Ed_47
theorem k_Ed_48 : (.methodLink "VolumeTurner$Editor" 104 y_Wo_mayBeShort) ∈ V_Ed := kk_Ed _ j_Ed_48
theorem k_Ed_49 : (.instanceMethod y_Ed_clashes) ∈ V_Ed := kk_Ed _ j_Ed_49
theorem k_Ed_50 : (.selects "VolumeTurner$Editor" y_Ed_clashes y_Ed_clashes) ∈ V_Ed := kk_Ed _ j_Ed_50
theorem k_Ed_51 : (.code y_Ed_clashes prog_4_method_6_code 4 (some .boolean)) ∈ V_Ed := kk_Ed _ j_Ed_51
theorem k_Ed_52 : (.methodLink "VolumeTurner$Editor" 108 y_Tr_countIn) ∈ V_Ed := kk_Ed _ j_Ed_52
theorem k_Ed_53 : (.methodLink "VolumeTurner$Editor" 113 y_Tr_kid) ∈ V_Ed := kk_Ed _ j_Ed_53
theorem k_Ed_54 : (.methodLink "VolumeTurner$Editor" 117 y_Tr_isNamed) ∈ V_Ed := kk_Ed _ j_Ed_54
theorem k_Ed_55 : (.methodLink "VolumeTurner$Editor" 121 y_Ed_hasShortName) ∈ V_Ed := kk_Ed _ j_Ed_55
theorem k_Ed_56 : (.instanceMethod y_Ed_hasShortName) ∈ V_Ed := kk_Ed _ j_Ed_56
theorem k_Ed_57 : (.code y_Ed_hasShortName prog_4_method_7_code 4 (some .boolean)) ∈ V_Ed := kk_Ed _ j_Ed_57
theorem k_Ed_58 : (.methodLink "VolumeTurner$Editor" 124 y_Tr_spotOf) ∈ V_Ed := kk_Ed _ j_Ed_58
theorem k_Ed_59 : (.methodLink "VolumeTurner$Editor" 127 y_Dk_one) ∈ V_Ed := kk_Ed _ j_Ed_59
theorem k_Ed_60 : (.instanceMethod y_Ed_findSlots) ∈ V_Ed := kk_Ed _ j_Ed_60
theorem k_Ed_61 : (.selects "VolumeTurner$Editor" y_Ed_findSlots y_Ed_findSlots) ∈ V_Ed := kk_Ed _ j_Ed_61
theorem k_Ed_62 : (.code y_Ed_findSlots prog_4_method_11_code 8 (some .boolean)) ∈ V_Ed := kk_Ed _ j_Ed_62
theorem k_Ed_63 : (.methodLink "VolumeTurner$Editor" 149 y_Tb_slotsOfCluster) ∈ V_Ed := kk_Ed _ j_Ed_63
theorem k_Ed_64 : (.methodLink "VolumeTurner$Editor" 152 y_Ed_slotPlace) ∈ V_Ed := kk_Ed _ j_Ed_64
theorem k_Ed_65 : (.instanceMethod y_Ed_slotPlace) ∈ V_Ed := kk_Ed _ j_Ed_65
theorem k_Ed_66 : (.code y_Ed_slotPlace prog_4_method_12_code 2 (some .int)) ∈ V_Ed := kk_Ed _ j_Ed_66
theorem k_Ed_67 : (.methodLink "VolumeTurner$Editor" 158 y_Tb_slotPlace) ∈ V_Ed := kk_Ed _ j_Ed_67
theorem k_Ed_68 : (.methodLink "VolumeTurner$Editor" 155 y_Tb_countFree) ∈ V_Ed := kk_Ed _ j_Ed_68
theorem k_Ed_69 : (.instanceMethod y_Ed_addItem) ∈ V_Ed := kk_Ed _ j_Ed_69
theorem k_Ed_70 : (.selects "VolumeTurner$Editor" y_Ed_addItem y_Ed_addItem) ∈ V_Ed := kk_Ed _ j_Ed_70
theorem k_Ed_71 : (.code y_Ed_addItem prog_4_method_13_code 6 (some .int)) ∈ V_Ed := kk_Ed _ j_Ed_71
theorem k_Ed_72 : (.methodLink "VolumeTurner$Editor" 161 y_Ed_inventShortName) ∈ V_Ed := kk_Ed _ j_Ed_72
theorem k_Ed_73 : (.instanceMethod y_Ed_inventShortName) ∈ V_Ed := kk_Ed _ j_Ed_73
theorem k_Ed_74 : (.code y_Ed_inventShortName prog_4_method_10_code 10 none) ∈ V_Ed := kk_Ed _ j_Ed_74
theorem k_Ed_75 : (.methodLink "VolumeTurner$Editor" 131 ⟨"java/lang/Math", "max", "(II)I"⟩) ∈ V_Ed := kk_Ed _ j_Ed_75
theorem k_Ed_76 : (.methodLink "VolumeTurner$Editor" 136 y_Ed_squeeze) ∈ V_Ed := kk_Ed _ j_Ed_76
theorem k_Ed_77 : (.instanceMethod y_Ed_squeeze) ∈ V_Ed := kk_Ed _ j_Ed_77
theorem k_Ed_78 : (.code y_Ed_squeeze prog_4_method_9_code 8 (some .int)) ∈ V_Ed := kk_Ed _ j_Ed_78
theorem k_Ed_79 : (.methodLink "VolumeTurner$Editor" 128 y_Wo_capital) ∈ V_Ed := kk_Ed _ j_Ed_79
theorem k_Ed_80 : (.methodLink "VolumeTurner$Editor" 140 y_Ed_isShortNameTaken) ∈ V_Ed := kk_Ed _ j_Ed_80
theorem k_Ed_81 : (.instanceMethod y_Ed_isShortNameTaken) ∈ V_Ed := kk_Ed _ j_Ed_81
theorem k_Ed_82 : (.code y_Ed_isShortNameTaken prog_4_method_8_code 3 (some .boolean)) ∈ V_Ed := kk_Ed _ j_Ed_82
theorem k_Ed_83 : (.methodLink "VolumeTurner$Editor" 165 y_Tb_takeFree) ∈ V_Ed := kk_Ed _ j_Ed_83
theorem k_Ed_84 : (.methodLink "VolumeTurner$Editor" 168 y_Ed_lengthenRoad) ∈ V_Ed := kk_Ed _ j_Ed_84
theorem k_Ed_85 : (.instanceMethod y_Ed_lengthenRoad) ∈ V_Ed := kk_Ed _ j_Ed_85
theorem k_Ed_86 : (.code y_Ed_lengthenRoad prog_4_method_14_code 2 none) ∈ V_Ed := kk_Ed _ j_Ed_86
theorem k_Ed_87 : (.methodLink "VolumeTurner$Editor" 184 y_Tb_link) ∈ V_Ed := kk_Ed _ j_Ed_87
theorem k_Ed_88 : (.methodLink "VolumeTurner$Editor" 171 y_Ed_putEntry) ∈ V_Ed := kk_Ed _ j_Ed_88
theorem k_Ed_89 : (.instanceMethod y_Ed_putEntry) ∈ V_Ed := kk_Ed _ j_Ed_89
theorem k_Ed_90 : (.code y_Ed_putEntry prog_4_method_15_code 5 none) ∈ V_Ed := kk_Ed _ j_Ed_90
theorem k_Ed_91 : (.methodLink "VolumeTurner$Editor" 187 y_Dk_zero) ∈ V_Ed := kk_Ed _ j_Ed_91
theorem k_Ed_92 : (.methodLink "VolumeTurner$Editor" 190 y_Ed_putFirstCluster) ∈ V_Ed := kk_Ed _ j_Ed_92
theorem k_Ed_93 : (.instanceMethod y_Ed_putFirstCluster) ∈ V_Ed := kk_Ed _ j_Ed_93
theorem k_Ed_94 : (.code y_Ed_putFirstCluster prog_4_method_16_code 3 none) ∈ V_Ed := kk_Ed _ j_Ed_94
theorem k_Ed_95 : (.methodLink "VolumeTurner$Editor" 175 y_Ed_putPart) ∈ V_Ed := kk_Ed _ j_Ed_95
theorem k_Ed_96 : (.instanceMethod y_Ed_putPart) ∈ V_Ed := kk_Ed _ j_Ed_96
theorem k_Ed_97 : (.code y_Ed_putPart prog_4_method_17_code 6 none) ∈ V_Ed := kk_Ed _ j_Ed_97
theorem k_Ed_98 : (.methodLink "VolumeTurner$Editor" 193 y_Wo_sum) ∈ V_Ed := kk_Ed _ j_Ed_98
theorem k_Ed_99 : (.constant "VolumeTurner$Editor" 197 (65535 : Int32)) ∈ V_Ed := kk_Ed _ j_Ed_99
theorem k_Ed_100 : (.methodLink "VolumeTurner$Editor" 198 y_Rd_unitPlace) ∈ V_Ed := kk_Ed _ j_Ed_100
theorem k_Ed_101 : (.methodLink "VolumeTurner$Editor" 178 y_Ed_putDots) ∈ V_Ed := kk_Ed _ j_Ed_101
theorem k_Ed_102 : (.instanceMethod y_Ed_putDots) ∈ V_Ed := kk_Ed _ j_Ed_102
theorem k_Ed_103 : (.code y_Ed_putDots prog_4_method_18_code 6 none) ∈ V_Ed := kk_Ed _ j_Ed_103
theorem k_Ed_104 : (.methodLink "VolumeTurner$Editor" 181 y_Tr_slotOf) ∈ V_Ed := kk_Ed _ j_Ed_104
theorem k_Ed_105 : (.instanceMethod y_Ed_canHold) ∈ V_Ed := kk_Ed _ j_Ed_105
theorem k_Ed_106 : (.selects "VolumeTurner$Editor" y_Ed_canHold y_Ed_canHold) ∈ V_Ed := kk_Ed _ j_Ed_106
theorem k_Ed_107 : (.code y_Ed_canHold prog_4_method_20_code 4 (some .boolean)) ∈ V_Ed := kk_Ed _ j_Ed_107
theorem k_Ed_108 : (.methodLink "VolumeTurner$Editor" 206 y_Tr_sizeOf) ∈ V_Ed := kk_Ed _ j_Ed_108
theorem k_Ed_109 : (.methodLink "VolumeTurner$Editor" 209 y_Ed_clustersFor) ∈ V_Ed := kk_Ed _ j_Ed_109
theorem k_Ed_110 : (.instanceMethod y_Ed_clustersFor) ∈ V_Ed := kk_Ed _ j_Ed_110
theorem k_Ed_111 : (.code y_Ed_clustersFor prog_4_method_19_code 3 (some .int)) ∈ V_Ed := kk_Ed _ j_Ed_111
theorem k_Ed_112 : (.instanceMethod y_Ed_lengthen) ∈ V_Ed := kk_Ed _ j_Ed_112
theorem k_Ed_113 : (.selects "VolumeTurner$Editor" y_Ed_lengthen y_Ed_lengthen) ∈ V_Ed := kk_Ed _ j_Ed_113
theorem k_Ed_114 : (.code y_Ed_lengthen prog_4_method_21_code 7 none) ∈ V_Ed := kk_Ed _ j_Ed_114
theorem k_Ed_115 : (.methodLink "VolumeTurner$Editor" 212 y_Dk_putFour) ∈ V_Ed := kk_Ed _ j_Ed_115
theorem k_Ed_116 : (.instanceMethod y_Ed_placeBehind) ∈ V_Ed := kk_Ed _ j_Ed_116
theorem k_Ed_117 : (.selects "VolumeTurner$Editor" y_Ed_placeBehind y_Ed_placeBehind) ∈ V_Ed := kk_Ed _ j_Ed_117
theorem k_Ed_118 : (.code y_Ed_placeBehind prog_4_method_23_code 3 (some .int)) ∈ V_Ed := kk_Ed _ j_Ed_118
theorem k_Ed_119 : (.instanceMethod y_Ed_shorten) ∈ V_Ed := kk_Ed _ j_Ed_119
theorem k_Ed_120 : (.selects "VolumeTurner$Editor" y_Ed_shorten y_Ed_shorten) ∈ V_Ed := kk_Ed _ j_Ed_120
theorem k_Ed_121 : (.code y_Ed_shorten prog_4_method_25_code 6 (some .int)) ∈ V_Ed := kk_Ed _ j_Ed_121
theorem k_Ed_122 : (.constant "VolumeTurner$Editor" 218 (268435455 : Int32)) ∈ V_Ed := kk_Ed _ j_Ed_122
theorem k_Ed_123 : (.instanceMethod y_Ed_dropItem) ∈ V_Ed := kk_Ed _ j_Ed_123
theorem k_Ed_124 : (.selects "VolumeTurner$Editor" y_Ed_dropItem y_Ed_dropItem) ∈ V_Ed := kk_Ed _ j_Ed_124
theorem k_Ed_125 : (.code y_Ed_dropItem prog_4_method_26_code 5 none) ∈ V_Ed := kk_Ed _ j_Ed_125
theorem k_Ed_126 : (.methodLink "VolumeTurner$Editor" 219 y_Tr_partsOf) ∈ V_Ed := kk_Ed _ j_Ed_126
theorem k_Ed_127 : (.instanceMethod y_Ed_putStamp) ∈ V_Ed := kk_Ed _ j_Ed_127
theorem k_Ed_128 : (.selects "VolumeTurner$Editor" y_Ed_putStamp y_Ed_putStamp) ∈ V_Ed := kk_Ed _ j_Ed_128
theorem k_Ed_129 : (.code y_Ed_putStamp prog_4_method_27_code 5 none) ∈ V_Ed := kk_Ed _ j_Ed_129
theorem k_Ed_130 : (.selects "VolumeTurner$Editor" y_Ed_lastPoint y_Ed_lastPoint) ∈ V_Ed := kk_Ed _ j_Ed_130
theorem k_Ed_131 : (.selects "VolumeTurner$Editor" y_Ed_takePlainName y_Ed_takePlainName) ∈ V_Ed := kk_Ed _ j_Ed_131
theorem k_Ed_132 : (.selects "VolumeTurner$Editor" y_Ed_hasShortName y_Ed_hasShortName) ∈ V_Ed := kk_Ed _ j_Ed_132
theorem k_Ed_133 : (.selects "VolumeTurner$Editor" y_Ed_isShortNameTaken y_Ed_isShortNameTaken) ∈ V_Ed := kk_Ed _ j_Ed_133
theorem k_Ed_134 : (.selects "VolumeTurner$Editor" y_Ed_squeeze y_Ed_squeeze) ∈ V_Ed := kk_Ed _ j_Ed_134
theorem k_Ed_135 : (.selects "VolumeTurner$Editor" y_Ed_inventShortName y_Ed_inventShortName) ∈ V_Ed := kk_Ed _ j_Ed_135
theorem k_Ed_136 : (.selects "VolumeTurner$Editor" y_Ed_slotPlace y_Ed_slotPlace) ∈ V_Ed := kk_Ed _ j_Ed_136
theorem k_Ed_137 : (.selects "VolumeTurner$Editor" y_Ed_lengthenRoad y_Ed_lengthenRoad) ∈ V_Ed := kk_Ed _ j_Ed_137
theorem k_Ed_138 : (.selects "VolumeTurner$Editor" y_Ed_putEntry y_Ed_putEntry) ∈ V_Ed := kk_Ed _ j_Ed_138
theorem k_Ed_139 : (.selects "VolumeTurner$Editor" y_Ed_putFirstCluster y_Ed_putFirstCluster) ∈ V_Ed := kk_Ed _ j_Ed_139
theorem k_Ed_140 : (.selects "VolumeTurner$Editor" y_Ed_putPart y_Ed_putPart) ∈ V_Ed := kk_Ed _ j_Ed_140
theorem k_Ed_141 : (.selects "VolumeTurner$Editor" y_Ed_putDots y_Ed_putDots) ∈ V_Ed := kk_Ed _ j_Ed_141
theorem k_Ed_142 : (.selects "VolumeTurner$Editor" y_Ed_clustersFor y_Ed_clustersFor) ∈ V_Ed := kk_Ed _ j_Ed_142
theorem gk_Ed : ∀ w ∈ w_Ed ++ K_Ed, goodWord w = true := List.all_eq_true.mp (by decide +kernel)
theorem good_Ed : GoodIn V_Ed V_Ed := fun w h => by
  refine ⟨h, ?_⟩
  rcases List.mem_append.mp h with q | q
  · exact good_of_word (gk_Ed w (List.mem_append_left _ q))
  · rcases List.mem_append.mp q with q | q
    · exact good_of_word (gk_Ed w (List.mem_append_right _ q))
    · exact (good_Rd w q).2
abbrev b_Pl_init : ByteArray := prog_6_method_1_code
def y_Pl_init : MethodName := ⟨R_Pl, "<init>", "(LVolumeTurner$Disk;LVolumeTurner$Table;LVolumeTurner$Tree;)V"⟩
theorem d_Pl_init_0 : decode b_Pl_init 0 = .ok (.aload_n 0, 1) := by decide +kernel
theorem d_Pl_init_1 : decode b_Pl_init 1 = .ok (.invokespecial 3, 3) := by decide +kernel
theorem d_Pl_init_4 : decode b_Pl_init 4 = .ok (.aload_n 0, 1) := by decide +kernel
theorem d_Pl_init_5 : decode b_Pl_init 5 = .ok (.iconst 0, 1) := by decide +kernel
theorem d_Pl_init_6 : decode b_Pl_init 6 = .ok (.putfield 9, 3) := by decide +kernel
theorem d_Pl_init_9 : decode b_Pl_init 9 = .ok (.aload_n 0, 1) := by decide +kernel
theorem d_Pl_init_10 : decode b_Pl_init 10 = .ok (.iconst 0, 1) := by decide +kernel
theorem d_Pl_init_11 : decode b_Pl_init 11 = .ok (.putfield 15, 3) := by decide +kernel
theorem d_Pl_init_14 : decode b_Pl_init 14 = .ok (.aload_n 0, 1) := by decide +kernel
theorem d_Pl_init_15 : decode b_Pl_init 15 = .ok (.bipush 64, 2) := by decide +kernel
theorem d_Pl_init_17 : decode b_Pl_init 17 = .ok (.putfield 18, 3) := by decide +kernel
theorem d_Pl_init_20 : decode b_Pl_init 20 = .ok (.aload_n 0, 1) := by decide +kernel
theorem d_Pl_init_21 : decode b_Pl_init 21 = .ok (.iconst 1, 1) := by decide +kernel
theorem d_Pl_init_22 : decode b_Pl_init 22 = .ok (.putfield 21, 3) := by decide +kernel
theorem d_Pl_init_25 : decode b_Pl_init 25 = .ok (.aload_n 0, 1) := by decide +kernel
theorem d_Pl_init_26 : decode b_Pl_init 26 = .ok (.bipush 8, 2) := by decide +kernel
theorem d_Pl_init_28 : decode b_Pl_init 28 = .ok (.putfield 24, 3) := by decide +kernel
theorem d_Pl_init_31 : decode b_Pl_init 31 = .ok (.aload_n 0, 1) := by decide +kernel
theorem d_Pl_init_32 : decode b_Pl_init 32 = .ok (.iconst 0, 1) := by decide +kernel
theorem d_Pl_init_33 : decode b_Pl_init 33 = .ok (.putfield 27, 3) := by decide +kernel
theorem d_Pl_init_36 : decode b_Pl_init 36 = .ok (.aload_n 0, 1) := by decide +kernel
theorem d_Pl_init_37 : decode b_Pl_init 37 = .ok (.iconst 0, 1) := by decide +kernel
theorem d_Pl_init_38 : decode b_Pl_init 38 = .ok (.putfield 30, 3) := by decide +kernel
theorem d_Pl_init_41 : decode b_Pl_init 41 = .ok (.aload_n 0, 1) := by decide +kernel
theorem d_Pl_init_42 : decode b_Pl_init 42 = .ok (.iconst 0, 1) := by decide +kernel
theorem d_Pl_init_43 : decode b_Pl_init 43 = .ok (.putfield 33, 3) := by decide +kernel
theorem d_Pl_init_46 : decode b_Pl_init 46 = .ok (.aload_n 0, 1) := by decide +kernel
theorem d_Pl_init_47 : decode b_Pl_init 47 = .ok (.aload_n 1, 1) := by decide +kernel
theorem d_Pl_init_48 : decode b_Pl_init 48 = .ok (.putfield 36, 3) := by decide +kernel
theorem d_Pl_init_51 : decode b_Pl_init 51 = .ok (.aload_n 0, 1) := by decide +kernel
theorem d_Pl_init_52 : decode b_Pl_init 52 = .ok (.aload_n 2, 1) := by decide +kernel
theorem d_Pl_init_53 : decode b_Pl_init 53 = .ok (.putfield 40, 3) := by decide +kernel
theorem d_Pl_init_56 : decode b_Pl_init 56 = .ok (.aload_n 0, 1) := by decide +kernel
theorem d_Pl_init_57 : decode b_Pl_init 57 = .ok (.aload_n 3, 1) := by decide +kernel
theorem d_Pl_init_58 : decode b_Pl_init 58 = .ok (.putfield 44, 3) := by decide +kernel
theorem d_Pl_init_61 : decode b_Pl_init 61 = .ok (.aload_n 0, 1) := by decide +kernel
theorem d_Pl_init_62 : decode b_Pl_init 62 = .ok (.aload_n 1, 1) := by decide +kernel
theorem d_Pl_init_63 : decode b_Pl_init 63 = .ok (.getfield 48, 3) := by decide +kernel
theorem d_Pl_init_66 : decode b_Pl_init 66 = .ok (.iconst 2, 1) := by decide +kernel
theorem d_Pl_init_67 : decode b_Pl_init 67 = .ok (.idiv, 1) := by decide +kernel
theorem d_Pl_init_68 : decode b_Pl_init 68 = .ok (.putfield 53, 3) := by decide +kernel
theorem d_Pl_init_71 : decode b_Pl_init 71 = .ok (.aload_n 0, 1) := by decide +kernel
theorem d_Pl_init_72 : decode b_Pl_init 72 = .ok (.aload_n 0, 1) := by decide +kernel
theorem d_Pl_init_73 : decode b_Pl_init 73 = .ok (.getfield 53, 3) := by decide +kernel
theorem d_Pl_init_76 : decode b_Pl_init 76 = .ok (.newarray .boolean, 2) := by decide +kernel
theorem d_Pl_init_78 : decode b_Pl_init 78 = .ok (.putfield 56, 3) := by decide +kernel
theorem d_Pl_init_81 : decode b_Pl_init 81 = .ok (.aload_n 0, 1) := by decide +kernel
theorem d_Pl_init_82 : decode b_Pl_init 82 = .ok (.aload_n 0, 1) := by decide +kernel
theorem d_Pl_init_83 : decode b_Pl_init 83 = .ok (.getfield 53, 3) := by decide +kernel
theorem d_Pl_init_86 : decode b_Pl_init 86 = .ok (.newarray .boolean, 2) := by decide +kernel
theorem d_Pl_init_88 : decode b_Pl_init 88 = .ok (.putfield 60, 3) := by decide +kernel
theorem d_Pl_init_91 : decode b_Pl_init 91 = .ok (.aload_n 0, 1) := by decide +kernel
theorem d_Pl_init_92 : decode b_Pl_init 92 = .ok (.aload_n 2, 1) := by decide +kernel
theorem d_Pl_init_93 : decode b_Pl_init 93 = .ok (.invokevirtual 63, 3) := by decide +kernel
theorem d_Pl_init_96 : decode b_Pl_init 96 = .ok (.newarray .boolean, 2) := by decide +kernel
theorem d_Pl_init_98 : decode b_Pl_init 98 = .ok (.putfield 69, 3) := by decide +kernel
theorem d_Pl_init_101 : decode b_Pl_init 101 = .ok (.aload_n 0, 1) := by decide +kernel
theorem d_Pl_init_102 : decode b_Pl_init 102 = .ok (.aload_n 0, 1) := by decide +kernel
theorem d_Pl_init_103 : decode b_Pl_init 103 = .ok (.getfield 53, 3) := by decide +kernel
theorem d_Pl_init_106 : decode b_Pl_init 106 = .ok (.newarray .int, 2) := by decide +kernel
theorem d_Pl_init_108 : decode b_Pl_init 108 = .ok (.putfield 72, 3) := by decide +kernel
theorem d_Pl_init_111 : decode b_Pl_init 111 = .ok (.aload_n 0, 1) := by decide +kernel
theorem d_Pl_init_112 : decode b_Pl_init 112 = .ok (.aload_n 0, 1) := by decide +kernel
theorem d_Pl_init_113 : decode b_Pl_init 113 = .ok (.getfield 53, 3) := by decide +kernel
theorem d_Pl_init_116 : decode b_Pl_init 116 = .ok (.iconst 4, 1) := by decide +kernel
theorem d_Pl_init_117 : decode b_Pl_init 117 = .ok (.iadd, 1) := by decide +kernel
theorem d_Pl_init_118 : decode b_Pl_init 118 = .ok (.newarray .int, 2) := by decide +kernel
theorem d_Pl_init_120 : decode b_Pl_init 120 = .ok (.putfield 76, 3) := by decide +kernel
theorem d_Pl_init_123 : decode b_Pl_init 123 = .ok (.return_, 1) := by decide +kernel
abbrev cb_Pl_refusal : ByteArray := prog_6_method_2_code
def y_Pl_refusal : MethodName := ⟨R_Pl, "refusal", "(II)I"⟩
abbrev cb_Pl_number : ByteArray := prog_6_method_3_code
def y_Pl_number : MethodName := ⟨R_Pl, "number", "(I)I"⟩
abbrev cb_Pl_recall : ByteArray := prog_6_method_4_code
def y_Pl_recall : MethodName := ⟨R_Pl, "recall", "(II)Z"⟩
abbrev cb_Pl_divide : ByteArray := prog_6_method_5_code
def y_Pl_divide : MethodName := ⟨R_Pl, "divide", "(I)Z"⟩
abbrev cb_Pl_leastInodes : ByteArray := prog_6_method_6_code
def y_Pl_leastInodes : MethodName := ⟨R_Pl, "leastInodes", "()I"⟩
abbrev cb_Pl_firstBlock : ByteArray := prog_6_method_7_code
def y_Pl_firstBlock : MethodName := ⟨R_Pl, "firstBlock", "(I)I"⟩
abbrev cb_Pl_blocksOf : ByteArray := prog_6_method_8_code
def y_Pl_blocksOf : MethodName := ⟨R_Pl, "blocksOf", "(I)I"⟩
abbrev cb_Pl_mapBlock : ByteArray := prog_6_method_9_code
def y_Pl_mapBlock : MethodName := ⟨R_Pl, "mapBlock", "(I)I"⟩
abbrev cb_Pl_layOut : ByteArray := prog_6_method_10_code
def y_Pl_layOut : MethodName := ⟨R_Pl, "layOut", "(I)Z"⟩
abbrev cb_Pl_fix : ByteArray := prog_6_method_11_code
def y_Pl_fix : MethodName := ⟨R_Pl, "fix", "(II)Z"⟩
abbrev cb_Pl_namesFit : ByteArray := prog_6_method_12_code
def y_Pl_namesFit : MethodName := ⟨R_Pl, "namesFit", "()Z"⟩
abbrev cb_Pl_timesFit : ByteArray := prog_6_method_13_code
def y_Pl_timesFit : MethodName := ⟨R_Pl, "timesFit", "()Z"⟩
abbrev cb_Pl_blockOfCluster : ByteArray := prog_6_method_14_code
def y_Pl_blockOfCluster : MethodName := ⟨R_Pl, "blockOfCluster", "(I)I"⟩
abbrev cb_Pl_hasFixed : ByteArray := prog_6_method_15_code
def y_Pl_hasFixed : MethodName := ⟨R_Pl, "hasFixed", "(I)Z"⟩
abbrev cb_Pl_aim : ByteArray := prog_6_method_16_code
def y_Pl_aim : MethodName := ⟨R_Pl, "aim", "()Z"⟩
abbrev cb_Pl_findRooms : ByteArray := prog_6_method_17_code
def y_Pl_findRooms : MethodName := ⟨R_Pl, "findRooms", "(I)V"⟩
abbrev cb_Pl_addRooms : ByteArray := prog_6_method_18_code
def y_Pl_addRooms : MethodName := ⟨R_Pl, "addRooms", "(I)V"⟩
abbrev cb_Pl_room : ByteArray := prog_6_method_19_code
def y_Pl_room : MethodName := ⟨R_Pl, "room", "(I)I"⟩
abbrev cb_Pl_assign : ByteArray := prog_6_method_20_code
def y_Pl_assign : MethodName := ⟨R_Pl, "assign", "()Z"⟩
abbrev b_Pl_indirects : ByteArray := prog_6_method_21_code
def y_Pl_indirects : MethodName := ⟨R_Pl, "indirects", "(I)I"⟩
abbrev cb_Pl_entriesOf : ByteArray := prog_6_method_22_code
def y_Pl_entriesOf : MethodName := ⟨R_Pl, "entriesOf", "(I)I"⟩
abbrev cb_Pl_nameSize : ByteArray := prog_6_method_23_code
def y_Pl_nameSize : MethodName := ⟨R_Pl, "nameSize", "(II)I"⟩
abbrev b_Pl_entryLength : ByteArray := prog_6_method_24_code
def y_Pl_entryLength : MethodName := ⟨R_Pl, "entryLength", "(I)I"⟩
abbrev cb_Pl_blocksBuilt : ByteArray := prog_6_method_25_code
def y_Pl_blocksBuilt : MethodName := ⟨R_Pl, "blocksBuilt", "(I)I"⟩
abbrev cb_Pl_gather : ByteArray := prog_6_method_26_code
def y_Pl_gather : MethodName := ⟨R_Pl, "gather", "(I)V"⟩
abbrev cb_Pl_listChain : ByteArray := prog_6_method_27_code
def y_Pl_listChain : MethodName := ⟨R_Pl, "listChain", "(II)V"⟩
abbrev cb_Pl_addToList : ByteArray := prog_6_method_28_code
def y_Pl_addToList : MethodName := ⟨R_Pl, "addToList", "(I)V"⟩
abbrev cb_Pl_firstIndirect : ByteArray := prog_6_method_29_code
def y_Pl_firstIndirect : MethodName := ⟨R_Pl, "firstIndirect", "(I)I"⟩
abbrev cb_Pl_markUsed : ByteArray := prog_6_method_30_code
def y_Pl_markUsed : MethodName := ⟨R_Pl, "markUsed", "()V"⟩
abbrev cb_Pl_mark : ByteArray := prog_6_method_31_code
def y_Pl_mark : MethodName := ⟨R_Pl, "mark", "(I)V"⟩
abbrev cb_Pl_isUsed : ByteArray := prog_6_method_32_code
def y_Pl_isUsed : MethodName := ⟨R_Pl, "isUsed", "(I)Z"⟩
abbrev cb_Pl_freeBlocks : ByteArray := prog_6_method_33_code
def y_Pl_freeBlocks : MethodName := ⟨R_Pl, "freeBlocks", "(I)I"⟩
abbrev cb_Pl_usedInodes : ByteArray := prog_6_method_34_code
def y_Pl_usedInodes : MethodName := ⟨R_Pl, "usedInodes", "()I"⟩
abbrev cb_Pl_freeInodes : ByteArray := prog_6_method_35_code
def y_Pl_freeInodes : MethodName := ⟨R_Pl, "freeInodes", "(I)I"⟩
def K_Pl : List Cond := [(.initialized "VolumeTurner$Plan"), (.fieldLink "VolumeTurner$Plan" 48 "VolumeTurner$Disk" "sectors" "I"), (.fieldLink "VolumeTurner$Plan" 139 "VolumeTurner$Table" "cluster" "I"), (.fieldLink "VolumeTurner$Plan" 79 "VolumeTurner$Table" "start" "I"), (.fieldLink "VolumeTurner$Plan" 136 "VolumeTurner$Table" "clusters" "I"), (.fieldLink "VolumeTurner$Plan" 111 "VolumeTurner$Tree" "count" "I"), (.instantiable "VolumeTurner$Plan" 17), (.instanceMethod y_Pl_init), (.code y_Pl_init prog_6_method_1_code 4 none), (.methodLink "VolumeTurner$Plan" 3 objectInit), (.methodLink "VolumeTurner$Plan" 63 y_Tb_behind), (.fieldLink "VolumeTurner$Plan" 36 "VolumeTurner$Plan" "disk" "LVolumeTurner$Disk;"), (.fieldLink "VolumeTurner$Plan" 40 "VolumeTurner$Plan" "table" "LVolumeTurner$Table;"), (.fieldLink "VolumeTurner$Plan" 44 "VolumeTurner$Plan" "tree" "LVolumeTurner$Tree;"), (.fieldLink "VolumeTurner$Plan" 53 "VolumeTurner$Plan" "blocks" "I"), (.fieldLink "VolumeTurner$Plan" 56 "VolumeTurner$Plan" "fixed" "[Z"), (.fieldLink "VolumeTurner$Plan" 60 "VolumeTurner$Plan" "used" "[Z"), (.fieldLink "VolumeTurner$Plan" 69 "VolumeTurner$Plan" "aimedAt" "[Z"), (.fieldLink "VolumeTurner$Plan" 72 "VolumeTurner$Plan" "rooms" "[I"), (.fieldLink "VolumeTurner$Plan" 9 "VolumeTurner$Plan" "roomCount" "I"), (.fieldLink "VolumeTurner$Plan" 76 "VolumeTurner$Plan" "list" "[I"), (.fieldLink "VolumeTurner$Plan" 15 "VolumeTurner$Plan" "listed" "I"), (.fieldLink "VolumeTurner$Plan" 18 "VolumeTurner$Plan" "size" "I"), (.fieldLink "VolumeTurner$Plan" 21 "VolumeTurner$Plan" "groups" "I"), (.fieldLink "VolumeTurner$Plan" 24 "VolumeTurner$Plan" "inodes" "I"), (.fieldLink "VolumeTurner$Plan" 27 "VolumeTurner$Plan" "moves" "I"), (.fieldLink "VolumeTurner$Plan" 30 "VolumeTurner$Plan" "built" "I"), (.fieldLink "VolumeTurner$Plan" 33 "VolumeTurner$Plan" "free" "I"), (.instanceMethod y_Pl_refusal), (.selects "VolumeTurner$Plan" y_Pl_refusal y_Pl_refusal), (.code y_Pl_refusal prog_6_method_2_code 3 (some .int)), (.methodLink "VolumeTurner$Plan" 82 y_Pl_divide), (.instanceMethod y_Pl_divide), (.code y_Pl_divide prog_6_method_5_code 2 (some .boolean)), (.methodLink "VolumeTurner$Plan" 86 y_Pl_leastInodes), (.instanceMethod y_Pl_leastInodes), (.code y_Pl_leastInodes prog_6_method_6_code 3 (some .int)), (.methodLink "VolumeTurner$Plan" 89 y_Pl_layOut), (.instanceMethod y_Pl_layOut), (.code y_Pl_layOut prog_6_method_10_code 5 (some .boolean)), (.methodLink "VolumeTurner$Plan" 126 y_Pl_blocksOf), (.instanceMethod y_Pl_blocksOf), (.selects "VolumeTurner$Plan" y_Pl_blocksOf y_Pl_blocksOf), (.code y_Pl_blocksOf prog_6_method_8_code 2 (some .int)), (.methodLink "VolumeTurner$Plan" 116 y_Pl_firstBlock), (.instanceMethod y_Pl_firstBlock), (.selects "VolumeTurner$Plan" y_Pl_firstBlock y_Pl_firstBlock), (.code y_Pl_firstBlock prog_6_method_7_code 2 (some .int)), (.methodLink "VolumeTurner$Plan" 120 ⟨"java/lang/Math", "min", "(II)I"⟩), (.methodLink "VolumeTurner$Plan" 129 y_Pl_fix), (.instanceMethod y_Pl_fix), (.code y_Pl_fix prog_6_method_11_code 7 (some .boolean)), (.methodLink "VolumeTurner$Plan" 133 y_Pl_mapBlock), (.instanceMethod y_Pl_mapBlock), (.selects "VolumeTurner$Plan" y_Pl_mapBlock y_Pl_mapBlock), (.code y_Pl_mapBlock prog_6_method_9_code 2 (some .int)), (.methodLink "VolumeTurner$Plan" 92 y_Pl_namesFit), (.instanceMethod y_Pl_namesFit), (.code y_Pl_namesFit prog_6_method_12_code 3 (some .boolean)), (.methodLink "VolumeTurner$Plan" 142 y_Tr_parentOf), (.methodLink "VolumeTurner$Plan" 145 y_Tr_nameSize), (.methodLink "VolumeTurner$Plan" 148 y_Tr_isNamedAsRecord), (.methodLink "VolumeTurner$Plan" 96 y_Pl_timesFit), (.instanceMethod y_Pl_timesFit), (.code y_Pl_timesFit prog_6_method_13_code 3 (some .boolean)), (.methodLink "VolumeTurner$Plan" 151 y_Tr_spotOf), (.methodLink "VolumeTurner$Plan" 154 y_Da_seconds), (.constantLong "VolumeTurner$Plan" 160 (4294967295 : Int64)), (.methodLink "VolumeTurner$Plan" 99 y_Pl_aim), (.instanceMethod y_Pl_aim), (.code y_Pl_aim prog_6_method_16_code 5 (some .boolean)), (.methodLink "VolumeTurner$Plan" 165 y_Tb_isFree), (.methodLink "VolumeTurner$Plan" 168 y_Pl_hasFixed), (.instanceMethod y_Pl_hasFixed), (.code y_Pl_hasFixed prog_6_method_15_code 4 (some .boolean)), (.methodLink "VolumeTurner$Plan" 162 y_Pl_blockOfCluster), (.instanceMethod y_Pl_blockOfCluster), (.code y_Pl_blockOfCluster prog_6_method_14_code 2 (some .int)), (.methodLink "VolumeTurner$Plan" 171 y_Tb_setGoal), (.methodLink "VolumeTurner$Plan" 175 y_Pl_findRooms), (.instanceMethod y_Pl_findRooms), (.code y_Pl_findRooms prog_6_method_17_code 3 none), (.methodLink "VolumeTurner$Plan" 179 y_Pl_addRooms), (.instanceMethod y_Pl_addRooms), (.code y_Pl_addRooms prog_6_method_18_code 3 none), (.methodLink "VolumeTurner$Plan" 102 y_Pl_assign), (.instanceMethod y_Pl_assign), (.selects "VolumeTurner$Plan" y_Pl_assign y_Pl_assign), (.code y_Pl_assign prog_6_method_20_code 3 (some .boolean)), (.methodLink "VolumeTurner$Plan" 182 y_Pl_gather), (.instanceMethod y_Pl_gather), (.selects "VolumeTurner$Plan" y_Pl_gather y_Pl_gather), (.code y_Pl_gather prog_6_method_26_code 5 none), (.methodLink "VolumeTurner$Plan" 222 y_Tr_builtBlocksOf), (.methodLink "VolumeTurner$Plan" 225 y_Tr_builtOf), (.methodLink "VolumeTurner$Plan" 228 y_Pl_room), (.instanceMethod y_Pl_room), (.selects "VolumeTurner$Plan" y_Pl_room y_Pl_room), (.code y_Pl_room prog_6_method_19_code 2 (some .int)), (.methodLink "VolumeTurner$Plan" 231 y_Pl_addToList), (.instanceMethod y_Pl_addToList), (.code y_Pl_addToList prog_6_method_28_code 2 none), (.methodLink "VolumeTurner$Plan" 188 y_Tr_isDirectory), (.methodLink "VolumeTurner$Plan" 234 y_Tr_firstOf), (.methodLink "VolumeTurner$Plan" 237 y_Pl_listChain), (.instanceMethod y_Pl_listChain), (.code y_Pl_listChain prog_6_method_27_code 10 none), (.methodLink "VolumeTurner$Plan" 240 y_Tb_nextOf), (.methodLink "VolumeTurner$Plan" 243 y_Tb_goalOf), (.methodLink "VolumeTurner$Plan" 198 y_Tr_sizeOf), (.methodLink "VolumeTurner$Plan" 185 y_Pl_indirects), (.static y_Pl_indirects), (.code y_Pl_indirects prog_6_method_21_code 2 (some .int)), (.methodLink "VolumeTurner$Plan" 191 y_Pl_blocksBuilt), (.instanceMethod y_Pl_blocksBuilt), (.code y_Pl_blocksBuilt prog_6_method_25_code 6 (some .int)), (.methodLink "VolumeTurner$Plan" 214 y_Pl_entriesOf), (.instanceMethod y_Pl_entriesOf), (.selects "VolumeTurner$Plan" y_Pl_entriesOf y_Pl_entriesOf), (.code y_Pl_entriesOf prog_6_method_22_code 2 (some .int)), (.methodLink "VolumeTurner$Plan" 201 y_Tr_countIn), (.methodLink "VolumeTurner$Plan" 217 y_Pl_nameSize), (.instanceMethod y_Pl_nameSize), (.selects "VolumeTurner$Plan" y_Pl_nameSize y_Pl_nameSize), (.code y_Pl_nameSize prog_6_method_23_code 3 (some .int)), (.methodLink "VolumeTurner$Plan" 204 y_Tr_kid), (.methodLink "VolumeTurner$Plan" 209 ⟨"java/lang/String", "length", "()I"⟩), (.methodLink "VolumeTurner$Plan" 219 y_Pl_entryLength), (.static y_Pl_entryLength), (.code y_Pl_entryLength prog_6_method_24_code 1 (some .int)), (.methodLink "VolumeTurner$Plan" 194 y_Tr_setBuilt), (.methodLink "VolumeTurner$Plan" 105 y_Pl_markUsed), (.instanceMethod y_Pl_markUsed), (.selects "VolumeTurner$Plan" y_Pl_markUsed y_Pl_markUsed), (.code y_Pl_markUsed prog_6_method_30_code 4 none), (.methodLink "VolumeTurner$Plan" 246 y_Pl_mark), (.instanceMethod y_Pl_mark), (.code y_Pl_mark prog_6_method_31_code 2 none), (.methodLink "VolumeTurner$Plan" 249 y_Pl_firstIndirect), (.instanceMethod y_Pl_firstIndirect), (.selects "VolumeTurner$Plan" y_Pl_firstIndirect y_Pl_firstIndirect), (.code y_Pl_firstIndirect prog_6_method_29_code 2 (some .int)), (.methodLink "VolumeTurner$Plan" 252 y_Pl_freeBlocks), (.instanceMethod y_Pl_freeBlocks), (.selects "VolumeTurner$Plan" y_Pl_freeBlocks y_Pl_freeBlocks), (.code y_Pl_freeBlocks prog_6_method_33_code 4 (some .int)), (.methodLink "VolumeTurner$Plan" 255 y_Pl_isUsed), (.instanceMethod y_Pl_isUsed), (.selects "VolumeTurner$Plan" y_Pl_isUsed y_Pl_isUsed), (.code y_Pl_isUsed prog_6_method_32_code 2 (some .boolean)), (.instanceMethod y_Pl_number), (.selects "VolumeTurner$Plan" y_Pl_number y_Pl_number), (.code y_Pl_number prog_6_method_3_code 2 (some .int)), (.instanceMethod y_Pl_recall), (.selects "VolumeTurner$Plan" y_Pl_recall y_Pl_recall), (.code y_Pl_recall prog_6_method_4_code 3 (some .boolean)), (.methodLink "VolumeTurner$Plan" 108 y_Tb_read), (.instanceMethod y_Pl_usedInodes), (.selects "VolumeTurner$Plan" y_Pl_usedInodes y_Pl_usedInodes), (.code y_Pl_usedInodes prog_6_method_34_code 1 (some .int)), (.instanceMethod y_Pl_freeInodes), (.selects "VolumeTurner$Plan" y_Pl_freeInodes y_Pl_freeInodes), (.code y_Pl_freeInodes prog_6_method_35_code 3 (some .int)), (.methodLink "VolumeTurner$Plan" 258 y_Pl_usedInodes), (.methodLink "VolumeTurner$Plan" 261 ⟨"java/lang/Math", "max", "(II)I"⟩), (.selects "VolumeTurner$Plan" y_Pl_divide y_Pl_divide), (.selects "VolumeTurner$Plan" y_Pl_leastInodes y_Pl_leastInodes), (.selects "VolumeTurner$Plan" y_Pl_layOut y_Pl_layOut), (.selects "VolumeTurner$Plan" y_Pl_fix y_Pl_fix), (.selects "VolumeTurner$Plan" y_Pl_namesFit y_Pl_namesFit), (.selects "VolumeTurner$Plan" y_Pl_timesFit y_Pl_timesFit), (.selects "VolumeTurner$Plan" y_Pl_blockOfCluster y_Pl_blockOfCluster), (.selects "VolumeTurner$Plan" y_Pl_hasFixed y_Pl_hasFixed), (.selects "VolumeTurner$Plan" y_Pl_aim y_Pl_aim), (.selects "VolumeTurner$Plan" y_Pl_findRooms y_Pl_findRooms), (.selects "VolumeTurner$Plan" y_Pl_addRooms y_Pl_addRooms), (.selects "VolumeTurner$Plan" y_Pl_blocksBuilt y_Pl_blocksBuilt), (.selects "VolumeTurner$Plan" y_Pl_listChain y_Pl_listChain), (.selects "VolumeTurner$Plan" y_Pl_addToList y_Pl_addToList), (.selects "VolumeTurner$Plan" y_Pl_mark y_Pl_mark)]
theorem j_Pl_0 : (.initialized "VolumeTurner$Plan") ∈ K_Pl := List.mem_of_getElem? (i := 0) rfl
theorem j_Pl_1 : (.fieldLink "VolumeTurner$Plan" 48 "VolumeTurner$Disk" "sectors" "I") ∈ K_Pl := List.mem_of_getElem? (i := 1) rfl
theorem j_Pl_2 : (.fieldLink "VolumeTurner$Plan" 139 "VolumeTurner$Table" "cluster" "I") ∈ K_Pl := List.mem_of_getElem? (i := 2) rfl
theorem j_Pl_3 : (.fieldLink "VolumeTurner$Plan" 79 "VolumeTurner$Table" "start" "I") ∈ K_Pl := List.mem_of_getElem? (i := 3) rfl
theorem j_Pl_4 : (.fieldLink "VolumeTurner$Plan" 136 "VolumeTurner$Table" "clusters" "I") ∈ K_Pl := List.mem_of_getElem? (i := 4) rfl
theorem j_Pl_5 : (.fieldLink "VolumeTurner$Plan" 111 "VolumeTurner$Tree" "count" "I") ∈ K_Pl := List.mem_of_getElem? (i := 5) rfl
theorem j_Pl_6 : (.instantiable "VolumeTurner$Plan" 17) ∈ K_Pl := List.mem_of_getElem? (i := 6) rfl
theorem j_Pl_7 : (.instanceMethod y_Pl_init) ∈ K_Pl := List.mem_of_getElem? (i := 7) rfl
theorem j_Pl_8 : (.code y_Pl_init prog_6_method_1_code 4 none) ∈ K_Pl := List.mem_of_getElem? (i := 8) rfl
theorem j_Pl_9 : (.methodLink "VolumeTurner$Plan" 3 objectInit) ∈ K_Pl := List.mem_of_getElem? (i := 9) rfl
theorem j_Pl_10 : (.methodLink "VolumeTurner$Plan" 63 y_Tb_behind) ∈ K_Pl := List.mem_of_getElem? (i := 10) rfl
theorem j_Pl_11 : (.fieldLink "VolumeTurner$Plan" 36 "VolumeTurner$Plan" "disk" "LVolumeTurner$Disk;") ∈ K_Pl := List.mem_of_getElem? (i := 11) rfl
theorem j_Pl_12 : (.fieldLink "VolumeTurner$Plan" 40 "VolumeTurner$Plan" "table" "LVolumeTurner$Table;") ∈ K_Pl := List.mem_of_getElem? (i := 12) rfl
theorem j_Pl_13 : (.fieldLink "VolumeTurner$Plan" 44 "VolumeTurner$Plan" "tree" "LVolumeTurner$Tree;") ∈ K_Pl := List.mem_of_getElem? (i := 13) rfl
theorem j_Pl_14 : (.fieldLink "VolumeTurner$Plan" 53 "VolumeTurner$Plan" "blocks" "I") ∈ K_Pl := List.mem_of_getElem? (i := 14) rfl
theorem j_Pl_15 : (.fieldLink "VolumeTurner$Plan" 56 "VolumeTurner$Plan" "fixed" "[Z") ∈ K_Pl := List.mem_of_getElem? (i := 15) rfl
theorem j_Pl_16 : (.fieldLink "VolumeTurner$Plan" 60 "VolumeTurner$Plan" "used" "[Z") ∈ K_Pl := List.mem_of_getElem? (i := 16) rfl
theorem j_Pl_17 : (.fieldLink "VolumeTurner$Plan" 69 "VolumeTurner$Plan" "aimedAt" "[Z") ∈ K_Pl := List.mem_of_getElem? (i := 17) rfl
theorem j_Pl_18 : (.fieldLink "VolumeTurner$Plan" 72 "VolumeTurner$Plan" "rooms" "[I") ∈ K_Pl := List.mem_of_getElem? (i := 18) rfl
theorem j_Pl_19 : (.fieldLink "VolumeTurner$Plan" 9 "VolumeTurner$Plan" "roomCount" "I") ∈ K_Pl := List.mem_of_getElem? (i := 19) rfl
theorem j_Pl_20 : (.fieldLink "VolumeTurner$Plan" 76 "VolumeTurner$Plan" "list" "[I") ∈ K_Pl := List.mem_of_getElem? (i := 20) rfl
theorem j_Pl_21 : (.fieldLink "VolumeTurner$Plan" 15 "VolumeTurner$Plan" "listed" "I") ∈ K_Pl := List.mem_of_getElem? (i := 21) rfl
theorem j_Pl_22 : (.fieldLink "VolumeTurner$Plan" 18 "VolumeTurner$Plan" "size" "I") ∈ K_Pl := List.mem_of_getElem? (i := 22) rfl
theorem j_Pl_23 : (.fieldLink "VolumeTurner$Plan" 21 "VolumeTurner$Plan" "groups" "I") ∈ K_Pl := List.mem_of_getElem? (i := 23) rfl
theorem j_Pl_24 : (.fieldLink "VolumeTurner$Plan" 24 "VolumeTurner$Plan" "inodes" "I") ∈ K_Pl := List.mem_of_getElem? (i := 24) rfl
theorem j_Pl_25 : (.fieldLink "VolumeTurner$Plan" 27 "VolumeTurner$Plan" "moves" "I") ∈ K_Pl := List.mem_of_getElem? (i := 25) rfl
theorem j_Pl_26 : (.fieldLink "VolumeTurner$Plan" 30 "VolumeTurner$Plan" "built" "I") ∈ K_Pl := List.mem_of_getElem? (i := 26) rfl
theorem j_Pl_27 : (.fieldLink "VolumeTurner$Plan" 33 "VolumeTurner$Plan" "free" "I") ∈ K_Pl := List.mem_of_getElem? (i := 27) rfl
theorem j_Pl_28 : (.instanceMethod y_Pl_refusal) ∈ K_Pl := List.mem_of_getElem? (i := 28) rfl
theorem j_Pl_29 : (.selects "VolumeTurner$Plan" y_Pl_refusal y_Pl_refusal) ∈ K_Pl := List.mem_of_getElem? (i := 29) rfl
theorem j_Pl_30 : (.code y_Pl_refusal prog_6_method_2_code 3 (some .int)) ∈ K_Pl := List.mem_of_getElem? (i := 30) rfl
theorem j_Pl_31 : (.methodLink "VolumeTurner$Plan" 82 y_Pl_divide) ∈ K_Pl := List.mem_of_getElem? (i := 31) rfl
theorem j_Pl_32 : (.instanceMethod y_Pl_divide) ∈ K_Pl := List.mem_of_getElem? (i := 32) rfl
theorem j_Pl_33 : (.code y_Pl_divide prog_6_method_5_code 2 (some .boolean)) ∈ K_Pl := List.mem_of_getElem? (i := 33) rfl
theorem j_Pl_34 : (.methodLink "VolumeTurner$Plan" 86 y_Pl_leastInodes) ∈ K_Pl := List.mem_of_getElem? (i := 34) rfl
theorem j_Pl_35 : (.instanceMethod y_Pl_leastInodes) ∈ K_Pl := List.mem_of_getElem? (i := 35) rfl
theorem j_Pl_36 : (.code y_Pl_leastInodes prog_6_method_6_code 3 (some .int)) ∈ K_Pl := List.mem_of_getElem? (i := 36) rfl
theorem j_Pl_37 : (.methodLink "VolumeTurner$Plan" 89 y_Pl_layOut) ∈ K_Pl := List.mem_of_getElem? (i := 37) rfl
theorem j_Pl_38 : (.instanceMethod y_Pl_layOut) ∈ K_Pl := List.mem_of_getElem? (i := 38) rfl
theorem j_Pl_39 : (.code y_Pl_layOut prog_6_method_10_code 5 (some .boolean)) ∈ K_Pl := List.mem_of_getElem? (i := 39) rfl
theorem j_Pl_40 : (.methodLink "VolumeTurner$Plan" 126 y_Pl_blocksOf) ∈ K_Pl := List.mem_of_getElem? (i := 40) rfl
theorem j_Pl_41 : (.instanceMethod y_Pl_blocksOf) ∈ K_Pl := List.mem_of_getElem? (i := 41) rfl
theorem j_Pl_42 : (.selects "VolumeTurner$Plan" y_Pl_blocksOf y_Pl_blocksOf) ∈ K_Pl := List.mem_of_getElem? (i := 42) rfl
theorem j_Pl_43 : (.code y_Pl_blocksOf prog_6_method_8_code 2 (some .int)) ∈ K_Pl := List.mem_of_getElem? (i := 43) rfl
theorem j_Pl_44 : (.methodLink "VolumeTurner$Plan" 116 y_Pl_firstBlock) ∈ K_Pl := List.mem_of_getElem? (i := 44) rfl
theorem j_Pl_45 : (.instanceMethod y_Pl_firstBlock) ∈ K_Pl := List.mem_of_getElem? (i := 45) rfl
theorem j_Pl_46 : (.selects "VolumeTurner$Plan" y_Pl_firstBlock y_Pl_firstBlock) ∈ K_Pl := List.mem_of_getElem? (i := 46) rfl
theorem j_Pl_47 : (.code y_Pl_firstBlock prog_6_method_7_code 2 (some .int)) ∈ K_Pl := List.mem_of_getElem? (i := 47) rfl
theorem j_Pl_48 : (.methodLink "VolumeTurner$Plan" 120 ⟨"java/lang/Math", "min", "(II)I"⟩) ∈ K_Pl := List.mem_of_getElem? (i := 48) rfl
theorem j_Pl_49 : (.methodLink "VolumeTurner$Plan" 129 y_Pl_fix) ∈ K_Pl := List.mem_of_getElem? (i := 49) rfl
theorem j_Pl_50 : (.instanceMethod y_Pl_fix) ∈ K_Pl := List.mem_of_getElem? (i := 50) rfl
theorem j_Pl_51 : (.code y_Pl_fix prog_6_method_11_code 7 (some .boolean)) ∈ K_Pl := List.mem_of_getElem? (i := 51) rfl
theorem j_Pl_52 : (.methodLink "VolumeTurner$Plan" 133 y_Pl_mapBlock) ∈ K_Pl := List.mem_of_getElem? (i := 52) rfl
theorem j_Pl_53 : (.instanceMethod y_Pl_mapBlock) ∈ K_Pl := List.mem_of_getElem? (i := 53) rfl
theorem j_Pl_54 : (.selects "VolumeTurner$Plan" y_Pl_mapBlock y_Pl_mapBlock) ∈ K_Pl := List.mem_of_getElem? (i := 54) rfl
theorem j_Pl_55 : (.code y_Pl_mapBlock prog_6_method_9_code 2 (some .int)) ∈ K_Pl := List.mem_of_getElem? (i := 55) rfl
theorem j_Pl_56 : (.methodLink "VolumeTurner$Plan" 92 y_Pl_namesFit) ∈ K_Pl := List.mem_of_getElem? (i := 56) rfl
theorem j_Pl_57 : (.instanceMethod y_Pl_namesFit) ∈ K_Pl := List.mem_of_getElem? (i := 57) rfl
theorem j_Pl_58 : (.code y_Pl_namesFit prog_6_method_12_code 3 (some .boolean)) ∈ K_Pl := List.mem_of_getElem? (i := 58) rfl
theorem j_Pl_59 : (.methodLink "VolumeTurner$Plan" 142 y_Tr_parentOf) ∈ K_Pl := List.mem_of_getElem? (i := 59) rfl
theorem j_Pl_60 : (.methodLink "VolumeTurner$Plan" 145 y_Tr_nameSize) ∈ K_Pl := List.mem_of_getElem? (i := 60) rfl
theorem j_Pl_61 : (.methodLink "VolumeTurner$Plan" 148 y_Tr_isNamedAsRecord) ∈ K_Pl := List.mem_of_getElem? (i := 61) rfl
theorem j_Pl_62 : (.methodLink "VolumeTurner$Plan" 96 y_Pl_timesFit) ∈ K_Pl := List.mem_of_getElem? (i := 62) rfl
theorem j_Pl_63 : (.instanceMethod y_Pl_timesFit) ∈ K_Pl := List.mem_of_getElem? (i := 63) rfl
theorem j_Pl_64 : (.code y_Pl_timesFit prog_6_method_13_code 3 (some .boolean)) ∈ K_Pl := List.mem_of_getElem? (i := 64) rfl
theorem j_Pl_65 : (.methodLink "VolumeTurner$Plan" 151 y_Tr_spotOf) ∈ K_Pl := List.mem_of_getElem? (i := 65) rfl
theorem j_Pl_66 : (.methodLink "VolumeTurner$Plan" 154 y_Da_seconds) ∈ K_Pl := List.mem_of_getElem? (i := 66) rfl
theorem j_Pl_67 : (.constantLong "VolumeTurner$Plan" 160 (4294967295 : Int64)) ∈ K_Pl := List.mem_of_getElem? (i := 67) rfl
theorem j_Pl_68 : (.methodLink "VolumeTurner$Plan" 99 y_Pl_aim) ∈ K_Pl := List.mem_of_getElem? (i := 68) rfl
theorem j_Pl_69 : (.instanceMethod y_Pl_aim) ∈ K_Pl := List.mem_of_getElem? (i := 69) rfl
theorem j_Pl_70 : (.code y_Pl_aim prog_6_method_16_code 5 (some .boolean)) ∈ K_Pl := List.mem_of_getElem? (i := 70) rfl
theorem j_Pl_71 : (.methodLink "VolumeTurner$Plan" 165 y_Tb_isFree) ∈ K_Pl := List.mem_of_getElem? (i := 71) rfl
theorem j_Pl_72 : (.methodLink "VolumeTurner$Plan" 168 y_Pl_hasFixed) ∈ K_Pl := List.mem_of_getElem? (i := 72) rfl
theorem j_Pl_73 : (.instanceMethod y_Pl_hasFixed) ∈ K_Pl := List.mem_of_getElem? (i := 73) rfl
theorem j_Pl_74 : (.code y_Pl_hasFixed prog_6_method_15_code 4 (some .boolean)) ∈ K_Pl := List.mem_of_getElem? (i := 74) rfl
theorem j_Pl_75 : (.methodLink "VolumeTurner$Plan" 162 y_Pl_blockOfCluster) ∈ K_Pl := List.mem_of_getElem? (i := 75) rfl
theorem j_Pl_76 : (.instanceMethod y_Pl_blockOfCluster) ∈ K_Pl := List.mem_of_getElem? (i := 76) rfl
theorem j_Pl_77 : (.code y_Pl_blockOfCluster prog_6_method_14_code 2 (some .int)) ∈ K_Pl := List.mem_of_getElem? (i := 77) rfl
theorem j_Pl_78 : (.methodLink "VolumeTurner$Plan" 171 y_Tb_setGoal) ∈ K_Pl := List.mem_of_getElem? (i := 78) rfl
theorem j_Pl_79 : (.methodLink "VolumeTurner$Plan" 175 y_Pl_findRooms) ∈ K_Pl := List.mem_of_getElem? (i := 79) rfl
theorem j_Pl_80 : (.instanceMethod y_Pl_findRooms) ∈ K_Pl := List.mem_of_getElem? (i := 80) rfl
theorem j_Pl_81 : (.code y_Pl_findRooms prog_6_method_17_code 3 none) ∈ K_Pl := List.mem_of_getElem? (i := 81) rfl
theorem j_Pl_82 : (.methodLink "VolumeTurner$Plan" 179 y_Pl_addRooms) ∈ K_Pl := List.mem_of_getElem? (i := 82) rfl
theorem j_Pl_83 : (.instanceMethod y_Pl_addRooms) ∈ K_Pl := List.mem_of_getElem? (i := 83) rfl
theorem j_Pl_84 : (.code y_Pl_addRooms prog_6_method_18_code 3 none) ∈ K_Pl := List.mem_of_getElem? (i := 84) rfl
theorem j_Pl_85 : (.methodLink "VolumeTurner$Plan" 102 y_Pl_assign) ∈ K_Pl := List.mem_of_getElem? (i := 85) rfl
theorem j_Pl_86 : (.instanceMethod y_Pl_assign) ∈ K_Pl := List.mem_of_getElem? (i := 86) rfl
theorem j_Pl_87 : (.selects "VolumeTurner$Plan" y_Pl_assign y_Pl_assign) ∈ K_Pl := List.mem_of_getElem? (i := 87) rfl
theorem j_Pl_88 : (.code y_Pl_assign prog_6_method_20_code 3 (some .boolean)) ∈ K_Pl := List.mem_of_getElem? (i := 88) rfl
theorem j_Pl_89 : (.methodLink "VolumeTurner$Plan" 182 y_Pl_gather) ∈ K_Pl := List.mem_of_getElem? (i := 89) rfl
theorem j_Pl_90 : (.instanceMethod y_Pl_gather) ∈ K_Pl := List.mem_of_getElem? (i := 90) rfl
theorem j_Pl_91 : (.selects "VolumeTurner$Plan" y_Pl_gather y_Pl_gather) ∈ K_Pl := List.mem_of_getElem? (i := 91) rfl
theorem j_Pl_92 : (.code y_Pl_gather prog_6_method_26_code 5 none) ∈ K_Pl := List.mem_of_getElem? (i := 92) rfl
theorem j_Pl_93 : (.methodLink "VolumeTurner$Plan" 222 y_Tr_builtBlocksOf) ∈ K_Pl := List.mem_of_getElem? (i := 93) rfl
theorem j_Pl_94 : (.methodLink "VolumeTurner$Plan" 225 y_Tr_builtOf) ∈ K_Pl := List.mem_of_getElem? (i := 94) rfl
theorem j_Pl_95 : (.methodLink "VolumeTurner$Plan" 228 y_Pl_room) ∈ K_Pl := List.mem_of_getElem? (i := 95) rfl
theorem j_Pl_96 : (.instanceMethod y_Pl_room) ∈ K_Pl := List.mem_of_getElem? (i := 96) rfl
theorem j_Pl_97 : (.selects "VolumeTurner$Plan" y_Pl_room y_Pl_room) ∈ K_Pl := List.mem_of_getElem? (i := 97) rfl
theorem j_Pl_98 : (.code y_Pl_room prog_6_method_19_code 2 (some .int)) ∈ K_Pl := List.mem_of_getElem? (i := 98) rfl
theorem j_Pl_99 : (.methodLink "VolumeTurner$Plan" 231 y_Pl_addToList) ∈ K_Pl := List.mem_of_getElem? (i := 99) rfl
theorem j_Pl_100 : (.instanceMethod y_Pl_addToList) ∈ K_Pl := List.mem_of_getElem? (i := 100) rfl
theorem j_Pl_101 : (.code y_Pl_addToList prog_6_method_28_code 2 none) ∈ K_Pl := List.mem_of_getElem? (i := 101) rfl
theorem j_Pl_102 : (.methodLink "VolumeTurner$Plan" 188 y_Tr_isDirectory) ∈ K_Pl := List.mem_of_getElem? (i := 102) rfl
theorem j_Pl_103 : (.methodLink "VolumeTurner$Plan" 234 y_Tr_firstOf) ∈ K_Pl := List.mem_of_getElem? (i := 103) rfl
theorem j_Pl_104 : (.methodLink "VolumeTurner$Plan" 237 y_Pl_listChain) ∈ K_Pl := List.mem_of_getElem? (i := 104) rfl
theorem j_Pl_105 : (.instanceMethod y_Pl_listChain) ∈ K_Pl := List.mem_of_getElem? (i := 105) rfl
theorem j_Pl_106 : (.code y_Pl_listChain prog_6_method_27_code 10 none) ∈ K_Pl := List.mem_of_getElem? (i := 106) rfl
theorem j_Pl_107 : (.methodLink "VolumeTurner$Plan" 240 y_Tb_nextOf) ∈ K_Pl := List.mem_of_getElem? (i := 107) rfl
theorem j_Pl_108 : (.methodLink "VolumeTurner$Plan" 243 y_Tb_goalOf) ∈ K_Pl := List.mem_of_getElem? (i := 108) rfl
theorem j_Pl_109 : (.methodLink "VolumeTurner$Plan" 198 y_Tr_sizeOf) ∈ K_Pl := List.mem_of_getElem? (i := 109) rfl
theorem j_Pl_110 : (.methodLink "VolumeTurner$Plan" 185 y_Pl_indirects) ∈ K_Pl := List.mem_of_getElem? (i := 110) rfl
theorem j_Pl_111 : (.static y_Pl_indirects) ∈ K_Pl := List.mem_of_getElem? (i := 111) rfl
theorem j_Pl_112 : (.code y_Pl_indirects prog_6_method_21_code 2 (some .int)) ∈ K_Pl := List.mem_of_getElem? (i := 112) rfl
theorem j_Pl_113 : (.methodLink "VolumeTurner$Plan" 191 y_Pl_blocksBuilt) ∈ K_Pl := List.mem_of_getElem? (i := 113) rfl
theorem j_Pl_114 : (.instanceMethod y_Pl_blocksBuilt) ∈ K_Pl := List.mem_of_getElem? (i := 114) rfl
theorem j_Pl_115 : (.code y_Pl_blocksBuilt prog_6_method_25_code 6 (some .int)) ∈ K_Pl := List.mem_of_getElem? (i := 115) rfl
theorem j_Pl_116 : (.methodLink "VolumeTurner$Plan" 214 y_Pl_entriesOf) ∈ K_Pl := List.mem_of_getElem? (i := 116) rfl
theorem j_Pl_117 : (.instanceMethod y_Pl_entriesOf) ∈ K_Pl := List.mem_of_getElem? (i := 117) rfl
theorem j_Pl_118 : (.selects "VolumeTurner$Plan" y_Pl_entriesOf y_Pl_entriesOf) ∈ K_Pl := List.mem_of_getElem? (i := 118) rfl
theorem j_Pl_119 : (.code y_Pl_entriesOf prog_6_method_22_code 2 (some .int)) ∈ K_Pl := List.mem_of_getElem? (i := 119) rfl
theorem j_Pl_120 : (.methodLink "VolumeTurner$Plan" 201 y_Tr_countIn) ∈ K_Pl := List.mem_of_getElem? (i := 120) rfl
theorem j_Pl_121 : (.methodLink "VolumeTurner$Plan" 217 y_Pl_nameSize) ∈ K_Pl := List.mem_of_getElem? (i := 121) rfl
theorem j_Pl_122 : (.instanceMethod y_Pl_nameSize) ∈ K_Pl := List.mem_of_getElem? (i := 122) rfl
theorem j_Pl_123 : (.selects "VolumeTurner$Plan" y_Pl_nameSize y_Pl_nameSize) ∈ K_Pl := List.mem_of_getElem? (i := 123) rfl
theorem j_Pl_124 : (.code y_Pl_nameSize prog_6_method_23_code 3 (some .int)) ∈ K_Pl := List.mem_of_getElem? (i := 124) rfl
theorem j_Pl_125 : (.methodLink "VolumeTurner$Plan" 204 y_Tr_kid) ∈ K_Pl := List.mem_of_getElem? (i := 125) rfl
theorem j_Pl_126 : (.methodLink "VolumeTurner$Plan" 209 ⟨"java/lang/String", "length", "()I"⟩) ∈ K_Pl := List.mem_of_getElem? (i := 126) rfl
theorem j_Pl_127 : (.methodLink "VolumeTurner$Plan" 219 y_Pl_entryLength) ∈ K_Pl := List.mem_of_getElem? (i := 127) rfl
theorem j_Pl_128 : (.static y_Pl_entryLength) ∈ K_Pl := List.mem_of_getElem? (i := 128) rfl
theorem j_Pl_129 : (.code y_Pl_entryLength prog_6_method_24_code 1 (some .int)) ∈ K_Pl := List.mem_of_getElem? (i := 129) rfl
theorem j_Pl_130 : (.methodLink "VolumeTurner$Plan" 194 y_Tr_setBuilt) ∈ K_Pl := List.mem_of_getElem? (i := 130) rfl
theorem j_Pl_131 : (.methodLink "VolumeTurner$Plan" 105 y_Pl_markUsed) ∈ K_Pl := List.mem_of_getElem? (i := 131) rfl
theorem j_Pl_132 : (.instanceMethod y_Pl_markUsed) ∈ K_Pl := List.mem_of_getElem? (i := 132) rfl
theorem j_Pl_133 : (.selects "VolumeTurner$Plan" y_Pl_markUsed y_Pl_markUsed) ∈ K_Pl := List.mem_of_getElem? (i := 133) rfl
theorem j_Pl_134 : (.code y_Pl_markUsed prog_6_method_30_code 4 none) ∈ K_Pl := List.mem_of_getElem? (i := 134) rfl
theorem j_Pl_135 : (.methodLink "VolumeTurner$Plan" 246 y_Pl_mark) ∈ K_Pl := List.mem_of_getElem? (i := 135) rfl
theorem j_Pl_136 : (.instanceMethod y_Pl_mark) ∈ K_Pl := List.mem_of_getElem? (i := 136) rfl
theorem j_Pl_137 : (.code y_Pl_mark prog_6_method_31_code 2 none) ∈ K_Pl := List.mem_of_getElem? (i := 137) rfl
theorem j_Pl_138 : (.methodLink "VolumeTurner$Plan" 249 y_Pl_firstIndirect) ∈ K_Pl := List.mem_of_getElem? (i := 138) rfl
theorem j_Pl_139 : (.instanceMethod y_Pl_firstIndirect) ∈ K_Pl := List.mem_of_getElem? (i := 139) rfl
theorem j_Pl_140 : (.selects "VolumeTurner$Plan" y_Pl_firstIndirect y_Pl_firstIndirect) ∈ K_Pl := List.mem_of_getElem? (i := 140) rfl
theorem j_Pl_141 : (.code y_Pl_firstIndirect prog_6_method_29_code 2 (some .int)) ∈ K_Pl := List.mem_of_getElem? (i := 141) rfl
theorem j_Pl_142 : (.methodLink "VolumeTurner$Plan" 252 y_Pl_freeBlocks) ∈ K_Pl := List.mem_of_getElem? (i := 142) rfl
theorem j_Pl_143 : (.instanceMethod y_Pl_freeBlocks) ∈ K_Pl := List.mem_of_getElem? (i := 143) rfl
theorem j_Pl_144 : (.selects "VolumeTurner$Plan" y_Pl_freeBlocks y_Pl_freeBlocks) ∈ K_Pl := List.mem_of_getElem? (i := 144) rfl
theorem j_Pl_145 : (.code y_Pl_freeBlocks prog_6_method_33_code 4 (some .int)) ∈ K_Pl := List.mem_of_getElem? (i := 145) rfl
theorem j_Pl_146 : (.methodLink "VolumeTurner$Plan" 255 y_Pl_isUsed) ∈ K_Pl := List.mem_of_getElem? (i := 146) rfl
theorem j_Pl_147 : (.instanceMethod y_Pl_isUsed) ∈ K_Pl := List.mem_of_getElem? (i := 147) rfl
theorem j_Pl_148 : (.selects "VolumeTurner$Plan" y_Pl_isUsed y_Pl_isUsed) ∈ K_Pl := List.mem_of_getElem? (i := 148) rfl
theorem j_Pl_149 : (.code y_Pl_isUsed prog_6_method_32_code 2 (some .boolean)) ∈ K_Pl := List.mem_of_getElem? (i := 149) rfl
theorem j_Pl_150 : (.instanceMethod y_Pl_number) ∈ K_Pl := List.mem_of_getElem? (i := 150) rfl
theorem j_Pl_151 : (.selects "VolumeTurner$Plan" y_Pl_number y_Pl_number) ∈ K_Pl := List.mem_of_getElem? (i := 151) rfl
theorem j_Pl_152 : (.code y_Pl_number prog_6_method_3_code 2 (some .int)) ∈ K_Pl := List.mem_of_getElem? (i := 152) rfl
theorem j_Pl_153 : (.instanceMethod y_Pl_recall) ∈ K_Pl := List.mem_of_getElem? (i := 153) rfl
theorem j_Pl_154 : (.selects "VolumeTurner$Plan" y_Pl_recall y_Pl_recall) ∈ K_Pl := List.mem_of_getElem? (i := 154) rfl
theorem j_Pl_155 : (.code y_Pl_recall prog_6_method_4_code 3 (some .boolean)) ∈ K_Pl := List.mem_of_getElem? (i := 155) rfl
theorem j_Pl_156 : (.methodLink "VolumeTurner$Plan" 108 y_Tb_read) ∈ K_Pl := List.mem_of_getElem? (i := 156) rfl
theorem j_Pl_157 : (.instanceMethod y_Pl_usedInodes) ∈ K_Pl := List.mem_of_getElem? (i := 157) rfl
theorem j_Pl_158 : (.selects "VolumeTurner$Plan" y_Pl_usedInodes y_Pl_usedInodes) ∈ K_Pl := List.mem_of_getElem? (i := 158) rfl
theorem j_Pl_159 : (.code y_Pl_usedInodes prog_6_method_34_code 1 (some .int)) ∈ K_Pl := List.mem_of_getElem? (i := 159) rfl
theorem j_Pl_160 : (.instanceMethod y_Pl_freeInodes) ∈ K_Pl := List.mem_of_getElem? (i := 160) rfl
theorem j_Pl_161 : (.selects "VolumeTurner$Plan" y_Pl_freeInodes y_Pl_freeInodes) ∈ K_Pl := List.mem_of_getElem? (i := 161) rfl
theorem j_Pl_162 : (.code y_Pl_freeInodes prog_6_method_35_code 3 (some .int)) ∈ K_Pl := List.mem_of_getElem? (i := 162) rfl
theorem j_Pl_163 : (.methodLink "VolumeTurner$Plan" 258 y_Pl_usedInodes) ∈ K_Pl := List.mem_of_getElem? (i := 163) rfl
theorem j_Pl_164 : (.methodLink "VolumeTurner$Plan" 261 ⟨"java/lang/Math", "max", "(II)I"⟩) ∈ K_Pl := List.mem_of_getElem? (i := 164) rfl
theorem j_Pl_165 : (.selects "VolumeTurner$Plan" y_Pl_divide y_Pl_divide) ∈ K_Pl := List.mem_of_getElem? (i := 165) rfl
theorem j_Pl_166 : (.selects "VolumeTurner$Plan" y_Pl_leastInodes y_Pl_leastInodes) ∈ K_Pl := List.mem_of_getElem? (i := 166) rfl
theorem j_Pl_167 : (.selects "VolumeTurner$Plan" y_Pl_layOut y_Pl_layOut) ∈ K_Pl := List.mem_of_getElem? (i := 167) rfl
theorem j_Pl_168 : (.selects "VolumeTurner$Plan" y_Pl_fix y_Pl_fix) ∈ K_Pl := List.mem_of_getElem? (i := 168) rfl
theorem j_Pl_169 : (.selects "VolumeTurner$Plan" y_Pl_namesFit y_Pl_namesFit) ∈ K_Pl := List.mem_of_getElem? (i := 169) rfl
theorem j_Pl_170 : (.selects "VolumeTurner$Plan" y_Pl_timesFit y_Pl_timesFit) ∈ K_Pl := List.mem_of_getElem? (i := 170) rfl
theorem j_Pl_171 : (.selects "VolumeTurner$Plan" y_Pl_blockOfCluster y_Pl_blockOfCluster) ∈ K_Pl := List.mem_of_getElem? (i := 171) rfl
theorem j_Pl_172 : (.selects "VolumeTurner$Plan" y_Pl_hasFixed y_Pl_hasFixed) ∈ K_Pl := List.mem_of_getElem? (i := 172) rfl
theorem j_Pl_173 : (.selects "VolumeTurner$Plan" y_Pl_aim y_Pl_aim) ∈ K_Pl := List.mem_of_getElem? (i := 173) rfl
theorem j_Pl_174 : (.selects "VolumeTurner$Plan" y_Pl_findRooms y_Pl_findRooms) ∈ K_Pl := List.mem_of_getElem? (i := 174) rfl
theorem j_Pl_175 : (.selects "VolumeTurner$Plan" y_Pl_addRooms y_Pl_addRooms) ∈ K_Pl := List.mem_of_getElem? (i := 175) rfl
theorem j_Pl_176 : (.selects "VolumeTurner$Plan" y_Pl_blocksBuilt y_Pl_blocksBuilt) ∈ K_Pl := List.mem_of_getElem? (i := 176) rfl
theorem j_Pl_177 : (.selects "VolumeTurner$Plan" y_Pl_listChain y_Pl_listChain) ∈ K_Pl := List.mem_of_getElem? (i := 177) rfl
theorem j_Pl_178 : (.selects "VolumeTurner$Plan" y_Pl_addToList y_Pl_addToList) ∈ K_Pl := List.mem_of_getElem? (i := 178) rfl
theorem j_Pl_179 : (.selects "VolumeTurner$Plan" y_Pl_mark y_Pl_mark) ∈ K_Pl := List.mem_of_getElem? (i := 179) rfl
def V_Pl : List Cond := w_Pl ++ (K_Pl ++ V_Ed)
theorem i_Pl : ∀ w ∈ w_Pl, w ∈ V_Pl := fun _ h => List.mem_append_left _ h
theorem kk_Pl : ∀ w ∈ K_Pl, w ∈ V_Pl := fun _ h => List.mem_append_right _ (List.mem_append_left _ h)
theorem u_Pl_Ed : ∀ w ∈ V_Ed, w ∈ V_Pl := fun _ h => List.mem_append_right _ (List.mem_append_right _ h)
theorem u_Pl_J : ∀ w ∈ V_J, w ∈ V_Pl := fun w h => u_Pl_Ed w (u_Ed_J w h)
theorem u_Pl_Dk : ∀ w ∈ V_Dk, w ∈ V_Pl := fun w h => u_Pl_Ed w (u_Ed_Dk w h)
theorem u_Pl_Wo : ∀ w ∈ V_Wo, w ∈ V_Pl := fun w h => u_Pl_Ed w (u_Ed_Wo w h)
theorem u_Pl_Da : ∀ w ∈ V_Da, w ∈ V_Pl := fun w h => u_Pl_Ed w (u_Ed_Da w h)
theorem u_Pl_Tp : ∀ w ∈ V_Tp, w ∈ V_Pl := fun w h => u_Pl_Ed w (u_Ed_Tp w h)
theorem u_Pl_Tb : ∀ w ∈ V_Tb, w ∈ V_Pl := fun w h => u_Pl_Ed w (u_Ed_Tb w h)
theorem u_Pl_Tr : ∀ w ∈ V_Tr, w ∈ V_Pl := fun w h => u_Pl_Ed w (u_Ed_Tr w h)
theorem u_Pl_In : ∀ w ∈ V_In, w ∈ V_Pl := fun w h => u_Pl_Ed w (u_Ed_In w h)
theorem u_Pl_Rd : ∀ w ∈ V_Rd, w ∈ V_Pl := fun w h => u_Pl_Ed w (u_Ed_Rd w h)
theorem k_Pl_0 : (.initialized "VolumeTurner$Plan") ∈ V_Pl := kk_Pl _ j_Pl_0
theorem k_Pl_1 : (.fieldLink "VolumeTurner$Plan" 48 "VolumeTurner$Disk" "sectors" "I") ∈ V_Pl := kk_Pl _ j_Pl_1
theorem k_Pl_2 : (.fieldLink "VolumeTurner$Plan" 139 "VolumeTurner$Table" "cluster" "I") ∈ V_Pl := kk_Pl _ j_Pl_2
theorem k_Pl_3 : (.fieldLink "VolumeTurner$Plan" 79 "VolumeTurner$Table" "start" "I") ∈ V_Pl := kk_Pl _ j_Pl_3
theorem k_Pl_4 : (.fieldLink "VolumeTurner$Plan" 136 "VolumeTurner$Table" "clusters" "I") ∈ V_Pl := kk_Pl _ j_Pl_4
theorem k_Pl_5 : (.fieldLink "VolumeTurner$Plan" 111 "VolumeTurner$Tree" "count" "I") ∈ V_Pl := kk_Pl _ j_Pl_5
theorem k_Pl_6 : (.instantiable "VolumeTurner$Plan" 17) ∈ V_Pl := kk_Pl _ j_Pl_6
theorem k_Pl_7 : (.instanceMethod y_Pl_init) ∈ V_Pl := kk_Pl _ j_Pl_7
theorem k_Pl_8 : (.code y_Pl_init prog_6_method_1_code 4 none) ∈ V_Pl := kk_Pl _ j_Pl_8
theorem k_Pl_9 : (.methodLink "VolumeTurner$Plan" 3 objectInit) ∈ V_Pl := kk_Pl _ j_Pl_9
theorem k_Pl_10 : (.methodLink "VolumeTurner$Plan" 63 y_Tb_behind) ∈ V_Pl := kk_Pl _ j_Pl_10
theorem k_Pl_11 : (.fieldLink "VolumeTurner$Plan" 36 "VolumeTurner$Plan" "disk" "LVolumeTurner$Disk;") ∈ V_Pl := kk_Pl _ j_Pl_11
theorem k_Pl_12 : (.fieldLink "VolumeTurner$Plan" 40 "VolumeTurner$Plan" "table" "LVolumeTurner$Table;") ∈ V_Pl := kk_Pl _ j_Pl_12
theorem k_Pl_13 : (.fieldLink "VolumeTurner$Plan" 44 "VolumeTurner$Plan" "tree" "LVolumeTurner$Tree;") ∈ V_Pl := kk_Pl _ j_Pl_13
theorem k_Pl_14 : (.fieldLink "VolumeTurner$Plan" 53 "VolumeTurner$Plan" "blocks" "I") ∈ V_Pl := kk_Pl _ j_Pl_14
theorem k_Pl_15 : (.fieldLink "VolumeTurner$Plan" 56 "VolumeTurner$Plan" "fixed" "[Z") ∈ V_Pl := kk_Pl _ j_Pl_15
theorem k_Pl_16 : (.fieldLink "VolumeTurner$Plan" 60 "VolumeTurner$Plan" "used" "[Z") ∈ V_Pl := kk_Pl _ j_Pl_16
theorem k_Pl_17 : (.fieldLink "VolumeTurner$Plan" 69 "VolumeTurner$Plan" "aimedAt" "[Z") ∈ V_Pl := kk_Pl _ j_Pl_17
theorem k_Pl_18 : (.fieldLink "VolumeTurner$Plan" 72 "VolumeTurner$Plan" "rooms" "[I") ∈ V_Pl := kk_Pl _ j_Pl_18
theorem k_Pl_19 : (.fieldLink "VolumeTurner$Plan" 9 "VolumeTurner$Plan" "roomCount" "I") ∈ V_Pl := kk_Pl _ j_Pl_19
theorem k_Pl_20 : (.fieldLink "VolumeTurner$Plan" 76 "VolumeTurner$Plan" "list" "[I") ∈ V_Pl := kk_Pl _ j_Pl_20
theorem k_Pl_21 : (.fieldLink "VolumeTurner$Plan" 15 "VolumeTurner$Plan" "listed" "I") ∈ V_Pl := kk_Pl _ j_Pl_21
theorem k_Pl_22 : (.fieldLink "VolumeTurner$Plan" 18 "VolumeTurner$Plan" "size" "I") ∈ V_Pl := kk_Pl _ j_Pl_22
theorem k_Pl_23 : (.fieldLink "VolumeTurner$Plan" 21 "VolumeTurner$Plan" "groups" "I") ∈ V_Pl := kk_Pl _ j_Pl_23
theorem k_Pl_24 : (.fieldLink "VolumeTurner$Plan" 24 "VolumeTurner$Plan" "inodes" "I") ∈ V_Pl := kk_Pl _ j_Pl_24
theorem k_Pl_25 : (.fieldLink "VolumeTurner$Plan" 27 "VolumeTurner$Plan" "moves" "I") ∈ V_Pl := kk_Pl _ j_Pl_25
theorem k_Pl_26 : (.fieldLink "VolumeTurner$Plan" 30 "VolumeTurner$Plan" "built" "I") ∈ V_Pl := kk_Pl _ j_Pl_26
theorem k_Pl_27 : (.fieldLink "VolumeTurner$Plan" 33 "VolumeTurner$Plan" "free" "I") ∈ V_Pl := kk_Pl _ j_Pl_27
theorem k_Pl_28 : (.instanceMethod y_Pl_refusal) ∈ V_Pl := kk_Pl _ j_Pl_28
theorem k_Pl_29 : (.selects "VolumeTurner$Plan" y_Pl_refusal y_Pl_refusal) ∈ V_Pl := kk_Pl _ j_Pl_29
theorem k_Pl_30 : (.code y_Pl_refusal prog_6_method_2_code 3 (some .int)) ∈ V_Pl := kk_Pl _ j_Pl_30
theorem k_Pl_31 : (.methodLink "VolumeTurner$Plan" 82 y_Pl_divide) ∈ V_Pl := kk_Pl _ j_Pl_31
theorem k_Pl_32 : (.instanceMethod y_Pl_divide) ∈ V_Pl := kk_Pl _ j_Pl_32
theorem k_Pl_33 : (.code y_Pl_divide prog_6_method_5_code 2 (some .boolean)) ∈ V_Pl := kk_Pl _ j_Pl_33
theorem k_Pl_34 : (.methodLink "VolumeTurner$Plan" 86 y_Pl_leastInodes) ∈ V_Pl := kk_Pl _ j_Pl_34
theorem k_Pl_35 : (.instanceMethod y_Pl_leastInodes) ∈ V_Pl := kk_Pl _ j_Pl_35
theorem k_Pl_36 : (.code y_Pl_leastInodes prog_6_method_6_code 3 (some .int)) ∈ V_Pl := kk_Pl _ j_Pl_36
theorem k_Pl_37 : (.methodLink "VolumeTurner$Plan" 89 y_Pl_layOut) ∈ V_Pl := kk_Pl _ j_Pl_37
theorem k_Pl_38 : (.instanceMethod y_Pl_layOut) ∈ V_Pl := kk_Pl _ j_Pl_38
theorem k_Pl_39 : (.code y_Pl_layOut prog_6_method_10_code 5 (some .boolean)) ∈ V_Pl := kk_Pl _ j_Pl_39
theorem k_Pl_40 : (.methodLink "VolumeTurner$Plan" 126 y_Pl_blocksOf) ∈ V_Pl := kk_Pl _ j_Pl_40
theorem k_Pl_41 : (.instanceMethod y_Pl_blocksOf) ∈ V_Pl := kk_Pl _ j_Pl_41
theorem k_Pl_42 : (.selects "VolumeTurner$Plan" y_Pl_blocksOf y_Pl_blocksOf) ∈ V_Pl := kk_Pl _ j_Pl_42
theorem k_Pl_43 : (.code y_Pl_blocksOf prog_6_method_8_code 2 (some .int)) ∈ V_Pl := kk_Pl _ j_Pl_43
theorem k_Pl_44 : (.methodLink "VolumeTurner$Plan" 116 y_Pl_firstBlock) ∈ V_Pl := kk_Pl _ j_Pl_44
theorem k_Pl_45 : (.instanceMethod y_Pl_firstBlock) ∈ V_Pl := kk_Pl _ j_Pl_45
theorem k_Pl_46 : (.selects "VolumeTurner$Plan" y_Pl_firstBlock y_Pl_firstBlock) ∈ V_Pl := kk_Pl _ j_Pl_46
theorem k_Pl_47 : (.code y_Pl_firstBlock prog_6_method_7_code 2 (some .int)) ∈ V_Pl := kk_Pl _ j_Pl_47
theorem k_Pl_48 : (.methodLink "VolumeTurner$Plan" 120 ⟨"java/lang/Math", "min", "(II)I"⟩) ∈ V_Pl := kk_Pl _ j_Pl_48
theorem k_Pl_49 : (.methodLink "VolumeTurner$Plan" 129 y_Pl_fix) ∈ V_Pl := kk_Pl _ j_Pl_49
theorem k_Pl_50 : (.instanceMethod y_Pl_fix) ∈ V_Pl := kk_Pl _ j_Pl_50
theorem k_Pl_51 : (.code y_Pl_fix prog_6_method_11_code 7 (some .boolean)) ∈ V_Pl := kk_Pl _ j_Pl_51
theorem k_Pl_52 : (.methodLink "VolumeTurner$Plan" 133 y_Pl_mapBlock) ∈ V_Pl := kk_Pl _ j_Pl_52
theorem k_Pl_53 : (.instanceMethod y_Pl_mapBlock) ∈ V_Pl := kk_Pl _ j_Pl_53
theorem k_Pl_54 : (.selects "VolumeTurner$Plan" y_Pl_mapBlock y_Pl_mapBlock) ∈ V_Pl := kk_Pl _ j_Pl_54
theorem k_Pl_55 : (.code y_Pl_mapBlock prog_6_method_9_code 2 (some .int)) ∈ V_Pl := kk_Pl _ j_Pl_55
theorem k_Pl_56 : (.methodLink "VolumeTurner$Plan" 92 y_Pl_namesFit) ∈ V_Pl := kk_Pl _ j_Pl_56
theorem k_Pl_57 : (.instanceMethod y_Pl_namesFit) ∈ V_Pl := kk_Pl _ j_Pl_57
theorem k_Pl_58 : (.code y_Pl_namesFit prog_6_method_12_code 3 (some .boolean)) ∈ V_Pl := kk_Pl _ j_Pl_58
theorem k_Pl_59 : (.methodLink "VolumeTurner$Plan" 142 y_Tr_parentOf) ∈ V_Pl := kk_Pl _ j_Pl_59
theorem k_Pl_60 : (.methodLink "VolumeTurner$Plan" 145 y_Tr_nameSize) ∈ V_Pl := kk_Pl _ j_Pl_60
theorem k_Pl_61 : (.methodLink "VolumeTurner$Plan" 148 y_Tr_isNamedAsRecord) ∈ V_Pl := kk_Pl _ j_Pl_61
theorem k_Pl_62 : (.methodLink "VolumeTurner$Plan" 96 y_Pl_timesFit) ∈ V_Pl := kk_Pl _ j_Pl_62
theorem k_Pl_63 : (.instanceMethod y_Pl_timesFit) ∈ V_Pl := kk_Pl _ j_Pl_63
theorem k_Pl_64 : (.code y_Pl_timesFit prog_6_method_13_code 3 (some .boolean)) ∈ V_Pl := kk_Pl _ j_Pl_64
theorem k_Pl_65 : (.methodLink "VolumeTurner$Plan" 151 y_Tr_spotOf) ∈ V_Pl := kk_Pl _ j_Pl_65
theorem k_Pl_66 : (.methodLink "VolumeTurner$Plan" 154 y_Da_seconds) ∈ V_Pl := kk_Pl _ j_Pl_66
theorem k_Pl_67 : (.constantLong "VolumeTurner$Plan" 160 (4294967295 : Int64)) ∈ V_Pl := kk_Pl _ j_Pl_67
theorem k_Pl_68 : (.methodLink "VolumeTurner$Plan" 99 y_Pl_aim) ∈ V_Pl := kk_Pl _ j_Pl_68
theorem k_Pl_69 : (.instanceMethod y_Pl_aim) ∈ V_Pl := kk_Pl _ j_Pl_69
theorem k_Pl_70 : (.code y_Pl_aim prog_6_method_16_code 5 (some .boolean)) ∈ V_Pl := kk_Pl _ j_Pl_70
theorem k_Pl_71 : (.methodLink "VolumeTurner$Plan" 165 y_Tb_isFree) ∈ V_Pl := kk_Pl _ j_Pl_71
theorem k_Pl_72 : (.methodLink "VolumeTurner$Plan" 168 y_Pl_hasFixed) ∈ V_Pl := kk_Pl _ j_Pl_72
theorem k_Pl_73 : (.instanceMethod y_Pl_hasFixed) ∈ V_Pl := kk_Pl _ j_Pl_73
theorem k_Pl_74 : (.code y_Pl_hasFixed prog_6_method_15_code 4 (some .boolean)) ∈ V_Pl := kk_Pl _ j_Pl_74
theorem k_Pl_75 : (.methodLink "VolumeTurner$Plan" 162 y_Pl_blockOfCluster) ∈ V_Pl := kk_Pl _ j_Pl_75
theorem k_Pl_76 : (.instanceMethod y_Pl_blockOfCluster) ∈ V_Pl := kk_Pl _ j_Pl_76
theorem k_Pl_77 : (.code y_Pl_blockOfCluster prog_6_method_14_code 2 (some .int)) ∈ V_Pl := kk_Pl _ j_Pl_77
theorem k_Pl_78 : (.methodLink "VolumeTurner$Plan" 171 y_Tb_setGoal) ∈ V_Pl := kk_Pl _ j_Pl_78
theorem k_Pl_79 : (.methodLink "VolumeTurner$Plan" 175 y_Pl_findRooms) ∈ V_Pl := kk_Pl _ j_Pl_79
theorem k_Pl_80 : (.instanceMethod y_Pl_findRooms) ∈ V_Pl := kk_Pl _ j_Pl_80
theorem k_Pl_81 : (.code y_Pl_findRooms prog_6_method_17_code 3 none) ∈ V_Pl := kk_Pl _ j_Pl_81
theorem k_Pl_82 : (.methodLink "VolumeTurner$Plan" 179 y_Pl_addRooms) ∈ V_Pl := kk_Pl _ j_Pl_82
theorem k_Pl_83 : (.instanceMethod y_Pl_addRooms) ∈ V_Pl := kk_Pl _ j_Pl_83
theorem k_Pl_84 : (.code y_Pl_addRooms prog_6_method_18_code 3 none) ∈ V_Pl := kk_Pl _ j_Pl_84
theorem k_Pl_85 : (.methodLink "VolumeTurner$Plan" 102 y_Pl_assign) ∈ V_Pl := kk_Pl _ j_Pl_85
theorem k_Pl_86 : (.instanceMethod y_Pl_assign) ∈ V_Pl := kk_Pl _ j_Pl_86
theorem k_Pl_87 : (.selects "VolumeTurner$Plan" y_Pl_assign y_Pl_assign) ∈ V_Pl := kk_Pl _ j_Pl_87
theorem k_Pl_88 : (.code y_Pl_assign prog_6_method_20_code 3 (some .boolean)) ∈ V_Pl := kk_Pl _ j_Pl_88
theorem k_Pl_89 : (.methodLink "VolumeTurner$Plan" 182 y_Pl_gather) ∈ V_Pl := kk_Pl _ j_Pl_89
theorem k_Pl_90 : (.instanceMethod y_Pl_gather) ∈ V_Pl := kk_Pl _ j_Pl_90
theorem k_Pl_91 : (.selects "VolumeTurner$Plan" y_Pl_gather y_Pl_gather) ∈ V_Pl := kk_Pl _ j_Pl_91
theorem k_Pl_92 : (.code y_Pl_gather prog_6_method_26_code 5 none) ∈ V_Pl := kk_Pl _ j_Pl_92
theorem k_Pl_93 : (.methodLink "VolumeTurner$Plan" 222 y_Tr_builtBlocksOf) ∈ V_Pl := kk_Pl _ j_Pl_93
theorem k_Pl_94 : (.methodLink "VolumeTurner$Plan" 225 y_Tr_builtOf) ∈ V_Pl := kk_Pl _ j_Pl_94
theorem k_Pl_95 : (.methodLink "VolumeTurner$Plan" 228 y_Pl_room) ∈ V_Pl := kk_Pl _ j_Pl_95
theorem k_Pl_96 : (.instanceMethod y_Pl_room) ∈ V_Pl := kk_Pl _ j_Pl_96
theorem k_Pl_97 : (.selects "VolumeTurner$Plan" y_Pl_room y_Pl_room) ∈ V_Pl := kk_Pl _ j_Pl_97
theorem k_Pl_98 : (.code y_Pl_room prog_6_method_19_code 2 (some .int)) ∈ V_Pl := kk_Pl _ j_Pl_98
theorem k_Pl_99 : (.methodLink "VolumeTurner$Plan" 231 y_Pl_addToList) ∈ V_Pl := kk_Pl _ j_Pl_99
theorem k_Pl_100 : (.instanceMethod y_Pl_addToList) ∈ V_Pl := kk_Pl _ j_Pl_100
theorem k_Pl_101 : (.code y_Pl_addToList prog_6_method_28_code 2 none) ∈ V_Pl := kk_Pl _ j_Pl_101
theorem k_Pl_102 : (.methodLink "VolumeTurner$Plan" 188 y_Tr_isDirectory) ∈ V_Pl := kk_Pl _ j_Pl_102
theorem k_Pl_103 : (.methodLink "VolumeTurner$Plan" 234 y_Tr_firstOf) ∈ V_Pl := kk_Pl _ j_Pl_103
theorem k_Pl_104 : (.methodLink "VolumeTurner$Plan" 237 y_Pl_listChain) ∈ V_Pl := kk_Pl _ j_Pl_104
theorem k_Pl_105 : (.instanceMethod y_Pl_listChain) ∈ V_Pl := kk_Pl _ j_Pl_105
theorem k_Pl_106 : (.code y_Pl_listChain prog_6_method_27_code 10 none) ∈ V_Pl := kk_Pl _ j_Pl_106
theorem k_Pl_107 : (.methodLink "VolumeTurner$Plan" 240 y_Tb_nextOf) ∈ V_Pl := kk_Pl _ j_Pl_107
theorem k_Pl_108 : (.methodLink "VolumeTurner$Plan" 243 y_Tb_goalOf) ∈ V_Pl := kk_Pl _ j_Pl_108
theorem k_Pl_109 : (.methodLink "VolumeTurner$Plan" 198 y_Tr_sizeOf) ∈ V_Pl := kk_Pl _ j_Pl_109
theorem k_Pl_110 : (.methodLink "VolumeTurner$Plan" 185 y_Pl_indirects) ∈ V_Pl := kk_Pl _ j_Pl_110
theorem k_Pl_111 : (.static y_Pl_indirects) ∈ V_Pl := kk_Pl _ j_Pl_111
theorem k_Pl_112 : (.code y_Pl_indirects prog_6_method_21_code 2 (some .int)) ∈ V_Pl := kk_Pl _ j_Pl_112
theorem k_Pl_113 : (.methodLink "VolumeTurner$Plan" 191 y_Pl_blocksBuilt) ∈ V_Pl := kk_Pl _ j_Pl_113
theorem k_Pl_114 : (.instanceMethod y_Pl_blocksBuilt) ∈ V_Pl := kk_Pl _ j_Pl_114
theorem k_Pl_115 : (.code y_Pl_blocksBuilt prog_6_method_25_code 6 (some .int)) ∈ V_Pl := kk_Pl _ j_Pl_115
theorem k_Pl_116 : (.methodLink "VolumeTurner$Plan" 214 y_Pl_entriesOf) ∈ V_Pl := kk_Pl _ j_Pl_116
theorem k_Pl_117 : (.instanceMethod y_Pl_entriesOf) ∈ V_Pl := kk_Pl _ j_Pl_117
theorem k_Pl_118 : (.selects "VolumeTurner$Plan" y_Pl_entriesOf y_Pl_entriesOf) ∈ V_Pl := kk_Pl _ j_Pl_118
theorem k_Pl_119 : (.code y_Pl_entriesOf prog_6_method_22_code 2 (some .int)) ∈ V_Pl := kk_Pl _ j_Pl_119
theorem k_Pl_120 : (.methodLink "VolumeTurner$Plan" 201 y_Tr_countIn) ∈ V_Pl := kk_Pl _ j_Pl_120
theorem k_Pl_121 : (.methodLink "VolumeTurner$Plan" 217 y_Pl_nameSize) ∈ V_Pl := kk_Pl _ j_Pl_121
theorem k_Pl_122 : (.instanceMethod y_Pl_nameSize) ∈ V_Pl := kk_Pl _ j_Pl_122
theorem k_Pl_123 : (.selects "VolumeTurner$Plan" y_Pl_nameSize y_Pl_nameSize) ∈ V_Pl := kk_Pl _ j_Pl_123
theorem k_Pl_124 : (.code y_Pl_nameSize prog_6_method_23_code 3 (some .int)) ∈ V_Pl := kk_Pl _ j_Pl_124
theorem k_Pl_125 : (.methodLink "VolumeTurner$Plan" 204 y_Tr_kid) ∈ V_Pl := kk_Pl _ j_Pl_125
theorem k_Pl_126 : (.methodLink "VolumeTurner$Plan" 209 ⟨"java/lang/String", "length", "()I"⟩) ∈ V_Pl := kk_Pl _ j_Pl_126
theorem k_Pl_127 : (.methodLink "VolumeTurner$Plan" 219 y_Pl_entryLength) ∈ V_Pl := kk_Pl _ j_Pl_127
theorem k_Pl_128 : (.static y_Pl_entryLength) ∈ V_Pl := kk_Pl _ j_Pl_128
theorem k_Pl_129 : (.code y_Pl_entryLength prog_6_method_24_code 1 (some .int)) ∈ V_Pl := kk_Pl _ j_Pl_129
theorem k_Pl_130 : (.methodLink "VolumeTurner$Plan" 194 y_Tr_setBuilt) ∈ V_Pl := kk_Pl _ j_Pl_130
theorem k_Pl_131 : (.methodLink "VolumeTurner$Plan" 105 y_Pl_markUsed) ∈ V_Pl := kk_Pl _ j_Pl_131
theorem k_Pl_132 : (.instanceMethod y_Pl_markUsed) ∈ V_Pl := kk_Pl _ j_Pl_132
theorem k_Pl_133 : (.selects "VolumeTurner$Plan" y_Pl_markUsed y_Pl_markUsed) ∈ V_Pl := kk_Pl _ j_Pl_133
theorem k_Pl_134 : (.code y_Pl_markUsed prog_6_method_30_code 4 none) ∈ V_Pl := kk_Pl _ j_Pl_134
theorem k_Pl_135 : (.methodLink "VolumeTurner$Plan" 246 y_Pl_mark) ∈ V_Pl := kk_Pl _ j_Pl_135
theorem k_Pl_136 : (.instanceMethod y_Pl_mark) ∈ V_Pl := kk_Pl _ j_Pl_136
theorem k_Pl_137 : (.code y_Pl_mark prog_6_method_31_code 2 none) ∈ V_Pl := kk_Pl _ j_Pl_137
theorem k_Pl_138 : (.methodLink "VolumeTurner$Plan" 249 y_Pl_firstIndirect) ∈ V_Pl := kk_Pl _ j_Pl_138
theorem k_Pl_139 : (.instanceMethod y_Pl_firstIndirect) ∈ V_Pl := kk_Pl _ j_Pl_139
theorem k_Pl_140 : (.selects "VolumeTurner$Plan" y_Pl_firstIndirect y_Pl_firstIndirect) ∈ V_Pl := kk_Pl _ j_Pl_140
theorem k_Pl_141 : (.code y_Pl_firstIndirect prog_6_method_29_code 2 (some .int)) ∈ V_Pl := kk_Pl _ j_Pl_141
theorem k_Pl_142 : (.methodLink "VolumeTurner$Plan" 252 y_Pl_freeBlocks) ∈ V_Pl := kk_Pl _ j_Pl_142
theorem k_Pl_143 : (.instanceMethod y_Pl_freeBlocks) ∈ V_Pl := kk_Pl _ j_Pl_143
theorem k_Pl_144 : (.selects "VolumeTurner$Plan" y_Pl_freeBlocks y_Pl_freeBlocks) ∈ V_Pl := kk_Pl _ j_Pl_144
theorem k_Pl_145 : (.code y_Pl_freeBlocks prog_6_method_33_code 4 (some .int)) ∈ V_Pl := kk_Pl _ j_Pl_145
theorem k_Pl_146 : (.methodLink "VolumeTurner$Plan" 255 y_Pl_isUsed) ∈ V_Pl := kk_Pl _ j_Pl_146
theorem k_Pl_147 : (.instanceMethod y_Pl_isUsed) ∈ V_Pl := kk_Pl _ j_Pl_147
theorem k_Pl_148 : (.selects "VolumeTurner$Plan" y_Pl_isUsed y_Pl_isUsed) ∈ V_Pl := kk_Pl _ j_Pl_148
theorem k_Pl_149 : (.code y_Pl_isUsed prog_6_method_32_code 2 (some .boolean)) ∈ V_Pl := kk_Pl _ j_Pl_149
theorem k_Pl_150 : (.instanceMethod y_Pl_number) ∈ V_Pl := kk_Pl _ j_Pl_150
theorem k_Pl_151 : (.selects "VolumeTurner$Plan" y_Pl_number y_Pl_number) ∈ V_Pl := kk_Pl _ j_Pl_151
theorem k_Pl_152 : (.code y_Pl_number prog_6_method_3_code 2 (some .int)) ∈ V_Pl := kk_Pl _ j_Pl_152
theorem k_Pl_153 : (.instanceMethod y_Pl_recall) ∈ V_Pl := kk_Pl _ j_Pl_153
theorem k_Pl_154 : (.selects "VolumeTurner$Plan" y_Pl_recall y_Pl_recall) ∈ V_Pl := kk_Pl _ j_Pl_154
theorem k_Pl_155 : (.code y_Pl_recall prog_6_method_4_code 3 (some .boolean)) ∈ V_Pl := kk_Pl _ j_Pl_155
theorem k_Pl_156 : (.methodLink "VolumeTurner$Plan" 108 y_Tb_read) ∈ V_Pl := kk_Pl _ j_Pl_156
theorem k_Pl_157 : (.instanceMethod y_Pl_usedInodes) ∈ V_Pl := kk_Pl _ j_Pl_157
theorem k_Pl_158 : (.selects "VolumeTurner$Plan" y_Pl_usedInodes y_Pl_usedInodes) ∈ V_Pl := kk_Pl _ j_Pl_158
theorem k_Pl_159 : (.code y_Pl_usedInodes prog_6_method_34_code 1 (some .int)) ∈ V_Pl := kk_Pl _ j_Pl_159
theorem k_Pl_160 : (.instanceMethod y_Pl_freeInodes) ∈ V_Pl := kk_Pl _ j_Pl_160
theorem k_Pl_161 : (.selects "VolumeTurner$Plan" y_Pl_freeInodes y_Pl_freeInodes) ∈ V_Pl := kk_Pl _ j_Pl_161
theorem k_Pl_162 : (.code y_Pl_freeInodes prog_6_method_35_code 3 (some .int)) ∈ V_Pl := kk_Pl _ j_Pl_162
theorem k_Pl_163 : (.methodLink "VolumeTurner$Plan" 258 y_Pl_usedInodes) ∈ V_Pl := kk_Pl _ j_Pl_163
theorem k_Pl_164 : (.methodLink "VolumeTurner$Plan" 261 ⟨"java/lang/Math", "max", "(II)I"⟩) ∈ V_Pl := kk_Pl _ j_Pl_164
theorem k_Pl_165 : (.selects "VolumeTurner$Plan" y_Pl_divide y_Pl_divide) ∈ V_Pl := kk_Pl _ j_Pl_165
theorem k_Pl_166 : (.selects "VolumeTurner$Plan" y_Pl_leastInodes y_Pl_leastInodes) ∈ V_Pl := kk_Pl _ j_Pl_166
theorem k_Pl_167 : (.selects "VolumeTurner$Plan" y_Pl_layOut y_Pl_layOut) ∈ V_Pl := kk_Pl _ j_Pl_167
theorem k_Pl_168 : (.selects "VolumeTurner$Plan" y_Pl_fix y_Pl_fix) ∈ V_Pl := kk_Pl _ j_Pl_168
theorem k_Pl_169 : (.selects "VolumeTurner$Plan" y_Pl_namesFit y_Pl_namesFit) ∈ V_Pl := kk_Pl _ j_Pl_169
theorem k_Pl_170 : (.selects "VolumeTurner$Plan" y_Pl_timesFit y_Pl_timesFit) ∈ V_Pl := kk_Pl _ j_Pl_170
theorem k_Pl_171 : (.selects "VolumeTurner$Plan" y_Pl_blockOfCluster y_Pl_blockOfCluster) ∈ V_Pl := kk_Pl _ j_Pl_171
theorem k_Pl_172 : (.selects "VolumeTurner$Plan" y_Pl_hasFixed y_Pl_hasFixed) ∈ V_Pl := kk_Pl _ j_Pl_172
theorem k_Pl_173 : (.selects "VolumeTurner$Plan" y_Pl_aim y_Pl_aim) ∈ V_Pl := kk_Pl _ j_Pl_173
theorem k_Pl_174 : (.selects "VolumeTurner$Plan" y_Pl_findRooms y_Pl_findRooms) ∈ V_Pl := kk_Pl _ j_Pl_174
theorem k_Pl_175 : (.selects "VolumeTurner$Plan" y_Pl_addRooms y_Pl_addRooms) ∈ V_Pl := kk_Pl _ j_Pl_175
theorem k_Pl_176 : (.selects "VolumeTurner$Plan" y_Pl_blocksBuilt y_Pl_blocksBuilt) ∈ V_Pl := kk_Pl _ j_Pl_176
theorem k_Pl_177 : (.selects "VolumeTurner$Plan" y_Pl_listChain y_Pl_listChain) ∈ V_Pl := kk_Pl _ j_Pl_177
theorem k_Pl_178 : (.selects "VolumeTurner$Plan" y_Pl_addToList y_Pl_addToList) ∈ V_Pl := kk_Pl _ j_Pl_178
theorem k_Pl_179 : (.selects "VolumeTurner$Plan" y_Pl_mark y_Pl_mark) ∈ V_Pl := kk_Pl _ j_Pl_179
theorem gk_Pl : ∀ w ∈ w_Pl ++ K_Pl, goodWord w = true := List.all_eq_true.mp (by decide +kernel)
theorem good_Pl : GoodIn V_Pl V_Pl := fun w h => by
  refine ⟨h, ?_⟩
  rcases List.mem_append.mp h with q | q
  · exact good_of_word (gk_Pl w (List.mem_append_left _ q))
  · rcases List.mem_append.mp q with q | q
    · exact good_of_word (gk_Pl w (List.mem_append_right _ q))
    · exact (good_Ed w q).2
abbrev b_Tu_init : ByteArray := prog_11_method_1_code
def y_Tu_init : MethodName := ⟨R_Tu, "<init>", "(LVolumeTurner$Disk;LVolumeTurner$Table;LVolumeTurner$Tree;LVolumeTurner$Reader;LVolumeTurner$Plan;LVolumeTurner$Inodes;)V"⟩
theorem d_Tu_init_0 : decode b_Tu_init 0 = .ok (.aload_n 0, 1) := by decide +kernel
theorem d_Tu_init_1 : decode b_Tu_init 1 = .ok (.invokespecial 3, 3) := by decide +kernel
theorem d_Tu_init_4 : decode b_Tu_init 4 = .ok (.aload_n 0, 1) := by decide +kernel
theorem d_Tu_init_5 : decode b_Tu_init 5 = .ok (.sipush 1024, 3) := by decide +kernel
theorem d_Tu_init_8 : decode b_Tu_init 8 = .ok (.newarray .byte, 2) := by decide +kernel
theorem d_Tu_init_10 : decode b_Tu_init 10 = .ok (.putfield 9, 3) := by decide +kernel
theorem d_Tu_init_13 : decode b_Tu_init 13 = .ok (.aload_n 0, 1) := by decide +kernel
theorem d_Tu_init_14 : decode b_Tu_init 14 = .ok (.aload_n 1, 1) := by decide +kernel
theorem d_Tu_init_15 : decode b_Tu_init 15 = .ok (.putfield 15, 3) := by decide +kernel
theorem d_Tu_init_18 : decode b_Tu_init 18 = .ok (.aload_n 0, 1) := by decide +kernel
theorem d_Tu_init_19 : decode b_Tu_init 19 = .ok (.aload_n 2, 1) := by decide +kernel
theorem d_Tu_init_20 : decode b_Tu_init 20 = .ok (.putfield 19, 3) := by decide +kernel
theorem d_Tu_init_23 : decode b_Tu_init 23 = .ok (.aload_n 0, 1) := by decide +kernel
theorem d_Tu_init_24 : decode b_Tu_init 24 = .ok (.aload_n 3, 1) := by decide +kernel
theorem d_Tu_init_25 : decode b_Tu_init 25 = .ok (.putfield 23, 3) := by decide +kernel
theorem d_Tu_init_28 : decode b_Tu_init 28 = .ok (.aload_n 0, 1) := by decide +kernel
theorem d_Tu_init_29 : decode b_Tu_init 29 = .ok (.aload 4, 2) := by decide +kernel
theorem d_Tu_init_31 : decode b_Tu_init 31 = .ok (.putfield 27, 3) := by decide +kernel
theorem d_Tu_init_34 : decode b_Tu_init 34 = .ok (.aload_n 0, 1) := by decide +kernel
theorem d_Tu_init_35 : decode b_Tu_init 35 = .ok (.aload 5, 2) := by decide +kernel
theorem d_Tu_init_37 : decode b_Tu_init 37 = .ok (.putfield 31, 3) := by decide +kernel
theorem d_Tu_init_40 : decode b_Tu_init 40 = .ok (.aload_n 0, 1) := by decide +kernel
theorem d_Tu_init_41 : decode b_Tu_init 41 = .ok (.aload 6, 2) := by decide +kernel
theorem d_Tu_init_43 : decode b_Tu_init 43 = .ok (.putfield 35, 3) := by decide +kernel
theorem d_Tu_init_46 : decode b_Tu_init 46 = .ok (.return_, 1) := by decide +kernel
abbrev cb_Tu_turn : ByteArray := prog_11_method_2_code
def y_Tu_turn : MethodName := ⟨R_Tu, "turn", "(II)I"⟩
abbrev cb_Tu_recall : ByteArray := prog_11_method_3_code
def y_Tu_recall : MethodName := ⟨R_Tu, "recall", "()Z"⟩
abbrev cb_Tu_goBack : ByteArray := prog_11_method_4_code
def y_Tu_goBack : MethodName := ⟨R_Tu, "goBack", "()V"⟩
abbrev cb_Tu_copySector : ByteArray := prog_11_method_5_code
def y_Tu_copySector : MethodName := ⟨R_Tu, "copySector", "(II)V"⟩
abbrev cb_Tu_copyCluster : ByteArray := prog_11_method_6_code
def y_Tu_copyCluster : MethodName := ⟨R_Tu, "copyCluster", "(II)V"⟩
abbrev cb_Tu_prepare : ByteArray := prog_11_method_7_code
def y_Tu_prepare : MethodName := ⟨R_Tu, "prepare", "()V"⟩
abbrev cb_Tu_keepSectors : ByteArray := prog_11_method_8_code
def y_Tu_keepSectors : MethodName := ⟨R_Tu, "keepSectors", "()V"⟩
abbrev cb_Tu_empty : ByteArray := prog_11_method_9_code
def y_Tu_empty : MethodName := ⟨R_Tu, "empty", "()V"⟩
abbrev cb_Tu_storeBlock : ByteArray := prog_11_method_10_code
def y_Tu_storeBlock : MethodName := ⟨R_Tu, "storeBlock", "(I)V"⟩
abbrev cb_Tu_putOne : ByteArray := prog_11_method_11_code
def y_Tu_putOne : MethodName := ⟨R_Tu, "putOne", "(II)V"⟩
abbrev cb_Tu_putTwo : ByteArray := prog_11_method_12_code
def y_Tu_putTwo : MethodName := ⟨R_Tu, "putTwo", "(II)V"⟩
abbrev cb_Tu_putFour : ByteArray := prog_11_method_13_code
def y_Tu_putFour : MethodName := ⟨R_Tu, "putFour", "(II)V"⟩
abbrev cb_Tu_buildDirectory : ByteArray := prog_11_method_14_code
def y_Tu_buildDirectory : MethodName := ⟨R_Tu, "buildDirectory", "(I)V"⟩
abbrev b_Tu_inodeOf : ByteArray := prog_11_method_15_code
def y_Tu_inodeOf : MethodName := ⟨R_Tu, "inodeOf", "(I)I"⟩
abbrev cb_Tu_putEntry : ByteArray := prog_11_method_16_code
def y_Tu_putEntry : MethodName := ⟨R_Tu, "putEntry", "(III)V"⟩
abbrev cb_Tu_buildIndirects : ByteArray := prog_11_method_17_code
def y_Tu_buildIndirects : MethodName := ⟨R_Tu, "buildIndirects", "(I)V"⟩
abbrev cb_Tu_putPointers : ByteArray := prog_11_method_18_code
def y_Tu_putPointers : MethodName := ⟨R_Tu, "putPointers", "(I)V"⟩
abbrev cb_Tu_putFixed : ByteArray := prog_11_method_19_code
def y_Tu_putFixed : MethodName := ⟨R_Tu, "putFixed", "()V"⟩
abbrev cb_Tu_fillSuperblock : ByteArray := prog_11_method_20_code
def y_Tu_fillSuperblock : MethodName := ⟨R_Tu, "fillSuperblock", "(I)V"⟩
abbrev cb_Tu_putLabel : ByteArray := prog_11_method_21_code
def y_Tu_putLabel : MethodName := ⟨R_Tu, "putLabel", "()V"⟩
abbrev cb_Tu_fillDescriptors : ByteArray := prog_11_method_22_code
def y_Tu_fillDescriptors : MethodName := ⟨R_Tu, "fillDescriptors", "()V"⟩
abbrev cb_Tu_directoriesOf : ByteArray := prog_11_method_23_code
def y_Tu_directoriesOf : MethodName := ⟨R_Tu, "directoriesOf", "(I)I"⟩
abbrev cb_Tu_dropBit : ByteArray := prog_11_method_24_code
def y_Tu_dropBit : MethodName := ⟨R_Tu, "dropBit", "(I)V"⟩
abbrev cb_Tu_fillBlockMap : ByteArray := prog_11_method_25_code
def y_Tu_fillBlockMap : MethodName := ⟨R_Tu, "fillBlockMap", "(I)V"⟩
abbrev cb_Tu_fillInodeMap : ByteArray := prog_11_method_26_code
def y_Tu_fillInodeMap : MethodName := ⟨R_Tu, "fillInodeMap", "(I)V"⟩
abbrev cb_Tu_fillInodes : ByteArray := prog_11_method_27_code
def y_Tu_fillInodes : MethodName := ⟨R_Tu, "fillInodes", "(I)V"⟩
abbrev cb_Tu_fillInode : ByteArray := prog_11_method_28_code
def y_Tu_fillInode : MethodName := ⟨R_Tu, "fillInode", "(II)V"⟩
abbrev cb_Tu_modeOf : ByteArray := prog_11_method_29_code
def y_Tu_modeOf : MethodName := ⟨R_Tu, "modeOf", "(I)I"⟩
abbrev cb_Tu_linksOf : ByteArray := prog_11_method_30_code
def y_Tu_linksOf : MethodName := ⟨R_Tu, "linksOf", "(I)I"⟩
def K_Tu : List Cond := [(.initialized "VolumeTurner$Turner"), (.fieldLink "VolumeTurner$Turner" 120 "VolumeTurner$Table" "cluster" "I"), (.fieldLink "VolumeTurner$Turner" 123 "VolumeTurner$Table" "start" "I"), (.fieldLink "VolumeTurner$Turner" 101 "VolumeTurner$Table" "clusters" "I"), (.fieldLink "VolumeTurner$Turner" 129 "VolumeTurner$Tree" "count" "I"), (.fieldLink "VolumeTurner$Turner" 271 "VolumeTurner$Tree" "label" "I"), (.fieldLink "VolumeTurner$Turner" 257 "VolumeTurner$Plan" "blocks" "I"), (.fieldLink "VolumeTurner$Turner" 229 "VolumeTurner$Plan" "list" "[I"), (.fieldLink "VolumeTurner$Turner" 220 "VolumeTurner$Plan" "listed" "I"), (.fieldLink "VolumeTurner$Turner" 152 "VolumeTurner$Plan" "size" "I"), (.fieldLink "VolumeTurner$Turner" 233 "VolumeTurner$Plan" "groups" "I"), (.fieldLink "VolumeTurner$Turner" 155 "VolumeTurner$Plan" "inodes" "I"), (.fieldLink "VolumeTurner$Turner" 260 "VolumeTurner$Plan" "free" "I"), (.instantiable "VolumeTurner$Turner" 7), (.instanceMethod y_Tu_init), (.code y_Tu_init prog_11_method_1_code 7 none), (.methodLink "VolumeTurner$Turner" 3 objectInit), (.fieldLink "VolumeTurner$Turner" 15 "VolumeTurner$Turner" "disk" "LVolumeTurner$Disk;"), (.fieldLink "VolumeTurner$Turner" 19 "VolumeTurner$Turner" "table" "LVolumeTurner$Table;"), (.fieldLink "VolumeTurner$Turner" 23 "VolumeTurner$Turner" "tree" "LVolumeTurner$Tree;"), (.fieldLink "VolumeTurner$Turner" 27 "VolumeTurner$Turner" "reader" "LVolumeTurner$Reader;"), (.fieldLink "VolumeTurner$Turner" 31 "VolumeTurner$Turner" "plan" "LVolumeTurner$Plan;"), (.fieldLink "VolumeTurner$Turner" 35 "VolumeTurner$Turner" "inodes" "LVolumeTurner$Inodes;"), (.fieldLink "VolumeTurner$Turner" 9 "VolumeTurner$Turner" "block" "[B"), (.instanceMethod y_Tu_turn), (.selects "VolumeTurner$Turner" y_Tu_turn y_Tu_turn), (.code y_Tu_turn prog_11_method_2_code 4 (some .int)), (.methodLink "VolumeTurner$Turner" 39 y_Tu_goBack), (.instanceMethod y_Tu_goBack), (.code y_Tu_goBack prog_11_method_4_code 3 none), (.methodLink "VolumeTurner$Turner" 71 y_Tu_recall), (.instanceMethod y_Tu_recall), (.code y_Tu_recall prog_11_method_3_code 1 (some .boolean)), (.methodLink "VolumeTurner$Turner" 48 y_In_isMarked), (.methodLink "VolumeTurner$Turner" 83 y_In_markedSize), (.methodLink "VolumeTurner$Turner" 87 y_In_markedInodes), (.methodLink "VolumeTurner$Turner" 90 y_Pl_recall), (.methodLink "VolumeTurner$Turner" 93 y_Pl_room), (.methodLink "VolumeTurner$Turner" 97 y_Tu_copySector), (.instanceMethod y_Tu_copySector), (.code y_Tu_copySector prog_11_method_5_code 3 none), (.methodLink "VolumeTurner$Turner" 113 y_Dk_load), (.methodLink "VolumeTurner$Turner" 117 y_Dk_store), (.methodLink "VolumeTurner$Turner" 66 y_Dk_isOn), (.methodLink "VolumeTurner$Turner" 107 y_Tb_goalOf), (.methodLink "VolumeTurner$Turner" 110 y_Tu_copyCluster), (.instanceMethod y_Tu_copyCluster), (.code y_Tu_copyCluster prog_11_method_6_code 4 none), (.methodLink "VolumeTurner$Turner" 42 y_In_isThere), (.methodLink "VolumeTurner$Turner" 51 y_Rd_scan), (.methodLink "VolumeTurner$Turner" 57 y_Pl_refusal), (.methodLink "VolumeTurner$Turner" 63 y_Tu_prepare), (.instanceMethod y_Tu_prepare), (.code y_Tu_prepare prog_11_method_7_code 2 none), (.methodLink "VolumeTurner$Turner" 126 y_Tu_keepSectors), (.instanceMethod y_Tu_keepSectors), (.code y_Tu_keepSectors prog_11_method_8_code 1 none), (.methodLink "VolumeTurner$Turner" 145 y_Tu_empty), (.instanceMethod y_Tu_empty), (.code y_Tu_empty prog_11_method_9_code 1 none), (.methodLink "VolumeTurner$Turner" 157 ⟨"java/util/Arrays", "fill", "([BB)V"⟩), (.methodLink "VolumeTurner$Turner" 134 y_Tr_isDirectory), (.methodLink "VolumeTurner$Turner" 138 y_Tu_buildDirectory), (.instanceMethod y_Tu_buildDirectory), (.code y_Tu_buildDirectory prog_11_method_14_code 7 none), (.methodLink "VolumeTurner$Turner" 163 y_Tr_builtOf), (.methodLink "VolumeTurner$Turner" 166 y_Pl_entriesOf), (.methodLink "VolumeTurner$Turner" 169 y_Pl_nameSize), (.methodLink "VolumeTurner$Turner" 172 y_Pl_entryLength), (.methodLink "VolumeTurner$Turner" 175 y_Tu_putTwo), (.instanceMethod y_Tu_putTwo), (.code y_Tu_putTwo prog_11_method_12_code 3 none), (.methodLink "VolumeTurner$Turner" 178 y_Tu_storeBlock), (.instanceMethod y_Tu_storeBlock), (.code y_Tu_storeBlock prog_11_method_10_code 2 none), (.methodLink "VolumeTurner$Turner" 181 y_Tu_putEntry), (.instanceMethod y_Tu_putEntry), (.code y_Tu_putEntry prog_11_method_16_code 9 none), (.methodLink "VolumeTurner$Turner" 185 y_Tr_countIn), (.methodLink "VolumeTurner$Turner" 188 y_Tr_parentOf), (.methodLink "VolumeTurner$Turner" 191 y_Tr_kid), (.methodLink "VolumeTurner$Turner" 194 y_Tu_inodeOf), (.static y_Tu_inodeOf), (.code y_Tu_inodeOf prog_11_method_15_code 1 (some .int)), (.methodLink "VolumeTurner$Turner" 149 y_Tu_putFour), (.instanceMethod y_Tu_putFour), (.code y_Tu_putFour prog_11_method_13_code 3 none), (.methodLink "VolumeTurner$Turner" 197 y_Tu_putOne), (.instanceMethod y_Tu_putOne), (.code y_Tu_putOne prog_11_method_11_code 3 none), (.methodLink "VolumeTurner$Turner" 200 y_Tr_nameByte), (.methodLink "VolumeTurner$Turner" 205 ⟨"java/lang/String", "length", "()I"⟩), (.methodLink "VolumeTurner$Turner" 210 ⟨"java/lang/String", "charAt", "(I)C"⟩), (.methodLink "VolumeTurner$Turner" 142 y_Tu_buildIndirects), (.instanceMethod y_Tu_buildIndirects), (.code y_Tu_buildIndirects prog_11_method_17_code 5 none), (.methodLink "VolumeTurner$Turner" 214 y_Pl_gather), (.methodLink "VolumeTurner$Turner" 217 y_Pl_firstIndirect), (.methodLink "VolumeTurner$Turner" 223 y_Pl_indirects), (.methodLink "VolumeTurner$Turner" 226 y_Tu_putPointers), (.instanceMethod y_Tu_putPointers), (.code y_Tu_putPointers prog_11_method_18_code 3 none), (.constant "VolumeTurner$Turner" 148 (1314018644 : Int32)), (.methodLink "VolumeTurner$Turner" 74 y_Pl_assign), (.methodLink "VolumeTurner$Turner" 77 y_Pl_markUsed), (.methodLink "VolumeTurner$Turner" 80 y_Tu_putFixed), (.instanceMethod y_Tu_putFixed), (.code y_Tu_putFixed prog_11_method_19_code 4 none), (.methodLink "VolumeTurner$Turner" 236 y_Tu_fillSuperblock), (.instanceMethod y_Tu_fillSuperblock), (.code y_Tu_fillSuperblock prog_11_method_20_code 2 none), (.methodLink "VolumeTurner$Turner" 263 y_Pl_usedInodes), (.constant "VolumeTurner$Turner" 266 (65535 : Int32)), (.constant "VolumeTurner$Turner" 267 (61267 : Int32)), (.methodLink "VolumeTurner$Turner" 268 y_Dk_four), (.methodLink "VolumeTurner$Turner" 274 y_Tu_putLabel), (.instanceMethod y_Tu_putLabel), (.code y_Tu_putLabel prog_11_method_21_code 3 none), (.methodLink "VolumeTurner$Turner" 277 y_Dk_one), (.methodLink "VolumeTurner$Turner" 239 y_Pl_firstBlock), (.methodLink "VolumeTurner$Turner" 242 y_Tu_fillDescriptors), (.instanceMethod y_Tu_fillDescriptors), (.code y_Tu_fillDescriptors prog_11_method_22_code 3 none), (.methodLink "VolumeTurner$Turner" 245 y_Pl_mapBlock), (.methodLink "VolumeTurner$Turner" 280 y_Pl_freeBlocks), (.methodLink "VolumeTurner$Turner" 283 y_Pl_freeInodes), (.methodLink "VolumeTurner$Turner" 286 y_Tu_directoriesOf), (.instanceMethod y_Tu_directoriesOf), (.code y_Tu_directoriesOf prog_11_method_23_code 5 (some .int)), (.methodLink "VolumeTurner$Turner" 248 y_Tu_fillBlockMap), (.instanceMethod y_Tu_fillBlockMap), (.code y_Tu_fillBlockMap prog_11_method_25_code 3 none), (.methodLink "VolumeTurner$Turner" 289 y_Pl_blocksOf), (.methodLink "VolumeTurner$Turner" 292 y_Pl_isUsed), (.methodLink "VolumeTurner$Turner" 295 y_Tu_dropBit), (.instanceMethod y_Tu_dropBit), (.code y_Tu_dropBit prog_11_method_24_code 3 none), (.methodLink "VolumeTurner$Turner" 251 y_Tu_fillInodeMap), (.instanceMethod y_Tu_fillInodeMap), (.code y_Tu_fillInodeMap prog_11_method_26_code 3 none), (.methodLink "VolumeTurner$Turner" 254 y_Tu_fillInodes), (.instanceMethod y_Tu_fillInodes), (.code y_Tu_fillInodes prog_11_method_27_code 4 none), (.methodLink "VolumeTurner$Turner" 298 y_Tu_fillInode), (.instanceMethod y_Tu_fillInode), (.code y_Tu_fillInode prog_11_method_28_code 7 none), (.methodLink "VolumeTurner$Turner" 301 y_Tu_modeOf), (.instanceMethod y_Tu_modeOf), (.code y_Tu_modeOf prog_11_method_29_code 3 (some .int)), (.constant "VolumeTurner$Turner" 319 (33024 : Int32)), (.constant "VolumeTurner$Turner" 320 (33188 : Int32)), (.methodLink "VolumeTurner$Turner" 321 y_Tr_isReadOnly), (.methodLink "VolumeTurner$Turner" 304 y_Tr_sizeOf), (.methodLink "VolumeTurner$Turner" 307 y_Tr_spotOf), (.methodLink "VolumeTurner$Turner" 310 y_Da_seconds), (.methodLink "VolumeTurner$Turner" 316 y_Tu_linksOf), (.instanceMethod y_Tu_linksOf), (.code y_Tu_linksOf prog_11_method_30_code 4 (some .int)), (.selects "VolumeTurner$Turner" y_Tu_recall y_Tu_recall), (.selects "VolumeTurner$Turner" y_Tu_goBack y_Tu_goBack), (.selects "VolumeTurner$Turner" y_Tu_copySector y_Tu_copySector), (.selects "VolumeTurner$Turner" y_Tu_copyCluster y_Tu_copyCluster), (.selects "VolumeTurner$Turner" y_Tu_prepare y_Tu_prepare), (.selects "VolumeTurner$Turner" y_Tu_keepSectors y_Tu_keepSectors), (.selects "VolumeTurner$Turner" y_Tu_empty y_Tu_empty), (.selects "VolumeTurner$Turner" y_Tu_storeBlock y_Tu_storeBlock), (.selects "VolumeTurner$Turner" y_Tu_putOne y_Tu_putOne), (.selects "VolumeTurner$Turner" y_Tu_putTwo y_Tu_putTwo), (.selects "VolumeTurner$Turner" y_Tu_putFour y_Tu_putFour), (.selects "VolumeTurner$Turner" y_Tu_buildDirectory y_Tu_buildDirectory), (.selects "VolumeTurner$Turner" y_Tu_putEntry y_Tu_putEntry), (.selects "VolumeTurner$Turner" y_Tu_buildIndirects y_Tu_buildIndirects), (.selects "VolumeTurner$Turner" y_Tu_putPointers y_Tu_putPointers), (.selects "VolumeTurner$Turner" y_Tu_putFixed y_Tu_putFixed), (.selects "VolumeTurner$Turner" y_Tu_fillSuperblock y_Tu_fillSuperblock), (.selects "VolumeTurner$Turner" y_Tu_putLabel y_Tu_putLabel), (.selects "VolumeTurner$Turner" y_Tu_fillDescriptors y_Tu_fillDescriptors), (.selects "VolumeTurner$Turner" y_Tu_directoriesOf y_Tu_directoriesOf), (.selects "VolumeTurner$Turner" y_Tu_dropBit y_Tu_dropBit), (.selects "VolumeTurner$Turner" y_Tu_fillBlockMap y_Tu_fillBlockMap), (.selects "VolumeTurner$Turner" y_Tu_fillInodeMap y_Tu_fillInodeMap), (.selects "VolumeTurner$Turner" y_Tu_fillInodes y_Tu_fillInodes), (.selects "VolumeTurner$Turner" y_Tu_fillInode y_Tu_fillInode), (.selects "VolumeTurner$Turner" y_Tu_modeOf y_Tu_modeOf), (.selects "VolumeTurner$Turner" y_Tu_linksOf y_Tu_linksOf)]
theorem j_Tu_0 : (.initialized "VolumeTurner$Turner") ∈ K_Tu := List.mem_of_getElem? (i := 0) rfl
theorem j_Tu_1 : (.fieldLink "VolumeTurner$Turner" 120 "VolumeTurner$Table" "cluster" "I") ∈ K_Tu := List.mem_of_getElem? (i := 1) rfl
theorem j_Tu_2 : (.fieldLink "VolumeTurner$Turner" 123 "VolumeTurner$Table" "start" "I") ∈ K_Tu := List.mem_of_getElem? (i := 2) rfl
theorem j_Tu_3 : (.fieldLink "VolumeTurner$Turner" 101 "VolumeTurner$Table" "clusters" "I") ∈ K_Tu := List.mem_of_getElem? (i := 3) rfl
theorem j_Tu_4 : (.fieldLink "VolumeTurner$Turner" 129 "VolumeTurner$Tree" "count" "I") ∈ K_Tu := List.mem_of_getElem? (i := 4) rfl
theorem j_Tu_5 : (.fieldLink "VolumeTurner$Turner" 271 "VolumeTurner$Tree" "label" "I") ∈ K_Tu := List.mem_of_getElem? (i := 5) rfl
theorem j_Tu_6 : (.fieldLink "VolumeTurner$Turner" 257 "VolumeTurner$Plan" "blocks" "I") ∈ K_Tu := List.mem_of_getElem? (i := 6) rfl
theorem j_Tu_7 : (.fieldLink "VolumeTurner$Turner" 229 "VolumeTurner$Plan" "list" "[I") ∈ K_Tu := List.mem_of_getElem? (i := 7) rfl
theorem j_Tu_8 : (.fieldLink "VolumeTurner$Turner" 220 "VolumeTurner$Plan" "listed" "I") ∈ K_Tu := List.mem_of_getElem? (i := 8) rfl
theorem j_Tu_9 : (.fieldLink "VolumeTurner$Turner" 152 "VolumeTurner$Plan" "size" "I") ∈ K_Tu := List.mem_of_getElem? (i := 9) rfl
theorem j_Tu_10 : (.fieldLink "VolumeTurner$Turner" 233 "VolumeTurner$Plan" "groups" "I") ∈ K_Tu := List.mem_of_getElem? (i := 10) rfl
theorem j_Tu_11 : (.fieldLink "VolumeTurner$Turner" 155 "VolumeTurner$Plan" "inodes" "I") ∈ K_Tu := List.mem_of_getElem? (i := 11) rfl
theorem j_Tu_12 : (.fieldLink "VolumeTurner$Turner" 260 "VolumeTurner$Plan" "free" "I") ∈ K_Tu := List.mem_of_getElem? (i := 12) rfl
theorem j_Tu_13 : (.instantiable "VolumeTurner$Turner" 7) ∈ K_Tu := List.mem_of_getElem? (i := 13) rfl
theorem j_Tu_14 : (.instanceMethod y_Tu_init) ∈ K_Tu := List.mem_of_getElem? (i := 14) rfl
theorem j_Tu_15 : (.code y_Tu_init prog_11_method_1_code 7 none) ∈ K_Tu := List.mem_of_getElem? (i := 15) rfl
theorem j_Tu_16 : (.methodLink "VolumeTurner$Turner" 3 objectInit) ∈ K_Tu := List.mem_of_getElem? (i := 16) rfl
theorem j_Tu_17 : (.fieldLink "VolumeTurner$Turner" 15 "VolumeTurner$Turner" "disk" "LVolumeTurner$Disk;") ∈ K_Tu := List.mem_of_getElem? (i := 17) rfl
theorem j_Tu_18 : (.fieldLink "VolumeTurner$Turner" 19 "VolumeTurner$Turner" "table" "LVolumeTurner$Table;") ∈ K_Tu := List.mem_of_getElem? (i := 18) rfl
theorem j_Tu_19 : (.fieldLink "VolumeTurner$Turner" 23 "VolumeTurner$Turner" "tree" "LVolumeTurner$Tree;") ∈ K_Tu := List.mem_of_getElem? (i := 19) rfl
theorem j_Tu_20 : (.fieldLink "VolumeTurner$Turner" 27 "VolumeTurner$Turner" "reader" "LVolumeTurner$Reader;") ∈ K_Tu := List.mem_of_getElem? (i := 20) rfl
theorem j_Tu_21 : (.fieldLink "VolumeTurner$Turner" 31 "VolumeTurner$Turner" "plan" "LVolumeTurner$Plan;") ∈ K_Tu := List.mem_of_getElem? (i := 21) rfl
theorem j_Tu_22 : (.fieldLink "VolumeTurner$Turner" 35 "VolumeTurner$Turner" "inodes" "LVolumeTurner$Inodes;") ∈ K_Tu := List.mem_of_getElem? (i := 22) rfl
theorem j_Tu_23 : (.fieldLink "VolumeTurner$Turner" 9 "VolumeTurner$Turner" "block" "[B") ∈ K_Tu := List.mem_of_getElem? (i := 23) rfl
theorem j_Tu_24 : (.instanceMethod y_Tu_turn) ∈ K_Tu := List.mem_of_getElem? (i := 24) rfl
theorem j_Tu_25 : (.selects "VolumeTurner$Turner" y_Tu_turn y_Tu_turn) ∈ K_Tu := List.mem_of_getElem? (i := 25) rfl
theorem j_Tu_26 : (.code y_Tu_turn prog_11_method_2_code 4 (some .int)) ∈ K_Tu := List.mem_of_getElem? (i := 26) rfl
theorem j_Tu_27 : (.methodLink "VolumeTurner$Turner" 39 y_Tu_goBack) ∈ K_Tu := List.mem_of_getElem? (i := 27) rfl
theorem j_Tu_28 : (.instanceMethod y_Tu_goBack) ∈ K_Tu := List.mem_of_getElem? (i := 28) rfl
theorem j_Tu_29 : (.code y_Tu_goBack prog_11_method_4_code 3 none) ∈ K_Tu := List.mem_of_getElem? (i := 29) rfl
theorem j_Tu_30 : (.methodLink "VolumeTurner$Turner" 71 y_Tu_recall) ∈ K_Tu := List.mem_of_getElem? (i := 30) rfl
theorem j_Tu_31 : (.instanceMethod y_Tu_recall) ∈ K_Tu := List.mem_of_getElem? (i := 31) rfl
theorem j_Tu_32 : (.code y_Tu_recall prog_11_method_3_code 1 (some .boolean)) ∈ K_Tu := List.mem_of_getElem? (i := 32) rfl
theorem j_Tu_33 : (.methodLink "VolumeTurner$Turner" 48 y_In_isMarked) ∈ K_Tu := List.mem_of_getElem? (i := 33) rfl
theorem j_Tu_34 : (.methodLink "VolumeTurner$Turner" 83 y_In_markedSize) ∈ K_Tu := List.mem_of_getElem? (i := 34) rfl
theorem j_Tu_35 : (.methodLink "VolumeTurner$Turner" 87 y_In_markedInodes) ∈ K_Tu := List.mem_of_getElem? (i := 35) rfl
theorem j_Tu_36 : (.methodLink "VolumeTurner$Turner" 90 y_Pl_recall) ∈ K_Tu := List.mem_of_getElem? (i := 36) rfl
theorem j_Tu_37 : (.methodLink "VolumeTurner$Turner" 93 y_Pl_room) ∈ K_Tu := List.mem_of_getElem? (i := 37) rfl
theorem j_Tu_38 : (.methodLink "VolumeTurner$Turner" 97 y_Tu_copySector) ∈ K_Tu := List.mem_of_getElem? (i := 38) rfl
theorem j_Tu_39 : (.instanceMethod y_Tu_copySector) ∈ K_Tu := List.mem_of_getElem? (i := 39) rfl
theorem j_Tu_40 : (.code y_Tu_copySector prog_11_method_5_code 3 none) ∈ K_Tu := List.mem_of_getElem? (i := 40) rfl
theorem j_Tu_41 : (.methodLink "VolumeTurner$Turner" 113 y_Dk_load) ∈ K_Tu := List.mem_of_getElem? (i := 41) rfl
theorem j_Tu_42 : (.methodLink "VolumeTurner$Turner" 117 y_Dk_store) ∈ K_Tu := List.mem_of_getElem? (i := 42) rfl
theorem j_Tu_43 : (.methodLink "VolumeTurner$Turner" 66 y_Dk_isOn) ∈ K_Tu := List.mem_of_getElem? (i := 43) rfl
theorem j_Tu_44 : (.methodLink "VolumeTurner$Turner" 107 y_Tb_goalOf) ∈ K_Tu := List.mem_of_getElem? (i := 44) rfl
theorem j_Tu_45 : (.methodLink "VolumeTurner$Turner" 110 y_Tu_copyCluster) ∈ K_Tu := List.mem_of_getElem? (i := 45) rfl
theorem j_Tu_46 : (.instanceMethod y_Tu_copyCluster) ∈ K_Tu := List.mem_of_getElem? (i := 46) rfl
theorem j_Tu_47 : (.code y_Tu_copyCluster prog_11_method_6_code 4 none) ∈ K_Tu := List.mem_of_getElem? (i := 47) rfl
theorem j_Tu_48 : (.methodLink "VolumeTurner$Turner" 42 y_In_isThere) ∈ K_Tu := List.mem_of_getElem? (i := 48) rfl
theorem j_Tu_49 : (.methodLink "VolumeTurner$Turner" 51 y_Rd_scan) ∈ K_Tu := List.mem_of_getElem? (i := 49) rfl
theorem j_Tu_50 : (.methodLink "VolumeTurner$Turner" 57 y_Pl_refusal) ∈ K_Tu := List.mem_of_getElem? (i := 50) rfl
theorem j_Tu_51 : (.methodLink "VolumeTurner$Turner" 63 y_Tu_prepare) ∈ K_Tu := List.mem_of_getElem? (i := 51) rfl
theorem j_Tu_52 : (.instanceMethod y_Tu_prepare) ∈ K_Tu := List.mem_of_getElem? (i := 52) rfl
theorem j_Tu_53 : (.code y_Tu_prepare prog_11_method_7_code 2 none) ∈ K_Tu := List.mem_of_getElem? (i := 53) rfl
theorem j_Tu_54 : (.methodLink "VolumeTurner$Turner" 126 y_Tu_keepSectors) ∈ K_Tu := List.mem_of_getElem? (i := 54) rfl
theorem j_Tu_55 : (.instanceMethod y_Tu_keepSectors) ∈ K_Tu := List.mem_of_getElem? (i := 55) rfl
theorem j_Tu_56 : (.code y_Tu_keepSectors prog_11_method_8_code 1 none) ∈ K_Tu := List.mem_of_getElem? (i := 56) rfl
theorem j_Tu_57 : (.methodLink "VolumeTurner$Turner" 145 y_Tu_empty) ∈ K_Tu := List.mem_of_getElem? (i := 57) rfl
theorem j_Tu_58 : (.instanceMethod y_Tu_empty) ∈ K_Tu := List.mem_of_getElem? (i := 58) rfl
theorem j_Tu_59 : (.code y_Tu_empty prog_11_method_9_code 1 none) ∈ K_Tu := List.mem_of_getElem? (i := 59) rfl
theorem j_Tu_60 : (.methodLink "VolumeTurner$Turner" 157 ⟨"java/util/Arrays", "fill", "([BB)V"⟩) ∈ K_Tu := List.mem_of_getElem? (i := 60) rfl
theorem j_Tu_61 : (.methodLink "VolumeTurner$Turner" 134 y_Tr_isDirectory) ∈ K_Tu := List.mem_of_getElem? (i := 61) rfl
theorem j_Tu_62 : (.methodLink "VolumeTurner$Turner" 138 y_Tu_buildDirectory) ∈ K_Tu := List.mem_of_getElem? (i := 62) rfl
theorem j_Tu_63 : (.instanceMethod y_Tu_buildDirectory) ∈ K_Tu := List.mem_of_getElem? (i := 63) rfl
theorem j_Tu_64 : (.code y_Tu_buildDirectory prog_11_method_14_code 7 none) ∈ K_Tu := List.mem_of_getElem? (i := 64) rfl
theorem j_Tu_65 : (.methodLink "VolumeTurner$Turner" 163 y_Tr_builtOf) ∈ K_Tu := List.mem_of_getElem? (i := 65) rfl
theorem j_Tu_66 : (.methodLink "VolumeTurner$Turner" 166 y_Pl_entriesOf) ∈ K_Tu := List.mem_of_getElem? (i := 66) rfl
theorem j_Tu_67 : (.methodLink "VolumeTurner$Turner" 169 y_Pl_nameSize) ∈ K_Tu := List.mem_of_getElem? (i := 67) rfl
theorem j_Tu_68 : (.methodLink "VolumeTurner$Turner" 172 y_Pl_entryLength) ∈ K_Tu := List.mem_of_getElem? (i := 68) rfl
theorem j_Tu_69 : (.methodLink "VolumeTurner$Turner" 175 y_Tu_putTwo) ∈ K_Tu := List.mem_of_getElem? (i := 69) rfl
theorem j_Tu_70 : (.instanceMethod y_Tu_putTwo) ∈ K_Tu := List.mem_of_getElem? (i := 70) rfl
theorem j_Tu_71 : (.code y_Tu_putTwo prog_11_method_12_code 3 none) ∈ K_Tu := List.mem_of_getElem? (i := 71) rfl
theorem j_Tu_72 : (.methodLink "VolumeTurner$Turner" 178 y_Tu_storeBlock) ∈ K_Tu := List.mem_of_getElem? (i := 72) rfl
theorem j_Tu_73 : (.instanceMethod y_Tu_storeBlock) ∈ K_Tu := List.mem_of_getElem? (i := 73) rfl
theorem j_Tu_74 : (.code y_Tu_storeBlock prog_11_method_10_code 2 none) ∈ K_Tu := List.mem_of_getElem? (i := 74) rfl
theorem j_Tu_75 : (.methodLink "VolumeTurner$Turner" 181 y_Tu_putEntry) ∈ K_Tu := List.mem_of_getElem? (i := 75) rfl
theorem j_Tu_76 : (.instanceMethod y_Tu_putEntry) ∈ K_Tu := List.mem_of_getElem? (i := 76) rfl
theorem j_Tu_77 : (.code y_Tu_putEntry prog_11_method_16_code 9 none) ∈ K_Tu := List.mem_of_getElem? (i := 77) rfl
theorem j_Tu_78 : (.methodLink "VolumeTurner$Turner" 185 y_Tr_countIn) ∈ K_Tu := List.mem_of_getElem? (i := 78) rfl
theorem j_Tu_79 : (.methodLink "VolumeTurner$Turner" 188 y_Tr_parentOf) ∈ K_Tu := List.mem_of_getElem? (i := 79) rfl
theorem j_Tu_80 : (.methodLink "VolumeTurner$Turner" 191 y_Tr_kid) ∈ K_Tu := List.mem_of_getElem? (i := 80) rfl
theorem j_Tu_81 : (.methodLink "VolumeTurner$Turner" 194 y_Tu_inodeOf) ∈ K_Tu := List.mem_of_getElem? (i := 81) rfl
theorem j_Tu_82 : (.static y_Tu_inodeOf) ∈ K_Tu := List.mem_of_getElem? (i := 82) rfl
theorem j_Tu_83 : (.code y_Tu_inodeOf prog_11_method_15_code 1 (some .int)) ∈ K_Tu := List.mem_of_getElem? (i := 83) rfl
theorem j_Tu_84 : (.methodLink "VolumeTurner$Turner" 149 y_Tu_putFour) ∈ K_Tu := List.mem_of_getElem? (i := 84) rfl
theorem j_Tu_85 : (.instanceMethod y_Tu_putFour) ∈ K_Tu := List.mem_of_getElem? (i := 85) rfl
theorem j_Tu_86 : (.code y_Tu_putFour prog_11_method_13_code 3 none) ∈ K_Tu := List.mem_of_getElem? (i := 86) rfl
theorem j_Tu_87 : (.methodLink "VolumeTurner$Turner" 197 y_Tu_putOne) ∈ K_Tu := List.mem_of_getElem? (i := 87) rfl
theorem j_Tu_88 : (.instanceMethod y_Tu_putOne) ∈ K_Tu := List.mem_of_getElem? (i := 88) rfl
theorem j_Tu_89 : (.code y_Tu_putOne prog_11_method_11_code 3 none) ∈ K_Tu := List.mem_of_getElem? (i := 89) rfl
theorem j_Tu_90 : (.methodLink "VolumeTurner$Turner" 200 y_Tr_nameByte) ∈ K_Tu := List.mem_of_getElem? (i := 90) rfl
theorem j_Tu_91 : (.methodLink "VolumeTurner$Turner" 205 ⟨"java/lang/String", "length", "()I"⟩) ∈ K_Tu := List.mem_of_getElem? (i := 91) rfl
theorem j_Tu_92 : (.methodLink "VolumeTurner$Turner" 210 ⟨"java/lang/String", "charAt", "(I)C"⟩) ∈ K_Tu := List.mem_of_getElem? (i := 92) rfl
theorem j_Tu_93 : (.methodLink "VolumeTurner$Turner" 142 y_Tu_buildIndirects) ∈ K_Tu := List.mem_of_getElem? (i := 93) rfl
theorem j_Tu_94 : (.instanceMethod y_Tu_buildIndirects) ∈ K_Tu := List.mem_of_getElem? (i := 94) rfl
theorem j_Tu_95 : (.code y_Tu_buildIndirects prog_11_method_17_code 5 none) ∈ K_Tu := List.mem_of_getElem? (i := 95) rfl
theorem j_Tu_96 : (.methodLink "VolumeTurner$Turner" 214 y_Pl_gather) ∈ K_Tu := List.mem_of_getElem? (i := 96) rfl
theorem j_Tu_97 : (.methodLink "VolumeTurner$Turner" 217 y_Pl_firstIndirect) ∈ K_Tu := List.mem_of_getElem? (i := 97) rfl
theorem j_Tu_98 : (.methodLink "VolumeTurner$Turner" 223 y_Pl_indirects) ∈ K_Tu := List.mem_of_getElem? (i := 98) rfl
theorem j_Tu_99 : (.methodLink "VolumeTurner$Turner" 226 y_Tu_putPointers) ∈ K_Tu := List.mem_of_getElem? (i := 99) rfl
theorem j_Tu_100 : (.instanceMethod y_Tu_putPointers) ∈ K_Tu := List.mem_of_getElem? (i := 100) rfl
theorem j_Tu_101 : (.code y_Tu_putPointers prog_11_method_18_code 3 none) ∈ K_Tu := List.mem_of_getElem? (i := 101) rfl
theorem j_Tu_102 : (.constant "VolumeTurner$Turner" 148 (1314018644 : Int32)) ∈ K_Tu := List.mem_of_getElem? (i := 102) rfl
theorem j_Tu_103 : (.methodLink "VolumeTurner$Turner" 74 y_Pl_assign) ∈ K_Tu := List.mem_of_getElem? (i := 103) rfl
theorem j_Tu_104 : (.methodLink "VolumeTurner$Turner" 77 y_Pl_markUsed) ∈ K_Tu := List.mem_of_getElem? (i := 104) rfl
theorem j_Tu_105 : (.methodLink "VolumeTurner$Turner" 80 y_Tu_putFixed) ∈ K_Tu := List.mem_of_getElem? (i := 105) rfl
theorem j_Tu_106 : (.instanceMethod y_Tu_putFixed) ∈ K_Tu := List.mem_of_getElem? (i := 106) rfl
theorem j_Tu_107 : (.code y_Tu_putFixed prog_11_method_19_code 4 none) ∈ K_Tu := List.mem_of_getElem? (i := 107) rfl
theorem j_Tu_108 : (.methodLink "VolumeTurner$Turner" 236 y_Tu_fillSuperblock) ∈ K_Tu := List.mem_of_getElem? (i := 108) rfl
theorem j_Tu_109 : (.instanceMethod y_Tu_fillSuperblock) ∈ K_Tu := List.mem_of_getElem? (i := 109) rfl
theorem j_Tu_110 : (.code y_Tu_fillSuperblock prog_11_method_20_code 2 none) ∈ K_Tu := List.mem_of_getElem? (i := 110) rfl
theorem j_Tu_111 : (.methodLink "VolumeTurner$Turner" 263 y_Pl_usedInodes) ∈ K_Tu := List.mem_of_getElem? (i := 111) rfl
theorem j_Tu_112 : (.constant "VolumeTurner$Turner" 266 (65535 : Int32)) ∈ K_Tu := List.mem_of_getElem? (i := 112) rfl
theorem j_Tu_113 : (.constant "VolumeTurner$Turner" 267 (61267 : Int32)) ∈ K_Tu := List.mem_of_getElem? (i := 113) rfl
theorem j_Tu_114 : (.methodLink "VolumeTurner$Turner" 268 y_Dk_four) ∈ K_Tu := List.mem_of_getElem? (i := 114) rfl
theorem j_Tu_115 : (.methodLink "VolumeTurner$Turner" 274 y_Tu_putLabel) ∈ K_Tu := List.mem_of_getElem? (i := 115) rfl
theorem j_Tu_116 : (.instanceMethod y_Tu_putLabel) ∈ K_Tu := List.mem_of_getElem? (i := 116) rfl
theorem j_Tu_117 : (.code y_Tu_putLabel prog_11_method_21_code 3 none) ∈ K_Tu := List.mem_of_getElem? (i := 117) rfl
theorem j_Tu_118 : (.methodLink "VolumeTurner$Turner" 277 y_Dk_one) ∈ K_Tu := List.mem_of_getElem? (i := 118) rfl
theorem j_Tu_119 : (.methodLink "VolumeTurner$Turner" 239 y_Pl_firstBlock) ∈ K_Tu := List.mem_of_getElem? (i := 119) rfl
theorem j_Tu_120 : (.methodLink "VolumeTurner$Turner" 242 y_Tu_fillDescriptors) ∈ K_Tu := List.mem_of_getElem? (i := 120) rfl
theorem j_Tu_121 : (.instanceMethod y_Tu_fillDescriptors) ∈ K_Tu := List.mem_of_getElem? (i := 121) rfl
theorem j_Tu_122 : (.code y_Tu_fillDescriptors prog_11_method_22_code 3 none) ∈ K_Tu := List.mem_of_getElem? (i := 122) rfl
theorem j_Tu_123 : (.methodLink "VolumeTurner$Turner" 245 y_Pl_mapBlock) ∈ K_Tu := List.mem_of_getElem? (i := 123) rfl
theorem j_Tu_124 : (.methodLink "VolumeTurner$Turner" 280 y_Pl_freeBlocks) ∈ K_Tu := List.mem_of_getElem? (i := 124) rfl
theorem j_Tu_125 : (.methodLink "VolumeTurner$Turner" 283 y_Pl_freeInodes) ∈ K_Tu := List.mem_of_getElem? (i := 125) rfl
theorem j_Tu_126 : (.methodLink "VolumeTurner$Turner" 286 y_Tu_directoriesOf) ∈ K_Tu := List.mem_of_getElem? (i := 126) rfl
theorem j_Tu_127 : (.instanceMethod y_Tu_directoriesOf) ∈ K_Tu := List.mem_of_getElem? (i := 127) rfl
theorem j_Tu_128 : (.code y_Tu_directoriesOf prog_11_method_23_code 5 (some .int)) ∈ K_Tu := List.mem_of_getElem? (i := 128) rfl
theorem j_Tu_129 : (.methodLink "VolumeTurner$Turner" 248 y_Tu_fillBlockMap) ∈ K_Tu := List.mem_of_getElem? (i := 129) rfl
theorem j_Tu_130 : (.instanceMethod y_Tu_fillBlockMap) ∈ K_Tu := List.mem_of_getElem? (i := 130) rfl
theorem j_Tu_131 : (.code y_Tu_fillBlockMap prog_11_method_25_code 3 none) ∈ K_Tu := List.mem_of_getElem? (i := 131) rfl
theorem j_Tu_132 : (.methodLink "VolumeTurner$Turner" 289 y_Pl_blocksOf) ∈ K_Tu := List.mem_of_getElem? (i := 132) rfl
theorem j_Tu_133 : (.methodLink "VolumeTurner$Turner" 292 y_Pl_isUsed) ∈ K_Tu := List.mem_of_getElem? (i := 133) rfl
theorem j_Tu_134 : (.methodLink "VolumeTurner$Turner" 295 y_Tu_dropBit) ∈ K_Tu := List.mem_of_getElem? (i := 134) rfl
theorem j_Tu_135 : (.instanceMethod y_Tu_dropBit) ∈ K_Tu := List.mem_of_getElem? (i := 135) rfl
theorem j_Tu_136 : (.code y_Tu_dropBit prog_11_method_24_code 3 none) ∈ K_Tu := List.mem_of_getElem? (i := 136) rfl
theorem j_Tu_137 : (.methodLink "VolumeTurner$Turner" 251 y_Tu_fillInodeMap) ∈ K_Tu := List.mem_of_getElem? (i := 137) rfl
theorem j_Tu_138 : (.instanceMethod y_Tu_fillInodeMap) ∈ K_Tu := List.mem_of_getElem? (i := 138) rfl
theorem j_Tu_139 : (.code y_Tu_fillInodeMap prog_11_method_26_code 3 none) ∈ K_Tu := List.mem_of_getElem? (i := 139) rfl
theorem j_Tu_140 : (.methodLink "VolumeTurner$Turner" 254 y_Tu_fillInodes) ∈ K_Tu := List.mem_of_getElem? (i := 140) rfl
theorem j_Tu_141 : (.instanceMethod y_Tu_fillInodes) ∈ K_Tu := List.mem_of_getElem? (i := 141) rfl
theorem j_Tu_142 : (.code y_Tu_fillInodes prog_11_method_27_code 4 none) ∈ K_Tu := List.mem_of_getElem? (i := 142) rfl
theorem j_Tu_143 : (.methodLink "VolumeTurner$Turner" 298 y_Tu_fillInode) ∈ K_Tu := List.mem_of_getElem? (i := 143) rfl
theorem j_Tu_144 : (.instanceMethod y_Tu_fillInode) ∈ K_Tu := List.mem_of_getElem? (i := 144) rfl
theorem j_Tu_145 : (.code y_Tu_fillInode prog_11_method_28_code 7 none) ∈ K_Tu := List.mem_of_getElem? (i := 145) rfl
theorem j_Tu_146 : (.methodLink "VolumeTurner$Turner" 301 y_Tu_modeOf) ∈ K_Tu := List.mem_of_getElem? (i := 146) rfl
theorem j_Tu_147 : (.instanceMethod y_Tu_modeOf) ∈ K_Tu := List.mem_of_getElem? (i := 147) rfl
theorem j_Tu_148 : (.code y_Tu_modeOf prog_11_method_29_code 3 (some .int)) ∈ K_Tu := List.mem_of_getElem? (i := 148) rfl
theorem j_Tu_149 : (.constant "VolumeTurner$Turner" 319 (33024 : Int32)) ∈ K_Tu := List.mem_of_getElem? (i := 149) rfl
theorem j_Tu_150 : (.constant "VolumeTurner$Turner" 320 (33188 : Int32)) ∈ K_Tu := List.mem_of_getElem? (i := 150) rfl
theorem j_Tu_151 : (.methodLink "VolumeTurner$Turner" 321 y_Tr_isReadOnly) ∈ K_Tu := List.mem_of_getElem? (i := 151) rfl
theorem j_Tu_152 : (.methodLink "VolumeTurner$Turner" 304 y_Tr_sizeOf) ∈ K_Tu := List.mem_of_getElem? (i := 152) rfl
theorem j_Tu_153 : (.methodLink "VolumeTurner$Turner" 307 y_Tr_spotOf) ∈ K_Tu := List.mem_of_getElem? (i := 153) rfl
theorem j_Tu_154 : (.methodLink "VolumeTurner$Turner" 310 y_Da_seconds) ∈ K_Tu := List.mem_of_getElem? (i := 154) rfl
theorem j_Tu_155 : (.methodLink "VolumeTurner$Turner" 316 y_Tu_linksOf) ∈ K_Tu := List.mem_of_getElem? (i := 155) rfl
theorem j_Tu_156 : (.instanceMethod y_Tu_linksOf) ∈ K_Tu := List.mem_of_getElem? (i := 156) rfl
theorem j_Tu_157 : (.code y_Tu_linksOf prog_11_method_30_code 4 (some .int)) ∈ K_Tu := List.mem_of_getElem? (i := 157) rfl
theorem j_Tu_158 : (.selects "VolumeTurner$Turner" y_Tu_recall y_Tu_recall) ∈ K_Tu := List.mem_of_getElem? (i := 158) rfl
theorem j_Tu_159 : (.selects "VolumeTurner$Turner" y_Tu_goBack y_Tu_goBack) ∈ K_Tu := List.mem_of_getElem? (i := 159) rfl
theorem j_Tu_160 : (.selects "VolumeTurner$Turner" y_Tu_copySector y_Tu_copySector) ∈ K_Tu := List.mem_of_getElem? (i := 160) rfl
theorem j_Tu_161 : (.selects "VolumeTurner$Turner" y_Tu_copyCluster y_Tu_copyCluster) ∈ K_Tu := List.mem_of_getElem? (i := 161) rfl
theorem j_Tu_162 : (.selects "VolumeTurner$Turner" y_Tu_prepare y_Tu_prepare) ∈ K_Tu := List.mem_of_getElem? (i := 162) rfl
theorem j_Tu_163 : (.selects "VolumeTurner$Turner" y_Tu_keepSectors y_Tu_keepSectors) ∈ K_Tu := List.mem_of_getElem? (i := 163) rfl
theorem j_Tu_164 : (.selects "VolumeTurner$Turner" y_Tu_empty y_Tu_empty) ∈ K_Tu := List.mem_of_getElem? (i := 164) rfl
theorem j_Tu_165 : (.selects "VolumeTurner$Turner" y_Tu_storeBlock y_Tu_storeBlock) ∈ K_Tu := List.mem_of_getElem? (i := 165) rfl
theorem j_Tu_166 : (.selects "VolumeTurner$Turner" y_Tu_putOne y_Tu_putOne) ∈ K_Tu := List.mem_of_getElem? (i := 166) rfl
theorem j_Tu_167 : (.selects "VolumeTurner$Turner" y_Tu_putTwo y_Tu_putTwo) ∈ K_Tu := List.mem_of_getElem? (i := 167) rfl
theorem j_Tu_168 : (.selects "VolumeTurner$Turner" y_Tu_putFour y_Tu_putFour) ∈ K_Tu := List.mem_of_getElem? (i := 168) rfl
theorem j_Tu_169 : (.selects "VolumeTurner$Turner" y_Tu_buildDirectory y_Tu_buildDirectory) ∈ K_Tu := List.mem_of_getElem? (i := 169) rfl
theorem j_Tu_170 : (.selects "VolumeTurner$Turner" y_Tu_putEntry y_Tu_putEntry) ∈ K_Tu := List.mem_of_getElem? (i := 170) rfl
theorem j_Tu_171 : (.selects "VolumeTurner$Turner" y_Tu_buildIndirects y_Tu_buildIndirects) ∈ K_Tu := List.mem_of_getElem? (i := 171) rfl
theorem j_Tu_172 : (.selects "VolumeTurner$Turner" y_Tu_putPointers y_Tu_putPointers) ∈ K_Tu := List.mem_of_getElem? (i := 172) rfl
theorem j_Tu_173 : (.selects "VolumeTurner$Turner" y_Tu_putFixed y_Tu_putFixed) ∈ K_Tu := List.mem_of_getElem? (i := 173) rfl
theorem j_Tu_174 : (.selects "VolumeTurner$Turner" y_Tu_fillSuperblock y_Tu_fillSuperblock) ∈ K_Tu := List.mem_of_getElem? (i := 174) rfl
theorem j_Tu_175 : (.selects "VolumeTurner$Turner" y_Tu_putLabel y_Tu_putLabel) ∈ K_Tu := List.mem_of_getElem? (i := 175) rfl
theorem j_Tu_176 : (.selects "VolumeTurner$Turner" y_Tu_fillDescriptors y_Tu_fillDescriptors) ∈ K_Tu := List.mem_of_getElem? (i := 176) rfl
theorem j_Tu_177 : (.selects "VolumeTurner$Turner" y_Tu_directoriesOf y_Tu_directoriesOf) ∈ K_Tu := List.mem_of_getElem? (i := 177) rfl
theorem j_Tu_178 : (.selects "VolumeTurner$Turner" y_Tu_dropBit y_Tu_dropBit) ∈ K_Tu := List.mem_of_getElem? (i := 178) rfl
theorem j_Tu_179 : (.selects "VolumeTurner$Turner" y_Tu_fillBlockMap y_Tu_fillBlockMap) ∈ K_Tu := List.mem_of_getElem? (i := 179) rfl
theorem j_Tu_180 : (.selects "VolumeTurner$Turner" y_Tu_fillInodeMap y_Tu_fillInodeMap) ∈ K_Tu := List.mem_of_getElem? (i := 180) rfl
theorem j_Tu_181 : (.selects "VolumeTurner$Turner" y_Tu_fillInodes y_Tu_fillInodes) ∈ K_Tu := List.mem_of_getElem? (i := 181) rfl
theorem j_Tu_182 : (.selects "VolumeTurner$Turner" y_Tu_fillInode y_Tu_fillInode) ∈ K_Tu := List.mem_of_getElem? (i := 182) rfl
theorem j_Tu_183 : (.selects "VolumeTurner$Turner" y_Tu_modeOf y_Tu_modeOf) ∈ K_Tu := List.mem_of_getElem? (i := 183) rfl
theorem j_Tu_184 : (.selects "VolumeTurner$Turner" y_Tu_linksOf y_Tu_linksOf) ∈ K_Tu := List.mem_of_getElem? (i := 184) rfl
def V_Tu : List Cond := w_Tu ++ (K_Tu ++ V_Pl)
theorem i_Tu : ∀ w ∈ w_Tu, w ∈ V_Tu := fun _ h => List.mem_append_left _ h
theorem kk_Tu : ∀ w ∈ K_Tu, w ∈ V_Tu := fun _ h => List.mem_append_right _ (List.mem_append_left _ h)
theorem u_Tu_Pl : ∀ w ∈ V_Pl, w ∈ V_Tu := fun _ h => List.mem_append_right _ (List.mem_append_right _ h)
theorem u_Tu_J : ∀ w ∈ V_J, w ∈ V_Tu := fun w h => u_Tu_Pl w (u_Pl_J w h)
theorem u_Tu_Dk : ∀ w ∈ V_Dk, w ∈ V_Tu := fun w h => u_Tu_Pl w (u_Pl_Dk w h)
theorem u_Tu_Wo : ∀ w ∈ V_Wo, w ∈ V_Tu := fun w h => u_Tu_Pl w (u_Pl_Wo w h)
theorem u_Tu_Da : ∀ w ∈ V_Da, w ∈ V_Tu := fun w h => u_Tu_Pl w (u_Pl_Da w h)
theorem u_Tu_Tp : ∀ w ∈ V_Tp, w ∈ V_Tu := fun w h => u_Tu_Pl w (u_Pl_Tp w h)
theorem u_Tu_Tb : ∀ w ∈ V_Tb, w ∈ V_Tu := fun w h => u_Tu_Pl w (u_Pl_Tb w h)
theorem u_Tu_Tr : ∀ w ∈ V_Tr, w ∈ V_Tu := fun w h => u_Tu_Pl w (u_Pl_Tr w h)
theorem u_Tu_In : ∀ w ∈ V_In, w ∈ V_Tu := fun w h => u_Tu_Pl w (u_Pl_In w h)
theorem u_Tu_Rd : ∀ w ∈ V_Rd, w ∈ V_Tu := fun w h => u_Tu_Pl w (u_Pl_Rd w h)
theorem u_Tu_Ed : ∀ w ∈ V_Ed, w ∈ V_Tu := fun w h => u_Tu_Pl w (u_Pl_Ed w h)
theorem k_Tu_0 : (.initialized "VolumeTurner$Turner") ∈ V_Tu := kk_Tu _ j_Tu_0
theorem k_Tu_1 : (.fieldLink "VolumeTurner$Turner" 120 "VolumeTurner$Table" "cluster" "I") ∈ V_Tu := kk_Tu _ j_Tu_1
theorem k_Tu_2 : (.fieldLink "VolumeTurner$Turner" 123 "VolumeTurner$Table" "start" "I") ∈ V_Tu := kk_Tu _ j_Tu_2
theorem k_Tu_3 : (.fieldLink "VolumeTurner$Turner" 101 "VolumeTurner$Table" "clusters" "I") ∈ V_Tu := kk_Tu _ j_Tu_3
theorem k_Tu_4 : (.fieldLink "VolumeTurner$Turner" 129 "VolumeTurner$Tree" "count" "I") ∈ V_Tu := kk_Tu _ j_Tu_4
theorem k_Tu_5 : (.fieldLink "VolumeTurner$Turner" 271 "VolumeTurner$Tree" "label" "I") ∈ V_Tu := kk_Tu _ j_Tu_5
theorem k_Tu_6 : (.fieldLink "VolumeTurner$Turner" 257 "VolumeTurner$Plan" "blocks" "I") ∈ V_Tu := kk_Tu _ j_Tu_6
theorem k_Tu_7 : (.fieldLink "VolumeTurner$Turner" 229 "VolumeTurner$Plan" "list" "[I") ∈ V_Tu := kk_Tu _ j_Tu_7
theorem k_Tu_8 : (.fieldLink "VolumeTurner$Turner" 220 "VolumeTurner$Plan" "listed" "I") ∈ V_Tu := kk_Tu _ j_Tu_8
theorem k_Tu_9 : (.fieldLink "VolumeTurner$Turner" 152 "VolumeTurner$Plan" "size" "I") ∈ V_Tu := kk_Tu _ j_Tu_9
theorem k_Tu_10 : (.fieldLink "VolumeTurner$Turner" 233 "VolumeTurner$Plan" "groups" "I") ∈ V_Tu := kk_Tu _ j_Tu_10
theorem k_Tu_11 : (.fieldLink "VolumeTurner$Turner" 155 "VolumeTurner$Plan" "inodes" "I") ∈ V_Tu := kk_Tu _ j_Tu_11
theorem k_Tu_12 : (.fieldLink "VolumeTurner$Turner" 260 "VolumeTurner$Plan" "free" "I") ∈ V_Tu := kk_Tu _ j_Tu_12
theorem k_Tu_13 : (.instantiable "VolumeTurner$Turner" 7) ∈ V_Tu := kk_Tu _ j_Tu_13
theorem k_Tu_14 : (.instanceMethod y_Tu_init) ∈ V_Tu := kk_Tu _ j_Tu_14
theorem k_Tu_15 : (.code y_Tu_init prog_11_method_1_code 7 none) ∈ V_Tu := kk_Tu _ j_Tu_15
theorem k_Tu_16 : (.methodLink "VolumeTurner$Turner" 3 objectInit) ∈ V_Tu := kk_Tu _ j_Tu_16
theorem k_Tu_17 : (.fieldLink "VolumeTurner$Turner" 15 "VolumeTurner$Turner" "disk" "LVolumeTurner$Disk;") ∈ V_Tu := kk_Tu _ j_Tu_17
theorem k_Tu_18 : (.fieldLink "VolumeTurner$Turner" 19 "VolumeTurner$Turner" "table" "LVolumeTurner$Table;") ∈ V_Tu := kk_Tu _ j_Tu_18
theorem k_Tu_19 : (.fieldLink "VolumeTurner$Turner" 23 "VolumeTurner$Turner" "tree" "LVolumeTurner$Tree;") ∈ V_Tu := kk_Tu _ j_Tu_19
theorem k_Tu_20 : (.fieldLink "VolumeTurner$Turner" 27 "VolumeTurner$Turner" "reader" "LVolumeTurner$Reader;") ∈ V_Tu := kk_Tu _ j_Tu_20
theorem k_Tu_21 : (.fieldLink "VolumeTurner$Turner" 31 "VolumeTurner$Turner" "plan" "LVolumeTurner$Plan;") ∈ V_Tu := kk_Tu _ j_Tu_21
theorem k_Tu_22 : (.fieldLink "VolumeTurner$Turner" 35 "VolumeTurner$Turner" "inodes" "LVolumeTurner$Inodes;") ∈ V_Tu := kk_Tu _ j_Tu_22
theorem k_Tu_23 : (.fieldLink "VolumeTurner$Turner" 9 "VolumeTurner$Turner" "block" "[B") ∈ V_Tu := kk_Tu _ j_Tu_23
theorem k_Tu_24 : (.instanceMethod y_Tu_turn) ∈ V_Tu := kk_Tu _ j_Tu_24
theorem k_Tu_25 : (.selects "VolumeTurner$Turner" y_Tu_turn y_Tu_turn) ∈ V_Tu := kk_Tu _ j_Tu_25
theorem k_Tu_26 : (.code y_Tu_turn prog_11_method_2_code 4 (some .int)) ∈ V_Tu := kk_Tu _ j_Tu_26
theorem k_Tu_27 : (.methodLink "VolumeTurner$Turner" 39 y_Tu_goBack) ∈ V_Tu := kk_Tu _ j_Tu_27
theorem k_Tu_28 : (.instanceMethod y_Tu_goBack) ∈ V_Tu := kk_Tu _ j_Tu_28
theorem k_Tu_29 : (.code y_Tu_goBack prog_11_method_4_code 3 none) ∈ V_Tu := kk_Tu _ j_Tu_29
theorem k_Tu_30 : (.methodLink "VolumeTurner$Turner" 71 y_Tu_recall) ∈ V_Tu := kk_Tu _ j_Tu_30
theorem k_Tu_31 : (.instanceMethod y_Tu_recall) ∈ V_Tu := kk_Tu _ j_Tu_31
theorem k_Tu_32 : (.code y_Tu_recall prog_11_method_3_code 1 (some .boolean)) ∈ V_Tu := kk_Tu _ j_Tu_32
theorem k_Tu_33 : (.methodLink "VolumeTurner$Turner" 48 y_In_isMarked) ∈ V_Tu := kk_Tu _ j_Tu_33
theorem k_Tu_34 : (.methodLink "VolumeTurner$Turner" 83 y_In_markedSize) ∈ V_Tu := kk_Tu _ j_Tu_34
theorem k_Tu_35 : (.methodLink "VolumeTurner$Turner" 87 y_In_markedInodes) ∈ V_Tu := kk_Tu _ j_Tu_35
theorem k_Tu_36 : (.methodLink "VolumeTurner$Turner" 90 y_Pl_recall) ∈ V_Tu := kk_Tu _ j_Tu_36
theorem k_Tu_37 : (.methodLink "VolumeTurner$Turner" 93 y_Pl_room) ∈ V_Tu := kk_Tu _ j_Tu_37
theorem k_Tu_38 : (.methodLink "VolumeTurner$Turner" 97 y_Tu_copySector) ∈ V_Tu := kk_Tu _ j_Tu_38
theorem k_Tu_39 : (.instanceMethod y_Tu_copySector) ∈ V_Tu := kk_Tu _ j_Tu_39
theorem k_Tu_40 : (.code y_Tu_copySector prog_11_method_5_code 3 none) ∈ V_Tu := kk_Tu _ j_Tu_40
theorem k_Tu_41 : (.methodLink "VolumeTurner$Turner" 113 y_Dk_load) ∈ V_Tu := kk_Tu _ j_Tu_41
theorem k_Tu_42 : (.methodLink "VolumeTurner$Turner" 117 y_Dk_store) ∈ V_Tu := kk_Tu _ j_Tu_42
theorem k_Tu_43 : (.methodLink "VolumeTurner$Turner" 66 y_Dk_isOn) ∈ V_Tu := kk_Tu _ j_Tu_43
theorem k_Tu_44 : (.methodLink "VolumeTurner$Turner" 107 y_Tb_goalOf) ∈ V_Tu := kk_Tu _ j_Tu_44
theorem k_Tu_45 : (.methodLink "VolumeTurner$Turner" 110 y_Tu_copyCluster) ∈ V_Tu := kk_Tu _ j_Tu_45
theorem k_Tu_46 : (.instanceMethod y_Tu_copyCluster) ∈ V_Tu := kk_Tu _ j_Tu_46
theorem k_Tu_47 : (.code y_Tu_copyCluster prog_11_method_6_code 4 none) ∈ V_Tu := kk_Tu _ j_Tu_47
theorem k_Tu_48 : (.methodLink "VolumeTurner$Turner" 42 y_In_isThere) ∈ V_Tu := kk_Tu _ j_Tu_48
theorem k_Tu_49 : (.methodLink "VolumeTurner$Turner" 51 y_Rd_scan) ∈ V_Tu := kk_Tu _ j_Tu_49
theorem k_Tu_50 : (.methodLink "VolumeTurner$Turner" 57 y_Pl_refusal) ∈ V_Tu := kk_Tu _ j_Tu_50
theorem k_Tu_51 : (.methodLink "VolumeTurner$Turner" 63 y_Tu_prepare) ∈ V_Tu := kk_Tu _ j_Tu_51
theorem k_Tu_52 : (.instanceMethod y_Tu_prepare) ∈ V_Tu := kk_Tu _ j_Tu_52
theorem k_Tu_53 : (.code y_Tu_prepare prog_11_method_7_code 2 none) ∈ V_Tu := kk_Tu _ j_Tu_53
theorem k_Tu_54 : (.methodLink "VolumeTurner$Turner" 126 y_Tu_keepSectors) ∈ V_Tu := kk_Tu _ j_Tu_54
theorem k_Tu_55 : (.instanceMethod y_Tu_keepSectors) ∈ V_Tu := kk_Tu _ j_Tu_55
theorem k_Tu_56 : (.code y_Tu_keepSectors prog_11_method_8_code 1 none) ∈ V_Tu := kk_Tu _ j_Tu_56
theorem k_Tu_57 : (.methodLink "VolumeTurner$Turner" 145 y_Tu_empty) ∈ V_Tu := kk_Tu _ j_Tu_57
theorem k_Tu_58 : (.instanceMethod y_Tu_empty) ∈ V_Tu := kk_Tu _ j_Tu_58
theorem k_Tu_59 : (.code y_Tu_empty prog_11_method_9_code 1 none) ∈ V_Tu := kk_Tu _ j_Tu_59
theorem k_Tu_60 : (.methodLink "VolumeTurner$Turner" 157 ⟨"java/util/Arrays", "fill", "([BB)V"⟩) ∈ V_Tu := kk_Tu _ j_Tu_60
theorem k_Tu_61 : (.methodLink "VolumeTurner$Turner" 134 y_Tr_isDirectory) ∈ V_Tu := kk_Tu _ j_Tu_61
theorem k_Tu_62 : (.methodLink "VolumeTurner$Turner" 138 y_Tu_buildDirectory) ∈ V_Tu := kk_Tu _ j_Tu_62
theorem k_Tu_63 : (.instanceMethod y_Tu_buildDirectory) ∈ V_Tu := kk_Tu _ j_Tu_63
theorem k_Tu_64 : (.code y_Tu_buildDirectory prog_11_method_14_code 7 none) ∈ V_Tu := kk_Tu _ j_Tu_64
theorem k_Tu_65 : (.methodLink "VolumeTurner$Turner" 163 y_Tr_builtOf) ∈ V_Tu := kk_Tu _ j_Tu_65
theorem k_Tu_66 : (.methodLink "VolumeTurner$Turner" 166 y_Pl_entriesOf) ∈ V_Tu := kk_Tu _ j_Tu_66
theorem k_Tu_67 : (.methodLink "VolumeTurner$Turner" 169 y_Pl_nameSize) ∈ V_Tu := kk_Tu _ j_Tu_67
theorem k_Tu_68 : (.methodLink "VolumeTurner$Turner" 172 y_Pl_entryLength) ∈ V_Tu := kk_Tu _ j_Tu_68
theorem k_Tu_69 : (.methodLink "VolumeTurner$Turner" 175 y_Tu_putTwo) ∈ V_Tu := kk_Tu _ j_Tu_69
theorem k_Tu_70 : (.instanceMethod y_Tu_putTwo) ∈ V_Tu := kk_Tu _ j_Tu_70
theorem k_Tu_71 : (.code y_Tu_putTwo prog_11_method_12_code 3 none) ∈ V_Tu := kk_Tu _ j_Tu_71
theorem k_Tu_72 : (.methodLink "VolumeTurner$Turner" 178 y_Tu_storeBlock) ∈ V_Tu := kk_Tu _ j_Tu_72
theorem k_Tu_73 : (.instanceMethod y_Tu_storeBlock) ∈ V_Tu := kk_Tu _ j_Tu_73
theorem k_Tu_74 : (.code y_Tu_storeBlock prog_11_method_10_code 2 none) ∈ V_Tu := kk_Tu _ j_Tu_74
theorem k_Tu_75 : (.methodLink "VolumeTurner$Turner" 181 y_Tu_putEntry) ∈ V_Tu := kk_Tu _ j_Tu_75
theorem k_Tu_76 : (.instanceMethod y_Tu_putEntry) ∈ V_Tu := kk_Tu _ j_Tu_76
theorem k_Tu_77 : (.code y_Tu_putEntry prog_11_method_16_code 9 none) ∈ V_Tu := kk_Tu _ j_Tu_77
theorem k_Tu_78 : (.methodLink "VolumeTurner$Turner" 185 y_Tr_countIn) ∈ V_Tu := kk_Tu _ j_Tu_78
theorem k_Tu_79 : (.methodLink "VolumeTurner$Turner" 188 y_Tr_parentOf) ∈ V_Tu := kk_Tu _ j_Tu_79
theorem k_Tu_80 : (.methodLink "VolumeTurner$Turner" 191 y_Tr_kid) ∈ V_Tu := kk_Tu _ j_Tu_80
theorem k_Tu_81 : (.methodLink "VolumeTurner$Turner" 194 y_Tu_inodeOf) ∈ V_Tu := kk_Tu _ j_Tu_81
theorem k_Tu_82 : (.static y_Tu_inodeOf) ∈ V_Tu := kk_Tu _ j_Tu_82
theorem k_Tu_83 : (.code y_Tu_inodeOf prog_11_method_15_code 1 (some .int)) ∈ V_Tu := kk_Tu _ j_Tu_83
theorem k_Tu_84 : (.methodLink "VolumeTurner$Turner" 149 y_Tu_putFour) ∈ V_Tu := kk_Tu _ j_Tu_84
theorem k_Tu_85 : (.instanceMethod y_Tu_putFour) ∈ V_Tu := kk_Tu _ j_Tu_85
theorem k_Tu_86 : (.code y_Tu_putFour prog_11_method_13_code 3 none) ∈ V_Tu := kk_Tu _ j_Tu_86
theorem k_Tu_87 : (.methodLink "VolumeTurner$Turner" 197 y_Tu_putOne) ∈ V_Tu := kk_Tu _ j_Tu_87
theorem k_Tu_88 : (.instanceMethod y_Tu_putOne) ∈ V_Tu := kk_Tu _ j_Tu_88
theorem k_Tu_89 : (.code y_Tu_putOne prog_11_method_11_code 3 none) ∈ V_Tu := kk_Tu _ j_Tu_89
theorem k_Tu_90 : (.methodLink "VolumeTurner$Turner" 200 y_Tr_nameByte) ∈ V_Tu := kk_Tu _ j_Tu_90
theorem k_Tu_91 : (.methodLink "VolumeTurner$Turner" 205 ⟨"java/lang/String", "length", "()I"⟩) ∈ V_Tu := kk_Tu _ j_Tu_91
theorem k_Tu_92 : (.methodLink "VolumeTurner$Turner" 210 ⟨"java/lang/String", "charAt", "(I)C"⟩) ∈ V_Tu := kk_Tu _ j_Tu_92
theorem k_Tu_93 : (.methodLink "VolumeTurner$Turner" 142 y_Tu_buildIndirects) ∈ V_Tu := kk_Tu _ j_Tu_93
theorem k_Tu_94 : (.instanceMethod y_Tu_buildIndirects) ∈ V_Tu := kk_Tu _ j_Tu_94
theorem k_Tu_95 : (.code y_Tu_buildIndirects prog_11_method_17_code 5 none) ∈ V_Tu := kk_Tu _ j_Tu_95
theorem k_Tu_96 : (.methodLink "VolumeTurner$Turner" 214 y_Pl_gather) ∈ V_Tu := kk_Tu _ j_Tu_96
theorem k_Tu_97 : (.methodLink "VolumeTurner$Turner" 217 y_Pl_firstIndirect) ∈ V_Tu := kk_Tu _ j_Tu_97
theorem k_Tu_98 : (.methodLink "VolumeTurner$Turner" 223 y_Pl_indirects) ∈ V_Tu := kk_Tu _ j_Tu_98
theorem k_Tu_99 : (.methodLink "VolumeTurner$Turner" 226 y_Tu_putPointers) ∈ V_Tu := kk_Tu _ j_Tu_99
theorem k_Tu_100 : (.instanceMethod y_Tu_putPointers) ∈ V_Tu := kk_Tu _ j_Tu_100
theorem k_Tu_101 : (.code y_Tu_putPointers prog_11_method_18_code 3 none) ∈ V_Tu := kk_Tu _ j_Tu_101
theorem k_Tu_102 : (.constant "VolumeTurner$Turner" 148 (1314018644 : Int32)) ∈ V_Tu := kk_Tu _ j_Tu_102
theorem k_Tu_103 : (.methodLink "VolumeTurner$Turner" 74 y_Pl_assign) ∈ V_Tu := kk_Tu _ j_Tu_103
theorem k_Tu_104 : (.methodLink "VolumeTurner$Turner" 77 y_Pl_markUsed) ∈ V_Tu := kk_Tu _ j_Tu_104
theorem k_Tu_105 : (.methodLink "VolumeTurner$Turner" 80 y_Tu_putFixed) ∈ V_Tu := kk_Tu _ j_Tu_105
theorem k_Tu_106 : (.instanceMethod y_Tu_putFixed) ∈ V_Tu := kk_Tu _ j_Tu_106
theorem k_Tu_107 : (.code y_Tu_putFixed prog_11_method_19_code 4 none) ∈ V_Tu := kk_Tu _ j_Tu_107
theorem k_Tu_108 : (.methodLink "VolumeTurner$Turner" 236 y_Tu_fillSuperblock) ∈ V_Tu := kk_Tu _ j_Tu_108
theorem k_Tu_109 : (.instanceMethod y_Tu_fillSuperblock) ∈ V_Tu := kk_Tu _ j_Tu_109
theorem k_Tu_110 : (.code y_Tu_fillSuperblock prog_11_method_20_code 2 none) ∈ V_Tu := kk_Tu _ j_Tu_110
theorem k_Tu_111 : (.methodLink "VolumeTurner$Turner" 263 y_Pl_usedInodes) ∈ V_Tu := kk_Tu _ j_Tu_111
theorem k_Tu_112 : (.constant "VolumeTurner$Turner" 266 (65535 : Int32)) ∈ V_Tu := kk_Tu _ j_Tu_112
theorem k_Tu_113 : (.constant "VolumeTurner$Turner" 267 (61267 : Int32)) ∈ V_Tu := kk_Tu _ j_Tu_113
theorem k_Tu_114 : (.methodLink "VolumeTurner$Turner" 268 y_Dk_four) ∈ V_Tu := kk_Tu _ j_Tu_114
theorem k_Tu_115 : (.methodLink "VolumeTurner$Turner" 274 y_Tu_putLabel) ∈ V_Tu := kk_Tu _ j_Tu_115
theorem k_Tu_116 : (.instanceMethod y_Tu_putLabel) ∈ V_Tu := kk_Tu _ j_Tu_116
theorem k_Tu_117 : (.code y_Tu_putLabel prog_11_method_21_code 3 none) ∈ V_Tu := kk_Tu _ j_Tu_117
theorem k_Tu_118 : (.methodLink "VolumeTurner$Turner" 277 y_Dk_one) ∈ V_Tu := kk_Tu _ j_Tu_118
theorem k_Tu_119 : (.methodLink "VolumeTurner$Turner" 239 y_Pl_firstBlock) ∈ V_Tu := kk_Tu _ j_Tu_119
theorem k_Tu_120 : (.methodLink "VolumeTurner$Turner" 242 y_Tu_fillDescriptors) ∈ V_Tu := kk_Tu _ j_Tu_120
theorem k_Tu_121 : (.instanceMethod y_Tu_fillDescriptors) ∈ V_Tu := kk_Tu _ j_Tu_121
theorem k_Tu_122 : (.code y_Tu_fillDescriptors prog_11_method_22_code 3 none) ∈ V_Tu := kk_Tu _ j_Tu_122
theorem k_Tu_123 : (.methodLink "VolumeTurner$Turner" 245 y_Pl_mapBlock) ∈ V_Tu := kk_Tu _ j_Tu_123
theorem k_Tu_124 : (.methodLink "VolumeTurner$Turner" 280 y_Pl_freeBlocks) ∈ V_Tu := kk_Tu _ j_Tu_124
theorem k_Tu_125 : (.methodLink "VolumeTurner$Turner" 283 y_Pl_freeInodes) ∈ V_Tu := kk_Tu _ j_Tu_125
theorem k_Tu_126 : (.methodLink "VolumeTurner$Turner" 286 y_Tu_directoriesOf) ∈ V_Tu := kk_Tu _ j_Tu_126
theorem k_Tu_127 : (.instanceMethod y_Tu_directoriesOf) ∈ V_Tu := kk_Tu _ j_Tu_127
theorem k_Tu_128 : (.code y_Tu_directoriesOf prog_11_method_23_code 5 (some .int)) ∈ V_Tu := kk_Tu _ j_Tu_128
theorem k_Tu_129 : (.methodLink "VolumeTurner$Turner" 248 y_Tu_fillBlockMap) ∈ V_Tu := kk_Tu _ j_Tu_129
theorem k_Tu_130 : (.instanceMethod y_Tu_fillBlockMap) ∈ V_Tu := kk_Tu _ j_Tu_130
theorem k_Tu_131 : (.code y_Tu_fillBlockMap prog_11_method_25_code 3 none) ∈ V_Tu := kk_Tu _ j_Tu_131
theorem k_Tu_132 : (.methodLink "VolumeTurner$Turner" 289 y_Pl_blocksOf) ∈ V_Tu := kk_Tu _ j_Tu_132
theorem k_Tu_133 : (.methodLink "VolumeTurner$Turner" 292 y_Pl_isUsed) ∈ V_Tu := kk_Tu _ j_Tu_133
theorem k_Tu_134 : (.methodLink "VolumeTurner$Turner" 295 y_Tu_dropBit) ∈ V_Tu := kk_Tu _ j_Tu_134
theorem k_Tu_135 : (.instanceMethod y_Tu_dropBit) ∈ V_Tu := kk_Tu _ j_Tu_135
theorem k_Tu_136 : (.code y_Tu_dropBit prog_11_method_24_code 3 none) ∈ V_Tu := kk_Tu _ j_Tu_136
theorem k_Tu_137 : (.methodLink "VolumeTurner$Turner" 251 y_Tu_fillInodeMap) ∈ V_Tu := kk_Tu _ j_Tu_137
theorem k_Tu_138 : (.instanceMethod y_Tu_fillInodeMap) ∈ V_Tu := kk_Tu _ j_Tu_138
theorem k_Tu_139 : (.code y_Tu_fillInodeMap prog_11_method_26_code 3 none) ∈ V_Tu := kk_Tu _ j_Tu_139
theorem k_Tu_140 : (.methodLink "VolumeTurner$Turner" 254 y_Tu_fillInodes) ∈ V_Tu := kk_Tu _ j_Tu_140
theorem k_Tu_141 : (.instanceMethod y_Tu_fillInodes) ∈ V_Tu := kk_Tu _ j_Tu_141
theorem k_Tu_142 : (.code y_Tu_fillInodes prog_11_method_27_code 4 none) ∈ V_Tu := kk_Tu _ j_Tu_142
theorem k_Tu_143 : (.methodLink "VolumeTurner$Turner" 298 y_Tu_fillInode) ∈ V_Tu := kk_Tu _ j_Tu_143
theorem k_Tu_144 : (.instanceMethod y_Tu_fillInode) ∈ V_Tu := kk_Tu _ j_Tu_144
theorem k_Tu_145 : (.code y_Tu_fillInode prog_11_method_28_code 7 none) ∈ V_Tu := kk_Tu _ j_Tu_145
theorem k_Tu_146 : (.methodLink "VolumeTurner$Turner" 301 y_Tu_modeOf) ∈ V_Tu := kk_Tu _ j_Tu_146
theorem k_Tu_147 : (.instanceMethod y_Tu_modeOf) ∈ V_Tu := kk_Tu _ j_Tu_147
theorem k_Tu_148 : (.code y_Tu_modeOf prog_11_method_29_code 3 (some .int)) ∈ V_Tu := kk_Tu _ j_Tu_148
theorem k_Tu_149 : (.constant "VolumeTurner$Turner" 319 (33024 : Int32)) ∈ V_Tu := kk_Tu _ j_Tu_149
theorem k_Tu_150 : (.constant "VolumeTurner$Turner" 320 (33188 : Int32)) ∈ V_Tu := kk_Tu _ j_Tu_150
theorem k_Tu_151 : (.methodLink "VolumeTurner$Turner" 321 y_Tr_isReadOnly) ∈ V_Tu := kk_Tu _ j_Tu_151
theorem k_Tu_152 : (.methodLink "VolumeTurner$Turner" 304 y_Tr_sizeOf) ∈ V_Tu := kk_Tu _ j_Tu_152
theorem k_Tu_153 : (.methodLink "VolumeTurner$Turner" 307 y_Tr_spotOf) ∈ V_Tu := kk_Tu _ j_Tu_153
theorem k_Tu_154 : (.methodLink "VolumeTurner$Turner" 310 y_Da_seconds) ∈ V_Tu := kk_Tu _ j_Tu_154
theorem k_Tu_155 : (.methodLink "VolumeTurner$Turner" 316 y_Tu_linksOf) ∈ V_Tu := kk_Tu _ j_Tu_155
theorem k_Tu_156 : (.instanceMethod y_Tu_linksOf) ∈ V_Tu := kk_Tu _ j_Tu_156
theorem k_Tu_157 : (.code y_Tu_linksOf prog_11_method_30_code 4 (some .int)) ∈ V_Tu := kk_Tu _ j_Tu_157
theorem k_Tu_158 : (.selects "VolumeTurner$Turner" y_Tu_recall y_Tu_recall) ∈ V_Tu := kk_Tu _ j_Tu_158
theorem k_Tu_159 : (.selects "VolumeTurner$Turner" y_Tu_goBack y_Tu_goBack) ∈ V_Tu := kk_Tu _ j_Tu_159
theorem k_Tu_160 : (.selects "VolumeTurner$Turner" y_Tu_copySector y_Tu_copySector) ∈ V_Tu := kk_Tu _ j_Tu_160
theorem k_Tu_161 : (.selects "VolumeTurner$Turner" y_Tu_copyCluster y_Tu_copyCluster) ∈ V_Tu := kk_Tu _ j_Tu_161
theorem k_Tu_162 : (.selects "VolumeTurner$Turner" y_Tu_prepare y_Tu_prepare) ∈ V_Tu := kk_Tu _ j_Tu_162
theorem k_Tu_163 : (.selects "VolumeTurner$Turner" y_Tu_keepSectors y_Tu_keepSectors) ∈ V_Tu := kk_Tu _ j_Tu_163
theorem k_Tu_164 : (.selects "VolumeTurner$Turner" y_Tu_empty y_Tu_empty) ∈ V_Tu := kk_Tu _ j_Tu_164
theorem k_Tu_165 : (.selects "VolumeTurner$Turner" y_Tu_storeBlock y_Tu_storeBlock) ∈ V_Tu := kk_Tu _ j_Tu_165
theorem k_Tu_166 : (.selects "VolumeTurner$Turner" y_Tu_putOne y_Tu_putOne) ∈ V_Tu := kk_Tu _ j_Tu_166
theorem k_Tu_167 : (.selects "VolumeTurner$Turner" y_Tu_putTwo y_Tu_putTwo) ∈ V_Tu := kk_Tu _ j_Tu_167
theorem k_Tu_168 : (.selects "VolumeTurner$Turner" y_Tu_putFour y_Tu_putFour) ∈ V_Tu := kk_Tu _ j_Tu_168
theorem k_Tu_169 : (.selects "VolumeTurner$Turner" y_Tu_buildDirectory y_Tu_buildDirectory) ∈ V_Tu := kk_Tu _ j_Tu_169
theorem k_Tu_170 : (.selects "VolumeTurner$Turner" y_Tu_putEntry y_Tu_putEntry) ∈ V_Tu := kk_Tu _ j_Tu_170
theorem k_Tu_171 : (.selects "VolumeTurner$Turner" y_Tu_buildIndirects y_Tu_buildIndirects) ∈ V_Tu := kk_Tu _ j_Tu_171
theorem k_Tu_172 : (.selects "VolumeTurner$Turner" y_Tu_putPointers y_Tu_putPointers) ∈ V_Tu := kk_Tu _ j_Tu_172
theorem k_Tu_173 : (.selects "VolumeTurner$Turner" y_Tu_putFixed y_Tu_putFixed) ∈ V_Tu := kk_Tu _ j_Tu_173
theorem k_Tu_174 : (.selects "VolumeTurner$Turner" y_Tu_fillSuperblock y_Tu_fillSuperblock) ∈ V_Tu := kk_Tu _ j_Tu_174
theorem k_Tu_175 : (.selects "VolumeTurner$Turner" y_Tu_putLabel y_Tu_putLabel) ∈ V_Tu := kk_Tu _ j_Tu_175
theorem k_Tu_176 : (.selects "VolumeTurner$Turner" y_Tu_fillDescriptors y_Tu_fillDescriptors) ∈ V_Tu := kk_Tu _ j_Tu_176
theorem k_Tu_177 : (.selects "VolumeTurner$Turner" y_Tu_directoriesOf y_Tu_directoriesOf) ∈ V_Tu := kk_Tu _ j_Tu_177
theorem k_Tu_178 : (.selects "VolumeTurner$Turner" y_Tu_dropBit y_Tu_dropBit) ∈ V_Tu := kk_Tu _ j_Tu_178
theorem k_Tu_179 : (.selects "VolumeTurner$Turner" y_Tu_fillBlockMap y_Tu_fillBlockMap) ∈ V_Tu := kk_Tu _ j_Tu_179
theorem k_Tu_180 : (.selects "VolumeTurner$Turner" y_Tu_fillInodeMap y_Tu_fillInodeMap) ∈ V_Tu := kk_Tu _ j_Tu_180
theorem k_Tu_181 : (.selects "VolumeTurner$Turner" y_Tu_fillInodes y_Tu_fillInodes) ∈ V_Tu := kk_Tu _ j_Tu_181
theorem k_Tu_182 : (.selects "VolumeTurner$Turner" y_Tu_fillInode y_Tu_fillInode) ∈ V_Tu := kk_Tu _ j_Tu_182
theorem k_Tu_183 : (.selects "VolumeTurner$Turner" y_Tu_modeOf y_Tu_modeOf) ∈ V_Tu := kk_Tu _ j_Tu_183
theorem k_Tu_184 : (.selects "VolumeTurner$Turner" y_Tu_linksOf y_Tu_linksOf) ∈ V_Tu := kk_Tu _ j_Tu_184
theorem gk_Tu : ∀ w ∈ w_Tu ++ K_Tu, goodWord w = true := List.all_eq_true.mp (by decide +kernel)
theorem good_Tu : GoodIn V_Tu V_Tu := fun w h => by
  refine ⟨h, ?_⟩
  rcases List.mem_append.mp h with q | q
  · exact good_of_word (gk_Tu w (List.mem_append_left _ q))
  · rcases List.mem_append.mp q with q | q
    · exact good_of_word (gk_Tu w (List.mem_append_right _ q))
    · exact (good_Pl w q).2
