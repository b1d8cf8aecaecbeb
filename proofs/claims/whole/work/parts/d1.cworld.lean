def K_Vq : List Cond := [(.initialized "java/lang/String"), (.initialized "jdk/internal/util/Preconditions"), (.initialized "java/lang/StringLatin1"), (.instanceMethod ⟨"java/lang/String", "length", "()I"⟩), (.selects "java/lang/String" ⟨"java/lang/String", "length", "()I"⟩ ⟨"java/lang/String", "length", "()I"⟩), (.code ⟨"java/lang/String", "length", "()I"⟩ prog_26_method_54_code 1 (some .int)), (.methodLink "java/lang/String" 335 ⟨"java/lang/String", "coder", "()B"⟩), (.instanceMethod ⟨"java/lang/String", "coder", "()B"⟩), (.selects "java/lang/String" ⟨"java/lang/String", "coder", "()B"⟩ ⟨"java/lang/String", "coder", "()B"⟩), (.code ⟨"java/lang/String", "coder", "()B"⟩ prog_26_method_152_code 1 (some .byte)), (.fieldLink "java/lang/String" 38 "java/lang/String" "COMPACT_STRINGS" "Z"), (.instanceMethod ⟨"java/lang/String", "charAt", "(I)C"⟩), (.selects "java/lang/String" ⟨"java/lang/String", "charAt", "(I)C"⟩ ⟨"java/lang/String", "charAt", "(I)C"⟩), (.code ⟨"java/lang/String", "charAt", "(I)C"⟩ prog_26_method_56_code 2 (some .char)), (.methodLink "java/lang/String" 492 ⟨"java/lang/String", "isLatin1", "()Z"⟩), (.instanceMethod ⟨"java/lang/String", "isLatin1", "()Z"⟩), (.selects "java/lang/String" ⟨"java/lang/String", "isLatin1", "()Z"⟩ ⟨"java/lang/String", "isLatin1", "()Z"⟩), (.code ⟨"java/lang/String", "isLatin1", "()Z"⟩ prog_26_method_154_code 1 (some .boolean)), (.methodLink "java/lang/String" 495 ⟨"java/lang/StringLatin1", "charAt", "([BI)C"⟩), (.static ⟨"java/lang/StringLatin1", "charAt", "([BI)C"⟩), (.code ⟨"java/lang/StringLatin1", "charAt", "([BI)C"⟩ prog_28_method_2_code 2 (some .char)), (.methodLink "java/lang/StringLatin1" 9 ⟨"java/lang/String", "checkIndex", "(II)V"⟩), (.static ⟨"java/lang/String", "checkIndex", "(II)V"⟩), (.code ⟨"java/lang/String", "checkIndex", "(II)V"⟩ prog_26_method_155_code 2 none), (.fieldLink "java/lang/String" 1053 "jdk/internal/util/Preconditions" "SIOOBE_FORMATTER" "Ljava/util/function/BiFunction;"), (.methodLink "java/lang/String" 1059 ⟨"jdk/internal/util/Preconditions", "checkIndex", "(IILjava/util/function/BiFunction;)I"⟩), (.static ⟨"jdk/internal/util/Preconditions", "checkIndex", "(IILjava/util/function/BiFunction;)I"⟩), (.code ⟨"jdk/internal/util/Preconditions", "checkIndex", "(IILjava/util/function/BiFunction;)I"⟩ prog_35_method_11_code 3 (some .int)), (.methodLink "java/lang/String" 498 ⟨"java/lang/StringUTF16", "charAt", "([BI)C"⟩), (.fieldLink "java/lang/String" 1048 "java/lang/AbstractStringBuilder" "maybeLatin1" "Z"), (.static ⟨"java/lang/String", "checkBoundsBeginEnd", "(III)V"⟩), (.code ⟨"java/lang/String", "checkBoundsBeginEnd", "(III)V"⟩ prog_26_method_158_code 3 none), (.methodLink "java/lang/String" 1062 ⟨"jdk/internal/util/Preconditions", "checkFromToIndex", "(IIILjava/util/function/BiFunction;)I"⟩), (.static ⟨"jdk/internal/util/Preconditions", "checkFromToIndex", "(IIILjava/util/function/BiFunction;)I"⟩), (.code ⟨"jdk/internal/util/Preconditions", "checkFromToIndex", "(IIILjava/util/function/BiFunction;)I"⟩ prog_35_method_12_code 4 (some .int)), (.static ⟨"java/lang/StringLatin1", "inflate", "([BI[BII)V"⟩), (.code ⟨"java/lang/StringLatin1", "inflate", "([BI[BII)V"⟩ prog_28_method_50_code 5 none), (.methodLink "java/lang/StringLatin1" 240 ⟨"java/lang/StringUTF16", "inflate", "([BI[BII)V"⟩), (.static ⟨"java/lang/String", "checkBoundsOffCount", "(III)I"⟩), (.code ⟨"java/lang/String", "checkBoundsOffCount", "(III)I"⟩ prog_26_method_157_code 3 (some .int)), (.methodLink "java/lang/String" 1065 ⟨"jdk/internal/util/Preconditions", "checkFromIndexSize", "(IIILjava/util/function/BiFunction;)I"⟩), (.static ⟨"jdk/internal/util/Preconditions", "checkFromIndexSize", "(IIILjava/util/function/BiFunction;)I"⟩), (.code ⟨"jdk/internal/util/Preconditions", "checkFromIndexSize", "(IIILjava/util/function/BiFunction;)I"⟩ prog_35_method_13_code 4 (some .int)), (.instanceMethod ⟨"java/lang/String", "getBytes", "([BIB)V"⟩), (.selects "java/lang/String" ⟨"java/lang/String", "getBytes", "([BIB)V"⟩ ⟨"java/lang/String", "getBytes", "([BIB)V"⟩), (.code ⟨"java/lang/String", "getBytes", "([BIB)V"⟩ prog_26_method_147_code 4 none), (.methodLink "java/lang/String" 212 ⟨"java/lang/System", "arraycopy", "(Ljava/lang/Object;ILjava/lang/Object;II)V"⟩), (.methodLink "java/lang/String" 106 ⟨"java/lang/StringLatin1", "inflate", "([BI[BII)V"⟩), (.instantiable "java/lang/String" 4), (.instanceMethod ⟨"java/lang/String", "<init>", "(Ljava/lang/StringBuilder;)V"⟩), (.code ⟨"java/lang/String", "<init>", "(Ljava/lang/StringBuilder;)V"⟩ prog_26_method_53_code 2 none), (.methodLink "java/lang/String" 489 ⟨"java/lang/String", "<init>", "(Ljava/lang/AbstractStringBuilder;Ljava/lang/Void;)V"⟩), (.instanceMethod ⟨"java/lang/String", "<init>", "(Ljava/lang/AbstractStringBuilder;Ljava/lang/Void;)V"⟩), (.code ⟨"java/lang/String", "<init>", "(Ljava/lang/AbstractStringBuilder;Ljava/lang/Void;)V"⟩ prog_26_method_150_code 5 none), (.methodLink "java/lang/String" 1 ⟨"java/lang/Object", "<init>", "()V"⟩), (.methodLink "java/lang/String" 552 ⟨"java/lang/AbstractStringBuilder", "getValue", "()[B"⟩), (.methodLink "java/lang/String" 549 ⟨"java/lang/AbstractStringBuilder", "length", "()I"⟩), (.methodLink "java/lang/String" 1047 ⟨"java/lang/AbstractStringBuilder", "isLatin1", "()Z"⟩), (.methodLink "java/lang/String" 54 ⟨"java/util/Arrays", "copyOfRange", "([BII)[B"⟩), (.methodLink "java/lang/String" 1051 ⟨"java/lang/StringUTF16", "compress", "([BII)[B"⟩), (.methodLink "java/lang/String" 47 ⟨"java/lang/StringUTF16", "coderFromArrayLen", "([BI)B"⟩), (.fieldLink "java/lang/String" 9 "java/lang/String" "value" "[B"), (.fieldLink "java/lang/String" 15 "java/lang/String" "coder" "B"), (.instanceMethod ⟨"java/lang/String", "indexOf", "(I)I"⟩), (.selects "java/lang/String" ⟨"java/lang/String", "indexOf", "(I)I"⟩ ⟨"java/lang/String", "indexOf", "(I)I"⟩), (.code ⟨"java/lang/String", "indexOf", "(I)I"⟩ prog_26_method_79_code 2 (some .int)), (.methodLink "java/lang/String" 633 ⟨"java/lang/String", "indexOf", "(II)I"⟩), (.instanceMethod ⟨"java/lang/String", "indexOf", "(II)I"⟩), (.selects "java/lang/String" ⟨"java/lang/String", "indexOf", "(II)I"⟩ ⟨"java/lang/String", "indexOf", "(II)I"⟩), (.code ⟨"java/lang/String", "indexOf", "(II)I"⟩ prog_26_method_80_code 3 (some .int)), (.methodLink "java/lang/String" 505 ⟨"java/lang/String", "length", "()I"⟩), (.methodLink "java/lang/String" 637 ⟨"java/lang/StringLatin1", "indexOf", "([BIII)I"⟩), (.static ⟨"java/lang/StringLatin1", "indexOf", "([BIII)I"⟩), (.code ⟨"java/lang/StringLatin1", "indexOf", "([BIII)I"⟩ prog_28_method_22_code 4 (some .int)), (.methodLink "java/lang/StringLatin1" 88 ⟨"java/lang/StringLatin1", "canEncode", "(I)Z"⟩), (.static ⟨"java/lang/StringLatin1", "canEncode", "(I)Z"⟩), (.code ⟨"java/lang/StringLatin1", "canEncode", "(I)Z"⟩ prog_28_method_4_code 1 (some .boolean)), (.methodLink "java/lang/StringLatin1" 92 ⟨"java/lang/Math", "max", "(II)I"⟩), (.methodLink "java/lang/StringLatin1" 38 ⟨"java/lang/Math", "min", "(II)I"⟩), (.methodLink "java/lang/StringLatin1" 95 ⟨"java/lang/StringLatin1", "indexOfChar", "([BIII)I"⟩), (.static ⟨"java/lang/StringLatin1", "indexOfChar", "([BIII)I"⟩), (.code ⟨"java/lang/StringLatin1", "indexOfChar", "([BIII)I"⟩ prog_28_method_23_code 6 (some .int)), (.methodLink "java/lang/String" 640 ⟨"java/lang/StringUTF16", "indexOf", "([BIII)I"⟩)]
theorem j_Vq_0 : (.initialized "java/lang/String") ∈ K_Vq := List.mem_of_getElem? (i := 0) rfl
theorem j_Vq_1 : (.initialized "jdk/internal/util/Preconditions") ∈ K_Vq := List.mem_of_getElem? (i := 1) rfl
theorem j_Vq_2 : (.initialized "java/lang/StringLatin1") ∈ K_Vq := List.mem_of_getElem? (i := 2) rfl
theorem j_Vq_3 : (.instanceMethod ⟨"java/lang/String", "length", "()I"⟩) ∈ K_Vq := List.mem_of_getElem? (i := 3) rfl
theorem j_Vq_4 : (.selects "java/lang/String" ⟨"java/lang/String", "length", "()I"⟩ ⟨"java/lang/String", "length", "()I"⟩) ∈ K_Vq := List.mem_of_getElem? (i := 4) rfl
theorem j_Vq_5 : (.code ⟨"java/lang/String", "length", "()I"⟩ prog_26_method_54_code 1 (some .int)) ∈ K_Vq := List.mem_of_getElem? (i := 5) rfl
theorem j_Vq_6 : (.methodLink "java/lang/String" 335 ⟨"java/lang/String", "coder", "()B"⟩) ∈ K_Vq := List.mem_of_getElem? (i := 6) rfl
theorem j_Vq_7 : (.instanceMethod ⟨"java/lang/String", "coder", "()B"⟩) ∈ K_Vq := List.mem_of_getElem? (i := 7) rfl
theorem j_Vq_8 : (.selects "java/lang/String" ⟨"java/lang/String", "coder", "()B"⟩ ⟨"java/lang/String", "coder", "()B"⟩) ∈ K_Vq := List.mem_of_getElem? (i := 8) rfl
theorem j_Vq_9 : (.code ⟨"java/lang/String", "coder", "()B"⟩ prog_26_method_152_code 1 (some .byte)) ∈ K_Vq := List.mem_of_getElem? (i := 9) rfl
theorem j_Vq_10 : (.fieldLink "java/lang/String" 38 "java/lang/String" "COMPACT_STRINGS" "Z") ∈ K_Vq := List.mem_of_getElem? (i := 10) rfl
theorem j_Vq_11 : (.instanceMethod ⟨"java/lang/String", "charAt", "(I)C"⟩) ∈ K_Vq := List.mem_of_getElem? (i := 11) rfl
theorem j_Vq_12 : (.selects "java/lang/String" ⟨"java/lang/String", "charAt", "(I)C"⟩ ⟨"java/lang/String", "charAt", "(I)C"⟩) ∈ K_Vq := List.mem_of_getElem? (i := 12) rfl
theorem j_Vq_13 : (.code ⟨"java/lang/String", "charAt", "(I)C"⟩ prog_26_method_56_code 2 (some .char)) ∈ K_Vq := List.mem_of_getElem? (i := 13) rfl
theorem j_Vq_14 : (.methodLink "java/lang/String" 492 ⟨"java/lang/String", "isLatin1", "()Z"⟩) ∈ K_Vq := List.mem_of_getElem? (i := 14) rfl
theorem j_Vq_15 : (.instanceMethod ⟨"java/lang/String", "isLatin1", "()Z"⟩) ∈ K_Vq := List.mem_of_getElem? (i := 15) rfl
theorem j_Vq_16 : (.selects "java/lang/String" ⟨"java/lang/String", "isLatin1", "()Z"⟩ ⟨"java/lang/String", "isLatin1", "()Z"⟩) ∈ K_Vq := List.mem_of_getElem? (i := 16) rfl
theorem j_Vq_17 : (.code ⟨"java/lang/String", "isLatin1", "()Z"⟩ prog_26_method_154_code 1 (some .boolean)) ∈ K_Vq := List.mem_of_getElem? (i := 17) rfl
theorem j_Vq_18 : (.methodLink "java/lang/String" 495 ⟨"java/lang/StringLatin1", "charAt", "([BI)C"⟩) ∈ K_Vq := List.mem_of_getElem? (i := 18) rfl
theorem j_Vq_19 : (.static ⟨"java/lang/StringLatin1", "charAt", "([BI)C"⟩) ∈ K_Vq := List.mem_of_getElem? (i := 19) rfl
theorem j_Vq_20 : (.code ⟨"java/lang/StringLatin1", "charAt", "([BI)C"⟩ prog_28_method_2_code 2 (some .char)) ∈ K_Vq := List.mem_of_getElem? (i := 20) rfl
theorem j_Vq_21 : (.methodLink "java/lang/StringLatin1" 9 ⟨"java/lang/String", "checkIndex", "(II)V"⟩) ∈ K_Vq := List.mem_of_getElem? (i := 21) rfl
theorem j_Vq_22 : (.static ⟨"java/lang/String", "checkIndex", "(II)V"⟩) ∈ K_Vq := List.mem_of_getElem? (i := 22) rfl
theorem j_Vq_23 : (.code ⟨"java/lang/String", "checkIndex", "(II)V"⟩ prog_26_method_155_code 2 none) ∈ K_Vq := List.mem_of_getElem? (i := 23) rfl
theorem j_Vq_24 : (.fieldLink "java/lang/String" 1053 "jdk/internal/util/Preconditions" "SIOOBE_FORMATTER" "Ljava/util/function/BiFunction;") ∈ K_Vq := List.mem_of_getElem? (i := 24) rfl
theorem j_Vq_25 : (.methodLink "java/lang/String" 1059 ⟨"jdk/internal/util/Preconditions", "checkIndex", "(IILjava/util/function/BiFunction;)I"⟩) ∈ K_Vq := List.mem_of_getElem? (i := 25) rfl
theorem j_Vq_26 : (.static ⟨"jdk/internal/util/Preconditions", "checkIndex", "(IILjava/util/function/BiFunction;)I"⟩) ∈ K_Vq := List.mem_of_getElem? (i := 26) rfl
theorem j_Vq_27 : (.code ⟨"jdk/internal/util/Preconditions", "checkIndex", "(IILjava/util/function/BiFunction;)I"⟩ prog_35_method_11_code 3 (some .int)) ∈ K_Vq := List.mem_of_getElem? (i := 27) rfl
theorem j_Vq_61 : (.fieldLink "java/lang/String" 9 "java/lang/String" "value" "[B") ∈ K_Vq := List.mem_of_getElem? (i := 61) rfl
theorem j_Vq_62 : (.fieldLink "java/lang/String" 15 "java/lang/String" "coder" "B") ∈ K_Vq := List.mem_of_getElem? (i := 62) rfl
theorem j_Vq_66 : (.methodLink "java/lang/String" 633 ⟨"java/lang/String", "indexOf", "(II)I"⟩) ∈ K_Vq := List.mem_of_getElem? (i := 66) rfl
theorem j_Vq_67 : (.instanceMethod ⟨"java/lang/String", "indexOf", "(II)I"⟩) ∈ K_Vq := List.mem_of_getElem? (i := 67) rfl
theorem j_Vq_68 : (.selects "java/lang/String" ⟨"java/lang/String", "indexOf", "(II)I"⟩ ⟨"java/lang/String", "indexOf", "(II)I"⟩) ∈ K_Vq := List.mem_of_getElem? (i := 68) rfl
theorem j_Vq_69 : (.code ⟨"java/lang/String", "indexOf", "(II)I"⟩ prog_26_method_80_code 3 (some .int)) ∈ K_Vq := List.mem_of_getElem? (i := 69) rfl
theorem j_Vq_70 : (.methodLink "java/lang/String" 505 ⟨"java/lang/String", "length", "()I"⟩) ∈ K_Vq := List.mem_of_getElem? (i := 70) rfl
theorem j_Vq_71 : (.methodLink "java/lang/String" 637 ⟨"java/lang/StringLatin1", "indexOf", "([BIII)I"⟩) ∈ K_Vq := List.mem_of_getElem? (i := 71) rfl
theorem j_Vq_72 : (.static ⟨"java/lang/StringLatin1", "indexOf", "([BIII)I"⟩) ∈ K_Vq := List.mem_of_getElem? (i := 72) rfl
theorem j_Vq_73 : (.code ⟨"java/lang/StringLatin1", "indexOf", "([BIII)I"⟩ prog_28_method_22_code 4 (some .int)) ∈ K_Vq := List.mem_of_getElem? (i := 73) rfl
theorem j_Vq_74 : (.methodLink "java/lang/StringLatin1" 88 ⟨"java/lang/StringLatin1", "canEncode", "(I)Z"⟩) ∈ K_Vq := List.mem_of_getElem? (i := 74) rfl
theorem j_Vq_75 : (.static ⟨"java/lang/StringLatin1", "canEncode", "(I)Z"⟩) ∈ K_Vq := List.mem_of_getElem? (i := 75) rfl
theorem j_Vq_76 : (.code ⟨"java/lang/StringLatin1", "canEncode", "(I)Z"⟩ prog_28_method_4_code 1 (some .boolean)) ∈ K_Vq := List.mem_of_getElem? (i := 76) rfl
theorem j_Vq_77 : (.methodLink "java/lang/StringLatin1" 92 ⟨"java/lang/Math", "max", "(II)I"⟩) ∈ K_Vq := List.mem_of_getElem? (i := 77) rfl
theorem j_Vq_78 : (.methodLink "java/lang/StringLatin1" 38 ⟨"java/lang/Math", "min", "(II)I"⟩) ∈ K_Vq := List.mem_of_getElem? (i := 78) rfl
theorem j_Vq_79 : (.methodLink "java/lang/StringLatin1" 95 ⟨"java/lang/StringLatin1", "indexOfChar", "([BIII)I"⟩) ∈ K_Vq := List.mem_of_getElem? (i := 79) rfl
theorem j_Vq_80 : (.static ⟨"java/lang/StringLatin1", "indexOfChar", "([BIII)I"⟩) ∈ K_Vq := List.mem_of_getElem? (i := 80) rfl
theorem j_Vq_81 : (.code ⟨"java/lang/StringLatin1", "indexOfChar", "([BIII)I"⟩ prog_28_method_23_code 6 (some .int)) ∈ K_Vq := List.mem_of_getElem? (i := 81) rfl
def V_Vq : List Cond := K_Vq ++ V_Vt
theorem u_Vq_Vt : ∀ w ∈ V_Vt, w ∈ V_Vq := fun _ h => List.mem_append_right _ h
theorem u_Vq_J : ∀ w ∈ V_J, w ∈ V_Vq := fun w h => u_Vq_Vt w (u_Vt_J w h)
theorem u_Vq_Dk : ∀ w ∈ V_Dk, w ∈ V_Vq := fun w h => u_Vq_Vt w (u_Vt_Dk w h)
theorem u_Vq_Wo : ∀ w ∈ V_Wo, w ∈ V_Vq := fun w h => u_Vq_Vt w (u_Vt_Wo w h)
theorem u_Vq_Da : ∀ w ∈ V_Da, w ∈ V_Vq := fun w h => u_Vq_Vt w (u_Vt_Da w h)
theorem u_Vq_Tp : ∀ w ∈ V_Tp, w ∈ V_Vq := fun w h => u_Vq_Vt w (u_Vt_Tp w h)
theorem u_Vq_Tb : ∀ w ∈ V_Tb, w ∈ V_Vq := fun w h => u_Vq_Vt w (u_Vt_Tb w h)
theorem u_Vq_Tr : ∀ w ∈ V_Tr, w ∈ V_Vq := fun w h => u_Vq_Vt w (u_Vt_Tr w h)
theorem u_Vq_In : ∀ w ∈ V_In, w ∈ V_Vq := fun w h => u_Vq_Vt w (u_Vt_In w h)
theorem u_Vq_Rd : ∀ w ∈ V_Rd, w ∈ V_Vq := fun w h => u_Vq_Vt w (u_Vt_Rd w h)
theorem u_Vq_Ed : ∀ w ∈ V_Ed, w ∈ V_Vq := fun w h => u_Vq_Vt w (u_Vt_Ed w h)
theorem u_Vq_Pl : ∀ w ∈ V_Pl, w ∈ V_Vq := fun w h => u_Vq_Vt w (u_Vt_Pl w h)
theorem u_Vq_Tu : ∀ w ∈ V_Tu, w ∈ V_Vq := fun w h => u_Vq_Vt w (u_Vt_Tu w h)
theorem k_Vq_0 : (.initialized "java/lang/String") ∈ V_Vq := List.mem_append_left _ j_Vq_0
theorem k_Vq_1 : (.initialized "jdk/internal/util/Preconditions") ∈ V_Vq := List.mem_append_left _ j_Vq_1
theorem k_Vq_2 : (.initialized "java/lang/StringLatin1") ∈ V_Vq := List.mem_append_left _ j_Vq_2
theorem k_Vq_3 : (.instanceMethod ⟨"java/lang/String", "length", "()I"⟩) ∈ V_Vq := List.mem_append_left _ j_Vq_3
theorem k_Vq_4 : (.selects "java/lang/String" ⟨"java/lang/String", "length", "()I"⟩ ⟨"java/lang/String", "length", "()I"⟩) ∈ V_Vq := List.mem_append_left _ j_Vq_4
theorem k_Vq_5 : (.code ⟨"java/lang/String", "length", "()I"⟩ prog_26_method_54_code 1 (some .int)) ∈ V_Vq := List.mem_append_left _ j_Vq_5
theorem k_Vq_6 : (.methodLink "java/lang/String" 335 ⟨"java/lang/String", "coder", "()B"⟩) ∈ V_Vq := List.mem_append_left _ j_Vq_6
theorem k_Vq_7 : (.instanceMethod ⟨"java/lang/String", "coder", "()B"⟩) ∈ V_Vq := List.mem_append_left _ j_Vq_7
theorem k_Vq_8 : (.selects "java/lang/String" ⟨"java/lang/String", "coder", "()B"⟩ ⟨"java/lang/String", "coder", "()B"⟩) ∈ V_Vq := List.mem_append_left _ j_Vq_8
theorem k_Vq_9 : (.code ⟨"java/lang/String", "coder", "()B"⟩ prog_26_method_152_code 1 (some .byte)) ∈ V_Vq := List.mem_append_left _ j_Vq_9
theorem k_Vq_10 : (.fieldLink "java/lang/String" 38 "java/lang/String" "COMPACT_STRINGS" "Z") ∈ V_Vq := List.mem_append_left _ j_Vq_10
theorem k_Vq_11 : (.instanceMethod ⟨"java/lang/String", "charAt", "(I)C"⟩) ∈ V_Vq := List.mem_append_left _ j_Vq_11
theorem k_Vq_12 : (.selects "java/lang/String" ⟨"java/lang/String", "charAt", "(I)C"⟩ ⟨"java/lang/String", "charAt", "(I)C"⟩) ∈ V_Vq := List.mem_append_left _ j_Vq_12
theorem k_Vq_13 : (.code ⟨"java/lang/String", "charAt", "(I)C"⟩ prog_26_method_56_code 2 (some .char)) ∈ V_Vq := List.mem_append_left _ j_Vq_13
theorem k_Vq_14 : (.methodLink "java/lang/String" 492 ⟨"java/lang/String", "isLatin1", "()Z"⟩) ∈ V_Vq := List.mem_append_left _ j_Vq_14
theorem k_Vq_15 : (.instanceMethod ⟨"java/lang/String", "isLatin1", "()Z"⟩) ∈ V_Vq := List.mem_append_left _ j_Vq_15
theorem k_Vq_16 : (.selects "java/lang/String" ⟨"java/lang/String", "isLatin1", "()Z"⟩ ⟨"java/lang/String", "isLatin1", "()Z"⟩) ∈ V_Vq := List.mem_append_left _ j_Vq_16
theorem k_Vq_17 : (.code ⟨"java/lang/String", "isLatin1", "()Z"⟩ prog_26_method_154_code 1 (some .boolean)) ∈ V_Vq := List.mem_append_left _ j_Vq_17
theorem k_Vq_18 : (.methodLink "java/lang/String" 495 ⟨"java/lang/StringLatin1", "charAt", "([BI)C"⟩) ∈ V_Vq := List.mem_append_left _ j_Vq_18
theorem k_Vq_19 : (.static ⟨"java/lang/StringLatin1", "charAt", "([BI)C"⟩) ∈ V_Vq := List.mem_append_left _ j_Vq_19
theorem k_Vq_20 : (.code ⟨"java/lang/StringLatin1", "charAt", "([BI)C"⟩ prog_28_method_2_code 2 (some .char)) ∈ V_Vq := List.mem_append_left _ j_Vq_20
theorem k_Vq_21 : (.methodLink "java/lang/StringLatin1" 9 ⟨"java/lang/String", "checkIndex", "(II)V"⟩) ∈ V_Vq := List.mem_append_left _ j_Vq_21
theorem k_Vq_22 : (.static ⟨"java/lang/String", "checkIndex", "(II)V"⟩) ∈ V_Vq := List.mem_append_left _ j_Vq_22
theorem k_Vq_23 : (.code ⟨"java/lang/String", "checkIndex", "(II)V"⟩ prog_26_method_155_code 2 none) ∈ V_Vq := List.mem_append_left _ j_Vq_23
theorem k_Vq_24 : (.fieldLink "java/lang/String" 1053 "jdk/internal/util/Preconditions" "SIOOBE_FORMATTER" "Ljava/util/function/BiFunction;") ∈ V_Vq := List.mem_append_left _ j_Vq_24
theorem k_Vq_25 : (.methodLink "java/lang/String" 1059 ⟨"jdk/internal/util/Preconditions", "checkIndex", "(IILjava/util/function/BiFunction;)I"⟩) ∈ V_Vq := List.mem_append_left _ j_Vq_25
theorem k_Vq_26 : (.static ⟨"jdk/internal/util/Preconditions", "checkIndex", "(IILjava/util/function/BiFunction;)I"⟩) ∈ V_Vq := List.mem_append_left _ j_Vq_26
theorem k_Vq_27 : (.code ⟨"jdk/internal/util/Preconditions", "checkIndex", "(IILjava/util/function/BiFunction;)I"⟩ prog_35_method_11_code 3 (some .int)) ∈ V_Vq := List.mem_append_left _ j_Vq_27
theorem k_Vq_61 : (.fieldLink "java/lang/String" 9 "java/lang/String" "value" "[B") ∈ V_Vq := List.mem_append_left _ j_Vq_61
theorem k_Vq_62 : (.fieldLink "java/lang/String" 15 "java/lang/String" "coder" "B") ∈ V_Vq := List.mem_append_left _ j_Vq_62
theorem k_Vq_66 : (.methodLink "java/lang/String" 633 ⟨"java/lang/String", "indexOf", "(II)I"⟩) ∈ V_Vq := List.mem_append_left _ j_Vq_66
theorem k_Vq_67 : (.instanceMethod ⟨"java/lang/String", "indexOf", "(II)I"⟩) ∈ V_Vq := List.mem_append_left _ j_Vq_67
theorem k_Vq_68 : (.selects "java/lang/String" ⟨"java/lang/String", "indexOf", "(II)I"⟩ ⟨"java/lang/String", "indexOf", "(II)I"⟩) ∈ V_Vq := List.mem_append_left _ j_Vq_68
theorem k_Vq_69 : (.code ⟨"java/lang/String", "indexOf", "(II)I"⟩ prog_26_method_80_code 3 (some .int)) ∈ V_Vq := List.mem_append_left _ j_Vq_69
theorem k_Vq_70 : (.methodLink "java/lang/String" 505 ⟨"java/lang/String", "length", "()I"⟩) ∈ V_Vq := List.mem_append_left _ j_Vq_70
theorem k_Vq_71 : (.methodLink "java/lang/String" 637 ⟨"java/lang/StringLatin1", "indexOf", "([BIII)I"⟩) ∈ V_Vq := List.mem_append_left _ j_Vq_71
theorem k_Vq_72 : (.static ⟨"java/lang/StringLatin1", "indexOf", "([BIII)I"⟩) ∈ V_Vq := List.mem_append_left _ j_Vq_72
theorem k_Vq_73 : (.code ⟨"java/lang/StringLatin1", "indexOf", "([BIII)I"⟩ prog_28_method_22_code 4 (some .int)) ∈ V_Vq := List.mem_append_left _ j_Vq_73
theorem k_Vq_74 : (.methodLink "java/lang/StringLatin1" 88 ⟨"java/lang/StringLatin1", "canEncode", "(I)Z"⟩) ∈ V_Vq := List.mem_append_left _ j_Vq_74
theorem k_Vq_75 : (.static ⟨"java/lang/StringLatin1", "canEncode", "(I)Z"⟩) ∈ V_Vq := List.mem_append_left _ j_Vq_75
theorem k_Vq_76 : (.code ⟨"java/lang/StringLatin1", "canEncode", "(I)Z"⟩ prog_28_method_4_code 1 (some .boolean)) ∈ V_Vq := List.mem_append_left _ j_Vq_76
theorem k_Vq_77 : (.methodLink "java/lang/StringLatin1" 92 ⟨"java/lang/Math", "max", "(II)I"⟩) ∈ V_Vq := List.mem_append_left _ j_Vq_77
theorem k_Vq_78 : (.methodLink "java/lang/StringLatin1" 38 ⟨"java/lang/Math", "min", "(II)I"⟩) ∈ V_Vq := List.mem_append_left _ j_Vq_78
theorem k_Vq_79 : (.methodLink "java/lang/StringLatin1" 95 ⟨"java/lang/StringLatin1", "indexOfChar", "([BIII)I"⟩) ∈ V_Vq := List.mem_append_left _ j_Vq_79
theorem k_Vq_80 : (.static ⟨"java/lang/StringLatin1", "indexOfChar", "([BIII)I"⟩) ∈ V_Vq := List.mem_append_left _ j_Vq_80
theorem k_Vq_81 : (.code ⟨"java/lang/StringLatin1", "indexOfChar", "([BIII)I"⟩ prog_28_method_23_code 6 (some .int)) ∈ V_Vq := List.mem_append_left _ j_Vq_81
theorem gk_Vq : ∀ w ∈ K_Vq, goodWord w = true := List.all_eq_true.mp (by decide +kernel)
theorem good_Vq : GoodIn V_Vq V_Vq := fun w h => by
  refine ⟨h, ?_⟩
  rcases List.mem_append.mp h with q | q
  · exact good_of_word (gk_Vq w q)
  · exact (good_Vt w q).2
/-- where the rows of the tree stand -/
abbrev CT : Type := ((((Nat × Nat) × (Nat × Nat)) × ((Nat × Nat) × (Nat × Nat))) × (((Nat × Nat) × (Nat × Nat)) × ((Nat × Nat) × Nat)))
abbrev CT.a_parent (S : CT) : Nat := S.1.1.1.1
def CT.u_a_parent (S : CT) (v : Nat) : CT := ((((v, S.1.1.1.2), S.1.1.2), S.1.2), S.2)
abbrev CT.a_first (S : CT) : Nat := S.1.1.1.2
def CT.u_a_first (S : CT) (v : Nat) : CT := ((((S.1.1.1.1, v), S.1.1.2), S.1.2), S.2)
abbrev CT.a_size (S : CT) : Nat := S.1.1.2.1
def CT.u_a_size (S : CT) (v : Nat) : CT := (((S.1.1.1, (v, S.1.1.2.2)), S.1.2), S.2)
abbrev CT.a_bits (S : CT) : Nat := S.1.1.2.2
def CT.u_a_bits (S : CT) (v : Nat) : CT := (((S.1.1.1, (S.1.1.2.1, v)), S.1.2), S.2)
abbrev CT.a_spot (S : CT) : Nat := S.1.2.1.1
def CT.u_a_spot (S : CT) (v : Nat) : CT := ((S.1.1, ((v, S.1.2.1.2), S.1.2.2)), S.2)
abbrev CT.a_slot (S : CT) : Nat := S.1.2.1.2
def CT.u_a_slot (S : CT) (v : Nat) : CT := ((S.1.1, ((S.1.2.1.1, v), S.1.2.2)), S.2)
abbrev CT.a_parts (S : CT) : Nat := S.1.2.2.1
def CT.u_a_parts (S : CT) (v : Nat) : CT := ((S.1.1, (S.1.2.1, (v, S.1.2.2.2))), S.2)
abbrev CT.a_kids (S : CT) : Nat := S.1.2.2.2
def CT.u_a_kids (S : CT) (v : Nat) : CT := ((S.1.1, (S.1.2.1, (S.1.2.2.1, v))), S.2)
abbrev CT.a_kidCount (S : CT) : Nat := S.2.1.1.1
def CT.u_a_kidCount (S : CT) (v : Nat) : CT := (S.1, (((v, S.2.1.1.2), S.2.1.2), S.2.2))
abbrev CT.a_nameAt (S : CT) : Nat := S.2.1.1.2
def CT.u_a_nameAt (S : CT) (v : Nat) : CT := (S.1, (((S.2.1.1.1, v), S.2.1.2), S.2.2))
abbrev CT.a_nameLength (S : CT) : Nat := S.2.1.2.1
def CT.u_a_nameLength (S : CT) (v : Nat) : CT := (S.1, ((S.2.1.1, (v, S.2.1.2.2)), S.2.2))
abbrev CT.a_nameBytes (S : CT) : Nat := S.2.1.2.2
def CT.u_a_nameBytes (S : CT) (v : Nat) : CT := (S.1, ((S.2.1.1, (S.2.1.2.1, v)), S.2.2))
abbrev CT.a_built (S : CT) : Nat := S.2.2.1.1
def CT.u_a_built (S : CT) (v : Nat) : CT := (S.1, (S.2.1, ((v, S.2.2.1.2), S.2.2.2)))
abbrev CT.a_builtBlocks (S : CT) : Nat := S.2.2.1.2
def CT.u_a_builtBlocks (S : CT) (v : Nat) : CT := (S.1, (S.2.1, ((S.2.2.1.1, v), S.2.2.2)))
abbrev CT.a_pool (S : CT) : Nat := S.2.2.2
def CT.u_a_pool (S : CT) (v : Nat) : CT := (S.1, (S.2.1, (S.2.2.1, v)))
abbrev CA : Type := ((((((ClassId × ClassId) × ClassId) × (Nat × Nat)) × (((Nat × Nat) × Nat) × (Nat × Nat))) × ((((Nat × Nat) × Nat) × (Nat × Nat)) × ((Nat × Nat) × (Nat × Nat)))) × (((((Nat × Nat) × Nat) × (Nat × Nat)) × ((Nat × Nat) × (Nat × Nat))) × ((((Nat × Nat) × Nat) × (Nat × Nat)) × ((Nat × Nat) × (Nat × Nat)))))
abbrev CA.kB (S : CA) : ClassId := S.1.1.1.1.1.1
abbrev CA.kZ (S : CA) : ClassId := S.1.1.1.1.1.2
abbrev CA.kI (S : CA) : ClassId := S.1.1.1.1.2
abbrev CA.o_Vt (S : CA) : Nat := S.1.1.1.2.1
abbrev CA.o_Dk (S : CA) : Nat := S.1.1.1.2.2
abbrev CA.o_Tp (S : CA) : Nat := S.1.1.2.1.1.1
abbrev CA.o_Tb (S : CA) : Nat := S.1.1.2.1.1.2
abbrev CA.o_Tr (S : CA) : Nat := S.1.1.2.1.2
abbrev CA.o_Rd (S : CA) : Nat := S.1.1.2.2.1
abbrev CA.o_Ed (S : CA) : Nat := S.1.1.2.2.2
abbrev CA.o_Pl (S : CA) : Nat := S.1.2.1.1.1.1
abbrev CA.o_Tu (S : CA) : Nat := S.1.2.1.1.1.2
abbrev CA.o_In (S : CA) : Nat := S.1.2.1.1.2
abbrev CA.a_Vt_failAsks (S : CA) : Nat := S.1.2.1.2.1
abbrev CA.a_Vt_failWrites (S : CA) : Nat := S.1.2.1.2.2
abbrev CA.a_Dk_bytes (S : CA) : Nat := S.1.2.2.1.1
abbrev CA.a_Tp_bytes (S : CA) : Nat := S.1.2.2.1.2
abbrev CA.a_Tp_ready (S : CA) : Nat := S.1.2.2.2.1
abbrev CA.a_Tb_next (S : CA) : Nat := S.1.2.2.2.2
abbrev CA.a_Tb_goal (S : CA) : Nat := S.2.1.1.1.1.1
abbrev CA.a_Rd_taken (S : CA) : Nat := S.2.1.1.1.1.2
abbrev CA.a_Rd_road (S : CA) : Nat := S.2.1.1.1.2
abbrev CA.a_Rd_fileRoad (S : CA) : Nat := S.2.1.1.2.1
abbrev CA.a_Rd_units (S : CA) : Nat := S.2.1.1.2.2
abbrev CA.a_Ed_road (S : CA) : Nat := S.2.1.2.1.1
abbrev CA.a_Ed_units (S : CA) : Nat := S.2.1.2.1.2
abbrev CA.a_Ed_shortName (S : CA) : Nat := S.2.1.2.2.1
abbrev CA.a_Pl_fixed (S : CA) : Nat := S.2.1.2.2.2
abbrev CA.a_Pl_used (S : CA) : Nat := S.2.2.1.1.1.1
abbrev CA.a_Pl_aimedAt (S : CA) : Nat := S.2.2.1.1.1.2
abbrev CA.a_Pl_rooms (S : CA) : Nat := S.2.2.1.1.2
abbrev CA.a_Pl_list (S : CA) : Nat := S.2.2.1.2.1
abbrev CA.a_Tu_block (S : CA) : Nat := S.2.2.1.2.2
abbrev CA.s_Tr_98 (S : CA) : Nat := S.2.2.2.1.1
abbrev CA.s_Pl_207 (S : CA) : Nat := S.2.2.2.1.2
abbrev CA.s_Tu_203 (S : CA) : Nat := S.2.2.2.2.1
abbrev CA.tb (S : CA) : Nat := S.2.2.2.2.2
def wV (M : CA) (Y : CT) (G : CG) (S : CS) : va_W := [(M.o_Vt, .inr (11, [.ref M.o_Dk, .ref M.o_Tp, .ref M.o_Tb, .ref M.o_Tr, .ref M.o_Rd, .ref M.o_Ed, .ref M.o_Pl, .ref M.o_Tu, .ref M.o_In, .ref M.a_Vt_failAsks, .ref M.a_Vt_failWrites, .int S.v_Vt_fails, .int S.v_Vt_here, .int S.v_Vt_stale, .int S.v_Vt_lastFault, .int S.v_Vt_hasRun])), (M.o_Dk, .inr (0, [.int S.v_Dk_sectors, .ref M.a_Dk_bytes, .int S.v_Dk_power])), (M.o_Tp, .inr (3, [.ref M.a_Tp_bytes, .ref M.a_Tp_ready, .int S.v_Tp_used])), (M.o_Tb, .inr (4, [.ref M.o_Dk, .int S.v_Tb_cluster, .int S.v_Tb_before, .int S.v_Tb_copies, .int S.v_Tb_length, .int S.v_Tb_root, .int S.v_Tb_start, .int S.v_Tb_clusters, .ref M.a_Tb_next, .ref M.a_Tb_goal])), (M.o_Tr, .inr (5, [.int S.v_Tr_count, .int S.v_Tr_label, .ref Y.a_parent, .ref Y.a_first, .ref Y.a_size, .ref Y.a_bits, .ref Y.a_spot, .ref Y.a_slot, .ref Y.a_parts, .ref Y.a_kids, .ref Y.a_kidCount, .ref Y.a_nameAt, .ref Y.a_nameLength, .ref Y.a_nameBytes, .ref Y.a_built, .ref Y.a_builtBlocks, .ref Y.a_pool, .int S.v_Tr_pooled])), (M.o_Rd, .inr (7, [.ref M.o_Dk, .ref M.o_Tb, .ref M.o_Tr, .ref M.a_Rd_taken, .ref M.a_Rd_road, .ref M.a_Rd_fileRoad, .ref M.a_Rd_units, .int S.v_Rd_parts, .int S.v_Rd_toCome, .int S.v_Rd_sum])), (M.o_Ed, .inr (8, [.ref M.o_Dk, .ref M.o_Tb, .ref M.o_Tr, .ref M.a_Ed_road, .int S.v_Ed_roadLength, .ref M.a_Ed_units, .int S.v_Ed_unitCount, .ref M.a_Ed_shortName, .int S.v_Ed_plain, .int S.v_Ed_firstSlot, .int S.v_Ed_slots, .int S.v_Ed_unseen, .int S.v_Ed_wanted])), (M.o_Pl, .inr (9, [.ref M.o_Dk, .ref M.o_Tb, .ref M.o_Tr, .int S.v_Pl_blocks, .ref M.a_Pl_fixed, .ref M.a_Pl_used, .ref M.a_Pl_aimedAt, .ref M.a_Pl_rooms, .int S.v_Pl_roomCount, .ref M.a_Pl_list, .int S.v_Pl_listed, .int S.v_Pl_size, .int S.v_Pl_groups, .int S.v_Pl_inodes, .int S.v_Pl_moves, .int S.v_Pl_built, .int S.v_Pl_free])), (M.o_Tu, .inr (10, [.ref M.o_Dk, .ref M.o_Tb, .ref M.o_Tr, .ref M.o_Rd, .ref M.o_Pl, .ref M.o_In, .ref M.a_Tu_block])), (M.o_In, .inr (6, [.ref M.o_Dk, .int S.v_In_seen])), (M.a_Vt_failAsks, .inl (M.kI, 16, .inl S.w_Vt_failAsks)), (M.a_Vt_failWrites, .inl (M.kI, 16, .inl S.w_Vt_failWrites)), (M.a_Dk_bytes, .inl (M.kB, (512 * G.n), .inl S.w_Dk_bytes)), (M.a_Tp_bytes, .inl (M.kB, 4096, .inl S.w_Tp_bytes)), (M.a_Tp_ready, .inl (M.kB, 20, .inl S.w_Tp_ready)), (M.a_Tb_next, .inl (M.kI, (G.n / 2 + 2), .inl S.w_Tb_next)), (M.a_Tb_goal, .inl (M.kI, (G.n / 2 + 2), .inl S.w_Tb_goal)), (Y.a_parent, .inl (M.kI, G.l_parent, .inl S.w_Tr_parent)), (Y.a_first, .inl (M.kI, G.l_first, .inl S.w_Tr_first)), (Y.a_size, .inl (M.kI, G.l_size, .inl S.w_Tr_size)), (Y.a_bits, .inl (M.kI, G.l_bits, .inl S.w_Tr_bits)), (Y.a_spot, .inl (M.kI, G.l_spot, .inl S.w_Tr_spot)), (Y.a_slot, .inl (M.kI, G.l_slot, .inl S.w_Tr_slot)), (Y.a_parts, .inl (M.kI, G.l_parts, .inl S.w_Tr_parts)), (Y.a_kids, .inl (M.kI, G.l_kids, .inl S.w_Tr_kids)), (Y.a_kidCount, .inl (M.kI, G.l_kidCount, .inl S.w_Tr_kidCount)), (Y.a_nameAt, .inl (M.kI, G.l_nameAt, .inl S.w_Tr_nameAt)), (Y.a_nameLength, .inl (M.kI, G.l_nameLength, .inl S.w_Tr_nameLength)), (Y.a_nameBytes, .inl (M.kI, G.l_nameBytes, .inl S.w_Tr_nameBytes)), (Y.a_built, .inl (M.kI, G.l_built, .inl S.w_Tr_built)), (Y.a_builtBlocks, .inl (M.kI, G.l_builtBlocks, .inl S.w_Tr_builtBlocks)), (Y.a_pool, .inl (M.kI, G.l_pool, .inl S.w_Tr_pool)), (M.a_Rd_taken, .inl (M.kZ, (G.n / 2 + 2), .inl S.w_Rd_taken)), (M.a_Rd_road, .inl (M.kI, (G.n / 2 + 2), .inl S.w_Rd_road)), (M.a_Rd_fileRoad, .inl (M.kI, (G.n / 2 + 2), .inl S.w_Rd_fileRoad)), (M.a_Rd_units, .inl (M.kI, 260, .inl S.w_Rd_units)), (M.a_Ed_road, .inl (M.kI, (G.n / 2 + 2), .inl S.w_Ed_road)), (M.a_Ed_units, .inl (M.kI, 255, .inl S.w_Ed_units)), (M.a_Ed_shortName, .inl (M.kI, 11, .inl S.w_Ed_shortName)), (M.a_Pl_fixed, .inl (M.kZ, (G.n / 2), .inl S.w_Pl_fixed)), (M.a_Pl_used, .inl (M.kZ, (G.n / 2), .inl S.w_Pl_used)), (M.a_Pl_aimedAt, .inl (M.kZ, (G.n / 2 + 2), .inl S.w_Pl_aimedAt)), (M.a_Pl_rooms, .inl (M.kI, (G.n / 2), .inl S.w_Pl_rooms)), (M.a_Pl_list, .inl (M.kI, (G.n / 2 + 4), .inl S.w_Pl_list)), (M.a_Tu_block, .inl (M.kB, 1024, .inl S.w_Tu_block))]
def tV (M : CA) : List (ClassId × FieldType) := [(M.kB, .byte), (M.kZ, .boolean), (M.kI, .int)]
theorem ly_newP {D : va_G} {M : CA} {Y : CT} {G : CG} {x y : CS} {H : Heap} (e : x = y) (hP : va_P D classes (wV M Y G y) H) : va_P D classes (wV M Y G x) H := e ▸ hP
theorem ly_newD {A : Nat → Prop} {M : CA} {Y : CT} {G : CG} {x y : CS} (e : x = y) (hD : va_D A (wV M Y G y)) : va_D A (wV M Y G x) := e ▸ hD
/-- a callee that has one cell of the world -/
theorem lx_one {D : va_G} {A : Nat → Prop} {ws : va_W} {q a : Nat} {e e1 : va_E} {H H1 : Heap} (hP : va_P D classes ws H) (hD : va_D A ws) (he : ws[q]? = some (a, e)) (hk : ∀ x : Nat, x < H.size → ¬ va_A [(a, e)] H.size x → H1[x]? = H[x]?) (hP1 : va_P D classes [(a, e1)] H1) : va_P D classes (ws.set q (a, e1)) H1 ∧ va_D A (ws.set q (a, e1)) := by
  have hl := (List.getElem?_eq_some_iff.mp he).1
  refine ⟨?_, hD.set he⟩
  intro k p hp
  by_cases hkq : k = q
  · subst hkq
    rw [List.getElem?_set_self hl] at hp
    cases hp
    exact hP1 0 _ rfl
  · rw [List.getElem?_set_ne (Ne.symm hkq)] at hp
    have hlt := (hP k p hp).lt
    refine (hP k p hp).kept (hk p.1 hlt (fun z => ?_))
    rcases z with ⟨j, e2, z⟩ | z
    · cases j with
      | zero =>
        have e3 : (a, e) = (p.1, e2) := Option.some.inj z
        exact hkq (hD.1 k q p (a, e) hp he (congrArg Prod.fst e3).symm)
      | succ j => simp at z
    · exact absurd hlt (Nat.not_lt.mpr z)
theorem l_Ar_fillBR (l : Launch) (dC : Nat → ClassId) (dI : Nat → Nat → Nat) (h1 sz : Nat) (cB : ClassId) (n : Nat) (f : Nat → Int32) (hn : n < 2 ^ 31) {p1 p2 : Int32} (g1 : ¬ p1 < 0) (g2 : ¬ p2 < 0) (g3 : p1.toNatClampNeg ≤ p2.toNatClampNeg) (g4 : p2.toNatClampNeg ≤ n) (p3 : Int32) : Met l y_Ar_fillBR (.code y_Ar_fillBR b_Ar_fillBR 5 none :: V_J) ({ frames := 1, cells := 0, slots := 0, locals := 22 }) (va_Pc [.ref h1, .int p1, .int p2, .int p3] (fun U => U.heap.size = sz ∧ at_ (dC, dI) (fun _ => True) [(h1, .inl (cB, n, .inl f))] [(cB, .byte)] U)) (va_Qv (fun u : Nat → Int32 => u = ar_fill f p1.toNatClampNeg p2.toNatClampNeg (vp_nar .byte p3)) (fun (u : Nat → Int32) t => at_ (dC, dI) (va_A [(h1, .inl (cB, n, .inl f))] sz) [(h1, .inl (cB, n, .inl u))] [(cB, .byte)] t) (va_A [(h1, .inl (cB, n, .inl f))] sz)) 0 0 (va_A [(h1, .inl (cB, n, .inl f))] sz) := by
  obtain ⟨j, hj, rfl⟩ := nI_of g1
  obtain ⟨k, hk, rfl⟩ := nI_of g2
  rw [nI_clamp hj, nI_clamp hk] at g3
  rw [nI_clamp hk] at g4
  rw [nI_clamp hj, nI_clamp hk]
  exact c_Ar_fillBR l dC dI h1 sz cB n f hn j k g3 g4 p3
