/-! The JDK on constant texts. -/
def K_S : List Cond := [(.fieldLink "java/lang/String" 38 "java/lang/String" "COMPACT_STRINGS" "Z"), (.fieldLink "java/lang/String" 15 "java/lang/String" "coder" "B"), (.fieldLink "java/lang/String" 9 "java/lang/String" "value" "[B"), (.methodLink "java/lang/String" 335 ⟨"java/lang/String", "coder", "()B"⟩), (.initialized "java/lang/String"), (.code ⟨"java/lang/String", "coder", "()B"⟩ prog_26_method_152_code 1 (some .byte)), (.instanceMethod ⟨"java/lang/String", "coder", "()B"⟩), (.selects "java/lang/String" ⟨"java/lang/String", "coder", "()B"⟩ ⟨"java/lang/String", "coder", "()B"⟩), (.fieldLink "java/lang/String" 1053 "jdk/internal/util/Preconditions" "SIOOBE_FORMATTER" "Ljava/util/function/BiFunction;"), (.methodLink "java/lang/String" 1059 ⟨"jdk/internal/util/Preconditions", "checkIndex", "(IILjava/util/function/BiFunction;)I"⟩), (.initialized "jdk/internal/util/Preconditions"), (.code ⟨"jdk/internal/util/Preconditions", "checkIndex", "(IILjava/util/function/BiFunction;)I"⟩ prog_35_method_11_code 3 (some .int)), (.static ⟨"jdk/internal/util/Preconditions", "checkIndex", "(IILjava/util/function/BiFunction;)I"⟩), (.methodLink "java/lang/StringLatin1" 9 ⟨"java/lang/String", "checkIndex", "(II)V"⟩), (.code ⟨"java/lang/String", "checkIndex", "(II)V"⟩ prog_26_method_155_code 2 none), (.static ⟨"java/lang/String", "checkIndex", "(II)V"⟩), (.methodLink "java/lang/String" 492 ⟨"java/lang/String", "isLatin1", "()Z"⟩), (.code ⟨"java/lang/String", "isLatin1", "()Z"⟩ prog_26_method_154_code 1 (some .boolean)), (.instanceMethod ⟨"java/lang/String", "isLatin1", "()Z"⟩), (.selects "java/lang/String" ⟨"java/lang/String", "isLatin1", "()Z"⟩ ⟨"java/lang/String", "isLatin1", "()Z"⟩), (.methodLink "java/lang/String" 495 ⟨"java/lang/StringLatin1", "charAt", "([BI)C"⟩), (.initialized "java/lang/StringLatin1"), (.code ⟨"java/lang/StringLatin1", "charAt", "([BI)C"⟩ prog_28_method_2_code 2 (some .char)), (.static ⟨"java/lang/StringLatin1", "charAt", "([BI)C"⟩), (.methodLink "java/lang/StringLatin1" 88 ⟨"java/lang/StringLatin1", "canEncode", "(I)Z"⟩), (.code ⟨"java/lang/StringLatin1", "canEncode", "(I)Z"⟩ prog_28_method_4_code 1 (some .boolean)), (.static ⟨"java/lang/StringLatin1", "canEncode", "(I)Z"⟩), (.methodLink "java/lang/StringLatin1" 92 ⟨"java/lang/Math", "max", "(II)I"⟩), (.static ⟨"java/lang/Math", "max", "(II)I"⟩), (.initialized "java/lang/Math"), (.code ⟨"java/lang/Math", "max", "(II)I"⟩ prog_24_method_65_code 2 (some .int)), (.methodLink "java/lang/StringLatin1" 38 ⟨"java/lang/Math", "min", "(II)I"⟩), (.static ⟨"java/lang/Math", "min", "(II)I"⟩), (.code ⟨"java/lang/Math", "min", "(II)I"⟩ prog_24_method_69_code 2 (some .int)), (.methodLink "java/lang/StringLatin1" 95 ⟨"java/lang/StringLatin1", "indexOfChar", "([BIII)I"⟩), (.code ⟨"java/lang/StringLatin1", "indexOfChar", "([BIII)I"⟩ prog_28_method_23_code 6 (some .int)), (.static ⟨"java/lang/StringLatin1", "indexOfChar", "([BIII)I"⟩), (.methodLink "java/lang/String" 505 ⟨"java/lang/String", "length", "()I"⟩), (.code ⟨"java/lang/String", "length", "()I"⟩ prog_26_method_54_code 1 (some .int)), (.instanceMethod ⟨"java/lang/String", "length", "()I"⟩), (.selects "java/lang/String" ⟨"java/lang/String", "length", "()I"⟩ ⟨"java/lang/String", "length", "()I"⟩), (.methodLink "java/lang/String" 637 ⟨"java/lang/StringLatin1", "indexOf", "([BIII)I"⟩), (.code ⟨"java/lang/StringLatin1", "indexOf", "([BIII)I"⟩ prog_28_method_22_code 4 (some .int)), (.static ⟨"java/lang/StringLatin1", "indexOf", "([BIII)I"⟩), (.methodLink "java/lang/String" 633 ⟨"java/lang/String", "indexOf", "(II)I"⟩), (.code ⟨"java/lang/String", "indexOf", "(II)I"⟩ prog_26_method_80_code 3 (some .int)), (.instanceMethod ⟨"java/lang/String", "indexOf", "(II)I"⟩), (.selects "java/lang/String" ⟨"java/lang/String", "indexOf", "(II)I"⟩ ⟨"java/lang/String", "indexOf", "(II)I"⟩)]
def ls_X (E : (Nat → Prop) → State → Prop) : Prop := (∀ (A : Nat → Prop) (U V : State), V.vm = U.vm → V.heap = U.heap → E A U → E A V) ∧ (∀ (A B : Nat → Prop) (U : State), (∀ q, B q → A q) → E A U → E B U) ∧ (∀ (A : Nat → Prop) (s U : State) (H : Heap) (locs : List Loc), E A s → va_S A s.heap H locs → U.heap = H → s.WarmedH U.vm → E A U) ∧ (∀ (A : Nat → Prop) (U : State), E A U → va_Z "java/lang/String" "COMPACT_STRINGS" "Z" (.int 1) A U U.heap) ∧ (∀ (A : Nat → Prop) (U : State), E A U → va_Zq "jdk/internal/util/Preconditions" "SIOOBE_FORMATTER" "Ljava/util/function/BiFunction;" A U U.heap)
theorem ls_X.same {E : (Nat → Prop) → State → Prop} (X : ls_X E) : ∀ (A : Nat → Prop) (U V : State), V.vm = U.vm → V.heap = U.heap → E A U → E A V := X.1
theorem ls_X.mono {E : (Nat → Prop) → State → Prop} (X : ls_X E) : ∀ (A B : Nat → Prop) (U : State), (∀ q, B q → A q) → E A U → E B U := X.2.1
theorem ls_X.kept {E : (Nat → Prop) → State → Prop} (X : ls_X E) : ∀ (A : Nat → Prop) (s U : State) (H : Heap) (locs : List Loc), E A s → va_S A s.heap H locs → U.heap = H → s.WarmedH U.vm → E A U := X.2.2.1
theorem ls_X.cs {E : (Nat → Prop) → State → Prop} (X : ls_X E) : ∀ (A : Nat → Prop) (U : State), E A U → va_Z "java/lang/String" "COMPACT_STRINGS" "Z" (.int 1) A U U.heap := X.2.2.2.1
theorem ls_X.fmt {E : (Nat → Prop) → State → Prop} (X : ls_X E) : ∀ (A : Nat → Prop) (U : State), E A U → va_Zq "jdk/internal/util/Preconditions" "SIOOBE_FORMATTER" "Ljava/util/function/BiFunction;" A U U.heap := X.2.2.2.2
def ls_S (E : (Nat → Prop) → State → Prop) (q v N : Nat) (f : Nat → Int32) : Prop := (∀ (A : Nat → Prop) (U : State), E A U → va_OF "java/lang/String" "value" "[B" (.ref v) q A U U.heap) ∧ (∀ (A : Nat → Prop) (U : State), E A U → va_OF "java/lang/String" "coder" "B" (.int 0) q A U U.heap) ∧ (∀ (A : Nat → Prop) (U : State), E A U → va_T .byte v N (fun k => .int (f k)) A U U.heap) ∧ (∀ (A : Nat → Prop) (U : State), E A U → ∃ cell : Cell, U.heap[q]? = some cell ∧ cell.vm.isStatics = false ∧ U.vm.findClass "java/lang/String" = some cell.cls) ∧ ∀ k : Nat, k < N → ∃ b : Nat, b < 128 ∧ f k = nI b
def j_ix (f : Nat → Int32) (x : Int32) : Nat → Nat → Int32
  | 0, _ => -1
  | g + 1, j => if f j = x then nI j else j_ix f x g (j + 1)
theorem j_shr0 (x : Int32) : x >>> ((0 : Int32) &&& 31) = x := by
  have e : ((0 : Int32) &&& 31) = 0 := by decide
  rw [e]
  exact Int32.shiftRight_zero
theorem j_lt {i : Int32} {N : Nat} (hin : vp_in i N) (hN : N < 2 ^ 31) : i < nI N := by
  obtain ⟨j, hj, rfl⟩ := nI_of (fun z => hin (Or.inl z) : ¬ i < 0)
  have h : ¬ N ≤ (nI j).toNatClampNeg := fun z => hin (Or.inr z)
  rw [nI_clamp hj] at h
  exact nI_lt (Nat.not_le.mp h) hN
abbrev b_Sl : ByteArray := prog_26_method_154_code
abbrev y_Sl : MethodName := ⟨"java/lang/String", "isLatin1", "()Z"⟩
theorem d_Sl_0 : decode b_Sl 0 = .ok (.getstatic 38, 3) := by decide +kernel
theorem d_Sl_3 : decode b_Sl 3 = .ok (.ifCond .eq 14, 3) := by decide +kernel
theorem d_Sl_6 : decode b_Sl 6 = .ok (.aload_n 0, 1) := by decide +kernel
theorem d_Sl_7 : decode b_Sl 7 = .ok (.getfield 15, 3) := by decide +kernel
theorem d_Sl_10 : decode b_Sl 10 = .ok (.ifCond .ne 7, 3) := by decide +kernel
theorem d_Sl_13 : decode b_Sl 13 = .ok (.iconst 1, 1) := by decide +kernel
theorem d_Sl_14 : decode b_Sl 14 = .ok (.goto 4, 3) := by decide +kernel
theorem d_Sl_18 : decode b_Sl 18 = .ok (.ireturn, 1) := by decide +kernel
set_option maxHeartbeats 4000000 in
set_option maxRecDepth 100000 in
theorem j_Sl (l : Launch) (dC : Nat → ClassId) (dI : Nat → Nat → Nat) {E : (Nat → Prop) → State → Prop} (X : ls_X E) {V : List Cond} (hg : GoodIn V V) (hw : ∀ w ∈ K_S, w ∈ V) {q v N : Nat} {f : Nat → Int32} (hs : ls_S E q v N f) (sz : Nat) : Met l y_Sl (.code y_Sl b_Sl 1 (some .boolean) :: V) ({ frames := 0, cells := 0, slots := 0, locals := 0 }) (va_Pc [.ref q] (fun U => U.heap.size = sz ∧ at_ (dC, dI) (fun _ => True) [] [] U ∧ E (va_A [] sz) U)) (va_Qi (fun (r_ : Int32) (u : Unit) => r_ = 1) (fun (u : Unit) t => at_ (dC, dI) (va_A [] sz) [] [] t) (va_A [] sz)) 0 0 (va_A [] sz) := by
  refine Met.ofW (cc := b_Sl) (maxL := 1) (ret := (some .boolean)) (by decide) rfl ?_
  intro p e s m args below meth c9 s₁ B hml hv
  obtain ⟨rfl, hsz, ⟨hP, hK, hD0⟩, hE⟩ := hv
  have hx := B.exec
  have hb := B.bytes
  have hr := B.returns
  have hts0 := atoms_spec (ws := .code y_Sl b_Sl 1 (some .boolean) :: V) B.pre
  have hts : ∀ w ∈ V, w.before ([.ref q] : List Value).toArray s = true := fun w h => hts0 w (List.mem_cons_of_mem _ h)
  have hown : s.vm.findClass "java/lang/String" = some m.cls := findClass_of_methodNamed B.named
  subst hsz
  have hD := hD0.self (sz := s.heap.size)
  generalize hAe : va_A [] s.heap.size = A at hD hE ⊢
  have hA : ∀ q : Nat, s.heap.size ≤ q → A q := fun q h => by rw [← hAe]; exact Or.inr h
  have hS : va_S A s.heap s.heap [] := va_S.rf
  have hEw : ∀ (H : Heap) (locs : List Loc), va_S A s.heap H locs → ∀ U : State, U.heap = H → s.WarmedH U.vm → E A U := fun H locs hS U hU hW => X.kept A s U H locs hE hS hU hW
  have hP : va_P (dC, dI) classes [] s.heap := hP
  have hK : va_K (dC, dI) classes [] s := hK
  have hl := lv_entry ([.ref q]) (n := 1) (Nat.le_of_ble_eq_true rfl)
  rw [lg_entry_eq]
  generalize (lg_sl ([.ref q]) ++ List.replicate (1 - (lg_sl ([.ref q])).length) Slot.unset).toArray = ls at hl ⊢
  have hl : lv_has ls 1 [(0, .ref q)] := hl
  refine va_gets hx hb (X.cs A s hE) hS hown (hts _ (hw _ (List.mem_of_getElem? (i := 0) rfl))) (fun x h => h) d_Sl_0 ?_
  refine lv_if_eq (tgt := 17) hx hb d_Sl_3 (by decide) (fun c_1 => absurd c_1 (by decide)) (fun c_1 => ?_)
  refine lv_aload_n hx hb d_Sl_6 rfl (lv_at hl 0 rfl) ?_
  refine vk_getf hx hb (hs.2.1 A s hE) hS hown (hts _ (hw _ (List.mem_of_getElem? (i := 1) rfl))) (fun x h => h) d_Sl_7 ?_
  refine lv_if_ne (tgt := 17) hx hb d_Sl_10 (by decide) (fun c_2 => absurd rfl c_2) (fun c_2 => ?_)
  refine lv_iconst (v := 1) hx hb d_Sl_13 (by decide) ?_
  refine lv_goto (tgt := 18) hx hb d_Sl_14 (by decide) ?_
  exact W.zret (v := 1) hx hb hr rfl (fun t ht hW => ⟨⟨1, (), rfl, rfl, by rw [ht]; exact hP, va_K.moved hW.alike hK, hD⟩, hS.F ht⟩) hS.2.2 d_Sl_18
abbrev b_Sc : ByteArray := prog_26_method_152_code
abbrev y_Sc : MethodName := ⟨"java/lang/String", "coder", "()B"⟩
theorem d_Sc_0 : decode b_Sc 0 = .ok (.getstatic 38, 3) := by decide +kernel
theorem d_Sc_3 : decode b_Sc 3 = .ok (.ifCond .eq 10, 3) := by decide +kernel
theorem d_Sc_6 : decode b_Sc 6 = .ok (.aload_n 0, 1) := by decide +kernel
theorem d_Sc_7 : decode b_Sc 7 = .ok (.getfield 15, 3) := by decide +kernel
theorem d_Sc_10 : decode b_Sc 10 = .ok (.goto 4, 3) := by decide +kernel
theorem d_Sc_14 : decode b_Sc 14 = .ok (.ireturn, 1) := by decide +kernel
set_option maxHeartbeats 4000000 in
set_option maxRecDepth 100000 in
theorem j_Sc (l : Launch) (dC : Nat → ClassId) (dI : Nat → Nat → Nat) {E : (Nat → Prop) → State → Prop} (X : ls_X E) {V : List Cond} (hg : GoodIn V V) (hw : ∀ w ∈ K_S, w ∈ V) {q v N : Nat} {f : Nat → Int32} (hs : ls_S E q v N f) (sz : Nat) : Met l y_Sc (.code y_Sc b_Sc 1 (some .byte) :: V) ({ frames := 0, cells := 0, slots := 0, locals := 0 }) (va_Pc [.ref q] (fun U => U.heap.size = sz ∧ at_ (dC, dI) (fun _ => True) [] [] U ∧ E (va_A [] sz) U)) (va_Qi (fun (r_ : Int32) (u : Unit) => r_ = 0) (fun (u : Unit) t => at_ (dC, dI) (va_A [] sz) [] [] t) (va_A [] sz)) 0 0 (va_A [] sz) := by
  refine Met.ofW (cc := b_Sc) (maxL := 1) (ret := (some .byte)) (by decide) rfl ?_
  intro p e s m args below meth c9 s₁ B hml hv
  obtain ⟨rfl, hsz, ⟨hP, hK, hD0⟩, hE⟩ := hv
  have hx := B.exec
  have hb := B.bytes
  have hr := B.returns
  have hts0 := atoms_spec (ws := .code y_Sc b_Sc 1 (some .byte) :: V) B.pre
  have hts : ∀ w ∈ V, w.before ([.ref q] : List Value).toArray s = true := fun w h => hts0 w (List.mem_cons_of_mem _ h)
  have hown : s.vm.findClass "java/lang/String" = some m.cls := findClass_of_methodNamed B.named
  subst hsz
  have hD := hD0.self (sz := s.heap.size)
  generalize hAe : va_A [] s.heap.size = A at hD hE ⊢
  have hA : ∀ q : Nat, s.heap.size ≤ q → A q := fun q h => by rw [← hAe]; exact Or.inr h
  have hS : va_S A s.heap s.heap [] := va_S.rf
  have hEw : ∀ (H : Heap) (locs : List Loc), va_S A s.heap H locs → ∀ U : State, U.heap = H → s.WarmedH U.vm → E A U := fun H locs hS U hU hW => X.kept A s U H locs hE hS hU hW
  have hP : va_P (dC, dI) classes [] s.heap := hP
  have hK : va_K (dC, dI) classes [] s := hK
  have hl := lv_entry ([.ref q]) (n := 1) (Nat.le_of_ble_eq_true rfl)
  rw [lg_entry_eq]
  generalize (lg_sl ([.ref q]) ++ List.replicate (1 - (lg_sl ([.ref q])).length) Slot.unset).toArray = ls at hl ⊢
  have hl : lv_has ls 1 [(0, .ref q)] := hl
  refine va_gets hx hb (X.cs A s hE) hS hown (hts _ (hw _ (List.mem_of_getElem? (i := 0) rfl))) (fun x h => h) d_Sc_0 ?_
  refine lv_if_eq (tgt := 13) hx hb d_Sc_3 (by decide) (fun c_1 => absurd c_1 (by decide)) (fun c_1 => ?_)
  refine lv_aload_n hx hb d_Sc_6 rfl (lv_at hl 0 rfl) ?_
  refine vk_getf hx hb (hs.2.1 A s hE) hS hown (hts _ (hw _ (List.mem_of_getElem? (i := 1) rfl))) (fun x h => h) d_Sc_7 ?_
  refine lv_goto (tgt := 14) hx hb d_Sc_10 (by decide) ?_
  exact W.zret (v := 0) hx hb hr rfl (fun t ht hW => ⟨⟨0, (), rfl, rfl, by rw [ht]; exact hP, va_K.moved hW.alike hK, hD⟩, hS.F ht⟩) hS.2.2 d_Sc_14
theorem d_St_length_0 : decode b_St_length 0 = .ok (.aload_n 0, 1) := by decide +kernel
theorem d_St_length_1 : decode b_St_length 1 = .ok (.getfield 9, 3) := by decide +kernel
theorem d_St_length_4 : decode b_St_length 4 = .ok (.arraylength, 1) := by decide +kernel
theorem d_St_length_5 : decode b_St_length 5 = .ok (.aload_n 0, 1) := by decide +kernel
theorem d_St_length_6 : decode b_St_length 6 = .ok (.invokevirtual 335, 3) := by decide +kernel
theorem d_St_length_9 : decode b_St_length 9 = .ok (.ishr, 1) := by decide +kernel
theorem d_St_length_10 : decode b_St_length 10 = .ok (.ireturn, 1) := by decide +kernel
set_option maxHeartbeats 4000000 in
set_option maxRecDepth 100000 in
theorem j_St_length (l : Launch) (dC : Nat → ClassId) (dI : Nat → Nat → Nat) {E : (Nat → Prop) → State → Prop} (X : ls_X E) {V : List Cond} (hg : GoodIn V V) (hw : ∀ w ∈ K_S, w ∈ V) {q v N : Nat} {f : Nat → Int32} (hs : ls_S E q v N f) (sz : Nat) : Met l y_St_length (.code y_St_length b_St_length 1 (some .int) :: V) ({ frames := 6, cells := 0, slots := 0, locals := 200 }) (va_Pc [.ref q] (fun U => U.heap.size = sz ∧ at_ (dC, dI) (fun _ => True) [] [] U ∧ E (va_A [] sz) U)) (va_Qi (fun (r_ : Int32) (u : Unit) => r_ = nI N) (fun (u : Unit) t => at_ (dC, dI) (va_A [] sz) [] [] t) (va_A [] sz)) 0 0 (va_A [] sz) := by
  refine Met.ofW (cc := b_St_length) (maxL := 1) (ret := (some .int)) (by decide) rfl ?_
  intro p e s m args below meth c9 s₁ B hml hv
  obtain ⟨rfl, hsz, ⟨hP, hK, hD0⟩, hE⟩ := hv
  have hx := B.exec
  have hb := B.bytes
  have hr := B.returns
  have hts0 := atoms_spec (ws := .code y_St_length b_St_length 1 (some .int) :: V) B.pre
  have hts : ∀ w ∈ V, w.before ([.ref q] : List Value).toArray s = true := fun w h => hts0 w (List.mem_cons_of_mem _ h)
  have hown : s.vm.findClass "java/lang/String" = some m.cls := findClass_of_methodNamed B.named
  subst hsz
  have hD := hD0.self (sz := s.heap.size)
  generalize hAe : va_A [] s.heap.size = A at hD hE ⊢
  have hA : ∀ q : Nat, s.heap.size ≤ q → A q := fun q h => by rw [← hAe]; exact Or.inr h
  have hS : va_S A s.heap s.heap [] := va_S.rf
  have hEw : ∀ (H : Heap) (locs : List Loc), va_S A s.heap H locs → ∀ U : State, U.heap = H → s.WarmedH U.vm → E A U := fun H locs hS U hU hW => X.kept A s U H locs hE hS hU hW
  have hP : va_P (dC, dI) classes [] s.heap := hP
  have hK : va_K (dC, dI) classes [] s := hK
  have hl := lv_entry ([.ref q]) (n := 1) (Nat.le_of_ble_eq_true rfl)
  rw [lg_entry_eq]
  generalize (lg_sl ([.ref q]) ++ List.replicate (1 - (lg_sl ([.ref q])).length) Slot.unset).toArray = ls at hl ⊢
  have hl : lv_has ls 1 [(0, .ref q)] := hl
  refine lv_aload_n hx hb d_St_length_0 rfl (lv_at hl 0 rfl) ?_
  refine vk_getf hx hb (hs.1 A s hE) hS hown (hts _ (hw _ (List.mem_of_getElem? (i := 2) rfl))) (fun x h => h) d_St_length_1 ?_
  refine va_tlen (v := nI N) hx hb (hs.2.2.1 A s hE) hS rfl d_St_length_4 ?_
  refine lv_aload_n hx hb d_St_length_5 rfl (lv_at hl 0 rfl) ?_
  have hFc := lx_free0 hS hA
  refine va_calli (va_runV (As := []) (rest := [.int (nI N)]) ⟨hx, hb, hml, hown, hts⟩ (j_Sc l dC dI X hg hw hs _) (cwV 0 hts (gwV hg (hw _ (List.mem_of_getElem? (i := 3) rfl)) (hw _ (List.mem_of_getElem? (i := 6) rfl)) (hw _ (List.mem_of_getElem? (i := 7) rfl)) (hw _ (List.mem_of_getElem? (i := 4) rfl)) (wcs (hw _ (List.mem_of_getElem? (i := 5) rfl)) (fun _ h => h))) rfl rfl rfl (by decide +kernel) ⟨Nat.le_of_ble_eq_true rfl, Nat.le_of_ble_eq_true rfl⟩) (pv_ofE (X.same _) (fun U z1 z2 => X.mono _ _ U hFc (hEw _ _ hS U z1 z2)) hP hK hD (hs.2.2.2.1 _ (lx_s s _) (hEw _ _ hS (lx_s s _) rfl (State.WarmedH.refl s)))) rfl rfl hl.1 rfl (lv_room (Nat.le_of_ble_eq_true rfl)) d_St_length_6 ⟨Nat.le_refl 0, Nat.le_refl 0⟩) hS (fun q _ h => hFc q h) hFc (fun r_ u t H locs ht hvm hw9 hB hz1 hk1 hS => ?_)
  rw [hw9]
  have hP := lx_stat (A := A) hP hk1
  refine lv_ishr hx hb d_St_length_9 ?_
  rw [j_shr0]
  exact W.iret (v := (nI N)) hx hb hr (fun t ht hW => ⟨⟨(nI N), (), rfl, rfl, by rw [ht]; exact hP, va_K.moved hW.alike hK, hD⟩, hS.F ht⟩) hS.2.2 d_St_length_10
abbrev b_Sn : ByteArray := prog_26_method_54_code
abbrev y_Sn : MethodName := ⟨"java/lang/String", "length", "()I"⟩
theorem d_Sn_0 : decode b_Sn 0 = .ok (.aload_n 0, 1) := by decide +kernel
theorem d_Sn_1 : decode b_Sn 1 = .ok (.getfield 9, 3) := by decide +kernel
theorem d_Sn_4 : decode b_Sn 4 = .ok (.arraylength, 1) := by decide +kernel
theorem d_Sn_5 : decode b_Sn 5 = .ok (.aload_n 0, 1) := by decide +kernel
theorem d_Sn_6 : decode b_Sn 6 = .ok (.invokevirtual 335, 3) := by decide +kernel
theorem d_Sn_9 : decode b_Sn 9 = .ok (.ishr, 1) := by decide +kernel
theorem d_Sn_10 : decode b_Sn 10 = .ok (.ireturn, 1) := by decide +kernel
set_option maxHeartbeats 4000000 in
set_option maxRecDepth 100000 in
theorem j_Sn (l : Launch) (dC : Nat → ClassId) (dI : Nat → Nat → Nat) {E : (Nat → Prop) → State → Prop} (X : ls_X E) {V : List Cond} (hg : GoodIn V V) (hw : ∀ w ∈ K_S, w ∈ V) {q v N : Nat} {f : Nat → Int32} (hs : ls_S E q v N f) (sz : Nat) : Met l y_Sn (.code y_Sn b_Sn 1 (some .int) :: V) ({ frames := 1, cells := 0, slots := 0, locals := 20 }) (va_Pc [.ref q] (fun U => U.heap.size = sz ∧ at_ (dC, dI) (fun _ => True) [] [] U ∧ E (va_A [] sz) U)) (va_Qi (fun (r_ : Int32) (u : Unit) => r_ = nI N) (fun (u : Unit) t => at_ (dC, dI) (va_A [] sz) [] [] t) (va_A [] sz)) 0 0 (va_A [] sz) := by
  refine Met.ofW (cc := b_Sn) (maxL := 1) (ret := (some .int)) (by decide) rfl ?_
  intro p e s m args below meth c9 s₁ B hml hv
  obtain ⟨rfl, hsz, ⟨hP, hK, hD0⟩, hE⟩ := hv
  have hx := B.exec
  have hb := B.bytes
  have hr := B.returns
  have hts0 := atoms_spec (ws := .code y_Sn b_Sn 1 (some .int) :: V) B.pre
  have hts : ∀ w ∈ V, w.before ([.ref q] : List Value).toArray s = true := fun w h => hts0 w (List.mem_cons_of_mem _ h)
  have hown : s.vm.findClass "java/lang/String" = some m.cls := findClass_of_methodNamed B.named
  subst hsz
  have hD := hD0.self (sz := s.heap.size)
  generalize hAe : va_A [] s.heap.size = A at hD hE ⊢
  have hA : ∀ q : Nat, s.heap.size ≤ q → A q := fun q h => by rw [← hAe]; exact Or.inr h
  have hS : va_S A s.heap s.heap [] := va_S.rf
  have hEw : ∀ (H : Heap) (locs : List Loc), va_S A s.heap H locs → ∀ U : State, U.heap = H → s.WarmedH U.vm → E A U := fun H locs hS U hU hW => X.kept A s U H locs hE hS hU hW
  have hP : va_P (dC, dI) classes [] s.heap := hP
  have hK : va_K (dC, dI) classes [] s := hK
  have hl := lv_entry ([.ref q]) (n := 1) (Nat.le_of_ble_eq_true rfl)
  rw [lg_entry_eq]
  generalize (lg_sl ([.ref q]) ++ List.replicate (1 - (lg_sl ([.ref q])).length) Slot.unset).toArray = ls at hl ⊢
  have hl : lv_has ls 1 [(0, .ref q)] := hl
  refine lv_aload_n hx hb d_Sn_0 rfl (lv_at hl 0 rfl) ?_
  refine vk_getf hx hb (hs.1 A s hE) hS hown (hts _ (hw _ (List.mem_of_getElem? (i := 2) rfl))) (fun x h => h) d_Sn_1 ?_
  refine va_tlen (v := nI N) hx hb (hs.2.2.1 A s hE) hS rfl d_Sn_4 ?_
  refine lv_aload_n hx hb d_Sn_5 rfl (lv_at hl 0 rfl) ?_
  have hFc := lx_free0 hS hA
  refine va_calli (va_runV (As := []) (rest := [.int (nI N)]) ⟨hx, hb, hml, hown, hts⟩ (j_Sc l dC dI X hg hw hs _) (cwV 0 hts (gwV hg (hw _ (List.mem_of_getElem? (i := 3) rfl)) (hw _ (List.mem_of_getElem? (i := 6) rfl)) (hw _ (List.mem_of_getElem? (i := 7) rfl)) (hw _ (List.mem_of_getElem? (i := 4) rfl)) (wcs (hw _ (List.mem_of_getElem? (i := 5) rfl)) (fun _ h => h))) rfl rfl rfl (by decide +kernel) ⟨Nat.le_of_ble_eq_true rfl, Nat.le_of_ble_eq_true rfl⟩) (pv_ofE (X.same _) (fun U z1 z2 => X.mono _ _ U hFc (hEw _ _ hS U z1 z2)) hP hK hD (hs.2.2.2.1 _ (lx_s s _) (hEw _ _ hS (lx_s s _) rfl (State.WarmedH.refl s)))) rfl rfl hl.1 rfl (lv_room (Nat.le_of_ble_eq_true rfl)) d_Sn_6 ⟨Nat.le_refl 0, Nat.le_refl 0⟩) hS (fun q _ h => hFc q h) hFc (fun r_ u t H locs ht hvm hw9 hB hz1 hk1 hS => ?_)
  rw [hw9]
  have hP := lx_stat (A := A) hP hk1
  refine lv_ishr hx hb d_Sn_9 ?_
  rw [j_shr0]
  exact W.iret (v := (nI N)) hx hb hr (fun t ht hW => ⟨⟨(nI N), (), rfl, rfl, by rw [ht]; exact hP, va_K.moved hW.alike hK, hD⟩, hS.F ht⟩) hS.2.2 d_Sn_10
abbrev b_PcN : ByteArray := prog_35_method_11_code
abbrev y_PcN : MethodName := ⟨"jdk/internal/util/Preconditions", "checkIndex", "(IILjava/util/function/BiFunction;)I"⟩
theorem d_PcN_0 : decode b_PcN 0 = .ok (.iload_n 0, 1) := by decide +kernel
theorem d_PcN_1 : decode b_PcN 1 = .ok (.ifCond .lt 8, 3) := by decide +kernel
theorem d_PcN_4 : decode b_PcN 4 = .ok (.iload_n 0, 1) := by decide +kernel
theorem d_PcN_5 : decode b_PcN 5 = .ok (.iload_n 1, 1) := by decide +kernel
theorem d_PcN_6 : decode b_PcN 6 = .ok (.if_icmp .lt 10, 3) := by decide +kernel
theorem d_PcN_16 : decode b_PcN 16 = .ok (.iload_n 0, 1) := by decide +kernel
theorem d_PcN_17 : decode b_PcN 17 = .ok (.ireturn, 1) := by decide +kernel
set_option maxHeartbeats 4000000 in
set_option maxRecDepth 100000 in
theorem j_PcN (l : Launch) (dC : Nat → ClassId) (dI : Nat → Nat → Nat) {E : (Nat → Prop) → State → Prop} (X : ls_X E) {V : List Cond} (hg : GoodIn V V) (hw : ∀ w ∈ K_S, w ∈ V) {i n : Int32} (h0 : ¬ i < 0) (h1 : i < n) (sz : Nat) : Met l y_PcN (.code y_PcN b_PcN 3 (some .int) :: V) ({ frames := 0, cells := 0, slots := 0, locals := 0 }) (va_Pc [.int i, .int n, .null] (fun U => U.heap.size = sz ∧ at_ (dC, dI) (fun _ => True) [] [] U ∧ E (va_A [] sz) U)) (va_Qi (fun (r_ : Int32) (u : Unit) => r_ = i) (fun (u : Unit) t => at_ (dC, dI) (va_A [] sz) [] [] t) (va_A [] sz)) 0 0 (va_A [] sz) := by
  refine Met.ofW (cc := b_PcN) (maxL := 3) (ret := (some .int)) (by decide) rfl ?_
  intro p e s m args below meth c9 s₁ B hml hv
  obtain ⟨rfl, hsz, ⟨hP, hK, hD0⟩, hE⟩ := hv
  have hx := B.exec
  have hb := B.bytes
  have hr := B.returns
  have hts0 := atoms_spec (ws := .code y_PcN b_PcN 3 (some .int) :: V) B.pre
  have hts : ∀ w ∈ V, w.before ([.int i, .int n, .null] : List Value).toArray s = true := fun w h => hts0 w (List.mem_cons_of_mem _ h)
  have hown : s.vm.findClass "jdk/internal/util/Preconditions" = some m.cls := findClass_of_methodNamed B.named
  subst hsz
  have hD := hD0.self (sz := s.heap.size)
  generalize hAe : va_A [] s.heap.size = A at hD hE ⊢
  have hA : ∀ q : Nat, s.heap.size ≤ q → A q := fun q h => by rw [← hAe]; exact Or.inr h
  have hS : va_S A s.heap s.heap [] := va_S.rf
  have hEw : ∀ (H : Heap) (locs : List Loc), va_S A s.heap H locs → ∀ U : State, U.heap = H → s.WarmedH U.vm → E A U := fun H locs hS U hU hW => X.kept A s U H locs hE hS hU hW
  have hP : va_P (dC, dI) classes [] s.heap := hP
  have hK : va_K (dC, dI) classes [] s := hK
  have hl := lv_entry ([.int i, .int n, .null]) (n := 3) (Nat.le_of_ble_eq_true rfl)
  rw [lg_entry_eq]
  generalize (lg_sl ([.int i, .int n, .null]) ++ List.replicate (3 - (lg_sl ([.int i, .int n, .null])).length) Slot.unset).toArray = ls at hl ⊢
  have hl : lv_has ls 3 [(0, .int i), (1, .int n), (2, .null)] := hl
  refine lv_iload_n hx hb d_PcN_0 rfl (lv_at hl 0 rfl) ?_
  refine lv_if_lt (tgt := 9) hx hb d_PcN_1 (by decide) (fun c_1 => absurd c_1 h0) (fun c_1 => ?_)
  refine lv_iload_n hx hb d_PcN_4 rfl (lv_at hl 0 rfl) ?_
  refine lv_iload_n hx hb d_PcN_5 rfl (lv_at hl 1 rfl) ?_
  refine lv_icmp_lt (tgt := 16) hx hb d_PcN_6 (by decide) (fun c_2 => ?_) (fun c_2 => absurd h1 c_2)
  refine lv_iload_n hx hb d_PcN_16 rfl (lv_at hl 0 rfl) ?_
  exact W.iret (v := i) hx hb hr (fun t ht hW => ⟨⟨i, (), rfl, rfl, by rw [ht]; exact hP, va_K.moved hW.alike hK, hD⟩, hS.F ht⟩) hS.2.2 d_PcN_17
abbrev b_PcR : ByteArray := prog_35_method_11_code
abbrev y_PcR : MethodName := ⟨"jdk/internal/util/Preconditions", "checkIndex", "(IILjava/util/function/BiFunction;)I"⟩
theorem d_PcR_0 : decode b_PcR 0 = .ok (.iload_n 0, 1) := by decide +kernel
theorem d_PcR_1 : decode b_PcR 1 = .ok (.ifCond .lt 8, 3) := by decide +kernel
theorem d_PcR_4 : decode b_PcR 4 = .ok (.iload_n 0, 1) := by decide +kernel
theorem d_PcR_5 : decode b_PcR 5 = .ok (.iload_n 1, 1) := by decide +kernel
theorem d_PcR_6 : decode b_PcR 6 = .ok (.if_icmp .lt 10, 3) := by decide +kernel
theorem d_PcR_16 : decode b_PcR 16 = .ok (.iload_n 0, 1) := by decide +kernel
theorem d_PcR_17 : decode b_PcR 17 = .ok (.ireturn, 1) := by decide +kernel
set_option maxHeartbeats 4000000 in
set_option maxRecDepth 100000 in
theorem j_PcR (l : Launch) (dC : Nat → ClassId) (dI : Nat → Nat → Nat) {E : (Nat → Prop) → State → Prop} (X : ls_X E) {V : List Cond} (hg : GoodIn V V) (hw : ∀ w ∈ K_S, w ∈ V) {i n : Int32} (h0 : ¬ i < 0) (h1 : i < n) (t0 : Nat) (sz : Nat) : Met l y_PcR (.code y_PcR b_PcR 3 (some .int) :: V) ({ frames := 0, cells := 0, slots := 0, locals := 0 }) (va_Pc [.int i, .int n, .ref t0] (fun U => U.heap.size = sz ∧ at_ (dC, dI) (fun _ => True) [] [] U ∧ E (va_A [] sz) U)) (va_Qi (fun (r_ : Int32) (u : Unit) => r_ = i) (fun (u : Unit) t => at_ (dC, dI) (va_A [] sz) [] [] t) (va_A [] sz)) 0 0 (va_A [] sz) := by
  refine Met.ofW (cc := b_PcR) (maxL := 3) (ret := (some .int)) (by decide) rfl ?_
  intro p e s m args below meth c9 s₁ B hml hv
  obtain ⟨rfl, hsz, ⟨hP, hK, hD0⟩, hE⟩ := hv
  have hx := B.exec
  have hb := B.bytes
  have hr := B.returns
  have hts0 := atoms_spec (ws := .code y_PcR b_PcR 3 (some .int) :: V) B.pre
  have hts : ∀ w ∈ V, w.before ([.int i, .int n, .ref t0] : List Value).toArray s = true := fun w h => hts0 w (List.mem_cons_of_mem _ h)
  have hown : s.vm.findClass "jdk/internal/util/Preconditions" = some m.cls := findClass_of_methodNamed B.named
  subst hsz
  have hD := hD0.self (sz := s.heap.size)
  generalize hAe : va_A [] s.heap.size = A at hD hE ⊢
  have hA : ∀ q : Nat, s.heap.size ≤ q → A q := fun q h => by rw [← hAe]; exact Or.inr h
  have hS : va_S A s.heap s.heap [] := va_S.rf
  have hEw : ∀ (H : Heap) (locs : List Loc), va_S A s.heap H locs → ∀ U : State, U.heap = H → s.WarmedH U.vm → E A U := fun H locs hS U hU hW => X.kept A s U H locs hE hS hU hW
  have hP : va_P (dC, dI) classes [] s.heap := hP
  have hK : va_K (dC, dI) classes [] s := hK
  have hl := lv_entry ([.int i, .int n, .ref t0]) (n := 3) (Nat.le_of_ble_eq_true rfl)
  rw [lg_entry_eq]
  generalize (lg_sl ([.int i, .int n, .ref t0]) ++ List.replicate (3 - (lg_sl ([.int i, .int n, .ref t0])).length) Slot.unset).toArray = ls at hl ⊢
  have hl : lv_has ls 3 [(0, .int i), (1, .int n), (2, .ref t0)] := hl
  refine lv_iload_n hx hb d_PcR_0 rfl (lv_at hl 0 rfl) ?_
  refine lv_if_lt (tgt := 9) hx hb d_PcR_1 (by decide) (fun c_1 => absurd c_1 h0) (fun c_1 => ?_)
  refine lv_iload_n hx hb d_PcR_4 rfl (lv_at hl 0 rfl) ?_
  refine lv_iload_n hx hb d_PcR_5 rfl (lv_at hl 1 rfl) ?_
  refine lv_icmp_lt (tgt := 16) hx hb d_PcR_6 (by decide) (fun c_2 => ?_) (fun c_2 => absurd h1 c_2)
  refine lv_iload_n hx hb d_PcR_16 rfl (lv_at hl 0 rfl) ?_
  exact W.iret (v := i) hx hb hr (fun t ht hW => ⟨⟨i, (), rfl, rfl, by rw [ht]; exact hP, va_K.moved hW.alike hK, hD⟩, hS.F ht⟩) hS.2.2 d_PcR_17
abbrev b_Ck : ByteArray := prog_26_method_155_code
abbrev y_Ck : MethodName := ⟨"java/lang/String", "checkIndex", "(II)V"⟩
theorem d_Ck_0 : decode b_Ck 0 = .ok (.iload_n 0, 1) := by decide +kernel
theorem d_Ck_1 : decode b_Ck 1 = .ok (.iload_n 1, 1) := by decide +kernel
theorem d_Ck_2 : decode b_Ck 2 = .ok (.getstatic 1053, 3) := by decide +kernel
theorem d_Ck_5 : decode b_Ck 5 = .ok (.invokestatic 1059, 3) := by decide +kernel
theorem d_Ck_8 : decode b_Ck 8 = .ok (.pop, 1) := by decide +kernel
theorem d_Ck_9 : decode b_Ck 9 = .ok (.return_, 1) := by decide +kernel
set_option maxHeartbeats 4000000 in
set_option maxRecDepth 100000 in
theorem j_Ck (l : Launch) (dC : Nat → ClassId) (dI : Nat → Nat → Nat) {E : (Nat → Prop) → State → Prop} (X : ls_X E) {V : List Cond} (hg : GoodIn V V) (hw : ∀ w ∈ K_S, w ∈ V) {i n : Int32} (h0 : ¬ i < 0) (h1 : i < n) (sz : Nat) : Met l y_Ck (.code y_Ck b_Ck 2 none :: V) ({ frames := 1, cells := 0, slots := 0, locals := 30 }) (va_Pc [.int i, .int n] (fun U => U.heap.size = sz ∧ at_ (dC, dI) (fun _ => True) [] [] U ∧ E (va_A [] sz) U)) (va_Qv (fun (u : Unit) => True) (fun (u : Unit) t => at_ (dC, dI) (va_A [] sz) [] [] t) (va_A [] sz)) 0 0 (va_A [] sz) := by
  refine Met.ofW (cc := b_Ck) (maxL := 2) (ret := none) (by decide) rfl ?_
  intro p e s m args below meth c9 s₁ B hml hv
  obtain ⟨rfl, hsz, ⟨hP, hK, hD0⟩, hE⟩ := hv
  have hx := B.exec
  have hb := B.bytes
  have hr := B.returns
  have hts0 := atoms_spec (ws := .code y_Ck b_Ck 2 none :: V) B.pre
  have hts : ∀ w ∈ V, w.before ([.int i, .int n] : List Value).toArray s = true := fun w h => hts0 w (List.mem_cons_of_mem _ h)
  have hown : s.vm.findClass "java/lang/String" = some m.cls := findClass_of_methodNamed B.named
  subst hsz
  have hD := hD0.self (sz := s.heap.size)
  generalize hAe : va_A [] s.heap.size = A at hD hE ⊢
  have hA : ∀ q : Nat, s.heap.size ≤ q → A q := fun q h => by rw [← hAe]; exact Or.inr h
  have hS : va_S A s.heap s.heap [] := va_S.rf
  have hEw : ∀ (H : Heap) (locs : List Loc), va_S A s.heap H locs → ∀ U : State, U.heap = H → s.WarmedH U.vm → E A U := fun H locs hS U hU hW => X.kept A s U H locs hE hS hU hW
  have hP : va_P (dC, dI) classes [] s.heap := hP
  have hK : va_K (dC, dI) classes [] s := hK
  have hl := lv_entry ([.int i, .int n]) (n := 2) (Nat.le_of_ble_eq_true rfl)
  rw [lg_entry_eq]
  generalize (lg_sl ([.int i, .int n]) ++ List.replicate (2 - (lg_sl ([.int i, .int n])).length) Slot.unset).toArray = ls at hl ⊢
  have hl : lv_has ls 2 [(0, .int i), (1, .int n)] := hl
  rcases X.fmt A s hE with hz | ⟨t0, hz⟩
  · refine lv_iload_n hx hb d_Ck_0 rfl (lv_at hl 0 rfl) ?_
    refine lv_iload_n hx hb d_Ck_1 rfl (lv_at hl 1 rfl) ?_
    refine va_gets hx hb hz hS hown (hts _ (hw _ (List.mem_of_getElem? (i := 8) rfl))) (fun x h => h) d_Ck_2 ?_
    have hFc := lx_free0 hS hA
    refine va_calli (va_runS (As := [.int i, .int n, .null]) (rest := []) ⟨hx, hb, hml, hown, hts⟩ (j_PcN l dC dI X hg hw h0 h1 _) (va_cwS 3 hts (gwS hg (hw _ (List.mem_of_getElem? (i := 9) rfl)) (hw _ (List.mem_of_getElem? (i := 12) rfl)) (hw _ (List.mem_of_getElem? (i := 10) rfl)) (wcs (hw _ (List.mem_of_getElem? (i := 11) rfl)) (fun _ h => h))) rfl rfl rfl (by decide +kernel) ⟨Nat.le_of_ble_eq_true rfl, Nat.le_of_ble_eq_true rfl⟩) (ps_ofE2 (X.same _) (fun U z1 z2 => X.mono _ _ U hFc (hEw _ _ hS U z1 z2)) hP hK hD) rfl rfl hl.1 rfl (lv_room (Nat.le_of_ble_eq_true rfl)) d_Ck_5 ⟨Nat.le_refl 0, Nat.le_refl 0⟩) hS (fun q _ h => hFc q h) hFc (fun r_ u t H locs ht hvm hw9 hB hz1 hk1 hS => ?_)
    rw [hw9]
    have hP := lx_stat (A := A) hP hk1
    refine lv_pop hx hb d_Ck_8 rfl ?_
    exact W.vret hx hb hr (fun t ht hW => ⟨⟨(), rfl, trivial, by rw [ht]; exact hP, va_K.moved hW.alike hK, hD⟩, hS.F ht⟩) hS.2.2 d_Ck_9
  · refine lv_iload_n hx hb d_Ck_0 rfl (lv_at hl 0 rfl) ?_
    refine lv_iload_n hx hb d_Ck_1 rfl (lv_at hl 1 rfl) ?_
    refine va_gets hx hb hz hS hown (hts _ (hw _ (List.mem_of_getElem? (i := 8) rfl))) (fun x h => h) d_Ck_2 ?_
    have hFc := lx_free0 hS hA
    refine va_calli (va_runS (As := [.int i, .int n, .ref t0]) (rest := []) ⟨hx, hb, hml, hown, hts⟩ (j_PcR l dC dI X hg hw h0 h1 t0 _) (va_cwS 3 hts (gwS hg (hw _ (List.mem_of_getElem? (i := 9) rfl)) (hw _ (List.mem_of_getElem? (i := 12) rfl)) (hw _ (List.mem_of_getElem? (i := 10) rfl)) (wcs (hw _ (List.mem_of_getElem? (i := 11) rfl)) (fun _ h => h))) rfl rfl rfl (by decide +kernel) ⟨Nat.le_of_ble_eq_true rfl, Nat.le_of_ble_eq_true rfl⟩) (ps_ofE2 (X.same _) (fun U z1 z2 => X.mono _ _ U hFc (hEw _ _ hS U z1 z2)) hP hK hD) rfl rfl hl.1 rfl (lv_room (Nat.le_of_ble_eq_true rfl)) d_Ck_5 ⟨Nat.le_refl 0, Nat.le_refl 0⟩) hS (fun q _ h => hFc q h) hFc (fun r_ u t H locs ht hvm hw9 hB hz1 hk1 hS => ?_)
    rw [hw9]
    have hP := lx_stat (A := A) hP hk1
    refine lv_pop hx hb d_Ck_8 rfl ?_
    exact W.vret hx hb hr (fun t ht hW => ⟨⟨(), rfl, trivial, by rw [ht]; exact hP, va_K.moved hW.alike hK, hD⟩, hS.F ht⟩) hS.2.2 d_Ck_9
abbrev b_Lc : ByteArray := prog_28_method_2_code
abbrev y_Lc : MethodName := ⟨"java/lang/StringLatin1", "charAt", "([BI)C"⟩
theorem d_Lc_0 : decode b_Lc 0 = .ok (.iload_n 1, 1) := by decide +kernel
theorem d_Lc_1 : decode b_Lc 1 = .ok (.aload_n 0, 1) := by decide +kernel
theorem d_Lc_2 : decode b_Lc 2 = .ok (.arraylength, 1) := by decide +kernel
theorem d_Lc_3 : decode b_Lc 3 = .ok (.invokestatic 9, 3) := by decide +kernel
theorem d_Lc_6 : decode b_Lc 6 = .ok (.aload_n 0, 1) := by decide +kernel
theorem d_Lc_7 : decode b_Lc 7 = .ok (.iload_n 1, 1) := by decide +kernel
theorem d_Lc_8 : decode b_Lc 8 = .ok (.baload, 1) := by decide +kernel
theorem d_Lc_9 : decode b_Lc 9 = .ok (.sipush 255, 3) := by decide +kernel
theorem d_Lc_12 : decode b_Lc 12 = .ok (.iand, 1) := by decide +kernel
theorem d_Lc_13 : decode b_Lc 13 = .ok (.i2c, 1) := by decide +kernel
theorem d_Lc_14 : decode b_Lc 14 = .ok (.ireturn, 1) := by decide +kernel
set_option maxHeartbeats 4000000 in
set_option maxRecDepth 100000 in
theorem j_Lc (l : Launch) (dC : Nat → ClassId) (dI : Nat → Nat → Nat) {E : (Nat → Prop) → State → Prop} (X : ls_X E) {V : List Cond} (hg : GoodIn V V) (hw : ∀ w ∈ K_S, w ∈ V) {q v N : Nat} {f : Nat → Int32} (hs : ls_S E q v N f) {i : Int32} (hin : vp_in i N) (hN : N < 2 ^ 31) (sz : Nat) : Met l y_Lc (.code y_Lc b_Lc 2 (some .char) :: V) ({ frames := 2, cells := 0, slots := 0, locals := 60 }) (va_Pc [.ref v, .int i] (fun U => U.heap.size = sz ∧ at_ (dC, dI) (fun _ => True) [] [] U ∧ E (va_A [] sz) U)) (va_Qi (fun (r_ : Int32) (u : Unit) => r_ = ((f i.toNatClampNeg &&& 255).toUInt32 % 65536).toInt32) (fun (u : Unit) t => at_ (dC, dI) (va_A [] sz) [] [] t) (va_A [] sz)) 0 0 (va_A [] sz) := by
  refine Met.ofW (cc := b_Lc) (maxL := 2) (ret := (some .char)) (by decide) rfl ?_
  intro p e s m args below meth c9 s₁ B hml hv
  obtain ⟨rfl, hsz, ⟨hP, hK, hD0⟩, hE⟩ := hv
  have hx := B.exec
  have hb := B.bytes
  have hr := B.returns
  have hts0 := atoms_spec (ws := .code y_Lc b_Lc 2 (some .char) :: V) B.pre
  have hts : ∀ w ∈ V, w.before ([.ref v, .int i] : List Value).toArray s = true := fun w h => hts0 w (List.mem_cons_of_mem _ h)
  have hown : s.vm.findClass "java/lang/StringLatin1" = some m.cls := findClass_of_methodNamed B.named
  subst hsz
  have hD := hD0.self (sz := s.heap.size)
  generalize hAe : va_A [] s.heap.size = A at hD hE ⊢
  have hA : ∀ q : Nat, s.heap.size ≤ q → A q := fun q h => by rw [← hAe]; exact Or.inr h
  have hS : va_S A s.heap s.heap [] := va_S.rf
  have hEw : ∀ (H : Heap) (locs : List Loc), va_S A s.heap H locs → ∀ U : State, U.heap = H → s.WarmedH U.vm → E A U := fun H locs hS U hU hW => X.kept A s U H locs hE hS hU hW
  have hP : va_P (dC, dI) classes [] s.heap := hP
  have hK : va_K (dC, dI) classes [] s := hK
  have hl := lv_entry ([.ref v, .int i]) (n := 2) (Nat.le_of_ble_eq_true rfl)
  rw [lg_entry_eq]
  generalize (lg_sl ([.ref v, .int i]) ++ List.replicate (2 - (lg_sl ([.ref v, .int i])).length) Slot.unset).toArray = ls at hl ⊢
  have hl : lv_has ls 2 [(0, .ref v), (1, .int i)] := hl
  have h0 : ¬ i < 0 := fun z => hin (Or.inl z)
  have h1 : i < nI N := j_lt hin hN
  refine lv_iload_n hx hb d_Lc_0 rfl (lv_at hl 1 rfl) ?_
  refine lv_aload_n hx hb d_Lc_1 rfl (lv_at hl 0 rfl) ?_
  refine va_tlen (v := nI N) hx hb (hs.2.2.1 A s hE) hS rfl d_Lc_2 ?_
  have hFc := lx_free0 hS hA
  refine va_callv (va_runS (As := [.int i, .int (nI N)]) (rest := []) ⟨hx, hb, hml, hown, hts⟩ (j_Ck l dC dI X hg hw h0 h1 _) (va_cwS 2 hts (gwS hg (hw _ (List.mem_of_getElem? (i := 13) rfl)) (hw _ (List.mem_of_getElem? (i := 15) rfl)) (hw _ (List.mem_of_getElem? (i := 4) rfl)) (wcs (hw _ (List.mem_of_getElem? (i := 14) rfl)) (fun _ h => h))) rfl rfl rfl (by decide +kernel) ⟨Nat.le_of_ble_eq_true rfl, Nat.le_of_ble_eq_true rfl⟩) (ps_ofE2 (X.same _) (fun U z1 z2 => X.mono _ _ U hFc (hEw _ _ hS U z1 z2)) hP hK hD) rfl rfl hl.1 rfl (lv_room (Nat.le_of_ble_eq_true rfl)) d_Lc_3 ⟨Nat.le_refl 0, Nat.le_refl 0⟩) hS (fun q _ h => hFc q h) hFc (fun u t H locs ht hvm hw9 hB hz1 hk1 hS => ?_)
  have hP := lx_stat (A := A) hP hk1
  refine lv_aload_n hx hb d_Lc_6 rfl (lv_at hl 0 rfl) ?_
  refine lv_iload_n hx hb d_Lc_7 rfl (lv_at hl 1 rfl) ?_
  refine va_tb hx hb (hs.2.2.1 A s hE) hS hin rfl d_Lc_8 ?_
  refine lv_sipush (v := 255) hx hb d_Lc_9 (by decide) ?_
  refine lv_iand hx hb d_Lc_12 ?_
  refine lv_i2c hx hb d_Lc_13 rfl ?_
  exact W.zret (v := ((f i.toNatClampNeg &&& 255).toUInt32 % 65536).toInt32) hx hb hr (pk_nc _) (fun t ht hW => ⟨⟨((f i.toNatClampNeg &&& 255).toUInt32 % 65536).toInt32, (), rfl, rfl, by rw [ht]; exact hP, va_K.moved hW.alike hK, hD⟩, hS.F ht⟩) hS.2.2 d_Lc_14
theorem d_St_charAt_0 : decode b_St_charAt 0 = .ok (.aload_n 0, 1) := by decide +kernel
theorem d_St_charAt_1 : decode b_St_charAt 1 = .ok (.invokevirtual 492, 3) := by decide +kernel
theorem d_St_charAt_4 : decode b_St_charAt 4 = .ok (.ifCond .eq 12, 3) := by decide +kernel
theorem d_St_charAt_7 : decode b_St_charAt 7 = .ok (.aload_n 0, 1) := by decide +kernel
theorem d_St_charAt_8 : decode b_St_charAt 8 = .ok (.getfield 9, 3) := by decide +kernel
theorem d_St_charAt_11 : decode b_St_charAt 11 = .ok (.iload_n 1, 1) := by decide +kernel
theorem d_St_charAt_12 : decode b_St_charAt 12 = .ok (.invokestatic 495, 3) := by decide +kernel
theorem d_St_charAt_15 : decode b_St_charAt 15 = .ok (.ireturn, 1) := by decide +kernel
set_option maxHeartbeats 4000000 in
set_option maxRecDepth 100000 in
theorem j_St_charAt (l : Launch) (dC : Nat → ClassId) (dI : Nat → Nat → Nat) {E : (Nat → Prop) → State → Prop} (X : ls_X E) {V : List Cond} (hg : GoodIn V V) (hw : ∀ w ∈ K_S, w ∈ V) {q v N : Nat} {f : Nat → Int32} (hs : ls_S E q v N f) {i : Int32} (hin : vp_in i N) (hN : N < 2 ^ 31) (sz : Nat) : Met l y_St_charAt (.code y_St_charAt b_St_charAt 2 (some .char) :: V) ({ frames := 6, cells := 0, slots := 0, locals := 200 }) (va_Pc [.ref q, .int i] (fun U => U.heap.size = sz ∧ at_ (dC, dI) (fun _ => True) [] [] U ∧ E (va_A [] sz) U)) (va_Qi (fun (r_ : Int32) (u : Unit) => r_ = ((f i.toNatClampNeg &&& 255).toUInt32 % 65536).toInt32) (fun (u : Unit) t => at_ (dC, dI) (va_A [] sz) [] [] t) (va_A [] sz)) 0 0 (va_A [] sz) := by
  refine Met.ofW (cc := b_St_charAt) (maxL := 2) (ret := (some .char)) (by decide) rfl ?_
  intro p e s m args below meth c9 s₁ B hml hv
  obtain ⟨rfl, hsz, ⟨hP, hK, hD0⟩, hE⟩ := hv
  have hx := B.exec
  have hb := B.bytes
  have hr := B.returns
  have hts0 := atoms_spec (ws := .code y_St_charAt b_St_charAt 2 (some .char) :: V) B.pre
  have hts : ∀ w ∈ V, w.before ([.ref q, .int i] : List Value).toArray s = true := fun w h => hts0 w (List.mem_cons_of_mem _ h)
  have hown : s.vm.findClass "java/lang/String" = some m.cls := findClass_of_methodNamed B.named
  subst hsz
  have hD := hD0.self (sz := s.heap.size)
  generalize hAe : va_A [] s.heap.size = A at hD hE ⊢
  have hA : ∀ q : Nat, s.heap.size ≤ q → A q := fun q h => by rw [← hAe]; exact Or.inr h
  have hS : va_S A s.heap s.heap [] := va_S.rf
  have hEw : ∀ (H : Heap) (locs : List Loc), va_S A s.heap H locs → ∀ U : State, U.heap = H → s.WarmedH U.vm → E A U := fun H locs hS U hU hW => X.kept A s U H locs hE hS hU hW
  have hP : va_P (dC, dI) classes [] s.heap := hP
  have hK : va_K (dC, dI) classes [] s := hK
  have hl := lv_entry ([.ref q, .int i]) (n := 2) (Nat.le_of_ble_eq_true rfl)
  rw [lg_entry_eq]
  generalize (lg_sl ([.ref q, .int i]) ++ List.replicate (2 - (lg_sl ([.ref q, .int i])).length) Slot.unset).toArray = ls at hl ⊢
  have hl : lv_has ls 2 [(0, .ref q), (1, .int i)] := hl
  refine lv_aload_n hx hb d_St_charAt_0 rfl (lv_at hl 0 rfl) ?_
  have hFc := lx_free0 hS hA
  refine va_calli (va_runV (As := []) (rest := []) ⟨hx, hb, hml, hown, hts⟩ (j_Sl l dC dI X hg hw hs _) (cwV 0 hts (gwV hg (hw _ (List.mem_of_getElem? (i := 16) rfl)) (hw _ (List.mem_of_getElem? (i := 18) rfl)) (hw _ (List.mem_of_getElem? (i := 19) rfl)) (hw _ (List.mem_of_getElem? (i := 4) rfl)) (wcs (hw _ (List.mem_of_getElem? (i := 17) rfl)) (fun _ h => h))) rfl rfl rfl (by decide +kernel) ⟨Nat.le_of_ble_eq_true rfl, Nat.le_of_ble_eq_true rfl⟩) (pv_ofE (X.same _) (fun U z1 z2 => X.mono _ _ U hFc (hEw _ _ hS U z1 z2)) hP hK hD (hs.2.2.2.1 _ (lx_s s _) (hEw _ _ hS (lx_s s _) rfl (State.WarmedH.refl s)))) rfl rfl hl.1 rfl (lv_room (Nat.le_of_ble_eq_true rfl)) d_St_charAt_1 ⟨Nat.le_refl 0, Nat.le_refl 0⟩) hS (fun q _ h => hFc q h) hFc (fun r_ u t H locs ht hvm hw9 hB hz1 hk1 hS => ?_)
  rw [hw9]
  have hP := lx_stat (A := A) hP hk1
  refine lv_if_eq (tgt := 16) hx hb d_St_charAt_4 (by decide) (fun c_1 => absurd c_1 (by decide)) (fun c_1 => ?_)
  refine lv_aload_n hx hb d_St_charAt_7 rfl (lv_at hl 0 rfl) ?_
  refine vk_getf hx hb (hs.1 A s hE) hS hown (hts _ (hw _ (List.mem_of_getElem? (i := 2) rfl))) (fun x h => h) d_St_charAt_8 ?_
  refine lv_iload_n hx hb d_St_charAt_11 rfl (lv_at hl 1 rfl) ?_
  have hFc := lx_free0 hS hA
  refine va_calli (va_runS (As := [.ref v, .int i]) (rest := []) ⟨hx, hb, hml, hown, hts⟩ (j_Lc l dC dI X hg hw hs hin hN _) (va_cwS 2 hts (gwS hg (hw _ (List.mem_of_getElem? (i := 20) rfl)) (hw _ (List.mem_of_getElem? (i := 23) rfl)) (hw _ (List.mem_of_getElem? (i := 21) rfl)) (wcs (hw _ (List.mem_of_getElem? (i := 22) rfl)) (fun _ h => h))) rfl rfl rfl (by decide +kernel) ⟨Nat.le_of_ble_eq_true rfl, Nat.le_of_ble_eq_true rfl⟩) (ps_ofE2 (X.same _) (fun U z1 z2 => X.mono _ _ U hFc (hEw _ _ hS U z1 z2)) hP hK hD) rfl rfl hl.1 rfl (lv_room (Nat.le_of_ble_eq_true rfl)) d_St_charAt_12 ⟨Nat.le_refl 0, Nat.le_refl 0⟩) hS (fun q _ h => hFc q h) hFc (fun r_ u t H locs ht hvm hw9 hB hz1 hk1 hS => ?_)
  rw [hw9]
  have hP := lx_stat (A := A) hP hk1
  exact W.zret (v := ((f i.toNatClampNeg &&& 255).toUInt32 % 65536).toInt32) hx hb hr (pk_nc _) (fun t ht hW => ⟨⟨((f i.toNatClampNeg &&& 255).toUInt32 % 65536).toInt32, (), rfl, rfl, by rw [ht]; exact hP, va_K.moved hW.alike hK, hD⟩, hS.F ht⟩) hS.2.2 d_St_charAt_15
abbrev b_Ce : ByteArray := prog_28_method_4_code
abbrev y_Ce : MethodName := ⟨"java/lang/StringLatin1", "canEncode", "(I)Z"⟩
theorem d_Ce_0 : decode b_Ce 0 = .ok (.iload_n 0, 1) := by decide +kernel
theorem d_Ce_1 : decode b_Ce 1 = .ok (.ifCond .lt 14, 3) := by decide +kernel
theorem d_Ce_4 : decode b_Ce 4 = .ok (.iload_n 0, 1) := by decide +kernel
theorem d_Ce_5 : decode b_Ce 5 = .ok (.sipush 255, 3) := by decide +kernel
theorem d_Ce_8 : decode b_Ce 8 = .ok (.if_icmp .gt 7, 3) := by decide +kernel
theorem d_Ce_11 : decode b_Ce 11 = .ok (.iconst 1, 1) := by decide +kernel
theorem d_Ce_12 : decode b_Ce 12 = .ok (.goto 4, 3) := by decide +kernel
theorem d_Ce_15 : decode b_Ce 15 = .ok (.iconst 0, 1) := by decide +kernel
theorem d_Ce_16 : decode b_Ce 16 = .ok (.ireturn, 1) := by decide +kernel
set_option maxHeartbeats 4000000 in
set_option maxRecDepth 100000 in
theorem j_Ce (l : Launch) (dC : Nat → ClassId) (dI : Nat → Nat → Nat) {E : (Nat → Prop) → State → Prop} (X : ls_X E) {V : List Cond} (hg : GoodIn V V) (hw : ∀ w ∈ K_S, w ∈ V) {c : Int32} (sz : Nat) : Met l y_Ce (.code y_Ce b_Ce 1 (some .boolean) :: V) ({ frames := 0, cells := 0, slots := 0, locals := 0 }) (va_Pc [.int c] (fun U => U.heap.size = sz ∧ at_ (dC, dI) (fun _ => True) [] [] U ∧ E (va_A [] sz) U)) (va_Qi (fun (r_ : Int32) (u : Unit) => r_ = (if c < 0 then 0 else if 255 < c then 0 else 1)) (fun (u : Unit) t => at_ (dC, dI) (va_A [] sz) [] [] t) (va_A [] sz)) 0 0 (va_A [] sz) := by
  refine Met.ofW (cc := b_Ce) (maxL := 1) (ret := (some .boolean)) (by decide) rfl ?_
  intro p e s m args below meth c9 s₁ B hml hv
  obtain ⟨rfl, hsz, ⟨hP, hK, hD0⟩, hE⟩ := hv
  have hx := B.exec
  have hb := B.bytes
  have hr := B.returns
  have hts0 := atoms_spec (ws := .code y_Ce b_Ce 1 (some .boolean) :: V) B.pre
  have hts : ∀ w ∈ V, w.before ([.int c] : List Value).toArray s = true := fun w h => hts0 w (List.mem_cons_of_mem _ h)
  have hown : s.vm.findClass "java/lang/StringLatin1" = some m.cls := findClass_of_methodNamed B.named
  subst hsz
  have hD := hD0.self (sz := s.heap.size)
  generalize hAe : va_A [] s.heap.size = A at hD hE ⊢
  have hA : ∀ q : Nat, s.heap.size ≤ q → A q := fun q h => by rw [← hAe]; exact Or.inr h
  have hS : va_S A s.heap s.heap [] := va_S.rf
  have hEw : ∀ (H : Heap) (locs : List Loc), va_S A s.heap H locs → ∀ U : State, U.heap = H → s.WarmedH U.vm → E A U := fun H locs hS U hU hW => X.kept A s U H locs hE hS hU hW
  have hP : va_P (dC, dI) classes [] s.heap := hP
  have hK : va_K (dC, dI) classes [] s := hK
  have hl := lv_entry ([.int c]) (n := 1) (Nat.le_of_ble_eq_true rfl)
  rw [lg_entry_eq]
  generalize (lg_sl ([.int c]) ++ List.replicate (1 - (lg_sl ([.int c])).length) Slot.unset).toArray = ls at hl ⊢
  have hl : lv_has ls 1 [(0, .int c)] := hl
  refine lv_iload_n hx hb d_Ce_0 rfl (lv_at hl 0 rfl) ?_
  refine lv_if_lt (tgt := 15) hx hb d_Ce_1 (by decide) (fun c_1 => ?_) (fun c_1 => ?_)
  · refine lv_iconst (v := 0) hx hb d_Ce_15 (by decide) ?_
    exact W.zret (v := 0) hx hb hr rfl (fun t ht hW => ⟨⟨0, (), rfl, by rw [if_pos c_1], by rw [ht]; exact hP, va_K.moved hW.alike hK, hD⟩, hS.F ht⟩) hS.2.2 d_Ce_16
  · refine lv_iload_n hx hb d_Ce_4 rfl (lv_at hl 0 rfl) ?_
    refine lv_sipush (v := 255) hx hb d_Ce_5 (by decide) ?_
    refine lv_icmp_gt (tgt := 15) hx hb d_Ce_8 (by decide) (fun c_2 => ?_) (fun c_2 => ?_)
    · refine lv_iconst (v := 0) hx hb d_Ce_15 (by decide) ?_
      exact W.zret (v := 0) hx hb hr rfl (fun t ht hW => ⟨⟨0, (), rfl, by rw [if_neg c_1, if_pos c_2], by rw [ht]; exact hP, va_K.moved hW.alike hK, hD⟩, hS.F ht⟩) hS.2.2 d_Ce_16
    · refine lv_iconst (v := 1) hx hb d_Ce_11 (by decide) ?_
      refine lv_goto (tgt := 16) hx hb d_Ce_12 (by decide) ?_
      exact W.zret (v := 1) hx hb hr rfl (fun t ht hW => ⟨⟨1, (), rfl, by rw [if_neg c_1, if_neg c_2], by rw [ht]; exact hP, va_K.moved hW.alike hK, hD⟩, hS.F ht⟩) hS.2.2 d_Ce_16
abbrev b_Ix : ByteArray := prog_28_method_23_code
abbrev y_Ix : MethodName := ⟨"java/lang/StringLatin1", "indexOfChar", "([BIII)I"⟩
theorem d_Ix_0 : decode b_Ix 0 = .ok (.iload_n 1, 1) := by decide +kernel
theorem d_Ix_1 : decode b_Ix 1 = .ok (.i2b, 1) := by decide +kernel
theorem d_Ix_2 : decode b_Ix 2 = .ok (.istore 4, 2) := by decide +kernel
theorem d_Ix_4 : decode b_Ix 4 = .ok (.iload_n 2, 1) := by decide +kernel
theorem d_Ix_5 : decode b_Ix 5 = .ok (.istore 5, 2) := by decide +kernel
theorem d_Ix_7 : decode b_Ix 7 = .ok (.iload 5, 2) := by decide +kernel
theorem d_Ix_9 : decode b_Ix 9 = .ok (.iload_n 3, 1) := by decide +kernel
theorem d_Ix_10 : decode b_Ix 10 = .ok (.if_icmp .ge 21, 3) := by decide +kernel
theorem d_Ix_13 : decode b_Ix 13 = .ok (.aload_n 0, 1) := by decide +kernel
theorem d_Ix_14 : decode b_Ix 14 = .ok (.iload 5, 2) := by decide +kernel
theorem d_Ix_16 : decode b_Ix 16 = .ok (.baload, 1) := by decide +kernel
theorem d_Ix_17 : decode b_Ix 17 = .ok (.iload 4, 2) := by decide +kernel
theorem d_Ix_19 : decode b_Ix 19 = .ok (.if_icmp .ne 6, 3) := by decide +kernel
theorem d_Ix_22 : decode b_Ix 22 = .ok (.iload 5, 2) := by decide +kernel
theorem d_Ix_24 : decode b_Ix 24 = .ok (.ireturn, 1) := by decide +kernel
theorem d_Ix_25 : decode b_Ix 25 = .ok (.iinc 5 1, 3) := by decide +kernel
theorem d_Ix_28 : decode b_Ix 28 = .ok (.goto (-21), 3) := by decide +kernel
theorem d_Ix_31 : decode b_Ix 31 = .ok (.iconst (-1), 1) := by decide +kernel
theorem d_Ix_32 : decode b_Ix 32 = .ok (.ireturn, 1) := by decide +kernel
set_option maxHeartbeats 4000000 in
set_option maxRecDepth 100000 in
theorem j_Ix (l : Launch) (dC : Nat → ClassId) (dI : Nat → Nat → Nat) {E : (Nat → Prop) → State → Prop} (X : ls_X E) {V : List Cond} (hg : GoodIn V V) (hw : ∀ w ∈ K_S, w ∈ V) {q v N : Nat} {f : Nat → Int32} (hs : ls_S E q v N f) {c : Int32} (hN : N < 2 ^ 31) (sz : Nat) : Met l y_Ix (.code y_Ix b_Ix 6 (some .int) :: V) ({ frames := 0, cells := 0, slots := 0, locals := 0 }) (va_Pc [.ref v, .int c, .int 0, .int (nI N)] (fun U => U.heap.size = sz ∧ at_ (dC, dI) (fun _ => True) [] [] U ∧ E (va_A [] sz) U)) (va_Qi (fun (r_ : Int32) (u : Unit) => r_ = j_ix f c.toInt8.toInt32 N 0) (fun (u : Unit) t => at_ (dC, dI) (va_A [] sz) [] [] t) (va_A [] sz)) 0 0 (va_A [] sz) := by
  refine Met.ofW (cc := b_Ix) (maxL := 6) (ret := (some .int)) (by decide) rfl ?_
  intro p e s m args below meth c9 s₁ B hml hv
  obtain ⟨rfl, hsz, ⟨hP, hK, hD0⟩, hE⟩ := hv
  have hx := B.exec
  have hb := B.bytes
  have hr := B.returns
  have hts0 := atoms_spec (ws := .code y_Ix b_Ix 6 (some .int) :: V) B.pre
  have hts : ∀ w ∈ V, w.before ([.ref v, .int c, .int 0, .int (nI N)] : List Value).toArray s = true := fun w h => hts0 w (List.mem_cons_of_mem _ h)
  have hown : s.vm.findClass "java/lang/StringLatin1" = some m.cls := findClass_of_methodNamed B.named
  subst hsz
  have hD := hD0.self (sz := s.heap.size)
  generalize hAe : va_A [] s.heap.size = A at hD hE ⊢
  have hA : ∀ q : Nat, s.heap.size ≤ q → A q := fun q h => by rw [← hAe]; exact Or.inr h
  have hS : va_S A s.heap s.heap [] := va_S.rf
  have hEw : ∀ (H : Heap) (locs : List Loc), va_S A s.heap H locs → ∀ U : State, U.heap = H → s.WarmedH U.vm → E A U := fun H locs hS U hU hW => X.kept A s U H locs hE hS hU hW
  have hP : va_P (dC, dI) classes [] s.heap := hP
  have hK : va_K (dC, dI) classes [] s := hK
  have hl := lv_entry ([.ref v, .int c, .int 0, .int (nI N)]) (n := 6) (Nat.le_of_ble_eq_true rfl)
  rw [lg_entry_eq]
  generalize (lg_sl ([.ref v, .int c, .int 0, .int (nI N)]) ++ List.replicate (6 - (lg_sl ([.ref v, .int c, .int 0, .int (nI N)])).length) Slot.unset).toArray = ls at hl ⊢
  have hl : lv_has ls 6 [(0, .ref v), (1, .int c), (2, .int 0), (3, .int (nI N))] := hl
  refine qabs (fun Q hQ => ?_)
  have hL : ∀ (g j : Nat) (ls : Array Slot), N - j < g → j ≤ N → j_ix f c.toInt8.toInt32 (N - j) j = j_ix f c.toInt8.toInt32 N 0 → lv_has ls 6 [(5, .int (nI j)), (4, .int c.toInt8.toInt32), (0, .ref v), (3, .int (nI N))] → W p l e ({ frames := 0, cells := 0, slots := 0, locals := 0 }) s m ([.ref v, .int c, .int 0, .int (nI N)] : List Value).toArray below meth c9 s.heap [] 0 0 Q (F0 m 7 ls []) := by
    intro g
    induction g with
    | zero => intro j ls h; exact absurd h (Nat.not_lt_zero _)
    | succ g ih =>
      intro j ls hg9 hj he hl
      refine lv_iload hx hb d_Ix_7 (lv_at hl 0 rfl) ?_
      refine lv_iload_n hx hb d_Ix_9 rfl (lv_at hl 3 rfl) ?_
      refine lv_icmp_ge (tgt := 31) hx hb d_Ix_10 (by decide) (fun c_1 => ?_) (fun c_1 => ?_)
      · have hjN : j = N := Nat.le_antisymm hj ((nI_leI hN (by omega)).mp c_1)
        refine lv_iconst (v := (-1)) hx hb d_Ix_31 (by decide) ?_
        rw [hQ]
        exact W.iret (v := (-1)) hx hb hr (fun t ht hW => ⟨⟨(-1), (), rfl, by rw [← he, hjN, Nat.sub_self]; rfl, by rw [ht]; exact hP, va_K.moved hW.alike hK, hD⟩, hS.F ht⟩) hS.2.2 d_Ix_32
      · have hlt : j < N := Nat.lt_of_not_le (fun z => c_1 ((nI_leI hN (by omega)).mpr z))
        have hjc : (nI j).toNatClampNeg = j := nI_clamp (by omega)
        refine lv_aload_n hx hb d_Ix_13 rfl (lv_at hl 2 rfl) ?_
        refine lv_iload hx hb d_Ix_14 (lv_at hl 0 rfl) ?_
        refine va_tb hx hb (hs.2.2.1 A s hE) hS (vp_in_nI hlt hN) rfl d_Ix_16 ?_
        refine lv_iload hx hb d_Ix_17 (lv_at hl 1 rfl) ?_
        refine lv_icmp_ne (tgt := 25) hx hb d_Ix_19 (by decide) (fun c_2 => ?_) (fun c_2 => ?_)
        · refine lv_iinc (v := nI (j + 1)) (lv' := [(5, .int (nI (j + 1))), (4, .int c.toInt8.toInt32), (0, .ref v), (3, .int (nI N))]) hx hb d_Ix_25 hl (k := 0) rfl (by exact nI_1 j) (by decide) rfl (fun ls hl => ?_)
          refine lv_goto (tgt := 7) hx hb d_Ix_28 (by decide) ?_
          exact ih (j + 1) _ (by omega) hlt (by rw [hjc] at c_2; rw [← he, show N - j = (N - (j + 1)) + 1 by omega, j_ix, if_neg c_2]) hl
        · refine lv_iload hx hb d_Ix_22 (lv_at hl 0 rfl) ?_
          rw [hQ]
          exact W.iret (v := nI j) hx hb hr (fun t ht hW => ⟨⟨nI j, (), rfl, by rw [hjc] at c_2; rw [← he, show N - j = (N - (j + 1)) + 1 by omega, j_ix, if_pos c_2], by rw [ht]; exact hP, va_K.moved hW.alike hK, hD⟩, hS.F ht⟩) hS.2.2 d_Ix_24
  refine lv_iload_n hx hb d_Ix_0 rfl (lv_at hl 1 rfl) ?_
  refine lv_i2b hx hb d_Ix_1 rfl ?_
  refine lv_istore (lv' := [(4, .int c.toInt8.toInt32), (0, .ref v), (1, .int c), (2, .int 0), (3, .int (nI N))]) hx hb d_Ix_2 hl (by decide) rfl (fun ls hl => ?_)
  refine lv_iload_n hx hb d_Ix_4 rfl (lv_at hl 3 rfl) ?_
  refine lv_istore (lv' := [(5, .int 0), (4, .int c.toInt8.toInt32), (0, .ref v), (1, .int c), (2, .int 0), (3, .int (nI N))]) hx hb d_Ix_5 hl (by decide) rfl (fun ls hl => ?_)
  exact hL (N + 1) 0 _ (by omega) (Nat.zero_le _) rfl (lv_sub hl [0, 1, 2, 5] rfl)
abbrev b_Li : ByteArray := prog_28_method_22_code
abbrev y_Li : MethodName := ⟨"java/lang/StringLatin1", "indexOf", "([BIII)I"⟩
theorem d_Li_0 : decode b_Li 0 = .ok (.iload_n 1, 1) := by decide +kernel
theorem d_Li_1 : decode b_Li 1 = .ok (.invokestatic 88, 3) := by decide +kernel
theorem d_Li_4 : decode b_Li 4 = .ok (.ifCond .ne 5, 3) := by decide +kernel
theorem d_Li_7 : decode b_Li 7 = .ok (.iconst (-1), 1) := by decide +kernel
theorem d_Li_8 : decode b_Li 8 = .ok (.ireturn, 1) := by decide +kernel
theorem d_Li_9 : decode b_Li 9 = .ok (.iload_n 2, 1) := by decide +kernel
theorem d_Li_10 : decode b_Li 10 = .ok (.iconst 0, 1) := by decide +kernel
theorem d_Li_11 : decode b_Li 11 = .ok (.invokestatic 92, 3) := by decide +kernel
theorem d_Li_14 : decode b_Li 14 = .ok (.istore_n 2, 1) := by decide +kernel
theorem d_Li_15 : decode b_Li 15 = .ok (.iload_n 3, 1) := by decide +kernel
theorem d_Li_16 : decode b_Li 16 = .ok (.aload_n 0, 1) := by decide +kernel
theorem d_Li_17 : decode b_Li 17 = .ok (.arraylength, 1) := by decide +kernel
theorem d_Li_18 : decode b_Li 18 = .ok (.invokestatic 38, 3) := by decide +kernel
theorem d_Li_21 : decode b_Li 21 = .ok (.istore_n 3, 1) := by decide +kernel
theorem d_Li_22 : decode b_Li 22 = .ok (.iload_n 2, 1) := by decide +kernel
theorem d_Li_23 : decode b_Li 23 = .ok (.iload_n 3, 1) := by decide +kernel
theorem d_Li_24 : decode b_Li 24 = .ok (.if_icmp .lt 5, 3) := by decide +kernel
theorem d_Li_29 : decode b_Li 29 = .ok (.aload_n 0, 1) := by decide +kernel
theorem d_Li_30 : decode b_Li 30 = .ok (.iload_n 1, 1) := by decide +kernel
theorem d_Li_31 : decode b_Li 31 = .ok (.iload_n 2, 1) := by decide +kernel
theorem d_Li_32 : decode b_Li 32 = .ok (.iload_n 3, 1) := by decide +kernel
theorem d_Li_33 : decode b_Li 33 = .ok (.invokestatic 95, 3) := by decide +kernel
theorem d_Li_36 : decode b_Li 36 = .ok (.ireturn, 1) := by decide +kernel
set_option maxHeartbeats 4000000 in
set_option maxRecDepth 100000 in
theorem j_Li (l : Launch) (dC : Nat → ClassId) (dI : Nat → Nat → Nat) {E : (Nat → Prop) → State → Prop} (X : ls_X E) {V : List Cond} (hg : GoodIn V V) (hw : ∀ w ∈ K_S, w ∈ V) {q v N : Nat} {f : Nat → Int32} (hs : ls_S E q v N f) {c : Int32} (hN : N < 2 ^ 31) (hN0 : 0 < N) (sz : Nat) : Met l y_Li (.code y_Li b_Li 4 (some .int) :: V) ({ frames := 2, cells := 0, slots := 0, locals := 60 }) (va_Pc [.ref v, .int c, .int 0, .int (nI N)] (fun U => U.heap.size = sz ∧ at_ (dC, dI) (fun _ => True) [] [] U ∧ E (va_A [] sz) U)) (va_Qi (fun (r_ : Int32) (u : Unit) => r_ = (if c < 0 then -1 else if 255 < c then -1 else j_ix f c.toInt8.toInt32 N 0)) (fun (u : Unit) t => at_ (dC, dI) (va_A [] sz) [] [] t) (va_A [] sz)) 0 0 (va_A [] sz) := by
  refine Met.ofW (cc := b_Li) (maxL := 4) (ret := (some .int)) (by decide) rfl ?_
  intro p e s m args below meth c9 s₁ B hml hv
  obtain ⟨rfl, hsz, ⟨hP, hK, hD0⟩, hE⟩ := hv
  have hx := B.exec
  have hb := B.bytes
  have hr := B.returns
  have hts0 := atoms_spec (ws := .code y_Li b_Li 4 (some .int) :: V) B.pre
  have hts : ∀ w ∈ V, w.before ([.ref v, .int c, .int 0, .int (nI N)] : List Value).toArray s = true := fun w h => hts0 w (List.mem_cons_of_mem _ h)
  have hown : s.vm.findClass "java/lang/StringLatin1" = some m.cls := findClass_of_methodNamed B.named
  subst hsz
  have hD := hD0.self (sz := s.heap.size)
  generalize hAe : va_A [] s.heap.size = A at hD hE ⊢
  have hA : ∀ q : Nat, s.heap.size ≤ q → A q := fun q h => by rw [← hAe]; exact Or.inr h
  have hS : va_S A s.heap s.heap [] := va_S.rf
  have hEw : ∀ (H : Heap) (locs : List Loc), va_S A s.heap H locs → ∀ U : State, U.heap = H → s.WarmedH U.vm → E A U := fun H locs hS U hU hW => X.kept A s U H locs hE hS hU hW
  have hP : va_P (dC, dI) classes [] s.heap := hP
  have hK : va_K (dC, dI) classes [] s := hK
  have hl := lv_entry ([.ref v, .int c, .int 0, .int (nI N)]) (n := 4) (Nat.le_of_ble_eq_true rfl)
  rw [lg_entry_eq]
  generalize (lg_sl ([.ref v, .int c, .int 0, .int (nI N)]) ++ List.replicate (4 - (lg_sl ([.ref v, .int c, .int 0, .int (nI N)])).length) Slot.unset).toArray = ls at hl ⊢
  have hl : lv_has ls 4 [(0, .ref v), (1, .int c), (2, .int 0), (3, .int (nI N))] := hl
  refine lv_iload_n hx hb d_Li_0 rfl (lv_at hl 1 rfl) ?_
  have hFc := lx_free0 hS hA
  refine va_calli (va_runS (As := [.int c]) (rest := []) ⟨hx, hb, hml, hown, hts⟩ (j_Ce l dC dI X hg hw  _) (va_cwS 1 hts (gwS hg (hw _ (List.mem_of_getElem? (i := 24) rfl)) (hw _ (List.mem_of_getElem? (i := 26) rfl)) (hw _ (List.mem_of_getElem? (i := 21) rfl)) (wcs (hw _ (List.mem_of_getElem? (i := 25) rfl)) (fun _ h => h))) rfl rfl rfl (by decide +kernel) ⟨Nat.le_of_ble_eq_true rfl, Nat.le_of_ble_eq_true rfl⟩) (ps_ofE2 (X.same _) (fun U z1 z2 => X.mono _ _ U hFc (hEw _ _ hS U z1 z2)) hP hK hD) rfl rfl hl.1 rfl (lv_room (Nat.le_of_ble_eq_true rfl)) d_Li_1 ⟨Nat.le_refl 0, Nat.le_refl 0⟩) hS (fun q _ h => hFc q h) hFc (fun r_ u t H locs ht hvm hw9 hB hz1 hk1 hS => ?_)
  rw [hw9]
  have hP := lx_stat (A := A) hP hk1
  refine lv_if_ne (tgt := 9) hx hb d_Li_4 (by decide) (fun c_1 => ?_) (fun c_1 => ?_)
  · have hc0 : ¬ c < 0 := fun z => c_1 (by rw [if_pos z])
    have hc1 : ¬ 255 < c := fun z => c_1 (by rw [if_neg hc0, if_pos z])
    refine lv_iload_n hx hb d_Li_9 rfl (lv_at hl 2 rfl) ?_
    refine lv_iconst (v := 0) hx hb d_Li_10 (by decide) ?_
    refine va_mmax hx hb (by rw [hml]; exact hl.1.symm) hown (hts _ (hw _ (List.mem_of_getElem? (i := 27) rfl))) (hts _ (hw _ (List.mem_of_getElem? (i := 28) rfl))) (hts _ (hw _ (List.mem_of_getElem? (i := 29) rfl))) (hts _ (hw _ (List.mem_of_getElem? (i := 30) rfl))) (Nat.le_of_ble_eq_true rfl) (Nat.le_of_ble_eq_true rfl) (Nat.le_refl 0) (Nat.le_refl 0) d_Li_11 ?_
    rw [if_neg (by decide : ¬ (0 : Int32) < 0)]
    refine lv_istore_n (lv' := [(2, .int 0), (0, .ref v), (1, .int c), (3, .int (nI N))]) hx hb d_Li_14 rfl hl (by decide) rfl (fun ls hl => ?_)
    refine lv_iload_n hx hb d_Li_15 rfl (lv_at hl 3 rfl) ?_
    refine lv_aload_n hx hb d_Li_16 rfl (lv_at hl 1 rfl) ?_
    refine va_tlen (v := nI N) hx hb (hs.2.2.1 A s hE) hS rfl d_Li_17 ?_
    refine va_mmin hx hb (by rw [hml]; exact hl.1.symm) hown (hts _ (hw _ (List.mem_of_getElem? (i := 31) rfl))) (hts _ (hw _ (List.mem_of_getElem? (i := 32) rfl))) (hts _ (hw _ (List.mem_of_getElem? (i := 29) rfl))) (hts _ (hw _ (List.mem_of_getElem? (i := 33) rfl))) (Nat.le_of_ble_eq_true rfl) (Nat.le_of_ble_eq_true rfl) (Nat.le_refl 0) (Nat.le_refl 0) d_Li_18 ?_
    rw [ite_self]
    refine lv_istore_n (lv' := [(3, .int (nI N)), (2, .int 0), (0, .ref v), (1, .int c)]) hx hb d_Li_21 rfl hl (by decide) rfl (fun ls hl => ?_)
    refine lv_iload_n hx hb d_Li_22 rfl (lv_at hl 1 rfl) ?_
    refine lv_iload_n hx hb d_Li_23 rfl (lv_at hl 0 rfl) ?_
    refine lv_icmp_lt (tgt := 29) hx hb d_Li_24 (by decide) (fun c_2 => ?_) (fun c_2 => absurd (nI_lt (a := 0) hN0 hN) c_2)
    refine lv_aload_n hx hb d_Li_29 rfl (lv_at hl 2 rfl) ?_
    refine lv_iload_n hx hb d_Li_30 rfl (lv_at hl 3 rfl) ?_
    refine lv_iload_n hx hb d_Li_31 rfl (lv_at hl 1 rfl) ?_
    refine lv_iload_n hx hb d_Li_32 rfl (lv_at hl 0 rfl) ?_
    have hFc := lx_free0 hS hA
    refine va_calli (va_runS (As := [.ref v, .int c, .int 0, .int (nI N)]) (rest := []) ⟨hx, hb, hml, hown, hts⟩ (j_Ix l dC dI X hg hw hs hN _) (va_cwS 4 hts (gwS hg (hw _ (List.mem_of_getElem? (i := 34) rfl)) (hw _ (List.mem_of_getElem? (i := 36) rfl)) (hw _ (List.mem_of_getElem? (i := 21) rfl)) (wcs (hw _ (List.mem_of_getElem? (i := 35) rfl)) (fun _ h => h))) rfl rfl rfl (by decide +kernel) ⟨Nat.le_of_ble_eq_true rfl, Nat.le_of_ble_eq_true rfl⟩) (ps_ofE2 (X.same _) (fun U z1 z2 => X.mono _ _ U hFc (hEw _ _ hS U z1 z2)) hP hK hD) rfl rfl hl.1 rfl (lv_room (Nat.le_of_ble_eq_true rfl)) d_Li_33 ⟨Nat.le_refl 0, Nat.le_refl 0⟩) hS (fun q _ h => hFc q h) hFc (fun r_ u t H locs ht hvm hw9 hB hz1 hk1 hS => ?_)
    rw [hw9]
    have hP := lx_stat (A := A) hP hk1
    exact W.iret (v := (j_ix f c.toInt8.toInt32 N 0)) hx hb hr (fun t ht hW => ⟨⟨(j_ix f c.toInt8.toInt32 N 0), (), rfl, by rw [if_neg hc0, if_neg hc1], by rw [ht]; exact hP, va_K.moved hW.alike hK, hD⟩, hS.F ht⟩) hS.2.2 d_Li_36
  · refine lv_iconst (v := (-1)) hx hb d_Li_7 (by decide) ?_
    by_cases hc0 : c < 0
    · exact W.iret (v := (-1)) hx hb hr (fun t ht hW => ⟨⟨(-1), (), rfl, by rw [if_pos hc0], by rw [ht]; exact hP, va_K.moved hW.alike hK, hD⟩, hS.F ht⟩) hS.2.2 d_Li_8
    · by_cases hc1 : 255 < c
      · exact W.iret (v := (-1)) hx hb hr (fun t ht hW => ⟨⟨(-1), (), rfl, by rw [if_neg hc0, if_pos hc1], by rw [ht]; exact hP, va_K.moved hW.alike hK, hD⟩, hS.F ht⟩) hS.2.2 d_Li_8
      · rw [if_neg hc0, if_neg hc1] at c_1; exact absurd c_1 (by decide)
abbrev b_Si2 : ByteArray := prog_26_method_80_code
abbrev y_Si2 : MethodName := ⟨"java/lang/String", "indexOf", "(II)I"⟩
theorem d_Si2_0 : decode b_Si2 0 = .ok (.aload_n 0, 1) := by decide +kernel
theorem d_Si2_1 : decode b_Si2 1 = .ok (.invokevirtual 492, 3) := by decide +kernel
theorem d_Si2_4 : decode b_Si2 4 = .ok (.ifCond .eq 19, 3) := by decide +kernel
theorem d_Si2_7 : decode b_Si2 7 = .ok (.aload_n 0, 1) := by decide +kernel
theorem d_Si2_8 : decode b_Si2 8 = .ok (.getfield 9, 3) := by decide +kernel
theorem d_Si2_11 : decode b_Si2 11 = .ok (.iload_n 1, 1) := by decide +kernel
theorem d_Si2_12 : decode b_Si2 12 = .ok (.iload_n 2, 1) := by decide +kernel
theorem d_Si2_13 : decode b_Si2 13 = .ok (.aload_n 0, 1) := by decide +kernel
theorem d_Si2_14 : decode b_Si2 14 = .ok (.invokevirtual 505, 3) := by decide +kernel
theorem d_Si2_17 : decode b_Si2 17 = .ok (.invokestatic 637, 3) := by decide +kernel
theorem d_Si2_20 : decode b_Si2 20 = .ok (.goto 16, 3) := by decide +kernel
theorem d_Si2_36 : decode b_Si2 36 = .ok (.ireturn, 1) := by decide +kernel
set_option maxHeartbeats 4000000 in
set_option maxRecDepth 100000 in
theorem j_Si2 (l : Launch) (dC : Nat → ClassId) (dI : Nat → Nat → Nat) {E : (Nat → Prop) → State → Prop} (X : ls_X E) {V : List Cond} (hg : GoodIn V V) (hw : ∀ w ∈ K_S, w ∈ V) {q v N : Nat} {f : Nat → Int32} (hs : ls_S E q v N f) {c : Int32} (hN : N < 2 ^ 31) (hN0 : 0 < N) (sz : Nat) : Met l y_Si2 (.code y_Si2 b_Si2 3 (some .int) :: V) ({ frames := 5, cells := 0, slots := 0, locals := 150 }) (va_Pc [.ref q, .int c, .int 0] (fun U => U.heap.size = sz ∧ at_ (dC, dI) (fun _ => True) [] [] U ∧ E (va_A [] sz) U)) (va_Qi (fun (r_ : Int32) (u : Unit) => r_ = (if c < 0 then -1 else if 255 < c then -1 else j_ix f c.toInt8.toInt32 N 0)) (fun (u : Unit) t => at_ (dC, dI) (va_A [] sz) [] [] t) (va_A [] sz)) 0 0 (va_A [] sz) := by
  refine Met.ofW (cc := b_Si2) (maxL := 3) (ret := (some .int)) (by decide) rfl ?_
  intro p e s m args below meth c9 s₁ B hml hv
  obtain ⟨rfl, hsz, ⟨hP, hK, hD0⟩, hE⟩ := hv
  have hx := B.exec
  have hb := B.bytes
  have hr := B.returns
  have hts0 := atoms_spec (ws := .code y_Si2 b_Si2 3 (some .int) :: V) B.pre
  have hts : ∀ w ∈ V, w.before ([.ref q, .int c, .int 0] : List Value).toArray s = true := fun w h => hts0 w (List.mem_cons_of_mem _ h)
  have hown : s.vm.findClass "java/lang/String" = some m.cls := findClass_of_methodNamed B.named
  subst hsz
  have hD := hD0.self (sz := s.heap.size)
  generalize hAe : va_A [] s.heap.size = A at hD hE ⊢
  have hA : ∀ q : Nat, s.heap.size ≤ q → A q := fun q h => by rw [← hAe]; exact Or.inr h
  have hS : va_S A s.heap s.heap [] := va_S.rf
  have hEw : ∀ (H : Heap) (locs : List Loc), va_S A s.heap H locs → ∀ U : State, U.heap = H → s.WarmedH U.vm → E A U := fun H locs hS U hU hW => X.kept A s U H locs hE hS hU hW
  have hP : va_P (dC, dI) classes [] s.heap := hP
  have hK : va_K (dC, dI) classes [] s := hK
  have hl := lv_entry ([.ref q, .int c, .int 0]) (n := 3) (Nat.le_of_ble_eq_true rfl)
  rw [lg_entry_eq]
  generalize (lg_sl ([.ref q, .int c, .int 0]) ++ List.replicate (3 - (lg_sl ([.ref q, .int c, .int 0])).length) Slot.unset).toArray = ls at hl ⊢
  have hl : lv_has ls 3 [(0, .ref q), (1, .int c), (2, .int 0)] := hl
  refine lv_aload_n hx hb d_Si2_0 rfl (lv_at hl 0 rfl) ?_
  have hFc := lx_free0 hS hA
  refine va_calli (va_runV (As := []) (rest := []) ⟨hx, hb, hml, hown, hts⟩ (j_Sl l dC dI X hg hw hs _) (cwV 0 hts (gwV hg (hw _ (List.mem_of_getElem? (i := 16) rfl)) (hw _ (List.mem_of_getElem? (i := 18) rfl)) (hw _ (List.mem_of_getElem? (i := 19) rfl)) (hw _ (List.mem_of_getElem? (i := 4) rfl)) (wcs (hw _ (List.mem_of_getElem? (i := 17) rfl)) (fun _ h => h))) rfl rfl rfl (by decide +kernel) ⟨Nat.le_of_ble_eq_true rfl, Nat.le_of_ble_eq_true rfl⟩) (pv_ofE (X.same _) (fun U z1 z2 => X.mono _ _ U hFc (hEw _ _ hS U z1 z2)) hP hK hD (hs.2.2.2.1 _ (lx_s s _) (hEw _ _ hS (lx_s s _) rfl (State.WarmedH.refl s)))) rfl rfl hl.1 rfl (lv_room (Nat.le_of_ble_eq_true rfl)) d_Si2_1 ⟨Nat.le_refl 0, Nat.le_refl 0⟩) hS (fun q _ h => hFc q h) hFc (fun r_ u t H locs ht hvm hw9 hB hz1 hk1 hS => ?_)
  rw [hw9]
  have hP := lx_stat (A := A) hP hk1
  refine lv_if_eq (tgt := 23) hx hb d_Si2_4 (by decide) (fun c_1 => absurd c_1 (by decide)) (fun c_1 => ?_)
  refine lv_aload_n hx hb d_Si2_7 rfl (lv_at hl 0 rfl) ?_
  refine vk_getf hx hb (hs.1 A s hE) hS hown (hts _ (hw _ (List.mem_of_getElem? (i := 2) rfl))) (fun x h => h) d_Si2_8 ?_
  refine lv_iload_n hx hb d_Si2_11 rfl (lv_at hl 1 rfl) ?_
  refine lv_iload_n hx hb d_Si2_12 rfl (lv_at hl 2 rfl) ?_
  refine lv_aload_n hx hb d_Si2_13 rfl (lv_at hl 0 rfl) ?_
  have hFc := lx_free0 hS hA
  refine va_calli (va_runV (As := []) (rest := [.int 0, .int c, .ref v]) ⟨hx, hb, hml, hown, hts⟩ (j_Sn l dC dI X hg hw hs _) (cwV 0 hts (gwV hg (hw _ (List.mem_of_getElem? (i := 37) rfl)) (hw _ (List.mem_of_getElem? (i := 39) rfl)) (hw _ (List.mem_of_getElem? (i := 40) rfl)) (hw _ (List.mem_of_getElem? (i := 4) rfl)) (wcs (hw _ (List.mem_of_getElem? (i := 38) rfl)) (fun _ h => h))) rfl rfl rfl (by decide +kernel) ⟨Nat.le_of_ble_eq_true rfl, Nat.le_of_ble_eq_true rfl⟩) (pv_ofE (X.same _) (fun U z1 z2 => X.mono _ _ U hFc (hEw _ _ hS U z1 z2)) hP hK hD (hs.2.2.2.1 _ (lx_s s _) (hEw _ _ hS (lx_s s _) rfl (State.WarmedH.refl s)))) rfl rfl hl.1 rfl (lv_room (Nat.le_of_ble_eq_true rfl)) d_Si2_14 ⟨Nat.le_refl 0, Nat.le_refl 0⟩) hS (fun q _ h => hFc q h) hFc (fun r_ u t H locs ht hvm hw9 hB hz1 hk1 hS => ?_)
  rw [hw9]
  have hP := lx_stat (A := A) hP hk1
  have hFc := lx_free0 hS hA
  refine va_calli (va_runS (As := [.ref v, .int c, .int 0, .int (nI N)]) (rest := []) ⟨hx, hb, hml, hown, hts⟩ (j_Li l dC dI X hg hw hs hN hN0 _) (va_cwS 4 hts (gwS hg (hw _ (List.mem_of_getElem? (i := 41) rfl)) (hw _ (List.mem_of_getElem? (i := 43) rfl)) (hw _ (List.mem_of_getElem? (i := 21) rfl)) (wcs (hw _ (List.mem_of_getElem? (i := 42) rfl)) (fun _ h => h))) rfl rfl rfl (by decide +kernel) ⟨Nat.le_of_ble_eq_true rfl, Nat.le_of_ble_eq_true rfl⟩) (ps_ofE2 (X.same _) (fun U z1 z2 => X.mono _ _ U hFc (hEw _ _ hS U z1 z2)) hP hK hD) rfl rfl hl.1 rfl (lv_room (Nat.le_of_ble_eq_true rfl)) d_Si2_17 ⟨Nat.le_refl 0, Nat.le_refl 0⟩) hS (fun q _ h => hFc q h) hFc (fun r_ u t H locs ht hvm hw9 hB hz1 hk1 hS => ?_)
  rw [hw9]
  have hP := lx_stat (A := A) hP hk1
  refine lv_goto (tgt := 36) hx hb d_Si2_20 (by decide) ?_
  exact W.iret (v := (if c < 0 then -1 else if 255 < c then -1 else j_ix f c.toInt8.toInt32 N 0)) hx hb hr (fun t ht hW => ⟨⟨(if c < 0 then -1 else if 255 < c then -1 else j_ix f c.toInt8.toInt32 N 0), (), rfl, rfl, by rw [ht]; exact hP, va_K.moved hW.alike hK, hD⟩, hS.F ht⟩) hS.2.2 d_Si2_36
theorem d_St_indexOf_0 : decode b_St_indexOf 0 = .ok (.aload_n 0, 1) := by decide +kernel
theorem d_St_indexOf_1 : decode b_St_indexOf 1 = .ok (.iload_n 1, 1) := by decide +kernel
theorem d_St_indexOf_2 : decode b_St_indexOf 2 = .ok (.iconst 0, 1) := by decide +kernel
theorem d_St_indexOf_3 : decode b_St_indexOf 3 = .ok (.invokevirtual 633, 3) := by decide +kernel
theorem d_St_indexOf_6 : decode b_St_indexOf 6 = .ok (.ireturn, 1) := by decide +kernel
set_option maxHeartbeats 4000000 in
set_option maxRecDepth 100000 in
theorem j_St_indexOf (l : Launch) (dC : Nat → ClassId) (dI : Nat → Nat → Nat) {E : (Nat → Prop) → State → Prop} (X : ls_X E) {V : List Cond} (hg : GoodIn V V) (hw : ∀ w ∈ K_S, w ∈ V) {q v N : Nat} {f : Nat → Int32} (hs : ls_S E q v N f) {c : Int32} (hN : N < 2 ^ 31) (hN0 : 0 < N) (sz : Nat) : Met l y_St_indexOf (.code y_St_indexOf b_St_indexOf 2 (some .int) :: V) ({ frames := 6, cells := 0, slots := 0, locals := 200 }) (va_Pc [.ref q, .int c] (fun U => U.heap.size = sz ∧ at_ (dC, dI) (fun _ => True) [] [] U ∧ E (va_A [] sz) U)) (va_Qi (fun (r_ : Int32) (u : Unit) => r_ = (if c < 0 then -1 else if 255 < c then -1 else j_ix f c.toInt8.toInt32 N 0)) (fun (u : Unit) t => at_ (dC, dI) (va_A [] sz) [] [] t) (va_A [] sz)) 0 0 (va_A [] sz) := by
  refine Met.ofW (cc := b_St_indexOf) (maxL := 2) (ret := (some .int)) (by decide) rfl ?_
  intro p e s m args below meth c9 s₁ B hml hv
  obtain ⟨rfl, hsz, ⟨hP, hK, hD0⟩, hE⟩ := hv
  have hx := B.exec
  have hb := B.bytes
  have hr := B.returns
  have hts0 := atoms_spec (ws := .code y_St_indexOf b_St_indexOf 2 (some .int) :: V) B.pre
  have hts : ∀ w ∈ V, w.before ([.ref q, .int c] : List Value).toArray s = true := fun w h => hts0 w (List.mem_cons_of_mem _ h)
  have hown : s.vm.findClass "java/lang/String" = some m.cls := findClass_of_methodNamed B.named
  subst hsz
  have hD := hD0.self (sz := s.heap.size)
  generalize hAe : va_A [] s.heap.size = A at hD hE ⊢
  have hA : ∀ q : Nat, s.heap.size ≤ q → A q := fun q h => by rw [← hAe]; exact Or.inr h
  have hS : va_S A s.heap s.heap [] := va_S.rf
  have hEw : ∀ (H : Heap) (locs : List Loc), va_S A s.heap H locs → ∀ U : State, U.heap = H → s.WarmedH U.vm → E A U := fun H locs hS U hU hW => X.kept A s U H locs hE hS hU hW
  have hP : va_P (dC, dI) classes [] s.heap := hP
  have hK : va_K (dC, dI) classes [] s := hK
  have hl := lv_entry ([.ref q, .int c]) (n := 2) (Nat.le_of_ble_eq_true rfl)
  rw [lg_entry_eq]
  generalize (lg_sl ([.ref q, .int c]) ++ List.replicate (2 - (lg_sl ([.ref q, .int c])).length) Slot.unset).toArray = ls at hl ⊢
  have hl : lv_has ls 2 [(0, .ref q), (1, .int c)] := hl
  refine lv_aload_n hx hb d_St_indexOf_0 rfl (lv_at hl 0 rfl) ?_
  refine lv_iload_n hx hb d_St_indexOf_1 rfl (lv_at hl 1 rfl) ?_
  refine lv_iconst (v := 0) hx hb d_St_indexOf_2 (by decide) ?_
  have hFc := lx_free0 hS hA
  refine va_calli (va_runV (As := [.int c, .int 0]) (rest := []) ⟨hx, hb, hml, hown, hts⟩ (j_Si2 l dC dI X hg hw hs hN hN0 _) (cwV 2 hts (gwV hg (hw _ (List.mem_of_getElem? (i := 44) rfl)) (hw _ (List.mem_of_getElem? (i := 46) rfl)) (hw _ (List.mem_of_getElem? (i := 47) rfl)) (hw _ (List.mem_of_getElem? (i := 4) rfl)) (wcs (hw _ (List.mem_of_getElem? (i := 45) rfl)) (fun _ h => h))) rfl rfl rfl (by decide +kernel) ⟨Nat.le_of_ble_eq_true rfl, Nat.le_of_ble_eq_true rfl⟩) (pv_ofE (X.same _) (fun U z1 z2 => X.mono _ _ U hFc (hEw _ _ hS U z1 z2)) hP hK hD (hs.2.2.2.1 _ (lx_s s _) (hEw _ _ hS (lx_s s _) rfl (State.WarmedH.refl s)))) rfl rfl hl.1 rfl (lv_room (Nat.le_of_ble_eq_true rfl)) d_St_indexOf_3 ⟨Nat.le_refl 0, Nat.le_refl 0⟩) hS (fun q _ h => hFc q h) hFc (fun r_ u t H locs ht hvm hw9 hB hz1 hk1 hS => ?_)
  rw [hw9]
  have hP := lx_stat (A := A) hP hk1
  exact W.iret (v := (if c < 0 then -1 else if 255 < c then -1 else j_ix f c.toInt8.toInt32 N 0)) hx hb hr (fun t ht hW => ⟨⟨(if c < 0 then -1 else if 255 < c then -1 else j_ix f c.toInt8.toInt32 N 0), (), rfl, rfl, by rw [ht]; exact hP, va_K.moved hW.alike hK, hD⟩, hS.F ht⟩) hS.2.2 d_St_indexOf_6
