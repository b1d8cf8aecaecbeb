theorem lf_nz {v : Int32} (h : v = 0 ∨ v = 1) : narrow .boolean (.int v) = .int v := by rcases h with rfl | rfl <;> rfl
theorem lf_fz {v : Int32} (h : v = 0 ∨ v = 1) : fits .boolean (.int v) = true := by rcases h with rfl | rfl <;> rfl
theorem lx_free {A : Nat → Prop} {ws : va_W} {H0 H : Heap} {locs : List Loc} (hD : va_D A ws) (hS : va_S A H0 H locs) (hA : ∀ q : Nat, H0.size ≤ q → A q) : ∀ q, va_A ws H.size q → A q := fun q h => h.elim (fun ⟨k, _, z⟩ => hD.2 k _ z) (fun z => hA q (Nat.le_trans hS.1 z))
theorem lx_free0 {A : Nat → Prop} {H0 H : Heap} {locs : List Loc} (hS : va_S A H0 H locs) (hA : ∀ q : Nat, H0.size ≤ q → A q) : ∀ q, va_A [] H.size q → A q := fun q h => h.elim (fun ⟨k, _, z⟩ => by simp at z) (fun z => hA q (Nat.le_trans hS.1 z))
theorem lx_dj {A B : Nat → Prop} {w1 : va_W} (h : va_D B w1) (hF : ∀ q, B q → A q) : va_D A w1 := ⟨h.1, fun k q hk => hF _ (h.2 k q hk)⟩
theorem lx_stat {A : Nat → Prop} {D : va_G} {ws : va_W} {H H1 : Heap} (hP : va_P D classes ws H) (hk : ∀ q : Nat, q < H.size → ¬ va_A [] H.size q → H1[q]? = H[q]?) : va_P D classes ws H1 := by
  have hlt : ∀ (k : Nat) (q : Nat × va_E), ws[k]? = some q → q.1 < H.size ∧ H1[q.1]? = H[q.1]? := by
    intro k q hq
    have h0 := hP k q hq
    have h1 : q.1 < H.size := by
      rcases Nat.lt_or_ge q.1 H.size with z | z
      · exact z
      · exfalso
        have hn : H[q.1]? = none := Array.getElem?_eq_none z
        obtain ⟨a, e | e⟩ := q
        · have h0 : H[a]? = _ := h0
          rw [hn] at h0; cases h0
        · obtain ⟨r, -, cell, g, -⟩ := h0
          have g : H[a]? = some cell := g
          rw [hn] at g; cases g
    exact ⟨h1, hk q.1 h1 (fun z => z.elim (fun ⟨k, _, y⟩ => by simp at y) (fun y => absurd h1 (Nat.not_lt.mpr y)))⟩
  intro k q hq
  have h0 := hP k q hq
  obtain ⟨h1, h2⟩ := hlt k q hq
  obtain ⟨a, e | e⟩ := q
  · have h0 : H[a]? = _ := h0
    have h2 : H1[a]? = H[a]? := h2
    show H1[a]? = _
    rw [h2]; exact h0
  · obtain ⟨r, g0, cell, g, g1⟩ := h0
    have h2 : H1[a]? = H[a]? := h2
    exact ⟨r, g0, cell, by rw [h2]; exact g, g1⟩
/-- a call under a stack of up to sixteen words -/
theorem lx_runV16 {p : Program} {l : Launch} {e : Env} {R : Room} {s : State} {m : MethodId} {args : Array Value} {below : List Frame} {meth : Method} {c : Code} {H : Heap} {locs : List Loc} {cells slots : Nat} {y : MethodName} {bytes cc : ByteArray} {maxL nL mc ms n index : Nat} {ret : Option FieldType} {ws : List Cond} {rm : Room} {Pc : Array Value → State → Prop} {Qc : Array Value → State → Outcome → State → Prop} {free : Addr → Prop} {Ts : List Cond} {own C : String} {b : Addr} {As rest : List Value} {g : JFrame}
    (S : CallFix p m c cc nL s args Ts own) (hM : Met l y ws rm Pc Qc mc ms free) (cw : CallW R s args own C index y bytes maxL ret ws rm mc ms n) (hp : PreV s H C b Pc As) (hlo : 16 + (maxL + 11) + rm.locals ≤ R.locals)
    (hg : g.method = m) (hn : As.length = n) (hsize : g.locals.size = nL) (hstack : g.stack = As.reverse ++ .ref b :: rest) (hW : 2 * g.monitorRoom + (rest.map fun v => v.category).sum ≤ 16) (hdg : decode cc g.pc = .ok (.invokevirtual index, 3)) (hf : cells + mc ≤ R.cells ∧ slots + ms ≤ R.slots) :
    va_Run p l e R s m args below meth c H locs cells slots mc ms g rest (Qc (Value.ref b :: As).toArray) free := by
  obtain ⟨⟨hrc, hrs, hfr, -, hws, hcw, hcode, hini, hy, hlen, hl⟩, hin, hse⟩ := cw
  have hK : Back l R p e below s args y 3 16 (PreOf R mc ms Pc) (PostOf Qc mc ms free) := back_of (bytes := bytes) (maxL := maxL) (ret := ret) hM hp.1 hrc hrs hfr hlo hws hcw (fun a' U hW => word_at hW (Or.inl (by first | rfl | simp [Cond.onTables, Cond.keeps, Cond.steady])) hini)
  obtain ⟨hx, hb, hml, ho, -⟩ := S
  obtain ⟨-, ⟨cellB, hcB, hoB, hclB⟩, hPc⟩ := hp
  intro T hT X
  obtain ⟨v, vm₁, ⟨U', l2, c2, s2⟩, hW₁, X', ⟨g', mk, t, L, e1, e2, hq, h1, hL, h2, h3⟩, st⟩ := callV X hx (C := C) (bytes := bytes) (maxL := maxL) (ret := ret) ho hl hin hse hcode hy hK (by rw [hT]; exact hcB) hoB hclB hg (hsize.trans hml.symm) (argsL := As) (rest := rest) (fun sig h => hn.trans (hlen sig h)) hstack hW (by rw [hb]; exact hdg) (fun vm₁ hW₁ => ⟨hf.1, hf.2, hPc (T.setVm vm₁) hT hW₁⟩)
  dsimp only [Pt.U, Pt.locs, Pt.cells, Pt.slots] at X' e1 e2 h1 h2 h3 st
  subst h1; subst h2; subst h3
  exact ⟨v, (T.setVm vm₁).calling g' mk (Value.ref b :: As).toArray, t, U', L, hT, X', hL, e1, e2, hq, st⟩
theorem lx_room {m : MethodId} {pc : Nat} {ls : Array Slot} {rest st : List Value} (h : (st.map fun v => v.category).sum ≤ 16) : 2 * (F0 m pc ls rest).monitorRoom + (st.map fun v => v.category).sum ≤ 16 := by
  show 2 * 0 + _ ≤ 16
  omega
abbrev MA : Type := ((((((Nat × Nat) × (ClassId × Nat)) × ((ClassId × Nat) × (ClassId × Nat))) × (((ClassId × Nat) × (ClassId × Nat)) × ((ClassId × Nat) × ClassId))) × ((((Nat × ClassId) × (Nat × ClassId)) × ((Nat × ClassId) × (Nat × ClassId))) × (((Nat × ClassId) × (Nat × ClassId)) × ((Nat × ClassId) × Nat)))) × (((((ClassId × Nat) × (ClassId × Nat)) × ((ClassId × Nat) × (ClassId × Nat))) × (((ClassId × Nat) × (ClassId × Nat)) × ((ClassId × Nat) × ClassId))) × ((((Nat × ClassId) × (Nat × ClassId)) × ((Nat × ClassId) × Nat)) × (((ClassId × Nat) × (ClassId × Nat)) × ((Nat × Nat) × Nat)))))
abbrev MA.o (S : MA) : Nat := S.1.1.1.1.1.1
abbrev MA.a_disk (S : MA) : Nat := S.1.1.1.1.1.2
abbrev MA.k_disk (S : MA) : ClassId := S.1.1.1.1.2.1
abbrev MA.a_fresh (S : MA) : Nat := S.1.1.1.1.2.2
abbrev MA.k_fresh (S : MA) : ClassId := S.1.1.1.2.1.1
abbrev MA.a_tape (S : MA) : Nat := S.1.1.1.2.1.2
abbrev MA.k_tape (S : MA) : ClassId := S.1.1.1.2.2.1
abbrev MA.a_ready (S : MA) : Nat := S.1.1.1.2.2.2
abbrev MA.k_ready (S : MA) : ClassId := S.1.1.2.1.1.1
abbrev MA.a_chained (S : MA) : Nat := S.1.1.2.1.1.2
abbrev MA.k_chained (S : MA) : ClassId := S.1.1.2.1.2.1
abbrev MA.a_at (S : MA) : Nat := S.1.1.2.1.2.2
abbrev MA.k_at (S : MA) : ClassId := S.1.1.2.2.1.1
abbrev MA.a_slot (S : MA) : Nat := S.1.1.2.2.1.2
def MA.u_a_slot (S : MA) (v : Nat) : MA := (((S.1.1.1, (S.1.1.2.1, ((S.1.1.2.2.1.1, v), S.1.1.2.2.2))), S.1.2), S.2)
abbrev MA.k_slot (S : MA) : ClassId := S.1.1.2.2.2
abbrev MA.a_parts (S : MA) : Nat := S.1.2.1.1.1.1
def MA.u_a_parts (S : MA) (v : Nat) : MA := ((S.1.1, ((((v, S.1.2.1.1.1.2), S.1.2.1.1.2), S.1.2.1.2), S.1.2.2)), S.2)
abbrev MA.k_parts (S : MA) : ClassId := S.1.2.1.1.1.2
abbrev MA.a_parent (S : MA) : Nat := S.1.2.1.1.2.1
def MA.u_a_parent (S : MA) (v : Nat) : MA := ((S.1.1, (((S.1.2.1.1.1, (v, S.1.2.1.1.2.2)), S.1.2.1.2), S.1.2.2)), S.2)
abbrev MA.k_parent (S : MA) : ClassId := S.1.2.1.1.2.2
abbrev MA.a_kids (S : MA) : Nat := S.1.2.1.2.1.1
def MA.u_a_kids (S : MA) (v : Nat) : MA := ((S.1.1, ((S.1.2.1.1, ((v, S.1.2.1.2.1.2), S.1.2.1.2.2)), S.1.2.2)), S.2)
abbrev MA.k_kids (S : MA) : ClassId := S.1.2.1.2.1.2
abbrev MA.a_firstKid (S : MA) : Nat := S.1.2.1.2.2.1
abbrev MA.k_firstKid (S : MA) : ClassId := S.1.2.1.2.2.2
abbrev MA.a_nameAt (S : MA) : Nat := S.1.2.2.1.1.1
def MA.u_a_nameAt (S : MA) (v : Nat) : MA := ((S.1.1, (S.1.2.1, (((v, S.1.2.2.1.1.2), S.1.2.2.1.2), S.1.2.2.2))), S.2)
abbrev MA.k_nameAt (S : MA) : ClassId := S.1.2.2.1.1.2
abbrev MA.a_nameSize (S : MA) : Nat := S.1.2.2.1.2.1
abbrev MA.k_nameSize (S : MA) : ClassId := S.1.2.2.1.2.2
abbrev MA.a_unit (S : MA) : Nat := S.1.2.2.2.1.1
abbrev MA.k_unit (S : MA) : ClassId := S.1.2.2.2.1.2
abbrev MA.a_chain (S : MA) : Nat := S.1.2.2.2.2
abbrev MA.k_chain (S : MA) : ClassId := S.2.1.1.1.1.1
abbrev MA.a_folder (S : MA) : Nat := S.2.1.1.1.1.2
abbrev MA.k_folder (S : MA) : ClassId := S.2.1.1.1.2.1
abbrev MA.a_name (S : MA) : Nat := S.2.1.1.1.2.2
abbrev MA.k_name (S : MA) : ClassId := S.2.1.1.2.1.1
abbrev MA.a_brief (S : MA) : Nat := S.2.1.1.2.1.2
abbrev MA.k_brief (S : MA) : ClassId := S.2.1.1.2.2.1
abbrev MA.a_stem (S : MA) : Nat := S.2.1.1.2.2.2
abbrev MA.k_stem (S : MA) : ClassId := S.2.1.2.1.1.1
abbrev MA.a_tail (S : MA) : Nat := S.2.1.2.1.1.2
abbrev MA.k_tail (S : MA) : ClassId := S.2.1.2.1.2.1
abbrev MA.a_fixed (S : MA) : Nat := S.2.1.2.1.2.2
abbrev MA.k_fixed (S : MA) : ClassId := S.2.1.2.2.1.1
abbrev MA.a_used (S : MA) : Nat := S.2.1.2.2.1.2
abbrev MA.k_used (S : MA) : ClassId := S.2.1.2.2.2
abbrev MA.a_moved (S : MA) : Nat := S.2.2.1.1.1.1
abbrev MA.k_moved (S : MA) : ClassId := S.2.2.1.1.1.2
abbrev MA.a_aimed (S : MA) : Nat := S.2.2.1.1.2.1
abbrev MA.k_aimed (S : MA) : ClassId := S.2.2.1.1.2.2
abbrev MA.a_built (S : MA) : Nat := S.2.2.1.2.1.1
def MA.u_a_built (S : MA) (v : Nat) : MA := (S.1, (S.2.1, ((S.2.2.1.1, ((v, S.2.2.1.2.1.2), S.2.2.1.2.2)), S.2.2.2)))
abbrev MA.k_built (S : MA) : ClassId := S.2.2.1.2.1.2
abbrev MA.a_record (S : MA) : Nat := S.2.2.1.2.2
abbrev MA.k_record (S : MA) : ClassId := S.2.2.2.1.1.1
abbrev MA.a_list (S : MA) : Nat := S.2.2.2.1.1.2
abbrev MA.k_list (S : MA) : ClassId := S.2.2.2.1.2.1
abbrev MA.s_230 (S : MA) : Nat := S.2.2.2.1.2.2
abbrev MA.s_259 (S : MA) : Nat := S.2.2.2.2.1.1
abbrev MA.s_358 (S : MA) : Nat := S.2.2.2.2.1.2
abbrev MA.s_529 (S : MA) : Nat := S.2.2.2.2.2
def wM (M : MA) (S : MS) : va_W := [(M.o, .inr (12, [.int S.v_n, .ref M.a_disk, .ref M.a_fresh, .ref M.a_tape, .ref M.a_ready, .int S.v_taped, .int S.v_thrown, .int S.v_told, .int S.v_fed, .int S.v_turned, .int S.v_ran, .int S.v_c, .int S.v_v, .int S.v_y, .int S.v_z, .int S.v_root, .int S.v_a, .int S.v_k, .int S.v_here, .int S.v_looked, .int S.v_fault, .int S.v_items, .int S.v_units, .ref M.a_chained, .ref M.a_at, .ref M.a_slot, .ref M.a_parts, .ref M.a_parent, .ref M.a_kids, .ref M.a_firstKid, .ref M.a_nameAt, .ref M.a_nameSize, .ref M.a_unit, .ref M.a_chain, .ref M.a_folder, .int S.v_links, .int S.v_folders, .int S.v_label, .ref M.a_name, .int S.v_size, .int S.v_met, .int S.v_left, .int S.v_sum, .ref M.a_brief, .ref M.a_stem, .ref M.a_tail, .int S.v_groups, .int S.v_per, .int S.v_inodes, .int S.v_rows, .int S.v_blocks, .ref M.a_fixed, .ref M.a_used, .ref M.a_moved, .ref M.a_aimed, .ref M.a_built, .int S.v_fixedBlocks, .int S.v_moves, .int S.v_builds, .int S.v_kept, .int S.v_next, .ref M.a_record, .ref M.a_list, .int S.v_spot, .int S.v_filled, .int S.v_latest])), (M.a_disk, .inl (M.k_disk, 524288, .inl S.v_disk)), (M.a_fresh, .inl (M.k_fresh, 524288, .inl S.v_fresh)), (M.a_tape, .inl (M.k_tape, 4096, .inl S.v_tape)), (M.a_ready, .inl (M.k_ready, 20, .inl S.v_ready)), (M.a_chained, .inl (M.k_chained, 560, .inl S.v_chained)), (M.a_at, .inl (M.k_at, 4200, .inl S.v_at)), (M.a_slot, .inl (M.k_slot, 4200, .inl S.v_slot)), (M.a_parts, .inl (M.k_parts, 4200, .inl S.v_parts)), (M.a_parent, .inl (M.k_parent, 4200, .inl S.v_parent)), (M.a_kids, .inl (M.k_kids, 4200, .inl S.v_kids)), (M.a_firstKid, .inl (M.k_firstKid, 4200, .inl S.v_firstKid)), (M.a_nameAt, .inl (M.k_nameAt, 4200, .inl S.v_nameAt)), (M.a_nameSize, .inl (M.k_nameSize, 4200, .inl S.v_nameSize)), (M.a_unit, .inl (M.k_unit, 90000, .inl S.v_unit)), (M.a_chain, .inl (M.k_chain, 560, .inl S.v_chain)), (M.a_folder, .inl (M.k_folder, 560, .inl S.v_folder)), (M.a_name, .inl (M.k_name, 300, .inl S.v_name)), (M.a_brief, .inl (M.k_brief, 11, .inl S.v_brief)), (M.a_stem, .inl (M.k_stem, 255, .inl S.v_stem)), (M.a_tail, .inl (M.k_tail, 3, .inl S.v_tail)), (M.a_fixed, .inl (M.k_fixed, 512, .inl S.v_fixed)), (M.a_used, .inl (M.k_used, 512, .inl S.v_used)), (M.a_moved, .inl (M.k_moved, 560, .inl S.v_moved)), (M.a_aimed, .inl (M.k_aimed, 560, .inl S.v_aimed)), (M.a_built, .inl (M.k_built, 512, .inl S.v_built)), (M.a_record, .inl (M.k_record, 512, .inl S.v_record)), (M.a_list, .inl (M.k_list, 512, .inl S.v_list))]
def tM (M : MA) : List (ClassId × FieldType) := [(M.k_disk, .byte), (M.k_fresh, .byte), (M.k_tape, .byte), (M.k_ready, .byte), (M.k_chained, .boolean), (M.k_at, .int), (M.k_slot, .int), (M.k_parts, .int), (M.k_parent, .int), (M.k_kids, .int), (M.k_firstKid, .int), (M.k_nameAt, .int), (M.k_nameSize, .int), (M.k_unit, .char), (M.k_chain, .int), (M.k_folder, .int), (M.k_name, .char), (M.k_brief, .int), (M.k_stem, .int), (M.k_tail, .int), (M.k_fixed, .boolean), (M.k_used, .boolean), (M.k_moved, .int), (M.k_aimed, .int), (M.k_built, .int), (M.k_record, .int), (M.k_list, .int)]
theorem lx_newP {D : va_G} {M : MA} {x y : MS} {H : Heap} (e : x = y) (hP : va_P D classes (wM M y) H) : va_P D classes (wM M x) H := e ▸ hP
theorem lx_newD {A : Nat → Prop} {M : MA} {x y : MS} (e : x = y) (hD : va_D A (wM M y)) : va_D A (wM M x) := e ▸ hD
abbrev b_Mo_adm : ByteArray := prog_14_method_42_code
/-- the name that the table of the statement has at this place -/
def adm_name : String := match (tables_1_10[130]? : Option Cond) with
  | some (Cond.methodLink _ _ y) => y.name
  | _ => ""
def y_Mo_adm : MethodName := ⟨R_Mo, adm_name, "(III)I"⟩
def K_Mq : List Cond := [(.methodLink "VolumeTurnerModel" 220 y_Mo_adm), (.instanceMethod y_Mo_adm), (.code y_Mo_adm prog_14_method_42_code 9 (some .int)), (.selects "VolumeTurnerModel" y_Mo_adm y_Mo_adm), (.initialized "java/lang/String"), (.initialized "jdk/internal/util/Preconditions"), (.initialized "java/lang/StringLatin1"), (.instanceMethod ⟨"java/lang/String", "length", "()I"⟩), (.selects "java/lang/String" ⟨"java/lang/String", "length", "()I"⟩ ⟨"java/lang/String", "length", "()I"⟩), (.code ⟨"java/lang/String", "length", "()I"⟩ prog_26_method_54_code 1 (some .int)), (.methodLink "java/lang/String" 335 ⟨"java/lang/String", "coder", "()B"⟩), (.instanceMethod ⟨"java/lang/String", "coder", "()B"⟩), (.selects "java/lang/String" ⟨"java/lang/String", "coder", "()B"⟩ ⟨"java/lang/String", "coder", "()B"⟩), (.code ⟨"java/lang/String", "coder", "()B"⟩ prog_26_method_152_code 1 (some .byte)), (.fieldLink "java/lang/String" 38 "java/lang/String" "COMPACT_STRINGS" "Z"), (.instanceMethod ⟨"java/lang/String", "charAt", "(I)C"⟩), (.selects "java/lang/String" ⟨"java/lang/String", "charAt", "(I)C"⟩ ⟨"java/lang/String", "charAt", "(I)C"⟩), (.code ⟨"java/lang/String", "charAt", "(I)C"⟩ prog_26_method_56_code 2 (some .char)), (.methodLink "java/lang/String" 492 ⟨"java/lang/String", "isLatin1", "()Z"⟩), (.instanceMethod ⟨"java/lang/String", "isLatin1", "()Z"⟩), (.selects "java/lang/String" ⟨"java/lang/String", "isLatin1", "()Z"⟩ ⟨"java/lang/String", "isLatin1", "()Z"⟩), (.code ⟨"java/lang/String", "isLatin1", "()Z"⟩ prog_26_method_154_code 1 (some .boolean)), (.methodLink "java/lang/String" 495 ⟨"java/lang/StringLatin1", "charAt", "([BI)C"⟩), (.static ⟨"java/lang/StringLatin1", "charAt", "([BI)C"⟩), (.code ⟨"java/lang/StringLatin1", "charAt", "([BI)C"⟩ prog_28_method_2_code 2 (some .char)), (.methodLink "java/lang/StringLatin1" 9 ⟨"java/lang/String", "checkIndex", "(II)V"⟩), (.static ⟨"java/lang/String", "checkIndex", "(II)V"⟩), (.code ⟨"java/lang/String", "checkIndex", "(II)V"⟩ prog_26_method_155_code 2 none), (.fieldLink "java/lang/String" 1053 "jdk/internal/util/Preconditions" "SIOOBE_FORMATTER" "Ljava/util/function/BiFunction;"), (.methodLink "java/lang/String" 1059 ⟨"jdk/internal/util/Preconditions", "checkIndex", "(IILjava/util/function/BiFunction;)I"⟩), (.static ⟨"jdk/internal/util/Preconditions", "checkIndex", "(IILjava/util/function/BiFunction;)I"⟩), (.code ⟨"jdk/internal/util/Preconditions", "checkIndex", "(IILjava/util/function/BiFunction;)I"⟩ prog_35_method_11_code 3 (some .int)), (.methodLink "java/lang/String" 498 ⟨"java/lang/StringUTF16", "charAt", "([BI)C"⟩), (.fieldLink "java/lang/String" 1048 "java/lang/AbstractStringBuilder" "maybeLatin1" "Z"), (.static ⟨"java/lang/String", "checkBoundsBeginEnd", "(III)V"⟩), (.code ⟨"java/lang/String", "checkBoundsBeginEnd", "(III)V"⟩ prog_26_method_158_code 3 none), (.methodLink "java/lang/String" 1062 ⟨"jdk/internal/util/Preconditions", "checkFromToIndex", "(IIILjava/util/function/BiFunction;)I"⟩), (.static ⟨"jdk/internal/util/Preconditions", "checkFromToIndex", "(IIILjava/util/function/BiFunction;)I"⟩), (.code ⟨"jdk/internal/util/Preconditions", "checkFromToIndex", "(IIILjava/util/function/BiFunction;)I"⟩ prog_35_method_12_code 4 (some .int)), (.static ⟨"java/lang/StringLatin1", "inflate", "([BI[BII)V"⟩), (.code ⟨"java/lang/StringLatin1", "inflate", "([BI[BII)V"⟩ prog_28_method_50_code 5 none), (.methodLink "java/lang/StringLatin1" 240 ⟨"java/lang/StringUTF16", "inflate", "([BI[BII)V"⟩), (.static ⟨"java/lang/String", "checkBoundsOffCount", "(III)I"⟩), (.code ⟨"java/lang/String", "checkBoundsOffCount", "(III)I"⟩ prog_26_method_157_code 3 (some .int)), (.methodLink "java/lang/String" 1065 ⟨"jdk/internal/util/Preconditions", "checkFromIndexSize", "(IIILjava/util/function/BiFunction;)I"⟩), (.static ⟨"jdk/internal/util/Preconditions", "checkFromIndexSize", "(IIILjava/util/function/BiFunction;)I"⟩), (.code ⟨"jdk/internal/util/Preconditions", "checkFromIndexSize", "(IIILjava/util/function/BiFunction;)I"⟩ prog_35_method_13_code 4 (some .int)), (.instanceMethod ⟨"java/lang/String", "getBytes", "([BIB)V"⟩), (.selects "java/lang/String" ⟨"java/lang/String", "getBytes", "([BIB)V"⟩ ⟨"java/lang/String", "getBytes", "([BIB)V"⟩), (.code ⟨"java/lang/String", "getBytes", "([BIB)V"⟩ prog_26_method_147_code 4 none), (.methodLink "java/lang/String" 212 ⟨"java/lang/System", "arraycopy", "(Ljava/lang/Object;ILjava/lang/Object;II)V"⟩), (.methodLink "java/lang/String" 106 ⟨"java/lang/StringLatin1", "inflate", "([BI[BII)V"⟩), (.instantiable "java/lang/String" 4), (.instanceMethod ⟨"java/lang/String", "<init>", "(Ljava/lang/StringBuilder;)V"⟩), (.code ⟨"java/lang/String", "<init>", "(Ljava/lang/StringBuilder;)V"⟩ prog_26_method_53_code 2 none), (.methodLink "java/lang/String" 489 ⟨"java/lang/String", "<init>", "(Ljava/lang/AbstractStringBuilder;Ljava/lang/Void;)V"⟩), (.instanceMethod ⟨"java/lang/String", "<init>", "(Ljava/lang/AbstractStringBuilder;Ljava/lang/Void;)V"⟩), (.code ⟨"java/lang/String", "<init>", "(Ljava/lang/AbstractStringBuilder;Ljava/lang/Void;)V"⟩ prog_26_method_150_code 5 none), (.methodLink "java/lang/String" 1 objectInit), (.methodLink "java/lang/String" 552 ⟨"java/lang/AbstractStringBuilder", "getValue", "()[B"⟩), (.methodLink "java/lang/String" 549 ⟨"java/lang/AbstractStringBuilder", "length", "()I"⟩), (.methodLink "java/lang/String" 1047 ⟨"java/lang/AbstractStringBuilder", "isLatin1", "()Z"⟩), (.methodLink "java/lang/String" 54 ⟨"java/util/Arrays", "copyOfRange", "([BII)[B"⟩), (.methodLink "java/lang/String" 1051 ⟨"java/lang/StringUTF16", "compress", "([BII)[B"⟩), (.methodLink "java/lang/String" 47 ⟨"java/lang/StringUTF16", "coderFromArrayLen", "([BI)B"⟩), (.fieldLink "java/lang/String" 9 "java/lang/String" "value" "[B"), (.fieldLink "java/lang/String" 15 "java/lang/String" "coder" "B"), (.instanceMethod ⟨"java/lang/String", "indexOf", "(I)I"⟩), (.selects "java/lang/String" ⟨"java/lang/String", "indexOf", "(I)I"⟩ ⟨"java/lang/String", "indexOf", "(I)I"⟩), (.code ⟨"java/lang/String", "indexOf", "(I)I"⟩ prog_26_method_79_code 2 (some .int)), (.methodLink "java/lang/String" 633 ⟨"java/lang/String", "indexOf", "(II)I"⟩), (.instanceMethod ⟨"java/lang/String", "indexOf", "(II)I"⟩), (.selects "java/lang/String" ⟨"java/lang/String", "indexOf", "(II)I"⟩ ⟨"java/lang/String", "indexOf", "(II)I"⟩), (.code ⟨"java/lang/String", "indexOf", "(II)I"⟩ prog_26_method_80_code 3 (some .int)), (.methodLink "java/lang/String" 505 ⟨"java/lang/String", "length", "()I"⟩), (.methodLink "java/lang/String" 637 ⟨"java/lang/StringLatin1", "indexOf", "([BIII)I"⟩), (.static ⟨"java/lang/StringLatin1", "indexOf", "([BIII)I"⟩), (.code ⟨"java/lang/StringLatin1", "indexOf", "([BIII)I"⟩ prog_28_method_22_code 4 (some .int)), (.methodLink "java/lang/StringLatin1" 88 ⟨"java/lang/StringLatin1", "canEncode", "(I)Z"⟩), (.static ⟨"java/lang/StringLatin1", "canEncode", "(I)Z"⟩), (.code ⟨"java/lang/StringLatin1", "canEncode", "(I)Z"⟩ prog_28_method_4_code 1 (some .boolean)), (.methodLink "java/lang/StringLatin1" 92 ⟨"java/lang/Math", "max", "(II)I"⟩), (.methodLink "java/lang/StringLatin1" 38 ⟨"java/lang/Math", "min", "(II)I"⟩), (.methodLink "java/lang/StringLatin1" 95 ⟨"java/lang/StringLatin1", "indexOfChar", "([BIII)I"⟩), (.static ⟨"java/lang/StringLatin1", "indexOfChar", "([BIII)I"⟩), (.code ⟨"java/lang/StringLatin1", "indexOfChar", "([BIII)I"⟩ prog_28_method_23_code 6 (some .int)), (.methodLink "java/lang/String" 640 ⟨"java/lang/StringUTF16", "indexOf", "([BIII)I"⟩)]
theorem j_Mq_0 : (.methodLink "VolumeTurnerModel" 220 y_Mo_adm) ∈ K_Mq := List.mem_of_getElem? (i := 0) rfl
theorem j_Mq_1 : (.instanceMethod y_Mo_adm) ∈ K_Mq := List.mem_of_getElem? (i := 1) rfl
theorem j_Mq_2 : (.code y_Mo_adm prog_14_method_42_code 9 (some .int)) ∈ K_Mq := List.mem_of_getElem? (i := 2) rfl
theorem j_Mq_3 : (.selects "VolumeTurnerModel" y_Mo_adm y_Mo_adm) ∈ K_Mq := List.mem_of_getElem? (i := 3) rfl
theorem j_Mq_4 : (.initialized "java/lang/String") ∈ K_Mq := List.mem_of_getElem? (i := 4) rfl
theorem j_Mq_5 : (.initialized "jdk/internal/util/Preconditions") ∈ K_Mq := List.mem_of_getElem? (i := 5) rfl
theorem j_Mq_6 : (.initialized "java/lang/StringLatin1") ∈ K_Mq := List.mem_of_getElem? (i := 6) rfl
theorem j_Mq_7 : (.instanceMethod ⟨"java/lang/String", "length", "()I"⟩) ∈ K_Mq := List.mem_of_getElem? (i := 7) rfl
theorem j_Mq_8 : (.selects "java/lang/String" ⟨"java/lang/String", "length", "()I"⟩ ⟨"java/lang/String", "length", "()I"⟩) ∈ K_Mq := List.mem_of_getElem? (i := 8) rfl
theorem j_Mq_9 : (.code ⟨"java/lang/String", "length", "()I"⟩ prog_26_method_54_code 1 (some .int)) ∈ K_Mq := List.mem_of_getElem? (i := 9) rfl
theorem j_Mq_10 : (.methodLink "java/lang/String" 335 ⟨"java/lang/String", "coder", "()B"⟩) ∈ K_Mq := List.mem_of_getElem? (i := 10) rfl
theorem j_Mq_11 : (.instanceMethod ⟨"java/lang/String", "coder", "()B"⟩) ∈ K_Mq := List.mem_of_getElem? (i := 11) rfl
theorem j_Mq_12 : (.selects "java/lang/String" ⟨"java/lang/String", "coder", "()B"⟩ ⟨"java/lang/String", "coder", "()B"⟩) ∈ K_Mq := List.mem_of_getElem? (i := 12) rfl
theorem j_Mq_13 : (.code ⟨"java/lang/String", "coder", "()B"⟩ prog_26_method_152_code 1 (some .byte)) ∈ K_Mq := List.mem_of_getElem? (i := 13) rfl
theorem j_Mq_14 : (.fieldLink "java/lang/String" 38 "java/lang/String" "COMPACT_STRINGS" "Z") ∈ K_Mq := List.mem_of_getElem? (i := 14) rfl
theorem j_Mq_15 : (.instanceMethod ⟨"java/lang/String", "charAt", "(I)C"⟩) ∈ K_Mq := List.mem_of_getElem? (i := 15) rfl
theorem j_Mq_16 : (.selects "java/lang/String" ⟨"java/lang/String", "charAt", "(I)C"⟩ ⟨"java/lang/String", "charAt", "(I)C"⟩) ∈ K_Mq := List.mem_of_getElem? (i := 16) rfl
theorem j_Mq_17 : (.code ⟨"java/lang/String", "charAt", "(I)C"⟩ prog_26_method_56_code 2 (some .char)) ∈ K_Mq := List.mem_of_getElem? (i := 17) rfl
theorem j_Mq_18 : (.methodLink "java/lang/String" 492 ⟨"java/lang/String", "isLatin1", "()Z"⟩) ∈ K_Mq := List.mem_of_getElem? (i := 18) rfl
theorem j_Mq_19 : (.instanceMethod ⟨"java/lang/String", "isLatin1", "()Z"⟩) ∈ K_Mq := List.mem_of_getElem? (i := 19) rfl
theorem j_Mq_20 : (.selects "java/lang/String" ⟨"java/lang/String", "isLatin1", "()Z"⟩ ⟨"java/lang/String", "isLatin1", "()Z"⟩) ∈ K_Mq := List.mem_of_getElem? (i := 20) rfl
theorem j_Mq_21 : (.code ⟨"java/lang/String", "isLatin1", "()Z"⟩ prog_26_method_154_code 1 (some .boolean)) ∈ K_Mq := List.mem_of_getElem? (i := 21) rfl
theorem j_Mq_22 : (.methodLink "java/lang/String" 495 ⟨"java/lang/StringLatin1", "charAt", "([BI)C"⟩) ∈ K_Mq := List.mem_of_getElem? (i := 22) rfl
theorem j_Mq_23 : (.static ⟨"java/lang/StringLatin1", "charAt", "([BI)C"⟩) ∈ K_Mq := List.mem_of_getElem? (i := 23) rfl
theorem j_Mq_24 : (.code ⟨"java/lang/StringLatin1", "charAt", "([BI)C"⟩ prog_28_method_2_code 2 (some .char)) ∈ K_Mq := List.mem_of_getElem? (i := 24) rfl
theorem j_Mq_25 : (.methodLink "java/lang/StringLatin1" 9 ⟨"java/lang/String", "checkIndex", "(II)V"⟩) ∈ K_Mq := List.mem_of_getElem? (i := 25) rfl
theorem j_Mq_26 : (.static ⟨"java/lang/String", "checkIndex", "(II)V"⟩) ∈ K_Mq := List.mem_of_getElem? (i := 26) rfl
theorem j_Mq_27 : (.code ⟨"java/lang/String", "checkIndex", "(II)V"⟩ prog_26_method_155_code 2 none) ∈ K_Mq := List.mem_of_getElem? (i := 27) rfl
theorem j_Mq_28 : (.fieldLink "java/lang/String" 1053 "jdk/internal/util/Preconditions" "SIOOBE_FORMATTER" "Ljava/util/function/BiFunction;") ∈ K_Mq := List.mem_of_getElem? (i := 28) rfl
theorem j_Mq_29 : (.methodLink "java/lang/String" 1059 ⟨"jdk/internal/util/Preconditions", "checkIndex", "(IILjava/util/function/BiFunction;)I"⟩) ∈ K_Mq := List.mem_of_getElem? (i := 29) rfl
theorem j_Mq_30 : (.static ⟨"jdk/internal/util/Preconditions", "checkIndex", "(IILjava/util/function/BiFunction;)I"⟩) ∈ K_Mq := List.mem_of_getElem? (i := 30) rfl
theorem j_Mq_31 : (.code ⟨"jdk/internal/util/Preconditions", "checkIndex", "(IILjava/util/function/BiFunction;)I"⟩ prog_35_method_11_code 3 (some .int)) ∈ K_Mq := List.mem_of_getElem? (i := 31) rfl
theorem j_Mq_65 : (.fieldLink "java/lang/String" 9 "java/lang/String" "value" "[B") ∈ K_Mq := List.mem_of_getElem? (i := 65) rfl
theorem j_Mq_66 : (.fieldLink "java/lang/String" 15 "java/lang/String" "coder" "B") ∈ K_Mq := List.mem_of_getElem? (i := 66) rfl
theorem j_Mq_67 : (.instanceMethod ⟨"java/lang/String", "indexOf", "(I)I"⟩) ∈ K_Mq := List.mem_of_getElem? (i := 67) rfl
theorem j_Mq_68 : (.selects "java/lang/String" ⟨"java/lang/String", "indexOf", "(I)I"⟩ ⟨"java/lang/String", "indexOf", "(I)I"⟩) ∈ K_Mq := List.mem_of_getElem? (i := 68) rfl
theorem j_Mq_69 : (.code ⟨"java/lang/String", "indexOf", "(I)I"⟩ prog_26_method_79_code 2 (some .int)) ∈ K_Mq := List.mem_of_getElem? (i := 69) rfl
theorem j_Mq_70 : (.methodLink "java/lang/String" 633 ⟨"java/lang/String", "indexOf", "(II)I"⟩) ∈ K_Mq := List.mem_of_getElem? (i := 70) rfl
theorem j_Mq_71 : (.instanceMethod ⟨"java/lang/String", "indexOf", "(II)I"⟩) ∈ K_Mq := List.mem_of_getElem? (i := 71) rfl
theorem j_Mq_72 : (.selects "java/lang/String" ⟨"java/lang/String", "indexOf", "(II)I"⟩ ⟨"java/lang/String", "indexOf", "(II)I"⟩) ∈ K_Mq := List.mem_of_getElem? (i := 72) rfl
theorem j_Mq_73 : (.code ⟨"java/lang/String", "indexOf", "(II)I"⟩ prog_26_method_80_code 3 (some .int)) ∈ K_Mq := List.mem_of_getElem? (i := 73) rfl
theorem j_Mq_74 : (.methodLink "java/lang/String" 505 ⟨"java/lang/String", "length", "()I"⟩) ∈ K_Mq := List.mem_of_getElem? (i := 74) rfl
theorem j_Mq_75 : (.methodLink "java/lang/String" 637 ⟨"java/lang/StringLatin1", "indexOf", "([BIII)I"⟩) ∈ K_Mq := List.mem_of_getElem? (i := 75) rfl
theorem j_Mq_76 : (.static ⟨"java/lang/StringLatin1", "indexOf", "([BIII)I"⟩) ∈ K_Mq := List.mem_of_getElem? (i := 76) rfl
theorem j_Mq_77 : (.code ⟨"java/lang/StringLatin1", "indexOf", "([BIII)I"⟩ prog_28_method_22_code 4 (some .int)) ∈ K_Mq := List.mem_of_getElem? (i := 77) rfl
theorem j_Mq_78 : (.methodLink "java/lang/StringLatin1" 88 ⟨"java/lang/StringLatin1", "canEncode", "(I)Z"⟩) ∈ K_Mq := List.mem_of_getElem? (i := 78) rfl
theorem j_Mq_79 : (.static ⟨"java/lang/StringLatin1", "canEncode", "(I)Z"⟩) ∈ K_Mq := List.mem_of_getElem? (i := 79) rfl
theorem j_Mq_80 : (.code ⟨"java/lang/StringLatin1", "canEncode", "(I)Z"⟩ prog_28_method_4_code 1 (some .boolean)) ∈ K_Mq := List.mem_of_getElem? (i := 80) rfl
theorem j_Mq_81 : (.methodLink "java/lang/StringLatin1" 92 ⟨"java/lang/Math", "max", "(II)I"⟩) ∈ K_Mq := List.mem_of_getElem? (i := 81) rfl
theorem j_Mq_82 : (.methodLink "java/lang/StringLatin1" 38 ⟨"java/lang/Math", "min", "(II)I"⟩) ∈ K_Mq := List.mem_of_getElem? (i := 82) rfl
theorem j_Mq_83 : (.methodLink "java/lang/StringLatin1" 95 ⟨"java/lang/StringLatin1", "indexOfChar", "([BIII)I"⟩) ∈ K_Mq := List.mem_of_getElem? (i := 83) rfl
theorem j_Mq_84 : (.static ⟨"java/lang/StringLatin1", "indexOfChar", "([BIII)I"⟩) ∈ K_Mq := List.mem_of_getElem? (i := 84) rfl
theorem j_Mq_85 : (.code ⟨"java/lang/StringLatin1", "indexOfChar", "([BIII)I"⟩ prog_28_method_23_code 6 (some .int)) ∈ K_Mq := List.mem_of_getElem? (i := 85) rfl
def V_Mq : List Cond := K_Mq ++ V_Mo
theorem u_Mq_Mo : ∀ w ∈ V_Mo, w ∈ V_Mq := fun _ h => List.mem_append_right _ h
theorem u_Mq_J : ∀ w ∈ V_J, w ∈ V_Mq := fun w h => u_Mq_Mo w (u_Mo_J w h)
theorem k_Mq_0 : (.methodLink "VolumeTurnerModel" 220 y_Mo_adm) ∈ V_Mq := List.mem_append_left _ j_Mq_0
theorem k_Mq_1 : (.instanceMethod y_Mo_adm) ∈ V_Mq := List.mem_append_left _ j_Mq_1
theorem k_Mq_2 : (.code y_Mo_adm prog_14_method_42_code 9 (some .int)) ∈ V_Mq := List.mem_append_left _ j_Mq_2
theorem k_Mq_3 : (.selects "VolumeTurnerModel" y_Mo_adm y_Mo_adm) ∈ V_Mq := List.mem_append_left _ j_Mq_3
theorem k_Mq_4 : (.initialized "java/lang/String") ∈ V_Mq := List.mem_append_left _ j_Mq_4
theorem k_Mq_5 : (.initialized "jdk/internal/util/Preconditions") ∈ V_Mq := List.mem_append_left _ j_Mq_5
theorem k_Mq_6 : (.initialized "java/lang/StringLatin1") ∈ V_Mq := List.mem_append_left _ j_Mq_6
theorem k_Mq_7 : (.instanceMethod ⟨"java/lang/String", "length", "()I"⟩) ∈ V_Mq := List.mem_append_left _ j_Mq_7
theorem k_Mq_8 : (.selects "java/lang/String" ⟨"java/lang/String", "length", "()I"⟩ ⟨"java/lang/String", "length", "()I"⟩) ∈ V_Mq := List.mem_append_left _ j_Mq_8
theorem k_Mq_9 : (.code ⟨"java/lang/String", "length", "()I"⟩ prog_26_method_54_code 1 (some .int)) ∈ V_Mq := List.mem_append_left _ j_Mq_9
theorem k_Mq_10 : (.methodLink "java/lang/String" 335 ⟨"java/lang/String", "coder", "()B"⟩) ∈ V_Mq := List.mem_append_left _ j_Mq_10
theorem k_Mq_11 : (.instanceMethod ⟨"java/lang/String", "coder", "()B"⟩) ∈ V_Mq := List.mem_append_left _ j_Mq_11
theorem k_Mq_12 : (.selects "java/lang/String" ⟨"java/lang/String", "coder", "()B"⟩ ⟨"java/lang/String", "coder", "()B"⟩) ∈ V_Mq := List.mem_append_left _ j_Mq_12
theorem k_Mq_13 : (.code ⟨"java/lang/String", "coder", "()B"⟩ prog_26_method_152_code 1 (some .byte)) ∈ V_Mq := List.mem_append_left _ j_Mq_13
theorem k_Mq_14 : (.fieldLink "java/lang/String" 38 "java/lang/String" "COMPACT_STRINGS" "Z") ∈ V_Mq := List.mem_append_left _ j_Mq_14
theorem k_Mq_15 : (.instanceMethod ⟨"java/lang/String", "charAt", "(I)C"⟩) ∈ V_Mq := List.mem_append_left _ j_Mq_15
theorem k_Mq_16 : (.selects "java/lang/String" ⟨"java/lang/String", "charAt", "(I)C"⟩ ⟨"java/lang/String", "charAt", "(I)C"⟩) ∈ V_Mq := List.mem_append_left _ j_Mq_16
theorem k_Mq_17 : (.code ⟨"java/lang/String", "charAt", "(I)C"⟩ prog_26_method_56_code 2 (some .char)) ∈ V_Mq := List.mem_append_left _ j_Mq_17
theorem k_Mq_18 : (.methodLink "java/lang/String" 492 ⟨"java/lang/String", "isLatin1", "()Z"⟩) ∈ V_Mq := List.mem_append_left _ j_Mq_18
theorem k_Mq_19 : (.instanceMethod ⟨"java/lang/String", "isLatin1", "()Z"⟩) ∈ V_Mq := List.mem_append_left _ j_Mq_19
theorem k_Mq_20 : (.selects "java/lang/String" ⟨"java/lang/String", "isLatin1", "()Z"⟩ ⟨"java/lang/String", "isLatin1", "()Z"⟩) ∈ V_Mq := List.mem_append_left _ j_Mq_20
theorem k_Mq_21 : (.code ⟨"java/lang/String", "isLatin1", "()Z"⟩ prog_26_method_154_code 1 (some .boolean)) ∈ V_Mq := List.mem_append_left _ j_Mq_21
theorem k_Mq_22 : (.methodLink "java/lang/String" 495 ⟨"java/lang/StringLatin1", "charAt", "([BI)C"⟩) ∈ V_Mq := List.mem_append_left _ j_Mq_22
theorem k_Mq_23 : (.static ⟨"java/lang/StringLatin1", "charAt", "([BI)C"⟩) ∈ V_Mq := List.mem_append_left _ j_Mq_23
theorem k_Mq_24 : (.code ⟨"java/lang/StringLatin1", "charAt", "([BI)C"⟩ prog_28_method_2_code 2 (some .char)) ∈ V_Mq := List.mem_append_left _ j_Mq_24
theorem k_Mq_25 : (.methodLink "java/lang/StringLatin1" 9 ⟨"java/lang/String", "checkIndex", "(II)V"⟩) ∈ V_Mq := List.mem_append_left _ j_Mq_25
theorem k_Mq_26 : (.static ⟨"java/lang/String", "checkIndex", "(II)V"⟩) ∈ V_Mq := List.mem_append_left _ j_Mq_26
theorem k_Mq_27 : (.code ⟨"java/lang/String", "checkIndex", "(II)V"⟩ prog_26_method_155_code 2 none) ∈ V_Mq := List.mem_append_left _ j_Mq_27
theorem k_Mq_28 : (.fieldLink "java/lang/String" 1053 "jdk/internal/util/Preconditions" "SIOOBE_FORMATTER" "Ljava/util/function/BiFunction;") ∈ V_Mq := List.mem_append_left _ j_Mq_28
theorem k_Mq_29 : (.methodLink "java/lang/String" 1059 ⟨"jdk/internal/util/Preconditions", "checkIndex", "(IILjava/util/function/BiFunction;)I"⟩) ∈ V_Mq := List.mem_append_left _ j_Mq_29
theorem k_Mq_30 : (.static ⟨"jdk/internal/util/Preconditions", "checkIndex", "(IILjava/util/function/BiFunction;)I"⟩) ∈ V_Mq := List.mem_append_left _ j_Mq_30
theorem k_Mq_31 : (.code ⟨"jdk/internal/util/Preconditions", "checkIndex", "(IILjava/util/function/BiFunction;)I"⟩ prog_35_method_11_code 3 (some .int)) ∈ V_Mq := List.mem_append_left _ j_Mq_31
theorem k_Mq_65 : (.fieldLink "java/lang/String" 9 "java/lang/String" "value" "[B") ∈ V_Mq := List.mem_append_left _ j_Mq_65
theorem k_Mq_66 : (.fieldLink "java/lang/String" 15 "java/lang/String" "coder" "B") ∈ V_Mq := List.mem_append_left _ j_Mq_66
theorem k_Mq_67 : (.instanceMethod ⟨"java/lang/String", "indexOf", "(I)I"⟩) ∈ V_Mq := List.mem_append_left _ j_Mq_67
theorem k_Mq_68 : (.selects "java/lang/String" ⟨"java/lang/String", "indexOf", "(I)I"⟩ ⟨"java/lang/String", "indexOf", "(I)I"⟩) ∈ V_Mq := List.mem_append_left _ j_Mq_68
theorem k_Mq_69 : (.code ⟨"java/lang/String", "indexOf", "(I)I"⟩ prog_26_method_79_code 2 (some .int)) ∈ V_Mq := List.mem_append_left _ j_Mq_69
theorem k_Mq_70 : (.methodLink "java/lang/String" 633 ⟨"java/lang/String", "indexOf", "(II)I"⟩) ∈ V_Mq := List.mem_append_left _ j_Mq_70
theorem k_Mq_71 : (.instanceMethod ⟨"java/lang/String", "indexOf", "(II)I"⟩) ∈ V_Mq := List.mem_append_left _ j_Mq_71
theorem k_Mq_72 : (.selects "java/lang/String" ⟨"java/lang/String", "indexOf", "(II)I"⟩ ⟨"java/lang/String", "indexOf", "(II)I"⟩) ∈ V_Mq := List.mem_append_left _ j_Mq_72
theorem k_Mq_73 : (.code ⟨"java/lang/String", "indexOf", "(II)I"⟩ prog_26_method_80_code 3 (some .int)) ∈ V_Mq := List.mem_append_left _ j_Mq_73
theorem k_Mq_74 : (.methodLink "java/lang/String" 505 ⟨"java/lang/String", "length", "()I"⟩) ∈ V_Mq := List.mem_append_left _ j_Mq_74
theorem k_Mq_75 : (.methodLink "java/lang/String" 637 ⟨"java/lang/StringLatin1", "indexOf", "([BIII)I"⟩) ∈ V_Mq := List.mem_append_left _ j_Mq_75
theorem k_Mq_76 : (.static ⟨"java/lang/StringLatin1", "indexOf", "([BIII)I"⟩) ∈ V_Mq := List.mem_append_left _ j_Mq_76
theorem k_Mq_77 : (.code ⟨"java/lang/StringLatin1", "indexOf", "([BIII)I"⟩ prog_28_method_22_code 4 (some .int)) ∈ V_Mq := List.mem_append_left _ j_Mq_77
theorem k_Mq_78 : (.methodLink "java/lang/StringLatin1" 88 ⟨"java/lang/StringLatin1", "canEncode", "(I)Z"⟩) ∈ V_Mq := List.mem_append_left _ j_Mq_78
theorem k_Mq_79 : (.static ⟨"java/lang/StringLatin1", "canEncode", "(I)Z"⟩) ∈ V_Mq := List.mem_append_left _ j_Mq_79
theorem k_Mq_80 : (.code ⟨"java/lang/StringLatin1", "canEncode", "(I)Z"⟩ prog_28_method_4_code 1 (some .boolean)) ∈ V_Mq := List.mem_append_left _ j_Mq_80
theorem k_Mq_81 : (.methodLink "java/lang/StringLatin1" 92 ⟨"java/lang/Math", "max", "(II)I"⟩) ∈ V_Mq := List.mem_append_left _ j_Mq_81
theorem k_Mq_82 : (.methodLink "java/lang/StringLatin1" 38 ⟨"java/lang/Math", "min", "(II)I"⟩) ∈ V_Mq := List.mem_append_left _ j_Mq_82
theorem k_Mq_83 : (.methodLink "java/lang/StringLatin1" 95 ⟨"java/lang/StringLatin1", "indexOfChar", "([BIII)I"⟩) ∈ V_Mq := List.mem_append_left _ j_Mq_83
theorem k_Mq_84 : (.static ⟨"java/lang/StringLatin1", "indexOfChar", "([BIII)I"⟩) ∈ V_Mq := List.mem_append_left _ j_Mq_84
theorem k_Mq_85 : (.code ⟨"java/lang/StringLatin1", "indexOfChar", "([BIII)I"⟩ prog_28_method_23_code 6 (some .int)) ∈ V_Mq := List.mem_append_left _ j_Mq_85
theorem gk_Mq : ∀ w ∈ K_Mq, goodWord w = true := List.all_eq_true.mp (by decide +kernel)
theorem good_Mq : GoodIn V_Mq V_Mq := fun w h => by
  refine ⟨h, ?_⟩
  rcases List.mem_append.mp h with q | q
  · exact good_of_word (gk_Mq w q)
  · exact (good_Mo w q).2
theorem ps_ofE2 {s : State} {H : Heap} {D : va_G} {W : va_W} {tys : List (ClassId × FieldType)} {As : List Value} {A : Nat → Prop} {E : State → Prop} (hEs : ∀ U V : State, V.vm = U.vm → V.heap = U.heap → E U → E V) (hEw : ∀ U : State, U.heap = H → s.WarmedH U.vm → E U) (hP : va_P D classes W H) (hK : va_K D classes tys s) (hD : va_D A W) : PreS s H (va_Pc As (fun U => U.heap.size = H.size ∧ at_ D (fun _ => True) W tys U ∧ E U)) As :=
  ⟨fun a U g mk q => by obtain ⟨q0, q1, ⟨qP, qK, qD⟩, qE⟩ := q; exact ⟨q0, q1, ⟨qP, va_K.moved (u := U) (U := U.calling g mk a) (Vm.Alike.refl U.vm) qK, qD⟩, hEs U _ rfl rfl qE⟩, fun U hU hW => ⟨rfl, by rw [hU], ⟨by rw [hU]; exact hP, va_K.moved hW.alike hK, hD.weaken (fun _ _ _ _ => trivial)⟩, hEw U hU hW⟩⟩
