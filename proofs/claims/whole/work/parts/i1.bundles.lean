/-! What stood at the law's entry stands. -/
def le_E (s0 : State) (A : Nat → Prop) (U : State) : Prop := s0.WarmedH U.vm ∧ s0.heap.size ≤ U.heap.size ∧ (∀ q : Nat, q < s0.heap.size → U.heap[q]? = s0.heap[q]?) ∧ ∀ q : Nat, A q → s0.heap.size ≤ q
theorem le_same {s0 : State} (A : Nat → Prop) (U V : State) (h1 : V.vm = U.vm) (h2 : V.heap = U.heap) (h : le_E s0 A U) : le_E s0 A V := by
  obtain ⟨a, b, c, d⟩ := h
  exact ⟨by rw [h1]; exact a, by rw [h2]; exact b, by rw [h2]; exact c, d⟩
theorem le_mono {s0 : State} (A B : Nat → Prop) (U : State) (hB : ∀ q, B q → A q) (h : le_E s0 A U) : le_E s0 B U := ⟨h.1, h.2.1, h.2.2.1, fun q z => h.2.2.2 q (hB q z)⟩
theorem le_kept {s0 : State} (A : Nat → Prop) (s U : State) (H : Heap) (locs : List Loc) (h : le_E s0 A s) (hS : va_S A s.heap H locs) (hU : U.heap = H) (hW : s.WarmedH U.vm) : le_E s0 A U := by
  obtain ⟨a, b, c, d⟩ := h
  refine ⟨State.WarmedH.trans a hW, by rw [hU]; exact Nat.le_trans b hS.1, fun q hq => ?_, d⟩
  rw [hU, hS.2.1 q (Nat.lt_of_lt_of_le hq b) (fun z => absurd hq (Nat.not_lt.mpr (d q z)))]
  exact c q hq
abbrev le_A (s0 : State) : Nat → Prop := fun q => s0.heap.size ≤ q
theorem le_Z {s0 U : State} {A : Nat → Prop} {C n d : String} {v : Value} (hE : le_E s0 A U) (h : va_Z C n d v (le_A s0) s0 s0.heap) : va_Z C n d v A U U.heap := ((h.narrow hE.2.2.2).moved hE.1.alike).kept (fun a ha _ => hE.2.2.1 a ha)
theorem le_Zq {s0 U : State} {A : Nat → Prop} {C n d : String} (hE : le_E s0 A U) (h : va_Zq C n d (le_A s0) s0 s0.heap) : va_Zq C n d A U U.heap := ((h.narrow hE.2.2.2).moved hE.1.alike).kept (fun a ha _ => hE.2.2.1 a ha)
theorem le_T {s0 U : State} {A : Nat → Prop} {ty : FieldType} {t N : Nat} {f : Nat → Value} (hE : le_E s0 A U) (h : va_T ty t N f (le_A s0) s0 s0.heap) : va_T ty t N f A U U.heap := ((h.narrow hE.2.2.2).moved hE.1.alike).kept (fun a ha _ => hE.2.2.1 a ha)
theorem le_OF {s0 U : State} {A : Nat → Prop} {p n d : String} {v : Value} {t : Nat} (hE : le_E s0 A U) (h : va_OF p n d v t (le_A s0) s0 s0.heap) : va_OF p n d v t A U U.heap := ((h.narrow hE.2.2.2).moved hE.1.alike).kept (fun a ha _ => hE.2.2.1 a ha)
theorem le_O {s0 U : State} {A : Nat → Prop} {C : String} {t : Nat} (hE : le_E s0 A U) (h : va_O C t (le_A s0) s0 s0.heap) : va_O C t A U U.heap := ((h.narrow hE.2.2.2).moved hE.1.alike).kept (fun a ha _ => hE.2.2.1 a ha)
theorem le_kp {s0 U : State} {A : Nat → Prop} (hE : le_E s0 A U) : x_kept s0.heap U.heap := fun q cell hc _ => by rw [hE.2.2.1 q (Array.getElem?_eq_some_iff.mp hc).1]; exact hc
/-- a constant text at the start: its address, its bytes' -/
def le_S (s0 : State) (own : String) (k : Nat) (tx : String) (q v : Nat) (L : List Int32) : Prop := vk_R own k tx q s0 ∧ va_O "java/lang/String" q (le_A s0) s0 s0.heap ∧ va_OF "java/lang/String" "coder" "B" (.int 0) q (le_A s0) s0 s0.heap ∧ va_OF "java/lang/String" "value" "[B" (.ref v) q (le_A s0) s0 s0.heap ∧ va_T .byte v L.length (fun j => .int (L.getD j 0)) (le_A s0) s0 s0.heap
theorem le_sS {s0 : State} {own tx : String} {k q v : Nat} {L : List Int32} (h : le_S s0 own k tx q v L) (hL : ∀ j : Nat, j < L.length → ∃ b : Nat, b < 128 ∧ L.getD j 0 = nI b) : ls_S (le_E s0) q v L.length (fun j => L.getD j 0) := by
  obtain ⟨-, h2, h3, h4, h5⟩ := h
  refine ⟨fun A U hE => le_OF hE h4, fun A U hE => le_OF hE h3, fun A U hE => le_T hE h5, fun A U hE => ?_, hL⟩
  obtain ⟨cell, g1, g2, g3, -⟩ := le_O hE h2
  exact ⟨cell, g1, g2, g3⟩
theorem j_ch : ∀ b : Nat, b < 128 → ((nI b &&& 255).toUInt32 % 65536).toInt32 = nI b := by decide +kernel
theorem j_at {L : List Int32} {c r : Int32} (hL : ∀ j : Nat, j < L.length → ∃ b : Nat, b < 128 ∧ L.getD j 0 = nI b) (h : str_at L c = some r) : vp_in c L.length ∧ ((L.getD c.toNatClampNeg 0 &&& 255).toUInt32 % 65536).toInt32 = r := by
  unfold str_at at h
  by_cases hc : lf_in c L.length
  · rw [if_pos hc] at h
    have hlt : c.toNatClampNeg < L.length := Nat.not_le.mp (fun z => hc (Or.inr z))
    obtain ⟨b, hb, e⟩ := hL _ hlt
    refine ⟨hc, ?_⟩
    rw [← Option.some.inj h, e]
    exact j_ch b hb
  · rw [if_neg hc] at h; cases h
theorem j_i8 : ∀ b : Nat, b < 128 → ∀ d : Nat, d < 256 → ((nI b = (nI d).toInt8.toInt32) ↔ nI b = nI d) := by decide +kernel
theorem j_ixs {L : List Int32} {c : Int32} (hL : ∀ j : Nat, j < L.length → ∃ b : Nat, b < 128 ∧ L.getD j 0 = nI b) {d : Nat} (hd : d < 256) (hc : c = nI d) : ∀ (l : List Int32) (j : Nat), L.drop j = l → j_ix (fun k => L.getD k 0) c.toInt8.toInt32 l.length j = str_ixF c l (nI j) := by
  intro l
  induction l with
  | nil => intro j h; rfl
  | cons a l ih =>
    intro j h
    have hlt : j < L.length := by
      rcases Nat.lt_or_ge j L.length with z | z
      · exact z
      · rw [List.drop_eq_nil_of_le z] at h; cases h
    have e0 : L.getD j 0 = a := by
      have := List.drop_eq_getElem_cons hlt
      rw [h] at this
      rw [List.getD_eq_getElem?_getD, List.getElem?_eq_getElem hlt]
      exact (List.cons.inj this).1.symm
    have e1 : L.drop (j + 1) = l := by
      have := List.drop_eq_getElem_cons hlt
      rw [h] at this
      exact (List.cons.inj this).2.symm
    obtain ⟨b, hb, eb⟩ := hL j hlt
    have hi := j_i8 b hb d hd
    show j_ix _ _ (l.length + 1) j = _
    rw [j_ix, str_ixF, e0, nI_1 j, ih (j + 1) e1]
    rw [e0] at eb
    rw [eb, hc]
    by_cases z : nI b = nI d
    · rw [if_pos (hi.mpr z), if_pos z]
    · rw [if_neg (fun y => z (hi.mp y)), if_neg z]
theorem j_none {L : List Int32} {c : Int32} (hL : ∀ j : Nat, j < L.length → ∃ b : Nat, b < 128 ∧ L.getD j 0 = nI b) (hc : c < 0 ∨ 255 < c) : ∀ (l : List Int32) (j : Nat) (k : Int32), L.drop j = l → str_ixF c l k = -1 := by
  intro l
  induction l with
  | nil => intro j k h; rfl
  | cons a l ih =>
    intro j k h
    have hlt : j < L.length := by
      rcases Nat.lt_or_ge j L.length with z | z
      · exact z
      · rw [List.drop_eq_nil_of_le z] at h; cases h
    have h9 := List.drop_eq_getElem_cons hlt
    rw [h] at h9
    have e0 : L.getD j 0 = a := by
      rw [List.getD_eq_getElem?_getD, List.getElem?_eq_getElem hlt]
      exact (List.cons.inj h9).1.symm
    obtain ⟨b, hb, eb⟩ := hL j hlt
    rw [e0] at eb
    have hne : ¬ a = c := by
      intro z
      rw [eb] at z
      rcases hc with q | q
      · rw [← z] at q; exact absurd q (nI_pos (by omega))
      · rw [← z] at q; exact absurd (show nI 255 < nI b from q) (nI_nlt (a := 255) (b := b) (by omega) (by omega))
    rw [str_ixF, if_neg hne]
    exact ih (j + 1) _ (List.cons.inj h9).2.symm
theorem j_ixe {L : List Int32} {c : Int32} (hL : ∀ j : Nat, j < L.length → ∃ b : Nat, b < 128 ∧ L.getD j 0 = nI b) : (if c < 0 then -1 else if 255 < c then -1 else j_ix (fun k => L.getD k 0) c.toInt8.toInt32 L.length 0) = str_ix L c := by
  unfold str_ix
  by_cases h0 : c < 0
  · rw [if_pos h0]; exact (j_none hL (Or.inl h0) L 0 0 rfl).symm
  · rw [if_neg h0]
    by_cases h1 : 255 < c
    · rw [if_pos h1]; exact (j_none hL (Or.inr h1) L 0 0 rfl).symm
    · rw [if_neg h1]
      obtain ⟨d, hd, rfl⟩ := nI_of h0
      have hd2 : d < 256 := by
        rcases Nat.lt_or_ge d 256 with z | z
        · exact z
        · exact absurd (nI_lt (a := 255) (b := d) (by omega) hd) h1
      exact j_ixs hL hd2 rfl L 0 rfl
theorem ks_Mq : ∀ w ∈ K_S, w ∈ V_Mq := List.forall_mem_cons.mpr ⟨k_Mq_14, List.forall_mem_cons.mpr ⟨k_Mq_66, List.forall_mem_cons.mpr ⟨k_Mq_65, List.forall_mem_cons.mpr ⟨k_Mq_10, List.forall_mem_cons.mpr ⟨k_Mq_4, List.forall_mem_cons.mpr ⟨k_Mq_13, List.forall_mem_cons.mpr ⟨k_Mq_11, List.forall_mem_cons.mpr ⟨k_Mq_12, List.forall_mem_cons.mpr ⟨k_Mq_28, List.forall_mem_cons.mpr ⟨k_Mq_29, List.forall_mem_cons.mpr ⟨k_Mq_5, List.forall_mem_cons.mpr ⟨k_Mq_31, List.forall_mem_cons.mpr ⟨k_Mq_30, List.forall_mem_cons.mpr ⟨k_Mq_25, List.forall_mem_cons.mpr ⟨k_Mq_27, List.forall_mem_cons.mpr ⟨k_Mq_26, List.forall_mem_cons.mpr ⟨k_Mq_18, List.forall_mem_cons.mpr ⟨k_Mq_21, List.forall_mem_cons.mpr ⟨k_Mq_19, List.forall_mem_cons.mpr ⟨k_Mq_20, List.forall_mem_cons.mpr ⟨k_Mq_22, List.forall_mem_cons.mpr ⟨k_Mq_6, List.forall_mem_cons.mpr ⟨k_Mq_24, List.forall_mem_cons.mpr ⟨k_Mq_23, List.forall_mem_cons.mpr ⟨k_Mq_78, List.forall_mem_cons.mpr ⟨k_Mq_80, List.forall_mem_cons.mpr ⟨k_Mq_79, List.forall_mem_cons.mpr ⟨k_Mq_81, List.forall_mem_cons.mpr ⟨u_Mq_J _ k_J_5, List.forall_mem_cons.mpr ⟨u_Mq_J _ k_J_0, List.forall_mem_cons.mpr ⟨u_Mq_J _ k_J_6, List.forall_mem_cons.mpr ⟨k_Mq_82, List.forall_mem_cons.mpr ⟨u_Mq_J _ k_J_7, List.forall_mem_cons.mpr ⟨u_Mq_J _ k_J_8, List.forall_mem_cons.mpr ⟨k_Mq_83, List.forall_mem_cons.mpr ⟨k_Mq_85, List.forall_mem_cons.mpr ⟨k_Mq_84, List.forall_mem_cons.mpr ⟨k_Mq_74, List.forall_mem_cons.mpr ⟨k_Mq_9, List.forall_mem_cons.mpr ⟨k_Mq_7, List.forall_mem_cons.mpr ⟨k_Mq_8, List.forall_mem_cons.mpr ⟨k_Mq_75, List.forall_mem_cons.mpr ⟨k_Mq_77, List.forall_mem_cons.mpr ⟨k_Mq_76, List.forall_mem_cons.mpr ⟨k_Mq_70, List.forall_mem_cons.mpr ⟨k_Mq_73, List.forall_mem_cons.mpr ⟨k_Mq_71, List.forall_mem_cons.mpr ⟨k_Mq_72, fun _ z => absurd z List.not_mem_nil⟩⟩⟩⟩⟩⟩⟩⟩⟩⟩⟩⟩⟩⟩⟩⟩⟩⟩⟩⟩⟩⟩⟩⟩⟩⟩⟩⟩⟩⟩⟩⟩⟩⟩⟩⟩⟩⟩⟩⟩⟩⟩⟩⟩⟩⟩⟩⟩
theorem ks_Vq : ∀ w ∈ K_S, w ∈ V_Vq := List.forall_mem_cons.mpr ⟨k_Vq_10, List.forall_mem_cons.mpr ⟨k_Vq_62, List.forall_mem_cons.mpr ⟨k_Vq_61, List.forall_mem_cons.mpr ⟨k_Vq_6, List.forall_mem_cons.mpr ⟨k_Vq_0, List.forall_mem_cons.mpr ⟨k_Vq_9, List.forall_mem_cons.mpr ⟨k_Vq_7, List.forall_mem_cons.mpr ⟨k_Vq_8, List.forall_mem_cons.mpr ⟨k_Vq_24, List.forall_mem_cons.mpr ⟨k_Vq_25, List.forall_mem_cons.mpr ⟨k_Vq_1, List.forall_mem_cons.mpr ⟨k_Vq_27, List.forall_mem_cons.mpr ⟨k_Vq_26, List.forall_mem_cons.mpr ⟨k_Vq_21, List.forall_mem_cons.mpr ⟨k_Vq_23, List.forall_mem_cons.mpr ⟨k_Vq_22, List.forall_mem_cons.mpr ⟨k_Vq_14, List.forall_mem_cons.mpr ⟨k_Vq_17, List.forall_mem_cons.mpr ⟨k_Vq_15, List.forall_mem_cons.mpr ⟨k_Vq_16, List.forall_mem_cons.mpr ⟨k_Vq_18, List.forall_mem_cons.mpr ⟨k_Vq_2, List.forall_mem_cons.mpr ⟨k_Vq_20, List.forall_mem_cons.mpr ⟨k_Vq_19, List.forall_mem_cons.mpr ⟨k_Vq_74, List.forall_mem_cons.mpr ⟨k_Vq_76, List.forall_mem_cons.mpr ⟨k_Vq_75, List.forall_mem_cons.mpr ⟨k_Vq_77, List.forall_mem_cons.mpr ⟨u_Vq_J _ k_J_5, List.forall_mem_cons.mpr ⟨u_Vq_J _ k_J_0, List.forall_mem_cons.mpr ⟨u_Vq_J _ k_J_6, List.forall_mem_cons.mpr ⟨k_Vq_78, List.forall_mem_cons.mpr ⟨u_Vq_J _ k_J_7, List.forall_mem_cons.mpr ⟨u_Vq_J _ k_J_8, List.forall_mem_cons.mpr ⟨k_Vq_79, List.forall_mem_cons.mpr ⟨k_Vq_81, List.forall_mem_cons.mpr ⟨k_Vq_80, List.forall_mem_cons.mpr ⟨k_Vq_70, List.forall_mem_cons.mpr ⟨k_Vq_5, List.forall_mem_cons.mpr ⟨k_Vq_3, List.forall_mem_cons.mpr ⟨k_Vq_4, List.forall_mem_cons.mpr ⟨k_Vq_71, List.forall_mem_cons.mpr ⟨k_Vq_73, List.forall_mem_cons.mpr ⟨k_Vq_72, List.forall_mem_cons.mpr ⟨k_Vq_66, List.forall_mem_cons.mpr ⟨k_Vq_69, List.forall_mem_cons.mpr ⟨k_Vq_67, List.forall_mem_cons.mpr ⟨k_Vq_68, fun _ z => absurd z List.not_mem_nil⟩⟩⟩⟩⟩⟩⟩⟩⟩⟩⟩⟩⟩⟩⟩⟩⟩⟩⟩⟩⟩⟩⟩⟩⟩⟩⟩⟩⟩⟩⟩⟩⟩⟩⟩⟩⟩⟩⟩⟩⟩⟩⟩⟩⟩⟩⟩⟩
theorem le_X {s0 : State} (h1 : va_Z "java/lang/String" "COMPACT_STRINGS" "Z" (.int 1) (le_A s0) s0 s0.heap) (h2 : va_Zq "jdk/internal/util/Preconditions" "SIOOBE_FORMATTER" "Ljava/util/function/BiFunction;" (le_A s0) s0 s0.heap) : ls_X (le_E s0) := ⟨le_same, le_mono, le_kept, fun A U hE => le_Z hE h1, fun A U hE => le_Zq hE h2⟩
theorem j_txt {L : List Int32} (h : (L.all fun a => decide (0 ≤ a ∧ a < 128)) = true) : ∀ j : Nat, j < L.length → ∃ b : Nat, b < 128 ∧ L.getD j 0 = nI b := by
  intro j hj
  have h1 := List.all_eq_true.mp h (L.getD j 0) (by rw [List.getD_eq_getElem?_getD, List.getElem?_eq_getElem hj]; exact List.getElem_mem hj)
  simp only [decide_eq_true_eq] at h1
  obtain ⟨d, hd, e⟩ := nI_of (Int32.not_lt.mpr h1.1)
  refine ⟨d, ?_, e⟩
  rcases Nat.lt_or_ge d 128 with z | z
  · exact z
  · exact absurd (nI_le (a := 128) (b := d) z hd) (by rw [← e]; exact Int32.not_le.mpr h1.2)
theorem lx_X_of {s0 : State} (l : Launch) (dC : Nat → ClassId) (dI : Nat → Nat → Nat) (K : Nat) (M : MA) (XS : ls_X (le_E s0)) {v_230 : Nat} (h_230 : le_S s0 R_Mo 230 "!#$%&'()-@^_`{}~" M.s_230 v_230 [33, 35, 36, 37, 38, 39, 40, 41, 45, 64, 94, 95, 96, 123, 125, 126]) {v_259 : Nat} (h_259 : le_S s0 R_Mo 259 "\"*/:<>?\\|" M.s_259 v_259 [34, 42, 47, 58, 60, 62, 63, 92, 124]) {v_358 : Nat} (h_358 : le_S s0 R_Mo 358 ".turned" M.s_358 v_358 [46, 116, 117, 114, 110, 101, 100]) {v_529 : Nat} (h_529 : le_S s0 R_Mo 529 "TURN" M.s_529 v_529 [84, 85, 82, 78]) : lx_X l dC dI K M (le_E s0) := by
  have hL_230 : ∀ j : Nat, j < ([33, 35, 36, 37, 38, 39, 40, 41, 45, 64, 94, 95, 96, 123, 125, 126] : List Int32).length → ∃ b : Nat, b < 128 ∧ ([33, 35, 36, 37, 38, 39, 40, 41, 45, 64, 94, 95, 96, 123, 125, 126] : List Int32).getD j 0 = nI b := j_txt (by decide +kernel)
  have hL_259 : ∀ j : Nat, j < ([34, 42, 47, 58, 60, 62, 63, 92, 124] : List Int32).length → ∃ b : Nat, b < 128 ∧ ([34, 42, 47, 58, 60, 62, 63, 92, 124] : List Int32).getD j 0 = nI b := j_txt (by decide +kernel)
  have hL_358 : ∀ j : Nat, j < ([46, 116, 117, 114, 110, 101, 100] : List Int32).length → ∃ b : Nat, b < 128 ∧ ([46, 116, 117, 114, 110, 101, 100] : List Int32).getD j 0 = nI b := j_txt (by decide +kernel)
  have hL_529 : ∀ j : Nat, j < ([84, 85, 82, 78] : List Int32).length → ∃ b : Nat, b < 128 ∧ ([84, 85, 82, 78] : List Int32).getD j 0 = nI b := j_txt (by decide +kernel)
  exact ⟨le_same, le_mono, le_kept, fun A U hE => vk_R.warm hE.1 h_230.1, fun A U hE => (le_sS h_230 hL_230).2.2.2.1 A U hE, fun sz c => j_ixe (c := c) hL_230 ▸ j_St_indexOf l dC dI XS good_Mq ks_Mq (le_sS h_230 hL_230) (by decide) (by decide) sz, fun A U hE => vk_R.warm hE.1 h_259.1, fun A U hE => (le_sS h_259 hL_259).2.2.2.1 A U hE, fun sz c => j_ixe (c := c) hL_259 ▸ j_St_indexOf l dC dI XS good_Mq ks_Mq (le_sS h_259 hL_259) (by decide) (by decide) sz, fun A U hE => vk_R.warm hE.1 h_358.1, fun A U hE => (le_sS h_358 hL_358).2.2.2.1 A U hE, fun sz c r hc => (j_at hL_358 hc).2 ▸ j_St_charAt l dC dI XS good_Mq ks_Mq (le_sS h_358 hL_358) (j_at hL_358 hc).1 (by decide) sz, fun A U hE => vk_R.warm hE.1 h_529.1, fun A U hE => (le_sS h_529 hL_529).2.2.2.1 A U hE, fun sz c r hc => (j_at hL_529 hc).2 ▸ j_St_charAt l dC dI XS good_Mq ks_Mq (le_sS h_529 hL_529) (j_at hL_529 hc).1 (by decide) sz⟩
theorem ly_X_of {s0 : State} (l : Launch) (dC : Nat → ClassId) (dI : Nat → Nat → Nat) (K : Nat) (M : CA) (XS : ls_X (le_E s0)) {v_Pl_207 : Nat} (h_Pl_207 : le_S s0 R_Pl 207 ".turned" M.s_Pl_207 v_Pl_207 [46, 116, 117, 114, 110, 101, 100]) {v_Tr_98 : Nat} (h_Tr_98 : le_S s0 R_Tr 98 ".turned" M.s_Tr_98 v_Tr_98 [46, 116, 117, 114, 110, 101, 100]) {v_Tu_203 : Nat} (h_Tu_203 : le_S s0 R_Tu 203 ".turned" M.s_Tu_203 v_Tu_203 [46, 116, 117, 114, 110, 101, 100]) (t_135 : x_T R_Vt 137 "java/lang/IllegalArgumentException" 135 "no such volume or label" s0) (t_201 : x_T R_Vt 137 "java/lang/IllegalArgumentException" 201 "nothing to tell" s0) (t_223 : x_T R_Vt 137 "java/lang/IllegalArgumentException" 223 "a file" s0) (t_242 : x_T R_Vt 137 "java/lang/IllegalArgumentException" 242 "no name, or one that is here" s0) (t_250 : x_T R_Vt 252 "java/lang/UnsupportedOperationException" 250 "no room" s0) (t_271 : x_T R_Vt 137 "java/lang/IllegalArgumentException" 271 "no such number of bytes" s0) (t_273 : x_T R_Vt 137 "java/lang/IllegalArgumentException" 273 "no such size" s0) (t_278 : x_T R_Vt 137 "java/lang/IllegalArgumentException" 278 "a directory with items" s0) (t_292 : x_T R_Vt 137 "java/lang/IllegalArgumentException" 292 "no such day or time" s0) (t_312 : x_T R_Vt 314 "java/lang/IllegalStateException" 312 "no volume" s0) (t_315 : x_T R_Vt 137 "java/lang/IllegalArgumentException" 315 "neither finish nor back" s0) (t_333 : x_T R_Vt 314 "java/lang/IllegalStateException" 333 "no tree" s0) (t_335 : x_T R_Vt 314 "java/lang/IllegalStateException" 335 "no sound table volume" s0) (t_339 : x_T R_Vt 341 "java/lang/IndexOutOfBoundsException" 339 "no such item" s0) (t_348 : x_T R_Vt 137 "java/lang/IllegalArgumentException" 348 "a directory" s0) (b1 : va_Z "VolumeTurner$Days" "BEFORE_MONTH" "[I" (.ref M.tb) (le_A s0) s0 s0.heap) (b2 : va_T .int M.tb 13 (fun k => .int (bmF k)) (le_A s0) s0 s0.heap) : ly_X l dC dI K M (le_E s0) := by
  have hL_Pl_207 : ∀ j : Nat, j < ([46, 116, 117, 114, 110, 101, 100] : List Int32).length → ∃ b : Nat, b < 128 ∧ ([46, 116, 117, 114, 110, 101, 100] : List Int32).getD j 0 = nI b := j_txt (by decide +kernel)
  have hL_Tr_98 : ∀ j : Nat, j < ([46, 116, 117, 114, 110, 101, 100] : List Int32).length → ∃ b : Nat, b < 128 ∧ ([46, 116, 117, 114, 110, 101, 100] : List Int32).getD j 0 = nI b := j_txt (by decide +kernel)
  have hL_Tu_203 : ∀ j : Nat, j < ([46, 116, 117, 114, 110, 101, 100] : List Int32).length → ∃ b : Nat, b < 128 ∧ ([46, 116, 117, 114, 110, 101, 100] : List Int32).getD j 0 = nI b := j_txt (by decide +kernel)
  exact ⟨le_same, le_mono, le_kept, fun A U hE => x_T.at x_allA t_135 hE.1 (le_kp hE), fun A U hE => x_T.at x_allA t_201 hE.1 (le_kp hE), fun A U hE => x_T.at x_allA t_223 hE.1 (le_kp hE), fun A U hE => x_T.at x_allA t_242 hE.1 (le_kp hE), fun A U hE => x_T.at x_allU t_250 hE.1 (le_kp hE), fun A U hE => x_T.at x_allA t_271 hE.1 (le_kp hE), fun A U hE => x_T.at x_allA t_273 hE.1 (le_kp hE), fun A U hE => x_T.at x_allA t_278 hE.1 (le_kp hE), fun A U hE => x_T.at x_allA t_292 hE.1 (le_kp hE), fun A U hE => x_T.at x_allS t_312 hE.1 (le_kp hE), fun A U hE => x_T.at x_allA t_315 hE.1 (le_kp hE), fun A U hE => x_T.at x_allS t_333 hE.1 (le_kp hE), fun A U hE => x_T.at x_allS t_335 hE.1 (le_kp hE), fun A U hE => x_T.at x_allI t_339 hE.1 (le_kp hE), fun A U hE => x_T.at x_allA t_348 hE.1 (le_kp hE), fun A U hE => le_Z hE b1, fun A U hE => le_T hE b2, fun A U hE => vk_R.warm hE.1 h_Pl_207.1, fun A U hE => (le_sS h_Pl_207 hL_Pl_207).2.2.2.1 A U hE, fun sz => (by decide +kernel : nI 7 = 7) ▸ j_St_length l dC dI XS good_Vq ks_Vq (le_sS h_Pl_207 hL_Pl_207) sz, fun A U hE => vk_R.warm hE.1 h_Tr_98.1, fun A U hE => (le_sS h_Tr_98 hL_Tr_98).2.2.2.1 A U hE, fun sz c r hc => (j_at hL_Tr_98 hc).2 ▸ j_St_charAt l dC dI XS good_Vq ks_Vq (le_sS h_Tr_98 hL_Tr_98) (j_at hL_Tr_98 hc).1 (by decide) sz, fun sz => (by decide +kernel : nI 7 = 7) ▸ j_St_length l dC dI XS good_Vq ks_Vq (le_sS h_Tr_98 hL_Tr_98) sz, fun A U hE => vk_R.warm hE.1 h_Tu_203.1, fun A U hE => (le_sS h_Tu_203 hL_Tu_203).2.2.2.1 A U hE, fun sz c r hc => (j_at hL_Tu_203 hc).2 ▸ j_St_charAt l dC dI XS good_Vq ks_Vq (le_sS h_Tu_203 hL_Tu_203) (j_at hL_Tu_203 hc).1 (by decide) sz, fun sz => (by decide +kernel : nI 7 = 7) ▸ j_St_length l dC dI XS good_Vq ks_Vq (le_sS h_Tu_203 hL_Tu_203) sz⟩
