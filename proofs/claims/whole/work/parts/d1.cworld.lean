structure CS where
  w_Vt_failAsks : Nat → Int32
  w_Vt_failWrites : Nat → Int32
  v_Vt_fails : Int32
  v_Vt_here : Int32
  v_Vt_stale : Int32
  v_Vt_lastFault : Int32
  v_Vt_hasRun : Int32
  v_Dk_sectors : Int32
  w_Dk_bytes : Nat → Int32
  v_Dk_power : Int32
  w_Tp_bytes : Nat → Int32
  w_Tp_ready : Nat → Int32
  v_Tp_used : Int32
  v_Tb_cluster : Int32
  v_Tb_before : Int32
  v_Tb_copies : Int32
  v_Tb_length : Int32
  v_Tb_root : Int32
  v_Tb_start : Int32
  v_Tb_clusters : Int32
  w_Tb_next : Nat → Int32
  w_Tb_goal : Nat → Int32
  v_Tr_count : Int32
  v_Tr_label : Int32
  w_Tr_parent : Nat → Int32
  w_Tr_first : Nat → Int32
  w_Tr_size : Nat → Int32
  w_Tr_bits : Nat → Int32
  w_Tr_spot : Nat → Int32
  w_Tr_slot : Nat → Int32
  w_Tr_parts : Nat → Int32
  w_Tr_kids : Nat → Int32
  w_Tr_kidCount : Nat → Int32
  w_Tr_nameAt : Nat → Int32
  w_Tr_nameLength : Nat → Int32
  w_Tr_nameBytes : Nat → Int32
  w_Tr_built : Nat → Int32
  w_Tr_builtBlocks : Nat → Int32
  w_Tr_pool : Nat → Int32
  v_Tr_pooled : Int32
  w_Rd_taken : Nat → Int32
  w_Rd_road : Nat → Int32
  w_Rd_fileRoad : Nat → Int32
  w_Rd_units : Nat → Int32
  v_Rd_parts : Int32
  v_Rd_toCome : Int32
  v_Rd_sum : Int32
  w_Ed_road : Nat → Int32
  v_Ed_roadLength : Int32
  w_Ed_units : Nat → Int32
  v_Ed_unitCount : Int32
  w_Ed_shortName : Nat → Int32
  v_Ed_plain : Int32
  v_Ed_firstSlot : Int32
  v_Ed_slots : Int32
  v_Ed_unseen : Int32
  v_Ed_wanted : Int32
  v_Pl_blocks : Int32
  w_Pl_fixed : Nat → Int32
  w_Pl_used : Nat → Int32
  w_Pl_aimedAt : Nat → Int32
  w_Pl_rooms : Nat → Int32
  v_Pl_roomCount : Int32
  w_Pl_list : Nat → Int32
  v_Pl_listed : Int32
  v_Pl_size : Int32
  v_Pl_groups : Int32
  v_Pl_inodes : Int32
  v_Pl_moves : Int32
  v_Pl_built : Int32
  v_Pl_free : Int32
  w_Tu_block : Nat → Int32
  v_In_seen : Int32
/-- the sectors, the tree's rows: their lengths, where they stand; what was made of cells and slots -/
structure CG where
  n : Nat
  tl : Nat
  pl : Nat
  gc : Nat
  gs : Nat
  a_parent : Nat
  a_first : Nat
  a_size : Nat
  a_bits : Nat
  a_spot : Nat
  a_slot : Nat
  a_parts : Nat
  a_kids : Nat
  a_kidCount : Nat
  a_nameAt : Nat
  a_nameLength : Nat
  a_nameBytes : Nat
  a_built : Nat
  a_builtBlocks : Nat
  a_pool : Nat
structure CA where
  kB : ClassId
  kZ : ClassId
  kI : ClassId
  o_Vt : Nat
  o_Dk : Nat
  o_Tp : Nat
  o_Tb : Nat
  o_Tr : Nat
  o_Rd : Nat
  o_Ed : Nat
  o_Pl : Nat
  o_Tu : Nat
  o_In : Nat
  a_Vt_failAsks : Nat
  a_Vt_failWrites : Nat
  a_Dk_bytes : Nat
  a_Tp_bytes : Nat
  a_Tp_ready : Nat
  a_Tb_next : Nat
  a_Tb_goal : Nat
  a_Rd_taken : Nat
  a_Rd_road : Nat
  a_Rd_fileRoad : Nat
  a_Rd_units : Nat
  a_Ed_road : Nat
  a_Ed_units : Nat
  a_Ed_shortName : Nat
  a_Pl_fixed : Nat
  a_Pl_used : Nat
  a_Pl_aimedAt : Nat
  a_Pl_rooms : Nat
  a_Pl_list : Nat
  a_Tu_block : Nat
def wV (M : CA) (G : CG) (S : CS) : va_W := [(M.o_Vt, .inr (11, [.ref M.o_Dk, .ref M.o_Tp, .ref M.o_Tb, .ref M.o_Tr, .ref M.o_Rd, .ref M.o_Ed, .ref M.o_Pl, .ref M.o_Tu, .ref M.o_In, .ref M.a_Vt_failAsks, .ref M.a_Vt_failWrites, .int S.v_Vt_fails, .int S.v_Vt_here, .int S.v_Vt_stale, .int S.v_Vt_lastFault, .int S.v_Vt_hasRun])), (M.o_Dk, .inr (0, [.int S.v_Dk_sectors, .ref M.a_Dk_bytes, .int S.v_Dk_power])), (M.o_Tp, .inr (3, [.ref M.a_Tp_bytes, .ref M.a_Tp_ready, .int S.v_Tp_used])), (M.o_Tb, .inr (4, [.ref M.o_Dk, .int S.v_Tb_cluster, .int S.v_Tb_before, .int S.v_Tb_copies, .int S.v_Tb_length, .int S.v_Tb_root, .int S.v_Tb_start, .int S.v_Tb_clusters, .ref M.a_Tb_next, .ref M.a_Tb_goal])), (M.o_Tr, .inr (5, [.int S.v_Tr_count, .int S.v_Tr_label, .ref G.a_parent, .ref G.a_first, .ref G.a_size, .ref G.a_bits, .ref G.a_spot, .ref G.a_slot, .ref G.a_parts, .ref G.a_kids, .ref G.a_kidCount, .ref G.a_nameAt, .ref G.a_nameLength, .ref G.a_nameBytes, .ref G.a_built, .ref G.a_builtBlocks, .ref G.a_pool, .int S.v_Tr_pooled])), (M.o_Rd, .inr (7, [.ref M.o_Dk, .ref M.o_Tb, .ref M.o_Tr, .ref M.a_Rd_taken, .ref M.a_Rd_road, .ref M.a_Rd_fileRoad, .ref M.a_Rd_units, .int S.v_Rd_parts, .int S.v_Rd_toCome, .int S.v_Rd_sum])), (M.o_Ed, .inr (8, [.ref M.o_Dk, .ref M.o_Tb, .ref M.o_Tr, .ref M.a_Ed_road, .int S.v_Ed_roadLength, .ref M.a_Ed_units, .int S.v_Ed_unitCount, .ref M.a_Ed_shortName, .int S.v_Ed_plain, .int S.v_Ed_firstSlot, .int S.v_Ed_slots, .int S.v_Ed_unseen, .int S.v_Ed_wanted])), (M.o_Pl, .inr (9, [.ref M.o_Dk, .ref M.o_Tb, .ref M.o_Tr, .int S.v_Pl_blocks, .ref M.a_Pl_fixed, .ref M.a_Pl_used, .ref M.a_Pl_aimedAt, .ref M.a_Pl_rooms, .int S.v_Pl_roomCount, .ref M.a_Pl_list, .int S.v_Pl_listed, .int S.v_Pl_size, .int S.v_Pl_groups, .int S.v_Pl_inodes, .int S.v_Pl_moves, .int S.v_Pl_built, .int S.v_Pl_free])), (M.o_Tu, .inr (10, [.ref M.o_Dk, .ref M.o_Tb, .ref M.o_Tr, .ref M.o_Rd, .ref M.o_Pl, .ref M.o_In, .ref M.a_Tu_block])), (M.o_In, .inr (6, [.ref M.o_Dk, .int S.v_In_seen])), (M.a_Vt_failAsks, .inl (M.kI, 16, .inl S.w_Vt_failAsks)), (M.a_Vt_failWrites, .inl (M.kI, 16, .inl S.w_Vt_failWrites)), (M.a_Dk_bytes, .inl (M.kB, (512 * G.n), .inl S.w_Dk_bytes)), (M.a_Tp_bytes, .inl (M.kB, 4096, .inl S.w_Tp_bytes)), (M.a_Tp_ready, .inl (M.kB, 20, .inl S.w_Tp_ready)), (M.a_Tb_next, .inl (M.kI, (G.n / 2 + 2), .inl S.w_Tb_next)), (M.a_Tb_goal, .inl (M.kI, (G.n / 2 + 2), .inl S.w_Tb_goal)), (G.a_parent, .inl (M.kI, G.tl, .inl S.w_Tr_parent)), (G.a_first, .inl (M.kI, G.tl, .inl S.w_Tr_first)), (G.a_size, .inl (M.kI, G.tl, .inl S.w_Tr_size)), (G.a_bits, .inl (M.kI, G.tl, .inl S.w_Tr_bits)), (G.a_spot, .inl (M.kI, G.tl, .inl S.w_Tr_spot)), (G.a_slot, .inl (M.kI, G.tl, .inl S.w_Tr_slot)), (G.a_parts, .inl (M.kI, G.tl, .inl S.w_Tr_parts)), (G.a_kids, .inl (M.kI, G.tl, .inl S.w_Tr_kids)), (G.a_kidCount, .inl (M.kI, G.tl, .inl S.w_Tr_kidCount)), (G.a_nameAt, .inl (M.kI, G.tl, .inl S.w_Tr_nameAt)), (G.a_nameLength, .inl (M.kI, G.tl, .inl S.w_Tr_nameLength)), (G.a_nameBytes, .inl (M.kI, G.tl, .inl S.w_Tr_nameBytes)), (G.a_built, .inl (M.kI, G.tl, .inl S.w_Tr_built)), (G.a_builtBlocks, .inl (M.kI, G.tl, .inl S.w_Tr_builtBlocks)), (G.a_pool, .inl (M.kI, G.pl, .inl S.w_Tr_pool)), (M.a_Rd_taken, .inl (M.kZ, (G.n / 2 + 2), .inl S.w_Rd_taken)), (M.a_Rd_road, .inl (M.kI, (G.n / 2 + 2), .inl S.w_Rd_road)), (M.a_Rd_fileRoad, .inl (M.kI, (G.n / 2 + 2), .inl S.w_Rd_fileRoad)), (M.a_Rd_units, .inl (M.kI, 260, .inl S.w_Rd_units)), (M.a_Ed_road, .inl (M.kI, (G.n / 2 + 2), .inl S.w_Ed_road)), (M.a_Ed_units, .inl (M.kI, 255, .inl S.w_Ed_units)), (M.a_Ed_shortName, .inl (M.kI, 11, .inl S.w_Ed_shortName)), (M.a_Pl_fixed, .inl (M.kZ, (G.n / 2), .inl S.w_Pl_fixed)), (M.a_Pl_used, .inl (M.kZ, (G.n / 2), .inl S.w_Pl_used)), (M.a_Pl_aimedAt, .inl (M.kZ, (G.n / 2 + 2), .inl S.w_Pl_aimedAt)), (M.a_Pl_rooms, .inl (M.kI, (G.n / 2), .inl S.w_Pl_rooms)), (M.a_Pl_list, .inl (M.kI, (G.n / 2 + 4), .inl S.w_Pl_list)), (M.a_Tu_block, .inl (M.kB, 1024, .inl S.w_Tu_block))]
def tV (M : CA) : List (ClassId × FieldType) := [(M.kB, .byte), (M.kZ, .boolean), (M.kI, .int)]
def bmF (k : Nat) : Int32 := ([0, 31, 59, 90, 120, 151, 181, 212, 243, 273, 304, 334, 365] : List Int32).getD k 0
theorem ly_newP {D : va_G} {M : CA} {G : CG} {x y : CS} {H : Heap} (e : x = y) (hP : va_P D classes (wV M G y) H) : va_P D classes (wV M G x) H := e ▸ hP
theorem ly_newD {A : Nat → Prop} {M : CA} {G : CG} {x y : CS} (e : x = y) (hD : va_D A (wV M G y)) : va_D A (wV M G x) := e ▸ hD
/-- a callee that has one cell of the world -/
theorem lx_one {D : va_G} {A : Nat → Prop} {ws : va_W} {q a : Nat} {e e1 : va_E} {H H1 : Heap} (hP : va_P D classes ws H) (hD : va_D A ws) (he : ws[q]? = some (a, e)) (hk : ∀ x : Nat, x < H.size → ¬ va_A [(a, e)] H.size x → H1[x]? = H[x]?) (hP1 : va_P D classes [(a, e1)] H1) : va_P D classes (ws.set q (a, e1)) H1 ∧ va_D A (ws.set q (a, e1)) := by
  have hl := (List.getElem?_eq_some_iff.mp he).1
  refine ⟨?_, hD.set he⟩
  intro k p hp
  by_cases hkq : k = q
  · subst hkq
    rw [List.getElem?_set_self hl] at hp
    cases hp
    exact hP1 0 _ rfl
  · rw [List.getElem?_set_ne (Ne.symm hkq)] at hp
    have hlt := (hP k p hp).lt
    refine (hP k p hp).kept (hk p.1 hlt (fun z => ?_))
    rcases z with ⟨j, e2, z⟩ | z
    · cases j with
      | zero =>
        have e3 : (a, e) = (p.1, e2) := Option.some.inj z
        exact hkq (hD.1 k q p (a, e) hp he (congrArg Prod.fst e3).symm)
      | succ j => simp at z
    · exact absurd hlt (Nat.not_lt.mpr z)
theorem l_Ar_fillBR (l : Launch) (dC : Nat → ClassId) (dI : Nat → Nat → Nat) (h1 sz : Nat) (cB : ClassId) (n : Nat) (f : Nat → Int32) (hn : n < 2 ^ 31) {p1 p2 : Int32} (g1 : ¬ p1 < 0) (g2 : ¬ p2 < 0) (g3 : p1.toNatClampNeg ≤ p2.toNatClampNeg) (g4 : p2.toNatClampNeg ≤ n) (p3 : Int32) : Met l y_Ar_fillBR (.code y_Ar_fillBR b_Ar_fillBR 5 none :: V_J) ({ frames := 1, cells := 0, slots := 0, locals := 22 }) (va_Pc [.ref h1, .int p1, .int p2, .int p3] (fun U => U.heap.size = sz ∧ at_ (dC, dI) (fun _ => True) [(h1, .inl (cB, n, .inl f))] [(cB, .byte)] U)) (va_Qv (fun u : Nat → Int32 => u = ar_fill f p1.toNatClampNeg p2.toNatClampNeg (vp_nar .byte p3)) (fun (u : Nat → Int32) t => at_ (dC, dI) (va_A [(h1, .inl (cB, n, .inl f))] sz) [(h1, .inl (cB, n, .inl u))] [(cB, .byte)] t) (va_A [(h1, .inl (cB, n, .inl f))] sz)) 0 0 (va_A [(h1, .inl (cB, n, .inl f))] sz) := by
  obtain ⟨j, hj, rfl⟩ := nI_of g1
  obtain ⟨k, hk, rfl⟩ := nI_of g2
  rw [nI_clamp hj, nI_clamp hk] at g3
  rw [nI_clamp hk] at g4
  rw [nI_clamp hj, nI_clamp hk]
  exact c_Ar_fillBR l dC dI h1 sz cB n f hn j k g3 g4 p3
