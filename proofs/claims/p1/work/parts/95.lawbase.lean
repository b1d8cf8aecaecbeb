def R_law : String := "VolumeTurnerLaw"
def lw_P (b : Addr) (xs : List Int32) (args : Array Value) (s : State) : Prop := args = #[.ref b] ∧ s.IntsAt b xs ∧ xs.length ≤ 7 ∧ (Jvm.Cond.and given_1 narrow_1).before args s = true
def lw_Q (_ : Array Value) (s : State) (o : Outcome) (t : State) : Prop := o = .returned (some (.int 1)) ∧ Framed s o t [] 600002 7302198
def lw_Z (below : List Frame) (a : Array Value) (s : State) : State → Prop := fun t => ∃ o, t.status = .running ∧ Ended t below o ∧ lw_Q a s o t
/-- the law's own end, with 1 on the stack, nothing written that was there before, its room as the claim has it -/
theorem lw_ret {p : Program} {l : Launch} {e : Env} {s : State} {m : MethodId} {below : List Frame} {meth : Method} {c : Code} {b : Nat} (hx : p.tables.exec = Jvm.exec) (hb : c.code = code) (hr : meth.sig.returnType = ret) (hlocks : meth.locks = false) {pc : Nat} {H : Heap} {ls : Array Slot} (hdg : decode code pc = .ok (.ireturn, 1)) : W p l e room_1 s m #[Value.ref b] below meth c H [] 600002 7302198 (lw_Z below #[Value.ref b] s) (F0 m pc ls [.int 1]) := by
  intro T hT X
  obtain ⟨fs, hret, hrun, hended, hW, hframe⟩ := X.leave (v := some (.int 1)) (hlocks := hlocks) (fun h => by rw [hr] at h; cases h)
  have hmeth' : T.vm.method? m = some meth := X.method'
  refine ⟨T.setFrames fs, ?_, .returned (some (.int 1)), hrun, hended, rfl, ⟨_, rfl⟩, hW, hframe⟩
  jvm_step X.here [X.here.top, hx, hb, hdg, hmeth', hr, ret, narrow_b1]
  (try refine ⟨rfl, ?_⟩); (try refine ⟨rfl, ?_⟩)
  first | (intro acts; rw [hret _ acts rfl rfl rfl]) | rw [hret _ _ rfl rfl rfl]
  exact Steps.refl _
/-- what holds at the law's entry: the machine, the code, the tables' words (any of lw_tbl by 'hts w (by decide +kernel)'), the script of L ints xs at the cell b, what the Statement gives of the start (any of its parts by flat_of_before) -/
def lw_At (p : Program) (s : State) (m : MethodId) (meth : Method) (c : Code) (b L : Nat) (xs : Nat → Int32) : Prop :=
  p.tables.exec = Jvm.exec ∧ c.code = code ∧ meth.sig.returnType = ret ∧ c.maxLocals = 8 ∧ s.vm.findClass R_law = some m.cls ∧ (∀ w ∈ lw_tbl, w.before #[Value.ref b] s = true) ∧ va_X b L xs s s.heap ∧ b < s.heap.size ∧ meth.locks = false ∧ (Jvm.Cond.and given_1 narrow_1).before #[Value.ref b] s = true

theorem la_511 {p : Int32} (h3 : ¬ p < 0) (h4 : ¬ 512 ≤ p) : p ≤ 511 := by
  obtain ⟨j, hj, rfl⟩ := nI_of h3
  have : j < 512 := Nat.lt_of_not_le (fun q => h4 (nI_le (a := 512) q hj))
  exact nI_le (b := 511) (by omega) (by decide)
theorem la_gt1 {p : Int32} (h1 : ¬ p = 0) (h2 : ¬ p = 1) (h3 : ¬ p < 0) : 1 < p := by
  obtain ⟨j, hj, rfl⟩ := nI_of h3
  have a1 : j ≠ 0 := fun h => h1 (by rw [h]; rfl)
  have a2 : j ≠ 1 := fun h => h2 (by rw [h]; rfl)
  exact nI_lt (a := 1) (by omega) hj
theorem la_K0 {s : State} {H : Heap} {locs : List Loc} (hS : va_S (fun q => s.heap.size ≤ q) s.heap H locs) : x_kept s.heap H := by
  intro q cell hc hs
  have hq : q < s.heap.size := (Array.getElem?_eq_some_iff.mp hc).1
  rw [hS.2.1 q hq (Nat.not_le.mpr hq)]
  exact hc
theorem dk_four0 (n : Nat) (a : Int32) : dk_four n (fun _ => 0) a = 0 := by
  unfold dk_four
  by_cases h : a < 0
  · rw [if_pos h]
  · rw [if_neg h]
    by_cases h2 : a ≤ nI n - 4
    · rw [if_pos h2]
      show ((((0 : Int32) &&& 255) ||| (((0 : Int32) &&& 255) <<< ((8 : Int32) &&& 31))) ||| (((0 : Int32) &&& 255) <<< ((16 : Int32) &&& 31))) ||| (((0 : Int32) &&& 255) <<< ((24 : Int32) &&& 31)) = 0
      decide
    · rw [if_neg h2]
theorem dk_two0 (n : Nat) (a : Int32) : dk_two n (fun _ => 0) a = 0 := by
  unfold dk_two
  by_cases h : a < 0
  · rw [if_pos h]
  · rw [if_neg h]
    by_cases h2 : a ≤ nI n - 2
    · rw [if_pos h2]
      show ((0 : Int32) &&& 255) ||| (((0 : Int32) &&& 255) <<< ((8 : Int32) &&& 31)) = 0
      decide
    · rw [if_neg h2]
theorem dk_one0 (n : Nat) (a : Int32) : dk_one n (fun _ => 0) a = 0 := by
  unfold dk_one
  by_cases h : a < 0
  · rw [if_pos h]
  · rw [if_neg h]
    by_cases h2 : nI n ≤ a
    · rw [if_pos h2]
    · rw [if_neg h2]
      show ((0 : Int32) &&& 255) = 0
      decide
theorem la_it (n : Nat) : in_there n (fun _ => 0) = 0 := by
  rw [in_there, show in_marked n (fun _ => 0) = 0 from by rw [in_marked, dk_four0, if_neg (by decide)], if_pos rfl]
theorem la_rd (sec : Int32) (n nl : Nat) (u : Int32 × Int32 × Int32 × Int32 × Int32 × Int32 × Int32 × (Nat → Int32)) : tb_rd sec n (fun _ => 0) nl u = (0, u) := by
  rw [tb_rd, show tb_const sec n (fun _ => 0) = 0 from by rw [tb_const, dk_two0, if_neg (by decide)], if_pos rfl]
theorem la_h11 : ¬ mo_two (fun _ => 0) 11 = 512 := by decide
theorem la_fit : sb_Fit (fun _ => 0) := fun _ => (by decide : fits .byte (.int (0 : Int32)) = true)
theorem la_end {r r' p : Int32} {u : (Nat → Int32) × (Nat → Int32) × Int32} (h : (r, u) = tp_app (fun _ => 0) (fun _ => 0) (nI 0) p) (h' : r' = mo_end 0 p) : r = r' := by
  rw [h', mo_end]
  rw [tp_app] at h
  by_cases h1 : p < 0
  · rw [if_pos h1] at h ⊢; exact (Prod.mk.inj h).1
  · rw [if_neg h1] at h ⊢
    by_cases h2 : 20 < p
    · rw [if_pos h2] at h ⊢; exact (Prod.mk.inj h).1
    · rw [if_neg h2] at h ⊢
      by_cases h3 : nI 0 + p ≤ 4096
      · rw [if_pos h3] at h ⊢; exact (Prod.mk.inj h).1
      · rw [if_neg h3] at h ⊢; exact (Prod.mk.inj h).1
theorem la_poke {sN : Nat} {p1 p2 r r' : Int32} (h : r = vt_poke (nI sN) 0 p1 p2) (h' : r' = mo_poke sN 0 p1 p2) : r = r' := by
  rw [h, h', vt_poke, mo_poke, if_pos rfl, if_pos rfl, dk_has]
  by_cases h1 : p1 < 0
  · rw [if_pos h1, if_pos h1, if_pos rfl]
  · rw [if_neg h1, if_neg h1]
    by_cases h2 : nI sN ≤ p1
    · rw [if_pos h2, if_pos h2, if_pos rfl]
    · rw [if_neg h2, if_neg h2]
      by_cases h3 : p2 < 0
      · rw [if_pos h3, if_pos h3, if_pos rfl]
        by_cases q1 : p1 = 2
        · rw [if_pos q1]
        · rw [if_neg q1]
          by_cases q2 : p1 = 7
          · rw [if_pos q2]
          · rw [if_neg q2]
      · rw [if_neg h3, if_neg h3]
        by_cases h4 : 512 ≤ p2
        · rw [if_pos h4, if_pos rfl, if_neg (fun z => absurd (Int32.le_trans h4 z) (by decide))]
          by_cases q1 : p1 = 2
          · rw [if_pos q1]
          · rw [if_neg q1]
            by_cases q2 : p1 = 7
            · rw [if_pos q2]
            · rw [if_neg q2]
        · rw [if_neg h4, if_neg (by decide), if_pos (la_511 h3 h4)]
theorem la_byte {sN n : Nat} {p1 p2 r r' : Int32} (h : r = vt_byte0 (nI sN) n (fun _ => 0) p1 p2) (h' : r' = mo_byte0 sN (fun _ => 0) p1 p2) : r = r' := by
  rw [h, h', vt_byte0, mo_byte0, dk_has, dk_one0]
  by_cases h1 : p1 < 0
  · rw [if_pos h1, if_pos h1, if_pos rfl]
  · rw [if_neg h1, if_neg h1]
    by_cases h2 : nI sN ≤ p1
    · rw [if_pos h2, if_pos h2, if_pos rfl]
    · rw [if_neg h2, if_neg h2]
      by_cases h3 : p2 < 0
      · rw [if_pos h3, if_pos h3, if_pos rfl]
      · rw [if_neg h3, if_neg h3]
        by_cases h4 : 512 ≤ p2
        · rw [if_pos h4, if_pos rfl, if_neg (fun z => absurd (Int32.le_trans h4 z) (by decide))]
        · rw [if_neg h4, if_neg (by decide), if_pos (la_511 h3 h4)]; exact (by decide : (0 : Int32) = 0 &&& 255)
theorem la_fail {p1 p2 r r' : Int32} (h : r = vt_fail 0 p1 p2) (h' : r' = mo_fail 0 p1 p2) : r = r' := by
  rw [h, h', vt_fail, mo_fail, if_pos (show nI 0 < 16 by decide), if_neg (show ¬ (0 : Int32) = 16 by decide)]
  by_cases h1 : p1 = 0
  · subst h1; rw [if_pos rfl, if_neg (show ¬ (0 : Int32) < 0 by decide), if_neg (show ¬ (1 : Int32) < 0 by decide)]
  · rw [if_neg h1]
    by_cases h2 : p1 = 1
    · subst h2; rw [if_pos rfl, if_neg (show ¬ (1 : Int32) < 0 by decide), if_neg (show ¬ (1 : Int32) < 1 by decide)]
    · rw [if_neg h2]
      by_cases h3 : p1 < 0
      · rw [if_pos h3]
      · rw [if_neg h3, if_pos (la_gt1 h1 h2 h3)]
set_option maxHeartbeats 4000000 in
set_option maxRecDepth 100000 in
theorem la_tail {p : Program} {e : Env} {s : State} {m : MethodId} {below : List Frame} {meth : Method} {c : Code} (l : Launch) {b : Nat} {xs : Nat → Int32} (C0 : lw_At p s m meth c b 7 xs) {H : Heap} {locs : List Loc} {ls : Array Slot} {cells slots : Nat} (hS : va_S (fun q => s.heap.size ≤ q) s.heap H locs) (hl : lv_has ls 8 [(4, .int 1), (0, .ref b)]) (hce : cells ≤ 600002) (hsl : slots ≤ 7302198) : W p l e room_1 s m #[Value.ref b] below meth c H locs cells slots (lw_Z below #[Value.ref b] s) (F0 m 1388 ls []) := by
  obtain ⟨hx, hb, hr, hml, hown, hts1, hX, hbl, hlocks, hgv⟩ := C0
  have hts : ∀ w ∈ V_La, w.before #[Value.ref b] s = true := fun w h => hts1 w (in_V_La w h)
  have hbA : ¬ s.heap.size ≤ b := Nat.not_le.mpr hbl
  have hA : ∀ q : Nat, s.heap.size ≤ q → s.heap.size ≤ q := fun _ h => h
  have hb : c.code = b_La_law := hb
  have hown : s.vm.findClass R_La = some m.cls := hown
  refine lv_iinc (v := 7) (lv' := [(4, .int 7), (0, .ref b)]) hx hb d_La_law_1388 hl (k := 0) rfl (by decide) (by decide) rfl (fun ls hl => ?_)
  refine lv_goto (tgt := 33) hx hb d_La_law_1391 (by decide) ?_
  refine lv_iload hx hb d_La_law_33 (lv_at hl 0 rfl) ?_
  refine lv_aload_n hx hb d_La_law_35 rfl (lv_at hl 1 rfl) ?_
  refine va_slen hx hb hX hbl hbA hS d_La_law_36 ?_
  refine lv_bipush (v := 6) hx hb d_La_law_37 (by decide) ?_
  refine lv_isub hx hb d_La_law_39 ?_
  refine lv_icmp_gt (tgt := 1394) hx hb d_La_law_40 (by decide) (fun c_1 => ?_) (fun c_1 => ?_)
  · refine lv_iconst (v := 1) hx hb d_La_law_1394 (by decide) ?_
    exact W.widen hce hsl (va_forget (fun q hq => hS.2.2 q hq) (lw_ret hx hb hr hlocks d_La_law_1395))
  · exact absurd (by decide) c_1
